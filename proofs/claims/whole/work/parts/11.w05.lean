noncomputable def k_clears (Rmd : Nat → Int32) : Int32 × (Nat → Int32) := (0, upd (upd (upd (upd (Rmd) 16 (nI 0)) 17 (nI 0)) 18 (nI 0)) 19 (nI 0))
set_option maxHeartbeats 4000000 in
set_option maxRecDepth 3000 in
theorem c_k_clears_54 (z : Zp) (d : Nat) (M : Mem) : GM z mX12_clears (d) [.ref 54] M (fun rs => rs = .inl (none, mrow M 54 ((k_clears (M.1 54)).2))) := by
  refine GM.of oX12_clears.1 (Nat.le_of_ble_eq_true rfl) ?_
  show G z mX12_clears (d) 0 0 0 [some (.ref 54)] [] M _
  obtain ⟨Q, hQ⟩ : ∃ Q : Rs → Prop, Q = (fun rs => rs = .inl (none, mrow M 54 ((k_clears (M.1 54)).2))) := ⟨_, rfl⟩
  rw [← hQ]
  refine G.sl [(.aload_n 0, 1, 0, 0, 0, 0), (.iconst 0, 1, 0, 0, 0, nI 0), (.putfield 144, 3, 11, 16, 139, 0), (.aload_n 0, 1, 0, 0, 0, 0), (.iconst 0, 1, 0, 0, 0, nI 0), (.putfield 147, 3, 11, 17, 140, 0), (.aload_n 0, 1, 0, 0, 0, 0), (.iconst 0, 1, 0, 0, 0, nI 0), (.putfield 150, 3, 11, 18, 141, 0), (.aload_n 0, 1, 0, 0, 0, 0), (.iconst 0, 1, 0, 0, 0, nI 0), (.putfield 153, 3, 11, 19, 142, 0)] [] (pc2 := 20) (ls2 := [some (.ref 54)]) (st2 := []) (M2 := mput (mput (mput (mput M 54 16 (nI 0)) 54 17 (nI 0)) 54 18 (nI 0)) 54 19 (nI 0)) (Ps := []) (by decide +kernel) rfl rfl trivial ?_
  refine G.mem (M' := mrow M 54 (upd (upd (upd (upd (M.1 54) 16 (nI 0)) 17 (nI 0)) 18 (nI 0)) 19 (nI 0))) (by first | rfl | (simp only [mput, mrow_same, mrow_hit, mrow_miss, mrow_sw, idr_eq, ne_eq, Nat.reduceEqDiff, not_false_eq_true, Nat.reduceLT, reduceCtorEq]; done)) ?_
  exact G.retv (by decide +kernel) rfl (Nat.le_of_ble_eq_true rfl) (Nat.le_of_ble_eq_true rfl) ((by rw [hQ]; simp only [k_clears, mrow_self]))
noncomputable def k_copies_L36_L36_3 (Ra1 Ra2 : Nat → Int32) (n3 : Nat) : Nat → (Nat → Int32)
  | 0 => Ra2
  | i4 + 1 => upd (k_copies_L36_L36_3 Ra1 Ra2 n3 i4) i4 (Ra1 i4)
noncomputable def k_copies_L36_L36_3_ok (Ra1 Ra2 : Nat → Int32) (n3 : Nat) (i4 : Nat) : Prop := ((i4 < 36) ∧ True)
set_option maxHeartbeats 4000000 in
set_option maxRecDepth 3000 in
theorem lp_k_copies_L36_L36_54_57_60_3 (z : Zp) (d : Nat) (M : Mem) (Q : Rs → Prop) (n3 : Nat) (b3 : n3 < 3000) (hk : ∀ i4, i4 < n3 → k_copies_L36_L36_3_ok (M.1 57) (M.1 60) n3 i4) (hX : G z mX12_copies (d) 0 0 23 [none, none, none, none, none] [] (mrow M 60 (k_copies_L36_L36_3 (M.1 57) (M.1 60) n3 n3)) Q) : G z mX12_copies (d) 0 0 3 [none, some (.ref 57), some (.ref 60), some (.int (nI n3)), some (.int (nI 0))] [] M Q := by
  refine G.mem (M' := mrow M 60 (M.1 60)) (by simp only [mrow_self]) ?_
  refine down (n := n3) (P := fun i4 => G z mX12_copies (d) 0 0 3 [none, some (.ref 57), some (.ref 60), some (.int (nI n3)), some (.int (nI i4))] [] (mrow M 60 (k_copies_L36_L36_3 (M.1 57) (M.1 60) n3 i4)) Q) ?_ ?_ 0 (Nat.zero_le _)
  · skip
    refine G.sl [(.iload 4, 2, 4, 0, 0, 0), (.iload_n 3, 1, 3, 0, 0, 0)] [] (pc2 := 6) (ls2 := [none, some (.ref 57), some (.ref 60), some (.int (nI n3)), some (.int (nI n3))]) (st2 := [.int (nI n3), .int (nI n3)]) (M2 := mrow M 60 (k_copies_L36_L36_3 (M.1 57) (M.1 60) n3 n3)) (Ps := []) (by decide +kernel) rfl rfl trivial ?_
    refine G.ic_ge (off := (17)) (tgt := 23) (by decide +kernel) rfl (fun _ => ?_) (fun h9 => absurd (nI_le (by omega) (by omega)) h9)
    refine G.loc (ls2 := [none, none, none, none, none]) (by simp [subL]) ?_
    exact hX
  · skip
    intro i4 hi ih
    have hk := hk i4 hi
    simp only [k_copies_L36_L36_3_ok] at hk
    show G z mX12_copies (d) 0 0 3 [none, some (.ref 57), some (.ref 60), some (.int (nI n3)), some (.int (nI i4))] [] (mrow M 60 (k_copies_L36_L36_3 (M.1 57) (M.1 60) n3 i4)) Q
    refine G.sl [(.iload 4, 2, 4, 0, 0, 0), (.iload_n 3, 1, 3, 0, 0, 0)] [] (pc2 := 6) (ls2 := [none, some (.ref 57), some (.ref 60), some (.int (nI n3)), some (.int (nI i4))]) (st2 := [.int (nI n3), .int (nI i4)]) (M2 := mrow M 60 (k_copies_L36_L36_3 (M.1 57) (M.1 60) n3 i4)) (Ps := []) (by decide +kernel) rfl rfl trivial ?_
    refine G.ic_ge (off := (17)) (tgt := 23) (by decide +kernel) rfl (fun h9 => absurd h9 (nI_ge (by omega) (by omega))) (fun _ => ?_)
    obtain ⟨k1, hk⟩ := hk
    refine G.sl [(.aload_n 2, 1, 2, 0, 0, 0), (.iload 4, 2, 4, 0, 0, 0), (.aload_n 1, 1, 1, 0, 0, 0), (.iload 4, 2, 4, 0, 0, 0), (.iaload, 1, 0, 0, 0, 0), (.iastore, 1, 0, 0, 0, 0), (.iinc 4 1, 3, 4, 0, 0, nI 1), (.goto (-17), 3, 3, 0, 0, 0)] [i4, i4] (pc2 := 3) (ls2 := [none, some (.ref 57), some (.ref 60), some (.int (nI n3)), some (.int ((nI i4) + nI 1))]) (st2 := []) (M2 := mput (mrow M 60 (k_copies_L36_L36_3 (M.1 57) (M.1 60) n3 i4)) 60 i4 (M.1 57 i4)) (Ps := [(nI i4) = nI i4 ∧ i4 < 36, (nI i4) = nI i4 ∧ i4 < 36]) (by decide +kernel) rfl rfl ⟨⟨rfl, k1⟩, ⟨rfl, k1⟩, trivial⟩ ?_
    refine G.mem (M' := mrow M 60 (upd (k_copies_L36_L36_3 (M.1 57) (M.1 60) n3 i4) i4 (M.1 57 i4))) (by first | rfl | (simp only [mput, mrow_same, mrow_hit, mrow_miss, mrow_sw, idr_eq, ne_eq, Nat.reduceEqDiff, not_false_eq_true, Nat.reduceLT, reduceCtorEq]; done)) ?_
    rw [nI_add i4 1]
    simp only [k_copies_L36_L36_3] at ih
    exact ih
noncomputable def k_copies_L36_L36 (Ra1 Ra2 : Nat → Int32) (n3 : Nat) : Int32 × (Nat → Int32) := (0, k_copies_L36_L36_3 (Ra1) (Ra2) n3 n3)
noncomputable def k_copies_L36_L36_ok (Ra1 Ra2 : Nat → Int32) (n3 : Nat) : Prop := ((∀ i4, i4 < n3 → k_copies_L36_L36_3_ok (Ra1) (Ra2) n3 i4) ∧ True)
set_option maxHeartbeats 4000000 in
set_option maxRecDepth 3000 in
theorem c_k_copies_L36_L36_54_57_60 (z : Zp) (d : Nat) (M : Mem) (n3 : Nat) (b3 : n3 < 3000) (hk : k_copies_L36_L36_ok (M.1 57) (M.1 60) n3) : GM z mX12_copies (d) [.ref 54, .ref 57, .ref 60, .int (nI n3)] M (fun rs => rs = .inl (none, mrow M 60 ((k_copies_L36_L36 (M.1 57) (M.1 60) n3).2))) := by
  simp only [k_copies_L36_L36_ok] at hk
  refine GM.of oX12_copies.1 (Nat.le_of_ble_eq_true rfl) ?_
  show G z mX12_copies (d) 0 0 0 [some (.ref 54), some (.ref 57), some (.ref 60), some (.int (nI n3)), none] [] M _
  obtain ⟨Q, hQ⟩ : ∃ Q : Rs → Prop, Q = (fun rs => rs = .inl (none, mrow M 60 ((k_copies_L36_L36 (M.1 57) (M.1 60) n3).2))) := ⟨_, rfl⟩
  rw [← hQ]
  refine G.sl [(.iconst 0, 1, 0, 0, 0, nI 0), (.istore 4, 2, 4, 0, 0, 0)] [] (pc2 := 3) (ls2 := [some (.ref 54), some (.ref 57), some (.ref 60), some (.int (nI n3)), some (.int (nI 0))]) (st2 := []) (M2 := M) (Ps := []) (by decide +kernel) rfl rfl trivial ?_
  refine G.loc (ls2 := [none, some (.ref 57), some (.ref 60), some (.int (nI n3)), some (.int (nI 0))]) (by simp [subL]) ?_
  obtain ⟨k2, hk⟩ := hk
  refine lp_k_copies_L36_L36_54_57_60_3 z d M Q n3 (by omega) (by first | (simp only [mput, mrow_same, mrow_hit, mrow_miss, mrow_sw, idr_eq, ne_eq, Nat.reduceEqDiff, not_false_eq_true, Nat.reduceLT, reduceCtorEq]; exact k2) | exact k2) ?_
  try simp only [mput, mrow_same, mrow_hit, mrow_miss, mrow_sw, idr_eq, ne_eq, Nat.reduceEqDiff, not_false_eq_true, Nat.reduceLT, reduceCtorEq]
  show G z mX12_copies (d) 0 0 23 [none, none, none, none, none] [] (mrow M 60 (k_copies_L36_L36_3 (M.1 57) (M.1 60) n3 n3)) Q
  exact G.retv (by decide +kernel) rfl (Nat.le_of_ble_eq_true rfl) (Nat.le_of_ble_eq_true rfl) ((by rw [hQ]; simp only [k_copies_L36_L36, mrow_self]))
noncomputable def k_copies_L30_L30_3 (Ra1 Ra2 : Nat → Int32) (n3 : Nat) : Nat → (Nat → Int32)
  | 0 => Ra2
  | i4 + 1 => upd (k_copies_L30_L30_3 Ra1 Ra2 n3 i4) i4 (Ra1 i4)
noncomputable def k_copies_L30_L30_3_ok (Ra1 Ra2 : Nat → Int32) (n3 : Nat) (i4 : Nat) : Prop := ((i4 < 30) ∧ True)
set_option maxHeartbeats 4000000 in
set_option maxRecDepth 3000 in
theorem lp_k_copies_L30_L30_54_58_61_3 (z : Zp) (d : Nat) (M : Mem) (Q : Rs → Prop) (n3 : Nat) (b3 : n3 < 3000) (hk : ∀ i4, i4 < n3 → k_copies_L30_L30_3_ok (M.1 58) (M.1 61) n3 i4) (hX : G z mX12_copies (d) 0 0 23 [none, none, none, none, none] [] (mrow M 61 (k_copies_L30_L30_3 (M.1 58) (M.1 61) n3 n3)) Q) : G z mX12_copies (d) 0 0 3 [none, some (.ref 58), some (.ref 61), some (.int (nI n3)), some (.int (nI 0))] [] M Q := by
  refine G.mem (M' := mrow M 61 (M.1 61)) (by simp only [mrow_self]) ?_
  refine down (n := n3) (P := fun i4 => G z mX12_copies (d) 0 0 3 [none, some (.ref 58), some (.ref 61), some (.int (nI n3)), some (.int (nI i4))] [] (mrow M 61 (k_copies_L30_L30_3 (M.1 58) (M.1 61) n3 i4)) Q) ?_ ?_ 0 (Nat.zero_le _)
  · skip
    refine G.sl [(.iload 4, 2, 4, 0, 0, 0), (.iload_n 3, 1, 3, 0, 0, 0)] [] (pc2 := 6) (ls2 := [none, some (.ref 58), some (.ref 61), some (.int (nI n3)), some (.int (nI n3))]) (st2 := [.int (nI n3), .int (nI n3)]) (M2 := mrow M 61 (k_copies_L30_L30_3 (M.1 58) (M.1 61) n3 n3)) (Ps := []) (by decide +kernel) rfl rfl trivial ?_
    refine G.ic_ge (off := (17)) (tgt := 23) (by decide +kernel) rfl (fun _ => ?_) (fun h9 => absurd (nI_le (by omega) (by omega)) h9)
    refine G.loc (ls2 := [none, none, none, none, none]) (by simp [subL]) ?_
    exact hX
  · skip
    intro i4 hi ih
    have hk := hk i4 hi
    simp only [k_copies_L30_L30_3_ok] at hk
    show G z mX12_copies (d) 0 0 3 [none, some (.ref 58), some (.ref 61), some (.int (nI n3)), some (.int (nI i4))] [] (mrow M 61 (k_copies_L30_L30_3 (M.1 58) (M.1 61) n3 i4)) Q
    refine G.sl [(.iload 4, 2, 4, 0, 0, 0), (.iload_n 3, 1, 3, 0, 0, 0)] [] (pc2 := 6) (ls2 := [none, some (.ref 58), some (.ref 61), some (.int (nI n3)), some (.int (nI i4))]) (st2 := [.int (nI n3), .int (nI i4)]) (M2 := mrow M 61 (k_copies_L30_L30_3 (M.1 58) (M.1 61) n3 i4)) (Ps := []) (by decide +kernel) rfl rfl trivial ?_
    refine G.ic_ge (off := (17)) (tgt := 23) (by decide +kernel) rfl (fun h9 => absurd h9 (nI_ge (by omega) (by omega))) (fun _ => ?_)
    obtain ⟨k1, hk⟩ := hk
    refine G.sl [(.aload_n 2, 1, 2, 0, 0, 0), (.iload 4, 2, 4, 0, 0, 0), (.aload_n 1, 1, 1, 0, 0, 0), (.iload 4, 2, 4, 0, 0, 0), (.iaload, 1, 0, 0, 0, 0), (.iastore, 1, 0, 0, 0, 0), (.iinc 4 1, 3, 4, 0, 0, nI 1), (.goto (-17), 3, 3, 0, 0, 0)] [i4, i4] (pc2 := 3) (ls2 := [none, some (.ref 58), some (.ref 61), some (.int (nI n3)), some (.int ((nI i4) + nI 1))]) (st2 := []) (M2 := mput (mrow M 61 (k_copies_L30_L30_3 (M.1 58) (M.1 61) n3 i4)) 61 i4 (M.1 58 i4)) (Ps := [(nI i4) = nI i4 ∧ i4 < 30, (nI i4) = nI i4 ∧ i4 < 30]) (by decide +kernel) rfl rfl ⟨⟨rfl, k1⟩, ⟨rfl, k1⟩, trivial⟩ ?_
    refine G.mem (M' := mrow M 61 (upd (k_copies_L30_L30_3 (M.1 58) (M.1 61) n3 i4) i4 (M.1 58 i4))) (by first | rfl | (simp only [mput, mrow_same, mrow_hit, mrow_miss, mrow_sw, idr_eq, ne_eq, Nat.reduceEqDiff, not_false_eq_true, Nat.reduceLT, reduceCtorEq]; done)) ?_
    rw [nI_add i4 1]
    simp only [k_copies_L30_L30_3] at ih
    exact ih
noncomputable def k_copies_L30_L30 (Ra1 Ra2 : Nat → Int32) (n3 : Nat) : Int32 × (Nat → Int32) := (0, k_copies_L30_L30_3 (Ra1) (Ra2) n3 n3)
noncomputable def k_copies_L30_L30_ok (Ra1 Ra2 : Nat → Int32) (n3 : Nat) : Prop := ((∀ i4, i4 < n3 → k_copies_L30_L30_3_ok (Ra1) (Ra2) n3 i4) ∧ True)
set_option maxHeartbeats 4000000 in
set_option maxRecDepth 3000 in
theorem c_k_copies_L30_L30_54_58_61 (z : Zp) (d : Nat) (M : Mem) (n3 : Nat) (b3 : n3 < 3000) (hk : k_copies_L30_L30_ok (M.1 58) (M.1 61) n3) : GM z mX12_copies (d) [.ref 54, .ref 58, .ref 61, .int (nI n3)] M (fun rs => rs = .inl (none, mrow M 61 ((k_copies_L30_L30 (M.1 58) (M.1 61) n3).2))) := by
  simp only [k_copies_L30_L30_ok] at hk
  refine GM.of oX12_copies.1 (Nat.le_of_ble_eq_true rfl) ?_
  show G z mX12_copies (d) 0 0 0 [some (.ref 54), some (.ref 58), some (.ref 61), some (.int (nI n3)), none] [] M _
  obtain ⟨Q, hQ⟩ : ∃ Q : Rs → Prop, Q = (fun rs => rs = .inl (none, mrow M 61 ((k_copies_L30_L30 (M.1 58) (M.1 61) n3).2))) := ⟨_, rfl⟩
  rw [← hQ]
  refine G.sl [(.iconst 0, 1, 0, 0, 0, nI 0), (.istore 4, 2, 4, 0, 0, 0)] [] (pc2 := 3) (ls2 := [some (.ref 54), some (.ref 58), some (.ref 61), some (.int (nI n3)), some (.int (nI 0))]) (st2 := []) (M2 := M) (Ps := []) (by decide +kernel) rfl rfl trivial ?_
  refine G.loc (ls2 := [none, some (.ref 58), some (.ref 61), some (.int (nI n3)), some (.int (nI 0))]) (by simp [subL]) ?_
  obtain ⟨k2, hk⟩ := hk
  refine lp_k_copies_L30_L30_54_58_61_3 z d M Q n3 (by omega) (by first | (simp only [mput, mrow_same, mrow_hit, mrow_miss, mrow_sw, idr_eq, ne_eq, Nat.reduceEqDiff, not_false_eq_true, Nat.reduceLT, reduceCtorEq]; exact k2) | exact k2) ?_
  try simp only [mput, mrow_same, mrow_hit, mrow_miss, mrow_sw, idr_eq, ne_eq, Nat.reduceEqDiff, not_false_eq_true, Nat.reduceLT, reduceCtorEq]
  show G z mX12_copies (d) 0 0 23 [none, none, none, none, none] [] (mrow M 61 (k_copies_L30_L30_3 (M.1 58) (M.1 61) n3 n3)) Q
  exact G.retv (by decide +kernel) rfl (Nat.le_of_ble_eq_true rfl) (Nat.le_of_ble_eq_true rfl) ((by rw [hQ]; simp only [k_copies_L30_L30, mrow_self]))
noncomputable def k_copies_L6_L6_3 (Ra1 Ra2 : Nat → Int32) (n3 : Nat) : Nat → (Nat → Int32)
  | 0 => Ra2
  | i4 + 1 => upd (k_copies_L6_L6_3 Ra1 Ra2 n3 i4) i4 (Ra1 i4)
noncomputable def k_copies_L6_L6_3_ok (Ra1 Ra2 : Nat → Int32) (n3 : Nat) (i4 : Nat) : Prop := ((i4 < 6) ∧ True)
set_option maxHeartbeats 4000000 in
set_option maxRecDepth 3000 in
theorem lp_k_copies_L6_L6_54_59_62_3 (z : Zp) (d : Nat) (M : Mem) (Q : Rs → Prop) (n3 : Nat) (b3 : n3 < 3000) (hk : ∀ i4, i4 < n3 → k_copies_L6_L6_3_ok (M.1 59) (M.1 62) n3 i4) (hX : G z mX12_copies (d) 0 0 23 [none, none, none, none, none] [] (mrow M 62 (k_copies_L6_L6_3 (M.1 59) (M.1 62) n3 n3)) Q) : G z mX12_copies (d) 0 0 3 [none, some (.ref 59), some (.ref 62), some (.int (nI n3)), some (.int (nI 0))] [] M Q := by
  refine G.mem (M' := mrow M 62 (M.1 62)) (by simp only [mrow_self]) ?_
  refine down (n := n3) (P := fun i4 => G z mX12_copies (d) 0 0 3 [none, some (.ref 59), some (.ref 62), some (.int (nI n3)), some (.int (nI i4))] [] (mrow M 62 (k_copies_L6_L6_3 (M.1 59) (M.1 62) n3 i4)) Q) ?_ ?_ 0 (Nat.zero_le _)
  · skip
    refine G.sl [(.iload 4, 2, 4, 0, 0, 0), (.iload_n 3, 1, 3, 0, 0, 0)] [] (pc2 := 6) (ls2 := [none, some (.ref 59), some (.ref 62), some (.int (nI n3)), some (.int (nI n3))]) (st2 := [.int (nI n3), .int (nI n3)]) (M2 := mrow M 62 (k_copies_L6_L6_3 (M.1 59) (M.1 62) n3 n3)) (Ps := []) (by decide +kernel) rfl rfl trivial ?_
    refine G.ic_ge (off := (17)) (tgt := 23) (by decide +kernel) rfl (fun _ => ?_) (fun h9 => absurd (nI_le (by omega) (by omega)) h9)
    refine G.loc (ls2 := [none, none, none, none, none]) (by simp [subL]) ?_
    exact hX
  · skip
    intro i4 hi ih
    have hk := hk i4 hi
    simp only [k_copies_L6_L6_3_ok] at hk
    show G z mX12_copies (d) 0 0 3 [none, some (.ref 59), some (.ref 62), some (.int (nI n3)), some (.int (nI i4))] [] (mrow M 62 (k_copies_L6_L6_3 (M.1 59) (M.1 62) n3 i4)) Q
    refine G.sl [(.iload 4, 2, 4, 0, 0, 0), (.iload_n 3, 1, 3, 0, 0, 0)] [] (pc2 := 6) (ls2 := [none, some (.ref 59), some (.ref 62), some (.int (nI n3)), some (.int (nI i4))]) (st2 := [.int (nI n3), .int (nI i4)]) (M2 := mrow M 62 (k_copies_L6_L6_3 (M.1 59) (M.1 62) n3 i4)) (Ps := []) (by decide +kernel) rfl rfl trivial ?_
    refine G.ic_ge (off := (17)) (tgt := 23) (by decide +kernel) rfl (fun h9 => absurd h9 (nI_ge (by omega) (by omega))) (fun _ => ?_)
    obtain ⟨k1, hk⟩ := hk
    refine G.sl [(.aload_n 2, 1, 2, 0, 0, 0), (.iload 4, 2, 4, 0, 0, 0), (.aload_n 1, 1, 1, 0, 0, 0), (.iload 4, 2, 4, 0, 0, 0), (.iaload, 1, 0, 0, 0, 0), (.iastore, 1, 0, 0, 0, 0), (.iinc 4 1, 3, 4, 0, 0, nI 1), (.goto (-17), 3, 3, 0, 0, 0)] [i4, i4] (pc2 := 3) (ls2 := [none, some (.ref 59), some (.ref 62), some (.int (nI n3)), some (.int ((nI i4) + nI 1))]) (st2 := []) (M2 := mput (mrow M 62 (k_copies_L6_L6_3 (M.1 59) (M.1 62) n3 i4)) 62 i4 (M.1 59 i4)) (Ps := [(nI i4) = nI i4 ∧ i4 < 6, (nI i4) = nI i4 ∧ i4 < 6]) (by decide +kernel) rfl rfl ⟨⟨rfl, k1⟩, ⟨rfl, k1⟩, trivial⟩ ?_
    refine G.mem (M' := mrow M 62 (upd (k_copies_L6_L6_3 (M.1 59) (M.1 62) n3 i4) i4 (M.1 59 i4))) (by first | rfl | (simp only [mput, mrow_same, mrow_hit, mrow_miss, mrow_sw, idr_eq, ne_eq, Nat.reduceEqDiff, not_false_eq_true, Nat.reduceLT, reduceCtorEq]; done)) ?_
    rw [nI_add i4 1]
    simp only [k_copies_L6_L6_3] at ih
    exact ih
noncomputable def k_copies_L6_L6 (Ra1 Ra2 : Nat → Int32) (n3 : Nat) : Int32 × (Nat → Int32) := (0, k_copies_L6_L6_3 (Ra1) (Ra2) n3 n3)
noncomputable def k_copies_L6_L6_ok (Ra1 Ra2 : Nat → Int32) (n3 : Nat) : Prop := ((∀ i4, i4 < n3 → k_copies_L6_L6_3_ok (Ra1) (Ra2) n3 i4) ∧ True)
set_option maxHeartbeats 4000000 in
set_option maxRecDepth 3000 in
theorem c_k_copies_L6_L6_54_59_62 (z : Zp) (d : Nat) (M : Mem) (n3 : Nat) (b3 : n3 < 3000) (hk : k_copies_L6_L6_ok (M.1 59) (M.1 62) n3) : GM z mX12_copies (d) [.ref 54, .ref 59, .ref 62, .int (nI n3)] M (fun rs => rs = .inl (none, mrow M 62 ((k_copies_L6_L6 (M.1 59) (M.1 62) n3).2))) := by
  simp only [k_copies_L6_L6_ok] at hk
  refine GM.of oX12_copies.1 (Nat.le_of_ble_eq_true rfl) ?_
  show G z mX12_copies (d) 0 0 0 [some (.ref 54), some (.ref 59), some (.ref 62), some (.int (nI n3)), none] [] M _
  obtain ⟨Q, hQ⟩ : ∃ Q : Rs → Prop, Q = (fun rs => rs = .inl (none, mrow M 62 ((k_copies_L6_L6 (M.1 59) (M.1 62) n3).2))) := ⟨_, rfl⟩
  rw [← hQ]
  refine G.sl [(.iconst 0, 1, 0, 0, 0, nI 0), (.istore 4, 2, 4, 0, 0, 0)] [] (pc2 := 3) (ls2 := [some (.ref 54), some (.ref 59), some (.ref 62), some (.int (nI n3)), some (.int (nI 0))]) (st2 := []) (M2 := M) (Ps := []) (by decide +kernel) rfl rfl trivial ?_
  refine G.loc (ls2 := [none, some (.ref 59), some (.ref 62), some (.int (nI n3)), some (.int (nI 0))]) (by simp [subL]) ?_
  obtain ⟨k2, hk⟩ := hk
  refine lp_k_copies_L6_L6_54_59_62_3 z d M Q n3 (by omega) (by first | (simp only [mput, mrow_same, mrow_hit, mrow_miss, mrow_sw, idr_eq, ne_eq, Nat.reduceEqDiff, not_false_eq_true, Nat.reduceLT, reduceCtorEq]; exact k2) | exact k2) ?_
  try simp only [mput, mrow_same, mrow_hit, mrow_miss, mrow_sw, idr_eq, ne_eq, Nat.reduceEqDiff, not_false_eq_true, Nat.reduceLT, reduceCtorEq]
  show G z mX12_copies (d) 0 0 23 [none, none, none, none, none] [] (mrow M 62 (k_copies_L6_L6_3 (M.1 59) (M.1 62) n3 n3)) Q
  exact G.retv (by decide +kernel) rfl (Nat.le_of_ble_eq_true rfl) (Nat.le_of_ble_eq_true rfl) ((by rw [hQ]; simp only [k_copies_L6_L6, mrow_self]))
noncomputable def k_sets_101 (Rbook : Nat → Int32) : Nat → (Nat → Int32)
  | 0 => Rbook
  | i1 + 1 => upd (k_sets_101 Rbook i1) i1 ((-1))
set_option maxHeartbeats 4000000 in
set_option maxRecDepth 3000 in
theorem lp_k_sets_54_101 (z : Zp) (d : Nat) (M : Mem) (Q : Rs → Prop) (nn : Nat) (hnn : nn = 8) (hX : G z mX12_sets (d + 1) 0 0 120 [some (.ref 54), none] [] (mrow M 75 (k_sets_101 (M.1 75) nn)) Q) : G z mX12_sets (d + 1) 0 0 101 [some (.ref 54), some (.int (nI 0))] [] M Q := by
  refine G.mem (M' := mrow M 75 (M.1 75)) (by simp only [mrow_self]) ?_
  refine down (n := nn) (P := fun i1 => G z mX12_sets (d + 1) 0 0 101 [some (.ref 54), some (.int (nI i1))] [] (mrow M 75 (k_sets_101 (M.1 75) i1)) Q) ?_ ?_ 0 (Nat.zero_le _)
  · skip
    refine G.sl [(.iload_n 1, 1, 1, 0, 0, 0), (.bipush 8, 2, 0, 0, 0, nI 8)] [] (pc2 := 104) (ls2 := [some (.ref 54), some (.int (nI nn))]) (st2 := [.int (nI 8), .int (nI nn)]) (M2 := mrow M 75 (k_sets_101 (M.1 75) nn)) (Ps := []) (by decide +kernel) rfl rfl trivial ?_
    refine G.ic_ge (off := (16)) (tgt := 120) (by decide +kernel) rfl (fun _ => ?_) (fun h9 => absurd (nI_le (by omega) (by omega)) h9)
    refine G.loc (ls2 := [some (.ref 54), none]) (by simp [subL]) ?_
    exact hX
  · skip
    intro i1 hi ih
    show G z mX12_sets (d + 1) 0 0 101 [some (.ref 54), some (.int (nI i1))] [] (mrow M 75 (k_sets_101 (M.1 75) i1)) Q
    refine G.sl [(.iload_n 1, 1, 1, 0, 0, 0), (.bipush 8, 2, 0, 0, 0, nI 8)] [] (pc2 := 104) (ls2 := [some (.ref 54), some (.int (nI i1))]) (st2 := [.int (nI 8), .int (nI i1)]) (M2 := mrow M 75 (k_sets_101 (M.1 75) i1)) (Ps := []) (by decide +kernel) rfl rfl trivial ?_
    refine G.ic_ge (off := (16)) (tgt := 120) (by decide +kernel) rfl (fun h9 => absurd h9 (nI_ge (by omega) (by omega))) (fun _ => ?_)
    refine G.sl [(.aload_n 0, 1, 0, 0, 0, 0), (.getfield 77, 3, 11, 44, 167, 0), (.iload_n 1, 1, 1, 0, 0, 0), (.iconst (-1), 1, 0, 0, 0, (-1)), (.iastore, 1, 0, 0, 0, 0), (.iinc 1 1, 3, 1, 0, 0, nI 1), (.goto (-16), 3, 101, 0, 0, 0)] [i1] (pc2 := 101) (ls2 := [some (.ref 54), some (.int ((nI i1) + nI 1))]) (st2 := []) (M2 := mput (mrow M 75 (k_sets_101 (M.1 75) i1)) 75 i1 ((-1))) (Ps := [(nI i1) = nI i1 ∧ i1 < 8]) (by decide +kernel) rfl rfl ⟨⟨rfl, (by omega)⟩, trivial⟩ ?_
    refine G.mem (M' := mrow M 75 (upd (k_sets_101 (M.1 75) i1) i1 ((-1)))) (by first | rfl | (simp only [mput, mrow_same, mrow_hit, mrow_miss, mrow_sw, idr_eq, ne_eq, Nat.reduceEqDiff, not_false_eq_true, Nat.reduceLT, reduceCtorEq]; done)) ?_
    rw [nI_add i1 1]
    simp only [k_sets_101] at ih
    exact ih
noncomputable def k_sets_122 (Rnow : Nat → Int32) : Nat → (Nat → Int32)
  | 0 => Rnow
  | i1 + 1 => upd (k_sets_122 Rnow i1) i1 (nI 0)
set_option maxHeartbeats 4000000 in
set_option maxRecDepth 3000 in
theorem lp_k_sets_54_122 (z : Zp) (d : Nat) (M : Mem) (Q : Rs → Prop) (nn : Nat) (hnn : nn = 51) (hX : G z mX12_sets (d + 1) 0 0 141 [some (.ref 54), none] [] (mrow M 71 (k_sets_122 (M.1 71) nn)) Q) : G z mX12_sets (d + 1) 0 0 122 [some (.ref 54), some (.int (nI 0))] [] M Q := by
  refine G.mem (M' := mrow M 71 (M.1 71)) (by simp only [mrow_self]) ?_
  refine down (n := nn) (P := fun i1 => G z mX12_sets (d + 1) 0 0 122 [some (.ref 54), some (.int (nI i1))] [] (mrow M 71 (k_sets_122 (M.1 71) i1)) Q) ?_ ?_ 0 (Nat.zero_le _)
  · skip
    refine G.sl [(.iload_n 1, 1, 1, 0, 0, 0), (.bipush 51, 2, 0, 0, 0, nI 51)] [] (pc2 := 125) (ls2 := [some (.ref 54), some (.int (nI nn))]) (st2 := [.int (nI 51), .int (nI nn)]) (M2 := mrow M 71 (k_sets_122 (M.1 71) nn)) (Ps := []) (by decide +kernel) rfl rfl trivial ?_
    refine G.ic_ge (off := (16)) (tgt := 141) (by decide +kernel) rfl (fun _ => ?_) (fun h9 => absurd (nI_le (by omega) (by omega)) h9)
    refine G.loc (ls2 := [some (.ref 54), none]) (by simp [subL]) ?_
    exact hX
  · skip
    intro i1 hi ih
    show G z mX12_sets (d + 1) 0 0 122 [some (.ref 54), some (.int (nI i1))] [] (mrow M 71 (k_sets_122 (M.1 71) i1)) Q
    refine G.sl [(.iload_n 1, 1, 1, 0, 0, 0), (.bipush 51, 2, 0, 0, 0, nI 51)] [] (pc2 := 125) (ls2 := [some (.ref 54), some (.int (nI i1))]) (st2 := [.int (nI 51), .int (nI i1)]) (M2 := mrow M 71 (k_sets_122 (M.1 71) i1)) (Ps := []) (by decide +kernel) rfl rfl trivial ?_
    refine G.ic_ge (off := (16)) (tgt := 141) (by decide +kernel) rfl (fun h9 => absurd h9 (nI_ge (by omega) (by omega))) (fun _ => ?_)
    refine G.sl [(.aload_n 0, 1, 0, 0, 0, 0), (.getfield 65, 3, 11, 40, 163, 0), (.iload_n 1, 1, 1, 0, 0, 0), (.iconst 0, 1, 0, 0, 0, nI 0), (.iastore, 1, 0, 0, 0, 0), (.iinc 1 1, 3, 1, 0, 0, nI 1), (.goto (-16), 3, 122, 0, 0, 0)] [i1] (pc2 := 122) (ls2 := [some (.ref 54), some (.int ((nI i1) + nI 1))]) (st2 := []) (M2 := mput (mrow M 71 (k_sets_122 (M.1 71) i1)) 71 i1 (nI 0)) (Ps := [(nI i1) = nI i1 ∧ i1 < 51]) (by decide +kernel) rfl rfl ⟨⟨rfl, (by omega)⟩, trivial⟩ ?_
    refine G.mem (M' := mrow M 71 (upd (k_sets_122 (M.1 71) i1) i1 (nI 0))) (by first | rfl | (simp only [mput, mrow_same, mrow_hit, mrow_miss, mrow_sw, idr_eq, ne_eq, Nat.reduceEqDiff, not_false_eq_true, Nat.reduceLT, reduceCtorEq]; done)) ?_
    rw [nI_add i1 1]
    simp only [k_sets_122] at ih
    exact ih
noncomputable def k_sets_143 (Rthing Rnow : Nat → Int32) (nt : Nat) : Nat → (Nat → Int32)
  | 0 => Rnow
  | i1 + 1 => (if (nI nt) ≤ (nI i1) then upd (upd (k_sets_143 Rthing Rnow nt i1) (0 + i1) (nI 0)) (10 + i1) ((-1)) else upd (upd (k_sets_143 Rthing Rnow nt i1) (0 + i1) (Rthing (3 * i1))) (10 + i1) (Rthing ((3 * i1) + 1)))
set_option maxHeartbeats 4000000 in
set_option maxRecDepth 3000 in
theorem lp_k_sets_54_143 (z : Zp) (d : Nat) (M : Mem) (Q : Rs → Prop) (nn : Nat) (nt : Nat) (hnt : nt ≤ 10) (ct : M.1 54 22 = nI nt) (hnn : nn = 10) (hX : G z mX12_sets (d + 1) 0 0 214 [some (.ref 54), none] [] (mrow M 71 (k_sets_143 (M.1 61) (M.1 71) nt nn)) Q) : G z mX12_sets (d + 1) 0 0 143 [some (.ref 54), some (.int (nI 0))] [] M Q := by
  refine G.mem (M' := mrow M 71 (M.1 71)) (by simp only [mrow_self]) ?_
  refine down (n := nn) (P := fun i1 => G z mX12_sets (d + 1) 0 0 143 [some (.ref 54), some (.int (nI i1))] [] (mrow M 71 (k_sets_143 (M.1 61) (M.1 71) nt i1)) Q) ?_ ?_ 0 (Nat.zero_le _)
  · skip
    refine G.sl [(.iload_n 1, 1, 1, 0, 0, 0), (.bipush 10, 2, 0, 0, 0, nI 10)] [] (pc2 := 146) (ls2 := [some (.ref 54), some (.int (nI nn))]) (st2 := [.int (nI 10), .int (nI nn)]) (M2 := mrow M 71 (k_sets_143 (M.1 61) (M.1 71) nt nn)) (Ps := []) (by decide +kernel) rfl rfl trivial ?_
    refine G.ic_ge (off := (68)) (tgt := 214) (by decide +kernel) rfl (fun _ => ?_) (fun h9 => absurd (nI_le (by omega) (by omega)) h9)
    refine G.loc (ls2 := [some (.ref 54), none]) (by simp [subL]) ?_
    exact hX
  · skip
    intro i1 hi ih
    show G z mX12_sets (d + 1) 0 0 143 [some (.ref 54), some (.int (nI i1))] [] (mrow M 71 (k_sets_143 (M.1 61) (M.1 71) nt i1)) Q
    refine G.sl [(.iload_n 1, 1, 1, 0, 0, 0), (.bipush 10, 2, 0, 0, 0, nI 10)] [] (pc2 := 146) (ls2 := [some (.ref 54), some (.int (nI i1))]) (st2 := [.int (nI 10), .int (nI i1)]) (M2 := mrow M 71 (k_sets_143 (M.1 61) (M.1 71) nt i1)) (Ps := []) (by decide +kernel) rfl rfl trivial ?_
    refine G.ic_ge (off := (68)) (tgt := 214) (by decide +kernel) rfl (fun h9 => absurd h9 (nI_ge (by omega) (by omega))) (fun _ => ?_)
    refine G.sl [(.aload_n 0, 1, 0, 0, 0, 0), (.getfield 65, 3, 11, 40, 163, 0), (.iconst 0, 1, 0, 0, 0, nI 0), (.iload_n 1, 1, 1, 0, 0, 0), (.iadd, 1, 0, 0, 0, 0), (.iload_n 1, 1, 1, 0, 0, 0), (.aload_n 0, 1, 0, 0, 0, 0), (.getfield 162, 3, 11, 22, 145, 0)] [] (pc2 := 161) (ls2 := [some (.ref 54), some (.int (nI i1))]) (st2 := [.int (M.1 54 22), .int (nI i1), .int ((nI 0) + (nI i1)), .ref 71]) (M2 := mrow M 71 (k_sets_143 (M.1 61) (M.1 71) nt i1)) (Ps := []) (by decide +kernel) rfl rfl trivial ?_
    rw [ct]
    refine G.ic_ge (off := (14)) (tgt := 175) (by decide +kernel) rfl (fun c21 => ?_) (fun c21 => ?_)
    · skip
      refine G.sl [(.iconst 0, 1, 0, 0, 0, nI 0), (.iastore, 1, 0, 0, 0, 0), (.aload_n 0, 1, 0, 0, 0, 0), (.getfield 65, 3, 11, 40, 163, 0), (.bipush 10, 2, 0, 0, 0, nI 10), (.iload_n 1, 1, 1, 0, 0, 0), (.iadd, 1, 0, 0, 0, 0), (.iload_n 1, 1, 1, 0, 0, 0), (.aload_n 0, 1, 0, 0, 0, 0), (.getfield 162, 3, 11, 22, 145, 0)] [0 + i1] (pc2 := 190) (ls2 := [some (.ref 54), some (.int (nI i1))]) (st2 := [.int (M.1 54 22), .int (nI i1), .int ((nI 10) + (nI i1)), .ref 71]) (M2 := mput (mrow M 71 (k_sets_143 (M.1 61) (M.1 71) nt i1)) 71 (0 + i1) (nI 0)) (Ps := [((nI 0) + (nI i1)) = nI (0 + i1) ∧ (0 + i1) < 51]) (by decide +kernel) rfl rfl ⟨⟨(nI_add _ _), (by omega)⟩, trivial⟩ ?_
      refine G.mem (M' := mrow M 71 (upd (k_sets_143 (M.1 61) (M.1 71) nt i1) (0 + i1) (nI 0))) (by first | rfl | (simp only [mput, mrow_same, mrow_hit, mrow_miss, mrow_sw, idr_eq, ne_eq, Nat.reduceEqDiff, not_false_eq_true, Nat.reduceLT, reduceCtorEq]; done)) ?_
      rw [ct]
      refine G.ic_ge (off := (16)) (tgt := 206) (by decide +kernel) rfl (fun _ => ?_) (fun h9 => absurd c21 h9)
      refine G.sl [(.iconst (-1), 1, 0, 0, 0, (-1)), (.iastore, 1, 0, 0, 0, 0), (.iinc 1 1, 3, 1, 0, 0, nI 1), (.goto (-68), 3, 143, 0, 0, 0)] [10 + i1] (pc2 := 143) (ls2 := [some (.ref 54), some (.int ((nI i1) + nI 1))]) (st2 := []) (M2 := mput (mrow M 71 (upd (k_sets_143 (M.1 61) (M.1 71) nt i1) (0 + i1) (nI 0))) 71 (10 + i1) ((-1))) (Ps := [((nI 10) + (nI i1)) = nI (10 + i1) ∧ (10 + i1) < 51]) (by decide +kernel) rfl rfl ⟨⟨(nI_add _ _), (by omega)⟩, trivial⟩ ?_
      refine G.mem (M' := mrow M 71 (upd (upd (k_sets_143 (M.1 61) (M.1 71) nt i1) (0 + i1) (nI 0)) (10 + i1) ((-1)))) (by first | rfl | (simp only [mput, mrow_same, mrow_hit, mrow_miss, mrow_sw, idr_eq, ne_eq, Nat.reduceEqDiff, not_false_eq_true, Nat.reduceLT, reduceCtorEq]; done)) ?_
      rw [nI_add i1 1]
      simp only [k_sets_143, if_pos c21] at ih
      exact ih
    · skip
      refine G.sl [(.aload_n 0, 1, 0, 0, 0, 0), (.getfield 35, 3, 11, 14, 137, 0), (.iconst 3, 1, 0, 0, 0, nI 3), (.iload_n 1, 1, 1, 0, 0, 0), (.imul, 1, 0, 0, 0, 0), (.iaload, 1, 0, 0, 0, 0), (.goto 4, 3, 176, 0, 0, 0), (.iastore, 1, 0, 0, 0, 0), (.aload_n 0, 1, 0, 0, 0, 0), (.getfield 65, 3, 11, 40, 163, 0), (.bipush 10, 2, 0, 0, 0, nI 10), (.iload_n 1, 1, 1, 0, 0, 0), (.iadd, 1, 0, 0, 0, 0), (.iload_n 1, 1, 1, 0, 0, 0), (.aload_n 0, 1, 0, 0, 0, 0), (.getfield 162, 3, 11, 22, 145, 0)] [3 * i1, 0 + i1] (pc2 := 190) (ls2 := [some (.ref 54), some (.int (nI i1))]) (st2 := [.int (M.1 54 22), .int (nI i1), .int ((nI 10) + (nI i1)), .ref 71]) (M2 := mput (mrow M 71 (k_sets_143 (M.1 61) (M.1 71) nt i1)) 71 (0 + i1) (M.1 61 (3 * i1))) (Ps := [((nI 3) * (nI i1)) = nI (3 * i1) ∧ (3 * i1) < 30, ((nI 0) + (nI i1)) = nI (0 + i1) ∧ (0 + i1) < 51]) (by decide +kernel) rfl rfl ⟨⟨(pk_mul _ _), (by omega)⟩, ⟨(nI_add _ _), (by omega)⟩, trivial⟩ ?_
      refine G.mem (M' := mrow M 71 (upd (k_sets_143 (M.1 61) (M.1 71) nt i1) (0 + i1) (M.1 61 (3 * i1)))) (by first | rfl | (simp only [mput, mrow_same, mrow_hit, mrow_miss, mrow_sw, idr_eq, ne_eq, Nat.reduceEqDiff, not_false_eq_true, Nat.reduceLT, reduceCtorEq]; done)) ?_
      rw [ct]
      refine G.ic_ge (off := (16)) (tgt := 206) (by decide +kernel) rfl (fun h9 => absurd h9 c21) (fun _ => ?_)
      refine G.sl [(.aload_n 0, 1, 0, 0, 0, 0), (.getfield 35, 3, 11, 14, 137, 0), (.iconst 3, 1, 0, 0, 0, nI 3), (.iload_n 1, 1, 1, 0, 0, 0), (.imul, 1, 0, 0, 0, 0), (.iconst 1, 1, 0, 0, 0, nI 1), (.iadd, 1, 0, 0, 0, 0), (.iaload, 1, 0, 0, 0, 0), (.goto 4, 3, 207, 0, 0, 0), (.iastore, 1, 0, 0, 0, 0), (.iinc 1 1, 3, 1, 0, 0, nI 1), (.goto (-68), 3, 143, 0, 0, 0)] [(3 * i1) + 1, 10 + i1] (pc2 := 143) (ls2 := [some (.ref 54), some (.int ((nI i1) + nI 1))]) (st2 := []) (M2 := mput (mrow M 71 (upd (k_sets_143 (M.1 61) (M.1 71) nt i1) (0 + i1) (M.1 61 (3 * i1)))) 71 (10 + i1) (M.1 61 ((3 * i1) + 1))) (Ps := [(((nI 3) * (nI i1)) + (nI 1)) = nI ((3 * i1) + 1) ∧ ((3 * i1) + 1) < 30, ((nI 10) + (nI i1)) = nI (10 + i1) ∧ (10 + i1) < 51]) (by decide +kernel) rfl rfl ⟨⟨(nAdd (pk_mul _ _) rfl), (by omega)⟩, ⟨(nI_add _ _), (by omega)⟩, trivial⟩ ?_
      refine G.mem (M' := mrow M 71 (upd (upd (k_sets_143 (M.1 61) (M.1 71) nt i1) (0 + i1) (M.1 61 (3 * i1))) (10 + i1) (M.1 61 ((3 * i1) + 1)))) (by first | rfl | (simp only [mput, mrow_same, mrow_hit, mrow_miss, mrow_sw, idr_eq, ne_eq, Nat.reduceEqDiff, not_false_eq_true, Nat.reduceLT, reduceCtorEq]; done)) ?_
      rw [nI_add i1 1]
      simp only [k_sets_143, if_neg c21] at ih
      exact ih
noncomputable def k_sets_216 (Rfinder Rnow : Nat → Int32) : Nat → (Nat → Int32)
  | 0 => Rnow
  | i1 + 1 => upd (k_sets_216 Rfinder Rnow i1) (20 + i1) (Rfinder i1)
set_option maxHeartbeats 4000000 in
set_option maxRecDepth 3000 in
theorem lp_k_sets_54_216 (z : Zp) (d : Nat) (M : Mem) (Q : Rs → Prop) (nf : Nat) (hnf : nf ≤ 6) (cf : M.1 54 23 = nI nf) (hX : G z mX12_sets (d + 1) 0 0 245 [some (.ref 54), none] [] (mrow M 71 (k_sets_216 (M.1 62) (M.1 71) nf)) Q) : G z mX12_sets (d + 1) 0 0 216 [some (.ref 54), some (.int (nI 0))] [] M Q := by
  refine G.mem (M' := mrow M 71 (M.1 71)) (by simp only [mrow_self]) ?_
  refine down (n := nf) (P := fun i1 => G z mX12_sets (d + 1) 0 0 216 [some (.ref 54), some (.int (nI i1))] [] (mrow M 71 (k_sets_216 (M.1 62) (M.1 71) i1)) Q) ?_ ?_ 0 (Nat.zero_le _)
  · skip
    refine G.sl [(.iload_n 1, 1, 1, 0, 0, 0), (.aload_n 0, 1, 0, 0, 0, 0), (.getfield 165, 3, 11, 23, 146, 0)] [] (pc2 := 221) (ls2 := [some (.ref 54), some (.int (nI nf))]) (st2 := [.int (M.1 54 23), .int (nI nf)]) (M2 := mrow M 71 (k_sets_216 (M.1 62) (M.1 71) nf)) (Ps := []) (by decide +kernel) rfl rfl trivial ?_
    rw [cf]
    refine G.ic_ge (off := (24)) (tgt := 245) (by decide +kernel) rfl (fun _ => ?_) (fun h9 => absurd (nI_le (by omega) (by omega)) h9)
    refine G.loc (ls2 := [some (.ref 54), none]) (by simp [subL]) ?_
    exact hX
  · skip
    intro i1 hi ih
    show G z mX12_sets (d + 1) 0 0 216 [some (.ref 54), some (.int (nI i1))] [] (mrow M 71 (k_sets_216 (M.1 62) (M.1 71) i1)) Q
    refine G.sl [(.iload_n 1, 1, 1, 0, 0, 0), (.aload_n 0, 1, 0, 0, 0, 0), (.getfield 165, 3, 11, 23, 146, 0)] [] (pc2 := 221) (ls2 := [some (.ref 54), some (.int (nI i1))]) (st2 := [.int (M.1 54 23), .int (nI i1)]) (M2 := mrow M 71 (k_sets_216 (M.1 62) (M.1 71) i1)) (Ps := []) (by decide +kernel) rfl rfl trivial ?_
    rw [cf]
    refine G.ic_ge (off := (24)) (tgt := 245) (by decide +kernel) rfl (fun h9 => absurd h9 (nI_ge (by omega) (by omega))) (fun _ => ?_)
    refine G.sl [(.aload_n 0, 1, 0, 0, 0, 0), (.getfield 65, 3, 11, 40, 163, 0), (.bipush 20, 2, 0, 0, 0, nI 20), (.iload_n 1, 1, 1, 0, 0, 0), (.iadd, 1, 0, 0, 0, 0), (.aload_n 0, 1, 0, 0, 0, 0), (.getfield 38, 3, 11, 15, 138, 0), (.iload_n 1, 1, 1, 0, 0, 0), (.iaload, 1, 0, 0, 0, 0), (.iastore, 1, 0, 0, 0, 0), (.iinc 1 1, 3, 1, 0, 0, nI 1), (.goto (-26), 3, 216, 0, 0, 0)] [i1, 20 + i1] (pc2 := 216) (ls2 := [some (.ref 54), some (.int ((nI i1) + nI 1))]) (st2 := []) (M2 := mput (mrow M 71 (k_sets_216 (M.1 62) (M.1 71) i1)) 71 (20 + i1) (M.1 62 i1)) (Ps := [(nI i1) = nI i1 ∧ i1 < 6, ((nI 20) + (nI i1)) = nI (20 + i1) ∧ (20 + i1) < 51]) (by decide +kernel) rfl rfl ⟨⟨rfl, (by omega)⟩, ⟨(nI_add _ _), (by omega)⟩, trivial⟩ ?_
    refine G.mem (M' := mrow M 71 (upd (k_sets_216 (M.1 62) (M.1 71) i1) (20 + i1) (M.1 62 i1))) (by first | rfl | (simp only [mput, mrow_same, mrow_hit, mrow_miss, mrow_sw, idr_eq, ne_eq, Nat.reduceEqDiff, not_false_eq_true, Nat.reduceLT, reduceCtorEq]; done)) ?_
    rw [nI_add i1 1]
    simp only [k_sets_216] at ih
    exact ih
noncomputable def k_layFar_2 (RfarOf : Nat → Int32) : Nat → (Nat → Int32)
  | 0 => RfarOf
  | i1 + 1 => (if ((nI i1) / (nI 8)) = ((nI i1) - (nI i1) / (nI 8) * (nI 8)) then upd (k_layFar_2 RfarOf i1) i1 (nI 0) else upd (k_layFar_2 RfarOf i1) i1 (nI 9999))
set_option maxHeartbeats 4000000 in
set_option maxRecDepth 3000 in
theorem lp_k_layFar_54_2 (z : Zp) (d : Nat) (M : Mem) (Q : Rs → Prop) (nn : Nat) (hnn : nn = 64) (hX : G z mX12_layFar (d) 0 0 38 [some (.ref 54), none, none, none, none, none, none, none] [] (mrow M 76 (k_layFar_2 (M.1 76) nn)) Q) : G z mX12_layFar (d) 0 0 2 [some (.ref 54), some (.int (nI 0)), none, none, none, none, none, none] [] M Q := by
  refine G.mem (M' := mrow M 76 (M.1 76)) (by simp only [mrow_self]) ?_
  refine down (n := nn) (P := fun i1 => G z mX12_layFar (d) 0 0 2 [some (.ref 54), some (.int (nI i1)), none, none, none, none, none, none] [] (mrow M 76 (k_layFar_2 (M.1 76) i1)) Q) ?_ ?_ 0 (Nat.zero_le _)
  · skip
    refine G.sl [(.iload_n 1, 1, 1, 0, 0, 0), (.bipush 64, 2, 0, 0, 0, nI 64)] [] (pc2 := 5) (ls2 := [some (.ref 54), some (.int (nI nn)), none, none, none, none, none, none]) (st2 := [.int (nI 64), .int (nI nn)]) (M2 := mrow M 76 (k_layFar_2 (M.1 76) nn)) (Ps := []) (by decide +kernel) rfl rfl trivial ?_
    refine G.ic_ge (off := (33)) (tgt := 38) (by decide +kernel) rfl (fun _ => ?_) (fun h9 => absurd (nI_le (by omega) (by omega)) h9)
    refine G.loc (ls2 := [some (.ref 54), none, none, none, none, none, none, none]) (by simp [subL]) ?_
    exact hX
  · skip
    intro i1 hi ih
    show G z mX12_layFar (d) 0 0 2 [some (.ref 54), some (.int (nI i1)), none, none, none, none, none, none] [] (mrow M 76 (k_layFar_2 (M.1 76) i1)) Q
    refine G.sl [(.iload_n 1, 1, 1, 0, 0, 0), (.bipush 64, 2, 0, 0, 0, nI 64)] [] (pc2 := 5) (ls2 := [some (.ref 54), some (.int (nI i1)), none, none, none, none, none, none]) (st2 := [.int (nI 64), .int (nI i1)]) (M2 := mrow M 76 (k_layFar_2 (M.1 76) i1)) (Ps := []) (by decide +kernel) rfl rfl trivial ?_
    refine G.ic_ge (off := (33)) (tgt := 38) (by decide +kernel) rfl (fun h9 => absurd h9 (nI_ge (by omega) (by omega))) (fun _ => ?_)
    refine G.sl [(.aload_n 0, 1, 0, 0, 0, 0), (.getfield 80, 3, 11, 46, 169, 0), (.iload_n 1, 1, 1, 0, 0, 0), (.iload_n 1, 1, 1, 0, 0, 0), (.bipush 8, 2, 0, 0, 0, nI 8), (.idiv, 1, 0, 0, 0, 0), (.iload_n 1, 1, 1, 0, 0, 0), (.bipush 8, 2, 0, 0, 0, nI 8), (.irem, 1, 0, 0, 0, 0)] [] (pc2 := 21) (ls2 := [some (.ref 54), some (.int (nI i1)), none, none, none, none, none, none]) (st2 := [.int ((nI i1) - (nI i1) / (nI 8) * (nI 8)), .int ((nI i1) / (nI 8)), .int (nI i1), .ref 76]) (M2 := mrow M 76 (k_layFar_2 (M.1 76) i1)) (Ps := [¬ (nI 8) = 0, ¬ (nI 8) = 0]) (by decide +kernel) rfl rfl ⟨(by decide), (by decide), trivial⟩ ?_
    refine G.ic_ne (off := (7)) (tgt := 28) (by decide +kernel) rfl (fun c1 => ?_) (fun c1 => ?_)
    · skip
      refine G.sl [(.sipush 9999, 3, 0, 0, 0, nI 9999), (.iastore, 1, 0, 0, 0, 0), (.iinc 1 1, 3, 1, 0, 0, nI 1), (.goto (-33), 3, 2, 0, 0, 0)] [i1] (pc2 := 2) (ls2 := [some (.ref 54), some (.int ((nI i1) + nI 1)), none, none, none, none, none, none]) (st2 := []) (M2 := mput (mrow M 76 (k_layFar_2 (M.1 76) i1)) 76 i1 (nI 9999)) (Ps := [(nI i1) = nI i1 ∧ i1 < 64]) (by decide +kernel) rfl rfl ⟨⟨rfl, (by omega)⟩, trivial⟩ ?_
      refine G.mem (M' := mrow M 76 (upd (k_layFar_2 (M.1 76) i1) i1 (nI 9999))) (by first | rfl | (simp only [mput, mrow_same, mrow_hit, mrow_miss, mrow_sw, idr_eq, ne_eq, Nat.reduceEqDiff, not_false_eq_true, Nat.reduceLT, reduceCtorEq]; done)) ?_
      rw [nI_add i1 1]
      simp only [k_layFar_2, if_neg c1] at ih
      exact ih
    · skip
      refine G.sl [(.iconst 0, 1, 0, 0, 0, nI 0), (.goto 6, 3, 31, 0, 0, 0), (.iastore, 1, 0, 0, 0, 0), (.iinc 1 1, 3, 1, 0, 0, nI 1), (.goto (-33), 3, 2, 0, 0, 0)] [i1] (pc2 := 2) (ls2 := [some (.ref 54), some (.int ((nI i1) + nI 1)), none, none, none, none, none, none]) (st2 := []) (M2 := mput (mrow M 76 (k_layFar_2 (M.1 76) i1)) 76 i1 (nI 0)) (Ps := [(nI i1) = nI i1 ∧ i1 < 64]) (by decide +kernel) rfl rfl ⟨⟨rfl, (by omega)⟩, trivial⟩ ?_
      refine G.mem (M' := mrow M 76 (upd (k_layFar_2 (M.1 76) i1) i1 (nI 0))) (by first | rfl | (simp only [mput, mrow_same, mrow_hit, mrow_miss, mrow_sw, idr_eq, ne_eq, Nat.reduceEqDiff, not_false_eq_true, Nat.reduceLT, reduceCtorEq]; done)) ?_
      rw [nI_add i1 1]
      simp only [k_layFar_2, if_pos c1] at ih
      exact ih
noncomputable def k_layFar_80 (Rroad RfarOf : Nat → Int32) (n1 : Nat) (n2 : Nat) (x3 : Int32) (x4 : Int32) : Nat → (Nat → Int32)
  | 0 => RfarOf
  | i5 + 1 => (if ((k_layFar_80 Rroad RfarOf n1 n2 x3 x4 i5) ((8 * i5) + (ix x4))) ≤ (((k_layFar_80 Rroad RfarOf n1 n2 x3 x4 i5) ((8 * i5) + (ix x3))) + (Rroad ((3 * n2) + 2))) then (if ((k_layFar_80 Rroad RfarOf n1 n2 x3 x4 i5) ((8 * i5) + (ix x3))) ≤ (((k_layFar_80 Rroad RfarOf n1 n2 x3 x4 i5) ((8 * i5) + (ix x4))) + (Rroad ((3 * n2) + 2))) then k_layFar_80 Rroad RfarOf n1 n2 x3 x4 i5 else upd (k_layFar_80 Rroad RfarOf n1 n2 x3 x4 i5) ((8 * i5) + (ix x3)) (((k_layFar_80 Rroad RfarOf n1 n2 x3 x4 i5) ((8 * i5) + (ix x4))) + (Rroad ((3 * n2) + 2)))) else (if ((upd (k_layFar_80 Rroad RfarOf n1 n2 x3 x4 i5) ((8 * i5) + (ix x4)) (((k_layFar_80 Rroad RfarOf n1 n2 x3 x4 i5) ((8 * i5) + (ix x3))) + (Rroad ((3 * n2) + 2)))) ((8 * i5) + (ix x3))) ≤ (((k_layFar_80 Rroad RfarOf n1 n2 x3 x4 i5) ((8 * i5) + (ix x4))) + (Rroad ((3 * n2) + 2))) then upd (k_layFar_80 Rroad RfarOf n1 n2 x3 x4 i5) ((8 * i5) + (ix x4)) (((k_layFar_80 Rroad RfarOf n1 n2 x3 x4 i5) ((8 * i5) + (ix x3))) + (Rroad ((3 * n2) + 2))) else upd (upd (k_layFar_80 Rroad RfarOf n1 n2 x3 x4 i5) ((8 * i5) + (ix x4)) (((k_layFar_80 Rroad RfarOf n1 n2 x3 x4 i5) ((8 * i5) + (ix x3))) + (Rroad ((3 * n2) + 2)))) ((8 * i5) + (ix x3)) (((k_layFar_80 Rroad RfarOf n1 n2 x3 x4 i5) ((8 * i5) + (ix x4))) + (Rroad ((3 * n2) + 2)))))
noncomputable def k_layFar_80_ok (Rroad RfarOf : Nat → Int32) (n1 : Nat) (n2 : Nat) (x3 : Int32) (x4 : Int32) (i5 : Nat) : Prop := ((isN x3) ∧ ((8 * i5) + (ix x3) < 64) ∧ (isN x4) ∧ ((8 * i5) + (ix x4) < 64) ∧ True)
set_option maxHeartbeats 4000000 in
set_option maxRecDepth 3000 in
theorem lp_k_layFar_54_80 (z : Zp) (d : Nat) (M : Mem) (Q : Rs → Prop) (n1 : Nat) (n2 : Nat) (x3 : Int32) (x4 : Int32) (np : Nat) (hnp : np ≤ 8) (cp : M.1 54 20 = nI np) (b1 : n1 < 8) (b2 : n2 < 12) (hk : ∀ i5, i5 < np → k_layFar_80_ok (M.1 60) (M.1 76) n1 n2 x3 x4 i5) (hX : G z mX12_layFar (d) 0 0 210 [some (.ref 54), some (.int (nI n1)), some (.int (nI n2)), none, none, none, none, none] [] (mrow M 76 (k_layFar_80 (M.1 60) (M.1 76) n1 n2 x3 x4 np)) Q) : G z mX12_layFar (d) 0 0 80 [some (.ref 54), some (.int (nI n1)), some (.int (nI n2)), some (.int x3), some (.int x4), some (.int (nI 0)), none, none] [] M Q := by
  refine G.mem (M' := mrow M 76 (M.1 76)) (by simp only [mrow_self]) ?_
  refine down (n := np) (P := fun i5 => G z mX12_layFar (d) 0 0 80 [some (.ref 54), some (.int (nI n1)), some (.int (nI n2)), some (.int x3), some (.int x4), some (.int (nI i5)), none, none] [] (mrow M 76 (k_layFar_80 (M.1 60) (M.1 76) n1 n2 x3 x4 i5)) Q) ?_ ?_ 0 (Nat.zero_le _)
  · skip
    refine G.sl [(.iload 5, 2, 5, 0, 0, 0), (.aload_n 0, 1, 0, 0, 0, 0), (.getfield 156, 3, 11, 20, 143, 0)] [] (pc2 := 86) (ls2 := [some (.ref 54), some (.int (nI n1)), some (.int (nI n2)), some (.int x3), some (.int x4), some (.int (nI np)), none, none]) (st2 := [.int (M.1 54 20), .int (nI np)]) (M2 := mrow M 76 (k_layFar_80 (M.1 60) (M.1 76) n1 n2 x3 x4 np)) (Ps := []) (by decide +kernel) rfl rfl trivial ?_
    rw [cp]
    refine G.ic_ge (off := (124)) (tgt := 210) (by decide +kernel) rfl (fun _ => ?_) (fun h9 => absurd (nI_le (by omega) (by omega)) h9)
    refine G.loc (ls2 := [some (.ref 54), some (.int (nI n1)), some (.int (nI n2)), none, none, none, none, none]) (by simp [subL]) ?_
    exact hX
  · skip
    intro i5 hi ih
    have hk := hk i5 hi
    simp only [k_layFar_80_ok] at hk
    show G z mX12_layFar (d) 0 0 80 [some (.ref 54), some (.int (nI n1)), some (.int (nI n2)), some (.int x3), some (.int x4), some (.int (nI i5)), none, none] [] (mrow M 76 (k_layFar_80 (M.1 60) (M.1 76) n1 n2 x3 x4 i5)) Q
    refine G.sl [(.iload 5, 2, 5, 0, 0, 0), (.aload_n 0, 1, 0, 0, 0, 0), (.getfield 156, 3, 11, 20, 143, 0)] [] (pc2 := 86) (ls2 := [some (.ref 54), some (.int (nI n1)), some (.int (nI n2)), some (.int x3), some (.int x4), some (.int (nI i5)), none, none]) (st2 := [.int (M.1 54 20), .int (nI i5)]) (M2 := mrow M 76 (k_layFar_80 (M.1 60) (M.1 76) n1 n2 x3 x4 i5)) (Ps := []) (by decide +kernel) rfl rfl trivial ?_
    rw [cp]
    refine G.ic_ge (off := (124)) (tgt := 210) (by decide +kernel) rfl (fun h9 => absurd h9 (nI_ge (by omega) (by omega))) (fun _ => ?_)
    obtain ⟨k3, k4, k5, k6, hk⟩ := hk
    refine G.sl [(.aload_n 0, 1, 0, 0, 0, 0), (.getfield 80, 3, 11, 46, 169, 0), (.bipush 8, 2, 0, 0, 0, nI 8), (.iload 5, 2, 5, 0, 0, 0), (.imul, 1, 0, 0, 0, 0), (.iload_n 3, 1, 3, 0, 0, 0), (.iadd, 1, 0, 0, 0, 0), (.iaload, 1, 0, 0, 0, 0), (.aload_n 0, 1, 0, 0, 0, 0), (.getfield 32, 3, 11, 13, 136, 0), (.iconst 3, 1, 0, 0, 0, nI 3), (.iload_n 2, 1, 2, 0, 0, 0), (.imul, 1, 0, 0, 0, 0), (.iconst 2, 1, 0, 0, 0, nI 2), (.iadd, 1, 0, 0, 0, 0), (.iaload, 1, 0, 0, 0, 0), (.iadd, 1, 0, 0, 0, 0), (.istore 6, 2, 6, 0, 0, 0), (.aload_n 0, 1, 0, 0, 0, 0), (.getfield 80, 3, 11, 46, 169, 0), (.bipush 8, 2, 0, 0, 0, nI 8), (.iload 5, 2, 5, 0, 0, 0), (.imul, 1, 0, 0, 0, 0), (.iload 4, 2, 4, 0, 0, 0), (.iadd, 1, 0, 0, 0, 0), (.iaload, 1, 0, 0, 0, 0), (.aload_n 0, 1, 0, 0, 0, 0), (.getfield 32, 3, 11, 13, 136, 0), (.iconst 3, 1, 0, 0, 0, nI 3), (.iload_n 2, 1, 2, 0, 0, 0), (.imul, 1, 0, 0, 0, 0), (.iconst 2, 1, 0, 0, 0, nI 2), (.iadd, 1, 0, 0, 0, 0), (.iaload, 1, 0, 0, 0, 0), (.iadd, 1, 0, 0, 0, 0), (.istore 7, 2, 7, 0, 0, 0), (.iload 6, 2, 6, 0, 0, 0), (.aload_n 0, 1, 0, 0, 0, 0), (.getfield 80, 3, 11, 46, 169, 0), (.bipush 8, 2, 0, 0, 0, nI 8), (.iload 5, 2, 5, 0, 0, 0), (.imul, 1, 0, 0, 0, 0), (.iload 4, 2, 4, 0, 0, 0), (.iadd, 1, 0, 0, 0, 0), (.iaload, 1, 0, 0, 0, 0)] [(8 * i5) + (ix x3), (3 * n2) + 2, (8 * i5) + (ix x4), (3 * n2) + 2, (8 * i5) + (ix x4)] (pc2 := 155) (ls2 := [some (.ref 54), some (.int (nI n1)), some (.int (nI n2)), some (.int x3), some (.int x4), some (.int (nI i5)), some (.int (((k_layFar_80 (M.1 60) (M.1 76) n1 n2 x3 x4 i5) ((8 * i5) + (ix x3))) + (M.1 60 ((3 * n2) + 2)))), some (.int (((k_layFar_80 (M.1 60) (M.1 76) n1 n2 x3 x4 i5) ((8 * i5) + (ix x4))) + (M.1 60 ((3 * n2) + 2))))]) (st2 := [.int ((k_layFar_80 (M.1 60) (M.1 76) n1 n2 x3 x4 i5) ((8 * i5) + (ix x4))), .int (((k_layFar_80 (M.1 60) (M.1 76) n1 n2 x3 x4 i5) ((8 * i5) + (ix x3))) + (M.1 60 ((3 * n2) + 2)))]) (M2 := mrow M 76 (k_layFar_80 (M.1 60) (M.1 76) n1 n2 x3 x4 i5)) (Ps := [(((nI 8) * (nI i5)) + x3) = nI ((8 * i5) + (ix x3)) ∧ ((8 * i5) + (ix x3)) < 64, (((nI 3) * (nI n2)) + (nI 2)) = nI ((3 * n2) + 2) ∧ ((3 * n2) + 2) < 36, (((nI 8) * (nI i5)) + x4) = nI ((8 * i5) + (ix x4)) ∧ ((8 * i5) + (ix x4)) < 64, (((nI 3) * (nI n2)) + (nI 2)) = nI ((3 * n2) + 2) ∧ ((3 * n2) + 2) < 36, (((nI 8) * (nI i5)) + x4) = nI ((8 * i5) + (ix x4)) ∧ ((8 * i5) + (ix x4)) < 64]) (by decide +kernel) rfl rfl ⟨⟨(nAdd (pk_mul _ _) (ixE k3)), k4⟩, ⟨(nAdd (pk_mul _ _) rfl), (by omega)⟩, ⟨(nAdd (pk_mul _ _) (ixE k5)), k6⟩, ⟨(nAdd (pk_mul _ _) rfl), (by omega)⟩, ⟨(nAdd (pk_mul _ _) (ixE k5)), k6⟩, trivial⟩ ?_
    refine G.ic_ge (off := (18)) (tgt := 173) (by decide +kernel) rfl (fun c7 => ?_) (fun c7 => ?_)
    · skip
      refine G.sl [(.iload 7, 2, 7, 0, 0, 0), (.aload_n 0, 1, 0, 0, 0, 0), (.getfield 80, 3, 11, 46, 169, 0), (.bipush 8, 2, 0, 0, 0, nI 8), (.iload 5, 2, 5, 0, 0, 0), (.imul, 1, 0, 0, 0, 0), (.iload_n 3, 1, 3, 0, 0, 0), (.iadd, 1, 0, 0, 0, 0), (.iaload, 1, 0, 0, 0, 0)] [(8 * i5) + (ix x3)] (pc2 := 187) (ls2 := [some (.ref 54), some (.int (nI n1)), some (.int (nI n2)), some (.int x3), some (.int x4), some (.int (nI i5)), some (.int (((k_layFar_80 (M.1 60) (M.1 76) n1 n2 x3 x4 i5) ((8 * i5) + (ix x3))) + (M.1 60 ((3 * n2) + 2)))), some (.int (((k_layFar_80 (M.1 60) (M.1 76) n1 n2 x3 x4 i5) ((8 * i5) + (ix x4))) + (M.1 60 ((3 * n2) + 2))))]) (st2 := [.int ((k_layFar_80 (M.1 60) (M.1 76) n1 n2 x3 x4 i5) ((8 * i5) + (ix x3))), .int (((k_layFar_80 (M.1 60) (M.1 76) n1 n2 x3 x4 i5) ((8 * i5) + (ix x4))) + (M.1 60 ((3 * n2) + 2)))]) (M2 := mrow M 76 (k_layFar_80 (M.1 60) (M.1 76) n1 n2 x3 x4 i5)) (Ps := [(((nI 8) * (nI i5)) + x3) = nI ((8 * i5) + (ix x3)) ∧ ((8 * i5) + (ix x3)) < 64]) (by decide +kernel) rfl rfl ⟨⟨(nAdd (pk_mul _ _) (ixE k3)), k4⟩, trivial⟩ ?_
      refine G.ic_ge (off := (17)) (tgt := 204) (by decide +kernel) rfl (fun c8 => ?_) (fun c8 => ?_)
      · skip
        refine G.sl [(.iinc 5 1, 3, 5, 0, 0, nI 1), (.goto (-127), 3, 80, 0, 0, 0)] [] (pc2 := 80) (ls2 := [some (.ref 54), some (.int (nI n1)), some (.int (nI n2)), some (.int x3), some (.int x4), some (.int ((nI i5) + nI 1)), some (.int (((k_layFar_80 (M.1 60) (M.1 76) n1 n2 x3 x4 i5) ((8 * i5) + (ix x3))) + (M.1 60 ((3 * n2) + 2)))), some (.int (((k_layFar_80 (M.1 60) (M.1 76) n1 n2 x3 x4 i5) ((8 * i5) + (ix x4))) + (M.1 60 ((3 * n2) + 2))))]) (st2 := []) (M2 := mrow M 76 (k_layFar_80 (M.1 60) (M.1 76) n1 n2 x3 x4 i5)) (Ps := []) (by decide +kernel) rfl rfl trivial ?_
        refine G.loc (ls2 := [some (.ref 54), some (.int (nI n1)), some (.int (nI n2)), some (.int x3), some (.int x4), some (.int ((nI i5) + nI 1)), none, none]) (by simp [subL]) ?_
        rw [nI_add i5 1]
        simp only [k_layFar_80, if_pos c7, if_pos c8] at ih
        exact ih
      · skip
        refine G.sl [(.aload_n 0, 1, 0, 0, 0, 0), (.getfield 80, 3, 11, 46, 169, 0), (.bipush 8, 2, 0, 0, 0, nI 8), (.iload 5, 2, 5, 0, 0, 0), (.imul, 1, 0, 0, 0, 0), (.iload_n 3, 1, 3, 0, 0, 0), (.iadd, 1, 0, 0, 0, 0), (.iload 7, 2, 7, 0, 0, 0), (.iastore, 1, 0, 0, 0, 0), (.iinc 5 1, 3, 5, 0, 0, nI 1), (.goto (-127), 3, 80, 0, 0, 0)] [(8 * i5) + (ix x3)] (pc2 := 80) (ls2 := [some (.ref 54), some (.int (nI n1)), some (.int (nI n2)), some (.int x3), some (.int x4), some (.int ((nI i5) + nI 1)), some (.int (((k_layFar_80 (M.1 60) (M.1 76) n1 n2 x3 x4 i5) ((8 * i5) + (ix x3))) + (M.1 60 ((3 * n2) + 2)))), some (.int (((k_layFar_80 (M.1 60) (M.1 76) n1 n2 x3 x4 i5) ((8 * i5) + (ix x4))) + (M.1 60 ((3 * n2) + 2))))]) (st2 := []) (M2 := mput (mrow M 76 (k_layFar_80 (M.1 60) (M.1 76) n1 n2 x3 x4 i5)) 76 ((8 * i5) + (ix x3)) (((k_layFar_80 (M.1 60) (M.1 76) n1 n2 x3 x4 i5) ((8 * i5) + (ix x4))) + (M.1 60 ((3 * n2) + 2)))) (Ps := [(((nI 8) * (nI i5)) + x3) = nI ((8 * i5) + (ix x3)) ∧ ((8 * i5) + (ix x3)) < 64]) (by decide +kernel) rfl rfl ⟨⟨(nAdd (pk_mul _ _) (ixE k3)), k4⟩, trivial⟩ ?_
        refine G.mem (M' := mrow M 76 (upd (k_layFar_80 (M.1 60) (M.1 76) n1 n2 x3 x4 i5) ((8 * i5) + (ix x3)) (((k_layFar_80 (M.1 60) (M.1 76) n1 n2 x3 x4 i5) ((8 * i5) + (ix x4))) + (M.1 60 ((3 * n2) + 2))))) (by first | rfl | (simp only [mput, mrow_same, mrow_hit, mrow_miss, mrow_sw, idr_eq, ne_eq, Nat.reduceEqDiff, not_false_eq_true, Nat.reduceLT, reduceCtorEq]; done)) ?_
        refine G.loc (ls2 := [some (.ref 54), some (.int (nI n1)), some (.int (nI n2)), some (.int x3), some (.int x4), some (.int ((nI i5) + nI 1)), none, none]) (by simp [subL]) ?_
        rw [nI_add i5 1]
        simp only [k_layFar_80, if_pos c7, if_neg c8] at ih
        exact ih
    · skip
      refine G.sl [(.aload_n 0, 1, 0, 0, 0, 0), (.getfield 80, 3, 11, 46, 169, 0), (.bipush 8, 2, 0, 0, 0, nI 8), (.iload 5, 2, 5, 0, 0, 0), (.imul, 1, 0, 0, 0, 0), (.iload 4, 2, 4, 0, 0, 0), (.iadd, 1, 0, 0, 0, 0), (.iload 6, 2, 6, 0, 0, 0), (.iastore, 1, 0, 0, 0, 0), (.iload 7, 2, 7, 0, 0, 0), (.aload_n 0, 1, 0, 0, 0, 0), (.getfield 80, 3, 11, 46, 169, 0), (.bipush 8, 2, 0, 0, 0, nI 8), (.iload 5, 2, 5, 0, 0, 0), (.imul, 1, 0, 0, 0, 0), (.iload_n 3, 1, 3, 0, 0, 0), (.iadd, 1, 0, 0, 0, 0), (.iaload, 1, 0, 0, 0, 0)] [(8 * i5) + (ix x4), (8 * i5) + (ix x3)] (pc2 := 187) (ls2 := [some (.ref 54), some (.int (nI n1)), some (.int (nI n2)), some (.int x3), some (.int x4), some (.int (nI i5)), some (.int (((k_layFar_80 (M.1 60) (M.1 76) n1 n2 x3 x4 i5) ((8 * i5) + (ix x3))) + (M.1 60 ((3 * n2) + 2)))), some (.int (((k_layFar_80 (M.1 60) (M.1 76) n1 n2 x3 x4 i5) ((8 * i5) + (ix x4))) + (M.1 60 ((3 * n2) + 2))))]) (st2 := [.int ((upd (k_layFar_80 (M.1 60) (M.1 76) n1 n2 x3 x4 i5) ((8 * i5) + (ix x4)) (((k_layFar_80 (M.1 60) (M.1 76) n1 n2 x3 x4 i5) ((8 * i5) + (ix x3))) + (M.1 60 ((3 * n2) + 2)))) ((8 * i5) + (ix x3))), .int (((k_layFar_80 (M.1 60) (M.1 76) n1 n2 x3 x4 i5) ((8 * i5) + (ix x4))) + (M.1 60 ((3 * n2) + 2)))]) (M2 := mput (mrow M 76 (k_layFar_80 (M.1 60) (M.1 76) n1 n2 x3 x4 i5)) 76 ((8 * i5) + (ix x4)) (((k_layFar_80 (M.1 60) (M.1 76) n1 n2 x3 x4 i5) ((8 * i5) + (ix x3))) + (M.1 60 ((3 * n2) + 2)))) (Ps := [(((nI 8) * (nI i5)) + x4) = nI ((8 * i5) + (ix x4)) ∧ ((8 * i5) + (ix x4)) < 64, (((nI 8) * (nI i5)) + x3) = nI ((8 * i5) + (ix x3)) ∧ ((8 * i5) + (ix x3)) < 64]) (by decide +kernel) rfl rfl ⟨⟨(nAdd (pk_mul _ _) (ixE k5)), k6⟩, ⟨(nAdd (pk_mul _ _) (ixE k3)), k4⟩, trivial⟩ ?_
      refine G.mem (M' := mrow M 76 (upd (k_layFar_80 (M.1 60) (M.1 76) n1 n2 x3 x4 i5) ((8 * i5) + (ix x4)) (((k_layFar_80 (M.1 60) (M.1 76) n1 n2 x3 x4 i5) ((8 * i5) + (ix x3))) + (M.1 60 ((3 * n2) + 2))))) (by first | rfl | (simp only [mput, mrow_same, mrow_hit, mrow_miss, mrow_sw, idr_eq, ne_eq, Nat.reduceEqDiff, not_false_eq_true, Nat.reduceLT, reduceCtorEq]; done)) ?_
      refine G.ic_ge (off := (17)) (tgt := 204) (by decide +kernel) rfl (fun c9 => ?_) (fun c9 => ?_)
      · skip
        refine G.sl [(.iinc 5 1, 3, 5, 0, 0, nI 1), (.goto (-127), 3, 80, 0, 0, 0)] [] (pc2 := 80) (ls2 := [some (.ref 54), some (.int (nI n1)), some (.int (nI n2)), some (.int x3), some (.int x4), some (.int ((nI i5) + nI 1)), some (.int (((k_layFar_80 (M.1 60) (M.1 76) n1 n2 x3 x4 i5) ((8 * i5) + (ix x3))) + (M.1 60 ((3 * n2) + 2)))), some (.int (((k_layFar_80 (M.1 60) (M.1 76) n1 n2 x3 x4 i5) ((8 * i5) + (ix x4))) + (M.1 60 ((3 * n2) + 2))))]) (st2 := []) (M2 := mrow M 76 (upd (k_layFar_80 (M.1 60) (M.1 76) n1 n2 x3 x4 i5) ((8 * i5) + (ix x4)) (((k_layFar_80 (M.1 60) (M.1 76) n1 n2 x3 x4 i5) ((8 * i5) + (ix x3))) + (M.1 60 ((3 * n2) + 2))))) (Ps := []) (by decide +kernel) rfl rfl trivial ?_
        refine G.loc (ls2 := [some (.ref 54), some (.int (nI n1)), some (.int (nI n2)), some (.int x3), some (.int x4), some (.int ((nI i5) + nI 1)), none, none]) (by simp [subL]) ?_
        rw [nI_add i5 1]
        simp only [k_layFar_80, if_neg c7, if_pos c9] at ih
        exact ih
      · skip
        refine G.sl [(.aload_n 0, 1, 0, 0, 0, 0), (.getfield 80, 3, 11, 46, 169, 0), (.bipush 8, 2, 0, 0, 0, nI 8), (.iload 5, 2, 5, 0, 0, 0), (.imul, 1, 0, 0, 0, 0), (.iload_n 3, 1, 3, 0, 0, 0), (.iadd, 1, 0, 0, 0, 0), (.iload 7, 2, 7, 0, 0, 0), (.iastore, 1, 0, 0, 0, 0), (.iinc 5 1, 3, 5, 0, 0, nI 1), (.goto (-127), 3, 80, 0, 0, 0)] [(8 * i5) + (ix x3)] (pc2 := 80) (ls2 := [some (.ref 54), some (.int (nI n1)), some (.int (nI n2)), some (.int x3), some (.int x4), some (.int ((nI i5) + nI 1)), some (.int (((k_layFar_80 (M.1 60) (M.1 76) n1 n2 x3 x4 i5) ((8 * i5) + (ix x3))) + (M.1 60 ((3 * n2) + 2)))), some (.int (((k_layFar_80 (M.1 60) (M.1 76) n1 n2 x3 x4 i5) ((8 * i5) + (ix x4))) + (M.1 60 ((3 * n2) + 2))))]) (st2 := []) (M2 := mput (mrow M 76 (upd (k_layFar_80 (M.1 60) (M.1 76) n1 n2 x3 x4 i5) ((8 * i5) + (ix x4)) (((k_layFar_80 (M.1 60) (M.1 76) n1 n2 x3 x4 i5) ((8 * i5) + (ix x3))) + (M.1 60 ((3 * n2) + 2))))) 76 ((8 * i5) + (ix x3)) (((k_layFar_80 (M.1 60) (M.1 76) n1 n2 x3 x4 i5) ((8 * i5) + (ix x4))) + (M.1 60 ((3 * n2) + 2)))) (Ps := [(((nI 8) * (nI i5)) + x3) = nI ((8 * i5) + (ix x3)) ∧ ((8 * i5) + (ix x3)) < 64]) (by decide +kernel) rfl rfl ⟨⟨(nAdd (pk_mul _ _) (ixE k3)), k4⟩, trivial⟩ ?_
        refine G.mem (M' := mrow M 76 (upd (upd (k_layFar_80 (M.1 60) (M.1 76) n1 n2 x3 x4 i5) ((8 * i5) + (ix x4)) (((k_layFar_80 (M.1 60) (M.1 76) n1 n2 x3 x4 i5) ((8 * i5) + (ix x3))) + (M.1 60 ((3 * n2) + 2)))) ((8 * i5) + (ix x3)) (((k_layFar_80 (M.1 60) (M.1 76) n1 n2 x3 x4 i5) ((8 * i5) + (ix x4))) + (M.1 60 ((3 * n2) + 2))))) (by first | rfl | (simp only [mput, mrow_same, mrow_hit, mrow_miss, mrow_sw, idr_eq, ne_eq, Nat.reduceEqDiff, not_false_eq_true, Nat.reduceLT, reduceCtorEq]; done)) ?_
        refine G.loc (ls2 := [some (.ref 54), some (.int (nI n1)), some (.int (nI n2)), some (.int x3), some (.int x4), some (.int ((nI i5) + nI 1)), none, none]) (by simp [subL]) ?_
        rw [nI_add i5 1]
        simp only [k_layFar_80, if_neg c7, if_neg c9] at ih
        exact ih
noncomputable def k_layFar_48 (Rroad RfarOf : Nat → Int32) (np : Nat) (n1 : Nat) : Nat → (Nat → Int32)
  | 0 => RfarOf
  | i2 + 1 => k_layFar_80 (Rroad) (k_layFar_48 Rroad RfarOf np n1 i2) n1 i2 (Rroad (3 * i2)) (Rroad ((3 * i2) + 1)) np
noncomputable def k_layFar_48_ok (Rroad RfarOf : Nat → Int32) (np : Nat) (n1 : Nat) (i2 : Nat) : Prop := ((∀ i5, i5 < np → k_layFar_80_ok (Rroad) (k_layFar_48 Rroad RfarOf np n1 i2) n1 i2 (Rroad (3 * i2)) (Rroad ((3 * i2) + 1)) i5) ∧ True)
set_option maxHeartbeats 4000000 in
set_option maxRecDepth 3000 in
theorem lp_k_layFar_54_48 (z : Zp) (d : Nat) (M : Mem) (Q : Rs → Prop) (n1 : Nat) (np : Nat) (hnp : np ≤ 8) (cp : M.1 54 20 = nI np) (nr : Nat) (hnr : nr ≤ 12) (cr : M.1 54 21 = nI nr) (b1 : n1 < 8) (hk : ∀ i2, i2 < nr → k_layFar_48_ok (M.1 60) (M.1 76) np n1 i2) (hX : G z mX12_layFar (d) 0 0 216 [some (.ref 54), some (.int (nI n1)), none, none, none, none, none, none] [] (mrow M 76 (k_layFar_48 (M.1 60) (M.1 76) np n1 nr)) Q) : G z mX12_layFar (d) 0 0 48 [some (.ref 54), some (.int (nI n1)), some (.int (nI 0)), none, none, none, none, none] [] M Q := by
  refine G.mem (M' := mrow M 76 (M.1 76)) (by simp only [mrow_self]) ?_
  refine down (n := nr) (P := fun i2 => G z mX12_layFar (d) 0 0 48 [some (.ref 54), some (.int (nI n1)), some (.int (nI i2)), none, none, none, none, none] [] (mrow M 76 (k_layFar_48 (M.1 60) (M.1 76) np n1 i2)) Q) ?_ ?_ 0 (Nat.zero_le _)
  · skip
    refine G.sl [(.iload_n 2, 1, 2, 0, 0, 0), (.aload_n 0, 1, 0, 0, 0, 0), (.getfield 159, 3, 11, 21, 144, 0)] [] (pc2 := 53) (ls2 := [some (.ref 54), some (.int (nI n1)), some (.int (nI nr)), none, none, none, none, none]) (st2 := [.int (M.1 54 21), .int (nI nr)]) (M2 := mrow M 76 (k_layFar_48 (M.1 60) (M.1 76) np n1 nr)) (Ps := []) (by decide +kernel) rfl rfl trivial ?_
    rw [cr]
    refine G.ic_ge (off := (163)) (tgt := 216) (by decide +kernel) rfl (fun _ => ?_) (fun h9 => absurd (nI_le (by omega) (by omega)) h9)
    refine G.loc (ls2 := [some (.ref 54), some (.int (nI n1)), none, none, none, none, none, none]) (by simp [subL]) ?_
    exact hX
  · skip
    intro i2 hi ih
    have hk := hk i2 hi
    simp only [k_layFar_48_ok] at hk
    show G z mX12_layFar (d) 0 0 48 [some (.ref 54), some (.int (nI n1)), some (.int (nI i2)), none, none, none, none, none] [] (mrow M 76 (k_layFar_48 (M.1 60) (M.1 76) np n1 i2)) Q
    refine G.sl [(.iload_n 2, 1, 2, 0, 0, 0), (.aload_n 0, 1, 0, 0, 0, 0), (.getfield 159, 3, 11, 21, 144, 0)] [] (pc2 := 53) (ls2 := [some (.ref 54), some (.int (nI n1)), some (.int (nI i2)), none, none, none, none, none]) (st2 := [.int (M.1 54 21), .int (nI i2)]) (M2 := mrow M 76 (k_layFar_48 (M.1 60) (M.1 76) np n1 i2)) (Ps := []) (by decide +kernel) rfl rfl trivial ?_
    rw [cr]
    refine G.ic_ge (off := (163)) (tgt := 216) (by decide +kernel) rfl (fun h9 => absurd h9 (nI_ge (by omega) (by omega))) (fun _ => ?_)
    refine G.sl [(.aload_n 0, 1, 0, 0, 0, 0), (.getfield 32, 3, 11, 13, 136, 0), (.iconst 3, 1, 0, 0, 0, nI 3), (.iload_n 2, 1, 2, 0, 0, 0), (.imul, 1, 0, 0, 0, 0), (.iaload, 1, 0, 0, 0, 0), (.istore_n 3, 1, 3, 0, 0, 0), (.aload_n 0, 1, 0, 0, 0, 0), (.getfield 32, 3, 11, 13, 136, 0), (.iconst 3, 1, 0, 0, 0, nI 3), (.iload_n 2, 1, 2, 0, 0, 0), (.imul, 1, 0, 0, 0, 0), (.iconst 1, 1, 0, 0, 0, nI 1), (.iadd, 1, 0, 0, 0, 0), (.iaload, 1, 0, 0, 0, 0), (.istore 4, 2, 4, 0, 0, 0), (.iconst 0, 1, 0, 0, 0, nI 0), (.istore 5, 2, 5, 0, 0, 0)] [3 * i2, (3 * i2) + 1] (pc2 := 80) (ls2 := [some (.ref 54), some (.int (nI n1)), some (.int (nI i2)), some (.int (M.1 60 (3 * i2))), some (.int (M.1 60 ((3 * i2) + 1))), some (.int (nI 0)), none, none]) (st2 := []) (M2 := mrow M 76 (k_layFar_48 (M.1 60) (M.1 76) np n1 i2)) (Ps := [((nI 3) * (nI i2)) = nI (3 * i2) ∧ (3 * i2) < 36, (((nI 3) * (nI i2)) + (nI 1)) = nI ((3 * i2) + 1) ∧ ((3 * i2) + 1) < 36]) (by decide +kernel) rfl rfl ⟨⟨(pk_mul _ _), (by omega)⟩, ⟨(nAdd (pk_mul _ _) rfl), (by omega)⟩, trivial⟩ ?_
    obtain ⟨k10, hk⟩ := hk
    refine lp_k_layFar_54_80 z d (mrow M 76 (k_layFar_48 (M.1 60) (M.1 76) np n1 i2)) Q n1 i2 (M.1 60 (3 * i2)) (M.1 60 ((3 * i2) + 1)) np hnp cp (by omega) (by omega) (by first | (simp only [mput, mrow_same, mrow_hit, mrow_miss, mrow_sw, idr_eq, ne_eq, Nat.reduceEqDiff, not_false_eq_true, Nat.reduceLT, reduceCtorEq]; exact k10) | exact k10) ?_
    try simp only [mput, mrow_same, mrow_hit, mrow_miss, mrow_sw, idr_eq, ne_eq, Nat.reduceEqDiff, not_false_eq_true, Nat.reduceLT, reduceCtorEq]
    show G z mX12_layFar (d) 0 0 210 [some (.ref 54), some (.int (nI n1)), some (.int (nI i2)), none, none, none, none, none] [] (mrow M 76 (k_layFar_80 (M.1 60) (k_layFar_48 (M.1 60) (M.1 76) np n1 i2) n1 i2 (M.1 60 (3 * i2)) (M.1 60 ((3 * i2) + 1)) np)) Q
    refine G.sl [(.iinc 2 1, 3, 2, 0, 0, nI 1), (.goto (-165), 3, 48, 0, 0, 0)] [] (pc2 := 48) (ls2 := [some (.ref 54), some (.int (nI n1)), some (.int ((nI i2) + nI 1)), none, none, none, none, none]) (st2 := []) (M2 := mrow M 76 (k_layFar_80 (M.1 60) (k_layFar_48 (M.1 60) (M.1 76) np n1 i2) n1 i2 (M.1 60 (3 * i2)) (M.1 60 ((3 * i2) + 1)) np)) (Ps := []) (by decide +kernel) rfl rfl trivial ?_
    rw [nI_add i2 1]
    simp only [k_layFar_48] at ih
    exact ih
noncomputable def k_layFar_40 (Rroad RfarOf : Nat → Int32) (np nr : Nat) : Nat → (Nat → Int32)
  | 0 => RfarOf
  | i1 + 1 => k_layFar_48 (Rroad) (k_layFar_40 Rroad RfarOf np nr i1) np i1 nr
noncomputable def k_layFar_40_ok (Rroad RfarOf : Nat → Int32) (np nr : Nat) (i1 : Nat) : Prop := ((∀ i2, i2 < nr → k_layFar_48_ok (Rroad) (k_layFar_40 Rroad RfarOf np nr i1) np i1 i2) ∧ True)
set_option maxHeartbeats 4000000 in
set_option maxRecDepth 3000 in
theorem lp_k_layFar_54_40 (z : Zp) (d : Nat) (M : Mem) (Q : Rs → Prop) (nn : Nat) (np : Nat) (hnp : np ≤ 8) (cp : M.1 54 20 = nI np) (nr : Nat) (hnr : nr ≤ 12) (cr : M.1 54 21 = nI nr) (hnn : nn = 8) (hk : ∀ i1, i1 < nn → k_layFar_40_ok (M.1 60) (M.1 76) np nr i1) (hX : G z mX12_layFar (d) 0 0 222 [none, none, none, none, none, none, none, none] [] (mrow M 76 (k_layFar_40 (M.1 60) (M.1 76) np nr nn)) Q) : G z mX12_layFar (d) 0 0 40 [some (.ref 54), some (.int (nI 0)), none, none, none, none, none, none] [] M Q := by
  refine G.mem (M' := mrow M 76 (M.1 76)) (by simp only [mrow_self]) ?_
  refine down (n := nn) (P := fun i1 => G z mX12_layFar (d) 0 0 40 [some (.ref 54), some (.int (nI i1)), none, none, none, none, none, none] [] (mrow M 76 (k_layFar_40 (M.1 60) (M.1 76) np nr i1)) Q) ?_ ?_ 0 (Nat.zero_le _)
  · skip
    refine G.sl [(.iload_n 1, 1, 1, 0, 0, 0), (.bipush 8, 2, 0, 0, 0, nI 8)] [] (pc2 := 43) (ls2 := [some (.ref 54), some (.int (nI nn)), none, none, none, none, none, none]) (st2 := [.int (nI 8), .int (nI nn)]) (M2 := mrow M 76 (k_layFar_40 (M.1 60) (M.1 76) np nr nn)) (Ps := []) (by decide +kernel) rfl rfl trivial ?_
    refine G.ic_ge (off := (179)) (tgt := 222) (by decide +kernel) rfl (fun _ => ?_) (fun h9 => absurd (nI_le (by omega) (by omega)) h9)
    refine G.loc (ls2 := [none, none, none, none, none, none, none, none]) (by simp [subL]) ?_
    exact hX
  · skip
    intro i1 hi ih
    have hk := hk i1 hi
    simp only [k_layFar_40_ok] at hk
    show G z mX12_layFar (d) 0 0 40 [some (.ref 54), some (.int (nI i1)), none, none, none, none, none, none] [] (mrow M 76 (k_layFar_40 (M.1 60) (M.1 76) np nr i1)) Q
    refine G.sl [(.iload_n 1, 1, 1, 0, 0, 0), (.bipush 8, 2, 0, 0, 0, nI 8)] [] (pc2 := 43) (ls2 := [some (.ref 54), some (.int (nI i1)), none, none, none, none, none, none]) (st2 := [.int (nI 8), .int (nI i1)]) (M2 := mrow M 76 (k_layFar_40 (M.1 60) (M.1 76) np nr i1)) (Ps := []) (by decide +kernel) rfl rfl trivial ?_
    refine G.ic_ge (off := (179)) (tgt := 222) (by decide +kernel) rfl (fun h9 => absurd h9 (nI_ge (by omega) (by omega))) (fun _ => ?_)
    refine G.sl [(.iconst 0, 1, 0, 0, 0, nI 0), (.istore_n 2, 1, 2, 0, 0, 0)] [] (pc2 := 48) (ls2 := [some (.ref 54), some (.int (nI i1)), some (.int (nI 0)), none, none, none, none, none]) (st2 := []) (M2 := mrow M 76 (k_layFar_40 (M.1 60) (M.1 76) np nr i1)) (Ps := []) (by decide +kernel) rfl rfl trivial ?_
    obtain ⟨k11, hk⟩ := hk
    refine lp_k_layFar_54_48 z d (mrow M 76 (k_layFar_40 (M.1 60) (M.1 76) np nr i1)) Q i1 np hnp cp nr hnr cr (by omega) (by first | (simp only [mput, mrow_same, mrow_hit, mrow_miss, mrow_sw, idr_eq, ne_eq, Nat.reduceEqDiff, not_false_eq_true, Nat.reduceLT, reduceCtorEq]; exact k11) | exact k11) ?_
    try simp only [mput, mrow_same, mrow_hit, mrow_miss, mrow_sw, idr_eq, ne_eq, Nat.reduceEqDiff, not_false_eq_true, Nat.reduceLT, reduceCtorEq]
    show G z mX12_layFar (d) 0 0 216 [some (.ref 54), some (.int (nI i1)), none, none, none, none, none, none] [] (mrow M 76 (k_layFar_48 (M.1 60) (k_layFar_40 (M.1 60) (M.1 76) np nr i1) np i1 nr)) Q
    refine G.sl [(.iinc 1 1, 3, 1, 0, 0, nI 1), (.goto (-179), 3, 40, 0, 0, 0)] [] (pc2 := 40) (ls2 := [some (.ref 54), some (.int ((nI i1) + nI 1)), none, none, none, none, none, none]) (st2 := []) (M2 := mrow M 76 (k_layFar_48 (M.1 60) (k_layFar_40 (M.1 60) (M.1 76) np nr i1) np i1 nr)) (Ps := []) (by decide +kernel) rfl rfl trivial ?_
    rw [nI_add i1 1]
    simp only [k_layFar_40] at ih
    exact ih
noncomputable def k_layFar (Rroad RfarOf : Nat → Int32) (np nr : Nat) : Int32 × (Nat → Int32) := (0, k_layFar_40 (Rroad) (k_layFar_2 (RfarOf) (cN 64)) np nr (cN 8))
noncomputable def k_layFar_ok (Rroad RfarOf : Nat → Int32) (np nr : Nat) : Prop := (True ∧ ((∀ i1, i1 < (cN 8) → k_layFar_40_ok (Rroad) (k_layFar_2 (RfarOf) (cN 64)) np nr i1) ∧ True))
set_option maxHeartbeats 4000000 in
set_option maxRecDepth 3000 in
theorem c_k_layFar_54 (z : Zp) (d : Nat) (M : Mem) (np : Nat) (hnp : np ≤ 8) (cp : M.1 54 20 = nI np) (nr : Nat) (hnr : nr ≤ 12) (cr : M.1 54 21 = nI nr) (hk : k_layFar_ok (M.1 60) (M.1 76) np nr) : GM z mX12_layFar (d) [.ref 54] M (fun rs => rs = .inl (none, mrow M 76 ((k_layFar (M.1 60) (M.1 76) np nr).2))) := by
  simp only [k_layFar_ok] at hk
  refine GM.of oX12_layFar.1 (Nat.le_of_ble_eq_true rfl) ?_
  show G z mX12_layFar (d) 0 0 0 [some (.ref 54), none, none, none, none, none, none, none] [] M _
  obtain ⟨Q, hQ⟩ : ∃ Q : Rs → Prop, Q = (fun rs => rs = .inl (none, mrow M 76 ((k_layFar (M.1 60) (M.1 76) np nr).2))) := ⟨_, rfl⟩
  rw [← hQ]
  refine G.sl [(.iconst 0, 1, 0, 0, 0, nI 0), (.istore_n 1, 1, 1, 0, 0, 0)] [] (pc2 := 2) (ls2 := [some (.ref 54), some (.int (nI 0)), none, none, none, none, none, none]) (st2 := []) (M2 := M) (Ps := []) (by decide +kernel) rfl rfl trivial ?_
  obtain ⟨k2, hk⟩ := hk
  refine lp_k_layFar_54_2 z d M Q (cN 64) (cN_eq 64) ?_
  try simp only [mput, mrow_same, mrow_hit, mrow_miss, mrow_sw, idr_eq, ne_eq, Nat.reduceEqDiff, not_false_eq_true, Nat.reduceLT, reduceCtorEq]
  show G z mX12_layFar (d) 0 0 38 [some (.ref 54), none, none, none, none, none, none, none] [] (mrow M 76 (k_layFar_2 (M.1 76) (cN 64))) Q
  refine G.sl [(.iconst 0, 1, 0, 0, 0, nI 0), (.istore_n 1, 1, 1, 0, 0, 0)] [] (pc2 := 40) (ls2 := [some (.ref 54), some (.int (nI 0)), none, none, none, none, none, none]) (st2 := []) (M2 := mrow M 76 (k_layFar_2 (M.1 76) (cN 64))) (Ps := []) (by decide +kernel) rfl rfl trivial ?_
  obtain ⟨k12, hk⟩ := hk
  refine lp_k_layFar_54_40 z d (mrow M 76 (k_layFar_2 (M.1 76) (cN 64))) Q (cN 8) np hnp cp nr hnr cr (cN_eq 8) (by first | (simp only [mput, mrow_same, mrow_hit, mrow_miss, mrow_sw, idr_eq, ne_eq, Nat.reduceEqDiff, not_false_eq_true, Nat.reduceLT, reduceCtorEq]; exact k12) | exact k12) ?_
  try simp only [mput, mrow_same, mrow_hit, mrow_miss, mrow_sw, idr_eq, ne_eq, Nat.reduceEqDiff, not_false_eq_true, Nat.reduceLT, reduceCtorEq]
  show G z mX12_layFar (d) 0 0 222 [none, none, none, none, none, none, none, none] [] (mrow M 76 (k_layFar_40 (M.1 60) (k_layFar_2 (M.1 76) (cN 64)) np nr (cN 8))) Q
  exact G.retv (by decide +kernel) rfl (Nat.le_of_ble_eq_true rfl) (Nat.le_of_ble_eq_true rfl) ((by rw [hQ]; simp only [k_layFar, mrow_self]))
noncomputable def k_sets (Rmd RnewRoad RnewThing RnewFinder Rroad Rthing Rfinder Rnow Rbook RfarOf : Nat → Int32) : Int32 × (Nat → Int32) × (Nat → Int32) × (Nat → Int32) × (Nat → Int32) × (Nat → Int32) × (Nat → Int32) × (Nat → Int32) := (match k_copies_L36_L36 (RnewRoad) (Rroad) 36 with | (u3, r4) => (match k_copies_L30_L30 (RnewThing) (Rthing) 30 with | (u9, r10) => (match k_copies_L6_L6 (RnewFinder) (Rfinder) 6 with | (u15, r16) => (match k_layFar r4 (RfarOf) (ix (Rmd 16)) (ix (Rmd 17)) with | (u34, r35) => (0, upd (upd (upd (upd (upd (upd (upd (upd (upd (Rmd) 20 (Rmd 16)) 21 (Rmd 17)) 22 (Rmd 18)) 23 (Rmd 19)) 30 (nI 0)) 45 (nI 0)) 35 (nI 0)) 51 (nI 0)) 36 (nI 0), r4, r10, r16, k_sets_216 r16 (k_sets_143 r10 (k_sets_122 (Rnow) (cN 51)) (ix (Rmd 18)) (cN 10)) (ix (Rmd 19)), k_sets_101 (Rbook) (cN 8), r35)))))
noncomputable def k_sets_ok (Rmd RnewRoad RnewThing RnewFinder Rroad Rthing Rfinder Rnow Rbook RfarOf : Nat → Int32) : Prop := (k_copies_L36_L36_ok (RnewRoad) (Rroad) 36 ∧ (match k_copies_L36_L36 (RnewRoad) (Rroad) 36 with | (u3, r4) => (k_copies_L30_L30_ok (RnewThing) (Rthing) 30 ∧ (match k_copies_L30_L30 (RnewThing) (Rthing) 30 with | (u9, r10) => (k_copies_L6_L6_ok (RnewFinder) (Rfinder) 6 ∧ (match k_copies_L6_L6 (RnewFinder) (Rfinder) 6 with | (u15, r16) => (True ∧ (True ∧ ((isN (Rmd 18)) ∧ (ix (Rmd 18) ≤ 10) ∧ (True ∧ ((isN (Rmd 19)) ∧ (ix (Rmd 19) ≤ 6) ∧ (True ∧ ((isN (Rmd 16)) ∧ (ix (Rmd 16) ≤ 8) ∧ (isN (Rmd 17)) ∧ (ix (Rmd 17) ≤ 12) ∧ (k_layFar_ok r4 (RfarOf) (ix (Rmd 16)) (ix (Rmd 17)) ∧ True))))))))))))))
set_option maxHeartbeats 4000000 in
set_option maxRecDepth 3000 in
theorem c_k_sets_54 (z : Zp) (d : Nat) (M : Mem) (hk : k_sets_ok (M.1 54) (M.1 57) (M.1 58) (M.1 59) (M.1 60) (M.1 61) (M.1 62) (M.1 71) (M.1 75) (M.1 76)) : GM z mX12_sets (d + 1) [.ref 54] M (fun rs => rs = .inl (none, mrow (mrow (mrow (mrow (mrow (mrow (mrow M 54 ((k_sets (M.1 54) (M.1 57) (M.1 58) (M.1 59) (M.1 60) (M.1 61) (M.1 62) (M.1 71) (M.1 75) (M.1 76)).2.1)) 60 ((k_sets (M.1 54) (M.1 57) (M.1 58) (M.1 59) (M.1 60) (M.1 61) (M.1 62) (M.1 71) (M.1 75) (M.1 76)).2.2.1)) 61 ((k_sets (M.1 54) (M.1 57) (M.1 58) (M.1 59) (M.1 60) (M.1 61) (M.1 62) (M.1 71) (M.1 75) (M.1 76)).2.2.2.1)) 62 ((k_sets (M.1 54) (M.1 57) (M.1 58) (M.1 59) (M.1 60) (M.1 61) (M.1 62) (M.1 71) (M.1 75) (M.1 76)).2.2.2.2.1)) 71 ((k_sets (M.1 54) (M.1 57) (M.1 58) (M.1 59) (M.1 60) (M.1 61) (M.1 62) (M.1 71) (M.1 75) (M.1 76)).2.2.2.2.2.1)) 75 ((k_sets (M.1 54) (M.1 57) (M.1 58) (M.1 59) (M.1 60) (M.1 61) (M.1 62) (M.1 71) (M.1 75) (M.1 76)).2.2.2.2.2.2.1)) 76 ((k_sets (M.1 54) (M.1 57) (M.1 58) (M.1 59) (M.1 60) (M.1 61) (M.1 62) (M.1 71) (M.1 75) (M.1 76)).2.2.2.2.2.2.2))) := by
  simp only [k_sets_ok] at hk
  refine GM.of oX12_sets.1 (Nat.le_of_ble_eq_true rfl) ?_
  show G z mX12_sets (d + 1) 0 0 0 [some (.ref 54), none] [] M _
  obtain ⟨Q, hQ⟩ : ∃ Q : Rs → Prop, Q = (fun rs => rs = .inl (none, mrow (mrow (mrow (mrow (mrow (mrow (mrow M 54 ((k_sets (M.1 54) (M.1 57) (M.1 58) (M.1 59) (M.1 60) (M.1 61) (M.1 62) (M.1 71) (M.1 75) (M.1 76)).2.1)) 60 ((k_sets (M.1 54) (M.1 57) (M.1 58) (M.1 59) (M.1 60) (M.1 61) (M.1 62) (M.1 71) (M.1 75) (M.1 76)).2.2.1)) 61 ((k_sets (M.1 54) (M.1 57) (M.1 58) (M.1 59) (M.1 60) (M.1 61) (M.1 62) (M.1 71) (M.1 75) (M.1 76)).2.2.2.1)) 62 ((k_sets (M.1 54) (M.1 57) (M.1 58) (M.1 59) (M.1 60) (M.1 61) (M.1 62) (M.1 71) (M.1 75) (M.1 76)).2.2.2.2.1)) 71 ((k_sets (M.1 54) (M.1 57) (M.1 58) (M.1 59) (M.1 60) (M.1 61) (M.1 62) (M.1 71) (M.1 75) (M.1 76)).2.2.2.2.2.1)) 75 ((k_sets (M.1 54) (M.1 57) (M.1 58) (M.1 59) (M.1 60) (M.1 61) (M.1 62) (M.1 71) (M.1 75) (M.1 76)).2.2.2.2.2.2.1)) 76 ((k_sets (M.1 54) (M.1 57) (M.1 58) (M.1 59) (M.1 60) (M.1 61) (M.1 62) (M.1 71) (M.1 75) (M.1 76)).2.2.2.2.2.2.2))) := ⟨_, rfl⟩
  rw [← hQ]
  refine G.sl [(.aload_n 0, 1, 0, 0, 0, 0), (.aload_n 0, 1, 0, 0, 0, 0), (.getfield 144, 3, 11, 16, 139, 0), (.putfield 156, 3, 11, 20, 143, 0), (.aload_n 0, 1, 0, 0, 0, 0), (.aload_n 0, 1, 0, 0, 0, 0), (.getfield 147, 3, 11, 17, 140, 0), (.putfield 159, 3, 11, 21, 144, 0), (.aload_n 0, 1, 0, 0, 0, 0), (.aload_n 0, 1, 0, 0, 0, 0), (.getfield 150, 3, 11, 18, 141, 0), (.putfield 162, 3, 11, 22, 145, 0), (.aload_n 0, 1, 0, 0, 0, 0), (.aload_n 0, 1, 0, 0, 0, 0), (.getfield 153, 3, 11, 19, 142, 0), (.putfield 165, 3, 11, 23, 146, 0), (.aload_n 0, 1, 0, 0, 0, 0), (.aload_n 0, 1, 0, 0, 0, 0), (.getfield 23, 3, 11, 10, 133, 0), (.aload_n 0, 1, 0, 0, 0, 0), (.getfield 32, 3, 11, 13, 136, 0), (.bipush 36, 2, 0, 0, 0, nI 36)] [] (pc2 := 43) (ls2 := [some (.ref 54), none]) (st2 := [.int (nI 36), .ref 60, .ref 57, .ref 54]) (M2 := mput (mput (mput (mput M 54 20 (M.1 54 16)) 54 21 (M.1 54 17)) 54 22 (M.1 54 18)) 54 23 (M.1 54 19)) (Ps := []) (by decide +kernel) rfl rfl trivial ?_
  refine G.mem (M' := mrow M 54 (upd (upd (upd (upd (M.1 54) 20 (M.1 54 16)) 21 (M.1 54 17)) 22 (M.1 54 18)) 23 (M.1 54 19))) (by first | rfl | (simp only [mput, mrow_same, mrow_hit, mrow_miss, mrow_sw, idr_eq, ne_eq, Nat.reduceEqDiff, not_false_eq_true, Nat.reduceLT, reduceCtorEq]; done)) ?_
  obtain ⟨k1, hk⟩ := hk
  rcases g2 : k_copies_L36_L36 (M.1 57) (M.1 60) 36 with ⟨u3, r4⟩
  try simp only [g2] at hk
  have t5 : GM z mX12_copies (d) [.ref 54, .ref 57, .ref 60, .int (nI 36)] (mrow M 54 (upd (upd (upd (upd (M.1 54) 20 (M.1 54 16)) 21 (M.1 54 17)) 22 (M.1 54 18)) 23 (M.1 54 19))) (fun rs => rs = .inl (none, mrow (mrow M 54 (upd (upd (upd (upd (M.1 54) 20 (M.1 54 16)) 21 (M.1 54 17)) 22 (M.1 54 18)) 23 (M.1 54 19))) 60 r4)) := by
    have q9 := c_k_copies_L36_L36_54_57_60 z d (mrow M 54 (upd (upd (upd (upd (M.1 54) 20 (M.1 54 16)) 21 (M.1 54 17)) 22 (M.1 54 18)) 23 (M.1 54 19))) 36 (by omega) k1
    try simp only [mput, mrow_same, mrow_hit, mrow_miss, mrow_sw, idr_eq, ne_eq, Nat.reduceEqDiff, not_false_eq_true, Nat.reduceLT, reduceCtorEq, g2] at q9
    exact q9
  refine G.callV (as := [.ref 57, .ref 60, .int (nI 36)]) (rest := []) (a := 54) oX12_copies lk_EvenFindersModel_168 (by decide +kernel) rfl rfl ⟨rfl, rfl⟩ (Nat.le_of_ble_eq_true rfl) rfl ⟨Nat.le_of_ble_eq_true rfl, Nat.le_of_ble_eq_true rfl⟩ t5 (fun v9 N9 h6 => ?_) (fun E9 N9 h6 => by cases h6)
  cases h6
  show G z mX12_sets (d + 1) 0 0 46 [some (.ref 54), none] [] (mrow (mrow M 54 (upd (upd (upd (upd (M.1 54) 20 (M.1 54 16)) 21 (M.1 54 17)) 22 (M.1 54 18)) 23 (M.1 54 19))) 60 r4) Q
  refine G.sl [(.aload_n 0, 1, 0, 0, 0, 0), (.aload_n 0, 1, 0, 0, 0, 0), (.getfield 26, 3, 11, 11, 134, 0), (.aload_n 0, 1, 0, 0, 0, 0), (.getfield 35, 3, 11, 14, 137, 0), (.bipush 30, 2, 0, 0, 0, nI 30)] [] (pc2 := 57) (ls2 := [some (.ref 54), none]) (st2 := [.int (nI 30), .ref 61, .ref 58, .ref 54]) (M2 := mrow (mrow M 54 (upd (upd (upd (upd (M.1 54) 20 (M.1 54 16)) 21 (M.1 54 17)) 22 (M.1 54 18)) 23 (M.1 54 19))) 60 r4) (Ps := []) (by decide +kernel) rfl rfl trivial ?_
  obtain ⟨k7, hk⟩ := hk
  rcases g8 : k_copies_L30_L30 (M.1 58) (M.1 61) 30 with ⟨u9, r10⟩
  try simp only [g8] at hk
  have t11 : GM z mX12_copies (d) [.ref 54, .ref 58, .ref 61, .int (nI 30)] (mrow (mrow M 54 (upd (upd (upd (upd (M.1 54) 20 (M.1 54 16)) 21 (M.1 54 17)) 22 (M.1 54 18)) 23 (M.1 54 19))) 60 r4) (fun rs => rs = .inl (none, mrow (mrow (mrow M 54 (upd (upd (upd (upd (M.1 54) 20 (M.1 54 16)) 21 (M.1 54 17)) 22 (M.1 54 18)) 23 (M.1 54 19))) 60 r4) 61 r10)) := by
    have q9 := c_k_copies_L30_L30_54_58_61 z d (mrow (mrow M 54 (upd (upd (upd (upd (M.1 54) 20 (M.1 54 16)) 21 (M.1 54 17)) 22 (M.1 54 18)) 23 (M.1 54 19))) 60 r4) 30 (by omega) k7
    try simp only [mput, mrow_same, mrow_hit, mrow_miss, mrow_sw, idr_eq, ne_eq, Nat.reduceEqDiff, not_false_eq_true, Nat.reduceLT, reduceCtorEq, g8] at q9
    exact q9
  refine G.callV (as := [.ref 58, .ref 61, .int (nI 30)]) (rest := []) (a := 54) oX12_copies lk_EvenFindersModel_168 (by decide +kernel) rfl rfl ⟨rfl, rfl⟩ (Nat.le_of_ble_eq_true rfl) rfl ⟨Nat.le_of_ble_eq_true rfl, Nat.le_of_ble_eq_true rfl⟩ t11 (fun v9 N9 h12 => ?_) (fun E9 N9 h12 => by cases h12)
  cases h12
  show G z mX12_sets (d + 1) 0 0 60 [some (.ref 54), none] [] (mrow (mrow (mrow M 54 (upd (upd (upd (upd (M.1 54) 20 (M.1 54 16)) 21 (M.1 54 17)) 22 (M.1 54 18)) 23 (M.1 54 19))) 60 r4) 61 r10) Q
  refine G.sl [(.aload_n 0, 1, 0, 0, 0, 0), (.aload_n 0, 1, 0, 0, 0, 0), (.getfield 29, 3, 11, 12, 135, 0), (.aload_n 0, 1, 0, 0, 0, 0), (.getfield 38, 3, 11, 15, 138, 0), (.bipush 6, 2, 0, 0, 0, nI 6)] [] (pc2 := 71) (ls2 := [some (.ref 54), none]) (st2 := [.int (nI 6), .ref 62, .ref 59, .ref 54]) (M2 := mrow (mrow (mrow M 54 (upd (upd (upd (upd (M.1 54) 20 (M.1 54 16)) 21 (M.1 54 17)) 22 (M.1 54 18)) 23 (M.1 54 19))) 60 r4) 61 r10) (Ps := []) (by decide +kernel) rfl rfl trivial ?_
  obtain ⟨k13, hk⟩ := hk
  rcases g14 : k_copies_L6_L6 (M.1 59) (M.1 62) 6 with ⟨u15, r16⟩
  try simp only [g14] at hk
  have t17 : GM z mX12_copies (d) [.ref 54, .ref 59, .ref 62, .int (nI 6)] (mrow (mrow (mrow M 54 (upd (upd (upd (upd (M.1 54) 20 (M.1 54 16)) 21 (M.1 54 17)) 22 (M.1 54 18)) 23 (M.1 54 19))) 60 r4) 61 r10) (fun rs => rs = .inl (none, mrow (mrow (mrow (mrow M 54 (upd (upd (upd (upd (M.1 54) 20 (M.1 54 16)) 21 (M.1 54 17)) 22 (M.1 54 18)) 23 (M.1 54 19))) 60 r4) 61 r10) 62 r16)) := by
    have q9 := c_k_copies_L6_L6_54_59_62 z d (mrow (mrow (mrow M 54 (upd (upd (upd (upd (M.1 54) 20 (M.1 54 16)) 21 (M.1 54 17)) 22 (M.1 54 18)) 23 (M.1 54 19))) 60 r4) 61 r10) 6 (by omega) k13
    try simp only [mput, mrow_same, mrow_hit, mrow_miss, mrow_sw, idr_eq, ne_eq, Nat.reduceEqDiff, not_false_eq_true, Nat.reduceLT, reduceCtorEq, g14] at q9
    exact q9
  refine G.callV (as := [.ref 59, .ref 62, .int (nI 6)]) (rest := []) (a := 54) oX12_copies lk_EvenFindersModel_168 (by decide +kernel) rfl rfl ⟨rfl, rfl⟩ (Nat.le_of_ble_eq_true rfl) rfl ⟨Nat.le_of_ble_eq_true rfl, Nat.le_of_ble_eq_true rfl⟩ t17 (fun v9 N9 h18 => ?_) (fun E9 N9 h18 => by cases h18)
  cases h18
  show G z mX12_sets (d + 1) 0 0 74 [some (.ref 54), none] [] (mrow (mrow (mrow (mrow M 54 (upd (upd (upd (upd (M.1 54) 20 (M.1 54 16)) 21 (M.1 54 17)) 22 (M.1 54 18)) 23 (M.1 54 19))) 60 r4) 61 r10) 62 r16) Q
  refine G.sl [(.aload_n 0, 1, 0, 0, 0, 0), (.iconst 0, 1, 0, 0, 0, nI 0), (.putfield 172, 3, 11, 30, 153, 0), (.aload_n 0, 1, 0, 0, 0, 0), (.iconst 0, 1, 0, 0, 0, nI 0), (.putfield 175, 3, 11, 45, 168, 0), (.aload_n 0, 1, 0, 0, 0, 0), (.iconst 0, 1, 0, 0, 0, nI 0), (.putfield 178, 3, 11, 35, 158, 0), (.aload_n 0, 1, 0, 0, 0, 0), (.iconst 0, 1, 0, 0, 0, nI 0), (.putfield 181, 3, 11, 51, 174, 0), (.aload_n 0, 1, 0, 0, 0, 0), (.iconst 0, 1, 0, 0, 0, nI 0), (.putfield 184, 3, 11, 36, 159, 0), (.iconst 0, 1, 0, 0, 0, nI 0), (.istore_n 1, 1, 1, 0, 0, 0)] [] (pc2 := 101) (ls2 := [some (.ref 54), some (.int (nI 0))]) (st2 := []) (M2 := mput (mput (mput (mput (mput (mrow (mrow (mrow (mrow M 54 (upd (upd (upd (upd (M.1 54) 20 (M.1 54 16)) 21 (M.1 54 17)) 22 (M.1 54 18)) 23 (M.1 54 19))) 60 r4) 61 r10) 62 r16) 54 30 (nI 0)) 54 45 (nI 0)) 54 35 (nI 0)) 54 51 (nI 0)) 54 36 (nI 0)) (Ps := []) (by decide +kernel) rfl rfl trivial ?_
  refine G.mem (M' := mrow (mrow (mrow (mrow M 54 (upd (upd (upd (upd (upd (upd (upd (upd (upd (M.1 54) 20 (M.1 54 16)) 21 (M.1 54 17)) 22 (M.1 54 18)) 23 (M.1 54 19)) 30 (nI 0)) 45 (nI 0)) 35 (nI 0)) 51 (nI 0)) 36 (nI 0))) 60 r4) 61 r10) 62 r16) (by first | rfl | (simp only [mput, mrow_same, mrow_hit, mrow_miss, mrow_sw, idr_eq, ne_eq, Nat.reduceEqDiff, not_false_eq_true, Nat.reduceLT, reduceCtorEq]; done)) ?_
  obtain ⟨k19, hk⟩ := hk
  refine lp_k_sets_54_101 z d (mrow (mrow (mrow (mrow M 54 (upd (upd (upd (upd (upd (upd (upd (upd (upd (M.1 54) 20 (M.1 54 16)) 21 (M.1 54 17)) 22 (M.1 54 18)) 23 (M.1 54 19)) 30 (nI 0)) 45 (nI 0)) 35 (nI 0)) 51 (nI 0)) 36 (nI 0))) 60 r4) 61 r10) 62 r16) Q (cN 8) (cN_eq 8) ?_
  try simp only [mput, mrow_same, mrow_hit, mrow_miss, mrow_sw, idr_eq, ne_eq, Nat.reduceEqDiff, not_false_eq_true, Nat.reduceLT, reduceCtorEq]
  show G z mX12_sets (d + 1) 0 0 120 [some (.ref 54), none] [] (mrow (mrow (mrow (mrow (mrow M 54 (upd (upd (upd (upd (upd (upd (upd (upd (upd (M.1 54) 20 (M.1 54 16)) 21 (M.1 54 17)) 22 (M.1 54 18)) 23 (M.1 54 19)) 30 (nI 0)) 45 (nI 0)) 35 (nI 0)) 51 (nI 0)) 36 (nI 0))) 60 r4) 61 r10) 62 r16) 75 (k_sets_101 (M.1 75) (cN 8))) Q
  refine G.sl [(.iconst 0, 1, 0, 0, 0, nI 0), (.istore_n 1, 1, 1, 0, 0, 0)] [] (pc2 := 122) (ls2 := [some (.ref 54), some (.int (nI 0))]) (st2 := []) (M2 := mrow (mrow (mrow (mrow (mrow M 54 (upd (upd (upd (upd (upd (upd (upd (upd (upd (M.1 54) 20 (M.1 54 16)) 21 (M.1 54 17)) 22 (M.1 54 18)) 23 (M.1 54 19)) 30 (nI 0)) 45 (nI 0)) 35 (nI 0)) 51 (nI 0)) 36 (nI 0))) 60 r4) 61 r10) 62 r16) 75 (k_sets_101 (M.1 75) (cN 8))) (Ps := []) (by decide +kernel) rfl rfl trivial ?_
  obtain ⟨k20, hk⟩ := hk
  refine lp_k_sets_54_122 z d (mrow (mrow (mrow (mrow (mrow M 54 (upd (upd (upd (upd (upd (upd (upd (upd (upd (M.1 54) 20 (M.1 54 16)) 21 (M.1 54 17)) 22 (M.1 54 18)) 23 (M.1 54 19)) 30 (nI 0)) 45 (nI 0)) 35 (nI 0)) 51 (nI 0)) 36 (nI 0))) 60 r4) 61 r10) 62 r16) 75 (k_sets_101 (M.1 75) (cN 8))) Q (cN 51) (cN_eq 51) ?_
  try simp only [mput, mrow_same, mrow_hit, mrow_miss, mrow_sw, idr_eq, ne_eq, Nat.reduceEqDiff, not_false_eq_true, Nat.reduceLT, reduceCtorEq]
  show G z mX12_sets (d + 1) 0 0 141 [some (.ref 54), none] [] (mrow (mrow (mrow (mrow (mrow (mrow M 54 (upd (upd (upd (upd (upd (upd (upd (upd (upd (M.1 54) 20 (M.1 54 16)) 21 (M.1 54 17)) 22 (M.1 54 18)) 23 (M.1 54 19)) 30 (nI 0)) 45 (nI 0)) 35 (nI 0)) 51 (nI 0)) 36 (nI 0))) 60 r4) 61 r10) 62 r16) 71 (k_sets_122 (M.1 71) (cN 51))) 75 (k_sets_101 (M.1 75) (cN 8))) Q
  refine G.sl [(.iconst 0, 1, 0, 0, 0, nI 0), (.istore_n 1, 1, 1, 0, 0, 0)] [] (pc2 := 143) (ls2 := [some (.ref 54), some (.int (nI 0))]) (st2 := []) (M2 := mrow (mrow (mrow (mrow (mrow (mrow M 54 (upd (upd (upd (upd (upd (upd (upd (upd (upd (M.1 54) 20 (M.1 54 16)) 21 (M.1 54 17)) 22 (M.1 54 18)) 23 (M.1 54 19)) 30 (nI 0)) 45 (nI 0)) 35 (nI 0)) 51 (nI 0)) 36 (nI 0))) 60 r4) 61 r10) 62 r16) 71 (k_sets_122 (M.1 71) (cN 51))) 75 (k_sets_101 (M.1 75) (cN 8))) (Ps := []) (by decide +kernel) rfl rfl trivial ?_
  obtain ⟨k22, k23, hk⟩ := hk
  obtain ⟨k24, hk⟩ := hk
  refine lp_k_sets_54_143 z d (mrow (mrow (mrow (mrow (mrow (mrow M 54 (upd (upd (upd (upd (upd (upd (upd (upd (upd (M.1 54) 20 (M.1 54 16)) 21 (M.1 54 17)) 22 (M.1 54 18)) 23 (M.1 54 19)) 30 (nI 0)) 45 (nI 0)) 35 (nI 0)) 51 (nI 0)) 36 (nI 0))) 60 r4) 61 r10) 62 r16) 71 (k_sets_122 (M.1 71) (cN 51))) 75 (k_sets_101 (M.1 75) (cN 8))) Q (cN 10) (ix (M.1 54 18)) k23 (ixE k22) (cN_eq 10) ?_
  try simp only [mput, mrow_same, mrow_hit, mrow_miss, mrow_sw, idr_eq, ne_eq, Nat.reduceEqDiff, not_false_eq_true, Nat.reduceLT, reduceCtorEq]
  show G z mX12_sets (d + 1) 0 0 214 [some (.ref 54), none] [] (mrow (mrow (mrow (mrow (mrow (mrow M 54 (upd (upd (upd (upd (upd (upd (upd (upd (upd (M.1 54) 20 (M.1 54 16)) 21 (M.1 54 17)) 22 (M.1 54 18)) 23 (M.1 54 19)) 30 (nI 0)) 45 (nI 0)) 35 (nI 0)) 51 (nI 0)) 36 (nI 0))) 60 r4) 61 r10) 62 r16) 71 (k_sets_143 r10 (k_sets_122 (M.1 71) (cN 51)) (ix (M.1 54 18)) (cN 10))) 75 (k_sets_101 (M.1 75) (cN 8))) Q
  refine G.sl [(.iconst 0, 1, 0, 0, 0, nI 0), (.istore_n 1, 1, 1, 0, 0, 0)] [] (pc2 := 216) (ls2 := [some (.ref 54), some (.int (nI 0))]) (st2 := []) (M2 := mrow (mrow (mrow (mrow (mrow (mrow M 54 (upd (upd (upd (upd (upd (upd (upd (upd (upd (M.1 54) 20 (M.1 54 16)) 21 (M.1 54 17)) 22 (M.1 54 18)) 23 (M.1 54 19)) 30 (nI 0)) 45 (nI 0)) 35 (nI 0)) 51 (nI 0)) 36 (nI 0))) 60 r4) 61 r10) 62 r16) 71 (k_sets_143 r10 (k_sets_122 (M.1 71) (cN 51)) (ix (M.1 54 18)) (cN 10))) 75 (k_sets_101 (M.1 75) (cN 8))) (Ps := []) (by decide +kernel) rfl rfl trivial ?_
  obtain ⟨k25, k26, hk⟩ := hk
  obtain ⟨k27, hk⟩ := hk
  refine lp_k_sets_54_216 z d (mrow (mrow (mrow (mrow (mrow (mrow M 54 (upd (upd (upd (upd (upd (upd (upd (upd (upd (M.1 54) 20 (M.1 54 16)) 21 (M.1 54 17)) 22 (M.1 54 18)) 23 (M.1 54 19)) 30 (nI 0)) 45 (nI 0)) 35 (nI 0)) 51 (nI 0)) 36 (nI 0))) 60 r4) 61 r10) 62 r16) 71 (k_sets_143 r10 (k_sets_122 (M.1 71) (cN 51)) (ix (M.1 54 18)) (cN 10))) 75 (k_sets_101 (M.1 75) (cN 8))) Q (ix (M.1 54 19)) k26 (ixE k25) ?_
  try simp only [mput, mrow_same, mrow_hit, mrow_miss, mrow_sw, idr_eq, ne_eq, Nat.reduceEqDiff, not_false_eq_true, Nat.reduceLT, reduceCtorEq]
  show G z mX12_sets (d + 1) 0 0 245 [some (.ref 54), none] [] (mrow (mrow (mrow (mrow (mrow (mrow M 54 (upd (upd (upd (upd (upd (upd (upd (upd (upd (M.1 54) 20 (M.1 54 16)) 21 (M.1 54 17)) 22 (M.1 54 18)) 23 (M.1 54 19)) 30 (nI 0)) 45 (nI 0)) 35 (nI 0)) 51 (nI 0)) 36 (nI 0))) 60 r4) 61 r10) 62 r16) 71 (k_sets_216 r16 (k_sets_143 r10 (k_sets_122 (M.1 71) (cN 51)) (ix (M.1 54 18)) (cN 10)) (ix (M.1 54 19)))) 75 (k_sets_101 (M.1 75) (cN 8))) Q
  refine G.sl [(.aload_n 0, 1, 0, 0, 0, 0)] [] (pc2 := 246) (ls2 := [some (.ref 54), none]) (st2 := [.ref 54]) (M2 := mrow (mrow (mrow (mrow (mrow (mrow M 54 (upd (upd (upd (upd (upd (upd (upd (upd (upd (M.1 54) 20 (M.1 54 16)) 21 (M.1 54 17)) 22 (M.1 54 18)) 23 (M.1 54 19)) 30 (nI 0)) 45 (nI 0)) 35 (nI 0)) 51 (nI 0)) 36 (nI 0))) 60 r4) 61 r10) 62 r16) 71 (k_sets_216 r16 (k_sets_143 r10 (k_sets_122 (M.1 71) (cN 51)) (ix (M.1 54 18)) (cN 10)) (ix (M.1 54 19)))) 75 (k_sets_101 (M.1 75) (cN 8))) (Ps := []) (by decide +kernel) rfl rfl trivial ?_
  obtain ⟨k28, k29, k30, k31, hk⟩ := hk
  obtain ⟨k32, hk⟩ := hk
  rcases g33 : k_layFar r4 (M.1 76) (ix (M.1 54 16)) (ix (M.1 54 17)) with ⟨u34, r35⟩
  have t36 : GM z mX12_layFar (d) [.ref 54] (mrow (mrow (mrow (mrow (mrow (mrow M 54 (upd (upd (upd (upd (upd (upd (upd (upd (upd (M.1 54) 20 (M.1 54 16)) 21 (M.1 54 17)) 22 (M.1 54 18)) 23 (M.1 54 19)) 30 (nI 0)) 45 (nI 0)) 35 (nI 0)) 51 (nI 0)) 36 (nI 0))) 60 r4) 61 r10) 62 r16) 71 (k_sets_216 r16 (k_sets_143 r10 (k_sets_122 (M.1 71) (cN 51)) (ix (M.1 54 18)) (cN 10)) (ix (M.1 54 19)))) 75 (k_sets_101 (M.1 75) (cN 8))) (fun rs => rs = .inl (none, mrow (mrow (mrow (mrow (mrow (mrow (mrow M 54 (upd (upd (upd (upd (upd (upd (upd (upd (upd (M.1 54) 20 (M.1 54 16)) 21 (M.1 54 17)) 22 (M.1 54 18)) 23 (M.1 54 19)) 30 (nI 0)) 45 (nI 0)) 35 (nI 0)) 51 (nI 0)) 36 (nI 0))) 60 r4) 61 r10) 62 r16) 71 (k_sets_216 r16 (k_sets_143 r10 (k_sets_122 (M.1 71) (cN 51)) (ix (M.1 54 18)) (cN 10)) (ix (M.1 54 19)))) 75 (k_sets_101 (M.1 75) (cN 8))) 76 r35)) := by
    have q9 := c_k_layFar_54 z d (mrow (mrow (mrow (mrow (mrow (mrow M 54 (upd (upd (upd (upd (upd (upd (upd (upd (upd (M.1 54) 20 (M.1 54 16)) 21 (M.1 54 17)) 22 (M.1 54 18)) 23 (M.1 54 19)) 30 (nI 0)) 45 (nI 0)) 35 (nI 0)) 51 (nI 0)) 36 (nI 0))) 60 r4) 61 r10) 62 r16) 71 (k_sets_216 r16 (k_sets_143 r10 (k_sets_122 (M.1 71) (cN 51)) (ix (M.1 54 18)) (cN 10)) (ix (M.1 54 19)))) 75 (k_sets_101 (M.1 75) (cN 8))) (ix (M.1 54 16)) k29 (ixE k28) (ix (M.1 54 17)) k31 (ixE k30) k32
    try simp only [mput, mrow_same, mrow_hit, mrow_miss, mrow_sw, idr_eq, ne_eq, Nat.reduceEqDiff, not_false_eq_true, Nat.reduceLT, reduceCtorEq, g33] at q9
    exact q9
  refine G.callV (as := []) (rest := []) (a := 54) oX12_layFar lk_EvenFindersModel_187 (by decide +kernel) rfl rfl ⟨rfl, rfl⟩ (Nat.le_of_ble_eq_true rfl) rfl ⟨Nat.le_of_ble_eq_true rfl, Nat.le_of_ble_eq_true rfl⟩ t36 (fun v9 N9 h37 => ?_) (fun E9 N9 h37 => by cases h37)
  cases h37
  show G z mX12_sets (d + 1) 0 0 249 [some (.ref 54), none] [] (mrow (mrow (mrow (mrow (mrow (mrow (mrow M 54 (upd (upd (upd (upd (upd (upd (upd (upd (upd (M.1 54) 20 (M.1 54 16)) 21 (M.1 54 17)) 22 (M.1 54 18)) 23 (M.1 54 19)) 30 (nI 0)) 45 (nI 0)) 35 (nI 0)) 51 (nI 0)) 36 (nI 0))) 60 r4) 61 r10) 62 r16) 71 (k_sets_216 r16 (k_sets_143 r10 (k_sets_122 (M.1 71) (cN 51)) (ix (M.1 54 18)) (cN 10)) (ix (M.1 54 19)))) 75 (k_sets_101 (M.1 75) (cN 8))) 76 r35) Q
  exact G.retv (by decide +kernel) rfl (Nat.le_of_ble_eq_true rfl) (Nat.le_of_ble_eq_true rfl) ((by rw [hQ]; simp only [k_sets, g2, g8, g14, g33, mrow_self]))
noncomputable def k_feed_23 (Rmd Rtape : Nat → Int32) (x1 : Int32) (x2 : Int32) (x3 : Int32) (x4 : Int32) (x5 : Int32) : Nat → (Nat → Int32) × (Nat → Int32)
  | 0 => (Rmd, Rtape)
  | i6 + 1 => match k_feed_23 Rmd Rtape x1 x2 x3 x4 x5 i6 with | (q54, q56) => (if (nI 4) ≤ (nI i6) then (if (nI 8) ≤ (nI i6) then (if (nI 12) ≤ (nI i6) then (if (nI 16) ≤ (nI i6) then (upd q54 2 ((q54 2) + (nI 1)), upd q56 (ix (q54 2)) ((x5 >>> (((nI 24) - ((nI 8) * ((nI i6) - (nI i6) / (nI 4) * (nI 4)))) &&& 31)) &&& (nI 255))) else (upd q54 2 ((q54 2) + (nI 1)), upd q56 (ix (q54 2)) ((x4 >>> (((nI 24) - ((nI 8) * ((nI i6) - (nI i6) / (nI 4) * (nI 4)))) &&& 31)) &&& (nI 255)))) else (upd q54 2 ((q54 2) + (nI 1)), upd q56 (ix (q54 2)) ((x3 >>> (((nI 24) - ((nI 8) * ((nI i6) - (nI i6) / (nI 4) * (nI 4)))) &&& 31)) &&& (nI 255)))) else (upd q54 2 ((q54 2) + (nI 1)), upd q56 (ix (q54 2)) ((x2 >>> (((nI 24) - ((nI 8) * ((nI i6) - (nI i6) / (nI 4) * (nI 4)))) &&& 31)) &&& (nI 255)))) else (upd q54 2 ((q54 2) + (nI 1)), upd q56 (ix (q54 2)) ((x1 >>> (((nI 24) - ((nI 8) * ((nI i6) - (nI i6) / (nI 4) * (nI 4)))) &&& 31)) &&& (nI 255))))
noncomputable def k_feed_23_ok (Rmd Rtape : Nat → Int32) (x1 : Int32) (x2 : Int32) (x3 : Int32) (x4 : Int32) (x5 : Int32) (i6 : Nat) : Prop := match k_feed_23 Rmd Rtape x1 x2 x3 x4 x5 i6 with | (q54, q56) => (if (nI 4) ≤ (nI i6) then (if (nI 8) ≤ (nI i6) then (if (nI 12) ≤ (nI i6) then (if (nI 16) ≤ (nI i6) then ((isN (q54 2)) ∧ (ix (q54 2) < 600) ∧ True) else ((isN (q54 2)) ∧ (ix (q54 2) < 600) ∧ True)) else ((isN (q54 2)) ∧ (ix (q54 2) < 600) ∧ True)) else ((isN (q54 2)) ∧ (ix (q54 2) < 600) ∧ True)) else ((isN (q54 2)) ∧ (ix (q54 2) < 600) ∧ True))
set_option maxHeartbeats 4000000 in
set_option maxRecDepth 3000 in
theorem lp_k_feed_54_23 (z : Zp) (d : Nat) (M : Mem) (Q : Rs → Prop) (nn : Nat) (x1 : Int32) (x2 : Int32) (x3 : Int32) (x4 : Int32) (x5 : Int32) (hnn : nn = 20) (hk : ∀ i6, i6 < nn → k_feed_23_ok (M.1 54) (M.1 56) x1 x2 x3 x4 x5 i6) (hX : G z mX12_feed (d) 0 0 120 [some (.ref 54), none, none, none, none, none, none, none] [] (mrow (mrow M 54 ((k_feed_23 (M.1 54) (M.1 56) x1 x2 x3 x4 x5 nn).1)) 56 ((k_feed_23 (M.1 54) (M.1 56) x1 x2 x3 x4 x5 nn).2)) Q) : G z mX12_feed (d) 0 0 23 [some (.ref 54), some (.int x1), some (.int x2), some (.int x3), some (.int x4), some (.int x5), some (.int (nI 0)), none] [] M Q := by
  refine G.mem (M' := mrow (mrow M 54 (M.1 54)) 56 (M.1 56)) (by simp only [mrow_self]) ?_
  refine down (n := nn) (P := fun i6 => G z mX12_feed (d) 0 0 23 [some (.ref 54), some (.int x1), some (.int x2), some (.int x3), some (.int x4), some (.int x5), some (.int (nI i6)), none] [] (mrow (mrow M 54 ((k_feed_23 (M.1 54) (M.1 56) x1 x2 x3 x4 x5 i6).1)) 56 ((k_feed_23 (M.1 54) (M.1 56) x1 x2 x3 x4 x5 i6).2)) Q) ?_ ?_ 0 (Nat.zero_le _)
  · skip
    refine G.sl [(.iload 6, 2, 6, 0, 0, 0), (.bipush 20, 2, 0, 0, 0, nI 20)] [] (pc2 := 27) (ls2 := [some (.ref 54), some (.int x1), some (.int x2), some (.int x3), some (.int x4), some (.int x5), some (.int (nI nn)), none]) (st2 := [.int (nI 20), .int (nI nn)]) (M2 := mrow (mrow M 54 ((k_feed_23 (M.1 54) (M.1 56) x1 x2 x3 x4 x5 nn).1)) 56 ((k_feed_23 (M.1 54) (M.1 56) x1 x2 x3 x4 x5 nn).2)) (Ps := []) (by decide +kernel) rfl rfl trivial ?_
    refine G.ic_ge (off := (93)) (tgt := 120) (by decide +kernel) rfl (fun _ => ?_) (fun h9 => absurd (nI_le (by omega) (by omega)) h9)
    refine G.loc (ls2 := [some (.ref 54), none, none, none, none, none, none, none]) (by simp [subL]) ?_
    exact hX
  · skip
    intro i6 hi ih
    have hk := hk i6 hi
    simp only [k_feed_23_ok] at hk
    rcases g2 : k_feed_23 (M.1 54) (M.1 56) x1 x2 x3 x4 x5 i6 with ⟨q54, q56⟩
    try simp only [g2] at hk
    try simp only [g2]
    show G z mX12_feed (d) 0 0 23 [some (.ref 54), some (.int x1), some (.int x2), some (.int x3), some (.int x4), some (.int x5), some (.int (nI i6)), none] [] (mrow (mrow M 54 q54) 56 q56) Q
    refine G.sl [(.iload 6, 2, 6, 0, 0, 0), (.bipush 20, 2, 0, 0, 0, nI 20)] [] (pc2 := 27) (ls2 := [some (.ref 54), some (.int x1), some (.int x2), some (.int x3), some (.int x4), some (.int x5), some (.int (nI i6)), none]) (st2 := [.int (nI 20), .int (nI i6)]) (M2 := mrow (mrow M 54 q54) 56 q56) (Ps := []) (by decide +kernel) rfl rfl trivial ?_
    refine G.ic_ge (off := (93)) (tgt := 120) (by decide +kernel) rfl (fun h9 => absurd h9 (nI_ge (by omega) (by omega))) (fun _ => ?_)
    refine G.sl [(.iload 6, 2, 6, 0, 0, 0), (.iconst 4, 1, 0, 0, 0, nI 4)] [] (pc2 := 33) (ls2 := [some (.ref 54), some (.int x1), some (.int x2), some (.int x3), some (.int x4), some (.int x5), some (.int (nI i6)), none]) (st2 := [.int (nI 4), .int (nI i6)]) (M2 := mrow (mrow M 54 q54) 56 q56) (Ps := []) (by decide +kernel) rfl rfl trivial ?_
    refine G.ic_ge (off := (7)) (tgt := 40) (by decide +kernel) rfl (fun c3 => ?_) (fun c3 => ?_)
    · skip
      rw [if_pos c3] at hk
      refine G.sl [(.iload 6, 2, 6, 0, 0, 0), (.bipush 8, 2, 0, 0, 0, nI 8)] [] (pc2 := 44) (ls2 := [some (.ref 54), some (.int x1), some (.int x2), some (.int x3), some (.int x4), some (.int x5), some (.int (nI i6)), none]) (st2 := [.int (nI 8), .int (nI i6)]) (M2 := mrow (mrow M 54 q54) 56 q56) (Ps := []) (by decide +kernel) rfl rfl trivial ?_
      refine G.ic_ge (off := (7)) (tgt := 51) (by decide +kernel) rfl (fun c4 => ?_) (fun c4 => ?_)
      · skip
        rw [if_pos c4] at hk
        refine G.sl [(.iload 6, 2, 6, 0, 0, 0), (.bipush 12, 2, 0, 0, 0, nI 12)] [] (pc2 := 55) (ls2 := [some (.ref 54), some (.int x1), some (.int x2), some (.int x3), some (.int x4), some (.int x5), some (.int (nI i6)), none]) (st2 := [.int (nI 12), .int (nI i6)]) (M2 := mrow (mrow M 54 q54) 56 q56) (Ps := []) (by decide +kernel) rfl rfl trivial ?_
        refine G.ic_ge (off := (7)) (tgt := 62) (by decide +kernel) rfl (fun c5 => ?_) (fun c5 => ?_)
        · skip
          rw [if_pos c5] at hk
          refine G.sl [(.iload 6, 2, 6, 0, 0, 0), (.bipush 16, 2, 0, 0, 0, nI 16)] [] (pc2 := 66) (ls2 := [some (.ref 54), some (.int x1), some (.int x2), some (.int x3), some (.int x4), some (.int x5), some (.int (nI i6)), none]) (st2 := [.int (nI 16), .int (nI i6)]) (M2 := mrow (mrow M 54 q54) 56 q56) (Ps := []) (by decide +kernel) rfl rfl trivial ?_
          refine G.ic_ge (off := (8)) (tgt := 74) (by decide +kernel) rfl (fun c6 => ?_) (fun c6 => ?_)
          · skip
            rw [if_pos c6] at hk
            obtain ⟨k7, k8, hk⟩ := hk
            refine G.sl [(.iload 5, 2, 5, 0, 0, 0), (.istore 7, 2, 7, 0, 0, 0), (.aload_n 0, 1, 0, 0, 0, 0), (.getfield 20, 3, 11, 9, 132, 0), (.aload_n 0, 1, 0, 0, 0, 0), (.getfield 98, 3, 11, 2, 125, 0), (.iload 7, 2, 7, 0, 0, 0), (.bipush 24, 2, 0, 0, 0, nI 24), (.bipush 8, 2, 0, 0, 0, nI 8), (.iload 6, 2, 6, 0, 0, 0), (.iconst 4, 1, 0, 0, 0, nI 4), (.irem, 1, 0, 0, 0, 0), (.imul, 1, 0, 0, 0, 0), (.isub, 1, 0, 0, 0, 0), (.ishr, 1, 0, 0, 0, 0), (.sipush 255, 3, 0, 0, 0, nI 255), (.iand, 1, 0, 0, 0, 0), (.iastore, 1, 0, 0, 0, 0), (.aload_n 0, 1, 0, 0, 0, 0), (.dup, 1, 0, 0, 0, 0), (.getfield 98, 3, 11, 2, 125, 0), (.iconst 1, 1, 0, 0, 0, nI 1), (.iadd, 1, 0, 0, 0, 0), (.putfield 98, 3, 11, 2, 125, 0), (.iinc 6 1, 3, 6, 0, 0, nI 1), (.goto (-94), 3, 23, 0, 0, 0)] [ix (q54 2)] (pc2 := 23) (ls2 := [some (.ref 54), some (.int x1), some (.int x2), some (.int x3), some (.int x4), some (.int x5), some (.int ((nI i6) + nI 1)), some (.int x5)]) (st2 := []) (M2 := mput (mput (mrow (mrow M 54 q54) 56 q56) 56 (ix (q54 2)) ((x5 >>> (((nI 24) - ((nI 8) * ((nI i6) - (nI i6) / (nI 4) * (nI 4)))) &&& 31)) &&& (nI 255))) 54 2 ((q54 2) + (nI 1))) (Ps := [¬ (nI 4) = 0, (q54 2) = nI (ix (q54 2)) ∧ (ix (q54 2)) < 600]) (by decide +kernel) rfl rfl ⟨(by decide), ⟨(ixE k7), k8⟩, trivial⟩ ?_
            refine G.mem (M' := mrow (mrow M 54 (upd q54 2 ((q54 2) + (nI 1)))) 56 (upd q56 (ix (q54 2)) ((x5 >>> (((nI 24) - ((nI 8) * ((nI i6) - (nI i6) / (nI 4) * (nI 4)))) &&& 31)) &&& (nI 255)))) (by first | rfl | (simp only [mput, mrow_same, mrow_hit, mrow_miss, mrow_sw, idr_eq, ne_eq, Nat.reduceEqDiff, not_false_eq_true, Nat.reduceLT, reduceCtorEq]; done)) ?_
            refine G.loc (ls2 := [some (.ref 54), some (.int x1), some (.int x2), some (.int x3), some (.int x4), some (.int x5), some (.int ((nI i6) + nI 1)), none]) (by simp [subL]) ?_
            rw [nI_add i6 1]
            simp only [k_feed_23, g2, if_pos c3, if_pos c4, if_pos c5, if_pos c6] at ih
            exact ih
          · skip
            rw [if_neg c6] at hk
            obtain ⟨k9, k10, hk⟩ := hk
            refine G.sl [(.iload 4, 2, 4, 0, 0, 0), (.goto 5, 3, 76, 0, 0, 0), (.istore 7, 2, 7, 0, 0, 0), (.aload_n 0, 1, 0, 0, 0, 0), (.getfield 20, 3, 11, 9, 132, 0), (.aload_n 0, 1, 0, 0, 0, 0), (.getfield 98, 3, 11, 2, 125, 0), (.iload 7, 2, 7, 0, 0, 0), (.bipush 24, 2, 0, 0, 0, nI 24), (.bipush 8, 2, 0, 0, 0, nI 8), (.iload 6, 2, 6, 0, 0, 0), (.iconst 4, 1, 0, 0, 0, nI 4), (.irem, 1, 0, 0, 0, 0), (.imul, 1, 0, 0, 0, 0), (.isub, 1, 0, 0, 0, 0), (.ishr, 1, 0, 0, 0, 0), (.sipush 255, 3, 0, 0, 0, nI 255), (.iand, 1, 0, 0, 0, 0), (.iastore, 1, 0, 0, 0, 0), (.aload_n 0, 1, 0, 0, 0, 0), (.dup, 1, 0, 0, 0, 0), (.getfield 98, 3, 11, 2, 125, 0), (.iconst 1, 1, 0, 0, 0, nI 1), (.iadd, 1, 0, 0, 0, 0), (.putfield 98, 3, 11, 2, 125, 0), (.iinc 6 1, 3, 6, 0, 0, nI 1), (.goto (-94), 3, 23, 0, 0, 0)] [ix (q54 2)] (pc2 := 23) (ls2 := [some (.ref 54), some (.int x1), some (.int x2), some (.int x3), some (.int x4), some (.int x5), some (.int ((nI i6) + nI 1)), some (.int x4)]) (st2 := []) (M2 := mput (mput (mrow (mrow M 54 q54) 56 q56) 56 (ix (q54 2)) ((x4 >>> (((nI 24) - ((nI 8) * ((nI i6) - (nI i6) / (nI 4) * (nI 4)))) &&& 31)) &&& (nI 255))) 54 2 ((q54 2) + (nI 1))) (Ps := [¬ (nI 4) = 0, (q54 2) = nI (ix (q54 2)) ∧ (ix (q54 2)) < 600]) (by decide +kernel) rfl rfl ⟨(by decide), ⟨(ixE k9), k10⟩, trivial⟩ ?_
            refine G.mem (M' := mrow (mrow M 54 (upd q54 2 ((q54 2) + (nI 1)))) 56 (upd q56 (ix (q54 2)) ((x4 >>> (((nI 24) - ((nI 8) * ((nI i6) - (nI i6) / (nI 4) * (nI 4)))) &&& 31)) &&& (nI 255)))) (by first | rfl | (simp only [mput, mrow_same, mrow_hit, mrow_miss, mrow_sw, idr_eq, ne_eq, Nat.reduceEqDiff, not_false_eq_true, Nat.reduceLT, reduceCtorEq]; done)) ?_
            refine G.loc (ls2 := [some (.ref 54), some (.int x1), some (.int x2), some (.int x3), some (.int x4), some (.int x5), some (.int ((nI i6) + nI 1)), none]) (by simp [subL]) ?_
            rw [nI_add i6 1]
            simp only [k_feed_23, g2, if_pos c3, if_pos c4, if_pos c5, if_neg c6] at ih
            exact ih
        · skip
          rw [if_neg c5] at hk
          obtain ⟨k11, k12, hk⟩ := hk
          refine G.sl [(.iload_n 3, 1, 3, 0, 0, 0), (.goto 17, 3, 76, 0, 0, 0), (.istore 7, 2, 7, 0, 0, 0), (.aload_n 0, 1, 0, 0, 0, 0), (.getfield 20, 3, 11, 9, 132, 0), (.aload_n 0, 1, 0, 0, 0, 0), (.getfield 98, 3, 11, 2, 125, 0), (.iload 7, 2, 7, 0, 0, 0), (.bipush 24, 2, 0, 0, 0, nI 24), (.bipush 8, 2, 0, 0, 0, nI 8), (.iload 6, 2, 6, 0, 0, 0), (.iconst 4, 1, 0, 0, 0, nI 4), (.irem, 1, 0, 0, 0, 0), (.imul, 1, 0, 0, 0, 0), (.isub, 1, 0, 0, 0, 0), (.ishr, 1, 0, 0, 0, 0), (.sipush 255, 3, 0, 0, 0, nI 255), (.iand, 1, 0, 0, 0, 0), (.iastore, 1, 0, 0, 0, 0), (.aload_n 0, 1, 0, 0, 0, 0), (.dup, 1, 0, 0, 0, 0), (.getfield 98, 3, 11, 2, 125, 0), (.iconst 1, 1, 0, 0, 0, nI 1), (.iadd, 1, 0, 0, 0, 0), (.putfield 98, 3, 11, 2, 125, 0), (.iinc 6 1, 3, 6, 0, 0, nI 1), (.goto (-94), 3, 23, 0, 0, 0)] [ix (q54 2)] (pc2 := 23) (ls2 := [some (.ref 54), some (.int x1), some (.int x2), some (.int x3), some (.int x4), some (.int x5), some (.int ((nI i6) + nI 1)), some (.int x3)]) (st2 := []) (M2 := mput (mput (mrow (mrow M 54 q54) 56 q56) 56 (ix (q54 2)) ((x3 >>> (((nI 24) - ((nI 8) * ((nI i6) - (nI i6) / (nI 4) * (nI 4)))) &&& 31)) &&& (nI 255))) 54 2 ((q54 2) + (nI 1))) (Ps := [¬ (nI 4) = 0, (q54 2) = nI (ix (q54 2)) ∧ (ix (q54 2)) < 600]) (by decide +kernel) rfl rfl ⟨(by decide), ⟨(ixE k11), k12⟩, trivial⟩ ?_
          refine G.mem (M' := mrow (mrow M 54 (upd q54 2 ((q54 2) + (nI 1)))) 56 (upd q56 (ix (q54 2)) ((x3 >>> (((nI 24) - ((nI 8) * ((nI i6) - (nI i6) / (nI 4) * (nI 4)))) &&& 31)) &&& (nI 255)))) (by first | rfl | (simp only [mput, mrow_same, mrow_hit, mrow_miss, mrow_sw, idr_eq, ne_eq, Nat.reduceEqDiff, not_false_eq_true, Nat.reduceLT, reduceCtorEq]; done)) ?_
          refine G.loc (ls2 := [some (.ref 54), some (.int x1), some (.int x2), some (.int x3), some (.int x4), some (.int x5), some (.int ((nI i6) + nI 1)), none]) (by simp [subL]) ?_
          rw [nI_add i6 1]
          simp only [k_feed_23, g2, if_pos c3, if_pos c4, if_neg c5] at ih
          exact ih
      · skip
        rw [if_neg c4] at hk
        obtain ⟨k13, k14, hk⟩ := hk
        refine G.sl [(.iload_n 2, 1, 2, 0, 0, 0), (.goto 28, 3, 76, 0, 0, 0), (.istore 7, 2, 7, 0, 0, 0), (.aload_n 0, 1, 0, 0, 0, 0), (.getfield 20, 3, 11, 9, 132, 0), (.aload_n 0, 1, 0, 0, 0, 0), (.getfield 98, 3, 11, 2, 125, 0), (.iload 7, 2, 7, 0, 0, 0), (.bipush 24, 2, 0, 0, 0, nI 24), (.bipush 8, 2, 0, 0, 0, nI 8), (.iload 6, 2, 6, 0, 0, 0), (.iconst 4, 1, 0, 0, 0, nI 4), (.irem, 1, 0, 0, 0, 0), (.imul, 1, 0, 0, 0, 0), (.isub, 1, 0, 0, 0, 0), (.ishr, 1, 0, 0, 0, 0), (.sipush 255, 3, 0, 0, 0, nI 255), (.iand, 1, 0, 0, 0, 0), (.iastore, 1, 0, 0, 0, 0), (.aload_n 0, 1, 0, 0, 0, 0), (.dup, 1, 0, 0, 0, 0), (.getfield 98, 3, 11, 2, 125, 0), (.iconst 1, 1, 0, 0, 0, nI 1), (.iadd, 1, 0, 0, 0, 0), (.putfield 98, 3, 11, 2, 125, 0), (.iinc 6 1, 3, 6, 0, 0, nI 1), (.goto (-94), 3, 23, 0, 0, 0)] [ix (q54 2)] (pc2 := 23) (ls2 := [some (.ref 54), some (.int x1), some (.int x2), some (.int x3), some (.int x4), some (.int x5), some (.int ((nI i6) + nI 1)), some (.int x2)]) (st2 := []) (M2 := mput (mput (mrow (mrow M 54 q54) 56 q56) 56 (ix (q54 2)) ((x2 >>> (((nI 24) - ((nI 8) * ((nI i6) - (nI i6) / (nI 4) * (nI 4)))) &&& 31)) &&& (nI 255))) 54 2 ((q54 2) + (nI 1))) (Ps := [¬ (nI 4) = 0, (q54 2) = nI (ix (q54 2)) ∧ (ix (q54 2)) < 600]) (by decide +kernel) rfl rfl ⟨(by decide), ⟨(ixE k13), k14⟩, trivial⟩ ?_
        refine G.mem (M' := mrow (mrow M 54 (upd q54 2 ((q54 2) + (nI 1)))) 56 (upd q56 (ix (q54 2)) ((x2 >>> (((nI 24) - ((nI 8) * ((nI i6) - (nI i6) / (nI 4) * (nI 4)))) &&& 31)) &&& (nI 255)))) (by first | rfl | (simp only [mput, mrow_same, mrow_hit, mrow_miss, mrow_sw, idr_eq, ne_eq, Nat.reduceEqDiff, not_false_eq_true, Nat.reduceLT, reduceCtorEq]; done)) ?_
        refine G.loc (ls2 := [some (.ref 54), some (.int x1), some (.int x2), some (.int x3), some (.int x4), some (.int x5), some (.int ((nI i6) + nI 1)), none]) (by simp [subL]) ?_
        rw [nI_add i6 1]
        simp only [k_feed_23, g2, if_pos c3, if_neg c4] at ih
        exact ih
    · skip
      rw [if_neg c3] at hk
      obtain ⟨k15, k16, hk⟩ := hk
      refine G.sl [(.iload_n 1, 1, 1, 0, 0, 0), (.goto 39, 3, 76, 0, 0, 0), (.istore 7, 2, 7, 0, 0, 0), (.aload_n 0, 1, 0, 0, 0, 0), (.getfield 20, 3, 11, 9, 132, 0), (.aload_n 0, 1, 0, 0, 0, 0), (.getfield 98, 3, 11, 2, 125, 0), (.iload 7, 2, 7, 0, 0, 0), (.bipush 24, 2, 0, 0, 0, nI 24), (.bipush 8, 2, 0, 0, 0, nI 8), (.iload 6, 2, 6, 0, 0, 0), (.iconst 4, 1, 0, 0, 0, nI 4), (.irem, 1, 0, 0, 0, 0), (.imul, 1, 0, 0, 0, 0), (.isub, 1, 0, 0, 0, 0), (.ishr, 1, 0, 0, 0, 0), (.sipush 255, 3, 0, 0, 0, nI 255), (.iand, 1, 0, 0, 0, 0), (.iastore, 1, 0, 0, 0, 0), (.aload_n 0, 1, 0, 0, 0, 0), (.dup, 1, 0, 0, 0, 0), (.getfield 98, 3, 11, 2, 125, 0), (.iconst 1, 1, 0, 0, 0, nI 1), (.iadd, 1, 0, 0, 0, 0), (.putfield 98, 3, 11, 2, 125, 0), (.iinc 6 1, 3, 6, 0, 0, nI 1), (.goto (-94), 3, 23, 0, 0, 0)] [ix (q54 2)] (pc2 := 23) (ls2 := [some (.ref 54), some (.int x1), some (.int x2), some (.int x3), some (.int x4), some (.int x5), some (.int ((nI i6) + nI 1)), some (.int x1)]) (st2 := []) (M2 := mput (mput (mrow (mrow M 54 q54) 56 q56) 56 (ix (q54 2)) ((x1 >>> (((nI 24) - ((nI 8) * ((nI i6) - (nI i6) / (nI 4) * (nI 4)))) &&& 31)) &&& (nI 255))) 54 2 ((q54 2) + (nI 1))) (Ps := [¬ (nI 4) = 0, (q54 2) = nI (ix (q54 2)) ∧ (ix (q54 2)) < 600]) (by decide +kernel) rfl rfl ⟨(by decide), ⟨(ixE k15), k16⟩, trivial⟩ ?_
      refine G.mem (M' := mrow (mrow M 54 (upd q54 2 ((q54 2) + (nI 1)))) 56 (upd q56 (ix (q54 2)) ((x1 >>> (((nI 24) - ((nI 8) * ((nI i6) - (nI i6) / (nI 4) * (nI 4)))) &&& 31)) &&& (nI 255)))) (by first | rfl | (simp only [mput, mrow_same, mrow_hit, mrow_miss, mrow_sw, idr_eq, ne_eq, Nat.reduceEqDiff, not_false_eq_true, Nat.reduceLT, reduceCtorEq]; done)) ?_
      refine G.loc (ls2 := [some (.ref 54), some (.int x1), some (.int x2), some (.int x3), some (.int x4), some (.int x5), some (.int ((nI i6) + nI 1)), none]) (by simp [subL]) ?_
      rw [nI_add i6 1]
      simp only [k_feed_23, g2, if_neg c3] at ih
      exact ih
noncomputable def k_feed (Rmd Rtape : Nat → Int32) (x1 : Int32) (x2 : Int32) (x3 : Int32) (x4 : Int32) (x5 : Int32) : Int32 × (Nat → Int32) × (Nat → Int32) := (if ((Rmd 2) + (nI 20)) ≤ (nI 600) then (match k_feed_23 (upd (Rmd) 0 (nI 0)) (Rtape) x1 x2 x3 x4 x5 (cN 20) with | (r19, r20) => (r19 2, r19, r20)) else ((-1), upd (Rmd) 0 (nI 0), Rtape))
noncomputable def k_feed_ok (Rmd Rtape : Nat → Int32) (x1 : Int32) (x2 : Int32) (x3 : Int32) (x4 : Int32) (x5 : Int32) : Prop := (if ((Rmd 2) + (nI 20)) ≤ (nI 600) then ((∀ i6, i6 < (cN 20) → k_feed_23_ok (upd (Rmd) 0 (nI 0)) (Rtape) x1 x2 x3 x4 x5 i6) ∧ True) else True)
set_option maxHeartbeats 4000000 in
set_option maxRecDepth 3000 in
theorem c_k_feed_54 (z : Zp) (d : Nat) (M : Mem) (x1 : Int32) (x2 : Int32) (x3 : Int32) (x4 : Int32) (x5 : Int32) (hk : k_feed_ok (M.1 54) (M.1 56) x1 x2 x3 x4 x5) : GM z mX12_feed (d) [.ref 54, .int x1, .int x2, .int x3, .int x4, .int x5] M (fun rs => rs = .inl (some (.int ((k_feed (M.1 54) (M.1 56) x1 x2 x3 x4 x5).1)), mrow (mrow M 54 ((k_feed (M.1 54) (M.1 56) x1 x2 x3 x4 x5).2.1)) 56 ((k_feed (M.1 54) (M.1 56) x1 x2 x3 x4 x5).2.2))) := by
  simp only [k_feed_ok] at hk
  refine GM.of oX12_feed.1 (Nat.le_of_ble_eq_true rfl) ?_
  show G z mX12_feed (d) 0 0 0 [some (.ref 54), some (.int x1), some (.int x2), some (.int x3), some (.int x4), some (.int x5), none, none] [] M _
  obtain ⟨Q, hQ⟩ : ∃ Q : Rs → Prop, Q = (fun rs => rs = .inl (some (.int ((k_feed (M.1 54) (M.1 56) x1 x2 x3 x4 x5).1)), mrow (mrow M 54 ((k_feed (M.1 54) (M.1 56) x1 x2 x3 x4 x5).2.1)) 56 ((k_feed (M.1 54) (M.1 56) x1 x2 x3 x4 x5).2.2))) := ⟨_, rfl⟩
  rw [← hQ]
  refine G.sl [(.aload_n 0, 1, 0, 0, 0, 0), (.iconst 0, 1, 0, 0, 0, nI 0), (.putfield 3, 3, 11, 0, 123, 0), (.aload_n 0, 1, 0, 0, 0, 0), (.getfield 98, 3, 11, 2, 125, 0), (.bipush 20, 2, 0, 0, 0, nI 20), (.iadd, 1, 0, 0, 0, 0), (.sipush 600, 3, 0, 0, 0, nI 600)] [] (pc2 := 15) (ls2 := [some (.ref 54), some (.int x1), some (.int x2), some (.int x3), some (.int x4), some (.int x5), none, none]) (st2 := [.int (nI 600), .int ((M.1 54 2) + (nI 20))]) (M2 := mput M 54 0 (nI 0)) (Ps := []) (by decide +kernel) rfl rfl trivial ?_
  refine G.mem (M' := mrow M 54 (upd (M.1 54) 0 (nI 0))) (by first | rfl | (simp only [mput, mrow_same, mrow_hit, mrow_miss, mrow_sw, idr_eq, ne_eq, Nat.reduceEqDiff, not_false_eq_true, Nat.reduceLT, reduceCtorEq]; done)) ?_
  refine G.ic_le (off := (5)) (tgt := 20) (by decide +kernel) rfl (fun c1 => ?_) (fun c1 => ?_)
  · skip
    rw [if_pos c1] at hk
    refine G.sl [(.iconst 0, 1, 0, 0, 0, nI 0), (.istore 6, 2, 6, 0, 0, 0)] [] (pc2 := 23) (ls2 := [some (.ref 54), some (.int x1), some (.int x2), some (.int x3), some (.int x4), some (.int x5), some (.int (nI 0)), none]) (st2 := []) (M2 := mrow M 54 (upd (M.1 54) 0 (nI 0))) (Ps := []) (by decide +kernel) rfl rfl trivial ?_
    obtain ⟨k17, hk⟩ := hk
    refine lp_k_feed_54_23 z d (mrow M 54 (upd (M.1 54) 0 (nI 0))) Q (cN 20) x1 x2 x3 x4 x5 (cN_eq 20) (by first | (simp only [mput, mrow_same, mrow_hit, mrow_miss, mrow_sw, idr_eq, ne_eq, Nat.reduceEqDiff, not_false_eq_true, Nat.reduceLT, reduceCtorEq]; exact k17) | exact k17) ?_
    try simp only [mput, mrow_same, mrow_hit, mrow_miss, mrow_sw, idr_eq, ne_eq, Nat.reduceEqDiff, not_false_eq_true, Nat.reduceLT, reduceCtorEq]
    rcases g18 : k_feed_23 (upd (M.1 54) 0 (nI 0)) (M.1 56) x1 x2 x3 x4 x5 (cN 20) with ⟨r19, r20⟩
    show G z mX12_feed (d) 0 0 120 [some (.ref 54), none, none, none, none, none, none, none] [] (mrow (mrow M 54 r19) 56 r20) Q
    refine G.sl [(.aload_n 0, 1, 0, 0, 0, 0), (.getfield 98, 3, 11, 2, 125, 0)] [] (pc2 := 124) (ls2 := [some (.ref 54), none, none, none, none, none, none, none]) (st2 := [.int (r19 2)]) (M2 := mrow (mrow M 54 r19) 56 r20) (Ps := []) (by decide +kernel) rfl rfl trivial ?_
    exact G.reti (by decide +kernel) rfl rfl (Nat.le_of_ble_eq_true rfl) (Nat.le_of_ble_eq_true rfl) ((by rw [hQ]; simp only [k_feed, if_pos c1, g18, mrow_self]))
  · skip
    rw [if_neg c1] at hk
    refine G.sl [(.iconst (-1), 1, 0, 0, 0, (-1))] [] (pc2 := 19) (ls2 := [some (.ref 54), some (.int x1), some (.int x2), some (.int x3), some (.int x4), some (.int x5), none, none]) (st2 := [.int ((-1))]) (M2 := mrow M 54 (upd (M.1 54) 0 (nI 0))) (Ps := []) (by decide +kernel) rfl rfl trivial ?_
    refine G.mem (M' := mrow (mrow M 54 (upd (M.1 54) 0 (nI 0))) 56 (M.1 56)) (((mrow_id (N := mrow M 54 (upd (M.1 54) 0 (nI 0))) (c := 56) (f := M.1 56) (by first | rfl | (simp only [mput, mrow_same, mrow_hit, mrow_miss, mrow_sw, idr_eq, ne_eq, Nat.reduceEqDiff, not_false_eq_true, Nat.reduceLT, reduceCtorEq]; done))).symm).trans (by first | rfl | (simp only [mput, mrow_same, mrow_hit, mrow_miss, mrow_sw, idr_eq, ne_eq, Nat.reduceEqDiff, not_false_eq_true, Nat.reduceLT, reduceCtorEq]; done))) ?_
    exact G.reti (by decide +kernel) rfl rfl (Nat.le_of_ble_eq_true rfl) (Nat.le_of_ble_eq_true rfl) ((by rw [hQ]; simp only [k_feed, if_neg c1, mrow_self]))
noncomputable def k_fault (Rmd : Nat → Int32) : Int32 × (Nat → Int32) := (Rmd 8, upd (Rmd) 0 (nI 0))
set_option maxHeartbeats 4000000 in
set_option maxRecDepth 3000 in
theorem c_k_fault_54 (z : Zp) (d : Nat) (M : Mem) : GM z mX12_fault (d) [.ref 54] M (fun rs => rs = .inl (some (.int ((k_fault (M.1 54)).1)), mrow M 54 ((k_fault (M.1 54)).2))) := by
  refine GM.of oX12_fault.1 (Nat.le_of_ble_eq_true rfl) ?_
  show G z mX12_fault (d) 0 0 0 [some (.ref 54)] [] M _
  obtain ⟨Q, hQ⟩ : ∃ Q : Rs → Prop, Q = (fun rs => rs = .inl (some (.int ((k_fault (M.1 54)).1)), mrow M 54 ((k_fault (M.1 54)).2))) := ⟨_, rfl⟩
  rw [← hQ]
  refine G.sl [(.aload_n 0, 1, 0, 0, 0, 0), (.iconst 0, 1, 0, 0, 0, nI 0), (.putfield 3, 3, 11, 0, 123, 0), (.aload_n 0, 1, 0, 0, 0, 0), (.getfield 17, 3, 11, 8, 131, 0)] [] (pc2 := 9) (ls2 := [some (.ref 54)]) (st2 := [.int (M.1 54 8)]) (M2 := mput M 54 0 (nI 0)) (Ps := []) (by decide +kernel) rfl rfl trivial ?_
  refine G.mem (M' := mrow M 54 (upd (M.1 54) 0 (nI 0))) (by first | rfl | (simp only [mput, mrow_same, mrow_hit, mrow_miss, mrow_sw, idr_eq, ne_eq, Nat.reduceEqDiff, not_false_eq_true, Nat.reduceLT, reduceCtorEq]; done)) ?_
  exact G.reti (by decide +kernel) rfl rfl (Nat.le_of_ble_eq_true rfl) (Nat.le_of_ble_eq_true rfl) ((by rw [hQ]; simp only [k_fault, mrow_self]))
noncomputable def k_may_1 (Rmd Rrefused : Nat → Int32) (x1 : Int32) (x2 : Int32) : Int32 × (Nat → Int32) × (Nat → Int32) := (if x1 = 0 then (if (Rmd 0) = 0 then (if x2 = 0 then (nI 1, upd (Rmd) 0 x2, upd (Rrefused) 1 ((Rrefused 1) + (nI 1))) else (nI 0, upd (Rmd) 0 x2, upd (Rrefused) 1 ((Rrefused 1) + (nI 1)))) else (nI 0, Rmd, Rrefused)) else (if (Rmd 0) = 0 then (nI 1, Rmd, Rrefused) else (nI 0, Rmd, Rrefused)))
theorem k_may_1_01 (Rmd Rrefused : Nat → Int32) (x1 : Int32) (x2 : Int32) : (k_may_1 Rmd Rrefused x1 x2).1 = 0 ∨ (k_may_1 Rmd Rrefused x1 x2).1 = 1 := by
  unfold k_may_1
  repeat' split
  all_goals first | exact Or.inl rfl | exact Or.inr rfl
set_option maxHeartbeats 4000000 in
set_option maxRecDepth 3000 in
theorem c_k_may_1_54 (z : Zp) (d : Nat) (M : Mem) (x1 : Int32) (x2 : Int32) : GM z mX12_may (d) [.ref 54, .int x1, .int x2, .int (nI 1)] M (fun rs => rs = .inl (some (.int ((k_may_1 (M.1 54) (M.1 55) x1 x2).1)), mrow (mrow M 54 ((k_may_1 (M.1 54) (M.1 55) x1 x2).2.1)) 55 ((k_may_1 (M.1 54) (M.1 55) x1 x2).2.2))) := by
  refine GM.of oX12_may.1 (Nat.le_of_ble_eq_true rfl) ?_
  show G z mX12_may (d) 0 0 0 [some (.ref 54), some (.int x1), some (.int x2), some (.int (nI 1))] [] M _
  obtain ⟨Q, hQ⟩ : ∃ Q : Rs → Prop, Q = (fun rs => rs = .inl (some (.int ((k_may_1 (M.1 54) (M.1 55) x1 x2).1)), mrow (mrow M 54 ((k_may_1 (M.1 54) (M.1 55) x1 x2).2.1)) 55 ((k_may_1 (M.1 54) (M.1 55) x1 x2).2.2))) := ⟨_, rfl⟩
  rw [← hQ]
  refine G.sl [(.iload_n 1, 1, 1, 0, 0, 0)] [] (pc2 := 1) (ls2 := [some (.ref 54), some (.int x1), some (.int x2), some (.int (nI 1))]) (st2 := [.int x1]) (M2 := M) (Ps := []) (by decide +kernel) rfl rfl trivial ?_
  refine G.if_ne (off := (25)) (tgt := 26) (by decide +kernel) rfl (fun c1 => ?_) (fun c1 => ?_)
  · skip
    refine G.sl [(.aload_n 0, 1, 0, 0, 0, 0), (.getfield 3, 3, 11, 0, 123, 0)] [] (pc2 := 30) (ls2 := [some (.ref 54), some (.int x1), some (.int x2), some (.int (nI 1))]) (st2 := [.int (M.1 54 0)]) (M2 := M) (Ps := []) (by decide +kernel) rfl rfl trivial ?_
    refine G.if_ne (off := (7)) (tgt := 37) (by decide +kernel) rfl (fun c2 => ?_) (fun c2 => ?_)
    · skip
      refine G.sl [(.iconst 0, 1, 0, 0, 0, nI 0)] [] (pc2 := 38) (ls2 := [some (.ref 54), some (.int x1), some (.int x2), some (.int (nI 1))]) (st2 := [.int (nI 0)]) (M2 := M) (Ps := []) (by decide +kernel) rfl rfl trivial ?_
      refine G.mem (M' := mrow (mrow M 54 (M.1 54)) 55 (M.1 55)) ((((mrow_id (N := M) (c := 54) (f := M.1 54) (by first | rfl | (simp only [mput, mrow_same, mrow_hit, mrow_miss, mrow_sw, idr_eq, ne_eq, Nat.reduceEqDiff, not_false_eq_true, Nat.reduceLT, reduceCtorEq]; done))).symm).trans (mrow_id (N := mrow M 54 (M.1 54)) (c := 55) (f := M.1 55) (by first | rfl | (simp only [mput, mrow_same, mrow_hit, mrow_miss, mrow_sw, idr_eq, ne_eq, Nat.reduceEqDiff, not_false_eq_true, Nat.reduceLT, reduceCtorEq]; done))).symm).trans (by first | rfl | (simp only [mput, mrow_same, mrow_hit, mrow_miss, mrow_sw, idr_eq, ne_eq, Nat.reduceEqDiff, not_false_eq_true, Nat.reduceLT, reduceCtorEq]; done))) ?_
      exact G.reti (by decide +kernel) rfl rfl (Nat.le_of_ble_eq_true rfl) (Nat.le_of_ble_eq_true rfl) ((by rw [hQ]; simp only [k_may_1, if_neg c1, if_neg c2, mrow_self]))
    · skip
      refine G.sl [(.iconst 1, 1, 0, 0, 0, nI 1), (.goto 4, 3, 38, 0, 0, 0)] [] (pc2 := 38) (ls2 := [some (.ref 54), some (.int x1), some (.int x2), some (.int (nI 1))]) (st2 := [.int (nI 1)]) (M2 := M) (Ps := []) (by decide +kernel) rfl rfl trivial ?_
      refine G.mem (M' := mrow (mrow M 54 (M.1 54)) 55 (M.1 55)) ((((mrow_id (N := M) (c := 54) (f := M.1 54) (by first | rfl | (simp only [mput, mrow_same, mrow_hit, mrow_miss, mrow_sw, idr_eq, ne_eq, Nat.reduceEqDiff, not_false_eq_true, Nat.reduceLT, reduceCtorEq]; done))).symm).trans (mrow_id (N := mrow M 54 (M.1 54)) (c := 55) (f := M.1 55) (by first | rfl | (simp only [mput, mrow_same, mrow_hit, mrow_miss, mrow_sw, idr_eq, ne_eq, Nat.reduceEqDiff, not_false_eq_true, Nat.reduceLT, reduceCtorEq]; done))).symm).trans (by first | rfl | (simp only [mput, mrow_same, mrow_hit, mrow_miss, mrow_sw, idr_eq, ne_eq, Nat.reduceEqDiff, not_false_eq_true, Nat.reduceLT, reduceCtorEq]; done))) ?_
      exact G.reti (by decide +kernel) rfl rfl (Nat.le_of_ble_eq_true rfl) (Nat.le_of_ble_eq_true rfl) ((by rw [hQ]; simp only [k_may_1, if_neg c1, if_pos c2, mrow_self]))
  · skip
    refine G.sl [(.aload_n 0, 1, 0, 0, 0, 0), (.getfield 3, 3, 11, 0, 123, 0)] [] (pc2 := 8) (ls2 := [some (.ref 54), some (.int x1), some (.int x2), some (.int (nI 1))]) (st2 := [.int (M.1 54 0)]) (M2 := M) (Ps := []) (by decide +kernel) rfl rfl trivial ?_
    refine G.if_ne (off := (18)) (tgt := 26) (by decide +kernel) rfl (fun c3 => ?_) (fun c3 => ?_)
    · skip
      refine G.sl [(.aload_n 0, 1, 0, 0, 0, 0), (.getfield 3, 3, 11, 0, 123, 0)] [] (pc2 := 30) (ls2 := [some (.ref 54), some (.int x1), some (.int x2), some (.int (nI 1))]) (st2 := [.int (M.1 54 0)]) (M2 := M) (Ps := []) (by decide +kernel) rfl rfl trivial ?_
      refine G.if_ne (off := (7)) (tgt := 37) (by decide +kernel) rfl (fun _ => ?_) (fun h9 => absurd h9 c3)
      refine G.sl [(.iconst 0, 1, 0, 0, 0, nI 0)] [] (pc2 := 38) (ls2 := [some (.ref 54), some (.int x1), some (.int x2), some (.int (nI 1))]) (st2 := [.int (nI 0)]) (M2 := M) (Ps := []) (by decide +kernel) rfl rfl trivial ?_
      refine G.mem (M' := mrow (mrow M 54 (M.1 54)) 55 (M.1 55)) ((((mrow_id (N := M) (c := 54) (f := M.1 54) (by first | rfl | (simp only [mput, mrow_same, mrow_hit, mrow_miss, mrow_sw, idr_eq, ne_eq, Nat.reduceEqDiff, not_false_eq_true, Nat.reduceLT, reduceCtorEq]; done))).symm).trans (mrow_id (N := mrow M 54 (M.1 54)) (c := 55) (f := M.1 55) (by first | rfl | (simp only [mput, mrow_same, mrow_hit, mrow_miss, mrow_sw, idr_eq, ne_eq, Nat.reduceEqDiff, not_false_eq_true, Nat.reduceLT, reduceCtorEq]; done))).symm).trans (by first | rfl | (simp only [mput, mrow_same, mrow_hit, mrow_miss, mrow_sw, idr_eq, ne_eq, Nat.reduceEqDiff, not_false_eq_true, Nat.reduceLT, reduceCtorEq]; done))) ?_
      exact G.reti (by decide +kernel) rfl rfl (Nat.le_of_ble_eq_true rfl) (Nat.le_of_ble_eq_true rfl) ((by rw [hQ]; simp only [k_may_1, if_pos c1, if_neg c3, mrow_self]))
    · skip
      refine G.sl [(.aload_n 0, 1, 0, 0, 0, 0), (.iload_n 2, 1, 2, 0, 0, 0), (.putfield 3, 3, 11, 0, 123, 0), (.aload_n 0, 1, 0, 0, 0, 0), (.getfield 7, 3, 11, 1, 124, 0), (.iload_n 3, 1, 3, 0, 0, 0), (.dup2, 1, 0, 0, 0, 0), (.iaload, 1, 0, 0, 0, 0), (.iconst 1, 1, 0, 0, 0, nI 1), (.iadd, 1, 0, 0, 0, 0), (.iastore, 1, 0, 0, 0, 0), (.aload_n 0, 1, 0, 0, 0, 0), (.getfield 3, 3, 11, 0, 123, 0)] [1, 1] (pc2 := 30) (ls2 := [some (.ref 54), some (.int x1), some (.int x2), some (.int (nI 1))]) (st2 := [.int x2]) (M2 := mput (mput M 54 0 x2) 55 1 ((M.1 55 1) + (nI 1))) (Ps := [(nI 1) = nI 1 ∧ 1 < 2, (nI 1) = nI 1 ∧ 1 < 2]) (by decide +kernel) rfl rfl ⟨⟨rfl, (by omega)⟩, ⟨rfl, (by omega)⟩, trivial⟩ ?_
      refine G.mem (M' := mrow (mrow M 54 (upd (M.1 54) 0 x2)) 55 (upd (M.1 55) 1 ((M.1 55 1) + (nI 1)))) (by first | rfl | (simp only [mput, mrow_same, mrow_hit, mrow_miss, mrow_sw, idr_eq, ne_eq, Nat.reduceEqDiff, not_false_eq_true, Nat.reduceLT, reduceCtorEq]; done)) ?_
      refine G.if_ne (off := (7)) (tgt := 37) (by decide +kernel) rfl (fun c4 => ?_) (fun c4 => ?_)
      · skip
        refine G.sl [(.iconst 0, 1, 0, 0, 0, nI 0)] [] (pc2 := 38) (ls2 := [some (.ref 54), some (.int x1), some (.int x2), some (.int (nI 1))]) (st2 := [.int (nI 0)]) (M2 := mrow (mrow M 54 (upd (M.1 54) 0 x2)) 55 (upd (M.1 55) 1 ((M.1 55 1) + (nI 1)))) (Ps := []) (by decide +kernel) rfl rfl trivial ?_
        exact G.reti (by decide +kernel) rfl rfl (Nat.le_of_ble_eq_true rfl) (Nat.le_of_ble_eq_true rfl) ((by rw [hQ]; simp only [k_may_1, if_pos c1, if_pos c3, if_neg c4, mrow_self]))
      · skip
        refine G.sl [(.iconst 1, 1, 0, 0, 0, nI 1), (.goto 4, 3, 38, 0, 0, 0)] [] (pc2 := 38) (ls2 := [some (.ref 54), some (.int x1), some (.int x2), some (.int (nI 1))]) (st2 := [.int (nI 1)]) (M2 := mrow (mrow M 54 (upd (M.1 54) 0 x2)) 55 (upd (M.1 55) 1 ((M.1 55 1) + (nI 1)))) (Ps := []) (by decide +kernel) rfl rfl trivial ?_
        exact G.reti (by decide +kernel) rfl rfl (Nat.le_of_ble_eq_true rfl) (Nat.le_of_ble_eq_true rfl) ((by rw [hQ]; simp only [k_may_1, if_pos c1, if_pos c3, if_pos c4, mrow_self]))
noncomputable def k_begins (Rmd : Nat → Int32) (x1 : Int32) : Int32 × (Nat → Int32) := (0, upd (upd (upd (upd (upd (upd (Rmd) 2 (nI 0)) 8 ((-1))) 3 x1) 4 (nI 0)) 5 ((-1))) 7 (nI 0))
set_option maxHeartbeats 4000000 in
set_option maxRecDepth 3000 in
theorem c_k_begins_54 (z : Zp) (d : Nat) (M : Mem) (x1 : Int32) : GM z mX12_begins (d) [.ref 54, .int x1] M (fun rs => rs = .inl (none, mrow M 54 ((k_begins (M.1 54) x1).2))) := by
  refine GM.of oX12_begins.1 (Nat.le_of_ble_eq_true rfl) ?_
  show G z mX12_begins (d) 0 0 0 [some (.ref 54), some (.int x1)] [] M _
  obtain ⟨Q, hQ⟩ : ∃ Q : Rs → Prop, Q = (fun rs => rs = .inl (none, mrow M 54 ((k_begins (M.1 54) x1).2))) := ⟨_, rfl⟩
  rw [← hQ]
  refine G.sl [(.aload_n 0, 1, 0, 0, 0, 0), (.iconst 0, 1, 0, 0, 0, nI 0), (.putfield 98, 3, 11, 2, 125, 0), (.aload_n 0, 1, 0, 0, 0, 0), (.iconst (-1), 1, 0, 0, 0, (-1)), (.putfield 17, 3, 11, 8, 131, 0), (.aload_n 0, 1, 0, 0, 0, 0), (.iload_n 1, 1, 1, 0, 0, 0), (.putfield 110, 3, 11, 3, 126, 0), (.aload_n 0, 1, 0, 0, 0, 0), (.iconst 0, 1, 0, 0, 0, nI 0), (.putfield 107, 3, 11, 4, 127, 0), (.aload_n 0, 1, 0, 0, 0, 0), (.iconst (-1), 1, 0, 0, 0, (-1)), (.putfield 101, 3, 11, 5, 128, 0), (.aload_n 0, 1, 0, 0, 0, 0), (.iconst 0, 1, 0, 0, 0, nI 0), (.putfield 141, 3, 11, 7, 130, 0)] [] (pc2 := 30) (ls2 := [some (.ref 54), some (.int x1)]) (st2 := []) (M2 := mput (mput (mput (mput (mput (mput M 54 2 (nI 0)) 54 8 ((-1))) 54 3 x1) 54 4 (nI 0)) 54 5 ((-1))) 54 7 (nI 0)) (Ps := []) (by decide +kernel) rfl rfl trivial ?_
  refine G.mem (M' := mrow M 54 (upd (upd (upd (upd (upd (upd (M.1 54) 2 (nI 0)) 8 ((-1))) 3 x1) 4 (nI 0)) 5 ((-1))) 7 (nI 0))) (by first | rfl | (simp only [mput, mrow_same, mrow_hit, mrow_miss, mrow_sw, idr_eq, ne_eq, Nat.reduceEqDiff, not_false_eq_true, Nat.reduceLT, reduceCtorEq]; done)) ?_
  exact G.retv (by decide +kernel) rfl (Nat.le_of_ble_eq_true rfl) (Nat.le_of_ble_eq_true rfl) ((by rw [hQ]; simp only [k_begins, mrow_self]))
noncomputable def k_book_46 (RnewBook : Nat → Int32) : Nat → (Nat → Int32)
  | 0 => RnewBook
  | i2 + 1 => upd (k_book_46 RnewBook i2) i2 ((-1))
set_option maxHeartbeats 4000000 in
set_option maxRecDepth 3000 in
theorem lp_k_book_54_46 (z : Zp) (d : Nat) (M : Mem) (Q : Rs → Prop) (nn : Nat) (hnn : nn = 8) (hX : G z mX12_book (d + 2) 0 0 65 [some (.ref 54), none, none, none, none, none] [] (mrow M 74 (k_book_46 (M.1 74) nn)) Q) : G z mX12_book (d + 2) 0 0 46 [some (.ref 54), none, some (.int (nI 0)), none, none, none] [] M Q := by
  refine G.mem (M' := mrow M 74 (M.1 74)) (by simp only [mrow_self]) ?_
  refine down (n := nn) (P := fun i2 => G z mX12_book (d + 2) 0 0 46 [some (.ref 54), none, some (.int (nI i2)), none, none, none] [] (mrow M 74 (k_book_46 (M.1 74) i2)) Q) ?_ ?_ 0 (Nat.zero_le _)
  · skip
    refine G.sl [(.iload_n 2, 1, 2, 0, 0, 0), (.bipush 8, 2, 0, 0, 0, nI 8)] [] (pc2 := 49) (ls2 := [some (.ref 54), none, some (.int (nI nn)), none, none, none]) (st2 := [.int (nI 8), .int (nI nn)]) (M2 := mrow M 74 (k_book_46 (M.1 74) nn)) (Ps := []) (by decide +kernel) rfl rfl trivial ?_
    refine G.ic_ge (off := (16)) (tgt := 65) (by decide +kernel) rfl (fun _ => ?_) (fun h9 => absurd (nI_le (by omega) (by omega)) h9)
    refine G.loc (ls2 := [some (.ref 54), none, none, none, none, none]) (by simp [subL]) ?_
    exact hX
  · skip
    intro i2 hi ih
    show G z mX12_book (d + 2) 0 0 46 [some (.ref 54), none, some (.int (nI i2)), none, none, none] [] (mrow M 74 (k_book_46 (M.1 74) i2)) Q
    refine G.sl [(.iload_n 2, 1, 2, 0, 0, 0), (.bipush 8, 2, 0, 0, 0, nI 8)] [] (pc2 := 49) (ls2 := [some (.ref 54), none, some (.int (nI i2)), none, none, none]) (st2 := [.int (nI 8), .int (nI i2)]) (M2 := mrow M 74 (k_book_46 (M.1 74) i2)) (Ps := []) (by decide +kernel) rfl rfl trivial ?_
    refine G.ic_ge (off := (16)) (tgt := 65) (by decide +kernel) rfl (fun h9 => absurd h9 (nI_ge (by omega) (by omega))) (fun _ => ?_)
    refine G.sl [(.aload_n 0, 1, 0, 0, 0, 0), (.getfield 74, 3, 11, 43, 166, 0), (.iload_n 2, 1, 2, 0, 0, 0), (.iconst (-1), 1, 0, 0, 0, (-1)), (.iastore, 1, 0, 0, 0, 0), (.iinc 2 1, 3, 2, 0, 0, nI 1), (.goto (-16), 3, 46, 0, 0, 0)] [i2] (pc2 := 46) (ls2 := [some (.ref 54), none, some (.int ((nI i2) + nI 1)), none, none, none]) (st2 := []) (M2 := mput (mrow M 74 (k_book_46 (M.1 74) i2)) 74 i2 ((-1))) (Ps := [(nI i2) = nI i2 ∧ i2 < 8]) (by decide +kernel) rfl rfl ⟨⟨rfl, (by omega)⟩, trivial⟩ ?_
    refine G.mem (M' := mrow M 74 (upd (k_book_46 (M.1 74) i2) i2 ((-1)))) (by first | rfl | (simp only [mput, mrow_same, mrow_hit, mrow_miss, mrow_sw, idr_eq, ne_eq, Nat.reduceEqDiff, not_false_eq_true, Nat.reduceLT, reduceCtorEq]; done)) ?_
    rw [nI_add i2 1]
    simp only [k_book_46] at ih
    exact ih
noncomputable def k_fine (Rmd : Nat → Int32) : Int32 := (if (Rmd 5) = ((-1)) then nI 1 else nI 0)
theorem k_fine_01 (Rmd : Nat → Int32) : k_fine Rmd = 0 ∨ k_fine Rmd = 1 := by
  unfold k_fine
  repeat' split
  all_goals first | exact Or.inl rfl | exact Or.inr rfl
set_option maxHeartbeats 4000000 in
set_option maxRecDepth 3000 in
theorem c_k_fine_54 (z : Zp) (d : Nat) (M : Mem) : GM z mX12_fine (d) [.ref 54] M (fun rs => rs = .inl (some (.int (k_fine (M.1 54))), M)) := by
  refine GM.of oX12_fine.1 (Nat.le_of_ble_eq_true rfl) ?_
  show G z mX12_fine (d) 0 0 0 [some (.ref 54)] [] M _
  obtain ⟨Q, hQ⟩ : ∃ Q : Rs → Prop, Q = (fun rs => rs = .inl (some (.int (k_fine (M.1 54))), M)) := ⟨_, rfl⟩
  rw [← hQ]
  refine G.sl [(.aload_n 0, 1, 0, 0, 0, 0), (.getfield 101, 3, 11, 5, 128, 0), (.iconst (-1), 1, 0, 0, 0, (-1))] [] (pc2 := 5) (ls2 := [some (.ref 54)]) (st2 := [.int ((-1)), .int (M.1 54 5)]) (M2 := M) (Ps := []) (by decide +kernel) rfl rfl trivial ?_
  refine G.ic_ne (off := (7)) (tgt := 12) (by decide +kernel) rfl (fun c1 => ?_) (fun c1 => ?_)
  · skip
    refine G.sl [(.iconst 0, 1, 0, 0, 0, nI 0)] [] (pc2 := 13) (ls2 := [some (.ref 54)]) (st2 := [.int (nI 0)]) (M2 := M) (Ps := []) (by decide +kernel) rfl rfl trivial ?_
    exact G.reti (by decide +kernel) rfl rfl (Nat.le_of_ble_eq_true rfl) (Nat.le_of_ble_eq_true rfl) ((by rw [hQ]; simp only [k_fine, if_neg c1, mrow_self]))
  · skip
    refine G.sl [(.iconst 1, 1, 0, 0, 0, nI 1), (.goto 4, 3, 13, 0, 0, 0)] [] (pc2 := 13) (ls2 := [some (.ref 54)]) (st2 := [.int (nI 1)]) (M2 := M) (Ps := []) (by decide +kernel) rfl rfl trivial ?_
    exact G.reti (by decide +kernel) rfl rfl (Nat.le_of_ble_eq_true rfl) (Nat.le_of_ble_eq_true rfl) ((by rw [hQ]; simp only [k_fine, if_pos c1, mrow_self]))
noncomputable def k_here_0 (Rtape : Nat → Int32) : Nat → (Nat → Int32) → (Nat → Int32)
  | 0, q54 => q54
  | k0 + 1, q54 => (if (q54 3) ≤ (q54 4) then q54 else (if (Rtape (ix (q54 4))) = (nI 32) then k_here_0 Rtape k0 (upd q54 4 ((q54 4) + (nI 1))) else q54))
noncomputable def k_here_0_ok (Rtape : Nat → Int32) : Nat → (Nat → Int32) → Prop
  | 0, _ => False
  | k0 + 1, q54 => (if (q54 3) ≤ (q54 4) then True else ((isN (q54 4)) ∧ (ix (q54 4) < 600) ∧ (if (Rtape (ix (q54 4))) = (nI 32) then k_here_0_ok Rtape k0 (upd q54 4 ((q54 4) + (nI 1))) else True)))
set_option maxHeartbeats 4000000 in
set_option maxRecDepth 3000 in
theorem lp_k_here_54_0 (z : Zp) (d : Nat) (M : Mem) (Q : Rs → Prop) : ∀ (k0 : Nat) (q54 : (Nat → Int32)), k_here_0_ok (M.1 56) k0 q54 → (match k_here_0 (M.1 56) k0 q54 with | q54' => G z mX12_here (d) 0 0 38 [some (.ref 54)] [] (mrow M 54 (q54')) Q) → G z mX12_here (d) 0 0 0 [some (.ref 54)] [] (mrow M 54 q54) Q := by
  intro k0
  induction k0 with
  | zero =>
      intro q54 hk hX
      exact (by simpa only [k_here_0_ok] using hk : False).elim
  | succ k0 ih =>
      intro q54 hk hX
      simp only [k_here_0_ok] at hk
      refine G.sl [(.aload_n 0, 1, 0, 0, 0, 0), (.getfield 107, 3, 11, 4, 127, 0), (.aload_n 0, 1, 0, 0, 0, 0), (.getfield 110, 3, 11, 3, 126, 0)] [] (pc2 := 8) (ls2 := [some (.ref 54)]) (st2 := [.int (q54 3), .int (q54 4)]) (M2 := mrow M 54 q54) (Ps := []) (by decide +kernel) rfl rfl trivial ?_
      refine G.ic_ge (off := (30)) (tgt := 38) (by decide +kernel) rfl (fun c1 => ?_) (fun c1 => ?_)
      · skip
        rw [if_pos c1] at hk
        simp only [k_here_0, if_pos c1] at hX
        exact hX
      · skip
        rw [if_neg c1] at hk
        obtain ⟨k2, k3, hk⟩ := hk
        refine G.sl [(.aload_n 0, 1, 0, 0, 0, 0), (.getfield 20, 3, 11, 9, 132, 0), (.aload_n 0, 1, 0, 0, 0, 0), (.getfield 107, 3, 11, 4, 127, 0), (.iaload, 1, 0, 0, 0, 0), (.bipush 32, 2, 0, 0, 0, nI 32)] [ix (q54 4)] (pc2 := 22) (ls2 := [some (.ref 54)]) (st2 := [.int (nI 32), .int (M.1 56 (ix (q54 4)))]) (M2 := mrow M 54 q54) (Ps := [(q54 4) = nI (ix (q54 4)) ∧ (ix (q54 4)) < 600]) (by decide +kernel) rfl rfl ⟨⟨(ixE k2), k3⟩, trivial⟩ ?_
        refine G.ic_ne (off := (16)) (tgt := 38) (by decide +kernel) rfl (fun c4 => ?_) (fun c4 => ?_)
        · skip
          rw [if_neg c4] at hk
          simp only [k_here_0, if_neg c1, if_neg c4] at hX
          exact hX
        · skip
          rw [if_pos c4] at hk
          refine G.sl [(.aload_n 0, 1, 0, 0, 0, 0), (.dup, 1, 0, 0, 0, 0), (.getfield 107, 3, 11, 4, 127, 0), (.iconst 1, 1, 0, 0, 0, nI 1), (.iadd, 1, 0, 0, 0, 0), (.putfield 107, 3, 11, 4, 127, 0), (.goto (-35), 3, 0, 0, 0, 0)] [] (pc2 := 0) (ls2 := [some (.ref 54)]) (st2 := []) (M2 := mput (mrow M 54 q54) 54 4 ((q54 4) + (nI 1))) (Ps := []) (by decide +kernel) rfl rfl trivial ?_
          refine G.mem (M' := mrow M 54 (upd q54 4 ((q54 4) + (nI 1)))) (by first | rfl | (simp only [mput, mrow_same, mrow_hit, mrow_miss, mrow_sw, idr_eq, ne_eq, Nat.reduceEqDiff, not_false_eq_true, Nat.reduceLT, reduceCtorEq]; done)) ?_
          simp only [k_here_0, if_neg c1, if_pos c4] at hX
          exact ih (upd q54 4 ((q54 4) + (nI 1))) hk hX
noncomputable def k_here (Rmd Rtape : Nat → Int32) : Int32 × (Nat → Int32) := (if ((k_here_0 (Rtape) FU (Rmd)) 3) ≤ ((k_here_0 (Rtape) FU (Rmd)) 4) then (nI 0, k_here_0 (Rtape) FU (Rmd)) else (Rtape (ix ((k_here_0 (Rtape) FU (Rmd)) 4)), k_here_0 (Rtape) FU (Rmd)))
noncomputable def k_here_ok (Rmd Rtape : Nat → Int32) : Prop := (k_here_0_ok (Rtape) FU (Rmd) ∧ (if ((k_here_0 (Rtape) FU (Rmd)) 3) ≤ ((k_here_0 (Rtape) FU (Rmd)) 4) then True else ((isN ((k_here_0 (Rtape) FU (Rmd)) 4)) ∧ (ix ((k_here_0 (Rtape) FU (Rmd)) 4) < 600) ∧ True)))
set_option maxHeartbeats 4000000 in
set_option maxRecDepth 3000 in
theorem c_k_here_54 (z : Zp) (d : Nat) (M : Mem) (hk : k_here_ok (M.1 54) (M.1 56)) : GM z mX12_here (d) [.ref 54] M (fun rs => rs = .inl (some (.int ((k_here (M.1 54) (M.1 56)).1)), mrow M 54 ((k_here (M.1 54) (M.1 56)).2))) := by
  simp only [k_here_ok] at hk
  refine GM.of oX12_here.1 (Nat.le_of_ble_eq_true rfl) ?_
  show G z mX12_here (d) 0 0 0 [some (.ref 54)] [] M _
  obtain ⟨Q, hQ⟩ : ∃ Q : Rs → Prop, Q = (fun rs => rs = .inl (some (.int ((k_here (M.1 54) (M.1 56)).1)), mrow M 54 ((k_here (M.1 54) (M.1 56)).2))) := ⟨_, rfl⟩
  rw [← hQ]
  obtain ⟨k5, hk⟩ := hk
  refine G.mem (M' := mrow M 54 (M.1 54)) (by simp only [mrow_self]) ?_
  refine lp_k_here_54_0 z d M Q FU (M.1 54) (by first | (simp only [mput, mrow_same, mrow_hit, mrow_miss, mrow_sw, idr_eq, ne_eq, Nat.reduceEqDiff, not_false_eq_true, Nat.reduceLT, reduceCtorEq]; exact k5) | exact k5) ?_
  try simp only [mput, mrow_same, mrow_hit, mrow_miss, mrow_sw, idr_eq, ne_eq, Nat.reduceEqDiff, not_false_eq_true, Nat.reduceLT, reduceCtorEq]
  show G z mX12_here (d) 0 0 38 [some (.ref 54)] [] (mrow M 54 (k_here_0 (M.1 56) FU (M.1 54))) Q
  refine G.sl [(.aload_n 0, 1, 0, 0, 0, 0), (.getfield 107, 3, 11, 4, 127, 0), (.aload_n 0, 1, 0, 0, 0, 0), (.getfield 110, 3, 11, 3, 126, 0)] [] (pc2 := 46) (ls2 := [some (.ref 54)]) (st2 := [.int ((k_here_0 (M.1 56) FU (M.1 54)) 3), .int ((k_here_0 (M.1 56) FU (M.1 54)) 4)]) (M2 := mrow M 54 (k_here_0 (M.1 56) FU (M.1 54))) (Ps := []) (by decide +kernel) rfl rfl trivial ?_
  refine G.ic_ge (off := (15)) (tgt := 61) (by decide +kernel) rfl (fun c6 => ?_) (fun c6 => ?_)
  · skip
    rw [if_pos c6] at hk
    refine G.sl [(.iconst 0, 1, 0, 0, 0, nI 0)] [] (pc2 := 62) (ls2 := [some (.ref 54)]) (st2 := [.int (nI 0)]) (M2 := mrow M 54 (k_here_0 (M.1 56) FU (M.1 54))) (Ps := []) (by decide +kernel) rfl rfl trivial ?_
    exact G.reti (by decide +kernel) rfl rfl (Nat.le_of_ble_eq_true rfl) (Nat.le_of_ble_eq_true rfl) ((by rw [hQ]; simp only [k_here, if_pos c6, mrow_self]))
  · skip
    rw [if_neg c6] at hk
    obtain ⟨k7, k8, hk⟩ := hk
    refine G.sl [(.aload_n 0, 1, 0, 0, 0, 0), (.getfield 20, 3, 11, 9, 132, 0), (.aload_n 0, 1, 0, 0, 0, 0), (.getfield 107, 3, 11, 4, 127, 0), (.iaload, 1, 0, 0, 0, 0), (.goto 4, 3, 62, 0, 0, 0)] [ix ((k_here_0 (M.1 56) FU (M.1 54)) 4)] (pc2 := 62) (ls2 := [some (.ref 54)]) (st2 := [.int (M.1 56 (ix ((k_here_0 (M.1 56) FU (M.1 54)) 4)))]) (M2 := mrow M 54 (k_here_0 (M.1 56) FU (M.1 54))) (Ps := [((k_here_0 (M.1 56) FU (M.1 54)) 4) = nI (ix ((k_here_0 (M.1 56) FU (M.1 54)) 4)) ∧ (ix ((k_here_0 (M.1 56) FU (M.1 54)) 4)) < 600]) (by decide +kernel) rfl rfl ⟨⟨(ixE k7), k8⟩, trivial⟩ ?_
    exact G.reti (by decide +kernel) rfl rfl (Nat.le_of_ble_eq_true rfl) (Nat.le_of_ble_eq_true rfl) ((by rw [hQ]; simp only [k_here, if_neg c6, mrow_self]))
noncomputable def k_isMore (Rmd Rtape : Nat → Int32) : Int32 × (Nat → Int32) := (match k_here (Rmd) (Rtape) with | (v3, r4) => (if (r4 3) ≤ (r4 4) then (nI 0, r4) else (nI 1, r4)))
noncomputable def k_isMore_ok (Rmd Rtape : Nat → Int32) : Prop := (k_here_ok (Rmd) (Rtape) ∧ True)
theorem k_isMore_01 (Rmd Rtape : Nat → Int32) : (k_isMore Rmd Rtape).1 = 0 ∨ (k_isMore Rmd Rtape).1 = 1 := by
  unfold k_isMore
  repeat' split
  all_goals first | exact Or.inl rfl | exact Or.inr rfl
set_option maxHeartbeats 4000000 in
set_option maxRecDepth 3000 in
theorem c_k_isMore_54 (z : Zp) (d : Nat) (M : Mem) (hk : k_isMore_ok (M.1 54) (M.1 56)) : GM z mX12_isMore (d + 1) [.ref 54] M (fun rs => rs = .inl (some (.int ((k_isMore (M.1 54) (M.1 56)).1)), mrow M 54 ((k_isMore (M.1 54) (M.1 56)).2))) := by
  simp only [k_isMore_ok] at hk
  refine GM.of oX12_isMore.1 (Nat.le_of_ble_eq_true rfl) ?_
  show G z mX12_isMore (d + 1) 0 0 0 [some (.ref 54)] [] M _
  obtain ⟨Q, hQ⟩ : ∃ Q : Rs → Prop, Q = (fun rs => rs = .inl (some (.int ((k_isMore (M.1 54) (M.1 56)).1)), mrow M 54 ((k_isMore (M.1 54) (M.1 56)).2))) := ⟨_, rfl⟩
  rw [← hQ]
  refine G.sl [(.aload_n 0, 1, 0, 0, 0, 0)] [] (pc2 := 1) (ls2 := [some (.ref 54)]) (st2 := [.ref 54]) (M2 := M) (Ps := []) (by decide +kernel) rfl rfl trivial ?_
  obtain ⟨k1, hk⟩ := hk
  rcases g2 : k_here (M.1 54) (M.1 56) with ⟨v3, r4⟩
  have t5 : GM z mX12_here (d) [.ref 54] M (fun rs => rs = .inl (some (.int v3), mrow M 54 r4)) := by
    have q9 := c_k_here_54 z d M k1
    try simp only [mput, mrow_same, mrow_hit, mrow_miss, mrow_sw, idr_eq, ne_eq, Nat.reduceEqDiff, not_false_eq_true, Nat.reduceLT, reduceCtorEq, g2] at q9
    exact q9
  refine G.callV (as := []) (rest := []) (a := 54) oX12_here lk_EvenFindersModel_113 (by decide +kernel) rfl rfl ⟨rfl, rfl⟩ (Nat.le_of_ble_eq_true rfl) rfl ⟨Nat.le_of_ble_eq_true rfl, Nat.le_of_ble_eq_true rfl⟩ t5 (fun v9 N9 h6 => ?_) (fun E9 N9 h6 => by cases h6)
  cases h6
  show G z mX12_isMore (d + 1) 0 0 4 [some (.ref 54)] [.int v3] (mrow M 54 r4) Q
  refine G.sl [(.pop, 1, 0, 0, 0, 0), (.aload_n 0, 1, 0, 0, 0, 0), (.getfield 107, 3, 11, 4, 127, 0), (.aload_n 0, 1, 0, 0, 0, 0), (.getfield 110, 3, 11, 3, 126, 0)] [] (pc2 := 13) (ls2 := [some (.ref 54)]) (st2 := [.int (r4 3), .int (r4 4)]) (M2 := mrow M 54 r4) (Ps := []) (by decide +kernel) rfl rfl trivial ?_
  refine G.ic_ge (off := (7)) (tgt := 20) (by decide +kernel) rfl (fun c7 => ?_) (fun c7 => ?_)
  · skip
    refine G.sl [(.iconst 0, 1, 0, 0, 0, nI 0)] [] (pc2 := 21) (ls2 := [some (.ref 54)]) (st2 := [.int (nI 0)]) (M2 := mrow M 54 r4) (Ps := []) (by decide +kernel) rfl rfl trivial ?_
    exact G.reti (by decide +kernel) rfl rfl (Nat.le_of_ble_eq_true rfl) (Nat.le_of_ble_eq_true rfl) ((by rw [hQ]; simp only [k_isMore, g2, if_pos c7, mrow_self]))
  · skip
    refine G.sl [(.iconst 1, 1, 0, 0, 0, nI 1), (.goto 4, 3, 21, 0, 0, 0)] [] (pc2 := 21) (ls2 := [some (.ref 54)]) (st2 := [.int (nI 1)]) (M2 := mrow M 54 r4) (Ps := []) (by decide +kernel) rfl rfl trivial ?_
    exact G.reti (by decide +kernel) rfl rfl (Nat.le_of_ble_eq_true rfl) (Nat.le_of_ble_eq_true rfl) ((by rw [hQ]; simp only [k_isMore, g2, if_neg c7, mrow_self]))
noncomputable def k_isDigit (x0 : Int32) : Int32 := (if x0 < (nI 48) then nI 0 else (if (nI 57) < x0 then nI 0 else nI 1))
theorem k_isDigit_01 (x0 : Int32) : k_isDigit x0 = 0 ∨ k_isDigit x0 = 1 := by
  unfold k_isDigit
  repeat' split
  all_goals first | exact Or.inl rfl | exact Or.inr rfl
set_option maxHeartbeats 4000000 in
set_option maxRecDepth 3000 in
theorem c_k_isDigit (z : Zp) (d : Nat) (M : Mem) (x0 : Int32) : GM z mX12_isDigit (d) [.int x0] M (fun rs => rs = .inl (some (.int (k_isDigit x0)), M)) := by
  refine GM.of oX12_isDigit.1 (Nat.le_of_ble_eq_true rfl) ?_
  show G z mX12_isDigit (d) 0 0 0 [some (.int x0)] [] M _
  obtain ⟨Q, hQ⟩ : ∃ Q : Rs → Prop, Q = (fun rs => rs = .inl (some (.int (k_isDigit x0)), M)) := ⟨_, rfl⟩
  rw [← hQ]
  refine G.sl [(.iload_n 0, 1, 0, 0, 0, 0), (.bipush 48, 2, 0, 0, 0, nI 48)] [] (pc2 := 3) (ls2 := [some (.int x0)]) (st2 := [.int (nI 48), .int x0]) (M2 := M) (Ps := []) (by decide +kernel) rfl rfl trivial ?_
  refine G.ic_lt (off := (13)) (tgt := 16) (by decide +kernel) rfl (fun c1 => ?_) (fun c1 => ?_)
  · skip
    refine G.sl [(.iconst 0, 1, 0, 0, 0, nI 0)] [] (pc2 := 17) (ls2 := [some (.int x0)]) (st2 := [.int (nI 0)]) (M2 := M) (Ps := []) (by decide +kernel) rfl rfl trivial ?_
    exact G.reti (by decide +kernel) rfl rfl (Nat.le_of_ble_eq_true rfl) (Nat.le_of_ble_eq_true rfl) ((by rw [hQ]; simp only [k_isDigit, if_pos c1, mrow_self]))
  · skip
    refine G.sl [(.iload_n 0, 1, 0, 0, 0, 0), (.bipush 57, 2, 0, 0, 0, nI 57)] [] (pc2 := 9) (ls2 := [some (.int x0)]) (st2 := [.int (nI 57), .int x0]) (M2 := M) (Ps := []) (by decide +kernel) rfl rfl trivial ?_
    refine G.ic_gt (off := (7)) (tgt := 16) (by decide +kernel) rfl (fun c2 => ?_) (fun c2 => ?_)
    · skip
      refine G.sl [(.iconst 0, 1, 0, 0, 0, nI 0)] [] (pc2 := 17) (ls2 := [some (.int x0)]) (st2 := [.int (nI 0)]) (M2 := M) (Ps := []) (by decide +kernel) rfl rfl trivial ?_
      exact G.reti (by decide +kernel) rfl rfl (Nat.le_of_ble_eq_true rfl) (Nat.le_of_ble_eq_true rfl) ((by rw [hQ]; simp only [k_isDigit, if_neg c1, if_pos c2, mrow_self]))
    · skip
      refine G.sl [(.iconst 1, 1, 0, 0, 0, nI 1), (.goto 4, 3, 17, 0, 0, 0)] [] (pc2 := 17) (ls2 := [some (.int x0)]) (st2 := [.int (nI 1)]) (M2 := M) (Ps := []) (by decide +kernel) rfl rfl trivial ?_
      exact G.reti (by decide +kernel) rfl rfl (Nat.le_of_ble_eq_true rfl) (Nat.le_of_ble_eq_true rfl) ((by rw [hQ]; simp only [k_isDigit, if_neg c1, if_neg c2, mrow_self]))
noncomputable def k_readNumber_41 (Rtape : Nat → Int32) (x1 : Int32) (x2 : Int32) (x4 : Int32) : Nat → Int32 → (Nat → Int32) → Int32 × (Nat → Int32)
  | 0, s5, q54 => (s5, q54)
  | k0 + 1, s5, q54 => (if (q54 3) ≤ (q54 4) then (s5, q54) else (if (k_isDigit (Rtape (ix (q54 4)))) = 0 then (s5, q54) else (if s5 ≤ (nI 9999) then k_readNumber_41 Rtape x1 x2 x4 k0 ((((nI 10) * s5) + (Rtape (ix (q54 4)))) - (nI 48)) (upd q54 4 ((q54 4) + (nI 1))) else k_readNumber_41 Rtape x1 x2 x4 k0 (nI 10000) (upd q54 4 ((q54 4) + (nI 1))))))
noncomputable def k_readNumber_41_ok (Rtape : Nat → Int32) (x1 : Int32) (x2 : Int32) (x4 : Int32) : Nat → Int32 → (Nat → Int32) → Prop
  | 0, _, _ => False
  | k0 + 1, s5, q54 => (if (q54 3) ≤ (q54 4) then True else ((isN (q54 4)) ∧ (ix (q54 4) < 600) ∧ (True ∧ (if (k_isDigit (Rtape (ix (q54 4)))) = 0 then True else (if s5 ≤ (nI 9999) then k_readNumber_41_ok Rtape x1 x2 x4 k0 ((((nI 10) * s5) + (Rtape (ix (q54 4)))) - (nI 48)) (upd q54 4 ((q54 4) + (nI 1))) else k_readNumber_41_ok Rtape x1 x2 x4 k0 (nI 10000) (upd q54 4 ((q54 4) + (nI 1))))))))
set_option maxHeartbeats 4000000 in
set_option maxRecDepth 3000 in
theorem lp_k_readNumber_54_41 (z : Zp) (d : Nat) (M : Mem) (Q : Rs → Prop) (x1 : Int32) (x2 : Int32) (x4 : Int32) : ∀ (k0 : Nat) (s5 : Int32) (q54 : (Nat → Int32)), k_readNumber_41_ok (M.1 56) x1 x2 x4 k0 s5 q54 → (match k_readNumber_41 (M.1 56) x1 x2 x4 k0 s5 q54 with | (s5', q54') => G z mX12_readNumber (d + 1) 0 0 114 [some (.ref 54), some (.int x1), some (.int x2), none, some (.int x4), some (.int (s5'))] [] (mrow M 54 (q54')) Q) → G z mX12_readNumber (d + 1) 0 0 41 [some (.ref 54), some (.int x1), some (.int x2), none, some (.int x4), some (.int s5)] [] (mrow M 54 q54) Q := by
  intro k0
  induction k0 with
  | zero =>
      intro s5 q54 hk hX
      exact (by simpa only [k_readNumber_41_ok] using hk : False).elim
  | succ k0 ih =>
      intro s5 q54 hk hX
      simp only [k_readNumber_41_ok] at hk
      refine G.sl [(.aload_n 0, 1, 0, 0, 0, 0), (.getfield 107, 3, 11, 4, 127, 0), (.aload_n 0, 1, 0, 0, 0, 0), (.getfield 110, 3, 11, 3, 126, 0)] [] (pc2 := 49) (ls2 := [some (.ref 54), some (.int x1), some (.int x2), none, some (.int x4), some (.int s5)]) (st2 := [.int (q54 3), .int (q54 4)]) (M2 := mrow M 54 q54) (Ps := []) (by decide +kernel) rfl rfl trivial ?_
      refine G.ic_ge (off := (65)) (tgt := 114) (by decide +kernel) rfl (fun c15 => ?_) (fun c15 => ?_)
      · skip
        rw [if_pos c15] at hk
        simp only [k_readNumber_41, if_pos c15] at hX
        exact hX
      · skip
        rw [if_neg c15] at hk
        obtain ⟨k16, k17, hk⟩ := hk
        refine G.sl [(.aload_n 0, 1, 0, 0, 0, 0), (.getfield 20, 3, 11, 9, 132, 0), (.aload_n 0, 1, 0, 0, 0, 0), (.getfield 107, 3, 11, 4, 127, 0), (.iaload, 1, 0, 0, 0, 0)] [ix (q54 4)] (pc2 := 61) (ls2 := [some (.ref 54), some (.int x1), some (.int x2), none, some (.int x4), some (.int s5)]) (st2 := [.int (M.1 56 (ix (q54 4)))]) (M2 := mrow M 54 q54) (Ps := [(q54 4) = nI (ix (q54 4)) ∧ (ix (q54 4)) < 600]) (by decide +kernel) rfl rfl ⟨⟨(ixE k16), k17⟩, trivial⟩ ?_
        obtain ⟨k18, hk⟩ := hk
        have t19 : GM z mX12_isDigit (d) [.int (M.1 56 (ix (q54 4)))] (mrow M 54 q54) (fun rs => rs = .inl (some (.int (k_isDigit (M.1 56 (ix (q54 4))))), mrow M 54 q54)) := by
          have q9 := c_k_isDigit z d (mrow M 54 q54) (M.1 56 (ix (q54 4)))
          try simp only [mput, mrow_same, mrow_hit, mrow_miss, mrow_sw, idr_eq, ne_eq, Nat.reduceEqDiff, not_false_eq_true, Nat.reduceLT, reduceCtorEq] at q9
          exact q9
        refine G.callS (as := [.int (M.1 56 (ix (q54 4)))]) (rest := []) oX12_isDigit lk_EvenFindersModel_134 (by decide +kernel) rfl (Nat.le_of_ble_eq_true rfl) rfl ⟨Nat.le_of_ble_eq_true rfl, Nat.le_of_ble_eq_true rfl⟩ t19 (fun v9 N9 h20 => ?_) (fun E9 N9 h20 => by cases h20)
        cases h20
        show G z mX12_readNumber (d + 1) 0 0 64 [some (.ref 54), some (.int x1), some (.int x2), none, some (.int x4), some (.int s5)] [.int (k_isDigit (M.1 56 (ix (q54 4))))] (mrow M 54 q54) Q
        refine G.if_eq (off := (50)) (tgt := 114) (by decide +kernel) rfl (fun c21 => ?_) (fun c21 => ?_)
        · skip
          rw [if_pos c21] at hk
          simp only [k_readNumber_41, if_neg c15, if_pos c21] at hX
          exact hX
        · skip
          rw [if_neg c21] at hk
          refine G.sl [(.iload 5, 2, 5, 0, 0, 0), (.sipush 9999, 3, 0, 0, 0, nI 9999)] [] (pc2 := 72) (ls2 := [some (.ref 54), some (.int x1), some (.int x2), none, some (.int x4), some (.int s5)]) (st2 := [.int (nI 9999), .int s5]) (M2 := mrow M 54 q54) (Ps := []) (by decide +kernel) rfl rfl trivial ?_
          refine G.ic_le (off := (9)) (tgt := 81) (by decide +kernel) rfl (fun c22 => ?_) (fun c22 => ?_)
          · skip
            rw [if_pos c22] at hk
            refine G.sl [(.bipush 10, 2, 0, 0, 0, nI 10), (.iload 5, 2, 5, 0, 0, 0), (.imul, 1, 0, 0, 0, 0), (.aload_n 0, 1, 0, 0, 0, 0), (.getfield 20, 3, 11, 9, 132, 0), (.aload_n 0, 1, 0, 0, 0, 0), (.getfield 107, 3, 11, 4, 127, 0), (.iaload, 1, 0, 0, 0, 0), (.iadd, 1, 0, 0, 0, 0), (.bipush 48, 2, 0, 0, 0, nI 48), (.isub, 1, 0, 0, 0, 0), (.istore 5, 2, 5, 0, 0, 0), (.aload_n 0, 1, 0, 0, 0, 0), (.dup, 1, 0, 0, 0, 0), (.getfield 107, 3, 11, 4, 127, 0), (.iconst 1, 1, 0, 0, 0, nI 1), (.iadd, 1, 0, 0, 0, 0), (.putfield 107, 3, 11, 4, 127, 0), (.goto (-70), 3, 41, 0, 0, 0)] [ix (q54 4)] (pc2 := 41) (ls2 := [some (.ref 54), some (.int x1), some (.int x2), none, some (.int x4), some (.int ((((nI 10) * s5) + (M.1 56 (ix (q54 4)))) - (nI 48)))]) (st2 := []) (M2 := mput (mrow M 54 q54) 54 4 ((q54 4) + (nI 1))) (Ps := [(q54 4) = nI (ix (q54 4)) ∧ (ix (q54 4)) < 600]) (by decide +kernel) rfl rfl ⟨⟨(ixE k16), k17⟩, trivial⟩ ?_
            refine G.mem (M' := mrow M 54 (upd q54 4 ((q54 4) + (nI 1)))) (by first | rfl | (simp only [mput, mrow_same, mrow_hit, mrow_miss, mrow_sw, idr_eq, ne_eq, Nat.reduceEqDiff, not_false_eq_true, Nat.reduceLT, reduceCtorEq]; done)) ?_
            simp only [k_readNumber_41, if_neg c15, if_neg c21, if_pos c22] at hX
            exact ih ((((nI 10) * s5) + (M.1 56 (ix (q54 4)))) - (nI 48)) (upd q54 4 ((q54 4) + (nI 1))) hk hX
          · skip
            rw [if_neg c22] at hk
            refine G.sl [(.sipush 10000, 3, 0, 0, 0, nI 10000), (.goto 21, 3, 99, 0, 0, 0), (.istore 5, 2, 5, 0, 0, 0), (.aload_n 0, 1, 0, 0, 0, 0), (.dup, 1, 0, 0, 0, 0), (.getfield 107, 3, 11, 4, 127, 0), (.iconst 1, 1, 0, 0, 0, nI 1), (.iadd, 1, 0, 0, 0, 0), (.putfield 107, 3, 11, 4, 127, 0), (.goto (-70), 3, 41, 0, 0, 0)] [] (pc2 := 41) (ls2 := [some (.ref 54), some (.int x1), some (.int x2), none, some (.int x4), some (.int (nI 10000))]) (st2 := []) (M2 := mput (mrow M 54 q54) 54 4 ((q54 4) + (nI 1))) (Ps := []) (by decide +kernel) rfl rfl trivial ?_
            refine G.mem (M' := mrow M 54 (upd q54 4 ((q54 4) + (nI 1)))) (by first | rfl | (simp only [mput, mrow_same, mrow_hit, mrow_miss, mrow_sw, idr_eq, ne_eq, Nat.reduceEqDiff, not_false_eq_true, Nat.reduceLT, reduceCtorEq]; done)) ?_
            simp only [k_readNumber_41, if_neg c15, if_neg c21, if_neg c22] at hX
            exact ih (nI 10000) (upd q54 4 ((q54 4) + (nI 1))) hk hX
noncomputable def k_wrong (Rmd : Nat → Int32) (x1 : Int32) (x2 : Int32) : Int32 × (Nat → Int32) := (if (Rmd 5) = ((-1)) then (0, upd (upd (Rmd) 5 x2) 6 x1) else (0, Rmd))
set_option maxHeartbeats 4000000 in
set_option maxRecDepth 3000 in
theorem c_k_wrong_54 (z : Zp) (d : Nat) (M : Mem) (x1 : Int32) (x2 : Int32) : GM z mX12_wrong (d) [.ref 54, .int x1, .int x2] M (fun rs => rs = .inl (none, mrow M 54 ((k_wrong (M.1 54) x1 x2).2))) := by
  refine GM.of oX12_wrong.1 (Nat.le_of_ble_eq_true rfl) ?_
  show G z mX12_wrong (d) 0 0 0 [some (.ref 54), some (.int x1), some (.int x2)] [] M _
  obtain ⟨Q, hQ⟩ : ∃ Q : Rs → Prop, Q = (fun rs => rs = .inl (none, mrow M 54 ((k_wrong (M.1 54) x1 x2).2))) := ⟨_, rfl⟩
  rw [← hQ]
  refine G.sl [(.aload_n 0, 1, 0, 0, 0, 0), (.getfield 101, 3, 11, 5, 128, 0), (.iconst (-1), 1, 0, 0, 0, (-1))] [] (pc2 := 5) (ls2 := [some (.ref 54), some (.int x1), some (.int x2)]) (st2 := [.int ((-1)), .int (M.1 54 5)]) (M2 := M) (Ps := []) (by decide +kernel) rfl rfl trivial ?_
  refine G.ic_eq (off := (4)) (tgt := 9) (by decide +kernel) rfl (fun c1 => ?_) (fun c1 => ?_)
  · skip
    refine G.sl [(.aload_n 0, 1, 0, 0, 0, 0), (.iload_n 2, 1, 2, 0, 0, 0), (.putfield 101, 3, 11, 5, 128, 0), (.aload_n 0, 1, 0, 0, 0, 0), (.iload_n 1, 1, 1, 0, 0, 0), (.putfield 104, 3, 11, 6, 129, 0)] [] (pc2 := 19) (ls2 := [some (.ref 54), some (.int x1), some (.int x2)]) (st2 := []) (M2 := mput (mput M 54 5 x2) 54 6 x1) (Ps := []) (by decide +kernel) rfl rfl trivial ?_
    refine G.mem (M' := mrow M 54 (upd (upd (M.1 54) 5 x2) 6 x1)) (by first | rfl | (simp only [mput, mrow_same, mrow_hit, mrow_miss, mrow_sw, idr_eq, ne_eq, Nat.reduceEqDiff, not_false_eq_true, Nat.reduceLT, reduceCtorEq]; done)) ?_
    exact G.retv (by decide +kernel) rfl (Nat.le_of_ble_eq_true rfl) (Nat.le_of_ble_eq_true rfl) ((by rw [hQ]; simp only [k_wrong, if_pos c1, mrow_self]))
  · skip
    refine G.mem (M' := mrow M 54 (M.1 54)) (((mrow_id (N := M) (c := 54) (f := M.1 54) (by first | rfl | (simp only [mput, mrow_same, mrow_hit, mrow_miss, mrow_sw, idr_eq, ne_eq, Nat.reduceEqDiff, not_false_eq_true, Nat.reduceLT, reduceCtorEq]; done))).symm).trans (by first | rfl | (simp only [mput, mrow_same, mrow_hit, mrow_miss, mrow_sw, idr_eq, ne_eq, Nat.reduceEqDiff, not_false_eq_true, Nat.reduceLT, reduceCtorEq]; done))) ?_
    exact G.retv (by decide +kernel) rfl (Nat.le_of_ble_eq_true rfl) (Nat.le_of_ble_eq_true rfl) ((by rw [hQ]; simp only [k_wrong, if_neg c1, mrow_self]))
noncomputable def k_readNumber (Rmd Rtape : Nat → Int32) (x1 : Int32) (x2 : Int32) : Int32 × (Nat → Int32) := (if (k_fine (Rmd)) = 0 then (nI 0, Rmd) else (match k_here (Rmd) (Rtape) with | (v7, r8) => (if (k_isDigit v7) = 0 then (match k_wrong r8 (nI 1) (r8 4) with | (u43, r44) => (nI 0, r44)) else (match k_readNumber_41 (Rtape) x1 x2 (r8 4) FU (nI 0) r8 with | (v25, r26) => (if v25 < x1 then (match k_wrong r26 (nI 2) (r8 4) with | (u30, r31) => (nI 0, r31)) else (if v25 ≤ x2 then (v25, r26) else (match k_wrong r26 (nI 2) (r8 4) with | (u37, r38) => (nI 0, r38))))))))
noncomputable def k_readNumber_ok (Rmd Rtape : Nat → Int32) (x1 : Int32) (x2 : Int32) : Prop := (True ∧ (if (k_fine (Rmd)) = 0 then True else (k_here_ok (Rmd) (Rtape) ∧ (match k_here (Rmd) (Rtape) with | (v7, r8) => (True ∧ (if (k_isDigit v7) = 0 then True else (k_readNumber_41_ok (Rtape) x1 x2 (r8 4) FU (nI 0) r8 ∧ True)))))))
set_option maxHeartbeats 4000000 in
set_option maxRecDepth 3000 in
theorem c_k_readNumber_54 (z : Zp) (d : Nat) (M : Mem) (x1 : Int32) (x2 : Int32) (hk : k_readNumber_ok (M.1 54) (M.1 56) x1 x2) : GM z mX12_readNumber (d + 1) [.ref 54, .int x1, .int x2] M (fun rs => rs = .inl (some (.int ((k_readNumber (M.1 54) (M.1 56) x1 x2).1)), mrow M 54 ((k_readNumber (M.1 54) (M.1 56) x1 x2).2))) := by
  simp only [k_readNumber_ok] at hk
  refine GM.of oX12_readNumber.1 (Nat.le_of_ble_eq_true rfl) ?_
  show G z mX12_readNumber (d + 1) 0 0 0 [some (.ref 54), some (.int x1), some (.int x2), none, none, none] [] M _
  obtain ⟨Q, hQ⟩ : ∃ Q : Rs → Prop, Q = (fun rs => rs = .inl (some (.int ((k_readNumber (M.1 54) (M.1 56) x1 x2).1)), mrow M 54 ((k_readNumber (M.1 54) (M.1 56) x1 x2).2))) := ⟨_, rfl⟩
  rw [← hQ]
  refine G.sl [(.aload_n 0, 1, 0, 0, 0, 0)] [] (pc2 := 1) (ls2 := [some (.ref 54), some (.int x1), some (.int x2), none, none, none]) (st2 := [.ref 54]) (M2 := M) (Ps := []) (by decide +kernel) rfl rfl trivial ?_
  obtain ⟨k1, hk⟩ := hk
  have t2 : GM z mX12_fine (d) [.ref 54] M (fun rs => rs = .inl (some (.int (k_fine (M.1 54))), M)) := by
    have q9 := c_k_fine_54 z d M 
    try simp only [mput, mrow_same, mrow_hit, mrow_miss, mrow_sw, idr_eq, ne_eq, Nat.reduceEqDiff, not_false_eq_true, Nat.reduceLT, reduceCtorEq] at q9
    exact q9
  refine G.callV (as := []) (rest := []) (a := 54) oX12_fine lk_EvenFindersModel_130 (by decide +kernel) rfl rfl ⟨rfl, rfl⟩ (Nat.le_of_ble_eq_true rfl) rfl ⟨Nat.le_of_ble_eq_true rfl, Nat.le_of_ble_eq_true rfl⟩ t2 (fun v9 N9 h3 => ?_) (fun E9 N9 h3 => by cases h3)
  cases h3
  show G z mX12_readNumber (d + 1) 0 0 4 [some (.ref 54), some (.int x1), some (.int x2), none, none, none] [.int (k_fine (M.1 54))] M Q
  refine G.if_ne (off := (5)) (tgt := 9) (by decide +kernel) rfl (fun c4 => ?_) (fun c4 => ?_)
  · skip
    rw [if_neg c4] at hk
    refine G.sl [(.aload_n 0, 1, 0, 0, 0, 0)] [] (pc2 := 10) (ls2 := [some (.ref 54), some (.int x1), some (.int x2), none, none, none]) (st2 := [.ref 54]) (M2 := M) (Ps := []) (by decide +kernel) rfl rfl trivial ?_
    obtain ⟨k5, hk⟩ := hk
    rcases g6 : k_here (M.1 54) (M.1 56) with ⟨v7, r8⟩
    try simp only [g6] at hk
    have t9 : GM z mX12_here (d) [.ref 54] M (fun rs => rs = .inl (some (.int v7), mrow M 54 r8)) := by
      have q9 := c_k_here_54 z d M k5
      try simp only [mput, mrow_same, mrow_hit, mrow_miss, mrow_sw, idr_eq, ne_eq, Nat.reduceEqDiff, not_false_eq_true, Nat.reduceLT, reduceCtorEq, g6] at q9
      exact q9
    refine G.callV (as := []) (rest := []) (a := 54) oX12_here lk_EvenFindersModel_113 (by decide +kernel) rfl rfl ⟨rfl, rfl⟩ (Nat.le_of_ble_eq_true rfl) rfl ⟨Nat.le_of_ble_eq_true rfl, Nat.le_of_ble_eq_true rfl⟩ t9 (fun v9 N9 h10 => ?_) (fun E9 N9 h10 => by cases h10)
    cases h10
    show G z mX12_readNumber (d + 1) 0 0 13 [some (.ref 54), some (.int x1), some (.int x2), none, none, none] [.int v7] (mrow M 54 r8) Q
    refine G.sl [(.istore_n 3, 1, 3, 0, 0, 0), (.aload_n 0, 1, 0, 0, 0, 0), (.getfield 107, 3, 11, 4, 127, 0), (.istore 4, 2, 4, 0, 0, 0), (.iconst 0, 1, 0, 0, 0, nI 0), (.istore 5, 2, 5, 0, 0, 0), (.iload_n 3, 1, 3, 0, 0, 0)] [] (pc2 := 24) (ls2 := [some (.ref 54), some (.int x1), some (.int x2), some (.int v7), some (.int (r8 4)), some (.int (nI 0))]) (st2 := [.int v7]) (M2 := mrow M 54 r8) (Ps := []) (by decide +kernel) rfl rfl trivial ?_
    obtain ⟨k11, hk⟩ := hk
    have t12 : GM z mX12_isDigit (d) [.int v7] (mrow M 54 r8) (fun rs => rs = .inl (some (.int (k_isDigit v7)), mrow M 54 r8)) := by
      have q9 := c_k_isDigit z d (mrow M 54 r8) v7
      try simp only [mput, mrow_same, mrow_hit, mrow_miss, mrow_sw, idr_eq, ne_eq, Nat.reduceEqDiff, not_false_eq_true, Nat.reduceLT, reduceCtorEq] at q9
      exact q9
    refine G.callS (as := [.int v7]) (rest := []) oX12_isDigit lk_EvenFindersModel_134 (by decide +kernel) rfl (Nat.le_of_ble_eq_true rfl) rfl ⟨Nat.le_of_ble_eq_true rfl, Nat.le_of_ble_eq_true rfl⟩ t12 (fun v9 N9 h13 => ?_) (fun E9 N9 h13 => by cases h13)
    cases h13
    show G z mX12_readNumber (d + 1) 0 0 27 [some (.ref 54), some (.int x1), some (.int x2), some (.int v7), some (.int (r8 4)), some (.int (nI 0))] [.int (k_isDigit v7)] (mrow M 54 r8) Q
    refine G.if_ne (off := (14)) (tgt := 41) (by decide +kernel) rfl (fun c14 => ?_) (fun c14 => ?_)
    · skip
      rw [if_neg c14] at hk
      refine G.loc (ls2 := [some (.ref 54), some (.int x1), some (.int x2), none, some (.int (r8 4)), some (.int (nI 0))]) (by simp [subL]) ?_
      obtain ⟨k23, hk⟩ := hk
      refine G.mem (M' := mrow (mrow M 54 r8) 54 ((mrow M 54 r8).1 54)) (by simp only [mrow_self]) ?_
      refine lp_k_readNumber_54_41 z d (mrow M 54 r8) Q x1 x2 (r8 4) FU (nI 0) ((mrow M 54 r8).1 54) (by first | (simp only [mput, mrow_same, mrow_hit, mrow_miss, mrow_sw, idr_eq, ne_eq, Nat.reduceEqDiff, not_false_eq_true, Nat.reduceLT, reduceCtorEq]; exact k23) | exact k23) ?_
      try simp only [mput, mrow_same, mrow_hit, mrow_miss, mrow_sw, idr_eq, ne_eq, Nat.reduceEqDiff, not_false_eq_true, Nat.reduceLT, reduceCtorEq]
      rcases g24 : k_readNumber_41 (M.1 56) x1 x2 (r8 4) FU (nI 0) r8 with ⟨v25, r26⟩
      show G z mX12_readNumber (d + 1) 0 0 114 [some (.ref 54), some (.int x1), some (.int x2), none, some (.int (r8 4)), some (.int v25)] [] (mrow M 54 r26) Q
      refine G.sl [(.iload 5, 2, 5, 0, 0, 0), (.iload_n 1, 1, 1, 0, 0, 0)] [] (pc2 := 117) (ls2 := [some (.ref 54), some (.int x1), some (.int x2), none, some (.int (r8 4)), some (.int v25)]) (st2 := [.int x1, .int v25]) (M2 := mrow M 54 r26) (Ps := []) (by decide +kernel) rfl rfl trivial ?_
      refine G.ic_lt (off := (9)) (tgt := 126) (by decide +kernel) rfl (fun c27 => ?_) (fun c27 => ?_)
      · skip
        refine G.sl [(.aload_n 0, 1, 0, 0, 0, 0), (.iconst 2, 1, 0, 0, 0, nI 2), (.iload 4, 2, 4, 0, 0, 0)] [] (pc2 := 130) (ls2 := [some (.ref 54), some (.int x1), some (.int x2), none, some (.int (r8 4)), some (.int v25)]) (st2 := [.int (r8 4), .int (nI 2), .ref 54]) (M2 := mrow M 54 r26) (Ps := []) (by decide +kernel) rfl rfl trivial ?_
        rcases g29 : k_wrong r26 (nI 2) (r8 4) with ⟨u30, r31⟩
        have t32 : GM z mX12_wrong (d) [.ref 54, .int (nI 2), .int (r8 4)] (mrow M 54 r26) (fun rs => rs = .inl (none, mrow M 54 r31)) := by
          have q9 := c_k_wrong_54 z d (mrow M 54 r26) (nI 2) (r8 4)
          try simp only [mput, mrow_same, mrow_hit, mrow_miss, mrow_sw, idr_eq, ne_eq, Nat.reduceEqDiff, not_false_eq_true, Nat.reduceLT, reduceCtorEq, g29] at q9
          exact q9
        refine G.callV (as := [.int (nI 2), .int (r8 4)]) (rest := []) (a := 54) oX12_wrong lk_EvenFindersModel_137 (by decide +kernel) rfl rfl ⟨rfl, rfl⟩ (Nat.le_of_ble_eq_true rfl) rfl ⟨Nat.le_of_ble_eq_true rfl, Nat.le_of_ble_eq_true rfl⟩ t32 (fun v9 N9 h33 => ?_) (fun E9 N9 h33 => by cases h33)
        cases h33
        show G z mX12_readNumber (d + 1) 0 0 133 [some (.ref 54), some (.int x1), some (.int x2), none, some (.int (r8 4)), some (.int v25)] [] (mrow M 54 r31) Q
        refine G.sl [(.iconst 0, 1, 0, 0, 0, nI 0)] [] (pc2 := 134) (ls2 := [some (.ref 54), some (.int x1), some (.int x2), none, some (.int (r8 4)), some (.int v25)]) (st2 := [.int (nI 0)]) (M2 := mrow M 54 r31) (Ps := []) (by decide +kernel) rfl rfl trivial ?_
        exact G.reti (by decide +kernel) rfl rfl (Nat.le_of_ble_eq_true rfl) (Nat.le_of_ble_eq_true rfl) ((by rw [hQ]; simp only [k_readNumber, if_neg c4, g6, if_neg c14, g24, if_pos c27, g29, mrow_self]))
      · skip
        refine G.sl [(.iload 5, 2, 5, 0, 0, 0), (.iload_n 2, 1, 2, 0, 0, 0)] [] (pc2 := 123) (ls2 := [some (.ref 54), some (.int x1), some (.int x2), none, some (.int (r8 4)), some (.int v25)]) (st2 := [.int x2, .int v25]) (M2 := mrow M 54 r26) (Ps := []) (by decide +kernel) rfl rfl trivial ?_
        refine G.ic_le (off := (12)) (tgt := 135) (by decide +kernel) rfl (fun c34 => ?_) (fun c34 => ?_)
        · skip
          refine G.sl [(.iload 5, 2, 5, 0, 0, 0)] [] (pc2 := 137) (ls2 := [some (.ref 54), some (.int x1), some (.int x2), none, some (.int (r8 4)), some (.int v25)]) (st2 := [.int v25]) (M2 := mrow M 54 r26) (Ps := []) (by decide +kernel) rfl rfl trivial ?_
          exact G.reti (by decide +kernel) rfl rfl (Nat.le_of_ble_eq_true rfl) (Nat.le_of_ble_eq_true rfl) ((by rw [hQ]; simp only [k_readNumber, if_neg c4, g6, if_neg c14, g24, if_neg c27, if_pos c34, mrow_self]))
        · skip
          refine G.sl [(.aload_n 0, 1, 0, 0, 0, 0), (.iconst 2, 1, 0, 0, 0, nI 2), (.iload 4, 2, 4, 0, 0, 0)] [] (pc2 := 130) (ls2 := [some (.ref 54), some (.int x1), some (.int x2), none, some (.int (r8 4)), some (.int v25)]) (st2 := [.int (r8 4), .int (nI 2), .ref 54]) (M2 := mrow M 54 r26) (Ps := []) (by decide +kernel) rfl rfl trivial ?_
          rcases g36 : k_wrong r26 (nI 2) (r8 4) with ⟨u37, r38⟩
          have t39 : GM z mX12_wrong (d) [.ref 54, .int (nI 2), .int (r8 4)] (mrow M 54 r26) (fun rs => rs = .inl (none, mrow M 54 r38)) := by
            have q9 := c_k_wrong_54 z d (mrow M 54 r26) (nI 2) (r8 4)
            try simp only [mput, mrow_same, mrow_hit, mrow_miss, mrow_sw, idr_eq, ne_eq, Nat.reduceEqDiff, not_false_eq_true, Nat.reduceLT, reduceCtorEq, g36] at q9
            exact q9
          refine G.callV (as := [.int (nI 2), .int (r8 4)]) (rest := []) (a := 54) oX12_wrong lk_EvenFindersModel_137 (by decide +kernel) rfl rfl ⟨rfl, rfl⟩ (Nat.le_of_ble_eq_true rfl) rfl ⟨Nat.le_of_ble_eq_true rfl, Nat.le_of_ble_eq_true rfl⟩ t39 (fun v9 N9 h40 => ?_) (fun E9 N9 h40 => by cases h40)
          cases h40
          show G z mX12_readNumber (d + 1) 0 0 133 [some (.ref 54), some (.int x1), some (.int x2), none, some (.int (r8 4)), some (.int v25)] [] (mrow M 54 r38) Q
          refine G.sl [(.iconst 0, 1, 0, 0, 0, nI 0)] [] (pc2 := 134) (ls2 := [some (.ref 54), some (.int x1), some (.int x2), none, some (.int (r8 4)), some (.int v25)]) (st2 := [.int (nI 0)]) (M2 := mrow M 54 r38) (Ps := []) (by decide +kernel) rfl rfl trivial ?_
          exact G.reti (by decide +kernel) rfl rfl (Nat.le_of_ble_eq_true rfl) (Nat.le_of_ble_eq_true rfl) ((by rw [hQ]; simp only [k_readNumber, if_neg c4, g6, if_neg c14, g24, if_neg c27, if_neg c34, g36, mrow_self]))
    · skip
      rw [if_pos c14] at hk
      refine G.sl [(.aload_n 0, 1, 0, 0, 0, 0), (.iconst 1, 1, 0, 0, 0, nI 1), (.aload_n 0, 1, 0, 0, 0, 0), (.getfield 107, 3, 11, 4, 127, 0)] [] (pc2 := 36) (ls2 := [some (.ref 54), some (.int x1), some (.int x2), some (.int v7), some (.int (r8 4)), some (.int (nI 0))]) (st2 := [.int (r8 4), .int (nI 1), .ref 54]) (M2 := mrow M 54 r8) (Ps := []) (by decide +kernel) rfl rfl trivial ?_
      rcases g42 : k_wrong r8 (nI 1) (r8 4) with ⟨u43, r44⟩
      have t45 : GM z mX12_wrong (d) [.ref 54, .int (nI 1), .int (r8 4)] (mrow M 54 r8) (fun rs => rs = .inl (none, mrow M 54 r44)) := by
        have q9 := c_k_wrong_54 z d (mrow M 54 r8) (nI 1) (r8 4)
        try simp only [mput, mrow_same, mrow_hit, mrow_miss, mrow_sw, idr_eq, ne_eq, Nat.reduceEqDiff, not_false_eq_true, Nat.reduceLT, reduceCtorEq, g42] at q9
        exact q9
      refine G.callV (as := [.int (nI 1), .int (r8 4)]) (rest := []) (a := 54) oX12_wrong lk_EvenFindersModel_137 (by decide +kernel) rfl rfl ⟨rfl, rfl⟩ (Nat.le_of_ble_eq_true rfl) rfl ⟨Nat.le_of_ble_eq_true rfl, Nat.le_of_ble_eq_true rfl⟩ t45 (fun v9 N9 h46 => ?_) (fun E9 N9 h46 => by cases h46)
      cases h46
      show G z mX12_readNumber (d + 1) 0 0 39 [some (.ref 54), some (.int x1), some (.int x2), some (.int v7), some (.int (r8 4)), some (.int (nI 0))] [] (mrow M 54 r44) Q
      refine G.sl [(.iconst 0, 1, 0, 0, 0, nI 0)] [] (pc2 := 40) (ls2 := [some (.ref 54), some (.int x1), some (.int x2), some (.int v7), some (.int (r8 4)), some (.int (nI 0))]) (st2 := [.int (nI 0)]) (M2 := mrow M 54 r44) (Ps := []) (by decide +kernel) rfl rfl trivial ?_
      exact G.reti (by decide +kernel) rfl rfl (Nat.le_of_ble_eq_true rfl) (Nat.le_of_ble_eq_true rfl) ((by rw [hQ]; simp only [k_readNumber, if_neg c4, g6, if_pos c14, g42, mrow_self]))
  · skip
    rw [if_pos c4] at hk
    refine G.sl [(.iconst 0, 1, 0, 0, 0, nI 0)] [] (pc2 := 8) (ls2 := [some (.ref 54), some (.int x1), some (.int x2), none, none, none]) (st2 := [.int (nI 0)]) (M2 := M) (Ps := []) (by decide +kernel) rfl rfl trivial ?_
    refine G.mem (M' := mrow M 54 (M.1 54)) (((mrow_id (N := M) (c := 54) (f := M.1 54) (by first | rfl | (simp only [mput, mrow_same, mrow_hit, mrow_miss, mrow_sw, idr_eq, ne_eq, Nat.reduceEqDiff, not_false_eq_true, Nat.reduceLT, reduceCtorEq]; done))).symm).trans (by first | rfl | (simp only [mput, mrow_same, mrow_hit, mrow_miss, mrow_sw, idr_eq, ne_eq, Nat.reduceEqDiff, not_false_eq_true, Nat.reduceLT, reduceCtorEq]; done))) ?_
    exact G.reti (by decide +kernel) rfl rfl (Nat.le_of_ble_eq_true rfl) (Nat.le_of_ble_eq_true rfl) ((by rw [hQ]; simp only [k_readNumber, if_pos c4, mrow_self]))
noncomputable def k_sign (Rmd Rtape : Nat → Int32) (x1 : Int32) : Int32 × (Nat → Int32) := (if (k_fine (Rmd)) = 0 then (0, Rmd) else (match k_here (Rmd) (Rtape) with | (v10, r11) => (if v10 = x1 then (if (k_fine r11) = 0 then (0, r11) else (0, upd r11 4 ((r11 4) + (nI 1)))) else (match k_wrong r11 (nI 1) (r11 4) with | (u21, r22) => (if (k_fine r22) = 0 then (0, r22) else (0, upd r22 4 ((r22 4) + (nI 1))))))))
noncomputable def k_sign_ok (Rmd Rtape : Nat → Int32) (x1 : Int32) : Prop := (True ∧ (if (k_fine (Rmd)) = 0 then True else (k_here_ok (Rmd) (Rtape) ∧ True)))
set_option maxHeartbeats 4000000 in
set_option maxRecDepth 3000 in
theorem c_k_sign_54 (z : Zp) (d : Nat) (M : Mem) (x1 : Int32) (hk : k_sign_ok (M.1 54) (M.1 56) x1) : GM z mX12_sign (d + 1) [.ref 54, .int x1] M (fun rs => rs = .inl (none, mrow M 54 ((k_sign (M.1 54) (M.1 56) x1).2))) := by
  simp only [k_sign_ok] at hk
  refine GM.of oX12_sign.1 (Nat.le_of_ble_eq_true rfl) ?_
  show G z mX12_sign (d + 1) 0 0 0 [some (.ref 54), some (.int x1)] [] M _
  obtain ⟨Q, hQ⟩ : ∃ Q : Rs → Prop, Q = (fun rs => rs = .inl (none, mrow M 54 ((k_sign (M.1 54) (M.1 56) x1).2))) := ⟨_, rfl⟩
  rw [← hQ]
  refine G.sl [(.aload_n 0, 1, 0, 0, 0, 0)] [] (pc2 := 1) (ls2 := [some (.ref 54), some (.int x1)]) (st2 := [.ref 54]) (M2 := M) (Ps := []) (by decide +kernel) rfl rfl trivial ?_
  obtain ⟨k1, hk⟩ := hk
  have t2 : GM z mX12_fine (d) [.ref 54] M (fun rs => rs = .inl (some (.int (k_fine (M.1 54))), M)) := by
    have q9 := c_k_fine_54 z d M 
    try simp only [mput, mrow_same, mrow_hit, mrow_miss, mrow_sw, idr_eq, ne_eq, Nat.reduceEqDiff, not_false_eq_true, Nat.reduceLT, reduceCtorEq] at q9
    exact q9
  refine G.callV (as := []) (rest := []) (a := 54) oX12_fine lk_EvenFindersModel_130 (by decide +kernel) rfl rfl ⟨rfl, rfl⟩ (Nat.le_of_ble_eq_true rfl) rfl ⟨Nat.le_of_ble_eq_true rfl, Nat.le_of_ble_eq_true rfl⟩ t2 (fun v9 N9 h3 => ?_) (fun E9 N9 h3 => by cases h3)
  cases h3
  show G z mX12_sign (d + 1) 0 0 4 [some (.ref 54), some (.int x1)] [.int (k_fine (M.1 54))] M Q
  refine G.if_eq (off := (20)) (tgt := 24) (by decide +kernel) rfl (fun c4 => ?_) (fun c4 => ?_)
  · skip
    rw [if_pos c4] at hk
    refine G.sl [(.aload_n 0, 1, 0, 0, 0, 0)] [] (pc2 := 25) (ls2 := [some (.ref 54), some (.int x1)]) (st2 := [.ref 54]) (M2 := M) (Ps := []) (by decide +kernel) rfl rfl trivial ?_
    have t6 : GM z mX12_fine (d) [.ref 54] M (fun rs => rs = .inl (some (.int (k_fine (M.1 54))), M)) := by
      have q9 := c_k_fine_54 z d M 
      try simp only [mput, mrow_same, mrow_hit, mrow_miss, mrow_sw, idr_eq, ne_eq, Nat.reduceEqDiff, not_false_eq_true, Nat.reduceLT, reduceCtorEq] at q9
      exact q9
    refine G.callV (as := []) (rest := []) (a := 54) oX12_fine lk_EvenFindersModel_130 (by decide +kernel) rfl rfl ⟨rfl, rfl⟩ (Nat.le_of_ble_eq_true rfl) rfl ⟨Nat.le_of_ble_eq_true rfl, Nat.le_of_ble_eq_true rfl⟩ t6 (fun v9 N9 h7 => ?_) (fun E9 N9 h7 => by cases h7)
    cases h7
    show G z mX12_sign (d + 1) 0 0 28 [some (.ref 54), some (.int x1)] [.int (k_fine (M.1 54))] M Q
    refine G.if_eq (off := (13)) (tgt := 41) (by decide +kernel) rfl (fun _ => ?_) (fun h9 => absurd c4 h9)
    refine G.mem (M' := mrow M 54 (M.1 54)) (((mrow_id (N := M) (c := 54) (f := M.1 54) (by first | rfl | (simp only [mput, mrow_same, mrow_hit, mrow_miss, mrow_sw, idr_eq, ne_eq, Nat.reduceEqDiff, not_false_eq_true, Nat.reduceLT, reduceCtorEq]; done))).symm).trans (by first | rfl | (simp only [mput, mrow_same, mrow_hit, mrow_miss, mrow_sw, idr_eq, ne_eq, Nat.reduceEqDiff, not_false_eq_true, Nat.reduceLT, reduceCtorEq]; done))) ?_
    exact G.retv (by decide +kernel) rfl (Nat.le_of_ble_eq_true rfl) (Nat.le_of_ble_eq_true rfl) ((by rw [hQ]; simp only [k_sign, if_pos c4, mrow_self]))
  · skip
    rw [if_neg c4] at hk
    refine G.sl [(.aload_n 0, 1, 0, 0, 0, 0)] [] (pc2 := 8) (ls2 := [some (.ref 54), some (.int x1)]) (st2 := [.ref 54]) (M2 := M) (Ps := []) (by decide +kernel) rfl rfl trivial ?_
    obtain ⟨k8, hk⟩ := hk
    rcases g9 : k_here (M.1 54) (M.1 56) with ⟨v10, r11⟩
    have t12 : GM z mX12_here (d) [.ref 54] M (fun rs => rs = .inl (some (.int v10), mrow M 54 r11)) := by
      have q9 := c_k_here_54 z d M k8
      try simp only [mput, mrow_same, mrow_hit, mrow_miss, mrow_sw, idr_eq, ne_eq, Nat.reduceEqDiff, not_false_eq_true, Nat.reduceLT, reduceCtorEq, g9] at q9
      exact q9
    refine G.callV (as := []) (rest := []) (a := 54) oX12_here lk_EvenFindersModel_113 (by decide +kernel) rfl rfl ⟨rfl, rfl⟩ (Nat.le_of_ble_eq_true rfl) rfl ⟨Nat.le_of_ble_eq_true rfl, Nat.le_of_ble_eq_true rfl⟩ t12 (fun v9 N9 h13 => ?_) (fun E9 N9 h13 => by cases h13)
    cases h13
    show G z mX12_sign (d + 1) 0 0 11 [some (.ref 54), some (.int x1)] [.int v10] (mrow M 54 r11) Q
    refine G.sl [(.iload_n 1, 1, 1, 0, 0, 0)] [] (pc2 := 12) (ls2 := [some (.ref 54), some (.int x1)]) (st2 := [.int x1, .int v10]) (M2 := mrow M 54 r11) (Ps := []) (by decide +kernel) rfl rfl trivial ?_
    refine G.ic_eq (off := (12)) (tgt := 24) (by decide +kernel) rfl (fun c14 => ?_) (fun c14 => ?_)
    · skip
      refine G.sl [(.aload_n 0, 1, 0, 0, 0, 0)] [] (pc2 := 25) (ls2 := [some (.ref 54), some (.int x1)]) (st2 := [.ref 54]) (M2 := mrow M 54 r11) (Ps := []) (by decide +kernel) rfl rfl trivial ?_
      have t16 : GM z mX12_fine (d) [.ref 54] (mrow M 54 r11) (fun rs => rs = .inl (some (.int (k_fine r11)), mrow M 54 r11)) := by
        have q9 := c_k_fine_54 z d (mrow M 54 r11) 
        try simp only [mput, mrow_same, mrow_hit, mrow_miss, mrow_sw, idr_eq, ne_eq, Nat.reduceEqDiff, not_false_eq_true, Nat.reduceLT, reduceCtorEq] at q9
        exact q9
      refine G.callV (as := []) (rest := []) (a := 54) oX12_fine lk_EvenFindersModel_130 (by decide +kernel) rfl rfl ⟨rfl, rfl⟩ (Nat.le_of_ble_eq_true rfl) rfl ⟨Nat.le_of_ble_eq_true rfl, Nat.le_of_ble_eq_true rfl⟩ t16 (fun v9 N9 h17 => ?_) (fun E9 N9 h17 => by cases h17)
      cases h17
      show G z mX12_sign (d + 1) 0 0 28 [some (.ref 54), some (.int x1)] [.int (k_fine r11)] (mrow M 54 r11) Q
      refine G.if_eq (off := (13)) (tgt := 41) (by decide +kernel) rfl (fun c18 => ?_) (fun c18 => ?_)
      · skip
        exact G.retv (by decide +kernel) rfl (Nat.le_of_ble_eq_true rfl) (Nat.le_of_ble_eq_true rfl) ((by rw [hQ]; simp only [k_sign, if_neg c4, g9, if_pos c14, if_pos c18, mrow_self]))
      · skip
        refine G.sl [(.aload_n 0, 1, 0, 0, 0, 0), (.dup, 1, 0, 0, 0, 0), (.getfield 107, 3, 11, 4, 127, 0), (.iconst 1, 1, 0, 0, 0, nI 1), (.iadd, 1, 0, 0, 0, 0), (.putfield 107, 3, 11, 4, 127, 0)] [] (pc2 := 41) (ls2 := [some (.ref 54), some (.int x1)]) (st2 := []) (M2 := mput (mrow M 54 r11) 54 4 ((r11 4) + (nI 1))) (Ps := []) (by decide +kernel) rfl rfl trivial ?_
        refine G.mem (M' := mrow M 54 (upd r11 4 ((r11 4) + (nI 1)))) (by first | rfl | (simp only [mput, mrow_same, mrow_hit, mrow_miss, mrow_sw, idr_eq, ne_eq, Nat.reduceEqDiff, not_false_eq_true, Nat.reduceLT, reduceCtorEq]; done)) ?_
        exact G.retv (by decide +kernel) rfl (Nat.le_of_ble_eq_true rfl) (Nat.le_of_ble_eq_true rfl) ((by rw [hQ]; simp only [k_sign, if_neg c4, g9, if_pos c14, if_neg c18, mrow_self]))
    · skip
      refine G.sl [(.aload_n 0, 1, 0, 0, 0, 0), (.iconst 1, 1, 0, 0, 0, nI 1), (.aload_n 0, 1, 0, 0, 0, 0), (.getfield 107, 3, 11, 4, 127, 0)] [] (pc2 := 21) (ls2 := [some (.ref 54), some (.int x1)]) (st2 := [.int (r11 4), .int (nI 1), .ref 54]) (M2 := mrow M 54 r11) (Ps := []) (by decide +kernel) rfl rfl trivial ?_
      rcases g20 : k_wrong r11 (nI 1) (r11 4) with ⟨u21, r22⟩
      have t23 : GM z mX12_wrong (d) [.ref 54, .int (nI 1), .int (r11 4)] (mrow M 54 r11) (fun rs => rs = .inl (none, mrow M 54 r22)) := by
        have q9 := c_k_wrong_54 z d (mrow M 54 r11) (nI 1) (r11 4)
        try simp only [mput, mrow_same, mrow_hit, mrow_miss, mrow_sw, idr_eq, ne_eq, Nat.reduceEqDiff, not_false_eq_true, Nat.reduceLT, reduceCtorEq, g20] at q9
        exact q9
      refine G.callV (as := [.int (nI 1), .int (r11 4)]) (rest := []) (a := 54) oX12_wrong lk_EvenFindersModel_137 (by decide +kernel) rfl rfl ⟨rfl, rfl⟩ (Nat.le_of_ble_eq_true rfl) rfl ⟨Nat.le_of_ble_eq_true rfl, Nat.le_of_ble_eq_true rfl⟩ t23 (fun v9 N9 h24 => ?_) (fun E9 N9 h24 => by cases h24)
      cases h24
      show G z mX12_sign (d + 1) 0 0 24 [some (.ref 54), some (.int x1)] [] (mrow M 54 r22) Q
      refine G.sl [(.aload_n 0, 1, 0, 0, 0, 0)] [] (pc2 := 25) (ls2 := [some (.ref 54), some (.int x1)]) (st2 := [.ref 54]) (M2 := mrow M 54 r22) (Ps := []) (by decide +kernel) rfl rfl trivial ?_
      have t26 : GM z mX12_fine (d) [.ref 54] (mrow M 54 r22) (fun rs => rs = .inl (some (.int (k_fine r22)), mrow M 54 r22)) := by
        have q9 := c_k_fine_54 z d (mrow M 54 r22) 
        try simp only [mput, mrow_same, mrow_hit, mrow_miss, mrow_sw, idr_eq, ne_eq, Nat.reduceEqDiff, not_false_eq_true, Nat.reduceLT, reduceCtorEq] at q9
        exact q9
      refine G.callV (as := []) (rest := []) (a := 54) oX12_fine lk_EvenFindersModel_130 (by decide +kernel) rfl rfl ⟨rfl, rfl⟩ (Nat.le_of_ble_eq_true rfl) rfl ⟨Nat.le_of_ble_eq_true rfl, Nat.le_of_ble_eq_true rfl⟩ t26 (fun v9 N9 h27 => ?_) (fun E9 N9 h27 => by cases h27)
      cases h27
      show G z mX12_sign (d + 1) 0 0 28 [some (.ref 54), some (.int x1)] [.int (k_fine r22)] (mrow M 54 r22) Q
      refine G.if_eq (off := (13)) (tgt := 41) (by decide +kernel) rfl (fun c28 => ?_) (fun c28 => ?_)
      · skip
        exact G.retv (by decide +kernel) rfl (Nat.le_of_ble_eq_true rfl) (Nat.le_of_ble_eq_true rfl) ((by rw [hQ]; simp only [k_sign, if_neg c4, g9, if_neg c14, g20, if_pos c28, mrow_self]))
      · skip
        refine G.sl [(.aload_n 0, 1, 0, 0, 0, 0), (.dup, 1, 0, 0, 0, 0), (.getfield 107, 3, 11, 4, 127, 0), (.iconst 1, 1, 0, 0, 0, nI 1), (.iadd, 1, 0, 0, 0, 0), (.putfield 107, 3, 11, 4, 127, 0)] [] (pc2 := 41) (ls2 := [some (.ref 54), some (.int x1)]) (st2 := []) (M2 := mput (mrow M 54 r22) 54 4 ((r22 4) + (nI 1))) (Ps := []) (by decide +kernel) rfl rfl trivial ?_
        refine G.mem (M' := mrow M 54 (upd r22 4 ((r22 4) + (nI 1)))) (by first | rfl | (simp only [mput, mrow_same, mrow_hit, mrow_miss, mrow_sw, idr_eq, ne_eq, Nat.reduceEqDiff, not_false_eq_true, Nat.reduceLT, reduceCtorEq]; done)) ?_
        exact G.retv (by decide +kernel) rfl (Nat.le_of_ble_eq_true rfl) (Nat.le_of_ble_eq_true rfl) ((by rw [hQ]; simp only [k_sign, if_neg c4, g9, if_neg c14, g20, if_neg c28, mrow_self]))
noncomputable def k_book_67 (Rtape : Nat → Int32) : Nat → Int32 → (Nat → Int32) → (Nat → Int32) → Int32 × (Nat → Int32) × (Nat → Int32)
  | 0, s2, q54, q74 => (s2, q54, q74)
  | k0 + 1, s2, q54, q74 => (if (k_fine q54) = 0 then (s2, q54, q74) else (match k_isMore q54 (Rtape) with | (v23, r24) => (if v23 = 0 then (s2, r24, q74) else (match k_here r24 (Rtape) with | (v30, r31) => (match k_readNumber r31 (Rtape) (nI 0) ((r31 20) - (nI 1)) with | (v36, r37) => (if (k_fine r37) = 0 then (match k_readNumber r37 (Rtape) (nI 0) (nI 600) with | (v46, r47) => (match k_sign r47 (Rtape) (nI 59) with | (u52, r53) => (if (k_fine r53) = 0 then (s2, r53, q74) else k_book_67 Rtape k0 (s2 + nI 1) r53 (upd q74 (ix v36) v46)))) else (if (q74 (ix v36)) = ((-1)) then (match k_readNumber r37 (Rtape) (nI 0) (nI 600) with | (v67, r68) => (match k_sign r68 (Rtape) (nI 59) with | (u73, r74) => (if (k_fine r74) = 0 then (s2, r74, q74) else k_book_67 Rtape k0 (s2 + nI 1) r74 (upd q74 (ix v36) v67)))) else (match k_wrong r37 (nI 2) (r31 4) with | (u83, r84) => (match k_readNumber r84 (Rtape) (nI 0) (nI 600) with | (v89, r90) => (match k_sign r90 (Rtape) (nI 59) with | (u95, r96) => (if (k_fine r96) = 0 then (s2, r96, q74) else k_book_67 Rtape k0 (s2 + nI 1) r96 (upd q74 (ix v36) v89))))))))))))
noncomputable def k_book_67_ok (Rtape : Nat → Int32) : Nat → Int32 → (Nat → Int32) → (Nat → Int32) → Prop
  | 0, _, _, _ => False
  | k0 + 1, s2, q54, q74 => (True ∧ (if (k_fine q54) = 0 then True else (k_isMore_ok q54 (Rtape) ∧ (match k_isMore q54 (Rtape) with | (v23, r24) => (if v23 = 0 then True else (k_here_ok r24 (Rtape) ∧ (match k_here r24 (Rtape) with | (v30, r31) => (k_readNumber_ok r31 (Rtape) (nI 0) ((r31 20) - (nI 1)) ∧ (match k_readNumber r31 (Rtape) (nI 0) ((r31 20) - (nI 1)) with | (v36, r37) => (True ∧ (if (k_fine r37) = 0 then (k_readNumber_ok r37 (Rtape) (nI 0) (nI 600) ∧ (match k_readNumber r37 (Rtape) (nI 0) (nI 600) with | (v46, r47) => (k_sign_ok r47 (Rtape) (nI 59) ∧ (match k_sign r47 (Rtape) (nI 59) with | (u52, r53) => (True ∧ (if (k_fine r53) = 0 then True else ((isN v36) ∧ (ix v36 < 8) ∧ k_book_67_ok Rtape k0 (s2 + nI 1) r53 (upd q74 (ix v36) v46)))))))) else ((isN v36) ∧ (ix v36 < 8) ∧ (if (q74 (ix v36)) = ((-1)) then (k_readNumber_ok r37 (Rtape) (nI 0) (nI 600) ∧ (match k_readNumber r37 (Rtape) (nI 0) (nI 600) with | (v67, r68) => (k_sign_ok r68 (Rtape) (nI 59) ∧ (match k_sign r68 (Rtape) (nI 59) with | (u73, r74) => (True ∧ (if (k_fine r74) = 0 then True else k_book_67_ok Rtape k0 (s2 + nI 1) r74 (upd q74 (ix v36) v67))))))) else (True ∧ (match k_wrong r37 (nI 2) (r31 4) with | (u83, r84) => (k_readNumber_ok r84 (Rtape) (nI 0) (nI 600) ∧ (match k_readNumber r84 (Rtape) (nI 0) (nI 600) with | (v89, r90) => (k_sign_ok r90 (Rtape) (nI 59) ∧ (match k_sign r90 (Rtape) (nI 59) with | (u95, r96) => (True ∧ (if (k_fine r96) = 0 then True else k_book_67_ok Rtape k0 (s2 + nI 1) r96 (upd q74 (ix v36) v89))))))))))))))))))))))
set_option maxHeartbeats 4000000 in
set_option maxRecDepth 3000 in
theorem lp_k_book_54_67 (z : Zp) (d : Nat) (M : Mem) (Q : Rs → Prop) : ∀ (k0 : Nat) (s2 : Int32) (q54 : (Nat → Int32)) (q74 : (Nat → Int32)), k_book_67_ok (M.1 56) k0 s2 q54 q74 → (match k_book_67 (M.1 56) k0 s2 q54 q74 with | (s2', q54', q74') => G z mX12_book (d + 2) 0 0 169 [some (.ref 54), none, some (.int (s2')), none, none, none] [] (mrow (mrow M 54 (q54')) 74 (q74')) Q) → G z mX12_book (d + 2) 0 0 67 [some (.ref 54), none, some (.int s2), none, none, none] [] (mrow (mrow M 54 q54) 74 q74) Q := by
  intro k0
  induction k0 with
  | zero =>
      intro s2 q54 q74 hk hX
      exact (by simpa only [k_book_67_ok] using hk : False).elim
  | succ k0 ih =>
      intro s2 q54 q74 hk hX
      simp only [k_book_67_ok] at hk
      refine G.sl [(.aload_n 0, 1, 0, 0, 0, 0)] [] (pc2 := 68) (ls2 := [some (.ref 54), none, some (.int s2), none, none, none]) (st2 := [.ref 54]) (M2 := mrow (mrow M 54 q54) 74 q74) (Ps := []) (by decide +kernel) rfl rfl trivial ?_
      obtain ⟨k17, hk⟩ := hk
      have t18 : GM z mX12_fine (d + 1) [.ref 54] (mrow (mrow M 54 q54) 74 q74) (fun rs => rs = .inl (some (.int (k_fine q54)), mrow (mrow M 54 q54) 74 q74)) := by
        have q9 := c_k_fine_54 z (d + 1) (mrow (mrow M 54 q54) 74 q74) 
        try simp only [mput, mrow_same, mrow_hit, mrow_miss, mrow_sw, idr_eq, ne_eq, Nat.reduceEqDiff, not_false_eq_true, Nat.reduceLT, reduceCtorEq] at q9
        exact q9
      refine G.callV (as := []) (rest := []) (a := 54) oX12_fine lk_EvenFindersModel_130 (by decide +kernel) rfl rfl ⟨rfl, rfl⟩ (Nat.le_of_ble_eq_true rfl) rfl ⟨Nat.le_of_ble_eq_true rfl, Nat.le_of_ble_eq_true rfl⟩ t18 (fun v9 N9 h19 => ?_) (fun E9 N9 h19 => by cases h19)
      cases h19
      show G z mX12_book (d + 2) 0 0 71 [some (.ref 54), none, some (.int s2), none, none, none] [.int (k_fine q54)] (mrow (mrow M 54 q54) 74 q74) Q
      refine G.if_eq (off := (98)) (tgt := 169) (by decide +kernel) rfl (fun c20 => ?_) (fun c20 => ?_)
      · skip
        rw [if_pos c20] at hk
        simp only [k_book_67, if_pos c20] at hX
        exact hX
      · skip
        rw [if_neg c20] at hk
        refine G.sl [(.aload_n 0, 1, 0, 0, 0, 0)] [] (pc2 := 75) (ls2 := [some (.ref 54), none, some (.int s2), none, none, none]) (st2 := [.ref 54]) (M2 := mrow (mrow M 54 q54) 74 q74) (Ps := []) (by decide +kernel) rfl rfl trivial ?_
        obtain ⟨k21, hk⟩ := hk
        rcases g22 : k_isMore q54 (M.1 56) with ⟨v23, r24⟩
        try simp only [g22] at hk
        have ev23 : v23 = 0 ∨ v23 = 1 := by
          have q9 := k_isMore_01 q54 (M.1 56)
          rw [g22] at q9
          exact q9
        have t25 : GM z mX12_isMore (d + 1) [.ref 54] (mrow (mrow M 54 q54) 74 q74) (fun rs => rs = .inl (some (.int v23), mrow (mrow M 54 r24) 74 q74)) := by
          have q9 := c_k_isMore_54 z d (mrow (mrow M 54 q54) 74 q74) k21
          try simp only [mput, mrow_same, mrow_hit, mrow_miss, mrow_sw, idr_eq, ne_eq, Nat.reduceEqDiff, not_false_eq_true, Nat.reduceLT, reduceCtorEq, g22] at q9
          exact q9
        refine G.callV (as := []) (rest := []) (a := 54) oX12_isMore lk_EvenFindersModel_221 (by decide +kernel) rfl rfl ⟨rfl, rfl⟩ (Nat.le_of_ble_eq_true rfl) rfl ⟨Nat.le_of_ble_eq_true rfl, Nat.le_of_ble_eq_true rfl⟩ t25 (fun v9 N9 h26 => ?_) (fun E9 N9 h26 => by cases h26)
        cases h26
        show G z mX12_book (d + 2) 0 0 78 [some (.ref 54), none, some (.int s2), none, none, none] [.int v23] (mrow (mrow M 54 r24) 74 q74) Q
        refine G.if_eq (off := (91)) (tgt := 169) (by decide +kernel) rfl (fun c27 => ?_) (fun c27 => ?_)
        · skip
          rw [if_pos c27] at hk
          simp only [k_book_67, if_neg c20, g22, if_pos c27] at hX
          exact hX
        · skip
          rw [if_neg c27] at hk
          refine G.sl [(.aload_n 0, 1, 0, 0, 0, 0)] [] (pc2 := 82) (ls2 := [some (.ref 54), none, some (.int s2), none, none, none]) (st2 := [.ref 54]) (M2 := mrow (mrow M 54 r24) 74 q74) (Ps := []) (by decide +kernel) rfl rfl trivial ?_
          obtain ⟨k28, hk⟩ := hk
          rcases g29 : k_here r24 (M.1 56) with ⟨v30, r31⟩
          try simp only [g29] at hk
          have t32 : GM z mX12_here (d + 1) [.ref 54] (mrow (mrow M 54 r24) 74 q74) (fun rs => rs = .inl (some (.int v30), mrow (mrow M 54 r31) 74 q74)) := by
            have q9 := c_k_here_54 z (d + 1) (mrow (mrow M 54 r24) 74 q74) k28
            try simp only [mput, mrow_same, mrow_hit, mrow_miss, mrow_sw, idr_eq, ne_eq, Nat.reduceEqDiff, not_false_eq_true, Nat.reduceLT, reduceCtorEq, g29] at q9
            exact q9
          refine G.callV (as := []) (rest := []) (a := 54) oX12_here lk_EvenFindersModel_113 (by decide +kernel) rfl rfl ⟨rfl, rfl⟩ (Nat.le_of_ble_eq_true rfl) rfl ⟨Nat.le_of_ble_eq_true rfl, Nat.le_of_ble_eq_true rfl⟩ t32 (fun v9 N9 h33 => ?_) (fun E9 N9 h33 => by cases h33)
          cases h33
          show G z mX12_book (d + 2) 0 0 85 [some (.ref 54), none, some (.int s2), none, none, none] [.int v30] (mrow (mrow M 54 r31) 74 q74) Q
          refine G.sl [(.pop, 1, 0, 0, 0, 0), (.aload_n 0, 1, 0, 0, 0, 0), (.getfield 107, 3, 11, 4, 127, 0), (.istore_n 3, 1, 3, 0, 0, 0), (.aload_n 0, 1, 0, 0, 0, 0), (.iconst 0, 1, 0, 0, 0, nI 0), (.aload_n 0, 1, 0, 0, 0, 0), (.getfield 156, 3, 11, 20, 143, 0), (.iconst 1, 1, 0, 0, 0, nI 1), (.isub, 1, 0, 0, 0, 0)] [] (pc2 := 99) (ls2 := [some (.ref 54), none, some (.int s2), some (.int (r31 4)), none, none]) (st2 := [.int ((r31 20) - (nI 1)), .int (nI 0), .ref 54]) (M2 := mrow (mrow M 54 r31) 74 q74) (Ps := []) (by decide +kernel) rfl rfl trivial ?_
          obtain ⟨k34, hk⟩ := hk
          rcases g35 : k_readNumber r31 (M.1 56) (nI 0) ((r31 20) - (nI 1)) with ⟨v36, r37⟩
          try simp only [g35] at hk
          have t38 : GM z mX12_readNumber (d + 1) [.ref 54, .int (nI 0), .int ((r31 20) - (nI 1))] (mrow (mrow M 54 r31) 74 q74) (fun rs => rs = .inl (some (.int v36), mrow (mrow M 54 r37) 74 q74)) := by
            have q9 := c_k_readNumber_54 z d (mrow (mrow M 54 r31) 74 q74) (nI 0) ((r31 20) - (nI 1)) k34
            try simp only [mput, mrow_same, mrow_hit, mrow_miss, mrow_sw, idr_eq, ne_eq, Nat.reduceEqDiff, not_false_eq_true, Nat.reduceLT, reduceCtorEq, g35] at q9
            exact q9
          refine G.callV (as := [.int (nI 0), .int ((r31 20) - (nI 1))]) (rest := []) (a := 54) oX12_readNumber lk_EvenFindersModel_190 (by decide +kernel) rfl rfl ⟨rfl, rfl⟩ (Nat.le_of_ble_eq_true rfl) rfl ⟨Nat.le_of_ble_eq_true rfl, Nat.le_of_ble_eq_true rfl⟩ t38 (fun v9 N9 h39 => ?_) (fun E9 N9 h39 => by cases h39)
          cases h39
          show G z mX12_book (d + 2) 0 0 102 [some (.ref 54), none, some (.int s2), some (.int (r31 4)), none, none] [.int v36] (mrow (mrow M 54 r37) 74 q74) Q
          refine G.sl [(.istore 4, 2, 4, 0, 0, 0), (.aload_n 0, 1, 0, 0, 0, 0)] [] (pc2 := 105) (ls2 := [some (.ref 54), none, some (.int s2), some (.int (r31 4)), some (.int v36), none]) (st2 := [.ref 54]) (M2 := mrow (mrow M 54 r37) 74 q74) (Ps := []) (by decide +kernel) rfl rfl trivial ?_
          obtain ⟨k40, hk⟩ := hk
          have t41 : GM z mX12_fine (d + 1) [.ref 54] (mrow (mrow M 54 r37) 74 q74) (fun rs => rs = .inl (some (.int (k_fine r37)), mrow (mrow M 54 r37) 74 q74)) := by
            have q9 := c_k_fine_54 z (d + 1) (mrow (mrow M 54 r37) 74 q74) 
            try simp only [mput, mrow_same, mrow_hit, mrow_miss, mrow_sw, idr_eq, ne_eq, Nat.reduceEqDiff, not_false_eq_true, Nat.reduceLT, reduceCtorEq] at q9
            exact q9
          refine G.callV (as := []) (rest := []) (a := 54) oX12_fine lk_EvenFindersModel_130 (by decide +kernel) rfl rfl ⟨rfl, rfl⟩ (Nat.le_of_ble_eq_true rfl) rfl ⟨Nat.le_of_ble_eq_true rfl, Nat.le_of_ble_eq_true rfl⟩ t41 (fun v9 N9 h42 => ?_) (fun E9 N9 h42 => by cases h42)
          cases h42
          show G z mX12_book (d + 2) 0 0 108 [some (.ref 54), none, some (.int s2), some (.int (r31 4)), some (.int v36), none] [.int (k_fine r37)] (mrow (mrow M 54 r37) 74 q74) Q
          refine G.if_eq (off := (20)) (tgt := 128) (by decide +kernel) rfl (fun c43 => ?_) (fun c43 => ?_)
          · skip
            rw [if_pos c43] at hk
            refine G.sl [(.aload_n 0, 1, 0, 0, 0, 0), (.iconst 0, 1, 0, 0, 0, nI 0), (.sipush 600, 3, 0, 0, 0, nI 600)] [] (pc2 := 133) (ls2 := [some (.ref 54), none, some (.int s2), some (.int (r31 4)), some (.int v36), none]) (st2 := [.int (nI 600), .int (nI 0), .ref 54]) (M2 := mrow (mrow M 54 r37) 74 q74) (Ps := []) (by decide +kernel) rfl rfl trivial ?_
            obtain ⟨k44, hk⟩ := hk
            rcases g45 : k_readNumber r37 (M.1 56) (nI 0) (nI 600) with ⟨v46, r47⟩
            try simp only [g45] at hk
            have t48 : GM z mX12_readNumber (d + 1) [.ref 54, .int (nI 0), .int (nI 600)] (mrow (mrow M 54 r37) 74 q74) (fun rs => rs = .inl (some (.int v46), mrow (mrow M 54 r47) 74 q74)) := by
              have q9 := c_k_readNumber_54 z d (mrow (mrow M 54 r37) 74 q74) (nI 0) (nI 600) k44
              try simp only [mput, mrow_same, mrow_hit, mrow_miss, mrow_sw, idr_eq, ne_eq, Nat.reduceEqDiff, not_false_eq_true, Nat.reduceLT, reduceCtorEq, g45] at q9
              exact q9
            refine G.callV (as := [.int (nI 0), .int (nI 600)]) (rest := []) (a := 54) oX12_readNumber lk_EvenFindersModel_190 (by decide +kernel) rfl rfl ⟨rfl, rfl⟩ (Nat.le_of_ble_eq_true rfl) rfl ⟨Nat.le_of_ble_eq_true rfl, Nat.le_of_ble_eq_true rfl⟩ t48 (fun v9 N9 h49 => ?_) (fun E9 N9 h49 => by cases h49)
            cases h49
            show G z mX12_book (d + 2) 0 0 136 [some (.ref 54), none, some (.int s2), some (.int (r31 4)), some (.int v36), none] [.int v46] (mrow (mrow M 54 r47) 74 q74) Q
            refine G.sl [(.istore 5, 2, 5, 0, 0, 0), (.aload_n 0, 1, 0, 0, 0, 0), (.bipush 59, 2, 0, 0, 0, nI 59)] [] (pc2 := 141) (ls2 := [some (.ref 54), none, some (.int s2), some (.int (r31 4)), some (.int v36), some (.int v46)]) (st2 := [.int (nI 59), .ref 54]) (M2 := mrow (mrow M 54 r47) 74 q74) (Ps := []) (by decide +kernel) rfl rfl trivial ?_
            obtain ⟨k50, hk⟩ := hk
            rcases g51 : k_sign r47 (M.1 56) (nI 59) with ⟨u52, r53⟩
            try simp only [g51] at hk
            have t54 : GM z mX12_sign (d + 1) [.ref 54, .int (nI 59)] (mrow (mrow M 54 r47) 74 q74) (fun rs => rs = .inl (none, mrow (mrow M 54 r53) 74 q74)) := by
              have q9 := c_k_sign_54 z d (mrow (mrow M 54 r47) 74 q74) (nI 59) k50
              try simp only [mput, mrow_same, mrow_hit, mrow_miss, mrow_sw, idr_eq, ne_eq, Nat.reduceEqDiff, not_false_eq_true, Nat.reduceLT, reduceCtorEq, g51] at q9
              exact q9
            refine G.callV (as := [.int (nI 59)]) (rest := []) (a := 54) oX12_sign lk_EvenFindersModel_239 (by decide +kernel) rfl rfl ⟨rfl, rfl⟩ (Nat.le_of_ble_eq_true rfl) rfl ⟨Nat.le_of_ble_eq_true rfl, Nat.le_of_ble_eq_true rfl⟩ t54 (fun v9 N9 h55 => ?_) (fun E9 N9 h55 => by cases h55)
            cases h55
            show G z mX12_book (d + 2) 0 0 144 [some (.ref 54), none, some (.int s2), some (.int (r31 4)), some (.int v36), some (.int v46)] [] (mrow (mrow M 54 r53) 74 q74) Q
            refine G.sl [(.aload_n 0, 1, 0, 0, 0, 0)] [] (pc2 := 145) (ls2 := [some (.ref 54), none, some (.int s2), some (.int (r31 4)), some (.int v36), some (.int v46)]) (st2 := [.ref 54]) (M2 := mrow (mrow M 54 r53) 74 q74) (Ps := []) (by decide +kernel) rfl rfl trivial ?_
            obtain ⟨k56, hk⟩ := hk
            have t57 : GM z mX12_fine (d + 1) [.ref 54] (mrow (mrow M 54 r53) 74 q74) (fun rs => rs = .inl (some (.int (k_fine r53)), mrow (mrow M 54 r53) 74 q74)) := by
              have q9 := c_k_fine_54 z (d + 1) (mrow (mrow M 54 r53) 74 q74) 
              try simp only [mput, mrow_same, mrow_hit, mrow_miss, mrow_sw, idr_eq, ne_eq, Nat.reduceEqDiff, not_false_eq_true, Nat.reduceLT, reduceCtorEq] at q9
              exact q9
            refine G.callV (as := []) (rest := []) (a := 54) oX12_fine lk_EvenFindersModel_130 (by decide +kernel) rfl rfl ⟨rfl, rfl⟩ (Nat.le_of_ble_eq_true rfl) rfl ⟨Nat.le_of_ble_eq_true rfl, Nat.le_of_ble_eq_true rfl⟩ t57 (fun v9 N9 h58 => ?_) (fun E9 N9 h58 => by cases h58)
            cases h58
            show G z mX12_book (d + 2) 0 0 148 [some (.ref 54), none, some (.int s2), some (.int (r31 4)), some (.int v36), some (.int v46)] [.int (k_fine r53)] (mrow (mrow M 54 r53) 74 q74) Q
            refine G.if_ne (off := (6)) (tgt := 154) (by decide +kernel) rfl (fun c59 => ?_) (fun c59 => ?_)
            · skip
              rw [if_neg c59] at hk
              obtain ⟨k60, k61, hk⟩ := hk
              refine G.sl [(.aload_n 0, 1, 0, 0, 0, 0), (.getfield 74, 3, 11, 43, 166, 0), (.iload 4, 2, 4, 0, 0, 0), (.iload 5, 2, 5, 0, 0, 0), (.iastore, 1, 0, 0, 0, 0), (.iinc 2 1, 3, 2, 0, 0, nI 1), (.goto (-99), 3, 67, 0, 0, 0)] [ix v36] (pc2 := 67) (ls2 := [some (.ref 54), none, some (.int (s2 + nI 1)), some (.int (r31 4)), some (.int v36), some (.int v46)]) (st2 := []) (M2 := mput (mrow (mrow M 54 r53) 74 q74) 74 (ix v36) v46) (Ps := [v36 = nI (ix v36) ∧ (ix v36) < 8]) (by decide +kernel) rfl rfl ⟨⟨(ixE k60), k61⟩, trivial⟩ ?_
              refine G.mem (M' := mrow (mrow M 54 r53) 74 (upd q74 (ix v36) v46)) (by first | rfl | (simp only [mput, mrow_same, mrow_hit, mrow_miss, mrow_sw, idr_eq, ne_eq, Nat.reduceEqDiff, not_false_eq_true, Nat.reduceLT, reduceCtorEq]; done)) ?_
              refine G.loc (ls2 := [some (.ref 54), none, some (.int (s2 + nI 1)), none, none, none]) (by simp [subL]) ?_
              simp only [k_book_67, if_neg c20, g22, if_neg c27, g29, g35, if_pos c43, g45, g51, if_neg c59] at hX
              exact ih (s2 + nI 1) r53 (upd q74 (ix v36) v46) hk hX
            · skip
              rw [if_pos c59] at hk
              refine G.sl [(.goto 18, 3, 169, 0, 0, 0)] [] (pc2 := 169) (ls2 := [some (.ref 54), none, some (.int s2), some (.int (r31 4)), some (.int v36), some (.int v46)]) (st2 := []) (M2 := mrow (mrow M 54 r53) 74 q74) (Ps := []) (by decide +kernel) rfl rfl trivial ?_
              refine G.loc (ls2 := [some (.ref 54), none, some (.int s2), none, none, none]) (by simp [subL]) ?_
              simp only [k_book_67, if_neg c20, g22, if_neg c27, g29, g35, if_pos c43, g45, g51, if_pos c59] at hX
              exact hX
          · skip
            rw [if_neg c43] at hk
            obtain ⟨k62, k63, hk⟩ := hk
            refine G.sl [(.aload_n 0, 1, 0, 0, 0, 0), (.getfield 74, 3, 11, 43, 166, 0), (.iload 4, 2, 4, 0, 0, 0), (.iaload, 1, 0, 0, 0, 0), (.iconst (-1), 1, 0, 0, 0, (-1))] [ix v36] (pc2 := 119) (ls2 := [some (.ref 54), none, some (.int s2), some (.int (r31 4)), some (.int v36), none]) (st2 := [.int ((-1)), .int (q74 (ix v36))]) (M2 := mrow (mrow M 54 r37) 74 q74) (Ps := [v36 = nI (ix v36) ∧ (ix v36) < 8]) (by decide +kernel) rfl rfl ⟨⟨(ixE k62), k63⟩, trivial⟩ ?_
            refine G.ic_eq (off := (9)) (tgt := 128) (by decide +kernel) rfl (fun c64 => ?_) (fun c64 => ?_)
            · skip
              rw [if_pos c64] at hk
              refine G.sl [(.aload_n 0, 1, 0, 0, 0, 0), (.iconst 0, 1, 0, 0, 0, nI 0), (.sipush 600, 3, 0, 0, 0, nI 600)] [] (pc2 := 133) (ls2 := [some (.ref 54), none, some (.int s2), some (.int (r31 4)), some (.int v36), none]) (st2 := [.int (nI 600), .int (nI 0), .ref 54]) (M2 := mrow (mrow M 54 r37) 74 q74) (Ps := []) (by decide +kernel) rfl rfl trivial ?_
              obtain ⟨k65, hk⟩ := hk
              rcases g66 : k_readNumber r37 (M.1 56) (nI 0) (nI 600) with ⟨v67, r68⟩
              try simp only [g66] at hk
              have t69 : GM z mX12_readNumber (d + 1) [.ref 54, .int (nI 0), .int (nI 600)] (mrow (mrow M 54 r37) 74 q74) (fun rs => rs = .inl (some (.int v67), mrow (mrow M 54 r68) 74 q74)) := by
                have q9 := c_k_readNumber_54 z d (mrow (mrow M 54 r37) 74 q74) (nI 0) (nI 600) k65
                try simp only [mput, mrow_same, mrow_hit, mrow_miss, mrow_sw, idr_eq, ne_eq, Nat.reduceEqDiff, not_false_eq_true, Nat.reduceLT, reduceCtorEq, g66] at q9
                exact q9
              refine G.callV (as := [.int (nI 0), .int (nI 600)]) (rest := []) (a := 54) oX12_readNumber lk_EvenFindersModel_190 (by decide +kernel) rfl rfl ⟨rfl, rfl⟩ (Nat.le_of_ble_eq_true rfl) rfl ⟨Nat.le_of_ble_eq_true rfl, Nat.le_of_ble_eq_true rfl⟩ t69 (fun v9 N9 h70 => ?_) (fun E9 N9 h70 => by cases h70)
              cases h70
              show G z mX12_book (d + 2) 0 0 136 [some (.ref 54), none, some (.int s2), some (.int (r31 4)), some (.int v36), none] [.int v67] (mrow (mrow M 54 r68) 74 q74) Q
              refine G.sl [(.istore 5, 2, 5, 0, 0, 0), (.aload_n 0, 1, 0, 0, 0, 0), (.bipush 59, 2, 0, 0, 0, nI 59)] [] (pc2 := 141) (ls2 := [some (.ref 54), none, some (.int s2), some (.int (r31 4)), some (.int v36), some (.int v67)]) (st2 := [.int (nI 59), .ref 54]) (M2 := mrow (mrow M 54 r68) 74 q74) (Ps := []) (by decide +kernel) rfl rfl trivial ?_
              obtain ⟨k71, hk⟩ := hk
              rcases g72 : k_sign r68 (M.1 56) (nI 59) with ⟨u73, r74⟩
              try simp only [g72] at hk
              have t75 : GM z mX12_sign (d + 1) [.ref 54, .int (nI 59)] (mrow (mrow M 54 r68) 74 q74) (fun rs => rs = .inl (none, mrow (mrow M 54 r74) 74 q74)) := by
                have q9 := c_k_sign_54 z d (mrow (mrow M 54 r68) 74 q74) (nI 59) k71
                try simp only [mput, mrow_same, mrow_hit, mrow_miss, mrow_sw, idr_eq, ne_eq, Nat.reduceEqDiff, not_false_eq_true, Nat.reduceLT, reduceCtorEq, g72] at q9
                exact q9
              refine G.callV (as := [.int (nI 59)]) (rest := []) (a := 54) oX12_sign lk_EvenFindersModel_239 (by decide +kernel) rfl rfl ⟨rfl, rfl⟩ (Nat.le_of_ble_eq_true rfl) rfl ⟨Nat.le_of_ble_eq_true rfl, Nat.le_of_ble_eq_true rfl⟩ t75 (fun v9 N9 h76 => ?_) (fun E9 N9 h76 => by cases h76)
              cases h76
              show G z mX12_book (d + 2) 0 0 144 [some (.ref 54), none, some (.int s2), some (.int (r31 4)), some (.int v36), some (.int v67)] [] (mrow (mrow M 54 r74) 74 q74) Q
              refine G.sl [(.aload_n 0, 1, 0, 0, 0, 0)] [] (pc2 := 145) (ls2 := [some (.ref 54), none, some (.int s2), some (.int (r31 4)), some (.int v36), some (.int v67)]) (st2 := [.ref 54]) (M2 := mrow (mrow M 54 r74) 74 q74) (Ps := []) (by decide +kernel) rfl rfl trivial ?_
              obtain ⟨k77, hk⟩ := hk
              have t78 : GM z mX12_fine (d + 1) [.ref 54] (mrow (mrow M 54 r74) 74 q74) (fun rs => rs = .inl (some (.int (k_fine r74)), mrow (mrow M 54 r74) 74 q74)) := by
                have q9 := c_k_fine_54 z (d + 1) (mrow (mrow M 54 r74) 74 q74) 
                try simp only [mput, mrow_same, mrow_hit, mrow_miss, mrow_sw, idr_eq, ne_eq, Nat.reduceEqDiff, not_false_eq_true, Nat.reduceLT, reduceCtorEq] at q9
                exact q9
              refine G.callV (as := []) (rest := []) (a := 54) oX12_fine lk_EvenFindersModel_130 (by decide +kernel) rfl rfl ⟨rfl, rfl⟩ (Nat.le_of_ble_eq_true rfl) rfl ⟨Nat.le_of_ble_eq_true rfl, Nat.le_of_ble_eq_true rfl⟩ t78 (fun v9 N9 h79 => ?_) (fun E9 N9 h79 => by cases h79)
              cases h79
              show G z mX12_book (d + 2) 0 0 148 [some (.ref 54), none, some (.int s2), some (.int (r31 4)), some (.int v36), some (.int v67)] [.int (k_fine r74)] (mrow (mrow M 54 r74) 74 q74) Q
              refine G.if_ne (off := (6)) (tgt := 154) (by decide +kernel) rfl (fun c80 => ?_) (fun c80 => ?_)
              · skip
                rw [if_neg c80] at hk
                refine G.sl [(.aload_n 0, 1, 0, 0, 0, 0), (.getfield 74, 3, 11, 43, 166, 0), (.iload 4, 2, 4, 0, 0, 0), (.iload 5, 2, 5, 0, 0, 0), (.iastore, 1, 0, 0, 0, 0), (.iinc 2 1, 3, 2, 0, 0, nI 1), (.goto (-99), 3, 67, 0, 0, 0)] [ix v36] (pc2 := 67) (ls2 := [some (.ref 54), none, some (.int (s2 + nI 1)), some (.int (r31 4)), some (.int v36), some (.int v67)]) (st2 := []) (M2 := mput (mrow (mrow M 54 r74) 74 q74) 74 (ix v36) v67) (Ps := [v36 = nI (ix v36) ∧ (ix v36) < 8]) (by decide +kernel) rfl rfl ⟨⟨(ixE k62), k63⟩, trivial⟩ ?_
                refine G.mem (M' := mrow (mrow M 54 r74) 74 (upd q74 (ix v36) v67)) (by first | rfl | (simp only [mput, mrow_same, mrow_hit, mrow_miss, mrow_sw, idr_eq, ne_eq, Nat.reduceEqDiff, not_false_eq_true, Nat.reduceLT, reduceCtorEq]; done)) ?_
                refine G.loc (ls2 := [some (.ref 54), none, some (.int (s2 + nI 1)), none, none, none]) (by simp [subL]) ?_
                simp only [k_book_67, if_neg c20, g22, if_neg c27, g29, g35, if_neg c43, if_pos c64, g66, g72, if_neg c80] at hX
                exact ih (s2 + nI 1) r74 (upd q74 (ix v36) v67) hk hX
              · skip
                rw [if_pos c80] at hk
                refine G.sl [(.goto 18, 3, 169, 0, 0, 0)] [] (pc2 := 169) (ls2 := [some (.ref 54), none, some (.int s2), some (.int (r31 4)), some (.int v36), some (.int v67)]) (st2 := []) (M2 := mrow (mrow M 54 r74) 74 q74) (Ps := []) (by decide +kernel) rfl rfl trivial ?_
                refine G.loc (ls2 := [some (.ref 54), none, some (.int s2), none, none, none]) (by simp [subL]) ?_
                simp only [k_book_67, if_neg c20, g22, if_neg c27, g29, g35, if_neg c43, if_pos c64, g66, g72, if_pos c80] at hX
                exact hX
            · skip
              rw [if_neg c64] at hk
              refine G.sl [(.aload_n 0, 1, 0, 0, 0, 0), (.iconst 2, 1, 0, 0, 0, nI 2), (.iload_n 3, 1, 3, 0, 0, 0)] [] (pc2 := 125) (ls2 := [some (.ref 54), none, some (.int s2), some (.int (r31 4)), some (.int v36), none]) (st2 := [.int (r31 4), .int (nI 2), .ref 54]) (M2 := mrow (mrow M 54 r37) 74 q74) (Ps := []) (by decide +kernel) rfl rfl trivial ?_
              obtain ⟨k81, hk⟩ := hk
              rcases g82 : k_wrong r37 (nI 2) (r31 4) with ⟨u83, r84⟩
              try simp only [g82] at hk
              have t85 : GM z mX12_wrong (d + 1) [.ref 54, .int (nI 2), .int (r31 4)] (mrow (mrow M 54 r37) 74 q74) (fun rs => rs = .inl (none, mrow (mrow M 54 r84) 74 q74)) := by
                have q9 := c_k_wrong_54 z (d + 1) (mrow (mrow M 54 r37) 74 q74) (nI 2) (r31 4)
                try simp only [mput, mrow_same, mrow_hit, mrow_miss, mrow_sw, idr_eq, ne_eq, Nat.reduceEqDiff, not_false_eq_true, Nat.reduceLT, reduceCtorEq, g82] at q9
                exact q9
              refine G.callV (as := [.int (nI 2), .int (r31 4)]) (rest := []) (a := 54) oX12_wrong lk_EvenFindersModel_137 (by decide +kernel) rfl rfl ⟨rfl, rfl⟩ (Nat.le_of_ble_eq_true rfl) rfl ⟨Nat.le_of_ble_eq_true rfl, Nat.le_of_ble_eq_true rfl⟩ t85 (fun v9 N9 h86 => ?_) (fun E9 N9 h86 => by cases h86)
              cases h86
              show G z mX12_book (d + 2) 0 0 128 [some (.ref 54), none, some (.int s2), some (.int (r31 4)), some (.int v36), none] [] (mrow (mrow M 54 r84) 74 q74) Q
              refine G.sl [(.aload_n 0, 1, 0, 0, 0, 0), (.iconst 0, 1, 0, 0, 0, nI 0), (.sipush 600, 3, 0, 0, 0, nI 600)] [] (pc2 := 133) (ls2 := [some (.ref 54), none, some (.int s2), some (.int (r31 4)), some (.int v36), none]) (st2 := [.int (nI 600), .int (nI 0), .ref 54]) (M2 := mrow (mrow M 54 r84) 74 q74) (Ps := []) (by decide +kernel) rfl rfl trivial ?_
              obtain ⟨k87, hk⟩ := hk
              rcases g88 : k_readNumber r84 (M.1 56) (nI 0) (nI 600) with ⟨v89, r90⟩
              try simp only [g88] at hk
              have t91 : GM z mX12_readNumber (d + 1) [.ref 54, .int (nI 0), .int (nI 600)] (mrow (mrow M 54 r84) 74 q74) (fun rs => rs = .inl (some (.int v89), mrow (mrow M 54 r90) 74 q74)) := by
                have q9 := c_k_readNumber_54 z d (mrow (mrow M 54 r84) 74 q74) (nI 0) (nI 600) k87
                try simp only [mput, mrow_same, mrow_hit, mrow_miss, mrow_sw, idr_eq, ne_eq, Nat.reduceEqDiff, not_false_eq_true, Nat.reduceLT, reduceCtorEq, g88] at q9
                exact q9
              refine G.callV (as := [.int (nI 0), .int (nI 600)]) (rest := []) (a := 54) oX12_readNumber lk_EvenFindersModel_190 (by decide +kernel) rfl rfl ⟨rfl, rfl⟩ (Nat.le_of_ble_eq_true rfl) rfl ⟨Nat.le_of_ble_eq_true rfl, Nat.le_of_ble_eq_true rfl⟩ t91 (fun v9 N9 h92 => ?_) (fun E9 N9 h92 => by cases h92)
              cases h92
              show G z mX12_book (d + 2) 0 0 136 [some (.ref 54), none, some (.int s2), some (.int (r31 4)), some (.int v36), none] [.int v89] (mrow (mrow M 54 r90) 74 q74) Q
              refine G.sl [(.istore 5, 2, 5, 0, 0, 0), (.aload_n 0, 1, 0, 0, 0, 0), (.bipush 59, 2, 0, 0, 0, nI 59)] [] (pc2 := 141) (ls2 := [some (.ref 54), none, some (.int s2), some (.int (r31 4)), some (.int v36), some (.int v89)]) (st2 := [.int (nI 59), .ref 54]) (M2 := mrow (mrow M 54 r90) 74 q74) (Ps := []) (by decide +kernel) rfl rfl trivial ?_
              obtain ⟨k93, hk⟩ := hk
              rcases g94 : k_sign r90 (M.1 56) (nI 59) with ⟨u95, r96⟩
              try simp only [g94] at hk
              have t97 : GM z mX12_sign (d + 1) [.ref 54, .int (nI 59)] (mrow (mrow M 54 r90) 74 q74) (fun rs => rs = .inl (none, mrow (mrow M 54 r96) 74 q74)) := by
                have q9 := c_k_sign_54 z d (mrow (mrow M 54 r90) 74 q74) (nI 59) k93
                try simp only [mput, mrow_same, mrow_hit, mrow_miss, mrow_sw, idr_eq, ne_eq, Nat.reduceEqDiff, not_false_eq_true, Nat.reduceLT, reduceCtorEq, g94] at q9
                exact q9
              refine G.callV (as := [.int (nI 59)]) (rest := []) (a := 54) oX12_sign lk_EvenFindersModel_239 (by decide +kernel) rfl rfl ⟨rfl, rfl⟩ (Nat.le_of_ble_eq_true rfl) rfl ⟨Nat.le_of_ble_eq_true rfl, Nat.le_of_ble_eq_true rfl⟩ t97 (fun v9 N9 h98 => ?_) (fun E9 N9 h98 => by cases h98)
              cases h98
              show G z mX12_book (d + 2) 0 0 144 [some (.ref 54), none, some (.int s2), some (.int (r31 4)), some (.int v36), some (.int v89)] [] (mrow (mrow M 54 r96) 74 q74) Q
              refine G.sl [(.aload_n 0, 1, 0, 0, 0, 0)] [] (pc2 := 145) (ls2 := [some (.ref 54), none, some (.int s2), some (.int (r31 4)), some (.int v36), some (.int v89)]) (st2 := [.ref 54]) (M2 := mrow (mrow M 54 r96) 74 q74) (Ps := []) (by decide +kernel) rfl rfl trivial ?_
              obtain ⟨k99, hk⟩ := hk
              have t100 : GM z mX12_fine (d + 1) [.ref 54] (mrow (mrow M 54 r96) 74 q74) (fun rs => rs = .inl (some (.int (k_fine r96)), mrow (mrow M 54 r96) 74 q74)) := by
                have q9 := c_k_fine_54 z (d + 1) (mrow (mrow M 54 r96) 74 q74) 
                try simp only [mput, mrow_same, mrow_hit, mrow_miss, mrow_sw, idr_eq, ne_eq, Nat.reduceEqDiff, not_false_eq_true, Nat.reduceLT, reduceCtorEq] at q9
                exact q9
              refine G.callV (as := []) (rest := []) (a := 54) oX12_fine lk_EvenFindersModel_130 (by decide +kernel) rfl rfl ⟨rfl, rfl⟩ (Nat.le_of_ble_eq_true rfl) rfl ⟨Nat.le_of_ble_eq_true rfl, Nat.le_of_ble_eq_true rfl⟩ t100 (fun v9 N9 h101 => ?_) (fun E9 N9 h101 => by cases h101)
              cases h101
              show G z mX12_book (d + 2) 0 0 148 [some (.ref 54), none, some (.int s2), some (.int (r31 4)), some (.int v36), some (.int v89)] [.int (k_fine r96)] (mrow (mrow M 54 r96) 74 q74) Q
              refine G.if_ne (off := (6)) (tgt := 154) (by decide +kernel) rfl (fun c102 => ?_) (fun c102 => ?_)
              · skip
                rw [if_neg c102] at hk
                refine G.sl [(.aload_n 0, 1, 0, 0, 0, 0), (.getfield 74, 3, 11, 43, 166, 0), (.iload 4, 2, 4, 0, 0, 0), (.iload 5, 2, 5, 0, 0, 0), (.iastore, 1, 0, 0, 0, 0), (.iinc 2 1, 3, 2, 0, 0, nI 1), (.goto (-99), 3, 67, 0, 0, 0)] [ix v36] (pc2 := 67) (ls2 := [some (.ref 54), none, some (.int (s2 + nI 1)), some (.int (r31 4)), some (.int v36), some (.int v89)]) (st2 := []) (M2 := mput (mrow (mrow M 54 r96) 74 q74) 74 (ix v36) v89) (Ps := [v36 = nI (ix v36) ∧ (ix v36) < 8]) (by decide +kernel) rfl rfl ⟨⟨(ixE k62), k63⟩, trivial⟩ ?_
                refine G.mem (M' := mrow (mrow M 54 r96) 74 (upd q74 (ix v36) v89)) (by first | rfl | (simp only [mput, mrow_same, mrow_hit, mrow_miss, mrow_sw, idr_eq, ne_eq, Nat.reduceEqDiff, not_false_eq_true, Nat.reduceLT, reduceCtorEq]; done)) ?_
                refine G.loc (ls2 := [some (.ref 54), none, some (.int (s2 + nI 1)), none, none, none]) (by simp [subL]) ?_
                simp only [k_book_67, if_neg c20, g22, if_neg c27, g29, g35, if_neg c43, if_neg c64, g82, g88, g94, if_neg c102] at hX
                exact ih (s2 + nI 1) r96 (upd q74 (ix v36) v89) hk hX
              · skip
                rw [if_pos c102] at hk
                refine G.sl [(.goto 18, 3, 169, 0, 0, 0)] [] (pc2 := 169) (ls2 := [some (.ref 54), none, some (.int s2), some (.int (r31 4)), some (.int v36), some (.int v89)]) (st2 := []) (M2 := mrow (mrow M 54 r96) 74 q74) (Ps := []) (by decide +kernel) rfl rfl trivial ?_
                refine G.loc (ls2 := [some (.ref 54), none, some (.int s2), none, none, none]) (by simp [subL]) ?_
                simp only [k_book_67, if_neg c20, g22, if_neg c27, g29, g35, if_neg c43, if_neg c64, g82, g88, g94, if_pos c102] at hX
                exact hX
noncomputable def k_result (Rmd : Nat → Int32) (x1 : Int32) : Int32 × (Nat → Int32) := (if (k_fine (upd (Rmd) 8 (Rmd 5))) = 0 then ((Rmd 6) - (nI 10), upd (Rmd) 8 (Rmd 5)) else (x1, upd (Rmd) 8 (Rmd 5)))
set_option maxHeartbeats 4000000 in
set_option maxRecDepth 3000 in
theorem c_k_result_54 (z : Zp) (d : Nat) (M : Mem) (x1 : Int32) : GM z mX12_result (d + 1) [.ref 54, .int x1] M (fun rs => rs = .inl (some (.int ((k_result (M.1 54) x1).1)), mrow M 54 ((k_result (M.1 54) x1).2))) := by
  refine GM.of oX12_result.1 (Nat.le_of_ble_eq_true rfl) ?_
  show G z mX12_result (d + 1) 0 0 0 [some (.ref 54), some (.int x1)] [] M _
  obtain ⟨Q, hQ⟩ : ∃ Q : Rs → Prop, Q = (fun rs => rs = .inl (some (.int ((k_result (M.1 54) x1).1)), mrow M 54 ((k_result (M.1 54) x1).2))) := ⟨_, rfl⟩
  rw [← hQ]
  refine G.sl [(.aload_n 0, 1, 0, 0, 0, 0), (.aload_n 0, 1, 0, 0, 0, 0), (.getfield 101, 3, 11, 5, 128, 0), (.putfield 17, 3, 11, 8, 131, 0), (.aload_n 0, 1, 0, 0, 0, 0)] [] (pc2 := 9) (ls2 := [some (.ref 54), some (.int x1)]) (st2 := [.ref 54]) (M2 := mput M 54 8 (M.1 54 5)) (Ps := []) (by decide +kernel) rfl rfl trivial ?_
  refine G.mem (M' := mrow M 54 (upd (M.1 54) 8 (M.1 54 5))) (by first | rfl | (simp only [mput, mrow_same, mrow_hit, mrow_miss, mrow_sw, idr_eq, ne_eq, Nat.reduceEqDiff, not_false_eq_true, Nat.reduceLT, reduceCtorEq]; done)) ?_
  have t2 : GM z mX12_fine (d) [.ref 54] (mrow M 54 (upd (M.1 54) 8 (M.1 54 5))) (fun rs => rs = .inl (some (.int (k_fine (upd (M.1 54) 8 (M.1 54 5)))), mrow M 54 (upd (M.1 54) 8 (M.1 54 5)))) := by
    have q9 := c_k_fine_54 z d (mrow M 54 (upd (M.1 54) 8 (M.1 54 5))) 
    try simp only [mput, mrow_same, mrow_hit, mrow_miss, mrow_sw, idr_eq, ne_eq, Nat.reduceEqDiff, not_false_eq_true, Nat.reduceLT, reduceCtorEq] at q9
    exact q9
  refine G.callV (as := []) (rest := []) (a := 54) oX12_fine lk_EvenFindersModel_130 (by decide +kernel) rfl rfl ⟨rfl, rfl⟩ (Nat.le_of_ble_eq_true rfl) rfl ⟨Nat.le_of_ble_eq_true rfl, Nat.le_of_ble_eq_true rfl⟩ t2 (fun v9 N9 h3 => ?_) (fun E9 N9 h3 => by cases h3)
  cases h3
  show G z mX12_result (d + 1) 0 0 12 [some (.ref 54), some (.int x1)] [.int (k_fine (upd (M.1 54) 8 (M.1 54 5)))] (mrow M 54 (upd (M.1 54) 8 (M.1 54 5))) Q
  refine G.if_eq (off := (7)) (tgt := 19) (by decide +kernel) rfl (fun c4 => ?_) (fun c4 => ?_)
  · skip
    refine G.sl [(.aload_n 0, 1, 0, 0, 0, 0), (.getfield 104, 3, 11, 6, 129, 0), (.bipush 10, 2, 0, 0, 0, nI 10), (.isub, 1, 0, 0, 0, 0)] [] (pc2 := 26) (ls2 := [some (.ref 54), some (.int x1)]) (st2 := [.int ((M.1 54 6) - (nI 10))]) (M2 := mrow M 54 (upd (M.1 54) 8 (M.1 54 5))) (Ps := []) (by decide +kernel) rfl rfl trivial ?_
    exact G.reti (by decide +kernel) rfl rfl (Nat.le_of_ble_eq_true rfl) (Nat.le_of_ble_eq_true rfl) ((by rw [hQ]; simp only [k_result, if_pos c4, mrow_self]))
  · skip
    refine G.sl [(.iload_n 1, 1, 1, 0, 0, 0), (.goto 10, 3, 26, 0, 0, 0)] [] (pc2 := 26) (ls2 := [some (.ref 54), some (.int x1)]) (st2 := [.int x1]) (M2 := mrow M 54 (upd (M.1 54) 8 (M.1 54 5))) (Ps := []) (by decide +kernel) rfl rfl trivial ?_
    exact G.reti (by decide +kernel) rfl rfl (Nat.le_of_ble_eq_true rfl) (Nat.le_of_ble_eq_true rfl) ((by rw [hQ]; simp only [k_result, if_neg c4, mrow_self]))
noncomputable def k_copies_L8_L8_3 (Ra1 Ra2 : Nat → Int32) (n3 : Nat) : Nat → (Nat → Int32)
  | 0 => Ra2
  | i4 + 1 => upd (k_copies_L8_L8_3 Ra1 Ra2 n3 i4) i4 (Ra1 i4)
noncomputable def k_copies_L8_L8_3_ok (Ra1 Ra2 : Nat → Int32) (n3 : Nat) (i4 : Nat) : Prop := ((i4 < 8) ∧ True)
set_option maxHeartbeats 4000000 in
set_option maxRecDepth 3000 in
theorem lp_k_copies_L8_L8_54_74_75_3 (z : Zp) (d : Nat) (M : Mem) (Q : Rs → Prop) (n3 : Nat) (b3 : n3 < 3000) (hk : ∀ i4, i4 < n3 → k_copies_L8_L8_3_ok (M.1 74) (M.1 75) n3 i4) (hX : G z mX12_copies (d) 0 0 23 [none, none, none, none, none] [] (mrow M 75 (k_copies_L8_L8_3 (M.1 74) (M.1 75) n3 n3)) Q) : G z mX12_copies (d) 0 0 3 [none, some (.ref 74), some (.ref 75), some (.int (nI n3)), some (.int (nI 0))] [] M Q := by
  refine G.mem (M' := mrow M 75 (M.1 75)) (by simp only [mrow_self]) ?_
  refine down (n := n3) (P := fun i4 => G z mX12_copies (d) 0 0 3 [none, some (.ref 74), some (.ref 75), some (.int (nI n3)), some (.int (nI i4))] [] (mrow M 75 (k_copies_L8_L8_3 (M.1 74) (M.1 75) n3 i4)) Q) ?_ ?_ 0 (Nat.zero_le _)
  · skip
    refine G.sl [(.iload 4, 2, 4, 0, 0, 0), (.iload_n 3, 1, 3, 0, 0, 0)] [] (pc2 := 6) (ls2 := [none, some (.ref 74), some (.ref 75), some (.int (nI n3)), some (.int (nI n3))]) (st2 := [.int (nI n3), .int (nI n3)]) (M2 := mrow M 75 (k_copies_L8_L8_3 (M.1 74) (M.1 75) n3 n3)) (Ps := []) (by decide +kernel) rfl rfl trivial ?_
    refine G.ic_ge (off := (17)) (tgt := 23) (by decide +kernel) rfl (fun _ => ?_) (fun h9 => absurd (nI_le (by omega) (by omega)) h9)
    refine G.loc (ls2 := [none, none, none, none, none]) (by simp [subL]) ?_
    exact hX
  · skip
    intro i4 hi ih
    have hk := hk i4 hi
    simp only [k_copies_L8_L8_3_ok] at hk
    show G z mX12_copies (d) 0 0 3 [none, some (.ref 74), some (.ref 75), some (.int (nI n3)), some (.int (nI i4))] [] (mrow M 75 (k_copies_L8_L8_3 (M.1 74) (M.1 75) n3 i4)) Q
    refine G.sl [(.iload 4, 2, 4, 0, 0, 0), (.iload_n 3, 1, 3, 0, 0, 0)] [] (pc2 := 6) (ls2 := [none, some (.ref 74), some (.ref 75), some (.int (nI n3)), some (.int (nI i4))]) (st2 := [.int (nI n3), .int (nI i4)]) (M2 := mrow M 75 (k_copies_L8_L8_3 (M.1 74) (M.1 75) n3 i4)) (Ps := []) (by decide +kernel) rfl rfl trivial ?_
    refine G.ic_ge (off := (17)) (tgt := 23) (by decide +kernel) rfl (fun h9 => absurd h9 (nI_ge (by omega) (by omega))) (fun _ => ?_)
    obtain ⟨k1, hk⟩ := hk
    refine G.sl [(.aload_n 2, 1, 2, 0, 0, 0), (.iload 4, 2, 4, 0, 0, 0), (.aload_n 1, 1, 1, 0, 0, 0), (.iload 4, 2, 4, 0, 0, 0), (.iaload, 1, 0, 0, 0, 0), (.iastore, 1, 0, 0, 0, 0), (.iinc 4 1, 3, 4, 0, 0, nI 1), (.goto (-17), 3, 3, 0, 0, 0)] [i4, i4] (pc2 := 3) (ls2 := [none, some (.ref 74), some (.ref 75), some (.int (nI n3)), some (.int ((nI i4) + nI 1))]) (st2 := []) (M2 := mput (mrow M 75 (k_copies_L8_L8_3 (M.1 74) (M.1 75) n3 i4)) 75 i4 (M.1 74 i4)) (Ps := [(nI i4) = nI i4 ∧ i4 < 8, (nI i4) = nI i4 ∧ i4 < 8]) (by decide +kernel) rfl rfl ⟨⟨rfl, k1⟩, ⟨rfl, k1⟩, trivial⟩ ?_
    refine G.mem (M' := mrow M 75 (upd (k_copies_L8_L8_3 (M.1 74) (M.1 75) n3 i4) i4 (M.1 74 i4))) (by first | rfl | (simp only [mput, mrow_same, mrow_hit, mrow_miss, mrow_sw, idr_eq, ne_eq, Nat.reduceEqDiff, not_false_eq_true, Nat.reduceLT, reduceCtorEq]; done)) ?_
    rw [nI_add i4 1]
    simp only [k_copies_L8_L8_3] at ih
    exact ih
noncomputable def k_copies_L8_L8 (Ra1 Ra2 : Nat → Int32) (n3 : Nat) : Int32 × (Nat → Int32) := (0, k_copies_L8_L8_3 (Ra1) (Ra2) n3 n3)
noncomputable def k_copies_L8_L8_ok (Ra1 Ra2 : Nat → Int32) (n3 : Nat) : Prop := ((∀ i4, i4 < n3 → k_copies_L8_L8_3_ok (Ra1) (Ra2) n3 i4) ∧ True)
set_option maxHeartbeats 4000000 in
set_option maxRecDepth 3000 in
theorem c_k_copies_L8_L8_54_74_75 (z : Zp) (d : Nat) (M : Mem) (n3 : Nat) (b3 : n3 < 3000) (hk : k_copies_L8_L8_ok (M.1 74) (M.1 75) n3) : GM z mX12_copies (d) [.ref 54, .ref 74, .ref 75, .int (nI n3)] M (fun rs => rs = .inl (none, mrow M 75 ((k_copies_L8_L8 (M.1 74) (M.1 75) n3).2))) := by
  simp only [k_copies_L8_L8_ok] at hk
  refine GM.of oX12_copies.1 (Nat.le_of_ble_eq_true rfl) ?_
  show G z mX12_copies (d) 0 0 0 [some (.ref 54), some (.ref 74), some (.ref 75), some (.int (nI n3)), none] [] M _
  obtain ⟨Q, hQ⟩ : ∃ Q : Rs → Prop, Q = (fun rs => rs = .inl (none, mrow M 75 ((k_copies_L8_L8 (M.1 74) (M.1 75) n3).2))) := ⟨_, rfl⟩
  rw [← hQ]
  refine G.sl [(.iconst 0, 1, 0, 0, 0, nI 0), (.istore 4, 2, 4, 0, 0, 0)] [] (pc2 := 3) (ls2 := [some (.ref 54), some (.ref 74), some (.ref 75), some (.int (nI n3)), some (.int (nI 0))]) (st2 := []) (M2 := M) (Ps := []) (by decide +kernel) rfl rfl trivial ?_
  refine G.loc (ls2 := [none, some (.ref 74), some (.ref 75), some (.int (nI n3)), some (.int (nI 0))]) (by simp [subL]) ?_
  obtain ⟨k2, hk⟩ := hk
  refine lp_k_copies_L8_L8_54_74_75_3 z d M Q n3 (by omega) (by first | (simp only [mput, mrow_same, mrow_hit, mrow_miss, mrow_sw, idr_eq, ne_eq, Nat.reduceEqDiff, not_false_eq_true, Nat.reduceLT, reduceCtorEq]; exact k2) | exact k2) ?_
  try simp only [mput, mrow_same, mrow_hit, mrow_miss, mrow_sw, idr_eq, ne_eq, Nat.reduceEqDiff, not_false_eq_true, Nat.reduceLT, reduceCtorEq]
  show G z mX12_copies (d) 0 0 23 [none, none, none, none, none] [] (mrow M 75 (k_copies_L8_L8_3 (M.1 74) (M.1 75) n3 n3)) Q
  exact G.retv (by decide +kernel) rfl (Nat.le_of_ble_eq_true rfl) (Nat.le_of_ble_eq_true rfl) ((by rw [hQ]; simp only [k_copies_L8_L8, mrow_self]))
noncomputable def k_book_46b (RnewBook : Nat → Int32) : Nat → (Nat → Int32)
  | 0 => RnewBook
  | i2 + 1 => upd (k_book_46b RnewBook i2) i2 ((-1))
set_option maxHeartbeats 4000000 in
set_option maxRecDepth 3000 in
theorem lp_k_book_54_46b (z : Zp) (d : Nat) (M : Mem) (Q : Rs → Prop) (nn : Nat) (hnn : nn = 8) (hX : G z mX12_book (d + 2) 0 0 65 [some (.ref 54), none, none, none, none, none] [] (mrow M 74 (k_book_46b (M.1 74) nn)) Q) : G z mX12_book (d + 2) 0 0 46 [some (.ref 54), none, some (.int (nI 0)), none, none, none] [] M Q := by
  refine G.mem (M' := mrow M 74 (M.1 74)) (by simp only [mrow_self]) ?_
  refine down (n := nn) (P := fun i2 => G z mX12_book (d + 2) 0 0 46 [some (.ref 54), none, some (.int (nI i2)), none, none, none] [] (mrow M 74 (k_book_46b (M.1 74) i2)) Q) ?_ ?_ 0 (Nat.zero_le _)
  · skip
    refine G.sl [(.iload_n 2, 1, 2, 0, 0, 0), (.bipush 8, 2, 0, 0, 0, nI 8)] [] (pc2 := 49) (ls2 := [some (.ref 54), none, some (.int (nI nn)), none, none, none]) (st2 := [.int (nI 8), .int (nI nn)]) (M2 := mrow M 74 (k_book_46b (M.1 74) nn)) (Ps := []) (by decide +kernel) rfl rfl trivial ?_
    refine G.ic_ge (off := (16)) (tgt := 65) (by decide +kernel) rfl (fun _ => ?_) (fun h9 => absurd (nI_le (by omega) (by omega)) h9)
    refine G.loc (ls2 := [some (.ref 54), none, none, none, none, none]) (by simp [subL]) ?_
    exact hX
  · skip
    intro i2 hi ih
    show G z mX12_book (d + 2) 0 0 46 [some (.ref 54), none, some (.int (nI i2)), none, none, none] [] (mrow M 74 (k_book_46b (M.1 74) i2)) Q
    refine G.sl [(.iload_n 2, 1, 2, 0, 0, 0), (.bipush 8, 2, 0, 0, 0, nI 8)] [] (pc2 := 49) (ls2 := [some (.ref 54), none, some (.int (nI i2)), none, none, none]) (st2 := [.int (nI 8), .int (nI i2)]) (M2 := mrow M 74 (k_book_46b (M.1 74) i2)) (Ps := []) (by decide +kernel) rfl rfl trivial ?_
    refine G.ic_ge (off := (16)) (tgt := 65) (by decide +kernel) rfl (fun h9 => absurd h9 (nI_ge (by omega) (by omega))) (fun _ => ?_)
    refine G.sl [(.aload_n 0, 1, 0, 0, 0, 0), (.getfield 74, 3, 11, 43, 166, 0), (.iload_n 2, 1, 2, 0, 0, 0), (.iconst (-1), 1, 0, 0, 0, (-1)), (.iastore, 1, 0, 0, 0, 0), (.iinc 2 1, 3, 2, 0, 0, nI 1), (.goto (-16), 3, 46, 0, 0, 0)] [i2] (pc2 := 46) (ls2 := [some (.ref 54), none, some (.int ((nI i2) + nI 1)), none, none, none]) (st2 := []) (M2 := mput (mrow M 74 (k_book_46b (M.1 74) i2)) 74 i2 ((-1))) (Ps := [(nI i2) = nI i2 ∧ i2 < 8]) (by decide +kernel) rfl rfl ⟨⟨rfl, (by omega)⟩, trivial⟩ ?_
    refine G.mem (M' := mrow M 74 (upd (k_book_46b (M.1 74) i2) i2 ((-1)))) (by first | rfl | (simp only [mput, mrow_same, mrow_hit, mrow_miss, mrow_sw, idr_eq, ne_eq, Nat.reduceEqDiff, not_false_eq_true, Nat.reduceLT, reduceCtorEq]; done)) ?_
    rw [nI_add i2 1]
    simp only [k_book_46b] at ih
    exact ih
noncomputable def k_book_67b (Rtape : Nat → Int32) : Nat → Int32 → (Nat → Int32) → (Nat → Int32) → Int32 × (Nat → Int32) × (Nat → Int32)
  | 0, s2, q54, q74 => (s2, q54, q74)
  | k0 + 1, s2, q54, q74 => (if (k_fine q54) = 0 then (s2, q54, q74) else (match k_isMore q54 (Rtape) with | (v143, r144) => (if v143 = 0 then (s2, r144, q74) else (match k_here r144 (Rtape) with | (v150, r151) => (match k_readNumber r151 (Rtape) (nI 0) ((r151 20) - (nI 1)) with | (v156, r157) => (if (k_fine r157) = 0 then (match k_readNumber r157 (Rtape) (nI 0) (nI 600) with | (v166, r167) => (match k_sign r167 (Rtape) (nI 59) with | (u172, r173) => (if (k_fine r173) = 0 then (s2, r173, q74) else k_book_67b Rtape k0 (s2 + nI 1) r173 (upd q74 (ix v156) v166)))) else (if (q74 (ix v156)) = ((-1)) then (match k_readNumber r157 (Rtape) (nI 0) (nI 600) with | (v187, r188) => (match k_sign r188 (Rtape) (nI 59) with | (u193, r194) => (if (k_fine r194) = 0 then (s2, r194, q74) else k_book_67b Rtape k0 (s2 + nI 1) r194 (upd q74 (ix v156) v187)))) else (match k_wrong r157 (nI 2) (r151 4) with | (u203, r204) => (match k_readNumber r204 (Rtape) (nI 0) (nI 600) with | (v209, r210) => (match k_sign r210 (Rtape) (nI 59) with | (u215, r216) => (if (k_fine r216) = 0 then (s2, r216, q74) else k_book_67b Rtape k0 (s2 + nI 1) r216 (upd q74 (ix v156) v209))))))))))))
noncomputable def k_book_67b_ok (Rtape : Nat → Int32) : Nat → Int32 → (Nat → Int32) → (Nat → Int32) → Prop
  | 0, _, _, _ => False
  | k0 + 1, s2, q54, q74 => (True ∧ (if (k_fine q54) = 0 then True else (k_isMore_ok q54 (Rtape) ∧ (match k_isMore q54 (Rtape) with | (v143, r144) => (if v143 = 0 then True else (k_here_ok r144 (Rtape) ∧ (match k_here r144 (Rtape) with | (v150, r151) => (k_readNumber_ok r151 (Rtape) (nI 0) ((r151 20) - (nI 1)) ∧ (match k_readNumber r151 (Rtape) (nI 0) ((r151 20) - (nI 1)) with | (v156, r157) => (True ∧ (if (k_fine r157) = 0 then (k_readNumber_ok r157 (Rtape) (nI 0) (nI 600) ∧ (match k_readNumber r157 (Rtape) (nI 0) (nI 600) with | (v166, r167) => (k_sign_ok r167 (Rtape) (nI 59) ∧ (match k_sign r167 (Rtape) (nI 59) with | (u172, r173) => (True ∧ (if (k_fine r173) = 0 then True else ((isN v156) ∧ (ix v156 < 8) ∧ k_book_67b_ok Rtape k0 (s2 + nI 1) r173 (upd q74 (ix v156) v166)))))))) else ((isN v156) ∧ (ix v156 < 8) ∧ (if (q74 (ix v156)) = ((-1)) then (k_readNumber_ok r157 (Rtape) (nI 0) (nI 600) ∧ (match k_readNumber r157 (Rtape) (nI 0) (nI 600) with | (v187, r188) => (k_sign_ok r188 (Rtape) (nI 59) ∧ (match k_sign r188 (Rtape) (nI 59) with | (u193, r194) => (True ∧ (if (k_fine r194) = 0 then True else k_book_67b_ok Rtape k0 (s2 + nI 1) r194 (upd q74 (ix v156) v187))))))) else (True ∧ (match k_wrong r157 (nI 2) (r151 4) with | (u203, r204) => (k_readNumber_ok r204 (Rtape) (nI 0) (nI 600) ∧ (match k_readNumber r204 (Rtape) (nI 0) (nI 600) with | (v209, r210) => (k_sign_ok r210 (Rtape) (nI 59) ∧ (match k_sign r210 (Rtape) (nI 59) with | (u215, r216) => (True ∧ (if (k_fine r216) = 0 then True else k_book_67b_ok Rtape k0 (s2 + nI 1) r216 (upd q74 (ix v156) v209))))))))))))))))))))))
set_option maxHeartbeats 4000000 in
set_option maxRecDepth 3000 in
theorem lp_k_book_54_67b (z : Zp) (d : Nat) (M : Mem) (Q : Rs → Prop) : ∀ (k0 : Nat) (s2 : Int32) (q54 : (Nat → Int32)) (q74 : (Nat → Int32)), k_book_67b_ok (M.1 56) k0 s2 q54 q74 → (match k_book_67b (M.1 56) k0 s2 q54 q74 with | (s2', q54', q74') => G z mX12_book (d + 2) 0 0 169 [some (.ref 54), none, some (.int (s2')), none, none, none] [] (mrow (mrow M 54 (q54')) 74 (q74')) Q) → G z mX12_book (d + 2) 0 0 67 [some (.ref 54), none, some (.int s2), none, none, none] [] (mrow (mrow M 54 q54) 74 q74) Q := by
  intro k0
  induction k0 with
  | zero =>
      intro s2 q54 q74 hk hX
      exact (by simpa only [k_book_67b_ok] using hk : False).elim
  | succ k0 ih =>
      intro s2 q54 q74 hk hX
      simp only [k_book_67b_ok] at hk
      refine G.sl [(.aload_n 0, 1, 0, 0, 0, 0)] [] (pc2 := 68) (ls2 := [some (.ref 54), none, some (.int s2), none, none, none]) (st2 := [.ref 54]) (M2 := mrow (mrow M 54 q54) 74 q74) (Ps := []) (by decide +kernel) rfl rfl trivial ?_
      obtain ⟨k137, hk⟩ := hk
      have t138 : GM z mX12_fine (d + 1) [.ref 54] (mrow (mrow M 54 q54) 74 q74) (fun rs => rs = .inl (some (.int (k_fine q54)), mrow (mrow M 54 q54) 74 q74)) := by
        have q9 := c_k_fine_54 z (d + 1) (mrow (mrow M 54 q54) 74 q74) 
        try simp only [mput, mrow_same, mrow_hit, mrow_miss, mrow_sw, idr_eq, ne_eq, Nat.reduceEqDiff, not_false_eq_true, Nat.reduceLT, reduceCtorEq] at q9
        exact q9
      refine G.callV (as := []) (rest := []) (a := 54) oX12_fine lk_EvenFindersModel_130 (by decide +kernel) rfl rfl ⟨rfl, rfl⟩ (Nat.le_of_ble_eq_true rfl) rfl ⟨Nat.le_of_ble_eq_true rfl, Nat.le_of_ble_eq_true rfl⟩ t138 (fun v9 N9 h139 => ?_) (fun E9 N9 h139 => by cases h139)
      cases h139
      show G z mX12_book (d + 2) 0 0 71 [some (.ref 54), none, some (.int s2), none, none, none] [.int (k_fine q54)] (mrow (mrow M 54 q54) 74 q74) Q
      refine G.if_eq (off := (98)) (tgt := 169) (by decide +kernel) rfl (fun c140 => ?_) (fun c140 => ?_)
      · skip
        rw [if_pos c140] at hk
        simp only [k_book_67b, if_pos c140] at hX
        exact hX
      · skip
        rw [if_neg c140] at hk
        refine G.sl [(.aload_n 0, 1, 0, 0, 0, 0)] [] (pc2 := 75) (ls2 := [some (.ref 54), none, some (.int s2), none, none, none]) (st2 := [.ref 54]) (M2 := mrow (mrow M 54 q54) 74 q74) (Ps := []) (by decide +kernel) rfl rfl trivial ?_
        obtain ⟨k141, hk⟩ := hk
        rcases g142 : k_isMore q54 (M.1 56) with ⟨v143, r144⟩
        try simp only [g142] at hk
        have ev143 : v143 = 0 ∨ v143 = 1 := by
          have q9 := k_isMore_01 q54 (M.1 56)
          rw [g142] at q9
          exact q9
        have t145 : GM z mX12_isMore (d + 1) [.ref 54] (mrow (mrow M 54 q54) 74 q74) (fun rs => rs = .inl (some (.int v143), mrow (mrow M 54 r144) 74 q74)) := by
          have q9 := c_k_isMore_54 z d (mrow (mrow M 54 q54) 74 q74) k141
          try simp only [mput, mrow_same, mrow_hit, mrow_miss, mrow_sw, idr_eq, ne_eq, Nat.reduceEqDiff, not_false_eq_true, Nat.reduceLT, reduceCtorEq, g142] at q9
          exact q9
        refine G.callV (as := []) (rest := []) (a := 54) oX12_isMore lk_EvenFindersModel_221 (by decide +kernel) rfl rfl ⟨rfl, rfl⟩ (Nat.le_of_ble_eq_true rfl) rfl ⟨Nat.le_of_ble_eq_true rfl, Nat.le_of_ble_eq_true rfl⟩ t145 (fun v9 N9 h146 => ?_) (fun E9 N9 h146 => by cases h146)
        cases h146
        show G z mX12_book (d + 2) 0 0 78 [some (.ref 54), none, some (.int s2), none, none, none] [.int v143] (mrow (mrow M 54 r144) 74 q74) Q
        refine G.if_eq (off := (91)) (tgt := 169) (by decide +kernel) rfl (fun c147 => ?_) (fun c147 => ?_)
        · skip
          rw [if_pos c147] at hk
          simp only [k_book_67b, if_neg c140, g142, if_pos c147] at hX
          exact hX
        · skip
          rw [if_neg c147] at hk
          refine G.sl [(.aload_n 0, 1, 0, 0, 0, 0)] [] (pc2 := 82) (ls2 := [some (.ref 54), none, some (.int s2), none, none, none]) (st2 := [.ref 54]) (M2 := mrow (mrow M 54 r144) 74 q74) (Ps := []) (by decide +kernel) rfl rfl trivial ?_
          obtain ⟨k148, hk⟩ := hk
          rcases g149 : k_here r144 (M.1 56) with ⟨v150, r151⟩
          try simp only [g149] at hk
          have t152 : GM z mX12_here (d + 1) [.ref 54] (mrow (mrow M 54 r144) 74 q74) (fun rs => rs = .inl (some (.int v150), mrow (mrow M 54 r151) 74 q74)) := by
            have q9 := c_k_here_54 z (d + 1) (mrow (mrow M 54 r144) 74 q74) k148
            try simp only [mput, mrow_same, mrow_hit, mrow_miss, mrow_sw, idr_eq, ne_eq, Nat.reduceEqDiff, not_false_eq_true, Nat.reduceLT, reduceCtorEq, g149] at q9
            exact q9
          refine G.callV (as := []) (rest := []) (a := 54) oX12_here lk_EvenFindersModel_113 (by decide +kernel) rfl rfl ⟨rfl, rfl⟩ (Nat.le_of_ble_eq_true rfl) rfl ⟨Nat.le_of_ble_eq_true rfl, Nat.le_of_ble_eq_true rfl⟩ t152 (fun v9 N9 h153 => ?_) (fun E9 N9 h153 => by cases h153)
          cases h153
          show G z mX12_book (d + 2) 0 0 85 [some (.ref 54), none, some (.int s2), none, none, none] [.int v150] (mrow (mrow M 54 r151) 74 q74) Q
          refine G.sl [(.pop, 1, 0, 0, 0, 0), (.aload_n 0, 1, 0, 0, 0, 0), (.getfield 107, 3, 11, 4, 127, 0), (.istore_n 3, 1, 3, 0, 0, 0), (.aload_n 0, 1, 0, 0, 0, 0), (.iconst 0, 1, 0, 0, 0, nI 0), (.aload_n 0, 1, 0, 0, 0, 0), (.getfield 156, 3, 11, 20, 143, 0), (.iconst 1, 1, 0, 0, 0, nI 1), (.isub, 1, 0, 0, 0, 0)] [] (pc2 := 99) (ls2 := [some (.ref 54), none, some (.int s2), some (.int (r151 4)), none, none]) (st2 := [.int ((r151 20) - (nI 1)), .int (nI 0), .ref 54]) (M2 := mrow (mrow M 54 r151) 74 q74) (Ps := []) (by decide +kernel) rfl rfl trivial ?_
          obtain ⟨k154, hk⟩ := hk
          rcases g155 : k_readNumber r151 (M.1 56) (nI 0) ((r151 20) - (nI 1)) with ⟨v156, r157⟩
          try simp only [g155] at hk
          have t158 : GM z mX12_readNumber (d + 1) [.ref 54, .int (nI 0), .int ((r151 20) - (nI 1))] (mrow (mrow M 54 r151) 74 q74) (fun rs => rs = .inl (some (.int v156), mrow (mrow M 54 r157) 74 q74)) := by
            have q9 := c_k_readNumber_54 z d (mrow (mrow M 54 r151) 74 q74) (nI 0) ((r151 20) - (nI 1)) k154
            try simp only [mput, mrow_same, mrow_hit, mrow_miss, mrow_sw, idr_eq, ne_eq, Nat.reduceEqDiff, not_false_eq_true, Nat.reduceLT, reduceCtorEq, g155] at q9
            exact q9
          refine G.callV (as := [.int (nI 0), .int ((r151 20) - (nI 1))]) (rest := []) (a := 54) oX12_readNumber lk_EvenFindersModel_190 (by decide +kernel) rfl rfl ⟨rfl, rfl⟩ (Nat.le_of_ble_eq_true rfl) rfl ⟨Nat.le_of_ble_eq_true rfl, Nat.le_of_ble_eq_true rfl⟩ t158 (fun v9 N9 h159 => ?_) (fun E9 N9 h159 => by cases h159)
          cases h159
          show G z mX12_book (d + 2) 0 0 102 [some (.ref 54), none, some (.int s2), some (.int (r151 4)), none, none] [.int v156] (mrow (mrow M 54 r157) 74 q74) Q
          refine G.sl [(.istore 4, 2, 4, 0, 0, 0), (.aload_n 0, 1, 0, 0, 0, 0)] [] (pc2 := 105) (ls2 := [some (.ref 54), none, some (.int s2), some (.int (r151 4)), some (.int v156), none]) (st2 := [.ref 54]) (M2 := mrow (mrow M 54 r157) 74 q74) (Ps := []) (by decide +kernel) rfl rfl trivial ?_
          obtain ⟨k160, hk⟩ := hk
          have t161 : GM z mX12_fine (d + 1) [.ref 54] (mrow (mrow M 54 r157) 74 q74) (fun rs => rs = .inl (some (.int (k_fine r157)), mrow (mrow M 54 r157) 74 q74)) := by
            have q9 := c_k_fine_54 z (d + 1) (mrow (mrow M 54 r157) 74 q74) 
            try simp only [mput, mrow_same, mrow_hit, mrow_miss, mrow_sw, idr_eq, ne_eq, Nat.reduceEqDiff, not_false_eq_true, Nat.reduceLT, reduceCtorEq] at q9
            exact q9
          refine G.callV (as := []) (rest := []) (a := 54) oX12_fine lk_EvenFindersModel_130 (by decide +kernel) rfl rfl ⟨rfl, rfl⟩ (Nat.le_of_ble_eq_true rfl) rfl ⟨Nat.le_of_ble_eq_true rfl, Nat.le_of_ble_eq_true rfl⟩ t161 (fun v9 N9 h162 => ?_) (fun E9 N9 h162 => by cases h162)
          cases h162
          show G z mX12_book (d + 2) 0 0 108 [some (.ref 54), none, some (.int s2), some (.int (r151 4)), some (.int v156), none] [.int (k_fine r157)] (mrow (mrow M 54 r157) 74 q74) Q
          refine G.if_eq (off := (20)) (tgt := 128) (by decide +kernel) rfl (fun c163 => ?_) (fun c163 => ?_)
          · skip
            rw [if_pos c163] at hk
            refine G.sl [(.aload_n 0, 1, 0, 0, 0, 0), (.iconst 0, 1, 0, 0, 0, nI 0), (.sipush 600, 3, 0, 0, 0, nI 600)] [] (pc2 := 133) (ls2 := [some (.ref 54), none, some (.int s2), some (.int (r151 4)), some (.int v156), none]) (st2 := [.int (nI 600), .int (nI 0), .ref 54]) (M2 := mrow (mrow M 54 r157) 74 q74) (Ps := []) (by decide +kernel) rfl rfl trivial ?_
            obtain ⟨k164, hk⟩ := hk
            rcases g165 : k_readNumber r157 (M.1 56) (nI 0) (nI 600) with ⟨v166, r167⟩
            try simp only [g165] at hk
            have t168 : GM z mX12_readNumber (d + 1) [.ref 54, .int (nI 0), .int (nI 600)] (mrow (mrow M 54 r157) 74 q74) (fun rs => rs = .inl (some (.int v166), mrow (mrow M 54 r167) 74 q74)) := by
              have q9 := c_k_readNumber_54 z d (mrow (mrow M 54 r157) 74 q74) (nI 0) (nI 600) k164
              try simp only [mput, mrow_same, mrow_hit, mrow_miss, mrow_sw, idr_eq, ne_eq, Nat.reduceEqDiff, not_false_eq_true, Nat.reduceLT, reduceCtorEq, g165] at q9
              exact q9
            refine G.callV (as := [.int (nI 0), .int (nI 600)]) (rest := []) (a := 54) oX12_readNumber lk_EvenFindersModel_190 (by decide +kernel) rfl rfl ⟨rfl, rfl⟩ (Nat.le_of_ble_eq_true rfl) rfl ⟨Nat.le_of_ble_eq_true rfl, Nat.le_of_ble_eq_true rfl⟩ t168 (fun v9 N9 h169 => ?_) (fun E9 N9 h169 => by cases h169)
            cases h169
            show G z mX12_book (d + 2) 0 0 136 [some (.ref 54), none, some (.int s2), some (.int (r151 4)), some (.int v156), none] [.int v166] (mrow (mrow M 54 r167) 74 q74) Q
            refine G.sl [(.istore 5, 2, 5, 0, 0, 0), (.aload_n 0, 1, 0, 0, 0, 0), (.bipush 59, 2, 0, 0, 0, nI 59)] [] (pc2 := 141) (ls2 := [some (.ref 54), none, some (.int s2), some (.int (r151 4)), some (.int v156), some (.int v166)]) (st2 := [.int (nI 59), .ref 54]) (M2 := mrow (mrow M 54 r167) 74 q74) (Ps := []) (by decide +kernel) rfl rfl trivial ?_
            obtain ⟨k170, hk⟩ := hk
            rcases g171 : k_sign r167 (M.1 56) (nI 59) with ⟨u172, r173⟩
            try simp only [g171] at hk
            have t174 : GM z mX12_sign (d + 1) [.ref 54, .int (nI 59)] (mrow (mrow M 54 r167) 74 q74) (fun rs => rs = .inl (none, mrow (mrow M 54 r173) 74 q74)) := by
              have q9 := c_k_sign_54 z d (mrow (mrow M 54 r167) 74 q74) (nI 59) k170
              try simp only [mput, mrow_same, mrow_hit, mrow_miss, mrow_sw, idr_eq, ne_eq, Nat.reduceEqDiff, not_false_eq_true, Nat.reduceLT, reduceCtorEq, g171] at q9
              exact q9
            refine G.callV (as := [.int (nI 59)]) (rest := []) (a := 54) oX12_sign lk_EvenFindersModel_239 (by decide +kernel) rfl rfl ⟨rfl, rfl⟩ (Nat.le_of_ble_eq_true rfl) rfl ⟨Nat.le_of_ble_eq_true rfl, Nat.le_of_ble_eq_true rfl⟩ t174 (fun v9 N9 h175 => ?_) (fun E9 N9 h175 => by cases h175)
            cases h175
            show G z mX12_book (d + 2) 0 0 144 [some (.ref 54), none, some (.int s2), some (.int (r151 4)), some (.int v156), some (.int v166)] [] (mrow (mrow M 54 r173) 74 q74) Q
            refine G.sl [(.aload_n 0, 1, 0, 0, 0, 0)] [] (pc2 := 145) (ls2 := [some (.ref 54), none, some (.int s2), some (.int (r151 4)), some (.int v156), some (.int v166)]) (st2 := [.ref 54]) (M2 := mrow (mrow M 54 r173) 74 q74) (Ps := []) (by decide +kernel) rfl rfl trivial ?_
            obtain ⟨k176, hk⟩ := hk
            have t177 : GM z mX12_fine (d + 1) [.ref 54] (mrow (mrow M 54 r173) 74 q74) (fun rs => rs = .inl (some (.int (k_fine r173)), mrow (mrow M 54 r173) 74 q74)) := by
              have q9 := c_k_fine_54 z (d + 1) (mrow (mrow M 54 r173) 74 q74) 
              try simp only [mput, mrow_same, mrow_hit, mrow_miss, mrow_sw, idr_eq, ne_eq, Nat.reduceEqDiff, not_false_eq_true, Nat.reduceLT, reduceCtorEq] at q9
              exact q9
            refine G.callV (as := []) (rest := []) (a := 54) oX12_fine lk_EvenFindersModel_130 (by decide +kernel) rfl rfl ⟨rfl, rfl⟩ (Nat.le_of_ble_eq_true rfl) rfl ⟨Nat.le_of_ble_eq_true rfl, Nat.le_of_ble_eq_true rfl⟩ t177 (fun v9 N9 h178 => ?_) (fun E9 N9 h178 => by cases h178)
            cases h178
            show G z mX12_book (d + 2) 0 0 148 [some (.ref 54), none, some (.int s2), some (.int (r151 4)), some (.int v156), some (.int v166)] [.int (k_fine r173)] (mrow (mrow M 54 r173) 74 q74) Q
            refine G.if_ne (off := (6)) (tgt := 154) (by decide +kernel) rfl (fun c179 => ?_) (fun c179 => ?_)
            · skip
              rw [if_neg c179] at hk
              obtain ⟨k180, k181, hk⟩ := hk
              refine G.sl [(.aload_n 0, 1, 0, 0, 0, 0), (.getfield 74, 3, 11, 43, 166, 0), (.iload 4, 2, 4, 0, 0, 0), (.iload 5, 2, 5, 0, 0, 0), (.iastore, 1, 0, 0, 0, 0), (.iinc 2 1, 3, 2, 0, 0, nI 1), (.goto (-99), 3, 67, 0, 0, 0)] [ix v156] (pc2 := 67) (ls2 := [some (.ref 54), none, some (.int (s2 + nI 1)), some (.int (r151 4)), some (.int v156), some (.int v166)]) (st2 := []) (M2 := mput (mrow (mrow M 54 r173) 74 q74) 74 (ix v156) v166) (Ps := [v156 = nI (ix v156) ∧ (ix v156) < 8]) (by decide +kernel) rfl rfl ⟨⟨(ixE k180), k181⟩, trivial⟩ ?_
              refine G.mem (M' := mrow (mrow M 54 r173) 74 (upd q74 (ix v156) v166)) (by first | rfl | (simp only [mput, mrow_same, mrow_hit, mrow_miss, mrow_sw, idr_eq, ne_eq, Nat.reduceEqDiff, not_false_eq_true, Nat.reduceLT, reduceCtorEq]; done)) ?_
              refine G.loc (ls2 := [some (.ref 54), none, some (.int (s2 + nI 1)), none, none, none]) (by simp [subL]) ?_
              simp only [k_book_67b, if_neg c140, g142, if_neg c147, g149, g155, if_pos c163, g165, g171, if_neg c179] at hX
              exact ih (s2 + nI 1) r173 (upd q74 (ix v156) v166) hk hX
            · skip
              rw [if_pos c179] at hk
              refine G.sl [(.goto 18, 3, 169, 0, 0, 0)] [] (pc2 := 169) (ls2 := [some (.ref 54), none, some (.int s2), some (.int (r151 4)), some (.int v156), some (.int v166)]) (st2 := []) (M2 := mrow (mrow M 54 r173) 74 q74) (Ps := []) (by decide +kernel) rfl rfl trivial ?_
              refine G.loc (ls2 := [some (.ref 54), none, some (.int s2), none, none, none]) (by simp [subL]) ?_
              simp only [k_book_67b, if_neg c140, g142, if_neg c147, g149, g155, if_pos c163, g165, g171, if_pos c179] at hX
              exact hX
          · skip
            rw [if_neg c163] at hk
            obtain ⟨k182, k183, hk⟩ := hk
            refine G.sl [(.aload_n 0, 1, 0, 0, 0, 0), (.getfield 74, 3, 11, 43, 166, 0), (.iload 4, 2, 4, 0, 0, 0), (.iaload, 1, 0, 0, 0, 0), (.iconst (-1), 1, 0, 0, 0, (-1))] [ix v156] (pc2 := 119) (ls2 := [some (.ref 54), none, some (.int s2), some (.int (r151 4)), some (.int v156), none]) (st2 := [.int ((-1)), .int (q74 (ix v156))]) (M2 := mrow (mrow M 54 r157) 74 q74) (Ps := [v156 = nI (ix v156) ∧ (ix v156) < 8]) (by decide +kernel) rfl rfl ⟨⟨(ixE k182), k183⟩, trivial⟩ ?_
            refine G.ic_eq (off := (9)) (tgt := 128) (by decide +kernel) rfl (fun c184 => ?_) (fun c184 => ?_)
            · skip
              rw [if_pos c184] at hk
              refine G.sl [(.aload_n 0, 1, 0, 0, 0, 0), (.iconst 0, 1, 0, 0, 0, nI 0), (.sipush 600, 3, 0, 0, 0, nI 600)] [] (pc2 := 133) (ls2 := [some (.ref 54), none, some (.int s2), some (.int (r151 4)), some (.int v156), none]) (st2 := [.int (nI 600), .int (nI 0), .ref 54]) (M2 := mrow (mrow M 54 r157) 74 q74) (Ps := []) (by decide +kernel) rfl rfl trivial ?_
              obtain ⟨k185, hk⟩ := hk
              rcases g186 : k_readNumber r157 (M.1 56) (nI 0) (nI 600) with ⟨v187, r188⟩
              try simp only [g186] at hk
              have t189 : GM z mX12_readNumber (d + 1) [.ref 54, .int (nI 0), .int (nI 600)] (mrow (mrow M 54 r157) 74 q74) (fun rs => rs = .inl (some (.int v187), mrow (mrow M 54 r188) 74 q74)) := by
                have q9 := c_k_readNumber_54 z d (mrow (mrow M 54 r157) 74 q74) (nI 0) (nI 600) k185
                try simp only [mput, mrow_same, mrow_hit, mrow_miss, mrow_sw, idr_eq, ne_eq, Nat.reduceEqDiff, not_false_eq_true, Nat.reduceLT, reduceCtorEq, g186] at q9
                exact q9
              refine G.callV (as := [.int (nI 0), .int (nI 600)]) (rest := []) (a := 54) oX12_readNumber lk_EvenFindersModel_190 (by decide +kernel) rfl rfl ⟨rfl, rfl⟩ (Nat.le_of_ble_eq_true rfl) rfl ⟨Nat.le_of_ble_eq_true rfl, Nat.le_of_ble_eq_true rfl⟩ t189 (fun v9 N9 h190 => ?_) (fun E9 N9 h190 => by cases h190)
              cases h190
              show G z mX12_book (d + 2) 0 0 136 [some (.ref 54), none, some (.int s2), some (.int (r151 4)), some (.int v156), none] [.int v187] (mrow (mrow M 54 r188) 74 q74) Q
              refine G.sl [(.istore 5, 2, 5, 0, 0, 0), (.aload_n 0, 1, 0, 0, 0, 0), (.bipush 59, 2, 0, 0, 0, nI 59)] [] (pc2 := 141) (ls2 := [some (.ref 54), none, some (.int s2), some (.int (r151 4)), some (.int v156), some (.int v187)]) (st2 := [.int (nI 59), .ref 54]) (M2 := mrow (mrow M 54 r188) 74 q74) (Ps := []) (by decide +kernel) rfl rfl trivial ?_
              obtain ⟨k191, hk⟩ := hk
              rcases g192 : k_sign r188 (M.1 56) (nI 59) with ⟨u193, r194⟩
              try simp only [g192] at hk
              have t195 : GM z mX12_sign (d + 1) [.ref 54, .int (nI 59)] (mrow (mrow M 54 r188) 74 q74) (fun rs => rs = .inl (none, mrow (mrow M 54 r194) 74 q74)) := by
                have q9 := c_k_sign_54 z d (mrow (mrow M 54 r188) 74 q74) (nI 59) k191
                try simp only [mput, mrow_same, mrow_hit, mrow_miss, mrow_sw, idr_eq, ne_eq, Nat.reduceEqDiff, not_false_eq_true, Nat.reduceLT, reduceCtorEq, g192] at q9
                exact q9
              refine G.callV (as := [.int (nI 59)]) (rest := []) (a := 54) oX12_sign lk_EvenFindersModel_239 (by decide +kernel) rfl rfl ⟨rfl, rfl⟩ (Nat.le_of_ble_eq_true rfl) rfl ⟨Nat.le_of_ble_eq_true rfl, Nat.le_of_ble_eq_true rfl⟩ t195 (fun v9 N9 h196 => ?_) (fun E9 N9 h196 => by cases h196)
              cases h196
              show G z mX12_book (d + 2) 0 0 144 [some (.ref 54), none, some (.int s2), some (.int (r151 4)), some (.int v156), some (.int v187)] [] (mrow (mrow M 54 r194) 74 q74) Q
              refine G.sl [(.aload_n 0, 1, 0, 0, 0, 0)] [] (pc2 := 145) (ls2 := [some (.ref 54), none, some (.int s2), some (.int (r151 4)), some (.int v156), some (.int v187)]) (st2 := [.ref 54]) (M2 := mrow (mrow M 54 r194) 74 q74) (Ps := []) (by decide +kernel) rfl rfl trivial ?_
              obtain ⟨k197, hk⟩ := hk
              have t198 : GM z mX12_fine (d + 1) [.ref 54] (mrow (mrow M 54 r194) 74 q74) (fun rs => rs = .inl (some (.int (k_fine r194)), mrow (mrow M 54 r194) 74 q74)) := by
                have q9 := c_k_fine_54 z (d + 1) (mrow (mrow M 54 r194) 74 q74) 
                try simp only [mput, mrow_same, mrow_hit, mrow_miss, mrow_sw, idr_eq, ne_eq, Nat.reduceEqDiff, not_false_eq_true, Nat.reduceLT, reduceCtorEq] at q9
                exact q9
              refine G.callV (as := []) (rest := []) (a := 54) oX12_fine lk_EvenFindersModel_130 (by decide +kernel) rfl rfl ⟨rfl, rfl⟩ (Nat.le_of_ble_eq_true rfl) rfl ⟨Nat.le_of_ble_eq_true rfl, Nat.le_of_ble_eq_true rfl⟩ t198 (fun v9 N9 h199 => ?_) (fun E9 N9 h199 => by cases h199)
              cases h199
              show G z mX12_book (d + 2) 0 0 148 [some (.ref 54), none, some (.int s2), some (.int (r151 4)), some (.int v156), some (.int v187)] [.int (k_fine r194)] (mrow (mrow M 54 r194) 74 q74) Q
              refine G.if_ne (off := (6)) (tgt := 154) (by decide +kernel) rfl (fun c200 => ?_) (fun c200 => ?_)
              · skip
                rw [if_neg c200] at hk
                refine G.sl [(.aload_n 0, 1, 0, 0, 0, 0), (.getfield 74, 3, 11, 43, 166, 0), (.iload 4, 2, 4, 0, 0, 0), (.iload 5, 2, 5, 0, 0, 0), (.iastore, 1, 0, 0, 0, 0), (.iinc 2 1, 3, 2, 0, 0, nI 1), (.goto (-99), 3, 67, 0, 0, 0)] [ix v156] (pc2 := 67) (ls2 := [some (.ref 54), none, some (.int (s2 + nI 1)), some (.int (r151 4)), some (.int v156), some (.int v187)]) (st2 := []) (M2 := mput (mrow (mrow M 54 r194) 74 q74) 74 (ix v156) v187) (Ps := [v156 = nI (ix v156) ∧ (ix v156) < 8]) (by decide +kernel) rfl rfl ⟨⟨(ixE k182), k183⟩, trivial⟩ ?_
                refine G.mem (M' := mrow (mrow M 54 r194) 74 (upd q74 (ix v156) v187)) (by first | rfl | (simp only [mput, mrow_same, mrow_hit, mrow_miss, mrow_sw, idr_eq, ne_eq, Nat.reduceEqDiff, not_false_eq_true, Nat.reduceLT, reduceCtorEq]; done)) ?_
                refine G.loc (ls2 := [some (.ref 54), none, some (.int (s2 + nI 1)), none, none, none]) (by simp [subL]) ?_
                simp only [k_book_67b, if_neg c140, g142, if_neg c147, g149, g155, if_neg c163, if_pos c184, g186, g192, if_neg c200] at hX
                exact ih (s2 + nI 1) r194 (upd q74 (ix v156) v187) hk hX
              · skip
                rw [if_pos c200] at hk
                refine G.sl [(.goto 18, 3, 169, 0, 0, 0)] [] (pc2 := 169) (ls2 := [some (.ref 54), none, some (.int s2), some (.int (r151 4)), some (.int v156), some (.int v187)]) (st2 := []) (M2 := mrow (mrow M 54 r194) 74 q74) (Ps := []) (by decide +kernel) rfl rfl trivial ?_
                refine G.loc (ls2 := [some (.ref 54), none, some (.int s2), none, none, none]) (by simp [subL]) ?_
                simp only [k_book_67b, if_neg c140, g142, if_neg c147, g149, g155, if_neg c163, if_pos c184, g186, g192, if_pos c200] at hX
                exact hX
            · skip
              rw [if_neg c184] at hk
              refine G.sl [(.aload_n 0, 1, 0, 0, 0, 0), (.iconst 2, 1, 0, 0, 0, nI 2), (.iload_n 3, 1, 3, 0, 0, 0)] [] (pc2 := 125) (ls2 := [some (.ref 54), none, some (.int s2), some (.int (r151 4)), some (.int v156), none]) (st2 := [.int (r151 4), .int (nI 2), .ref 54]) (M2 := mrow (mrow M 54 r157) 74 q74) (Ps := []) (by decide +kernel) rfl rfl trivial ?_
              obtain ⟨k201, hk⟩ := hk
              rcases g202 : k_wrong r157 (nI 2) (r151 4) with ⟨u203, r204⟩
              try simp only [g202] at hk
              have t205 : GM z mX12_wrong (d + 1) [.ref 54, .int (nI 2), .int (r151 4)] (mrow (mrow M 54 r157) 74 q74) (fun rs => rs = .inl (none, mrow (mrow M 54 r204) 74 q74)) := by
                have q9 := c_k_wrong_54 z (d + 1) (mrow (mrow M 54 r157) 74 q74) (nI 2) (r151 4)
                try simp only [mput, mrow_same, mrow_hit, mrow_miss, mrow_sw, idr_eq, ne_eq, Nat.reduceEqDiff, not_false_eq_true, Nat.reduceLT, reduceCtorEq, g202] at q9
                exact q9
              refine G.callV (as := [.int (nI 2), .int (r151 4)]) (rest := []) (a := 54) oX12_wrong lk_EvenFindersModel_137 (by decide +kernel) rfl rfl ⟨rfl, rfl⟩ (Nat.le_of_ble_eq_true rfl) rfl ⟨Nat.le_of_ble_eq_true rfl, Nat.le_of_ble_eq_true rfl⟩ t205 (fun v9 N9 h206 => ?_) (fun E9 N9 h206 => by cases h206)
              cases h206
              show G z mX12_book (d + 2) 0 0 128 [some (.ref 54), none, some (.int s2), some (.int (r151 4)), some (.int v156), none] [] (mrow (mrow M 54 r204) 74 q74) Q
              refine G.sl [(.aload_n 0, 1, 0, 0, 0, 0), (.iconst 0, 1, 0, 0, 0, nI 0), (.sipush 600, 3, 0, 0, 0, nI 600)] [] (pc2 := 133) (ls2 := [some (.ref 54), none, some (.int s2), some (.int (r151 4)), some (.int v156), none]) (st2 := [.int (nI 600), .int (nI 0), .ref 54]) (M2 := mrow (mrow M 54 r204) 74 q74) (Ps := []) (by decide +kernel) rfl rfl trivial ?_
              obtain ⟨k207, hk⟩ := hk
              rcases g208 : k_readNumber r204 (M.1 56) (nI 0) (nI 600) with ⟨v209, r210⟩
              try simp only [g208] at hk
              have t211 : GM z mX12_readNumber (d + 1) [.ref 54, .int (nI 0), .int (nI 600)] (mrow (mrow M 54 r204) 74 q74) (fun rs => rs = .inl (some (.int v209), mrow (mrow M 54 r210) 74 q74)) := by
                have q9 := c_k_readNumber_54 z d (mrow (mrow M 54 r204) 74 q74) (nI 0) (nI 600) k207
                try simp only [mput, mrow_same, mrow_hit, mrow_miss, mrow_sw, idr_eq, ne_eq, Nat.reduceEqDiff, not_false_eq_true, Nat.reduceLT, reduceCtorEq, g208] at q9
                exact q9
              refine G.callV (as := [.int (nI 0), .int (nI 600)]) (rest := []) (a := 54) oX12_readNumber lk_EvenFindersModel_190 (by decide +kernel) rfl rfl ⟨rfl, rfl⟩ (Nat.le_of_ble_eq_true rfl) rfl ⟨Nat.le_of_ble_eq_true rfl, Nat.le_of_ble_eq_true rfl⟩ t211 (fun v9 N9 h212 => ?_) (fun E9 N9 h212 => by cases h212)
              cases h212
              show G z mX12_book (d + 2) 0 0 136 [some (.ref 54), none, some (.int s2), some (.int (r151 4)), some (.int v156), none] [.int v209] (mrow (mrow M 54 r210) 74 q74) Q
              refine G.sl [(.istore 5, 2, 5, 0, 0, 0), (.aload_n 0, 1, 0, 0, 0, 0), (.bipush 59, 2, 0, 0, 0, nI 59)] [] (pc2 := 141) (ls2 := [some (.ref 54), none, some (.int s2), some (.int (r151 4)), some (.int v156), some (.int v209)]) (st2 := [.int (nI 59), .ref 54]) (M2 := mrow (mrow M 54 r210) 74 q74) (Ps := []) (by decide +kernel) rfl rfl trivial ?_
              obtain ⟨k213, hk⟩ := hk
              rcases g214 : k_sign r210 (M.1 56) (nI 59) with ⟨u215, r216⟩
              try simp only [g214] at hk
              have t217 : GM z mX12_sign (d + 1) [.ref 54, .int (nI 59)] (mrow (mrow M 54 r210) 74 q74) (fun rs => rs = .inl (none, mrow (mrow M 54 r216) 74 q74)) := by
                have q9 := c_k_sign_54 z d (mrow (mrow M 54 r210) 74 q74) (nI 59) k213
                try simp only [mput, mrow_same, mrow_hit, mrow_miss, mrow_sw, idr_eq, ne_eq, Nat.reduceEqDiff, not_false_eq_true, Nat.reduceLT, reduceCtorEq, g214] at q9
                exact q9
              refine G.callV (as := [.int (nI 59)]) (rest := []) (a := 54) oX12_sign lk_EvenFindersModel_239 (by decide +kernel) rfl rfl ⟨rfl, rfl⟩ (Nat.le_of_ble_eq_true rfl) rfl ⟨Nat.le_of_ble_eq_true rfl, Nat.le_of_ble_eq_true rfl⟩ t217 (fun v9 N9 h218 => ?_) (fun E9 N9 h218 => by cases h218)
              cases h218
              show G z mX12_book (d + 2) 0 0 144 [some (.ref 54), none, some (.int s2), some (.int (r151 4)), some (.int v156), some (.int v209)] [] (mrow (mrow M 54 r216) 74 q74) Q
              refine G.sl [(.aload_n 0, 1, 0, 0, 0, 0)] [] (pc2 := 145) (ls2 := [some (.ref 54), none, some (.int s2), some (.int (r151 4)), some (.int v156), some (.int v209)]) (st2 := [.ref 54]) (M2 := mrow (mrow M 54 r216) 74 q74) (Ps := []) (by decide +kernel) rfl rfl trivial ?_
              obtain ⟨k219, hk⟩ := hk
              have t220 : GM z mX12_fine (d + 1) [.ref 54] (mrow (mrow M 54 r216) 74 q74) (fun rs => rs = .inl (some (.int (k_fine r216)), mrow (mrow M 54 r216) 74 q74)) := by
                have q9 := c_k_fine_54 z (d + 1) (mrow (mrow M 54 r216) 74 q74) 
                try simp only [mput, mrow_same, mrow_hit, mrow_miss, mrow_sw, idr_eq, ne_eq, Nat.reduceEqDiff, not_false_eq_true, Nat.reduceLT, reduceCtorEq] at q9
                exact q9
              refine G.callV (as := []) (rest := []) (a := 54) oX12_fine lk_EvenFindersModel_130 (by decide +kernel) rfl rfl ⟨rfl, rfl⟩ (Nat.le_of_ble_eq_true rfl) rfl ⟨Nat.le_of_ble_eq_true rfl, Nat.le_of_ble_eq_true rfl⟩ t220 (fun v9 N9 h221 => ?_) (fun E9 N9 h221 => by cases h221)
              cases h221
              show G z mX12_book (d + 2) 0 0 148 [some (.ref 54), none, some (.int s2), some (.int (r151 4)), some (.int v156), some (.int v209)] [.int (k_fine r216)] (mrow (mrow M 54 r216) 74 q74) Q
              refine G.if_ne (off := (6)) (tgt := 154) (by decide +kernel) rfl (fun c222 => ?_) (fun c222 => ?_)
              · skip
                rw [if_neg c222] at hk
                refine G.sl [(.aload_n 0, 1, 0, 0, 0, 0), (.getfield 74, 3, 11, 43, 166, 0), (.iload 4, 2, 4, 0, 0, 0), (.iload 5, 2, 5, 0, 0, 0), (.iastore, 1, 0, 0, 0, 0), (.iinc 2 1, 3, 2, 0, 0, nI 1), (.goto (-99), 3, 67, 0, 0, 0)] [ix v156] (pc2 := 67) (ls2 := [some (.ref 54), none, some (.int (s2 + nI 1)), some (.int (r151 4)), some (.int v156), some (.int v209)]) (st2 := []) (M2 := mput (mrow (mrow M 54 r216) 74 q74) 74 (ix v156) v209) (Ps := [v156 = nI (ix v156) ∧ (ix v156) < 8]) (by decide +kernel) rfl rfl ⟨⟨(ixE k182), k183⟩, trivial⟩ ?_
                refine G.mem (M' := mrow (mrow M 54 r216) 74 (upd q74 (ix v156) v209)) (by first | rfl | (simp only [mput, mrow_same, mrow_hit, mrow_miss, mrow_sw, idr_eq, ne_eq, Nat.reduceEqDiff, not_false_eq_true, Nat.reduceLT, reduceCtorEq]; done)) ?_
                refine G.loc (ls2 := [some (.ref 54), none, some (.int (s2 + nI 1)), none, none, none]) (by simp [subL]) ?_
                simp only [k_book_67b, if_neg c140, g142, if_neg c147, g149, g155, if_neg c163, if_neg c184, g202, g208, g214, if_neg c222] at hX
                exact ih (s2 + nI 1) r216 (upd q74 (ix v156) v209) hk hX
              · skip
                rw [if_pos c222] at hk
                refine G.sl [(.goto 18, 3, 169, 0, 0, 0)] [] (pc2 := 169) (ls2 := [some (.ref 54), none, some (.int s2), some (.int (r151 4)), some (.int v156), some (.int v209)]) (st2 := []) (M2 := mrow (mrow M 54 r216) 74 q74) (Ps := []) (by decide +kernel) rfl rfl trivial ?_
                refine G.loc (ls2 := [some (.ref 54), none, some (.int s2), none, none, none]) (by simp [subL]) ?_
                simp only [k_book_67b, if_neg c140, g142, if_neg c147, g149, g155, if_neg c163, if_neg c184, g202, g208, g214, if_pos c222] at hX
                exact hX
noncomputable def k_book_46c (RnewBook : Nat → Int32) : Nat → (Nat → Int32)
  | 0 => RnewBook
  | i2 + 1 => upd (k_book_46c RnewBook i2) i2 ((-1))
set_option maxHeartbeats 4000000 in
set_option maxRecDepth 3000 in
theorem lp_k_book_54_46c (z : Zp) (d : Nat) (M : Mem) (Q : Rs → Prop) (nn : Nat) (hnn : nn = 8) (hX : G z mX12_book (d + 2) 0 0 65 [some (.ref 54), none, none, none, none, none] [] (mrow M 74 (k_book_46c (M.1 74) nn)) Q) : G z mX12_book (d + 2) 0 0 46 [some (.ref 54), none, some (.int (nI 0)), none, none, none] [] M Q := by
  refine G.mem (M' := mrow M 74 (M.1 74)) (by simp only [mrow_self]) ?_
  refine down (n := nn) (P := fun i2 => G z mX12_book (d + 2) 0 0 46 [some (.ref 54), none, some (.int (nI i2)), none, none, none] [] (mrow M 74 (k_book_46c (M.1 74) i2)) Q) ?_ ?_ 0 (Nat.zero_le _)
  · skip
    refine G.sl [(.iload_n 2, 1, 2, 0, 0, 0), (.bipush 8, 2, 0, 0, 0, nI 8)] [] (pc2 := 49) (ls2 := [some (.ref 54), none, some (.int (nI nn)), none, none, none]) (st2 := [.int (nI 8), .int (nI nn)]) (M2 := mrow M 74 (k_book_46c (M.1 74) nn)) (Ps := []) (by decide +kernel) rfl rfl trivial ?_
    refine G.ic_ge (off := (16)) (tgt := 65) (by decide +kernel) rfl (fun _ => ?_) (fun h9 => absurd (nI_le (by omega) (by omega)) h9)
    refine G.loc (ls2 := [some (.ref 54), none, none, none, none, none]) (by simp [subL]) ?_
    exact hX
  · skip
    intro i2 hi ih
    show G z mX12_book (d + 2) 0 0 46 [some (.ref 54), none, some (.int (nI i2)), none, none, none] [] (mrow M 74 (k_book_46c (M.1 74) i2)) Q
    refine G.sl [(.iload_n 2, 1, 2, 0, 0, 0), (.bipush 8, 2, 0, 0, 0, nI 8)] [] (pc2 := 49) (ls2 := [some (.ref 54), none, some (.int (nI i2)), none, none, none]) (st2 := [.int (nI 8), .int (nI i2)]) (M2 := mrow M 74 (k_book_46c (M.1 74) i2)) (Ps := []) (by decide +kernel) rfl rfl trivial ?_
    refine G.ic_ge (off := (16)) (tgt := 65) (by decide +kernel) rfl (fun h9 => absurd h9 (nI_ge (by omega) (by omega))) (fun _ => ?_)
    refine G.sl [(.aload_n 0, 1, 0, 0, 0, 0), (.getfield 74, 3, 11, 43, 166, 0), (.iload_n 2, 1, 2, 0, 0, 0), (.iconst (-1), 1, 0, 0, 0, (-1)), (.iastore, 1, 0, 0, 0, 0), (.iinc 2 1, 3, 2, 0, 0, nI 1), (.goto (-16), 3, 46, 0, 0, 0)] [i2] (pc2 := 46) (ls2 := [some (.ref 54), none, some (.int ((nI i2) + nI 1)), none, none, none]) (st2 := []) (M2 := mput (mrow M 74 (k_book_46c (M.1 74) i2)) 74 i2 ((-1))) (Ps := [(nI i2) = nI i2 ∧ i2 < 8]) (by decide +kernel) rfl rfl ⟨⟨rfl, (by omega)⟩, trivial⟩ ?_
    refine G.mem (M' := mrow M 74 (upd (k_book_46c (M.1 74) i2) i2 ((-1)))) (by first | rfl | (simp only [mput, mrow_same, mrow_hit, mrow_miss, mrow_sw, idr_eq, ne_eq, Nat.reduceEqDiff, not_false_eq_true, Nat.reduceLT, reduceCtorEq]; done)) ?_
    rw [nI_add i2 1]
    simp only [k_book_46c] at ih
    exact ih
noncomputable def k_book_67c (Rtape : Nat → Int32) : Nat → Int32 → (Nat → Int32) → (Nat → Int32) → Int32 × (Nat → Int32) × (Nat → Int32)
  | 0, s2, q54, q74 => (s2, q54, q74)
  | k0 + 1, s2, q54, q74 => (if (k_fine q54) = 0 then (s2, q54, q74) else (match k_isMore q54 (Rtape) with | (v263, r264) => (if v263 = 0 then (s2, r264, q74) else (match k_here r264 (Rtape) with | (v270, r271) => (match k_readNumber r271 (Rtape) (nI 0) ((r271 20) - (nI 1)) with | (v276, r277) => (if (k_fine r277) = 0 then (match k_readNumber r277 (Rtape) (nI 0) (nI 600) with | (v286, r287) => (match k_sign r287 (Rtape) (nI 59) with | (u292, r293) => (if (k_fine r293) = 0 then (s2, r293, q74) else k_book_67c Rtape k0 (s2 + nI 1) r293 (upd q74 (ix v276) v286)))) else (if (q74 (ix v276)) = ((-1)) then (match k_readNumber r277 (Rtape) (nI 0) (nI 600) with | (v307, r308) => (match k_sign r308 (Rtape) (nI 59) with | (u313, r314) => (if (k_fine r314) = 0 then (s2, r314, q74) else k_book_67c Rtape k0 (s2 + nI 1) r314 (upd q74 (ix v276) v307)))) else (match k_wrong r277 (nI 2) (r271 4) with | (u323, r324) => (match k_readNumber r324 (Rtape) (nI 0) (nI 600) with | (v329, r330) => (match k_sign r330 (Rtape) (nI 59) with | (u335, r336) => (if (k_fine r336) = 0 then (s2, r336, q74) else k_book_67c Rtape k0 (s2 + nI 1) r336 (upd q74 (ix v276) v329))))))))))))
noncomputable def k_book_67c_ok (Rtape : Nat → Int32) : Nat → Int32 → (Nat → Int32) → (Nat → Int32) → Prop
  | 0, _, _, _ => False
  | k0 + 1, s2, q54, q74 => (True ∧ (if (k_fine q54) = 0 then True else (k_isMore_ok q54 (Rtape) ∧ (match k_isMore q54 (Rtape) with | (v263, r264) => (if v263 = 0 then True else (k_here_ok r264 (Rtape) ∧ (match k_here r264 (Rtape) with | (v270, r271) => (k_readNumber_ok r271 (Rtape) (nI 0) ((r271 20) - (nI 1)) ∧ (match k_readNumber r271 (Rtape) (nI 0) ((r271 20) - (nI 1)) with | (v276, r277) => (True ∧ (if (k_fine r277) = 0 then (k_readNumber_ok r277 (Rtape) (nI 0) (nI 600) ∧ (match k_readNumber r277 (Rtape) (nI 0) (nI 600) with | (v286, r287) => (k_sign_ok r287 (Rtape) (nI 59) ∧ (match k_sign r287 (Rtape) (nI 59) with | (u292, r293) => (True ∧ (if (k_fine r293) = 0 then True else ((isN v276) ∧ (ix v276 < 8) ∧ k_book_67c_ok Rtape k0 (s2 + nI 1) r293 (upd q74 (ix v276) v286)))))))) else ((isN v276) ∧ (ix v276 < 8) ∧ (if (q74 (ix v276)) = ((-1)) then (k_readNumber_ok r277 (Rtape) (nI 0) (nI 600) ∧ (match k_readNumber r277 (Rtape) (nI 0) (nI 600) with | (v307, r308) => (k_sign_ok r308 (Rtape) (nI 59) ∧ (match k_sign r308 (Rtape) (nI 59) with | (u313, r314) => (True ∧ (if (k_fine r314) = 0 then True else k_book_67c_ok Rtape k0 (s2 + nI 1) r314 (upd q74 (ix v276) v307))))))) else (True ∧ (match k_wrong r277 (nI 2) (r271 4) with | (u323, r324) => (k_readNumber_ok r324 (Rtape) (nI 0) (nI 600) ∧ (match k_readNumber r324 (Rtape) (nI 0) (nI 600) with | (v329, r330) => (k_sign_ok r330 (Rtape) (nI 59) ∧ (match k_sign r330 (Rtape) (nI 59) with | (u335, r336) => (True ∧ (if (k_fine r336) = 0 then True else k_book_67c_ok Rtape k0 (s2 + nI 1) r336 (upd q74 (ix v276) v329))))))))))))))))))))))
set_option maxHeartbeats 4000000 in
set_option maxRecDepth 3000 in
theorem lp_k_book_54_67c (z : Zp) (d : Nat) (M : Mem) (Q : Rs → Prop) : ∀ (k0 : Nat) (s2 : Int32) (q54 : (Nat → Int32)) (q74 : (Nat → Int32)), k_book_67c_ok (M.1 56) k0 s2 q54 q74 → (match k_book_67c (M.1 56) k0 s2 q54 q74 with | (s2', q54', q74') => G z mX12_book (d + 2) 0 0 169 [some (.ref 54), none, some (.int (s2')), none, none, none] [] (mrow (mrow M 54 (q54')) 74 (q74')) Q) → G z mX12_book (d + 2) 0 0 67 [some (.ref 54), none, some (.int s2), none, none, none] [] (mrow (mrow M 54 q54) 74 q74) Q := by
  intro k0
  induction k0 with
  | zero =>
      intro s2 q54 q74 hk hX
      exact (by simpa only [k_book_67c_ok] using hk : False).elim
  | succ k0 ih =>
      intro s2 q54 q74 hk hX
      simp only [k_book_67c_ok] at hk
      refine G.sl [(.aload_n 0, 1, 0, 0, 0, 0)] [] (pc2 := 68) (ls2 := [some (.ref 54), none, some (.int s2), none, none, none]) (st2 := [.ref 54]) (M2 := mrow (mrow M 54 q54) 74 q74) (Ps := []) (by decide +kernel) rfl rfl trivial ?_
      obtain ⟨k257, hk⟩ := hk
      have t258 : GM z mX12_fine (d + 1) [.ref 54] (mrow (mrow M 54 q54) 74 q74) (fun rs => rs = .inl (some (.int (k_fine q54)), mrow (mrow M 54 q54) 74 q74)) := by
        have q9 := c_k_fine_54 z (d + 1) (mrow (mrow M 54 q54) 74 q74) 
        try simp only [mput, mrow_same, mrow_hit, mrow_miss, mrow_sw, idr_eq, ne_eq, Nat.reduceEqDiff, not_false_eq_true, Nat.reduceLT, reduceCtorEq] at q9
        exact q9
      refine G.callV (as := []) (rest := []) (a := 54) oX12_fine lk_EvenFindersModel_130 (by decide +kernel) rfl rfl ⟨rfl, rfl⟩ (Nat.le_of_ble_eq_true rfl) rfl ⟨Nat.le_of_ble_eq_true rfl, Nat.le_of_ble_eq_true rfl⟩ t258 (fun v9 N9 h259 => ?_) (fun E9 N9 h259 => by cases h259)
      cases h259
      show G z mX12_book (d + 2) 0 0 71 [some (.ref 54), none, some (.int s2), none, none, none] [.int (k_fine q54)] (mrow (mrow M 54 q54) 74 q74) Q
      refine G.if_eq (off := (98)) (tgt := 169) (by decide +kernel) rfl (fun c260 => ?_) (fun c260 => ?_)
      · skip
        rw [if_pos c260] at hk
        simp only [k_book_67c, if_pos c260] at hX
        exact hX
      · skip
        rw [if_neg c260] at hk
        refine G.sl [(.aload_n 0, 1, 0, 0, 0, 0)] [] (pc2 := 75) (ls2 := [some (.ref 54), none, some (.int s2), none, none, none]) (st2 := [.ref 54]) (M2 := mrow (mrow M 54 q54) 74 q74) (Ps := []) (by decide +kernel) rfl rfl trivial ?_
        obtain ⟨k261, hk⟩ := hk
        rcases g262 : k_isMore q54 (M.1 56) with ⟨v263, r264⟩
        try simp only [g262] at hk
        have ev263 : v263 = 0 ∨ v263 = 1 := by
          have q9 := k_isMore_01 q54 (M.1 56)
          rw [g262] at q9
          exact q9
        have t265 : GM z mX12_isMore (d + 1) [.ref 54] (mrow (mrow M 54 q54) 74 q74) (fun rs => rs = .inl (some (.int v263), mrow (mrow M 54 r264) 74 q74)) := by
          have q9 := c_k_isMore_54 z d (mrow (mrow M 54 q54) 74 q74) k261
          try simp only [mput, mrow_same, mrow_hit, mrow_miss, mrow_sw, idr_eq, ne_eq, Nat.reduceEqDiff, not_false_eq_true, Nat.reduceLT, reduceCtorEq, g262] at q9
          exact q9
        refine G.callV (as := []) (rest := []) (a := 54) oX12_isMore lk_EvenFindersModel_221 (by decide +kernel) rfl rfl ⟨rfl, rfl⟩ (Nat.le_of_ble_eq_true rfl) rfl ⟨Nat.le_of_ble_eq_true rfl, Nat.le_of_ble_eq_true rfl⟩ t265 (fun v9 N9 h266 => ?_) (fun E9 N9 h266 => by cases h266)
        cases h266
        show G z mX12_book (d + 2) 0 0 78 [some (.ref 54), none, some (.int s2), none, none, none] [.int v263] (mrow (mrow M 54 r264) 74 q74) Q
        refine G.if_eq (off := (91)) (tgt := 169) (by decide +kernel) rfl (fun c267 => ?_) (fun c267 => ?_)
        · skip
          rw [if_pos c267] at hk
          simp only [k_book_67c, if_neg c260, g262, if_pos c267] at hX
          exact hX
        · skip
          rw [if_neg c267] at hk
          refine G.sl [(.aload_n 0, 1, 0, 0, 0, 0)] [] (pc2 := 82) (ls2 := [some (.ref 54), none, some (.int s2), none, none, none]) (st2 := [.ref 54]) (M2 := mrow (mrow M 54 r264) 74 q74) (Ps := []) (by decide +kernel) rfl rfl trivial ?_
          obtain ⟨k268, hk⟩ := hk
          rcases g269 : k_here r264 (M.1 56) with ⟨v270, r271⟩
          try simp only [g269] at hk
          have t272 : GM z mX12_here (d + 1) [.ref 54] (mrow (mrow M 54 r264) 74 q74) (fun rs => rs = .inl (some (.int v270), mrow (mrow M 54 r271) 74 q74)) := by
            have q9 := c_k_here_54 z (d + 1) (mrow (mrow M 54 r264) 74 q74) k268
            try simp only [mput, mrow_same, mrow_hit, mrow_miss, mrow_sw, idr_eq, ne_eq, Nat.reduceEqDiff, not_false_eq_true, Nat.reduceLT, reduceCtorEq, g269] at q9
            exact q9
          refine G.callV (as := []) (rest := []) (a := 54) oX12_here lk_EvenFindersModel_113 (by decide +kernel) rfl rfl ⟨rfl, rfl⟩ (Nat.le_of_ble_eq_true rfl) rfl ⟨Nat.le_of_ble_eq_true rfl, Nat.le_of_ble_eq_true rfl⟩ t272 (fun v9 N9 h273 => ?_) (fun E9 N9 h273 => by cases h273)
          cases h273
          show G z mX12_book (d + 2) 0 0 85 [some (.ref 54), none, some (.int s2), none, none, none] [.int v270] (mrow (mrow M 54 r271) 74 q74) Q
          refine G.sl [(.pop, 1, 0, 0, 0, 0), (.aload_n 0, 1, 0, 0, 0, 0), (.getfield 107, 3, 11, 4, 127, 0), (.istore_n 3, 1, 3, 0, 0, 0), (.aload_n 0, 1, 0, 0, 0, 0), (.iconst 0, 1, 0, 0, 0, nI 0), (.aload_n 0, 1, 0, 0, 0, 0), (.getfield 156, 3, 11, 20, 143, 0), (.iconst 1, 1, 0, 0, 0, nI 1), (.isub, 1, 0, 0, 0, 0)] [] (pc2 := 99) (ls2 := [some (.ref 54), none, some (.int s2), some (.int (r271 4)), none, none]) (st2 := [.int ((r271 20) - (nI 1)), .int (nI 0), .ref 54]) (M2 := mrow (mrow M 54 r271) 74 q74) (Ps := []) (by decide +kernel) rfl rfl trivial ?_
          obtain ⟨k274, hk⟩ := hk
          rcases g275 : k_readNumber r271 (M.1 56) (nI 0) ((r271 20) - (nI 1)) with ⟨v276, r277⟩
          try simp only [g275] at hk
          have t278 : GM z mX12_readNumber (d + 1) [.ref 54, .int (nI 0), .int ((r271 20) - (nI 1))] (mrow (mrow M 54 r271) 74 q74) (fun rs => rs = .inl (some (.int v276), mrow (mrow M 54 r277) 74 q74)) := by
            have q9 := c_k_readNumber_54 z d (mrow (mrow M 54 r271) 74 q74) (nI 0) ((r271 20) - (nI 1)) k274
            try simp only [mput, mrow_same, mrow_hit, mrow_miss, mrow_sw, idr_eq, ne_eq, Nat.reduceEqDiff, not_false_eq_true, Nat.reduceLT, reduceCtorEq, g275] at q9
            exact q9
          refine G.callV (as := [.int (nI 0), .int ((r271 20) - (nI 1))]) (rest := []) (a := 54) oX12_readNumber lk_EvenFindersModel_190 (by decide +kernel) rfl rfl ⟨rfl, rfl⟩ (Nat.le_of_ble_eq_true rfl) rfl ⟨Nat.le_of_ble_eq_true rfl, Nat.le_of_ble_eq_true rfl⟩ t278 (fun v9 N9 h279 => ?_) (fun E9 N9 h279 => by cases h279)
          cases h279
          show G z mX12_book (d + 2) 0 0 102 [some (.ref 54), none, some (.int s2), some (.int (r271 4)), none, none] [.int v276] (mrow (mrow M 54 r277) 74 q74) Q
          refine G.sl [(.istore 4, 2, 4, 0, 0, 0), (.aload_n 0, 1, 0, 0, 0, 0)] [] (pc2 := 105) (ls2 := [some (.ref 54), none, some (.int s2), some (.int (r271 4)), some (.int v276), none]) (st2 := [.ref 54]) (M2 := mrow (mrow M 54 r277) 74 q74) (Ps := []) (by decide +kernel) rfl rfl trivial ?_
          obtain ⟨k280, hk⟩ := hk
          have t281 : GM z mX12_fine (d + 1) [.ref 54] (mrow (mrow M 54 r277) 74 q74) (fun rs => rs = .inl (some (.int (k_fine r277)), mrow (mrow M 54 r277) 74 q74)) := by
            have q9 := c_k_fine_54 z (d + 1) (mrow (mrow M 54 r277) 74 q74) 
            try simp only [mput, mrow_same, mrow_hit, mrow_miss, mrow_sw, idr_eq, ne_eq, Nat.reduceEqDiff, not_false_eq_true, Nat.reduceLT, reduceCtorEq] at q9
            exact q9
          refine G.callV (as := []) (rest := []) (a := 54) oX12_fine lk_EvenFindersModel_130 (by decide +kernel) rfl rfl ⟨rfl, rfl⟩ (Nat.le_of_ble_eq_true rfl) rfl ⟨Nat.le_of_ble_eq_true rfl, Nat.le_of_ble_eq_true rfl⟩ t281 (fun v9 N9 h282 => ?_) (fun E9 N9 h282 => by cases h282)
          cases h282
          show G z mX12_book (d + 2) 0 0 108 [some (.ref 54), none, some (.int s2), some (.int (r271 4)), some (.int v276), none] [.int (k_fine r277)] (mrow (mrow M 54 r277) 74 q74) Q
          refine G.if_eq (off := (20)) (tgt := 128) (by decide +kernel) rfl (fun c283 => ?_) (fun c283 => ?_)
          · skip
            rw [if_pos c283] at hk
            refine G.sl [(.aload_n 0, 1, 0, 0, 0, 0), (.iconst 0, 1, 0, 0, 0, nI 0), (.sipush 600, 3, 0, 0, 0, nI 600)] [] (pc2 := 133) (ls2 := [some (.ref 54), none, some (.int s2), some (.int (r271 4)), some (.int v276), none]) (st2 := [.int (nI 600), .int (nI 0), .ref 54]) (M2 := mrow (mrow M 54 r277) 74 q74) (Ps := []) (by decide +kernel) rfl rfl trivial ?_
            obtain ⟨k284, hk⟩ := hk
            rcases g285 : k_readNumber r277 (M.1 56) (nI 0) (nI 600) with ⟨v286, r287⟩
            try simp only [g285] at hk
            have t288 : GM z mX12_readNumber (d + 1) [.ref 54, .int (nI 0), .int (nI 600)] (mrow (mrow M 54 r277) 74 q74) (fun rs => rs = .inl (some (.int v286), mrow (mrow M 54 r287) 74 q74)) := by
              have q9 := c_k_readNumber_54 z d (mrow (mrow M 54 r277) 74 q74) (nI 0) (nI 600) k284
              try simp only [mput, mrow_same, mrow_hit, mrow_miss, mrow_sw, idr_eq, ne_eq, Nat.reduceEqDiff, not_false_eq_true, Nat.reduceLT, reduceCtorEq, g285] at q9
              exact q9
            refine G.callV (as := [.int (nI 0), .int (nI 600)]) (rest := []) (a := 54) oX12_readNumber lk_EvenFindersModel_190 (by decide +kernel) rfl rfl ⟨rfl, rfl⟩ (Nat.le_of_ble_eq_true rfl) rfl ⟨Nat.le_of_ble_eq_true rfl, Nat.le_of_ble_eq_true rfl⟩ t288 (fun v9 N9 h289 => ?_) (fun E9 N9 h289 => by cases h289)
            cases h289
            show G z mX12_book (d + 2) 0 0 136 [some (.ref 54), none, some (.int s2), some (.int (r271 4)), some (.int v276), none] [.int v286] (mrow (mrow M 54 r287) 74 q74) Q
            refine G.sl [(.istore 5, 2, 5, 0, 0, 0), (.aload_n 0, 1, 0, 0, 0, 0), (.bipush 59, 2, 0, 0, 0, nI 59)] [] (pc2 := 141) (ls2 := [some (.ref 54), none, some (.int s2), some (.int (r271 4)), some (.int v276), some (.int v286)]) (st2 := [.int (nI 59), .ref 54]) (M2 := mrow (mrow M 54 r287) 74 q74) (Ps := []) (by decide +kernel) rfl rfl trivial ?_
            obtain ⟨k290, hk⟩ := hk
            rcases g291 : k_sign r287 (M.1 56) (nI 59) with ⟨u292, r293⟩
            try simp only [g291] at hk
            have t294 : GM z mX12_sign (d + 1) [.ref 54, .int (nI 59)] (mrow (mrow M 54 r287) 74 q74) (fun rs => rs = .inl (none, mrow (mrow M 54 r293) 74 q74)) := by
              have q9 := c_k_sign_54 z d (mrow (mrow M 54 r287) 74 q74) (nI 59) k290
              try simp only [mput, mrow_same, mrow_hit, mrow_miss, mrow_sw, idr_eq, ne_eq, Nat.reduceEqDiff, not_false_eq_true, Nat.reduceLT, reduceCtorEq, g291] at q9
              exact q9
            refine G.callV (as := [.int (nI 59)]) (rest := []) (a := 54) oX12_sign lk_EvenFindersModel_239 (by decide +kernel) rfl rfl ⟨rfl, rfl⟩ (Nat.le_of_ble_eq_true rfl) rfl ⟨Nat.le_of_ble_eq_true rfl, Nat.le_of_ble_eq_true rfl⟩ t294 (fun v9 N9 h295 => ?_) (fun E9 N9 h295 => by cases h295)
            cases h295
            show G z mX12_book (d + 2) 0 0 144 [some (.ref 54), none, some (.int s2), some (.int (r271 4)), some (.int v276), some (.int v286)] [] (mrow (mrow M 54 r293) 74 q74) Q
            refine G.sl [(.aload_n 0, 1, 0, 0, 0, 0)] [] (pc2 := 145) (ls2 := [some (.ref 54), none, some (.int s2), some (.int (r271 4)), some (.int v276), some (.int v286)]) (st2 := [.ref 54]) (M2 := mrow (mrow M 54 r293) 74 q74) (Ps := []) (by decide +kernel) rfl rfl trivial ?_
            obtain ⟨k296, hk⟩ := hk
            have t297 : GM z mX12_fine (d + 1) [.ref 54] (mrow (mrow M 54 r293) 74 q74) (fun rs => rs = .inl (some (.int (k_fine r293)), mrow (mrow M 54 r293) 74 q74)) := by
              have q9 := c_k_fine_54 z (d + 1) (mrow (mrow M 54 r293) 74 q74) 
              try simp only [mput, mrow_same, mrow_hit, mrow_miss, mrow_sw, idr_eq, ne_eq, Nat.reduceEqDiff, not_false_eq_true, Nat.reduceLT, reduceCtorEq] at q9
              exact q9
            refine G.callV (as := []) (rest := []) (a := 54) oX12_fine lk_EvenFindersModel_130 (by decide +kernel) rfl rfl ⟨rfl, rfl⟩ (Nat.le_of_ble_eq_true rfl) rfl ⟨Nat.le_of_ble_eq_true rfl, Nat.le_of_ble_eq_true rfl⟩ t297 (fun v9 N9 h298 => ?_) (fun E9 N9 h298 => by cases h298)
            cases h298
            show G z mX12_book (d + 2) 0 0 148 [some (.ref 54), none, some (.int s2), some (.int (r271 4)), some (.int v276), some (.int v286)] [.int (k_fine r293)] (mrow (mrow M 54 r293) 74 q74) Q
            refine G.if_ne (off := (6)) (tgt := 154) (by decide +kernel) rfl (fun c299 => ?_) (fun c299 => ?_)
            · skip
              rw [if_neg c299] at hk
              obtain ⟨k300, k301, hk⟩ := hk
              refine G.sl [(.aload_n 0, 1, 0, 0, 0, 0), (.getfield 74, 3, 11, 43, 166, 0), (.iload 4, 2, 4, 0, 0, 0), (.iload 5, 2, 5, 0, 0, 0), (.iastore, 1, 0, 0, 0, 0), (.iinc 2 1, 3, 2, 0, 0, nI 1), (.goto (-99), 3, 67, 0, 0, 0)] [ix v276] (pc2 := 67) (ls2 := [some (.ref 54), none, some (.int (s2 + nI 1)), some (.int (r271 4)), some (.int v276), some (.int v286)]) (st2 := []) (M2 := mput (mrow (mrow M 54 r293) 74 q74) 74 (ix v276) v286) (Ps := [v276 = nI (ix v276) ∧ (ix v276) < 8]) (by decide +kernel) rfl rfl ⟨⟨(ixE k300), k301⟩, trivial⟩ ?_
              refine G.mem (M' := mrow (mrow M 54 r293) 74 (upd q74 (ix v276) v286)) (by first | rfl | (simp only [mput, mrow_same, mrow_hit, mrow_miss, mrow_sw, idr_eq, ne_eq, Nat.reduceEqDiff, not_false_eq_true, Nat.reduceLT, reduceCtorEq]; done)) ?_
              refine G.loc (ls2 := [some (.ref 54), none, some (.int (s2 + nI 1)), none, none, none]) (by simp [subL]) ?_
              simp only [k_book_67c, if_neg c260, g262, if_neg c267, g269, g275, if_pos c283, g285, g291, if_neg c299] at hX
              exact ih (s2 + nI 1) r293 (upd q74 (ix v276) v286) hk hX
            · skip
              rw [if_pos c299] at hk
              refine G.sl [(.goto 18, 3, 169, 0, 0, 0)] [] (pc2 := 169) (ls2 := [some (.ref 54), none, some (.int s2), some (.int (r271 4)), some (.int v276), some (.int v286)]) (st2 := []) (M2 := mrow (mrow M 54 r293) 74 q74) (Ps := []) (by decide +kernel) rfl rfl trivial ?_
              refine G.loc (ls2 := [some (.ref 54), none, some (.int s2), none, none, none]) (by simp [subL]) ?_
              simp only [k_book_67c, if_neg c260, g262, if_neg c267, g269, g275, if_pos c283, g285, g291, if_pos c299] at hX
              exact hX
          · skip
            rw [if_neg c283] at hk
            obtain ⟨k302, k303, hk⟩ := hk
            refine G.sl [(.aload_n 0, 1, 0, 0, 0, 0), (.getfield 74, 3, 11, 43, 166, 0), (.iload 4, 2, 4, 0, 0, 0), (.iaload, 1, 0, 0, 0, 0), (.iconst (-1), 1, 0, 0, 0, (-1))] [ix v276] (pc2 := 119) (ls2 := [some (.ref 54), none, some (.int s2), some (.int (r271 4)), some (.int v276), none]) (st2 := [.int ((-1)), .int (q74 (ix v276))]) (M2 := mrow (mrow M 54 r277) 74 q74) (Ps := [v276 = nI (ix v276) ∧ (ix v276) < 8]) (by decide +kernel) rfl rfl ⟨⟨(ixE k302), k303⟩, trivial⟩ ?_
            refine G.ic_eq (off := (9)) (tgt := 128) (by decide +kernel) rfl (fun c304 => ?_) (fun c304 => ?_)
            · skip
              rw [if_pos c304] at hk
              refine G.sl [(.aload_n 0, 1, 0, 0, 0, 0), (.iconst 0, 1, 0, 0, 0, nI 0), (.sipush 600, 3, 0, 0, 0, nI 600)] [] (pc2 := 133) (ls2 := [some (.ref 54), none, some (.int s2), some (.int (r271 4)), some (.int v276), none]) (st2 := [.int (nI 600), .int (nI 0), .ref 54]) (M2 := mrow (mrow M 54 r277) 74 q74) (Ps := []) (by decide +kernel) rfl rfl trivial ?_
              obtain ⟨k305, hk⟩ := hk
              rcases g306 : k_readNumber r277 (M.1 56) (nI 0) (nI 600) with ⟨v307, r308⟩
              try simp only [g306] at hk
              have t309 : GM z mX12_readNumber (d + 1) [.ref 54, .int (nI 0), .int (nI 600)] (mrow (mrow M 54 r277) 74 q74) (fun rs => rs = .inl (some (.int v307), mrow (mrow M 54 r308) 74 q74)) := by
                have q9 := c_k_readNumber_54 z d (mrow (mrow M 54 r277) 74 q74) (nI 0) (nI 600) k305
                try simp only [mput, mrow_same, mrow_hit, mrow_miss, mrow_sw, idr_eq, ne_eq, Nat.reduceEqDiff, not_false_eq_true, Nat.reduceLT, reduceCtorEq, g306] at q9
                exact q9
              refine G.callV (as := [.int (nI 0), .int (nI 600)]) (rest := []) (a := 54) oX12_readNumber lk_EvenFindersModel_190 (by decide +kernel) rfl rfl ⟨rfl, rfl⟩ (Nat.le_of_ble_eq_true rfl) rfl ⟨Nat.le_of_ble_eq_true rfl, Nat.le_of_ble_eq_true rfl⟩ t309 (fun v9 N9 h310 => ?_) (fun E9 N9 h310 => by cases h310)
              cases h310
              show G z mX12_book (d + 2) 0 0 136 [some (.ref 54), none, some (.int s2), some (.int (r271 4)), some (.int v276), none] [.int v307] (mrow (mrow M 54 r308) 74 q74) Q
              refine G.sl [(.istore 5, 2, 5, 0, 0, 0), (.aload_n 0, 1, 0, 0, 0, 0), (.bipush 59, 2, 0, 0, 0, nI 59)] [] (pc2 := 141) (ls2 := [some (.ref 54), none, some (.int s2), some (.int (r271 4)), some (.int v276), some (.int v307)]) (st2 := [.int (nI 59), .ref 54]) (M2 := mrow (mrow M 54 r308) 74 q74) (Ps := []) (by decide +kernel) rfl rfl trivial ?_
              obtain ⟨k311, hk⟩ := hk
              rcases g312 : k_sign r308 (M.1 56) (nI 59) with ⟨u313, r314⟩
              try simp only [g312] at hk
              have t315 : GM z mX12_sign (d + 1) [.ref 54, .int (nI 59)] (mrow (mrow M 54 r308) 74 q74) (fun rs => rs = .inl (none, mrow (mrow M 54 r314) 74 q74)) := by
                have q9 := c_k_sign_54 z d (mrow (mrow M 54 r308) 74 q74) (nI 59) k311
                try simp only [mput, mrow_same, mrow_hit, mrow_miss, mrow_sw, idr_eq, ne_eq, Nat.reduceEqDiff, not_false_eq_true, Nat.reduceLT, reduceCtorEq, g312] at q9
                exact q9
              refine G.callV (as := [.int (nI 59)]) (rest := []) (a := 54) oX12_sign lk_EvenFindersModel_239 (by decide +kernel) rfl rfl ⟨rfl, rfl⟩ (Nat.le_of_ble_eq_true rfl) rfl ⟨Nat.le_of_ble_eq_true rfl, Nat.le_of_ble_eq_true rfl⟩ t315 (fun v9 N9 h316 => ?_) (fun E9 N9 h316 => by cases h316)
              cases h316
              show G z mX12_book (d + 2) 0 0 144 [some (.ref 54), none, some (.int s2), some (.int (r271 4)), some (.int v276), some (.int v307)] [] (mrow (mrow M 54 r314) 74 q74) Q
              refine G.sl [(.aload_n 0, 1, 0, 0, 0, 0)] [] (pc2 := 145) (ls2 := [some (.ref 54), none, some (.int s2), some (.int (r271 4)), some (.int v276), some (.int v307)]) (st2 := [.ref 54]) (M2 := mrow (mrow M 54 r314) 74 q74) (Ps := []) (by decide +kernel) rfl rfl trivial ?_
              obtain ⟨k317, hk⟩ := hk
              have t318 : GM z mX12_fine (d + 1) [.ref 54] (mrow (mrow M 54 r314) 74 q74) (fun rs => rs = .inl (some (.int (k_fine r314)), mrow (mrow M 54 r314) 74 q74)) := by
                have q9 := c_k_fine_54 z (d + 1) (mrow (mrow M 54 r314) 74 q74) 
                try simp only [mput, mrow_same, mrow_hit, mrow_miss, mrow_sw, idr_eq, ne_eq, Nat.reduceEqDiff, not_false_eq_true, Nat.reduceLT, reduceCtorEq] at q9
                exact q9
              refine G.callV (as := []) (rest := []) (a := 54) oX12_fine lk_EvenFindersModel_130 (by decide +kernel) rfl rfl ⟨rfl, rfl⟩ (Nat.le_of_ble_eq_true rfl) rfl ⟨Nat.le_of_ble_eq_true rfl, Nat.le_of_ble_eq_true rfl⟩ t318 (fun v9 N9 h319 => ?_) (fun E9 N9 h319 => by cases h319)
              cases h319
              show G z mX12_book (d + 2) 0 0 148 [some (.ref 54), none, some (.int s2), some (.int (r271 4)), some (.int v276), some (.int v307)] [.int (k_fine r314)] (mrow (mrow M 54 r314) 74 q74) Q
              refine G.if_ne (off := (6)) (tgt := 154) (by decide +kernel) rfl (fun c320 => ?_) (fun c320 => ?_)
              · skip
                rw [if_neg c320] at hk
                refine G.sl [(.aload_n 0, 1, 0, 0, 0, 0), (.getfield 74, 3, 11, 43, 166, 0), (.iload 4, 2, 4, 0, 0, 0), (.iload 5, 2, 5, 0, 0, 0), (.iastore, 1, 0, 0, 0, 0), (.iinc 2 1, 3, 2, 0, 0, nI 1), (.goto (-99), 3, 67, 0, 0, 0)] [ix v276] (pc2 := 67) (ls2 := [some (.ref 54), none, some (.int (s2 + nI 1)), some (.int (r271 4)), some (.int v276), some (.int v307)]) (st2 := []) (M2 := mput (mrow (mrow M 54 r314) 74 q74) 74 (ix v276) v307) (Ps := [v276 = nI (ix v276) ∧ (ix v276) < 8]) (by decide +kernel) rfl rfl ⟨⟨(ixE k302), k303⟩, trivial⟩ ?_
                refine G.mem (M' := mrow (mrow M 54 r314) 74 (upd q74 (ix v276) v307)) (by first | rfl | (simp only [mput, mrow_same, mrow_hit, mrow_miss, mrow_sw, idr_eq, ne_eq, Nat.reduceEqDiff, not_false_eq_true, Nat.reduceLT, reduceCtorEq]; done)) ?_
                refine G.loc (ls2 := [some (.ref 54), none, some (.int (s2 + nI 1)), none, none, none]) (by simp [subL]) ?_
                simp only [k_book_67c, if_neg c260, g262, if_neg c267, g269, g275, if_neg c283, if_pos c304, g306, g312, if_neg c320] at hX
                exact ih (s2 + nI 1) r314 (upd q74 (ix v276) v307) hk hX
              · skip
                rw [if_pos c320] at hk
                refine G.sl [(.goto 18, 3, 169, 0, 0, 0)] [] (pc2 := 169) (ls2 := [some (.ref 54), none, some (.int s2), some (.int (r271 4)), some (.int v276), some (.int v307)]) (st2 := []) (M2 := mrow (mrow M 54 r314) 74 q74) (Ps := []) (by decide +kernel) rfl rfl trivial ?_
                refine G.loc (ls2 := [some (.ref 54), none, some (.int s2), none, none, none]) (by simp [subL]) ?_
                simp only [k_book_67c, if_neg c260, g262, if_neg c267, g269, g275, if_neg c283, if_pos c304, g306, g312, if_pos c320] at hX
                exact hX
            · skip
              rw [if_neg c304] at hk
              refine G.sl [(.aload_n 0, 1, 0, 0, 0, 0), (.iconst 2, 1, 0, 0, 0, nI 2), (.iload_n 3, 1, 3, 0, 0, 0)] [] (pc2 := 125) (ls2 := [some (.ref 54), none, some (.int s2), some (.int (r271 4)), some (.int v276), none]) (st2 := [.int (r271 4), .int (nI 2), .ref 54]) (M2 := mrow (mrow M 54 r277) 74 q74) (Ps := []) (by decide +kernel) rfl rfl trivial ?_
              obtain ⟨k321, hk⟩ := hk
              rcases g322 : k_wrong r277 (nI 2) (r271 4) with ⟨u323, r324⟩
              try simp only [g322] at hk
              have t325 : GM z mX12_wrong (d + 1) [.ref 54, .int (nI 2), .int (r271 4)] (mrow (mrow M 54 r277) 74 q74) (fun rs => rs = .inl (none, mrow (mrow M 54 r324) 74 q74)) := by
                have q9 := c_k_wrong_54 z (d + 1) (mrow (mrow M 54 r277) 74 q74) (nI 2) (r271 4)
                try simp only [mput, mrow_same, mrow_hit, mrow_miss, mrow_sw, idr_eq, ne_eq, Nat.reduceEqDiff, not_false_eq_true, Nat.reduceLT, reduceCtorEq, g322] at q9
                exact q9
              refine G.callV (as := [.int (nI 2), .int (r271 4)]) (rest := []) (a := 54) oX12_wrong lk_EvenFindersModel_137 (by decide +kernel) rfl rfl ⟨rfl, rfl⟩ (Nat.le_of_ble_eq_true rfl) rfl ⟨Nat.le_of_ble_eq_true rfl, Nat.le_of_ble_eq_true rfl⟩ t325 (fun v9 N9 h326 => ?_) (fun E9 N9 h326 => by cases h326)
              cases h326
              show G z mX12_book (d + 2) 0 0 128 [some (.ref 54), none, some (.int s2), some (.int (r271 4)), some (.int v276), none] [] (mrow (mrow M 54 r324) 74 q74) Q
              refine G.sl [(.aload_n 0, 1, 0, 0, 0, 0), (.iconst 0, 1, 0, 0, 0, nI 0), (.sipush 600, 3, 0, 0, 0, nI 600)] [] (pc2 := 133) (ls2 := [some (.ref 54), none, some (.int s2), some (.int (r271 4)), some (.int v276), none]) (st2 := [.int (nI 600), .int (nI 0), .ref 54]) (M2 := mrow (mrow M 54 r324) 74 q74) (Ps := []) (by decide +kernel) rfl rfl trivial ?_
              obtain ⟨k327, hk⟩ := hk
              rcases g328 : k_readNumber r324 (M.1 56) (nI 0) (nI 600) with ⟨v329, r330⟩
              try simp only [g328] at hk
              have t331 : GM z mX12_readNumber (d + 1) [.ref 54, .int (nI 0), .int (nI 600)] (mrow (mrow M 54 r324) 74 q74) (fun rs => rs = .inl (some (.int v329), mrow (mrow M 54 r330) 74 q74)) := by
                have q9 := c_k_readNumber_54 z d (mrow (mrow M 54 r324) 74 q74) (nI 0) (nI 600) k327
                try simp only [mput, mrow_same, mrow_hit, mrow_miss, mrow_sw, idr_eq, ne_eq, Nat.reduceEqDiff, not_false_eq_true, Nat.reduceLT, reduceCtorEq, g328] at q9
                exact q9
              refine G.callV (as := [.int (nI 0), .int (nI 600)]) (rest := []) (a := 54) oX12_readNumber lk_EvenFindersModel_190 (by decide +kernel) rfl rfl ⟨rfl, rfl⟩ (Nat.le_of_ble_eq_true rfl) rfl ⟨Nat.le_of_ble_eq_true rfl, Nat.le_of_ble_eq_true rfl⟩ t331 (fun v9 N9 h332 => ?_) (fun E9 N9 h332 => by cases h332)
              cases h332
              show G z mX12_book (d + 2) 0 0 136 [some (.ref 54), none, some (.int s2), some (.int (r271 4)), some (.int v276), none] [.int v329] (mrow (mrow M 54 r330) 74 q74) Q
              refine G.sl [(.istore 5, 2, 5, 0, 0, 0), (.aload_n 0, 1, 0, 0, 0, 0), (.bipush 59, 2, 0, 0, 0, nI 59)] [] (pc2 := 141) (ls2 := [some (.ref 54), none, some (.int s2), some (.int (r271 4)), some (.int v276), some (.int v329)]) (st2 := [.int (nI 59), .ref 54]) (M2 := mrow (mrow M 54 r330) 74 q74) (Ps := []) (by decide +kernel) rfl rfl trivial ?_
              obtain ⟨k333, hk⟩ := hk
              rcases g334 : k_sign r330 (M.1 56) (nI 59) with ⟨u335, r336⟩
              try simp only [g334] at hk
              have t337 : GM z mX12_sign (d + 1) [.ref 54, .int (nI 59)] (mrow (mrow M 54 r330) 74 q74) (fun rs => rs = .inl (none, mrow (mrow M 54 r336) 74 q74)) := by
                have q9 := c_k_sign_54 z d (mrow (mrow M 54 r330) 74 q74) (nI 59) k333
                try simp only [mput, mrow_same, mrow_hit, mrow_miss, mrow_sw, idr_eq, ne_eq, Nat.reduceEqDiff, not_false_eq_true, Nat.reduceLT, reduceCtorEq, g334] at q9
                exact q9
              refine G.callV (as := [.int (nI 59)]) (rest := []) (a := 54) oX12_sign lk_EvenFindersModel_239 (by decide +kernel) rfl rfl ⟨rfl, rfl⟩ (Nat.le_of_ble_eq_true rfl) rfl ⟨Nat.le_of_ble_eq_true rfl, Nat.le_of_ble_eq_true rfl⟩ t337 (fun v9 N9 h338 => ?_) (fun E9 N9 h338 => by cases h338)
              cases h338
              show G z mX12_book (d + 2) 0 0 144 [some (.ref 54), none, some (.int s2), some (.int (r271 4)), some (.int v276), some (.int v329)] [] (mrow (mrow M 54 r336) 74 q74) Q
              refine G.sl [(.aload_n 0, 1, 0, 0, 0, 0)] [] (pc2 := 145) (ls2 := [some (.ref 54), none, some (.int s2), some (.int (r271 4)), some (.int v276), some (.int v329)]) (st2 := [.ref 54]) (M2 := mrow (mrow M 54 r336) 74 q74) (Ps := []) (by decide +kernel) rfl rfl trivial ?_
              obtain ⟨k339, hk⟩ := hk
              have t340 : GM z mX12_fine (d + 1) [.ref 54] (mrow (mrow M 54 r336) 74 q74) (fun rs => rs = .inl (some (.int (k_fine r336)), mrow (mrow M 54 r336) 74 q74)) := by
                have q9 := c_k_fine_54 z (d + 1) (mrow (mrow M 54 r336) 74 q74) 
                try simp only [mput, mrow_same, mrow_hit, mrow_miss, mrow_sw, idr_eq, ne_eq, Nat.reduceEqDiff, not_false_eq_true, Nat.reduceLT, reduceCtorEq] at q9
                exact q9
              refine G.callV (as := []) (rest := []) (a := 54) oX12_fine lk_EvenFindersModel_130 (by decide +kernel) rfl rfl ⟨rfl, rfl⟩ (Nat.le_of_ble_eq_true rfl) rfl ⟨Nat.le_of_ble_eq_true rfl, Nat.le_of_ble_eq_true rfl⟩ t340 (fun v9 N9 h341 => ?_) (fun E9 N9 h341 => by cases h341)
              cases h341
              show G z mX12_book (d + 2) 0 0 148 [some (.ref 54), none, some (.int s2), some (.int (r271 4)), some (.int v276), some (.int v329)] [.int (k_fine r336)] (mrow (mrow M 54 r336) 74 q74) Q
              refine G.if_ne (off := (6)) (tgt := 154) (by decide +kernel) rfl (fun c342 => ?_) (fun c342 => ?_)
              · skip
                rw [if_neg c342] at hk
                refine G.sl [(.aload_n 0, 1, 0, 0, 0, 0), (.getfield 74, 3, 11, 43, 166, 0), (.iload 4, 2, 4, 0, 0, 0), (.iload 5, 2, 5, 0, 0, 0), (.iastore, 1, 0, 0, 0, 0), (.iinc 2 1, 3, 2, 0, 0, nI 1), (.goto (-99), 3, 67, 0, 0, 0)] [ix v276] (pc2 := 67) (ls2 := [some (.ref 54), none, some (.int (s2 + nI 1)), some (.int (r271 4)), some (.int v276), some (.int v329)]) (st2 := []) (M2 := mput (mrow (mrow M 54 r336) 74 q74) 74 (ix v276) v329) (Ps := [v276 = nI (ix v276) ∧ (ix v276) < 8]) (by decide +kernel) rfl rfl ⟨⟨(ixE k302), k303⟩, trivial⟩ ?_
                refine G.mem (M' := mrow (mrow M 54 r336) 74 (upd q74 (ix v276) v329)) (by first | rfl | (simp only [mput, mrow_same, mrow_hit, mrow_miss, mrow_sw, idr_eq, ne_eq, Nat.reduceEqDiff, not_false_eq_true, Nat.reduceLT, reduceCtorEq]; done)) ?_
                refine G.loc (ls2 := [some (.ref 54), none, some (.int (s2 + nI 1)), none, none, none]) (by simp [subL]) ?_
                simp only [k_book_67c, if_neg c260, g262, if_neg c267, g269, g275, if_neg c283, if_neg c304, g322, g328, g334, if_neg c342] at hX
                exact ih (s2 + nI 1) r336 (upd q74 (ix v276) v329) hk hX
              · skip
                rw [if_pos c342] at hk
                refine G.sl [(.goto 18, 3, 169, 0, 0, 0)] [] (pc2 := 169) (ls2 := [some (.ref 54), none, some (.int s2), some (.int (r271 4)), some (.int v276), some (.int v329)]) (st2 := []) (M2 := mrow (mrow M 54 r336) 74 q74) (Ps := []) (by decide +kernel) rfl rfl trivial ?_
                refine G.loc (ls2 := [some (.ref 54), none, some (.int s2), none, none, none]) (by simp [subL]) ?_
                simp only [k_book_67c, if_neg c260, g262, if_neg c267, g269, g275, if_neg c283, if_neg c304, g322, g328, g334, if_pos c342] at hX
                exact hX
noncomputable def k_book_46d (RnewBook : Nat → Int32) : Nat → (Nat → Int32)
  | 0 => RnewBook
  | i2 + 1 => upd (k_book_46d RnewBook i2) i2 ((-1))
set_option maxHeartbeats 4000000 in
set_option maxRecDepth 3000 in
theorem lp_k_book_54_46d (z : Zp) (d : Nat) (M : Mem) (Q : Rs → Prop) (nn : Nat) (hnn : nn = 8) (hX : G z mX12_book (d + 2) 0 0 65 [some (.ref 54), none, none, none, none, none] [] (mrow M 74 (k_book_46d (M.1 74) nn)) Q) : G z mX12_book (d + 2) 0 0 46 [some (.ref 54), none, some (.int (nI 0)), none, none, none] [] M Q := by
  refine G.mem (M' := mrow M 74 (M.1 74)) (by simp only [mrow_self]) ?_
  refine down (n := nn) (P := fun i2 => G z mX12_book (d + 2) 0 0 46 [some (.ref 54), none, some (.int (nI i2)), none, none, none] [] (mrow M 74 (k_book_46d (M.1 74) i2)) Q) ?_ ?_ 0 (Nat.zero_le _)
  · skip
    refine G.sl [(.iload_n 2, 1, 2, 0, 0, 0), (.bipush 8, 2, 0, 0, 0, nI 8)] [] (pc2 := 49) (ls2 := [some (.ref 54), none, some (.int (nI nn)), none, none, none]) (st2 := [.int (nI 8), .int (nI nn)]) (M2 := mrow M 74 (k_book_46d (M.1 74) nn)) (Ps := []) (by decide +kernel) rfl rfl trivial ?_
    refine G.ic_ge (off := (16)) (tgt := 65) (by decide +kernel) rfl (fun _ => ?_) (fun h9 => absurd (nI_le (by omega) (by omega)) h9)
    refine G.loc (ls2 := [some (.ref 54), none, none, none, none, none]) (by simp [subL]) ?_
    exact hX
  · skip
    intro i2 hi ih
    show G z mX12_book (d + 2) 0 0 46 [some (.ref 54), none, some (.int (nI i2)), none, none, none] [] (mrow M 74 (k_book_46d (M.1 74) i2)) Q
    refine G.sl [(.iload_n 2, 1, 2, 0, 0, 0), (.bipush 8, 2, 0, 0, 0, nI 8)] [] (pc2 := 49) (ls2 := [some (.ref 54), none, some (.int (nI i2)), none, none, none]) (st2 := [.int (nI 8), .int (nI i2)]) (M2 := mrow M 74 (k_book_46d (M.1 74) i2)) (Ps := []) (by decide +kernel) rfl rfl trivial ?_
    refine G.ic_ge (off := (16)) (tgt := 65) (by decide +kernel) rfl (fun h9 => absurd h9 (nI_ge (by omega) (by omega))) (fun _ => ?_)
    refine G.sl [(.aload_n 0, 1, 0, 0, 0, 0), (.getfield 74, 3, 11, 43, 166, 0), (.iload_n 2, 1, 2, 0, 0, 0), (.iconst (-1), 1, 0, 0, 0, (-1)), (.iastore, 1, 0, 0, 0, 0), (.iinc 2 1, 3, 2, 0, 0, nI 1), (.goto (-16), 3, 46, 0, 0, 0)] [i2] (pc2 := 46) (ls2 := [some (.ref 54), none, some (.int ((nI i2) + nI 1)), none, none, none]) (st2 := []) (M2 := mput (mrow M 74 (k_book_46d (M.1 74) i2)) 74 i2 ((-1))) (Ps := [(nI i2) = nI i2 ∧ i2 < 8]) (by decide +kernel) rfl rfl ⟨⟨rfl, (by omega)⟩, trivial⟩ ?_
    refine G.mem (M' := mrow M 74 (upd (k_book_46d (M.1 74) i2) i2 ((-1)))) (by first | rfl | (simp only [mput, mrow_same, mrow_hit, mrow_miss, mrow_sw, idr_eq, ne_eq, Nat.reduceEqDiff, not_false_eq_true, Nat.reduceLT, reduceCtorEq]; done)) ?_
    rw [nI_add i2 1]
    simp only [k_book_46d] at ih
    exact ih
noncomputable def k_book_67d (Rtape : Nat → Int32) : Nat → Int32 → (Nat → Int32) → (Nat → Int32) → Int32 × (Nat → Int32) × (Nat → Int32)
  | 0, s2, q54, q74 => (s2, q54, q74)
  | k0 + 1, s2, q54, q74 => (if (k_fine q54) = 0 then (s2, q54, q74) else (match k_isMore q54 (Rtape) with | (v382, r383) => (if v382 = 0 then (s2, r383, q74) else (match k_here r383 (Rtape) with | (v389, r390) => (match k_readNumber r390 (Rtape) (nI 0) ((r390 20) - (nI 1)) with | (v395, r396) => (if (k_fine r396) = 0 then (match k_readNumber r396 (Rtape) (nI 0) (nI 600) with | (v405, r406) => (match k_sign r406 (Rtape) (nI 59) with | (u411, r412) => (if (k_fine r412) = 0 then (s2, r412, q74) else k_book_67d Rtape k0 (s2 + nI 1) r412 (upd q74 (ix v395) v405)))) else (if (q74 (ix v395)) = ((-1)) then (match k_readNumber r396 (Rtape) (nI 0) (nI 600) with | (v426, r427) => (match k_sign r427 (Rtape) (nI 59) with | (u432, r433) => (if (k_fine r433) = 0 then (s2, r433, q74) else k_book_67d Rtape k0 (s2 + nI 1) r433 (upd q74 (ix v395) v426)))) else (match k_wrong r396 (nI 2) (r390 4) with | (u442, r443) => (match k_readNumber r443 (Rtape) (nI 0) (nI 600) with | (v448, r449) => (match k_sign r449 (Rtape) (nI 59) with | (u454, r455) => (if (k_fine r455) = 0 then (s2, r455, q74) else k_book_67d Rtape k0 (s2 + nI 1) r455 (upd q74 (ix v395) v448))))))))))))
noncomputable def k_book_67d_ok (Rtape : Nat → Int32) : Nat → Int32 → (Nat → Int32) → (Nat → Int32) → Prop
  | 0, _, _, _ => False
  | k0 + 1, s2, q54, q74 => (True ∧ (if (k_fine q54) = 0 then True else (k_isMore_ok q54 (Rtape) ∧ (match k_isMore q54 (Rtape) with | (v382, r383) => (if v382 = 0 then True else (k_here_ok r383 (Rtape) ∧ (match k_here r383 (Rtape) with | (v389, r390) => (k_readNumber_ok r390 (Rtape) (nI 0) ((r390 20) - (nI 1)) ∧ (match k_readNumber r390 (Rtape) (nI 0) ((r390 20) - (nI 1)) with | (v395, r396) => (True ∧ (if (k_fine r396) = 0 then (k_readNumber_ok r396 (Rtape) (nI 0) (nI 600) ∧ (match k_readNumber r396 (Rtape) (nI 0) (nI 600) with | (v405, r406) => (k_sign_ok r406 (Rtape) (nI 59) ∧ (match k_sign r406 (Rtape) (nI 59) with | (u411, r412) => (True ∧ (if (k_fine r412) = 0 then True else ((isN v395) ∧ (ix v395 < 8) ∧ k_book_67d_ok Rtape k0 (s2 + nI 1) r412 (upd q74 (ix v395) v405)))))))) else ((isN v395) ∧ (ix v395 < 8) ∧ (if (q74 (ix v395)) = ((-1)) then (k_readNumber_ok r396 (Rtape) (nI 0) (nI 600) ∧ (match k_readNumber r396 (Rtape) (nI 0) (nI 600) with | (v426, r427) => (k_sign_ok r427 (Rtape) (nI 59) ∧ (match k_sign r427 (Rtape) (nI 59) with | (u432, r433) => (True ∧ (if (k_fine r433) = 0 then True else k_book_67d_ok Rtape k0 (s2 + nI 1) r433 (upd q74 (ix v395) v426))))))) else (True ∧ (match k_wrong r396 (nI 2) (r390 4) with | (u442, r443) => (k_readNumber_ok r443 (Rtape) (nI 0) (nI 600) ∧ (match k_readNumber r443 (Rtape) (nI 0) (nI 600) with | (v448, r449) => (k_sign_ok r449 (Rtape) (nI 59) ∧ (match k_sign r449 (Rtape) (nI 59) with | (u454, r455) => (True ∧ (if (k_fine r455) = 0 then True else k_book_67d_ok Rtape k0 (s2 + nI 1) r455 (upd q74 (ix v395) v448))))))))))))))))))))))
set_option maxHeartbeats 4000000 in
set_option maxRecDepth 3000 in
theorem lp_k_book_54_67d (z : Zp) (d : Nat) (M : Mem) (Q : Rs → Prop) : ∀ (k0 : Nat) (s2 : Int32) (q54 : (Nat → Int32)) (q74 : (Nat → Int32)), k_book_67d_ok (M.1 56) k0 s2 q54 q74 → (match k_book_67d (M.1 56) k0 s2 q54 q74 with | (s2', q54', q74') => G z mX12_book (d + 2) 0 0 169 [some (.ref 54), none, some (.int (s2')), none, none, none] [] (mrow (mrow M 54 (q54')) 74 (q74')) Q) → G z mX12_book (d + 2) 0 0 67 [some (.ref 54), none, some (.int s2), none, none, none] [] (mrow (mrow M 54 q54) 74 q74) Q := by
  intro k0
  induction k0 with
  | zero =>
      intro s2 q54 q74 hk hX
      exact (by simpa only [k_book_67d_ok] using hk : False).elim
  | succ k0 ih =>
      intro s2 q54 q74 hk hX
      simp only [k_book_67d_ok] at hk
      refine G.sl [(.aload_n 0, 1, 0, 0, 0, 0)] [] (pc2 := 68) (ls2 := [some (.ref 54), none, some (.int s2), none, none, none]) (st2 := [.ref 54]) (M2 := mrow (mrow M 54 q54) 74 q74) (Ps := []) (by decide +kernel) rfl rfl trivial ?_
      obtain ⟨k376, hk⟩ := hk
      have t377 : GM z mX12_fine (d + 1) [.ref 54] (mrow (mrow M 54 q54) 74 q74) (fun rs => rs = .inl (some (.int (k_fine q54)), mrow (mrow M 54 q54) 74 q74)) := by
        have q9 := c_k_fine_54 z (d + 1) (mrow (mrow M 54 q54) 74 q74) 
        try simp only [mput, mrow_same, mrow_hit, mrow_miss, mrow_sw, idr_eq, ne_eq, Nat.reduceEqDiff, not_false_eq_true, Nat.reduceLT, reduceCtorEq] at q9
        exact q9
      refine G.callV (as := []) (rest := []) (a := 54) oX12_fine lk_EvenFindersModel_130 (by decide +kernel) rfl rfl ⟨rfl, rfl⟩ (Nat.le_of_ble_eq_true rfl) rfl ⟨Nat.le_of_ble_eq_true rfl, Nat.le_of_ble_eq_true rfl⟩ t377 (fun v9 N9 h378 => ?_) (fun E9 N9 h378 => by cases h378)
      cases h378
      show G z mX12_book (d + 2) 0 0 71 [some (.ref 54), none, some (.int s2), none, none, none] [.int (k_fine q54)] (mrow (mrow M 54 q54) 74 q74) Q
      refine G.if_eq (off := (98)) (tgt := 169) (by decide +kernel) rfl (fun c379 => ?_) (fun c379 => ?_)
      · skip
        rw [if_pos c379] at hk
        simp only [k_book_67d, if_pos c379] at hX
        exact hX
      · skip
        rw [if_neg c379] at hk
        refine G.sl [(.aload_n 0, 1, 0, 0, 0, 0)] [] (pc2 := 75) (ls2 := [some (.ref 54), none, some (.int s2), none, none, none]) (st2 := [.ref 54]) (M2 := mrow (mrow M 54 q54) 74 q74) (Ps := []) (by decide +kernel) rfl rfl trivial ?_
        obtain ⟨k380, hk⟩ := hk
        rcases g381 : k_isMore q54 (M.1 56) with ⟨v382, r383⟩
        try simp only [g381] at hk
        have ev382 : v382 = 0 ∨ v382 = 1 := by
          have q9 := k_isMore_01 q54 (M.1 56)
          rw [g381] at q9
          exact q9
        have t384 : GM z mX12_isMore (d + 1) [.ref 54] (mrow (mrow M 54 q54) 74 q74) (fun rs => rs = .inl (some (.int v382), mrow (mrow M 54 r383) 74 q74)) := by
          have q9 := c_k_isMore_54 z d (mrow (mrow M 54 q54) 74 q74) k380
          try simp only [mput, mrow_same, mrow_hit, mrow_miss, mrow_sw, idr_eq, ne_eq, Nat.reduceEqDiff, not_false_eq_true, Nat.reduceLT, reduceCtorEq, g381] at q9
          exact q9
        refine G.callV (as := []) (rest := []) (a := 54) oX12_isMore lk_EvenFindersModel_221 (by decide +kernel) rfl rfl ⟨rfl, rfl⟩ (Nat.le_of_ble_eq_true rfl) rfl ⟨Nat.le_of_ble_eq_true rfl, Nat.le_of_ble_eq_true rfl⟩ t384 (fun v9 N9 h385 => ?_) (fun E9 N9 h385 => by cases h385)
        cases h385
        show G z mX12_book (d + 2) 0 0 78 [some (.ref 54), none, some (.int s2), none, none, none] [.int v382] (mrow (mrow M 54 r383) 74 q74) Q
        refine G.if_eq (off := (91)) (tgt := 169) (by decide +kernel) rfl (fun c386 => ?_) (fun c386 => ?_)
        · skip
          rw [if_pos c386] at hk
          simp only [k_book_67d, if_neg c379, g381, if_pos c386] at hX
          exact hX
        · skip
          rw [if_neg c386] at hk
          refine G.sl [(.aload_n 0, 1, 0, 0, 0, 0)] [] (pc2 := 82) (ls2 := [some (.ref 54), none, some (.int s2), none, none, none]) (st2 := [.ref 54]) (M2 := mrow (mrow M 54 r383) 74 q74) (Ps := []) (by decide +kernel) rfl rfl trivial ?_
          obtain ⟨k387, hk⟩ := hk
          rcases g388 : k_here r383 (M.1 56) with ⟨v389, r390⟩
          try simp only [g388] at hk
          have t391 : GM z mX12_here (d + 1) [.ref 54] (mrow (mrow M 54 r383) 74 q74) (fun rs => rs = .inl (some (.int v389), mrow (mrow M 54 r390) 74 q74)) := by
            have q9 := c_k_here_54 z (d + 1) (mrow (mrow M 54 r383) 74 q74) k387
            try simp only [mput, mrow_same, mrow_hit, mrow_miss, mrow_sw, idr_eq, ne_eq, Nat.reduceEqDiff, not_false_eq_true, Nat.reduceLT, reduceCtorEq, g388] at q9
            exact q9
          refine G.callV (as := []) (rest := []) (a := 54) oX12_here lk_EvenFindersModel_113 (by decide +kernel) rfl rfl ⟨rfl, rfl⟩ (Nat.le_of_ble_eq_true rfl) rfl ⟨Nat.le_of_ble_eq_true rfl, Nat.le_of_ble_eq_true rfl⟩ t391 (fun v9 N9 h392 => ?_) (fun E9 N9 h392 => by cases h392)
          cases h392
          show G z mX12_book (d + 2) 0 0 85 [some (.ref 54), none, some (.int s2), none, none, none] [.int v389] (mrow (mrow M 54 r390) 74 q74) Q
          refine G.sl [(.pop, 1, 0, 0, 0, 0), (.aload_n 0, 1, 0, 0, 0, 0), (.getfield 107, 3, 11, 4, 127, 0), (.istore_n 3, 1, 3, 0, 0, 0), (.aload_n 0, 1, 0, 0, 0, 0), (.iconst 0, 1, 0, 0, 0, nI 0), (.aload_n 0, 1, 0, 0, 0, 0), (.getfield 156, 3, 11, 20, 143, 0), (.iconst 1, 1, 0, 0, 0, nI 1), (.isub, 1, 0, 0, 0, 0)] [] (pc2 := 99) (ls2 := [some (.ref 54), none, some (.int s2), some (.int (r390 4)), none, none]) (st2 := [.int ((r390 20) - (nI 1)), .int (nI 0), .ref 54]) (M2 := mrow (mrow M 54 r390) 74 q74) (Ps := []) (by decide +kernel) rfl rfl trivial ?_
          obtain ⟨k393, hk⟩ := hk
          rcases g394 : k_readNumber r390 (M.1 56) (nI 0) ((r390 20) - (nI 1)) with ⟨v395, r396⟩
          try simp only [g394] at hk
          have t397 : GM z mX12_readNumber (d + 1) [.ref 54, .int (nI 0), .int ((r390 20) - (nI 1))] (mrow (mrow M 54 r390) 74 q74) (fun rs => rs = .inl (some (.int v395), mrow (mrow M 54 r396) 74 q74)) := by
            have q9 := c_k_readNumber_54 z d (mrow (mrow M 54 r390) 74 q74) (nI 0) ((r390 20) - (nI 1)) k393
            try simp only [mput, mrow_same, mrow_hit, mrow_miss, mrow_sw, idr_eq, ne_eq, Nat.reduceEqDiff, not_false_eq_true, Nat.reduceLT, reduceCtorEq, g394] at q9
            exact q9
          refine G.callV (as := [.int (nI 0), .int ((r390 20) - (nI 1))]) (rest := []) (a := 54) oX12_readNumber lk_EvenFindersModel_190 (by decide +kernel) rfl rfl ⟨rfl, rfl⟩ (Nat.le_of_ble_eq_true rfl) rfl ⟨Nat.le_of_ble_eq_true rfl, Nat.le_of_ble_eq_true rfl⟩ t397 (fun v9 N9 h398 => ?_) (fun E9 N9 h398 => by cases h398)
          cases h398
          show G z mX12_book (d + 2) 0 0 102 [some (.ref 54), none, some (.int s2), some (.int (r390 4)), none, none] [.int v395] (mrow (mrow M 54 r396) 74 q74) Q
          refine G.sl [(.istore 4, 2, 4, 0, 0, 0), (.aload_n 0, 1, 0, 0, 0, 0)] [] (pc2 := 105) (ls2 := [some (.ref 54), none, some (.int s2), some (.int (r390 4)), some (.int v395), none]) (st2 := [.ref 54]) (M2 := mrow (mrow M 54 r396) 74 q74) (Ps := []) (by decide +kernel) rfl rfl trivial ?_
          obtain ⟨k399, hk⟩ := hk
          have t400 : GM z mX12_fine (d + 1) [.ref 54] (mrow (mrow M 54 r396) 74 q74) (fun rs => rs = .inl (some (.int (k_fine r396)), mrow (mrow M 54 r396) 74 q74)) := by
            have q9 := c_k_fine_54 z (d + 1) (mrow (mrow M 54 r396) 74 q74) 
            try simp only [mput, mrow_same, mrow_hit, mrow_miss, mrow_sw, idr_eq, ne_eq, Nat.reduceEqDiff, not_false_eq_true, Nat.reduceLT, reduceCtorEq] at q9
            exact q9
          refine G.callV (as := []) (rest := []) (a := 54) oX12_fine lk_EvenFindersModel_130 (by decide +kernel) rfl rfl ⟨rfl, rfl⟩ (Nat.le_of_ble_eq_true rfl) rfl ⟨Nat.le_of_ble_eq_true rfl, Nat.le_of_ble_eq_true rfl⟩ t400 (fun v9 N9 h401 => ?_) (fun E9 N9 h401 => by cases h401)
          cases h401
          show G z mX12_book (d + 2) 0 0 108 [some (.ref 54), none, some (.int s2), some (.int (r390 4)), some (.int v395), none] [.int (k_fine r396)] (mrow (mrow M 54 r396) 74 q74) Q
          refine G.if_eq (off := (20)) (tgt := 128) (by decide +kernel) rfl (fun c402 => ?_) (fun c402 => ?_)
          · skip
            rw [if_pos c402] at hk
            refine G.sl [(.aload_n 0, 1, 0, 0, 0, 0), (.iconst 0, 1, 0, 0, 0, nI 0), (.sipush 600, 3, 0, 0, 0, nI 600)] [] (pc2 := 133) (ls2 := [some (.ref 54), none, some (.int s2), some (.int (r390 4)), some (.int v395), none]) (st2 := [.int (nI 600), .int (nI 0), .ref 54]) (M2 := mrow (mrow M 54 r396) 74 q74) (Ps := []) (by decide +kernel) rfl rfl trivial ?_
            obtain ⟨k403, hk⟩ := hk
            rcases g404 : k_readNumber r396 (M.1 56) (nI 0) (nI 600) with ⟨v405, r406⟩
            try simp only [g404] at hk
            have t407 : GM z mX12_readNumber (d + 1) [.ref 54, .int (nI 0), .int (nI 600)] (mrow (mrow M 54 r396) 74 q74) (fun rs => rs = .inl (some (.int v405), mrow (mrow M 54 r406) 74 q74)) := by
              have q9 := c_k_readNumber_54 z d (mrow (mrow M 54 r396) 74 q74) (nI 0) (nI 600) k403
              try simp only [mput, mrow_same, mrow_hit, mrow_miss, mrow_sw, idr_eq, ne_eq, Nat.reduceEqDiff, not_false_eq_true, Nat.reduceLT, reduceCtorEq, g404] at q9
              exact q9
            refine G.callV (as := [.int (nI 0), .int (nI 600)]) (rest := []) (a := 54) oX12_readNumber lk_EvenFindersModel_190 (by decide +kernel) rfl rfl ⟨rfl, rfl⟩ (Nat.le_of_ble_eq_true rfl) rfl ⟨Nat.le_of_ble_eq_true rfl, Nat.le_of_ble_eq_true rfl⟩ t407 (fun v9 N9 h408 => ?_) (fun E9 N9 h408 => by cases h408)
            cases h408
            show G z mX12_book (d + 2) 0 0 136 [some (.ref 54), none, some (.int s2), some (.int (r390 4)), some (.int v395), none] [.int v405] (mrow (mrow M 54 r406) 74 q74) Q
            refine G.sl [(.istore 5, 2, 5, 0, 0, 0), (.aload_n 0, 1, 0, 0, 0, 0), (.bipush 59, 2, 0, 0, 0, nI 59)] [] (pc2 := 141) (ls2 := [some (.ref 54), none, some (.int s2), some (.int (r390 4)), some (.int v395), some (.int v405)]) (st2 := [.int (nI 59), .ref 54]) (M2 := mrow (mrow M 54 r406) 74 q74) (Ps := []) (by decide +kernel) rfl rfl trivial ?_
            obtain ⟨k409, hk⟩ := hk
            rcases g410 : k_sign r406 (M.1 56) (nI 59) with ⟨u411, r412⟩
            try simp only [g410] at hk
            have t413 : GM z mX12_sign (d + 1) [.ref 54, .int (nI 59)] (mrow (mrow M 54 r406) 74 q74) (fun rs => rs = .inl (none, mrow (mrow M 54 r412) 74 q74)) := by
              have q9 := c_k_sign_54 z d (mrow (mrow M 54 r406) 74 q74) (nI 59) k409
              try simp only [mput, mrow_same, mrow_hit, mrow_miss, mrow_sw, idr_eq, ne_eq, Nat.reduceEqDiff, not_false_eq_true, Nat.reduceLT, reduceCtorEq, g410] at q9
              exact q9
            refine G.callV (as := [.int (nI 59)]) (rest := []) (a := 54) oX12_sign lk_EvenFindersModel_239 (by decide +kernel) rfl rfl ⟨rfl, rfl⟩ (Nat.le_of_ble_eq_true rfl) rfl ⟨Nat.le_of_ble_eq_true rfl, Nat.le_of_ble_eq_true rfl⟩ t413 (fun v9 N9 h414 => ?_) (fun E9 N9 h414 => by cases h414)
            cases h414
            show G z mX12_book (d + 2) 0 0 144 [some (.ref 54), none, some (.int s2), some (.int (r390 4)), some (.int v395), some (.int v405)] [] (mrow (mrow M 54 r412) 74 q74) Q
            refine G.sl [(.aload_n 0, 1, 0, 0, 0, 0)] [] (pc2 := 145) (ls2 := [some (.ref 54), none, some (.int s2), some (.int (r390 4)), some (.int v395), some (.int v405)]) (st2 := [.ref 54]) (M2 := mrow (mrow M 54 r412) 74 q74) (Ps := []) (by decide +kernel) rfl rfl trivial ?_
            obtain ⟨k415, hk⟩ := hk
            have t416 : GM z mX12_fine (d + 1) [.ref 54] (mrow (mrow M 54 r412) 74 q74) (fun rs => rs = .inl (some (.int (k_fine r412)), mrow (mrow M 54 r412) 74 q74)) := by
              have q9 := c_k_fine_54 z (d + 1) (mrow (mrow M 54 r412) 74 q74) 
              try simp only [mput, mrow_same, mrow_hit, mrow_miss, mrow_sw, idr_eq, ne_eq, Nat.reduceEqDiff, not_false_eq_true, Nat.reduceLT, reduceCtorEq] at q9
              exact q9
            refine G.callV (as := []) (rest := []) (a := 54) oX12_fine lk_EvenFindersModel_130 (by decide +kernel) rfl rfl ⟨rfl, rfl⟩ (Nat.le_of_ble_eq_true rfl) rfl ⟨Nat.le_of_ble_eq_true rfl, Nat.le_of_ble_eq_true rfl⟩ t416 (fun v9 N9 h417 => ?_) (fun E9 N9 h417 => by cases h417)
            cases h417
            show G z mX12_book (d + 2) 0 0 148 [some (.ref 54), none, some (.int s2), some (.int (r390 4)), some (.int v395), some (.int v405)] [.int (k_fine r412)] (mrow (mrow M 54 r412) 74 q74) Q
            refine G.if_ne (off := (6)) (tgt := 154) (by decide +kernel) rfl (fun c418 => ?_) (fun c418 => ?_)
            · skip
              rw [if_neg c418] at hk
              obtain ⟨k419, k420, hk⟩ := hk
              refine G.sl [(.aload_n 0, 1, 0, 0, 0, 0), (.getfield 74, 3, 11, 43, 166, 0), (.iload 4, 2, 4, 0, 0, 0), (.iload 5, 2, 5, 0, 0, 0), (.iastore, 1, 0, 0, 0, 0), (.iinc 2 1, 3, 2, 0, 0, nI 1), (.goto (-99), 3, 67, 0, 0, 0)] [ix v395] (pc2 := 67) (ls2 := [some (.ref 54), none, some (.int (s2 + nI 1)), some (.int (r390 4)), some (.int v395), some (.int v405)]) (st2 := []) (M2 := mput (mrow (mrow M 54 r412) 74 q74) 74 (ix v395) v405) (Ps := [v395 = nI (ix v395) ∧ (ix v395) < 8]) (by decide +kernel) rfl rfl ⟨⟨(ixE k419), k420⟩, trivial⟩ ?_
              refine G.mem (M' := mrow (mrow M 54 r412) 74 (upd q74 (ix v395) v405)) (by first | rfl | (simp only [mput, mrow_same, mrow_hit, mrow_miss, mrow_sw, idr_eq, ne_eq, Nat.reduceEqDiff, not_false_eq_true, Nat.reduceLT, reduceCtorEq]; done)) ?_
              refine G.loc (ls2 := [some (.ref 54), none, some (.int (s2 + nI 1)), none, none, none]) (by simp [subL]) ?_
              simp only [k_book_67d, if_neg c379, g381, if_neg c386, g388, g394, if_pos c402, g404, g410, if_neg c418] at hX
              exact ih (s2 + nI 1) r412 (upd q74 (ix v395) v405) hk hX
            · skip
              rw [if_pos c418] at hk
              refine G.sl [(.goto 18, 3, 169, 0, 0, 0)] [] (pc2 := 169) (ls2 := [some (.ref 54), none, some (.int s2), some (.int (r390 4)), some (.int v395), some (.int v405)]) (st2 := []) (M2 := mrow (mrow M 54 r412) 74 q74) (Ps := []) (by decide +kernel) rfl rfl trivial ?_
              refine G.loc (ls2 := [some (.ref 54), none, some (.int s2), none, none, none]) (by simp [subL]) ?_
              simp only [k_book_67d, if_neg c379, g381, if_neg c386, g388, g394, if_pos c402, g404, g410, if_pos c418] at hX
              exact hX
          · skip
            rw [if_neg c402] at hk
            obtain ⟨k421, k422, hk⟩ := hk
            refine G.sl [(.aload_n 0, 1, 0, 0, 0, 0), (.getfield 74, 3, 11, 43, 166, 0), (.iload 4, 2, 4, 0, 0, 0), (.iaload, 1, 0, 0, 0, 0), (.iconst (-1), 1, 0, 0, 0, (-1))] [ix v395] (pc2 := 119) (ls2 := [some (.ref 54), none, some (.int s2), some (.int (r390 4)), some (.int v395), none]) (st2 := [.int ((-1)), .int (q74 (ix v395))]) (M2 := mrow (mrow M 54 r396) 74 q74) (Ps := [v395 = nI (ix v395) ∧ (ix v395) < 8]) (by decide +kernel) rfl rfl ⟨⟨(ixE k421), k422⟩, trivial⟩ ?_
            refine G.ic_eq (off := (9)) (tgt := 128) (by decide +kernel) rfl (fun c423 => ?_) (fun c423 => ?_)
            · skip
              rw [if_pos c423] at hk
              refine G.sl [(.aload_n 0, 1, 0, 0, 0, 0), (.iconst 0, 1, 0, 0, 0, nI 0), (.sipush 600, 3, 0, 0, 0, nI 600)] [] (pc2 := 133) (ls2 := [some (.ref 54), none, some (.int s2), some (.int (r390 4)), some (.int v395), none]) (st2 := [.int (nI 600), .int (nI 0), .ref 54]) (M2 := mrow (mrow M 54 r396) 74 q74) (Ps := []) (by decide +kernel) rfl rfl trivial ?_
              obtain ⟨k424, hk⟩ := hk
              rcases g425 : k_readNumber r396 (M.1 56) (nI 0) (nI 600) with ⟨v426, r427⟩
              try simp only [g425] at hk
              have t428 : GM z mX12_readNumber (d + 1) [.ref 54, .int (nI 0), .int (nI 600)] (mrow (mrow M 54 r396) 74 q74) (fun rs => rs = .inl (some (.int v426), mrow (mrow M 54 r427) 74 q74)) := by
                have q9 := c_k_readNumber_54 z d (mrow (mrow M 54 r396) 74 q74) (nI 0) (nI 600) k424
                try simp only [mput, mrow_same, mrow_hit, mrow_miss, mrow_sw, idr_eq, ne_eq, Nat.reduceEqDiff, not_false_eq_true, Nat.reduceLT, reduceCtorEq, g425] at q9
                exact q9
              refine G.callV (as := [.int (nI 0), .int (nI 600)]) (rest := []) (a := 54) oX12_readNumber lk_EvenFindersModel_190 (by decide +kernel) rfl rfl ⟨rfl, rfl⟩ (Nat.le_of_ble_eq_true rfl) rfl ⟨Nat.le_of_ble_eq_true rfl, Nat.le_of_ble_eq_true rfl⟩ t428 (fun v9 N9 h429 => ?_) (fun E9 N9 h429 => by cases h429)
              cases h429
              show G z mX12_book (d + 2) 0 0 136 [some (.ref 54), none, some (.int s2), some (.int (r390 4)), some (.int v395), none] [.int v426] (mrow (mrow M 54 r427) 74 q74) Q
              refine G.sl [(.istore 5, 2, 5, 0, 0, 0), (.aload_n 0, 1, 0, 0, 0, 0), (.bipush 59, 2, 0, 0, 0, nI 59)] [] (pc2 := 141) (ls2 := [some (.ref 54), none, some (.int s2), some (.int (r390 4)), some (.int v395), some (.int v426)]) (st2 := [.int (nI 59), .ref 54]) (M2 := mrow (mrow M 54 r427) 74 q74) (Ps := []) (by decide +kernel) rfl rfl trivial ?_
              obtain ⟨k430, hk⟩ := hk
              rcases g431 : k_sign r427 (M.1 56) (nI 59) with ⟨u432, r433⟩
              try simp only [g431] at hk
              have t434 : GM z mX12_sign (d + 1) [.ref 54, .int (nI 59)] (mrow (mrow M 54 r427) 74 q74) (fun rs => rs = .inl (none, mrow (mrow M 54 r433) 74 q74)) := by
                have q9 := c_k_sign_54 z d (mrow (mrow M 54 r427) 74 q74) (nI 59) k430
                try simp only [mput, mrow_same, mrow_hit, mrow_miss, mrow_sw, idr_eq, ne_eq, Nat.reduceEqDiff, not_false_eq_true, Nat.reduceLT, reduceCtorEq, g431] at q9
                exact q9
              refine G.callV (as := [.int (nI 59)]) (rest := []) (a := 54) oX12_sign lk_EvenFindersModel_239 (by decide +kernel) rfl rfl ⟨rfl, rfl⟩ (Nat.le_of_ble_eq_true rfl) rfl ⟨Nat.le_of_ble_eq_true rfl, Nat.le_of_ble_eq_true rfl⟩ t434 (fun v9 N9 h435 => ?_) (fun E9 N9 h435 => by cases h435)
              cases h435
              show G z mX12_book (d + 2) 0 0 144 [some (.ref 54), none, some (.int s2), some (.int (r390 4)), some (.int v395), some (.int v426)] [] (mrow (mrow M 54 r433) 74 q74) Q
              refine G.sl [(.aload_n 0, 1, 0, 0, 0, 0)] [] (pc2 := 145) (ls2 := [some (.ref 54), none, some (.int s2), some (.int (r390 4)), some (.int v395), some (.int v426)]) (st2 := [.ref 54]) (M2 := mrow (mrow M 54 r433) 74 q74) (Ps := []) (by decide +kernel) rfl rfl trivial ?_
              obtain ⟨k436, hk⟩ := hk
              have t437 : GM z mX12_fine (d + 1) [.ref 54] (mrow (mrow M 54 r433) 74 q74) (fun rs => rs = .inl (some (.int (k_fine r433)), mrow (mrow M 54 r433) 74 q74)) := by
                have q9 := c_k_fine_54 z (d + 1) (mrow (mrow M 54 r433) 74 q74) 
                try simp only [mput, mrow_same, mrow_hit, mrow_miss, mrow_sw, idr_eq, ne_eq, Nat.reduceEqDiff, not_false_eq_true, Nat.reduceLT, reduceCtorEq] at q9
                exact q9
              refine G.callV (as := []) (rest := []) (a := 54) oX12_fine lk_EvenFindersModel_130 (by decide +kernel) rfl rfl ⟨rfl, rfl⟩ (Nat.le_of_ble_eq_true rfl) rfl ⟨Nat.le_of_ble_eq_true rfl, Nat.le_of_ble_eq_true rfl⟩ t437 (fun v9 N9 h438 => ?_) (fun E9 N9 h438 => by cases h438)
              cases h438
              show G z mX12_book (d + 2) 0 0 148 [some (.ref 54), none, some (.int s2), some (.int (r390 4)), some (.int v395), some (.int v426)] [.int (k_fine r433)] (mrow (mrow M 54 r433) 74 q74) Q
              refine G.if_ne (off := (6)) (tgt := 154) (by decide +kernel) rfl (fun c439 => ?_) (fun c439 => ?_)
              · skip
                rw [if_neg c439] at hk
                refine G.sl [(.aload_n 0, 1, 0, 0, 0, 0), (.getfield 74, 3, 11, 43, 166, 0), (.iload 4, 2, 4, 0, 0, 0), (.iload 5, 2, 5, 0, 0, 0), (.iastore, 1, 0, 0, 0, 0), (.iinc 2 1, 3, 2, 0, 0, nI 1), (.goto (-99), 3, 67, 0, 0, 0)] [ix v395] (pc2 := 67) (ls2 := [some (.ref 54), none, some (.int (s2 + nI 1)), some (.int (r390 4)), some (.int v395), some (.int v426)]) (st2 := []) (M2 := mput (mrow (mrow M 54 r433) 74 q74) 74 (ix v395) v426) (Ps := [v395 = nI (ix v395) ∧ (ix v395) < 8]) (by decide +kernel) rfl rfl ⟨⟨(ixE k421), k422⟩, trivial⟩ ?_
                refine G.mem (M' := mrow (mrow M 54 r433) 74 (upd q74 (ix v395) v426)) (by first | rfl | (simp only [mput, mrow_same, mrow_hit, mrow_miss, mrow_sw, idr_eq, ne_eq, Nat.reduceEqDiff, not_false_eq_true, Nat.reduceLT, reduceCtorEq]; done)) ?_
                refine G.loc (ls2 := [some (.ref 54), none, some (.int (s2 + nI 1)), none, none, none]) (by simp [subL]) ?_
                simp only [k_book_67d, if_neg c379, g381, if_neg c386, g388, g394, if_neg c402, if_pos c423, g425, g431, if_neg c439] at hX
                exact ih (s2 + nI 1) r433 (upd q74 (ix v395) v426) hk hX
              · skip
                rw [if_pos c439] at hk
                refine G.sl [(.goto 18, 3, 169, 0, 0, 0)] [] (pc2 := 169) (ls2 := [some (.ref 54), none, some (.int s2), some (.int (r390 4)), some (.int v395), some (.int v426)]) (st2 := []) (M2 := mrow (mrow M 54 r433) 74 q74) (Ps := []) (by decide +kernel) rfl rfl trivial ?_
                refine G.loc (ls2 := [some (.ref 54), none, some (.int s2), none, none, none]) (by simp [subL]) ?_
                simp only [k_book_67d, if_neg c379, g381, if_neg c386, g388, g394, if_neg c402, if_pos c423, g425, g431, if_pos c439] at hX
                exact hX
            · skip
              rw [if_neg c423] at hk
              refine G.sl [(.aload_n 0, 1, 0, 0, 0, 0), (.iconst 2, 1, 0, 0, 0, nI 2), (.iload_n 3, 1, 3, 0, 0, 0)] [] (pc2 := 125) (ls2 := [some (.ref 54), none, some (.int s2), some (.int (r390 4)), some (.int v395), none]) (st2 := [.int (r390 4), .int (nI 2), .ref 54]) (M2 := mrow (mrow M 54 r396) 74 q74) (Ps := []) (by decide +kernel) rfl rfl trivial ?_
              obtain ⟨k440, hk⟩ := hk
              rcases g441 : k_wrong r396 (nI 2) (r390 4) with ⟨u442, r443⟩
              try simp only [g441] at hk
              have t444 : GM z mX12_wrong (d + 1) [.ref 54, .int (nI 2), .int (r390 4)] (mrow (mrow M 54 r396) 74 q74) (fun rs => rs = .inl (none, mrow (mrow M 54 r443) 74 q74)) := by
                have q9 := c_k_wrong_54 z (d + 1) (mrow (mrow M 54 r396) 74 q74) (nI 2) (r390 4)
                try simp only [mput, mrow_same, mrow_hit, mrow_miss, mrow_sw, idr_eq, ne_eq, Nat.reduceEqDiff, not_false_eq_true, Nat.reduceLT, reduceCtorEq, g441] at q9
                exact q9
              refine G.callV (as := [.int (nI 2), .int (r390 4)]) (rest := []) (a := 54) oX12_wrong lk_EvenFindersModel_137 (by decide +kernel) rfl rfl ⟨rfl, rfl⟩ (Nat.le_of_ble_eq_true rfl) rfl ⟨Nat.le_of_ble_eq_true rfl, Nat.le_of_ble_eq_true rfl⟩ t444 (fun v9 N9 h445 => ?_) (fun E9 N9 h445 => by cases h445)
              cases h445
              show G z mX12_book (d + 2) 0 0 128 [some (.ref 54), none, some (.int s2), some (.int (r390 4)), some (.int v395), none] [] (mrow (mrow M 54 r443) 74 q74) Q
              refine G.sl [(.aload_n 0, 1, 0, 0, 0, 0), (.iconst 0, 1, 0, 0, 0, nI 0), (.sipush 600, 3, 0, 0, 0, nI 600)] [] (pc2 := 133) (ls2 := [some (.ref 54), none, some (.int s2), some (.int (r390 4)), some (.int v395), none]) (st2 := [.int (nI 600), .int (nI 0), .ref 54]) (M2 := mrow (mrow M 54 r443) 74 q74) (Ps := []) (by decide +kernel) rfl rfl trivial ?_
              obtain ⟨k446, hk⟩ := hk
              rcases g447 : k_readNumber r443 (M.1 56) (nI 0) (nI 600) with ⟨v448, r449⟩
              try simp only [g447] at hk
              have t450 : GM z mX12_readNumber (d + 1) [.ref 54, .int (nI 0), .int (nI 600)] (mrow (mrow M 54 r443) 74 q74) (fun rs => rs = .inl (some (.int v448), mrow (mrow M 54 r449) 74 q74)) := by
                have q9 := c_k_readNumber_54 z d (mrow (mrow M 54 r443) 74 q74) (nI 0) (nI 600) k446
                try simp only [mput, mrow_same, mrow_hit, mrow_miss, mrow_sw, idr_eq, ne_eq, Nat.reduceEqDiff, not_false_eq_true, Nat.reduceLT, reduceCtorEq, g447] at q9
                exact q9
              refine G.callV (as := [.int (nI 0), .int (nI 600)]) (rest := []) (a := 54) oX12_readNumber lk_EvenFindersModel_190 (by decide +kernel) rfl rfl ⟨rfl, rfl⟩ (Nat.le_of_ble_eq_true rfl) rfl ⟨Nat.le_of_ble_eq_true rfl, Nat.le_of_ble_eq_true rfl⟩ t450 (fun v9 N9 h451 => ?_) (fun E9 N9 h451 => by cases h451)
              cases h451
              show G z mX12_book (d + 2) 0 0 136 [some (.ref 54), none, some (.int s2), some (.int (r390 4)), some (.int v395), none] [.int v448] (mrow (mrow M 54 r449) 74 q74) Q
              refine G.sl [(.istore 5, 2, 5, 0, 0, 0), (.aload_n 0, 1, 0, 0, 0, 0), (.bipush 59, 2, 0, 0, 0, nI 59)] [] (pc2 := 141) (ls2 := [some (.ref 54), none, some (.int s2), some (.int (r390 4)), some (.int v395), some (.int v448)]) (st2 := [.int (nI 59), .ref 54]) (M2 := mrow (mrow M 54 r449) 74 q74) (Ps := []) (by decide +kernel) rfl rfl trivial ?_
              obtain ⟨k452, hk⟩ := hk
              rcases g453 : k_sign r449 (M.1 56) (nI 59) with ⟨u454, r455⟩
              try simp only [g453] at hk
              have t456 : GM z mX12_sign (d + 1) [.ref 54, .int (nI 59)] (mrow (mrow M 54 r449) 74 q74) (fun rs => rs = .inl (none, mrow (mrow M 54 r455) 74 q74)) := by
                have q9 := c_k_sign_54 z d (mrow (mrow M 54 r449) 74 q74) (nI 59) k452
                try simp only [mput, mrow_same, mrow_hit, mrow_miss, mrow_sw, idr_eq, ne_eq, Nat.reduceEqDiff, not_false_eq_true, Nat.reduceLT, reduceCtorEq, g453] at q9
                exact q9
              refine G.callV (as := [.int (nI 59)]) (rest := []) (a := 54) oX12_sign lk_EvenFindersModel_239 (by decide +kernel) rfl rfl ⟨rfl, rfl⟩ (Nat.le_of_ble_eq_true rfl) rfl ⟨Nat.le_of_ble_eq_true rfl, Nat.le_of_ble_eq_true rfl⟩ t456 (fun v9 N9 h457 => ?_) (fun E9 N9 h457 => by cases h457)
              cases h457
              show G z mX12_book (d + 2) 0 0 144 [some (.ref 54), none, some (.int s2), some (.int (r390 4)), some (.int v395), some (.int v448)] [] (mrow (mrow M 54 r455) 74 q74) Q
              refine G.sl [(.aload_n 0, 1, 0, 0, 0, 0)] [] (pc2 := 145) (ls2 := [some (.ref 54), none, some (.int s2), some (.int (r390 4)), some (.int v395), some (.int v448)]) (st2 := [.ref 54]) (M2 := mrow (mrow M 54 r455) 74 q74) (Ps := []) (by decide +kernel) rfl rfl trivial ?_
              obtain ⟨k458, hk⟩ := hk
              have t459 : GM z mX12_fine (d + 1) [.ref 54] (mrow (mrow M 54 r455) 74 q74) (fun rs => rs = .inl (some (.int (k_fine r455)), mrow (mrow M 54 r455) 74 q74)) := by
                have q9 := c_k_fine_54 z (d + 1) (mrow (mrow M 54 r455) 74 q74) 
                try simp only [mput, mrow_same, mrow_hit, mrow_miss, mrow_sw, idr_eq, ne_eq, Nat.reduceEqDiff, not_false_eq_true, Nat.reduceLT, reduceCtorEq] at q9
                exact q9
              refine G.callV (as := []) (rest := []) (a := 54) oX12_fine lk_EvenFindersModel_130 (by decide +kernel) rfl rfl ⟨rfl, rfl⟩ (Nat.le_of_ble_eq_true rfl) rfl ⟨Nat.le_of_ble_eq_true rfl, Nat.le_of_ble_eq_true rfl⟩ t459 (fun v9 N9 h460 => ?_) (fun E9 N9 h460 => by cases h460)
              cases h460
              show G z mX12_book (d + 2) 0 0 148 [some (.ref 54), none, some (.int s2), some (.int (r390 4)), some (.int v395), some (.int v448)] [.int (k_fine r455)] (mrow (mrow M 54 r455) 74 q74) Q
              refine G.if_ne (off := (6)) (tgt := 154) (by decide +kernel) rfl (fun c461 => ?_) (fun c461 => ?_)
              · skip
                rw [if_neg c461] at hk
                refine G.sl [(.aload_n 0, 1, 0, 0, 0, 0), (.getfield 74, 3, 11, 43, 166, 0), (.iload 4, 2, 4, 0, 0, 0), (.iload 5, 2, 5, 0, 0, 0), (.iastore, 1, 0, 0, 0, 0), (.iinc 2 1, 3, 2, 0, 0, nI 1), (.goto (-99), 3, 67, 0, 0, 0)] [ix v395] (pc2 := 67) (ls2 := [some (.ref 54), none, some (.int (s2 + nI 1)), some (.int (r390 4)), some (.int v395), some (.int v448)]) (st2 := []) (M2 := mput (mrow (mrow M 54 r455) 74 q74) 74 (ix v395) v448) (Ps := [v395 = nI (ix v395) ∧ (ix v395) < 8]) (by decide +kernel) rfl rfl ⟨⟨(ixE k421), k422⟩, trivial⟩ ?_
                refine G.mem (M' := mrow (mrow M 54 r455) 74 (upd q74 (ix v395) v448)) (by first | rfl | (simp only [mput, mrow_same, mrow_hit, mrow_miss, mrow_sw, idr_eq, ne_eq, Nat.reduceEqDiff, not_false_eq_true, Nat.reduceLT, reduceCtorEq]; done)) ?_
                refine G.loc (ls2 := [some (.ref 54), none, some (.int (s2 + nI 1)), none, none, none]) (by simp [subL]) ?_
                simp only [k_book_67d, if_neg c379, g381, if_neg c386, g388, g394, if_neg c402, if_neg c423, g441, g447, g453, if_neg c461] at hX
                exact ih (s2 + nI 1) r455 (upd q74 (ix v395) v448) hk hX
              · skip
                rw [if_pos c461] at hk
                refine G.sl [(.goto 18, 3, 169, 0, 0, 0)] [] (pc2 := 169) (ls2 := [some (.ref 54), none, some (.int s2), some (.int (r390 4)), some (.int v395), some (.int v448)]) (st2 := []) (M2 := mrow (mrow M 54 r455) 74 q74) (Ps := []) (by decide +kernel) rfl rfl trivial ?_
                refine G.loc (ls2 := [some (.ref 54), none, some (.int s2), none, none, none]) (by simp [subL]) ?_
                simp only [k_book_67d, if_neg c379, g381, if_neg c386, g388, g394, if_neg c402, if_neg c423, g441, g447, g453, if_pos c461] at hX
                exact hX
noncomputable def k_book (Rmd Rrefused Rtape RnewBook Rbook : Nat → Int32) (x1 : Int32) : Int32 × (Nat → Int32) × (Nat → Int32) × (Nat → Int32) × (Nat → Int32) := (if x1 < 0 then (match k_may_1 (upd (Rmd) 0 (nI 0)) (Rrefused) (nI 0) (nI 1) with | (v4, r5, r6) => (if v4 = 0 then (nI 0, r5, r6, RnewBook, Rbook) else (match k_begins r5 x1 with | (u12, r13) => (match k_book_67 (Rtape) FU (nI 0) r13 (k_book_46 (RnewBook) (cN 8)) with | (v105, r106, r107) => (match k_result r106 v105 with | (v110, r111) => (if (r111 5) = ((-1)) then (match k_copies_L8_L8 r107 (Rbook) 8 with | (u117, r118) => (v110, upd r111 45 v105, r6, r107, r118)) else (v110, r111, r6, r107, Rbook))))))) else (if (Rmd 2) < x1 then (match k_may_1 (upd (Rmd) 0 (nI 0)) (Rrefused) (nI 0) (nI 1) with | (v124, r125, r126) => (if v124 = 0 then (nI 0, r125, r126, RnewBook, Rbook) else (match k_begins r125 x1 with | (u132, r133) => (match k_book_67b (Rtape) FU (nI 0) r133 (k_book_46b (RnewBook) (cN 8)) with | (v225, r226, r227) => (match k_result r226 v225 with | (v230, r231) => (if (r231 5) = ((-1)) then (match k_copies_L8_L8 r227 (Rbook) 8 with | (u237, r238) => (v230, upd r231 45 v225, r126, r227, r238)) else (v230, r231, r126, r227, Rbook))))))) else (if (nI 60) < x1 then (match k_may_1 (upd (Rmd) 0 (nI 0)) (Rrefused) (nI 0) (nI 1) with | (v244, r245, r246) => (if v244 = 0 then (nI 0, r245, r246, RnewBook, Rbook) else (match k_begins r245 x1 with | (u252, r253) => (match k_book_67c (Rtape) FU (nI 0) r253 (k_book_46c (RnewBook) (cN 8)) with | (v345, r346, r347) => (match k_result r346 v345 with | (v350, r351) => (if (r351 5) = ((-1)) then (match k_copies_L8_L8 r347 (Rbook) 8 with | (u357, r358) => (v350, upd r351 45 v345, r246, r347, r358)) else (v350, r351, r246, r347, Rbook))))))) else (match k_may_1 (upd (Rmd) 0 (nI 0)) (Rrefused) (nI 1) (nI 1) with | (v363, r364, r365) => (if v363 = 0 then (nI 0, r364, r365, RnewBook, Rbook) else (match k_begins r364 x1 with | (u371, r372) => (match k_book_67d (Rtape) FU (nI 0) r372 (k_book_46d (RnewBook) (cN 8)) with | (v464, r465, r466) => (match k_result r465 v464 with | (v469, r470) => (if (r470 5) = ((-1)) then (match k_copies_L8_L8 r466 (Rbook) 8 with | (u476, r477) => (v469, upd r470 45 v464, r365, r466, r477)) else (v469, r470, r365, r466, Rbook))))))))))
noncomputable def k_book_ok (Rmd Rrefused Rtape RnewBook Rbook : Nat → Int32) (x1 : Int32) : Prop := (if x1 < 0 then (True ∧ (match k_may_1 (upd (Rmd) 0 (nI 0)) (Rrefused) (nI 0) (nI 1) with | (v4, r5, r6) => (if v4 = 0 then True else (True ∧ (match k_begins r5 x1 with | (u12, r13) => (True ∧ (k_book_67_ok (Rtape) FU (nI 0) r13 (k_book_46 (RnewBook) (cN 8)) ∧ (match k_book_67 (Rtape) FU (nI 0) r13 (k_book_46 (RnewBook) (cN 8)) with | (v105, r106, r107) => (True ∧ (match k_result r106 v105 with | (v110, r111) => (if (r111 5) = ((-1)) then (k_copies_L8_L8_ok r107 (Rbook) 8 ∧ True) else True))))))))))) else (if (Rmd 2) < x1 then (True ∧ (match k_may_1 (upd (Rmd) 0 (nI 0)) (Rrefused) (nI 0) (nI 1) with | (v124, r125, r126) => (if v124 = 0 then True else (True ∧ (match k_begins r125 x1 with | (u132, r133) => (True ∧ (k_book_67b_ok (Rtape) FU (nI 0) r133 (k_book_46b (RnewBook) (cN 8)) ∧ (match k_book_67b (Rtape) FU (nI 0) r133 (k_book_46b (RnewBook) (cN 8)) with | (v225, r226, r227) => (True ∧ (match k_result r226 v225 with | (v230, r231) => (if (r231 5) = ((-1)) then (k_copies_L8_L8_ok r227 (Rbook) 8 ∧ True) else True))))))))))) else (if (nI 60) < x1 then (True ∧ (match k_may_1 (upd (Rmd) 0 (nI 0)) (Rrefused) (nI 0) (nI 1) with | (v244, r245, r246) => (if v244 = 0 then True else (True ∧ (match k_begins r245 x1 with | (u252, r253) => (True ∧ (k_book_67c_ok (Rtape) FU (nI 0) r253 (k_book_46c (RnewBook) (cN 8)) ∧ (match k_book_67c (Rtape) FU (nI 0) r253 (k_book_46c (RnewBook) (cN 8)) with | (v345, r346, r347) => (True ∧ (match k_result r346 v345 with | (v350, r351) => (if (r351 5) = ((-1)) then (k_copies_L8_L8_ok r347 (Rbook) 8 ∧ True) else True))))))))))) else (True ∧ (match k_may_1 (upd (Rmd) 0 (nI 0)) (Rrefused) (nI 1) (nI 1) with | (v363, r364, r365) => (if v363 = 0 then True else (True ∧ (match k_begins r364 x1 with | (u371, r372) => (True ∧ (k_book_67d_ok (Rtape) FU (nI 0) r372 (k_book_46d (RnewBook) (cN 8)) ∧ (match k_book_67d (Rtape) FU (nI 0) r372 (k_book_46d (RnewBook) (cN 8)) with | (v464, r465, r466) => (True ∧ (match k_result r465 v464 with | (v469, r470) => (if (r470 5) = ((-1)) then (k_copies_L8_L8_ok r466 (Rbook) 8 ∧ True) else True))))))))))))))
set_option maxHeartbeats 4000000 in
set_option maxRecDepth 3000 in
theorem c_k_book_54 (z : Zp) (d : Nat) (M : Mem) (x1 : Int32) (hk : k_book_ok (M.1 54) (M.1 55) (M.1 56) (M.1 74) (M.1 75) x1) : GM z mX12_book (d + 2) [.ref 54, .int x1] M (fun rs => rs = .inl (some (.int ((k_book (M.1 54) (M.1 55) (M.1 56) (M.1 74) (M.1 75) x1).1)), mrow (mrow (mrow (mrow M 54 ((k_book (M.1 54) (M.1 55) (M.1 56) (M.1 74) (M.1 75) x1).2.1)) 55 ((k_book (M.1 54) (M.1 55) (M.1 56) (M.1 74) (M.1 75) x1).2.2.1)) 74 ((k_book (M.1 54) (M.1 55) (M.1 56) (M.1 74) (M.1 75) x1).2.2.2.1)) 75 ((k_book (M.1 54) (M.1 55) (M.1 56) (M.1 74) (M.1 75) x1).2.2.2.2))) := by
  simp only [k_book_ok] at hk
  refine GM.of oX12_book.1 (Nat.le_of_ble_eq_true rfl) ?_
  show G z mX12_book (d + 2) 0 0 0 [some (.ref 54), some (.int x1), none, none, none, none] [] M _
  obtain ⟨Q, hQ⟩ : ∃ Q : Rs → Prop, Q = (fun rs => rs = .inl (some (.int ((k_book (M.1 54) (M.1 55) (M.1 56) (M.1 74) (M.1 75) x1).1)), mrow (mrow (mrow (mrow M 54 ((k_book (M.1 54) (M.1 55) (M.1 56) (M.1 74) (M.1 75) x1).2.1)) 55 ((k_book (M.1 54) (M.1 55) (M.1 56) (M.1 74) (M.1 75) x1).2.2.1)) 74 ((k_book (M.1 54) (M.1 55) (M.1 56) (M.1 74) (M.1 75) x1).2.2.2.1)) 75 ((k_book (M.1 54) (M.1 55) (M.1 56) (M.1 74) (M.1 75) x1).2.2.2.2))) := ⟨_, rfl⟩
  rw [← hQ]
  refine G.sl [(.aload_n 0, 1, 0, 0, 0, 0), (.iconst 0, 1, 0, 0, 0, nI 0), (.putfield 3, 3, 11, 0, 123, 0), (.aload_n 0, 1, 0, 0, 0, 0), (.iload_n 1, 1, 1, 0, 0, 0)] [] (pc2 := 7) (ls2 := [some (.ref 54), some (.int x1), none, none, none, none]) (st2 := [.int x1, .ref 54]) (M2 := mput M 54 0 (nI 0)) (Ps := []) (by decide +kernel) rfl rfl trivial ?_
  refine G.mem (M' := mrow M 54 (upd (M.1 54) 0 (nI 0))) (by first | rfl | (simp only [mput, mrow_same, mrow_hit, mrow_miss, mrow_sw, idr_eq, ne_eq, Nat.reduceEqDiff, not_false_eq_true, Nat.reduceLT, reduceCtorEq]; done)) ?_
  refine G.if_lt (off := (21)) (tgt := 28) (by decide +kernel) rfl (fun c1 => ?_) (fun c1 => ?_)
  · skip
    rw [if_pos c1] at hk
    refine G.sl [(.iconst 0, 1, 0, 0, 0, nI 0), (.iconst 1, 1, 0, 0, 0, nI 1), (.iconst 1, 1, 0, 0, 0, nI 1)] [] (pc2 := 31) (ls2 := [some (.ref 54), some (.int x1), none, none, none, none]) (st2 := [.int (nI 1), .int (nI 1), .int (nI 0), .ref 54]) (M2 := mrow M 54 (upd (M.1 54) 0 (nI 0))) (Ps := []) (by decide +kernel) rfl rfl trivial ?_
    obtain ⟨k2, hk⟩ := hk
    rcases g3 : k_may_1 (upd (M.1 54) 0 (nI 0)) (M.1 55) (nI 0) (nI 1) with ⟨v4, r5, r6⟩
    try simp only [g3] at hk
    have ev4 : v4 = 0 ∨ v4 = 1 := by
      have q9 := k_may_1_01 (upd (M.1 54) 0 (nI 0)) (M.1 55) (nI 0) (nI 1)
      rw [g3] at q9
      exact q9
    have t7 : GM z mX12_may (d + 1) [.ref 54, .int (nI 0), .int (nI 1), .int (nI 1)] (mrow M 54 (upd (M.1 54) 0 (nI 0))) (fun rs => rs = .inl (some (.int v4), mrow (mrow M 54 r5) 55 r6)) := by
      have q9 := c_k_may_1_54 z (d + 1) (mrow M 54 (upd (M.1 54) 0 (nI 0))) (nI 0) (nI 1)
      try simp only [mput, mrow_same, mrow_hit, mrow_miss, mrow_sw, idr_eq, ne_eq, Nat.reduceEqDiff, not_false_eq_true, Nat.reduceLT, reduceCtorEq, g3] at q9
      exact q9
    refine G.callV (as := [.int (nI 0), .int (nI 1), .int (nI 1)]) (rest := []) (a := 54) oX12_may lk_EvenFindersModel_213 (by decide +kernel) rfl rfl ⟨rfl, rfl⟩ (Nat.le_of_ble_eq_true rfl) rfl ⟨Nat.le_of_ble_eq_true rfl, Nat.le_of_ble_eq_true rfl⟩ t7 (fun v9 N9 h8 => ?_) (fun E9 N9 h8 => by cases h8)
    cases h8
    show G z mX12_book (d + 2) 0 0 34 [some (.ref 54), some (.int x1), none, none, none, none] [.int v4] (mrow (mrow M 54 r5) 55 r6) Q
    refine G.if_ne (off := (5)) (tgt := 39) (by decide +kernel) rfl (fun c9 => ?_) (fun c9 => ?_)
    · skip
      rw [if_neg c9] at hk
      refine G.sl [(.aload_n 0, 1, 0, 0, 0, 0), (.iload_n 1, 1, 1, 0, 0, 0)] [] (pc2 := 41) (ls2 := [some (.ref 54), some (.int x1), none, none, none, none]) (st2 := [.int x1, .ref 54]) (M2 := mrow (mrow M 54 r5) 55 r6) (Ps := []) (by decide +kernel) rfl rfl trivial ?_
      obtain ⟨k10, hk⟩ := hk
      rcases g11 : k_begins r5 x1 with ⟨u12, r13⟩
      try simp only [g11] at hk
      have t14 : GM z mX12_begins (d + 1) [.ref 54, .int x1] (mrow (mrow M 54 r5) 55 r6) (fun rs => rs = .inl (none, mrow (mrow M 54 r13) 55 r6)) := by
        have q9 := c_k_begins_54 z (d + 1) (mrow (mrow M 54 r5) 55 r6) x1
        try simp only [mput, mrow_same, mrow_hit, mrow_miss, mrow_sw, idr_eq, ne_eq, Nat.reduceEqDiff, not_false_eq_true, Nat.reduceLT, reduceCtorEq, g11] at q9
        exact q9
      refine G.callV (as := [.int x1]) (rest := []) (a := 54) oX12_begins lk_EvenFindersModel_217 (by decide +kernel) rfl rfl ⟨rfl, rfl⟩ (Nat.le_of_ble_eq_true rfl) rfl ⟨Nat.le_of_ble_eq_true rfl, Nat.le_of_ble_eq_true rfl⟩ t14 (fun v9 N9 h15 => ?_) (fun E9 N9 h15 => by cases h15)
      cases h15
      show G z mX12_book (d + 2) 0 0 44 [some (.ref 54), some (.int x1), none, none, none, none] [] (mrow (mrow M 54 r13) 55 r6) Q
      refine G.sl [(.iconst 0, 1, 0, 0, 0, nI 0), (.istore_n 2, 1, 2, 0, 0, 0)] [] (pc2 := 46) (ls2 := [some (.ref 54), some (.int x1), some (.int (nI 0)), none, none, none]) (st2 := []) (M2 := mrow (mrow M 54 r13) 55 r6) (Ps := []) (by decide +kernel) rfl rfl trivial ?_
      refine G.loc (ls2 := [some (.ref 54), none, some (.int (nI 0)), none, none, none]) (by simp [subL]) ?_
      obtain ⟨k16, hk⟩ := hk
      refine lp_k_book_54_46 z d (mrow (mrow M 54 r13) 55 r6) Q (cN 8) (cN_eq 8) ?_
      try simp only [mput, mrow_same, mrow_hit, mrow_miss, mrow_sw, idr_eq, ne_eq, Nat.reduceEqDiff, not_false_eq_true, Nat.reduceLT, reduceCtorEq]
      show G z mX12_book (d + 2) 0 0 65 [some (.ref 54), none, none, none, none, none] [] (mrow (mrow (mrow M 54 r13) 55 r6) 74 (k_book_46 (M.1 74) (cN 8))) Q
      refine G.sl [(.iconst 0, 1, 0, 0, 0, nI 0), (.istore_n 2, 1, 2, 0, 0, 0)] [] (pc2 := 67) (ls2 := [some (.ref 54), none, some (.int (nI 0)), none, none, none]) (st2 := []) (M2 := mrow (mrow (mrow M 54 r13) 55 r6) 74 (k_book_46 (M.1 74) (cN 8))) (Ps := []) (by decide +kernel) rfl rfl trivial ?_
      obtain ⟨k103, hk⟩ := hk
      refine G.mem (M' := mrow (mrow (mrow (mrow (mrow M 54 r13) 55 r6) 74 (k_book_46 (M.1 74) (cN 8))) 54 ((mrow (mrow (mrow M 54 r13) 55 r6) 74 (k_book_46 (M.1 74) (cN 8))).1 54)) 74 ((mrow (mrow (mrow M 54 r13) 55 r6) 74 (k_book_46 (M.1 74) (cN 8))).1 74)) (by simp only [mrow_self]) ?_
      refine lp_k_book_54_67 z d (mrow (mrow (mrow M 54 r13) 55 r6) 74 (k_book_46 (M.1 74) (cN 8))) Q FU (nI 0) ((mrow (mrow (mrow M 54 r13) 55 r6) 74 (k_book_46 (M.1 74) (cN 8))).1 54) ((mrow (mrow (mrow M 54 r13) 55 r6) 74 (k_book_46 (M.1 74) (cN 8))).1 74) (by first | (simp only [mput, mrow_same, mrow_hit, mrow_miss, mrow_sw, idr_eq, ne_eq, Nat.reduceEqDiff, not_false_eq_true, Nat.reduceLT, reduceCtorEq]; exact k103) | exact k103) ?_
      try simp only [mput, mrow_same, mrow_hit, mrow_miss, mrow_sw, idr_eq, ne_eq, Nat.reduceEqDiff, not_false_eq_true, Nat.reduceLT, reduceCtorEq]
      rcases g104 : k_book_67 (M.1 56) FU (nI 0) r13 (k_book_46 (M.1 74) (cN 8)) with ⟨v105, r106, r107⟩
      try simp only [g104] at hk
      show G z mX12_book (d + 2) 0 0 169 [some (.ref 54), none, some (.int v105), none, none, none] [] (mrow (mrow (mrow M 54 r106) 55 r6) 74 r107) Q
      refine G.sl [(.aload_n 0, 1, 0, 0, 0, 0), (.iload_n 2, 1, 2, 0, 0, 0)] [] (pc2 := 171) (ls2 := [some (.ref 54), none, some (.int v105), none, none, none]) (st2 := [.int v105, .ref 54]) (M2 := mrow (mrow (mrow M 54 r106) 55 r6) 74 r107) (Ps := []) (by decide +kernel) rfl rfl trivial ?_
      obtain ⟨k108, hk⟩ := hk
      rcases g109 : k_result r106 v105 with ⟨v110, r111⟩
      try simp only [g109] at hk
      have t112 : GM z mX12_result (d + 1) [.ref 54, .int v105] (mrow (mrow (mrow M 54 r106) 55 r6) 74 r107) (fun rs => rs = .inl (some (.int v110), mrow (mrow (mrow M 54 r111) 55 r6) 74 r107)) := by
        have q9 := c_k_result_54 z d (mrow (mrow (mrow M 54 r106) 55 r6) 74 r107) v105
        try simp only [mput, mrow_same, mrow_hit, mrow_miss, mrow_sw, idr_eq, ne_eq, Nat.reduceEqDiff, not_false_eq_true, Nat.reduceLT, reduceCtorEq, g109] at q9
        exact q9
      refine G.callV (as := [.int v105]) (rest := []) (a := 54) oX12_result lk_EvenFindersModel_242 (by decide +kernel) rfl rfl ⟨rfl, rfl⟩ (Nat.le_of_ble_eq_true rfl) rfl ⟨Nat.le_of_ble_eq_true rfl, Nat.le_of_ble_eq_true rfl⟩ t112 (fun v9 N9 h113 => ?_) (fun E9 N9 h113 => by cases h113)
      cases h113
      show G z mX12_book (d + 2) 0 0 174 [some (.ref 54), none, some (.int v105), none, none, none] [.int v110] (mrow (mrow (mrow M 54 r111) 55 r6) 74 r107) Q
      refine G.sl [(.istore_n 3, 1, 3, 0, 0, 0), (.aload_n 0, 1, 0, 0, 0, 0), (.getfield 101, 3, 11, 5, 128, 0), (.iconst (-1), 1, 0, 0, 0, (-1))] [] (pc2 := 180) (ls2 := [some (.ref 54), none, some (.int v105), some (.int v110), none, none]) (st2 := [.int ((-1)), .int (r111 5)]) (M2 := mrow (mrow (mrow M 54 r111) 55 r6) 74 r107) (Ps := []) (by decide +kernel) rfl rfl trivial ?_
      refine G.ic_eq (off := (5)) (tgt := 185) (by decide +kernel) rfl (fun c114 => ?_) (fun c114 => ?_)
      · skip
        rw [if_pos c114] at hk
        refine G.sl [(.aload_n 0, 1, 0, 0, 0, 0), (.iload_n 2, 1, 2, 0, 0, 0), (.putfield 175, 3, 11, 45, 168, 0), (.aload_n 0, 1, 0, 0, 0, 0), (.aload_n 0, 1, 0, 0, 0, 0), (.getfield 74, 3, 11, 43, 166, 0), (.aload_n 0, 1, 0, 0, 0, 0), (.getfield 77, 3, 11, 44, 167, 0), (.bipush 8, 2, 0, 0, 0, nI 8)] [] (pc2 := 201) (ls2 := [some (.ref 54), none, some (.int v105), some (.int v110), none, none]) (st2 := [.int (nI 8), .ref 75, .ref 74, .ref 54]) (M2 := mput (mrow (mrow (mrow M 54 r111) 55 r6) 74 r107) 54 45 v105) (Ps := []) (by decide +kernel) rfl rfl trivial ?_
        refine G.mem (M' := mrow (mrow (mrow M 54 (upd r111 45 v105)) 55 r6) 74 r107) (by first | rfl | (simp only [mput, mrow_same, mrow_hit, mrow_miss, mrow_sw, idr_eq, ne_eq, Nat.reduceEqDiff, not_false_eq_true, Nat.reduceLT, reduceCtorEq]; done)) ?_
        obtain ⟨k115, hk⟩ := hk
        rcases g116 : k_copies_L8_L8 r107 (M.1 75) 8 with ⟨u117, r118⟩
        have t119 : GM z mX12_copies (d + 1) [.ref 54, .ref 74, .ref 75, .int (nI 8)] (mrow (mrow (mrow M 54 (upd r111 45 v105)) 55 r6) 74 r107) (fun rs => rs = .inl (none, mrow (mrow (mrow (mrow M 54 (upd r111 45 v105)) 55 r6) 74 r107) 75 r118)) := by
          have q9 := c_k_copies_L8_L8_54_74_75 z (d + 1) (mrow (mrow (mrow M 54 (upd r111 45 v105)) 55 r6) 74 r107) 8 (by omega) k115
          try simp only [mput, mrow_same, mrow_hit, mrow_miss, mrow_sw, idr_eq, ne_eq, Nat.reduceEqDiff, not_false_eq_true, Nat.reduceLT, reduceCtorEq, g116] at q9
          exact q9
        refine G.callV (as := [.ref 74, .ref 75, .int (nI 8)]) (rest := []) (a := 54) oX12_copies lk_EvenFindersModel_168 (by decide +kernel) rfl rfl ⟨rfl, rfl⟩ (Nat.le_of_ble_eq_true rfl) rfl ⟨Nat.le_of_ble_eq_true rfl, Nat.le_of_ble_eq_true rfl⟩ t119 (fun v9 N9 h120 => ?_) (fun E9 N9 h120 => by cases h120)
        cases h120
        show G z mX12_book (d + 2) 0 0 204 [some (.ref 54), none, some (.int v105), some (.int v110), none, none] [] (mrow (mrow (mrow (mrow M 54 (upd r111 45 v105)) 55 r6) 74 r107) 75 r118) Q
        refine G.sl [(.iload_n 3, 1, 3, 0, 0, 0)] [] (pc2 := 205) (ls2 := [some (.ref 54), none, some (.int v105), some (.int v110), none, none]) (st2 := [.int v110]) (M2 := mrow (mrow (mrow (mrow M 54 (upd r111 45 v105)) 55 r6) 74 r107) 75 r118) (Ps := []) (by decide +kernel) rfl rfl trivial ?_
        exact G.reti (by decide +kernel) rfl rfl (Nat.le_of_ble_eq_true rfl) (Nat.le_of_ble_eq_true rfl) ((by rw [hQ]; simp only [k_book, if_pos c1, g3, if_neg c9, g11, g104, g109, if_pos c114, g116, mrow_self]))
      · skip
        rw [if_neg c114] at hk
        refine G.sl [(.iload_n 3, 1, 3, 0, 0, 0)] [] (pc2 := 184) (ls2 := [some (.ref 54), none, some (.int v105), some (.int v110), none, none]) (st2 := [.int v110]) (M2 := mrow (mrow (mrow M 54 r111) 55 r6) 74 r107) (Ps := []) (by decide +kernel) rfl rfl trivial ?_
        refine G.mem (M' := mrow (mrow (mrow (mrow M 54 r111) 55 r6) 74 r107) 75 (M.1 75)) (((mrow_id (N := mrow (mrow (mrow M 54 r111) 55 r6) 74 r107) (c := 75) (f := M.1 75) (by first | rfl | (simp only [mput, mrow_same, mrow_hit, mrow_miss, mrow_sw, idr_eq, ne_eq, Nat.reduceEqDiff, not_false_eq_true, Nat.reduceLT, reduceCtorEq]; done))).symm).trans (by first | rfl | (simp only [mput, mrow_same, mrow_hit, mrow_miss, mrow_sw, idr_eq, ne_eq, Nat.reduceEqDiff, not_false_eq_true, Nat.reduceLT, reduceCtorEq]; done))) ?_
        exact G.reti (by decide +kernel) rfl rfl (Nat.le_of_ble_eq_true rfl) (Nat.le_of_ble_eq_true rfl) ((by rw [hQ]; simp only [k_book, if_pos c1, g3, if_neg c9, g11, g104, g109, if_neg c114, mrow_self]))
    · skip
      rw [if_pos c9] at hk
      refine G.sl [(.iconst 0, 1, 0, 0, 0, nI 0)] [] (pc2 := 38) (ls2 := [some (.ref 54), some (.int x1), none, none, none, none]) (st2 := [.int (nI 0)]) (M2 := mrow (mrow M 54 r5) 55 r6) (Ps := []) (by decide +kernel) rfl rfl trivial ?_
      refine G.mem (M' := mrow (mrow (mrow (mrow M 54 r5) 55 r6) 74 (M.1 74)) 75 (M.1 75)) ((((mrow_id (N := mrow (mrow M 54 r5) 55 r6) (c := 74) (f := M.1 74) (by first | rfl | (simp only [mput, mrow_same, mrow_hit, mrow_miss, mrow_sw, idr_eq, ne_eq, Nat.reduceEqDiff, not_false_eq_true, Nat.reduceLT, reduceCtorEq]; done))).symm).trans (mrow_id (N := mrow (mrow (mrow M 54 r5) 55 r6) 74 (M.1 74)) (c := 75) (f := M.1 75) (by first | rfl | (simp only [mput, mrow_same, mrow_hit, mrow_miss, mrow_sw, idr_eq, ne_eq, Nat.reduceEqDiff, not_false_eq_true, Nat.reduceLT, reduceCtorEq]; done))).symm).trans (by first | rfl | (simp only [mput, mrow_same, mrow_hit, mrow_miss, mrow_sw, idr_eq, ne_eq, Nat.reduceEqDiff, not_false_eq_true, Nat.reduceLT, reduceCtorEq]; done))) ?_
      exact G.reti (by decide +kernel) rfl rfl (Nat.le_of_ble_eq_true rfl) (Nat.le_of_ble_eq_true rfl) ((by rw [hQ]; simp only [k_book, if_pos c1, g3, if_pos c9, mrow_self]))
  · skip
    rw [if_neg c1] at hk
    refine G.sl [(.iload_n 1, 1, 1, 0, 0, 0), (.aload_n 0, 1, 0, 0, 0, 0), (.getfield 98, 3, 11, 2, 125, 0)] [] (pc2 := 15) (ls2 := [some (.ref 54), some (.int x1), none, none, none, none]) (st2 := [.int (M.1 54 2), .int x1, .ref 54]) (M2 := mrow M 54 (upd (M.1 54) 0 (nI 0))) (Ps := []) (by decide +kernel) rfl rfl trivial ?_
    refine G.ic_gt (off := (13)) (tgt := 28) (by decide +kernel) rfl (fun c121 => ?_) (fun c121 => ?_)
    · skip
      rw [if_pos c121] at hk
      refine G.sl [(.iconst 0, 1, 0, 0, 0, nI 0), (.iconst 1, 1, 0, 0, 0, nI 1), (.iconst 1, 1, 0, 0, 0, nI 1)] [] (pc2 := 31) (ls2 := [some (.ref 54), some (.int x1), none, none, none, none]) (st2 := [.int (nI 1), .int (nI 1), .int (nI 0), .ref 54]) (M2 := mrow M 54 (upd (M.1 54) 0 (nI 0))) (Ps := []) (by decide +kernel) rfl rfl trivial ?_
      obtain ⟨k122, hk⟩ := hk
      rcases g123 : k_may_1 (upd (M.1 54) 0 (nI 0)) (M.1 55) (nI 0) (nI 1) with ⟨v124, r125, r126⟩
      try simp only [g123] at hk
      have ev124 : v124 = 0 ∨ v124 = 1 := by
        have q9 := k_may_1_01 (upd (M.1 54) 0 (nI 0)) (M.1 55) (nI 0) (nI 1)
        rw [g123] at q9
        exact q9
      have t127 : GM z mX12_may (d + 1) [.ref 54, .int (nI 0), .int (nI 1), .int (nI 1)] (mrow M 54 (upd (M.1 54) 0 (nI 0))) (fun rs => rs = .inl (some (.int v124), mrow (mrow M 54 r125) 55 r126)) := by
        have q9 := c_k_may_1_54 z (d + 1) (mrow M 54 (upd (M.1 54) 0 (nI 0))) (nI 0) (nI 1)
        try simp only [mput, mrow_same, mrow_hit, mrow_miss, mrow_sw, idr_eq, ne_eq, Nat.reduceEqDiff, not_false_eq_true, Nat.reduceLT, reduceCtorEq, g123] at q9
        exact q9
      refine G.callV (as := [.int (nI 0), .int (nI 1), .int (nI 1)]) (rest := []) (a := 54) oX12_may lk_EvenFindersModel_213 (by decide +kernel) rfl rfl ⟨rfl, rfl⟩ (Nat.le_of_ble_eq_true rfl) rfl ⟨Nat.le_of_ble_eq_true rfl, Nat.le_of_ble_eq_true rfl⟩ t127 (fun v9 N9 h128 => ?_) (fun E9 N9 h128 => by cases h128)
      cases h128
      show G z mX12_book (d + 2) 0 0 34 [some (.ref 54), some (.int x1), none, none, none, none] [.int v124] (mrow (mrow M 54 r125) 55 r126) Q
      refine G.if_ne (off := (5)) (tgt := 39) (by decide +kernel) rfl (fun c129 => ?_) (fun c129 => ?_)
      · skip
        rw [if_neg c129] at hk
        refine G.sl [(.aload_n 0, 1, 0, 0, 0, 0), (.iload_n 1, 1, 1, 0, 0, 0)] [] (pc2 := 41) (ls2 := [some (.ref 54), some (.int x1), none, none, none, none]) (st2 := [.int x1, .ref 54]) (M2 := mrow (mrow M 54 r125) 55 r126) (Ps := []) (by decide +kernel) rfl rfl trivial ?_
        obtain ⟨k130, hk⟩ := hk
        rcases g131 : k_begins r125 x1 with ⟨u132, r133⟩
        try simp only [g131] at hk
        have t134 : GM z mX12_begins (d + 1) [.ref 54, .int x1] (mrow (mrow M 54 r125) 55 r126) (fun rs => rs = .inl (none, mrow (mrow M 54 r133) 55 r126)) := by
          have q9 := c_k_begins_54 z (d + 1) (mrow (mrow M 54 r125) 55 r126) x1
          try simp only [mput, mrow_same, mrow_hit, mrow_miss, mrow_sw, idr_eq, ne_eq, Nat.reduceEqDiff, not_false_eq_true, Nat.reduceLT, reduceCtorEq, g131] at q9
          exact q9
        refine G.callV (as := [.int x1]) (rest := []) (a := 54) oX12_begins lk_EvenFindersModel_217 (by decide +kernel) rfl rfl ⟨rfl, rfl⟩ (Nat.le_of_ble_eq_true rfl) rfl ⟨Nat.le_of_ble_eq_true rfl, Nat.le_of_ble_eq_true rfl⟩ t134 (fun v9 N9 h135 => ?_) (fun E9 N9 h135 => by cases h135)
        cases h135
        show G z mX12_book (d + 2) 0 0 44 [some (.ref 54), some (.int x1), none, none, none, none] [] (mrow (mrow M 54 r133) 55 r126) Q
        refine G.sl [(.iconst 0, 1, 0, 0, 0, nI 0), (.istore_n 2, 1, 2, 0, 0, 0)] [] (pc2 := 46) (ls2 := [some (.ref 54), some (.int x1), some (.int (nI 0)), none, none, none]) (st2 := []) (M2 := mrow (mrow M 54 r133) 55 r126) (Ps := []) (by decide +kernel) rfl rfl trivial ?_
        refine G.loc (ls2 := [some (.ref 54), none, some (.int (nI 0)), none, none, none]) (by simp [subL]) ?_
        obtain ⟨k136, hk⟩ := hk
        refine lp_k_book_54_46b z d (mrow (mrow M 54 r133) 55 r126) Q (cN 8) (cN_eq 8) ?_
        try simp only [mput, mrow_same, mrow_hit, mrow_miss, mrow_sw, idr_eq, ne_eq, Nat.reduceEqDiff, not_false_eq_true, Nat.reduceLT, reduceCtorEq]
        show G z mX12_book (d + 2) 0 0 65 [some (.ref 54), none, none, none, none, none] [] (mrow (mrow (mrow M 54 r133) 55 r126) 74 (k_book_46b (M.1 74) (cN 8))) Q
        refine G.sl [(.iconst 0, 1, 0, 0, 0, nI 0), (.istore_n 2, 1, 2, 0, 0, 0)] [] (pc2 := 67) (ls2 := [some (.ref 54), none, some (.int (nI 0)), none, none, none]) (st2 := []) (M2 := mrow (mrow (mrow M 54 r133) 55 r126) 74 (k_book_46b (M.1 74) (cN 8))) (Ps := []) (by decide +kernel) rfl rfl trivial ?_
        obtain ⟨k223, hk⟩ := hk
        refine G.mem (M' := mrow (mrow (mrow (mrow (mrow M 54 r133) 55 r126) 74 (k_book_46b (M.1 74) (cN 8))) 54 ((mrow (mrow (mrow M 54 r133) 55 r126) 74 (k_book_46b (M.1 74) (cN 8))).1 54)) 74 ((mrow (mrow (mrow M 54 r133) 55 r126) 74 (k_book_46b (M.1 74) (cN 8))).1 74)) (by simp only [mrow_self]) ?_
        refine lp_k_book_54_67b z d (mrow (mrow (mrow M 54 r133) 55 r126) 74 (k_book_46b (M.1 74) (cN 8))) Q FU (nI 0) ((mrow (mrow (mrow M 54 r133) 55 r126) 74 (k_book_46b (M.1 74) (cN 8))).1 54) ((mrow (mrow (mrow M 54 r133) 55 r126) 74 (k_book_46b (M.1 74) (cN 8))).1 74) (by first | (simp only [mput, mrow_same, mrow_hit, mrow_miss, mrow_sw, idr_eq, ne_eq, Nat.reduceEqDiff, not_false_eq_true, Nat.reduceLT, reduceCtorEq]; exact k223) | exact k223) ?_
        try simp only [mput, mrow_same, mrow_hit, mrow_miss, mrow_sw, idr_eq, ne_eq, Nat.reduceEqDiff, not_false_eq_true, Nat.reduceLT, reduceCtorEq]
        rcases g224 : k_book_67b (M.1 56) FU (nI 0) r133 (k_book_46b (M.1 74) (cN 8)) with ⟨v225, r226, r227⟩
        try simp only [g224] at hk
        show G z mX12_book (d + 2) 0 0 169 [some (.ref 54), none, some (.int v225), none, none, none] [] (mrow (mrow (mrow M 54 r226) 55 r126) 74 r227) Q
        refine G.sl [(.aload_n 0, 1, 0, 0, 0, 0), (.iload_n 2, 1, 2, 0, 0, 0)] [] (pc2 := 171) (ls2 := [some (.ref 54), none, some (.int v225), none, none, none]) (st2 := [.int v225, .ref 54]) (M2 := mrow (mrow (mrow M 54 r226) 55 r126) 74 r227) (Ps := []) (by decide +kernel) rfl rfl trivial ?_
        obtain ⟨k228, hk⟩ := hk
        rcases g229 : k_result r226 v225 with ⟨v230, r231⟩
        try simp only [g229] at hk
        have t232 : GM z mX12_result (d + 1) [.ref 54, .int v225] (mrow (mrow (mrow M 54 r226) 55 r126) 74 r227) (fun rs => rs = .inl (some (.int v230), mrow (mrow (mrow M 54 r231) 55 r126) 74 r227)) := by
          have q9 := c_k_result_54 z d (mrow (mrow (mrow M 54 r226) 55 r126) 74 r227) v225
          try simp only [mput, mrow_same, mrow_hit, mrow_miss, mrow_sw, idr_eq, ne_eq, Nat.reduceEqDiff, not_false_eq_true, Nat.reduceLT, reduceCtorEq, g229] at q9
          exact q9
        refine G.callV (as := [.int v225]) (rest := []) (a := 54) oX12_result lk_EvenFindersModel_242 (by decide +kernel) rfl rfl ⟨rfl, rfl⟩ (Nat.le_of_ble_eq_true rfl) rfl ⟨Nat.le_of_ble_eq_true rfl, Nat.le_of_ble_eq_true rfl⟩ t232 (fun v9 N9 h233 => ?_) (fun E9 N9 h233 => by cases h233)
        cases h233
        show G z mX12_book (d + 2) 0 0 174 [some (.ref 54), none, some (.int v225), none, none, none] [.int v230] (mrow (mrow (mrow M 54 r231) 55 r126) 74 r227) Q
        refine G.sl [(.istore_n 3, 1, 3, 0, 0, 0), (.aload_n 0, 1, 0, 0, 0, 0), (.getfield 101, 3, 11, 5, 128, 0), (.iconst (-1), 1, 0, 0, 0, (-1))] [] (pc2 := 180) (ls2 := [some (.ref 54), none, some (.int v225), some (.int v230), none, none]) (st2 := [.int ((-1)), .int (r231 5)]) (M2 := mrow (mrow (mrow M 54 r231) 55 r126) 74 r227) (Ps := []) (by decide +kernel) rfl rfl trivial ?_
        refine G.ic_eq (off := (5)) (tgt := 185) (by decide +kernel) rfl (fun c234 => ?_) (fun c234 => ?_)
        · skip
          rw [if_pos c234] at hk
          refine G.sl [(.aload_n 0, 1, 0, 0, 0, 0), (.iload_n 2, 1, 2, 0, 0, 0), (.putfield 175, 3, 11, 45, 168, 0), (.aload_n 0, 1, 0, 0, 0, 0), (.aload_n 0, 1, 0, 0, 0, 0), (.getfield 74, 3, 11, 43, 166, 0), (.aload_n 0, 1, 0, 0, 0, 0), (.getfield 77, 3, 11, 44, 167, 0), (.bipush 8, 2, 0, 0, 0, nI 8)] [] (pc2 := 201) (ls2 := [some (.ref 54), none, some (.int v225), some (.int v230), none, none]) (st2 := [.int (nI 8), .ref 75, .ref 74, .ref 54]) (M2 := mput (mrow (mrow (mrow M 54 r231) 55 r126) 74 r227) 54 45 v225) (Ps := []) (by decide +kernel) rfl rfl trivial ?_
          refine G.mem (M' := mrow (mrow (mrow M 54 (upd r231 45 v225)) 55 r126) 74 r227) (by first | rfl | (simp only [mput, mrow_same, mrow_hit, mrow_miss, mrow_sw, idr_eq, ne_eq, Nat.reduceEqDiff, not_false_eq_true, Nat.reduceLT, reduceCtorEq]; done)) ?_
          obtain ⟨k235, hk⟩ := hk
          rcases g236 : k_copies_L8_L8 r227 (M.1 75) 8 with ⟨u237, r238⟩
          have t239 : GM z mX12_copies (d + 1) [.ref 54, .ref 74, .ref 75, .int (nI 8)] (mrow (mrow (mrow M 54 (upd r231 45 v225)) 55 r126) 74 r227) (fun rs => rs = .inl (none, mrow (mrow (mrow (mrow M 54 (upd r231 45 v225)) 55 r126) 74 r227) 75 r238)) := by
            have q9 := c_k_copies_L8_L8_54_74_75 z (d + 1) (mrow (mrow (mrow M 54 (upd r231 45 v225)) 55 r126) 74 r227) 8 (by omega) k235
            try simp only [mput, mrow_same, mrow_hit, mrow_miss, mrow_sw, idr_eq, ne_eq, Nat.reduceEqDiff, not_false_eq_true, Nat.reduceLT, reduceCtorEq, g236] at q9
            exact q9
          refine G.callV (as := [.ref 74, .ref 75, .int (nI 8)]) (rest := []) (a := 54) oX12_copies lk_EvenFindersModel_168 (by decide +kernel) rfl rfl ⟨rfl, rfl⟩ (Nat.le_of_ble_eq_true rfl) rfl ⟨Nat.le_of_ble_eq_true rfl, Nat.le_of_ble_eq_true rfl⟩ t239 (fun v9 N9 h240 => ?_) (fun E9 N9 h240 => by cases h240)
          cases h240
          show G z mX12_book (d + 2) 0 0 204 [some (.ref 54), none, some (.int v225), some (.int v230), none, none] [] (mrow (mrow (mrow (mrow M 54 (upd r231 45 v225)) 55 r126) 74 r227) 75 r238) Q
          refine G.sl [(.iload_n 3, 1, 3, 0, 0, 0)] [] (pc2 := 205) (ls2 := [some (.ref 54), none, some (.int v225), some (.int v230), none, none]) (st2 := [.int v230]) (M2 := mrow (mrow (mrow (mrow M 54 (upd r231 45 v225)) 55 r126) 74 r227) 75 r238) (Ps := []) (by decide +kernel) rfl rfl trivial ?_
          exact G.reti (by decide +kernel) rfl rfl (Nat.le_of_ble_eq_true rfl) (Nat.le_of_ble_eq_true rfl) ((by rw [hQ]; simp only [k_book, if_neg c1, if_pos c121, g123, if_neg c129, g131, g224, g229, if_pos c234, g236, mrow_self]))
        · skip
          rw [if_neg c234] at hk
          refine G.sl [(.iload_n 3, 1, 3, 0, 0, 0)] [] (pc2 := 184) (ls2 := [some (.ref 54), none, some (.int v225), some (.int v230), none, none]) (st2 := [.int v230]) (M2 := mrow (mrow (mrow M 54 r231) 55 r126) 74 r227) (Ps := []) (by decide +kernel) rfl rfl trivial ?_
          refine G.mem (M' := mrow (mrow (mrow (mrow M 54 r231) 55 r126) 74 r227) 75 (M.1 75)) (((mrow_id (N := mrow (mrow (mrow M 54 r231) 55 r126) 74 r227) (c := 75) (f := M.1 75) (by first | rfl | (simp only [mput, mrow_same, mrow_hit, mrow_miss, mrow_sw, idr_eq, ne_eq, Nat.reduceEqDiff, not_false_eq_true, Nat.reduceLT, reduceCtorEq]; done))).symm).trans (by first | rfl | (simp only [mput, mrow_same, mrow_hit, mrow_miss, mrow_sw, idr_eq, ne_eq, Nat.reduceEqDiff, not_false_eq_true, Nat.reduceLT, reduceCtorEq]; done))) ?_
          exact G.reti (by decide +kernel) rfl rfl (Nat.le_of_ble_eq_true rfl) (Nat.le_of_ble_eq_true rfl) ((by rw [hQ]; simp only [k_book, if_neg c1, if_pos c121, g123, if_neg c129, g131, g224, g229, if_neg c234, mrow_self]))
      · skip
        rw [if_pos c129] at hk
        refine G.sl [(.iconst 0, 1, 0, 0, 0, nI 0)] [] (pc2 := 38) (ls2 := [some (.ref 54), some (.int x1), none, none, none, none]) (st2 := [.int (nI 0)]) (M2 := mrow (mrow M 54 r125) 55 r126) (Ps := []) (by decide +kernel) rfl rfl trivial ?_
        refine G.mem (M' := mrow (mrow (mrow (mrow M 54 r125) 55 r126) 74 (M.1 74)) 75 (M.1 75)) ((((mrow_id (N := mrow (mrow M 54 r125) 55 r126) (c := 74) (f := M.1 74) (by first | rfl | (simp only [mput, mrow_same, mrow_hit, mrow_miss, mrow_sw, idr_eq, ne_eq, Nat.reduceEqDiff, not_false_eq_true, Nat.reduceLT, reduceCtorEq]; done))).symm).trans (mrow_id (N := mrow (mrow (mrow M 54 r125) 55 r126) 74 (M.1 74)) (c := 75) (f := M.1 75) (by first | rfl | (simp only [mput, mrow_same, mrow_hit, mrow_miss, mrow_sw, idr_eq, ne_eq, Nat.reduceEqDiff, not_false_eq_true, Nat.reduceLT, reduceCtorEq]; done))).symm).trans (by first | rfl | (simp only [mput, mrow_same, mrow_hit, mrow_miss, mrow_sw, idr_eq, ne_eq, Nat.reduceEqDiff, not_false_eq_true, Nat.reduceLT, reduceCtorEq]; done))) ?_
        exact G.reti (by decide +kernel) rfl rfl (Nat.le_of_ble_eq_true rfl) (Nat.le_of_ble_eq_true rfl) ((by rw [hQ]; simp only [k_book, if_neg c1, if_pos c121, g123, if_pos c129, mrow_self]))
    · skip
      rw [if_neg c121] at hk
      refine G.sl [(.iload_n 1, 1, 1, 0, 0, 0), (.bipush 60, 2, 0, 0, 0, nI 60)] [] (pc2 := 21) (ls2 := [some (.ref 54), some (.int x1), none, none, none, none]) (st2 := [.int (nI 60), .int x1, .ref 54]) (M2 := mrow M 54 (upd (M.1 54) 0 (nI 0))) (Ps := []) (by decide +kernel) rfl rfl trivial ?_
      refine G.ic_gt (off := (7)) (tgt := 28) (by decide +kernel) rfl (fun c241 => ?_) (fun c241 => ?_)
      · skip
        rw [if_pos c241] at hk
        refine G.sl [(.iconst 0, 1, 0, 0, 0, nI 0), (.iconst 1, 1, 0, 0, 0, nI 1), (.iconst 1, 1, 0, 0, 0, nI 1)] [] (pc2 := 31) (ls2 := [some (.ref 54), some (.int x1), none, none, none, none]) (st2 := [.int (nI 1), .int (nI 1), .int (nI 0), .ref 54]) (M2 := mrow M 54 (upd (M.1 54) 0 (nI 0))) (Ps := []) (by decide +kernel) rfl rfl trivial ?_
        obtain ⟨k242, hk⟩ := hk
        rcases g243 : k_may_1 (upd (M.1 54) 0 (nI 0)) (M.1 55) (nI 0) (nI 1) with ⟨v244, r245, r246⟩
        try simp only [g243] at hk
        have ev244 : v244 = 0 ∨ v244 = 1 := by
          have q9 := k_may_1_01 (upd (M.1 54) 0 (nI 0)) (M.1 55) (nI 0) (nI 1)
          rw [g243] at q9
          exact q9
        have t247 : GM z mX12_may (d + 1) [.ref 54, .int (nI 0), .int (nI 1), .int (nI 1)] (mrow M 54 (upd (M.1 54) 0 (nI 0))) (fun rs => rs = .inl (some (.int v244), mrow (mrow M 54 r245) 55 r246)) := by
          have q9 := c_k_may_1_54 z (d + 1) (mrow M 54 (upd (M.1 54) 0 (nI 0))) (nI 0) (nI 1)
          try simp only [mput, mrow_same, mrow_hit, mrow_miss, mrow_sw, idr_eq, ne_eq, Nat.reduceEqDiff, not_false_eq_true, Nat.reduceLT, reduceCtorEq, g243] at q9
          exact q9
        refine G.callV (as := [.int (nI 0), .int (nI 1), .int (nI 1)]) (rest := []) (a := 54) oX12_may lk_EvenFindersModel_213 (by decide +kernel) rfl rfl ⟨rfl, rfl⟩ (Nat.le_of_ble_eq_true rfl) rfl ⟨Nat.le_of_ble_eq_true rfl, Nat.le_of_ble_eq_true rfl⟩ t247 (fun v9 N9 h248 => ?_) (fun E9 N9 h248 => by cases h248)
        cases h248
        show G z mX12_book (d + 2) 0 0 34 [some (.ref 54), some (.int x1), none, none, none, none] [.int v244] (mrow (mrow M 54 r245) 55 r246) Q
        refine G.if_ne (off := (5)) (tgt := 39) (by decide +kernel) rfl (fun c249 => ?_) (fun c249 => ?_)
        · skip
          rw [if_neg c249] at hk
          refine G.sl [(.aload_n 0, 1, 0, 0, 0, 0), (.iload_n 1, 1, 1, 0, 0, 0)] [] (pc2 := 41) (ls2 := [some (.ref 54), some (.int x1), none, none, none, none]) (st2 := [.int x1, .ref 54]) (M2 := mrow (mrow M 54 r245) 55 r246) (Ps := []) (by decide +kernel) rfl rfl trivial ?_
          obtain ⟨k250, hk⟩ := hk
          rcases g251 : k_begins r245 x1 with ⟨u252, r253⟩
          try simp only [g251] at hk
          have t254 : GM z mX12_begins (d + 1) [.ref 54, .int x1] (mrow (mrow M 54 r245) 55 r246) (fun rs => rs = .inl (none, mrow (mrow M 54 r253) 55 r246)) := by
            have q9 := c_k_begins_54 z (d + 1) (mrow (mrow M 54 r245) 55 r246) x1
            try simp only [mput, mrow_same, mrow_hit, mrow_miss, mrow_sw, idr_eq, ne_eq, Nat.reduceEqDiff, not_false_eq_true, Nat.reduceLT, reduceCtorEq, g251] at q9
            exact q9
          refine G.callV (as := [.int x1]) (rest := []) (a := 54) oX12_begins lk_EvenFindersModel_217 (by decide +kernel) rfl rfl ⟨rfl, rfl⟩ (Nat.le_of_ble_eq_true rfl) rfl ⟨Nat.le_of_ble_eq_true rfl, Nat.le_of_ble_eq_true rfl⟩ t254 (fun v9 N9 h255 => ?_) (fun E9 N9 h255 => by cases h255)
          cases h255
          show G z mX12_book (d + 2) 0 0 44 [some (.ref 54), some (.int x1), none, none, none, none] [] (mrow (mrow M 54 r253) 55 r246) Q
          refine G.sl [(.iconst 0, 1, 0, 0, 0, nI 0), (.istore_n 2, 1, 2, 0, 0, 0)] [] (pc2 := 46) (ls2 := [some (.ref 54), some (.int x1), some (.int (nI 0)), none, none, none]) (st2 := []) (M2 := mrow (mrow M 54 r253) 55 r246) (Ps := []) (by decide +kernel) rfl rfl trivial ?_
          refine G.loc (ls2 := [some (.ref 54), none, some (.int (nI 0)), none, none, none]) (by simp [subL]) ?_
          obtain ⟨k256, hk⟩ := hk
          refine lp_k_book_54_46c z d (mrow (mrow M 54 r253) 55 r246) Q (cN 8) (cN_eq 8) ?_
          try simp only [mput, mrow_same, mrow_hit, mrow_miss, mrow_sw, idr_eq, ne_eq, Nat.reduceEqDiff, not_false_eq_true, Nat.reduceLT, reduceCtorEq]
          show G z mX12_book (d + 2) 0 0 65 [some (.ref 54), none, none, none, none, none] [] (mrow (mrow (mrow M 54 r253) 55 r246) 74 (k_book_46c (M.1 74) (cN 8))) Q
          refine G.sl [(.iconst 0, 1, 0, 0, 0, nI 0), (.istore_n 2, 1, 2, 0, 0, 0)] [] (pc2 := 67) (ls2 := [some (.ref 54), none, some (.int (nI 0)), none, none, none]) (st2 := []) (M2 := mrow (mrow (mrow M 54 r253) 55 r246) 74 (k_book_46c (M.1 74) (cN 8))) (Ps := []) (by decide +kernel) rfl rfl trivial ?_
          obtain ⟨k343, hk⟩ := hk
          refine G.mem (M' := mrow (mrow (mrow (mrow (mrow M 54 r253) 55 r246) 74 (k_book_46c (M.1 74) (cN 8))) 54 ((mrow (mrow (mrow M 54 r253) 55 r246) 74 (k_book_46c (M.1 74) (cN 8))).1 54)) 74 ((mrow (mrow (mrow M 54 r253) 55 r246) 74 (k_book_46c (M.1 74) (cN 8))).1 74)) (by simp only [mrow_self]) ?_
          refine lp_k_book_54_67c z d (mrow (mrow (mrow M 54 r253) 55 r246) 74 (k_book_46c (M.1 74) (cN 8))) Q FU (nI 0) ((mrow (mrow (mrow M 54 r253) 55 r246) 74 (k_book_46c (M.1 74) (cN 8))).1 54) ((mrow (mrow (mrow M 54 r253) 55 r246) 74 (k_book_46c (M.1 74) (cN 8))).1 74) (by first | (simp only [mput, mrow_same, mrow_hit, mrow_miss, mrow_sw, idr_eq, ne_eq, Nat.reduceEqDiff, not_false_eq_true, Nat.reduceLT, reduceCtorEq]; exact k343) | exact k343) ?_
          try simp only [mput, mrow_same, mrow_hit, mrow_miss, mrow_sw, idr_eq, ne_eq, Nat.reduceEqDiff, not_false_eq_true, Nat.reduceLT, reduceCtorEq]
          rcases g344 : k_book_67c (M.1 56) FU (nI 0) r253 (k_book_46c (M.1 74) (cN 8)) with ⟨v345, r346, r347⟩
          try simp only [g344] at hk
          show G z mX12_book (d + 2) 0 0 169 [some (.ref 54), none, some (.int v345), none, none, none] [] (mrow (mrow (mrow M 54 r346) 55 r246) 74 r347) Q
          refine G.sl [(.aload_n 0, 1, 0, 0, 0, 0), (.iload_n 2, 1, 2, 0, 0, 0)] [] (pc2 := 171) (ls2 := [some (.ref 54), none, some (.int v345), none, none, none]) (st2 := [.int v345, .ref 54]) (M2 := mrow (mrow (mrow M 54 r346) 55 r246) 74 r347) (Ps := []) (by decide +kernel) rfl rfl trivial ?_
          obtain ⟨k348, hk⟩ := hk
          rcases g349 : k_result r346 v345 with ⟨v350, r351⟩
          try simp only [g349] at hk
          have t352 : GM z mX12_result (d + 1) [.ref 54, .int v345] (mrow (mrow (mrow M 54 r346) 55 r246) 74 r347) (fun rs => rs = .inl (some (.int v350), mrow (mrow (mrow M 54 r351) 55 r246) 74 r347)) := by
            have q9 := c_k_result_54 z d (mrow (mrow (mrow M 54 r346) 55 r246) 74 r347) v345
            try simp only [mput, mrow_same, mrow_hit, mrow_miss, mrow_sw, idr_eq, ne_eq, Nat.reduceEqDiff, not_false_eq_true, Nat.reduceLT, reduceCtorEq, g349] at q9
            exact q9
          refine G.callV (as := [.int v345]) (rest := []) (a := 54) oX12_result lk_EvenFindersModel_242 (by decide +kernel) rfl rfl ⟨rfl, rfl⟩ (Nat.le_of_ble_eq_true rfl) rfl ⟨Nat.le_of_ble_eq_true rfl, Nat.le_of_ble_eq_true rfl⟩ t352 (fun v9 N9 h353 => ?_) (fun E9 N9 h353 => by cases h353)
          cases h353
          show G z mX12_book (d + 2) 0 0 174 [some (.ref 54), none, some (.int v345), none, none, none] [.int v350] (mrow (mrow (mrow M 54 r351) 55 r246) 74 r347) Q
          refine G.sl [(.istore_n 3, 1, 3, 0, 0, 0), (.aload_n 0, 1, 0, 0, 0, 0), (.getfield 101, 3, 11, 5, 128, 0), (.iconst (-1), 1, 0, 0, 0, (-1))] [] (pc2 := 180) (ls2 := [some (.ref 54), none, some (.int v345), some (.int v350), none, none]) (st2 := [.int ((-1)), .int (r351 5)]) (M2 := mrow (mrow (mrow M 54 r351) 55 r246) 74 r347) (Ps := []) (by decide +kernel) rfl rfl trivial ?_
          refine G.ic_eq (off := (5)) (tgt := 185) (by decide +kernel) rfl (fun c354 => ?_) (fun c354 => ?_)
          · skip
            rw [if_pos c354] at hk
            refine G.sl [(.aload_n 0, 1, 0, 0, 0, 0), (.iload_n 2, 1, 2, 0, 0, 0), (.putfield 175, 3, 11, 45, 168, 0), (.aload_n 0, 1, 0, 0, 0, 0), (.aload_n 0, 1, 0, 0, 0, 0), (.getfield 74, 3, 11, 43, 166, 0), (.aload_n 0, 1, 0, 0, 0, 0), (.getfield 77, 3, 11, 44, 167, 0), (.bipush 8, 2, 0, 0, 0, nI 8)] [] (pc2 := 201) (ls2 := [some (.ref 54), none, some (.int v345), some (.int v350), none, none]) (st2 := [.int (nI 8), .ref 75, .ref 74, .ref 54]) (M2 := mput (mrow (mrow (mrow M 54 r351) 55 r246) 74 r347) 54 45 v345) (Ps := []) (by decide +kernel) rfl rfl trivial ?_
            refine G.mem (M' := mrow (mrow (mrow M 54 (upd r351 45 v345)) 55 r246) 74 r347) (by first | rfl | (simp only [mput, mrow_same, mrow_hit, mrow_miss, mrow_sw, idr_eq, ne_eq, Nat.reduceEqDiff, not_false_eq_true, Nat.reduceLT, reduceCtorEq]; done)) ?_
            obtain ⟨k355, hk⟩ := hk
            rcases g356 : k_copies_L8_L8 r347 (M.1 75) 8 with ⟨u357, r358⟩
            have t359 : GM z mX12_copies (d + 1) [.ref 54, .ref 74, .ref 75, .int (nI 8)] (mrow (mrow (mrow M 54 (upd r351 45 v345)) 55 r246) 74 r347) (fun rs => rs = .inl (none, mrow (mrow (mrow (mrow M 54 (upd r351 45 v345)) 55 r246) 74 r347) 75 r358)) := by
              have q9 := c_k_copies_L8_L8_54_74_75 z (d + 1) (mrow (mrow (mrow M 54 (upd r351 45 v345)) 55 r246) 74 r347) 8 (by omega) k355
              try simp only [mput, mrow_same, mrow_hit, mrow_miss, mrow_sw, idr_eq, ne_eq, Nat.reduceEqDiff, not_false_eq_true, Nat.reduceLT, reduceCtorEq, g356] at q9
              exact q9
            refine G.callV (as := [.ref 74, .ref 75, .int (nI 8)]) (rest := []) (a := 54) oX12_copies lk_EvenFindersModel_168 (by decide +kernel) rfl rfl ⟨rfl, rfl⟩ (Nat.le_of_ble_eq_true rfl) rfl ⟨Nat.le_of_ble_eq_true rfl, Nat.le_of_ble_eq_true rfl⟩ t359 (fun v9 N9 h360 => ?_) (fun E9 N9 h360 => by cases h360)
            cases h360
            show G z mX12_book (d + 2) 0 0 204 [some (.ref 54), none, some (.int v345), some (.int v350), none, none] [] (mrow (mrow (mrow (mrow M 54 (upd r351 45 v345)) 55 r246) 74 r347) 75 r358) Q
            refine G.sl [(.iload_n 3, 1, 3, 0, 0, 0)] [] (pc2 := 205) (ls2 := [some (.ref 54), none, some (.int v345), some (.int v350), none, none]) (st2 := [.int v350]) (M2 := mrow (mrow (mrow (mrow M 54 (upd r351 45 v345)) 55 r246) 74 r347) 75 r358) (Ps := []) (by decide +kernel) rfl rfl trivial ?_
            exact G.reti (by decide +kernel) rfl rfl (Nat.le_of_ble_eq_true rfl) (Nat.le_of_ble_eq_true rfl) ((by rw [hQ]; simp only [k_book, if_neg c1, if_neg c121, if_pos c241, g243, if_neg c249, g251, g344, g349, if_pos c354, g356, mrow_self]))
          · skip
            rw [if_neg c354] at hk
            refine G.sl [(.iload_n 3, 1, 3, 0, 0, 0)] [] (pc2 := 184) (ls2 := [some (.ref 54), none, some (.int v345), some (.int v350), none, none]) (st2 := [.int v350]) (M2 := mrow (mrow (mrow M 54 r351) 55 r246) 74 r347) (Ps := []) (by decide +kernel) rfl rfl trivial ?_
            refine G.mem (M' := mrow (mrow (mrow (mrow M 54 r351) 55 r246) 74 r347) 75 (M.1 75)) (((mrow_id (N := mrow (mrow (mrow M 54 r351) 55 r246) 74 r347) (c := 75) (f := M.1 75) (by first | rfl | (simp only [mput, mrow_same, mrow_hit, mrow_miss, mrow_sw, idr_eq, ne_eq, Nat.reduceEqDiff, not_false_eq_true, Nat.reduceLT, reduceCtorEq]; done))).symm).trans (by first | rfl | (simp only [mput, mrow_same, mrow_hit, mrow_miss, mrow_sw, idr_eq, ne_eq, Nat.reduceEqDiff, not_false_eq_true, Nat.reduceLT, reduceCtorEq]; done))) ?_
            exact G.reti (by decide +kernel) rfl rfl (Nat.le_of_ble_eq_true rfl) (Nat.le_of_ble_eq_true rfl) ((by rw [hQ]; simp only [k_book, if_neg c1, if_neg c121, if_pos c241, g243, if_neg c249, g251, g344, g349, if_neg c354, mrow_self]))
        · skip
          rw [if_pos c249] at hk
          refine G.sl [(.iconst 0, 1, 0, 0, 0, nI 0)] [] (pc2 := 38) (ls2 := [some (.ref 54), some (.int x1), none, none, none, none]) (st2 := [.int (nI 0)]) (M2 := mrow (mrow M 54 r245) 55 r246) (Ps := []) (by decide +kernel) rfl rfl trivial ?_
          refine G.mem (M' := mrow (mrow (mrow (mrow M 54 r245) 55 r246) 74 (M.1 74)) 75 (M.1 75)) ((((mrow_id (N := mrow (mrow M 54 r245) 55 r246) (c := 74) (f := M.1 74) (by first | rfl | (simp only [mput, mrow_same, mrow_hit, mrow_miss, mrow_sw, idr_eq, ne_eq, Nat.reduceEqDiff, not_false_eq_true, Nat.reduceLT, reduceCtorEq]; done))).symm).trans (mrow_id (N := mrow (mrow (mrow M 54 r245) 55 r246) 74 (M.1 74)) (c := 75) (f := M.1 75) (by first | rfl | (simp only [mput, mrow_same, mrow_hit, mrow_miss, mrow_sw, idr_eq, ne_eq, Nat.reduceEqDiff, not_false_eq_true, Nat.reduceLT, reduceCtorEq]; done))).symm).trans (by first | rfl | (simp only [mput, mrow_same, mrow_hit, mrow_miss, mrow_sw, idr_eq, ne_eq, Nat.reduceEqDiff, not_false_eq_true, Nat.reduceLT, reduceCtorEq]; done))) ?_
          exact G.reti (by decide +kernel) rfl rfl (Nat.le_of_ble_eq_true rfl) (Nat.le_of_ble_eq_true rfl) ((by rw [hQ]; simp only [k_book, if_neg c1, if_neg c121, if_pos c241, g243, if_pos c249, mrow_self]))
      · skip
        rw [if_neg c241] at hk
        refine G.sl [(.iconst 1, 1, 0, 0, 0, nI 1), (.goto 4, 3, 29, 0, 0, 0), (.iconst 1, 1, 0, 0, 0, nI 1), (.iconst 1, 1, 0, 0, 0, nI 1)] [] (pc2 := 31) (ls2 := [some (.ref 54), some (.int x1), none, none, none, none]) (st2 := [.int (nI 1), .int (nI 1), .int (nI 1), .ref 54]) (M2 := mrow M 54 (upd (M.1 54) 0 (nI 0))) (Ps := []) (by decide +kernel) rfl rfl trivial ?_
        obtain ⟨k361, hk⟩ := hk
        rcases g362 : k_may_1 (upd (M.1 54) 0 (nI 0)) (M.1 55) (nI 1) (nI 1) with ⟨v363, r364, r365⟩
        try simp only [g362] at hk
        have ev363 : v363 = 0 ∨ v363 = 1 := by
          have q9 := k_may_1_01 (upd (M.1 54) 0 (nI 0)) (M.1 55) (nI 1) (nI 1)
          rw [g362] at q9
          exact q9
        have t366 : GM z mX12_may (d + 1) [.ref 54, .int (nI 1), .int (nI 1), .int (nI 1)] (mrow M 54 (upd (M.1 54) 0 (nI 0))) (fun rs => rs = .inl (some (.int v363), mrow (mrow M 54 r364) 55 r365)) := by
          have q9 := c_k_may_1_54 z (d + 1) (mrow M 54 (upd (M.1 54) 0 (nI 0))) (nI 1) (nI 1)
          try simp only [mput, mrow_same, mrow_hit, mrow_miss, mrow_sw, idr_eq, ne_eq, Nat.reduceEqDiff, not_false_eq_true, Nat.reduceLT, reduceCtorEq, g362] at q9
          exact q9
        refine G.callV (as := [.int (nI 1), .int (nI 1), .int (nI 1)]) (rest := []) (a := 54) oX12_may lk_EvenFindersModel_213 (by decide +kernel) rfl rfl ⟨rfl, rfl⟩ (Nat.le_of_ble_eq_true rfl) rfl ⟨Nat.le_of_ble_eq_true rfl, Nat.le_of_ble_eq_true rfl⟩ t366 (fun v9 N9 h367 => ?_) (fun E9 N9 h367 => by cases h367)
        cases h367
        show G z mX12_book (d + 2) 0 0 34 [some (.ref 54), some (.int x1), none, none, none, none] [.int v363] (mrow (mrow M 54 r364) 55 r365) Q
        refine G.if_ne (off := (5)) (tgt := 39) (by decide +kernel) rfl (fun c368 => ?_) (fun c368 => ?_)
        · skip
          rw [if_neg c368] at hk
          refine G.sl [(.aload_n 0, 1, 0, 0, 0, 0), (.iload_n 1, 1, 1, 0, 0, 0)] [] (pc2 := 41) (ls2 := [some (.ref 54), some (.int x1), none, none, none, none]) (st2 := [.int x1, .ref 54]) (M2 := mrow (mrow M 54 r364) 55 r365) (Ps := []) (by decide +kernel) rfl rfl trivial ?_
          obtain ⟨k369, hk⟩ := hk
          rcases g370 : k_begins r364 x1 with ⟨u371, r372⟩
          try simp only [g370] at hk
          have t373 : GM z mX12_begins (d + 1) [.ref 54, .int x1] (mrow (mrow M 54 r364) 55 r365) (fun rs => rs = .inl (none, mrow (mrow M 54 r372) 55 r365)) := by
            have q9 := c_k_begins_54 z (d + 1) (mrow (mrow M 54 r364) 55 r365) x1
            try simp only [mput, mrow_same, mrow_hit, mrow_miss, mrow_sw, idr_eq, ne_eq, Nat.reduceEqDiff, not_false_eq_true, Nat.reduceLT, reduceCtorEq, g370] at q9
            exact q9
          refine G.callV (as := [.int x1]) (rest := []) (a := 54) oX12_begins lk_EvenFindersModel_217 (by decide +kernel) rfl rfl ⟨rfl, rfl⟩ (Nat.le_of_ble_eq_true rfl) rfl ⟨Nat.le_of_ble_eq_true rfl, Nat.le_of_ble_eq_true rfl⟩ t373 (fun v9 N9 h374 => ?_) (fun E9 N9 h374 => by cases h374)
          cases h374
          show G z mX12_book (d + 2) 0 0 44 [some (.ref 54), some (.int x1), none, none, none, none] [] (mrow (mrow M 54 r372) 55 r365) Q
          refine G.sl [(.iconst 0, 1, 0, 0, 0, nI 0), (.istore_n 2, 1, 2, 0, 0, 0)] [] (pc2 := 46) (ls2 := [some (.ref 54), some (.int x1), some (.int (nI 0)), none, none, none]) (st2 := []) (M2 := mrow (mrow M 54 r372) 55 r365) (Ps := []) (by decide +kernel) rfl rfl trivial ?_
          refine G.loc (ls2 := [some (.ref 54), none, some (.int (nI 0)), none, none, none]) (by simp [subL]) ?_
          obtain ⟨k375, hk⟩ := hk
          refine lp_k_book_54_46d z d (mrow (mrow M 54 r372) 55 r365) Q (cN 8) (cN_eq 8) ?_
          try simp only [mput, mrow_same, mrow_hit, mrow_miss, mrow_sw, idr_eq, ne_eq, Nat.reduceEqDiff, not_false_eq_true, Nat.reduceLT, reduceCtorEq]
          show G z mX12_book (d + 2) 0 0 65 [some (.ref 54), none, none, none, none, none] [] (mrow (mrow (mrow M 54 r372) 55 r365) 74 (k_book_46d (M.1 74) (cN 8))) Q
          refine G.sl [(.iconst 0, 1, 0, 0, 0, nI 0), (.istore_n 2, 1, 2, 0, 0, 0)] [] (pc2 := 67) (ls2 := [some (.ref 54), none, some (.int (nI 0)), none, none, none]) (st2 := []) (M2 := mrow (mrow (mrow M 54 r372) 55 r365) 74 (k_book_46d (M.1 74) (cN 8))) (Ps := []) (by decide +kernel) rfl rfl trivial ?_
          obtain ⟨k462, hk⟩ := hk
          refine G.mem (M' := mrow (mrow (mrow (mrow (mrow M 54 r372) 55 r365) 74 (k_book_46d (M.1 74) (cN 8))) 54 ((mrow (mrow (mrow M 54 r372) 55 r365) 74 (k_book_46d (M.1 74) (cN 8))).1 54)) 74 ((mrow (mrow (mrow M 54 r372) 55 r365) 74 (k_book_46d (M.1 74) (cN 8))).1 74)) (by simp only [mrow_self]) ?_
          refine lp_k_book_54_67d z d (mrow (mrow (mrow M 54 r372) 55 r365) 74 (k_book_46d (M.1 74) (cN 8))) Q FU (nI 0) ((mrow (mrow (mrow M 54 r372) 55 r365) 74 (k_book_46d (M.1 74) (cN 8))).1 54) ((mrow (mrow (mrow M 54 r372) 55 r365) 74 (k_book_46d (M.1 74) (cN 8))).1 74) (by first | (simp only [mput, mrow_same, mrow_hit, mrow_miss, mrow_sw, idr_eq, ne_eq, Nat.reduceEqDiff, not_false_eq_true, Nat.reduceLT, reduceCtorEq]; exact k462) | exact k462) ?_
          try simp only [mput, mrow_same, mrow_hit, mrow_miss, mrow_sw, idr_eq, ne_eq, Nat.reduceEqDiff, not_false_eq_true, Nat.reduceLT, reduceCtorEq]
          rcases g463 : k_book_67d (M.1 56) FU (nI 0) r372 (k_book_46d (M.1 74) (cN 8)) with ⟨v464, r465, r466⟩
          try simp only [g463] at hk
          show G z mX12_book (d + 2) 0 0 169 [some (.ref 54), none, some (.int v464), none, none, none] [] (mrow (mrow (mrow M 54 r465) 55 r365) 74 r466) Q
          refine G.sl [(.aload_n 0, 1, 0, 0, 0, 0), (.iload_n 2, 1, 2, 0, 0, 0)] [] (pc2 := 171) (ls2 := [some (.ref 54), none, some (.int v464), none, none, none]) (st2 := [.int v464, .ref 54]) (M2 := mrow (mrow (mrow M 54 r465) 55 r365) 74 r466) (Ps := []) (by decide +kernel) rfl rfl trivial ?_
          obtain ⟨k467, hk⟩ := hk
          rcases g468 : k_result r465 v464 with ⟨v469, r470⟩
          try simp only [g468] at hk
          have t471 : GM z mX12_result (d + 1) [.ref 54, .int v464] (mrow (mrow (mrow M 54 r465) 55 r365) 74 r466) (fun rs => rs = .inl (some (.int v469), mrow (mrow (mrow M 54 r470) 55 r365) 74 r466)) := by
            have q9 := c_k_result_54 z d (mrow (mrow (mrow M 54 r465) 55 r365) 74 r466) v464
            try simp only [mput, mrow_same, mrow_hit, mrow_miss, mrow_sw, idr_eq, ne_eq, Nat.reduceEqDiff, not_false_eq_true, Nat.reduceLT, reduceCtorEq, g468] at q9
            exact q9
          refine G.callV (as := [.int v464]) (rest := []) (a := 54) oX12_result lk_EvenFindersModel_242 (by decide +kernel) rfl rfl ⟨rfl, rfl⟩ (Nat.le_of_ble_eq_true rfl) rfl ⟨Nat.le_of_ble_eq_true rfl, Nat.le_of_ble_eq_true rfl⟩ t471 (fun v9 N9 h472 => ?_) (fun E9 N9 h472 => by cases h472)
          cases h472
          show G z mX12_book (d + 2) 0 0 174 [some (.ref 54), none, some (.int v464), none, none, none] [.int v469] (mrow (mrow (mrow M 54 r470) 55 r365) 74 r466) Q
          refine G.sl [(.istore_n 3, 1, 3, 0, 0, 0), (.aload_n 0, 1, 0, 0, 0, 0), (.getfield 101, 3, 11, 5, 128, 0), (.iconst (-1), 1, 0, 0, 0, (-1))] [] (pc2 := 180) (ls2 := [some (.ref 54), none, some (.int v464), some (.int v469), none, none]) (st2 := [.int ((-1)), .int (r470 5)]) (M2 := mrow (mrow (mrow M 54 r470) 55 r365) 74 r466) (Ps := []) (by decide +kernel) rfl rfl trivial ?_
          refine G.ic_eq (off := (5)) (tgt := 185) (by decide +kernel) rfl (fun c473 => ?_) (fun c473 => ?_)
          · skip
            rw [if_pos c473] at hk
            refine G.sl [(.aload_n 0, 1, 0, 0, 0, 0), (.iload_n 2, 1, 2, 0, 0, 0), (.putfield 175, 3, 11, 45, 168, 0), (.aload_n 0, 1, 0, 0, 0, 0), (.aload_n 0, 1, 0, 0, 0, 0), (.getfield 74, 3, 11, 43, 166, 0), (.aload_n 0, 1, 0, 0, 0, 0), (.getfield 77, 3, 11, 44, 167, 0), (.bipush 8, 2, 0, 0, 0, nI 8)] [] (pc2 := 201) (ls2 := [some (.ref 54), none, some (.int v464), some (.int v469), none, none]) (st2 := [.int (nI 8), .ref 75, .ref 74, .ref 54]) (M2 := mput (mrow (mrow (mrow M 54 r470) 55 r365) 74 r466) 54 45 v464) (Ps := []) (by decide +kernel) rfl rfl trivial ?_
            refine G.mem (M' := mrow (mrow (mrow M 54 (upd r470 45 v464)) 55 r365) 74 r466) (by first | rfl | (simp only [mput, mrow_same, mrow_hit, mrow_miss, mrow_sw, idr_eq, ne_eq, Nat.reduceEqDiff, not_false_eq_true, Nat.reduceLT, reduceCtorEq]; done)) ?_
            obtain ⟨k474, hk⟩ := hk
            rcases g475 : k_copies_L8_L8 r466 (M.1 75) 8 with ⟨u476, r477⟩
            have t478 : GM z mX12_copies (d + 1) [.ref 54, .ref 74, .ref 75, .int (nI 8)] (mrow (mrow (mrow M 54 (upd r470 45 v464)) 55 r365) 74 r466) (fun rs => rs = .inl (none, mrow (mrow (mrow (mrow M 54 (upd r470 45 v464)) 55 r365) 74 r466) 75 r477)) := by
              have q9 := c_k_copies_L8_L8_54_74_75 z (d + 1) (mrow (mrow (mrow M 54 (upd r470 45 v464)) 55 r365) 74 r466) 8 (by omega) k474
              try simp only [mput, mrow_same, mrow_hit, mrow_miss, mrow_sw, idr_eq, ne_eq, Nat.reduceEqDiff, not_false_eq_true, Nat.reduceLT, reduceCtorEq, g475] at q9
              exact q9
            refine G.callV (as := [.ref 74, .ref 75, .int (nI 8)]) (rest := []) (a := 54) oX12_copies lk_EvenFindersModel_168 (by decide +kernel) rfl rfl ⟨rfl, rfl⟩ (Nat.le_of_ble_eq_true rfl) rfl ⟨Nat.le_of_ble_eq_true rfl, Nat.le_of_ble_eq_true rfl⟩ t478 (fun v9 N9 h479 => ?_) (fun E9 N9 h479 => by cases h479)
            cases h479
            show G z mX12_book (d + 2) 0 0 204 [some (.ref 54), none, some (.int v464), some (.int v469), none, none] [] (mrow (mrow (mrow (mrow M 54 (upd r470 45 v464)) 55 r365) 74 r466) 75 r477) Q
            refine G.sl [(.iload_n 3, 1, 3, 0, 0, 0)] [] (pc2 := 205) (ls2 := [some (.ref 54), none, some (.int v464), some (.int v469), none, none]) (st2 := [.int v469]) (M2 := mrow (mrow (mrow (mrow M 54 (upd r470 45 v464)) 55 r365) 74 r466) 75 r477) (Ps := []) (by decide +kernel) rfl rfl trivial ?_
            exact G.reti (by decide +kernel) rfl rfl (Nat.le_of_ble_eq_true rfl) (Nat.le_of_ble_eq_true rfl) ((by rw [hQ]; simp only [k_book, if_neg c1, if_neg c121, if_neg c241, g362, if_neg c368, g370, g463, g468, if_pos c473, g475, mrow_self]))
          · skip
            rw [if_neg c473] at hk
            refine G.sl [(.iload_n 3, 1, 3, 0, 0, 0)] [] (pc2 := 184) (ls2 := [some (.ref 54), none, some (.int v464), some (.int v469), none, none]) (st2 := [.int v469]) (M2 := mrow (mrow (mrow M 54 r470) 55 r365) 74 r466) (Ps := []) (by decide +kernel) rfl rfl trivial ?_
            refine G.mem (M' := mrow (mrow (mrow (mrow M 54 r470) 55 r365) 74 r466) 75 (M.1 75)) (((mrow_id (N := mrow (mrow (mrow M 54 r470) 55 r365) 74 r466) (c := 75) (f := M.1 75) (by first | rfl | (simp only [mput, mrow_same, mrow_hit, mrow_miss, mrow_sw, idr_eq, ne_eq, Nat.reduceEqDiff, not_false_eq_true, Nat.reduceLT, reduceCtorEq]; done))).symm).trans (by first | rfl | (simp only [mput, mrow_same, mrow_hit, mrow_miss, mrow_sw, idr_eq, ne_eq, Nat.reduceEqDiff, not_false_eq_true, Nat.reduceLT, reduceCtorEq]; done))) ?_
            exact G.reti (by decide +kernel) rfl rfl (Nat.le_of_ble_eq_true rfl) (Nat.le_of_ble_eq_true rfl) ((by rw [hQ]; simp only [k_book, if_neg c1, if_neg c121, if_neg c241, g362, if_neg c368, g370, g463, g468, if_neg c473, mrow_self]))
        · skip
          rw [if_pos c368] at hk
          refine G.sl [(.iconst 0, 1, 0, 0, 0, nI 0)] [] (pc2 := 38) (ls2 := [some (.ref 54), some (.int x1), none, none, none, none]) (st2 := [.int (nI 0)]) (M2 := mrow (mrow M 54 r364) 55 r365) (Ps := []) (by decide +kernel) rfl rfl trivial ?_
          refine G.mem (M' := mrow (mrow (mrow (mrow M 54 r364) 55 r365) 74 (M.1 74)) 75 (M.1 75)) ((((mrow_id (N := mrow (mrow M 54 r364) 55 r365) (c := 74) (f := M.1 74) (by first | rfl | (simp only [mput, mrow_same, mrow_hit, mrow_miss, mrow_sw, idr_eq, ne_eq, Nat.reduceEqDiff, not_false_eq_true, Nat.reduceLT, reduceCtorEq]; done))).symm).trans (mrow_id (N := mrow (mrow (mrow M 54 r364) 55 r365) 74 (M.1 74)) (c := 75) (f := M.1 75) (by first | rfl | (simp only [mput, mrow_same, mrow_hit, mrow_miss, mrow_sw, idr_eq, ne_eq, Nat.reduceEqDiff, not_false_eq_true, Nat.reduceLT, reduceCtorEq]; done))).symm).trans (by first | rfl | (simp only [mput, mrow_same, mrow_hit, mrow_miss, mrow_sw, idr_eq, ne_eq, Nat.reduceEqDiff, not_false_eq_true, Nat.reduceLT, reduceCtorEq]; done))) ?_
          exact G.reti (by decide +kernel) rfl rfl (Nat.le_of_ble_eq_true rfl) (Nat.le_of_ble_eq_true rfl) ((by rw [hQ]; simp only [k_book, if_neg c1, if_neg c121, if_neg c241, g362, if_pos c368, mrow_self]))
