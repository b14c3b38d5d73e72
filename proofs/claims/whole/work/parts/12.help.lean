theorem h_town_r (z : Zp) (hw : oW z = true) (d : Nat) (M N : Mem) (p0 : Int32) (v : Int32) (hM : GM z mX11_town d [.ref 0, .int p0] M (fun rs => rs = .inl (some (.int v), N))) : GH z mL_town (d + 1) [.ref 0, .int p0, .ref 80] M (fun rs => rs = .inl (some (.int (nI 0)), mout N v.toInt64)) := by
  refine GH.of oL_town (Nat.le_of_ble_eq_true rfl) ?_
  show G z mL_town (d + 1) 0 0 0 [some (.ref 0), some (.int p0), some (.ref 80), none] [] M _
  refine G.sl [(.aload_n 2, 1, 2, 0, 0, 0), (.iconst 0, 1, 0, 0, 0, nI 0), (.aload_n 0, 1, 0, 0, 0, 0), (.iload_n 1, 1, 1, 0, 0, 0)] [] (pc2 := 4) (ls2 := [some (.ref 0), some (.int p0), some (.ref 80), none]) (st2 := [.int p0, .ref 0, .int (nI 0), .ref 80]) (M2 := M) (Ps := []) (by decide +kernel) rfl rfl trivial ?_
  refine G.callC (as := [.int p0]) (rest := [.int (nI 0), .ref 80]) (a := 0) rfl oX11_town lk_EvenFindersLaw_7 (by decide +kernel) rfl rfl ⟨rfl, rfl⟩ (Nat.le_of_ble_eq_true rfl) ⟨Nat.le_of_ble_eq_true rfl, Nat.le_of_ble_eq_true rfl⟩ hM (fun v9 N9 h9 => ?_) (fun E9 N9 h9 => by cases h9)
  cases h9
  show G z mL_town (d + 1) 1 6 7 [some (.ref 0), some (.int p0), some (.ref 80), none] [.int v, .int (nI 0), .ref 80] N _
  refine G.sl [(.i2l, 1, 0, 0, 0, 0), (.lastore, 1, 0, 0, 0, 0), (.goto 6, 3, 15, 0, 0, 0), (.iconst 0, 1, 0, 0, 0, nI 0)] [] (pc2 := 16) (ls2 := [some (.ref 0), some (.int p0), some (.ref 80), none]) (st2 := [.int (nI 0)]) (M2 := mout N v.toInt64) (Ps := [(nI 0) = 0 ∧ oW z = true]) (by decide +kernel) rfl rfl ⟨⟨by decide, hw⟩, trivial⟩ ?_
  refine G.mem (M' := mout N v.toInt64) (by first | rfl | (simp only [mput, mrow_same, mrow_hit, mrow_miss, mrow_sw, idr_eq, ne_eq, Nat.reduceEqDiff, not_false_eq_true, Nat.reduceLT, reduceCtorEq]; done)) ?_
  exact G.reti (by decide +kernel) rfl rfl (Nat.le_of_ble_eq_true rfl) (Nat.le_of_ble_eq_true rfl) rfl
theorem h_town_i (z : Zp) (hw : oW z = true) (d : Nat) (M N : Mem) (p0 : Int32) (hM : GM z mX11_town d [.ref 0, .int p0] M (fun rs => rs = .inr ("java/lang/IllegalArgumentException", N))) : GH z mL_town (d + 1) [.ref 0, .int p0, .ref 80] M (fun rs => rs = .inl (some (.int (nI 1)), N)) := by
  refine GH.of oL_town (Nat.le_of_ble_eq_true rfl) ?_
  show G z mL_town (d + 1) 0 0 0 [some (.ref 0), some (.int p0), some (.ref 80), none] [] M _
  refine G.sl [(.aload_n 2, 1, 2, 0, 0, 0), (.iconst 0, 1, 0, 0, 0, nI 0), (.aload_n 0, 1, 0, 0, 0, 0), (.iload_n 1, 1, 1, 0, 0, 0)] [] (pc2 := 4) (ls2 := [some (.ref 0), some (.int p0), some (.ref 80), none]) (st2 := [.int p0, .ref 0, .int (nI 0), .ref 80]) (M2 := M) (Ps := []) (by decide +kernel) rfl rfl trivial ?_
  refine G.callC (as := [.int p0]) (rest := [.int (nI 0), .ref 80]) (a := 0) rfl oX11_town lk_EvenFindersLaw_7 (by decide +kernel) rfl rfl ⟨rfl, rfl⟩ (Nat.le_of_ble_eq_true rfl) ⟨Nat.le_of_ble_eq_true rfl, Nat.le_of_ble_eq_true rfl⟩ hM (fun v9 N9 h9 => by cases h9) (fun E9 N9 h9 => ?_)
  cases h9
  refine ⟨12, 3, 1, Or.inl ⟨rfl, _, _, rfl, by decide, by decide⟩, Or.inl ⟨3, by decide +kernel, rfl, rfl⟩, by decide, rfl, rfl, ?_⟩
  show G z mL_town (d + 1) 1 6 13 [some (.ref 0), some (.int p0), some (.ref 80), none] [] N _
  refine G.sl [(.iconst 1, 1, 0, 0, 0, nI 1)] [] (pc2 := 14) (ls2 := [some (.ref 0), some (.int p0), some (.ref 80), none]) (st2 := [.int (nI 1)]) (M2 := N) (Ps := []) (by decide +kernel) rfl rfl trivial ?_
  exact G.reti (by decide +kernel) rfl rfl (Nat.le_of_ble_eq_true rfl) (Nat.le_of_ble_eq_true rfl) rfl
theorem h_law_r (z : Zp) (hw : oW z = true) (d : Nat) (M N : Mem) (p0 : Int32) (v : Int32) (hM : GM z mX11_law d [.ref 0, .int p0] M (fun rs => rs = .inl (some (.int v), N))) : GH z mL_law (d + 1) [.ref 0, .int p0, .ref 80] M (fun rs => rs = .inl (some (.int (nI 0)), mout N v.toInt64)) := by
  refine GH.of oL_law (Nat.le_of_ble_eq_true rfl) ?_
  show G z mL_law (d + 1) 0 0 0 [some (.ref 0), some (.int p0), some (.ref 80), none] [] M _
  refine G.sl [(.aload_n 2, 1, 2, 0, 0, 0), (.iconst 0, 1, 0, 0, 0, nI 0), (.aload_n 0, 1, 0, 0, 0, 0), (.iload_n 1, 1, 1, 0, 0, 0)] [] (pc2 := 4) (ls2 := [some (.ref 0), some (.int p0), some (.ref 80), none]) (st2 := [.int p0, .ref 0, .int (nI 0), .ref 80]) (M2 := M) (Ps := []) (by decide +kernel) rfl rfl trivial ?_
  refine G.callC (as := [.int p0]) (rest := [.int (nI 0), .ref 80]) (a := 0) rfl oX11_law lk_EvenFindersLaw_15 (by decide +kernel) rfl rfl ⟨rfl, rfl⟩ (Nat.le_of_ble_eq_true rfl) ⟨Nat.le_of_ble_eq_true rfl, Nat.le_of_ble_eq_true rfl⟩ hM (fun v9 N9 h9 => ?_) (fun E9 N9 h9 => by cases h9)
  cases h9
  show G z mL_law (d + 1) 1 6 7 [some (.ref 0), some (.int p0), some (.ref 80), none] [.int v, .int (nI 0), .ref 80] N _
  refine G.sl [(.i2l, 1, 0, 0, 0, 0), (.lastore, 1, 0, 0, 0, 0), (.goto 6, 3, 15, 0, 0, 0), (.iconst 0, 1, 0, 0, 0, nI 0)] [] (pc2 := 16) (ls2 := [some (.ref 0), some (.int p0), some (.ref 80), none]) (st2 := [.int (nI 0)]) (M2 := mout N v.toInt64) (Ps := [(nI 0) = 0 ∧ oW z = true]) (by decide +kernel) rfl rfl ⟨⟨by decide, hw⟩, trivial⟩ ?_
  refine G.mem (M' := mout N v.toInt64) (by first | rfl | (simp only [mput, mrow_same, mrow_hit, mrow_miss, mrow_sw, idr_eq, ne_eq, Nat.reduceEqDiff, not_false_eq_true, Nat.reduceLT, reduceCtorEq]; done)) ?_
  exact G.reti (by decide +kernel) rfl rfl (Nat.le_of_ble_eq_true rfl) (Nat.le_of_ble_eq_true rfl) rfl
theorem h_law_i (z : Zp) (hw : oW z = true) (d : Nat) (M N : Mem) (p0 : Int32) (hM : GM z mX11_law d [.ref 0, .int p0] M (fun rs => rs = .inr ("java/lang/IllegalArgumentException", N))) : GH z mL_law (d + 1) [.ref 0, .int p0, .ref 80] M (fun rs => rs = .inl (some (.int (nI 1)), N)) := by
  refine GH.of oL_law (Nat.le_of_ble_eq_true rfl) ?_
  show G z mL_law (d + 1) 0 0 0 [some (.ref 0), some (.int p0), some (.ref 80), none] [] M _
  refine G.sl [(.aload_n 2, 1, 2, 0, 0, 0), (.iconst 0, 1, 0, 0, 0, nI 0), (.aload_n 0, 1, 0, 0, 0, 0), (.iload_n 1, 1, 1, 0, 0, 0)] [] (pc2 := 4) (ls2 := [some (.ref 0), some (.int p0), some (.ref 80), none]) (st2 := [.int p0, .ref 0, .int (nI 0), .ref 80]) (M2 := M) (Ps := []) (by decide +kernel) rfl rfl trivial ?_
  refine G.callC (as := [.int p0]) (rest := [.int (nI 0), .ref 80]) (a := 0) rfl oX11_law lk_EvenFindersLaw_15 (by decide +kernel) rfl rfl ⟨rfl, rfl⟩ (Nat.le_of_ble_eq_true rfl) ⟨Nat.le_of_ble_eq_true rfl, Nat.le_of_ble_eq_true rfl⟩ hM (fun v9 N9 h9 => by cases h9) (fun E9 N9 h9 => ?_)
  cases h9
  refine ⟨12, 3, 1, Or.inl ⟨rfl, _, _, rfl, by decide, by decide⟩, Or.inl ⟨3, by decide +kernel, rfl, rfl⟩, by decide, rfl, rfl, ?_⟩
  show G z mL_law (d + 1) 1 6 13 [some (.ref 0), some (.int p0), some (.ref 80), none] [] N _
  refine G.sl [(.iconst 1, 1, 0, 0, 0, nI 1)] [] (pc2 := 14) (ls2 := [some (.ref 0), some (.int p0), some (.ref 80), none]) (st2 := [.int (nI 1)]) (M2 := N) (Ps := []) (by decide +kernel) rfl rfl trivial ?_
  exact G.reti (by decide +kernel) rfl rfl (Nat.le_of_ble_eq_true rfl) (Nat.le_of_ble_eq_true rfl) rfl
theorem h_work_r (z : Zp) (hw : oW z = true) (d : Nat) (M N : Mem) (p0 : Int32) (v : Int32) (hM : GM z mX11_work d [.ref 0, .int p0] M (fun rs => rs = .inl (some (.int v), N))) : GH z mL_work (d + 1) [.ref 0, .int p0, .ref 80] M (fun rs => rs = .inl (some (.int (nI 0)), mout N v.toInt64)) := by
  refine GH.of oL_work (Nat.le_of_ble_eq_true rfl) ?_
  show G z mL_work (d + 1) 0 0 0 [some (.ref 0), some (.int p0), some (.ref 80), none] [] M _
  refine G.sl [(.aload_n 2, 1, 2, 0, 0, 0), (.iconst 0, 1, 0, 0, 0, nI 0), (.aload_n 0, 1, 0, 0, 0, 0), (.iload_n 1, 1, 1, 0, 0, 0)] [] (pc2 := 4) (ls2 := [some (.ref 0), some (.int p0), some (.ref 80), none]) (st2 := [.int p0, .ref 0, .int (nI 0), .ref 80]) (M2 := M) (Ps := []) (by decide +kernel) rfl rfl trivial ?_
  refine G.callC (as := [.int p0]) (rest := [.int (nI 0), .ref 80]) (a := 0) rfl oX11_work lk_EvenFindersLaw_18 (by decide +kernel) rfl rfl ⟨rfl, rfl⟩ (Nat.le_of_ble_eq_true rfl) ⟨Nat.le_of_ble_eq_true rfl, Nat.le_of_ble_eq_true rfl⟩ hM (fun v9 N9 h9 => ?_) (fun E9 N9 h9 => by cases h9)
  cases h9
  show G z mL_work (d + 1) 1 6 7 [some (.ref 0), some (.int p0), some (.ref 80), none] [.int v, .int (nI 0), .ref 80] N _
  refine G.sl [(.i2l, 1, 0, 0, 0, 0), (.lastore, 1, 0, 0, 0, 0), (.goto 6, 3, 15, 0, 0, 0), (.iconst 0, 1, 0, 0, 0, nI 0)] [] (pc2 := 16) (ls2 := [some (.ref 0), some (.int p0), some (.ref 80), none]) (st2 := [.int (nI 0)]) (M2 := mout N v.toInt64) (Ps := [(nI 0) = 0 ∧ oW z = true]) (by decide +kernel) rfl rfl ⟨⟨by decide, hw⟩, trivial⟩ ?_
  refine G.mem (M' := mout N v.toInt64) (by first | rfl | (simp only [mput, mrow_same, mrow_hit, mrow_miss, mrow_sw, idr_eq, ne_eq, Nat.reduceEqDiff, not_false_eq_true, Nat.reduceLT, reduceCtorEq]; done)) ?_
  exact G.reti (by decide +kernel) rfl rfl (Nat.le_of_ble_eq_true rfl) (Nat.le_of_ble_eq_true rfl) rfl
theorem h_work_i (z : Zp) (hw : oW z = true) (d : Nat) (M N : Mem) (p0 : Int32) (hM : GM z mX11_work d [.ref 0, .int p0] M (fun rs => rs = .inr ("java/lang/IllegalArgumentException", N))) : GH z mL_work (d + 1) [.ref 0, .int p0, .ref 80] M (fun rs => rs = .inl (some (.int (nI 1)), N)) := by
  refine GH.of oL_work (Nat.le_of_ble_eq_true rfl) ?_
  show G z mL_work (d + 1) 0 0 0 [some (.ref 0), some (.int p0), some (.ref 80), none] [] M _
  refine G.sl [(.aload_n 2, 1, 2, 0, 0, 0), (.iconst 0, 1, 0, 0, 0, nI 0), (.aload_n 0, 1, 0, 0, 0, 0), (.iload_n 1, 1, 1, 0, 0, 0)] [] (pc2 := 4) (ls2 := [some (.ref 0), some (.int p0), some (.ref 80), none]) (st2 := [.int p0, .ref 0, .int (nI 0), .ref 80]) (M2 := M) (Ps := []) (by decide +kernel) rfl rfl trivial ?_
  refine G.callC (as := [.int p0]) (rest := [.int (nI 0), .ref 80]) (a := 0) rfl oX11_work lk_EvenFindersLaw_18 (by decide +kernel) rfl rfl ⟨rfl, rfl⟩ (Nat.le_of_ble_eq_true rfl) ⟨Nat.le_of_ble_eq_true rfl, Nat.le_of_ble_eq_true rfl⟩ hM (fun v9 N9 h9 => by cases h9) (fun E9 N9 h9 => ?_)
  cases h9
  refine ⟨12, 3, 1, Or.inl ⟨rfl, _, _, rfl, by decide, by decide⟩, Or.inl ⟨3, by decide +kernel, rfl, rfl⟩, by decide, rfl, rfl, ?_⟩
  show G z mL_work (d + 1) 1 6 13 [some (.ref 0), some (.int p0), some (.ref 80), none] [] N _
  refine G.sl [(.iconst 1, 1, 0, 0, 0, nI 1)] [] (pc2 := 14) (ls2 := [some (.ref 0), some (.int p0), some (.ref 80), none]) (st2 := [.int (nI 1)]) (M2 := N) (Ps := []) (by decide +kernel) rfl rfl trivial ?_
  exact G.reti (by decide +kernel) rfl rfl (Nat.le_of_ble_eq_true rfl) (Nat.le_of_ble_eq_true rfl) rfl
theorem h_book_r (z : Zp) (hw : oW z = true) (d : Nat) (M N : Mem) (p0 : Int32) (v : Int32) (hM : GM z mX11_book d [.ref 0, .int p0] M (fun rs => rs = .inl (some (.int v), N))) : GH z mL_book (d + 1) [.ref 0, .int p0, .ref 80] M (fun rs => rs = .inl (some (.int (nI 0)), mout N v.toInt64)) := by
  refine GH.of oL_book (Nat.le_of_ble_eq_true rfl) ?_
  show G z mL_book (d + 1) 0 0 0 [some (.ref 0), some (.int p0), some (.ref 80), none] [] M _
  refine G.sl [(.aload_n 2, 1, 2, 0, 0, 0), (.iconst 0, 1, 0, 0, 0, nI 0), (.aload_n 0, 1, 0, 0, 0, 0), (.iload_n 1, 1, 1, 0, 0, 0)] [] (pc2 := 4) (ls2 := [some (.ref 0), some (.int p0), some (.ref 80), none]) (st2 := [.int p0, .ref 0, .int (nI 0), .ref 80]) (M2 := M) (Ps := []) (by decide +kernel) rfl rfl trivial ?_
  refine G.callC (as := [.int p0]) (rest := [.int (nI 0), .ref 80]) (a := 0) rfl oX11_book lk_EvenFindersLaw_21 (by decide +kernel) rfl rfl ⟨rfl, rfl⟩ (Nat.le_of_ble_eq_true rfl) ⟨Nat.le_of_ble_eq_true rfl, Nat.le_of_ble_eq_true rfl⟩ hM (fun v9 N9 h9 => ?_) (fun E9 N9 h9 => by cases h9)
  cases h9
  show G z mL_book (d + 1) 1 6 7 [some (.ref 0), some (.int p0), some (.ref 80), none] [.int v, .int (nI 0), .ref 80] N _
  refine G.sl [(.i2l, 1, 0, 0, 0, 0), (.lastore, 1, 0, 0, 0, 0), (.goto 6, 3, 15, 0, 0, 0), (.iconst 0, 1, 0, 0, 0, nI 0)] [] (pc2 := 16) (ls2 := [some (.ref 0), some (.int p0), some (.ref 80), none]) (st2 := [.int (nI 0)]) (M2 := mout N v.toInt64) (Ps := [(nI 0) = 0 ∧ oW z = true]) (by decide +kernel) rfl rfl ⟨⟨by decide, hw⟩, trivial⟩ ?_
  refine G.mem (M' := mout N v.toInt64) (by first | rfl | (simp only [mput, mrow_same, mrow_hit, mrow_miss, mrow_sw, idr_eq, ne_eq, Nat.reduceEqDiff, not_false_eq_true, Nat.reduceLT, reduceCtorEq]; done)) ?_
  exact G.reti (by decide +kernel) rfl rfl (Nat.le_of_ble_eq_true rfl) (Nat.le_of_ble_eq_true rfl) rfl
theorem h_book_i (z : Zp) (hw : oW z = true) (d : Nat) (M N : Mem) (p0 : Int32) (hM : GM z mX11_book d [.ref 0, .int p0] M (fun rs => rs = .inr ("java/lang/IllegalArgumentException", N))) : GH z mL_book (d + 1) [.ref 0, .int p0, .ref 80] M (fun rs => rs = .inl (some (.int (nI 1)), N)) := by
  refine GH.of oL_book (Nat.le_of_ble_eq_true rfl) ?_
  show G z mL_book (d + 1) 0 0 0 [some (.ref 0), some (.int p0), some (.ref 80), none] [] M _
  refine G.sl [(.aload_n 2, 1, 2, 0, 0, 0), (.iconst 0, 1, 0, 0, 0, nI 0), (.aload_n 0, 1, 0, 0, 0, 0), (.iload_n 1, 1, 1, 0, 0, 0)] [] (pc2 := 4) (ls2 := [some (.ref 0), some (.int p0), some (.ref 80), none]) (st2 := [.int p0, .ref 0, .int (nI 0), .ref 80]) (M2 := M) (Ps := []) (by decide +kernel) rfl rfl trivial ?_
  refine G.callC (as := [.int p0]) (rest := [.int (nI 0), .ref 80]) (a := 0) rfl oX11_book lk_EvenFindersLaw_21 (by decide +kernel) rfl rfl ⟨rfl, rfl⟩ (Nat.le_of_ble_eq_true rfl) ⟨Nat.le_of_ble_eq_true rfl, Nat.le_of_ble_eq_true rfl⟩ hM (fun v9 N9 h9 => by cases h9) (fun E9 N9 h9 => ?_)
  cases h9
  refine ⟨12, 3, 1, Or.inl ⟨rfl, _, _, rfl, by decide, by decide⟩, Or.inl ⟨3, by decide +kernel, rfl, rfl⟩, by decide, rfl, rfl, ?_⟩
  show G z mL_book (d + 1) 1 6 13 [some (.ref 0), some (.int p0), some (.ref 80), none] [] N _
  refine G.sl [(.iconst 1, 1, 0, 0, 0, nI 1)] [] (pc2 := 14) (ls2 := [some (.ref 0), some (.int p0), some (.ref 80), none]) (st2 := [.int (nI 1)]) (M2 := N) (Ps := []) (by decide +kernel) rfl rfl trivial ?_
  exact G.reti (by decide +kernel) rfl rfl (Nat.le_of_ble_eq_true rfl) (Nat.le_of_ble_eq_true rfl) rfl
theorem h_told_r (z : Zp) (hw : oW z = true) (d : Nat) (M N : Mem) (p0 : Int32) (v : Int32) (hM : GM z mX11_told d [.ref 0, .int p0] M (fun rs => rs = .inl (some (.int v), N))) : GH z mL_told (d + 1) [.ref 0, .int p0, .ref 80] M (fun rs => rs = .inl (some (.int (nI 0)), mout N v.toInt64)) := by
  refine GH.of oL_told (Nat.le_of_ble_eq_true rfl) ?_
  show G z mL_told (d + 1) 0 0 0 [some (.ref 0), some (.int p0), some (.ref 80), none] [] M _
  refine G.sl [(.aload_n 2, 1, 2, 0, 0, 0), (.iconst 0, 1, 0, 0, 0, nI 0), (.aload_n 0, 1, 0, 0, 0, 0), (.iload_n 1, 1, 1, 0, 0, 0)] [] (pc2 := 4) (ls2 := [some (.ref 0), some (.int p0), some (.ref 80), none]) (st2 := [.int p0, .ref 0, .int (nI 0), .ref 80]) (M2 := M) (Ps := []) (by decide +kernel) rfl rfl trivial ?_
  refine G.callC (as := [.int p0]) (rest := [.int (nI 0), .ref 80]) (a := 0) rfl oX11_told lk_EvenFindersLaw_24 (by decide +kernel) rfl rfl ⟨rfl, rfl⟩ (Nat.le_of_ble_eq_true rfl) ⟨Nat.le_of_ble_eq_true rfl, Nat.le_of_ble_eq_true rfl⟩ hM (fun v9 N9 h9 => ?_) (fun E9 N9 h9 => by cases h9)
  cases h9
  show G z mL_told (d + 1) 1 6 7 [some (.ref 0), some (.int p0), some (.ref 80), none] [.int v, .int (nI 0), .ref 80] N _
  refine G.sl [(.i2l, 1, 0, 0, 0, 0), (.lastore, 1, 0, 0, 0, 0), (.goto 6, 3, 15, 0, 0, 0), (.iconst 0, 1, 0, 0, 0, nI 0)] [] (pc2 := 16) (ls2 := [some (.ref 0), some (.int p0), some (.ref 80), none]) (st2 := [.int (nI 0)]) (M2 := mout N v.toInt64) (Ps := [(nI 0) = 0 ∧ oW z = true]) (by decide +kernel) rfl rfl ⟨⟨by decide, hw⟩, trivial⟩ ?_
  refine G.mem (M' := mout N v.toInt64) (by first | rfl | (simp only [mput, mrow_same, mrow_hit, mrow_miss, mrow_sw, idr_eq, ne_eq, Nat.reduceEqDiff, not_false_eq_true, Nat.reduceLT, reduceCtorEq]; done)) ?_
  exact G.reti (by decide +kernel) rfl rfl (Nat.le_of_ble_eq_true rfl) (Nat.le_of_ble_eq_true rfl) rfl
theorem h_told_i (z : Zp) (hw : oW z = true) (d : Nat) (M N : Mem) (p0 : Int32) (hM : GM z mX11_told d [.ref 0, .int p0] M (fun rs => rs = .inr ("java/lang/IllegalArgumentException", N))) : GH z mL_told (d + 1) [.ref 0, .int p0, .ref 80] M (fun rs => rs = .inl (some (.int (nI 1)), N)) := by
  refine GH.of oL_told (Nat.le_of_ble_eq_true rfl) ?_
  show G z mL_told (d + 1) 0 0 0 [some (.ref 0), some (.int p0), some (.ref 80), none] [] M _
  refine G.sl [(.aload_n 2, 1, 2, 0, 0, 0), (.iconst 0, 1, 0, 0, 0, nI 0), (.aload_n 0, 1, 0, 0, 0, 0), (.iload_n 1, 1, 1, 0, 0, 0)] [] (pc2 := 4) (ls2 := [some (.ref 0), some (.int p0), some (.ref 80), none]) (st2 := [.int p0, .ref 0, .int (nI 0), .ref 80]) (M2 := M) (Ps := []) (by decide +kernel) rfl rfl trivial ?_
  refine G.callC (as := [.int p0]) (rest := [.int (nI 0), .ref 80]) (a := 0) rfl oX11_told lk_EvenFindersLaw_24 (by decide +kernel) rfl rfl ⟨rfl, rfl⟩ (Nat.le_of_ble_eq_true rfl) ⟨Nat.le_of_ble_eq_true rfl, Nat.le_of_ble_eq_true rfl⟩ hM (fun v9 N9 h9 => by cases h9) (fun E9 N9 h9 => ?_)
  cases h9
  refine ⟨12, 3, 1, Or.inl ⟨rfl, _, _, rfl, by decide, by decide⟩, Or.inl ⟨3, by decide +kernel, rfl, rfl⟩, by decide, rfl, rfl, ?_⟩
  show G z mL_told (d + 1) 1 6 13 [some (.ref 0), some (.int p0), some (.ref 80), none] [] N _
  refine G.sl [(.iconst 1, 1, 0, 0, 0, nI 1)] [] (pc2 := 14) (ls2 := [some (.ref 0), some (.int p0), some (.ref 80), none]) (st2 := [.int (nI 1)]) (M2 := N) (Ps := []) (by decide +kernel) rfl rfl trivial ?_
  exact G.reti (by decide +kernel) rfl rfl (Nat.le_of_ble_eq_true rfl) (Nat.le_of_ble_eq_true rfl) rfl
theorem h_place_r (z : Zp) (hw : oW z = true) (d : Nat) (M N : Mem) (p0 p1 : Int32) (v : Int32) (hM : GM z mX11_place d [.ref 0, .int p0, .int p1] M (fun rs => rs = .inl (some (.int v), N))) : GH z mL_place (d + 1) [.ref 0, .int p0, .int p1, .ref 80] M (fun rs => rs = .inl (some (.int (nI 0)), mout N v.toInt64)) := by
  refine GH.of oL_place (Nat.le_of_ble_eq_true rfl) ?_
  show G z mL_place (d + 1) 0 0 0 [some (.ref 0), some (.int p0), some (.int p1), some (.ref 80), none] [] M _
  refine G.sl [(.aload_n 3, 1, 3, 0, 0, 0), (.iconst 0, 1, 0, 0, 0, nI 0), (.aload_n 0, 1, 0, 0, 0, 0), (.iload_n 1, 1, 1, 0, 0, 0), (.iload_n 2, 1, 2, 0, 0, 0)] [] (pc2 := 5) (ls2 := [some (.ref 0), some (.int p0), some (.int p1), some (.ref 80), none]) (st2 := [.int p1, .int p0, .ref 0, .int (nI 0), .ref 80]) (M2 := M) (Ps := []) (by decide +kernel) rfl rfl trivial ?_
  refine G.callC (as := [.int p0, .int p1]) (rest := [.int (nI 0), .ref 80]) (a := 0) rfl oX11_place lk_EvenFindersLaw_27 (by decide +kernel) rfl rfl ⟨rfl, rfl⟩ (Nat.le_of_ble_eq_true rfl) ⟨Nat.le_of_ble_eq_true rfl, Nat.le_of_ble_eq_true rfl⟩ hM (fun v9 N9 h9 => ?_) (fun E9 N9 h9 => by cases h9)
  cases h9
  show G z mL_place (d + 1) 2 12 8 [some (.ref 0), some (.int p0), some (.int p1), some (.ref 80), none] [.int v, .int (nI 0), .ref 80] N _
  refine G.sl [(.i2l, 1, 0, 0, 0, 0), (.lastore, 1, 0, 0, 0, 0), (.goto 11, 3, 21, 0, 0, 0), (.iconst 0, 1, 0, 0, 0, nI 0)] [] (pc2 := 22) (ls2 := [some (.ref 0), some (.int p0), some (.int p1), some (.ref 80), none]) (st2 := [.int (nI 0)]) (M2 := mout N v.toInt64) (Ps := [(nI 0) = 0 ∧ oW z = true]) (by decide +kernel) rfl rfl ⟨⟨by decide, hw⟩, trivial⟩ ?_
  refine G.mem (M' := mout N v.toInt64) (by first | rfl | (simp only [mput, mrow_same, mrow_hit, mrow_miss, mrow_sw, idr_eq, ne_eq, Nat.reduceEqDiff, not_false_eq_true, Nat.reduceLT, reduceCtorEq]; done)) ?_
  exact G.reti (by decide +kernel) rfl rfl (Nat.le_of_ble_eq_true rfl) (Nat.le_of_ble_eq_true rfl) rfl
theorem h_place_n (z : Zp) (hw : oW z = true) (d : Nat) (M N : Mem) (p0 p1 : Int32) (hM : GM z mX11_place d [.ref 0, .int p0, .int p1] M (fun rs => rs = .inr ("java/util/NoSuchElementException", N))) : GH z mL_place (d + 1) [.ref 0, .int p0, .int p1, .ref 80] M (fun rs => rs = .inl (some (.int (nI 1)), N)) := by
  refine GH.of oL_place (Nat.le_of_ble_eq_true rfl) ?_
  show G z mL_place (d + 1) 0 0 0 [some (.ref 0), some (.int p0), some (.int p1), some (.ref 80), none] [] M _
  refine G.sl [(.aload_n 3, 1, 3, 0, 0, 0), (.iconst 0, 1, 0, 0, 0, nI 0), (.aload_n 0, 1, 0, 0, 0, 0), (.iload_n 1, 1, 1, 0, 0, 0), (.iload_n 2, 1, 2, 0, 0, 0)] [] (pc2 := 5) (ls2 := [some (.ref 0), some (.int p0), some (.int p1), some (.ref 80), none]) (st2 := [.int p1, .int p0, .ref 0, .int (nI 0), .ref 80]) (M2 := M) (Ps := []) (by decide +kernel) rfl rfl trivial ?_
  refine G.callC (as := [.int p0, .int p1]) (rest := [.int (nI 0), .ref 80]) (a := 0) rfl oX11_place lk_EvenFindersLaw_27 (by decide +kernel) rfl rfl ⟨rfl, rfl⟩ (Nat.le_of_ble_eq_true rfl) ⟨Nat.le_of_ble_eq_true rfl, Nat.le_of_ble_eq_true rfl⟩ hM (fun v9 N9 h9 => by cases h9) (fun E9 N9 h9 => ?_)
  cases h9
  refine ⟨13, 4, 2, Or.inr (Or.inl ⟨rfl, _, _, _, rfl, by decide, by decide⟩), Or.inr ⟨by decide +kernel, rfl⟩, by decide, rfl, rfl, ?_⟩
  show G z mL_place (d + 1) 2 12 15 [some (.ref 0), some (.int p0), some (.int p1), some (.ref 80), none] [] N _
  refine G.sl [(.iconst 1, 1, 0, 0, 0, nI 1)] [] (pc2 := 16) (ls2 := [some (.ref 0), some (.int p0), some (.int p1), some (.ref 80), none]) (st2 := [.int (nI 1)]) (M2 := N) (Ps := []) (by decide +kernel) rfl rfl trivial ?_
  exact G.reti (by decide +kernel) rfl rfl (Nat.le_of_ble_eq_true rfl) (Nat.le_of_ble_eq_true rfl) rfl
theorem h_place_i (z : Zp) (hw : oW z = true) (d : Nat) (M N : Mem) (p0 p1 : Int32) (hM : GM z mX11_place d [.ref 0, .int p0, .int p1] M (fun rs => rs = .inr ("java/lang/IllegalArgumentException", N))) : GH z mL_place (d + 1) [.ref 0, .int p0, .int p1, .ref 80] M (fun rs => rs = .inl (some (.int (nI 2)), N)) := by
  refine GH.of oL_place (Nat.le_of_ble_eq_true rfl) ?_
  show G z mL_place (d + 1) 0 0 0 [some (.ref 0), some (.int p0), some (.int p1), some (.ref 80), none] [] M _
  refine G.sl [(.aload_n 3, 1, 3, 0, 0, 0), (.iconst 0, 1, 0, 0, 0, nI 0), (.aload_n 0, 1, 0, 0, 0, 0), (.iload_n 1, 1, 1, 0, 0, 0), (.iload_n 2, 1, 2, 0, 0, 0)] [] (pc2 := 5) (ls2 := [some (.ref 0), some (.int p0), some (.int p1), some (.ref 80), none]) (st2 := [.int p1, .int p0, .ref 0, .int (nI 0), .ref 80]) (M2 := M) (Ps := []) (by decide +kernel) rfl rfl trivial ?_
  refine G.callC (as := [.int p0, .int p1]) (rest := [.int (nI 0), .ref 80]) (a := 0) rfl oX11_place lk_EvenFindersLaw_27 (by decide +kernel) rfl rfl ⟨rfl, rfl⟩ (Nat.le_of_ble_eq_true rfl) ⟨Nat.le_of_ble_eq_true rfl, Nat.le_of_ble_eq_true rfl⟩ hM (fun v9 N9 h9 => by cases h9) (fun E9 N9 h9 => ?_)
  cases h9
  refine ⟨17, 4, 2, Or.inr (Or.inr ⟨rfl, _, _, _, _, _, rfl, by decide, by decide, by decide, by decide⟩), Or.inr ⟨by decide +kernel, rfl⟩, by decide, rfl, rfl, ?_⟩
  show G z mL_place (d + 1) 2 12 19 [some (.ref 0), some (.int p0), some (.int p1), some (.ref 80), none] [] N _
  refine G.sl [(.iconst 2, 1, 0, 0, 0, nI 2)] [] (pc2 := 20) (ls2 := [some (.ref 0), some (.int p0), some (.int p1), some (.ref 80), none]) (st2 := [.int (nI 2)]) (M2 := N) (Ps := []) (by decide +kernel) rfl rfl trivial ?_
  exact G.reti (by decide +kernel) rfl rfl (Nat.le_of_ble_eq_true rfl) (Nat.le_of_ble_eq_true rfl) rfl
theorem h_road_r (z : Zp) (hw : oW z = true) (d : Nat) (M N : Mem) (p0 p1 : Int32) (v : Int32) (hM : GM z mX11_road d [.ref 0, .int p0, .int p1] M (fun rs => rs = .inl (some (.int v), N))) : GH z mL_road (d + 1) [.ref 0, .int p0, .int p1, .ref 80] M (fun rs => rs = .inl (some (.int (nI 0)), mout N v.toInt64)) := by
  refine GH.of oL_road (Nat.le_of_ble_eq_true rfl) ?_
  show G z mL_road (d + 1) 0 0 0 [some (.ref 0), some (.int p0), some (.int p1), some (.ref 80), none] [] M _
  refine G.sl [(.aload_n 3, 1, 3, 0, 0, 0), (.iconst 0, 1, 0, 0, 0, nI 0), (.aload_n 0, 1, 0, 0, 0, 0), (.iload_n 1, 1, 1, 0, 0, 0), (.iload_n 2, 1, 2, 0, 0, 0)] [] (pc2 := 5) (ls2 := [some (.ref 0), some (.int p0), some (.int p1), some (.ref 80), none]) (st2 := [.int p1, .int p0, .ref 0, .int (nI 0), .ref 80]) (M2 := M) (Ps := []) (by decide +kernel) rfl rfl trivial ?_
  refine G.callC (as := [.int p0, .int p1]) (rest := [.int (nI 0), .ref 80]) (a := 0) rfl oX11_road lk_EvenFindersLaw_33 (by decide +kernel) rfl rfl ⟨rfl, rfl⟩ (Nat.le_of_ble_eq_true rfl) ⟨Nat.le_of_ble_eq_true rfl, Nat.le_of_ble_eq_true rfl⟩ hM (fun v9 N9 h9 => ?_) (fun E9 N9 h9 => by cases h9)
  cases h9
  show G z mL_road (d + 1) 2 12 8 [some (.ref 0), some (.int p0), some (.int p1), some (.ref 80), none] [.int v, .int (nI 0), .ref 80] N _
  refine G.sl [(.i2l, 1, 0, 0, 0, 0), (.lastore, 1, 0, 0, 0, 0), (.goto 11, 3, 21, 0, 0, 0), (.iconst 0, 1, 0, 0, 0, nI 0)] [] (pc2 := 22) (ls2 := [some (.ref 0), some (.int p0), some (.int p1), some (.ref 80), none]) (st2 := [.int (nI 0)]) (M2 := mout N v.toInt64) (Ps := [(nI 0) = 0 ∧ oW z = true]) (by decide +kernel) rfl rfl ⟨⟨by decide, hw⟩, trivial⟩ ?_
  refine G.mem (M' := mout N v.toInt64) (by first | rfl | (simp only [mput, mrow_same, mrow_hit, mrow_miss, mrow_sw, idr_eq, ne_eq, Nat.reduceEqDiff, not_false_eq_true, Nat.reduceLT, reduceCtorEq]; done)) ?_
  exact G.reti (by decide +kernel) rfl rfl (Nat.le_of_ble_eq_true rfl) (Nat.le_of_ble_eq_true rfl) rfl
theorem h_road_n (z : Zp) (hw : oW z = true) (d : Nat) (M N : Mem) (p0 p1 : Int32) (hM : GM z mX11_road d [.ref 0, .int p0, .int p1] M (fun rs => rs = .inr ("java/util/NoSuchElementException", N))) : GH z mL_road (d + 1) [.ref 0, .int p0, .int p1, .ref 80] M (fun rs => rs = .inl (some (.int (nI 1)), N)) := by
  refine GH.of oL_road (Nat.le_of_ble_eq_true rfl) ?_
  show G z mL_road (d + 1) 0 0 0 [some (.ref 0), some (.int p0), some (.int p1), some (.ref 80), none] [] M _
  refine G.sl [(.aload_n 3, 1, 3, 0, 0, 0), (.iconst 0, 1, 0, 0, 0, nI 0), (.aload_n 0, 1, 0, 0, 0, 0), (.iload_n 1, 1, 1, 0, 0, 0), (.iload_n 2, 1, 2, 0, 0, 0)] [] (pc2 := 5) (ls2 := [some (.ref 0), some (.int p0), some (.int p1), some (.ref 80), none]) (st2 := [.int p1, .int p0, .ref 0, .int (nI 0), .ref 80]) (M2 := M) (Ps := []) (by decide +kernel) rfl rfl trivial ?_
  refine G.callC (as := [.int p0, .int p1]) (rest := [.int (nI 0), .ref 80]) (a := 0) rfl oX11_road lk_EvenFindersLaw_33 (by decide +kernel) rfl rfl ⟨rfl, rfl⟩ (Nat.le_of_ble_eq_true rfl) ⟨Nat.le_of_ble_eq_true rfl, Nat.le_of_ble_eq_true rfl⟩ hM (fun v9 N9 h9 => by cases h9) (fun E9 N9 h9 => ?_)
  cases h9
  refine ⟨13, 4, 2, Or.inr (Or.inl ⟨rfl, _, _, _, rfl, by decide, by decide⟩), Or.inr ⟨by decide +kernel, rfl⟩, by decide, rfl, rfl, ?_⟩
  show G z mL_road (d + 1) 2 12 15 [some (.ref 0), some (.int p0), some (.int p1), some (.ref 80), none] [] N _
  refine G.sl [(.iconst 1, 1, 0, 0, 0, nI 1)] [] (pc2 := 16) (ls2 := [some (.ref 0), some (.int p0), some (.int p1), some (.ref 80), none]) (st2 := [.int (nI 1)]) (M2 := N) (Ps := []) (by decide +kernel) rfl rfl trivial ?_
  exact G.reti (by decide +kernel) rfl rfl (Nat.le_of_ble_eq_true rfl) (Nat.le_of_ble_eq_true rfl) rfl
theorem h_road_i (z : Zp) (hw : oW z = true) (d : Nat) (M N : Mem) (p0 p1 : Int32) (hM : GM z mX11_road d [.ref 0, .int p0, .int p1] M (fun rs => rs = .inr ("java/lang/IllegalArgumentException", N))) : GH z mL_road (d + 1) [.ref 0, .int p0, .int p1, .ref 80] M (fun rs => rs = .inl (some (.int (nI 2)), N)) := by
  refine GH.of oL_road (Nat.le_of_ble_eq_true rfl) ?_
  show G z mL_road (d + 1) 0 0 0 [some (.ref 0), some (.int p0), some (.int p1), some (.ref 80), none] [] M _
  refine G.sl [(.aload_n 3, 1, 3, 0, 0, 0), (.iconst 0, 1, 0, 0, 0, nI 0), (.aload_n 0, 1, 0, 0, 0, 0), (.iload_n 1, 1, 1, 0, 0, 0), (.iload_n 2, 1, 2, 0, 0, 0)] [] (pc2 := 5) (ls2 := [some (.ref 0), some (.int p0), some (.int p1), some (.ref 80), none]) (st2 := [.int p1, .int p0, .ref 0, .int (nI 0), .ref 80]) (M2 := M) (Ps := []) (by decide +kernel) rfl rfl trivial ?_
  refine G.callC (as := [.int p0, .int p1]) (rest := [.int (nI 0), .ref 80]) (a := 0) rfl oX11_road lk_EvenFindersLaw_33 (by decide +kernel) rfl rfl ⟨rfl, rfl⟩ (Nat.le_of_ble_eq_true rfl) ⟨Nat.le_of_ble_eq_true rfl, Nat.le_of_ble_eq_true rfl⟩ hM (fun v9 N9 h9 => by cases h9) (fun E9 N9 h9 => ?_)
  cases h9
  refine ⟨17, 4, 2, Or.inr (Or.inr ⟨rfl, _, _, _, _, _, rfl, by decide, by decide, by decide, by decide⟩), Or.inr ⟨by decide +kernel, rfl⟩, by decide, rfl, rfl, ?_⟩
  show G z mL_road (d + 1) 2 12 19 [some (.ref 0), some (.int p0), some (.int p1), some (.ref 80), none] [] N _
  refine G.sl [(.iconst 2, 1, 0, 0, 0, nI 2)] [] (pc2 := 20) (ls2 := [some (.ref 0), some (.int p0), some (.int p1), some (.ref 80), none]) (st2 := [.int (nI 2)]) (M2 := N) (Ps := []) (by decide +kernel) rfl rfl trivial ?_
  exact G.reti (by decide +kernel) rfl rfl (Nat.le_of_ble_eq_true rfl) (Nat.le_of_ble_eq_true rfl) rfl
theorem h_thing_r (z : Zp) (hw : oW z = true) (d : Nat) (M N : Mem) (p0 p1 : Int32) (v : Int32) (hM : GM z mX11_thing d [.ref 0, .int p0, .int p1] M (fun rs => rs = .inl (some (.int v), N))) : GH z mL_thing (d + 1) [.ref 0, .int p0, .int p1, .ref 80] M (fun rs => rs = .inl (some (.int (nI 0)), mout N v.toInt64)) := by
  refine GH.of oL_thing (Nat.le_of_ble_eq_true rfl) ?_
  show G z mL_thing (d + 1) 0 0 0 [some (.ref 0), some (.int p0), some (.int p1), some (.ref 80), none] [] M _
  refine G.sl [(.aload_n 3, 1, 3, 0, 0, 0), (.iconst 0, 1, 0, 0, 0, nI 0), (.aload_n 0, 1, 0, 0, 0, 0), (.iload_n 1, 1, 1, 0, 0, 0), (.iload_n 2, 1, 2, 0, 0, 0)] [] (pc2 := 5) (ls2 := [some (.ref 0), some (.int p0), some (.int p1), some (.ref 80), none]) (st2 := [.int p1, .int p0, .ref 0, .int (nI 0), .ref 80]) (M2 := M) (Ps := []) (by decide +kernel) rfl rfl trivial ?_
  refine G.callC (as := [.int p0, .int p1]) (rest := [.int (nI 0), .ref 80]) (a := 0) rfl oX11_thing lk_EvenFindersLaw_36 (by decide +kernel) rfl rfl ⟨rfl, rfl⟩ (Nat.le_of_ble_eq_true rfl) ⟨Nat.le_of_ble_eq_true rfl, Nat.le_of_ble_eq_true rfl⟩ hM (fun v9 N9 h9 => ?_) (fun E9 N9 h9 => by cases h9)
  cases h9
  show G z mL_thing (d + 1) 2 12 8 [some (.ref 0), some (.int p0), some (.int p1), some (.ref 80), none] [.int v, .int (nI 0), .ref 80] N _
  refine G.sl [(.i2l, 1, 0, 0, 0, 0), (.lastore, 1, 0, 0, 0, 0), (.goto 11, 3, 21, 0, 0, 0), (.iconst 0, 1, 0, 0, 0, nI 0)] [] (pc2 := 22) (ls2 := [some (.ref 0), some (.int p0), some (.int p1), some (.ref 80), none]) (st2 := [.int (nI 0)]) (M2 := mout N v.toInt64) (Ps := [(nI 0) = 0 ∧ oW z = true]) (by decide +kernel) rfl rfl ⟨⟨by decide, hw⟩, trivial⟩ ?_
  refine G.mem (M' := mout N v.toInt64) (by first | rfl | (simp only [mput, mrow_same, mrow_hit, mrow_miss, mrow_sw, idr_eq, ne_eq, Nat.reduceEqDiff, not_false_eq_true, Nat.reduceLT, reduceCtorEq]; done)) ?_
  exact G.reti (by decide +kernel) rfl rfl (Nat.le_of_ble_eq_true rfl) (Nat.le_of_ble_eq_true rfl) rfl
theorem h_thing_n (z : Zp) (hw : oW z = true) (d : Nat) (M N : Mem) (p0 p1 : Int32) (hM : GM z mX11_thing d [.ref 0, .int p0, .int p1] M (fun rs => rs = .inr ("java/util/NoSuchElementException", N))) : GH z mL_thing (d + 1) [.ref 0, .int p0, .int p1, .ref 80] M (fun rs => rs = .inl (some (.int (nI 1)), N)) := by
  refine GH.of oL_thing (Nat.le_of_ble_eq_true rfl) ?_
  show G z mL_thing (d + 1) 0 0 0 [some (.ref 0), some (.int p0), some (.int p1), some (.ref 80), none] [] M _
  refine G.sl [(.aload_n 3, 1, 3, 0, 0, 0), (.iconst 0, 1, 0, 0, 0, nI 0), (.aload_n 0, 1, 0, 0, 0, 0), (.iload_n 1, 1, 1, 0, 0, 0), (.iload_n 2, 1, 2, 0, 0, 0)] [] (pc2 := 5) (ls2 := [some (.ref 0), some (.int p0), some (.int p1), some (.ref 80), none]) (st2 := [.int p1, .int p0, .ref 0, .int (nI 0), .ref 80]) (M2 := M) (Ps := []) (by decide +kernel) rfl rfl trivial ?_
  refine G.callC (as := [.int p0, .int p1]) (rest := [.int (nI 0), .ref 80]) (a := 0) rfl oX11_thing lk_EvenFindersLaw_36 (by decide +kernel) rfl rfl ⟨rfl, rfl⟩ (Nat.le_of_ble_eq_true rfl) ⟨Nat.le_of_ble_eq_true rfl, Nat.le_of_ble_eq_true rfl⟩ hM (fun v9 N9 h9 => by cases h9) (fun E9 N9 h9 => ?_)
  cases h9
  refine ⟨13, 4, 2, Or.inr (Or.inl ⟨rfl, _, _, _, rfl, by decide, by decide⟩), Or.inr ⟨by decide +kernel, rfl⟩, by decide, rfl, rfl, ?_⟩
  show G z mL_thing (d + 1) 2 12 15 [some (.ref 0), some (.int p0), some (.int p1), some (.ref 80), none] [] N _
  refine G.sl [(.iconst 1, 1, 0, 0, 0, nI 1)] [] (pc2 := 16) (ls2 := [some (.ref 0), some (.int p0), some (.int p1), some (.ref 80), none]) (st2 := [.int (nI 1)]) (M2 := N) (Ps := []) (by decide +kernel) rfl rfl trivial ?_
  exact G.reti (by decide +kernel) rfl rfl (Nat.le_of_ble_eq_true rfl) (Nat.le_of_ble_eq_true rfl) rfl
theorem h_thing_i (z : Zp) (hw : oW z = true) (d : Nat) (M N : Mem) (p0 p1 : Int32) (hM : GM z mX11_thing d [.ref 0, .int p0, .int p1] M (fun rs => rs = .inr ("java/lang/IllegalArgumentException", N))) : GH z mL_thing (d + 1) [.ref 0, .int p0, .int p1, .ref 80] M (fun rs => rs = .inl (some (.int (nI 2)), N)) := by
  refine GH.of oL_thing (Nat.le_of_ble_eq_true rfl) ?_
  show G z mL_thing (d + 1) 0 0 0 [some (.ref 0), some (.int p0), some (.int p1), some (.ref 80), none] [] M _
  refine G.sl [(.aload_n 3, 1, 3, 0, 0, 0), (.iconst 0, 1, 0, 0, 0, nI 0), (.aload_n 0, 1, 0, 0, 0, 0), (.iload_n 1, 1, 1, 0, 0, 0), (.iload_n 2, 1, 2, 0, 0, 0)] [] (pc2 := 5) (ls2 := [some (.ref 0), some (.int p0), some (.int p1), some (.ref 80), none]) (st2 := [.int p1, .int p0, .ref 0, .int (nI 0), .ref 80]) (M2 := M) (Ps := []) (by decide +kernel) rfl rfl trivial ?_
  refine G.callC (as := [.int p0, .int p1]) (rest := [.int (nI 0), .ref 80]) (a := 0) rfl oX11_thing lk_EvenFindersLaw_36 (by decide +kernel) rfl rfl ⟨rfl, rfl⟩ (Nat.le_of_ble_eq_true rfl) ⟨Nat.le_of_ble_eq_true rfl, Nat.le_of_ble_eq_true rfl⟩ hM (fun v9 N9 h9 => by cases h9) (fun E9 N9 h9 => ?_)
  cases h9
  refine ⟨17, 4, 2, Or.inr (Or.inr ⟨rfl, _, _, _, _, _, rfl, by decide, by decide, by decide, by decide⟩), Or.inr ⟨by decide +kernel, rfl⟩, by decide, rfl, rfl, ?_⟩
  show G z mL_thing (d + 1) 2 12 19 [some (.ref 0), some (.int p0), some (.int p1), some (.ref 80), none] [] N _
  refine G.sl [(.iconst 2, 1, 0, 0, 0, nI 2)] [] (pc2 := 20) (ls2 := [some (.ref 0), some (.int p0), some (.int p1), some (.ref 80), none]) (st2 := [.int (nI 2)]) (M2 := N) (Ps := []) (by decide +kernel) rfl rfl trivial ?_
  exact G.reti (by decide +kernel) rfl rfl (Nat.le_of_ble_eq_true rfl) (Nat.le_of_ble_eq_true rfl) rfl
theorem h_finder_r (z : Zp) (hw : oW z = true) (d : Nat) (M N : Mem) (p0 p1 : Int32) (v : Int32) (hM : GM z mX11_finder d [.ref 0, .int p0, .int p1] M (fun rs => rs = .inl (some (.int v), N))) : GH z mL_finder (d + 1) [.ref 0, .int p0, .int p1, .ref 80] M (fun rs => rs = .inl (some (.int (nI 0)), mout N v.toInt64)) := by
  refine GH.of oL_finder (Nat.le_of_ble_eq_true rfl) ?_
  show G z mL_finder (d + 1) 0 0 0 [some (.ref 0), some (.int p0), some (.int p1), some (.ref 80), none] [] M _
  refine G.sl [(.aload_n 3, 1, 3, 0, 0, 0), (.iconst 0, 1, 0, 0, 0, nI 0), (.aload_n 0, 1, 0, 0, 0, 0), (.iload_n 1, 1, 1, 0, 0, 0), (.iload_n 2, 1, 2, 0, 0, 0)] [] (pc2 := 5) (ls2 := [some (.ref 0), some (.int p0), some (.int p1), some (.ref 80), none]) (st2 := [.int p1, .int p0, .ref 0, .int (nI 0), .ref 80]) (M2 := M) (Ps := []) (by decide +kernel) rfl rfl trivial ?_
  refine G.callC (as := [.int p0, .int p1]) (rest := [.int (nI 0), .ref 80]) (a := 0) rfl oX11_finder lk_EvenFindersLaw_39 (by decide +kernel) rfl rfl ⟨rfl, rfl⟩ (Nat.le_of_ble_eq_true rfl) ⟨Nat.le_of_ble_eq_true rfl, Nat.le_of_ble_eq_true rfl⟩ hM (fun v9 N9 h9 => ?_) (fun E9 N9 h9 => by cases h9)
  cases h9
  show G z mL_finder (d + 1) 2 12 8 [some (.ref 0), some (.int p0), some (.int p1), some (.ref 80), none] [.int v, .int (nI 0), .ref 80] N _
  refine G.sl [(.i2l, 1, 0, 0, 0, 0), (.lastore, 1, 0, 0, 0, 0), (.goto 11, 3, 21, 0, 0, 0), (.iconst 0, 1, 0, 0, 0, nI 0)] [] (pc2 := 22) (ls2 := [some (.ref 0), some (.int p0), some (.int p1), some (.ref 80), none]) (st2 := [.int (nI 0)]) (M2 := mout N v.toInt64) (Ps := [(nI 0) = 0 ∧ oW z = true]) (by decide +kernel) rfl rfl ⟨⟨by decide, hw⟩, trivial⟩ ?_
  refine G.mem (M' := mout N v.toInt64) (by first | rfl | (simp only [mput, mrow_same, mrow_hit, mrow_miss, mrow_sw, idr_eq, ne_eq, Nat.reduceEqDiff, not_false_eq_true, Nat.reduceLT, reduceCtorEq]; done)) ?_
  exact G.reti (by decide +kernel) rfl rfl (Nat.le_of_ble_eq_true rfl) (Nat.le_of_ble_eq_true rfl) rfl
theorem h_finder_n (z : Zp) (hw : oW z = true) (d : Nat) (M N : Mem) (p0 p1 : Int32) (hM : GM z mX11_finder d [.ref 0, .int p0, .int p1] M (fun rs => rs = .inr ("java/util/NoSuchElementException", N))) : GH z mL_finder (d + 1) [.ref 0, .int p0, .int p1, .ref 80] M (fun rs => rs = .inl (some (.int (nI 1)), N)) := by
  refine GH.of oL_finder (Nat.le_of_ble_eq_true rfl) ?_
  show G z mL_finder (d + 1) 0 0 0 [some (.ref 0), some (.int p0), some (.int p1), some (.ref 80), none] [] M _
  refine G.sl [(.aload_n 3, 1, 3, 0, 0, 0), (.iconst 0, 1, 0, 0, 0, nI 0), (.aload_n 0, 1, 0, 0, 0, 0), (.iload_n 1, 1, 1, 0, 0, 0), (.iload_n 2, 1, 2, 0, 0, 0)] [] (pc2 := 5) (ls2 := [some (.ref 0), some (.int p0), some (.int p1), some (.ref 80), none]) (st2 := [.int p1, .int p0, .ref 0, .int (nI 0), .ref 80]) (M2 := M) (Ps := []) (by decide +kernel) rfl rfl trivial ?_
  refine G.callC (as := [.int p0, .int p1]) (rest := [.int (nI 0), .ref 80]) (a := 0) rfl oX11_finder lk_EvenFindersLaw_39 (by decide +kernel) rfl rfl ⟨rfl, rfl⟩ (Nat.le_of_ble_eq_true rfl) ⟨Nat.le_of_ble_eq_true rfl, Nat.le_of_ble_eq_true rfl⟩ hM (fun v9 N9 h9 => by cases h9) (fun E9 N9 h9 => ?_)
  cases h9
  refine ⟨13, 4, 2, Or.inr (Or.inl ⟨rfl, _, _, _, rfl, by decide, by decide⟩), Or.inr ⟨by decide +kernel, rfl⟩, by decide, rfl, rfl, ?_⟩
  show G z mL_finder (d + 1) 2 12 15 [some (.ref 0), some (.int p0), some (.int p1), some (.ref 80), none] [] N _
  refine G.sl [(.iconst 1, 1, 0, 0, 0, nI 1)] [] (pc2 := 16) (ls2 := [some (.ref 0), some (.int p0), some (.int p1), some (.ref 80), none]) (st2 := [.int (nI 1)]) (M2 := N) (Ps := []) (by decide +kernel) rfl rfl trivial ?_
  exact G.reti (by decide +kernel) rfl rfl (Nat.le_of_ble_eq_true rfl) (Nat.le_of_ble_eq_true rfl) rfl
theorem h_finder_i (z : Zp) (hw : oW z = true) (d : Nat) (M N : Mem) (p0 p1 : Int32) (hM : GM z mX11_finder d [.ref 0, .int p0, .int p1] M (fun rs => rs = .inr ("java/lang/IllegalArgumentException", N))) : GH z mL_finder (d + 1) [.ref 0, .int p0, .int p1, .ref 80] M (fun rs => rs = .inl (some (.int (nI 2)), N)) := by
  refine GH.of oL_finder (Nat.le_of_ble_eq_true rfl) ?_
  show G z mL_finder (d + 1) 0 0 0 [some (.ref 0), some (.int p0), some (.int p1), some (.ref 80), none] [] M _
  refine G.sl [(.aload_n 3, 1, 3, 0, 0, 0), (.iconst 0, 1, 0, 0, 0, nI 0), (.aload_n 0, 1, 0, 0, 0, 0), (.iload_n 1, 1, 1, 0, 0, 0), (.iload_n 2, 1, 2, 0, 0, 0)] [] (pc2 := 5) (ls2 := [some (.ref 0), some (.int p0), some (.int p1), some (.ref 80), none]) (st2 := [.int p1, .int p0, .ref 0, .int (nI 0), .ref 80]) (M2 := M) (Ps := []) (by decide +kernel) rfl rfl trivial ?_
  refine G.callC (as := [.int p0, .int p1]) (rest := [.int (nI 0), .ref 80]) (a := 0) rfl oX11_finder lk_EvenFindersLaw_39 (by decide +kernel) rfl rfl ⟨rfl, rfl⟩ (Nat.le_of_ble_eq_true rfl) ⟨Nat.le_of_ble_eq_true rfl, Nat.le_of_ble_eq_true rfl⟩ hM (fun v9 N9 h9 => by cases h9) (fun E9 N9 h9 => ?_)
  cases h9
  refine ⟨17, 4, 2, Or.inr (Or.inr ⟨rfl, _, _, _, _, _, rfl, by decide, by decide, by decide, by decide⟩), Or.inr ⟨by decide +kernel, rfl⟩, by decide, rfl, rfl, ?_⟩
  show G z mL_finder (d + 1) 2 12 19 [some (.ref 0), some (.int p0), some (.int p1), some (.ref 80), none] [] N _
  refine G.sl [(.iconst 2, 1, 0, 0, 0, nI 2)] [] (pc2 := 20) (ls2 := [some (.ref 0), some (.int p0), some (.int p1), some (.ref 80), none]) (st2 := [.int (nI 2)]) (M2 := N) (Ps := []) (by decide +kernel) rfl rfl trivial ?_
  exact G.reti (by decide +kernel) rfl rfl (Nat.le_of_ble_eq_true rfl) (Nat.le_of_ble_eq_true rfl) rfl
theorem h_duty_r (z : Zp) (hw : oW z = true) (d : Nat) (M N : Mem) (p0 p1 : Int32) (v : Int32) (hM : GM z mX11_duty d [.ref 0, .int p0, .int p1] M (fun rs => rs = .inl (some (.int v), N))) : GH z mL_duty (d + 1) [.ref 0, .int p0, .int p1, .ref 80] M (fun rs => rs = .inl (some (.int (nI 0)), mout N v.toInt64)) := by
  refine GH.of oL_duty (Nat.le_of_ble_eq_true rfl) ?_
  show G z mL_duty (d + 1) 0 0 0 [some (.ref 0), some (.int p0), some (.int p1), some (.ref 80), none] [] M _
  refine G.sl [(.aload_n 3, 1, 3, 0, 0, 0), (.iconst 0, 1, 0, 0, 0, nI 0), (.aload_n 0, 1, 0, 0, 0, 0), (.iload_n 1, 1, 1, 0, 0, 0), (.iload_n 2, 1, 2, 0, 0, 0)] [] (pc2 := 5) (ls2 := [some (.ref 0), some (.int p0), some (.int p1), some (.ref 80), none]) (st2 := [.int p1, .int p0, .ref 0, .int (nI 0), .ref 80]) (M2 := M) (Ps := []) (by decide +kernel) rfl rfl trivial ?_
  refine G.callC (as := [.int p0, .int p1]) (rest := [.int (nI 0), .ref 80]) (a := 0) rfl oX11_duty lk_EvenFindersLaw_42 (by decide +kernel) rfl rfl ⟨rfl, rfl⟩ (Nat.le_of_ble_eq_true rfl) ⟨Nat.le_of_ble_eq_true rfl, Nat.le_of_ble_eq_true rfl⟩ hM (fun v9 N9 h9 => ?_) (fun E9 N9 h9 => by cases h9)
  cases h9
  show G z mL_duty (d + 1) 2 12 8 [some (.ref 0), some (.int p0), some (.int p1), some (.ref 80), none] [.int v, .int (nI 0), .ref 80] N _
  refine G.sl [(.i2l, 1, 0, 0, 0, 0), (.lastore, 1, 0, 0, 0, 0), (.goto 7, 3, 17, 0, 0, 0), (.iconst 0, 1, 0, 0, 0, nI 0)] [] (pc2 := 18) (ls2 := [some (.ref 0), some (.int p0), some (.int p1), some (.ref 80), none]) (st2 := [.int (nI 0)]) (M2 := mout N v.toInt64) (Ps := [(nI 0) = 0 ∧ oW z = true]) (by decide +kernel) rfl rfl ⟨⟨by decide, hw⟩, trivial⟩ ?_
  refine G.mem (M' := mout N v.toInt64) (by first | rfl | (simp only [mput, mrow_same, mrow_hit, mrow_miss, mrow_sw, idr_eq, ne_eq, Nat.reduceEqDiff, not_false_eq_true, Nat.reduceLT, reduceCtorEq]; done)) ?_
  exact G.reti (by decide +kernel) rfl rfl (Nat.le_of_ble_eq_true rfl) (Nat.le_of_ble_eq_true rfl) rfl
theorem h_duty_n (z : Zp) (hw : oW z = true) (d : Nat) (M N : Mem) (p0 p1 : Int32) (hM : GM z mX11_duty d [.ref 0, .int p0, .int p1] M (fun rs => rs = .inr ("java/util/NoSuchElementException", N))) : GH z mL_duty (d + 1) [.ref 0, .int p0, .int p1, .ref 80] M (fun rs => rs = .inl (some (.int (nI 1)), N)) := by
  refine GH.of oL_duty (Nat.le_of_ble_eq_true rfl) ?_
  show G z mL_duty (d + 1) 0 0 0 [some (.ref 0), some (.int p0), some (.int p1), some (.ref 80), none] [] M _
  refine G.sl [(.aload_n 3, 1, 3, 0, 0, 0), (.iconst 0, 1, 0, 0, 0, nI 0), (.aload_n 0, 1, 0, 0, 0, 0), (.iload_n 1, 1, 1, 0, 0, 0), (.iload_n 2, 1, 2, 0, 0, 0)] [] (pc2 := 5) (ls2 := [some (.ref 0), some (.int p0), some (.int p1), some (.ref 80), none]) (st2 := [.int p1, .int p0, .ref 0, .int (nI 0), .ref 80]) (M2 := M) (Ps := []) (by decide +kernel) rfl rfl trivial ?_
  refine G.callC (as := [.int p0, .int p1]) (rest := [.int (nI 0), .ref 80]) (a := 0) rfl oX11_duty lk_EvenFindersLaw_42 (by decide +kernel) rfl rfl ⟨rfl, rfl⟩ (Nat.le_of_ble_eq_true rfl) ⟨Nat.le_of_ble_eq_true rfl, Nat.le_of_ble_eq_true rfl⟩ hM (fun v9 N9 h9 => by cases h9) (fun E9 N9 h9 => ?_)
  cases h9
  refine ⟨13, 4, 2, Or.inr (Or.inl ⟨rfl, _, _, _, rfl, by decide, by decide⟩), Or.inr ⟨by decide +kernel, rfl⟩, by decide, rfl, rfl, ?_⟩
  show G z mL_duty (d + 1) 2 12 15 [some (.ref 0), some (.int p0), some (.int p1), some (.ref 80), none] [] N _
  refine G.sl [(.iconst 1, 1, 0, 0, 0, nI 1)] [] (pc2 := 16) (ls2 := [some (.ref 0), some (.int p0), some (.int p1), some (.ref 80), none]) (st2 := [.int (nI 1)]) (M2 := N) (Ps := []) (by decide +kernel) rfl rfl trivial ?_
  exact G.reti (by decide +kernel) rfl rfl (Nat.le_of_ble_eq_true rfl) (Nat.le_of_ble_eq_true rfl) rfl
theorem h_would_r (z : Zp) (hw : oW z = true) (d : Nat) (M N : Mem) (p0 p1 p2 p3 p4 p5 p6 p7 : Int32) (v : Int32) (hM : GM z mX11_would d [.ref 0, .int p0, .int p1, .int p2, .int p3, .int p4, .int p5, .int p6, .int p7] M (fun rs => rs = .inl (some (.int v), N))) : GH z mL_would (d + 1) [.ref 0, .int p0, .int p1, .int p2, .int p3, .int p4, .int p5, .int p6, .int p7, .ref 80] M (fun rs => rs = .inl (some (.int (nI 0)), mout N v.toInt64)) := by
  refine GH.of oL_would (Nat.le_of_ble_eq_true rfl) ?_
  show G z mL_would (d + 1) 0 0 0 [some (.ref 0), some (.int p0), some (.int p1), some (.int p2), some (.int p3), some (.int p4), some (.int p5), some (.int p6), some (.int p7), some (.ref 80), none] [] M _
  refine G.sl [(.aload 9, 2, 9, 0, 0, 0), (.iconst 0, 1, 0, 0, 0, nI 0), (.aload_n 0, 1, 0, 0, 0, 0), (.iload_n 1, 1, 1, 0, 0, 0), (.iload_n 2, 1, 2, 0, 0, 0), (.iload_n 3, 1, 3, 0, 0, 0), (.iload 4, 2, 4, 0, 0, 0), (.iload 5, 2, 5, 0, 0, 0), (.iload 6, 2, 6, 0, 0, 0), (.iload 7, 2, 7, 0, 0, 0), (.iload 8, 2, 8, 0, 0, 0)] [] (pc2 := 17) (ls2 := [some (.ref 0), some (.int p0), some (.int p1), some (.int p2), some (.int p3), some (.int p4), some (.int p5), some (.int p6), some (.int p7), some (.ref 80), none]) (st2 := [.int p7, .int p6, .int p5, .int p4, .int p3, .int p2, .int p1, .int p0, .ref 0, .int (nI 0), .ref 80]) (M2 := M) (Ps := []) (by decide +kernel) rfl rfl trivial ?_
  refine G.callC (as := [.int p0, .int p1, .int p2, .int p3, .int p4, .int p5, .int p6, .int p7]) (rest := [.int (nI 0), .ref 80]) (a := 0) rfl oX11_would lk_EvenFindersLaw_45 (by decide +kernel) rfl rfl ⟨rfl, rfl⟩ (Nat.le_of_ble_eq_true rfl) ⟨Nat.le_of_ble_eq_true rfl, Nat.le_of_ble_eq_true rfl⟩ hM (fun v9 N9 h9 => ?_) (fun E9 N9 h9 => by cases h9)
  cases h9
  show G z mL_would (d + 1) 8 48 20 [some (.ref 0), some (.int p0), some (.int p1), some (.int p2), some (.int p3), some (.int p4), some (.int p5), some (.int p6), some (.int p7), some (.ref 80), none] [.int v, .int (nI 0), .ref 80] N _
  refine G.sl [(.i2l, 1, 0, 0, 0, 0), (.lastore, 1, 0, 0, 0, 0), (.goto 7, 3, 29, 0, 0, 0), (.iconst 0, 1, 0, 0, 0, nI 0)] [] (pc2 := 30) (ls2 := [some (.ref 0), some (.int p0), some (.int p1), some (.int p2), some (.int p3), some (.int p4), some (.int p5), some (.int p6), some (.int p7), some (.ref 80), none]) (st2 := [.int (nI 0)]) (M2 := mout N v.toInt64) (Ps := [(nI 0) = 0 ∧ oW z = true]) (by decide +kernel) rfl rfl ⟨⟨by decide, hw⟩, trivial⟩ ?_
  refine G.mem (M' := mout N v.toInt64) (by first | rfl | (simp only [mput, mrow_same, mrow_hit, mrow_miss, mrow_sw, idr_eq, ne_eq, Nat.reduceEqDiff, not_false_eq_true, Nat.reduceLT, reduceCtorEq]; done)) ?_
  exact G.reti (by decide +kernel) rfl rfl (Nat.le_of_ble_eq_true rfl) (Nat.le_of_ble_eq_true rfl) rfl
theorem h_would_i (z : Zp) (hw : oW z = true) (d : Nat) (M N : Mem) (p0 p1 p2 p3 p4 p5 p6 p7 : Int32) (hM : GM z mX11_would d [.ref 0, .int p0, .int p1, .int p2, .int p3, .int p4, .int p5, .int p6, .int p7] M (fun rs => rs = .inr ("java/lang/IllegalArgumentException", N))) : GH z mL_would (d + 1) [.ref 0, .int p0, .int p1, .int p2, .int p3, .int p4, .int p5, .int p6, .int p7, .ref 80] M (fun rs => rs = .inl (some (.int (nI 1)), N)) := by
  refine GH.of oL_would (Nat.le_of_ble_eq_true rfl) ?_
  show G z mL_would (d + 1) 0 0 0 [some (.ref 0), some (.int p0), some (.int p1), some (.int p2), some (.int p3), some (.int p4), some (.int p5), some (.int p6), some (.int p7), some (.ref 80), none] [] M _
  refine G.sl [(.aload 9, 2, 9, 0, 0, 0), (.iconst 0, 1, 0, 0, 0, nI 0), (.aload_n 0, 1, 0, 0, 0, 0), (.iload_n 1, 1, 1, 0, 0, 0), (.iload_n 2, 1, 2, 0, 0, 0), (.iload_n 3, 1, 3, 0, 0, 0), (.iload 4, 2, 4, 0, 0, 0), (.iload 5, 2, 5, 0, 0, 0), (.iload 6, 2, 6, 0, 0, 0), (.iload 7, 2, 7, 0, 0, 0), (.iload 8, 2, 8, 0, 0, 0)] [] (pc2 := 17) (ls2 := [some (.ref 0), some (.int p0), some (.int p1), some (.int p2), some (.int p3), some (.int p4), some (.int p5), some (.int p6), some (.int p7), some (.ref 80), none]) (st2 := [.int p7, .int p6, .int p5, .int p4, .int p3, .int p2, .int p1, .int p0, .ref 0, .int (nI 0), .ref 80]) (M2 := M) (Ps := []) (by decide +kernel) rfl rfl trivial ?_
  refine G.callC (as := [.int p0, .int p1, .int p2, .int p3, .int p4, .int p5, .int p6, .int p7]) (rest := [.int (nI 0), .ref 80]) (a := 0) rfl oX11_would lk_EvenFindersLaw_45 (by decide +kernel) rfl rfl ⟨rfl, rfl⟩ (Nat.le_of_ble_eq_true rfl) ⟨Nat.le_of_ble_eq_true rfl, Nat.le_of_ble_eq_true rfl⟩ hM (fun v9 N9 h9 => by cases h9) (fun E9 N9 h9 => ?_)
  cases h9
  refine ⟨25, 10, 2, Or.inl ⟨rfl, _, _, rfl, by decide, by decide⟩, Or.inr ⟨by decide +kernel, rfl⟩, by decide, rfl, rfl, ?_⟩
  show G z mL_would (d + 1) 8 48 27 [some (.ref 0), some (.int p0), some (.int p1), some (.int p2), some (.int p3), some (.int p4), some (.int p5), some (.int p6), some (.int p7), some (.ref 80), none] [] N _
  refine G.sl [(.iconst 1, 1, 0, 0, 0, nI 1)] [] (pc2 := 28) (ls2 := [some (.ref 0), some (.int p0), some (.int p1), some (.int p2), some (.int p3), some (.int p4), some (.int p5), some (.int p6), some (.int p7), some (.ref 80), none]) (st2 := [.int (nI 1)]) (M2 := N) (Ps := []) (by decide +kernel) rfl rfl trivial ?_
  exact G.reti (by decide +kernel) rfl rfl (Nat.le_of_ble_eq_true rfl) (Nat.le_of_ble_eq_true rfl) rfl
theorem h_can_r (z : Zp) (hw : oW z = true) (d : Nat) (M N : Mem) (p0 p1 : Int32) (v : Int32) (hM : GM z mX11_can d [.ref 0, .int p0, .int p1] M (fun rs => rs = .inl (some (.int v), N))) : GH z mL_can (d + 1) [.ref 0, .int p0, .int p1, .ref 80] M (fun rs => rs = .inl (some (.int (nI 0)), mout N (if v = 0 then 0 else 1))) := by
  refine GH.of oL_can (Nat.le_of_ble_eq_true rfl) ?_
  show G z mL_can (d + 1) 0 0 0 [some (.ref 0), some (.int p0), some (.int p1), some (.ref 80), none] [] M _
  refine G.sl [(.aload_n 3, 1, 3, 0, 0, 0), (.iconst 0, 1, 0, 0, 0, nI 0), (.aload_n 0, 1, 0, 0, 0, 0), (.iload_n 1, 1, 1, 0, 0, 0), (.iload_n 2, 1, 2, 0, 0, 0)] [] (pc2 := 5) (ls2 := [some (.ref 0), some (.int p0), some (.int p1), some (.ref 80), none]) (st2 := [.int p1, .int p0, .ref 0, .int (nI 0), .ref 80]) (M2 := M) (Ps := []) (by decide +kernel) rfl rfl trivial ?_
  refine G.callC (as := [.int p0, .int p1]) (rest := [.int (nI 0), .ref 80]) (a := 0) rfl oX11_can lk_EvenFindersLaw_49 (by decide +kernel) rfl rfl ⟨rfl, rfl⟩ (Nat.le_of_ble_eq_true rfl) ⟨Nat.le_of_ble_eq_true rfl, Nat.le_of_ble_eq_true rfl⟩ hM (fun v9 N9 h9 => ?_) (fun E9 N9 h9 => by cases h9)
  cases h9
  show G z mL_can (d + 1) 2 12 8 [some (.ref 0), some (.int p0), some (.int p1), some (.ref 80), none] [.int v, .int (nI 0), .ref 80] N _
  refine G.if_eq (off := (7)) (tgt := 15) (by decide +kernel) rfl (fun c1 => ?_) (fun c1 => ?_)
  · skip
    refine G.sl [(.lconst 0, 1, 0, 0, 0, 0), (.lastore, 1, 0, 0, 0, 0), (.goto 7, 3, 24, 0, 0, 0), (.iconst 0, 1, 0, 0, 0, nI 0)] [] (pc2 := 25) (ls2 := [some (.ref 0), some (.int p0), some (.int p1), some (.ref 80), none]) (st2 := [.int (nI 0)]) (M2 := mout N 0) (Ps := [(nI 0) = 0 ∧ oW z = true]) (by decide +kernel) rfl rfl ⟨⟨by decide, hw⟩, trivial⟩ ?_
    refine G.mem (M' := mout N 0) (by first | rfl | (simp only [mput, mrow_same, mrow_hit, mrow_miss, mrow_sw, idr_eq, ne_eq, Nat.reduceEqDiff, not_false_eq_true, Nat.reduceLT, reduceCtorEq]; done)) ?_
    exact G.reti (by decide +kernel) rfl rfl (Nat.le_of_ble_eq_true rfl) (Nat.le_of_ble_eq_true rfl) (by rw [if_pos c1])
  · skip
    refine G.sl [(.lconst 1, 1, 1, 0, 0, 0), (.goto 4, 3, 16, 0, 0, 0), (.lastore, 1, 0, 0, 0, 0), (.goto 7, 3, 24, 0, 0, 0), (.iconst 0, 1, 0, 0, 0, nI 0)] [] (pc2 := 25) (ls2 := [some (.ref 0), some (.int p0), some (.int p1), some (.ref 80), none]) (st2 := [.int (nI 0)]) (M2 := mout N 1) (Ps := [(nI 0) = 0 ∧ oW z = true]) (by decide +kernel) rfl rfl ⟨⟨by decide, hw⟩, trivial⟩ ?_
    refine G.mem (M' := mout N 1) (by first | rfl | (simp only [mput, mrow_same, mrow_hit, mrow_miss, mrow_sw, idr_eq, ne_eq, Nat.reduceEqDiff, not_false_eq_true, Nat.reduceLT, reduceCtorEq]; done)) ?_
    exact G.reti (by decide +kernel) rfl rfl (Nat.le_of_ble_eq_true rfl) (Nat.le_of_ble_eq_true rfl) (by rw [if_neg c1])
theorem h_can_n (z : Zp) (hw : oW z = true) (d : Nat) (M N : Mem) (p0 p1 : Int32) (hM : GM z mX11_can d [.ref 0, .int p0, .int p1] M (fun rs => rs = .inr ("java/util/NoSuchElementException", N))) : GH z mL_can (d + 1) [.ref 0, .int p0, .int p1, .ref 80] M (fun rs => rs = .inl (some (.int (nI 1)), N)) := by
  refine GH.of oL_can (Nat.le_of_ble_eq_true rfl) ?_
  show G z mL_can (d + 1) 0 0 0 [some (.ref 0), some (.int p0), some (.int p1), some (.ref 80), none] [] M _
  refine G.sl [(.aload_n 3, 1, 3, 0, 0, 0), (.iconst 0, 1, 0, 0, 0, nI 0), (.aload_n 0, 1, 0, 0, 0, 0), (.iload_n 1, 1, 1, 0, 0, 0), (.iload_n 2, 1, 2, 0, 0, 0)] [] (pc2 := 5) (ls2 := [some (.ref 0), some (.int p0), some (.int p1), some (.ref 80), none]) (st2 := [.int p1, .int p0, .ref 0, .int (nI 0), .ref 80]) (M2 := M) (Ps := []) (by decide +kernel) rfl rfl trivial ?_
  refine G.callC (as := [.int p0, .int p1]) (rest := [.int (nI 0), .ref 80]) (a := 0) rfl oX11_can lk_EvenFindersLaw_49 (by decide +kernel) rfl rfl ⟨rfl, rfl⟩ (Nat.le_of_ble_eq_true rfl) ⟨Nat.le_of_ble_eq_true rfl, Nat.le_of_ble_eq_true rfl⟩ hM (fun v9 N9 h9 => by cases h9) (fun E9 N9 h9 => ?_)
  cases h9
  refine ⟨20, 4, 2, Or.inr (Or.inl ⟨rfl, _, _, _, rfl, by decide, by decide⟩), Or.inr ⟨by decide +kernel, rfl⟩, by decide, rfl, rfl, ?_⟩
  show G z mL_can (d + 1) 2 12 22 [some (.ref 0), some (.int p0), some (.int p1), some (.ref 80), none] [] N _
  refine G.sl [(.iconst 1, 1, 0, 0, 0, nI 1)] [] (pc2 := 23) (ls2 := [some (.ref 0), some (.int p0), some (.int p1), some (.ref 80), none]) (st2 := [.int (nI 1)]) (M2 := N) (Ps := []) (by decide +kernel) rfl rfl trivial ?_
  exact G.reti (by decide +kernel) rfl rfl (Nat.le_of_ble_eq_true rfl) (Nat.le_of_ble_eq_true rfl) rfl
theorem h_ahead_r (z : Zp) (hw : oW z = true) (d : Nat) (M N : Mem) (p0 p1 : Int32) (v : Int32) (hM : GM z mX11_ahead d [.ref 0, .int p0, .int p1] M (fun rs => rs = .inl (some (.int v), N))) : GH z mL_ahead (d + 1) [.ref 0, .int p0, .int p1, .ref 80] M (fun rs => rs = .inl (some (.int (nI 0)), mout N v.toInt64)) := by
  refine GH.of oL_ahead (Nat.le_of_ble_eq_true rfl) ?_
  show G z mL_ahead (d + 1) 0 0 0 [some (.ref 0), some (.int p0), some (.int p1), some (.ref 80), none] [] M _
  refine G.sl [(.aload_n 3, 1, 3, 0, 0, 0), (.iconst 0, 1, 0, 0, 0, nI 0), (.aload_n 0, 1, 0, 0, 0, 0), (.iload_n 1, 1, 1, 0, 0, 0), (.iload_n 2, 1, 2, 0, 0, 0)] [] (pc2 := 5) (ls2 := [some (.ref 0), some (.int p0), some (.int p1), some (.ref 80), none]) (st2 := [.int p1, .int p0, .ref 0, .int (nI 0), .ref 80]) (M2 := M) (Ps := []) (by decide +kernel) rfl rfl trivial ?_
  refine G.callC (as := [.int p0, .int p1]) (rest := [.int (nI 0), .ref 80]) (a := 0) rfl oX11_ahead lk_EvenFindersLaw_53 (by decide +kernel) rfl rfl ⟨rfl, rfl⟩ (Nat.le_of_ble_eq_true rfl) ⟨Nat.le_of_ble_eq_true rfl, Nat.le_of_ble_eq_true rfl⟩ hM (fun v9 N9 h9 => ?_) (fun E9 N9 h9 => by cases h9)
  cases h9
  show G z mL_ahead (d + 1) 2 12 8 [some (.ref 0), some (.int p0), some (.int p1), some (.ref 80), none] [.int v, .int (nI 0), .ref 80] N _
  refine G.sl [(.i2l, 1, 0, 0, 0, 0), (.lastore, 1, 0, 0, 0, 0), (.goto 7, 3, 17, 0, 0, 0), (.iconst 0, 1, 0, 0, 0, nI 0)] [] (pc2 := 18) (ls2 := [some (.ref 0), some (.int p0), some (.int p1), some (.ref 80), none]) (st2 := [.int (nI 0)]) (M2 := mout N v.toInt64) (Ps := [(nI 0) = 0 ∧ oW z = true]) (by decide +kernel) rfl rfl ⟨⟨by decide, hw⟩, trivial⟩ ?_
  refine G.mem (M' := mout N v.toInt64) (by first | rfl | (simp only [mput, mrow_same, mrow_hit, mrow_miss, mrow_sw, idr_eq, ne_eq, Nat.reduceEqDiff, not_false_eq_true, Nat.reduceLT, reduceCtorEq]; done)) ?_
  exact G.reti (by decide +kernel) rfl rfl (Nat.le_of_ble_eq_true rfl) (Nat.le_of_ble_eq_true rfl) rfl
theorem h_ahead_i (z : Zp) (hw : oW z = true) (d : Nat) (M N : Mem) (p0 p1 : Int32) (hM : GM z mX11_ahead d [.ref 0, .int p0, .int p1] M (fun rs => rs = .inr ("java/lang/IllegalArgumentException", N))) : GH z mL_ahead (d + 1) [.ref 0, .int p0, .int p1, .ref 80] M (fun rs => rs = .inl (some (.int (nI 1)), N)) := by
  refine GH.of oL_ahead (Nat.le_of_ble_eq_true rfl) ?_
  show G z mL_ahead (d + 1) 0 0 0 [some (.ref 0), some (.int p0), some (.int p1), some (.ref 80), none] [] M _
  refine G.sl [(.aload_n 3, 1, 3, 0, 0, 0), (.iconst 0, 1, 0, 0, 0, nI 0), (.aload_n 0, 1, 0, 0, 0, 0), (.iload_n 1, 1, 1, 0, 0, 0), (.iload_n 2, 1, 2, 0, 0, 0)] [] (pc2 := 5) (ls2 := [some (.ref 0), some (.int p0), some (.int p1), some (.ref 80), none]) (st2 := [.int p1, .int p0, .ref 0, .int (nI 0), .ref 80]) (M2 := M) (Ps := []) (by decide +kernel) rfl rfl trivial ?_
  refine G.callC (as := [.int p0, .int p1]) (rest := [.int (nI 0), .ref 80]) (a := 0) rfl oX11_ahead lk_EvenFindersLaw_53 (by decide +kernel) rfl rfl ⟨rfl, rfl⟩ (Nat.le_of_ble_eq_true rfl) ⟨Nat.le_of_ble_eq_true rfl, Nat.le_of_ble_eq_true rfl⟩ hM (fun v9 N9 h9 => by cases h9) (fun E9 N9 h9 => ?_)
  cases h9
  refine ⟨13, 4, 2, Or.inl ⟨rfl, _, _, rfl, by decide, by decide⟩, Or.inr ⟨by decide +kernel, rfl⟩, by decide, rfl, rfl, ?_⟩
  show G z mL_ahead (d + 1) 2 12 15 [some (.ref 0), some (.int p0), some (.int p1), some (.ref 80), none] [] N _
  refine G.sl [(.iconst 1, 1, 0, 0, 0, nI 1)] [] (pc2 := 16) (ls2 := [some (.ref 0), some (.int p0), some (.int p1), some (.ref 80), none]) (st2 := [.int (nI 1)]) (M2 := N) (Ps := []) (by decide +kernel) rfl rfl trivial ?_
  exact G.reti (by decide +kernel) rfl rfl (Nat.le_of_ble_eq_true rfl) (Nat.le_of_ble_eq_true rfl) rfl
theorem h_far_r (z : Zp) (hw : oW z = true) (d : Nat) (M N : Mem) (p0 p1 : Int32) (v : Int32) (hM : GM z mX11_far d [.ref 0, .int p0, .int p1] M (fun rs => rs = .inl (some (.int v), N))) : GH z mL_far (d + 1) [.ref 0, .int p0, .int p1, .ref 80] M (fun rs => rs = .inl (some (.int (nI 0)), mout N v.toInt64)) := by
  refine GH.of oL_far (Nat.le_of_ble_eq_true rfl) ?_
  show G z mL_far (d + 1) 0 0 0 [some (.ref 0), some (.int p0), some (.int p1), some (.ref 80), none] [] M _
  refine G.sl [(.aload_n 3, 1, 3, 0, 0, 0), (.iconst 0, 1, 0, 0, 0, nI 0), (.aload_n 0, 1, 0, 0, 0, 0), (.iload_n 1, 1, 1, 0, 0, 0), (.iload_n 2, 1, 2, 0, 0, 0)] [] (pc2 := 5) (ls2 := [some (.ref 0), some (.int p0), some (.int p1), some (.ref 80), none]) (st2 := [.int p1, .int p0, .ref 0, .int (nI 0), .ref 80]) (M2 := M) (Ps := []) (by decide +kernel) rfl rfl trivial ?_
  refine G.callC (as := [.int p0, .int p1]) (rest := [.int (nI 0), .ref 80]) (a := 0) rfl oX11_far lk_EvenFindersLaw_56 (by decide +kernel) rfl rfl ⟨rfl, rfl⟩ (Nat.le_of_ble_eq_true rfl) ⟨Nat.le_of_ble_eq_true rfl, Nat.le_of_ble_eq_true rfl⟩ hM (fun v9 N9 h9 => ?_) (fun E9 N9 h9 => by cases h9)
  cases h9
  show G z mL_far (d + 1) 2 12 8 [some (.ref 0), some (.int p0), some (.int p1), some (.ref 80), none] [.int v, .int (nI 0), .ref 80] N _
  refine G.sl [(.i2l, 1, 0, 0, 0, 0), (.lastore, 1, 0, 0, 0, 0), (.goto 7, 3, 17, 0, 0, 0), (.iconst 0, 1, 0, 0, 0, nI 0)] [] (pc2 := 18) (ls2 := [some (.ref 0), some (.int p0), some (.int p1), some (.ref 80), none]) (st2 := [.int (nI 0)]) (M2 := mout N v.toInt64) (Ps := [(nI 0) = 0 ∧ oW z = true]) (by decide +kernel) rfl rfl ⟨⟨by decide, hw⟩, trivial⟩ ?_
  refine G.mem (M' := mout N v.toInt64) (by first | rfl | (simp only [mput, mrow_same, mrow_hit, mrow_miss, mrow_sw, idr_eq, ne_eq, Nat.reduceEqDiff, not_false_eq_true, Nat.reduceLT, reduceCtorEq]; done)) ?_
  exact G.reti (by decide +kernel) rfl rfl (Nat.le_of_ble_eq_true rfl) (Nat.le_of_ble_eq_true rfl) rfl
theorem h_far_n (z : Zp) (hw : oW z = true) (d : Nat) (M N : Mem) (p0 p1 : Int32) (hM : GM z mX11_far d [.ref 0, .int p0, .int p1] M (fun rs => rs = .inr ("java/util/NoSuchElementException", N))) : GH z mL_far (d + 1) [.ref 0, .int p0, .int p1, .ref 80] M (fun rs => rs = .inl (some (.int (nI 1)), N)) := by
  refine GH.of oL_far (Nat.le_of_ble_eq_true rfl) ?_
  show G z mL_far (d + 1) 0 0 0 [some (.ref 0), some (.int p0), some (.int p1), some (.ref 80), none] [] M _
  refine G.sl [(.aload_n 3, 1, 3, 0, 0, 0), (.iconst 0, 1, 0, 0, 0, nI 0), (.aload_n 0, 1, 0, 0, 0, 0), (.iload_n 1, 1, 1, 0, 0, 0), (.iload_n 2, 1, 2, 0, 0, 0)] [] (pc2 := 5) (ls2 := [some (.ref 0), some (.int p0), some (.int p1), some (.ref 80), none]) (st2 := [.int p1, .int p0, .ref 0, .int (nI 0), .ref 80]) (M2 := M) (Ps := []) (by decide +kernel) rfl rfl trivial ?_
  refine G.callC (as := [.int p0, .int p1]) (rest := [.int (nI 0), .ref 80]) (a := 0) rfl oX11_far lk_EvenFindersLaw_56 (by decide +kernel) rfl rfl ⟨rfl, rfl⟩ (Nat.le_of_ble_eq_true rfl) ⟨Nat.le_of_ble_eq_true rfl, Nat.le_of_ble_eq_true rfl⟩ hM (fun v9 N9 h9 => by cases h9) (fun E9 N9 h9 => ?_)
  cases h9
  refine ⟨13, 4, 2, Or.inr (Or.inl ⟨rfl, _, _, _, rfl, by decide, by decide⟩), Or.inr ⟨by decide +kernel, rfl⟩, by decide, rfl, rfl, ?_⟩
  show G z mL_far (d + 1) 2 12 15 [some (.ref 0), some (.int p0), some (.int p1), some (.ref 80), none] [] N _
  refine G.sl [(.iconst 1, 1, 0, 0, 0, nI 1)] [] (pc2 := 16) (ls2 := [some (.ref 0), some (.int p0), some (.int p1), some (.ref 80), none]) (st2 := [.int (nI 1)]) (M2 := N) (Ps := []) (by decide +kernel) rfl rfl trivial ?_
  exact G.reti (by decide +kernel) rfl rfl (Nat.le_of_ble_eq_true rfl) (Nat.le_of_ble_eq_true rfl) rfl
theorem h_round_r (z : Zp) (hw : oW z = true) (d : Nat) (M N : Mem) (p0 : Int32) (v : Int32) (hM : GM z mX11_round d [.ref 0, .int p0] M (fun rs => rs = .inl (some (.int v), N))) : GH z mL_round (d + 1) [.ref 0, .int p0, .ref 80] M (fun rs => rs = .inl (some (.int (nI 0)), mout N v.toInt64)) := by
  refine GH.of oL_round (Nat.le_of_ble_eq_true rfl) ?_
  show G z mL_round (d + 1) 0 0 0 [some (.ref 0), some (.int p0), some (.ref 80), none] [] M _
  refine G.sl [(.aload_n 2, 1, 2, 0, 0, 0), (.iconst 0, 1, 0, 0, 0, nI 0), (.aload_n 0, 1, 0, 0, 0, 0), (.iload_n 1, 1, 1, 0, 0, 0)] [] (pc2 := 4) (ls2 := [some (.ref 0), some (.int p0), some (.ref 80), none]) (st2 := [.int p0, .ref 0, .int (nI 0), .ref 80]) (M2 := M) (Ps := []) (by decide +kernel) rfl rfl trivial ?_
  refine G.callC (as := [.int p0]) (rest := [.int (nI 0), .ref 80]) (a := 0) rfl oX11_round lk_EvenFindersLaw_59 (by decide +kernel) rfl rfl ⟨rfl, rfl⟩ (Nat.le_of_ble_eq_true rfl) ⟨Nat.le_of_ble_eq_true rfl, Nat.le_of_ble_eq_true rfl⟩ hM (fun v9 N9 h9 => ?_) (fun E9 N9 h9 => by cases h9)
  cases h9
  show G z mL_round (d + 1) 1 6 7 [some (.ref 0), some (.int p0), some (.ref 80), none] [.int v, .int (nI 0), .ref 80] N _
  refine G.sl [(.i2l, 1, 0, 0, 0, 0), (.lastore, 1, 0, 0, 0, 0), (.goto 6, 3, 15, 0, 0, 0), (.iconst 0, 1, 0, 0, 0, nI 0)] [] (pc2 := 16) (ls2 := [some (.ref 0), some (.int p0), some (.ref 80), none]) (st2 := [.int (nI 0)]) (M2 := mout N v.toInt64) (Ps := [(nI 0) = 0 ∧ oW z = true]) (by decide +kernel) rfl rfl ⟨⟨by decide, hw⟩, trivial⟩ ?_
  refine G.mem (M' := mout N v.toInt64) (by first | rfl | (simp only [mput, mrow_same, mrow_hit, mrow_miss, mrow_sw, idr_eq, ne_eq, Nat.reduceEqDiff, not_false_eq_true, Nat.reduceLT, reduceCtorEq]; done)) ?_
  exact G.reti (by decide +kernel) rfl rfl (Nat.le_of_ble_eq_true rfl) (Nat.le_of_ble_eq_true rfl) rfl
theorem h_round_n (z : Zp) (hw : oW z = true) (d : Nat) (M N : Mem) (p0 : Int32) (hM : GM z mX11_round d [.ref 0, .int p0] M (fun rs => rs = .inr ("java/util/NoSuchElementException", N))) : GH z mL_round (d + 1) [.ref 0, .int p0, .ref 80] M (fun rs => rs = .inl (some (.int (nI 1)), N)) := by
  refine GH.of oL_round (Nat.le_of_ble_eq_true rfl) ?_
  show G z mL_round (d + 1) 0 0 0 [some (.ref 0), some (.int p0), some (.ref 80), none] [] M _
  refine G.sl [(.aload_n 2, 1, 2, 0, 0, 0), (.iconst 0, 1, 0, 0, 0, nI 0), (.aload_n 0, 1, 0, 0, 0, 0), (.iload_n 1, 1, 1, 0, 0, 0)] [] (pc2 := 4) (ls2 := [some (.ref 0), some (.int p0), some (.ref 80), none]) (st2 := [.int p0, .ref 0, .int (nI 0), .ref 80]) (M2 := M) (Ps := []) (by decide +kernel) rfl rfl trivial ?_
  refine G.callC (as := [.int p0]) (rest := [.int (nI 0), .ref 80]) (a := 0) rfl oX11_round lk_EvenFindersLaw_59 (by decide +kernel) rfl rfl ⟨rfl, rfl⟩ (Nat.le_of_ble_eq_true rfl) ⟨Nat.le_of_ble_eq_true rfl, Nat.le_of_ble_eq_true rfl⟩ hM (fun v9 N9 h9 => by cases h9) (fun E9 N9 h9 => ?_)
  cases h9
  refine ⟨12, 3, 1, Or.inr (Or.inl ⟨rfl, _, _, _, rfl, by decide, by decide⟩), Or.inl ⟨3, by decide +kernel, rfl, rfl⟩, by decide, rfl, rfl, ?_⟩
  show G z mL_round (d + 1) 1 6 13 [some (.ref 0), some (.int p0), some (.ref 80), none] [] N _
  refine G.sl [(.iconst 1, 1, 0, 0, 0, nI 1)] [] (pc2 := 14) (ls2 := [some (.ref 0), some (.int p0), some (.ref 80), none]) (st2 := [.int (nI 1)]) (M2 := N) (Ps := []) (by decide +kernel) rfl rfl trivial ?_
  exact G.reti (by decide +kernel) rfl rfl (Nat.le_of_ble_eq_true rfl) (Nat.le_of_ble_eq_true rfl) rfl
theorem h_meet_r (z : Zp) (hw : oW z = true) (d : Nat) (M N : Mem) (p0 : Int32) (v : Int32) (hM : GM z mX11_meet d [.ref 0, .int p0] M (fun rs => rs = .inl (some (.int v), N))) : GH z mL_meet (d + 1) [.ref 0, .int p0, .ref 80] M (fun rs => rs = .inl (some (.int (nI 0)), mout N v.toInt64)) := by
  refine GH.of oL_meet (Nat.le_of_ble_eq_true rfl) ?_
  show G z mL_meet (d + 1) 0 0 0 [some (.ref 0), some (.int p0), some (.ref 80), none] [] M _
  refine G.sl [(.aload_n 2, 1, 2, 0, 0, 0), (.iconst 0, 1, 0, 0, 0, nI 0), (.aload_n 0, 1, 0, 0, 0, 0), (.iload_n 1, 1, 1, 0, 0, 0)] [] (pc2 := 4) (ls2 := [some (.ref 0), some (.int p0), some (.ref 80), none]) (st2 := [.int p0, .ref 0, .int (nI 0), .ref 80]) (M2 := M) (Ps := []) (by decide +kernel) rfl rfl trivial ?_
  refine G.callC (as := [.int p0]) (rest := [.int (nI 0), .ref 80]) (a := 0) rfl oX11_meet lk_EvenFindersLaw_62 (by decide +kernel) rfl rfl ⟨rfl, rfl⟩ (Nat.le_of_ble_eq_true rfl) ⟨Nat.le_of_ble_eq_true rfl, Nat.le_of_ble_eq_true rfl⟩ hM (fun v9 N9 h9 => ?_) (fun E9 N9 h9 => by cases h9)
  cases h9
  show G z mL_meet (d + 1) 1 6 7 [some (.ref 0), some (.int p0), some (.ref 80), none] [.int v, .int (nI 0), .ref 80] N _
  refine G.sl [(.i2l, 1, 0, 0, 0, 0), (.lastore, 1, 0, 0, 0, 0), (.goto 6, 3, 15, 0, 0, 0), (.iconst 0, 1, 0, 0, 0, nI 0)] [] (pc2 := 16) (ls2 := [some (.ref 0), some (.int p0), some (.ref 80), none]) (st2 := [.int (nI 0)]) (M2 := mout N v.toInt64) (Ps := [(nI 0) = 0 ∧ oW z = true]) (by decide +kernel) rfl rfl ⟨⟨by decide, hw⟩, trivial⟩ ?_
  refine G.mem (M' := mout N v.toInt64) (by first | rfl | (simp only [mput, mrow_same, mrow_hit, mrow_miss, mrow_sw, idr_eq, ne_eq, Nat.reduceEqDiff, not_false_eq_true, Nat.reduceLT, reduceCtorEq]; done)) ?_
  exact G.reti (by decide +kernel) rfl rfl (Nat.le_of_ble_eq_true rfl) (Nat.le_of_ble_eq_true rfl) rfl
theorem h_meet_i (z : Zp) (hw : oW z = true) (d : Nat) (M N : Mem) (p0 : Int32) (hM : GM z mX11_meet d [.ref 0, .int p0] M (fun rs => rs = .inr ("java/lang/IllegalArgumentException", N))) : GH z mL_meet (d + 1) [.ref 0, .int p0, .ref 80] M (fun rs => rs = .inl (some (.int (nI 1)), N)) := by
  refine GH.of oL_meet (Nat.le_of_ble_eq_true rfl) ?_
  show G z mL_meet (d + 1) 0 0 0 [some (.ref 0), some (.int p0), some (.ref 80), none] [] M _
  refine G.sl [(.aload_n 2, 1, 2, 0, 0, 0), (.iconst 0, 1, 0, 0, 0, nI 0), (.aload_n 0, 1, 0, 0, 0, 0), (.iload_n 1, 1, 1, 0, 0, 0)] [] (pc2 := 4) (ls2 := [some (.ref 0), some (.int p0), some (.ref 80), none]) (st2 := [.int p0, .ref 0, .int (nI 0), .ref 80]) (M2 := M) (Ps := []) (by decide +kernel) rfl rfl trivial ?_
  refine G.callC (as := [.int p0]) (rest := [.int (nI 0), .ref 80]) (a := 0) rfl oX11_meet lk_EvenFindersLaw_62 (by decide +kernel) rfl rfl ⟨rfl, rfl⟩ (Nat.le_of_ble_eq_true rfl) ⟨Nat.le_of_ble_eq_true rfl, Nat.le_of_ble_eq_true rfl⟩ hM (fun v9 N9 h9 => by cases h9) (fun E9 N9 h9 => ?_)
  cases h9
  refine ⟨12, 3, 1, Or.inl ⟨rfl, _, _, rfl, by decide, by decide⟩, Or.inl ⟨3, by decide +kernel, rfl, rfl⟩, by decide, rfl, rfl, ?_⟩
  show G z mL_meet (d + 1) 1 6 13 [some (.ref 0), some (.int p0), some (.ref 80), none] [] N _
  refine G.sl [(.iconst 1, 1, 0, 0, 0, nI 1)] [] (pc2 := 14) (ls2 := [some (.ref 0), some (.int p0), some (.ref 80), none]) (st2 := [.int (nI 1)]) (M2 := N) (Ps := []) (by decide +kernel) rfl rfl trivial ?_
  exact G.reti (by decide +kernel) rfl rfl (Nat.le_of_ble_eq_true rfl) (Nat.le_of_ble_eq_true rfl) rfl
theorem h_reach_r (z : Zp) (hw : oW z = true) (d : Nat) (M N : Mem) (p0 : Int32) (v : Int32) (hM : GM z mX11_reach d [.ref 0, .int p0] M (fun rs => rs = .inl (some (.int v), N))) : GH z mL_reach (d + 1) [.ref 0, .int p0, .ref 80] M (fun rs => rs = .inl (some (.int (nI 0)), mout N v.toInt64)) := by
  refine GH.of oL_reach (Nat.le_of_ble_eq_true rfl) ?_
  show G z mL_reach (d + 1) 0 0 0 [some (.ref 0), some (.int p0), some (.ref 80), none] [] M _
  refine G.sl [(.aload_n 2, 1, 2, 0, 0, 0), (.iconst 0, 1, 0, 0, 0, nI 0), (.aload_n 0, 1, 0, 0, 0, 0), (.iload_n 1, 1, 1, 0, 0, 0)] [] (pc2 := 4) (ls2 := [some (.ref 0), some (.int p0), some (.ref 80), none]) (st2 := [.int p0, .ref 0, .int (nI 0), .ref 80]) (M2 := M) (Ps := []) (by decide +kernel) rfl rfl trivial ?_
  refine G.callC (as := [.int p0]) (rest := [.int (nI 0), .ref 80]) (a := 0) rfl oX11_reach lk_EvenFindersLaw_65 (by decide +kernel) rfl rfl ⟨rfl, rfl⟩ (Nat.le_of_ble_eq_true rfl) ⟨Nat.le_of_ble_eq_true rfl, Nat.le_of_ble_eq_true rfl⟩ hM (fun v9 N9 h9 => ?_) (fun E9 N9 h9 => by cases h9)
  cases h9
  show G z mL_reach (d + 1) 1 6 7 [some (.ref 0), some (.int p0), some (.ref 80), none] [.int v, .int (nI 0), .ref 80] N _
  refine G.sl [(.i2l, 1, 0, 0, 0, 0), (.lastore, 1, 0, 0, 0, 0), (.goto 6, 3, 15, 0, 0, 0), (.iconst 0, 1, 0, 0, 0, nI 0)] [] (pc2 := 16) (ls2 := [some (.ref 0), some (.int p0), some (.ref 80), none]) (st2 := [.int (nI 0)]) (M2 := mout N v.toInt64) (Ps := [(nI 0) = 0 ∧ oW z = true]) (by decide +kernel) rfl rfl ⟨⟨by decide, hw⟩, trivial⟩ ?_
  refine G.mem (M' := mout N v.toInt64) (by first | rfl | (simp only [mput, mrow_same, mrow_hit, mrow_miss, mrow_sw, idr_eq, ne_eq, Nat.reduceEqDiff, not_false_eq_true, Nat.reduceLT, reduceCtorEq]; done)) ?_
  exact G.reti (by decide +kernel) rfl rfl (Nat.le_of_ble_eq_true rfl) (Nat.le_of_ble_eq_true rfl) rfl
theorem h_reach_n (z : Zp) (hw : oW z = true) (d : Nat) (M N : Mem) (p0 : Int32) (hM : GM z mX11_reach d [.ref 0, .int p0] M (fun rs => rs = .inr ("java/util/NoSuchElementException", N))) : GH z mL_reach (d + 1) [.ref 0, .int p0, .ref 80] M (fun rs => rs = .inl (some (.int (nI 1)), N)) := by
  refine GH.of oL_reach (Nat.le_of_ble_eq_true rfl) ?_
  show G z mL_reach (d + 1) 0 0 0 [some (.ref 0), some (.int p0), some (.ref 80), none] [] M _
  refine G.sl [(.aload_n 2, 1, 2, 0, 0, 0), (.iconst 0, 1, 0, 0, 0, nI 0), (.aload_n 0, 1, 0, 0, 0, 0), (.iload_n 1, 1, 1, 0, 0, 0)] [] (pc2 := 4) (ls2 := [some (.ref 0), some (.int p0), some (.ref 80), none]) (st2 := [.int p0, .ref 0, .int (nI 0), .ref 80]) (M2 := M) (Ps := []) (by decide +kernel) rfl rfl trivial ?_
  refine G.callC (as := [.int p0]) (rest := [.int (nI 0), .ref 80]) (a := 0) rfl oX11_reach lk_EvenFindersLaw_65 (by decide +kernel) rfl rfl ⟨rfl, rfl⟩ (Nat.le_of_ble_eq_true rfl) ⟨Nat.le_of_ble_eq_true rfl, Nat.le_of_ble_eq_true rfl⟩ hM (fun v9 N9 h9 => by cases h9) (fun E9 N9 h9 => ?_)
  cases h9
  refine ⟨12, 3, 1, Or.inr (Or.inl ⟨rfl, _, _, _, rfl, by decide, by decide⟩), Or.inl ⟨3, by decide +kernel, rfl, rfl⟩, by decide, rfl, rfl, ?_⟩
  show G z mL_reach (d + 1) 1 6 13 [some (.ref 0), some (.int p0), some (.ref 80), none] [] N _
  refine G.sl [(.iconst 1, 1, 0, 0, 0, nI 1)] [] (pc2 := 14) (ls2 := [some (.ref 0), some (.int p0), some (.ref 80), none]) (st2 := [.int (nI 1)]) (M2 := N) (Ps := []) (by decide +kernel) rfl rfl trivial ?_
  exact G.reti (by decide +kernel) rfl rfl (Nat.le_of_ble_eq_true rfl) (Nat.le_of_ble_eq_true rfl) rfl
theorem h_settle_r (z : Zp) (hw : oW z = true) (d : Nat) (M N : Mem) (p0 : Int32) (v : Int32) (hM : GM z mX11_settle d [.ref 0, .int p0] M (fun rs => rs = .inl (some (.int v), N))) : GH z mL_settle (d + 1) [.ref 0, .int p0, .ref 80] M (fun rs => rs = .inl (some (.int (nI 0)), mout N v.toInt64)) := by
  refine GH.of oL_settle (Nat.le_of_ble_eq_true rfl) ?_
  show G z mL_settle (d + 1) 0 0 0 [some (.ref 0), some (.int p0), some (.ref 80), none] [] M _
  refine G.sl [(.aload_n 2, 1, 2, 0, 0, 0), (.iconst 0, 1, 0, 0, 0, nI 0), (.aload_n 0, 1, 0, 0, 0, 0), (.iload_n 1, 1, 1, 0, 0, 0)] [] (pc2 := 4) (ls2 := [some (.ref 0), some (.int p0), some (.ref 80), none]) (st2 := [.int p0, .ref 0, .int (nI 0), .ref 80]) (M2 := M) (Ps := []) (by decide +kernel) rfl rfl trivial ?_
  refine G.callC (as := [.int p0]) (rest := [.int (nI 0), .ref 80]) (a := 0) rfl oX11_settle lk_EvenFindersLaw_68 (by decide +kernel) rfl rfl ⟨rfl, rfl⟩ (Nat.le_of_ble_eq_true rfl) ⟨Nat.le_of_ble_eq_true rfl, Nat.le_of_ble_eq_true rfl⟩ hM (fun v9 N9 h9 => ?_) (fun E9 N9 h9 => by cases h9)
  cases h9
  show G z mL_settle (d + 1) 1 6 7 [some (.ref 0), some (.int p0), some (.ref 80), none] [.int v, .int (nI 0), .ref 80] N _
  refine G.sl [(.i2l, 1, 0, 0, 0, 0), (.lastore, 1, 0, 0, 0, 0), (.goto 6, 3, 15, 0, 0, 0), (.iconst 0, 1, 0, 0, 0, nI 0)] [] (pc2 := 16) (ls2 := [some (.ref 0), some (.int p0), some (.ref 80), none]) (st2 := [.int (nI 0)]) (M2 := mout N v.toInt64) (Ps := [(nI 0) = 0 ∧ oW z = true]) (by decide +kernel) rfl rfl ⟨⟨by decide, hw⟩, trivial⟩ ?_
  refine G.mem (M' := mout N v.toInt64) (by first | rfl | (simp only [mput, mrow_same, mrow_hit, mrow_miss, mrow_sw, idr_eq, ne_eq, Nat.reduceEqDiff, not_false_eq_true, Nat.reduceLT, reduceCtorEq]; done)) ?_
  exact G.reti (by decide +kernel) rfl rfl (Nat.le_of_ble_eq_true rfl) (Nat.le_of_ble_eq_true rfl) rfl
theorem h_settle_n (z : Zp) (hw : oW z = true) (d : Nat) (M N : Mem) (p0 : Int32) (hM : GM z mX11_settle d [.ref 0, .int p0] M (fun rs => rs = .inr ("java/util/NoSuchElementException", N))) : GH z mL_settle (d + 1) [.ref 0, .int p0, .ref 80] M (fun rs => rs = .inl (some (.int (nI 1)), N)) := by
  refine GH.of oL_settle (Nat.le_of_ble_eq_true rfl) ?_
  show G z mL_settle (d + 1) 0 0 0 [some (.ref 0), some (.int p0), some (.ref 80), none] [] M _
  refine G.sl [(.aload_n 2, 1, 2, 0, 0, 0), (.iconst 0, 1, 0, 0, 0, nI 0), (.aload_n 0, 1, 0, 0, 0, 0), (.iload_n 1, 1, 1, 0, 0, 0)] [] (pc2 := 4) (ls2 := [some (.ref 0), some (.int p0), some (.ref 80), none]) (st2 := [.int p0, .ref 0, .int (nI 0), .ref 80]) (M2 := M) (Ps := []) (by decide +kernel) rfl rfl trivial ?_
  refine G.callC (as := [.int p0]) (rest := [.int (nI 0), .ref 80]) (a := 0) rfl oX11_settle lk_EvenFindersLaw_68 (by decide +kernel) rfl rfl ⟨rfl, rfl⟩ (Nat.le_of_ble_eq_true rfl) ⟨Nat.le_of_ble_eq_true rfl, Nat.le_of_ble_eq_true rfl⟩ hM (fun v9 N9 h9 => by cases h9) (fun E9 N9 h9 => ?_)
  cases h9
  refine ⟨12, 3, 1, Or.inr (Or.inl ⟨rfl, _, _, _, rfl, by decide, by decide⟩), Or.inl ⟨3, by decide +kernel, rfl, rfl⟩, by decide, rfl, rfl, ?_⟩
  show G z mL_settle (d + 1) 1 6 13 [some (.ref 0), some (.int p0), some (.ref 80), none] [] N _
  refine G.sl [(.iconst 1, 1, 0, 0, 0, nI 1)] [] (pc2 := 14) (ls2 := [some (.ref 0), some (.int p0), some (.ref 80), none]) (st2 := [.int (nI 1)]) (M2 := N) (Ps := []) (by decide +kernel) rfl rfl trivial ?_
  exact G.reti (by decide +kernel) rfl rfl (Nat.le_of_ble_eq_true rfl) (Nat.le_of_ble_eq_true rfl) rfl
theorem h_parts_r (z : Zp) (hw : oW z = true) (d : Nat) (M N : Mem) (p0 p1 : Int32) (v : Int32) (hM : GM z mX11_parts d [.ref 0, .int p0, .int p1] M (fun rs => rs = .inl (some (.int v), N))) : GH z mL_parts (d + 1) [.ref 0, .int p0, .int p1, .ref 80] M (fun rs => rs = .inl (some (.int (nI 0)), mout N v.toInt64)) := by
  refine GH.of oL_parts (Nat.le_of_ble_eq_true rfl) ?_
  show G z mL_parts (d + 1) 0 0 0 [some (.ref 0), some (.int p0), some (.int p1), some (.ref 80), none] [] M _
  refine G.sl [(.aload_n 3, 1, 3, 0, 0, 0), (.iconst 0, 1, 0, 0, 0, nI 0), (.aload_n 0, 1, 0, 0, 0, 0), (.iload_n 1, 1, 1, 0, 0, 0), (.iload_n 2, 1, 2, 0, 0, 0)] [] (pc2 := 5) (ls2 := [some (.ref 0), some (.int p0), some (.int p1), some (.ref 80), none]) (st2 := [.int p1, .int p0, .ref 0, .int (nI 0), .ref 80]) (M2 := M) (Ps := []) (by decide +kernel) rfl rfl trivial ?_
  refine G.callC (as := [.int p0, .int p1]) (rest := [.int (nI 0), .ref 80]) (a := 0) rfl oX11_parts lk_EvenFindersLaw_71 (by decide +kernel) rfl rfl ⟨rfl, rfl⟩ (Nat.le_of_ble_eq_true rfl) ⟨Nat.le_of_ble_eq_true rfl, Nat.le_of_ble_eq_true rfl⟩ hM (fun v9 N9 h9 => ?_) (fun E9 N9 h9 => by cases h9)
  cases h9
  show G z mL_parts (d + 1) 2 12 8 [some (.ref 0), some (.int p0), some (.int p1), some (.ref 80), none] [.int v, .int (nI 0), .ref 80] N _
  refine G.sl [(.i2l, 1, 0, 0, 0, 0), (.lastore, 1, 0, 0, 0, 0), (.goto 11, 3, 21, 0, 0, 0), (.iconst 0, 1, 0, 0, 0, nI 0)] [] (pc2 := 22) (ls2 := [some (.ref 0), some (.int p0), some (.int p1), some (.ref 80), none]) (st2 := [.int (nI 0)]) (M2 := mout N v.toInt64) (Ps := [(nI 0) = 0 ∧ oW z = true]) (by decide +kernel) rfl rfl ⟨⟨by decide, hw⟩, trivial⟩ ?_
  refine G.mem (M' := mout N v.toInt64) (by first | rfl | (simp only [mput, mrow_same, mrow_hit, mrow_miss, mrow_sw, idr_eq, ne_eq, Nat.reduceEqDiff, not_false_eq_true, Nat.reduceLT, reduceCtorEq]; done)) ?_
  exact G.reti (by decide +kernel) rfl rfl (Nat.le_of_ble_eq_true rfl) (Nat.le_of_ble_eq_true rfl) rfl
theorem h_parts_n (z : Zp) (hw : oW z = true) (d : Nat) (M N : Mem) (p0 p1 : Int32) (hM : GM z mX11_parts d [.ref 0, .int p0, .int p1] M (fun rs => rs = .inr ("java/util/NoSuchElementException", N))) : GH z mL_parts (d + 1) [.ref 0, .int p0, .int p1, .ref 80] M (fun rs => rs = .inl (some (.int (nI 1)), N)) := by
  refine GH.of oL_parts (Nat.le_of_ble_eq_true rfl) ?_
  show G z mL_parts (d + 1) 0 0 0 [some (.ref 0), some (.int p0), some (.int p1), some (.ref 80), none] [] M _
  refine G.sl [(.aload_n 3, 1, 3, 0, 0, 0), (.iconst 0, 1, 0, 0, 0, nI 0), (.aload_n 0, 1, 0, 0, 0, 0), (.iload_n 1, 1, 1, 0, 0, 0), (.iload_n 2, 1, 2, 0, 0, 0)] [] (pc2 := 5) (ls2 := [some (.ref 0), some (.int p0), some (.int p1), some (.ref 80), none]) (st2 := [.int p1, .int p0, .ref 0, .int (nI 0), .ref 80]) (M2 := M) (Ps := []) (by decide +kernel) rfl rfl trivial ?_
  refine G.callC (as := [.int p0, .int p1]) (rest := [.int (nI 0), .ref 80]) (a := 0) rfl oX11_parts lk_EvenFindersLaw_71 (by decide +kernel) rfl rfl ⟨rfl, rfl⟩ (Nat.le_of_ble_eq_true rfl) ⟨Nat.le_of_ble_eq_true rfl, Nat.le_of_ble_eq_true rfl⟩ hM (fun v9 N9 h9 => by cases h9) (fun E9 N9 h9 => ?_)
  cases h9
  refine ⟨13, 4, 2, Or.inr (Or.inl ⟨rfl, _, _, _, rfl, by decide, by decide⟩), Or.inr ⟨by decide +kernel, rfl⟩, by decide, rfl, rfl, ?_⟩
  show G z mL_parts (d + 1) 2 12 15 [some (.ref 0), some (.int p0), some (.int p1), some (.ref 80), none] [] N _
  refine G.sl [(.iconst 1, 1, 0, 0, 0, nI 1)] [] (pc2 := 16) (ls2 := [some (.ref 0), some (.int p0), some (.int p1), some (.ref 80), none]) (st2 := [.int (nI 1)]) (M2 := N) (Ps := []) (by decide +kernel) rfl rfl trivial ?_
  exact G.reti (by decide +kernel) rfl rfl (Nat.le_of_ble_eq_true rfl) (Nat.le_of_ble_eq_true rfl) rfl
theorem h_parts_i (z : Zp) (hw : oW z = true) (d : Nat) (M N : Mem) (p0 p1 : Int32) (hM : GM z mX11_parts d [.ref 0, .int p0, .int p1] M (fun rs => rs = .inr ("java/lang/IllegalArgumentException", N))) : GH z mL_parts (d + 1) [.ref 0, .int p0, .int p1, .ref 80] M (fun rs => rs = .inl (some (.int (nI 2)), N)) := by
  refine GH.of oL_parts (Nat.le_of_ble_eq_true rfl) ?_
  show G z mL_parts (d + 1) 0 0 0 [some (.ref 0), some (.int p0), some (.int p1), some (.ref 80), none] [] M _
  refine G.sl [(.aload_n 3, 1, 3, 0, 0, 0), (.iconst 0, 1, 0, 0, 0, nI 0), (.aload_n 0, 1, 0, 0, 0, 0), (.iload_n 1, 1, 1, 0, 0, 0), (.iload_n 2, 1, 2, 0, 0, 0)] [] (pc2 := 5) (ls2 := [some (.ref 0), some (.int p0), some (.int p1), some (.ref 80), none]) (st2 := [.int p1, .int p0, .ref 0, .int (nI 0), .ref 80]) (M2 := M) (Ps := []) (by decide +kernel) rfl rfl trivial ?_
  refine G.callC (as := [.int p0, .int p1]) (rest := [.int (nI 0), .ref 80]) (a := 0) rfl oX11_parts lk_EvenFindersLaw_71 (by decide +kernel) rfl rfl ⟨rfl, rfl⟩ (Nat.le_of_ble_eq_true rfl) ⟨Nat.le_of_ble_eq_true rfl, Nat.le_of_ble_eq_true rfl⟩ hM (fun v9 N9 h9 => by cases h9) (fun E9 N9 h9 => ?_)
  cases h9
  refine ⟨17, 4, 2, Or.inr (Or.inr ⟨rfl, _, _, _, _, _, rfl, by decide, by decide, by decide, by decide⟩), Or.inr ⟨by decide +kernel, rfl⟩, by decide, rfl, rfl, ?_⟩
  show G z mL_parts (d + 1) 2 12 19 [some (.ref 0), some (.int p0), some (.int p1), some (.ref 80), none] [] N _
  refine G.sl [(.iconst 2, 1, 0, 0, 0, nI 2)] [] (pc2 := 20) (ls2 := [some (.ref 0), some (.int p0), some (.int p1), some (.ref 80), none]) (st2 := [.int (nI 2)]) (M2 := N) (Ps := []) (by decide +kernel) rfl rfl trivial ?_
  exact G.reti (by decide +kernel) rfl rfl (Nat.le_of_ble_eq_true rfl) (Nat.le_of_ble_eq_true rfl) rfl
theorem h_fits_r (z : Zp) (hw : oW z = true) (d : Nat) (M N : Mem) (p0 : Int32) (v : Int32) (hM : GM z mX11_fits d [.ref 0, .int p0] M (fun rs => rs = .inl (some (.int v), N))) : GH z mL_fits (d + 1) [.ref 0, .int p0, .ref 80] M (fun rs => rs = .inl (some (.int (nI 0)), mout N v.toInt64)) := by
  refine GH.of oL_fits (Nat.le_of_ble_eq_true rfl) ?_
  show G z mL_fits (d + 1) 0 0 0 [some (.ref 0), some (.int p0), some (.ref 80), none] [] M _
  refine G.sl [(.aload_n 2, 1, 2, 0, 0, 0), (.iconst 0, 1, 0, 0, 0, nI 0), (.aload_n 0, 1, 0, 0, 0, 0), (.iload_n 1, 1, 1, 0, 0, 0)] [] (pc2 := 4) (ls2 := [some (.ref 0), some (.int p0), some (.ref 80), none]) (st2 := [.int p0, .ref 0, .int (nI 0), .ref 80]) (M2 := M) (Ps := []) (by decide +kernel) rfl rfl trivial ?_
  refine G.callC (as := [.int p0]) (rest := [.int (nI 0), .ref 80]) (a := 0) rfl oX11_fits lk_EvenFindersLaw_74 (by decide +kernel) rfl rfl ⟨rfl, rfl⟩ (Nat.le_of_ble_eq_true rfl) ⟨Nat.le_of_ble_eq_true rfl, Nat.le_of_ble_eq_true rfl⟩ hM (fun v9 N9 h9 => ?_) (fun E9 N9 h9 => by cases h9)
  cases h9
  show G z mL_fits (d + 1) 1 6 7 [some (.ref 0), some (.int p0), some (.ref 80), none] [.int v, .int (nI 0), .ref 80] N _
  refine G.sl [(.i2l, 1, 0, 0, 0, 0), (.lastore, 1, 0, 0, 0, 0), (.goto 6, 3, 15, 0, 0, 0), (.iconst 0, 1, 0, 0, 0, nI 0)] [] (pc2 := 16) (ls2 := [some (.ref 0), some (.int p0), some (.ref 80), none]) (st2 := [.int (nI 0)]) (M2 := mout N v.toInt64) (Ps := [(nI 0) = 0 ∧ oW z = true]) (by decide +kernel) rfl rfl ⟨⟨by decide, hw⟩, trivial⟩ ?_
  refine G.mem (M' := mout N v.toInt64) (by first | rfl | (simp only [mput, mrow_same, mrow_hit, mrow_miss, mrow_sw, idr_eq, ne_eq, Nat.reduceEqDiff, not_false_eq_true, Nat.reduceLT, reduceCtorEq]; done)) ?_
  exact G.reti (by decide +kernel) rfl rfl (Nat.le_of_ble_eq_true rfl) (Nat.le_of_ble_eq_true rfl) rfl
theorem h_fits_i (z : Zp) (hw : oW z = true) (d : Nat) (M N : Mem) (p0 : Int32) (hM : GM z mX11_fits d [.ref 0, .int p0] M (fun rs => rs = .inr ("java/lang/IllegalArgumentException", N))) : GH z mL_fits (d + 1) [.ref 0, .int p0, .ref 80] M (fun rs => rs = .inl (some (.int (nI 1)), N)) := by
  refine GH.of oL_fits (Nat.le_of_ble_eq_true rfl) ?_
  show G z mL_fits (d + 1) 0 0 0 [some (.ref 0), some (.int p0), some (.ref 80), none] [] M _
  refine G.sl [(.aload_n 2, 1, 2, 0, 0, 0), (.iconst 0, 1, 0, 0, 0, nI 0), (.aload_n 0, 1, 0, 0, 0, 0), (.iload_n 1, 1, 1, 0, 0, 0)] [] (pc2 := 4) (ls2 := [some (.ref 0), some (.int p0), some (.ref 80), none]) (st2 := [.int p0, .ref 0, .int (nI 0), .ref 80]) (M2 := M) (Ps := []) (by decide +kernel) rfl rfl trivial ?_
  refine G.callC (as := [.int p0]) (rest := [.int (nI 0), .ref 80]) (a := 0) rfl oX11_fits lk_EvenFindersLaw_74 (by decide +kernel) rfl rfl ⟨rfl, rfl⟩ (Nat.le_of_ble_eq_true rfl) ⟨Nat.le_of_ble_eq_true rfl, Nat.le_of_ble_eq_true rfl⟩ hM (fun v9 N9 h9 => by cases h9) (fun E9 N9 h9 => ?_)
  cases h9
  refine ⟨12, 3, 1, Or.inl ⟨rfl, _, _, rfl, by decide, by decide⟩, Or.inl ⟨3, by decide +kernel, rfl, rfl⟩, by decide, rfl, rfl, ?_⟩
  show G z mL_fits (d + 1) 1 6 13 [some (.ref 0), some (.int p0), some (.ref 80), none] [] N _
  refine G.sl [(.iconst 1, 1, 0, 0, 0, nI 1)] [] (pc2 := 14) (ls2 := [some (.ref 0), some (.int p0), some (.ref 80), none]) (st2 := [.int (nI 1)]) (M2 := N) (Ps := []) (by decide +kernel) rfl rfl trivial ?_
  exact G.reti (by decide +kernel) rfl rfl (Nat.le_of_ble_eq_true rfl) (Nat.le_of_ble_eq_true rfl) rfl
theorem h_look_r (z : Zp) (hw : oW z = true) (d : Nat) (M N : Mem) (p0 : Int32) (v : Int32) (hM : GM z mX11_look d [.ref 0, .int p0] M (fun rs => rs = .inl (some (.int v), N))) : GH z mL_look (d + 1) [.ref 0, .int p0, .ref 80] M (fun rs => rs = .inl (some (.int (nI 0)), mout N v.toInt64)) := by
  refine GH.of oL_look (Nat.le_of_ble_eq_true rfl) ?_
  show G z mL_look (d + 1) 0 0 0 [some (.ref 0), some (.int p0), some (.ref 80), none] [] M _
  refine G.sl [(.aload_n 2, 1, 2, 0, 0, 0), (.iconst 0, 1, 0, 0, 0, nI 0), (.aload_n 0, 1, 0, 0, 0, 0), (.iload_n 1, 1, 1, 0, 0, 0)] [] (pc2 := 4) (ls2 := [some (.ref 0), some (.int p0), some (.ref 80), none]) (st2 := [.int p0, .ref 0, .int (nI 0), .ref 80]) (M2 := M) (Ps := []) (by decide +kernel) rfl rfl trivial ?_
  refine G.callC (as := [.int p0]) (rest := [.int (nI 0), .ref 80]) (a := 0) rfl oX11_look lk_EvenFindersLaw_77 (by decide +kernel) rfl rfl ⟨rfl, rfl⟩ (Nat.le_of_ble_eq_true rfl) ⟨Nat.le_of_ble_eq_true rfl, Nat.le_of_ble_eq_true rfl⟩ hM (fun v9 N9 h9 => ?_) (fun E9 N9 h9 => by cases h9)
  cases h9
  show G z mL_look (d + 1) 1 6 7 [some (.ref 0), some (.int p0), some (.ref 80), none] [.int v, .int (nI 0), .ref 80] N _
  refine G.sl [(.i2l, 1, 0, 0, 0, 0), (.lastore, 1, 0, 0, 0, 0), (.goto 6, 3, 15, 0, 0, 0), (.iconst 0, 1, 0, 0, 0, nI 0)] [] (pc2 := 16) (ls2 := [some (.ref 0), some (.int p0), some (.ref 80), none]) (st2 := [.int (nI 0)]) (M2 := mout N v.toInt64) (Ps := [(nI 0) = 0 ∧ oW z = true]) (by decide +kernel) rfl rfl ⟨⟨by decide, hw⟩, trivial⟩ ?_
  refine G.mem (M' := mout N v.toInt64) (by first | rfl | (simp only [mput, mrow_same, mrow_hit, mrow_miss, mrow_sw, idr_eq, ne_eq, Nat.reduceEqDiff, not_false_eq_true, Nat.reduceLT, reduceCtorEq]; done)) ?_
  exact G.reti (by decide +kernel) rfl rfl (Nat.le_of_ble_eq_true rfl) (Nat.le_of_ble_eq_true rfl) rfl
theorem h_look_i (z : Zp) (hw : oW z = true) (d : Nat) (M N : Mem) (p0 : Int32) (hM : GM z mX11_look d [.ref 0, .int p0] M (fun rs => rs = .inr ("java/lang/IllegalArgumentException", N))) : GH z mL_look (d + 1) [.ref 0, .int p0, .ref 80] M (fun rs => rs = .inl (some (.int (nI 1)), N)) := by
  refine GH.of oL_look (Nat.le_of_ble_eq_true rfl) ?_
  show G z mL_look (d + 1) 0 0 0 [some (.ref 0), some (.int p0), some (.ref 80), none] [] M _
  refine G.sl [(.aload_n 2, 1, 2, 0, 0, 0), (.iconst 0, 1, 0, 0, 0, nI 0), (.aload_n 0, 1, 0, 0, 0, 0), (.iload_n 1, 1, 1, 0, 0, 0)] [] (pc2 := 4) (ls2 := [some (.ref 0), some (.int p0), some (.ref 80), none]) (st2 := [.int p0, .ref 0, .int (nI 0), .ref 80]) (M2 := M) (Ps := []) (by decide +kernel) rfl rfl trivial ?_
  refine G.callC (as := [.int p0]) (rest := [.int (nI 0), .ref 80]) (a := 0) rfl oX11_look lk_EvenFindersLaw_77 (by decide +kernel) rfl rfl ⟨rfl, rfl⟩ (Nat.le_of_ble_eq_true rfl) ⟨Nat.le_of_ble_eq_true rfl, Nat.le_of_ble_eq_true rfl⟩ hM (fun v9 N9 h9 => by cases h9) (fun E9 N9 h9 => ?_)
  cases h9
  refine ⟨12, 3, 1, Or.inl ⟨rfl, _, _, rfl, by decide, by decide⟩, Or.inl ⟨3, by decide +kernel, rfl, rfl⟩, by decide, rfl, rfl, ?_⟩
  show G z mL_look (d + 1) 1 6 13 [some (.ref 0), some (.int p0), some (.ref 80), none] [] N _
  refine G.sl [(.iconst 1, 1, 0, 0, 0, nI 1)] [] (pc2 := 14) (ls2 := [some (.ref 0), some (.int p0), some (.ref 80), none]) (st2 := [.int (nI 1)]) (M2 := N) (Ps := []) (by decide +kernel) rfl rfl trivial ?_
  exact G.reti (by decide +kernel) rfl rfl (Nat.le_of_ble_eq_true rfl) (Nat.le_of_ble_eq_true rfl) rfl
theorem h_pins_r (z : Zp) (hw : oW z = true) (d : Nat) (M N : Mem) (p0 p1 p2 p3 : Int32) (v : Int64) (hM : GM z mX11_pins d [.ref 0, .int p0, .int p1, .int p2, .int p3] M (fun rs => rs = .inl (some (.long v), N))) : GH z mL_pins (d + 1) [.ref 0, .int p0, .int p1, .int p2, .int p3, .ref 80] M (fun rs => rs = .inl (some (.int (nI 0)), mout N v)) := by
  refine GH.of oL_pins (Nat.le_of_ble_eq_true rfl) ?_
  show G z mL_pins (d + 1) 0 0 0 [some (.ref 0), some (.int p0), some (.int p1), some (.int p2), some (.int p3), some (.ref 80), none] [] M _
  refine G.sl [(.aload 5, 2, 5, 0, 0, 0), (.iconst 0, 1, 0, 0, 0, nI 0), (.aload_n 0, 1, 0, 0, 0, 0), (.iload_n 1, 1, 1, 0, 0, 0), (.iload_n 2, 1, 2, 0, 0, 0), (.iload_n 3, 1, 3, 0, 0, 0), (.iload 4, 2, 4, 0, 0, 0)] [] (pc2 := 9) (ls2 := [some (.ref 0), some (.int p0), some (.int p1), some (.int p2), some (.int p3), some (.ref 80), none]) (st2 := [.int p3, .int p2, .int p1, .int p0, .ref 0, .int (nI 0), .ref 80]) (M2 := M) (Ps := []) (by decide +kernel) rfl rfl trivial ?_
  refine G.callC (as := [.int p0, .int p1, .int p2, .int p3]) (rest := [.int (nI 0), .ref 80]) (a := 0) rfl oX11_pins lk_EvenFindersLaw_80 (by decide +kernel) rfl rfl ⟨rfl, rfl⟩ (Nat.le_of_ble_eq_true rfl) ⟨Nat.le_of_ble_eq_true rfl, Nat.le_of_ble_eq_true rfl⟩ hM (fun v9 N9 h9 => ?_) (fun E9 N9 h9 => by cases h9)
  cases h9
  show G z mL_pins (d + 1) 4 24 12 [some (.ref 0), some (.int p0), some (.int p1), some (.int p2), some (.int p3), some (.ref 80), none] [.long v, .int (nI 0), .ref 80] N _
  refine G.sl [(.lastore, 1, 0, 0, 0, 0), (.goto 7, 3, 20, 0, 0, 0), (.iconst 0, 1, 0, 0, 0, nI 0)] [] (pc2 := 21) (ls2 := [some (.ref 0), some (.int p0), some (.int p1), some (.int p2), some (.int p3), some (.ref 80), none]) (st2 := [.int (nI 0)]) (M2 := mout N v) (Ps := [(nI 0) = 0 ∧ oW z = true]) (by decide +kernel) rfl rfl ⟨⟨by decide, hw⟩, trivial⟩ ?_
  refine G.mem (M' := mout N v) (by first | rfl | (simp only [mput, mrow_same, mrow_hit, mrow_miss, mrow_sw, idr_eq, ne_eq, Nat.reduceEqDiff, not_false_eq_true, Nat.reduceLT, reduceCtorEq]; done)) ?_
  exact G.reti (by decide +kernel) rfl rfl (Nat.le_of_ble_eq_true rfl) (Nat.le_of_ble_eq_true rfl) rfl
theorem h_pins_i (z : Zp) (hw : oW z = true) (d : Nat) (M N : Mem) (p0 p1 p2 p3 : Int32) (hM : GM z mX11_pins d [.ref 0, .int p0, .int p1, .int p2, .int p3] M (fun rs => rs = .inr ("java/lang/IllegalArgumentException", N))) : GH z mL_pins (d + 1) [.ref 0, .int p0, .int p1, .int p2, .int p3, .ref 80] M (fun rs => rs = .inl (some (.int (nI 1)), N)) := by
  refine GH.of oL_pins (Nat.le_of_ble_eq_true rfl) ?_
  show G z mL_pins (d + 1) 0 0 0 [some (.ref 0), some (.int p0), some (.int p1), some (.int p2), some (.int p3), some (.ref 80), none] [] M _
  refine G.sl [(.aload 5, 2, 5, 0, 0, 0), (.iconst 0, 1, 0, 0, 0, nI 0), (.aload_n 0, 1, 0, 0, 0, 0), (.iload_n 1, 1, 1, 0, 0, 0), (.iload_n 2, 1, 2, 0, 0, 0), (.iload_n 3, 1, 3, 0, 0, 0), (.iload 4, 2, 4, 0, 0, 0)] [] (pc2 := 9) (ls2 := [some (.ref 0), some (.int p0), some (.int p1), some (.int p2), some (.int p3), some (.ref 80), none]) (st2 := [.int p3, .int p2, .int p1, .int p0, .ref 0, .int (nI 0), .ref 80]) (M2 := M) (Ps := []) (by decide +kernel) rfl rfl trivial ?_
  refine G.callC (as := [.int p0, .int p1, .int p2, .int p3]) (rest := [.int (nI 0), .ref 80]) (a := 0) rfl oX11_pins lk_EvenFindersLaw_80 (by decide +kernel) rfl rfl ⟨rfl, rfl⟩ (Nat.le_of_ble_eq_true rfl) ⟨Nat.le_of_ble_eq_true rfl, Nat.le_of_ble_eq_true rfl⟩ hM (fun v9 N9 h9 => by cases h9) (fun E9 N9 h9 => ?_)
  cases h9
  refine ⟨16, 6, 2, Or.inl ⟨rfl, _, _, rfl, by decide, by decide⟩, Or.inr ⟨by decide +kernel, rfl⟩, by decide, rfl, rfl, ?_⟩
  show G z mL_pins (d + 1) 4 24 18 [some (.ref 0), some (.int p0), some (.int p1), some (.int p2), some (.int p3), some (.ref 80), none] [] N _
  refine G.sl [(.iconst 1, 1, 0, 0, 0, nI 1)] [] (pc2 := 19) (ls2 := [some (.ref 0), some (.int p0), some (.int p1), some (.int p2), some (.int p3), some (.ref 80), none]) (st2 := [.int (nI 1)]) (M2 := N) (Ps := []) (by decide +kernel) rfl rfl trivial ?_
  exact G.reti (by decide +kernel) rfl rfl (Nat.le_of_ble_eq_true rfl) (Nat.le_of_ble_eq_true rfl) rfl
theorem h_takes_r (z : Zp) (hw : oW z = true) (d : Nat) (M N : Mem) (p0 p1 p2 : Int32) (v : Int32) (hM : GM z mX11_takes d [.ref 0, .int p0, .int p1, .int p2] M (fun rs => rs = .inl (some (.int v), N))) : GH z mL_takes (d + 1) [.ref 0, .int p0, .int p1, .int p2, .ref 80] M (fun rs => rs = .inl (some (.int (nI 0)), mout N v.toInt64)) := by
  refine GH.of oL_takes (Nat.le_of_ble_eq_true rfl) ?_
  show G z mL_takes (d + 1) 0 0 0 [some (.ref 0), some (.int p0), some (.int p1), some (.int p2), some (.ref 80), none] [] M _
  refine G.sl [(.aload 4, 2, 4, 0, 0, 0), (.iconst 0, 1, 0, 0, 0, nI 0), (.aload_n 0, 1, 0, 0, 0, 0), (.iload_n 1, 1, 1, 0, 0, 0), (.iload_n 2, 1, 2, 0, 0, 0), (.iload_n 3, 1, 3, 0, 0, 0)] [] (pc2 := 7) (ls2 := [some (.ref 0), some (.int p0), some (.int p1), some (.int p2), some (.ref 80), none]) (st2 := [.int p2, .int p1, .int p0, .ref 0, .int (nI 0), .ref 80]) (M2 := M) (Ps := []) (by decide +kernel) rfl rfl trivial ?_
  refine G.callC (as := [.int p0, .int p1, .int p2]) (rest := [.int (nI 0), .ref 80]) (a := 0) rfl oX11_takes lk_EvenFindersLaw_84 (by decide +kernel) rfl rfl ⟨rfl, rfl⟩ (Nat.le_of_ble_eq_true rfl) ⟨Nat.le_of_ble_eq_true rfl, Nat.le_of_ble_eq_true rfl⟩ hM (fun v9 N9 h9 => ?_) (fun E9 N9 h9 => by cases h9)
  cases h9
  show G z mL_takes (d + 1) 3 18 10 [some (.ref 0), some (.int p0), some (.int p1), some (.int p2), some (.ref 80), none] [.int v, .int (nI 0), .ref 80] N _
  refine G.sl [(.i2l, 1, 0, 0, 0, 0), (.lastore, 1, 0, 0, 0, 0), (.goto 7, 3, 19, 0, 0, 0), (.iconst 0, 1, 0, 0, 0, nI 0)] [] (pc2 := 20) (ls2 := [some (.ref 0), some (.int p0), some (.int p1), some (.int p2), some (.ref 80), none]) (st2 := [.int (nI 0)]) (M2 := mout N v.toInt64) (Ps := [(nI 0) = 0 ∧ oW z = true]) (by decide +kernel) rfl rfl ⟨⟨by decide, hw⟩, trivial⟩ ?_
  refine G.mem (M' := mout N v.toInt64) (by first | rfl | (simp only [mput, mrow_same, mrow_hit, mrow_miss, mrow_sw, idr_eq, ne_eq, Nat.reduceEqDiff, not_false_eq_true, Nat.reduceLT, reduceCtorEq]; done)) ?_
  exact G.reti (by decide +kernel) rfl rfl (Nat.le_of_ble_eq_true rfl) (Nat.le_of_ble_eq_true rfl) rfl
theorem h_takes_i (z : Zp) (hw : oW z = true) (d : Nat) (M N : Mem) (p0 p1 p2 : Int32) (hM : GM z mX11_takes d [.ref 0, .int p0, .int p1, .int p2] M (fun rs => rs = .inr ("java/lang/IllegalArgumentException", N))) : GH z mL_takes (d + 1) [.ref 0, .int p0, .int p1, .int p2, .ref 80] M (fun rs => rs = .inl (some (.int (nI 1)), N)) := by
  refine GH.of oL_takes (Nat.le_of_ble_eq_true rfl) ?_
  show G z mL_takes (d + 1) 0 0 0 [some (.ref 0), some (.int p0), some (.int p1), some (.int p2), some (.ref 80), none] [] M _
  refine G.sl [(.aload 4, 2, 4, 0, 0, 0), (.iconst 0, 1, 0, 0, 0, nI 0), (.aload_n 0, 1, 0, 0, 0, 0), (.iload_n 1, 1, 1, 0, 0, 0), (.iload_n 2, 1, 2, 0, 0, 0), (.iload_n 3, 1, 3, 0, 0, 0)] [] (pc2 := 7) (ls2 := [some (.ref 0), some (.int p0), some (.int p1), some (.int p2), some (.ref 80), none]) (st2 := [.int p2, .int p1, .int p0, .ref 0, .int (nI 0), .ref 80]) (M2 := M) (Ps := []) (by decide +kernel) rfl rfl trivial ?_
  refine G.callC (as := [.int p0, .int p1, .int p2]) (rest := [.int (nI 0), .ref 80]) (a := 0) rfl oX11_takes lk_EvenFindersLaw_84 (by decide +kernel) rfl rfl ⟨rfl, rfl⟩ (Nat.le_of_ble_eq_true rfl) ⟨Nat.le_of_ble_eq_true rfl, Nat.le_of_ble_eq_true rfl⟩ hM (fun v9 N9 h9 => by cases h9) (fun E9 N9 h9 => ?_)
  cases h9
  refine ⟨15, 5, 2, Or.inl ⟨rfl, _, _, rfl, by decide, by decide⟩, Or.inr ⟨by decide +kernel, rfl⟩, by decide, rfl, rfl, ?_⟩
  show G z mL_takes (d + 1) 3 18 17 [some (.ref 0), some (.int p0), some (.int p1), some (.int p2), some (.ref 80), none] [] N _
  refine G.sl [(.iconst 1, 1, 0, 0, 0, nI 1)] [] (pc2 := 18) (ls2 := [some (.ref 0), some (.int p0), some (.int p1), some (.int p2), some (.ref 80), none]) (st2 := [.int (nI 1)]) (M2 := N) (Ps := []) (by decide +kernel) rfl rfl trivial ?_
  exact G.reti (by decide +kernel) rfl rfl (Nat.le_of_ble_eq_true rfl) (Nat.le_of_ble_eq_true rfl) rfl
theorem h_sixpence_r (z : Zp) (hw : oW z = true) (d : Nat) (M N : Mem) (p0 p1 p2 : Int32) (v : Int32) (hM : GM z mX11_sixpence d [.ref 0, .int p0, .int p1, .int p2] M (fun rs => rs = .inl (some (.int v), N))) : GH z mL_sixpence (d + 1) [.ref 0, .int p0, .int p1, .int p2, .ref 80] M (fun rs => rs = .inl (some (.int (nI 0)), mout N v.toInt64)) := by
  refine GH.of oL_sixpence (Nat.le_of_ble_eq_true rfl) ?_
  show G z mL_sixpence (d + 1) 0 0 0 [some (.ref 0), some (.int p0), some (.int p1), some (.int p2), some (.ref 80), none] [] M _
  refine G.sl [(.aload 4, 2, 4, 0, 0, 0), (.iconst 0, 1, 0, 0, 0, nI 0), (.aload_n 0, 1, 0, 0, 0, 0), (.iload_n 1, 1, 1, 0, 0, 0), (.iload_n 2, 1, 2, 0, 0, 0), (.iload_n 3, 1, 3, 0, 0, 0)] [] (pc2 := 7) (ls2 := [some (.ref 0), some (.int p0), some (.int p1), some (.int p2), some (.ref 80), none]) (st2 := [.int p2, .int p1, .int p0, .ref 0, .int (nI 0), .ref 80]) (M2 := M) (Ps := []) (by decide +kernel) rfl rfl trivial ?_
  refine G.callC (as := [.int p0, .int p1, .int p2]) (rest := [.int (nI 0), .ref 80]) (a := 0) rfl oX11_sixpence lk_EvenFindersLaw_88 (by decide +kernel) rfl rfl ⟨rfl, rfl⟩ (Nat.le_of_ble_eq_true rfl) ⟨Nat.le_of_ble_eq_true rfl, Nat.le_of_ble_eq_true rfl⟩ hM (fun v9 N9 h9 => ?_) (fun E9 N9 h9 => by cases h9)
  cases h9
  show G z mL_sixpence (d + 1) 3 18 10 [some (.ref 0), some (.int p0), some (.int p1), some (.int p2), some (.ref 80), none] [.int v, .int (nI 0), .ref 80] N _
  refine G.sl [(.i2l, 1, 0, 0, 0, 0), (.lastore, 1, 0, 0, 0, 0), (.goto 11, 3, 23, 0, 0, 0), (.iconst 0, 1, 0, 0, 0, nI 0)] [] (pc2 := 24) (ls2 := [some (.ref 0), some (.int p0), some (.int p1), some (.int p2), some (.ref 80), none]) (st2 := [.int (nI 0)]) (M2 := mout N v.toInt64) (Ps := [(nI 0) = 0 ∧ oW z = true]) (by decide +kernel) rfl rfl ⟨⟨by decide, hw⟩, trivial⟩ ?_
  refine G.mem (M' := mout N v.toInt64) (by first | rfl | (simp only [mput, mrow_same, mrow_hit, mrow_miss, mrow_sw, idr_eq, ne_eq, Nat.reduceEqDiff, not_false_eq_true, Nat.reduceLT, reduceCtorEq]; done)) ?_
  exact G.reti (by decide +kernel) rfl rfl (Nat.le_of_ble_eq_true rfl) (Nat.le_of_ble_eq_true rfl) rfl
theorem h_sixpence_n (z : Zp) (hw : oW z = true) (d : Nat) (M N : Mem) (p0 p1 p2 : Int32) (hM : GM z mX11_sixpence d [.ref 0, .int p0, .int p1, .int p2] M (fun rs => rs = .inr ("java/util/NoSuchElementException", N))) : GH z mL_sixpence (d + 1) [.ref 0, .int p0, .int p1, .int p2, .ref 80] M (fun rs => rs = .inl (some (.int (nI 1)), N)) := by
  refine GH.of oL_sixpence (Nat.le_of_ble_eq_true rfl) ?_
  show G z mL_sixpence (d + 1) 0 0 0 [some (.ref 0), some (.int p0), some (.int p1), some (.int p2), some (.ref 80), none] [] M _
  refine G.sl [(.aload 4, 2, 4, 0, 0, 0), (.iconst 0, 1, 0, 0, 0, nI 0), (.aload_n 0, 1, 0, 0, 0, 0), (.iload_n 1, 1, 1, 0, 0, 0), (.iload_n 2, 1, 2, 0, 0, 0), (.iload_n 3, 1, 3, 0, 0, 0)] [] (pc2 := 7) (ls2 := [some (.ref 0), some (.int p0), some (.int p1), some (.int p2), some (.ref 80), none]) (st2 := [.int p2, .int p1, .int p0, .ref 0, .int (nI 0), .ref 80]) (M2 := M) (Ps := []) (by decide +kernel) rfl rfl trivial ?_
  refine G.callC (as := [.int p0, .int p1, .int p2]) (rest := [.int (nI 0), .ref 80]) (a := 0) rfl oX11_sixpence lk_EvenFindersLaw_88 (by decide +kernel) rfl rfl ⟨rfl, rfl⟩ (Nat.le_of_ble_eq_true rfl) ⟨Nat.le_of_ble_eq_true rfl, Nat.le_of_ble_eq_true rfl⟩ hM (fun v9 N9 h9 => by cases h9) (fun E9 N9 h9 => ?_)
  cases h9
  refine ⟨15, 5, 2, Or.inr (Or.inl ⟨rfl, _, _, _, rfl, by decide, by decide⟩), Or.inr ⟨by decide +kernel, rfl⟩, by decide, rfl, rfl, ?_⟩
  show G z mL_sixpence (d + 1) 3 18 17 [some (.ref 0), some (.int p0), some (.int p1), some (.int p2), some (.ref 80), none] [] N _
  refine G.sl [(.iconst 1, 1, 0, 0, 0, nI 1)] [] (pc2 := 18) (ls2 := [some (.ref 0), some (.int p0), some (.int p1), some (.int p2), some (.ref 80), none]) (st2 := [.int (nI 1)]) (M2 := N) (Ps := []) (by decide +kernel) rfl rfl trivial ?_
  exact G.reti (by decide +kernel) rfl rfl (Nat.le_of_ble_eq_true rfl) (Nat.le_of_ble_eq_true rfl) rfl
theorem h_sixpence_i (z : Zp) (hw : oW z = true) (d : Nat) (M N : Mem) (p0 p1 p2 : Int32) (hM : GM z mX11_sixpence d [.ref 0, .int p0, .int p1, .int p2] M (fun rs => rs = .inr ("java/lang/IllegalArgumentException", N))) : GH z mL_sixpence (d + 1) [.ref 0, .int p0, .int p1, .int p2, .ref 80] M (fun rs => rs = .inl (some (.int (nI 2)), N)) := by
  refine GH.of oL_sixpence (Nat.le_of_ble_eq_true rfl) ?_
  show G z mL_sixpence (d + 1) 0 0 0 [some (.ref 0), some (.int p0), some (.int p1), some (.int p2), some (.ref 80), none] [] M _
  refine G.sl [(.aload 4, 2, 4, 0, 0, 0), (.iconst 0, 1, 0, 0, 0, nI 0), (.aload_n 0, 1, 0, 0, 0, 0), (.iload_n 1, 1, 1, 0, 0, 0), (.iload_n 2, 1, 2, 0, 0, 0), (.iload_n 3, 1, 3, 0, 0, 0)] [] (pc2 := 7) (ls2 := [some (.ref 0), some (.int p0), some (.int p1), some (.int p2), some (.ref 80), none]) (st2 := [.int p2, .int p1, .int p0, .ref 0, .int (nI 0), .ref 80]) (M2 := M) (Ps := []) (by decide +kernel) rfl rfl trivial ?_
  refine G.callC (as := [.int p0, .int p1, .int p2]) (rest := [.int (nI 0), .ref 80]) (a := 0) rfl oX11_sixpence lk_EvenFindersLaw_88 (by decide +kernel) rfl rfl ⟨rfl, rfl⟩ (Nat.le_of_ble_eq_true rfl) ⟨Nat.le_of_ble_eq_true rfl, Nat.le_of_ble_eq_true rfl⟩ hM (fun v9 N9 h9 => by cases h9) (fun E9 N9 h9 => ?_)
  cases h9
  refine ⟨19, 5, 2, Or.inr (Or.inr ⟨rfl, _, _, _, _, _, rfl, by decide, by decide, by decide, by decide⟩), Or.inr ⟨by decide +kernel, rfl⟩, by decide, rfl, rfl, ?_⟩
  show G z mL_sixpence (d + 1) 3 18 21 [some (.ref 0), some (.int p0), some (.int p1), some (.int p2), some (.ref 80), none] [] N _
  refine G.sl [(.iconst 2, 1, 0, 0, 0, nI 2)] [] (pc2 := 22) (ls2 := [some (.ref 0), some (.int p0), some (.int p1), some (.int p2), some (.ref 80), none]) (st2 := [.int (nI 2)]) (M2 := N) (Ps := []) (by decide +kernel) rfl rfl trivial ?_
  exact G.reti (by decide +kernel) rfl rfl (Nat.le_of_ble_eq_true rfl) (Nat.le_of_ble_eq_true rfl) rfl
theorem h_greatest_r (z : Zp) (hw : oW z = true) (d : Nat) (M N : Mem) (p0 : Int32) (v : Int32) (hM : GM z mX11_greatest d [.ref 0, .int p0] M (fun rs => rs = .inl (some (.int v), N))) : GH z mL_greatest (d + 1) [.ref 0, .int p0, .ref 80] M (fun rs => rs = .inl (some (.int (nI 0)), mout N v.toInt64)) := by
  refine GH.of oL_greatest (Nat.le_of_ble_eq_true rfl) ?_
  show G z mL_greatest (d + 1) 0 0 0 [some (.ref 0), some (.int p0), some (.ref 80), none] [] M _
  refine G.sl [(.aload_n 2, 1, 2, 0, 0, 0), (.iconst 0, 1, 0, 0, 0, nI 0), (.aload_n 0, 1, 0, 0, 0, 0), (.iload_n 1, 1, 1, 0, 0, 0)] [] (pc2 := 4) (ls2 := [some (.ref 0), some (.int p0), some (.ref 80), none]) (st2 := [.int p0, .ref 0, .int (nI 0), .ref 80]) (M2 := M) (Ps := []) (by decide +kernel) rfl rfl trivial ?_
  refine G.callC (as := [.int p0]) (rest := [.int (nI 0), .ref 80]) (a := 0) rfl oX11_greatest lk_EvenFindersLaw_91 (by decide +kernel) rfl rfl ⟨rfl, rfl⟩ (Nat.le_of_ble_eq_true rfl) ⟨Nat.le_of_ble_eq_true rfl, Nat.le_of_ble_eq_true rfl⟩ hM (fun v9 N9 h9 => ?_) (fun E9 N9 h9 => by cases h9)
  cases h9
  show G z mL_greatest (d + 1) 1 6 7 [some (.ref 0), some (.int p0), some (.ref 80), none] [.int v, .int (nI 0), .ref 80] N _
  refine G.sl [(.i2l, 1, 0, 0, 0, 0), (.lastore, 1, 0, 0, 0, 0), (.goto 6, 3, 15, 0, 0, 0), (.iconst 0, 1, 0, 0, 0, nI 0)] [] (pc2 := 16) (ls2 := [some (.ref 0), some (.int p0), some (.ref 80), none]) (st2 := [.int (nI 0)]) (M2 := mout N v.toInt64) (Ps := [(nI 0) = 0 ∧ oW z = true]) (by decide +kernel) rfl rfl ⟨⟨by decide, hw⟩, trivial⟩ ?_
  refine G.mem (M' := mout N v.toInt64) (by first | rfl | (simp only [mput, mrow_same, mrow_hit, mrow_miss, mrow_sw, idr_eq, ne_eq, Nat.reduceEqDiff, not_false_eq_true, Nat.reduceLT, reduceCtorEq]; done)) ?_
  exact G.reti (by decide +kernel) rfl rfl (Nat.le_of_ble_eq_true rfl) (Nat.le_of_ble_eq_true rfl) rfl
theorem h_greatest_i (z : Zp) (hw : oW z = true) (d : Nat) (M N : Mem) (p0 : Int32) (hM : GM z mX11_greatest d [.ref 0, .int p0] M (fun rs => rs = .inr ("java/lang/IllegalArgumentException", N))) : GH z mL_greatest (d + 1) [.ref 0, .int p0, .ref 80] M (fun rs => rs = .inl (some (.int (nI 1)), N)) := by
  refine GH.of oL_greatest (Nat.le_of_ble_eq_true rfl) ?_
  show G z mL_greatest (d + 1) 0 0 0 [some (.ref 0), some (.int p0), some (.ref 80), none] [] M _
  refine G.sl [(.aload_n 2, 1, 2, 0, 0, 0), (.iconst 0, 1, 0, 0, 0, nI 0), (.aload_n 0, 1, 0, 0, 0, 0), (.iload_n 1, 1, 1, 0, 0, 0)] [] (pc2 := 4) (ls2 := [some (.ref 0), some (.int p0), some (.ref 80), none]) (st2 := [.int p0, .ref 0, .int (nI 0), .ref 80]) (M2 := M) (Ps := []) (by decide +kernel) rfl rfl trivial ?_
  refine G.callC (as := [.int p0]) (rest := [.int (nI 0), .ref 80]) (a := 0) rfl oX11_greatest lk_EvenFindersLaw_91 (by decide +kernel) rfl rfl ⟨rfl, rfl⟩ (Nat.le_of_ble_eq_true rfl) ⟨Nat.le_of_ble_eq_true rfl, Nat.le_of_ble_eq_true rfl⟩ hM (fun v9 N9 h9 => by cases h9) (fun E9 N9 h9 => ?_)
  cases h9
  refine ⟨12, 3, 1, Or.inl ⟨rfl, _, _, rfl, by decide, by decide⟩, Or.inl ⟨3, by decide +kernel, rfl, rfl⟩, by decide, rfl, rfl, ?_⟩
  show G z mL_greatest (d + 1) 1 6 13 [some (.ref 0), some (.int p0), some (.ref 80), none] [] N _
  refine G.sl [(.iconst 1, 1, 0, 0, 0, nI 1)] [] (pc2 := 14) (ls2 := [some (.ref 0), some (.int p0), some (.ref 80), none]) (st2 := [.int (nI 1)]) (M2 := N) (Ps := []) (by decide +kernel) rfl rfl trivial ?_
  exact G.reti (by decide +kernel) rfl rfl (Nat.le_of_ble_eq_true rfl) (Nat.le_of_ble_eq_true rfl) rfl
theorem h_deepest_r (z : Zp) (hw : oW z = true) (d : Nat) (M N : Mem) (p0 : Int32) (v : Int32) (hM : GM z mX11_deepest d [.ref 0, .int p0] M (fun rs => rs = .inl (some (.int v), N))) : GH z mL_deepest (d + 1) [.ref 0, .int p0, .ref 80] M (fun rs => rs = .inl (some (.int (nI 0)), mout N v.toInt64)) := by
  refine GH.of oL_deepest (Nat.le_of_ble_eq_true rfl) ?_
  show G z mL_deepest (d + 1) 0 0 0 [some (.ref 0), some (.int p0), some (.ref 80), none] [] M _
  refine G.sl [(.aload_n 2, 1, 2, 0, 0, 0), (.iconst 0, 1, 0, 0, 0, nI 0), (.aload_n 0, 1, 0, 0, 0, 0), (.iload_n 1, 1, 1, 0, 0, 0)] [] (pc2 := 4) (ls2 := [some (.ref 0), some (.int p0), some (.ref 80), none]) (st2 := [.int p0, .ref 0, .int (nI 0), .ref 80]) (M2 := M) (Ps := []) (by decide +kernel) rfl rfl trivial ?_
  refine G.callC (as := [.int p0]) (rest := [.int (nI 0), .ref 80]) (a := 0) rfl oX11_deepest lk_EvenFindersLaw_94 (by decide +kernel) rfl rfl ⟨rfl, rfl⟩ (Nat.le_of_ble_eq_true rfl) ⟨Nat.le_of_ble_eq_true rfl, Nat.le_of_ble_eq_true rfl⟩ hM (fun v9 N9 h9 => ?_) (fun E9 N9 h9 => by cases h9)
  cases h9
  show G z mL_deepest (d + 1) 1 6 7 [some (.ref 0), some (.int p0), some (.ref 80), none] [.int v, .int (nI 0), .ref 80] N _
  refine G.sl [(.i2l, 1, 0, 0, 0, 0), (.lastore, 1, 0, 0, 0, 0), (.goto 6, 3, 15, 0, 0, 0), (.iconst 0, 1, 0, 0, 0, nI 0)] [] (pc2 := 16) (ls2 := [some (.ref 0), some (.int p0), some (.ref 80), none]) (st2 := [.int (nI 0)]) (M2 := mout N v.toInt64) (Ps := [(nI 0) = 0 ∧ oW z = true]) (by decide +kernel) rfl rfl ⟨⟨by decide, hw⟩, trivial⟩ ?_
  refine G.mem (M' := mout N v.toInt64) (by first | rfl | (simp only [mput, mrow_same, mrow_hit, mrow_miss, mrow_sw, idr_eq, ne_eq, Nat.reduceEqDiff, not_false_eq_true, Nat.reduceLT, reduceCtorEq]; done)) ?_
  exact G.reti (by decide +kernel) rfl rfl (Nat.le_of_ble_eq_true rfl) (Nat.le_of_ble_eq_true rfl) rfl
theorem h_deepest_i (z : Zp) (hw : oW z = true) (d : Nat) (M N : Mem) (p0 : Int32) (hM : GM z mX11_deepest d [.ref 0, .int p0] M (fun rs => rs = .inr ("java/lang/IllegalArgumentException", N))) : GH z mL_deepest (d + 1) [.ref 0, .int p0, .ref 80] M (fun rs => rs = .inl (some (.int (nI 1)), N)) := by
  refine GH.of oL_deepest (Nat.le_of_ble_eq_true rfl) ?_
  show G z mL_deepest (d + 1) 0 0 0 [some (.ref 0), some (.int p0), some (.ref 80), none] [] M _
  refine G.sl [(.aload_n 2, 1, 2, 0, 0, 0), (.iconst 0, 1, 0, 0, 0, nI 0), (.aload_n 0, 1, 0, 0, 0, 0), (.iload_n 1, 1, 1, 0, 0, 0)] [] (pc2 := 4) (ls2 := [some (.ref 0), some (.int p0), some (.ref 80), none]) (st2 := [.int p0, .ref 0, .int (nI 0), .ref 80]) (M2 := M) (Ps := []) (by decide +kernel) rfl rfl trivial ?_
  refine G.callC (as := [.int p0]) (rest := [.int (nI 0), .ref 80]) (a := 0) rfl oX11_deepest lk_EvenFindersLaw_94 (by decide +kernel) rfl rfl ⟨rfl, rfl⟩ (Nat.le_of_ble_eq_true rfl) ⟨Nat.le_of_ble_eq_true rfl, Nat.le_of_ble_eq_true rfl⟩ hM (fun v9 N9 h9 => by cases h9) (fun E9 N9 h9 => ?_)
  cases h9
  refine ⟨12, 3, 1, Or.inl ⟨rfl, _, _, rfl, by decide, by decide⟩, Or.inl ⟨3, by decide +kernel, rfl, rfl⟩, by decide, rfl, rfl, ?_⟩
  show G z mL_deepest (d + 1) 1 6 13 [some (.ref 0), some (.int p0), some (.ref 80), none] [] N _
  refine G.sl [(.iconst 1, 1, 0, 0, 0, nI 1)] [] (pc2 := 14) (ls2 := [some (.ref 0), some (.int p0), some (.ref 80), none]) (st2 := [.int (nI 1)]) (M2 := N) (Ps := []) (by decide +kernel) rfl rfl trivial ?_
  exact G.reti (by decide +kernel) rfl rfl (Nat.le_of_ble_eq_true rfl) (Nat.le_of_ble_eq_true rfl) rfl
theorem h_sound_r (z : Zp) (hw : oW z = true) (d : Nat) (M N : Mem) (p0 : Int32) (v : Int32) (hM : GM z mX11_sound d [.ref 0, .int p0] M (fun rs => rs = .inl (some (.int v), N))) : GH z mL_sound (d + 1) [.ref 0, .int p0, .ref 80] M (fun rs => rs = .inl (some (.int (nI 0)), mout N v.toInt64)) := by
  refine GH.of oL_sound (Nat.le_of_ble_eq_true rfl) ?_
  show G z mL_sound (d + 1) 0 0 0 [some (.ref 0), some (.int p0), some (.ref 80), none] [] M _
  refine G.sl [(.aload_n 2, 1, 2, 0, 0, 0), (.iconst 0, 1, 0, 0, 0, nI 0), (.aload_n 0, 1, 0, 0, 0, 0), (.iload_n 1, 1, 1, 0, 0, 0)] [] (pc2 := 4) (ls2 := [some (.ref 0), some (.int p0), some (.ref 80), none]) (st2 := [.int p0, .ref 0, .int (nI 0), .ref 80]) (M2 := M) (Ps := []) (by decide +kernel) rfl rfl trivial ?_
  refine G.callC (as := [.int p0]) (rest := [.int (nI 0), .ref 80]) (a := 0) rfl oX11_sound lk_EvenFindersLaw_97 (by decide +kernel) rfl rfl ⟨rfl, rfl⟩ (Nat.le_of_ble_eq_true rfl) ⟨Nat.le_of_ble_eq_true rfl, Nat.le_of_ble_eq_true rfl⟩ hM (fun v9 N9 h9 => ?_) (fun E9 N9 h9 => by cases h9)
  cases h9
  show G z mL_sound (d + 1) 1 6 7 [some (.ref 0), some (.int p0), some (.ref 80), none] [.int v, .int (nI 0), .ref 80] N _
  refine G.sl [(.i2l, 1, 0, 0, 0, 0), (.lastore, 1, 0, 0, 0, 0), (.goto 6, 3, 15, 0, 0, 0), (.iconst 0, 1, 0, 0, 0, nI 0)] [] (pc2 := 16) (ls2 := [some (.ref 0), some (.int p0), some (.ref 80), none]) (st2 := [.int (nI 0)]) (M2 := mout N v.toInt64) (Ps := [(nI 0) = 0 ∧ oW z = true]) (by decide +kernel) rfl rfl ⟨⟨by decide, hw⟩, trivial⟩ ?_
  refine G.mem (M' := mout N v.toInt64) (by first | rfl | (simp only [mput, mrow_same, mrow_hit, mrow_miss, mrow_sw, idr_eq, ne_eq, Nat.reduceEqDiff, not_false_eq_true, Nat.reduceLT, reduceCtorEq]; done)) ?_
  exact G.reti (by decide +kernel) rfl rfl (Nat.le_of_ble_eq_true rfl) (Nat.le_of_ble_eq_true rfl) rfl
theorem h_sound_i (z : Zp) (hw : oW z = true) (d : Nat) (M N : Mem) (p0 : Int32) (hM : GM z mX11_sound d [.ref 0, .int p0] M (fun rs => rs = .inr ("java/lang/IllegalArgumentException", N))) : GH z mL_sound (d + 1) [.ref 0, .int p0, .ref 80] M (fun rs => rs = .inl (some (.int (nI 1)), N)) := by
  refine GH.of oL_sound (Nat.le_of_ble_eq_true rfl) ?_
  show G z mL_sound (d + 1) 0 0 0 [some (.ref 0), some (.int p0), some (.ref 80), none] [] M _
  refine G.sl [(.aload_n 2, 1, 2, 0, 0, 0), (.iconst 0, 1, 0, 0, 0, nI 0), (.aload_n 0, 1, 0, 0, 0, 0), (.iload_n 1, 1, 1, 0, 0, 0)] [] (pc2 := 4) (ls2 := [some (.ref 0), some (.int p0), some (.ref 80), none]) (st2 := [.int p0, .ref 0, .int (nI 0), .ref 80]) (M2 := M) (Ps := []) (by decide +kernel) rfl rfl trivial ?_
  refine G.callC (as := [.int p0]) (rest := [.int (nI 0), .ref 80]) (a := 0) rfl oX11_sound lk_EvenFindersLaw_97 (by decide +kernel) rfl rfl ⟨rfl, rfl⟩ (Nat.le_of_ble_eq_true rfl) ⟨Nat.le_of_ble_eq_true rfl, Nat.le_of_ble_eq_true rfl⟩ hM (fun v9 N9 h9 => by cases h9) (fun E9 N9 h9 => ?_)
  cases h9
  refine ⟨12, 3, 1, Or.inl ⟨rfl, _, _, rfl, by decide, by decide⟩, Or.inl ⟨3, by decide +kernel, rfl, rfl⟩, by decide, rfl, rfl, ?_⟩
  show G z mL_sound (d + 1) 1 6 13 [some (.ref 0), some (.int p0), some (.ref 80), none] [] N _
  refine G.sl [(.iconst 1, 1, 0, 0, 0, nI 1)] [] (pc2 := 14) (ls2 := [some (.ref 0), some (.int p0), some (.ref 80), none]) (st2 := [.int (nI 1)]) (M2 := N) (Ps := []) (by decide +kernel) rfl rfl trivial ?_
  exact G.reti (by decide +kernel) rfl rfl (Nat.le_of_ble_eq_true rfl) (Nat.le_of_ble_eq_true rfl) rfl
theorem h_way_r (z : Zp) (hw : oW z = true) (d : Nat) (M N : Mem) (p0 p1 : Int32) (v : Int32) (hM : GM z mX11_way d [.ref 0, .int p0, .int p1] M (fun rs => rs = .inl (some (.int v), N))) : GH z mL_way (d + 1) [.ref 0, .int p0, .int p1, .ref 80] M (fun rs => rs = .inl (some (.int (nI 0)), mout N v.toInt64)) := by
  refine GH.of oL_way (Nat.le_of_ble_eq_true rfl) ?_
  show G z mL_way (d + 1) 0 0 0 [some (.ref 0), some (.int p0), some (.int p1), some (.ref 80), none] [] M _
  refine G.sl [(.aload_n 3, 1, 3, 0, 0, 0), (.iconst 0, 1, 0, 0, 0, nI 0), (.aload_n 0, 1, 0, 0, 0, 0), (.iload_n 1, 1, 1, 0, 0, 0), (.iload_n 2, 1, 2, 0, 0, 0)] [] (pc2 := 5) (ls2 := [some (.ref 0), some (.int p0), some (.int p1), some (.ref 80), none]) (st2 := [.int p1, .int p0, .ref 0, .int (nI 0), .ref 80]) (M2 := M) (Ps := []) (by decide +kernel) rfl rfl trivial ?_
  refine G.callC (as := [.int p0, .int p1]) (rest := [.int (nI 0), .ref 80]) (a := 0) rfl oX11_way lk_EvenFindersLaw_100 (by decide +kernel) rfl rfl ⟨rfl, rfl⟩ (Nat.le_of_ble_eq_true rfl) ⟨Nat.le_of_ble_eq_true rfl, Nat.le_of_ble_eq_true rfl⟩ hM (fun v9 N9 h9 => ?_) (fun E9 N9 h9 => by cases h9)
  cases h9
  show G z mL_way (d + 1) 2 12 8 [some (.ref 0), some (.int p0), some (.int p1), some (.ref 80), none] [.int v, .int (nI 0), .ref 80] N _
  refine G.sl [(.i2l, 1, 0, 0, 0, 0), (.lastore, 1, 0, 0, 0, 0), (.goto 7, 3, 17, 0, 0, 0), (.iconst 0, 1, 0, 0, 0, nI 0)] [] (pc2 := 18) (ls2 := [some (.ref 0), some (.int p0), some (.int p1), some (.ref 80), none]) (st2 := [.int (nI 0)]) (M2 := mout N v.toInt64) (Ps := [(nI 0) = 0 ∧ oW z = true]) (by decide +kernel) rfl rfl ⟨⟨by decide, hw⟩, trivial⟩ ?_
  refine G.mem (M' := mout N v.toInt64) (by first | rfl | (simp only [mput, mrow_same, mrow_hit, mrow_miss, mrow_sw, idr_eq, ne_eq, Nat.reduceEqDiff, not_false_eq_true, Nat.reduceLT, reduceCtorEq]; done)) ?_
  exact G.reti (by decide +kernel) rfl rfl (Nat.le_of_ble_eq_true rfl) (Nat.le_of_ble_eq_true rfl) rfl
theorem h_way_n (z : Zp) (hw : oW z = true) (d : Nat) (M N : Mem) (p0 p1 : Int32) (hM : GM z mX11_way d [.ref 0, .int p0, .int p1] M (fun rs => rs = .inr ("java/util/NoSuchElementException", N))) : GH z mL_way (d + 1) [.ref 0, .int p0, .int p1, .ref 80] M (fun rs => rs = .inl (some (.int (nI 1)), N)) := by
  refine GH.of oL_way (Nat.le_of_ble_eq_true rfl) ?_
  show G z mL_way (d + 1) 0 0 0 [some (.ref 0), some (.int p0), some (.int p1), some (.ref 80), none] [] M _
  refine G.sl [(.aload_n 3, 1, 3, 0, 0, 0), (.iconst 0, 1, 0, 0, 0, nI 0), (.aload_n 0, 1, 0, 0, 0, 0), (.iload_n 1, 1, 1, 0, 0, 0), (.iload_n 2, 1, 2, 0, 0, 0)] [] (pc2 := 5) (ls2 := [some (.ref 0), some (.int p0), some (.int p1), some (.ref 80), none]) (st2 := [.int p1, .int p0, .ref 0, .int (nI 0), .ref 80]) (M2 := M) (Ps := []) (by decide +kernel) rfl rfl trivial ?_
  refine G.callC (as := [.int p0, .int p1]) (rest := [.int (nI 0), .ref 80]) (a := 0) rfl oX11_way lk_EvenFindersLaw_100 (by decide +kernel) rfl rfl ⟨rfl, rfl⟩ (Nat.le_of_ble_eq_true rfl) ⟨Nat.le_of_ble_eq_true rfl, Nat.le_of_ble_eq_true rfl⟩ hM (fun v9 N9 h9 => by cases h9) (fun E9 N9 h9 => ?_)
  cases h9
  refine ⟨13, 4, 2, Or.inr (Or.inl ⟨rfl, _, _, _, rfl, by decide, by decide⟩), Or.inr ⟨by decide +kernel, rfl⟩, by decide, rfl, rfl, ?_⟩
  show G z mL_way (d + 1) 2 12 15 [some (.ref 0), some (.int p0), some (.int p1), some (.ref 80), none] [] N _
  refine G.sl [(.iconst 1, 1, 0, 0, 0, nI 1)] [] (pc2 := 16) (ls2 := [some (.ref 0), some (.int p0), some (.int p1), some (.ref 80), none]) (st2 := [.int (nI 1)]) (M2 := N) (Ps := []) (by decide +kernel) rfl rfl trivial ?_
  exact G.reti (by decide +kernel) rfl rfl (Nat.le_of_ble_eq_true rfl) (Nat.le_of_ble_eq_true rfl) rfl
theorem h_burden_r (z : Zp) (hw : oW z = true) (d : Nat) (M N : Mem) (p0 : Int32) (v : Int32) (hM : GM z mX11_burden d [.ref 0, .int p0] M (fun rs => rs = .inl (some (.int v), N))) : GH z mL_burden (d + 1) [.ref 0, .int p0, .ref 80] M (fun rs => rs = .inl (some (.int (nI 0)), mout N v.toInt64)) := by
  refine GH.of oL_burden (Nat.le_of_ble_eq_true rfl) ?_
  show G z mL_burden (d + 1) 0 0 0 [some (.ref 0), some (.int p0), some (.ref 80), none] [] M _
  refine G.sl [(.aload_n 2, 1, 2, 0, 0, 0), (.iconst 0, 1, 0, 0, 0, nI 0), (.aload_n 0, 1, 0, 0, 0, 0), (.iload_n 1, 1, 1, 0, 0, 0)] [] (pc2 := 4) (ls2 := [some (.ref 0), some (.int p0), some (.ref 80), none]) (st2 := [.int p0, .ref 0, .int (nI 0), .ref 80]) (M2 := M) (Ps := []) (by decide +kernel) rfl rfl trivial ?_
  refine G.callC (as := [.int p0]) (rest := [.int (nI 0), .ref 80]) (a := 0) rfl oX11_burden lk_EvenFindersLaw_103 (by decide +kernel) rfl rfl ⟨rfl, rfl⟩ (Nat.le_of_ble_eq_true rfl) ⟨Nat.le_of_ble_eq_true rfl, Nat.le_of_ble_eq_true rfl⟩ hM (fun v9 N9 h9 => ?_) (fun E9 N9 h9 => by cases h9)
  cases h9
  show G z mL_burden (d + 1) 1 6 7 [some (.ref 0), some (.int p0), some (.ref 80), none] [.int v, .int (nI 0), .ref 80] N _
  refine G.sl [(.i2l, 1, 0, 0, 0, 0), (.lastore, 1, 0, 0, 0, 0), (.goto 6, 3, 15, 0, 0, 0), (.iconst 0, 1, 0, 0, 0, nI 0)] [] (pc2 := 16) (ls2 := [some (.ref 0), some (.int p0), some (.ref 80), none]) (st2 := [.int (nI 0)]) (M2 := mout N v.toInt64) (Ps := [(nI 0) = 0 ∧ oW z = true]) (by decide +kernel) rfl rfl ⟨⟨by decide, hw⟩, trivial⟩ ?_
  refine G.mem (M' := mout N v.toInt64) (by first | rfl | (simp only [mput, mrow_same, mrow_hit, mrow_miss, mrow_sw, idr_eq, ne_eq, Nat.reduceEqDiff, not_false_eq_true, Nat.reduceLT, reduceCtorEq]; done)) ?_
  exact G.reti (by decide +kernel) rfl rfl (Nat.le_of_ble_eq_true rfl) (Nat.le_of_ble_eq_true rfl) rfl
theorem h_burden_i (z : Zp) (hw : oW z = true) (d : Nat) (M N : Mem) (p0 : Int32) (hM : GM z mX11_burden d [.ref 0, .int p0] M (fun rs => rs = .inr ("java/lang/IllegalArgumentException", N))) : GH z mL_burden (d + 1) [.ref 0, .int p0, .ref 80] M (fun rs => rs = .inl (some (.int (nI 1)), N)) := by
  refine GH.of oL_burden (Nat.le_of_ble_eq_true rfl) ?_
  show G z mL_burden (d + 1) 0 0 0 [some (.ref 0), some (.int p0), some (.ref 80), none] [] M _
  refine G.sl [(.aload_n 2, 1, 2, 0, 0, 0), (.iconst 0, 1, 0, 0, 0, nI 0), (.aload_n 0, 1, 0, 0, 0, 0), (.iload_n 1, 1, 1, 0, 0, 0)] [] (pc2 := 4) (ls2 := [some (.ref 0), some (.int p0), some (.ref 80), none]) (st2 := [.int p0, .ref 0, .int (nI 0), .ref 80]) (M2 := M) (Ps := []) (by decide +kernel) rfl rfl trivial ?_
  refine G.callC (as := [.int p0]) (rest := [.int (nI 0), .ref 80]) (a := 0) rfl oX11_burden lk_EvenFindersLaw_103 (by decide +kernel) rfl rfl ⟨rfl, rfl⟩ (Nat.le_of_ble_eq_true rfl) ⟨Nat.le_of_ble_eq_true rfl, Nat.le_of_ble_eq_true rfl⟩ hM (fun v9 N9 h9 => by cases h9) (fun E9 N9 h9 => ?_)
  cases h9
  refine ⟨12, 3, 1, Or.inl ⟨rfl, _, _, rfl, by decide, by decide⟩, Or.inl ⟨3, by decide +kernel, rfl, rfl⟩, by decide, rfl, rfl, ?_⟩
  show G z mL_burden (d + 1) 1 6 13 [some (.ref 0), some (.int p0), some (.ref 80), none] [] N _
  refine G.sl [(.iconst 1, 1, 0, 0, 0, nI 1)] [] (pc2 := 14) (ls2 := [some (.ref 0), some (.int p0), some (.ref 80), none]) (st2 := [.int (nI 1)]) (M2 := N) (Ps := []) (by decide +kernel) rfl rfl trivial ?_
  exact G.reti (by decide +kernel) rfl rfl (Nat.le_of_ble_eq_true rfl) (Nat.le_of_ble_eq_true rfl) rfl
theorem h_near_r (z : Zp) (hw : oW z = true) (d : Nat) (M N : Mem) (p0 p1 : Int32) (v : Int32) (hM : GM z mX11_near d [.ref 0, .int p0, .int p1] M (fun rs => rs = .inl (some (.int v), N))) : GH z mL_near (d + 1) [.ref 0, .int p0, .int p1, .ref 80] M (fun rs => rs = .inl (some (.int (nI 0)), mout N v.toInt64)) := by
  refine GH.of oL_near (Nat.le_of_ble_eq_true rfl) ?_
  show G z mL_near (d + 1) 0 0 0 [some (.ref 0), some (.int p0), some (.int p1), some (.ref 80), none] [] M _
  refine G.sl [(.aload_n 3, 1, 3, 0, 0, 0), (.iconst 0, 1, 0, 0, 0, nI 0), (.aload_n 0, 1, 0, 0, 0, 0), (.iload_n 1, 1, 1, 0, 0, 0), (.iload_n 2, 1, 2, 0, 0, 0)] [] (pc2 := 5) (ls2 := [some (.ref 0), some (.int p0), some (.int p1), some (.ref 80), none]) (st2 := [.int p1, .int p0, .ref 0, .int (nI 0), .ref 80]) (M2 := M) (Ps := []) (by decide +kernel) rfl rfl trivial ?_
  refine G.callC (as := [.int p0, .int p1]) (rest := [.int (nI 0), .ref 80]) (a := 0) rfl oX11_near lk_EvenFindersLaw_106 (by decide +kernel) rfl rfl ⟨rfl, rfl⟩ (Nat.le_of_ble_eq_true rfl) ⟨Nat.le_of_ble_eq_true rfl, Nat.le_of_ble_eq_true rfl⟩ hM (fun v9 N9 h9 => ?_) (fun E9 N9 h9 => by cases h9)
  cases h9
  show G z mL_near (d + 1) 2 12 8 [some (.ref 0), some (.int p0), some (.int p1), some (.ref 80), none] [.int v, .int (nI 0), .ref 80] N _
  refine G.sl [(.i2l, 1, 0, 0, 0, 0), (.lastore, 1, 0, 0, 0, 0), (.goto 11, 3, 21, 0, 0, 0), (.iconst 0, 1, 0, 0, 0, nI 0)] [] (pc2 := 22) (ls2 := [some (.ref 0), some (.int p0), some (.int p1), some (.ref 80), none]) (st2 := [.int (nI 0)]) (M2 := mout N v.toInt64) (Ps := [(nI 0) = 0 ∧ oW z = true]) (by decide +kernel) rfl rfl ⟨⟨by decide, hw⟩, trivial⟩ ?_
  refine G.mem (M' := mout N v.toInt64) (by first | rfl | (simp only [mput, mrow_same, mrow_hit, mrow_miss, mrow_sw, idr_eq, ne_eq, Nat.reduceEqDiff, not_false_eq_true, Nat.reduceLT, reduceCtorEq]; done)) ?_
  exact G.reti (by decide +kernel) rfl rfl (Nat.le_of_ble_eq_true rfl) (Nat.le_of_ble_eq_true rfl) rfl
theorem h_near_n (z : Zp) (hw : oW z = true) (d : Nat) (M N : Mem) (p0 p1 : Int32) (hM : GM z mX11_near d [.ref 0, .int p0, .int p1] M (fun rs => rs = .inr ("java/util/NoSuchElementException", N))) : GH z mL_near (d + 1) [.ref 0, .int p0, .int p1, .ref 80] M (fun rs => rs = .inl (some (.int (nI 1)), N)) := by
  refine GH.of oL_near (Nat.le_of_ble_eq_true rfl) ?_
  show G z mL_near (d + 1) 0 0 0 [some (.ref 0), some (.int p0), some (.int p1), some (.ref 80), none] [] M _
  refine G.sl [(.aload_n 3, 1, 3, 0, 0, 0), (.iconst 0, 1, 0, 0, 0, nI 0), (.aload_n 0, 1, 0, 0, 0, 0), (.iload_n 1, 1, 1, 0, 0, 0), (.iload_n 2, 1, 2, 0, 0, 0)] [] (pc2 := 5) (ls2 := [some (.ref 0), some (.int p0), some (.int p1), some (.ref 80), none]) (st2 := [.int p1, .int p0, .ref 0, .int (nI 0), .ref 80]) (M2 := M) (Ps := []) (by decide +kernel) rfl rfl trivial ?_
  refine G.callC (as := [.int p0, .int p1]) (rest := [.int (nI 0), .ref 80]) (a := 0) rfl oX11_near lk_EvenFindersLaw_106 (by decide +kernel) rfl rfl ⟨rfl, rfl⟩ (Nat.le_of_ble_eq_true rfl) ⟨Nat.le_of_ble_eq_true rfl, Nat.le_of_ble_eq_true rfl⟩ hM (fun v9 N9 h9 => by cases h9) (fun E9 N9 h9 => ?_)
  cases h9
  refine ⟨13, 4, 2, Or.inr (Or.inl ⟨rfl, _, _, _, rfl, by decide, by decide⟩), Or.inr ⟨by decide +kernel, rfl⟩, by decide, rfl, rfl, ?_⟩
  show G z mL_near (d + 1) 2 12 15 [some (.ref 0), some (.int p0), some (.int p1), some (.ref 80), none] [] N _
  refine G.sl [(.iconst 1, 1, 0, 0, 0, nI 1)] [] (pc2 := 16) (ls2 := [some (.ref 0), some (.int p0), some (.int p1), some (.ref 80), none]) (st2 := [.int (nI 1)]) (M2 := N) (Ps := []) (by decide +kernel) rfl rfl trivial ?_
  exact G.reti (by decide +kernel) rfl rfl (Nat.le_of_ble_eq_true rfl) (Nat.le_of_ble_eq_true rfl) rfl
theorem h_near_i (z : Zp) (hw : oW z = true) (d : Nat) (M N : Mem) (p0 p1 : Int32) (hM : GM z mX11_near d [.ref 0, .int p0, .int p1] M (fun rs => rs = .inr ("java/lang/IllegalArgumentException", N))) : GH z mL_near (d + 1) [.ref 0, .int p0, .int p1, .ref 80] M (fun rs => rs = .inl (some (.int (nI 2)), N)) := by
  refine GH.of oL_near (Nat.le_of_ble_eq_true rfl) ?_
  show G z mL_near (d + 1) 0 0 0 [some (.ref 0), some (.int p0), some (.int p1), some (.ref 80), none] [] M _
  refine G.sl [(.aload_n 3, 1, 3, 0, 0, 0), (.iconst 0, 1, 0, 0, 0, nI 0), (.aload_n 0, 1, 0, 0, 0, 0), (.iload_n 1, 1, 1, 0, 0, 0), (.iload_n 2, 1, 2, 0, 0, 0)] [] (pc2 := 5) (ls2 := [some (.ref 0), some (.int p0), some (.int p1), some (.ref 80), none]) (st2 := [.int p1, .int p0, .ref 0, .int (nI 0), .ref 80]) (M2 := M) (Ps := []) (by decide +kernel) rfl rfl trivial ?_
  refine G.callC (as := [.int p0, .int p1]) (rest := [.int (nI 0), .ref 80]) (a := 0) rfl oX11_near lk_EvenFindersLaw_106 (by decide +kernel) rfl rfl ⟨rfl, rfl⟩ (Nat.le_of_ble_eq_true rfl) ⟨Nat.le_of_ble_eq_true rfl, Nat.le_of_ble_eq_true rfl⟩ hM (fun v9 N9 h9 => by cases h9) (fun E9 N9 h9 => ?_)
  cases h9
  refine ⟨17, 4, 2, Or.inr (Or.inr ⟨rfl, _, _, _, _, _, rfl, by decide, by decide, by decide, by decide⟩), Or.inr ⟨by decide +kernel, rfl⟩, by decide, rfl, rfl, ?_⟩
  show G z mL_near (d + 1) 2 12 19 [some (.ref 0), some (.int p0), some (.int p1), some (.ref 80), none] [] N _
  refine G.sl [(.iconst 2, 1, 0, 0, 0, nI 2)] [] (pc2 := 20) (ls2 := [some (.ref 0), some (.int p0), some (.int p1), some (.ref 80), none]) (st2 := [.int (nI 2)]) (M2 := N) (Ps := []) (by decide +kernel) rfl rfl trivial ?_
  exact G.reti (by decide +kernel) rfl rfl (Nat.le_of_ble_eq_true rfl) (Nat.le_of_ble_eq_true rfl) rfl
theorem h_enough_r (z : Zp) (hw : oW z = true) (d : Nat) (M N : Mem) (p0 : Int32) (v : Int32) (hM : GM z mX11_enough d [.ref 0, .int p0] M (fun rs => rs = .inl (some (.int v), N))) : GH z mL_enough (d + 1) [.ref 0, .int p0, .ref 80] M (fun rs => rs = .inl (some (.int (nI 0)), mout N v.toInt64)) := by
  refine GH.of oL_enough (Nat.le_of_ble_eq_true rfl) ?_
  show G z mL_enough (d + 1) 0 0 0 [some (.ref 0), some (.int p0), some (.ref 80), none] [] M _
  refine G.sl [(.aload_n 2, 1, 2, 0, 0, 0), (.iconst 0, 1, 0, 0, 0, nI 0), (.aload_n 0, 1, 0, 0, 0, 0), (.iload_n 1, 1, 1, 0, 0, 0)] [] (pc2 := 4) (ls2 := [some (.ref 0), some (.int p0), some (.ref 80), none]) (st2 := [.int p0, .ref 0, .int (nI 0), .ref 80]) (M2 := M) (Ps := []) (by decide +kernel) rfl rfl trivial ?_
  refine G.callC (as := [.int p0]) (rest := [.int (nI 0), .ref 80]) (a := 0) rfl oX11_enough lk_EvenFindersLaw_109 (by decide +kernel) rfl rfl ⟨rfl, rfl⟩ (Nat.le_of_ble_eq_true rfl) ⟨Nat.le_of_ble_eq_true rfl, Nat.le_of_ble_eq_true rfl⟩ hM (fun v9 N9 h9 => ?_) (fun E9 N9 h9 => by cases h9)
  cases h9
  show G z mL_enough (d + 1) 1 6 7 [some (.ref 0), some (.int p0), some (.ref 80), none] [.int v, .int (nI 0), .ref 80] N _
  refine G.sl [(.i2l, 1, 0, 0, 0, 0), (.lastore, 1, 0, 0, 0, 0), (.goto 6, 3, 15, 0, 0, 0), (.iconst 0, 1, 0, 0, 0, nI 0)] [] (pc2 := 16) (ls2 := [some (.ref 0), some (.int p0), some (.ref 80), none]) (st2 := [.int (nI 0)]) (M2 := mout N v.toInt64) (Ps := [(nI 0) = 0 ∧ oW z = true]) (by decide +kernel) rfl rfl ⟨⟨by decide, hw⟩, trivial⟩ ?_
  refine G.mem (M' := mout N v.toInt64) (by first | rfl | (simp only [mput, mrow_same, mrow_hit, mrow_miss, mrow_sw, idr_eq, ne_eq, Nat.reduceEqDiff, not_false_eq_true, Nat.reduceLT, reduceCtorEq]; done)) ?_
  exact G.reti (by decide +kernel) rfl rfl (Nat.le_of_ble_eq_true rfl) (Nat.le_of_ble_eq_true rfl) rfl
theorem h_enough_n (z : Zp) (hw : oW z = true) (d : Nat) (M N : Mem) (p0 : Int32) (hM : GM z mX11_enough d [.ref 0, .int p0] M (fun rs => rs = .inr ("java/util/NoSuchElementException", N))) : GH z mL_enough (d + 1) [.ref 0, .int p0, .ref 80] M (fun rs => rs = .inl (some (.int (nI 1)), N)) := by
  refine GH.of oL_enough (Nat.le_of_ble_eq_true rfl) ?_
  show G z mL_enough (d + 1) 0 0 0 [some (.ref 0), some (.int p0), some (.ref 80), none] [] M _
  refine G.sl [(.aload_n 2, 1, 2, 0, 0, 0), (.iconst 0, 1, 0, 0, 0, nI 0), (.aload_n 0, 1, 0, 0, 0, 0), (.iload_n 1, 1, 1, 0, 0, 0)] [] (pc2 := 4) (ls2 := [some (.ref 0), some (.int p0), some (.ref 80), none]) (st2 := [.int p0, .ref 0, .int (nI 0), .ref 80]) (M2 := M) (Ps := []) (by decide +kernel) rfl rfl trivial ?_
  refine G.callC (as := [.int p0]) (rest := [.int (nI 0), .ref 80]) (a := 0) rfl oX11_enough lk_EvenFindersLaw_109 (by decide +kernel) rfl rfl ⟨rfl, rfl⟩ (Nat.le_of_ble_eq_true rfl) ⟨Nat.le_of_ble_eq_true rfl, Nat.le_of_ble_eq_true rfl⟩ hM (fun v9 N9 h9 => by cases h9) (fun E9 N9 h9 => ?_)
  cases h9
  refine ⟨12, 3, 1, Or.inr (Or.inl ⟨rfl, _, _, _, rfl, by decide, by decide⟩), Or.inl ⟨3, by decide +kernel, rfl, rfl⟩, by decide, rfl, rfl, ?_⟩
  show G z mL_enough (d + 1) 1 6 13 [some (.ref 0), some (.int p0), some (.ref 80), none] [] N _
  refine G.sl [(.iconst 1, 1, 0, 0, 0, nI 1)] [] (pc2 := 14) (ls2 := [some (.ref 0), some (.int p0), some (.ref 80), none]) (st2 := [.int (nI 1)]) (M2 := N) (Ps := []) (by decide +kernel) rfl rfl trivial ?_
  exact G.reti (by decide +kernel) rfl rfl (Nat.le_of_ble_eq_true rfl) (Nat.le_of_ble_eq_true rfl) rfl
theorem h_year_r (z : Zp) (hw : oW z = true) (d : Nat) (M N : Mem) (p0 p1 p2 p3 : Int32) (v : Int32) (hM : GM z mX11_year d [.ref 0, .int p0, .int p1, .int p2, .int p3] M (fun rs => rs = .inl (some (.int v), N))) : GH z mL_year (d + 1) [.ref 0, .int p0, .int p1, .int p2, .int p3, .ref 80] M (fun rs => rs = .inl (some (.int (nI 0)), mout N v.toInt64)) := by
  refine GH.of oL_year (Nat.le_of_ble_eq_true rfl) ?_
  show G z mL_year (d + 1) 0 0 0 [some (.ref 0), some (.int p0), some (.int p1), some (.int p2), some (.int p3), some (.ref 80), none] [] M _
  refine G.sl [(.aload 5, 2, 5, 0, 0, 0), (.iconst 0, 1, 0, 0, 0, nI 0), (.aload_n 0, 1, 0, 0, 0, 0), (.iload_n 1, 1, 1, 0, 0, 0), (.iload_n 2, 1, 2, 0, 0, 0), (.iload_n 3, 1, 3, 0, 0, 0), (.iload 4, 2, 4, 0, 0, 0)] [] (pc2 := 9) (ls2 := [some (.ref 0), some (.int p0), some (.int p1), some (.int p2), some (.int p3), some (.ref 80), none]) (st2 := [.int p3, .int p2, .int p1, .int p0, .ref 0, .int (nI 0), .ref 80]) (M2 := M) (Ps := []) (by decide +kernel) rfl rfl trivial ?_
  refine G.callC (as := [.int p0, .int p1, .int p2, .int p3]) (rest := [.int (nI 0), .ref 80]) (a := 0) rfl oX11_year lk_EvenFindersLaw_112 (by decide +kernel) rfl rfl ⟨rfl, rfl⟩ (Nat.le_of_ble_eq_true rfl) ⟨Nat.le_of_ble_eq_true rfl, Nat.le_of_ble_eq_true rfl⟩ hM (fun v9 N9 h9 => ?_) (fun E9 N9 h9 => by cases h9)
  cases h9
  show G z mL_year (d + 1) 3 18 12 [some (.ref 0), some (.int p0), some (.int p1), some (.int p2), some (.int p3), some (.ref 80), none] [.int v, .int (nI 0), .ref 80] N _
  refine G.sl [(.i2l, 1, 0, 0, 0, 0), (.lastore, 1, 0, 0, 0, 0), (.goto 7, 3, 21, 0, 0, 0), (.iconst 0, 1, 0, 0, 0, nI 0)] [] (pc2 := 22) (ls2 := [some (.ref 0), some (.int p0), some (.int p1), some (.int p2), some (.int p3), some (.ref 80), none]) (st2 := [.int (nI 0)]) (M2 := mout N v.toInt64) (Ps := [(nI 0) = 0 ∧ oW z = true]) (by decide +kernel) rfl rfl ⟨⟨by decide, hw⟩, trivial⟩ ?_
  refine G.mem (M' := mout N v.toInt64) (by first | rfl | (simp only [mput, mrow_same, mrow_hit, mrow_miss, mrow_sw, idr_eq, ne_eq, Nat.reduceEqDiff, not_false_eq_true, Nat.reduceLT, reduceCtorEq]; done)) ?_
  exact G.reti (by decide +kernel) rfl rfl (Nat.le_of_ble_eq_true rfl) (Nat.le_of_ble_eq_true rfl) rfl
theorem h_year_i (z : Zp) (hw : oW z = true) (d : Nat) (M N : Mem) (p0 p1 p2 p3 : Int32) (hM : GM z mX11_year d [.ref 0, .int p0, .int p1, .int p2, .int p3] M (fun rs => rs = .inr ("java/lang/IllegalArgumentException", N))) : GH z mL_year (d + 1) [.ref 0, .int p0, .int p1, .int p2, .int p3, .ref 80] M (fun rs => rs = .inl (some (.int (nI 1)), N)) := by
  refine GH.of oL_year (Nat.le_of_ble_eq_true rfl) ?_
  show G z mL_year (d + 1) 0 0 0 [some (.ref 0), some (.int p0), some (.int p1), some (.int p2), some (.int p3), some (.ref 80), none] [] M _
  refine G.sl [(.aload 5, 2, 5, 0, 0, 0), (.iconst 0, 1, 0, 0, 0, nI 0), (.aload_n 0, 1, 0, 0, 0, 0), (.iload_n 1, 1, 1, 0, 0, 0), (.iload_n 2, 1, 2, 0, 0, 0), (.iload_n 3, 1, 3, 0, 0, 0), (.iload 4, 2, 4, 0, 0, 0)] [] (pc2 := 9) (ls2 := [some (.ref 0), some (.int p0), some (.int p1), some (.int p2), some (.int p3), some (.ref 80), none]) (st2 := [.int p3, .int p2, .int p1, .int p0, .ref 0, .int (nI 0), .ref 80]) (M2 := M) (Ps := []) (by decide +kernel) rfl rfl trivial ?_
  refine G.callC (as := [.int p0, .int p1, .int p2, .int p3]) (rest := [.int (nI 0), .ref 80]) (a := 0) rfl oX11_year lk_EvenFindersLaw_112 (by decide +kernel) rfl rfl ⟨rfl, rfl⟩ (Nat.le_of_ble_eq_true rfl) ⟨Nat.le_of_ble_eq_true rfl, Nat.le_of_ble_eq_true rfl⟩ hM (fun v9 N9 h9 => by cases h9) (fun E9 N9 h9 => ?_)
  cases h9
  refine ⟨17, 6, 2, Or.inl ⟨rfl, _, _, rfl, by decide, by decide⟩, Or.inr ⟨by decide +kernel, rfl⟩, by decide, rfl, rfl, ?_⟩
  show G z mL_year (d + 1) 3 18 19 [some (.ref 0), some (.int p0), some (.int p1), some (.int p2), some (.int p3), some (.ref 80), none] [] N _
  refine G.sl [(.iconst 1, 1, 0, 0, 0, nI 1)] [] (pc2 := 20) (ls2 := [some (.ref 0), some (.int p0), some (.int p1), some (.int p2), some (.int p3), some (.ref 80), none]) (st2 := [.int (nI 1)]) (M2 := N) (Ps := []) (by decide +kernel) rfl rfl trivial ?_
  exact G.reti (by decide +kernel) rfl rfl (Nat.le_of_ble_eq_true rfl) (Nat.le_of_ble_eq_true rfl) rfl
theorem h_span_r (z : Zp) (hw : oW z = true) (d : Nat) (M N : Mem) (p0 p1 p2 p3 p4 p5 : Int32) (v : Int32) (hM : GM z mX11_span d [.ref 0, .int p0, .int p1, .int p2, .int p3, .int p4, .int p5] M (fun rs => rs = .inl (some (.int v), N))) : GH z mL_span (d + 1) [.ref 0, .int p0, .int p1, .int p2, .int p3, .int p4, .int p5, .ref 80] M (fun rs => rs = .inl (some (.int (nI 0)), mout N v.toInt64)) := by
  refine GH.of oL_span (Nat.le_of_ble_eq_true rfl) ?_
  show G z mL_span (d + 1) 0 0 0 [some (.ref 0), some (.int p0), some (.int p1), some (.int p2), some (.int p3), some (.int p4), some (.int p5), some (.ref 80), none] [] M _
  refine G.sl [(.aload 7, 2, 7, 0, 0, 0), (.iconst 0, 1, 0, 0, 0, nI 0), (.aload_n 0, 1, 0, 0, 0, 0), (.iload_n 1, 1, 1, 0, 0, 0), (.iload_n 2, 1, 2, 0, 0, 0), (.iload_n 3, 1, 3, 0, 0, 0), (.iload 4, 2, 4, 0, 0, 0), (.iload 5, 2, 5, 0, 0, 0), (.iload 6, 2, 6, 0, 0, 0)] [] (pc2 := 13) (ls2 := [some (.ref 0), some (.int p0), some (.int p1), some (.int p2), some (.int p3), some (.int p4), some (.int p5), some (.ref 80), none]) (st2 := [.int p5, .int p4, .int p3, .int p2, .int p1, .int p0, .ref 0, .int (nI 0), .ref 80]) (M2 := M) (Ps := []) (by decide +kernel) rfl rfl trivial ?_
  refine G.callC (as := [.int p0, .int p1, .int p2, .int p3, .int p4, .int p5]) (rest := [.int (nI 0), .ref 80]) (a := 0) rfl oX11_span lk_EvenFindersLaw_116 (by decide +kernel) rfl rfl ⟨rfl, rfl⟩ (Nat.le_of_ble_eq_true rfl) ⟨Nat.le_of_ble_eq_true rfl, Nat.le_of_ble_eq_true rfl⟩ hM (fun v9 N9 h9 => ?_) (fun E9 N9 h9 => by cases h9)
  cases h9
  show G z mL_span (d + 1) 5 30 16 [some (.ref 0), some (.int p0), some (.int p1), some (.int p2), some (.int p3), some (.int p4), some (.int p5), some (.ref 80), none] [.int v, .int (nI 0), .ref 80] N _
  refine G.sl [(.i2l, 1, 0, 0, 0, 0), (.lastore, 1, 0, 0, 0, 0), (.goto 7, 3, 25, 0, 0, 0), (.iconst 0, 1, 0, 0, 0, nI 0)] [] (pc2 := 26) (ls2 := [some (.ref 0), some (.int p0), some (.int p1), some (.int p2), some (.int p3), some (.int p4), some (.int p5), some (.ref 80), none]) (st2 := [.int (nI 0)]) (M2 := mout N v.toInt64) (Ps := [(nI 0) = 0 ∧ oW z = true]) (by decide +kernel) rfl rfl ⟨⟨by decide, hw⟩, trivial⟩ ?_
  refine G.mem (M' := mout N v.toInt64) (by first | rfl | (simp only [mput, mrow_same, mrow_hit, mrow_miss, mrow_sw, idr_eq, ne_eq, Nat.reduceEqDiff, not_false_eq_true, Nat.reduceLT, reduceCtorEq]; done)) ?_
  exact G.reti (by decide +kernel) rfl rfl (Nat.le_of_ble_eq_true rfl) (Nat.le_of_ble_eq_true rfl) rfl
theorem h_span_i (z : Zp) (hw : oW z = true) (d : Nat) (M N : Mem) (p0 p1 p2 p3 p4 p5 : Int32) (hM : GM z mX11_span d [.ref 0, .int p0, .int p1, .int p2, .int p3, .int p4, .int p5] M (fun rs => rs = .inr ("java/lang/IllegalArgumentException", N))) : GH z mL_span (d + 1) [.ref 0, .int p0, .int p1, .int p2, .int p3, .int p4, .int p5, .ref 80] M (fun rs => rs = .inl (some (.int (nI 1)), N)) := by
  refine GH.of oL_span (Nat.le_of_ble_eq_true rfl) ?_
  show G z mL_span (d + 1) 0 0 0 [some (.ref 0), some (.int p0), some (.int p1), some (.int p2), some (.int p3), some (.int p4), some (.int p5), some (.ref 80), none] [] M _
  refine G.sl [(.aload 7, 2, 7, 0, 0, 0), (.iconst 0, 1, 0, 0, 0, nI 0), (.aload_n 0, 1, 0, 0, 0, 0), (.iload_n 1, 1, 1, 0, 0, 0), (.iload_n 2, 1, 2, 0, 0, 0), (.iload_n 3, 1, 3, 0, 0, 0), (.iload 4, 2, 4, 0, 0, 0), (.iload 5, 2, 5, 0, 0, 0), (.iload 6, 2, 6, 0, 0, 0)] [] (pc2 := 13) (ls2 := [some (.ref 0), some (.int p0), some (.int p1), some (.int p2), some (.int p3), some (.int p4), some (.int p5), some (.ref 80), none]) (st2 := [.int p5, .int p4, .int p3, .int p2, .int p1, .int p0, .ref 0, .int (nI 0), .ref 80]) (M2 := M) (Ps := []) (by decide +kernel) rfl rfl trivial ?_
  refine G.callC (as := [.int p0, .int p1, .int p2, .int p3, .int p4, .int p5]) (rest := [.int (nI 0), .ref 80]) (a := 0) rfl oX11_span lk_EvenFindersLaw_116 (by decide +kernel) rfl rfl ⟨rfl, rfl⟩ (Nat.le_of_ble_eq_true rfl) ⟨Nat.le_of_ble_eq_true rfl, Nat.le_of_ble_eq_true rfl⟩ hM (fun v9 N9 h9 => by cases h9) (fun E9 N9 h9 => ?_)
  cases h9
  refine ⟨21, 8, 2, Or.inl ⟨rfl, _, _, rfl, by decide, by decide⟩, Or.inr ⟨by decide +kernel, rfl⟩, by decide, rfl, rfl, ?_⟩
  show G z mL_span (d + 1) 5 30 23 [some (.ref 0), some (.int p0), some (.int p1), some (.int p2), some (.int p3), some (.int p4), some (.int p5), some (.ref 80), none] [] N _
  refine G.sl [(.iconst 1, 1, 0, 0, 0, nI 1)] [] (pc2 := 24) (ls2 := [some (.ref 0), some (.int p0), some (.int p1), some (.int p2), some (.int p3), some (.int p4), some (.int p5), some (.ref 80), none]) (st2 := [.int (nI 1)]) (M2 := N) (Ps := []) (by decide +kernel) rfl rfl trivial ?_
  exact G.reti (by decide +kernel) rfl rfl (Nat.le_of_ble_eq_true rfl) (Nat.le_of_ble_eq_true rfl) rfl
