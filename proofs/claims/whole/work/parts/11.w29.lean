theorem e_need_g (z : Zp) (d : Nat) (M : Mem) (a b : Int32) (h : ¬ a < 0 ∧ a < b) : GM z mX11_need (d + 6) [.ref 0, .int a, .int b] M (fun rs => rs = .inl (none, M)) := by
  have q := c_e_need_0 z d M a b
  simp only [e_need, if_neg h.1, if_pos h.2] at q
  exact q
theorem e_need_b (z : Zp) (d : Nat) (M : Mem) (a b : Int32) (h : ¬ (¬ a < 0 ∧ a < b)) : GM z mX11_need (d + 6) [.ref 0, .int a, .int b] M (fun rs => rs = .inr ("java/util/NoSuchElementException", mrow M 0 (upd (M.1 0) 15 ((M.1 0 15) + nI 1)))) := by
  have q := c_e_need_0 z d M a b
  by_cases h1 : a < 0
  · simp only [e_need, if_pos h1] at q
    exact q
  · have h2 : ¬ a < b := fun h2 => h ⟨h1, h2⟩
    simp only [e_need, if_neg h1, if_neg h2] at q
    exact q
theorem e_needWithin_g (z : Zp) (d : Nat) (M : Mem) (v lo hi : Int32) (h : ¬ v < lo ∧ v ≤ hi) : GM z mX11_needWithin (d + 6) [.ref 0, .int v, .int lo, .int hi] M (fun rs => rs = .inl (none, M)) := by
  have q := c_e_needWithin_0 z d M v lo hi
  simp only [e_needWithin, if_neg h.1, if_pos h.2] at q
  exact q
theorem e_needWithin_b (z : Zp) (d : Nat) (M : Mem) (v lo hi : Int32) (h : ¬ (¬ v < lo ∧ v ≤ hi)) : GM z mX11_needWithin (d + 6) [.ref 0, .int v, .int lo, .int hi] M (fun rs => rs = .inr ("java/lang/IllegalArgumentException", mrow M 0 (upd (M.1 0) 16 ((M.1 0 16) + nI 1)))) := by
  have q := c_e_needWithin_0 z d M v lo hi
  by_cases h1 : v < lo
  · simp only [e_needWithin, if_pos h1] at q
    exact q
  · have h2 : ¬ v ≤ hi := fun h2 => h ⟨h1, h2⟩
    simp only [e_needWithin, if_neg h1, if_neg h2] at q
    exact q
set_option maxHeartbeats 4000000 in
set_option maxRecDepth 3000 in
theorem c_e_needPlace_0 (z : Zp) (d : Nat) (M : Mem) (x1 : Int32) (np : Nat) (hp : M.1 3 0 = nI np) : GM z mX11_needPlace (d + 7) [.ref 0, .int x1] M (fun rs => rs = e_needPlace M np x1) := by
  refine GM.of oX11_needPlace.1 (Nat.le_of_ble_eq_true rfl) ?_
  show G z mX11_needPlace (d + 7) 0 0 0 [some (.ref 0), some (.int x1)] [] M _
  obtain ⟨Q, hQ⟩ : ∃ Q : Rs → Prop, Q = (fun rs => rs = e_needPlace M np x1) := ⟨_, rfl⟩
  rw [← hQ]
  refine G.sl [(.aload_n 0, 1, 0, 0, 0, 0), (.iload_n 1, 1, 1, 0, 0, 0), (.aload_n 0, 1, 0, 0, 0, 0), (.getfield 19, 3, 10, 1, 107, 0), (.getfield 163, 3, 6, 0, 17, 0)] [] (pc2 := 9) (ls2 := [some (.ref 0), some (.int x1)]) (st2 := [.int (M.1 3 0), .int x1, .ref 0]) (M2 := M) (Ps := []) (by decide +kernel) rfl rfl trivial ?_
  rw [hp]
  by_cases c1 : ¬ x1 < 0 ∧ x1 < (nI np)
  · skip
    have t2 : GM z mX11_need (d + 6) [.ref 0, .int x1, .int (nI np)] M (fun rs => rs = .inl (none, M)) := e_need_g z d _ x1 (nI np) c1
    refine G.callV (as := [.int x1, .int (nI np)]) (rest := []) (a := 0) oX11_need lk_EvenFinders_228 (by decide +kernel) rfl rfl ⟨rfl, rfl⟩ (Nat.le_of_ble_eq_true rfl) rfl ⟨Nat.le_of_ble_eq_true rfl, Nat.le_of_ble_eq_true rfl⟩ t2 (fun v9 N9 h3 => ?_) (fun E9 N9 h3 => by cases h3)
    cases h3
    show G z mX11_needPlace (d + 7) 1 6 12 [some (.ref 0), some (.int x1)] [] M Q
    exact G.retv (by decide +kernel) rfl (Nat.le_of_ble_eq_true rfl) (Nat.le_of_ble_eq_true rfl) ((by rw [hQ]; simp only [e_needPlace, if_pos c1, mrow_self]))
  · skip
    have t4 : GM z mX11_need (d + 6) [.ref 0, .int x1, .int (nI np)] M (fun rs => rs = .inr ("java/util/NoSuchElementException", mrow M 0 (upd (M.1 0) 15 ((M.1 0 15) + nI 1)))) := e_need_b z d _ x1 (nI np) c1
    refine G.callV (as := [.int x1, .int (nI np)]) (rest := []) (a := 0) oX11_need lk_EvenFinders_228 (by decide +kernel) rfl rfl ⟨rfl, rfl⟩ (Nat.le_of_ble_eq_true rfl) rfl ⟨Nat.le_of_ble_eq_true rfl, Nat.le_of_ble_eq_true rfl⟩ t4 (fun v9 N9 h9 => by cases h9) (fun E9 N9 h9 => ?_)
    cases h9
    rw [hQ]
    simp only [e_needPlace, if_neg c1]
theorem e_needPlace_g (z : Zp) (d : Nat) (M : Mem) (a : Int32) (np : Nat) (hp : M.1 3 0 = nI np) (h : ¬ a < 0 ∧ a < nI np) : GM z mX11_needPlace (d + 7) [.ref 0, .int a] M (fun rs => rs = .inl (none, M)) := by
  have q := c_e_needPlace_0 z d M a np hp
  simp only [e_needPlace, if_pos h] at q
  exact q
theorem e_needPlace_b (z : Zp) (d : Nat) (M : Mem) (a : Int32) (np : Nat) (hp : M.1 3 0 = nI np) (h : ¬ (¬ a < 0 ∧ a < nI np)) : GM z mX11_needPlace (d + 7) [.ref 0, .int a] M (fun rs => rs = .inr ("java/util/NoSuchElementException", mrow M 0 (upd (M.1 0) 15 ((M.1 0 15) + nI 1)))) := by
  have q := c_e_needPlace_0 z d M a np hp
  simp only [e_needPlace, if_neg h] at q
  exact q
set_option maxHeartbeats 4000000 in
set_option maxRecDepth 3000 in
theorem c_e_needThing_0 (z : Zp) (d : Nat) (M : Mem) (x1 : Int32) (nt : Nat) (ht : M.1 3 2 = nI nt) : GM z mX11_needThing (d + 7) [.ref 0, .int x1] M (fun rs => rs = e_needThing M nt x1) := by
  refine GM.of oX11_needThing.1 (Nat.le_of_ble_eq_true rfl) ?_
  show G z mX11_needThing (d + 7) 0 0 0 [some (.ref 0), some (.int x1)] [] M _
  obtain ⟨Q, hQ⟩ : ∃ Q : Rs → Prop, Q = (fun rs => rs = e_needThing M nt x1) := ⟨_, rfl⟩
  rw [← hQ]
  refine G.sl [(.aload_n 0, 1, 0, 0, 0, 0), (.iload_n 1, 1, 1, 0, 0, 0), (.aload_n 0, 1, 0, 0, 0, 0), (.getfield 19, 3, 10, 1, 107, 0), (.getfield 139, 3, 6, 2, 27, 0)] [] (pc2 := 9) (ls2 := [some (.ref 0), some (.int x1)]) (st2 := [.int (M.1 3 2), .int x1, .ref 0]) (M2 := M) (Ps := []) (by decide +kernel) rfl rfl trivial ?_
  rw [ht]
  by_cases c1 : ¬ x1 < 0 ∧ x1 < (nI nt)
  · skip
    have t2 : GM z mX11_need (d + 6) [.ref 0, .int x1, .int (nI nt)] M (fun rs => rs = .inl (none, M)) := e_need_g z d _ x1 (nI nt) c1
    refine G.callV (as := [.int x1, .int (nI nt)]) (rest := []) (a := 0) oX11_need lk_EvenFinders_228 (by decide +kernel) rfl rfl ⟨rfl, rfl⟩ (Nat.le_of_ble_eq_true rfl) rfl ⟨Nat.le_of_ble_eq_true rfl, Nat.le_of_ble_eq_true rfl⟩ t2 (fun v9 N9 h3 => ?_) (fun E9 N9 h3 => by cases h3)
    cases h3
    show G z mX11_needThing (d + 7) 1 6 12 [some (.ref 0), some (.int x1)] [] M Q
    exact G.retv (by decide +kernel) rfl (Nat.le_of_ble_eq_true rfl) (Nat.le_of_ble_eq_true rfl) ((by rw [hQ]; simp only [e_needThing, if_pos c1, mrow_self]))
  · skip
    have t4 : GM z mX11_need (d + 6) [.ref 0, .int x1, .int (nI nt)] M (fun rs => rs = .inr ("java/util/NoSuchElementException", mrow M 0 (upd (M.1 0) 15 ((M.1 0 15) + nI 1)))) := e_need_b z d _ x1 (nI nt) c1
    refine G.callV (as := [.int x1, .int (nI nt)]) (rest := []) (a := 0) oX11_need lk_EvenFinders_228 (by decide +kernel) rfl rfl ⟨rfl, rfl⟩ (Nat.le_of_ble_eq_true rfl) rfl ⟨Nat.le_of_ble_eq_true rfl, Nat.le_of_ble_eq_true rfl⟩ t4 (fun v9 N9 h9 => by cases h9) (fun E9 N9 h9 => ?_)
    cases h9
    rw [hQ]
    simp only [e_needThing, if_neg c1]
theorem e_needThing_g (z : Zp) (d : Nat) (M : Mem) (a : Int32) (nt : Nat) (ht : M.1 3 2 = nI nt) (h : ¬ a < 0 ∧ a < nI nt) : GM z mX11_needThing (d + 7) [.ref 0, .int a] M (fun rs => rs = .inl (none, M)) := by
  have q := c_e_needThing_0 z d M a nt ht
  simp only [e_needThing, if_pos h] at q
  exact q
theorem e_needThing_b (z : Zp) (d : Nat) (M : Mem) (a : Int32) (nt : Nat) (ht : M.1 3 2 = nI nt) (h : ¬ (¬ a < 0 ∧ a < nI nt)) : GM z mX11_needThing (d + 7) [.ref 0, .int a] M (fun rs => rs = .inr ("java/util/NoSuchElementException", mrow M 0 (upd (M.1 0) 15 ((M.1 0 15) + nI 1)))) := by
  have q := c_e_needThing_0 z d M a nt ht
  simp only [e_needThing, if_neg h] at q
  exact q
set_option maxHeartbeats 4000000 in
set_option maxRecDepth 3000 in
theorem c_e_needFinder_0 (z : Zp) (d : Nat) (M : Mem) (x1 : Int32) (nf : Nat) (hf : M.1 3 3 = nI nf) : GM z mX11_needFinder (d + 7) [.ref 0, .int x1] M (fun rs => rs = e_needFinder M nf x1) := by
  refine GM.of oX11_needFinder.1 (Nat.le_of_ble_eq_true rfl) ?_
  show G z mX11_needFinder (d + 7) 0 0 0 [some (.ref 0), some (.int x1)] [] M _
  obtain ⟨Q, hQ⟩ : ∃ Q : Rs → Prop, Q = (fun rs => rs = e_needFinder M nf x1) := ⟨_, rfl⟩
  rw [← hQ]
  refine G.sl [(.aload_n 0, 1, 0, 0, 0, 0), (.iload_n 1, 1, 1, 0, 0, 0), (.aload_n 0, 1, 0, 0, 0, 0), (.getfield 19, 3, 10, 1, 107, 0), (.getfield 189, 3, 6, 3, 33, 0)] [] (pc2 := 9) (ls2 := [some (.ref 0), some (.int x1)]) (st2 := [.int (M.1 3 3), .int x1, .ref 0]) (M2 := M) (Ps := []) (by decide +kernel) rfl rfl trivial ?_
  rw [hf]
  by_cases c1 : ¬ x1 < 0 ∧ x1 < (nI nf)
  · skip
    have t2 : GM z mX11_need (d + 6) [.ref 0, .int x1, .int (nI nf)] M (fun rs => rs = .inl (none, M)) := e_need_g z d _ x1 (nI nf) c1
    refine G.callV (as := [.int x1, .int (nI nf)]) (rest := []) (a := 0) oX11_need lk_EvenFinders_228 (by decide +kernel) rfl rfl ⟨rfl, rfl⟩ (Nat.le_of_ble_eq_true rfl) rfl ⟨Nat.le_of_ble_eq_true rfl, Nat.le_of_ble_eq_true rfl⟩ t2 (fun v9 N9 h3 => ?_) (fun E9 N9 h3 => by cases h3)
    cases h3
    show G z mX11_needFinder (d + 7) 1 6 12 [some (.ref 0), some (.int x1)] [] M Q
    exact G.retv (by decide +kernel) rfl (Nat.le_of_ble_eq_true rfl) (Nat.le_of_ble_eq_true rfl) ((by rw [hQ]; simp only [e_needFinder, if_pos c1, mrow_self]))
  · skip
    have t4 : GM z mX11_need (d + 6) [.ref 0, .int x1, .int (nI nf)] M (fun rs => rs = .inr ("java/util/NoSuchElementException", mrow M 0 (upd (M.1 0) 15 ((M.1 0 15) + nI 1)))) := e_need_b z d _ x1 (nI nf) c1
    refine G.callV (as := [.int x1, .int (nI nf)]) (rest := []) (a := 0) oX11_need lk_EvenFinders_228 (by decide +kernel) rfl rfl ⟨rfl, rfl⟩ (Nat.le_of_ble_eq_true rfl) rfl ⟨Nat.le_of_ble_eq_true rfl, Nat.le_of_ble_eq_true rfl⟩ t4 (fun v9 N9 h9 => by cases h9) (fun E9 N9 h9 => ?_)
    cases h9
    rw [hQ]
    simp only [e_needFinder, if_neg c1]
theorem e_needFinder_g (z : Zp) (d : Nat) (M : Mem) (a : Int32) (nf : Nat) (hf : M.1 3 3 = nI nf) (h : ¬ a < 0 ∧ a < nI nf) : GM z mX11_needFinder (d + 7) [.ref 0, .int a] M (fun rs => rs = .inl (none, M)) := by
  have q := c_e_needFinder_0 z d M a nf hf
  simp only [e_needFinder, if_pos h] at q
  exact q
theorem e_needFinder_b (z : Zp) (d : Nat) (M : Mem) (a : Int32) (nf : Nat) (hf : M.1 3 3 = nI nf) (h : ¬ (¬ a < 0 ∧ a < nI nf)) : GM z mX11_needFinder (d + 7) [.ref 0, .int a] M (fun rs => rs = .inr ("java/util/NoSuchElementException", mrow M 0 (upd (M.1 0) 15 ((M.1 0 15) + nI 1)))) := by
  have q := c_e_needFinder_0 z d M a nf hf
  simp only [e_needFinder, if_neg h] at q
  exact q
set_option maxHeartbeats 4000000 in
set_option maxRecDepth 3000 in
theorem c_e_begin_0 (z : Zp) (d : Nat) (M : Mem) (x1 : Int32) (x2 : Int32) : GM z mX11_begin (d + 7) [.ref 0, .int x1, .int x2] M (fun rs => rs = e_begin M x1 x2) := by
  refine GM.of oX11_begin.1 (Nat.le_of_ble_eq_true rfl) ?_
  show G z mX11_begin (d + 7) 0 0 0 [some (.ref 0), some (.int x1), some (.int x2)] [] M _
  obtain ⟨Q, hQ⟩ : ∃ Q : Rs → Prop, Q = (fun rs => rs = e_begin M x1 x2) := ⟨_, rfl⟩
  rw [← hQ]
  refine G.sl [(.aload_n 0, 1, 0, 0, 0, 0), (.iload_n 1, 1, 1, 0, 0, 0), (.iconst 0, 1, 0, 0, 0, nI 0), (.iload_n 2, 1, 2, 0, 0, 0), (.aload_n 0, 1, 0, 0, 0, 0), (.getfield 12, 3, 10, 0, 106, 0), (.getfield 101, 3, 5, 1, 1, 0)] [] (pc2 := 11) (ls2 := [some (.ref 0), some (.int x1), some (.int x2)]) (st2 := [.int (M.1 1 1), .int x2, .int (nI 0), .int x1, .ref 0]) (M2 := M) (Ps := []) (by decide +kernel) rfl rfl trivial ?_
  refine G.mmin lm_EvenFinders_356 (by decide +kernel) (Nat.le_of_ble_eq_true rfl) (Nat.le_of_ble_eq_true rfl) (Nat.le_of_ble_eq_true rfl) ?_
  by_cases c1 : ¬ x1 < (nI 0) ∧ x1 ≤ (if (M.1 1 1) < x2 then (M.1 1 1) else x2)
  · skip
    have t2 : GM z mX11_needWithin (d + 6) [.ref 0, .int x1, .int (nI 0), .int (if (M.1 1 1) < x2 then (M.1 1 1) else x2)] M (fun rs => rs = .inl (none, M)) := e_needWithin_g z d _ x1 (nI 0) (if (M.1 1 1) < x2 then (M.1 1 1) else x2) c1
    refine G.callV (as := [.int x1, .int (nI 0), .int (if (M.1 1 1) < x2 then (M.1 1 1) else x2)]) (rest := []) (a := 0) oX11_needWithin lk_EvenFinders_182 (by decide +kernel) rfl rfl ⟨rfl, rfl⟩ (Nat.le_of_ble_eq_true rfl) rfl ⟨Nat.le_of_ble_eq_true rfl, Nat.le_of_ble_eq_true rfl⟩ t2 (fun v9 N9 h3 => ?_) (fun E9 N9 h3 => by cases h3)
    cases h3
    show G z mX11_begin (d + 7) 1 6 17 [some (.ref 0), some (.int x1), some (.int x2)] [] M Q
    refine G.sl [(.aload_n 0, 1, 0, 0, 0, 0), (.getfield 12, 3, 10, 0, 106, 0), (.iload_n 1, 1, 1, 0, 0, 0)] [] (pc2 := 22) (ls2 := [some (.ref 0), some (.int x1), some (.int x2)]) (st2 := [.int x1, .ref 1]) (M2 := M) (Ps := []) (by decide +kernel) rfl rfl trivial ?_
    rcases g5 : t_begin (M.1 1) x1 with ⟨u6, r7⟩
    have t8 : GM z mX6_begin (d + 6) [.ref 1, .int x1] M (fun rs => rs = .inl (none, mrow M 1 r7)) := by
      have q9 := c_t_begin_1 z (d + 5) M x1
      try simp only [mput, mrow_same, mrow_hit, mrow_miss, mrow_sw, idr_eq, ne_eq, Nat.reduceEqDiff, not_false_eq_true, Nat.reduceLT, reduceCtorEq, g5] at q9
      exact q9
    refine G.callV (as := [.int x1]) (rest := []) (a := 1) oX6_begin lk_EvenFinders_374 (by decide +kernel) rfl rfl ⟨rfl, rfl⟩ (Nat.le_of_ble_eq_true rfl) rfl ⟨Nat.le_of_ble_eq_true rfl, Nat.le_of_ble_eq_true rfl⟩ t8 (fun v9 N9 h9 => ?_) (fun E9 N9 h9 => by cases h9)
    cases h9
    show G z mX11_begin (d + 7) 1 6 25 [some (.ref 0), some (.int x1), some (.int x2)] [] (mrow M 1 r7) Q
    exact G.retv (by decide +kernel) rfl (Nat.le_of_ble_eq_true rfl) (Nat.le_of_ble_eq_true rfl) ((by rw [hQ]; simp only [e_begin, if_pos c1, g5, mrow_self]))
  · skip
    have t10 : GM z mX11_needWithin (d + 6) [.ref 0, .int x1, .int (nI 0), .int (if (M.1 1 1) < x2 then (M.1 1 1) else x2)] M (fun rs => rs = .inr ("java/lang/IllegalArgumentException", mrow M 0 (upd (M.1 0) 16 ((M.1 0 16) + nI 1)))) := e_needWithin_b z d _ x1 (nI 0) (if (M.1 1 1) < x2 then (M.1 1 1) else x2) c1
    refine G.callV (as := [.int x1, .int (nI 0), .int (if (M.1 1 1) < x2 then (M.1 1 1) else x2)]) (rest := []) (a := 0) oX11_needWithin lk_EvenFinders_182 (by decide +kernel) rfl rfl ⟨rfl, rfl⟩ (Nat.le_of_ble_eq_true rfl) rfl ⟨Nat.le_of_ble_eq_true rfl, Nat.le_of_ble_eq_true rfl⟩ t10 (fun v9 N9 h9 => by cases h9) (fun E9 N9 h9 => ?_)
    cases h9
    rw [hQ]
    simp only [e_begin, if_neg c1]
theorem e_begin_g (z : Zp) (d : Nat) (M : Mem) (n mo : Int32) (h : ¬ n < nI 0 ∧ n ≤ (if (M.1 1 1) < mo then M.1 1 1 else mo)) : GM z mX11_begin (d + 7) [.ref 0, .int n, .int mo] M (fun rs => rs = .inl (none, mrow M 1 (t_begin (M.1 1) n).2)) := by
  have q := c_e_begin_0 z d M n mo
  simp only [e_begin, if_pos h] at q
  exact q
theorem e_begin_b (z : Zp) (d : Nat) (M : Mem) (n mo : Int32) (h : ¬ (¬ n < nI 0 ∧ n ≤ (if (M.1 1 1) < mo then M.1 1 1 else mo))) : GM z mX11_begin (d + 7) [.ref 0, .int n, .int mo] M (fun rs => rs = .inr ("java/lang/IllegalArgumentException", mrow M 0 (upd (M.1 0) 16 ((M.1 0 16) + nI 1)))) := by
  have q := c_e_begin_0 z d M n mo
  simp only [e_begin, if_neg h] at q
  exact q
set_option maxHeartbeats 4000000 in
set_option maxRecDepth 3000 in
theorem c_e_feed_0 (z : Zp) (d : Nat) (M : Mem) (x1 : Int32) (x2 : Int32) (x3 : Int32) (x4 : Int32) (x5 : Int32) (hk : e_feed_ok M x1 x2 x3 x4 x5) : GM z mX11_feed (d + 1) [.ref 0, .int x1, .int x2, .int x3, .int x4, .int x5] M (fun rs => rs = e_feed M x1 x2 x3 x4 x5) := by
  simp only [e_feed_ok] at hk
  refine GM.of oX11_feed.1 (Nat.le_of_ble_eq_true rfl) ?_
  show G z mX11_feed (d + 1) 0 0 0 [some (.ref 0), some (.int x1), some (.int x2), some (.int x3), some (.int x4), some (.int x5)] [] M _
  obtain ⟨Q, hQ⟩ : ∃ Q : Rs → Prop, Q = (fun rs => rs = e_feed M x1 x2 x3 x4 x5) := ⟨_, rfl⟩
  rw [← hQ]
  refine G.sl [(.aload_n 0, 1, 0, 0, 0, 0), (.getfield 12, 3, 10, 0, 106, 0), (.getfield 101, 3, 5, 1, 1, 0), (.sipush 580, 3, 0, 0, 0, nI 580)] [] (pc2 := 10) (ls2 := [some (.ref 0), some (.int x1), some (.int x2), some (.int x3), some (.int x4), some (.int x5)]) (st2 := [.int (nI 580), .int (M.1 1 1)]) (M2 := M) (Ps := []) (by decide +kernel) rfl rfl trivial ?_
  refine G.ic_le (off := (5)) (tgt := 15) (by decide +kernel) rfl (fun c1 => ?_) (fun c1 => ?_)
  · skip
    rw [if_pos c1] at hk
    refine G.sl [(.aload_n 0, 1, 0, 0, 0, 0), (.getfield 12, 3, 10, 0, 106, 0), (.iload_n 1, 1, 1, 0, 0, 0)] [] (pc2 := 20) (ls2 := [some (.ref 0), some (.int x1), some (.int x2), some (.int x3), some (.int x4), some (.int x5)]) (st2 := [.int x1, .ref 1]) (M2 := M) (Ps := []) (by decide +kernel) rfl rfl trivial ?_
    obtain ⟨k2, hk⟩ := hk
    rcases g3 : t_push (M.1 1) (M.1 2) x1 with ⟨u4, r5, r6⟩
    try simp only [g3] at hk
    have t7 : GM z mX6_push (d) [.ref 1, .int x1] M (fun rs => rs = .inl (none, mrow (mrow M 1 r5) 2 r6)) := by
      have q9 := c_t_push_1 z d M x1 k2
      try simp only [mput, mrow_same, mrow_hit, mrow_miss, mrow_sw, idr_eq, ne_eq, Nat.reduceEqDiff, not_false_eq_true, Nat.reduceLT, reduceCtorEq, g3] at q9
      exact q9
    refine G.callV (as := [.int x1]) (rest := []) (a := 1) oX6_push lk_EvenFinders_105 (by decide +kernel) rfl rfl ⟨rfl, rfl⟩ (Nat.le_of_ble_eq_true rfl) rfl ⟨Nat.le_of_ble_eq_true rfl, Nat.le_of_ble_eq_true rfl⟩ t7 (fun v9 N9 h8 => ?_) (fun E9 N9 h8 => by cases h8)
    cases h8
    show G z mX11_feed (d + 1) 0 0 23 [some (.ref 0), some (.int x1), some (.int x2), some (.int x3), some (.int x4), some (.int x5)] [] (mrow (mrow M 1 r5) 2 r6) Q
    refine G.sl [(.aload_n 0, 1, 0, 0, 0, 0), (.getfield 12, 3, 10, 0, 106, 0), (.iload_n 2, 1, 2, 0, 0, 0)] [] (pc2 := 28) (ls2 := [some (.ref 0), some (.int x1), some (.int x2), some (.int x3), some (.int x4), some (.int x5)]) (st2 := [.int x2, .ref 1]) (M2 := mrow (mrow M 1 r5) 2 r6) (Ps := []) (by decide +kernel) rfl rfl trivial ?_
    obtain ⟨k9, hk⟩ := hk
    rcases g10 : t_push r5 r6 x2 with ⟨u11, r12, r13⟩
    try simp only [g10] at hk
    have t14 : GM z mX6_push (d) [.ref 1, .int x2] (mrow (mrow M 1 r5) 2 r6) (fun rs => rs = .inl (none, mrow (mrow M 1 r12) 2 r13)) := by
      have q9 := c_t_push_1 z d (mrow (mrow M 1 r5) 2 r6) x2 k9
      try simp only [mput, mrow_same, mrow_hit, mrow_miss, mrow_sw, idr_eq, ne_eq, Nat.reduceEqDiff, not_false_eq_true, Nat.reduceLT, reduceCtorEq, g10] at q9
      exact q9
    refine G.callV (as := [.int x2]) (rest := []) (a := 1) oX6_push lk_EvenFinders_105 (by decide +kernel) rfl rfl ⟨rfl, rfl⟩ (Nat.le_of_ble_eq_true rfl) rfl ⟨Nat.le_of_ble_eq_true rfl, Nat.le_of_ble_eq_true rfl⟩ t14 (fun v9 N9 h15 => ?_) (fun E9 N9 h15 => by cases h15)
    cases h15
    show G z mX11_feed (d + 1) 0 0 31 [some (.ref 0), some (.int x1), some (.int x2), some (.int x3), some (.int x4), some (.int x5)] [] (mrow (mrow M 1 r12) 2 r13) Q
    refine G.sl [(.aload_n 0, 1, 0, 0, 0, 0), (.getfield 12, 3, 10, 0, 106, 0), (.iload_n 3, 1, 3, 0, 0, 0)] [] (pc2 := 36) (ls2 := [some (.ref 0), some (.int x1), some (.int x2), some (.int x3), some (.int x4), some (.int x5)]) (st2 := [.int x3, .ref 1]) (M2 := mrow (mrow M 1 r12) 2 r13) (Ps := []) (by decide +kernel) rfl rfl trivial ?_
    obtain ⟨k16, hk⟩ := hk
    rcases g17 : t_push r12 r13 x3 with ⟨u18, r19, r20⟩
    try simp only [g17] at hk
    have t21 : GM z mX6_push (d) [.ref 1, .int x3] (mrow (mrow M 1 r12) 2 r13) (fun rs => rs = .inl (none, mrow (mrow M 1 r19) 2 r20)) := by
      have q9 := c_t_push_1 z d (mrow (mrow M 1 r12) 2 r13) x3 k16
      try simp only [mput, mrow_same, mrow_hit, mrow_miss, mrow_sw, idr_eq, ne_eq, Nat.reduceEqDiff, not_false_eq_true, Nat.reduceLT, reduceCtorEq, g17] at q9
      exact q9
    refine G.callV (as := [.int x3]) (rest := []) (a := 1) oX6_push lk_EvenFinders_105 (by decide +kernel) rfl rfl ⟨rfl, rfl⟩ (Nat.le_of_ble_eq_true rfl) rfl ⟨Nat.le_of_ble_eq_true rfl, Nat.le_of_ble_eq_true rfl⟩ t21 (fun v9 N9 h22 => ?_) (fun E9 N9 h22 => by cases h22)
    cases h22
    show G z mX11_feed (d + 1) 0 0 39 [some (.ref 0), some (.int x1), some (.int x2), some (.int x3), some (.int x4), some (.int x5)] [] (mrow (mrow M 1 r19) 2 r20) Q
    refine G.sl [(.aload_n 0, 1, 0, 0, 0, 0), (.getfield 12, 3, 10, 0, 106, 0), (.iload 4, 2, 4, 0, 0, 0)] [] (pc2 := 45) (ls2 := [some (.ref 0), some (.int x1), some (.int x2), some (.int x3), some (.int x4), some (.int x5)]) (st2 := [.int x4, .ref 1]) (M2 := mrow (mrow M 1 r19) 2 r20) (Ps := []) (by decide +kernel) rfl rfl trivial ?_
    obtain ⟨k23, hk⟩ := hk
    rcases g24 : t_push r19 r20 x4 with ⟨u25, r26, r27⟩
    try simp only [g24] at hk
    have t28 : GM z mX6_push (d) [.ref 1, .int x4] (mrow (mrow M 1 r19) 2 r20) (fun rs => rs = .inl (none, mrow (mrow M 1 r26) 2 r27)) := by
      have q9 := c_t_push_1 z d (mrow (mrow M 1 r19) 2 r20) x4 k23
      try simp only [mput, mrow_same, mrow_hit, mrow_miss, mrow_sw, idr_eq, ne_eq, Nat.reduceEqDiff, not_false_eq_true, Nat.reduceLT, reduceCtorEq, g24] at q9
      exact q9
    refine G.callV (as := [.int x4]) (rest := []) (a := 1) oX6_push lk_EvenFinders_105 (by decide +kernel) rfl rfl ⟨rfl, rfl⟩ (Nat.le_of_ble_eq_true rfl) rfl ⟨Nat.le_of_ble_eq_true rfl, Nat.le_of_ble_eq_true rfl⟩ t28 (fun v9 N9 h29 => ?_) (fun E9 N9 h29 => by cases h29)
    cases h29
    show G z mX11_feed (d + 1) 0 0 48 [some (.ref 0), some (.int x1), some (.int x2), some (.int x3), some (.int x4), some (.int x5)] [] (mrow (mrow M 1 r26) 2 r27) Q
    refine G.sl [(.aload_n 0, 1, 0, 0, 0, 0), (.getfield 12, 3, 10, 0, 106, 0), (.iload 5, 2, 5, 0, 0, 0)] [] (pc2 := 54) (ls2 := [some (.ref 0), some (.int x1), some (.int x2), some (.int x3), some (.int x4), some (.int x5)]) (st2 := [.int x5, .ref 1]) (M2 := mrow (mrow M 1 r26) 2 r27) (Ps := []) (by decide +kernel) rfl rfl trivial ?_
    obtain ⟨k30, hk⟩ := hk
    rcases g31 : t_push r26 r27 x5 with ⟨u32, r33, r34⟩
    have t35 : GM z mX6_push (d) [.ref 1, .int x5] (mrow (mrow M 1 r26) 2 r27) (fun rs => rs = .inl (none, mrow (mrow M 1 r33) 2 r34)) := by
      have q9 := c_t_push_1 z d (mrow (mrow M 1 r26) 2 r27) x5 k30
      try simp only [mput, mrow_same, mrow_hit, mrow_miss, mrow_sw, idr_eq, ne_eq, Nat.reduceEqDiff, not_false_eq_true, Nat.reduceLT, reduceCtorEq, g31] at q9
      exact q9
    refine G.callV (as := [.int x5]) (rest := []) (a := 1) oX6_push lk_EvenFinders_105 (by decide +kernel) rfl rfl ⟨rfl, rfl⟩ (Nat.le_of_ble_eq_true rfl) rfl ⟨Nat.le_of_ble_eq_true rfl, Nat.le_of_ble_eq_true rfl⟩ t35 (fun v9 N9 h36 => ?_) (fun E9 N9 h36 => by cases h36)
    cases h36
    show G z mX11_feed (d + 1) 0 0 57 [some (.ref 0), some (.int x1), some (.int x2), some (.int x3), some (.int x4), some (.int x5)] [] (mrow (mrow M 1 r33) 2 r34) Q
    refine G.sl [(.aload_n 0, 1, 0, 0, 0, 0), (.getfield 12, 3, 10, 0, 106, 0), (.getfield 101, 3, 5, 1, 1, 0)] [] (pc2 := 64) (ls2 := [some (.ref 0), some (.int x1), some (.int x2), some (.int x3), some (.int x4), some (.int x5)]) (st2 := [.int (r33 1)]) (M2 := mrow (mrow M 1 r33) 2 r34) (Ps := []) (by decide +kernel) rfl rfl trivial ?_
    exact G.reti (by decide +kernel) rfl rfl (Nat.le_of_ble_eq_true rfl) (Nat.le_of_ble_eq_true rfl) ((by rw [hQ]; simp only [e_feed, if_pos c1, g3, g10, g17, g24, g31, mrow_self]))
  · skip
    rw [if_neg c1] at hk
    refine G.sl [(.iconst (-1), 1, 0, 0, 0, (-1))] [] (pc2 := 14) (ls2 := [some (.ref 0), some (.int x1), some (.int x2), some (.int x3), some (.int x4), some (.int x5)]) (st2 := [.int ((-1))]) (M2 := M) (Ps := []) (by decide +kernel) rfl rfl trivial ?_
    exact G.reti (by decide +kernel) rfl rfl (Nat.le_of_ble_eq_true rfl) (Nat.le_of_ble_eq_true rfl) ((by rw [hQ]; simp only [e_feed, if_neg c1, mrow_self]))
set_option maxHeartbeats 4000000 in
set_option maxRecDepth 3000 in
theorem c_e_fault_0 (z : Zp) (d : Nat) (M : Mem) : GM z mX11_fault (d) [.ref 0] M (fun rs => rs = e_fault M) := by
  refine GM.of oX11_fault.1 (Nat.le_of_ble_eq_true rfl) ?_
  show G z mX11_fault (d) 0 0 0 [some (.ref 0)] [] M _
  obtain ⟨Q, hQ⟩ : ∃ Q : Rs → Prop, Q = (fun rs => rs = e_fault M) := ⟨_, rfl⟩
  rw [← hQ]
  refine G.sl [(.aload_n 0, 1, 0, 0, 0, 0), (.getfield 12, 3, 10, 0, 106, 0), (.getfield 175, 3, 5, 3, 6, 0)] [] (pc2 := 7) (ls2 := [some (.ref 0)]) (st2 := [.int (M.1 1 3)]) (M2 := M) (Ps := []) (by decide +kernel) rfl rfl trivial ?_
  exact G.reti (by decide +kernel) rfl rfl (Nat.le_of_ble_eq_true rfl) (Nat.le_of_ble_eq_true rfl) ((by rw [hQ]; simp only [e_fault, mrow_self]))
set_option maxHeartbeats 4000000 in
set_option maxRecDepth 3000 in
theorem c_e_undo_0 (z : Zp) (d : Nat) (M : Mem) (hk : e_undo_ok M) : GM z mX11_undo (d + 2) [.ref 0] M (fun rs => rs = e_undo M) := by
  simp only [e_undo_ok] at hk
  refine GM.of oX11_undo.1 (Nat.le_of_ble_eq_true rfl) ?_
  show G z mX11_undo (d + 2) 0 0 0 [some (.ref 0)] [] M _
  obtain ⟨Q, hQ⟩ : ∃ Q : Rs → Prop, Q = (fun rs => rs = e_undo M) := ⟨_, rfl⟩
  rw [← hQ]
  refine G.sl [(.aload_n 0, 1, 0, 0, 0, 0), (.getfield 70, 3, 10, 10, 116, 0), (.aload_n 0, 1, 0, 0, 0, 0), (.getfield 60, 3, 10, 8, 114, 0)] [] (pc2 := 8) (ls2 := [some (.ref 0)]) (st2 := [.ref 37, .ref 43]) (M2 := M) (Ps := []) (by decide +kernel) rfl rfl trivial ?_
  obtain ⟨k1, hk⟩ := hk
  rcases g2 : h_takeWorkBack (M.1 38) (M.1 43) (M.1 44) with ⟨v3, r4, r5⟩
  have ev3 : v3 = 0 ∨ v3 = 1 := by
    have q9 := h_takeWorkBack_01 (M.1 38) (M.1 43) (M.1 44)
    rw [g2] at q9
    exact q9
  have t6 : GM z mX2_takeWorkBack (d + 1) [.ref 43, .ref 37] M (fun rs => rs = .inl (some (.int v3), mrow (mrow M 38 r4) 43 r5)) := by
    have q9 := c_h_takeWorkBack_43_37 z d M k1
    try simp only [mput, mrow_same, mrow_hit, mrow_miss, mrow_sw, idr_eq, ne_eq, Nat.reduceEqDiff, not_false_eq_true, Nat.reduceLT, reduceCtorEq, g2] at q9
    exact q9
  refine G.callV (as := [.ref 37]) (rest := []) (a := 43) oX2_takeWorkBack lk_EvenFinders_178 (by decide +kernel) rfl rfl ⟨rfl, rfl⟩ (Nat.le_of_ble_eq_true rfl) rfl ⟨Nat.le_of_ble_eq_true rfl, Nat.le_of_ble_eq_true rfl⟩ t6 (fun v9 N9 h7 => ?_) (fun E9 N9 h7 => by cases h7)
  cases h7
  show G z mX11_undo (d + 2) 0 0 11 [some (.ref 0)] [.int v3] (mrow (mrow M 38 r4) 43 r5) Q
  refine G.if_ne (off := (5)) (tgt := 16) (by decide +kernel) rfl (fun c8 => ?_) (fun c8 => ?_)
  · skip
    refine G.sl [(.aload_n 0, 1, 0, 0, 0, 0), (.iconst 0, 1, 0, 0, 0, nI 0), (.putfield 136, 3, 10, 14, 120, 0), (.aload_n 0, 1, 0, 0, 0, 0), (.getfield 70, 3, 10, 10, 116, 0), (.getfield 146, 3, 2, 0, 82, 0)] [] (pc2 := 28) (ls2 := [some (.ref 0)]) (st2 := [.int (r5 0)]) (M2 := mput (mrow (mrow M 38 r4) 43 r5) 0 14 (nI 0)) (Ps := []) (by decide +kernel) rfl rfl trivial ?_
    refine G.mem (M' := mrow (mrow (mrow M 0 (upd (M.1 0) 14 (nI 0))) 38 r4) 43 r5) (by first | rfl | (simp only [mput, mrow_same, mrow_hit, mrow_miss, mrow_sw, idr_eq, ne_eq, Nat.reduceEqDiff, not_false_eq_true, Nat.reduceLT, reduceCtorEq]; done)) ?_
    exact G.reti (by decide +kernel) rfl rfl (Nat.le_of_ble_eq_true rfl) (Nat.le_of_ble_eq_true rfl) ((by rw [hQ]; simp only [e_undo, g2, if_neg c8, mrow_self]))
  · skip
    refine G.sl [(.iconst (-1), 1, 0, 0, 0, (-1))] [] (pc2 := 15) (ls2 := [some (.ref 0)]) (st2 := [.int ((-1))]) (M2 := mrow (mrow M 38 r4) 43 r5) (Ps := []) (by decide +kernel) rfl rfl trivial ?_
    exact G.reti (by decide +kernel) rfl rfl (Nat.le_of_ble_eq_true rfl) (Nat.le_of_ble_eq_true rfl) ((by rw [hQ]; simp only [e_undo, g2, if_pos c8, mrow_self]))
set_option maxHeartbeats 4000000 in
set_option maxRecDepth 3000 in
theorem lp_d_findersAt_37_4 (z : Zp) (d : Nat) (M : Mem) (Q : Rs → Prop) (x1 : Int32) (nf : Nat) (hnf : nf ≤ 6) (hf : M.1 3 3 = nI nf) (hX : G z mX1_findersAt (d) 0 0 39 [none, none, some (.int (d_findersAt_4 (M.1 38) x1 nf)), none] [] M Q) : G z mX1_findersAt (d) 0 0 4 [some (.ref 37), some (.int x1), some (.int (nI 0)), some (.int (nI 0))] [] M Q := by
  refine down (n := nf) (P := fun i3 => G z mX1_findersAt (d) 0 0 4 [some (.ref 37), some (.int x1), some (.int (d_findersAt_4 (M.1 38) x1 i3)), some (.int (nI i3))] [] M Q) ?_ ?_ 0 (Nat.zero_le _)
  · skip
    refine G.sl [(.iload_n 3, 1, 3, 0, 0, 0), (.aload_n 0, 1, 0, 0, 0, 0), (.getfield 18, 3, 1, 2, 79, 0), (.getfield 78, 3, 6, 3, 34, 0)] [] (pc2 := 12) (ls2 := [some (.ref 37), some (.int x1), some (.int (d_findersAt_4 (M.1 38) x1 nf)), some (.int (nI nf))]) (st2 := [.int (M.1 3 3), .int (nI nf)]) (M2 := M) (Ps := []) (by decide +kernel) rfl rfl trivial ?_
    rw [hf]
    refine G.ic_ge (off := (27)) (tgt := 39) (by decide +kernel) rfl (fun _ => ?_) (fun h9 => absurd (nI_le (by omega) (by omega)) h9)
    refine G.loc (ls2 := [none, none, some (.int (d_findersAt_4 (M.1 38) x1 nf)), none]) (by simp [subL]) ?_
    exact hX
  · skip
    intro i3 hi ih
    show G z mX1_findersAt (d) 0 0 4 [some (.ref 37), some (.int x1), some (.int (d_findersAt_4 (M.1 38) x1 i3)), some (.int (nI i3))] [] M Q
    refine G.sl [(.iload_n 3, 1, 3, 0, 0, 0), (.aload_n 0, 1, 0, 0, 0, 0), (.getfield 18, 3, 1, 2, 79, 0), (.getfield 78, 3, 6, 3, 34, 0)] [] (pc2 := 12) (ls2 := [some (.ref 37), some (.int x1), some (.int (d_findersAt_4 (M.1 38) x1 i3)), some (.int (nI i3))]) (st2 := [.int (M.1 3 3), .int (nI i3)]) (M2 := M) (Ps := []) (by decide +kernel) rfl rfl trivial ?_
    rw [hf]
    refine G.ic_ge (off := (27)) (tgt := 39) (by decide +kernel) rfl (fun h9 => absurd h9 (nI_ge (by omega) (by omega))) (fun _ => ?_)
    refine G.sl [(.aload_n 0, 1, 0, 0, 0, 0), (.getfield 9, 3, 1, 0, 73, 0), (.iconst 1, 1, 0, 0, 0, nI 1), (.iload_n 3, 1, 3, 0, 0, 0), (.iadd, 1, 0, 0, 0, 0), (.iaload, 1, 0, 0, 0, 0), (.iload_n 1, 1, 1, 0, 0, 0)] [1 + i3] (pc2 := 24) (ls2 := [some (.ref 37), some (.int x1), some (.int (d_findersAt_4 (M.1 38) x1 i3)), some (.int (nI i3))]) (st2 := [.int x1, .int (M.1 38 (1 + i3))]) (M2 := M) (Ps := [((nI 1) + (nI i3)) = nI (1 + i3) ∧ (1 + i3) < 51]) (by decide +kernel) rfl rfl ⟨⟨(nI_add _ _), (by omega)⟩, trivial⟩ ?_
    refine G.ic_ne (off := (9)) (tgt := 33) (by decide +kernel) rfl (fun c1 => ?_) (fun c1 => ?_)
    · skip
      refine G.sl [(.iinc 3 1, 3, 3, 0, 0, nI 1), (.goto (-32), 3, 4, 0, 0, 0)] [] (pc2 := 4) (ls2 := [some (.ref 37), some (.int x1), some (.int (d_findersAt_4 (M.1 38) x1 i3)), some (.int ((nI i3) + nI 1))]) (st2 := []) (M2 := M) (Ps := []) (by decide +kernel) rfl rfl trivial ?_
      rw [nI_add i3 1]
      simp only [d_findersAt_4, if_neg c1] at ih
      exact ih
    · skip
      refine G.sl [(.iload_n 2, 1, 2, 0, 0, 0), (.iconst 1, 1, 0, 0, 0, nI 1), (.iload_n 3, 1, 3, 0, 0, 0), (.ishl, 1, 0, 0, 0, 0), (.ior, 1, 0, 0, 0, 0), (.istore_n 2, 1, 2, 0, 0, 0), (.iinc 3 1, 3, 3, 0, 0, nI 1), (.goto (-32), 3, 4, 0, 0, 0)] [] (pc2 := 4) (ls2 := [some (.ref 37), some (.int x1), some (.int ((d_findersAt_4 (M.1 38) x1 i3) ||| ((nI 1) <<< ((nI i3) &&& 31)))), some (.int ((nI i3) + nI 1))]) (st2 := []) (M2 := M) (Ps := []) (by decide +kernel) rfl rfl trivial ?_
      rw [nI_add i3 1]
      simp only [d_findersAt_4, if_pos c1] at ih
      exact ih
set_option maxHeartbeats 4000000 in
set_option maxRecDepth 3000 in
theorem c_d_findersAt_37 (z : Zp) (d : Nat) (M : Mem) (x1 : Int32) (nf : Nat) (hnf : nf ≤ 6) (hf : M.1 3 3 = nI nf) : GM z mX1_findersAt (d) [.ref 37, .int x1] M (fun rs => rs = .inl (some (.int (d_findersAt (M.1 38) nf x1)), M)) := by
  refine GM.of oX1_findersAt.1 (Nat.le_of_ble_eq_true rfl) ?_
  show G z mX1_findersAt (d) 0 0 0 [some (.ref 37), some (.int x1), none, none] [] M _
  obtain ⟨Q, hQ⟩ : ∃ Q : Rs → Prop, Q = (fun rs => rs = .inl (some (.int (d_findersAt (M.1 38) nf x1)), M)) := ⟨_, rfl⟩
  rw [← hQ]
  refine G.sl [(.iconst 0, 1, 0, 0, 0, nI 0), (.istore_n 2, 1, 2, 0, 0, 0), (.iconst 0, 1, 0, 0, 0, nI 0), (.istore_n 3, 1, 3, 0, 0, 0)] [] (pc2 := 4) (ls2 := [some (.ref 37), some (.int x1), some (.int (nI 0)), some (.int (nI 0))]) (st2 := []) (M2 := M) (Ps := []) (by decide +kernel) rfl rfl trivial ?_
  refine lp_d_findersAt_37_4 z d M Q x1 nf hnf hf ?_
  show G z mX1_findersAt (d) 0 0 39 [none, none, some (.int (d_findersAt_4 (M.1 38) x1 nf)), none] [] M Q
  refine G.sl [(.iload_n 2, 1, 2, 0, 0, 0)] [] (pc2 := 40) (ls2 := [none, none, some (.int (d_findersAt_4 (M.1 38) x1 nf)), none]) (st2 := [.int (d_findersAt_4 (M.1 38) x1 nf)]) (M2 := M) (Ps := []) (by decide +kernel) rfl rfl trivial ?_
  exact G.reti (by decide +kernel) rfl rfl (Nat.le_of_ble_eq_true rfl) (Nat.le_of_ble_eq_true rfl) ((by rw [hQ]; simp only [d_findersAt, mrow_self]))
set_option maxHeartbeats 4000000 in
set_option maxRecDepth 3000 in
theorem lp_e_empty_0_4 (z : Zp) (d : Nat) (M : Mem) (Q : Rs → Prop) (np : Nat) (hnp : np ≤ 8) (hp : M.1 3 0 = nI np) (nt : Nat) (hnt : nt ≤ 10) (ht : M.1 3 2 = nI nt) (nf : Nat) (hnf : nf ≤ 6) (hf : M.1 3 3 = nI nf) (hX : G z mX11_empty (d + 1) 0 0 49 [none, some (.int (e_empty_4 (M.1 38) nt nf np)), none] [] M Q) : G z mX11_empty (d + 1) 0 0 4 [some (.ref 0), some (.int (nI 0)), some (.int (nI 0))] [] M Q := by
  refine down (n := np) (P := fun i2 => G z mX11_empty (d + 1) 0 0 4 [some (.ref 0), some (.int (e_empty_4 (M.1 38) nt nf i2)), some (.int (nI i2))] [] M Q) ?_ ?_ 0 (Nat.zero_le _)
  · skip
    refine G.sl [(.iload_n 2, 1, 2, 0, 0, 0), (.aload_n 0, 1, 0, 0, 0, 0), (.getfield 19, 3, 10, 1, 107, 0), (.getfield 163, 3, 6, 0, 17, 0)] [] (pc2 := 12) (ls2 := [some (.ref 0), some (.int (e_empty_4 (M.1 38) nt nf np)), some (.int (nI np))]) (st2 := [.int (M.1 3 0), .int (nI np)]) (M2 := M) (Ps := []) (by decide +kernel) rfl rfl trivial ?_
    rw [hp]
    refine G.ic_ge (off := (37)) (tgt := 49) (by decide +kernel) rfl (fun _ => ?_) (fun h9 => absurd (nI_le (by omega) (by omega)) h9)
    refine G.loc (ls2 := [none, some (.int (e_empty_4 (M.1 38) nt nf np)), none]) (by simp [subL]) ?_
    exact hX
  · skip
    intro i2 hi ih
    show G z mX11_empty (d + 1) 0 0 4 [some (.ref 0), some (.int (e_empty_4 (M.1 38) nt nf i2)), some (.int (nI i2))] [] M Q
    refine G.sl [(.iload_n 2, 1, 2, 0, 0, 0), (.aload_n 0, 1, 0, 0, 0, 0), (.getfield 19, 3, 10, 1, 107, 0), (.getfield 163, 3, 6, 0, 17, 0)] [] (pc2 := 12) (ls2 := [some (.ref 0), some (.int (e_empty_4 (M.1 38) nt nf i2)), some (.int (nI i2))]) (st2 := [.int (M.1 3 0), .int (nI i2)]) (M2 := M) (Ps := []) (by decide +kernel) rfl rfl trivial ?_
    rw [hp]
    refine G.ic_ge (off := (37)) (tgt := 49) (by decide +kernel) rfl (fun h9 => absurd h9 (nI_ge (by omega) (by omega))) (fun _ => ?_)
    refine G.sl [(.aload_n 0, 1, 0, 0, 0, 0), (.getfield 60, 3, 10, 8, 114, 0), (.iload_n 2, 1, 2, 0, 0, 0)] [] (pc2 := 20) (ls2 := [some (.ref 0), some (.int (e_empty_4 (M.1 38) nt nf i2)), some (.int (nI i2))]) (st2 := [.int (nI i2), .ref 37]) (M2 := M) (Ps := []) (by decide +kernel) rfl rfl trivial ?_
    have t2 : GM z mX1_lyingAt (d) [.ref 37, .int (nI i2)] M (fun rs => rs = .inl (some (.int (d_lyingAt (M.1 38) nt (nI i2))), M)) := by
      have q9 := c_d_lyingAt_37 z d M (nI i2) nt hnt ht
      try simp only [mput, mrow_same, mrow_hit, mrow_miss, mrow_sw, idr_eq, ne_eq, Nat.reduceEqDiff, not_false_eq_true, Nat.reduceLT, reduceCtorEq] at q9
      exact q9
    refine G.callV (as := [.int (nI i2)]) (rest := []) (a := 37) oX1_lyingAt lk_EvenFinders_215 (by decide +kernel) rfl rfl ⟨rfl, rfl⟩ (Nat.le_of_ble_eq_true rfl) rfl ⟨Nat.le_of_ble_eq_true rfl, Nat.le_of_ble_eq_true rfl⟩ t2 (fun v9 N9 h3 => ?_) (fun E9 N9 h3 => by cases h3)
    cases h3
    show G z mX11_empty (d + 1) 0 0 23 [some (.ref 0), some (.int (e_empty_4 (M.1 38) nt nf i2)), some (.int (nI i2))] [.int (d_lyingAt (M.1 38) nt (nI i2))] M Q
    refine G.if_ne (off := (20)) (tgt := 43) (by decide +kernel) rfl (fun c4 => ?_) (fun c4 => ?_)
    · skip
      refine G.sl [(.iinc 2 1, 3, 2, 0, 0, nI 1), (.goto (-42), 3, 4, 0, 0, 0)] [] (pc2 := 4) (ls2 := [some (.ref 0), some (.int (e_empty_4 (M.1 38) nt nf i2)), some (.int ((nI i2) + nI 1))]) (st2 := []) (M2 := M) (Ps := []) (by decide +kernel) rfl rfl trivial ?_
      rw [nI_add i2 1]
      simp only [e_empty_4, if_neg c4] at ih
      exact ih
    · skip
      refine G.sl [(.aload_n 0, 1, 0, 0, 0, 0), (.getfield 60, 3, 10, 8, 114, 0), (.iload_n 2, 1, 2, 0, 0, 0)] [] (pc2 := 31) (ls2 := [some (.ref 0), some (.int (e_empty_4 (M.1 38) nt nf i2)), some (.int (nI i2))]) (st2 := [.int (nI i2), .ref 37]) (M2 := M) (Ps := []) (by decide +kernel) rfl rfl trivial ?_
      have t6 : GM z mX1_findersAt (d) [.ref 37, .int (nI i2)] M (fun rs => rs = .inl (some (.int (d_findersAt (M.1 38) nf (nI i2))), M)) := by
        have q9 := c_d_findersAt_37 z d M (nI i2) nf hnf hf
        try simp only [mput, mrow_same, mrow_hit, mrow_miss, mrow_sw, idr_eq, ne_eq, Nat.reduceEqDiff, not_false_eq_true, Nat.reduceLT, reduceCtorEq] at q9
        exact q9
      refine G.callV (as := [.int (nI i2)]) (rest := []) (a := 37) oX1_findersAt lk_EvenFinders_222 (by decide +kernel) rfl rfl ⟨rfl, rfl⟩ (Nat.le_of_ble_eq_true rfl) rfl ⟨Nat.le_of_ble_eq_true rfl, Nat.le_of_ble_eq_true rfl⟩ t6 (fun v9 N9 h7 => ?_) (fun E9 N9 h7 => by cases h7)
      cases h7
      show G z mX11_empty (d + 1) 0 0 34 [some (.ref 0), some (.int (e_empty_4 (M.1 38) nt nf i2)), some (.int (nI i2))] [.int (d_findersAt (M.1 38) nf (nI i2))] M Q
      refine G.if_ne (off := (9)) (tgt := 43) (by decide +kernel) rfl (fun c8 => ?_) (fun c8 => ?_)
      · skip
        refine G.sl [(.iinc 2 1, 3, 2, 0, 0, nI 1), (.goto (-42), 3, 4, 0, 0, 0)] [] (pc2 := 4) (ls2 := [some (.ref 0), some (.int (e_empty_4 (M.1 38) nt nf i2)), some (.int ((nI i2) + nI 1))]) (st2 := []) (M2 := M) (Ps := []) (by decide +kernel) rfl rfl trivial ?_
        rw [nI_add i2 1]
        simp only [e_empty_4, if_pos c4, if_neg c8] at ih
        exact ih
      · skip
        refine G.sl [(.iload_n 1, 1, 1, 0, 0, 0), (.iconst 1, 1, 0, 0, 0, nI 1), (.iload_n 2, 1, 2, 0, 0, 0), (.ishl, 1, 0, 0, 0, 0), (.ior, 1, 0, 0, 0, 0), (.istore_n 1, 1, 1, 0, 0, 0), (.iinc 2 1, 3, 2, 0, 0, nI 1), (.goto (-42), 3, 4, 0, 0, 0)] [] (pc2 := 4) (ls2 := [some (.ref 0), some (.int ((e_empty_4 (M.1 38) nt nf i2) ||| ((nI 1) <<< ((nI i2) &&& 31)))), some (.int ((nI i2) + nI 1))]) (st2 := []) (M2 := M) (Ps := []) (by decide +kernel) rfl rfl trivial ?_
        rw [nI_add i2 1]
        simp only [e_empty_4, if_pos c4, if_pos c8] at ih
        exact ih
set_option maxHeartbeats 4000000 in
set_option maxRecDepth 3000 in
theorem c_e_empty_0 (z : Zp) (d : Nat) (M : Mem) (np : Nat) (hnp : np ≤ 8) (hp : M.1 3 0 = nI np) (nt : Nat) (hnt : nt ≤ 10) (ht : M.1 3 2 = nI nt) (nf : Nat) (hnf : nf ≤ 6) (hf : M.1 3 3 = nI nf) : GM z mX11_empty (d + 1) [.ref 0] M (fun rs => rs = e_empty M np nt nf) := by
  refine GM.of oX11_empty.1 (Nat.le_of_ble_eq_true rfl) ?_
  show G z mX11_empty (d + 1) 0 0 0 [some (.ref 0), none, none] [] M _
  obtain ⟨Q, hQ⟩ : ∃ Q : Rs → Prop, Q = (fun rs => rs = e_empty M np nt nf) := ⟨_, rfl⟩
  rw [← hQ]
  refine G.sl [(.iconst 0, 1, 0, 0, 0, nI 0), (.istore_n 1, 1, 1, 0, 0, 0), (.iconst 0, 1, 0, 0, 0, nI 0), (.istore_n 2, 1, 2, 0, 0, 0)] [] (pc2 := 4) (ls2 := [some (.ref 0), some (.int (nI 0)), some (.int (nI 0))]) (st2 := []) (M2 := M) (Ps := []) (by decide +kernel) rfl rfl trivial ?_
  refine lp_e_empty_0_4 z d M Q np hnp hp nt hnt ht nf hnf hf ?_
  show G z mX11_empty (d + 1) 0 0 49 [none, some (.int (e_empty_4 (M.1 38) nt nf np)), none] [] M Q
  refine G.sl [(.iload_n 1, 1, 1, 0, 0, 0)] [] (pc2 := 50) (ls2 := [none, some (.int (e_empty_4 (M.1 38) nt nf np)), none]) (st2 := [.int (e_empty_4 (M.1 38) nt nf np)]) (M2 := M) (Ps := []) (by decide +kernel) rfl rfl trivial ?_
  exact G.reti (by decide +kernel) rfl rfl (Nat.le_of_ble_eq_true rfl) (Nat.le_of_ble_eq_true rfl) ((by rw [hQ]; simp only [e_empty, mrow_self]))
set_option maxHeartbeats 4000000 in
set_option maxRecDepth 3000 in
theorem lp_e_lucky_0_4 (z : Zp) (d : Nat) (M : Mem) (Q : Rs → Prop) (nt : Nat) (hnt : nt ≤ 10) (ht : M.1 3 2 = nI nt) (nf : Nat) (hnf : nf ≤ 6) (hf : M.1 3 3 = nI nf) (hX : G z mX11_lucky (d + 1) 0 0 63 [none, some (.int (e_lucky_4 (M.1 38) nt nf)), none] [] M Q) : G z mX11_lucky (d + 1) 0 0 4 [some (.ref 0), some (.int (nI 0)), some (.int (nI 0))] [] M Q := by
  refine down (n := nf) (P := fun i2 => G z mX11_lucky (d + 1) 0 0 4 [some (.ref 0), some (.int (e_lucky_4 (M.1 38) nt i2)), some (.int (nI i2))] [] M Q) ?_ ?_ 0 (Nat.zero_le _)
  · skip
    refine G.sl [(.iload_n 2, 1, 2, 0, 0, 0), (.aload_n 0, 1, 0, 0, 0, 0), (.getfield 19, 3, 10, 1, 107, 0), (.getfield 189, 3, 6, 3, 33, 0)] [] (pc2 := 12) (ls2 := [some (.ref 0), some (.int (e_lucky_4 (M.1 38) nt nf)), some (.int (nI nf))]) (st2 := [.int (M.1 3 3), .int (nI nf)]) (M2 := M) (Ps := []) (by decide +kernel) rfl rfl trivial ?_
    rw [hf]
    refine G.ic_ge (off := (51)) (tgt := 63) (by decide +kernel) rfl (fun _ => ?_) (fun h9 => absurd (nI_le (by omega) (by omega)) h9)
    refine G.loc (ls2 := [none, some (.int (e_lucky_4 (M.1 38) nt nf)), none]) (by simp [subL]) ?_
    exact hX
  · skip
    intro i2 hi ih
    show G z mX11_lucky (d + 1) 0 0 4 [some (.ref 0), some (.int (e_lucky_4 (M.1 38) nt i2)), some (.int (nI i2))] [] M Q
    refine G.sl [(.iload_n 2, 1, 2, 0, 0, 0), (.aload_n 0, 1, 0, 0, 0, 0), (.getfield 19, 3, 10, 1, 107, 0), (.getfield 189, 3, 6, 3, 33, 0)] [] (pc2 := 12) (ls2 := [some (.ref 0), some (.int (e_lucky_4 (M.1 38) nt i2)), some (.int (nI i2))]) (st2 := [.int (M.1 3 3), .int (nI i2)]) (M2 := M) (Ps := []) (by decide +kernel) rfl rfl trivial ?_
    rw [hf]
    refine G.ic_ge (off := (51)) (tgt := 63) (by decide +kernel) rfl (fun h9 => absurd h9 (nI_ge (by omega) (by omega))) (fun _ => ?_)
    refine G.sl [(.aload_n 0, 1, 0, 0, 0, 0), (.getfield 60, 3, 10, 8, 114, 0), (.getfield 192, 3, 1, 0, 77, 0), (.bipush 7, 2, 0, 0, 0, nI 7), (.iload_n 2, 1, 2, 0, 0, 0), (.iadd, 1, 0, 0, 0, 0), (.iaload, 1, 0, 0, 0, 0)] [7 + i2] (pc2 := 27) (ls2 := [some (.ref 0), some (.int (e_lucky_4 (M.1 38) nt i2)), some (.int (nI i2))]) (st2 := [.int (M.1 38 (7 + i2))]) (M2 := M) (Ps := [((nI 7) + (nI i2)) = nI (7 + i2) ∧ (7 + i2) < 51]) (by decide +kernel) rfl rfl ⟨⟨(nI_add _ _), (by omega)⟩, trivial⟩ ?_
    refine G.if_gt (off := (30)) (tgt := 57) (by decide +kernel) rfl (fun c1 => ?_) (fun c1 => ?_)
    · skip
      refine G.sl [(.iinc 2 1, 3, 2, 0, 0, nI 1), (.goto (-56), 3, 4, 0, 0, 0)] [] (pc2 := 4) (ls2 := [some (.ref 0), some (.int (e_lucky_4 (M.1 38) nt i2)), some (.int ((nI i2) + nI 1))]) (st2 := []) (M2 := M) (Ps := []) (by decide +kernel) rfl rfl trivial ?_
      rw [nI_add i2 1]
      simp only [e_lucky_4, if_pos c1] at ih
      exact ih
    · skip
      refine G.sl [(.aload_n 0, 1, 0, 0, 0, 0), (.getfield 60, 3, 10, 8, 114, 0), (.aload_n 0, 1, 0, 0, 0, 0), (.getfield 60, 3, 10, 8, 114, 0), (.getfield 192, 3, 1, 0, 77, 0), (.iconst 1, 1, 0, 0, 0, nI 1), (.iload_n 2, 1, 2, 0, 0, 0), (.iadd, 1, 0, 0, 0, 0), (.iaload, 1, 0, 0, 0, 0)] [1 + i2] (pc2 := 45) (ls2 := [some (.ref 0), some (.int (e_lucky_4 (M.1 38) nt i2)), some (.int (nI i2))]) (st2 := [.int (M.1 38 (1 + i2)), .ref 37]) (M2 := M) (Ps := [((nI 1) + (nI i2)) = nI (1 + i2) ∧ (1 + i2) < 51]) (by decide +kernel) rfl rfl ⟨⟨(nI_add _ _), (by omega)⟩, trivial⟩ ?_
      have t3 : GM z mX1_lyingAt (d) [.ref 37, .int (M.1 38 (1 + i2))] M (fun rs => rs = .inl (some (.int (d_lyingAt (M.1 38) nt (M.1 38 (1 + i2)))), M)) := by
        have q9 := c_d_lyingAt_37 z d M (M.1 38 (1 + i2)) nt hnt ht
        try simp only [mput, mrow_same, mrow_hit, mrow_miss, mrow_sw, idr_eq, ne_eq, Nat.reduceEqDiff, not_false_eq_true, Nat.reduceLT, reduceCtorEq] at q9
        exact q9
      refine G.callV (as := [.int (M.1 38 (1 + i2))]) (rest := []) (a := 37) oX1_lyingAt lk_EvenFinders_215 (by decide +kernel) rfl rfl ⟨rfl, rfl⟩ (Nat.le_of_ble_eq_true rfl) rfl ⟨Nat.le_of_ble_eq_true rfl, Nat.le_of_ble_eq_true rfl⟩ t3 (fun v9 N9 h4 => ?_) (fun E9 N9 h4 => by cases h4)
      cases h4
      show G z mX11_lucky (d + 1) 0 0 48 [some (.ref 0), some (.int (e_lucky_4 (M.1 38) nt i2)), some (.int (nI i2))] [.int (d_lyingAt (M.1 38) nt (M.1 38 (1 + i2)))] M Q
      refine G.if_eq (off := (9)) (tgt := 57) (by decide +kernel) rfl (fun c5 => ?_) (fun c5 => ?_)
      · skip
        refine G.sl [(.iinc 2 1, 3, 2, 0, 0, nI 1), (.goto (-56), 3, 4, 0, 0, 0)] [] (pc2 := 4) (ls2 := [some (.ref 0), some (.int (e_lucky_4 (M.1 38) nt i2)), some (.int ((nI i2) + nI 1))]) (st2 := []) (M2 := M) (Ps := []) (by decide +kernel) rfl rfl trivial ?_
        rw [nI_add i2 1]
        simp only [e_lucky_4, if_neg c1, if_pos c5] at ih
        exact ih
      · skip
        refine G.sl [(.iload_n 1, 1, 1, 0, 0, 0), (.iconst 1, 1, 0, 0, 0, nI 1), (.iload_n 2, 1, 2, 0, 0, 0), (.ishl, 1, 0, 0, 0, 0), (.ior, 1, 0, 0, 0, 0), (.istore_n 1, 1, 1, 0, 0, 0), (.iinc 2 1, 3, 2, 0, 0, nI 1), (.goto (-56), 3, 4, 0, 0, 0)] [] (pc2 := 4) (ls2 := [some (.ref 0), some (.int ((e_lucky_4 (M.1 38) nt i2) ||| ((nI 1) <<< ((nI i2) &&& 31)))), some (.int ((nI i2) + nI 1))]) (st2 := []) (M2 := M) (Ps := []) (by decide +kernel) rfl rfl trivial ?_
        rw [nI_add i2 1]
        simp only [e_lucky_4, if_neg c1, if_neg c5] at ih
        exact ih
set_option maxHeartbeats 4000000 in
set_option maxRecDepth 3000 in
theorem c_e_lucky_0 (z : Zp) (d : Nat) (M : Mem) (nt : Nat) (hnt : nt ≤ 10) (ht : M.1 3 2 = nI nt) (nf : Nat) (hnf : nf ≤ 6) (hf : M.1 3 3 = nI nf) : GM z mX11_lucky (d + 1) [.ref 0] M (fun rs => rs = e_lucky M nt nf) := by
  refine GM.of oX11_lucky.1 (Nat.le_of_ble_eq_true rfl) ?_
  show G z mX11_lucky (d + 1) 0 0 0 [some (.ref 0), none, none] [] M _
  obtain ⟨Q, hQ⟩ : ∃ Q : Rs → Prop, Q = (fun rs => rs = e_lucky M nt nf) := ⟨_, rfl⟩
  rw [← hQ]
  refine G.sl [(.iconst 0, 1, 0, 0, 0, nI 0), (.istore_n 1, 1, 1, 0, 0, 0), (.iconst 0, 1, 0, 0, 0, nI 0), (.istore_n 2, 1, 2, 0, 0, 0)] [] (pc2 := 4) (ls2 := [some (.ref 0), some (.int (nI 0)), some (.int (nI 0))]) (st2 := []) (M2 := M) (Ps := []) (by decide +kernel) rfl rfl trivial ?_
  refine lp_e_lucky_0_4 z d M Q nt hnt ht nf hnf hf ?_
  show G z mX11_lucky (d + 1) 0 0 63 [none, some (.int (e_lucky_4 (M.1 38) nt nf)), none] [] M Q
  refine G.sl [(.iload_n 1, 1, 1, 0, 0, 0)] [] (pc2 := 64) (ls2 := [none, some (.int (e_lucky_4 (M.1 38) nt nf)), none]) (st2 := [.int (e_lucky_4 (M.1 38) nt nf)]) (M2 := M) (Ps := []) (by decide +kernel) rfl rfl trivial ?_
  exact G.reti (by decide +kernel) rfl rfl (Nat.le_of_ble_eq_true rfl) (Nat.le_of_ble_eq_true rfl) ((by rw [hQ]; simp only [e_lucky, mrow_self]))
set_option maxHeartbeats 4000000 in
set_option maxRecDepth 3000 in
theorem c_e_image_0 (z : Zp) (d : Nat) (M : Mem) (hk : e_image_ok M) : GM z mX11_image (d + 2) [.ref 0] M (fun rs => rs = e_image M) := by
  simp only [e_image_ok] at hk
  refine GM.of oX11_image.1 (Nat.le_of_ble_eq_true rfl) ?_
  show G z mX11_image (d + 2) 0 0 0 [some (.ref 0)] [] M _
  obtain ⟨Q, hQ⟩ : ∃ Q : Rs → Prop, Q = (fun rs => rs = e_image M) := ⟨_, rfl⟩
  rw [← hQ]
  refine G.sl [(.aload_n 0, 1, 0, 0, 0, 0), (.getfield 70, 3, 10, 10, 116, 0), (.aload_n 0, 1, 0, 0, 0, 0), (.getfield 60, 3, 10, 8, 114, 0)] [] (pc2 := 8) (ls2 := [some (.ref 0)]) (st2 := [.ref 37, .ref 43]) (M2 := M) (Ps := []) (by decide +kernel) rfl rfl trivial ?_
  obtain ⟨k1, hk⟩ := hk
  rcases g2 : h_keepImage (M.1 38) (M.1 43) (M.1 44) (M.1 45) (M.1 46) with ⟨v3, r4, r5, r6⟩
  have ev3 : v3 = 0 ∨ v3 = 1 := by
    have q9 := h_keepImage_01 (M.1 38) (M.1 43) (M.1 44) (M.1 45) (M.1 46)
    rw [g2] at q9
    exact q9
  have t7 : GM z mX2_keepImage (d + 1) [.ref 43, .ref 37] M (fun rs => rs = .inl (some (.int v3), mrow (mrow (mrow M 43 r4) 45 r5) 46 r6)) := by
    have q9 := c_h_keepImage_43_37 z d M k1
    try simp only [mput, mrow_same, mrow_hit, mrow_miss, mrow_sw, idr_eq, ne_eq, Nat.reduceEqDiff, not_false_eq_true, Nat.reduceLT, reduceCtorEq, g2] at q9
    exact q9
  refine G.callV (as := [.ref 37]) (rest := []) (a := 43) oX2_keepImage lk_EvenFinders_359 (by decide +kernel) rfl rfl ⟨rfl, rfl⟩ (Nat.le_of_ble_eq_true rfl) rfl ⟨Nat.le_of_ble_eq_true rfl, Nat.le_of_ble_eq_true rfl⟩ t7 (fun v9 N9 h8 => ?_) (fun E9 N9 h8 => by cases h8)
  cases h8
  show G z mX11_image (d + 2) 0 0 11 [some (.ref 0)] [.int v3] (mrow (mrow (mrow M 43 r4) 45 r5) 46 r6) Q
  refine G.if_eq (off := (13)) (tgt := 24) (by decide +kernel) rfl (fun c9 => ?_) (fun c9 => ?_)
  · skip
    refine G.sl [(.iconst (-1), 1, 0, 0, 0, (-1))] [] (pc2 := 25) (ls2 := [some (.ref 0)]) (st2 := [.int ((-1))]) (M2 := mrow (mrow (mrow M 43 r4) 45 r5) 46 r6) (Ps := []) (by decide +kernel) rfl rfl trivial ?_
    exact G.reti (by decide +kernel) rfl rfl (Nat.le_of_ble_eq_true rfl) (Nat.le_of_ble_eq_true rfl) ((by rw [hQ]; simp only [e_image, g2, if_pos c9, mrow_self]))
  · skip
    refine G.sl [(.aload_n 0, 1, 0, 0, 0, 0), (.getfield 70, 3, 10, 10, 116, 0), (.getfield 362, 3, 2, 1, 84, 0), (.goto 4, 3, 25, 0, 0, 0)] [] (pc2 := 25) (ls2 := [some (.ref 0)]) (st2 := [.int (r4 1)]) (M2 := mrow (mrow (mrow M 43 r4) 45 r5) 46 r6) (Ps := []) (by decide +kernel) rfl rfl trivial ?_
    exact G.reti (by decide +kernel) rfl rfl (Nat.le_of_ble_eq_true rfl) (Nat.le_of_ble_eq_true rfl) ((by rw [hQ]; simp only [e_image, g2, if_neg c9, mrow_self]))
set_option maxHeartbeats 4000000 in
set_option maxRecDepth 3000 in
theorem c_e_restore_0 (z : Zp) (d : Nat) (M : Mem) (hk : e_restore_ok M) : GM z mX11_restore (d + 2) [.ref 0] M (fun rs => rs = e_restore M) := by
  simp only [e_restore_ok] at hk
  refine GM.of oX11_restore.1 (Nat.le_of_ble_eq_true rfl) ?_
  show G z mX11_restore (d + 2) 0 0 0 [some (.ref 0)] [] M _
  obtain ⟨Q, hQ⟩ : ∃ Q : Rs → Prop, Q = (fun rs => rs = e_restore M) := ⟨_, rfl⟩
  rw [← hQ]
  refine G.sl [(.aload_n 0, 1, 0, 0, 0, 0), (.getfield 70, 3, 10, 10, 116, 0), (.aload_n 0, 1, 0, 0, 0, 0), (.getfield 60, 3, 10, 8, 114, 0)] [] (pc2 := 8) (ls2 := [some (.ref 0)]) (st2 := [.ref 37, .ref 43]) (M2 := M) (Ps := []) (by decide +kernel) rfl rfl trivial ?_
  obtain ⟨k1, hk⟩ := hk
  rcases g2 : h_takeImageBack (M.1 38) (M.1 43) (M.1 44) (M.1 45) (M.1 46) with ⟨v3, r4, r5, r6⟩
  have ev3 : v3 = 0 ∨ v3 = 1 := by
    have q9 := h_takeImageBack_01 (M.1 38) (M.1 43) (M.1 44) (M.1 45) (M.1 46)
    rw [g2] at q9
    exact q9
  have t7 : GM z mX2_takeImageBack (d + 1) [.ref 43, .ref 37] M (fun rs => rs = .inl (some (.int v3), mrow (mrow (mrow M 38 r4) 43 r5) 44 r6)) := by
    have q9 := c_h_takeImageBack_43_37 z d M k1
    try simp only [mput, mrow_same, mrow_hit, mrow_miss, mrow_sw, idr_eq, ne_eq, Nat.reduceEqDiff, not_false_eq_true, Nat.reduceLT, reduceCtorEq, g2] at q9
    exact q9
  refine G.callV (as := [.ref 37]) (rest := []) (a := 43) oX2_takeImageBack lk_EvenFinders_365 (by decide +kernel) rfl rfl ⟨rfl, rfl⟩ (Nat.le_of_ble_eq_true rfl) rfl ⟨Nat.le_of_ble_eq_true rfl, Nat.le_of_ble_eq_true rfl⟩ t7 (fun v9 N9 h8 => ?_) (fun E9 N9 h8 => by cases h8)
  cases h8
  show G z mX11_restore (d + 2) 0 0 11 [some (.ref 0)] [.int v3] (mrow (mrow (mrow M 38 r4) 43 r5) 44 r6) Q
  refine G.if_ne (off := (5)) (tgt := 16) (by decide +kernel) rfl (fun c9 => ?_) (fun c9 => ?_)
  · skip
    refine G.sl [(.aload_n 0, 1, 0, 0, 0, 0), (.iconst 0, 1, 0, 0, 0, nI 0), (.putfield 136, 3, 10, 14, 120, 0), (.aload_n 0, 1, 0, 0, 0, 0), (.getfield 70, 3, 10, 10, 116, 0), (.getfield 362, 3, 2, 1, 84, 0)] [] (pc2 := 28) (ls2 := [some (.ref 0)]) (st2 := [.int (r5 1)]) (M2 := mput (mrow (mrow (mrow M 38 r4) 43 r5) 44 r6) 0 14 (nI 0)) (Ps := []) (by decide +kernel) rfl rfl trivial ?_
    refine G.mem (M' := mrow (mrow (mrow (mrow M 0 (upd (M.1 0) 14 (nI 0))) 38 r4) 43 r5) 44 r6) (by first | rfl | (simp only [mput, mrow_same, mrow_hit, mrow_miss, mrow_sw, idr_eq, ne_eq, Nat.reduceEqDiff, not_false_eq_true, Nat.reduceLT, reduceCtorEq]; done)) ?_
    exact G.reti (by decide +kernel) rfl rfl (Nat.le_of_ble_eq_true rfl) (Nat.le_of_ble_eq_true rfl) ((by rw [hQ]; simp only [e_restore, g2, if_neg c9, mrow_self]))
  · skip
    refine G.sl [(.iconst (-1), 1, 0, 0, 0, (-1))] [] (pc2 := 15) (ls2 := [some (.ref 0)]) (st2 := [.int ((-1))]) (M2 := mrow (mrow (mrow M 38 r4) 43 r5) 44 r6) (Ps := []) (by decide +kernel) rfl rfl trivial ?_
    exact G.reti (by decide +kernel) rfl rfl (Nat.le_of_ble_eq_true rfl) (Nat.le_of_ble_eq_true rfl) ((by rw [hQ]; simp only [e_restore, g2, if_pos c9, mrow_self]))
set_option maxHeartbeats 4000000 in
set_option maxRecDepth 3000 in
theorem c_e_status_0 (z : Zp) (d : Nat) (M : Mem) (x1 : Int32) : GM z mX11_status (d) [.ref 0, .int x1] M (fun rs => rs = e_status M x1) := by
  refine GM.of oX11_status.1 (Nat.le_of_ble_eq_true rfl) ?_
  show G z mX11_status (d) 0 0 0 [some (.ref 0), some (.int x1)] [] M _
  obtain ⟨Q, hQ⟩ : ∃ Q : Rs → Prop, Q = (fun rs => rs = e_status M x1) := ⟨_, rfl⟩
  rw [← hQ]
  refine G.sl [(.iload_n 1, 1, 1, 0, 0, 0)] [] (pc2 := 1) (ls2 := [some (.ref 0), some (.int x1)]) (st2 := [.int x1]) (M2 := M) (Ps := []) (by decide +kernel) rfl rfl trivial ?_
  refine G.if_ne (off := (8)) (tgt := 9) (by decide +kernel) rfl (fun c1 => ?_) (fun c1 => ?_)
  · skip
    refine G.sl [(.iload_n 1, 1, 1, 0, 0, 0), (.iconst 1, 1, 0, 0, 0, nI 1)] [] (pc2 := 11) (ls2 := [some (.ref 0), some (.int x1)]) (st2 := [.int (nI 1), .int x1]) (M2 := M) (Ps := []) (by decide +kernel) rfl rfl trivial ?_
    refine G.ic_ne (off := (10)) (tgt := 21) (by decide +kernel) rfl (fun c2 => ?_) (fun c2 => ?_)
    · skip
      refine G.sl [(.iconst (-1), 1, 0, 0, 0, (-1))] [] (pc2 := 22) (ls2 := [some (.ref 0), some (.int x1)]) (st2 := [.int ((-1))]) (M2 := M) (Ps := []) (by decide +kernel) rfl rfl trivial ?_
      exact G.reti (by decide +kernel) rfl rfl (Nat.le_of_ble_eq_true rfl) (Nat.le_of_ble_eq_true rfl) ((by rw [hQ]; simp only [e_status, if_neg c1, if_neg c2, mrow_self]))
    · skip
      refine G.sl [(.aload_n 0, 1, 0, 0, 0, 0), (.getfield 371, 3, 10, 16, 122, 0), (.goto 4, 3, 22, 0, 0, 0)] [] (pc2 := 22) (ls2 := [some (.ref 0), some (.int x1)]) (st2 := [.int (M.1 0 16)]) (M2 := M) (Ps := []) (by decide +kernel) rfl rfl trivial ?_
      exact G.reti (by decide +kernel) rfl rfl (Nat.le_of_ble_eq_true rfl) (Nat.le_of_ble_eq_true rfl) ((by rw [hQ]; simp only [e_status, if_neg c1, if_pos c2, mrow_self]))
  · skip
    refine G.sl [(.aload_n 0, 1, 0, 0, 0, 0), (.getfield 368, 3, 10, 15, 121, 0)] [] (pc2 := 8) (ls2 := [some (.ref 0), some (.int x1)]) (st2 := [.int (M.1 0 15)]) (M2 := M) (Ps := []) (by decide +kernel) rfl rfl trivial ?_
    exact G.reti (by decide +kernel) rfl rfl (Nat.le_of_ble_eq_true rfl) (Nat.le_of_ble_eq_true rfl) ((by rw [hQ]; simp only [e_status, if_pos c1, mrow_self]))
set_option maxHeartbeats 4000000 in
set_option maxRecDepth 3000 in
theorem c_e_count_0 (z : Zp) (d : Nat) (M : Mem) (x1 : Int32) : GM z mX11_count (d) [.ref 0, .int x1] M (fun rs => rs = e_count M x1) := by
  refine GM.of oX11_count.1 (Nat.le_of_ble_eq_true rfl) ?_
  show G z mX11_count (d) 0 0 0 [some (.ref 0), some (.int x1)] [] M _
  obtain ⟨Q, hQ⟩ : ∃ Q : Rs → Prop, Q = (fun rs => rs = e_count M x1) := ⟨_, rfl⟩
  rw [← hQ]
  refine G.sl [(.iload_n 1, 1, 1, 0, 0, 0)] [] (pc2 := 1) (ls2 := [some (.ref 0), some (.int x1)]) (st2 := [.int x1]) (M2 := M) (Ps := []) (by decide +kernel) rfl rfl trivial ?_
  by_cases c1 : x1 = nI 0
  · skip
    refine G.tabIn (dflt := 51) (lo := 0) (hi := 2) (offs := #[27, 35, 43]) (len := 27) (off := 27) (tgt := 28) (by decide +kernel) (by rw [c1]; decide) (by rw [c1]; decide) (by rw [c1]; rfl) rfl ?_
    refine G.sl [(.aload_n 0, 1, 0, 0, 0, 0), (.getfield 70, 3, 10, 10, 116, 0), (.getfield 362, 3, 2, 1, 84, 0)] [] (pc2 := 35) (ls2 := [some (.ref 0), some (.int x1)]) (st2 := [.int (M.1 43 1)]) (M2 := M) (Ps := []) (by decide +kernel) rfl rfl trivial ?_
    exact G.reti (by decide +kernel) rfl rfl (Nat.le_of_ble_eq_true rfl) (Nat.le_of_ble_eq_true rfl) ((by rw [hQ]; simp only [e_count, if_pos c1, mrow_self]))
  · skip
    by_cases c2 : x1 = nI 1
    · skip
      refine G.tabIn (dflt := 51) (lo := 0) (hi := 2) (offs := #[27, 35, 43]) (len := 27) (off := 35) (tgt := 36) (by decide +kernel) (by rw [c2]; decide) (by rw [c2]; decide) (by rw [c2]; rfl) rfl ?_
      refine G.sl [(.aload_n 0, 1, 0, 0, 0, 0), (.getfield 12, 3, 10, 0, 106, 0), (.getfield 101, 3, 5, 1, 1, 0)] [] (pc2 := 43) (ls2 := [some (.ref 0), some (.int x1)]) (st2 := [.int (M.1 1 1)]) (M2 := M) (Ps := []) (by decide +kernel) rfl rfl trivial ?_
      exact G.reti (by decide +kernel) rfl rfl (Nat.le_of_ble_eq_true rfl) (Nat.le_of_ble_eq_true rfl) ((by rw [hQ]; simp only [e_count, if_neg c1, if_pos c2, mrow_self]))
    · skip
      by_cases c3 : x1 = nI 2
      · skip
        refine G.tabIn (dflt := 51) (lo := 0) (hi := 2) (offs := #[27, 35, 43]) (len := 27) (off := 43) (tgt := 44) (by decide +kernel) (by rw [c3]; decide) (by rw [c3]; decide) (by rw [c3]; rfl) rfl ?_
        refine G.sl [(.aload_n 0, 1, 0, 0, 0, 0), (.getfield 70, 3, 10, 10, 116, 0), (.getfield 146, 3, 2, 0, 82, 0)] [] (pc2 := 51) (ls2 := [some (.ref 0), some (.int x1)]) (st2 := [.int (M.1 43 0)]) (M2 := M) (Ps := []) (by decide +kernel) rfl rfl trivial ?_
        exact G.reti (by decide +kernel) rfl rfl (Nat.le_of_ble_eq_true rfl) (Nat.le_of_ble_eq_true rfl) ((by rw [hQ]; simp only [e_count, if_neg c1, if_neg c2, if_pos c3, mrow_self]))
      · skip
        refine G.tabOut (dflt := 51) (lo := 0) (hi := 2) (offs := #[27, 35, 43]) (len := 27) (tgt := 52) (by decide +kernel) (by have q0 := toInt_ne c1; simp only [toInt_nI0] at q0; have q1 := toInt_ne c2; simp only [toInt_nI1] at q1; have q2 := toInt_ne c3; simp only [toInt_nI2] at q2; omega) rfl ?_
        refine G.sl [(.iconst (-1), 1, 0, 0, 0, (-1))] [] (pc2 := 53) (ls2 := [some (.ref 0), some (.int x1)]) (st2 := [.int ((-1))]) (M2 := M) (Ps := []) (by decide +kernel) rfl rfl trivial ?_
        exact G.reti (by decide +kernel) rfl rfl (Nat.le_of_ble_eq_true rfl) (Nat.le_of_ble_eq_true rfl) ((by rw [hQ]; simp only [e_count, if_neg c1, if_neg c2, if_neg c3, mrow_self]))
set_option maxHeartbeats 4000000 in
set_option maxRecDepth 3000 in
theorem c_e_town_0 (z : Zp) (d : Nat) (M : Mem) (x1 : Int32) (hk : e_town_ok M x1) : GM z mX11_town (d + 8) [.ref 0, .int x1] M (fun rs => rs = e_town M x1) := by
  simp only [e_town_ok] at hk
  refine GM.of oX11_town.1 (Nat.le_of_ble_eq_true rfl) ?_
  show G z mX11_town (d + 8) 0 0 0 [some (.ref 0), some (.int x1)] [] M _
  obtain ⟨Q, hQ⟩ : ∃ Q : Rs → Prop, Q = (fun rs => rs = e_town M x1) := ⟨_, rfl⟩
  rw [← hQ]
  refine G.sl [(.aload_n 0, 1, 0, 0, 0, 0), (.iload_n 1, 1, 1, 0, 0, 0), (.sipush 600, 3, 0, 0, 0, nI 600)] [] (pc2 := 5) (ls2 := [some (.ref 0), some (.int x1)]) (st2 := [.int (nI 600), .int x1, .ref 0]) (M2 := M) (Ps := []) (by decide +kernel) rfl rfl trivial ?_
  by_cases c1 : ¬ x1 < nI 0 ∧ x1 ≤ (if (M.1 1 1) < (nI 600) then M.1 1 1 else (nI 600))
  · skip
    rw [if_pos c1] at hk
    have t2 : GM z mX11_begin (d + 7) [.ref 0, .int x1, .int (nI 600)] M (fun rs => rs = .inl (none, mrow M 1 ((t_begin (M.1 1) x1).2))) := e_begin_g z d _ x1 (nI 600) c1
    refine G.callV (as := [.int x1, .int (nI 600)]) (rest := []) (a := 0) oX11_begin lk_EvenFinders_109 (by decide +kernel) rfl rfl ⟨rfl, rfl⟩ (Nat.le_of_ble_eq_true rfl) rfl ⟨Nat.le_of_ble_eq_true rfl, Nat.le_of_ble_eq_true rfl⟩ t2 (fun v9 N9 h3 => ?_) (fun E9 N9 h3 => by cases h3)
    cases h3
    show G z mX11_town (d + 8) 1 6 8 [some (.ref 0), some (.int x1)] [] (mrow M 1 ((t_begin (M.1 1) x1).2)) Q
    refine G.sl [(.aload_n 0, 1, 0, 0, 0, 0), (.getfield 23, 3, 10, 2, 108, 0), (.aload_n 0, 1, 0, 0, 0, 0), (.getfield 12, 3, 10, 0, 106, 0)] [] (pc2 := 16) (ls2 := [some (.ref 0), some (.int x1)]) (st2 := [.ref 1, .ref 12]) (M2 := mrow M 1 ((t_begin (M.1 1) x1).2)) (Ps := []) (by decide +kernel) rfl rfl trivial ?_
    obtain ⟨k4, hk⟩ := hk
    rcases g5 : v_readFrom ((t_begin (M.1 1) x1).2) (M.1 2) (M.1 12) (M.1 13) (M.1 14) (M.1 15) (M.1 16) (M.1 17) (M.1 18) (M.1 19) with ⟨u6, r7, r8, r9, r10, r11, r12, r13, r14, r15⟩
    try simp only [g5] at hk
    have t16 : GM z mX7_readFrom (d + 7) [.ref 12, .ref 1] (mrow M 1 ((t_begin (M.1 1) x1).2)) (fun rs => rs = .inl (none, mrow (mrow (mrow (mrow (mrow (mrow (mrow (mrow (mrow M 1 r7) 12 r8) 13 r9) 14 r10) 15 r11) 16 r12) 17 r13) 18 r14) 19 r15)) := by
      have q9 := c_v_readFrom_12_1 z (d + 1) (mrow M 1 ((t_begin (M.1 1) x1).2)) k4
      try simp only [mput, mrow_same, mrow_hit, mrow_miss, mrow_sw, idr_eq, ne_eq, Nat.reduceEqDiff, not_false_eq_true, Nat.reduceLT, reduceCtorEq, g5] at q9
      exact q9
    refine G.callV (as := [.ref 1]) (rest := []) (a := 12) oX7_readFrom lk_EvenFinders_113 (by decide +kernel) rfl rfl ⟨rfl, rfl⟩ (Nat.le_of_ble_eq_true rfl) rfl ⟨Nat.le_of_ble_eq_true rfl, Nat.le_of_ble_eq_true rfl⟩ t16 (fun v9 N9 h17 => ?_) (fun E9 N9 h17 => by cases h17)
    cases h17
    show G z mX11_town (d + 8) 1 6 19 [some (.ref 0), some (.int x1)] [] (mrow (mrow (mrow (mrow (mrow (mrow (mrow (mrow (mrow M 1 r7) 12 r8) 13 r9) 14 r10) 15 r11) 16 r12) 17 r13) 18 r14) 19 r15) Q
    refine G.sl [(.aload_n 0, 1, 0, 0, 0, 0), (.getfield 12, 3, 10, 0, 106, 0)] [] (pc2 := 23) (ls2 := [some (.ref 0), some (.int x1)]) (st2 := [.ref 1]) (M2 := mrow (mrow (mrow (mrow (mrow (mrow (mrow (mrow (mrow M 1 r7) 12 r8) 13 r9) 14 r10) 15 r11) 16 r12) 17 r13) 18 r14) 19 r15) (Ps := []) (by decide +kernel) rfl rfl trivial ?_
    obtain ⟨k18, hk⟩ := hk
    have t19 : GM z mX6_isFaulty (d + 7) [.ref 1] (mrow (mrow (mrow (mrow (mrow (mrow (mrow (mrow (mrow M 1 r7) 12 r8) 13 r9) 14 r10) 15 r11) 16 r12) 17 r13) 18 r14) 19 r15) (fun rs => rs = .inl (some (.int (t_isFaulty r7)), mrow (mrow (mrow (mrow (mrow (mrow (mrow (mrow (mrow M 1 r7) 12 r8) 13 r9) 14 r10) 15 r11) 16 r12) 17 r13) 18 r14) 19 r15)) := by
      have q9 := c_t_isFaulty_1 z (d + 7) (mrow (mrow (mrow (mrow (mrow (mrow (mrow (mrow (mrow M 1 r7) 12 r8) 13 r9) 14 r10) 15 r11) 16 r12) 17 r13) 18 r14) 19 r15) 
      try simp only [mput, mrow_same, mrow_hit, mrow_miss, mrow_sw, idr_eq, ne_eq, Nat.reduceEqDiff, not_false_eq_true, Nat.reduceLT, reduceCtorEq] at q9
      exact q9
    refine G.callV (as := []) (rest := []) (a := 1) oX6_isFaulty lk_EvenFinders_117 (by decide +kernel) rfl rfl ⟨rfl, rfl⟩ (Nat.le_of_ble_eq_true rfl) rfl ⟨Nat.le_of_ble_eq_true rfl, Nat.le_of_ble_eq_true rfl⟩ t19 (fun v9 N9 h20 => ?_) (fun E9 N9 h20 => by cases h20)
    cases h20
    show G z mX11_town (d + 8) 1 6 26 [some (.ref 0), some (.int x1)] [.int (t_isFaulty r7)] (mrow (mrow (mrow (mrow (mrow (mrow (mrow (mrow (mrow M 1 r7) 12 r8) 13 r9) 14 r10) 15 r11) 16 r12) 17 r13) 18 r14) 19 r15) Q
    refine G.if_eq (off := (14)) (tgt := 40) (by decide +kernel) rfl (fun c21 => ?_) (fun c21 => ?_)
    · skip
      rw [if_pos c21] at hk
      refine G.sl [(.aload_n 0, 1, 0, 0, 0, 0), (.getfield 19, 3, 10, 1, 107, 0), (.aload_n 0, 1, 0, 0, 0, 0), (.getfield 23, 3, 10, 2, 108, 0)] [] (pc2 := 48) (ls2 := [some (.ref 0), some (.int x1)]) (st2 := [.ref 12, .ref 3]) (M2 := mrow (mrow (mrow (mrow (mrow (mrow (mrow (mrow (mrow M 1 r7) 12 r8) 13 r9) 14 r10) 15 r11) 16 r12) 17 r13) 18 r14) 19 r15) (Ps := []) (by decide +kernel) rfl rfl trivial ?_
      obtain ⟨k22, hk⟩ := hk
      rcases g23 : v_take (M.1 3) (M.1 4) (M.1 5) (M.1 6) (M.1 7) (M.1 8) (M.1 9) (M.1 10) (M.1 11) r8 r9 r10 r11 r12 r13 r14 r15 with ⟨u24, r25, r26, r27, r28, r29, r30, r31, r32, r33⟩
      have t34 : GM z mX7_take (d + 7) [.ref 3, .ref 12] (mrow (mrow (mrow (mrow (mrow (mrow (mrow (mrow (mrow M 1 r7) 12 r8) 13 r9) 14 r10) 15 r11) 16 r12) 17 r13) 18 r14) 19 r15) (fun rs => rs = .inl (none, mrow (mrow (mrow (mrow (mrow (mrow (mrow (mrow (mrow (mrow (mrow (mrow (mrow (mrow (mrow (mrow (mrow (mrow M 1 r7) 3 r25) 4 r26) 5 r27) 6 r28) 7 r29) 8 r30) 9 r31) 10 r32) 11 r33) 12 r8) 13 r9) 14 r10) 15 r11) 16 r12) 17 r13) 18 r14) 19 r15)) := by
        have q9 := c_v_take_3_12 z (d + 4) (mrow (mrow (mrow (mrow (mrow (mrow (mrow (mrow (mrow M 1 r7) 12 r8) 13 r9) 14 r10) 15 r11) 16 r12) 17 r13) 18 r14) 19 r15) k22
        try simp only [mput, mrow_same, mrow_hit, mrow_miss, mrow_sw, idr_eq, ne_eq, Nat.reduceEqDiff, not_false_eq_true, Nat.reduceLT, reduceCtorEq, g23] at q9
        exact q9
      refine G.callV (as := [.ref 12]) (rest := []) (a := 3) oX7_take lk_EvenFinders_124 (by decide +kernel) rfl rfl ⟨rfl, rfl⟩ (Nat.le_of_ble_eq_true rfl) rfl ⟨Nat.le_of_ble_eq_true rfl, Nat.le_of_ble_eq_true rfl⟩ t34 (fun v9 N9 h35 => ?_) (fun E9 N9 h35 => by cases h35)
      cases h35
      show G z mX11_town (d + 8) 1 6 51 [some (.ref 0), some (.int x1)] [] (mrow (mrow (mrow (mrow (mrow (mrow (mrow (mrow (mrow (mrow (mrow (mrow (mrow (mrow (mrow (mrow (mrow (mrow M 1 r7) 3 r25) 4 r26) 5 r27) 6 r28) 7 r29) 8 r30) 9 r31) 10 r32) 11 r33) 12 r8) 13 r9) 14 r10) 15 r11) 16 r12) 17 r13) 18 r14) 19 r15) Q
      refine G.sl [(.aload_n 0, 1, 0, 0, 0, 0), (.getfield 29, 3, 10, 3, 109, 0)] [] (pc2 := 55) (ls2 := [some (.ref 0), some (.int x1)]) (st2 := [.ref 21]) (M2 := mrow (mrow (mrow (mrow (mrow (mrow (mrow (mrow (mrow (mrow (mrow (mrow (mrow (mrow (mrow (mrow (mrow (mrow M 1 r7) 3 r25) 4 r26) 5 r27) 6 r28) 7 r29) 8 r30) 9 r31) 10 r32) 11 r33) 12 r8) 13 r9) 14 r10) 15 r11) 16 r12) 17 r13) 18 r14) 19 r15) (Ps := []) (by decide +kernel) rfl rfl trivial ?_
      rcases g37 : l_makePlain (M.1 21) (M.1 23) with ⟨u38, r39, r40⟩
      have t41 : GM z mX3_makePlain (d + 7) [.ref 21] (mrow (mrow (mrow (mrow (mrow (mrow (mrow (mrow (mrow (mrow (mrow (mrow (mrow (mrow (mrow (mrow (mrow (mrow M 1 r7) 3 r25) 4 r26) 5 r27) 6 r28) 7 r29) 8 r30) 9 r31) 10 r32) 11 r33) 12 r8) 13 r9) 14 r10) 15 r11) 16 r12) 17 r13) 18 r14) 19 r15) (fun rs => rs = .inl (none, mrow (mrow (mrow (mrow (mrow (mrow (mrow (mrow (mrow (mrow (mrow (mrow (mrow (mrow (mrow (mrow (mrow (mrow (mrow (mrow M 1 r7) 3 r25) 4 r26) 5 r27) 6 r28) 7 r29) 8 r30) 9 r31) 10 r32) 11 r33) 12 r8) 13 r9) 14 r10) 15 r11) 16 r12) 17 r13) 18 r14) 19 r15) 21 r39) 23 r40)) := by
        have q9 := c_l_makePlain_21 z (d + 7) (mrow (mrow (mrow (mrow (mrow (mrow (mrow (mrow (mrow (mrow (mrow (mrow (mrow (mrow (mrow (mrow (mrow (mrow M 1 r7) 3 r25) 4 r26) 5 r27) 6 r28) 7 r29) 8 r30) 9 r31) 10 r32) 11 r33) 12 r8) 13 r9) 14 r10) 15 r11) 16 r12) 17 r13) 18 r14) 19 r15) 
        try simp only [mput, mrow_same, mrow_hit, mrow_miss, mrow_sw, idr_eq, ne_eq, Nat.reduceEqDiff, not_false_eq_true, Nat.reduceLT, reduceCtorEq, g37] at q9
        exact q9
      refine G.callV (as := []) (rest := []) (a := 21) oX3_makePlain lk_EvenFinders_127 (by decide +kernel) rfl rfl ⟨rfl, rfl⟩ (Nat.le_of_ble_eq_true rfl) rfl ⟨Nat.le_of_ble_eq_true rfl, Nat.le_of_ble_eq_true rfl⟩ t41 (fun v9 N9 h42 => ?_) (fun E9 N9 h42 => by cases h42)
      cases h42
      show G z mX11_town (d + 8) 1 6 58 [some (.ref 0), some (.int x1)] [] (mrow (mrow (mrow (mrow (mrow (mrow (mrow (mrow (mrow (mrow (mrow (mrow (mrow (mrow (mrow (mrow (mrow (mrow (mrow (mrow M 1 r7) 3 r25) 4 r26) 5 r27) 6 r28) 7 r29) 8 r30) 9 r31) 10 r32) 11 r33) 12 r8) 13 r9) 14 r10) 15 r11) 16 r12) 17 r13) 18 r14) 19 r15) 21 r39) 23 r40) Q
      refine G.sl [(.aload_n 0, 1, 0, 0, 0, 0), (.getfield 39, 3, 10, 5, 111, 0)] [] (pc2 := 62) (ls2 := [some (.ref 0), some (.int x1)]) (st2 := [.ref 29]) (M2 := mrow (mrow (mrow (mrow (mrow (mrow (mrow (mrow (mrow (mrow (mrow (mrow (mrow (mrow (mrow (mrow (mrow (mrow (mrow (mrow M 1 r7) 3 r25) 4 r26) 5 r27) 6 r28) 7 r29) 8 r30) 9 r31) 10 r32) 11 r33) 12 r8) 13 r9) 14 r10) 15 r11) 16 r12) 17 r13) 18 r14) 19 r15) 21 r39) 23 r40) (Ps := []) (by decide +kernel) rfl rfl trivial ?_
      rcases g44 : b_clear (M.1 29) (M.1 30) with ⟨u45, r46, r47⟩
      have t48 : GM z mX0_clear (d + 7) [.ref 29] (mrow (mrow (mrow (mrow (mrow (mrow (mrow (mrow (mrow (mrow (mrow (mrow (mrow (mrow (mrow (mrow (mrow (mrow (mrow (mrow M 1 r7) 3 r25) 4 r26) 5 r27) 6 r28) 7 r29) 8 r30) 9 r31) 10 r32) 11 r33) 12 r8) 13 r9) 14 r10) 15 r11) 16 r12) 17 r13) 18 r14) 19 r15) 21 r39) 23 r40) (fun rs => rs = .inl (none, mrow (mrow (mrow (mrow (mrow (mrow (mrow (mrow (mrow (mrow (mrow (mrow (mrow (mrow (mrow (mrow (mrow (mrow (mrow (mrow (mrow (mrow M 1 r7) 3 r25) 4 r26) 5 r27) 6 r28) 7 r29) 8 r30) 9 r31) 10 r32) 11 r33) 12 r8) 13 r9) 14 r10) 15 r11) 16 r12) 17 r13) 18 r14) 19 r15) 21 r39) 23 r40) 29 r46) 30 r47)) := by
        have q9 := c_b_clear_29 z (d + 6) (mrow (mrow (mrow (mrow (mrow (mrow (mrow (mrow (mrow (mrow (mrow (mrow (mrow (mrow (mrow (mrow (mrow (mrow (mrow (mrow M 1 r7) 3 r25) 4 r26) 5 r27) 6 r28) 7 r29) 8 r30) 9 r31) 10 r32) 11 r33) 12 r8) 13 r9) 14 r10) 15 r11) 16 r12) 17 r13) 18 r14) 19 r15) 21 r39) 23 r40) 
        try simp only [mput, mrow_same, mrow_hit, mrow_miss, mrow_sw, idr_eq, ne_eq, Nat.reduceEqDiff, not_false_eq_true, Nat.reduceLT, reduceCtorEq, g44] at q9
        exact q9
      refine G.callV (as := []) (rest := []) (a := 29) oX0_clear lk_EvenFinders_130 (by decide +kernel) rfl rfl ⟨rfl, rfl⟩ (Nat.le_of_ble_eq_true rfl) rfl ⟨Nat.le_of_ble_eq_true rfl, Nat.le_of_ble_eq_true rfl⟩ t48 (fun v9 N9 h49 => ?_) (fun E9 N9 h49 => by cases h49)
      cases h49
      show G z mX11_town (d + 8) 1 6 65 [some (.ref 0), some (.int x1)] [] (mrow (mrow (mrow (mrow (mrow (mrow (mrow (mrow (mrow (mrow (mrow (mrow (mrow (mrow (mrow (mrow (mrow (mrow (mrow (mrow (mrow (mrow M 1 r7) 3 r25) 4 r26) 5 r27) 6 r28) 7 r29) 8 r30) 9 r31) 10 r32) 11 r33) 12 r8) 13 r9) 14 r10) 15 r11) 16 r12) 17 r13) 18 r14) 19 r15) 21 r39) 23 r40) 29 r46) 30 r47) Q
      refine G.sl [(.aload_n 0, 1, 0, 0, 0, 0), (.getfield 70, 3, 10, 10, 116, 0)] [] (pc2 := 69) (ls2 := [some (.ref 0), some (.int x1)]) (st2 := [.ref 43]) (M2 := mrow (mrow (mrow (mrow (mrow (mrow (mrow (mrow (mrow (mrow (mrow (mrow (mrow (mrow (mrow (mrow (mrow (mrow (mrow (mrow (mrow (mrow M 1 r7) 3 r25) 4 r26) 5 r27) 6 r28) 7 r29) 8 r30) 9 r31) 10 r32) 11 r33) 12 r8) 13 r9) 14 r10) 15 r11) 16 r12) 17 r13) 18 r14) 19 r15) 21 r39) 23 r40) 29 r46) 30 r47) (Ps := []) (by decide +kernel) rfl rfl trivial ?_
      rcases g51 : h_clear (M.1 43) with ⟨u52, r53⟩
      have t54 : GM z mX2_clear (d + 7) [.ref 43] (mrow (mrow (mrow (mrow (mrow (mrow (mrow (mrow (mrow (mrow (mrow (mrow (mrow (mrow (mrow (mrow (mrow (mrow (mrow (mrow (mrow (mrow M 1 r7) 3 r25) 4 r26) 5 r27) 6 r28) 7 r29) 8 r30) 9 r31) 10 r32) 11 r33) 12 r8) 13 r9) 14 r10) 15 r11) 16 r12) 17 r13) 18 r14) 19 r15) 21 r39) 23 r40) 29 r46) 30 r47) (fun rs => rs = .inl (none, mrow (mrow (mrow (mrow (mrow (mrow (mrow (mrow (mrow (mrow (mrow (mrow (mrow (mrow (mrow (mrow (mrow (mrow (mrow (mrow (mrow (mrow (mrow M 1 r7) 3 r25) 4 r26) 5 r27) 6 r28) 7 r29) 8 r30) 9 r31) 10 r32) 11 r33) 12 r8) 13 r9) 14 r10) 15 r11) 16 r12) 17 r13) 18 r14) 19 r15) 21 r39) 23 r40) 29 r46) 30 r47) 43 r53)) := by
        have q9 := c_h_clear_43 z (d + 7) (mrow (mrow (mrow (mrow (mrow (mrow (mrow (mrow (mrow (mrow (mrow (mrow (mrow (mrow (mrow (mrow (mrow (mrow (mrow (mrow (mrow (mrow M 1 r7) 3 r25) 4 r26) 5 r27) 6 r28) 7 r29) 8 r30) 9 r31) 10 r32) 11 r33) 12 r8) 13 r9) 14 r10) 15 r11) 16 r12) 17 r13) 18 r14) 19 r15) 21 r39) 23 r40) 29 r46) 30 r47) 
        try simp only [mput, mrow_same, mrow_hit, mrow_miss, mrow_sw, idr_eq, ne_eq, Nat.reduceEqDiff, not_false_eq_true, Nat.reduceLT, reduceCtorEq, g51] at q9
        exact q9
      refine G.callV (as := []) (rest := []) (a := 43) oX2_clear lk_EvenFinders_133 (by decide +kernel) rfl rfl ⟨rfl, rfl⟩ (Nat.le_of_ble_eq_true rfl) rfl ⟨Nat.le_of_ble_eq_true rfl, Nat.le_of_ble_eq_true rfl⟩ t54 (fun v9 N9 h55 => ?_) (fun E9 N9 h55 => by cases h55)
      cases h55
      show G z mX11_town (d + 8) 1 6 72 [some (.ref 0), some (.int x1)] [] (mrow (mrow (mrow (mrow (mrow (mrow (mrow (mrow (mrow (mrow (mrow (mrow (mrow (mrow (mrow (mrow (mrow (mrow (mrow (mrow (mrow (mrow (mrow M 1 r7) 3 r25) 4 r26) 5 r27) 6 r28) 7 r29) 8 r30) 9 r31) 10 r32) 11 r33) 12 r8) 13 r9) 14 r10) 15 r11) 16 r12) 17 r13) 18 r14) 19 r15) 21 r39) 23 r40) 29 r46) 30 r47) 43 r53) Q
      refine G.sl [(.aload_n 0, 1, 0, 0, 0, 0), (.getfield 60, 3, 10, 8, 114, 0)] [] (pc2 := 76) (ls2 := [some (.ref 0), some (.int x1)]) (st2 := [.ref 37]) (M2 := mrow (mrow (mrow (mrow (mrow (mrow (mrow (mrow (mrow (mrow (mrow (mrow (mrow (mrow (mrow (mrow (mrow (mrow (mrow (mrow (mrow (mrow (mrow M 1 r7) 3 r25) 4 r26) 5 r27) 6 r28) 7 r29) 8 r30) 9 r31) 10 r32) 11 r33) 12 r8) 13 r9) 14 r10) 15 r11) 16 r12) 17 r13) 18 r14) 19 r15) 21 r39) 23 r40) 29 r46) 30 r47) 43 r53) (Ps := []) (by decide +kernel) rfl rfl trivial ?_
      rcases g57 : d_begin r30 r31 r32 (M.1 38) with ⟨u58, r59⟩
      have t60 : GM z mX1_begin (d + 7) [.ref 37] (mrow (mrow (mrow (mrow (mrow (mrow (mrow (mrow (mrow (mrow (mrow (mrow (mrow (mrow (mrow (mrow (mrow (mrow (mrow (mrow (mrow (mrow (mrow M 1 r7) 3 r25) 4 r26) 5 r27) 6 r28) 7 r29) 8 r30) 9 r31) 10 r32) 11 r33) 12 r8) 13 r9) 14 r10) 15 r11) 16 r12) 17 r13) 18 r14) 19 r15) 21 r39) 23 r40) 29 r46) 30 r47) 43 r53) (fun rs => rs = .inl (none, mrow (mrow (mrow (mrow (mrow (mrow (mrow (mrow (mrow (mrow (mrow (mrow (mrow (mrow (mrow (mrow (mrow (mrow (mrow (mrow (mrow (mrow (mrow (mrow M 1 r7) 3 r25) 4 r26) 5 r27) 6 r28) 7 r29) 8 r30) 9 r31) 10 r32) 11 r33) 12 r8) 13 r9) 14 r10) 15 r11) 16 r12) 17 r13) 18 r14) 19 r15) 21 r39) 23 r40) 29 r46) 30 r47) 38 r59) 43 r53)) := by
        have q9 := c_d_begin_37 z (d + 6) (mrow (mrow (mrow (mrow (mrow (mrow (mrow (mrow (mrow (mrow (mrow (mrow (mrow (mrow (mrow (mrow (mrow (mrow (mrow (mrow (mrow (mrow (mrow M 1 r7) 3 r25) 4 r26) 5 r27) 6 r28) 7 r29) 8 r30) 9 r31) 10 r32) 11 r33) 12 r8) 13 r9) 14 r10) 15 r11) 16 r12) 17 r13) 18 r14) 19 r15) 21 r39) 23 r40) 29 r46) 30 r47) 43 r53) 
        try simp only [mput, mrow_same, mrow_hit, mrow_miss, mrow_sw, idr_eq, ne_eq, Nat.reduceEqDiff, not_false_eq_true, Nat.reduceLT, reduceCtorEq, g57] at q9
        exact q9
      refine G.callV (as := []) (rest := []) (a := 37) oX1_begin lk_EvenFinders_134 (by decide +kernel) rfl rfl ⟨rfl, rfl⟩ (Nat.le_of_ble_eq_true rfl) rfl ⟨Nat.le_of_ble_eq_true rfl, Nat.le_of_ble_eq_true rfl⟩ t60 (fun v9 N9 h61 => ?_) (fun E9 N9 h61 => by cases h61)
      cases h61
      show G z mX11_town (d + 8) 1 6 79 [some (.ref 0), some (.int x1)] [] (mrow (mrow (mrow (mrow (mrow (mrow (mrow (mrow (mrow (mrow (mrow (mrow (mrow (mrow (mrow (mrow (mrow (mrow (mrow (mrow (mrow (mrow (mrow (mrow M 1 r7) 3 r25) 4 r26) 5 r27) 6 r28) 7 r29) 8 r30) 9 r31) 10 r32) 11 r33) 12 r8) 13 r9) 14 r10) 15 r11) 16 r12) 17 r13) 18 r14) 19 r15) 21 r39) 23 r40) 29 r46) 30 r47) 38 r59) 43 r53) Q
      refine G.sl [(.aload_n 0, 1, 0, 0, 0, 0), (.iconst 0, 1, 0, 0, 0, nI 0), (.putfield 136, 3, 10, 14, 120, 0), (.aload_n 0, 1, 0, 0, 0, 0), (.getfield 19, 3, 10, 1, 107, 0), (.getfield 139, 3, 6, 2, 27, 0)] [] (pc2 := 91) (ls2 := [some (.ref 0), some (.int x1)]) (st2 := [.int (r25 2)]) (M2 := mput (mrow (mrow (mrow (mrow (mrow (mrow (mrow (mrow (mrow (mrow (mrow (mrow (mrow (mrow (mrow (mrow (mrow (mrow (mrow (mrow (mrow (mrow (mrow (mrow M 1 r7) 3 r25) 4 r26) 5 r27) 6 r28) 7 r29) 8 r30) 9 r31) 10 r32) 11 r33) 12 r8) 13 r9) 14 r10) 15 r11) 16 r12) 17 r13) 18 r14) 19 r15) 21 r39) 23 r40) 29 r46) 30 r47) 38 r59) 43 r53) 0 14 (nI 0)) (Ps := []) (by decide +kernel) rfl rfl trivial ?_
      refine G.mem (M' := mrow (mrow (mrow (mrow (mrow (mrow (mrow (mrow (mrow (mrow (mrow (mrow (mrow (mrow (mrow (mrow (mrow (mrow (mrow (mrow (mrow (mrow (mrow (mrow (mrow M 0 (upd (M.1 0) 14 (nI 0))) 1 r7) 3 r25) 4 r26) 5 r27) 6 r28) 7 r29) 8 r30) 9 r31) 10 r32) 11 r33) 12 r8) 13 r9) 14 r10) 15 r11) 16 r12) 17 r13) 18 r14) 19 r15) 21 r39) 23 r40) 29 r46) 30 r47) 38 r59) 43 r53) (by first | rfl | (simp only [mput, mrow_same, mrow_hit, mrow_miss, mrow_sw, idr_eq, ne_eq, Nat.reduceEqDiff, not_false_eq_true, Nat.reduceLT, reduceCtorEq]; done)) ?_
      exact G.reti (by decide +kernel) rfl rfl (Nat.le_of_ble_eq_true rfl) (Nat.le_of_ble_eq_true rfl) ((by rw [hQ]; simp only [e_town, if_pos c1, g5, if_pos c21, g23, g37, g44, g51, g57, mrow_self]))
    · skip
      rw [if_neg c21] at hk
      refine G.sl [(.aload_n 0, 1, 0, 0, 0, 0), (.getfield 12, 3, 10, 0, 106, 0), (.getfield 121, 3, 5, 2, 4, 0), (.bipush 10, 2, 0, 0, 0, nI 10), (.isub, 1, 0, 0, 0, 0)] [] (pc2 := 39) (ls2 := [some (.ref 0), some (.int x1)]) (st2 := [.int ((r7 2) - (nI 10))]) (M2 := mrow (mrow (mrow (mrow (mrow (mrow (mrow (mrow (mrow M 1 r7) 12 r8) 13 r9) 14 r10) 15 r11) 16 r12) 17 r13) 18 r14) 19 r15) (Ps := []) (by decide +kernel) rfl rfl trivial ?_
      exact G.reti (by decide +kernel) rfl rfl (Nat.le_of_ble_eq_true rfl) (Nat.le_of_ble_eq_true rfl) ((by rw [hQ]; simp only [e_town, if_pos c1, g5, if_neg c21, mrow_self]))
  · skip
    rw [if_neg c1] at hk
    have t62 : GM z mX11_begin (d + 7) [.ref 0, .int x1, .int (nI 600)] M (fun rs => rs = .inr ("java/lang/IllegalArgumentException", mrow M 0 (upd (M.1 0) 16 ((M.1 0 16) + nI 1)))) := e_begin_b z d _ x1 (nI 600) c1
    refine G.callV (as := [.int x1, .int (nI 600)]) (rest := []) (a := 0) oX11_begin lk_EvenFinders_109 (by decide +kernel) rfl rfl ⟨rfl, rfl⟩ (Nat.le_of_ble_eq_true rfl) rfl ⟨Nat.le_of_ble_eq_true rfl, Nat.le_of_ble_eq_true rfl⟩ t62 (fun v9 N9 h9 => by cases h9) (fun E9 N9 h9 => ?_)
    cases h9
    rw [hQ]
    simp only [e_town, if_neg c1]
set_option maxHeartbeats 4000000 in
set_option maxRecDepth 3000 in
theorem c_e_law_0 (z : Zp) (d : Nat) (M : Mem) (x1 : Int32) (hk : e_law_ok M x1) : GM z mX11_law (d + 82) [.ref 0, .int x1] M (fun rs => rs = e_law M x1) := by
  simp only [e_law_ok] at hk
  refine GM.of oX11_law.1 (Nat.le_of_ble_eq_true rfl) ?_
  show G z mX11_law (d + 82) 0 0 0 [some (.ref 0), some (.int x1)] [] M _
  obtain ⟨Q, hQ⟩ : ∃ Q : Rs → Prop, Q = (fun rs => rs = e_law M x1) := ⟨_, rfl⟩
  rw [← hQ]
  refine G.sl [(.aload_n 0, 1, 0, 0, 0, 0), (.iload_n 1, 1, 1, 0, 0, 0), (.sipush 150, 3, 0, 0, 0, nI 150)] [] (pc2 := 5) (ls2 := [some (.ref 0), some (.int x1)]) (st2 := [.int (nI 150), .int x1, .ref 0]) (M2 := M) (Ps := []) (by decide +kernel) rfl rfl trivial ?_
  by_cases c1 : ¬ x1 < nI 0 ∧ x1 ≤ (if (M.1 1 1) < (nI 150) then M.1 1 1 else (nI 150))
  · skip
    rw [if_pos c1] at hk
    have t2 : GM z mX11_begin (d + 81) [.ref 0, .int x1, .int (nI 150)] M (fun rs => rs = .inl (none, mrow M 1 ((t_begin (M.1 1) x1).2))) := e_begin_g z (d + 74) _ x1 (nI 150) c1
    refine G.callV (as := [.int x1, .int (nI 150)]) (rest := []) (a := 0) oX11_begin lk_EvenFinders_109 (by decide +kernel) rfl rfl ⟨rfl, rfl⟩ (Nat.le_of_ble_eq_true rfl) rfl ⟨Nat.le_of_ble_eq_true rfl, Nat.le_of_ble_eq_true rfl⟩ t2 (fun v9 N9 h3 => ?_) (fun E9 N9 h3 => by cases h3)
    cases h3
    show G z mX11_law (d + 82) 1 6 8 [some (.ref 0), some (.int x1)] [] (mrow M 1 ((t_begin (M.1 1) x1).2)) Q
    refine G.sl [(.aload_n 0, 1, 0, 0, 0, 0), (.getfield 33, 3, 10, 4, 110, 0), (.aload_n 0, 1, 0, 0, 0, 0), (.getfield 12, 3, 10, 0, 106, 0)] [] (pc2 := 16) (ls2 := [some (.ref 0), some (.int x1)]) (st2 := [.ref 1, .ref 25]) (M2 := mrow M 1 ((t_begin (M.1 1) x1).2)) (Ps := []) (by decide +kernel) rfl rfl trivial ?_
    obtain ⟨k4, hk⟩ := hk
    rcases g5 : l_readFrom ((t_begin (M.1 1) x1).2) (M.1 2) (M.1 25) (M.1 27) with ⟨u6, r7, r8, r9⟩
    have t10 : GM z mX3_readFrom (d + 81) [.ref 25, .ref 1] (mrow M 1 ((t_begin (M.1 1) x1).2)) (fun rs => rs = .inl (none, mrow (mrow (mrow M 1 r7) 25 r8) 27 r9)) := by
      have q9 := c_l_readFrom_25_1 z d (mrow M 1 ((t_begin (M.1 1) x1).2)) k4
      try simp only [mput, mrow_same, mrow_hit, mrow_miss, mrow_sw, idr_eq, ne_eq, Nat.reduceEqDiff, not_false_eq_true, Nat.reduceLT, reduceCtorEq, g5] at q9
      exact q9
    refine G.callV (as := [.ref 1]) (rest := []) (a := 25) oX3_readFrom lk_EvenFinders_142 (by decide +kernel) rfl rfl ⟨rfl, rfl⟩ (Nat.le_of_ble_eq_true rfl) rfl ⟨Nat.le_of_ble_eq_true rfl, Nat.le_of_ble_eq_true rfl⟩ t10 (fun v9 N9 h11 => ?_) (fun E9 N9 h11 => by cases h11)
    cases h11
    show G z mX11_law (d + 82) 1 6 19 [some (.ref 0), some (.int x1)] [] (mrow (mrow (mrow M 1 r7) 25 r8) 27 r9) Q
    refine G.sl [(.aload_n 0, 1, 0, 0, 0, 0), (.getfield 12, 3, 10, 0, 106, 0)] [] (pc2 := 23) (ls2 := [some (.ref 0), some (.int x1)]) (st2 := [.ref 1]) (M2 := mrow (mrow (mrow M 1 r7) 25 r8) 27 r9) (Ps := []) (by decide +kernel) rfl rfl trivial ?_
    have t13 : GM z mX6_isFaulty (d + 81) [.ref 1] (mrow (mrow (mrow M 1 r7) 25 r8) 27 r9) (fun rs => rs = .inl (some (.int (t_isFaulty r7)), mrow (mrow (mrow M 1 r7) 25 r8) 27 r9)) := by
      have q9 := c_t_isFaulty_1 z (d + 81) (mrow (mrow (mrow M 1 r7) 25 r8) 27 r9) 
      try simp only [mput, mrow_same, mrow_hit, mrow_miss, mrow_sw, idr_eq, ne_eq, Nat.reduceEqDiff, not_false_eq_true, Nat.reduceLT, reduceCtorEq] at q9
      exact q9
    refine G.callV (as := []) (rest := []) (a := 1) oX6_isFaulty lk_EvenFinders_117 (by decide +kernel) rfl rfl ⟨rfl, rfl⟩ (Nat.le_of_ble_eq_true rfl) rfl ⟨Nat.le_of_ble_eq_true rfl, Nat.le_of_ble_eq_true rfl⟩ t13 (fun v9 N9 h14 => ?_) (fun E9 N9 h14 => by cases h14)
    cases h14
    show G z mX11_law (d + 82) 1 6 26 [some (.ref 0), some (.int x1)] [.int (t_isFaulty r7)] (mrow (mrow (mrow M 1 r7) 25 r8) 27 r9) Q
    refine G.if_eq (off := (14)) (tgt := 40) (by decide +kernel) rfl (fun c15 => ?_) (fun c15 => ?_)
    · skip
      refine G.sl [(.aload_n 0, 1, 0, 0, 0, 0), (.getfield 29, 3, 10, 3, 109, 0), (.aload_n 0, 1, 0, 0, 0, 0), (.getfield 33, 3, 10, 4, 110, 0)] [] (pc2 := 48) (ls2 := [some (.ref 0), some (.int x1)]) (st2 := [.ref 25, .ref 21]) (M2 := mrow (mrow (mrow M 1 r7) 25 r8) 27 r9) (Ps := []) (by decide +kernel) rfl rfl trivial ?_
      rcases g17 : l_take (M.1 21) (M.1 23) r8 r9 with ⟨u18, r19, r20⟩
      have t21 : GM z mX3_take (d + 81) [.ref 21, .ref 25] (mrow (mrow (mrow M 1 r7) 25 r8) 27 r9) (fun rs => rs = .inl (none, mrow (mrow (mrow (mrow (mrow M 1 r7) 21 r19) 23 r20) 25 r8) 27 r9)) := by
        have q9 := c_l_take_21_25 z (d + 80) (mrow (mrow (mrow M 1 r7) 25 r8) 27 r9) 
        try simp only [mput, mrow_same, mrow_hit, mrow_miss, mrow_sw, idr_eq, ne_eq, Nat.reduceEqDiff, not_false_eq_true, Nat.reduceLT, reduceCtorEq, g17] at q9
        exact q9
      refine G.callV (as := [.ref 25]) (rest := []) (a := 21) oX3_take lk_EvenFinders_143 (by decide +kernel) rfl rfl ⟨rfl, rfl⟩ (Nat.le_of_ble_eq_true rfl) rfl ⟨Nat.le_of_ble_eq_true rfl, Nat.le_of_ble_eq_true rfl⟩ t21 (fun v9 N9 h22 => ?_) (fun E9 N9 h22 => by cases h22)
      cases h22
      show G z mX11_law (d + 82) 1 6 51 [some (.ref 0), some (.int x1)] [] (mrow (mrow (mrow (mrow (mrow M 1 r7) 21 r19) 23 r20) 25 r8) 27 r9) Q
      refine G.sl [(.iconst 1, 1, 0, 0, 0, nI 1)] [] (pc2 := 52) (ls2 := [some (.ref 0), some (.int x1)]) (st2 := [.int (nI 1)]) (M2 := mrow (mrow (mrow (mrow (mrow M 1 r7) 21 r19) 23 r20) 25 r8) 27 r9) (Ps := []) (by decide +kernel) rfl rfl trivial ?_
      exact G.reti (by decide +kernel) rfl rfl (Nat.le_of_ble_eq_true rfl) (Nat.le_of_ble_eq_true rfl) ((by rw [hQ]; simp only [e_law, if_pos c1, g5, if_pos c15, g17, mrow_self]))
    · skip
      refine G.sl [(.aload_n 0, 1, 0, 0, 0, 0), (.getfield 12, 3, 10, 0, 106, 0), (.getfield 121, 3, 5, 2, 4, 0), (.bipush 10, 2, 0, 0, 0, nI 10), (.isub, 1, 0, 0, 0, 0)] [] (pc2 := 39) (ls2 := [some (.ref 0), some (.int x1)]) (st2 := [.int ((r7 2) - (nI 10))]) (M2 := mrow (mrow (mrow M 1 r7) 25 r8) 27 r9) (Ps := []) (by decide +kernel) rfl rfl trivial ?_
      exact G.reti (by decide +kernel) rfl rfl (Nat.le_of_ble_eq_true rfl) (Nat.le_of_ble_eq_true rfl) ((by rw [hQ]; simp only [e_law, if_pos c1, g5, if_neg c15, mrow_self]))
  · skip
    rw [if_neg c1] at hk
    have t23 : GM z mX11_begin (d + 81) [.ref 0, .int x1, .int (nI 150)] M (fun rs => rs = .inr ("java/lang/IllegalArgumentException", mrow M 0 (upd (M.1 0) 16 ((M.1 0 16) + nI 1)))) := e_begin_b z (d + 74) _ x1 (nI 150) c1
    refine G.callV (as := [.int x1, .int (nI 150)]) (rest := []) (a := 0) oX11_begin lk_EvenFinders_109 (by decide +kernel) rfl rfl ⟨rfl, rfl⟩ (Nat.le_of_ble_eq_true rfl) rfl ⟨Nat.le_of_ble_eq_true rfl, Nat.le_of_ble_eq_true rfl⟩ t23 (fun v9 N9 h9 => by cases h9) (fun E9 N9 h9 => ?_)
    cases h9
    rw [hQ]
    simp only [e_law, if_neg c1]
set_option maxHeartbeats 4000000 in
set_option maxRecDepth 3000 in
theorem c_e_work_0 (z : Zp) (d : Nat) (M : Mem) (x1 : Int32) (nr : Nat) (hnr : nr ≤ 12) (hr : M.1 3 1 = nI nr) (nt : Nat) (hnt : nt ≤ 10) (ht : M.1 3 2 = nI nt) (nf : Nat) (hnf : nf ≤ 6) (hf : M.1 3 3 = nI nf) (hk : e_work_ok M nr nt nf x1) : GM z mX11_work (d + 62) [.ref 0, .int x1] M (fun rs => rs = e_work M nr nt nf x1) := by
  simp only [e_work_ok] at hk
  refine GM.of oX11_work.1 (Nat.le_of_ble_eq_true rfl) ?_
  show G z mX11_work (d + 62) 0 0 0 [some (.ref 0), some (.int x1)] [] M _
  obtain ⟨Q, hQ⟩ : ∃ Q : Rs → Prop, Q = (fun rs => rs = e_work M nr nt nf x1) := ⟨_, rfl⟩
  rw [← hQ]
  refine G.sl [(.aload_n 0, 1, 0, 0, 0, 0), (.iload_n 1, 1, 1, 0, 0, 0), (.sipush 150, 3, 0, 0, 0, nI 150)] [] (pc2 := 5) (ls2 := [some (.ref 0), some (.int x1)]) (st2 := [.int (nI 150), .int x1, .ref 0]) (M2 := M) (Ps := []) (by decide +kernel) rfl rfl trivial ?_
  by_cases c1 : ¬ x1 < nI 0 ∧ x1 ≤ (if (M.1 1 1) < (nI 150) then M.1 1 1 else (nI 150))
  · skip
    rw [if_pos c1] at hk
    have t2 : GM z mX11_begin (d + 61) [.ref 0, .int x1, .int (nI 150)] M (fun rs => rs = .inl (none, mrow M 1 ((t_begin (M.1 1) x1).2))) := e_begin_g z (d + 54) _ x1 (nI 150) c1
    refine G.callV (as := [.int x1, .int (nI 150)]) (rest := []) (a := 0) oX11_begin lk_EvenFinders_109 (by decide +kernel) rfl rfl ⟨rfl, rfl⟩ (Nat.le_of_ble_eq_true rfl) rfl ⟨Nat.le_of_ble_eq_true rfl, Nat.le_of_ble_eq_true rfl⟩ t2 (fun v9 N9 h3 => ?_) (fun E9 N9 h3 => by cases h3)
    cases h3
    show G z mX11_work (d + 62) 1 6 8 [some (.ref 0), some (.int x1)] [] (mrow M 1 ((t_begin (M.1 1) x1).2)) Q
    refine G.sl [(.aload_n 0, 1, 0, 0, 0, 0), (.getfield 70, 3, 10, 10, 116, 0), (.getfield 146, 3, 2, 0, 82, 0), (.bipush 16, 2, 0, 0, 0, nI 16)] [] (pc2 := 17) (ls2 := [some (.ref 0), some (.int x1)]) (st2 := [.int (nI 16), .int (M.1 43 0)]) (M2 := mrow M 1 ((t_begin (M.1 1) x1).2)) (Ps := []) (by decide +kernel) rfl rfl trivial ?_
    refine G.ic_lt (off := (6)) (tgt := 23) (by decide +kernel) rfl (fun c4 => ?_) (fun c4 => ?_)
    · skip
      rw [if_pos c4] at hk
      refine G.sl [(.aload_n 0, 1, 0, 0, 0, 0), (.getfield 51, 3, 10, 7, 113, 0), (.aload_n 0, 1, 0, 0, 0, 0), (.getfield 12, 3, 10, 0, 106, 0)] [] (pc2 := 31) (ls2 := [some (.ref 0), some (.int x1)]) (st2 := [.ref 1, .ref 33]) (M2 := mrow M 1 ((t_begin (M.1 1) x1).2)) (Ps := []) (by decide +kernel) rfl rfl trivial ?_
      obtain ⟨k5, hk⟩ := hk
      rcases g6 : x_readFrom ((t_begin (M.1 1) x1).2) (M.1 2) (M.1 33) (M.1 34) (M.1 35) (M.1 36) nr nt nf with ⟨u7, r8, r9, r10, r11, r12⟩
      try simp only [g6] at hk
      have t13 : GM z mX9_readFrom (d + 61) [.ref 33, .ref 1] (mrow M 1 ((t_begin (M.1 1) x1).2)) (fun rs => rs = .inl (none, mrow (mrow (mrow (mrow (mrow M 1 r8) 33 r9) 34 r10) 35 r11) 36 r12)) := by
        have q9 := c_x_readFrom_33_1 z d (mrow M 1 ((t_begin (M.1 1) x1).2)) nr hnr hr nt hnt ht nf hnf hf k5
        try simp only [mput, mrow_same, mrow_hit, mrow_miss, mrow_sw, idr_eq, ne_eq, Nat.reduceEqDiff, not_false_eq_true, Nat.reduceLT, reduceCtorEq, g6] at q9
        exact q9
      refine G.callV (as := [.ref 1]) (rest := []) (a := 33) oX9_readFrom lk_EvenFinders_149 (by decide +kernel) rfl rfl ⟨rfl, rfl⟩ (Nat.le_of_ble_eq_true rfl) rfl ⟨Nat.le_of_ble_eq_true rfl, Nat.le_of_ble_eq_true rfl⟩ t13 (fun v9 N9 h14 => ?_) (fun E9 N9 h14 => by cases h14)
      cases h14
      show G z mX11_work (d + 62) 1 6 34 [some (.ref 0), some (.int x1)] [] (mrow (mrow (mrow (mrow (mrow M 1 r8) 33 r9) 34 r10) 35 r11) 36 r12) Q
      refine G.sl [(.aload_n 0, 1, 0, 0, 0, 0), (.getfield 12, 3, 10, 0, 106, 0)] [] (pc2 := 38) (ls2 := [some (.ref 0), some (.int x1)]) (st2 := [.ref 1]) (M2 := mrow (mrow (mrow (mrow (mrow M 1 r8) 33 r9) 34 r10) 35 r11) 36 r12) (Ps := []) (by decide +kernel) rfl rfl trivial ?_
      obtain ⟨k15, hk⟩ := hk
      have t16 : GM z mX6_isFaulty (d + 61) [.ref 1] (mrow (mrow (mrow (mrow (mrow M 1 r8) 33 r9) 34 r10) 35 r11) 36 r12) (fun rs => rs = .inl (some (.int (t_isFaulty r8)), mrow (mrow (mrow (mrow (mrow M 1 r8) 33 r9) 34 r10) 35 r11) 36 r12)) := by
        have q9 := c_t_isFaulty_1 z (d + 61) (mrow (mrow (mrow (mrow (mrow M 1 r8) 33 r9) 34 r10) 35 r11) 36 r12) 
        try simp only [mput, mrow_same, mrow_hit, mrow_miss, mrow_sw, idr_eq, ne_eq, Nat.reduceEqDiff, not_false_eq_true, Nat.reduceLT, reduceCtorEq] at q9
        exact q9
      refine G.callV (as := []) (rest := []) (a := 1) oX6_isFaulty lk_EvenFinders_117 (by decide +kernel) rfl rfl ⟨rfl, rfl⟩ (Nat.le_of_ble_eq_true rfl) rfl ⟨Nat.le_of_ble_eq_true rfl, Nat.le_of_ble_eq_true rfl⟩ t16 (fun v9 N9 h17 => ?_) (fun E9 N9 h17 => by cases h17)
      cases h17
      show G z mX11_work (d + 62) 1 6 41 [some (.ref 0), some (.int x1)] [.int (t_isFaulty r8)] (mrow (mrow (mrow (mrow (mrow M 1 r8) 33 r9) 34 r10) 35 r11) 36 r12) Q
      refine G.if_eq (off := (14)) (tgt := 55) (by decide +kernel) rfl (fun c18 => ?_) (fun c18 => ?_)
      · skip
        rw [if_pos c18] at hk
        refine G.sl [(.aload_n 0, 1, 0, 0, 0, 0), (.getfield 70, 3, 10, 10, 116, 0), (.aload_n 0, 1, 0, 0, 0, 0), (.getfield 60, 3, 10, 8, 114, 0)] [] (pc2 := 63) (ls2 := [some (.ref 0), some (.int x1)]) (st2 := [.ref 37, .ref 43]) (M2 := mrow (mrow (mrow (mrow (mrow M 1 r8) 33 r9) 34 r10) 35 r11) 36 r12) (Ps := []) (by decide +kernel) rfl rfl trivial ?_
        obtain ⟨k19, hk⟩ := hk
        rcases g20 : h_keepWork (M.1 38) (M.1 43) (M.1 44) with ⟨u21, r22, r23⟩
        try simp only [g20] at hk
        have t24 : GM z mX2_keepWork (d + 61) [.ref 43, .ref 37] (mrow (mrow (mrow (mrow (mrow M 1 r8) 33 r9) 34 r10) 35 r11) 36 r12) (fun rs => rs = .inl (none, mrow (mrow (mrow (mrow (mrow (mrow (mrow M 1 r8) 33 r9) 34 r10) 35 r11) 36 r12) 43 r22) 44 r23)) := by
          have q9 := c_h_keepWork_43_37 z (d + 60) (mrow (mrow (mrow (mrow (mrow M 1 r8) 33 r9) 34 r10) 35 r11) 36 r12) k19
          try simp only [mput, mrow_same, mrow_hit, mrow_miss, mrow_sw, idr_eq, ne_eq, Nat.reduceEqDiff, not_false_eq_true, Nat.reduceLT, reduceCtorEq, g20] at q9
          exact q9
        refine G.callV (as := [.ref 37]) (rest := []) (a := 43) oX2_keepWork lk_EvenFinders_150 (by decide +kernel) rfl rfl ⟨rfl, rfl⟩ (Nat.le_of_ble_eq_true rfl) rfl ⟨Nat.le_of_ble_eq_true rfl, Nat.le_of_ble_eq_true rfl⟩ t24 (fun v9 N9 h25 => ?_) (fun E9 N9 h25 => by cases h25)
        cases h25
        show G z mX11_work (d + 62) 1 6 66 [some (.ref 0), some (.int x1)] [] (mrow (mrow (mrow (mrow (mrow (mrow (mrow M 1 r8) 33 r9) 34 r10) 35 r11) 36 r12) 43 r22) 44 r23) Q
        refine G.sl [(.aload_n 0, 1, 0, 0, 0, 0), (.getfield 51, 3, 10, 7, 113, 0), (.aload_n 0, 1, 0, 0, 0, 0), (.getfield 60, 3, 10, 8, 114, 0)] [] (pc2 := 74) (ls2 := [some (.ref 0), some (.int x1)]) (st2 := [.ref 37, .ref 33]) (M2 := mrow (mrow (mrow (mrow (mrow (mrow (mrow M 1 r8) 33 r9) 34 r10) 35 r11) 36 r12) 43 r22) 44 r23) (Ps := []) (by decide +kernel) rfl rfl trivial ?_
        obtain ⟨k26, hk⟩ := hk
        rcases g27 : x_doneBy (M.1 4) (M.1 5) (M.1 6) (M.1 7) (M.1 21) (M.1 22) (M.1 23) (M.1 24) r9 r10 r11 r12 (M.1 38) nt nf with ⟨u28, r29, r30, r31, r32⟩
        have t33 : GM z mX9_doneBy (d + 61) [.ref 33, .ref 37] (mrow (mrow (mrow (mrow (mrow (mrow (mrow M 1 r8) 33 r9) 34 r10) 35 r11) 36 r12) 43 r22) 44 r23) (fun rs => rs = .inl (none, mrow (mrow (mrow (mrow (mrow (mrow (mrow (mrow (mrow (mrow M 1 r8) 22 r29) 24 r30) 33 r31) 34 r10) 35 r11) 36 r12) 38 r32) 43 r22) 44 r23)) := by
          have q9 := c_x_doneBy_33_37 z (d + 10) (mrow (mrow (mrow (mrow (mrow (mrow (mrow M 1 r8) 33 r9) 34 r10) 35 r11) 36 r12) 43 r22) 44 r23) nt hnt ht nf hnf hf k26
          try simp only [mput, mrow_same, mrow_hit, mrow_miss, mrow_sw, idr_eq, ne_eq, Nat.reduceEqDiff, not_false_eq_true, Nat.reduceLT, reduceCtorEq, g27] at q9
          exact q9
        refine G.callV (as := [.ref 37]) (rest := []) (a := 33) oX9_doneBy lk_EvenFinders_154 (by decide +kernel) rfl rfl ⟨rfl, rfl⟩ (Nat.le_of_ble_eq_true rfl) rfl ⟨Nat.le_of_ble_eq_true rfl, Nat.le_of_ble_eq_true rfl⟩ t33 (fun v9 N9 h34 => ?_) (fun E9 N9 h34 => by cases h34)
        cases h34
        show G z mX11_work (d + 62) 1 6 77 [some (.ref 0), some (.int x1)] [] (mrow (mrow (mrow (mrow (mrow (mrow (mrow (mrow (mrow (mrow M 1 r8) 22 r29) 24 r30) 33 r31) 34 r10) 35 r11) 36 r12) 38 r32) 43 r22) 44 r23) Q
        refine G.sl [(.aload_n 0, 1, 0, 0, 0, 0), (.aload_n 0, 1, 0, 0, 0, 0), (.getfield 51, 3, 10, 7, 113, 0), (.getfield 157, 3, 8, 1, 65, 0), (.putfield 136, 3, 10, 14, 120, 0), (.aload_n 0, 1, 0, 0, 0, 0), (.getfield 51, 3, 10, 7, 113, 0), (.getfield 160, 3, 8, 0, 63, 0)] [] (pc2 := 95) (ls2 := [some (.ref 0), some (.int x1)]) (st2 := [.int (r31 0)]) (M2 := mput (mrow (mrow (mrow (mrow (mrow (mrow (mrow (mrow (mrow (mrow M 1 r8) 22 r29) 24 r30) 33 r31) 34 r10) 35 r11) 36 r12) 38 r32) 43 r22) 44 r23) 0 14 (r31 1)) (Ps := []) (by decide +kernel) rfl rfl trivial ?_
        refine G.mem (M' := mrow (mrow (mrow (mrow (mrow (mrow (mrow (mrow (mrow (mrow (mrow M 0 (upd (M.1 0) 14 (r31 1))) 1 r8) 22 r29) 24 r30) 33 r31) 34 r10) 35 r11) 36 r12) 38 r32) 43 r22) 44 r23) (by first | rfl | (simp only [mput, mrow_same, mrow_hit, mrow_miss, mrow_sw, idr_eq, ne_eq, Nat.reduceEqDiff, not_false_eq_true, Nat.reduceLT, reduceCtorEq]; done)) ?_
        exact G.reti (by decide +kernel) rfl rfl (Nat.le_of_ble_eq_true rfl) (Nat.le_of_ble_eq_true rfl) ((by rw [hQ]; simp only [e_work, if_pos c1, if_pos c4, g6, if_pos c18, g20, g27, mrow_self]))
      · skip
        rw [if_neg c18] at hk
        refine G.sl [(.aload_n 0, 1, 0, 0, 0, 0), (.getfield 12, 3, 10, 0, 106, 0), (.getfield 121, 3, 5, 2, 4, 0), (.bipush 10, 2, 0, 0, 0, nI 10), (.isub, 1, 0, 0, 0, 0)] [] (pc2 := 54) (ls2 := [some (.ref 0), some (.int x1)]) (st2 := [.int ((r8 2) - (nI 10))]) (M2 := mrow (mrow (mrow (mrow (mrow M 1 r8) 33 r9) 34 r10) 35 r11) 36 r12) (Ps := []) (by decide +kernel) rfl rfl trivial ?_
        exact G.reti (by decide +kernel) rfl rfl (Nat.le_of_ble_eq_true rfl) (Nat.le_of_ble_eq_true rfl) ((by rw [hQ]; simp only [e_work, if_pos c1, if_pos c4, g6, if_neg c18, mrow_self]))
    · skip
      rw [if_neg c4] at hk
      refine G.sl [(.bipush (-20), 2, 0, 0, 0, (-20))] [] (pc2 := 22) (ls2 := [some (.ref 0), some (.int x1)]) (st2 := [.int ((-20))]) (M2 := mrow M 1 ((t_begin (M.1 1) x1).2)) (Ps := []) (by decide +kernel) rfl rfl trivial ?_
      exact G.reti (by decide +kernel) rfl rfl (Nat.le_of_ble_eq_true rfl) (Nat.le_of_ble_eq_true rfl) ((by rw [hQ]; simp only [e_work, if_pos c1, if_neg c4, mrow_self]))
  · skip
    rw [if_neg c1] at hk
    have t35 : GM z mX11_begin (d + 61) [.ref 0, .int x1, .int (nI 150)] M (fun rs => rs = .inr ("java/lang/IllegalArgumentException", mrow M 0 (upd (M.1 0) 16 ((M.1 0 16) + nI 1)))) := e_begin_b z (d + 54) _ x1 (nI 150) c1
    refine G.callV (as := [.int x1, .int (nI 150)]) (rest := []) (a := 0) oX11_begin lk_EvenFinders_109 (by decide +kernel) rfl rfl ⟨rfl, rfl⟩ (Nat.le_of_ble_eq_true rfl) rfl ⟨Nat.le_of_ble_eq_true rfl, Nat.le_of_ble_eq_true rfl⟩ t35 (fun v9 N9 h9 => by cases h9) (fun E9 N9 h9 => ?_)
    cases h9
    rw [hQ]
    simp only [e_work, if_neg c1]
set_option maxHeartbeats 4000000 in
set_option maxRecDepth 3000 in
theorem c_e_book_0 (z : Zp) (d : Nat) (M : Mem) (x1 : Int32) (np : Nat) (hnp : np ≤ 8) (hp : M.1 3 0 = nI np) (hk : e_book_ok M np x1) : GM z mX11_book (d + 8) [.ref 0, .int x1] M (fun rs => rs = e_book M np x1) := by
  simp only [e_book_ok] at hk
  refine GM.of oX11_book.1 (Nat.le_of_ble_eq_true rfl) ?_
  show G z mX11_book (d + 8) 0 0 0 [some (.ref 0), some (.int x1)] [] M _
  obtain ⟨Q, hQ⟩ : ∃ Q : Rs → Prop, Q = (fun rs => rs = e_book M np x1) := ⟨_, rfl⟩
  rw [← hQ]
  refine G.sl [(.aload_n 0, 1, 0, 0, 0, 0), (.iload_n 1, 1, 1, 0, 0, 0), (.bipush 60, 2, 0, 0, 0, nI 60)] [] (pc2 := 4) (ls2 := [some (.ref 0), some (.int x1)]) (st2 := [.int (nI 60), .int x1, .ref 0]) (M2 := M) (Ps := []) (by decide +kernel) rfl rfl trivial ?_
  by_cases c1 : ¬ x1 < nI 0 ∧ x1 ≤ (if (M.1 1 1) < (nI 60) then M.1 1 1 else (nI 60))
  · skip
    rw [if_pos c1] at hk
    have t2 : GM z mX11_begin (d + 7) [.ref 0, .int x1, .int (nI 60)] M (fun rs => rs = .inl (none, mrow M 1 ((t_begin (M.1 1) x1).2))) := e_begin_g z d _ x1 (nI 60) c1
    refine G.callV (as := [.int x1, .int (nI 60)]) (rest := []) (a := 0) oX11_begin lk_EvenFinders_109 (by decide +kernel) rfl rfl ⟨rfl, rfl⟩ (Nat.le_of_ble_eq_true rfl) rfl ⟨Nat.le_of_ble_eq_true rfl, Nat.le_of_ble_eq_true rfl⟩ t2 (fun v9 N9 h3 => ?_) (fun E9 N9 h3 => by cases h3)
    cases h3
    show G z mX11_book (d + 8) 1 6 7 [some (.ref 0), some (.int x1)] [] (mrow M 1 ((t_begin (M.1 1) x1).2)) Q
    refine G.sl [(.aload_n 0, 1, 0, 0, 0, 0), (.getfield 43, 3, 10, 6, 112, 0), (.aload_n 0, 1, 0, 0, 0, 0), (.getfield 12, 3, 10, 0, 106, 0), (.aload_n 0, 1, 0, 0, 0, 0), (.getfield 19, 3, 10, 1, 107, 0), (.getfield 163, 3, 6, 0, 17, 0)] [] (pc2 := 22) (ls2 := [some (.ref 0), some (.int x1)]) (st2 := [.int (M.1 3 0), .ref 1, .ref 31]) (M2 := mrow M 1 ((t_begin (M.1 1) x1).2)) (Ps := []) (by decide +kernel) rfl rfl trivial ?_
    rw [hp]
    obtain ⟨k4, hk⟩ := hk
    rcases g5 : b_readFrom ((t_begin (M.1 1) x1).2) (M.1 2) (M.1 31) (M.1 32) (nI np) with ⟨u6, r7, r8, r9⟩
    have t10 : GM z mX0_readFrom (d + 7) [.ref 31, .ref 1, .int (nI np)] (mrow M 1 ((t_begin (M.1 1) x1).2)) (fun rs => rs = .inl (none, mrow (mrow (mrow M 1 r7) 31 r8) 32 r9)) := by
      have q9 := c_b_readFrom_31_1 z (d + 5) (mrow M 1 ((t_begin (M.1 1) x1).2)) (nI np) k4
      try simp only [mput, mrow_same, mrow_hit, mrow_miss, mrow_sw, idr_eq, ne_eq, Nat.reduceEqDiff, not_false_eq_true, Nat.reduceLT, reduceCtorEq, g5] at q9
      exact q9
    refine G.callV (as := [.ref 1, .int (nI np)]) (rest := []) (a := 31) oX0_readFrom lk_EvenFinders_166 (by decide +kernel) rfl rfl ⟨rfl, rfl⟩ (Nat.le_of_ble_eq_true rfl) rfl ⟨Nat.le_of_ble_eq_true rfl, Nat.le_of_ble_eq_true rfl⟩ t10 (fun v9 N9 h11 => ?_) (fun E9 N9 h11 => by cases h11)
    cases h11
    show G z mX11_book (d + 8) 1 6 25 [some (.ref 0), some (.int x1)] [] (mrow (mrow (mrow M 1 r7) 31 r8) 32 r9) Q
    refine G.sl [(.aload_n 0, 1, 0, 0, 0, 0), (.getfield 12, 3, 10, 0, 106, 0)] [] (pc2 := 29) (ls2 := [some (.ref 0), some (.int x1)]) (st2 := [.ref 1]) (M2 := mrow (mrow (mrow M 1 r7) 31 r8) 32 r9) (Ps := []) (by decide +kernel) rfl rfl trivial ?_
    have t13 : GM z mX6_isFaulty (d + 7) [.ref 1] (mrow (mrow (mrow M 1 r7) 31 r8) 32 r9) (fun rs => rs = .inl (some (.int (t_isFaulty r7)), mrow (mrow (mrow M 1 r7) 31 r8) 32 r9)) := by
      have q9 := c_t_isFaulty_1 z (d + 7) (mrow (mrow (mrow M 1 r7) 31 r8) 32 r9) 
      try simp only [mput, mrow_same, mrow_hit, mrow_miss, mrow_sw, idr_eq, ne_eq, Nat.reduceEqDiff, not_false_eq_true, Nat.reduceLT, reduceCtorEq] at q9
      exact q9
    refine G.callV (as := []) (rest := []) (a := 1) oX6_isFaulty lk_EvenFinders_117 (by decide +kernel) rfl rfl ⟨rfl, rfl⟩ (Nat.le_of_ble_eq_true rfl) rfl ⟨Nat.le_of_ble_eq_true rfl, Nat.le_of_ble_eq_true rfl⟩ t13 (fun v9 N9 h14 => ?_) (fun E9 N9 h14 => by cases h14)
    cases h14
    show G z mX11_book (d + 8) 1 6 32 [some (.ref 0), some (.int x1)] [.int (t_isFaulty r7)] (mrow (mrow (mrow M 1 r7) 31 r8) 32 r9) Q
    refine G.if_eq (off := (14)) (tgt := 46) (by decide +kernel) rfl (fun c15 => ?_) (fun c15 => ?_)
    · skip
      refine G.sl [(.aload_n 0, 1, 0, 0, 0, 0), (.getfield 39, 3, 10, 5, 111, 0), (.aload_n 0, 1, 0, 0, 0, 0), (.getfield 43, 3, 10, 6, 112, 0)] [] (pc2 := 54) (ls2 := [some (.ref 0), some (.int x1)]) (st2 := [.ref 31, .ref 29]) (M2 := mrow (mrow (mrow M 1 r7) 31 r8) 32 r9) (Ps := []) (by decide +kernel) rfl rfl trivial ?_
      rcases g17 : b_take (M.1 29) (M.1 30) r8 r9 with ⟨u18, r19, r20⟩
      have t21 : GM z mX0_take (d + 7) [.ref 29, .ref 31] (mrow (mrow (mrow M 1 r7) 31 r8) 32 r9) (fun rs => rs = .inl (none, mrow (mrow (mrow (mrow (mrow M 1 r7) 29 r19) 30 r20) 31 r8) 32 r9)) := by
        have q9 := c_b_take_29_31 z (d + 6) (mrow (mrow (mrow M 1 r7) 31 r8) 32 r9) 
        try simp only [mput, mrow_same, mrow_hit, mrow_miss, mrow_sw, idr_eq, ne_eq, Nat.reduceEqDiff, not_false_eq_true, Nat.reduceLT, reduceCtorEq, g17] at q9
        exact q9
      refine G.callV (as := [.ref 31]) (rest := []) (a := 29) oX0_take lk_EvenFinders_169 (by decide +kernel) rfl rfl ⟨rfl, rfl⟩ (Nat.le_of_ble_eq_true rfl) rfl ⟨Nat.le_of_ble_eq_true rfl, Nat.le_of_ble_eq_true rfl⟩ t21 (fun v9 N9 h22 => ?_) (fun E9 N9 h22 => by cases h22)
      cases h22
      show G z mX11_book (d + 8) 1 6 57 [some (.ref 0), some (.int x1)] [] (mrow (mrow (mrow (mrow (mrow M 1 r7) 29 r19) 30 r20) 31 r8) 32 r9) Q
      refine G.sl [(.aload_n 0, 1, 0, 0, 0, 0), (.getfield 39, 3, 10, 5, 111, 0), (.getfield 172, 3, 0, 0, 60, 0)] [] (pc2 := 64) (ls2 := [some (.ref 0), some (.int x1)]) (st2 := [.int (r19 0)]) (M2 := mrow (mrow (mrow (mrow (mrow M 1 r7) 29 r19) 30 r20) 31 r8) 32 r9) (Ps := []) (by decide +kernel) rfl rfl trivial ?_
      exact G.reti (by decide +kernel) rfl rfl (Nat.le_of_ble_eq_true rfl) (Nat.le_of_ble_eq_true rfl) ((by rw [hQ]; simp only [e_book, if_pos c1, g5, if_pos c15, g17, mrow_self]))
    · skip
      refine G.sl [(.aload_n 0, 1, 0, 0, 0, 0), (.getfield 12, 3, 10, 0, 106, 0), (.getfield 121, 3, 5, 2, 4, 0), (.bipush 10, 2, 0, 0, 0, nI 10), (.isub, 1, 0, 0, 0, 0)] [] (pc2 := 45) (ls2 := [some (.ref 0), some (.int x1)]) (st2 := [.int ((r7 2) - (nI 10))]) (M2 := mrow (mrow (mrow M 1 r7) 31 r8) 32 r9) (Ps := []) (by decide +kernel) rfl rfl trivial ?_
      exact G.reti (by decide +kernel) rfl rfl (Nat.le_of_ble_eq_true rfl) (Nat.le_of_ble_eq_true rfl) ((by rw [hQ]; simp only [e_book, if_pos c1, g5, if_neg c15, mrow_self]))
  · skip
    rw [if_neg c1] at hk
    have t23 : GM z mX11_begin (d + 7) [.ref 0, .int x1, .int (nI 60)] M (fun rs => rs = .inr ("java/lang/IllegalArgumentException", mrow M 0 (upd (M.1 0) 16 ((M.1 0 16) + nI 1)))) := e_begin_b z d _ x1 (nI 60) c1
    refine G.callV (as := [.int x1, .int (nI 60)]) (rest := []) (a := 0) oX11_begin lk_EvenFinders_109 (by decide +kernel) rfl rfl ⟨rfl, rfl⟩ (Nat.le_of_ble_eq_true rfl) rfl ⟨Nat.le_of_ble_eq_true rfl, Nat.le_of_ble_eq_true rfl⟩ t23 (fun v9 N9 h9 => by cases h9) (fun E9 N9 h9 => ?_)
    cases h9
    rw [hQ]
    simp only [e_book, if_neg c1]
