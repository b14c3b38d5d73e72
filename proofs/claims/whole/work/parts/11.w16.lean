set_option maxHeartbeats 4000000 in
set_option maxRecDepth 3000 in
theorem lp_k_of_s19_4 (z : Zp) (d : Nat) (M : Mem) (Q : Rs → Prop) (nn : Nat) (hnn : nn = 4) (hX : G z mX12_of (d + 4) 0 0 31 [none, some (.int (k_of_s19_4  nn)), none] [] M Q) : G z mX12_of (d + 4) 0 0 4 [some (.ref 1019), some (.int (nI 0)), some (.int (nI 0))] [] M Q := by
  refine down (n := nn) (P := fun i2 => G z mX12_of (d + 4) 0 0 4 [some (.ref 1019), some (.int (k_of_s19_4  i2)), some (.int (nI i2))] [] M Q) ?_ ?_ 0 (Nat.zero_le _)
  · skip
    refine G.sl [(.iload_n 2, 1, 2, 0, 0, 0), (.aload_n 0, 1, 0, 0, 0, 0)] [] (pc2 := 6) (ls2 := [some (.ref 1019), some (.int (k_of_s19_4  nn)), some (.int (nI nn))]) (st2 := [.ref 1019, .int (nI nn)]) (M2 := M) (Ps := []) (by decide +kernel) rfl rfl trivial ?_
    have t1 : GM z mJ0_length_8abf5 (d + 3) [.ref 1019] M (fun rs => rs = .inl (some (.int (nI 4)), M)) := c_slen z _ _ 19 (by decide)
    refine G.callT (as := []) (rest := [.int (nI nn)]) (i := 19) oJ0_length_8abf5 lk_EvenFindersModel_121 (by decide +kernel) rfl (by decide) rfl (Nat.le_of_ble_eq_true rfl) rfl ⟨Nat.le_of_ble_eq_true rfl, Nat.le_of_ble_eq_true rfl⟩ t1 (fun v9 N9 h2 => ?_) (fun E9 N9 h2 => by cases h2)
    cases h2
    show G z mX12_of (d + 4) 0 0 9 [some (.ref 1019), some (.int (k_of_s19_4  nn)), some (.int (nI nn))] [.int (nI 4), .int (nI nn)] M Q
    refine G.ic_ge (off := (22)) (tgt := 31) (by decide +kernel) rfl (fun _ => ?_) (fun h9 => absurd (nI_le (by omega) (by omega)) h9)
    refine G.loc (ls2 := [none, some (.int (k_of_s19_4  nn)), none]) (by simp [subL]) ?_
    exact hX
  · skip
    intro i2 hi ih
    show G z mX12_of (d + 4) 0 0 4 [some (.ref 1019), some (.int (k_of_s19_4  i2)), some (.int (nI i2))] [] M Q
    refine G.sl [(.iload_n 2, 1, 2, 0, 0, 0), (.aload_n 0, 1, 0, 0, 0, 0)] [] (pc2 := 6) (ls2 := [some (.ref 1019), some (.int (k_of_s19_4  i2)), some (.int (nI i2))]) (st2 := [.ref 1019, .int (nI i2)]) (M2 := M) (Ps := []) (by decide +kernel) rfl rfl trivial ?_
    have t3 : GM z mJ0_length_8abf5 (d + 3) [.ref 1019] M (fun rs => rs = .inl (some (.int (nI 4)), M)) := c_slen z _ _ 19 (by decide)
    refine G.callT (as := []) (rest := [.int (nI i2)]) (i := 19) oJ0_length_8abf5 lk_EvenFindersModel_121 (by decide +kernel) rfl (by decide) rfl (Nat.le_of_ble_eq_true rfl) rfl ⟨Nat.le_of_ble_eq_true rfl, Nat.le_of_ble_eq_true rfl⟩ t3 (fun v9 N9 h4 => ?_) (fun E9 N9 h4 => by cases h4)
    cases h4
    show G z mX12_of (d + 4) 0 0 9 [some (.ref 1019), some (.int (k_of_s19_4  i2)), some (.int (nI i2))] [.int (nI 4), .int (nI i2)] M Q
    refine G.ic_ge (off := (22)) (tgt := 31) (by decide +kernel) rfl (fun h9 => absurd h9 (nI_ge (by omega) (by omega))) (fun _ => ?_)
    refine G.sl [(.iload_n 1, 1, 1, 0, 0, 0), (.iconst 5, 1, 0, 0, 0, nI 5), (.ishl, 1, 0, 0, 0, 0), (.aload_n 0, 1, 0, 0, 0, 0), (.iload_n 2, 1, 2, 0, 0, 0)] [] (pc2 := 17) (ls2 := [some (.ref 1019), some (.int (k_of_s19_4  i2)), some (.int (nI i2))]) (st2 := [.int (nI i2), .ref 1019, .int ((k_of_s19_4  i2) <<< ((nI 5) &&& 31))]) (M2 := M) (Ps := []) (by decide +kernel) rfl rfl trivial ?_
    have t5 : GM z mJ0_charAt_5068e (d + 3) [.ref 1019, .int (nI i2)] M (fun rs => rs = .inl (some (.int (sby 19 i2)), M)) := c_charAt z _ _ 19 i2 (by decide) (show i2 < 4 from (by omega))
    refine G.callT (as := [.int (nI i2)]) (rest := [.int ((k_of_s19_4  i2) <<< ((nI 5) &&& 31))]) (i := 19) oJ0_charAt_5068e lk_EvenFindersModel_126 (by decide +kernel) rfl (by decide) rfl (Nat.le_of_ble_eq_true rfl) rfl ⟨Nat.le_of_ble_eq_true rfl, Nat.le_of_ble_eq_true rfl⟩ t5 (fun v9 N9 h6 => ?_) (fun E9 N9 h6 => by cases h6)
    cases h6
    show G z mX12_of (d + 4) 0 0 20 [some (.ref 1019), some (.int (k_of_s19_4  i2)), some (.int (nI i2))] [.int (sby 19 i2), .int ((k_of_s19_4  i2) <<< ((nI 5) &&& 31))] M Q
    refine G.sl [(.bipush 96, 2, 0, 0, 0, nI 96), (.isub, 1, 0, 0, 0, 0), (.ior, 1, 0, 0, 0, 0), (.istore_n 1, 1, 1, 0, 0, 0), (.iinc 2 1, 3, 2, 0, 0, nI 1), (.goto (-24), 3, 4, 0, 0, 0)] [] (pc2 := 4) (ls2 := [some (.ref 1019), some (.int (((k_of_s19_4  i2) <<< ((nI 5) &&& 31)) ||| ((sby 19 i2) - (nI 96)))), some (.int ((nI i2) + nI 1))]) (st2 := []) (M2 := M) (Ps := []) (by decide +kernel) rfl rfl trivial ?_
    rw [nI_add i2 1]
    simp only [k_of_s19_4] at ih
    exact ih
set_option maxHeartbeats 4000000 in
set_option maxRecDepth 3000 in
theorem c_k_of_s19 (z : Zp) (d : Nat) (M : Mem) : GM z mX12_of (d + 4) [.ref 1019] M (fun rs => rs = .inl (some (.int (k_of_s19 )), M)) := by
  refine GM.of oX12_of.1 (Nat.le_of_ble_eq_true rfl) ?_
  show G z mX12_of (d + 4) 0 0 0 [some (.ref 1019), none, none] [] M _
  obtain ⟨Q, hQ⟩ : ∃ Q : Rs → Prop, Q = (fun rs => rs = .inl (some (.int (k_of_s19 )), M)) := ⟨_, rfl⟩
  rw [← hQ]
  refine G.sl [(.iconst 0, 1, 0, 0, 0, nI 0), (.istore_n 1, 1, 1, 0, 0, 0), (.iconst 0, 1, 0, 0, 0, nI 0), (.istore_n 2, 1, 2, 0, 0, 0)] [] (pc2 := 4) (ls2 := [some (.ref 1019), some (.int (nI 0)), some (.int (nI 0))]) (st2 := []) (M2 := M) (Ps := []) (by decide +kernel) rfl rfl trivial ?_
  refine lp_k_of_s19_4 z d M Q (cN 4) (cN_eq 4) ?_
  show G z mX12_of (d + 4) 0 0 31 [none, some (.int (k_of_s19_4 (cN 4))), none] [] M Q
  refine G.sl [(.iload_n 1, 1, 1, 0, 0, 0)] [] (pc2 := 32) (ls2 := [none, some (.int (k_of_s19_4 (cN 4))), none]) (st2 := [.int (k_of_s19_4 (cN 4))]) (M2 := M) (Ps := []) (by decide +kernel) rfl rfl trivial ?_
  exact G.reti (by decide +kernel) rfl rfl (Nat.le_of_ble_eq_true rfl) (Nat.le_of_ble_eq_true rfl) ((by rw [hQ]; simp only [k_of_s19, mrow_self]))
set_option maxHeartbeats 4000000 in
set_option maxRecDepth 3000 in
theorem lp_k_of_s20_4 (z : Zp) (d : Nat) (M : Mem) (Q : Rs → Prop) (nn : Nat) (hnn : nn = 4) (hX : G z mX12_of (d + 4) 0 0 31 [none, some (.int (k_of_s20_4  nn)), none] [] M Q) : G z mX12_of (d + 4) 0 0 4 [some (.ref 1020), some (.int (nI 0)), some (.int (nI 0))] [] M Q := by
  refine down (n := nn) (P := fun i2 => G z mX12_of (d + 4) 0 0 4 [some (.ref 1020), some (.int (k_of_s20_4  i2)), some (.int (nI i2))] [] M Q) ?_ ?_ 0 (Nat.zero_le _)
  · skip
    refine G.sl [(.iload_n 2, 1, 2, 0, 0, 0), (.aload_n 0, 1, 0, 0, 0, 0)] [] (pc2 := 6) (ls2 := [some (.ref 1020), some (.int (k_of_s20_4  nn)), some (.int (nI nn))]) (st2 := [.ref 1020, .int (nI nn)]) (M2 := M) (Ps := []) (by decide +kernel) rfl rfl trivial ?_
    have t1 : GM z mJ0_length_8abf5 (d + 3) [.ref 1020] M (fun rs => rs = .inl (some (.int (nI 4)), M)) := c_slen z _ _ 20 (by decide)
    refine G.callT (as := []) (rest := [.int (nI nn)]) (i := 20) oJ0_length_8abf5 lk_EvenFindersModel_121 (by decide +kernel) rfl (by decide) rfl (Nat.le_of_ble_eq_true rfl) rfl ⟨Nat.le_of_ble_eq_true rfl, Nat.le_of_ble_eq_true rfl⟩ t1 (fun v9 N9 h2 => ?_) (fun E9 N9 h2 => by cases h2)
    cases h2
    show G z mX12_of (d + 4) 0 0 9 [some (.ref 1020), some (.int (k_of_s20_4  nn)), some (.int (nI nn))] [.int (nI 4), .int (nI nn)] M Q
    refine G.ic_ge (off := (22)) (tgt := 31) (by decide +kernel) rfl (fun _ => ?_) (fun h9 => absurd (nI_le (by omega) (by omega)) h9)
    refine G.loc (ls2 := [none, some (.int (k_of_s20_4  nn)), none]) (by simp [subL]) ?_
    exact hX
  · skip
    intro i2 hi ih
    show G z mX12_of (d + 4) 0 0 4 [some (.ref 1020), some (.int (k_of_s20_4  i2)), some (.int (nI i2))] [] M Q
    refine G.sl [(.iload_n 2, 1, 2, 0, 0, 0), (.aload_n 0, 1, 0, 0, 0, 0)] [] (pc2 := 6) (ls2 := [some (.ref 1020), some (.int (k_of_s20_4  i2)), some (.int (nI i2))]) (st2 := [.ref 1020, .int (nI i2)]) (M2 := M) (Ps := []) (by decide +kernel) rfl rfl trivial ?_
    have t3 : GM z mJ0_length_8abf5 (d + 3) [.ref 1020] M (fun rs => rs = .inl (some (.int (nI 4)), M)) := c_slen z _ _ 20 (by decide)
    refine G.callT (as := []) (rest := [.int (nI i2)]) (i := 20) oJ0_length_8abf5 lk_EvenFindersModel_121 (by decide +kernel) rfl (by decide) rfl (Nat.le_of_ble_eq_true rfl) rfl ⟨Nat.le_of_ble_eq_true rfl, Nat.le_of_ble_eq_true rfl⟩ t3 (fun v9 N9 h4 => ?_) (fun E9 N9 h4 => by cases h4)
    cases h4
    show G z mX12_of (d + 4) 0 0 9 [some (.ref 1020), some (.int (k_of_s20_4  i2)), some (.int (nI i2))] [.int (nI 4), .int (nI i2)] M Q
    refine G.ic_ge (off := (22)) (tgt := 31) (by decide +kernel) rfl (fun h9 => absurd h9 (nI_ge (by omega) (by omega))) (fun _ => ?_)
    refine G.sl [(.iload_n 1, 1, 1, 0, 0, 0), (.iconst 5, 1, 0, 0, 0, nI 5), (.ishl, 1, 0, 0, 0, 0), (.aload_n 0, 1, 0, 0, 0, 0), (.iload_n 2, 1, 2, 0, 0, 0)] [] (pc2 := 17) (ls2 := [some (.ref 1020), some (.int (k_of_s20_4  i2)), some (.int (nI i2))]) (st2 := [.int (nI i2), .ref 1020, .int ((k_of_s20_4  i2) <<< ((nI 5) &&& 31))]) (M2 := M) (Ps := []) (by decide +kernel) rfl rfl trivial ?_
    have t5 : GM z mJ0_charAt_5068e (d + 3) [.ref 1020, .int (nI i2)] M (fun rs => rs = .inl (some (.int (sby 20 i2)), M)) := c_charAt z _ _ 20 i2 (by decide) (show i2 < 4 from (by omega))
    refine G.callT (as := [.int (nI i2)]) (rest := [.int ((k_of_s20_4  i2) <<< ((nI 5) &&& 31))]) (i := 20) oJ0_charAt_5068e lk_EvenFindersModel_126 (by decide +kernel) rfl (by decide) rfl (Nat.le_of_ble_eq_true rfl) rfl ⟨Nat.le_of_ble_eq_true rfl, Nat.le_of_ble_eq_true rfl⟩ t5 (fun v9 N9 h6 => ?_) (fun E9 N9 h6 => by cases h6)
    cases h6
    show G z mX12_of (d + 4) 0 0 20 [some (.ref 1020), some (.int (k_of_s20_4  i2)), some (.int (nI i2))] [.int (sby 20 i2), .int ((k_of_s20_4  i2) <<< ((nI 5) &&& 31))] M Q
    refine G.sl [(.bipush 96, 2, 0, 0, 0, nI 96), (.isub, 1, 0, 0, 0, 0), (.ior, 1, 0, 0, 0, 0), (.istore_n 1, 1, 1, 0, 0, 0), (.iinc 2 1, 3, 2, 0, 0, nI 1), (.goto (-24), 3, 4, 0, 0, 0)] [] (pc2 := 4) (ls2 := [some (.ref 1020), some (.int (((k_of_s20_4  i2) <<< ((nI 5) &&& 31)) ||| ((sby 20 i2) - (nI 96)))), some (.int ((nI i2) + nI 1))]) (st2 := []) (M2 := M) (Ps := []) (by decide +kernel) rfl rfl trivial ?_
    rw [nI_add i2 1]
    simp only [k_of_s20_4] at ih
    exact ih
set_option maxHeartbeats 4000000 in
set_option maxRecDepth 3000 in
theorem c_k_of_s20 (z : Zp) (d : Nat) (M : Mem) : GM z mX12_of (d + 4) [.ref 1020] M (fun rs => rs = .inl (some (.int (k_of_s20 )), M)) := by
  refine GM.of oX12_of.1 (Nat.le_of_ble_eq_true rfl) ?_
  show G z mX12_of (d + 4) 0 0 0 [some (.ref 1020), none, none] [] M _
  obtain ⟨Q, hQ⟩ : ∃ Q : Rs → Prop, Q = (fun rs => rs = .inl (some (.int (k_of_s20 )), M)) := ⟨_, rfl⟩
  rw [← hQ]
  refine G.sl [(.iconst 0, 1, 0, 0, 0, nI 0), (.istore_n 1, 1, 1, 0, 0, 0), (.iconst 0, 1, 0, 0, 0, nI 0), (.istore_n 2, 1, 2, 0, 0, 0)] [] (pc2 := 4) (ls2 := [some (.ref 1020), some (.int (nI 0)), some (.int (nI 0))]) (st2 := []) (M2 := M) (Ps := []) (by decide +kernel) rfl rfl trivial ?_
  refine lp_k_of_s20_4 z d M Q (cN 4) (cN_eq 4) ?_
  show G z mX12_of (d + 4) 0 0 31 [none, some (.int (k_of_s20_4 (cN 4))), none] [] M Q
  refine G.sl [(.iload_n 1, 1, 1, 0, 0, 0)] [] (pc2 := 32) (ls2 := [none, some (.int (k_of_s20_4 (cN 4))), none]) (st2 := [.int (k_of_s20_4 (cN 4))]) (M2 := M) (Ps := []) (by decide +kernel) rfl rfl trivial ?_
  exact G.reti (by decide +kernel) rfl rfl (Nat.le_of_ble_eq_true rfl) (Nat.le_of_ble_eq_true rfl) ((by rw [hQ]; simp only [k_of_s20, mrow_self]))
set_option maxHeartbeats 4000000 in
set_option maxRecDepth 3000 in
theorem lp_k_of_s21_4 (z : Zp) (d : Nat) (M : Mem) (Q : Rs → Prop) (nn : Nat) (hnn : nn = 4) (hX : G z mX12_of (d + 4) 0 0 31 [none, some (.int (k_of_s21_4  nn)), none] [] M Q) : G z mX12_of (d + 4) 0 0 4 [some (.ref 1021), some (.int (nI 0)), some (.int (nI 0))] [] M Q := by
  refine down (n := nn) (P := fun i2 => G z mX12_of (d + 4) 0 0 4 [some (.ref 1021), some (.int (k_of_s21_4  i2)), some (.int (nI i2))] [] M Q) ?_ ?_ 0 (Nat.zero_le _)
  · skip
    refine G.sl [(.iload_n 2, 1, 2, 0, 0, 0), (.aload_n 0, 1, 0, 0, 0, 0)] [] (pc2 := 6) (ls2 := [some (.ref 1021), some (.int (k_of_s21_4  nn)), some (.int (nI nn))]) (st2 := [.ref 1021, .int (nI nn)]) (M2 := M) (Ps := []) (by decide +kernel) rfl rfl trivial ?_
    have t1 : GM z mJ0_length_8abf5 (d + 3) [.ref 1021] M (fun rs => rs = .inl (some (.int (nI 4)), M)) := c_slen z _ _ 21 (by decide)
    refine G.callT (as := []) (rest := [.int (nI nn)]) (i := 21) oJ0_length_8abf5 lk_EvenFindersModel_121 (by decide +kernel) rfl (by decide) rfl (Nat.le_of_ble_eq_true rfl) rfl ⟨Nat.le_of_ble_eq_true rfl, Nat.le_of_ble_eq_true rfl⟩ t1 (fun v9 N9 h2 => ?_) (fun E9 N9 h2 => by cases h2)
    cases h2
    show G z mX12_of (d + 4) 0 0 9 [some (.ref 1021), some (.int (k_of_s21_4  nn)), some (.int (nI nn))] [.int (nI 4), .int (nI nn)] M Q
    refine G.ic_ge (off := (22)) (tgt := 31) (by decide +kernel) rfl (fun _ => ?_) (fun h9 => absurd (nI_le (by omega) (by omega)) h9)
    refine G.loc (ls2 := [none, some (.int (k_of_s21_4  nn)), none]) (by simp [subL]) ?_
    exact hX
  · skip
    intro i2 hi ih
    show G z mX12_of (d + 4) 0 0 4 [some (.ref 1021), some (.int (k_of_s21_4  i2)), some (.int (nI i2))] [] M Q
    refine G.sl [(.iload_n 2, 1, 2, 0, 0, 0), (.aload_n 0, 1, 0, 0, 0, 0)] [] (pc2 := 6) (ls2 := [some (.ref 1021), some (.int (k_of_s21_4  i2)), some (.int (nI i2))]) (st2 := [.ref 1021, .int (nI i2)]) (M2 := M) (Ps := []) (by decide +kernel) rfl rfl trivial ?_
    have t3 : GM z mJ0_length_8abf5 (d + 3) [.ref 1021] M (fun rs => rs = .inl (some (.int (nI 4)), M)) := c_slen z _ _ 21 (by decide)
    refine G.callT (as := []) (rest := [.int (nI i2)]) (i := 21) oJ0_length_8abf5 lk_EvenFindersModel_121 (by decide +kernel) rfl (by decide) rfl (Nat.le_of_ble_eq_true rfl) rfl ⟨Nat.le_of_ble_eq_true rfl, Nat.le_of_ble_eq_true rfl⟩ t3 (fun v9 N9 h4 => ?_) (fun E9 N9 h4 => by cases h4)
    cases h4
    show G z mX12_of (d + 4) 0 0 9 [some (.ref 1021), some (.int (k_of_s21_4  i2)), some (.int (nI i2))] [.int (nI 4), .int (nI i2)] M Q
    refine G.ic_ge (off := (22)) (tgt := 31) (by decide +kernel) rfl (fun h9 => absurd h9 (nI_ge (by omega) (by omega))) (fun _ => ?_)
    refine G.sl [(.iload_n 1, 1, 1, 0, 0, 0), (.iconst 5, 1, 0, 0, 0, nI 5), (.ishl, 1, 0, 0, 0, 0), (.aload_n 0, 1, 0, 0, 0, 0), (.iload_n 2, 1, 2, 0, 0, 0)] [] (pc2 := 17) (ls2 := [some (.ref 1021), some (.int (k_of_s21_4  i2)), some (.int (nI i2))]) (st2 := [.int (nI i2), .ref 1021, .int ((k_of_s21_4  i2) <<< ((nI 5) &&& 31))]) (M2 := M) (Ps := []) (by decide +kernel) rfl rfl trivial ?_
    have t5 : GM z mJ0_charAt_5068e (d + 3) [.ref 1021, .int (nI i2)] M (fun rs => rs = .inl (some (.int (sby 21 i2)), M)) := c_charAt z _ _ 21 i2 (by decide) (show i2 < 4 from (by omega))
    refine G.callT (as := [.int (nI i2)]) (rest := [.int ((k_of_s21_4  i2) <<< ((nI 5) &&& 31))]) (i := 21) oJ0_charAt_5068e lk_EvenFindersModel_126 (by decide +kernel) rfl (by decide) rfl (Nat.le_of_ble_eq_true rfl) rfl ⟨Nat.le_of_ble_eq_true rfl, Nat.le_of_ble_eq_true rfl⟩ t5 (fun v9 N9 h6 => ?_) (fun E9 N9 h6 => by cases h6)
    cases h6
    show G z mX12_of (d + 4) 0 0 20 [some (.ref 1021), some (.int (k_of_s21_4  i2)), some (.int (nI i2))] [.int (sby 21 i2), .int ((k_of_s21_4  i2) <<< ((nI 5) &&& 31))] M Q
    refine G.sl [(.bipush 96, 2, 0, 0, 0, nI 96), (.isub, 1, 0, 0, 0, 0), (.ior, 1, 0, 0, 0, 0), (.istore_n 1, 1, 1, 0, 0, 0), (.iinc 2 1, 3, 2, 0, 0, nI 1), (.goto (-24), 3, 4, 0, 0, 0)] [] (pc2 := 4) (ls2 := [some (.ref 1021), some (.int (((k_of_s21_4  i2) <<< ((nI 5) &&& 31)) ||| ((sby 21 i2) - (nI 96)))), some (.int ((nI i2) + nI 1))]) (st2 := []) (M2 := M) (Ps := []) (by decide +kernel) rfl rfl trivial ?_
    rw [nI_add i2 1]
    simp only [k_of_s21_4] at ih
    exact ih
set_option maxHeartbeats 4000000 in
set_option maxRecDepth 3000 in
theorem c_k_of_s21 (z : Zp) (d : Nat) (M : Mem) : GM z mX12_of (d + 4) [.ref 1021] M (fun rs => rs = .inl (some (.int (k_of_s21 )), M)) := by
  refine GM.of oX12_of.1 (Nat.le_of_ble_eq_true rfl) ?_
  show G z mX12_of (d + 4) 0 0 0 [some (.ref 1021), none, none] [] M _
  obtain ⟨Q, hQ⟩ : ∃ Q : Rs → Prop, Q = (fun rs => rs = .inl (some (.int (k_of_s21 )), M)) := ⟨_, rfl⟩
  rw [← hQ]
  refine G.sl [(.iconst 0, 1, 0, 0, 0, nI 0), (.istore_n 1, 1, 1, 0, 0, 0), (.iconst 0, 1, 0, 0, 0, nI 0), (.istore_n 2, 1, 2, 0, 0, 0)] [] (pc2 := 4) (ls2 := [some (.ref 1021), some (.int (nI 0)), some (.int (nI 0))]) (st2 := []) (M2 := M) (Ps := []) (by decide +kernel) rfl rfl trivial ?_
  refine lp_k_of_s21_4 z d M Q (cN 4) (cN_eq 4) ?_
  show G z mX12_of (d + 4) 0 0 31 [none, some (.int (k_of_s21_4 (cN 4))), none] [] M Q
  refine G.sl [(.iload_n 1, 1, 1, 0, 0, 0)] [] (pc2 := 32) (ls2 := [none, some (.int (k_of_s21_4 (cN 4))), none]) (st2 := [.int (k_of_s21_4 (cN 4))]) (M2 := M) (Ps := []) (by decide +kernel) rfl rfl trivial ?_
  exact G.reti (by decide +kernel) rfl rfl (Nat.le_of_ble_eq_true rfl) (Nat.le_of_ble_eq_true rfl) ((by rw [hQ]; simp only [k_of_s21, mrow_self]))
set_option maxHeartbeats 4000000 in
set_option maxRecDepth 3000 in
theorem lp_k_of_s22_4 (z : Zp) (d : Nat) (M : Mem) (Q : Rs → Prop) (nn : Nat) (hnn : nn = 4) (hX : G z mX12_of (d + 4) 0 0 31 [none, some (.int (k_of_s22_4  nn)), none] [] M Q) : G z mX12_of (d + 4) 0 0 4 [some (.ref 1022), some (.int (nI 0)), some (.int (nI 0))] [] M Q := by
  refine down (n := nn) (P := fun i2 => G z mX12_of (d + 4) 0 0 4 [some (.ref 1022), some (.int (k_of_s22_4  i2)), some (.int (nI i2))] [] M Q) ?_ ?_ 0 (Nat.zero_le _)
  · skip
    refine G.sl [(.iload_n 2, 1, 2, 0, 0, 0), (.aload_n 0, 1, 0, 0, 0, 0)] [] (pc2 := 6) (ls2 := [some (.ref 1022), some (.int (k_of_s22_4  nn)), some (.int (nI nn))]) (st2 := [.ref 1022, .int (nI nn)]) (M2 := M) (Ps := []) (by decide +kernel) rfl rfl trivial ?_
    have t1 : GM z mJ0_length_8abf5 (d + 3) [.ref 1022] M (fun rs => rs = .inl (some (.int (nI 4)), M)) := c_slen z _ _ 22 (by decide)
    refine G.callT (as := []) (rest := [.int (nI nn)]) (i := 22) oJ0_length_8abf5 lk_EvenFindersModel_121 (by decide +kernel) rfl (by decide) rfl (Nat.le_of_ble_eq_true rfl) rfl ⟨Nat.le_of_ble_eq_true rfl, Nat.le_of_ble_eq_true rfl⟩ t1 (fun v9 N9 h2 => ?_) (fun E9 N9 h2 => by cases h2)
    cases h2
    show G z mX12_of (d + 4) 0 0 9 [some (.ref 1022), some (.int (k_of_s22_4  nn)), some (.int (nI nn))] [.int (nI 4), .int (nI nn)] M Q
    refine G.ic_ge (off := (22)) (tgt := 31) (by decide +kernel) rfl (fun _ => ?_) (fun h9 => absurd (nI_le (by omega) (by omega)) h9)
    refine G.loc (ls2 := [none, some (.int (k_of_s22_4  nn)), none]) (by simp [subL]) ?_
    exact hX
  · skip
    intro i2 hi ih
    show G z mX12_of (d + 4) 0 0 4 [some (.ref 1022), some (.int (k_of_s22_4  i2)), some (.int (nI i2))] [] M Q
    refine G.sl [(.iload_n 2, 1, 2, 0, 0, 0), (.aload_n 0, 1, 0, 0, 0, 0)] [] (pc2 := 6) (ls2 := [some (.ref 1022), some (.int (k_of_s22_4  i2)), some (.int (nI i2))]) (st2 := [.ref 1022, .int (nI i2)]) (M2 := M) (Ps := []) (by decide +kernel) rfl rfl trivial ?_
    have t3 : GM z mJ0_length_8abf5 (d + 3) [.ref 1022] M (fun rs => rs = .inl (some (.int (nI 4)), M)) := c_slen z _ _ 22 (by decide)
    refine G.callT (as := []) (rest := [.int (nI i2)]) (i := 22) oJ0_length_8abf5 lk_EvenFindersModel_121 (by decide +kernel) rfl (by decide) rfl (Nat.le_of_ble_eq_true rfl) rfl ⟨Nat.le_of_ble_eq_true rfl, Nat.le_of_ble_eq_true rfl⟩ t3 (fun v9 N9 h4 => ?_) (fun E9 N9 h4 => by cases h4)
    cases h4
    show G z mX12_of (d + 4) 0 0 9 [some (.ref 1022), some (.int (k_of_s22_4  i2)), some (.int (nI i2))] [.int (nI 4), .int (nI i2)] M Q
    refine G.ic_ge (off := (22)) (tgt := 31) (by decide +kernel) rfl (fun h9 => absurd h9 (nI_ge (by omega) (by omega))) (fun _ => ?_)
    refine G.sl [(.iload_n 1, 1, 1, 0, 0, 0), (.iconst 5, 1, 0, 0, 0, nI 5), (.ishl, 1, 0, 0, 0, 0), (.aload_n 0, 1, 0, 0, 0, 0), (.iload_n 2, 1, 2, 0, 0, 0)] [] (pc2 := 17) (ls2 := [some (.ref 1022), some (.int (k_of_s22_4  i2)), some (.int (nI i2))]) (st2 := [.int (nI i2), .ref 1022, .int ((k_of_s22_4  i2) <<< ((nI 5) &&& 31))]) (M2 := M) (Ps := []) (by decide +kernel) rfl rfl trivial ?_
    have t5 : GM z mJ0_charAt_5068e (d + 3) [.ref 1022, .int (nI i2)] M (fun rs => rs = .inl (some (.int (sby 22 i2)), M)) := c_charAt z _ _ 22 i2 (by decide) (show i2 < 4 from (by omega))
    refine G.callT (as := [.int (nI i2)]) (rest := [.int ((k_of_s22_4  i2) <<< ((nI 5) &&& 31))]) (i := 22) oJ0_charAt_5068e lk_EvenFindersModel_126 (by decide +kernel) rfl (by decide) rfl (Nat.le_of_ble_eq_true rfl) rfl ⟨Nat.le_of_ble_eq_true rfl, Nat.le_of_ble_eq_true rfl⟩ t5 (fun v9 N9 h6 => ?_) (fun E9 N9 h6 => by cases h6)
    cases h6
    show G z mX12_of (d + 4) 0 0 20 [some (.ref 1022), some (.int (k_of_s22_4  i2)), some (.int (nI i2))] [.int (sby 22 i2), .int ((k_of_s22_4  i2) <<< ((nI 5) &&& 31))] M Q
    refine G.sl [(.bipush 96, 2, 0, 0, 0, nI 96), (.isub, 1, 0, 0, 0, 0), (.ior, 1, 0, 0, 0, 0), (.istore_n 1, 1, 1, 0, 0, 0), (.iinc 2 1, 3, 2, 0, 0, nI 1), (.goto (-24), 3, 4, 0, 0, 0)] [] (pc2 := 4) (ls2 := [some (.ref 1022), some (.int (((k_of_s22_4  i2) <<< ((nI 5) &&& 31)) ||| ((sby 22 i2) - (nI 96)))), some (.int ((nI i2) + nI 1))]) (st2 := []) (M2 := M) (Ps := []) (by decide +kernel) rfl rfl trivial ?_
    rw [nI_add i2 1]
    simp only [k_of_s22_4] at ih
    exact ih
set_option maxHeartbeats 4000000 in
set_option maxRecDepth 3000 in
theorem c_k_of_s22 (z : Zp) (d : Nat) (M : Mem) : GM z mX12_of (d + 4) [.ref 1022] M (fun rs => rs = .inl (some (.int (k_of_s22 )), M)) := by
  refine GM.of oX12_of.1 (Nat.le_of_ble_eq_true rfl) ?_
  show G z mX12_of (d + 4) 0 0 0 [some (.ref 1022), none, none] [] M _
  obtain ⟨Q, hQ⟩ : ∃ Q : Rs → Prop, Q = (fun rs => rs = .inl (some (.int (k_of_s22 )), M)) := ⟨_, rfl⟩
  rw [← hQ]
  refine G.sl [(.iconst 0, 1, 0, 0, 0, nI 0), (.istore_n 1, 1, 1, 0, 0, 0), (.iconst 0, 1, 0, 0, 0, nI 0), (.istore_n 2, 1, 2, 0, 0, 0)] [] (pc2 := 4) (ls2 := [some (.ref 1022), some (.int (nI 0)), some (.int (nI 0))]) (st2 := []) (M2 := M) (Ps := []) (by decide +kernel) rfl rfl trivial ?_
  refine lp_k_of_s22_4 z d M Q (cN 4) (cN_eq 4) ?_
  show G z mX12_of (d + 4) 0 0 31 [none, some (.int (k_of_s22_4 (cN 4))), none] [] M Q
  refine G.sl [(.iload_n 1, 1, 1, 0, 0, 0)] [] (pc2 := 32) (ls2 := [none, some (.int (k_of_s22_4 (cN 4))), none]) (st2 := [.int (k_of_s22_4 (cN 4))]) (M2 := M) (Ps := []) (by decide +kernel) rfl rfl trivial ?_
  exact G.reti (by decide +kernel) rfl rfl (Nat.le_of_ble_eq_true rfl) (Nat.le_of_ble_eq_true rfl) ((by rw [hQ]; simp only [k_of_s22, mrow_self]))
set_option maxHeartbeats 4000000 in
set_option maxRecDepth 3000 in
theorem lp_k_of_s23_4 (z : Zp) (d : Nat) (M : Mem) (Q : Rs → Prop) (nn : Nat) (hnn : nn = 5) (hX : G z mX12_of (d + 4) 0 0 31 [none, some (.int (k_of_s23_4  nn)), none] [] M Q) : G z mX12_of (d + 4) 0 0 4 [some (.ref 1023), some (.int (nI 0)), some (.int (nI 0))] [] M Q := by
  refine down (n := nn) (P := fun i2 => G z mX12_of (d + 4) 0 0 4 [some (.ref 1023), some (.int (k_of_s23_4  i2)), some (.int (nI i2))] [] M Q) ?_ ?_ 0 (Nat.zero_le _)
  · skip
    refine G.sl [(.iload_n 2, 1, 2, 0, 0, 0), (.aload_n 0, 1, 0, 0, 0, 0)] [] (pc2 := 6) (ls2 := [some (.ref 1023), some (.int (k_of_s23_4  nn)), some (.int (nI nn))]) (st2 := [.ref 1023, .int (nI nn)]) (M2 := M) (Ps := []) (by decide +kernel) rfl rfl trivial ?_
    have t1 : GM z mJ0_length_8abf5 (d + 3) [.ref 1023] M (fun rs => rs = .inl (some (.int (nI 5)), M)) := c_slen z _ _ 23 (by decide)
    refine G.callT (as := []) (rest := [.int (nI nn)]) (i := 23) oJ0_length_8abf5 lk_EvenFindersModel_121 (by decide +kernel) rfl (by decide) rfl (Nat.le_of_ble_eq_true rfl) rfl ⟨Nat.le_of_ble_eq_true rfl, Nat.le_of_ble_eq_true rfl⟩ t1 (fun v9 N9 h2 => ?_) (fun E9 N9 h2 => by cases h2)
    cases h2
    show G z mX12_of (d + 4) 0 0 9 [some (.ref 1023), some (.int (k_of_s23_4  nn)), some (.int (nI nn))] [.int (nI 5), .int (nI nn)] M Q
    refine G.ic_ge (off := (22)) (tgt := 31) (by decide +kernel) rfl (fun _ => ?_) (fun h9 => absurd (nI_le (by omega) (by omega)) h9)
    refine G.loc (ls2 := [none, some (.int (k_of_s23_4  nn)), none]) (by simp [subL]) ?_
    exact hX
  · skip
    intro i2 hi ih
    show G z mX12_of (d + 4) 0 0 4 [some (.ref 1023), some (.int (k_of_s23_4  i2)), some (.int (nI i2))] [] M Q
    refine G.sl [(.iload_n 2, 1, 2, 0, 0, 0), (.aload_n 0, 1, 0, 0, 0, 0)] [] (pc2 := 6) (ls2 := [some (.ref 1023), some (.int (k_of_s23_4  i2)), some (.int (nI i2))]) (st2 := [.ref 1023, .int (nI i2)]) (M2 := M) (Ps := []) (by decide +kernel) rfl rfl trivial ?_
    have t3 : GM z mJ0_length_8abf5 (d + 3) [.ref 1023] M (fun rs => rs = .inl (some (.int (nI 5)), M)) := c_slen z _ _ 23 (by decide)
    refine G.callT (as := []) (rest := [.int (nI i2)]) (i := 23) oJ0_length_8abf5 lk_EvenFindersModel_121 (by decide +kernel) rfl (by decide) rfl (Nat.le_of_ble_eq_true rfl) rfl ⟨Nat.le_of_ble_eq_true rfl, Nat.le_of_ble_eq_true rfl⟩ t3 (fun v9 N9 h4 => ?_) (fun E9 N9 h4 => by cases h4)
    cases h4
    show G z mX12_of (d + 4) 0 0 9 [some (.ref 1023), some (.int (k_of_s23_4  i2)), some (.int (nI i2))] [.int (nI 5), .int (nI i2)] M Q
    refine G.ic_ge (off := (22)) (tgt := 31) (by decide +kernel) rfl (fun h9 => absurd h9 (nI_ge (by omega) (by omega))) (fun _ => ?_)
    refine G.sl [(.iload_n 1, 1, 1, 0, 0, 0), (.iconst 5, 1, 0, 0, 0, nI 5), (.ishl, 1, 0, 0, 0, 0), (.aload_n 0, 1, 0, 0, 0, 0), (.iload_n 2, 1, 2, 0, 0, 0)] [] (pc2 := 17) (ls2 := [some (.ref 1023), some (.int (k_of_s23_4  i2)), some (.int (nI i2))]) (st2 := [.int (nI i2), .ref 1023, .int ((k_of_s23_4  i2) <<< ((nI 5) &&& 31))]) (M2 := M) (Ps := []) (by decide +kernel) rfl rfl trivial ?_
    have t5 : GM z mJ0_charAt_5068e (d + 3) [.ref 1023, .int (nI i2)] M (fun rs => rs = .inl (some (.int (sby 23 i2)), M)) := c_charAt z _ _ 23 i2 (by decide) (show i2 < 5 from (by omega))
    refine G.callT (as := [.int (nI i2)]) (rest := [.int ((k_of_s23_4  i2) <<< ((nI 5) &&& 31))]) (i := 23) oJ0_charAt_5068e lk_EvenFindersModel_126 (by decide +kernel) rfl (by decide) rfl (Nat.le_of_ble_eq_true rfl) rfl ⟨Nat.le_of_ble_eq_true rfl, Nat.le_of_ble_eq_true rfl⟩ t5 (fun v9 N9 h6 => ?_) (fun E9 N9 h6 => by cases h6)
    cases h6
    show G z mX12_of (d + 4) 0 0 20 [some (.ref 1023), some (.int (k_of_s23_4  i2)), some (.int (nI i2))] [.int (sby 23 i2), .int ((k_of_s23_4  i2) <<< ((nI 5) &&& 31))] M Q
    refine G.sl [(.bipush 96, 2, 0, 0, 0, nI 96), (.isub, 1, 0, 0, 0, 0), (.ior, 1, 0, 0, 0, 0), (.istore_n 1, 1, 1, 0, 0, 0), (.iinc 2 1, 3, 2, 0, 0, nI 1), (.goto (-24), 3, 4, 0, 0, 0)] [] (pc2 := 4) (ls2 := [some (.ref 1023), some (.int (((k_of_s23_4  i2) <<< ((nI 5) &&& 31)) ||| ((sby 23 i2) - (nI 96)))), some (.int ((nI i2) + nI 1))]) (st2 := []) (M2 := M) (Ps := []) (by decide +kernel) rfl rfl trivial ?_
    rw [nI_add i2 1]
    simp only [k_of_s23_4] at ih
    exact ih
set_option maxHeartbeats 4000000 in
set_option maxRecDepth 3000 in
theorem c_k_of_s23 (z : Zp) (d : Nat) (M : Mem) : GM z mX12_of (d + 4) [.ref 1023] M (fun rs => rs = .inl (some (.int (k_of_s23 )), M)) := by
  refine GM.of oX12_of.1 (Nat.le_of_ble_eq_true rfl) ?_
  show G z mX12_of (d + 4) 0 0 0 [some (.ref 1023), none, none] [] M _
  obtain ⟨Q, hQ⟩ : ∃ Q : Rs → Prop, Q = (fun rs => rs = .inl (some (.int (k_of_s23 )), M)) := ⟨_, rfl⟩
  rw [← hQ]
  refine G.sl [(.iconst 0, 1, 0, 0, 0, nI 0), (.istore_n 1, 1, 1, 0, 0, 0), (.iconst 0, 1, 0, 0, 0, nI 0), (.istore_n 2, 1, 2, 0, 0, 0)] [] (pc2 := 4) (ls2 := [some (.ref 1023), some (.int (nI 0)), some (.int (nI 0))]) (st2 := []) (M2 := M) (Ps := []) (by decide +kernel) rfl rfl trivial ?_
  refine lp_k_of_s23_4 z d M Q (cN 5) (cN_eq 5) ?_
  show G z mX12_of (d + 4) 0 0 31 [none, some (.int (k_of_s23_4 (cN 5))), none] [] M Q
  refine G.sl [(.iload_n 1, 1, 1, 0, 0, 0)] [] (pc2 := 32) (ls2 := [none, some (.int (k_of_s23_4 (cN 5))), none]) (st2 := [.int (k_of_s23_4 (cN 5))]) (M2 := M) (Ps := []) (by decide +kernel) rfl rfl trivial ?_
  exact G.reti (by decide +kernel) rfl rfl (Nat.le_of_ble_eq_true rfl) (Nat.le_of_ble_eq_true rfl) ((by rw [hQ]; simp only [k_of_s23, mrow_self]))
set_option maxHeartbeats 4000000 in
set_option maxRecDepth 3000 in
theorem lp_k_of_s24_4 (z : Zp) (d : Nat) (M : Mem) (Q : Rs → Prop) (nn : Nat) (hnn : nn = 5) (hX : G z mX12_of (d + 4) 0 0 31 [none, some (.int (k_of_s24_4  nn)), none] [] M Q) : G z mX12_of (d + 4) 0 0 4 [some (.ref 1024), some (.int (nI 0)), some (.int (nI 0))] [] M Q := by
  refine down (n := nn) (P := fun i2 => G z mX12_of (d + 4) 0 0 4 [some (.ref 1024), some (.int (k_of_s24_4  i2)), some (.int (nI i2))] [] M Q) ?_ ?_ 0 (Nat.zero_le _)
  · skip
    refine G.sl [(.iload_n 2, 1, 2, 0, 0, 0), (.aload_n 0, 1, 0, 0, 0, 0)] [] (pc2 := 6) (ls2 := [some (.ref 1024), some (.int (k_of_s24_4  nn)), some (.int (nI nn))]) (st2 := [.ref 1024, .int (nI nn)]) (M2 := M) (Ps := []) (by decide +kernel) rfl rfl trivial ?_
    have t1 : GM z mJ0_length_8abf5 (d + 3) [.ref 1024] M (fun rs => rs = .inl (some (.int (nI 5)), M)) := c_slen z _ _ 24 (by decide)
    refine G.callT (as := []) (rest := [.int (nI nn)]) (i := 24) oJ0_length_8abf5 lk_EvenFindersModel_121 (by decide +kernel) rfl (by decide) rfl (Nat.le_of_ble_eq_true rfl) rfl ⟨Nat.le_of_ble_eq_true rfl, Nat.le_of_ble_eq_true rfl⟩ t1 (fun v9 N9 h2 => ?_) (fun E9 N9 h2 => by cases h2)
    cases h2
    show G z mX12_of (d + 4) 0 0 9 [some (.ref 1024), some (.int (k_of_s24_4  nn)), some (.int (nI nn))] [.int (nI 5), .int (nI nn)] M Q
    refine G.ic_ge (off := (22)) (tgt := 31) (by decide +kernel) rfl (fun _ => ?_) (fun h9 => absurd (nI_le (by omega) (by omega)) h9)
    refine G.loc (ls2 := [none, some (.int (k_of_s24_4  nn)), none]) (by simp [subL]) ?_
    exact hX
  · skip
    intro i2 hi ih
    show G z mX12_of (d + 4) 0 0 4 [some (.ref 1024), some (.int (k_of_s24_4  i2)), some (.int (nI i2))] [] M Q
    refine G.sl [(.iload_n 2, 1, 2, 0, 0, 0), (.aload_n 0, 1, 0, 0, 0, 0)] [] (pc2 := 6) (ls2 := [some (.ref 1024), some (.int (k_of_s24_4  i2)), some (.int (nI i2))]) (st2 := [.ref 1024, .int (nI i2)]) (M2 := M) (Ps := []) (by decide +kernel) rfl rfl trivial ?_
    have t3 : GM z mJ0_length_8abf5 (d + 3) [.ref 1024] M (fun rs => rs = .inl (some (.int (nI 5)), M)) := c_slen z _ _ 24 (by decide)
    refine G.callT (as := []) (rest := [.int (nI i2)]) (i := 24) oJ0_length_8abf5 lk_EvenFindersModel_121 (by decide +kernel) rfl (by decide) rfl (Nat.le_of_ble_eq_true rfl) rfl ⟨Nat.le_of_ble_eq_true rfl, Nat.le_of_ble_eq_true rfl⟩ t3 (fun v9 N9 h4 => ?_) (fun E9 N9 h4 => by cases h4)
    cases h4
    show G z mX12_of (d + 4) 0 0 9 [some (.ref 1024), some (.int (k_of_s24_4  i2)), some (.int (nI i2))] [.int (nI 5), .int (nI i2)] M Q
    refine G.ic_ge (off := (22)) (tgt := 31) (by decide +kernel) rfl (fun h9 => absurd h9 (nI_ge (by omega) (by omega))) (fun _ => ?_)
    refine G.sl [(.iload_n 1, 1, 1, 0, 0, 0), (.iconst 5, 1, 0, 0, 0, nI 5), (.ishl, 1, 0, 0, 0, 0), (.aload_n 0, 1, 0, 0, 0, 0), (.iload_n 2, 1, 2, 0, 0, 0)] [] (pc2 := 17) (ls2 := [some (.ref 1024), some (.int (k_of_s24_4  i2)), some (.int (nI i2))]) (st2 := [.int (nI i2), .ref 1024, .int ((k_of_s24_4  i2) <<< ((nI 5) &&& 31))]) (M2 := M) (Ps := []) (by decide +kernel) rfl rfl trivial ?_
    have t5 : GM z mJ0_charAt_5068e (d + 3) [.ref 1024, .int (nI i2)] M (fun rs => rs = .inl (some (.int (sby 24 i2)), M)) := c_charAt z _ _ 24 i2 (by decide) (show i2 < 5 from (by omega))
    refine G.callT (as := [.int (nI i2)]) (rest := [.int ((k_of_s24_4  i2) <<< ((nI 5) &&& 31))]) (i := 24) oJ0_charAt_5068e lk_EvenFindersModel_126 (by decide +kernel) rfl (by decide) rfl (Nat.le_of_ble_eq_true rfl) rfl ⟨Nat.le_of_ble_eq_true rfl, Nat.le_of_ble_eq_true rfl⟩ t5 (fun v9 N9 h6 => ?_) (fun E9 N9 h6 => by cases h6)
    cases h6
    show G z mX12_of (d + 4) 0 0 20 [some (.ref 1024), some (.int (k_of_s24_4  i2)), some (.int (nI i2))] [.int (sby 24 i2), .int ((k_of_s24_4  i2) <<< ((nI 5) &&& 31))] M Q
    refine G.sl [(.bipush 96, 2, 0, 0, 0, nI 96), (.isub, 1, 0, 0, 0, 0), (.ior, 1, 0, 0, 0, 0), (.istore_n 1, 1, 1, 0, 0, 0), (.iinc 2 1, 3, 2, 0, 0, nI 1), (.goto (-24), 3, 4, 0, 0, 0)] [] (pc2 := 4) (ls2 := [some (.ref 1024), some (.int (((k_of_s24_4  i2) <<< ((nI 5) &&& 31)) ||| ((sby 24 i2) - (nI 96)))), some (.int ((nI i2) + nI 1))]) (st2 := []) (M2 := M) (Ps := []) (by decide +kernel) rfl rfl trivial ?_
    rw [nI_add i2 1]
    simp only [k_of_s24_4] at ih
    exact ih
set_option maxHeartbeats 4000000 in
set_option maxRecDepth 3000 in
theorem c_k_of_s24 (z : Zp) (d : Nat) (M : Mem) : GM z mX12_of (d + 4) [.ref 1024] M (fun rs => rs = .inl (some (.int (k_of_s24 )), M)) := by
  refine GM.of oX12_of.1 (Nat.le_of_ble_eq_true rfl) ?_
  show G z mX12_of (d + 4) 0 0 0 [some (.ref 1024), none, none] [] M _
  obtain ⟨Q, hQ⟩ : ∃ Q : Rs → Prop, Q = (fun rs => rs = .inl (some (.int (k_of_s24 )), M)) := ⟨_, rfl⟩
  rw [← hQ]
  refine G.sl [(.iconst 0, 1, 0, 0, 0, nI 0), (.istore_n 1, 1, 1, 0, 0, 0), (.iconst 0, 1, 0, 0, 0, nI 0), (.istore_n 2, 1, 2, 0, 0, 0)] [] (pc2 := 4) (ls2 := [some (.ref 1024), some (.int (nI 0)), some (.int (nI 0))]) (st2 := []) (M2 := M) (Ps := []) (by decide +kernel) rfl rfl trivial ?_
  refine lp_k_of_s24_4 z d M Q (cN 5) (cN_eq 5) ?_
  show G z mX12_of (d + 4) 0 0 31 [none, some (.int (k_of_s24_4 (cN 5))), none] [] M Q
  refine G.sl [(.iload_n 1, 1, 1, 0, 0, 0)] [] (pc2 := 32) (ls2 := [none, some (.int (k_of_s24_4 (cN 5))), none]) (st2 := [.int (k_of_s24_4 (cN 5))]) (M2 := M) (Ps := []) (by decide +kernel) rfl rfl trivial ?_
  exact G.reti (by decide +kernel) rfl rfl (Nat.le_of_ble_eq_true rfl) (Nat.le_of_ble_eq_true rfl) ((by rw [hQ]; simp only [k_of_s24, mrow_self]))
set_option maxHeartbeats 4000000 in
set_option maxRecDepth 3000 in
theorem c_k_stepOf (z : Zp) (d : Nat) (M : Mem) (x0 : Int32) : GM z mX12_stepOf (d + 5) [.int x0] M (fun rs => rs = .inl (some (.int (k_stepOf x0)), M)) := by
  refine GM.of oX12_stepOf.1 (Nat.le_of_ble_eq_true rfl) ?_
  show G z mX12_stepOf (d + 5) 0 0 0 [some (.int x0)] [] M _
  obtain ⟨Q, hQ⟩ : ∃ Q : Rs → Prop, Q = (fun rs => rs = .inl (some (.int (k_stepOf x0)), M)) := ⟨_, rfl⟩
  rw [← hQ]
  refine G.sl [(.iload_n 0, 1, 0, 0, 0, 0), (.ldc_w 298, 3, 1, 19, 0, 0)] [] (pc2 := 4) (ls2 := [some (.int x0)]) (st2 := [.ref 1019, .int x0]) (M2 := M) (Ps := []) (by decide +kernel) rfl rfl trivial ?_
  have t2 : GM z mX12_of (d + 4) [.ref 1019] M (fun rs => rs = .inl (some (.int k_of_s19), M)) := by
    have q9 := c_k_of_s19 z d M 
    try simp only [mput, mrow_same, mrow_hit, mrow_miss, mrow_sw, idr_eq, ne_eq, Nat.reduceEqDiff, not_false_eq_true, Nat.reduceLT, reduceCtorEq] at q9
    exact q9
  refine G.callS (as := [.ref 1019]) (rest := [.int x0]) oX12_of lk_EvenFindersModel_198 (by decide +kernel) rfl (Nat.le_of_ble_eq_true rfl) rfl ⟨Nat.le_of_ble_eq_true rfl, Nat.le_of_ble_eq_true rfl⟩ t2 (fun v9 N9 h3 => ?_) (fun E9 N9 h3 => by cases h3)
  cases h3
  show G z mX12_stepOf (d + 5) 0 0 7 [some (.int x0)] [.int k_of_s19, .int x0] M Q
  refine G.ic_ne (off := (7)) (tgt := 14) (by decide +kernel) rfl (fun c4 => ?_) (fun c4 => ?_)
  · skip
    refine G.sl [(.iload_n 0, 1, 0, 0, 0, 0), (.ldc_w 300, 3, 1, 20, 0, 0)] [] (pc2 := 18) (ls2 := [some (.int x0)]) (st2 := [.ref 1020, .int x0]) (M2 := M) (Ps := []) (by decide +kernel) rfl rfl trivial ?_
    have t6 : GM z mX12_of (d + 4) [.ref 1020] M (fun rs => rs = .inl (some (.int k_of_s20), M)) := by
      have q9 := c_k_of_s20 z d M 
      try simp only [mput, mrow_same, mrow_hit, mrow_miss, mrow_sw, idr_eq, ne_eq, Nat.reduceEqDiff, not_false_eq_true, Nat.reduceLT, reduceCtorEq] at q9
      exact q9
    refine G.callS (as := [.ref 1020]) (rest := [.int x0]) oX12_of lk_EvenFindersModel_198 (by decide +kernel) rfl (Nat.le_of_ble_eq_true rfl) rfl ⟨Nat.le_of_ble_eq_true rfl, Nat.le_of_ble_eq_true rfl⟩ t6 (fun v9 N9 h7 => ?_) (fun E9 N9 h7 => by cases h7)
    cases h7
    show G z mX12_stepOf (d + 5) 0 0 21 [some (.int x0)] [.int k_of_s20, .int x0] M Q
    refine G.ic_ne (off := (7)) (tgt := 28) (by decide +kernel) rfl (fun c8 => ?_) (fun c8 => ?_)
    · skip
      refine G.sl [(.iload_n 0, 1, 0, 0, 0, 0), (.ldc_w 302, 3, 1, 21, 0, 0)] [] (pc2 := 32) (ls2 := [some (.int x0)]) (st2 := [.ref 1021, .int x0]) (M2 := M) (Ps := []) (by decide +kernel) rfl rfl trivial ?_
      have t10 : GM z mX12_of (d + 4) [.ref 1021] M (fun rs => rs = .inl (some (.int k_of_s21), M)) := by
        have q9 := c_k_of_s21 z d M 
        try simp only [mput, mrow_same, mrow_hit, mrow_miss, mrow_sw, idr_eq, ne_eq, Nat.reduceEqDiff, not_false_eq_true, Nat.reduceLT, reduceCtorEq] at q9
        exact q9
      refine G.callS (as := [.ref 1021]) (rest := [.int x0]) oX12_of lk_EvenFindersModel_198 (by decide +kernel) rfl (Nat.le_of_ble_eq_true rfl) rfl ⟨Nat.le_of_ble_eq_true rfl, Nat.le_of_ble_eq_true rfl⟩ t10 (fun v9 N9 h11 => ?_) (fun E9 N9 h11 => by cases h11)
      cases h11
      show G z mX12_stepOf (d + 5) 0 0 35 [some (.int x0)] [.int k_of_s21, .int x0] M Q
      refine G.ic_ne (off := (7)) (tgt := 42) (by decide +kernel) rfl (fun c12 => ?_) (fun c12 => ?_)
      · skip
        refine G.sl [(.iload_n 0, 1, 0, 0, 0, 0), (.ldc_w 304, 3, 1, 22, 0, 0)] [] (pc2 := 46) (ls2 := [some (.int x0)]) (st2 := [.ref 1022, .int x0]) (M2 := M) (Ps := []) (by decide +kernel) rfl rfl trivial ?_
        have t14 : GM z mX12_of (d + 4) [.ref 1022] M (fun rs => rs = .inl (some (.int k_of_s22), M)) := by
          have q9 := c_k_of_s22 z d M 
          try simp only [mput, mrow_same, mrow_hit, mrow_miss, mrow_sw, idr_eq, ne_eq, Nat.reduceEqDiff, not_false_eq_true, Nat.reduceLT, reduceCtorEq] at q9
          exact q9
        refine G.callS (as := [.ref 1022]) (rest := [.int x0]) oX12_of lk_EvenFindersModel_198 (by decide +kernel) rfl (Nat.le_of_ble_eq_true rfl) rfl ⟨Nat.le_of_ble_eq_true rfl, Nat.le_of_ble_eq_true rfl⟩ t14 (fun v9 N9 h15 => ?_) (fun E9 N9 h15 => by cases h15)
        cases h15
        show G z mX12_stepOf (d + 5) 0 0 49 [some (.int x0)] [.int k_of_s22, .int x0] M Q
        refine G.ic_ne (off := (7)) (tgt := 56) (by decide +kernel) rfl (fun c16 => ?_) (fun c16 => ?_)
        · skip
          refine G.sl [(.iload_n 0, 1, 0, 0, 0, 0), (.ldc_w 306, 3, 1, 23, 0, 0)] [] (pc2 := 60) (ls2 := [some (.int x0)]) (st2 := [.ref 1023, .int x0]) (M2 := M) (Ps := []) (by decide +kernel) rfl rfl trivial ?_
          have t18 : GM z mX12_of (d + 4) [.ref 1023] M (fun rs => rs = .inl (some (.int k_of_s23), M)) := by
            have q9 := c_k_of_s23 z d M 
            try simp only [mput, mrow_same, mrow_hit, mrow_miss, mrow_sw, idr_eq, ne_eq, Nat.reduceEqDiff, not_false_eq_true, Nat.reduceLT, reduceCtorEq] at q9
            exact q9
          refine G.callS (as := [.ref 1023]) (rest := [.int x0]) oX12_of lk_EvenFindersModel_198 (by decide +kernel) rfl (Nat.le_of_ble_eq_true rfl) rfl ⟨Nat.le_of_ble_eq_true rfl, Nat.le_of_ble_eq_true rfl⟩ t18 (fun v9 N9 h19 => ?_) (fun E9 N9 h19 => by cases h19)
          cases h19
          show G z mX12_stepOf (d + 5) 0 0 63 [some (.int x0)] [.int k_of_s23, .int x0] M Q
          refine G.ic_ne (off := (7)) (tgt := 70) (by decide +kernel) rfl (fun c20 => ?_) (fun c20 => ?_)
          · skip
            refine G.sl [(.iload_n 0, 1, 0, 0, 0, 0), (.ldc_w 308, 3, 1, 24, 0, 0)] [] (pc2 := 74) (ls2 := [some (.int x0)]) (st2 := [.ref 1024, .int x0]) (M2 := M) (Ps := []) (by decide +kernel) rfl rfl trivial ?_
            have t22 : GM z mX12_of (d + 4) [.ref 1024] M (fun rs => rs = .inl (some (.int k_of_s24), M)) := by
              have q9 := c_k_of_s24 z d M 
              try simp only [mput, mrow_same, mrow_hit, mrow_miss, mrow_sw, idr_eq, ne_eq, Nat.reduceEqDiff, not_false_eq_true, Nat.reduceLT, reduceCtorEq] at q9
              exact q9
            refine G.callS (as := [.ref 1024]) (rest := [.int x0]) oX12_of lk_EvenFindersModel_198 (by decide +kernel) rfl (Nat.le_of_ble_eq_true rfl) rfl ⟨Nat.le_of_ble_eq_true rfl, Nat.le_of_ble_eq_true rfl⟩ t22 (fun v9 N9 h23 => ?_) (fun E9 N9 h23 => by cases h23)
            cases h23
            show G z mX12_stepOf (d + 5) 0 0 77 [some (.int x0)] [.int k_of_s24, .int x0] M Q
            refine G.ic_ne (off := (7)) (tgt := 84) (by decide +kernel) rfl (fun c24 => ?_) (fun c24 => ?_)
            · skip
              refine G.sl [(.iconst (-1), 1, 0, 0, 0, (-1))] [] (pc2 := 85) (ls2 := [some (.int x0)]) (st2 := [.int ((-1))]) (M2 := M) (Ps := []) (by decide +kernel) rfl rfl trivial ?_
              exact G.reti (by decide +kernel) rfl rfl (Nat.le_of_ble_eq_true rfl) (Nat.le_of_ble_eq_true rfl) ((by rw [hQ]; simp only [k_stepOf, if_neg c4, if_neg c8, if_neg c12, if_neg c16, if_neg c20, if_neg c24, mrow_self]))
            · skip
              refine G.sl [(.iconst 5, 1, 0, 0, 0, nI 5), (.goto 4, 3, 85, 0, 0, 0)] [] (pc2 := 85) (ls2 := [some (.int x0)]) (st2 := [.int (nI 5)]) (M2 := M) (Ps := []) (by decide +kernel) rfl rfl trivial ?_
              exact G.reti (by decide +kernel) rfl rfl (Nat.le_of_ble_eq_true rfl) (Nat.le_of_ble_eq_true rfl) ((by rw [hQ]; simp only [k_stepOf, if_neg c4, if_neg c8, if_neg c12, if_neg c16, if_neg c20, if_pos c24, mrow_self]))
          · skip
            refine G.sl [(.iconst 4, 1, 0, 0, 0, nI 4), (.goto 18, 3, 85, 0, 0, 0)] [] (pc2 := 85) (ls2 := [some (.int x0)]) (st2 := [.int (nI 4)]) (M2 := M) (Ps := []) (by decide +kernel) rfl rfl trivial ?_
            exact G.reti (by decide +kernel) rfl rfl (Nat.le_of_ble_eq_true rfl) (Nat.le_of_ble_eq_true rfl) ((by rw [hQ]; simp only [k_stepOf, if_neg c4, if_neg c8, if_neg c12, if_neg c16, if_pos c20, mrow_self]))
        · skip
          refine G.sl [(.iconst 3, 1, 0, 0, 0, nI 3), (.goto 32, 3, 85, 0, 0, 0)] [] (pc2 := 85) (ls2 := [some (.int x0)]) (st2 := [.int (nI 3)]) (M2 := M) (Ps := []) (by decide +kernel) rfl rfl trivial ?_
          exact G.reti (by decide +kernel) rfl rfl (Nat.le_of_ble_eq_true rfl) (Nat.le_of_ble_eq_true rfl) ((by rw [hQ]; simp only [k_stepOf, if_neg c4, if_neg c8, if_neg c12, if_pos c16, mrow_self]))
      · skip
        refine G.sl [(.iconst 2, 1, 0, 0, 0, nI 2), (.goto 46, 3, 85, 0, 0, 0)] [] (pc2 := 85) (ls2 := [some (.int x0)]) (st2 := [.int (nI 2)]) (M2 := M) (Ps := []) (by decide +kernel) rfl rfl trivial ?_
        exact G.reti (by decide +kernel) rfl rfl (Nat.le_of_ble_eq_true rfl) (Nat.le_of_ble_eq_true rfl) ((by rw [hQ]; simp only [k_stepOf, if_neg c4, if_neg c8, if_pos c12, mrow_self]))
    · skip
      refine G.sl [(.iconst 1, 1, 0, 0, 0, nI 1), (.goto 60, 3, 85, 0, 0, 0)] [] (pc2 := 85) (ls2 := [some (.int x0)]) (st2 := [.int (nI 1)]) (M2 := M) (Ps := []) (by decide +kernel) rfl rfl trivial ?_
      exact G.reti (by decide +kernel) rfl rfl (Nat.le_of_ble_eq_true rfl) (Nat.le_of_ble_eq_true rfl) ((by rw [hQ]; simp only [k_stepOf, if_neg c4, if_pos c8, mrow_self]))
  · skip
    refine G.sl [(.iconst 0, 1, 0, 0, 0, nI 0), (.goto 74, 3, 85, 0, 0, 0)] [] (pc2 := 85) (ls2 := [some (.int x0)]) (st2 := [.int (nI 0)]) (M2 := M) (Ps := []) (by decide +kernel) rfl rfl trivial ?_
    exact G.reti (by decide +kernel) rfl rfl (Nat.le_of_ble_eq_true rfl) (Nat.le_of_ble_eq_true rfl) ((by rw [hQ]; simp only [k_stepOf, if_pos c4, mrow_self]))
set_option maxHeartbeats 4000000 in
set_option maxRecDepth 3000 in
theorem c_k_tellsStep_54 (z : Zp) (d : Nat) (M : Mem) (x1 : Int32) (x2 : Int32) (x3 : Int32) (hk : k_tellsStep_ok (M.1 54) (M.1 69) x1 x2 x3) : GM z mX12_tellsStep (d + 1) [.ref 54, .int x1, .int x2, .int x3] M (fun rs => rs = .inl (none, mrow (mrow M 54 ((k_tellsStep (M.1 54) (M.1 69) x1 x2 x3).2.1)) 69 ((k_tellsStep (M.1 54) (M.1 69) x1 x2 x3).2.2))) := by
  simp only [k_tellsStep_ok] at hk
  refine GM.of oX12_tellsStep.1 (Nat.le_of_ble_eq_true rfl) ?_
  show G z mX12_tellsStep (d + 1) 0 0 0 [some (.ref 54), some (.int x1), some (.int x2), some (.int x3)] [] M _
  obtain ⟨Q, hQ⟩ : ∃ Q : Rs → Prop, Q = (fun rs => rs = .inl (none, mrow (mrow M 54 ((k_tellsStep (M.1 54) (M.1 69) x1 x2 x3).2.1)) 69 ((k_tellsStep (M.1 54) (M.1 69) x1 x2 x3).2.2))) := ⟨_, rfl⟩
  rw [← hQ]
  refine G.sl [(.aload_n 0, 1, 0, 0, 0, 0)] [] (pc2 := 1) (ls2 := [some (.ref 54), some (.int x1), some (.int x2), some (.int x3)]) (st2 := [.ref 54]) (M2 := M) (Ps := []) (by decide +kernel) rfl rfl trivial ?_
  obtain ⟨k1, hk⟩ := hk
  have t2 : GM z mX12_fine (d) [.ref 54] M (fun rs => rs = .inl (some (.int (k_fine (M.1 54))), M)) := by
    have q9 := c_k_fine_54 z d M 
    try simp only [mput, mrow_same, mrow_hit, mrow_miss, mrow_sw, idr_eq, ne_eq, Nat.reduceEqDiff, not_false_eq_true, Nat.reduceLT, reduceCtorEq] at q9
    exact q9
  refine G.callV (as := []) (rest := []) (a := 54) oX12_fine lk_EvenFindersModel_130 (by decide +kernel) rfl rfl ⟨rfl, rfl⟩ (Nat.le_of_ble_eq_true rfl) rfl ⟨Nat.le_of_ble_eq_true rfl, Nat.le_of_ble_eq_true rfl⟩ t2 (fun v9 N9 h3 => ?_) (fun E9 N9 h3 => by cases h3)
  cases h3
  show G z mX12_tellsStep (d + 1) 0 0 4 [some (.ref 54), some (.int x1), some (.int x2), some (.int x3)] [.int (k_fine (M.1 54))] M Q
  refine G.if_ne (off := (4)) (tgt := 8) (by decide +kernel) rfl (fun c4 => ?_) (fun c4 => ?_)
  · skip
    rw [if_neg c4] at hk
    obtain ⟨k5, k6, k7, k8, hk⟩ := hk
    refine G.sl [(.aload_n 0, 1, 0, 0, 0, 0), (.getfield 59, 3, 11, 32, 155, 0), (.aload_n 0, 1, 0, 0, 0, 0), (.getfield 295, 3, 11, 34, 157, 0), (.iload_n 1, 1, 1, 0, 0, 0), (.iastore, 1, 0, 0, 0, 0), (.aload_n 0, 1, 0, 0, 0, 0), (.getfield 59, 3, 11, 32, 155, 0), (.aload_n 0, 1, 0, 0, 0, 0), (.getfield 295, 3, 11, 34, 157, 0), (.iconst 1, 1, 0, 0, 0, nI 1), (.iadd, 1, 0, 0, 0, 0), (.iload_n 2, 1, 2, 0, 0, 0), (.iastore, 1, 0, 0, 0, 0), (.aload_n 0, 1, 0, 0, 0, 0), (.getfield 59, 3, 11, 32, 155, 0), (.aload_n 0, 1, 0, 0, 0, 0), (.getfield 295, 3, 11, 34, 157, 0), (.iconst 2, 1, 0, 0, 0, nI 2), (.iadd, 1, 0, 0, 0, 0), (.iload_n 3, 1, 3, 0, 0, 0), (.iastore, 1, 0, 0, 0, 0), (.aload_n 0, 1, 0, 0, 0, 0), (.dup, 1, 0, 0, 0, 0), (.getfield 295, 3, 11, 34, 157, 0), (.iconst 3, 1, 0, 0, 0, nI 3), (.iadd, 1, 0, 0, 0, 0), (.putfield 295, 3, 11, 34, 157, 0)] [ix (M.1 54 34), (ix (M.1 54 34)) + 1, (ix (M.1 54 34)) + 2] (pc2 := 52) (ls2 := [some (.ref 54), some (.int x1), some (.int x2), some (.int x3)]) (st2 := []) (M2 := mput (mput (mput (mput M 69 (ix (M.1 54 34)) x1) 69 ((ix (M.1 54 34)) + 1) x2) 69 ((ix (M.1 54 34)) + 2) x3) 54 34 ((M.1 54 34) + (nI 3))) (Ps := [(M.1 54 34) = nI (ix (M.1 54 34)) ∧ (ix (M.1 54 34)) < 150, ((M.1 54 34) + (nI 1)) = nI ((ix (M.1 54 34)) + 1) ∧ ((ix (M.1 54 34)) + 1) < 150, ((M.1 54 34) + (nI 2)) = nI ((ix (M.1 54 34)) + 2) ∧ ((ix (M.1 54 34)) + 2) < 150]) (by decide +kernel) rfl rfl ⟨⟨(ixE k5), k6⟩, ⟨(nAdd (ixE k5) rfl), k7⟩, ⟨(nAdd (ixE k5) rfl), k8⟩, trivial⟩ ?_
    refine G.mem (M' := mrow (mrow M 54 (upd (M.1 54) 34 ((M.1 54 34) + (nI 3)))) 69 (upd (upd (upd (M.1 69) (ix (M.1 54 34)) x1) ((ix (M.1 54 34)) + 1) x2) ((ix (M.1 54 34)) + 2) x3)) (by first | rfl | (simp only [mput, mrow_same, mrow_hit, mrow_miss, mrow_sw, idr_eq, ne_eq, Nat.reduceEqDiff, not_false_eq_true, Nat.reduceLT, reduceCtorEq]; done)) ?_
    exact G.retv (by decide +kernel) rfl (Nat.le_of_ble_eq_true rfl) (Nat.le_of_ble_eq_true rfl) ((by rw [hQ]; simp only [k_tellsStep, if_neg c4, mrow_self]))
  · skip
    rw [if_pos c4] at hk
    refine G.mem (M' := mrow (mrow M 54 (M.1 54)) 69 (M.1 69)) ((((mrow_id (N := M) (c := 54) (f := M.1 54) (by first | rfl | (simp only [mput, mrow_same, mrow_hit, mrow_miss, mrow_sw, idr_eq, ne_eq, Nat.reduceEqDiff, not_false_eq_true, Nat.reduceLT, reduceCtorEq]; done))).symm).trans (mrow_id (N := mrow M 54 (M.1 54)) (c := 69) (f := M.1 69) (by first | rfl | (simp only [mput, mrow_same, mrow_hit, mrow_miss, mrow_sw, idr_eq, ne_eq, Nat.reduceEqDiff, not_false_eq_true, Nat.reduceLT, reduceCtorEq]; done))).symm).trans (by first | rfl | (simp only [mput, mrow_same, mrow_hit, mrow_miss, mrow_sw, idr_eq, ne_eq, Nat.reduceEqDiff, not_false_eq_true, Nat.reduceLT, reduceCtorEq]; done))) ?_
    exact G.retv (by decide +kernel) rfl (Nat.le_of_ble_eq_true rfl) (Nat.le_of_ble_eq_true rfl) ((by rw [hQ]; simp only [k_tellsStep, if_pos c4, mrow_self]))
set_option maxHeartbeats 4000000 in
set_option maxRecDepth 3000 in
theorem lp_k_readStep_54_st_61 (z : Zp) (d : Nat) (M : Mem) (Q : Rs → Prop) (x3 : Int32) (fz : (Nat → Int32) → (Nat → Int32) → (Nat → Int32) → Int32 × (Nat → Int32) × (Nat → Int32)) (gz : (Nat → Int32) → (Nat → Int32) → (Nat → Int32) → Prop) (Hz : ∀ (j : Nat) (M : Mem) , gz (M.1 54) (M.1 56) (M.1 69) → GM z mX12_readStep (d + j) [.ref 54] M (fun rs => rs = .inl (none, mrow (mrow M 54 ((fz (M.1 54) (M.1 56) (M.1 69)).2.1)) 69 ((fz (M.1 54) (M.1 56) (M.1 69)).2.2)))) : ∀ (k0 : Nat) (q54 : (Nat → Int32)) (q69 : (Nat → Int32)), k_readStep_st_61_ok fz gz (M.1 56) x3 k0 q54 q69 → (match k_readStep_st_61 fz (M.1 56) x3 k0 q54 q69 with | (q54', q69') => G z mX12_readStep (d + 6) 0 0 84 [some (.ref 54), none, none, some (.int x3)] [] (mrow (mrow M 54 (q54')) 69 (q69')) Q) → G z mX12_readStep (d + 6) 0 0 61 [some (.ref 54), none, none, some (.int x3)] [] (mrow (mrow M 54 q54) 69 q69) Q := by
  intro k0
  induction k0 with
  | zero =>
      intro q54 q69 hk hX
      exact (by simpa only [k_readStep_st_61_ok] using hk : False).elim
  | succ k0 ih =>
      intro q54 q69 hk hX
      simp only [k_readStep_st_61_ok] at hk
      refine G.sl [(.aload_n 0, 1, 0, 0, 0, 0)] [] (pc2 := 62) (ls2 := [some (.ref 54), none, none, some (.int x3)]) (st2 := [.ref 54]) (M2 := mrow (mrow M 54 q54) 69 q69) (Ps := []) (by decide +kernel) rfl rfl trivial ?_
      obtain ⟨k102, hk⟩ := hk
      have t103 : GM z mX12_fine (d + 5) [.ref 54] (mrow (mrow M 54 q54) 69 q69) (fun rs => rs = .inl (some (.int (k_fine q54)), mrow (mrow M 54 q54) 69 q69)) := by
        have q9 := c_k_fine_54 z (d + 5) (mrow (mrow M 54 q54) 69 q69) 
        try simp only [mput, mrow_same, mrow_hit, mrow_miss, mrow_sw, idr_eq, ne_eq, Nat.reduceEqDiff, not_false_eq_true, Nat.reduceLT, reduceCtorEq] at q9
        exact q9
      refine G.callV (as := []) (rest := []) (a := 54) oX12_fine lk_EvenFindersModel_130 (by decide +kernel) rfl rfl ⟨rfl, rfl⟩ (Nat.le_of_ble_eq_true rfl) rfl ⟨Nat.le_of_ble_eq_true rfl, Nat.le_of_ble_eq_true rfl⟩ t103 (fun v9 N9 h104 => ?_) (fun E9 N9 h104 => by cases h104)
      cases h104
      show G z mX12_readStep (d + 6) 0 0 65 [some (.ref 54), none, none, some (.int x3)] [.int (k_fine q54)] (mrow (mrow M 54 q54) 69 q69) Q
      refine G.if_eq (off := (19)) (tgt := 84) (by decide +kernel) rfl (fun c105 => ?_) (fun c105 => ?_)
      · skip
        rw [if_pos c105] at hk
        simp only [k_readStep_st_61, if_pos c105] at hX
        exact hX
      · skip
        rw [if_neg c105] at hk
        refine G.sl [(.aload_n 0, 1, 0, 0, 0, 0)] [] (pc2 := 69) (ls2 := [some (.ref 54), none, none, some (.int x3)]) (st2 := [.ref 54]) (M2 := mrow (mrow M 54 q54) 69 q69) (Ps := []) (by decide +kernel) rfl rfl trivial ?_
        obtain ⟨k106, hk⟩ := hk
        rcases g107 : k_here q54 (M.1 56) with ⟨v108, r109⟩
        try simp only [g107] at hk
        have t110 : GM z mX12_here (d + 5) [.ref 54] (mrow (mrow M 54 q54) 69 q69) (fun rs => rs = .inl (some (.int v108), mrow (mrow M 54 r109) 69 q69)) := by
          have q9 := c_k_here_54 z (d + 5) (mrow (mrow M 54 q54) 69 q69) k106
          try simp only [mput, mrow_same, mrow_hit, mrow_miss, mrow_sw, idr_eq, ne_eq, Nat.reduceEqDiff, not_false_eq_true, Nat.reduceLT, reduceCtorEq, g107] at q9
          exact q9
        refine G.callV (as := []) (rest := []) (a := 54) oX12_here lk_EvenFindersModel_113 (by decide +kernel) rfl rfl ⟨rfl, rfl⟩ (Nat.le_of_ble_eq_true rfl) rfl ⟨Nat.le_of_ble_eq_true rfl, Nat.le_of_ble_eq_true rfl⟩ t110 (fun v9 N9 h111 => ?_) (fun E9 N9 h111 => by cases h111)
        cases h111
        show G z mX12_readStep (d + 6) 0 0 72 [some (.ref 54), none, none, some (.int x3)] [.int v108] (mrow (mrow M 54 r109) 69 q69) Q
        refine G.sl [(.bipush 93, 2, 0, 0, 0, nI 93)] [] (pc2 := 74) (ls2 := [some (.ref 54), none, none, some (.int x3)]) (st2 := [.int (nI 93), .int v108]) (M2 := mrow (mrow M 54 r109) 69 q69) (Ps := []) (by decide +kernel) rfl rfl trivial ?_
        refine G.ic_eq (off := (10)) (tgt := 84) (by decide +kernel) rfl (fun c112 => ?_) (fun c112 => ?_)
        · skip
          rw [if_pos c112] at hk
          simp only [k_readStep_st_61, if_neg c105, g107, if_pos c112] at hX
          exact hX
        · skip
          rw [if_neg c112] at hk
          refine G.sl [(.aload_n 0, 1, 0, 0, 0, 0)] [] (pc2 := 78) (ls2 := [some (.ref 54), none, none, some (.int x3)]) (st2 := [.ref 54]) (M2 := mrow (mrow M 54 r109) 69 q69) (Ps := []) (by decide +kernel) rfl rfl trivial ?_
          obtain ⟨k113, hk⟩ := hk
          rcases g114 : fz r109 (M.1 56) q69 with ⟨u115, r116, r117⟩
          try simp only [g114] at hk
          have t118 : GM z mX12_readStep (d + 5) [.ref 54] (mrow (mrow M 54 r109) 69 q69) (fun rs => rs = .inl (none, mrow (mrow M 54 r116) 69 r117)) := by
            have q9 := Hz 5 (mrow (mrow M 54 r109) 69 q69) 
            try simp only [mput, mrow_same, mrow_hit, mrow_miss, mrow_sw, idr_eq, ne_eq, Nat.reduceEqDiff, not_false_eq_true, Nat.reduceLT, reduceCtorEq, g114] at q9
            exact q9 (by first | exact k113 | (simp only [mput, mrow_same, mrow_hit, mrow_miss, mrow_sw, idr_eq, ne_eq, Nat.reduceEqDiff, not_false_eq_true, Nat.reduceLT, reduceCtorEq]; exact k113))
          refine G.callV (as := []) (rest := []) (a := 54) oX12_readStep lk_EvenFindersModel_317 (by decide +kernel) rfl rfl ⟨rfl, rfl⟩ (Nat.le_of_ble_eq_true rfl) rfl ⟨Nat.le_of_ble_eq_true rfl, Nat.le_of_ble_eq_true rfl⟩ t118 (fun v9 N9 h119 => ?_) (fun E9 N9 h119 => by cases h119)
          cases h119
          show G z mX12_readStep (d + 6) 0 0 81 [some (.ref 54), none, none, some (.int x3)] [] (mrow (mrow M 54 r116) 69 r117) Q
          refine G.sl [(.goto (-20), 3, 61, 0, 0, 0)] [] (pc2 := 61) (ls2 := [some (.ref 54), none, none, some (.int x3)]) (st2 := []) (M2 := mrow (mrow M 54 r116) 69 r117) (Ps := []) (by decide +kernel) rfl rfl trivial ?_
          simp only [k_readStep_st_61, if_neg c105, g107, if_neg c112, g114] at hX
          exact ih r116 r117 hk hX
set_option maxHeartbeats 4000000 in
set_option maxRecDepth 3000 in
theorem c_k_readStep_54_st (z : Zp) (d : Nat) (M : Mem) (fz : (Nat → Int32) → (Nat → Int32) → (Nat → Int32) → Int32 × (Nat → Int32) × (Nat → Int32)) (gz : (Nat → Int32) → (Nat → Int32) → (Nat → Int32) → Prop) (Hz : ∀ (j : Nat) (M : Mem) , gz (M.1 54) (M.1 56) (M.1 69) → GM z mX12_readStep (d + j) [.ref 54] M (fun rs => rs = .inl (none, mrow (mrow M 54 ((fz (M.1 54) (M.1 56) (M.1 69)).2.1)) 69 ((fz (M.1 54) (M.1 56) (M.1 69)).2.2)))) (hk : k_readStep_st_ok fz gz (M.1 54) (M.1 56) (M.1 69)) : GM z mX12_readStep (d + 6) [.ref 54] M (fun rs => rs = .inl (none, mrow (mrow M 54 ((k_readStep_st fz (M.1 54) (M.1 56) (M.1 69)).2.1)) 69 ((k_readStep_st fz (M.1 54) (M.1 56) (M.1 69)).2.2))) := by
  simp only [k_readStep_st_ok] at hk
  refine GM.of oX12_readStep.1 (Nat.le_of_ble_eq_true rfl) ?_
  show G z mX12_readStep (d + 6) 0 0 0 [some (.ref 54), none, none, none] [] M _
  obtain ⟨Q, hQ⟩ : ∃ Q : Rs → Prop, Q = (fun rs => rs = .inl (none, mrow (mrow M 54 ((k_readStep_st fz (M.1 54) (M.1 56) (M.1 69)).2.1)) 69 ((k_readStep_st fz (M.1 54) (M.1 56) (M.1 69)).2.2))) := ⟨_, rfl⟩
  rw [← hQ]
  refine G.sl [(.aload_n 0, 1, 0, 0, 0, 0)] [] (pc2 := 1) (ls2 := [some (.ref 54), none, none, none]) (st2 := [.ref 54]) (M2 := M) (Ps := []) (by decide +kernel) rfl rfl trivial ?_
  obtain ⟨k1, hk⟩ := hk
  rcases g2 : k_word (M.1 54) (M.1 56) with ⟨v3, r4⟩
  try simp only [g2] at hk
  have t5 : GM z mX12_word (d + 5) [.ref 54] M (fun rs => rs = .inl (some (.int v3), mrow M 54 r4)) := by
    have q9 := c_k_word_54 z (d + 4) M k1
    try simp only [mput, mrow_same, mrow_hit, mrow_miss, mrow_sw, idr_eq, ne_eq, Nat.reduceEqDiff, not_false_eq_true, Nat.reduceLT, reduceCtorEq, g2] at q9
    exact q9
  refine G.callV (as := []) (rest := []) (a := 54) oX12_word lk_EvenFindersModel_224 (by decide +kernel) rfl rfl ⟨rfl, rfl⟩ (Nat.le_of_ble_eq_true rfl) rfl ⟨Nat.le_of_ble_eq_true rfl, Nat.le_of_ble_eq_true rfl⟩ t5 (fun v9 N9 h6 => ?_) (fun E9 N9 h6 => by cases h6)
  cases h6
  show G z mX12_readStep (d + 6) 0 0 4 [some (.ref 54), none, none, none] [.int v3] (mrow M 54 r4) Q
  obtain ⟨k7, hk⟩ := hk
  have t8 : GM z mX12_stepOf (d + 5) [.int v3] (mrow M 54 r4) (fun rs => rs = .inl (some (.int (k_stepOf v3)), mrow M 54 r4)) := by
    have q9 := c_k_stepOf z d (mrow M 54 r4) v3
    try simp only [mput, mrow_same, mrow_hit, mrow_miss, mrow_sw, idr_eq, ne_eq, Nat.reduceEqDiff, not_false_eq_true, Nat.reduceLT, reduceCtorEq] at q9
    exact q9
  refine G.callS (as := [.int v3]) (rest := []) oX12_stepOf lk_EvenFindersModel_310 (by decide +kernel) rfl (Nat.le_of_ble_eq_true rfl) rfl ⟨Nat.le_of_ble_eq_true rfl, Nat.le_of_ble_eq_true rfl⟩ t8 (fun v9 N9 h9 => ?_) (fun E9 N9 h9 => by cases h9)
  cases h9
  show G z mX12_readStep (d + 6) 0 0 7 [some (.ref 54), none, none, none] [.int (k_stepOf v3)] (mrow M 54 r4) Q
  refine G.sl [(.istore_n 1, 1, 1, 0, 0, 0), (.iload_n 1, 1, 1, 0, 0, 0), (.iconst (-1), 1, 0, 0, 0, (-1))] [] (pc2 := 10) (ls2 := [some (.ref 54), some (.int (k_stepOf v3)), none, none]) (st2 := [.int ((-1)), .int (k_stepOf v3)]) (M2 := mrow M 54 r4) (Ps := []) (by decide +kernel) rfl rfl trivial ?_
  refine G.ic_ne (off := (15)) (tgt := 25) (by decide +kernel) rfl (fun c10 => ?_) (fun c10 => ?_)
  · skip
    rw [if_neg c10] at hk
    refine G.sl [(.iload_n 1, 1, 1, 0, 0, 0), (.iconst 5, 1, 0, 0, 0, nI 5)] [] (pc2 := 27) (ls2 := [some (.ref 54), some (.int (k_stepOf v3)), none, none]) (st2 := [.int (nI 5), .int (k_stepOf v3)]) (M2 := mrow M 54 r4) (Ps := []) (by decide +kernel) rfl rfl trivial ?_
    refine G.ic_ne (off := (95)) (tgt := 122) (by decide +kernel) rfl (fun c11 => ?_) (fun c11 => ?_)
    · skip
      rw [if_neg c11] at hk
      refine G.sl [(.aload_n 0, 1, 0, 0, 0, 0)] [] (pc2 := 123) (ls2 := [some (.ref 54), some (.int (k_stepOf v3)), none, none]) (st2 := [.ref 54]) (M2 := mrow M 54 r4) (Ps := []) (by decide +kernel) rfl rfl trivial ?_
      obtain ⟨k12, hk⟩ := hk
      rcases g13 : k_pass r4 (M.1 56) with ⟨u14, r15⟩
      try simp only [g13] at hk
      have t16 : GM z mX12_pass (d + 5) [.ref 54] (mrow M 54 r4) (fun rs => rs = .inl (none, mrow M 54 r15)) := by
        have q9 := c_k_pass_54 z (d + 4) (mrow M 54 r4) k12
        try simp only [mput, mrow_same, mrow_hit, mrow_miss, mrow_sw, idr_eq, ne_eq, Nat.reduceEqDiff, not_false_eq_true, Nat.reduceLT, reduceCtorEq, g13] at q9
        exact q9
      refine G.callV (as := []) (rest := []) (a := 54) oX12_pass lk_EvenFindersModel_233 (by decide +kernel) rfl rfl ⟨rfl, rfl⟩ (Nat.le_of_ble_eq_true rfl) rfl ⟨Nat.le_of_ble_eq_true rfl, Nat.le_of_ble_eq_true rfl⟩ t16 (fun v9 N9 h17 => ?_) (fun E9 N9 h17 => by cases h17)
      cases h17
      show G z mX12_readStep (d + 6) 0 0 126 [some (.ref 54), some (.int (k_stepOf v3)), none, none] [] (mrow M 54 r15) Q
      refine G.sl [(.iload_n 1, 1, 1, 0, 0, 0), (.iconst 4, 1, 0, 0, 0, nI 4)] [] (pc2 := 128) (ls2 := [some (.ref 54), some (.int (k_stepOf v3)), none, none]) (st2 := [.int (nI 4), .int (k_stepOf v3)]) (M2 := mrow M 54 r15) (Ps := []) (by decide +kernel) rfl rfl trivial ?_
      refine G.ic_ne (off := (7)) (tgt := 135) (by decide +kernel) rfl (fun c18 => ?_) (fun c18 => ?_)
      · skip
        rw [if_neg c18] at hk
        refine G.sl [(.aload_n 0, 1, 0, 0, 0, 0), (.iconst 0, 1, 0, 0, 0, nI 0), (.aload_n 0, 1, 0, 0, 0, 0), (.getfield 165, 3, 11, 23, 146, 0), (.iconst 1, 1, 0, 0, 0, nI 1), (.isub, 1, 0, 0, 0, 0)] [] (pc2 := 143) (ls2 := [some (.ref 54), some (.int (k_stepOf v3)), none, none]) (st2 := [.int ((r15 23) - (nI 1)), .int (nI 0), .ref 54]) (M2 := mrow M 54 r15) (Ps := []) (by decide +kernel) rfl rfl trivial ?_
        obtain ⟨k19, hk⟩ := hk
        rcases g20 : k_readNumber r15 (M.1 56) (nI 0) ((r15 23) - (nI 1)) with ⟨v21, r22⟩
        try simp only [g20] at hk
        have t23 : GM z mX12_readNumber (d + 5) [.ref 54, .int (nI 0), .int ((r15 23) - (nI 1))] (mrow M 54 r15) (fun rs => rs = .inl (some (.int v21), mrow M 54 r22)) := by
          have q9 := c_k_readNumber_54 z (d + 4) (mrow M 54 r15) (nI 0) ((r15 23) - (nI 1)) k19
          try simp only [mput, mrow_same, mrow_hit, mrow_miss, mrow_sw, idr_eq, ne_eq, Nat.reduceEqDiff, not_false_eq_true, Nat.reduceLT, reduceCtorEq, g20] at q9
          exact q9
        refine G.callV (as := [.int (nI 0), .int ((r15 23) - (nI 1))]) (rest := []) (a := 54) oX12_readNumber lk_EvenFindersModel_190 (by decide +kernel) rfl rfl ⟨rfl, rfl⟩ (Nat.le_of_ble_eq_true rfl) rfl ⟨Nat.le_of_ble_eq_true rfl, Nat.le_of_ble_eq_true rfl⟩ t23 (fun v9 N9 h24 => ?_) (fun E9 N9 h24 => by cases h24)
        cases h24
        show G z mX12_readStep (d + 6) 0 0 146 [some (.ref 54), some (.int (k_stepOf v3)), none, none] [.int v21] (mrow M 54 r22) Q
        refine G.sl [(.istore_n 2, 1, 2, 0, 0, 0), (.aload_n 0, 1, 0, 0, 0, 0), (.iload_n 1, 1, 1, 0, 0, 0), (.iload_n 2, 1, 2, 0, 0, 0), (.iload_n 1, 1, 1, 0, 0, 0), (.iconst 4, 1, 0, 0, 0, nI 4)] [] (pc2 := 152) (ls2 := [some (.ref 54), some (.int (k_stepOf v3)), some (.int v21), none]) (st2 := [.int (nI 4), .int (k_stepOf v3), .int v21, .int (k_stepOf v3), .ref 54]) (M2 := mrow M 54 r22) (Ps := []) (by decide +kernel) rfl rfl trivial ?_
        refine G.ic_ne (off := (7)) (tgt := 159) (by decide +kernel) rfl (fun _ => ?_) (fun h9 => absurd h9 c18)
        refine G.sl [(.aload_n 0, 1, 0, 0, 0, 0), (.iconst 0, 1, 0, 0, 0, nI 0), (.iload_n 1, 1, 1, 0, 0, 0)] [] (pc2 := 162) (ls2 := [some (.ref 54), some (.int (k_stepOf v3)), some (.int v21), none]) (st2 := [.int (k_stepOf v3), .int (nI 0), .ref 54, .int v21, .int (k_stepOf v3), .ref 54]) (M2 := mrow M 54 r22) (Ps := []) (by decide +kernel) rfl rfl trivial ?_
        refine G.if_ne (off := (10)) (tgt := 172) (by decide +kernel) rfl (fun c25 => ?_) (fun c25 => ?_)
        · skip
          rw [if_neg c25] at hk
          refine G.sl [(.aload_n 0, 1, 0, 0, 0, 0), (.getfield 162, 3, 11, 22, 145, 0), (.iconst 1, 1, 0, 0, 0, nI 1), (.isub, 1, 0, 0, 0, 0)] [] (pc2 := 178) (ls2 := [some (.ref 54), some (.int (k_stepOf v3)), some (.int v21), none]) (st2 := [.int ((r22 22) - (nI 1)), .int (nI 0), .ref 54, .int v21, .int (k_stepOf v3), .ref 54]) (M2 := mrow M 54 r22) (Ps := []) (by decide +kernel) rfl rfl trivial ?_
          obtain ⟨k26, hk⟩ := hk
          rcases g27 : k_readNumber r22 (M.1 56) (nI 0) ((r22 22) - (nI 1)) with ⟨v28, r29⟩
          try simp only [g27] at hk
          have t30 : GM z mX12_readNumber (d + 5) [.ref 54, .int (nI 0), .int ((r22 22) - (nI 1))] (mrow M 54 r22) (fun rs => rs = .inl (some (.int v28), mrow M 54 r29)) := by
            have q9 := c_k_readNumber_54 z (d + 4) (mrow M 54 r22) (nI 0) ((r22 22) - (nI 1)) k26
            try simp only [mput, mrow_same, mrow_hit, mrow_miss, mrow_sw, idr_eq, ne_eq, Nat.reduceEqDiff, not_false_eq_true, Nat.reduceLT, reduceCtorEq, g27] at q9
            exact q9
          refine G.callV (as := [.int (nI 0), .int ((r22 22) - (nI 1))]) (rest := [.int v21, .int (k_stepOf v3), .ref 54]) (a := 54) oX12_readNumber lk_EvenFindersModel_190 (by decide +kernel) rfl rfl ⟨rfl, rfl⟩ (Nat.le_of_ble_eq_true rfl) rfl ⟨Nat.le_of_ble_eq_true rfl, Nat.le_of_ble_eq_true rfl⟩ t30 (fun v9 N9 h31 => ?_) (fun E9 N9 h31 => by cases h31)
          cases h31
          show G z mX12_readStep (d + 6) 0 0 181 [some (.ref 54), some (.int (k_stepOf v3)), some (.int v21), none] [.int v28, .int v21, .int (k_stepOf v3), .ref 54] (mrow M 54 r29) Q
          obtain ⟨k32, hk⟩ := hk
          rcases g33 : k_tellsStep r29 (M.1 69) (k_stepOf v3) v21 v28 with ⟨u34, r35, r36⟩
          try simp only [g33] at hk
          have t37 : GM z mX12_tellsStep (d + 5) [.ref 54, .int (k_stepOf v3), .int v21, .int v28] (mrow M 54 r29) (fun rs => rs = .inl (none, mrow (mrow M 54 r35) 69 r36)) := by
            have q9 := c_k_tellsStep_54 z (d + 4) (mrow M 54 r29) (k_stepOf v3) v21 v28 k32
            try simp only [mput, mrow_same, mrow_hit, mrow_miss, mrow_sw, idr_eq, ne_eq, Nat.reduceEqDiff, not_false_eq_true, Nat.reduceLT, reduceCtorEq, g33] at q9
            exact q9
          refine G.callV (as := [.int (k_stepOf v3), .int v21, .int v28]) (rest := []) (a := 54) oX12_tellsStep lk_EvenFindersModel_313 (by decide +kernel) rfl rfl ⟨rfl, rfl⟩ (Nat.le_of_ble_eq_true rfl) rfl ⟨Nat.le_of_ble_eq_true rfl, Nat.le_of_ble_eq_true rfl⟩ t37 (fun v9 N9 h38 => ?_) (fun E9 N9 h38 => by cases h38)
          cases h38
          show G z mX12_readStep (d + 6) 0 0 184 [some (.ref 54), some (.int (k_stepOf v3)), some (.int v21), none] [] (mrow (mrow M 54 r35) 69 r36) Q
          refine G.sl [(.aload_n 0, 1, 0, 0, 0, 0), (.bipush 59, 2, 0, 0, 0, nI 59)] [] (pc2 := 187) (ls2 := [some (.ref 54), some (.int (k_stepOf v3)), some (.int v21), none]) (st2 := [.int (nI 59), .ref 54]) (M2 := mrow (mrow M 54 r35) 69 r36) (Ps := []) (by decide +kernel) rfl rfl trivial ?_
          obtain ⟨k39, hk⟩ := hk
          rcases g40 : k_sign r35 (M.1 56) (nI 59) with ⟨u41, r42⟩
          have t43 : GM z mX12_sign (d + 5) [.ref 54, .int (nI 59)] (mrow (mrow M 54 r35) 69 r36) (fun rs => rs = .inl (none, mrow (mrow M 54 r42) 69 r36)) := by
            have q9 := c_k_sign_54 z (d + 4) (mrow (mrow M 54 r35) 69 r36) (nI 59) k39
            try simp only [mput, mrow_same, mrow_hit, mrow_miss, mrow_sw, idr_eq, ne_eq, Nat.reduceEqDiff, not_false_eq_true, Nat.reduceLT, reduceCtorEq, g40] at q9
            exact q9
          refine G.callV (as := [.int (nI 59)]) (rest := []) (a := 54) oX12_sign lk_EvenFindersModel_239 (by decide +kernel) rfl rfl ⟨rfl, rfl⟩ (Nat.le_of_ble_eq_true rfl) rfl ⟨Nat.le_of_ble_eq_true rfl, Nat.le_of_ble_eq_true rfl⟩ t43 (fun v9 N9 h44 => ?_) (fun E9 N9 h44 => by cases h44)
          cases h44
          show G z mX12_readStep (d + 6) 0 0 190 [some (.ref 54), some (.int (k_stepOf v3)), some (.int v21), none] [] (mrow (mrow M 54 r42) 69 r36) Q
          exact G.retv (by decide +kernel) rfl (Nat.le_of_ble_eq_true rfl) (Nat.le_of_ble_eq_true rfl) ((by rw [hQ]; simp only [k_readStep_st, g2, if_neg c10, if_neg c11, g13, if_neg c18, g20, if_neg c25, g27, g33, g40, mrow_self]))
        · skip
          rw [if_pos c25] at hk
          refine G.sl [(.aload_n 0, 1, 0, 0, 0, 0), (.getfield 159, 3, 11, 21, 144, 0), (.goto 7, 3, 176, 0, 0, 0), (.iconst 1, 1, 0, 0, 0, nI 1), (.isub, 1, 0, 0, 0, 0)] [] (pc2 := 178) (ls2 := [some (.ref 54), some (.int (k_stepOf v3)), some (.int v21), none]) (st2 := [.int ((r22 21) - (nI 1)), .int (nI 0), .ref 54, .int v21, .int (k_stepOf v3), .ref 54]) (M2 := mrow M 54 r22) (Ps := []) (by decide +kernel) rfl rfl trivial ?_
          obtain ⟨k45, hk⟩ := hk
          rcases g46 : k_readNumber r22 (M.1 56) (nI 0) ((r22 21) - (nI 1)) with ⟨v47, r48⟩
          try simp only [g46] at hk
          have t49 : GM z mX12_readNumber (d + 5) [.ref 54, .int (nI 0), .int ((r22 21) - (nI 1))] (mrow M 54 r22) (fun rs => rs = .inl (some (.int v47), mrow M 54 r48)) := by
            have q9 := c_k_readNumber_54 z (d + 4) (mrow M 54 r22) (nI 0) ((r22 21) - (nI 1)) k45
            try simp only [mput, mrow_same, mrow_hit, mrow_miss, mrow_sw, idr_eq, ne_eq, Nat.reduceEqDiff, not_false_eq_true, Nat.reduceLT, reduceCtorEq, g46] at q9
            exact q9
          refine G.callV (as := [.int (nI 0), .int ((r22 21) - (nI 1))]) (rest := [.int v21, .int (k_stepOf v3), .ref 54]) (a := 54) oX12_readNumber lk_EvenFindersModel_190 (by decide +kernel) rfl rfl ⟨rfl, rfl⟩ (Nat.le_of_ble_eq_true rfl) rfl ⟨Nat.le_of_ble_eq_true rfl, Nat.le_of_ble_eq_true rfl⟩ t49 (fun v9 N9 h50 => ?_) (fun E9 N9 h50 => by cases h50)
          cases h50
          show G z mX12_readStep (d + 6) 0 0 181 [some (.ref 54), some (.int (k_stepOf v3)), some (.int v21), none] [.int v47, .int v21, .int (k_stepOf v3), .ref 54] (mrow M 54 r48) Q
          obtain ⟨k51, hk⟩ := hk
          rcases g52 : k_tellsStep r48 (M.1 69) (k_stepOf v3) v21 v47 with ⟨u53, r54, r55⟩
          try simp only [g52] at hk
          have t56 : GM z mX12_tellsStep (d + 5) [.ref 54, .int (k_stepOf v3), .int v21, .int v47] (mrow M 54 r48) (fun rs => rs = .inl (none, mrow (mrow M 54 r54) 69 r55)) := by
            have q9 := c_k_tellsStep_54 z (d + 4) (mrow M 54 r48) (k_stepOf v3) v21 v47 k51
            try simp only [mput, mrow_same, mrow_hit, mrow_miss, mrow_sw, idr_eq, ne_eq, Nat.reduceEqDiff, not_false_eq_true, Nat.reduceLT, reduceCtorEq, g52] at q9
            exact q9
          refine G.callV (as := [.int (k_stepOf v3), .int v21, .int v47]) (rest := []) (a := 54) oX12_tellsStep lk_EvenFindersModel_313 (by decide +kernel) rfl rfl ⟨rfl, rfl⟩ (Nat.le_of_ble_eq_true rfl) rfl ⟨Nat.le_of_ble_eq_true rfl, Nat.le_of_ble_eq_true rfl⟩ t56 (fun v9 N9 h57 => ?_) (fun E9 N9 h57 => by cases h57)
          cases h57
          show G z mX12_readStep (d + 6) 0 0 184 [some (.ref 54), some (.int (k_stepOf v3)), some (.int v21), none] [] (mrow (mrow M 54 r54) 69 r55) Q
          refine G.sl [(.aload_n 0, 1, 0, 0, 0, 0), (.bipush 59, 2, 0, 0, 0, nI 59)] [] (pc2 := 187) (ls2 := [some (.ref 54), some (.int (k_stepOf v3)), some (.int v21), none]) (st2 := [.int (nI 59), .ref 54]) (M2 := mrow (mrow M 54 r54) 69 r55) (Ps := []) (by decide +kernel) rfl rfl trivial ?_
          obtain ⟨k58, hk⟩ := hk
          rcases g59 : k_sign r54 (M.1 56) (nI 59) with ⟨u60, r61⟩
          have t62 : GM z mX12_sign (d + 5) [.ref 54, .int (nI 59)] (mrow (mrow M 54 r54) 69 r55) (fun rs => rs = .inl (none, mrow (mrow M 54 r61) 69 r55)) := by
            have q9 := c_k_sign_54 z (d + 4) (mrow (mrow M 54 r54) 69 r55) (nI 59) k58
            try simp only [mput, mrow_same, mrow_hit, mrow_miss, mrow_sw, idr_eq, ne_eq, Nat.reduceEqDiff, not_false_eq_true, Nat.reduceLT, reduceCtorEq, g59] at q9
            exact q9
          refine G.callV (as := [.int (nI 59)]) (rest := []) (a := 54) oX12_sign lk_EvenFindersModel_239 (by decide +kernel) rfl rfl ⟨rfl, rfl⟩ (Nat.le_of_ble_eq_true rfl) rfl ⟨Nat.le_of_ble_eq_true rfl, Nat.le_of_ble_eq_true rfl⟩ t62 (fun v9 N9 h63 => ?_) (fun E9 N9 h63 => by cases h63)
          cases h63
          show G z mX12_readStep (d + 6) 0 0 190 [some (.ref 54), some (.int (k_stepOf v3)), some (.int v21), none] [] (mrow (mrow M 54 r61) 69 r55) Q
          exact G.retv (by decide +kernel) rfl (Nat.le_of_ble_eq_true rfl) (Nat.le_of_ble_eq_true rfl) ((by rw [hQ]; simp only [k_readStep_st, g2, if_neg c10, if_neg c11, g13, if_neg c18, g20, if_pos c25, g46, g52, g59, mrow_self]))
      · skip
        rw [if_pos c18] at hk
        refine G.sl [(.iconst 0, 1, 0, 0, 0, nI 0), (.goto 14, 3, 146, 0, 0, 0), (.istore_n 2, 1, 2, 0, 0, 0), (.aload_n 0, 1, 0, 0, 0, 0), (.iload_n 1, 1, 1, 0, 0, 0), (.iload_n 2, 1, 2, 0, 0, 0), (.iload_n 1, 1, 1, 0, 0, 0), (.iconst 4, 1, 0, 0, 0, nI 4)] [] (pc2 := 152) (ls2 := [some (.ref 54), some (.int (k_stepOf v3)), some (.int (nI 0)), none]) (st2 := [.int (nI 4), .int (k_stepOf v3), .int (nI 0), .int (k_stepOf v3), .ref 54]) (M2 := mrow M 54 r15) (Ps := []) (by decide +kernel) rfl rfl trivial ?_
        refine G.ic_ne (off := (7)) (tgt := 159) (by decide +kernel) rfl (fun h9 => absurd c18 h9) (fun _ => ?_)
        refine G.sl [(.iconst 0, 1, 0, 0, 0, nI 0), (.goto 25, 3, 181, 0, 0, 0)] [] (pc2 := 181) (ls2 := [some (.ref 54), some (.int (k_stepOf v3)), some (.int (nI 0)), none]) (st2 := [.int (nI 0), .int (nI 0), .int (k_stepOf v3), .ref 54]) (M2 := mrow M 54 r15) (Ps := []) (by decide +kernel) rfl rfl trivial ?_
        obtain ⟨k64, hk⟩ := hk
        rcases g65 : k_tellsStep r15 (M.1 69) (k_stepOf v3) (nI 0) (nI 0) with ⟨u66, r67, r68⟩
        try simp only [g65] at hk
        have t69 : GM z mX12_tellsStep (d + 5) [.ref 54, .int (k_stepOf v3), .int (nI 0), .int (nI 0)] (mrow M 54 r15) (fun rs => rs = .inl (none, mrow (mrow M 54 r67) 69 r68)) := by
          have q9 := c_k_tellsStep_54 z (d + 4) (mrow M 54 r15) (k_stepOf v3) (nI 0) (nI 0) k64
          try simp only [mput, mrow_same, mrow_hit, mrow_miss, mrow_sw, idr_eq, ne_eq, Nat.reduceEqDiff, not_false_eq_true, Nat.reduceLT, reduceCtorEq, g65] at q9
          exact q9
        refine G.callV (as := [.int (k_stepOf v3), .int (nI 0), .int (nI 0)]) (rest := []) (a := 54) oX12_tellsStep lk_EvenFindersModel_313 (by decide +kernel) rfl rfl ⟨rfl, rfl⟩ (Nat.le_of_ble_eq_true rfl) rfl ⟨Nat.le_of_ble_eq_true rfl, Nat.le_of_ble_eq_true rfl⟩ t69 (fun v9 N9 h70 => ?_) (fun E9 N9 h70 => by cases h70)
        cases h70
        show G z mX12_readStep (d + 6) 0 0 184 [some (.ref 54), some (.int (k_stepOf v3)), some (.int (nI 0)), none] [] (mrow (mrow M 54 r67) 69 r68) Q
        refine G.sl [(.aload_n 0, 1, 0, 0, 0, 0), (.bipush 59, 2, 0, 0, 0, nI 59)] [] (pc2 := 187) (ls2 := [some (.ref 54), some (.int (k_stepOf v3)), some (.int (nI 0)), none]) (st2 := [.int (nI 59), .ref 54]) (M2 := mrow (mrow M 54 r67) 69 r68) (Ps := []) (by decide +kernel) rfl rfl trivial ?_
        obtain ⟨k71, hk⟩ := hk
        rcases g72 : k_sign r67 (M.1 56) (nI 59) with ⟨u73, r74⟩
        have t75 : GM z mX12_sign (d + 5) [.ref 54, .int (nI 59)] (mrow (mrow M 54 r67) 69 r68) (fun rs => rs = .inl (none, mrow (mrow M 54 r74) 69 r68)) := by
          have q9 := c_k_sign_54 z (d + 4) (mrow (mrow M 54 r67) 69 r68) (nI 59) k71
          try simp only [mput, mrow_same, mrow_hit, mrow_miss, mrow_sw, idr_eq, ne_eq, Nat.reduceEqDiff, not_false_eq_true, Nat.reduceLT, reduceCtorEq, g72] at q9
          exact q9
        refine G.callV (as := [.int (nI 59)]) (rest := []) (a := 54) oX12_sign lk_EvenFindersModel_239 (by decide +kernel) rfl rfl ⟨rfl, rfl⟩ (Nat.le_of_ble_eq_true rfl) rfl ⟨Nat.le_of_ble_eq_true rfl, Nat.le_of_ble_eq_true rfl⟩ t75 (fun v9 N9 h76 => ?_) (fun E9 N9 h76 => by cases h76)
        cases h76
        show G z mX12_readStep (d + 6) 0 0 190 [some (.ref 54), some (.int (k_stepOf v3)), some (.int (nI 0)), none] [] (mrow (mrow M 54 r74) 69 r68) Q
        exact G.retv (by decide +kernel) rfl (Nat.le_of_ble_eq_true rfl) (Nat.le_of_ble_eq_true rfl) ((by rw [hQ]; simp only [k_readStep_st, g2, if_neg c10, if_neg c11, g13, if_pos c18, g65, g72, mrow_self]))
    · skip
      rw [if_pos c11] at hk
      refine G.sl [(.aload_n 0, 1, 0, 0, 0, 0), (.iconst 5, 1, 0, 0, 0, nI 5)] [] (pc2 := 32) (ls2 := [some (.ref 54), some (.int (k_stepOf v3)), none, none]) (st2 := [.int (nI 5), .ref 54]) (M2 := mrow M 54 r4) (Ps := []) (by decide +kernel) rfl rfl trivial ?_
      obtain ⟨k77, hk⟩ := hk
      rcases g78 : k_opensOne r4 (nI 5) with ⟨u79, r80⟩
      try simp only [g78] at hk
      have t81 : GM z mX12_opensOne (d + 5) [.ref 54, .int (nI 5)] (mrow M 54 r4) (fun rs => rs = .inl (none, mrow M 54 r80)) := by
        have q9 := c_k_opensOne_54 z (d + 4) (mrow M 54 r4) (nI 5)
        try simp only [mput, mrow_same, mrow_hit, mrow_miss, mrow_sw, idr_eq, ne_eq, Nat.reduceEqDiff, not_false_eq_true, Nat.reduceLT, reduceCtorEq, g78] at q9
        exact q9
      refine G.callV (as := [.int (nI 5)]) (rest := []) (a := 54) oX12_opensOne lk_EvenFindersModel_258 (by decide +kernel) rfl rfl ⟨rfl, rfl⟩ (Nat.le_of_ble_eq_true rfl) rfl ⟨Nat.le_of_ble_eq_true rfl, Nat.le_of_ble_eq_true rfl⟩ t81 (fun v9 N9 h82 => ?_) (fun E9 N9 h82 => by cases h82)
      cases h82
      show G z mX12_readStep (d + 6) 0 0 35 [some (.ref 54), some (.int (k_stepOf v3)), none, none] [] (mrow M 54 r80) Q
      refine G.sl [(.aload_n 0, 1, 0, 0, 0, 0), (.iconst 0, 1, 0, 0, 0, nI 0), (.bipush 30, 2, 0, 0, 0, nI 30)] [] (pc2 := 39) (ls2 := [some (.ref 54), some (.int (k_stepOf v3)), none, none]) (st2 := [.int (nI 30), .int (nI 0), .ref 54]) (M2 := mrow M 54 r80) (Ps := []) (by decide +kernel) rfl rfl trivial ?_
      obtain ⟨k83, hk⟩ := hk
      rcases g84 : k_readNumber r80 (M.1 56) (nI 0) (nI 30) with ⟨v85, r86⟩
      try simp only [g84] at hk
      have t87 : GM z mX12_readNumber (d + 5) [.ref 54, .int (nI 0), .int (nI 30)] (mrow M 54 r80) (fun rs => rs = .inl (some (.int v85), mrow M 54 r86)) := by
        have q9 := c_k_readNumber_54 z (d + 4) (mrow M 54 r80) (nI 0) (nI 30) k83
        try simp only [mput, mrow_same, mrow_hit, mrow_miss, mrow_sw, idr_eq, ne_eq, Nat.reduceEqDiff, not_false_eq_true, Nat.reduceLT, reduceCtorEq, g84] at q9
        exact q9
      refine G.callV (as := [.int (nI 0), .int (nI 30)]) (rest := []) (a := 54) oX12_readNumber lk_EvenFindersModel_190 (by decide +kernel) rfl rfl ⟨rfl, rfl⟩ (Nat.le_of_ble_eq_true rfl) rfl ⟨Nat.le_of_ble_eq_true rfl, Nat.le_of_ble_eq_true rfl⟩ t87 (fun v9 N9 h88 => ?_) (fun E9 N9 h88 => by cases h88)
      cases h88
      show G z mX12_readStep (d + 6) 0 0 42 [some (.ref 54), some (.int (k_stepOf v3)), none, none] [.int v85] (mrow M 54 r86) Q
      refine G.sl [(.istore_n 2, 1, 2, 0, 0, 0), (.aload_n 0, 1, 0, 0, 0, 0), (.bipush 91, 2, 0, 0, 0, nI 91)] [] (pc2 := 46) (ls2 := [some (.ref 54), some (.int (k_stepOf v3)), some (.int v85), none]) (st2 := [.int (nI 91), .ref 54]) (M2 := mrow M 54 r86) (Ps := []) (by decide +kernel) rfl rfl trivial ?_
      obtain ⟨k89, hk⟩ := hk
      rcases g90 : k_sign r86 (M.1 56) (nI 91) with ⟨u91, r92⟩
      try simp only [g90] at hk
      have t93 : GM z mX12_sign (d + 5) [.ref 54, .int (nI 91)] (mrow M 54 r86) (fun rs => rs = .inl (none, mrow M 54 r92)) := by
        have q9 := c_k_sign_54 z (d + 4) (mrow M 54 r86) (nI 91) k89
        try simp only [mput, mrow_same, mrow_hit, mrow_miss, mrow_sw, idr_eq, ne_eq, Nat.reduceEqDiff, not_false_eq_true, Nat.reduceLT, reduceCtorEq, g90] at q9
        exact q9
      refine G.callV (as := [.int (nI 91)]) (rest := []) (a := 54) oX12_sign lk_EvenFindersModel_239 (by decide +kernel) rfl rfl ⟨rfl, rfl⟩ (Nat.le_of_ble_eq_true rfl) rfl ⟨Nat.le_of_ble_eq_true rfl, Nat.le_of_ble_eq_true rfl⟩ t93 (fun v9 N9 h94 => ?_) (fun E9 N9 h94 => by cases h94)
      cases h94
      show G z mX12_readStep (d + 6) 0 0 49 [some (.ref 54), some (.int (k_stepOf v3)), some (.int v85), none] [] (mrow M 54 r92) Q
      refine G.sl [(.aload_n 0, 1, 0, 0, 0, 0), (.getfield 295, 3, 11, 34, 157, 0), (.istore_n 3, 1, 3, 0, 0, 0), (.aload_n 0, 1, 0, 0, 0, 0), (.iconst 5, 1, 0, 0, 0, nI 5), (.iload_n 2, 1, 2, 0, 0, 0), (.iconst 0, 1, 0, 0, 0, nI 0)] [] (pc2 := 58) (ls2 := [some (.ref 54), some (.int (k_stepOf v3)), some (.int v85), some (.int (r92 34))]) (st2 := [.int (nI 0), .int v85, .int (nI 5), .ref 54]) (M2 := mrow M 54 r92) (Ps := []) (by decide +kernel) rfl rfl trivial ?_
      obtain ⟨k95, hk⟩ := hk
      rcases g96 : k_tellsStep r92 (M.1 69) (nI 5) v85 (nI 0) with ⟨u97, r98, r99⟩
      try simp only [g96] at hk
      have t100 : GM z mX12_tellsStep (d + 5) [.ref 54, .int (nI 5), .int v85, .int (nI 0)] (mrow M 54 r92) (fun rs => rs = .inl (none, mrow (mrow M 54 r98) 69 r99)) := by
        have q9 := c_k_tellsStep_54 z (d + 4) (mrow M 54 r92) (nI 5) v85 (nI 0) k95
        try simp only [mput, mrow_same, mrow_hit, mrow_miss, mrow_sw, idr_eq, ne_eq, Nat.reduceEqDiff, not_false_eq_true, Nat.reduceLT, reduceCtorEq, g96] at q9
        exact q9
      refine G.callV (as := [.int (nI 5), .int v85, .int (nI 0)]) (rest := []) (a := 54) oX12_tellsStep lk_EvenFindersModel_313 (by decide +kernel) rfl rfl ⟨rfl, rfl⟩ (Nat.le_of_ble_eq_true rfl) rfl ⟨Nat.le_of_ble_eq_true rfl, Nat.le_of_ble_eq_true rfl⟩ t100 (fun v9 N9 h101 => ?_) (fun E9 N9 h101 => by cases h101)
      cases h101
      show G z mX12_readStep (d + 6) 0 0 61 [some (.ref 54), some (.int (k_stepOf v3)), some (.int v85), some (.int (r92 34))] [] (mrow (mrow M 54 r98) 69 r99) Q
      refine G.loc (ls2 := [some (.ref 54), none, none, some (.int (r92 34))]) (by simp [subL]) ?_
      obtain ⟨k120, hk⟩ := hk
      refine G.mem (M' := mrow (mrow (mrow (mrow M 54 r98) 69 r99) 54 ((mrow (mrow M 54 r98) 69 r99).1 54)) 69 ((mrow (mrow M 54 r98) 69 r99).1 69)) (by simp only [mrow_self]) ?_
      refine lp_k_readStep_54_st_61 z d (mrow (mrow M 54 r98) 69 r99) Q (r92 34) fz gz Hz FU ((mrow (mrow M 54 r98) 69 r99).1 54) ((mrow (mrow M 54 r98) 69 r99).1 69) (by first | (simp only [mput, mrow_same, mrow_hit, mrow_miss, mrow_sw, idr_eq, ne_eq, Nat.reduceEqDiff, not_false_eq_true, Nat.reduceLT, reduceCtorEq]; exact k120) | exact k120) ?_
      try simp only [mput, mrow_same, mrow_hit, mrow_miss, mrow_sw, idr_eq, ne_eq, Nat.reduceEqDiff, not_false_eq_true, Nat.reduceLT, reduceCtorEq]
      rcases g121 : k_readStep_st_61 fz (M.1 56) (r92 34) FU r98 r99 with ⟨r122, r123⟩
      try simp only [g121] at hk
      show G z mX12_readStep (d + 6) 0 0 84 [some (.ref 54), none, none, some (.int (r92 34))] [] (mrow (mrow M 54 r122) 69 r123) Q
      refine G.sl [(.aload_n 0, 1, 0, 0, 0, 0), (.bipush 93, 2, 0, 0, 0, nI 93)] [] (pc2 := 87) (ls2 := [some (.ref 54), none, none, some (.int (r92 34))]) (st2 := [.int (nI 93), .ref 54]) (M2 := mrow (mrow M 54 r122) 69 r123) (Ps := []) (by decide +kernel) rfl rfl trivial ?_
      obtain ⟨k124, hk⟩ := hk
      rcases g125 : k_sign r122 (M.1 56) (nI 93) with ⟨u126, r127⟩
      try simp only [g125] at hk
      have t128 : GM z mX12_sign (d + 5) [.ref 54, .int (nI 93)] (mrow (mrow M 54 r122) 69 r123) (fun rs => rs = .inl (none, mrow (mrow M 54 r127) 69 r123)) := by
        have q9 := c_k_sign_54 z (d + 4) (mrow (mrow M 54 r122) 69 r123) (nI 93) k124
        try simp only [mput, mrow_same, mrow_hit, mrow_miss, mrow_sw, idr_eq, ne_eq, Nat.reduceEqDiff, not_false_eq_true, Nat.reduceLT, reduceCtorEq, g125] at q9
        exact q9
      refine G.callV (as := [.int (nI 93)]) (rest := []) (a := 54) oX12_sign lk_EvenFindersModel_239 (by decide +kernel) rfl rfl ⟨rfl, rfl⟩ (Nat.le_of_ble_eq_true rfl) rfl ⟨Nat.le_of_ble_eq_true rfl, Nat.le_of_ble_eq_true rfl⟩ t128 (fun v9 N9 h129 => ?_) (fun E9 N9 h129 => by cases h129)
      cases h129
      show G z mX12_readStep (d + 6) 0 0 90 [some (.ref 54), none, none, some (.int (r92 34))] [] (mrow (mrow M 54 r127) 69 r123) Q
      refine G.sl [(.aload_n 0, 1, 0, 0, 0, 0), (.dup, 1, 0, 0, 0, 0), (.getfield 141, 3, 11, 7, 130, 0), (.iconst 1, 1, 0, 0, 0, nI 1), (.isub, 1, 0, 0, 0, 0), (.putfield 141, 3, 11, 7, 130, 0), (.aload_n 0, 1, 0, 0, 0, 0)] [] (pc2 := 101) (ls2 := [some (.ref 54), none, none, some (.int (r92 34))]) (st2 := [.ref 54]) (M2 := mput (mrow (mrow M 54 r127) 69 r123) 54 7 ((r127 7) - (nI 1))) (Ps := []) (by decide +kernel) rfl rfl trivial ?_
      refine G.mem (M' := mrow (mrow M 54 (upd r127 7 ((r127 7) - (nI 1)))) 69 r123) (by first | rfl | (simp only [mput, mrow_same, mrow_hit, mrow_miss, mrow_sw, idr_eq, ne_eq, Nat.reduceEqDiff, not_false_eq_true, Nat.reduceLT, reduceCtorEq]; done)) ?_
      obtain ⟨k130, hk⟩ := hk
      have t131 : GM z mX12_fine (d + 5) [.ref 54] (mrow (mrow M 54 (upd r127 7 ((r127 7) - (nI 1)))) 69 r123) (fun rs => rs = .inl (some (.int (k_fine (upd r127 7 ((r127 7) - (nI 1))))), mrow (mrow M 54 (upd r127 7 ((r127 7) - (nI 1)))) 69 r123)) := by
        have q9 := c_k_fine_54 z (d + 5) (mrow (mrow M 54 (upd r127 7 ((r127 7) - (nI 1)))) 69 r123) 
        try simp only [mput, mrow_same, mrow_hit, mrow_miss, mrow_sw, idr_eq, ne_eq, Nat.reduceEqDiff, not_false_eq_true, Nat.reduceLT, reduceCtorEq] at q9
        exact q9
      refine G.callV (as := []) (rest := []) (a := 54) oX12_fine lk_EvenFindersModel_130 (by decide +kernel) rfl rfl ⟨rfl, rfl⟩ (Nat.le_of_ble_eq_true rfl) rfl ⟨Nat.le_of_ble_eq_true rfl, Nat.le_of_ble_eq_true rfl⟩ t131 (fun v9 N9 h132 => ?_) (fun E9 N9 h132 => by cases h132)
      cases h132
      show G z mX12_readStep (d + 6) 0 0 104 [some (.ref 54), none, none, some (.int (r92 34))] [.int (k_fine (upd r127 7 ((r127 7) - (nI 1))))] (mrow (mrow M 54 (upd r127 7 ((r127 7) - (nI 1)))) 69 r123) Q
      refine G.if_eq (off := (15)) (tgt := 119) (by decide +kernel) rfl (fun c133 => ?_) (fun c133 => ?_)
      · skip
        rw [if_pos c133] at hk
        refine G.sl [(.goto 65, 3, 184, 0, 0, 0), (.aload_n 0, 1, 0, 0, 0, 0), (.bipush 59, 2, 0, 0, 0, nI 59)] [] (pc2 := 187) (ls2 := [some (.ref 54), none, none, some (.int (r92 34))]) (st2 := [.int (nI 59), .ref 54]) (M2 := mrow (mrow M 54 (upd r127 7 ((r127 7) - (nI 1)))) 69 r123) (Ps := []) (by decide +kernel) rfl rfl trivial ?_
        obtain ⟨k134, hk⟩ := hk
        rcases g135 : k_sign (upd r127 7 ((r127 7) - (nI 1))) (M.1 56) (nI 59) with ⟨u136, r137⟩
        have t138 : GM z mX12_sign (d + 5) [.ref 54, .int (nI 59)] (mrow (mrow M 54 (upd r127 7 ((r127 7) - (nI 1)))) 69 r123) (fun rs => rs = .inl (none, mrow (mrow M 54 r137) 69 r123)) := by
          have q9 := c_k_sign_54 z (d + 4) (mrow (mrow M 54 (upd r127 7 ((r127 7) - (nI 1)))) 69 r123) (nI 59) k134
          try simp only [mput, mrow_same, mrow_hit, mrow_miss, mrow_sw, idr_eq, ne_eq, Nat.reduceEqDiff, not_false_eq_true, Nat.reduceLT, reduceCtorEq, g135] at q9
          exact q9
        refine G.callV (as := [.int (nI 59)]) (rest := []) (a := 54) oX12_sign lk_EvenFindersModel_239 (by decide +kernel) rfl rfl ⟨rfl, rfl⟩ (Nat.le_of_ble_eq_true rfl) rfl ⟨Nat.le_of_ble_eq_true rfl, Nat.le_of_ble_eq_true rfl⟩ t138 (fun v9 N9 h139 => ?_) (fun E9 N9 h139 => by cases h139)
        cases h139
        show G z mX12_readStep (d + 6) 0 0 190 [some (.ref 54), none, none, some (.int (r92 34))] [] (mrow (mrow M 54 r137) 69 r123) Q
        exact G.retv (by decide +kernel) rfl (Nat.le_of_ble_eq_true rfl) (Nat.le_of_ble_eq_true rfl) ((by rw [hQ]; simp only [k_readStep_st, g2, if_neg c10, if_pos c11, g78, g84, g90, g96, g121, g125, if_pos c133, g135, mrow_self]))
      · skip
        rw [if_neg c133] at hk
        obtain ⟨k140, k141, hk⟩ := hk
        refine G.sl [(.aload_n 0, 1, 0, 0, 0, 0), (.getfield 59, 3, 11, 32, 155, 0), (.iload_n 3, 1, 3, 0, 0, 0), (.iconst 2, 1, 0, 0, 0, nI 2), (.iadd, 1, 0, 0, 0, 0), (.aload_n 0, 1, 0, 0, 0, 0), (.getfield 295, 3, 11, 34, 157, 0), (.iastore, 1, 0, 0, 0, 0), (.goto 65, 3, 184, 0, 0, 0), (.aload_n 0, 1, 0, 0, 0, 0), (.bipush 59, 2, 0, 0, 0, nI 59)] [(ix (r92 34)) + 2] (pc2 := 187) (ls2 := [some (.ref 54), none, none, some (.int (r92 34))]) (st2 := [.int (nI 59), .ref 54]) (M2 := mput (mrow (mrow M 54 (upd r127 7 ((r127 7) - (nI 1)))) 69 r123) 69 ((ix (r92 34)) + 2) (r127 34)) (Ps := [((r92 34) + (nI 2)) = nI ((ix (r92 34)) + 2) ∧ ((ix (r92 34)) + 2) < 150]) (by decide +kernel) rfl rfl ⟨⟨(nAdd (ixE k140) rfl), k141⟩, trivial⟩ ?_
        refine G.mem (M' := mrow (mrow M 54 (upd r127 7 ((r127 7) - (nI 1)))) 69 (upd r123 ((ix (r92 34)) + 2) (r127 34))) (by first | rfl | (simp only [mput, mrow_same, mrow_hit, mrow_miss, mrow_sw, idr_eq, ne_eq, Nat.reduceEqDiff, not_false_eq_true, Nat.reduceLT, reduceCtorEq]; done)) ?_
        obtain ⟨k142, hk⟩ := hk
        rcases g143 : k_sign (upd r127 7 ((r127 7) - (nI 1))) (M.1 56) (nI 59) with ⟨u144, r145⟩
        have t146 : GM z mX12_sign (d + 5) [.ref 54, .int (nI 59)] (mrow (mrow M 54 (upd r127 7 ((r127 7) - (nI 1)))) 69 (upd r123 ((ix (r92 34)) + 2) (r127 34))) (fun rs => rs = .inl (none, mrow (mrow M 54 r145) 69 (upd r123 ((ix (r92 34)) + 2) (r127 34)))) := by
          have q9 := c_k_sign_54 z (d + 4) (mrow (mrow M 54 (upd r127 7 ((r127 7) - (nI 1)))) 69 (upd r123 ((ix (r92 34)) + 2) (r127 34))) (nI 59) k142
          try simp only [mput, mrow_same, mrow_hit, mrow_miss, mrow_sw, idr_eq, ne_eq, Nat.reduceEqDiff, not_false_eq_true, Nat.reduceLT, reduceCtorEq, g143] at q9
          exact q9
        refine G.callV (as := [.int (nI 59)]) (rest := []) (a := 54) oX12_sign lk_EvenFindersModel_239 (by decide +kernel) rfl rfl ⟨rfl, rfl⟩ (Nat.le_of_ble_eq_true rfl) rfl ⟨Nat.le_of_ble_eq_true rfl, Nat.le_of_ble_eq_true rfl⟩ t146 (fun v9 N9 h147 => ?_) (fun E9 N9 h147 => by cases h147)
        cases h147
        show G z mX12_readStep (d + 6) 0 0 190 [some (.ref 54), none, none, some (.int (r92 34))] [] (mrow (mrow M 54 r145) 69 (upd r123 ((ix (r92 34)) + 2) (r127 34))) Q
        exact G.retv (by decide +kernel) rfl (Nat.le_of_ble_eq_true rfl) (Nat.le_of_ble_eq_true rfl) ((by rw [hQ]; simp only [k_readStep_st, g2, if_neg c10, if_pos c11, g78, g84, g90, g96, g121, g125, if_neg c133, g143, mrow_self]))
  · skip
    rw [if_pos c10] at hk
    refine G.sl [(.aload_n 0, 1, 0, 0, 0, 0), (.iconst 1, 1, 0, 0, 0, nI 1), (.aload_n 0, 1, 0, 0, 0, 0), (.getfield 107, 3, 11, 4, 127, 0)] [] (pc2 := 19) (ls2 := [some (.ref 54), some (.int (k_stepOf v3)), none, none]) (st2 := [.int (r4 4), .int (nI 1), .ref 54]) (M2 := mrow M 54 r4) (Ps := []) (by decide +kernel) rfl rfl trivial ?_
    obtain ⟨k148, hk⟩ := hk
    rcases g149 : k_wrong r4 (nI 1) (r4 4) with ⟨u150, r151⟩
    try simp only [g149] at hk
    have t152 : GM z mX12_wrong (d + 5) [.ref 54, .int (nI 1), .int (r4 4)] (mrow M 54 r4) (fun rs => rs = .inl (none, mrow M 54 r151)) := by
      have q9 := c_k_wrong_54 z (d + 5) (mrow M 54 r4) (nI 1) (r4 4)
      try simp only [mput, mrow_same, mrow_hit, mrow_miss, mrow_sw, idr_eq, ne_eq, Nat.reduceEqDiff, not_false_eq_true, Nat.reduceLT, reduceCtorEq, g149] at q9
      exact q9
    refine G.callV (as := [.int (nI 1), .int (r4 4)]) (rest := []) (a := 54) oX12_wrong lk_EvenFindersModel_137 (by decide +kernel) rfl rfl ⟨rfl, rfl⟩ (Nat.le_of_ble_eq_true rfl) rfl ⟨Nat.le_of_ble_eq_true rfl, Nat.le_of_ble_eq_true rfl⟩ t152 (fun v9 N9 h153 => ?_) (fun E9 N9 h153 => by cases h153)
    cases h153
    show G z mX12_readStep (d + 6) 0 0 22 [some (.ref 54), some (.int (k_stepOf v3)), none, none] [] (mrow M 54 r151) Q
    refine G.sl [(.goto 162, 3, 184, 0, 0, 0), (.aload_n 0, 1, 0, 0, 0, 0), (.bipush 59, 2, 0, 0, 0, nI 59)] [] (pc2 := 187) (ls2 := [some (.ref 54), some (.int (k_stepOf v3)), none, none]) (st2 := [.int (nI 59), .ref 54]) (M2 := mrow M 54 r151) (Ps := []) (by decide +kernel) rfl rfl trivial ?_
    obtain ⟨k154, hk⟩ := hk
    rcases g155 : k_sign r151 (M.1 56) (nI 59) with ⟨u156, r157⟩
    have t158 : GM z mX12_sign (d + 5) [.ref 54, .int (nI 59)] (mrow M 54 r151) (fun rs => rs = .inl (none, mrow M 54 r157)) := by
      have q9 := c_k_sign_54 z (d + 4) (mrow M 54 r151) (nI 59) k154
      try simp only [mput, mrow_same, mrow_hit, mrow_miss, mrow_sw, idr_eq, ne_eq, Nat.reduceEqDiff, not_false_eq_true, Nat.reduceLT, reduceCtorEq, g155] at q9
      exact q9
    refine G.callV (as := [.int (nI 59)]) (rest := []) (a := 54) oX12_sign lk_EvenFindersModel_239 (by decide +kernel) rfl rfl ⟨rfl, rfl⟩ (Nat.le_of_ble_eq_true rfl) rfl ⟨Nat.le_of_ble_eq_true rfl, Nat.le_of_ble_eq_true rfl⟩ t158 (fun v9 N9 h159 => ?_) (fun E9 N9 h159 => by cases h159)
    cases h159
    show G z mX12_readStep (d + 6) 0 0 190 [some (.ref 54), some (.int (k_stepOf v3)), none, none] [] (mrow M 54 r157) Q
    refine G.mem (M' := mrow (mrow M 54 r157) 69 (M.1 69)) (((mrow_id (N := mrow M 54 r157) (c := 69) (f := M.1 69) (by first | rfl | (simp only [mput, mrow_same, mrow_hit, mrow_miss, mrow_sw, idr_eq, ne_eq, Nat.reduceEqDiff, not_false_eq_true, Nat.reduceLT, reduceCtorEq]; done))).symm).trans (by first | rfl | (simp only [mput, mrow_same, mrow_hit, mrow_miss, mrow_sw, idr_eq, ne_eq, Nat.reduceEqDiff, not_false_eq_true, Nat.reduceLT, reduceCtorEq]; done))) ?_
    exact G.retv (by decide +kernel) rfl (Nat.le_of_ble_eq_true rfl) (Nat.le_of_ble_eq_true rfl) ((by rw [hQ]; simp only [k_readStep_st, g2, if_pos c10, g149, g155, mrow_self]))
theorem c_k_readStep_54_rec (z : Zp)  : ∀ (k0 d : Nat) (M : Mem) , k_readStep_rec_ok k0 (M.1 54) (M.1 56) (M.1 69) → GM z mX12_readStep (d + 6 * k0) [.ref 54] M (fun rs => rs = .inl (none, mrow (mrow M 54 ((k_readStep_rec k0 (M.1 54) (M.1 56) (M.1 69)).2.1)) 69 ((k_readStep_rec k0 (M.1 54) (M.1 56) (M.1 69)).2.2))) := by
  intro k0
  induction k0 with
  | zero =>
    intro d M   hk
    exact (by simpa only [k_readStep_rec_ok] using hk : False).elim
  | succ k0 ih =>
    intro d M   hk
    have e9 : d + 6 * (k0 + 1) = (d + 6 * k0) + 6 := by omega
    rw [e9]
    simp only [k_readStep_rec_ok] at hk
    have q9 := c_k_readStep_54_st z (d + 6 * k0) M   (k_readStep_rec k0) (k_readStep_rec_ok k0) (fun j M   hk => by
      have q9 := ih (d + j) M   hk
      rw [show d + j + 6 * k0 = d + 6 * k0 + j by omega] at q9
      exact q9)  hk
    simp only [k_readStep_rec]
    exact q9
theorem c_k_readStep_54 (z : Zp) (d : Nat) (M : Mem)   (hk : k_readStep_ok (M.1 54) (M.1 56) (M.1 69)) : GM z mX12_readStep (d + 60) [.ref 54] M (fun rs => rs = .inl (none, mrow (mrow M 54 ((k_readStep (M.1 54) (M.1 56) (M.1 69)).2.1)) 69 ((k_readStep (M.1 54) (M.1 56) (M.1 69)).2.2))) := by
  have q9 := c_k_readStep_54_rec z  10 d M   hk
  exact q9
set_option maxHeartbeats 4000000 in
set_option maxRecDepth 3000 in
theorem lp_k_work_54_68 (z : Zp) (d : Nat) (M : Mem) (Q : Rs → Prop) : ∀ (k0 : Nat) (q54 : (Nat → Int32)) (q69 : (Nat → Int32)), k_work_68_ok (M.1 56) k0 q54 q69 → (match k_work_68 (M.1 56) k0 q54 q69 with | (q54', q69') => G z mX12_work (d + 71) 0 0 89 [some (.ref 54), none, none, none] [] (mrow (mrow M 54 (q54')) 69 (q69')) Q) → G z mX12_work (d + 71) 0 0 68 [some (.ref 54), none, none, none] [] (mrow (mrow M 54 q54) 69 q69) Q := by
  intro k0
  induction k0 with
  | zero =>
      intro q54 q69 hk hX
      exact (by simpa only [k_work_68_ok] using hk : False).elim
  | succ k0 ih =>
      intro q54 q69 hk hX
      simp only [k_work_68_ok] at hk
      refine G.sl [(.aload_n 0, 1, 0, 0, 0, 0)] [] (pc2 := 69) (ls2 := [some (.ref 54), none, none, none]) (st2 := [.ref 54]) (M2 := mrow (mrow M 54 q54) 69 q69) (Ps := []) (by decide +kernel) rfl rfl trivial ?_
      obtain ⟨k17, hk⟩ := hk
      have t18 : GM z mX12_fine (d + 70) [.ref 54] (mrow (mrow M 54 q54) 69 q69) (fun rs => rs = .inl (some (.int (k_fine q54)), mrow (mrow M 54 q54) 69 q69)) := by
        have q9 := c_k_fine_54 z (d + 70) (mrow (mrow M 54 q54) 69 q69) 
        try simp only [mput, mrow_same, mrow_hit, mrow_miss, mrow_sw, idr_eq, ne_eq, Nat.reduceEqDiff, not_false_eq_true, Nat.reduceLT, reduceCtorEq] at q9
        exact q9
      refine G.callV (as := []) (rest := []) (a := 54) oX12_fine lk_EvenFindersModel_130 (by decide +kernel) rfl rfl ⟨rfl, rfl⟩ (Nat.le_of_ble_eq_true rfl) rfl ⟨Nat.le_of_ble_eq_true rfl, Nat.le_of_ble_eq_true rfl⟩ t18 (fun v9 N9 h19 => ?_) (fun E9 N9 h19 => by cases h19)
      cases h19
      show G z mX12_work (d + 71) 0 0 72 [some (.ref 54), none, none, none] [.int (k_fine q54)] (mrow (mrow M 54 q54) 69 q69) Q
      refine G.if_eq (off := (17)) (tgt := 89) (by decide +kernel) rfl (fun c20 => ?_) (fun c20 => ?_)
      · skip
        rw [if_pos c20] at hk
        simp only [k_work_68, if_pos c20] at hX
        exact hX
      · skip
        rw [if_neg c20] at hk
        refine G.sl [(.aload_n 0, 1, 0, 0, 0, 0)] [] (pc2 := 76) (ls2 := [some (.ref 54), none, none, none]) (st2 := [.ref 54]) (M2 := mrow (mrow M 54 q54) 69 q69) (Ps := []) (by decide +kernel) rfl rfl trivial ?_
        obtain ⟨k21, hk⟩ := hk
        rcases g22 : k_isMore q54 (M.1 56) with ⟨v23, r24⟩
        try simp only [g22] at hk
        have ev23 : v23 = 0 ∨ v23 = 1 := by
          have q9 := k_isMore_01 q54 (M.1 56)
          rw [g22] at q9
          exact q9
        have t25 : GM z mX12_isMore (d + 70) [.ref 54] (mrow (mrow M 54 q54) 69 q69) (fun rs => rs = .inl (some (.int v23), mrow (mrow M 54 r24) 69 q69)) := by
          have q9 := c_k_isMore_54 z (d + 69) (mrow (mrow M 54 q54) 69 q69) k21
          try simp only [mput, mrow_same, mrow_hit, mrow_miss, mrow_sw, idr_eq, ne_eq, Nat.reduceEqDiff, not_false_eq_true, Nat.reduceLT, reduceCtorEq, g22] at q9
          exact q9
        refine G.callV (as := []) (rest := []) (a := 54) oX12_isMore lk_EvenFindersModel_221 (by decide +kernel) rfl rfl ⟨rfl, rfl⟩ (Nat.le_of_ble_eq_true rfl) rfl ⟨Nat.le_of_ble_eq_true rfl, Nat.le_of_ble_eq_true rfl⟩ t25 (fun v9 N9 h26 => ?_) (fun E9 N9 h26 => by cases h26)
        cases h26
        show G z mX12_work (d + 71) 0 0 79 [some (.ref 54), none, none, none] [.int v23] (mrow (mrow M 54 r24) 69 q69) Q
        refine G.if_eq (off := (10)) (tgt := 89) (by decide +kernel) rfl (fun c27 => ?_) (fun c27 => ?_)
        · skip
          rw [if_pos c27] at hk
          simp only [k_work_68, if_neg c20, g22, if_pos c27] at hX
          exact hX
        · skip
          rw [if_neg c27] at hk
          refine G.sl [(.aload_n 0, 1, 0, 0, 0, 0)] [] (pc2 := 83) (ls2 := [some (.ref 54), none, none, none]) (st2 := [.ref 54]) (M2 := mrow (mrow M 54 r24) 69 q69) (Ps := []) (by decide +kernel) rfl rfl trivial ?_
          obtain ⟨k28, hk⟩ := hk
          rcases g29 : k_readStep r24 (M.1 56) q69 with ⟨u30, r31, r32⟩
          try simp only [g29] at hk
          have t33 : GM z mX12_readStep (d + 70) [.ref 54] (mrow (mrow M 54 r24) 69 q69) (fun rs => rs = .inl (none, mrow (mrow M 54 r31) 69 r32)) := by
            have q9 := c_k_readStep_54 z (d + 10) (mrow (mrow M 54 r24) 69 q69) k28
            try simp only [mput, mrow_same, mrow_hit, mrow_miss, mrow_sw, idr_eq, ne_eq, Nat.reduceEqDiff, not_false_eq_true, Nat.reduceLT, reduceCtorEq, g29] at q9
            exact q9
          refine G.callV (as := []) (rest := []) (a := 54) oX12_readStep lk_EvenFindersModel_317 (by decide +kernel) rfl rfl ⟨rfl, rfl⟩ (Nat.le_of_ble_eq_true rfl) rfl ⟨Nat.le_of_ble_eq_true rfl, Nat.le_of_ble_eq_true rfl⟩ t33 (fun v9 N9 h34 => ?_) (fun E9 N9 h34 => by cases h34)
          cases h34
          show G z mX12_work (d + 71) 0 0 86 [some (.ref 54), none, none, none] [] (mrow (mrow M 54 r31) 69 r32) Q
          refine G.sl [(.goto (-18), 3, 68, 0, 0, 0)] [] (pc2 := 68) (ls2 := [some (.ref 54), none, none, none]) (st2 := []) (M2 := mrow (mrow M 54 r31) 69 r32) (Ps := []) (by decide +kernel) rfl rfl trivial ?_
          simp only [k_work_68, if_neg c20, g22, if_neg c27, g29] at hX
          exact ih r31 r32 hk hX
set_option maxHeartbeats 4000000 in
set_option maxRecDepth 3000 in
theorem lp_k_copies_L150_L150_54_69_70_3 (z : Zp) (d : Nat) (M : Mem) (Q : Rs → Prop) (n3 : Nat) (b3 : n3 < 3000) (hk : ∀ i4, i4 < n3 → k_copies_L150_L150_3_ok (M.1 69) (M.1 70) n3 i4) (hX : G z mX12_copies (d) 0 0 23 [none, none, none, none, none] [] (mrow M 70 (k_copies_L150_L150_3 (M.1 69) (M.1 70) n3 n3)) Q) : G z mX12_copies (d) 0 0 3 [none, some (.ref 69), some (.ref 70), some (.int (nI n3)), some (.int (nI 0))] [] M Q := by
  refine G.mem (M' := mrow M 70 (M.1 70)) (by simp only [mrow_self]) ?_
  refine down (n := n3) (P := fun i4 => G z mX12_copies (d) 0 0 3 [none, some (.ref 69), some (.ref 70), some (.int (nI n3)), some (.int (nI i4))] [] (mrow M 70 (k_copies_L150_L150_3 (M.1 69) (M.1 70) n3 i4)) Q) ?_ ?_ 0 (Nat.zero_le _)
  · skip
    refine G.sl [(.iload 4, 2, 4, 0, 0, 0), (.iload_n 3, 1, 3, 0, 0, 0)] [] (pc2 := 6) (ls2 := [none, some (.ref 69), some (.ref 70), some (.int (nI n3)), some (.int (nI n3))]) (st2 := [.int (nI n3), .int (nI n3)]) (M2 := mrow M 70 (k_copies_L150_L150_3 (M.1 69) (M.1 70) n3 n3)) (Ps := []) (by decide +kernel) rfl rfl trivial ?_
    refine G.ic_ge (off := (17)) (tgt := 23) (by decide +kernel) rfl (fun _ => ?_) (fun h9 => absurd (nI_le (by omega) (by omega)) h9)
    refine G.loc (ls2 := [none, none, none, none, none]) (by simp [subL]) ?_
    exact hX
  · skip
    intro i4 hi ih
    have hk := hk i4 hi
    simp only [k_copies_L150_L150_3_ok] at hk
    show G z mX12_copies (d) 0 0 3 [none, some (.ref 69), some (.ref 70), some (.int (nI n3)), some (.int (nI i4))] [] (mrow M 70 (k_copies_L150_L150_3 (M.1 69) (M.1 70) n3 i4)) Q
    refine G.sl [(.iload 4, 2, 4, 0, 0, 0), (.iload_n 3, 1, 3, 0, 0, 0)] [] (pc2 := 6) (ls2 := [none, some (.ref 69), some (.ref 70), some (.int (nI n3)), some (.int (nI i4))]) (st2 := [.int (nI n3), .int (nI i4)]) (M2 := mrow M 70 (k_copies_L150_L150_3 (M.1 69) (M.1 70) n3 i4)) (Ps := []) (by decide +kernel) rfl rfl trivial ?_
    refine G.ic_ge (off := (17)) (tgt := 23) (by decide +kernel) rfl (fun h9 => absurd h9 (nI_ge (by omega) (by omega))) (fun _ => ?_)
    obtain ⟨k1, hk⟩ := hk
    refine G.sl [(.aload_n 2, 1, 2, 0, 0, 0), (.iload 4, 2, 4, 0, 0, 0), (.aload_n 1, 1, 1, 0, 0, 0), (.iload 4, 2, 4, 0, 0, 0), (.iaload, 1, 0, 0, 0, 0), (.iastore, 1, 0, 0, 0, 0), (.iinc 4 1, 3, 4, 0, 0, nI 1), (.goto (-17), 3, 3, 0, 0, 0)] [i4, i4] (pc2 := 3) (ls2 := [none, some (.ref 69), some (.ref 70), some (.int (nI n3)), some (.int ((nI i4) + nI 1))]) (st2 := []) (M2 := mput (mrow M 70 (k_copies_L150_L150_3 (M.1 69) (M.1 70) n3 i4)) 70 i4 (M.1 69 i4)) (Ps := [(nI i4) = nI i4 ∧ i4 < 150, (nI i4) = nI i4 ∧ i4 < 150]) (by decide +kernel) rfl rfl ⟨⟨rfl, k1⟩, ⟨rfl, k1⟩, trivial⟩ ?_
    refine G.mem (M' := mrow M 70 (upd (k_copies_L150_L150_3 (M.1 69) (M.1 70) n3 i4) i4 (M.1 69 i4))) (by first | rfl | (simp only [mput, mrow_same, mrow_hit, mrow_miss, mrow_sw, idr_eq, ne_eq, Nat.reduceEqDiff, not_false_eq_true, Nat.reduceLT, reduceCtorEq]; done)) ?_
    rw [nI_add i4 1]
    simp only [k_copies_L150_L150_3] at ih
    exact ih
set_option maxHeartbeats 4000000 in
set_option maxRecDepth 3000 in
theorem c_k_copies_L150_L150_54_69_70 (z : Zp) (d : Nat) (M : Mem) (n3 : Nat) (b3 : n3 < 3000) (hk : k_copies_L150_L150_ok (M.1 69) (M.1 70) n3) : GM z mX12_copies (d) [.ref 54, .ref 69, .ref 70, .int (nI n3)] M (fun rs => rs = .inl (none, mrow M 70 ((k_copies_L150_L150 (M.1 69) (M.1 70) n3).2))) := by
  simp only [k_copies_L150_L150_ok] at hk
  refine GM.of oX12_copies.1 (Nat.le_of_ble_eq_true rfl) ?_
  show G z mX12_copies (d) 0 0 0 [some (.ref 54), some (.ref 69), some (.ref 70), some (.int (nI n3)), none] [] M _
  obtain ⟨Q, hQ⟩ : ∃ Q : Rs → Prop, Q = (fun rs => rs = .inl (none, mrow M 70 ((k_copies_L150_L150 (M.1 69) (M.1 70) n3).2))) := ⟨_, rfl⟩
  rw [← hQ]
  refine G.sl [(.iconst 0, 1, 0, 0, 0, nI 0), (.istore 4, 2, 4, 0, 0, 0)] [] (pc2 := 3) (ls2 := [some (.ref 54), some (.ref 69), some (.ref 70), some (.int (nI n3)), some (.int (nI 0))]) (st2 := []) (M2 := M) (Ps := []) (by decide +kernel) rfl rfl trivial ?_
  refine G.loc (ls2 := [none, some (.ref 69), some (.ref 70), some (.int (nI n3)), some (.int (nI 0))]) (by simp [subL]) ?_
  obtain ⟨k2, hk⟩ := hk
  refine lp_k_copies_L150_L150_54_69_70_3 z d M Q n3 (by omega) (by first | (simp only [mput, mrow_same, mrow_hit, mrow_miss, mrow_sw, idr_eq, ne_eq, Nat.reduceEqDiff, not_false_eq_true, Nat.reduceLT, reduceCtorEq]; exact k2) | exact k2) ?_
  try simp only [mput, mrow_same, mrow_hit, mrow_miss, mrow_sw, idr_eq, ne_eq, Nat.reduceEqDiff, not_false_eq_true, Nat.reduceLT, reduceCtorEq]
  show G z mX12_copies (d) 0 0 23 [none, none, none, none, none] [] (mrow M 70 (k_copies_L150_L150_3 (M.1 69) (M.1 70) n3 n3)) Q
  exact G.retv (by decide +kernel) rfl (Nat.le_of_ble_eq_true rfl) (Nat.le_of_ble_eq_true rfl) ((by rw [hQ]; simp only [k_copies_L150_L150, mrow_self]))
set_option maxHeartbeats 4000000 in
set_option maxRecDepth 3000 in
theorem lp_k_work_54_123 (z : Zp) (d : Nat) (M : Mem) (Q : Rs → Prop) (nn : Nat) (hnn : nn = 51) (hk : ∀ i3, i3 < nn → k_work_123_ok (M.1 54) (M.1 71) (M.1 73) i3) (hX : G z mX12_work (d + 71) 0 0 155 [some (.ref 54), none, none, none] [] (mrow M 73 (k_work_123 (M.1 54) (M.1 71) (M.1 73) nn)) Q) : G z mX12_work (d + 71) 0 0 123 [some (.ref 54), none, none, some (.int (nI 0))] [] M Q := by
  refine G.mem (M' := mrow M 73 (M.1 73)) (by simp only [mrow_self]) ?_
  refine down (n := nn) (P := fun i3 => G z mX12_work (d + 71) 0 0 123 [some (.ref 54), none, none, some (.int (nI i3))] [] (mrow M 73 (k_work_123 (M.1 54) (M.1 71) (M.1 73) i3)) Q) ?_ ?_ 0 (Nat.zero_le _)
  · skip
    refine G.sl [(.iload_n 3, 1, 3, 0, 0, 0), (.bipush 51, 2, 0, 0, 0, nI 51)] [] (pc2 := 126) (ls2 := [some (.ref 54), none, none, some (.int (nI nn))]) (st2 := [.int (nI 51), .int (nI nn)]) (M2 := mrow M 73 (k_work_123 (M.1 54) (M.1 71) (M.1 73) nn)) (Ps := []) (by decide +kernel) rfl rfl trivial ?_
    refine G.ic_ge (off := (29)) (tgt := 155) (by decide +kernel) rfl (fun _ => ?_) (fun h9 => absurd (nI_le (by omega) (by omega)) h9)
    refine G.loc (ls2 := [some (.ref 54), none, none, none]) (by simp [subL]) ?_
    exact hX
  · skip
    intro i3 hi ih
    have hk := hk i3 hi
    simp only [k_work_123_ok] at hk
    show G z mX12_work (d + 71) 0 0 123 [some (.ref 54), none, none, some (.int (nI i3))] [] (mrow M 73 (k_work_123 (M.1 54) (M.1 71) (M.1 73) i3)) Q
    refine G.sl [(.iload_n 3, 1, 3, 0, 0, 0), (.bipush 51, 2, 0, 0, 0, nI 51)] [] (pc2 := 126) (ls2 := [some (.ref 54), none, none, some (.int (nI i3))]) (st2 := [.int (nI 51), .int (nI i3)]) (M2 := mrow M 73 (k_work_123 (M.1 54) (M.1 71) (M.1 73) i3)) (Ps := []) (by decide +kernel) rfl rfl trivial ?_
    refine G.ic_ge (off := (29)) (tgt := 155) (by decide +kernel) rfl (fun h9 => absurd h9 (nI_ge (by omega) (by omega))) (fun _ => ?_)
    obtain ⟨k54, k55, hk⟩ := hk
    refine G.sl [(.aload_n 0, 1, 0, 0, 0, 0), (.getfield 71, 3, 11, 42, 165, 0), (.bipush 51, 2, 0, 0, 0, nI 51), (.aload_n 0, 1, 0, 0, 0, 0), (.getfield 178, 3, 11, 35, 158, 0), (.imul, 1, 0, 0, 0, 0), (.iload_n 3, 1, 3, 0, 0, 0), (.iadd, 1, 0, 0, 0, 0), (.aload_n 0, 1, 0, 0, 0, 0), (.getfield 65, 3, 11, 40, 163, 0), (.iload_n 3, 1, 3, 0, 0, 0), (.iaload, 1, 0, 0, 0, 0), (.iastore, 1, 0, 0, 0, 0), (.iinc 3 1, 3, 3, 0, 0, nI 1), (.goto (-29), 3, 123, 0, 0, 0)] [i3, (51 * (ix (M.1 54 35))) + i3] (pc2 := 123) (ls2 := [some (.ref 54), none, none, some (.int ((nI i3) + nI 1))]) (st2 := []) (M2 := mput (mrow M 73 (k_work_123 (M.1 54) (M.1 71) (M.1 73) i3)) 73 ((51 * (ix (M.1 54 35))) + i3) (M.1 71 i3)) (Ps := [(nI i3) = nI i3 ∧ i3 < 51, (((nI 51) * (M.1 54 35)) + (nI i3)) = nI ((51 * (ix (M.1 54 35))) + i3) ∧ ((51 * (ix (M.1 54 35))) + i3) < 816]) (by decide +kernel) rfl rfl ⟨⟨rfl, (by omega)⟩, ⟨(nAdd (nMul rfl (ixE k54)) rfl), k55⟩, trivial⟩ ?_
    refine G.mem (M' := mrow M 73 (upd (k_work_123 (M.1 54) (M.1 71) (M.1 73) i3) ((51 * (ix (M.1 54 35))) + i3) (M.1 71 i3))) (by first | rfl | (simp only [mput, mrow_same, mrow_hit, mrow_miss, mrow_sw, idr_eq, ne_eq, Nat.reduceEqDiff, not_false_eq_true, Nat.reduceLT, reduceCtorEq]; done)) ?_
    rw [nI_add i3 1]
    simp only [k_work_123] at ih
    exact ih
theorem k_isDone_01 (Rmd Rroad Rthing Rcode RofCode Rstack Rfacts Rs : Nat → Int32) (nt nf : Nat) (x1 : Int32) (x2 : Int32) (x3 : Int32) : (k_isDone Rmd Rroad Rthing Rcode RofCode Rstack Rfacts Rs nt nf x1 x2 x3).1 = 0 ∨ (k_isDone Rmd Rroad Rthing Rcode RofCode Rstack Rfacts Rs nt nf x1 x2 x3).1 = 1 := by
  unfold k_isDone
  repeat' split
  all_goals first | exact Or.inl rfl | exact Or.inr rfl | (rename_i h9; have q9 := k_letsLie_m99_01 (Rthing) (Rs) (ix x2) (ix x3); rw [h9] at q9; exact q9) | (rename_i h9; have q9 := k_loses_01 (Rthing) (Rs) (ix x2) (ix x3); rw [h9] at q9; exact q9) | (rename_i h9; have q9 := k_finds_01 (Rmd) (Rthing) (Rcode) (RofCode) (Rstack) (Rfacts) (Rs) nt (ix x2) (ix x3); rw [h9] at q9; exact q9) | (rename_i h9; have q9 := k_walks_01 (Rroad) (Rs) nt (ix x2) (ix x3); rw [h9] at q9; exact q9)
set_option maxHeartbeats 4000000 in
set_option maxRecDepth 3000 in
theorem c_k_isDone_54 (z : Zp) (d : Nat) (M : Mem) (x1 : Int32) (x2 : Int32) (x3 : Int32) (nt : Nat) (hnt : nt ≤ 10) (ct : M.1 54 22 = nI nt) (nf : Nat) (hnf : nf ≤ 6) (cf : M.1 54 23 = nI nf) (hk : k_isDone_ok (M.1 54) (M.1 60) (M.1 61) (M.1 65) (M.1 66) (M.1 67) (M.1 68) (M.1 72) nt nf x1 x2 x3) : GM z mX12_isDone (d + 6) [.ref 54, .int x1, .int x2, .int x3] M (fun rs => rs = .inl (some (.int ((k_isDone (M.1 54) (M.1 60) (M.1 61) (M.1 65) (M.1 66) (M.1 67) (M.1 68) (M.1 72) nt nf x1 x2 x3).1)), mrow (mrow (mrow M 67 ((k_isDone (M.1 54) (M.1 60) (M.1 61) (M.1 65) (M.1 66) (M.1 67) (M.1 68) (M.1 72) nt nf x1 x2 x3).2.1)) 68 ((k_isDone (M.1 54) (M.1 60) (M.1 61) (M.1 65) (M.1 66) (M.1 67) (M.1 68) (M.1 72) nt nf x1 x2 x3).2.2.1)) 72 ((k_isDone (M.1 54) (M.1 60) (M.1 61) (M.1 65) (M.1 66) (M.1 67) (M.1 68) (M.1 72) nt nf x1 x2 x3).2.2.2))) := by
  simp only [k_isDone_ok] at hk
  refine GM.of oX12_isDone.1 (Nat.le_of_ble_eq_true rfl) ?_
  show G z mX12_isDone (d + 6) 0 0 0 [some (.ref 54), some (.int x1), some (.int x2), some (.int x3)] [] M _
  obtain ⟨Q, hQ⟩ : ∃ Q : Rs → Prop, Q = (fun rs => rs = .inl (some (.int ((k_isDone (M.1 54) (M.1 60) (M.1 61) (M.1 65) (M.1 66) (M.1 67) (M.1 68) (M.1 72) nt nf x1 x2 x3).1)), mrow (mrow (mrow M 67 ((k_isDone (M.1 54) (M.1 60) (M.1 61) (M.1 65) (M.1 66) (M.1 67) (M.1 68) (M.1 72) nt nf x1 x2 x3).2.1)) 68 ((k_isDone (M.1 54) (M.1 60) (M.1 61) (M.1 65) (M.1 66) (M.1 67) (M.1 68) (M.1 72) nt nf x1 x2 x3).2.2.1)) 72 ((k_isDone (M.1 54) (M.1 60) (M.1 61) (M.1 65) (M.1 66) (M.1 67) (M.1 68) (M.1 72) nt nf x1 x2 x3).2.2.2))) := ⟨_, rfl⟩
  rw [← hQ]
  refine G.sl [(.iload_n 1, 1, 1, 0, 0, 0)] [] (pc2 := 1) (ls2 := [some (.ref 54), some (.int x1), some (.int x2), some (.int x3)]) (st2 := [.int x1]) (M2 := M) (Ps := []) (by decide +kernel) rfl rfl trivial ?_
  refine G.if_ne (off := (10)) (tgt := 11) (by decide +kernel) rfl (fun c1 => ?_) (fun c1 => ?_)
  · skip
    rw [if_neg c1] at hk
    refine G.sl [(.iload_n 1, 1, 1, 0, 0, 0), (.iconst 1, 1, 0, 0, 0, nI 1)] [] (pc2 := 13) (ls2 := [some (.ref 54), some (.int x1), some (.int x2), some (.int x3)]) (st2 := [.int (nI 1), .int x1]) (M2 := M) (Ps := []) (by decide +kernel) rfl rfl trivial ?_
    refine G.ic_ne (off := (10)) (tgt := 23) (by decide +kernel) rfl (fun c2 => ?_) (fun c2 => ?_)
    · skip
      rw [if_neg c2] at hk
      refine G.sl [(.iload_n 1, 1, 1, 0, 0, 0), (.iconst 2, 1, 0, 0, 0, nI 2)] [] (pc2 := 25) (ls2 := [some (.ref 54), some (.int x1), some (.int x2), some (.int x3)]) (st2 := [.int (nI 2), .int x1]) (M2 := M) (Ps := []) (by decide +kernel) rfl rfl trivial ?_
      refine G.ic_ne (off := (10)) (tgt := 35) (by decide +kernel) rfl (fun c3 => ?_) (fun c3 => ?_)
      · skip
        rw [if_neg c3] at hk
        refine G.sl [(.iload_n 1, 1, 1, 0, 0, 0), (.iconst 3, 1, 0, 0, 0, nI 3)] [] (pc2 := 37) (ls2 := [some (.ref 54), some (.int x1), some (.int x2), some (.int x3)]) (st2 := [.int (nI 3), .int x1]) (M2 := M) (Ps := []) (by decide +kernel) rfl rfl trivial ?_
        refine G.ic_ne (off := (12)) (tgt := 49) (by decide +kernel) rfl (fun c4 => ?_) (fun c4 => ?_)
        · skip
          rw [if_neg c4] at hk
          refine G.sl [(.aload_n 0, 1, 0, 0, 0, 0), (.getfield 68, 3, 11, 41, 164, 0), (.bipush 50, 2, 0, 0, 0, nI 50), (.iaload, 1, 0, 0, 0, 0), (.sipush 400, 3, 0, 0, 0, nI 400)] [50] (pc2 := 59) (ls2 := [some (.ref 54), some (.int x1), some (.int x2), some (.int x3)]) (st2 := [.int (nI 400), .int (M.1 72 50)]) (M2 := M) (Ps := [(nI 50) = nI 50 ∧ 50 < 51]) (by decide +kernel) rfl rfl ⟨⟨rfl, (by omega)⟩, trivial⟩ ?_
          refine G.ic_ne (off := (5)) (tgt := 64) (by decide +kernel) rfl (fun c5 => ?_) (fun c5 => ?_)
          · skip
            rw [if_neg c5] at hk
            refine G.sl [(.aload_n 0, 1, 0, 0, 0, 0)] [] (pc2 := 65) (ls2 := [some (.ref 54), some (.int x1), some (.int x2), some (.int x3)]) (st2 := [.ref 54]) (M2 := M) (Ps := []) (by decide +kernel) rfl rfl trivial ?_
            obtain ⟨k6, hk⟩ := hk
            rcases g7 : k_passes (M.1 61) (M.1 72) nt nf with ⟨u8, r9⟩
            have t10 : GM z mX12_passes (d + 5) [.ref 54] M (fun rs => rs = .inl (none, mrow M 72 r9)) := by
              have q9 := c_k_passes_54 z (d + 5) M nt hnt ct nf hnf cf k6
              try simp only [mput, mrow_same, mrow_hit, mrow_miss, mrow_sw, idr_eq, ne_eq, Nat.reduceEqDiff, not_false_eq_true, Nat.reduceLT, reduceCtorEq, g7] at q9
              exact q9
            refine G.callV (as := []) (rest := []) (a := 54) oX12_passes lk_EvenFindersModel_373 (by decide +kernel) rfl rfl ⟨rfl, rfl⟩ (Nat.le_of_ble_eq_true rfl) rfl ⟨Nat.le_of_ble_eq_true rfl, Nat.le_of_ble_eq_true rfl⟩ t10 (fun v9 N9 h11 => ?_) (fun E9 N9 h11 => by cases h11)
            cases h11
            show G z mX12_isDone (d + 6) 0 0 68 [some (.ref 54), some (.int x1), some (.int x2), some (.int x3)] [] (mrow M 72 r9) Q
            refine G.sl [(.iconst 1, 1, 0, 0, 0, nI 1)] [] (pc2 := 69) (ls2 := [some (.ref 54), some (.int x1), some (.int x2), some (.int x3)]) (st2 := [.int (nI 1)]) (M2 := mrow M 72 r9) (Ps := []) (by decide +kernel) rfl rfl trivial ?_
            refine G.mem (M' := mrow (mrow (mrow M 67 (M.1 67)) 68 (M.1 68)) 72 r9) ((((mrow_id (N := mrow M 72 r9) (c := 67) (f := M.1 67) (by first | rfl | (simp only [mput, mrow_same, mrow_hit, mrow_miss, mrow_sw, idr_eq, ne_eq, Nat.reduceEqDiff, not_false_eq_true, Nat.reduceLT, reduceCtorEq]; done))).symm).trans (mrow_id (N := mrow (mrow M 72 r9) 67 (M.1 67)) (c := 68) (f := M.1 68) (by first | rfl | (simp only [mput, mrow_same, mrow_hit, mrow_miss, mrow_sw, idr_eq, ne_eq, Nat.reduceEqDiff, not_false_eq_true, Nat.reduceLT, reduceCtorEq]; done))).symm).trans (by first | rfl | (simp only [mput, mrow_same, mrow_hit, mrow_miss, mrow_sw, idr_eq, ne_eq, Nat.reduceEqDiff, not_false_eq_true, Nat.reduceLT, reduceCtorEq]; done))) ?_
            exact G.reti (by decide +kernel) rfl rfl (Nat.le_of_ble_eq_true rfl) (Nat.le_of_ble_eq_true rfl) ((by rw [hQ]; simp only [k_isDone, if_neg c1, if_neg c2, if_neg c3, if_neg c4, if_neg c5, g7, mrow_self]))
          · skip
            rw [if_pos c5] at hk
            refine G.sl [(.iconst 0, 1, 0, 0, 0, nI 0)] [] (pc2 := 63) (ls2 := [some (.ref 54), some (.int x1), some (.int x2), some (.int x3)]) (st2 := [.int (nI 0)]) (M2 := M) (Ps := []) (by decide +kernel) rfl rfl trivial ?_
            refine G.mem (M' := mrow (mrow (mrow M 67 (M.1 67)) 68 (M.1 68)) 72 (M.1 72)) (((((mrow_id (N := M) (c := 67) (f := M.1 67) (by first | rfl | (simp only [mput, mrow_same, mrow_hit, mrow_miss, mrow_sw, idr_eq, ne_eq, Nat.reduceEqDiff, not_false_eq_true, Nat.reduceLT, reduceCtorEq]; done))).symm).trans (mrow_id (N := mrow M 67 (M.1 67)) (c := 68) (f := M.1 68) (by first | rfl | (simp only [mput, mrow_same, mrow_hit, mrow_miss, mrow_sw, idr_eq, ne_eq, Nat.reduceEqDiff, not_false_eq_true, Nat.reduceLT, reduceCtorEq]; done))).symm).trans (mrow_id (N := mrow (mrow M 67 (M.1 67)) 68 (M.1 68)) (c := 72) (f := M.1 72) (by first | rfl | (simp only [mput, mrow_same, mrow_hit, mrow_miss, mrow_sw, idr_eq, ne_eq, Nat.reduceEqDiff, not_false_eq_true, Nat.reduceLT, reduceCtorEq]; done))).symm).trans (by first | rfl | (simp only [mput, mrow_same, mrow_hit, mrow_miss, mrow_sw, idr_eq, ne_eq, Nat.reduceEqDiff, not_false_eq_true, Nat.reduceLT, reduceCtorEq]; done))) ?_
            exact G.reti (by decide +kernel) rfl rfl (Nat.le_of_ble_eq_true rfl) (Nat.le_of_ble_eq_true rfl) ((by rw [hQ]; simp only [k_isDone, if_neg c1, if_neg c2, if_neg c3, if_neg c4, if_pos c5, mrow_self]))
        · skip
          rw [if_pos c4] at hk
          refine G.sl [(.aload_n 0, 1, 0, 0, 0, 0), (.iload_n 2, 1, 2, 0, 0, 0), (.iload_n 3, 1, 3, 0, 0, 0), (.bipush (-99), 2, 0, 0, 0, (-99))] [] (pc2 := 45) (ls2 := [some (.ref 54), some (.int x1), some (.int x2), some (.int x3)]) (st2 := [.int ((-99)), .int x3, .int x2, .ref 54]) (M2 := M) (Ps := []) (by decide +kernel) rfl rfl trivial ?_
          obtain ⟨k12, k13, k14, k15, hk⟩ := hk
          refine G.eq (st' := [.int ((-99)), .int (nI (ix x3)), .int (nI (ix x2)), .ref 54]) ?_ rfl (by rw [← (show x2 = nI (ix x2) from (ixE k12)), ← (show x3 = nI (ix x3) from (ixE k14))]) rfl
          rcases g17 : k_letsLie_m99 (M.1 61) (M.1 72) (ix x2) (ix x3) with ⟨v18, r19⟩
          have ev18 : v18 = 0 ∨ v18 = 1 := by
            have q9 := k_letsLie_m99_01 (M.1 61) (M.1 72) (ix x2) (ix x3)
            rw [g17] at q9
            exact q9
          have t20 : GM z mX12_letsLie (d + 5) [.ref 54, .int (nI (ix x2)), .int (nI (ix x3)), .int ((-99))] M (fun rs => rs = .inl (some (.int v18), mrow M 72 r19)) := by
            have q9 := c_k_letsLie_m99_54 z (d + 5) M (ix x2) (ix x3) k13 k15
            try simp only [mput, mrow_same, mrow_hit, mrow_miss, mrow_sw, idr_eq, ne_eq, Nat.reduceEqDiff, not_false_eq_true, Nat.reduceLT, reduceCtorEq, g17] at q9
            exact q9
          refine G.callV (as := [.int (nI (ix x2)), .int (nI (ix x3)), .int ((-99))]) (rest := []) (a := 54) oX12_letsLie lk_EvenFindersModel_362 (by decide +kernel) rfl rfl ⟨rfl, rfl⟩ (Nat.le_of_ble_eq_true rfl) rfl ⟨Nat.le_of_ble_eq_true rfl, Nat.le_of_ble_eq_true rfl⟩ t20 (fun v9 N9 h21 => ?_) (fun E9 N9 h21 => by cases h21)
          cases h21
          show G z mX12_isDone (d + 6) 0 0 48 [some (.ref 54), some (.int x1), some (.int x2), some (.int x3)] [.int v18] (mrow M 72 r19) Q
          refine G.mem (M' := mrow (mrow (mrow M 67 (M.1 67)) 68 (M.1 68)) 72 r19) ((((mrow_id (N := mrow M 72 r19) (c := 67) (f := M.1 67) (by first | rfl | (simp only [mput, mrow_same, mrow_hit, mrow_miss, mrow_sw, idr_eq, ne_eq, Nat.reduceEqDiff, not_false_eq_true, Nat.reduceLT, reduceCtorEq]; done))).symm).trans (mrow_id (N := mrow (mrow M 72 r19) 67 (M.1 67)) (c := 68) (f := M.1 68) (by first | rfl | (simp only [mput, mrow_same, mrow_hit, mrow_miss, mrow_sw, idr_eq, ne_eq, Nat.reduceEqDiff, not_false_eq_true, Nat.reduceLT, reduceCtorEq]; done))).symm).trans (by first | rfl | (simp only [mput, mrow_same, mrow_hit, mrow_miss, mrow_sw, idr_eq, ne_eq, Nat.reduceEqDiff, not_false_eq_true, Nat.reduceLT, reduceCtorEq]; done))) ?_
          exact G.reti (by decide +kernel) rfl (nar01 ev18) (Nat.le_of_ble_eq_true rfl) (Nat.le_of_ble_eq_true rfl) ((by rw [hQ]; simp only [k_isDone, if_neg c1, if_neg c2, if_neg c3, if_pos c4, g17, mrow_self]))
      · skip
        rw [if_pos c3] at hk
        refine G.sl [(.aload_n 0, 1, 0, 0, 0, 0), (.iload_n 2, 1, 2, 0, 0, 0), (.iload_n 3, 1, 3, 0, 0, 0)] [] (pc2 := 31) (ls2 := [some (.ref 54), some (.int x1), some (.int x2), some (.int x3)]) (st2 := [.int x3, .int x2, .ref 54]) (M2 := M) (Ps := []) (by decide +kernel) rfl rfl trivial ?_
        obtain ⟨k22, k23, k24, k25, hk⟩ := hk
        refine G.eq (st' := [.int (nI (ix x3)), .int (nI (ix x2)), .ref 54]) ?_ rfl (by rw [← (show x2 = nI (ix x2) from (ixE k22)), ← (show x3 = nI (ix x3) from (ixE k24))]) rfl
        rcases g27 : k_loses (M.1 61) (M.1 72) (ix x2) (ix x3) with ⟨v28, r29⟩
        have ev28 : v28 = 0 ∨ v28 = 1 := by
          have q9 := k_loses_01 (M.1 61) (M.1 72) (ix x2) (ix x3)
          rw [g27] at q9
          exact q9
        have t30 : GM z mX12_loses (d + 5) [.ref 54, .int (nI (ix x2)), .int (nI (ix x3))] M (fun rs => rs = .inl (some (.int v28), mrow M 72 r29)) := by
          have q9 := c_k_loses_54 z (d + 4) M (ix x2) (ix x3) k23 k25
          try simp only [mput, mrow_same, mrow_hit, mrow_miss, mrow_sw, idr_eq, ne_eq, Nat.reduceEqDiff, not_false_eq_true, Nat.reduceLT, reduceCtorEq, g27] at q9
          exact q9
        refine G.callV (as := [.int (nI (ix x2)), .int (nI (ix x3))]) (rest := []) (a := 54) oX12_loses lk_EvenFindersModel_370 (by decide +kernel) rfl rfl ⟨rfl, rfl⟩ (Nat.le_of_ble_eq_true rfl) rfl ⟨Nat.le_of_ble_eq_true rfl, Nat.le_of_ble_eq_true rfl⟩ t30 (fun v9 N9 h31 => ?_) (fun E9 N9 h31 => by cases h31)
        cases h31
        show G z mX12_isDone (d + 6) 0 0 34 [some (.ref 54), some (.int x1), some (.int x2), some (.int x3)] [.int v28] (mrow M 72 r29) Q
        refine G.mem (M' := mrow (mrow (mrow M 67 (M.1 67)) 68 (M.1 68)) 72 r29) ((((mrow_id (N := mrow M 72 r29) (c := 67) (f := M.1 67) (by first | rfl | (simp only [mput, mrow_same, mrow_hit, mrow_miss, mrow_sw, idr_eq, ne_eq, Nat.reduceEqDiff, not_false_eq_true, Nat.reduceLT, reduceCtorEq]; done))).symm).trans (mrow_id (N := mrow (mrow M 72 r29) 67 (M.1 67)) (c := 68) (f := M.1 68) (by first | rfl | (simp only [mput, mrow_same, mrow_hit, mrow_miss, mrow_sw, idr_eq, ne_eq, Nat.reduceEqDiff, not_false_eq_true, Nat.reduceLT, reduceCtorEq]; done))).symm).trans (by first | rfl | (simp only [mput, mrow_same, mrow_hit, mrow_miss, mrow_sw, idr_eq, ne_eq, Nat.reduceEqDiff, not_false_eq_true, Nat.reduceLT, reduceCtorEq]; done))) ?_
        exact G.reti (by decide +kernel) rfl (nar01 ev28) (Nat.le_of_ble_eq_true rfl) (Nat.le_of_ble_eq_true rfl) ((by rw [hQ]; simp only [k_isDone, if_neg c1, if_neg c2, if_pos c3, g27, mrow_self]))
    · skip
      rw [if_pos c2] at hk
      refine G.sl [(.aload_n 0, 1, 0, 0, 0, 0), (.iload_n 2, 1, 2, 0, 0, 0), (.iload_n 3, 1, 3, 0, 0, 0)] [] (pc2 := 19) (ls2 := [some (.ref 54), some (.int x1), some (.int x2), some (.int x3)]) (st2 := [.int x3, .int x2, .ref 54]) (M2 := M) (Ps := []) (by decide +kernel) rfl rfl trivial ?_
      obtain ⟨k32, k33, k34, k35, hk⟩ := hk
      obtain ⟨k36, hk⟩ := hk
      refine G.eq (st' := [.int (nI (ix x3)), .int (nI (ix x2)), .ref 54]) ?_ rfl (by rw [← (show x2 = nI (ix x2) from (ixE k32)), ← (show x3 = nI (ix x3) from (ixE k34))]) rfl
      rcases g37 : k_finds (M.1 54) (M.1 61) (M.1 65) (M.1 66) (M.1 67) (M.1 68) (M.1 72) nt (ix x2) (ix x3) with ⟨v38, r39, r40, r41⟩
      have ev38 : v38 = 0 ∨ v38 = 1 := by
        have q9 := k_finds_01 (M.1 54) (M.1 61) (M.1 65) (M.1 66) (M.1 67) (M.1 68) (M.1 72) nt (ix x2) (ix x3)
        rw [g37] at q9
        exact q9
      have t42 : GM z mX12_finds (d + 5) [.ref 54, .int (nI (ix x2)), .int (nI (ix x3))] M (fun rs => rs = .inl (some (.int v38), mrow (mrow (mrow M 67 r39) 68 r40) 72 r41)) := by
        have q9 := c_k_finds_54 z d M (ix x2) (ix x3) nt hnt ct k33 k35 k36
        try simp only [mput, mrow_same, mrow_hit, mrow_miss, mrow_sw, idr_eq, ne_eq, Nat.reduceEqDiff, not_false_eq_true, Nat.reduceLT, reduceCtorEq, g37] at q9
        exact q9
      refine G.callV (as := [.int (nI (ix x2)), .int (nI (ix x3))]) (rest := []) (a := 54) oX12_finds lk_EvenFindersModel_368 (by decide +kernel) rfl rfl ⟨rfl, rfl⟩ (Nat.le_of_ble_eq_true rfl) rfl ⟨Nat.le_of_ble_eq_true rfl, Nat.le_of_ble_eq_true rfl⟩ t42 (fun v9 N9 h43 => ?_) (fun E9 N9 h43 => by cases h43)
      cases h43
      show G z mX12_isDone (d + 6) 0 0 22 [some (.ref 54), some (.int x1), some (.int x2), some (.int x3)] [.int v38] (mrow (mrow (mrow M 67 r39) 68 r40) 72 r41) Q
      exact G.reti (by decide +kernel) rfl (nar01 ev38) (Nat.le_of_ble_eq_true rfl) (Nat.le_of_ble_eq_true rfl) ((by rw [hQ]; simp only [k_isDone, if_neg c1, if_pos c2, g37, mrow_self]))
  · skip
    rw [if_pos c1] at hk
    refine G.sl [(.aload_n 0, 1, 0, 0, 0, 0), (.iload_n 2, 1, 2, 0, 0, 0), (.iload_n 3, 1, 3, 0, 0, 0)] [] (pc2 := 7) (ls2 := [some (.ref 54), some (.int x1), some (.int x2), some (.int x3)]) (st2 := [.int x3, .int x2, .ref 54]) (M2 := M) (Ps := []) (by decide +kernel) rfl rfl trivial ?_
    obtain ⟨k44, k45, k46, k47, hk⟩ := hk
    refine G.eq (st' := [.int (nI (ix x3)), .int (nI (ix x2)), .ref 54]) ?_ rfl (by rw [← (show x2 = nI (ix x2) from (ixE k44)), ← (show x3 = nI (ix x3) from (ixE k46))]) rfl
    rcases g49 : k_walks (M.1 60) (M.1 72) nt (ix x2) (ix x3) with ⟨v50, r51⟩
    have ev50 : v50 = 0 ∨ v50 = 1 := by
      have q9 := k_walks_01 (M.1 60) (M.1 72) nt (ix x2) (ix x3)
      rw [g49] at q9
      exact q9
    have t52 : GM z mX12_walks (d + 5) [.ref 54, .int (nI (ix x2)), .int (nI (ix x3))] M (fun rs => rs = .inl (some (.int v50), mrow M 72 r51)) := by
      have q9 := c_k_walks_54 z (d + 5) M (ix x2) (ix x3) nt hnt ct k45 k47
      try simp only [mput, mrow_same, mrow_hit, mrow_miss, mrow_sw, idr_eq, ne_eq, Nat.reduceEqDiff, not_false_eq_true, Nat.reduceLT, reduceCtorEq, g49] at q9
      exact q9
    refine G.callV (as := [.int (nI (ix x2)), .int (nI (ix x3))]) (rest := []) (a := 54) oX12_walks lk_EvenFindersModel_365 (by decide +kernel) rfl rfl ⟨rfl, rfl⟩ (Nat.le_of_ble_eq_true rfl) rfl ⟨Nat.le_of_ble_eq_true rfl, Nat.le_of_ble_eq_true rfl⟩ t52 (fun v9 N9 h53 => ?_) (fun E9 N9 h53 => by cases h53)
    cases h53
    show G z mX12_isDone (d + 6) 0 0 10 [some (.ref 54), some (.int x1), some (.int x2), some (.int x3)] [.int v50] (mrow M 72 r51) Q
    refine G.mem (M' := mrow (mrow (mrow M 67 (M.1 67)) 68 (M.1 68)) 72 r51) ((((mrow_id (N := mrow M 72 r51) (c := 67) (f := M.1 67) (by first | rfl | (simp only [mput, mrow_same, mrow_hit, mrow_miss, mrow_sw, idr_eq, ne_eq, Nat.reduceEqDiff, not_false_eq_true, Nat.reduceLT, reduceCtorEq]; done))).symm).trans (mrow_id (N := mrow (mrow M 72 r51) 67 (M.1 67)) (c := 68) (f := M.1 68) (by first | rfl | (simp only [mput, mrow_same, mrow_hit, mrow_miss, mrow_sw, idr_eq, ne_eq, Nat.reduceEqDiff, not_false_eq_true, Nat.reduceLT, reduceCtorEq]; done))).symm).trans (by first | rfl | (simp only [mput, mrow_same, mrow_hit, mrow_miss, mrow_sw, idr_eq, ne_eq, Nat.reduceEqDiff, not_false_eq_true, Nat.reduceLT, reduceCtorEq]; done))) ?_
    exact G.reti (by decide +kernel) rfl (nar01 ev50) (Nat.le_of_ble_eq_true rfl) (Nat.le_of_ble_eq_true rfl) ((by rw [hQ]; simp only [k_isDone, if_pos c1, g49, mrow_self]))
set_option maxHeartbeats 4000000 in
set_option maxRecDepth 3000 in
theorem lp_k_goesSteps_54_st_50 (z : Zp) (d : Nat) (M : Mem) (Q : Rs → Prop) (x2 : Int32) (x3 : Int32) (x4 : Int32) (fz : (Nat → Int32) → (Nat → Int32) → (Nat → Int32) → (Nat → Int32) → (Nat → Int32) → (Nat → Int32) → (Nat → Int32) → (Nat → Int32) → (Nat → Int32) → Int32 → Int32 → Int32 × (Nat → Int32) × (Nat → Int32) × (Nat → Int32) × (Nat → Int32)) (gz : (Nat → Int32) → (Nat → Int32) → (Nat → Int32) → (Nat → Int32) → (Nat → Int32) → (Nat → Int32) → (Nat → Int32) → (Nat → Int32) → (Nat → Int32) → Int32 → Int32 → Prop) (Hz : ∀ (j : Nat) (M : Mem) (x1 : Int32) (x2 : Int32), gz (M.1 54) (M.1 60) (M.1 61) (M.1 65) (M.1 66) (M.1 67) (M.1 68) (M.1 70) (M.1 72) x1 x2 → GM z mX12_goesSteps (d + j) [.ref 54, .int x1, .int x2] M (fun rs => rs = .inl (none, mrow (mrow (mrow (mrow M 54 ((fz (M.1 54) (M.1 60) (M.1 61) (M.1 65) (M.1 66) (M.1 67) (M.1 68) (M.1 70) (M.1 72) x1 x2).2.1)) 67 ((fz (M.1 54) (M.1 60) (M.1 61) (M.1 65) (M.1 66) (M.1 67) (M.1 68) (M.1 70) (M.1 72) x1 x2).2.2.1)) 68 ((fz (M.1 54) (M.1 60) (M.1 61) (M.1 65) (M.1 66) (M.1 67) (M.1 68) (M.1 70) (M.1 72) x1 x2).2.2.2.1)) 72 ((fz (M.1 54) (M.1 60) (M.1 61) (M.1 65) (M.1 66) (M.1 67) (M.1 68) (M.1 70) (M.1 72) x1 x2).2.2.2.2)))) : ∀ (k0 : Nat) (s5 : Int32) (q54 : (Nat → Int32)) (q67 : (Nat → Int32)) (q68 : (Nat → Int32)) (q72 : (Nat → Int32)), k_goesSteps_st_50_ok fz gz (M.1 60) (M.1 61) (M.1 65) (M.1 66) (M.1 70) x2 x3 x4 k0 s5 q54 q67 q68 q72 → (match k_goesSteps_st_50 fz (M.1 60) (M.1 61) (M.1 65) (M.1 66) (M.1 70) x2 x3 x4 k0 s5 q54 q67 q68 q72 with | (s5', q54', q67', q68', q72') => G z mX12_goesSteps (d + 7) 0 0 88 [some (.ref 54), none, some (.int x2), none, some (.int x4), none] [] (mrow (mrow (mrow (mrow M 54 (q54')) 67 (q67')) 68 (q68')) 72 (q72')) Q) → G z mX12_goesSteps (d + 7) 0 0 50 [some (.ref 54), none, some (.int x2), some (.int x3), some (.int x4), some (.int s5)] [] (mrow (mrow (mrow (mrow M 54 q54) 67 q67) 68 q68) 72 q72) Q := by
  intro k0
  induction k0 with
  | zero =>
      intro s5 q54 q67 q68 q72 hk hX
      exact (by simpa only [k_goesSteps_st_50_ok] using hk : False).elim
  | succ k0 ih =>
      intro s5 q54 q67 q68 q72 hk hX
      simp only [k_goesSteps_st_50_ok] at hk
      obtain ⟨k22, k23, hk⟩ := hk
      refine G.sl [(.iload 5, 2, 5, 0, 0, 0), (.aload_n 0, 1, 0, 0, 0, 0), (.getfield 62, 3, 11, 33, 156, 0), (.iload_n 3, 1, 3, 0, 0, 0), (.iconst 1, 1, 0, 0, 0, nI 1), (.iadd, 1, 0, 0, 0, 0), (.iaload, 1, 0, 0, 0, 0)] [(ix x3) + 1] (pc2 := 60) (ls2 := [some (.ref 54), none, some (.int x2), some (.int x3), some (.int x4), some (.int s5)]) (st2 := [.int (M.1 70 ((ix x3) + 1)), .int s5]) (M2 := mrow (mrow (mrow (mrow M 54 q54) 67 q67) 68 q68) 72 q72) (Ps := [(x3 + (nI 1)) = nI ((ix x3) + 1) ∧ ((ix x3) + 1) < 150]) (by decide +kernel) rfl rfl ⟨⟨(nAdd (ixE k22) rfl), k23⟩, trivial⟩ ?_
      refine G.ic_ge (off := (28)) (tgt := 88) (by decide +kernel) rfl (fun c24 => ?_) (fun c24 => ?_)
      · skip
        rw [if_pos c24] at hk
        refine G.loc (ls2 := [some (.ref 54), none, some (.int x2), none, some (.int x4), none]) (by simp [subL]) ?_
        simp only [k_goesSteps_st_50, if_pos c24] at hX
        exact hX
      · skip
        rw [if_neg c24] at hk
        refine G.sl [(.aload_n 0, 1, 0, 0, 0, 0), (.getfield 323, 3, 11, 37, 160, 0), (.sipush 200, 3, 0, 0, 0, nI 200)] [] (pc2 := 70) (ls2 := [some (.ref 54), none, some (.int x2), some (.int x3), some (.int x4), some (.int s5)]) (st2 := [.int (nI 200), .int (q54 37)]) (M2 := mrow (mrow (mrow (mrow M 54 q54) 67 q67) 68 q68) 72 q72) (Ps := []) (by decide +kernel) rfl rfl trivial ?_
        refine G.ic_ge (off := (18)) (tgt := 88) (by decide +kernel) rfl (fun c25 => ?_) (fun c25 => ?_)
        · skip
          rw [if_pos c25] at hk
          refine G.loc (ls2 := [some (.ref 54), none, some (.int x2), none, some (.int x4), none]) (by simp [subL]) ?_
          simp only [k_goesSteps_st_50, if_neg c24, if_pos c25] at hX
          exact hX
        · skip
          rw [if_neg c25] at hk
          refine G.sl [(.aload_n 0, 1, 0, 0, 0, 0), (.iload_n 3, 1, 3, 0, 0, 0), (.iconst 3, 1, 0, 0, 0, nI 3), (.iadd, 1, 0, 0, 0, 0), (.iload 4, 2, 4, 0, 0, 0)] [] (pc2 := 79) (ls2 := [some (.ref 54), none, some (.int x2), some (.int x3), some (.int x4), some (.int s5)]) (st2 := [.int x4, .int (x3 + (nI 3)), .ref 54]) (M2 := mrow (mrow (mrow (mrow M 54 q54) 67 q67) 68 q68) 72 q72) (Ps := []) (by decide +kernel) rfl rfl trivial ?_
          obtain ⟨k26, hk⟩ := hk
          rcases g27 : fz q54 (M.1 60) (M.1 61) (M.1 65) (M.1 66) q67 q68 (M.1 70) q72 (x3 + (nI 3)) x4 with ⟨u28, r29, r30, r31, r32⟩
          try simp only [g27] at hk
          have t33 : GM z mX12_goesSteps (d + 6) [.ref 54, .int (x3 + (nI 3)), .int x4] (mrow (mrow (mrow (mrow M 54 q54) 67 q67) 68 q68) 72 q72) (fun rs => rs = .inl (none, mrow (mrow (mrow (mrow M 54 r29) 67 r30) 68 r31) 72 r32)) := by
            have q9 := Hz 6 (mrow (mrow (mrow (mrow M 54 q54) 67 q67) 68 q68) 72 q72) (x3 + (nI 3)) x4
            try simp only [mput, mrow_same, mrow_hit, mrow_miss, mrow_sw, idr_eq, ne_eq, Nat.reduceEqDiff, not_false_eq_true, Nat.reduceLT, reduceCtorEq, g27] at q9
            exact q9 (by first | exact k26 | (simp only [mput, mrow_same, mrow_hit, mrow_miss, mrow_sw, idr_eq, ne_eq, Nat.reduceEqDiff, not_false_eq_true, Nat.reduceLT, reduceCtorEq]; exact k26))
          refine G.callV (as := [.int (x3 + (nI 3)), .int x4]) (rest := []) (a := 54) oX12_goesSteps lk_EvenFindersModel_332 (by decide +kernel) rfl rfl ⟨rfl, rfl⟩ (Nat.le_of_ble_eq_true rfl) rfl ⟨Nat.le_of_ble_eq_true rfl, Nat.le_of_ble_eq_true rfl⟩ t33 (fun v9 N9 h34 => ?_) (fun E9 N9 h34 => by cases h34)
          cases h34
          show G z mX12_goesSteps (d + 7) 0 0 82 [some (.ref 54), none, some (.int x2), some (.int x3), some (.int x4), some (.int s5)] [] (mrow (mrow (mrow (mrow M 54 r29) 67 r30) 68 r31) 72 r32) Q
          refine G.sl [(.iinc 5 1, 3, 5, 0, 0, nI 1), (.goto (-35), 3, 50, 0, 0, 0)] [] (pc2 := 50) (ls2 := [some (.ref 54), none, some (.int x2), some (.int x3), some (.int x4), some (.int (s5 + nI 1))]) (st2 := []) (M2 := mrow (mrow (mrow (mrow M 54 r29) 67 r30) 68 r31) 72 r32) (Ps := []) (by decide +kernel) rfl rfl trivial ?_
          simp only [k_goesSteps_st_50, if_neg c24, if_neg c25, g27] at hX
          exact ih (s5 + nI 1) r29 r30 r31 r32 hk hX
set_option maxHeartbeats 4000000 in
set_option maxRecDepth 3000 in
theorem lp_k_goesSteps_54_st_2 (z : Zp) (d : Nat) (M : Mem) (Q : Rs → Prop) (x2 : Int32) (fz : (Nat → Int32) → (Nat → Int32) → (Nat → Int32) → (Nat → Int32) → (Nat → Int32) → (Nat → Int32) → (Nat → Int32) → (Nat → Int32) → (Nat → Int32) → Int32 → Int32 → Int32 × (Nat → Int32) × (Nat → Int32) × (Nat → Int32) × (Nat → Int32)) (gz : (Nat → Int32) → (Nat → Int32) → (Nat → Int32) → (Nat → Int32) → (Nat → Int32) → (Nat → Int32) → (Nat → Int32) → (Nat → Int32) → (Nat → Int32) → Int32 → Int32 → Prop) (Hz : ∀ (j : Nat) (M : Mem) (x1 : Int32) (x2 : Int32), gz (M.1 54) (M.1 60) (M.1 61) (M.1 65) (M.1 66) (M.1 67) (M.1 68) (M.1 70) (M.1 72) x1 x2 → GM z mX12_goesSteps (d + j) [.ref 54, .int x1, .int x2] M (fun rs => rs = .inl (none, mrow (mrow (mrow (mrow M 54 ((fz (M.1 54) (M.1 60) (M.1 61) (M.1 65) (M.1 66) (M.1 67) (M.1 68) (M.1 70) (M.1 72) x1 x2).2.1)) 67 ((fz (M.1 54) (M.1 60) (M.1 61) (M.1 65) (M.1 66) (M.1 67) (M.1 68) (M.1 70) (M.1 72) x1 x2).2.2.1)) 68 ((fz (M.1 54) (M.1 60) (M.1 61) (M.1 65) (M.1 66) (M.1 67) (M.1 68) (M.1 70) (M.1 72) x1 x2).2.2.2.1)) 72 ((fz (M.1 54) (M.1 60) (M.1 61) (M.1 65) (M.1 66) (M.1 67) (M.1 68) (M.1 70) (M.1 72) x1 x2).2.2.2.2)))) : ∀ (k0 : Nat) (s3 : Int32) (q54 : (Nat → Int32)) (q67 : (Nat → Int32)) (q68 : (Nat → Int32)) (q72 : (Nat → Int32)), k_goesSteps_st_2_ok fz gz (M.1 60) (M.1 61) (M.1 65) (M.1 66) (M.1 70) x2 k0 s3 q54 q67 q68 q72 → (match k_goesSteps_st_2 fz (M.1 60) (M.1 61) (M.1 65) (M.1 66) (M.1 70) x2 k0 s3 q54 q67 q68 q72 with | (s3', q54', q67', q68', q72') => G z mX12_goesSteps (d + 7) 0 0 152 [none, none, none, none, none, none] [] (mrow (mrow (mrow (mrow M 54 (q54')) 67 (q67')) 68 (q68')) 72 (q72')) Q) → G z mX12_goesSteps (d + 7) 0 0 2 [some (.ref 54), none, some (.int x2), some (.int s3), none, none] [] (mrow (mrow (mrow (mrow M 54 q54) 67 q67) 68 q68) 72 q72) Q := by
  intro k0
  induction k0 with
  | zero =>
      intro s3 q54 q67 q68 q72 hk hX
      exact (by simpa only [k_goesSteps_st_2_ok] using hk : False).elim
  | succ k0 ih =>
      intro s3 q54 q67 q68 q72 hk hX
      simp only [k_goesSteps_st_2_ok] at hk
      refine G.sl [(.iload_n 3, 1, 3, 0, 0, 0), (.iload_n 2, 1, 2, 0, 0, 0)] [] (pc2 := 4) (ls2 := [some (.ref 54), none, some (.int x2), some (.int s3), none, none]) (st2 := [.int x2, .int s3]) (M2 := mrow (mrow (mrow (mrow M 54 q54) 67 q67) 68 q68) 72 q72) (Ps := []) (by decide +kernel) rfl rfl trivial ?_
      refine G.ic_ge (off := (148)) (tgt := 152) (by decide +kernel) rfl (fun c1 => ?_) (fun c1 => ?_)
      · skip
        rw [if_pos c1] at hk
        refine G.loc (ls2 := [none, none, none, none, none, none]) (by simp [subL]) ?_
        simp only [k_goesSteps_st_2, if_pos c1] at hX
        exact hX
      · skip
        rw [if_neg c1] at hk
        refine G.sl [(.aload_n 0, 1, 0, 0, 0, 0), (.getfield 323, 3, 11, 37, 160, 0), (.sipush 200, 3, 0, 0, 0, nI 200)] [] (pc2 := 14) (ls2 := [some (.ref 54), none, some (.int x2), some (.int s3), none, none]) (st2 := [.int (nI 200), .int (q54 37)]) (M2 := mrow (mrow (mrow (mrow M 54 q54) 67 q67) 68 q68) 72 q72) (Ps := []) (by decide +kernel) rfl rfl trivial ?_
        refine G.ic_ge (off := (138)) (tgt := 152) (by decide +kernel) rfl (fun c2 => ?_) (fun c2 => ?_)
        · skip
          rw [if_pos c2] at hk
          refine G.loc (ls2 := [none, none, none, none, none, none]) (by simp [subL]) ?_
          simp only [k_goesSteps_st_2, if_neg c1, if_pos c2] at hX
          exact hX
        · skip
          rw [if_neg c2] at hk
          obtain ⟨k3, k4, hk⟩ := hk
          refine G.sl [(.aload_n 0, 1, 0, 0, 0, 0), (.dup, 1, 0, 0, 0, 0), (.getfield 323, 3, 11, 37, 160, 0), (.iconst 1, 1, 0, 0, 0, nI 1), (.iadd, 1, 0, 0, 0, 0), (.putfield 323, 3, 11, 37, 160, 0), (.aload_n 0, 1, 0, 0, 0, 0), (.getfield 62, 3, 11, 33, 156, 0), (.iload_n 3, 1, 3, 0, 0, 0), (.iaload, 1, 0, 0, 0, 0), (.iconst 5, 1, 0, 0, 0, nI 5)] [ix s3] (pc2 := 34) (ls2 := [some (.ref 54), none, some (.int x2), some (.int s3), none, none]) (st2 := [.int (nI 5), .int (M.1 70 (ix s3))]) (M2 := mput (mrow (mrow (mrow (mrow M 54 q54) 67 q67) 68 q68) 72 q72) 54 37 ((q54 37) + (nI 1))) (Ps := [s3 = nI (ix s3) ∧ (ix s3) < 150]) (by decide +kernel) rfl rfl ⟨⟨(ixE k3), k4⟩, trivial⟩ ?_
          refine G.mem (M' := mrow (mrow (mrow (mrow M 54 (upd q54 37 ((q54 37) + (nI 1)))) 67 q67) 68 q68) 72 q72) (by first | rfl | (simp only [mput, mrow_same, mrow_hit, mrow_miss, mrow_sw, idr_eq, ne_eq, Nat.reduceEqDiff, not_false_eq_true, Nat.reduceLT, reduceCtorEq]; done)) ?_
          refine G.ic_ne (off := (60)) (tgt := 94) (by decide +kernel) rfl (fun c5 => ?_) (fun c5 => ?_)
          · skip
            rw [if_neg c5] at hk
            obtain ⟨k6, k7, hk⟩ := hk
            refine G.sl [(.aload_n 0, 1, 0, 0, 0, 0), (.aload_n 0, 1, 0, 0, 0, 0), (.getfield 62, 3, 11, 33, 156, 0), (.iload_n 3, 1, 3, 0, 0, 0), (.iaload, 1, 0, 0, 0, 0), (.aload_n 0, 1, 0, 0, 0, 0), (.getfield 62, 3, 11, 33, 156, 0), (.iload_n 3, 1, 3, 0, 0, 0), (.iconst 1, 1, 0, 0, 0, nI 1), (.iadd, 1, 0, 0, 0, 0), (.iaload, 1, 0, 0, 0, 0), (.aload_n 0, 1, 0, 0, 0, 0), (.getfield 62, 3, 11, 33, 156, 0), (.iload_n 3, 1, 3, 0, 0, 0), (.iconst 2, 1, 0, 0, 0, nI 2), (.iadd, 1, 0, 0, 0, 0), (.iaload, 1, 0, 0, 0, 0)] [ix s3, (ix s3) + 1, (ix s3) + 2] (pc2 := 117) (ls2 := [some (.ref 54), none, some (.int x2), some (.int s3), none, none]) (st2 := [.int (M.1 70 ((ix s3) + 2)), .int (M.1 70 ((ix s3) + 1)), .int (M.1 70 (ix s3)), .ref 54]) (M2 := mrow (mrow (mrow (mrow M 54 (upd q54 37 ((q54 37) + (nI 1)))) 67 q67) 68 q68) 72 q72) (Ps := [s3 = nI (ix s3) ∧ (ix s3) < 150, (s3 + (nI 1)) = nI ((ix s3) + 1) ∧ ((ix s3) + 1) < 150, (s3 + (nI 2)) = nI ((ix s3) + 2) ∧ ((ix s3) + 2) < 150]) (by decide +kernel) rfl rfl ⟨⟨(ixE k3), k4⟩, ⟨(nAdd (ixE k3) rfl), k6⟩, ⟨(nAdd (ixE k3) rfl), k7⟩, trivial⟩ ?_
            obtain ⟨k8, k9, k10, k11, hk⟩ := hk
            obtain ⟨k12, hk⟩ := hk
            rcases g13 : k_isDone (upd q54 37 ((q54 37) + (nI 1))) (M.1 60) (M.1 61) (M.1 65) (M.1 66) q67 q68 q72 (ix (q54 22)) (ix (q54 23)) (M.1 70 (ix s3)) (M.1 70 ((ix s3) + 1)) (M.1 70 ((ix s3) + 2)) with ⟨v14, r15, r16, r17⟩
            try simp only [g13] at hk
            have ev14 : v14 = 0 ∨ v14 = 1 := by
              have q9 := k_isDone_01 (upd q54 37 ((q54 37) + (nI 1))) (M.1 60) (M.1 61) (M.1 65) (M.1 66) q67 q68 q72 (ix (q54 22)) (ix (q54 23)) (M.1 70 (ix s3)) (M.1 70 ((ix s3) + 1)) (M.1 70 ((ix s3) + 2))
              rw [g13] at q9
              exact q9
            have t18 : GM z mX12_isDone (d + 6) [.ref 54, .int (M.1 70 (ix s3)), .int (M.1 70 ((ix s3) + 1)), .int (M.1 70 ((ix s3) + 2))] (mrow (mrow (mrow (mrow M 54 (upd q54 37 ((q54 37) + (nI 1)))) 67 q67) 68 q68) 72 q72) (fun rs => rs = .inl (some (.int v14), mrow (mrow (mrow (mrow M 54 (upd q54 37 ((q54 37) + (nI 1)))) 67 r15) 68 r16) 72 r17)) := by
              have q9 := c_k_isDone_54 z d (mrow (mrow (mrow (mrow M 54 (upd q54 37 ((q54 37) + (nI 1)))) 67 q67) 68 q68) 72 q72) (M.1 70 (ix s3)) (M.1 70 ((ix s3) + 1)) (M.1 70 ((ix s3) + 2)) (ix (q54 22)) k9 (ixE k8) (ix (q54 23)) k11 (ixE k10) k12
              try simp only [mput, mrow_same, mrow_hit, mrow_miss, mrow_sw, idr_eq, ne_eq, Nat.reduceEqDiff, not_false_eq_true, Nat.reduceLT, reduceCtorEq, g13] at q9
              exact q9
            refine G.callV (as := [.int (M.1 70 (ix s3)), .int (M.1 70 ((ix s3) + 1)), .int (M.1 70 ((ix s3) + 2))]) (rest := []) (a := 54) oX12_isDone lk_EvenFindersModel_335 (by decide +kernel) rfl rfl ⟨rfl, rfl⟩ (Nat.le_of_ble_eq_true rfl) rfl ⟨Nat.le_of_ble_eq_true rfl, Nat.le_of_ble_eq_true rfl⟩ t18 (fun v9 N9 h19 => ?_) (fun E9 N9 h19 => by cases h19)
            cases h19
            show G z mX12_goesSteps (d + 7) 0 0 120 [some (.ref 54), none, some (.int x2), some (.int s3), none, none] [.int v14] (mrow (mrow (mrow (mrow M 54 (upd q54 37 ((q54 37) + (nI 1)))) 67 r15) 68 r16) 72 r17) Q
            refine G.if_eq (off := (16)) (tgt := 136) (by decide +kernel) rfl (fun c20 => ?_) (fun c20 => ?_)
            · skip
              rw [if_pos c20] at hk
              refine G.sl [(.aload_n 0, 1, 0, 0, 0, 0), (.dup, 1, 0, 0, 0, 0), (.getfield 329, 3, 11, 39, 162, 0), (.iconst 1, 1, 0, 0, 0, nI 1), (.iadd, 1, 0, 0, 0, 0), (.putfield 329, 3, 11, 39, 162, 0), (.iinc 3 3, 3, 3, 0, 0, nI 3), (.goto (-147), 3, 2, 0, 0, 0)] [] (pc2 := 2) (ls2 := [some (.ref 54), none, some (.int x2), some (.int (s3 + nI 3)), none, none]) (st2 := []) (M2 := mput (mrow (mrow (mrow (mrow M 54 (upd q54 37 ((q54 37) + (nI 1)))) 67 r15) 68 r16) 72 r17) 54 39 ((q54 39) + (nI 1))) (Ps := []) (by decide +kernel) rfl rfl trivial ?_
              refine G.mem (M' := mrow (mrow (mrow (mrow M 54 (upd (upd q54 37 ((q54 37) + (nI 1))) 39 ((q54 39) + (nI 1)))) 67 r15) 68 r16) 72 r17) (by first | rfl | (simp only [mput, mrow_same, mrow_hit, mrow_miss, mrow_sw, idr_eq, ne_eq, Nat.reduceEqDiff, not_false_eq_true, Nat.reduceLT, reduceCtorEq]; done)) ?_
              simp only [k_goesSteps_st_2, if_neg c1, if_neg c2, if_neg c5, g13, if_pos c20] at hX
              exact ih (s3 + nI 3) (upd (upd q54 37 ((q54 37) + (nI 1))) 39 ((q54 39) + (nI 1))) r15 r16 r17 hk hX
            · skip
              rw [if_neg c20] at hk
              refine G.sl [(.aload_n 0, 1, 0, 0, 0, 0), (.dup, 1, 0, 0, 0, 0), (.getfield 326, 3, 11, 38, 161, 0), (.iconst 1, 1, 0, 0, 0, nI 1), (.iadd, 1, 0, 0, 0, 0), (.putfield 326, 3, 11, 38, 161, 0), (.goto 13, 3, 146, 0, 0, 0), (.iinc 3 3, 3, 3, 0, 0, nI 3), (.goto (-147), 3, 2, 0, 0, 0)] [] (pc2 := 2) (ls2 := [some (.ref 54), none, some (.int x2), some (.int (s3 + nI 3)), none, none]) (st2 := []) (M2 := mput (mrow (mrow (mrow (mrow M 54 (upd q54 37 ((q54 37) + (nI 1)))) 67 r15) 68 r16) 72 r17) 54 38 ((q54 38) + (nI 1))) (Ps := []) (by decide +kernel) rfl rfl trivial ?_
              refine G.mem (M' := mrow (mrow (mrow (mrow M 54 (upd (upd q54 37 ((q54 37) + (nI 1))) 38 ((q54 38) + (nI 1)))) 67 r15) 68 r16) 72 r17) (by first | rfl | (simp only [mput, mrow_same, mrow_hit, mrow_miss, mrow_sw, idr_eq, ne_eq, Nat.reduceEqDiff, not_false_eq_true, Nat.reduceLT, reduceCtorEq]; done)) ?_
              simp only [k_goesSteps_st_2, if_neg c1, if_neg c2, if_neg c5, g13, if_neg c20] at hX
              exact ih (s3 + nI 3) (upd (upd q54 37 ((q54 37) + (nI 1))) 38 ((q54 38) + (nI 1))) r15 r16 r17 hk hX
          · skip
            rw [if_pos c5] at hk
            obtain ⟨k21, hk⟩ := hk
            refine G.sl [(.aload_n 0, 1, 0, 0, 0, 0), (.getfield 62, 3, 11, 33, 156, 0), (.iload_n 3, 1, 3, 0, 0, 0), (.iconst 2, 1, 0, 0, 0, nI 2), (.iadd, 1, 0, 0, 0, 0), (.iaload, 1, 0, 0, 0, 0), (.istore 4, 2, 4, 0, 0, 0), (.iconst 0, 1, 0, 0, 0, nI 0), (.istore 5, 2, 5, 0, 0, 0)] [(ix s3) + 2] (pc2 := 50) (ls2 := [some (.ref 54), none, some (.int x2), some (.int s3), some (.int (M.1 70 ((ix s3) + 2))), some (.int (nI 0))]) (st2 := []) (M2 := mrow (mrow (mrow (mrow M 54 (upd q54 37 ((q54 37) + (nI 1)))) 67 q67) 68 q68) 72 q72) (Ps := [(s3 + (nI 2)) = nI ((ix s3) + 2) ∧ ((ix s3) + 2) < 150]) (by decide +kernel) rfl rfl ⟨⟨(nAdd (ixE k3) rfl), k21⟩, trivial⟩ ?_
            obtain ⟨k35, hk⟩ := hk
            refine G.mem (M' := mrow (mrow (mrow (mrow (mrow (mrow (mrow (mrow M 54 (upd q54 37 ((q54 37) + (nI 1)))) 67 q67) 68 q68) 72 q72) 54 ((mrow (mrow (mrow (mrow M 54 (upd q54 37 ((q54 37) + (nI 1)))) 67 q67) 68 q68) 72 q72).1 54)) 67 ((mrow (mrow (mrow (mrow M 54 (upd q54 37 ((q54 37) + (nI 1)))) 67 q67) 68 q68) 72 q72).1 67)) 68 ((mrow (mrow (mrow (mrow M 54 (upd q54 37 ((q54 37) + (nI 1)))) 67 q67) 68 q68) 72 q72).1 68)) 72 ((mrow (mrow (mrow (mrow M 54 (upd q54 37 ((q54 37) + (nI 1)))) 67 q67) 68 q68) 72 q72).1 72)) (by simp only [mrow_self]) ?_
            refine lp_k_goesSteps_54_st_50 z d (mrow (mrow (mrow (mrow M 54 (upd q54 37 ((q54 37) + (nI 1)))) 67 q67) 68 q68) 72 q72) Q x2 s3 (M.1 70 ((ix s3) + 2)) fz gz Hz FU (nI 0) ((mrow (mrow (mrow (mrow M 54 (upd q54 37 ((q54 37) + (nI 1)))) 67 q67) 68 q68) 72 q72).1 54) ((mrow (mrow (mrow (mrow M 54 (upd q54 37 ((q54 37) + (nI 1)))) 67 q67) 68 q68) 72 q72).1 67) ((mrow (mrow (mrow (mrow M 54 (upd q54 37 ((q54 37) + (nI 1)))) 67 q67) 68 q68) 72 q72).1 68) ((mrow (mrow (mrow (mrow M 54 (upd q54 37 ((q54 37) + (nI 1)))) 67 q67) 68 q68) 72 q72).1 72) (by first | (simp only [mput, mrow_same, mrow_hit, mrow_miss, mrow_sw, idr_eq, ne_eq, Nat.reduceEqDiff, not_false_eq_true, Nat.reduceLT, reduceCtorEq]; exact k35) | exact k35) ?_
            try simp only [mput, mrow_same, mrow_hit, mrow_miss, mrow_sw, idr_eq, ne_eq, Nat.reduceEqDiff, not_false_eq_true, Nat.reduceLT, reduceCtorEq]
            rcases g36 : k_goesSteps_st_50 fz (M.1 60) (M.1 61) (M.1 65) (M.1 66) (M.1 70) x2 s3 (M.1 70 ((ix s3) + 2)) FU (nI 0) (upd q54 37 ((q54 37) + (nI 1))) q67 q68 q72 with ⟨v37, r38, r39, r40, r41⟩
            try simp only [g36] at hk
            show G z mX12_goesSteps (d + 7) 0 0 88 [some (.ref 54), none, some (.int x2), none, some (.int (M.1 70 ((ix s3) + 2))), none] [] (mrow (mrow (mrow (mrow M 54 r38) 67 r39) 68 r40) 72 r41) Q
            refine G.sl [(.iload 4, 2, 4, 0, 0, 0), (.istore_n 3, 1, 3, 0, 0, 0), (.goto (-89), 3, 2, 0, 0, 0)] [] (pc2 := 2) (ls2 := [some (.ref 54), none, some (.int x2), some (.int (M.1 70 ((ix s3) + 2))), some (.int (M.1 70 ((ix s3) + 2))), none]) (st2 := []) (M2 := mrow (mrow (mrow (mrow M 54 r38) 67 r39) 68 r40) 72 r41) (Ps := []) (by decide +kernel) rfl rfl trivial ?_
            refine G.loc (ls2 := [some (.ref 54), none, some (.int x2), some (.int (M.1 70 ((ix s3) + 2))), none, none]) (by simp [subL]) ?_
            simp only [k_goesSteps_st_2, if_neg c1, if_neg c2, if_pos c5, g36] at hX
            exact ih (M.1 70 ((ix s3) + 2)) r38 r39 r40 r41 hk hX
set_option maxHeartbeats 4000000 in
set_option maxRecDepth 3000 in
theorem c_k_goesSteps_54_st (z : Zp) (d : Nat) (M : Mem) (x1 : Int32) (x2 : Int32) (fz : (Nat → Int32) → (Nat → Int32) → (Nat → Int32) → (Nat → Int32) → (Nat → Int32) → (Nat → Int32) → (Nat → Int32) → (Nat → Int32) → (Nat → Int32) → Int32 → Int32 → Int32 × (Nat → Int32) × (Nat → Int32) × (Nat → Int32) × (Nat → Int32)) (gz : (Nat → Int32) → (Nat → Int32) → (Nat → Int32) → (Nat → Int32) → (Nat → Int32) → (Nat → Int32) → (Nat → Int32) → (Nat → Int32) → (Nat → Int32) → Int32 → Int32 → Prop) (Hz : ∀ (j : Nat) (M : Mem) (x1 : Int32) (x2 : Int32), gz (M.1 54) (M.1 60) (M.1 61) (M.1 65) (M.1 66) (M.1 67) (M.1 68) (M.1 70) (M.1 72) x1 x2 → GM z mX12_goesSteps (d + j) [.ref 54, .int x1, .int x2] M (fun rs => rs = .inl (none, mrow (mrow (mrow (mrow M 54 ((fz (M.1 54) (M.1 60) (M.1 61) (M.1 65) (M.1 66) (M.1 67) (M.1 68) (M.1 70) (M.1 72) x1 x2).2.1)) 67 ((fz (M.1 54) (M.1 60) (M.1 61) (M.1 65) (M.1 66) (M.1 67) (M.1 68) (M.1 70) (M.1 72) x1 x2).2.2.1)) 68 ((fz (M.1 54) (M.1 60) (M.1 61) (M.1 65) (M.1 66) (M.1 67) (M.1 68) (M.1 70) (M.1 72) x1 x2).2.2.2.1)) 72 ((fz (M.1 54) (M.1 60) (M.1 61) (M.1 65) (M.1 66) (M.1 67) (M.1 68) (M.1 70) (M.1 72) x1 x2).2.2.2.2)))) (hk : k_goesSteps_st_ok fz gz (M.1 54) (M.1 60) (M.1 61) (M.1 65) (M.1 66) (M.1 67) (M.1 68) (M.1 70) (M.1 72) x1 x2) : GM z mX12_goesSteps (d + 7) [.ref 54, .int x1, .int x2] M (fun rs => rs = .inl (none, mrow (mrow (mrow (mrow M 54 ((k_goesSteps_st fz (M.1 54) (M.1 60) (M.1 61) (M.1 65) (M.1 66) (M.1 67) (M.1 68) (M.1 70) (M.1 72) x1 x2).2.1)) 67 ((k_goesSteps_st fz (M.1 54) (M.1 60) (M.1 61) (M.1 65) (M.1 66) (M.1 67) (M.1 68) (M.1 70) (M.1 72) x1 x2).2.2.1)) 68 ((k_goesSteps_st fz (M.1 54) (M.1 60) (M.1 61) (M.1 65) (M.1 66) (M.1 67) (M.1 68) (M.1 70) (M.1 72) x1 x2).2.2.2.1)) 72 ((k_goesSteps_st fz (M.1 54) (M.1 60) (M.1 61) (M.1 65) (M.1 66) (M.1 67) (M.1 68) (M.1 70) (M.1 72) x1 x2).2.2.2.2))) := by
  simp only [k_goesSteps_st_ok] at hk
  refine GM.of oX12_goesSteps.1 (Nat.le_of_ble_eq_true rfl) ?_
  show G z mX12_goesSteps (d + 7) 0 0 0 [some (.ref 54), some (.int x1), some (.int x2), none, none, none] [] M _
  obtain ⟨Q, hQ⟩ : ∃ Q : Rs → Prop, Q = (fun rs => rs = .inl (none, mrow (mrow (mrow (mrow M 54 ((k_goesSteps_st fz (M.1 54) (M.1 60) (M.1 61) (M.1 65) (M.1 66) (M.1 67) (M.1 68) (M.1 70) (M.1 72) x1 x2).2.1)) 67 ((k_goesSteps_st fz (M.1 54) (M.1 60) (M.1 61) (M.1 65) (M.1 66) (M.1 67) (M.1 68) (M.1 70) (M.1 72) x1 x2).2.2.1)) 68 ((k_goesSteps_st fz (M.1 54) (M.1 60) (M.1 61) (M.1 65) (M.1 66) (M.1 67) (M.1 68) (M.1 70) (M.1 72) x1 x2).2.2.2.1)) 72 ((k_goesSteps_st fz (M.1 54) (M.1 60) (M.1 61) (M.1 65) (M.1 66) (M.1 67) (M.1 68) (M.1 70) (M.1 72) x1 x2).2.2.2.2))) := ⟨_, rfl⟩
  rw [← hQ]
  refine G.sl [(.iload_n 1, 1, 1, 0, 0, 0), (.istore_n 3, 1, 3, 0, 0, 0)] [] (pc2 := 2) (ls2 := [some (.ref 54), some (.int x1), some (.int x2), some (.int x1), none, none]) (st2 := []) (M2 := M) (Ps := []) (by decide +kernel) rfl rfl trivial ?_
  refine G.loc (ls2 := [some (.ref 54), none, some (.int x2), some (.int x1), none, none]) (by simp [subL]) ?_
  obtain ⟨k42, hk⟩ := hk
  refine G.mem (M' := mrow (mrow (mrow (mrow M 54 (M.1 54)) 67 (M.1 67)) 68 (M.1 68)) 72 (M.1 72)) (by simp only [mrow_self]) ?_
  refine lp_k_goesSteps_54_st_2 z d M Q x2 fz gz Hz FU x1 (M.1 54) (M.1 67) (M.1 68) (M.1 72) (by first | (simp only [mput, mrow_same, mrow_hit, mrow_miss, mrow_sw, idr_eq, ne_eq, Nat.reduceEqDiff, not_false_eq_true, Nat.reduceLT, reduceCtorEq]; exact k42) | exact k42) ?_
  try simp only [mput, mrow_same, mrow_hit, mrow_miss, mrow_sw, idr_eq, ne_eq, Nat.reduceEqDiff, not_false_eq_true, Nat.reduceLT, reduceCtorEq]
  rcases g43 : k_goesSteps_st_2 fz (M.1 60) (M.1 61) (M.1 65) (M.1 66) (M.1 70) x2 FU x1 (M.1 54) (M.1 67) (M.1 68) (M.1 72) with ⟨v44, r45, r46, r47, r48⟩
  show G z mX12_goesSteps (d + 7) 0 0 152 [none, none, none, none, none, none] [] (mrow (mrow (mrow (mrow M 54 r45) 67 r46) 68 r47) 72 r48) Q
  exact G.retv (by decide +kernel) rfl (Nat.le_of_ble_eq_true rfl) (Nat.le_of_ble_eq_true rfl) ((by rw [hQ]; simp only [k_goesSteps_st, g43, mrow_self]))
theorem c_k_goesSteps_54_rec (z : Zp)  : ∀ (k0 d : Nat) (M : Mem) (x1 : Int32) (x2 : Int32), k_goesSteps_rec_ok k0 (M.1 54) (M.1 60) (M.1 61) (M.1 65) (M.1 66) (M.1 67) (M.1 68) (M.1 70) (M.1 72) x1 x2 → GM z mX12_goesSteps (d + 7 * k0) [.ref 54, .int x1, .int x2] M (fun rs => rs = .inl (none, mrow (mrow (mrow (mrow M 54 ((k_goesSteps_rec k0 (M.1 54) (M.1 60) (M.1 61) (M.1 65) (M.1 66) (M.1 67) (M.1 68) (M.1 70) (M.1 72) x1 x2).2.1)) 67 ((k_goesSteps_rec k0 (M.1 54) (M.1 60) (M.1 61) (M.1 65) (M.1 66) (M.1 67) (M.1 68) (M.1 70) (M.1 72) x1 x2).2.2.1)) 68 ((k_goesSteps_rec k0 (M.1 54) (M.1 60) (M.1 61) (M.1 65) (M.1 66) (M.1 67) (M.1 68) (M.1 70) (M.1 72) x1 x2).2.2.2.1)) 72 ((k_goesSteps_rec k0 (M.1 54) (M.1 60) (M.1 61) (M.1 65) (M.1 66) (M.1 67) (M.1 68) (M.1 70) (M.1 72) x1 x2).2.2.2.2))) := by
  intro k0
  induction k0 with
  | zero =>
    intro d M x1 x2  hk
    exact (by simpa only [k_goesSteps_rec_ok] using hk : False).elim
  | succ k0 ih =>
    intro d M x1 x2  hk
    have e9 : d + 7 * (k0 + 1) = (d + 7 * k0) + 7 := by omega
    rw [e9]
    simp only [k_goesSteps_rec_ok] at hk
    have q9 := c_k_goesSteps_54_st z (d + 7 * k0) M x1 x2  (k_goesSteps_rec k0) (k_goesSteps_rec_ok k0) (fun j M x1 x2  hk => by
      have q9 := ih (d + j) M x1 x2  hk
      rw [show d + j + 7 * k0 = d + 7 * k0 + j by omega] at q9
      exact q9)  hk
    simp only [k_goesSteps_rec]
    exact q9
theorem c_k_goesSteps_54 (z : Zp) (d : Nat) (M : Mem) (x1 : Int32) (x2 : Int32)  (hk : k_goesSteps_ok (M.1 54) (M.1 60) (M.1 61) (M.1 65) (M.1 66) (M.1 67) (M.1 68) (M.1 70) (M.1 72) x1 x2) : GM z mX12_goesSteps (d + 70) [.ref 54, .int x1, .int x2] M (fun rs => rs = .inl (none, mrow (mrow (mrow (mrow M 54 ((k_goesSteps (M.1 54) (M.1 60) (M.1 61) (M.1 65) (M.1 66) (M.1 67) (M.1 68) (M.1 70) (M.1 72) x1 x2).2.1)) 67 ((k_goesSteps (M.1 54) (M.1 60) (M.1 61) (M.1 65) (M.1 66) (M.1 67) (M.1 68) (M.1 70) (M.1 72) x1 x2).2.2.1)) 68 ((k_goesSteps (M.1 54) (M.1 60) (M.1 61) (M.1 65) (M.1 66) (M.1 67) (M.1 68) (M.1 70) (M.1 72) x1 x2).2.2.2.1)) 72 ((k_goesSteps (M.1 54) (M.1 60) (M.1 61) (M.1 65) (M.1 66) (M.1 67) (M.1 68) (M.1 70) (M.1 72) x1 x2).2.2.2.2))) := by
  have q9 := c_k_goesSteps_54_rec z  10 d M x1 x2  hk
  exact q9
set_option maxHeartbeats 4000000 in
set_option maxRecDepth 3000 in
theorem lp_k_copies_L51_L51_54_72_71_3 (z : Zp) (d : Nat) (M : Mem) (Q : Rs → Prop) (n3 : Nat) (b3 : n3 < 3000) (hk : ∀ i4, i4 < n3 → k_copies_L51_L51_3_ok (M.1 72) (M.1 71) n3 i4) (hX : G z mX12_copies (d) 0 0 23 [none, none, none, none, none] [] (mrow M 71 (k_copies_L51_L51_3 (M.1 72) (M.1 71) n3 n3)) Q) : G z mX12_copies (d) 0 0 3 [none, some (.ref 72), some (.ref 71), some (.int (nI n3)), some (.int (nI 0))] [] M Q := by
  refine G.mem (M' := mrow M 71 (M.1 71)) (by simp only [mrow_self]) ?_
  refine down (n := n3) (P := fun i4 => G z mX12_copies (d) 0 0 3 [none, some (.ref 72), some (.ref 71), some (.int (nI n3)), some (.int (nI i4))] [] (mrow M 71 (k_copies_L51_L51_3 (M.1 72) (M.1 71) n3 i4)) Q) ?_ ?_ 0 (Nat.zero_le _)
  · skip
    refine G.sl [(.iload 4, 2, 4, 0, 0, 0), (.iload_n 3, 1, 3, 0, 0, 0)] [] (pc2 := 6) (ls2 := [none, some (.ref 72), some (.ref 71), some (.int (nI n3)), some (.int (nI n3))]) (st2 := [.int (nI n3), .int (nI n3)]) (M2 := mrow M 71 (k_copies_L51_L51_3 (M.1 72) (M.1 71) n3 n3)) (Ps := []) (by decide +kernel) rfl rfl trivial ?_
    refine G.ic_ge (off := (17)) (tgt := 23) (by decide +kernel) rfl (fun _ => ?_) (fun h9 => absurd (nI_le (by omega) (by omega)) h9)
    refine G.loc (ls2 := [none, none, none, none, none]) (by simp [subL]) ?_
    exact hX
  · skip
    intro i4 hi ih
    have hk := hk i4 hi
    simp only [k_copies_L51_L51_3_ok] at hk
    show G z mX12_copies (d) 0 0 3 [none, some (.ref 72), some (.ref 71), some (.int (nI n3)), some (.int (nI i4))] [] (mrow M 71 (k_copies_L51_L51_3 (M.1 72) (M.1 71) n3 i4)) Q
    refine G.sl [(.iload 4, 2, 4, 0, 0, 0), (.iload_n 3, 1, 3, 0, 0, 0)] [] (pc2 := 6) (ls2 := [none, some (.ref 72), some (.ref 71), some (.int (nI n3)), some (.int (nI i4))]) (st2 := [.int (nI n3), .int (nI i4)]) (M2 := mrow M 71 (k_copies_L51_L51_3 (M.1 72) (M.1 71) n3 i4)) (Ps := []) (by decide +kernel) rfl rfl trivial ?_
    refine G.ic_ge (off := (17)) (tgt := 23) (by decide +kernel) rfl (fun h9 => absurd h9 (nI_ge (by omega) (by omega))) (fun _ => ?_)
    obtain ⟨k1, hk⟩ := hk
    refine G.sl [(.aload_n 2, 1, 2, 0, 0, 0), (.iload 4, 2, 4, 0, 0, 0), (.aload_n 1, 1, 1, 0, 0, 0), (.iload 4, 2, 4, 0, 0, 0), (.iaload, 1, 0, 0, 0, 0), (.iastore, 1, 0, 0, 0, 0), (.iinc 4 1, 3, 4, 0, 0, nI 1), (.goto (-17), 3, 3, 0, 0, 0)] [i4, i4] (pc2 := 3) (ls2 := [none, some (.ref 72), some (.ref 71), some (.int (nI n3)), some (.int ((nI i4) + nI 1))]) (st2 := []) (M2 := mput (mrow M 71 (k_copies_L51_L51_3 (M.1 72) (M.1 71) n3 i4)) 71 i4 (M.1 72 i4)) (Ps := [(nI i4) = nI i4 ∧ i4 < 51, (nI i4) = nI i4 ∧ i4 < 51]) (by decide +kernel) rfl rfl ⟨⟨rfl, k1⟩, ⟨rfl, k1⟩, trivial⟩ ?_
    refine G.mem (M' := mrow M 71 (upd (k_copies_L51_L51_3 (M.1 72) (M.1 71) n3 i4) i4 (M.1 72 i4))) (by first | rfl | (simp only [mput, mrow_same, mrow_hit, mrow_miss, mrow_sw, idr_eq, ne_eq, Nat.reduceEqDiff, not_false_eq_true, Nat.reduceLT, reduceCtorEq]; done)) ?_
    rw [nI_add i4 1]
    simp only [k_copies_L51_L51_3] at ih
    exact ih
set_option maxHeartbeats 4000000 in
set_option maxRecDepth 3000 in
theorem c_k_copies_L51_L51_54_72_71 (z : Zp) (d : Nat) (M : Mem) (n3 : Nat) (b3 : n3 < 3000) (hk : k_copies_L51_L51_ok (M.1 72) (M.1 71) n3) : GM z mX12_copies (d) [.ref 54, .ref 72, .ref 71, .int (nI n3)] M (fun rs => rs = .inl (none, mrow M 71 ((k_copies_L51_L51 (M.1 72) (M.1 71) n3).2))) := by
  simp only [k_copies_L51_L51_ok] at hk
  refine GM.of oX12_copies.1 (Nat.le_of_ble_eq_true rfl) ?_
  show G z mX12_copies (d) 0 0 0 [some (.ref 54), some (.ref 72), some (.ref 71), some (.int (nI n3)), none] [] M _
  obtain ⟨Q, hQ⟩ : ∃ Q : Rs → Prop, Q = (fun rs => rs = .inl (none, mrow M 71 ((k_copies_L51_L51 (M.1 72) (M.1 71) n3).2))) := ⟨_, rfl⟩
  rw [← hQ]
  refine G.sl [(.iconst 0, 1, 0, 0, 0, nI 0), (.istore 4, 2, 4, 0, 0, 0)] [] (pc2 := 3) (ls2 := [some (.ref 54), some (.ref 72), some (.ref 71), some (.int (nI n3)), some (.int (nI 0))]) (st2 := []) (M2 := M) (Ps := []) (by decide +kernel) rfl rfl trivial ?_
  refine G.loc (ls2 := [none, some (.ref 72), some (.ref 71), some (.int (nI n3)), some (.int (nI 0))]) (by simp [subL]) ?_
  obtain ⟨k2, hk⟩ := hk
  refine lp_k_copies_L51_L51_54_72_71_3 z d M Q n3 (by omega) (by first | (simp only [mput, mrow_same, mrow_hit, mrow_miss, mrow_sw, idr_eq, ne_eq, Nat.reduceEqDiff, not_false_eq_true, Nat.reduceLT, reduceCtorEq]; exact k2) | exact k2) ?_
  try simp only [mput, mrow_same, mrow_hit, mrow_miss, mrow_sw, idr_eq, ne_eq, Nat.reduceEqDiff, not_false_eq_true, Nat.reduceLT, reduceCtorEq]
  show G z mX12_copies (d) 0 0 23 [none, none, none, none, none] [] (mrow M 71 (k_copies_L51_L51_3 (M.1 72) (M.1 71) n3 n3)) Q
  exact G.retv (by decide +kernel) rfl (Nat.le_of_ble_eq_true rfl) (Nat.le_of_ble_eq_true rfl) ((by rw [hQ]; simp only [k_copies_L51_L51, mrow_self]))
set_option maxHeartbeats 4000000 in
set_option maxRecDepth 3000 in
theorem c_k_work_54 (z : Zp) (d : Nat) (M : Mem) (x1 : Int32) (hk : k_work_ok (M.1 54) (M.1 55) (M.1 56) (M.1 60) (M.1 61) (M.1 65) (M.1 66) (M.1 67) (M.1 68) (M.1 69) (M.1 70) (M.1 71) (M.1 72) (M.1 73) x1) : GM z mX12_work (d + 71) [.ref 54, .int x1] M (fun rs => rs = .inl (some (.int ((k_work (M.1 54) (M.1 55) (M.1 56) (M.1 60) (M.1 61) (M.1 65) (M.1 66) (M.1 67) (M.1 68) (M.1 69) (M.1 70) (M.1 71) (M.1 72) (M.1 73) x1).1)), mrow (mrow (mrow (mrow (mrow (mrow (mrow (mrow (mrow M 54 ((k_work (M.1 54) (M.1 55) (M.1 56) (M.1 60) (M.1 61) (M.1 65) (M.1 66) (M.1 67) (M.1 68) (M.1 69) (M.1 70) (M.1 71) (M.1 72) (M.1 73) x1).2.1)) 55 ((k_work (M.1 54) (M.1 55) (M.1 56) (M.1 60) (M.1 61) (M.1 65) (M.1 66) (M.1 67) (M.1 68) (M.1 69) (M.1 70) (M.1 71) (M.1 72) (M.1 73) x1).2.2.1)) 67 ((k_work (M.1 54) (M.1 55) (M.1 56) (M.1 60) (M.1 61) (M.1 65) (M.1 66) (M.1 67) (M.1 68) (M.1 69) (M.1 70) (M.1 71) (M.1 72) (M.1 73) x1).2.2.2.1)) 68 ((k_work (M.1 54) (M.1 55) (M.1 56) (M.1 60) (M.1 61) (M.1 65) (M.1 66) (M.1 67) (M.1 68) (M.1 69) (M.1 70) (M.1 71) (M.1 72) (M.1 73) x1).2.2.2.2.1)) 69 ((k_work (M.1 54) (M.1 55) (M.1 56) (M.1 60) (M.1 61) (M.1 65) (M.1 66) (M.1 67) (M.1 68) (M.1 69) (M.1 70) (M.1 71) (M.1 72) (M.1 73) x1).2.2.2.2.2.1)) 70 ((k_work (M.1 54) (M.1 55) (M.1 56) (M.1 60) (M.1 61) (M.1 65) (M.1 66) (M.1 67) (M.1 68) (M.1 69) (M.1 70) (M.1 71) (M.1 72) (M.1 73) x1).2.2.2.2.2.2.1)) 71 ((k_work (M.1 54) (M.1 55) (M.1 56) (M.1 60) (M.1 61) (M.1 65) (M.1 66) (M.1 67) (M.1 68) (M.1 69) (M.1 70) (M.1 71) (M.1 72) (M.1 73) x1).2.2.2.2.2.2.2.1)) 72 ((k_work (M.1 54) (M.1 55) (M.1 56) (M.1 60) (M.1 61) (M.1 65) (M.1 66) (M.1 67) (M.1 68) (M.1 69) (M.1 70) (M.1 71) (M.1 72) (M.1 73) x1).2.2.2.2.2.2.2.2.1)) 73 ((k_work (M.1 54) (M.1 55) (M.1 56) (M.1 60) (M.1 61) (M.1 65) (M.1 66) (M.1 67) (M.1 68) (M.1 69) (M.1 70) (M.1 71) (M.1 72) (M.1 73) x1).2.2.2.2.2.2.2.2.2))) := by
  simp only [k_work_ok] at hk
  refine GM.of oX12_work.1 (Nat.le_of_ble_eq_true rfl) ?_
  show G z mX12_work (d + 71) 0 0 0 [some (.ref 54), some (.int x1), none, none] [] M _
  obtain ⟨Q, hQ⟩ : ∃ Q : Rs → Prop, Q = (fun rs => rs = .inl (some (.int ((k_work (M.1 54) (M.1 55) (M.1 56) (M.1 60) (M.1 61) (M.1 65) (M.1 66) (M.1 67) (M.1 68) (M.1 69) (M.1 70) (M.1 71) (M.1 72) (M.1 73) x1).1)), mrow (mrow (mrow (mrow (mrow (mrow (mrow (mrow (mrow M 54 ((k_work (M.1 54) (M.1 55) (M.1 56) (M.1 60) (M.1 61) (M.1 65) (M.1 66) (M.1 67) (M.1 68) (M.1 69) (M.1 70) (M.1 71) (M.1 72) (M.1 73) x1).2.1)) 55 ((k_work (M.1 54) (M.1 55) (M.1 56) (M.1 60) (M.1 61) (M.1 65) (M.1 66) (M.1 67) (M.1 68) (M.1 69) (M.1 70) (M.1 71) (M.1 72) (M.1 73) x1).2.2.1)) 67 ((k_work (M.1 54) (M.1 55) (M.1 56) (M.1 60) (M.1 61) (M.1 65) (M.1 66) (M.1 67) (M.1 68) (M.1 69) (M.1 70) (M.1 71) (M.1 72) (M.1 73) x1).2.2.2.1)) 68 ((k_work (M.1 54) (M.1 55) (M.1 56) (M.1 60) (M.1 61) (M.1 65) (M.1 66) (M.1 67) (M.1 68) (M.1 69) (M.1 70) (M.1 71) (M.1 72) (M.1 73) x1).2.2.2.2.1)) 69 ((k_work (M.1 54) (M.1 55) (M.1 56) (M.1 60) (M.1 61) (M.1 65) (M.1 66) (M.1 67) (M.1 68) (M.1 69) (M.1 70) (M.1 71) (M.1 72) (M.1 73) x1).2.2.2.2.2.1)) 70 ((k_work (M.1 54) (M.1 55) (M.1 56) (M.1 60) (M.1 61) (M.1 65) (M.1 66) (M.1 67) (M.1 68) (M.1 69) (M.1 70) (M.1 71) (M.1 72) (M.1 73) x1).2.2.2.2.2.2.1)) 71 ((k_work (M.1 54) (M.1 55) (M.1 56) (M.1 60) (M.1 61) (M.1 65) (M.1 66) (M.1 67) (M.1 68) (M.1 69) (M.1 70) (M.1 71) (M.1 72) (M.1 73) x1).2.2.2.2.2.2.2.1)) 72 ((k_work (M.1 54) (M.1 55) (M.1 56) (M.1 60) (M.1 61) (M.1 65) (M.1 66) (M.1 67) (M.1 68) (M.1 69) (M.1 70) (M.1 71) (M.1 72) (M.1 73) x1).2.2.2.2.2.2.2.2.1)) 73 ((k_work (M.1 54) (M.1 55) (M.1 56) (M.1 60) (M.1 61) (M.1 65) (M.1 66) (M.1 67) (M.1 68) (M.1 69) (M.1 70) (M.1 71) (M.1 72) (M.1 73) x1).2.2.2.2.2.2.2.2.2))) := ⟨_, rfl⟩
  rw [← hQ]
  refine G.sl [(.aload_n 0, 1, 0, 0, 0, 0), (.iconst 0, 1, 0, 0, 0, nI 0), (.putfield 3, 3, 11, 0, 123, 0), (.aload_n 0, 1, 0, 0, 0, 0), (.iload_n 1, 1, 1, 0, 0, 0)] [] (pc2 := 7) (ls2 := [some (.ref 54), some (.int x1), none, none]) (st2 := [.int x1, .ref 54]) (M2 := mput M 54 0 (nI 0)) (Ps := []) (by decide +kernel) rfl rfl trivial ?_
  refine G.mem (M' := mrow M 54 (upd (M.1 54) 0 (nI 0))) (by first | rfl | (simp only [mput, mrow_same, mrow_hit, mrow_miss, mrow_sw, idr_eq, ne_eq, Nat.reduceEqDiff, not_false_eq_true, Nat.reduceLT, reduceCtorEq]; done)) ?_
  refine G.if_lt (off := (22)) (tgt := 29) (by decide +kernel) rfl (fun c1 => ?_) (fun c1 => ?_)
  · skip
    rw [if_pos c1] at hk
    refine G.sl [(.iconst 0, 1, 0, 0, 0, nI 0), (.iconst 1, 1, 0, 0, 0, nI 1), (.iconst 1, 1, 0, 0, 0, nI 1)] [] (pc2 := 32) (ls2 := [some (.ref 54), some (.int x1), none, none]) (st2 := [.int (nI 1), .int (nI 1), .int (nI 0), .ref 54]) (M2 := mrow M 54 (upd (M.1 54) 0 (nI 0))) (Ps := []) (by decide +kernel) rfl rfl trivial ?_
    obtain ⟨k2, hk⟩ := hk
    rcases g3 : k_may_1 (upd (M.1 54) 0 (nI 0)) (M.1 55) (nI 0) (nI 1) with ⟨v4, r5, r6⟩
    try simp only [g3] at hk
    have ev4 : v4 = 0 ∨ v4 = 1 := by
      have q9 := k_may_1_01 (upd (M.1 54) 0 (nI 0)) (M.1 55) (nI 0) (nI 1)
      rw [g3] at q9
      exact q9
    have t7 : GM z mX12_may (d + 70) [.ref 54, .int (nI 0), .int (nI 1), .int (nI 1)] (mrow M 54 (upd (M.1 54) 0 (nI 0))) (fun rs => rs = .inl (some (.int v4), mrow (mrow M 54 r5) 55 r6)) := by
      have q9 := c_k_may_1_54 z (d + 70) (mrow M 54 (upd (M.1 54) 0 (nI 0))) (nI 0) (nI 1)
      try simp only [mput, mrow_same, mrow_hit, mrow_miss, mrow_sw, idr_eq, ne_eq, Nat.reduceEqDiff, not_false_eq_true, Nat.reduceLT, reduceCtorEq, g3] at q9
      exact q9
    refine G.callV (as := [.int (nI 0), .int (nI 1), .int (nI 1)]) (rest := []) (a := 54) oX12_may lk_EvenFindersModel_213 (by decide +kernel) rfl rfl ⟨rfl, rfl⟩ (Nat.le_of_ble_eq_true rfl) rfl ⟨Nat.le_of_ble_eq_true rfl, Nat.le_of_ble_eq_true rfl⟩ t7 (fun v9 N9 h8 => ?_) (fun E9 N9 h8 => by cases h8)
    cases h8
    show G z mX12_work (d + 71) 0 0 35 [some (.ref 54), some (.int x1), none, none] [.int v4] (mrow (mrow M 54 r5) 55 r6) Q
    refine G.if_ne (off := (5)) (tgt := 40) (by decide +kernel) rfl (fun c9 => ?_) (fun c9 => ?_)
    · skip
      rw [if_neg c9] at hk
      refine G.sl [(.aload_n 0, 1, 0, 0, 0, 0), (.iload_n 1, 1, 1, 0, 0, 0)] [] (pc2 := 42) (ls2 := [some (.ref 54), some (.int x1), none, none]) (st2 := [.int x1, .ref 54]) (M2 := mrow (mrow M 54 r5) 55 r6) (Ps := []) (by decide +kernel) rfl rfl trivial ?_
      obtain ⟨k10, hk⟩ := hk
      rcases g11 : k_begins r5 x1 with ⟨u12, r13⟩
      try simp only [g11] at hk
      have t14 : GM z mX12_begins (d + 70) [.ref 54, .int x1] (mrow (mrow M 54 r5) 55 r6) (fun rs => rs = .inl (none, mrow (mrow M 54 r13) 55 r6)) := by
        have q9 := c_k_begins_54 z (d + 70) (mrow (mrow M 54 r5) 55 r6) x1
        try simp only [mput, mrow_same, mrow_hit, mrow_miss, mrow_sw, idr_eq, ne_eq, Nat.reduceEqDiff, not_false_eq_true, Nat.reduceLT, reduceCtorEq, g11] at q9
        exact q9
      refine G.callV (as := [.int x1]) (rest := []) (a := 54) oX12_begins lk_EvenFindersModel_217 (by decide +kernel) rfl rfl ⟨rfl, rfl⟩ (Nat.le_of_ble_eq_true rfl) rfl ⟨Nat.le_of_ble_eq_true rfl, Nat.le_of_ble_eq_true rfl⟩ t14 (fun v9 N9 h15 => ?_) (fun E9 N9 h15 => by cases h15)
      cases h15
      show G z mX12_work (d + 71) 0 0 45 [some (.ref 54), some (.int x1), none, none] [] (mrow (mrow M 54 r13) 55 r6) Q
      refine G.sl [(.aload_n 0, 1, 0, 0, 0, 0), (.getfield 178, 3, 11, 35, 158, 0), (.bipush 16, 2, 0, 0, 0, nI 16)] [] (pc2 := 51) (ls2 := [some (.ref 54), some (.int x1), none, none]) (st2 := [.int (nI 16), .int (r13 35)]) (M2 := mrow (mrow M 54 r13) 55 r6) (Ps := []) (by decide +kernel) rfl rfl trivial ?_
      refine G.ic_ne (off := (12)) (tgt := 63) (by decide +kernel) rfl (fun c16 => ?_) (fun c16 => ?_)
      · skip
        rw [if_neg c16] at hk
        refine G.sl [(.aload_n 0, 1, 0, 0, 0, 0), (.iconst 0, 1, 0, 0, 0, nI 0), (.putfield 295, 3, 11, 34, 157, 0)] [] (pc2 := 68) (ls2 := [some (.ref 54), some (.int x1), none, none]) (st2 := []) (M2 := mput (mrow (mrow M 54 r13) 55 r6) 54 34 (nI 0)) (Ps := []) (by decide +kernel) rfl rfl trivial ?_
        refine G.mem (M' := mrow (mrow M 54 (upd r13 34 (nI 0))) 55 r6) (by first | rfl | (simp only [mput, mrow_same, mrow_hit, mrow_miss, mrow_sw, idr_eq, ne_eq, Nat.reduceEqDiff, not_false_eq_true, Nat.reduceLT, reduceCtorEq]; done)) ?_
        refine G.loc (ls2 := [some (.ref 54), none, none, none]) (by simp [subL]) ?_
        obtain ⟨k35, hk⟩ := hk
        refine G.mem (M' := mrow (mrow (mrow (mrow M 54 (upd r13 34 (nI 0))) 55 r6) 54 ((mrow (mrow M 54 (upd r13 34 (nI 0))) 55 r6).1 54)) 69 ((mrow (mrow M 54 (upd r13 34 (nI 0))) 55 r6).1 69)) (by simp only [mrow_self]) ?_
        refine lp_k_work_54_68 z d (mrow (mrow M 54 (upd r13 34 (nI 0))) 55 r6) Q FU ((mrow (mrow M 54 (upd r13 34 (nI 0))) 55 r6).1 54) ((mrow (mrow M 54 (upd r13 34 (nI 0))) 55 r6).1 69) (by first | (simp only [mput, mrow_same, mrow_hit, mrow_miss, mrow_sw, idr_eq, ne_eq, Nat.reduceEqDiff, not_false_eq_true, Nat.reduceLT, reduceCtorEq]; exact k35) | exact k35) ?_
        try simp only [mput, mrow_same, mrow_hit, mrow_miss, mrow_sw, idr_eq, ne_eq, Nat.reduceEqDiff, not_false_eq_true, Nat.reduceLT, reduceCtorEq]
        rcases g36 : k_work_68 (M.1 56) FU (upd r13 34 (nI 0)) (M.1 69) with ⟨r37, r38⟩
        try simp only [g36] at hk
        show G z mX12_work (d + 71) 0 0 89 [some (.ref 54), none, none, none] [] (mrow (mrow (mrow M 54 r37) 55 r6) 69 r38) Q
        refine G.sl [(.aload_n 0, 1, 0, 0, 0, 0), (.iconst 0, 1, 0, 0, 0, nI 0)] [] (pc2 := 91) (ls2 := [some (.ref 54), none, none, none]) (st2 := [.int (nI 0), .ref 54]) (M2 := mrow (mrow (mrow M 54 r37) 55 r6) 69 r38) (Ps := []) (by decide +kernel) rfl rfl trivial ?_
        obtain ⟨k39, hk⟩ := hk
        rcases g40 : k_result r37 (nI 0) with ⟨v41, r42⟩
        try simp only [g40] at hk
        have t43 : GM z mX12_result (d + 70) [.ref 54, .int (nI 0)] (mrow (mrow (mrow M 54 r37) 55 r6) 69 r38) (fun rs => rs = .inl (some (.int v41), mrow (mrow (mrow M 54 r42) 55 r6) 69 r38)) := by
          have q9 := c_k_result_54 z (d + 69) (mrow (mrow (mrow M 54 r37) 55 r6) 69 r38) (nI 0)
          try simp only [mput, mrow_same, mrow_hit, mrow_miss, mrow_sw, idr_eq, ne_eq, Nat.reduceEqDiff, not_false_eq_true, Nat.reduceLT, reduceCtorEq, g40] at q9
          exact q9
        refine G.callV (as := [.int (nI 0)]) (rest := []) (a := 54) oX12_result lk_EvenFindersModel_242 (by decide +kernel) rfl rfl ⟨rfl, rfl⟩ (Nat.le_of_ble_eq_true rfl) rfl ⟨Nat.le_of_ble_eq_true rfl, Nat.le_of_ble_eq_true rfl⟩ t43 (fun v9 N9 h44 => ?_) (fun E9 N9 h44 => by cases h44)
        cases h44
        show G z mX12_work (d + 71) 0 0 94 [some (.ref 54), none, none, none] [.int v41] (mrow (mrow (mrow M 54 r42) 55 r6) 69 r38) Q
        refine G.sl [(.istore_n 2, 1, 2, 0, 0, 0), (.aload_n 0, 1, 0, 0, 0, 0), (.getfield 101, 3, 11, 5, 128, 0), (.iconst (-1), 1, 0, 0, 0, (-1))] [] (pc2 := 100) (ls2 := [some (.ref 54), none, some (.int v41), none]) (st2 := [.int ((-1)), .int (r42 5)]) (M2 := mrow (mrow (mrow M 54 r42) 55 r6) 69 r38) (Ps := []) (by decide +kernel) rfl rfl trivial ?_
        refine G.ic_eq (off := (5)) (tgt := 105) (by decide +kernel) rfl (fun c45 => ?_) (fun c45 => ?_)
        · skip
          rw [if_pos c45] at hk
          refine G.sl [(.aload_n 0, 1, 0, 0, 0, 0), (.aload_n 0, 1, 0, 0, 0, 0), (.getfield 59, 3, 11, 32, 155, 0), (.aload_n 0, 1, 0, 0, 0, 0), (.getfield 62, 3, 11, 33, 156, 0), (.aload_n 0, 1, 0, 0, 0, 0), (.getfield 295, 3, 11, 34, 157, 0)] [] (pc2 := 118) (ls2 := [some (.ref 54), none, some (.int v41), none]) (st2 := [.int (r42 34), .ref 70, .ref 69, .ref 54]) (M2 := mrow (mrow (mrow M 54 r42) 55 r6) 69 r38) (Ps := []) (by decide +kernel) rfl rfl trivial ?_
          obtain ⟨k46, k47, hk⟩ := hk
          obtain ⟨k48, hk⟩ := hk
          refine G.eq (st' := [.int (nI (ix (r42 34))), .ref 70, .ref 69, .ref 54]) ?_ rfl (by rw [← (show r42 34 = nI (ix (r42 34)) from (ixE k46))]) rfl
          rcases g49 : k_copies_L150_L150 r38 (M.1 70) (ix (r42 34)) with ⟨u50, r51⟩
          try simp only [g49] at hk
          have t52 : GM z mX12_copies (d + 70) [.ref 54, .ref 69, .ref 70, .int (nI (ix (r42 34)))] (mrow (mrow (mrow M 54 r42) 55 r6) 69 r38) (fun rs => rs = .inl (none, mrow (mrow (mrow (mrow M 54 r42) 55 r6) 69 r38) 70 r51)) := by
            have q9 := c_k_copies_L150_L150_54_69_70 z (d + 70) (mrow (mrow (mrow M 54 r42) 55 r6) 69 r38) (ix (r42 34)) k47 k48
            try simp only [mput, mrow_same, mrow_hit, mrow_miss, mrow_sw, idr_eq, ne_eq, Nat.reduceEqDiff, not_false_eq_true, Nat.reduceLT, reduceCtorEq, g49] at q9
            exact q9
          refine G.callV (as := [.ref 69, .ref 70, .int (nI (ix (r42 34)))]) (rest := []) (a := 54) oX12_copies lk_EvenFindersModel_168 (by decide +kernel) rfl rfl ⟨rfl, rfl⟩ (Nat.le_of_ble_eq_true rfl) rfl ⟨Nat.le_of_ble_eq_true rfl, Nat.le_of_ble_eq_true rfl⟩ t52 (fun v9 N9 h53 => ?_) (fun E9 N9 h53 => by cases h53)
          cases h53
          show G z mX12_work (d + 71) 0 0 121 [some (.ref 54), none, some (.int v41), none] [] (mrow (mrow (mrow (mrow M 54 r42) 55 r6) 69 r38) 70 r51) Q
          refine G.sl [(.iconst 0, 1, 0, 0, 0, nI 0), (.istore_n 3, 1, 3, 0, 0, 0)] [] (pc2 := 123) (ls2 := [some (.ref 54), none, some (.int v41), some (.int (nI 0))]) (st2 := []) (M2 := mrow (mrow (mrow (mrow M 54 r42) 55 r6) 69 r38) 70 r51) (Ps := []) (by decide +kernel) rfl rfl trivial ?_
          refine G.loc (ls2 := [some (.ref 54), none, none, some (.int (nI 0))]) (by simp [subL]) ?_
          obtain ⟨k56, hk⟩ := hk
          refine lp_k_work_54_123 z d (mrow (mrow (mrow (mrow M 54 r42) 55 r6) 69 r38) 70 r51) Q (cN 51) (cN_eq 51) (by first | (simp only [mput, mrow_same, mrow_hit, mrow_miss, mrow_sw, idr_eq, ne_eq, Nat.reduceEqDiff, not_false_eq_true, Nat.reduceLT, reduceCtorEq]; exact k56) | exact k56) ?_
          try simp only [mput, mrow_same, mrow_hit, mrow_miss, mrow_sw, idr_eq, ne_eq, Nat.reduceEqDiff, not_false_eq_true, Nat.reduceLT, reduceCtorEq]
          show G z mX12_work (d + 71) 0 0 155 [some (.ref 54), none, none, none] [] (mrow (mrow (mrow (mrow (mrow M 54 r42) 55 r6) 69 r38) 70 r51) 73 (k_work_123 r42 (M.1 71) (M.1 73) (cN 51))) Q
          refine G.sl [(.aload_n 0, 1, 0, 0, 0, 0), (.dup, 1, 0, 0, 0, 0), (.getfield 178, 3, 11, 35, 158, 0), (.iconst 1, 1, 0, 0, 0, nI 1), (.iadd, 1, 0, 0, 0, 0), (.putfield 178, 3, 11, 35, 158, 0), (.aload_n 0, 1, 0, 0, 0, 0)] [] (pc2 := 166) (ls2 := [some (.ref 54), none, none, none]) (st2 := [.ref 54]) (M2 := mput (mrow (mrow (mrow (mrow (mrow M 54 r42) 55 r6) 69 r38) 70 r51) 73 (k_work_123 r42 (M.1 71) (M.1 73) (cN 51))) 54 35 ((r42 35) + (nI 1))) (Ps := []) (by decide +kernel) rfl rfl trivial ?_
          refine G.mem (M' := mrow (mrow (mrow (mrow (mrow M 54 (upd r42 35 ((r42 35) + (nI 1)))) 55 r6) 69 r38) 70 r51) 73 (k_work_123 r42 (M.1 71) (M.1 73) (cN 51))) (by first | rfl | (simp only [mput, mrow_same, mrow_hit, mrow_miss, mrow_sw, idr_eq, ne_eq, Nat.reduceEqDiff, not_false_eq_true, Nat.reduceLT, reduceCtorEq]; done)) ?_
          obtain ⟨k57, hk⟩ := hk
          rcases g58 : k_take (M.1 71) (M.1 72) with ⟨u59, r60⟩
          try simp only [g58] at hk
          have t61 : GM z mX12_take (d + 70) [.ref 54] (mrow (mrow (mrow (mrow (mrow M 54 (upd r42 35 ((r42 35) + (nI 1)))) 55 r6) 69 r38) 70 r51) 73 (k_work_123 r42 (M.1 71) (M.1 73) (cN 51))) (fun rs => rs = .inl (none, mrow (mrow (mrow (mrow (mrow (mrow M 54 (upd r42 35 ((r42 35) + (nI 1)))) 55 r6) 69 r38) 70 r51) 72 r60) 73 (k_work_123 r42 (M.1 71) (M.1 73) (cN 51)))) := by
            have q9 := c_k_take_54 z (d + 69) (mrow (mrow (mrow (mrow (mrow M 54 (upd r42 35 ((r42 35) + (nI 1)))) 55 r6) 69 r38) 70 r51) 73 (k_work_123 r42 (M.1 71) (M.1 73) (cN 51))) k57
            try simp only [mput, mrow_same, mrow_hit, mrow_miss, mrow_sw, idr_eq, ne_eq, Nat.reduceEqDiff, not_false_eq_true, Nat.reduceLT, reduceCtorEq, g58] at q9
            exact q9
          refine G.callV (as := []) (rest := []) (a := 54) oX12_take lk_EvenFindersModel_320 (by decide +kernel) rfl rfl ⟨rfl, rfl⟩ (Nat.le_of_ble_eq_true rfl) rfl ⟨Nat.le_of_ble_eq_true rfl, Nat.le_of_ble_eq_true rfl⟩ t61 (fun v9 N9 h62 => ?_) (fun E9 N9 h62 => by cases h62)
          cases h62
          show G z mX12_work (d + 71) 0 0 169 [some (.ref 54), none, none, none] [] (mrow (mrow (mrow (mrow (mrow (mrow M 54 (upd r42 35 ((r42 35) + (nI 1)))) 55 r6) 69 r38) 70 r51) 72 r60) 73 (k_work_123 r42 (M.1 71) (M.1 73) (cN 51))) Q
          refine G.sl [(.aload_n 0, 1, 0, 0, 0, 0), (.iconst 0, 1, 0, 0, 0, nI 0), (.putfield 323, 3, 11, 37, 160, 0), (.aload_n 0, 1, 0, 0, 0, 0), (.iconst 0, 1, 0, 0, 0, nI 0), (.putfield 326, 3, 11, 38, 161, 0), (.aload_n 0, 1, 0, 0, 0, 0), (.iconst 0, 1, 0, 0, 0, nI 0), (.putfield 329, 3, 11, 39, 162, 0), (.aload_n 0, 1, 0, 0, 0, 0), (.iconst 0, 1, 0, 0, 0, nI 0), (.aload_n 0, 1, 0, 0, 0, 0), (.getfield 295, 3, 11, 34, 157, 0)] [] (pc2 := 190) (ls2 := [some (.ref 54), none, none, none]) (st2 := [.int (r42 34), .int (nI 0), .ref 54]) (M2 := mput (mput (mput (mrow (mrow (mrow (mrow (mrow (mrow M 54 (upd r42 35 ((r42 35) + (nI 1)))) 55 r6) 69 r38) 70 r51) 72 r60) 73 (k_work_123 r42 (M.1 71) (M.1 73) (cN 51))) 54 37 (nI 0)) 54 38 (nI 0)) 54 39 (nI 0)) (Ps := []) (by decide +kernel) rfl rfl trivial ?_
          refine G.mem (M' := mrow (mrow (mrow (mrow (mrow (mrow M 54 (upd (upd (upd (upd r42 35 ((r42 35) + (nI 1))) 37 (nI 0)) 38 (nI 0)) 39 (nI 0))) 55 r6) 69 r38) 70 r51) 72 r60) 73 (k_work_123 r42 (M.1 71) (M.1 73) (cN 51))) (by first | rfl | (simp only [mput, mrow_same, mrow_hit, mrow_miss, mrow_sw, idr_eq, ne_eq, Nat.reduceEqDiff, not_false_eq_true, Nat.reduceLT, reduceCtorEq]; done)) ?_
          obtain ⟨k63, hk⟩ := hk
          rcases g64 : k_goesSteps (upd (upd (upd (upd r42 35 ((r42 35) + (nI 1))) 37 (nI 0)) 38 (nI 0)) 39 (nI 0)) (M.1 60) (M.1 61) (M.1 65) (M.1 66) (M.1 67) (M.1 68) r51 r60 (nI 0) (r42 34) with ⟨u65, r66, r67, r68, r69⟩
          try simp only [g64] at hk
          have t70 : GM z mX12_goesSteps (d + 70) [.ref 54, .int (nI 0), .int (r42 34)] (mrow (mrow (mrow (mrow (mrow (mrow M 54 (upd (upd (upd (upd r42 35 ((r42 35) + (nI 1))) 37 (nI 0)) 38 (nI 0)) 39 (nI 0))) 55 r6) 69 r38) 70 r51) 72 r60) 73 (k_work_123 r42 (M.1 71) (M.1 73) (cN 51))) (fun rs => rs = .inl (none, mrow (mrow (mrow (mrow (mrow (mrow (mrow (mrow M 54 r66) 55 r6) 67 r67) 68 r68) 69 r38) 70 r51) 72 r69) 73 (k_work_123 r42 (M.1 71) (M.1 73) (cN 51)))) := by
            have q9 := c_k_goesSteps_54 z d (mrow (mrow (mrow (mrow (mrow (mrow M 54 (upd (upd (upd (upd r42 35 ((r42 35) + (nI 1))) 37 (nI 0)) 38 (nI 0)) 39 (nI 0))) 55 r6) 69 r38) 70 r51) 72 r60) 73 (k_work_123 r42 (M.1 71) (M.1 73) (cN 51))) (nI 0) (r42 34) k63
            try simp only [mput, mrow_same, mrow_hit, mrow_miss, mrow_sw, idr_eq, ne_eq, Nat.reduceEqDiff, not_false_eq_true, Nat.reduceLT, reduceCtorEq, g64] at q9
            exact q9
          refine G.callV (as := [.int (nI 0), .int (r42 34)]) (rest := []) (a := 54) oX12_goesSteps lk_EvenFindersModel_332 (by decide +kernel) rfl rfl ⟨rfl, rfl⟩ (Nat.le_of_ble_eq_true rfl) rfl ⟨Nat.le_of_ble_eq_true rfl, Nat.le_of_ble_eq_true rfl⟩ t70 (fun v9 N9 h71 => ?_) (fun E9 N9 h71 => by cases h71)
          cases h71
          show G z mX12_work (d + 71) 0 0 193 [some (.ref 54), none, none, none] [] (mrow (mrow (mrow (mrow (mrow (mrow (mrow (mrow M 54 r66) 55 r6) 67 r67) 68 r68) 69 r38) 70 r51) 72 r69) 73 (k_work_123 r42 (M.1 71) (M.1 73) (cN 51))) Q
          refine G.sl [(.aload_n 0, 1, 0, 0, 0, 0), (.aload_n 0, 1, 0, 0, 0, 0), (.getfield 68, 3, 11, 41, 164, 0), (.aload_n 0, 1, 0, 0, 0, 0), (.getfield 65, 3, 11, 40, 163, 0), (.bipush 51, 2, 0, 0, 0, nI 51)] [] (pc2 := 204) (ls2 := [some (.ref 54), none, none, none]) (st2 := [.int (nI 51), .ref 71, .ref 72, .ref 54]) (M2 := mrow (mrow (mrow (mrow (mrow (mrow (mrow (mrow M 54 r66) 55 r6) 67 r67) 68 r68) 69 r38) 70 r51) 72 r69) 73 (k_work_123 r42 (M.1 71) (M.1 73) (cN 51))) (Ps := []) (by decide +kernel) rfl rfl trivial ?_
          obtain ⟨k72, hk⟩ := hk
          rcases g73 : k_copies_L51_L51 r69 (M.1 71) 51 with ⟨u74, r75⟩
          have t76 : GM z mX12_copies (d + 70) [.ref 54, .ref 72, .ref 71, .int (nI 51)] (mrow (mrow (mrow (mrow (mrow (mrow (mrow (mrow M 54 r66) 55 r6) 67 r67) 68 r68) 69 r38) 70 r51) 72 r69) 73 (k_work_123 r42 (M.1 71) (M.1 73) (cN 51))) (fun rs => rs = .inl (none, mrow (mrow (mrow (mrow (mrow (mrow (mrow (mrow (mrow M 54 r66) 55 r6) 67 r67) 68 r68) 69 r38) 70 r51) 71 r75) 72 r69) 73 (k_work_123 r42 (M.1 71) (M.1 73) (cN 51)))) := by
            have q9 := c_k_copies_L51_L51_54_72_71 z (d + 70) (mrow (mrow (mrow (mrow (mrow (mrow (mrow (mrow M 54 r66) 55 r6) 67 r67) 68 r68) 69 r38) 70 r51) 72 r69) 73 (k_work_123 r42 (M.1 71) (M.1 73) (cN 51))) 51 (by omega) k72
            try simp only [mput, mrow_same, mrow_hit, mrow_miss, mrow_sw, idr_eq, ne_eq, Nat.reduceEqDiff, not_false_eq_true, Nat.reduceLT, reduceCtorEq, g73] at q9
            exact q9
          refine G.callV (as := [.ref 72, .ref 71, .int (nI 51)]) (rest := []) (a := 54) oX12_copies lk_EvenFindersModel_168 (by decide +kernel) rfl rfl ⟨rfl, rfl⟩ (Nat.le_of_ble_eq_true rfl) rfl ⟨Nat.le_of_ble_eq_true rfl, Nat.le_of_ble_eq_true rfl⟩ t76 (fun v9 N9 h77 => ?_) (fun E9 N9 h77 => by cases h77)
          cases h77
          show G z mX12_work (d + 71) 0 0 207 [some (.ref 54), none, none, none] [] (mrow (mrow (mrow (mrow (mrow (mrow (mrow (mrow (mrow M 54 r66) 55 r6) 67 r67) 68 r68) 69 r38) 70 r51) 71 r75) 72 r69) 73 (k_work_123 r42 (M.1 71) (M.1 73) (cN 51))) Q
          refine G.sl [(.aload_n 0, 1, 0, 0, 0, 0), (.aload_n 0, 1, 0, 0, 0, 0), (.getfield 329, 3, 11, 39, 162, 0), (.putfield 184, 3, 11, 36, 159, 0), (.aload_n 0, 1, 0, 0, 0, 0), (.getfield 326, 3, 11, 38, 161, 0)] [] (pc2 := 219) (ls2 := [some (.ref 54), none, none, none]) (st2 := [.int (r66 38)]) (M2 := mput (mrow (mrow (mrow (mrow (mrow (mrow (mrow (mrow (mrow M 54 r66) 55 r6) 67 r67) 68 r68) 69 r38) 70 r51) 71 r75) 72 r69) 73 (k_work_123 r42 (M.1 71) (M.1 73) (cN 51))) 54 36 (r66 39)) (Ps := []) (by decide +kernel) rfl rfl trivial ?_
          refine G.mem (M' := mrow (mrow (mrow (mrow (mrow (mrow (mrow (mrow (mrow M 54 (upd r66 36 (r66 39))) 55 r6) 67 r67) 68 r68) 69 r38) 70 r51) 71 r75) 72 r69) 73 (k_work_123 r42 (M.1 71) (M.1 73) (cN 51))) (by first | rfl | (simp only [mput, mrow_same, mrow_hit, mrow_miss, mrow_sw, idr_eq, ne_eq, Nat.reduceEqDiff, not_false_eq_true, Nat.reduceLT, reduceCtorEq]; done)) ?_
          exact G.reti (by decide +kernel) rfl rfl (Nat.le_of_ble_eq_true rfl) (Nat.le_of_ble_eq_true rfl) ((by rw [hQ]; simp only [k_work, if_pos c1, g3, if_neg c9, g11, if_neg c16, g36, g40, if_pos c45, g49, g58, g64, g73, mrow_self]))
        · skip
          rw [if_neg c45] at hk
          refine G.sl [(.iload_n 2, 1, 2, 0, 0, 0)] [] (pc2 := 104) (ls2 := [some (.ref 54), none, some (.int v41), none]) (st2 := [.int v41]) (M2 := mrow (mrow (mrow M 54 r42) 55 r6) 69 r38) (Ps := []) (by decide +kernel) rfl rfl trivial ?_
          refine G.mem (M' := mrow (mrow (mrow (mrow (mrow (mrow (mrow (mrow (mrow M 54 r42) 55 r6) 67 (M.1 67)) 68 (M.1 68)) 69 r38) 70 (M.1 70)) 71 (M.1 71)) 72 (M.1 72)) 73 (M.1 73)) ((((((((mrow_id (N := mrow (mrow (mrow M 54 r42) 55 r6) 69 r38) (c := 67) (f := M.1 67) (by first | rfl | (simp only [mput, mrow_same, mrow_hit, mrow_miss, mrow_sw, idr_eq, ne_eq, Nat.reduceEqDiff, not_false_eq_true, Nat.reduceLT, reduceCtorEq]; done))).symm).trans (mrow_id (N := mrow (mrow (mrow (mrow M 54 r42) 55 r6) 69 r38) 67 (M.1 67)) (c := 68) (f := M.1 68) (by first | rfl | (simp only [mput, mrow_same, mrow_hit, mrow_miss, mrow_sw, idr_eq, ne_eq, Nat.reduceEqDiff, not_false_eq_true, Nat.reduceLT, reduceCtorEq]; done))).symm).trans (mrow_id (N := mrow (mrow (mrow (mrow (mrow M 54 r42) 55 r6) 69 r38) 67 (M.1 67)) 68 (M.1 68)) (c := 70) (f := M.1 70) (by first | rfl | (simp only [mput, mrow_same, mrow_hit, mrow_miss, mrow_sw, idr_eq, ne_eq, Nat.reduceEqDiff, not_false_eq_true, Nat.reduceLT, reduceCtorEq]; done))).symm).trans (mrow_id (N := mrow (mrow (mrow (mrow (mrow (mrow M 54 r42) 55 r6) 69 r38) 67 (M.1 67)) 68 (M.1 68)) 70 (M.1 70)) (c := 71) (f := M.1 71) (by first | rfl | (simp only [mput, mrow_same, mrow_hit, mrow_miss, mrow_sw, idr_eq, ne_eq, Nat.reduceEqDiff, not_false_eq_true, Nat.reduceLT, reduceCtorEq]; done))).symm).trans (mrow_id (N := mrow (mrow (mrow (mrow (mrow (mrow (mrow M 54 r42) 55 r6) 69 r38) 67 (M.1 67)) 68 (M.1 68)) 70 (M.1 70)) 71 (M.1 71)) (c := 72) (f := M.1 72) (by first | rfl | (simp only [mput, mrow_same, mrow_hit, mrow_miss, mrow_sw, idr_eq, ne_eq, Nat.reduceEqDiff, not_false_eq_true, Nat.reduceLT, reduceCtorEq]; done))).symm).trans (mrow_id (N := mrow (mrow (mrow (mrow (mrow (mrow (mrow (mrow M 54 r42) 55 r6) 69 r38) 67 (M.1 67)) 68 (M.1 68)) 70 (M.1 70)) 71 (M.1 71)) 72 (M.1 72)) (c := 73) (f := M.1 73) (by first | rfl | (simp only [mput, mrow_same, mrow_hit, mrow_miss, mrow_sw, idr_eq, ne_eq, Nat.reduceEqDiff, not_false_eq_true, Nat.reduceLT, reduceCtorEq]; done))).symm).trans (by first | rfl | (simp only [mput, mrow_same, mrow_hit, mrow_miss, mrow_sw, idr_eq, ne_eq, Nat.reduceEqDiff, not_false_eq_true, Nat.reduceLT, reduceCtorEq]; done))) ?_
          exact G.reti (by decide +kernel) rfl rfl (Nat.le_of_ble_eq_true rfl) (Nat.le_of_ble_eq_true rfl) ((by rw [hQ]; simp only [k_work, if_pos c1, g3, if_neg c9, g11, if_neg c16, g36, g40, if_neg c45, mrow_self]))
      · skip
        rw [if_pos c16] at hk
        refine G.sl [(.aload_n 0, 1, 0, 0, 0, 0), (.iconst 0, 1, 0, 0, 0, nI 0)] [] (pc2 := 56) (ls2 := [some (.ref 54), some (.int x1), none, none]) (st2 := [.int (nI 0), .ref 54]) (M2 := mrow (mrow M 54 r13) 55 r6) (Ps := []) (by decide +kernel) rfl rfl trivial ?_
        rcases g79 : k_result r13 (nI 0) with ⟨v80, r81⟩
        have t82 : GM z mX12_result (d + 70) [.ref 54, .int (nI 0)] (mrow (mrow M 54 r13) 55 r6) (fun rs => rs = .inl (some (.int v80), mrow (mrow M 54 r81) 55 r6)) := by
          have q9 := c_k_result_54 z (d + 69) (mrow (mrow M 54 r13) 55 r6) (nI 0)
          try simp only [mput, mrow_same, mrow_hit, mrow_miss, mrow_sw, idr_eq, ne_eq, Nat.reduceEqDiff, not_false_eq_true, Nat.reduceLT, reduceCtorEq, g79] at q9
          exact q9
        refine G.callV (as := [.int (nI 0)]) (rest := []) (a := 54) oX12_result lk_EvenFindersModel_242 (by decide +kernel) rfl rfl ⟨rfl, rfl⟩ (Nat.le_of_ble_eq_true rfl) rfl ⟨Nat.le_of_ble_eq_true rfl, Nat.le_of_ble_eq_true rfl⟩ t82 (fun v9 N9 h83 => ?_) (fun E9 N9 h83 => by cases h83)
        cases h83
        show G z mX12_work (d + 71) 0 0 59 [some (.ref 54), some (.int x1), none, none] [.int v80] (mrow (mrow M 54 r81) 55 r6) Q
        refine G.sl [(.pop, 1, 0, 0, 0, 0), (.bipush (-20), 2, 0, 0, 0, (-20))] [] (pc2 := 62) (ls2 := [some (.ref 54), some (.int x1), none, none]) (st2 := [.int ((-20))]) (M2 := mrow (mrow M 54 r81) 55 r6) (Ps := []) (by decide +kernel) rfl rfl trivial ?_
        refine G.mem (M' := mrow (mrow (mrow (mrow (mrow (mrow (mrow (mrow (mrow M 54 r81) 55 r6) 67 (M.1 67)) 68 (M.1 68)) 69 (M.1 69)) 70 (M.1 70)) 71 (M.1 71)) 72 (M.1 72)) 73 (M.1 73)) (((((((((mrow_id (N := mrow (mrow M 54 r81) 55 r6) (c := 67) (f := M.1 67) (by first | rfl | (simp only [mput, mrow_same, mrow_hit, mrow_miss, mrow_sw, idr_eq, ne_eq, Nat.reduceEqDiff, not_false_eq_true, Nat.reduceLT, reduceCtorEq]; done))).symm).trans (mrow_id (N := mrow (mrow (mrow M 54 r81) 55 r6) 67 (M.1 67)) (c := 68) (f := M.1 68) (by first | rfl | (simp only [mput, mrow_same, mrow_hit, mrow_miss, mrow_sw, idr_eq, ne_eq, Nat.reduceEqDiff, not_false_eq_true, Nat.reduceLT, reduceCtorEq]; done))).symm).trans (mrow_id (N := mrow (mrow (mrow (mrow M 54 r81) 55 r6) 67 (M.1 67)) 68 (M.1 68)) (c := 69) (f := M.1 69) (by first | rfl | (simp only [mput, mrow_same, mrow_hit, mrow_miss, mrow_sw, idr_eq, ne_eq, Nat.reduceEqDiff, not_false_eq_true, Nat.reduceLT, reduceCtorEq]; done))).symm).trans (mrow_id (N := mrow (mrow (mrow (mrow (mrow M 54 r81) 55 r6) 67 (M.1 67)) 68 (M.1 68)) 69 (M.1 69)) (c := 70) (f := M.1 70) (by first | rfl | (simp only [mput, mrow_same, mrow_hit, mrow_miss, mrow_sw, idr_eq, ne_eq, Nat.reduceEqDiff, not_false_eq_true, Nat.reduceLT, reduceCtorEq]; done))).symm).trans (mrow_id (N := mrow (mrow (mrow (mrow (mrow (mrow M 54 r81) 55 r6) 67 (M.1 67)) 68 (M.1 68)) 69 (M.1 69)) 70 (M.1 70)) (c := 71) (f := M.1 71) (by first | rfl | (simp only [mput, mrow_same, mrow_hit, mrow_miss, mrow_sw, idr_eq, ne_eq, Nat.reduceEqDiff, not_false_eq_true, Nat.reduceLT, reduceCtorEq]; done))).symm).trans (mrow_id (N := mrow (mrow (mrow (mrow (mrow (mrow (mrow M 54 r81) 55 r6) 67 (M.1 67)) 68 (M.1 68)) 69 (M.1 69)) 70 (M.1 70)) 71 (M.1 71)) (c := 72) (f := M.1 72) (by first | rfl | (simp only [mput, mrow_same, mrow_hit, mrow_miss, mrow_sw, idr_eq, ne_eq, Nat.reduceEqDiff, not_false_eq_true, Nat.reduceLT, reduceCtorEq]; done))).symm).trans (mrow_id (N := mrow (mrow (mrow (mrow (mrow (mrow (mrow (mrow M 54 r81) 55 r6) 67 (M.1 67)) 68 (M.1 68)) 69 (M.1 69)) 70 (M.1 70)) 71 (M.1 71)) 72 (M.1 72)) (c := 73) (f := M.1 73) (by first | rfl | (simp only [mput, mrow_same, mrow_hit, mrow_miss, mrow_sw, idr_eq, ne_eq, Nat.reduceEqDiff, not_false_eq_true, Nat.reduceLT, reduceCtorEq]; done))).symm).trans (by first | rfl | (simp only [mput, mrow_same, mrow_hit, mrow_miss, mrow_sw, idr_eq, ne_eq, Nat.reduceEqDiff, not_false_eq_true, Nat.reduceLT, reduceCtorEq]; done))) ?_
        exact G.reti (by decide +kernel) rfl rfl (Nat.le_of_ble_eq_true rfl) (Nat.le_of_ble_eq_true rfl) ((by rw [hQ]; simp only [k_work, if_pos c1, g3, if_neg c9, g11, if_pos c16, g79, mrow_self]))
    · skip
      rw [if_pos c9] at hk
      refine G.sl [(.iconst 0, 1, 0, 0, 0, nI 0)] [] (pc2 := 39) (ls2 := [some (.ref 54), some (.int x1), none, none]) (st2 := [.int (nI 0)]) (M2 := mrow (mrow M 54 r5) 55 r6) (Ps := []) (by decide +kernel) rfl rfl trivial ?_
      refine G.mem (M' := mrow (mrow (mrow (mrow (mrow (mrow (mrow (mrow (mrow M 54 r5) 55 r6) 67 (M.1 67)) 68 (M.1 68)) 69 (M.1 69)) 70 (M.1 70)) 71 (M.1 71)) 72 (M.1 72)) 73 (M.1 73)) (((((((((mrow_id (N := mrow (mrow M 54 r5) 55 r6) (c := 67) (f := M.1 67) (by first | rfl | (simp only [mput, mrow_same, mrow_hit, mrow_miss, mrow_sw, idr_eq, ne_eq, Nat.reduceEqDiff, not_false_eq_true, Nat.reduceLT, reduceCtorEq]; done))).symm).trans (mrow_id (N := mrow (mrow (mrow M 54 r5) 55 r6) 67 (M.1 67)) (c := 68) (f := M.1 68) (by first | rfl | (simp only [mput, mrow_same, mrow_hit, mrow_miss, mrow_sw, idr_eq, ne_eq, Nat.reduceEqDiff, not_false_eq_true, Nat.reduceLT, reduceCtorEq]; done))).symm).trans (mrow_id (N := mrow (mrow (mrow (mrow M 54 r5) 55 r6) 67 (M.1 67)) 68 (M.1 68)) (c := 69) (f := M.1 69) (by first | rfl | (simp only [mput, mrow_same, mrow_hit, mrow_miss, mrow_sw, idr_eq, ne_eq, Nat.reduceEqDiff, not_false_eq_true, Nat.reduceLT, reduceCtorEq]; done))).symm).trans (mrow_id (N := mrow (mrow (mrow (mrow (mrow M 54 r5) 55 r6) 67 (M.1 67)) 68 (M.1 68)) 69 (M.1 69)) (c := 70) (f := M.1 70) (by first | rfl | (simp only [mput, mrow_same, mrow_hit, mrow_miss, mrow_sw, idr_eq, ne_eq, Nat.reduceEqDiff, not_false_eq_true, Nat.reduceLT, reduceCtorEq]; done))).symm).trans (mrow_id (N := mrow (mrow (mrow (mrow (mrow (mrow M 54 r5) 55 r6) 67 (M.1 67)) 68 (M.1 68)) 69 (M.1 69)) 70 (M.1 70)) (c := 71) (f := M.1 71) (by first | rfl | (simp only [mput, mrow_same, mrow_hit, mrow_miss, mrow_sw, idr_eq, ne_eq, Nat.reduceEqDiff, not_false_eq_true, Nat.reduceLT, reduceCtorEq]; done))).symm).trans (mrow_id (N := mrow (mrow (mrow (mrow (mrow (mrow (mrow M 54 r5) 55 r6) 67 (M.1 67)) 68 (M.1 68)) 69 (M.1 69)) 70 (M.1 70)) 71 (M.1 71)) (c := 72) (f := M.1 72) (by first | rfl | (simp only [mput, mrow_same, mrow_hit, mrow_miss, mrow_sw, idr_eq, ne_eq, Nat.reduceEqDiff, not_false_eq_true, Nat.reduceLT, reduceCtorEq]; done))).symm).trans (mrow_id (N := mrow (mrow (mrow (mrow (mrow (mrow (mrow (mrow M 54 r5) 55 r6) 67 (M.1 67)) 68 (M.1 68)) 69 (M.1 69)) 70 (M.1 70)) 71 (M.1 71)) 72 (M.1 72)) (c := 73) (f := M.1 73) (by first | rfl | (simp only [mput, mrow_same, mrow_hit, mrow_miss, mrow_sw, idr_eq, ne_eq, Nat.reduceEqDiff, not_false_eq_true, Nat.reduceLT, reduceCtorEq]; done))).symm).trans (by first | rfl | (simp only [mput, mrow_same, mrow_hit, mrow_miss, mrow_sw, idr_eq, ne_eq, Nat.reduceEqDiff, not_false_eq_true, Nat.reduceLT, reduceCtorEq]; done))) ?_
      exact G.reti (by decide +kernel) rfl rfl (Nat.le_of_ble_eq_true rfl) (Nat.le_of_ble_eq_true rfl) ((by rw [hQ]; simp only [k_work, if_pos c1, g3, if_pos c9, mrow_self]))
  · skip
    rw [if_neg c1] at hk
    refine G.sl [(.iload_n 1, 1, 1, 0, 0, 0), (.aload_n 0, 1, 0, 0, 0, 0), (.getfield 98, 3, 11, 2, 125, 0)] [] (pc2 := 15) (ls2 := [some (.ref 54), some (.int x1), none, none]) (st2 := [.int (M.1 54 2), .int x1, .ref 54]) (M2 := mrow M 54 (upd (M.1 54) 0 (nI 0))) (Ps := []) (by decide +kernel) rfl rfl trivial ?_
    refine G.ic_gt (off := (14)) (tgt := 29) (by decide +kernel) rfl (fun c84 => ?_) (fun c84 => ?_)
    · skip
      rw [if_pos c84] at hk
      refine G.sl [(.iconst 0, 1, 0, 0, 0, nI 0), (.iconst 1, 1, 0, 0, 0, nI 1), (.iconst 1, 1, 0, 0, 0, nI 1)] [] (pc2 := 32) (ls2 := [some (.ref 54), some (.int x1), none, none]) (st2 := [.int (nI 1), .int (nI 1), .int (nI 0), .ref 54]) (M2 := mrow M 54 (upd (M.1 54) 0 (nI 0))) (Ps := []) (by decide +kernel) rfl rfl trivial ?_
      obtain ⟨k85, hk⟩ := hk
      rcases g86 : k_may_1 (upd (M.1 54) 0 (nI 0)) (M.1 55) (nI 0) (nI 1) with ⟨v87, r88, r89⟩
      try simp only [g86] at hk
      have ev87 : v87 = 0 ∨ v87 = 1 := by
        have q9 := k_may_1_01 (upd (M.1 54) 0 (nI 0)) (M.1 55) (nI 0) (nI 1)
        rw [g86] at q9
        exact q9
      have t90 : GM z mX12_may (d + 70) [.ref 54, .int (nI 0), .int (nI 1), .int (nI 1)] (mrow M 54 (upd (M.1 54) 0 (nI 0))) (fun rs => rs = .inl (some (.int v87), mrow (mrow M 54 r88) 55 r89)) := by
        have q9 := c_k_may_1_54 z (d + 70) (mrow M 54 (upd (M.1 54) 0 (nI 0))) (nI 0) (nI 1)
        try simp only [mput, mrow_same, mrow_hit, mrow_miss, mrow_sw, idr_eq, ne_eq, Nat.reduceEqDiff, not_false_eq_true, Nat.reduceLT, reduceCtorEq, g86] at q9
        exact q9
      refine G.callV (as := [.int (nI 0), .int (nI 1), .int (nI 1)]) (rest := []) (a := 54) oX12_may lk_EvenFindersModel_213 (by decide +kernel) rfl rfl ⟨rfl, rfl⟩ (Nat.le_of_ble_eq_true rfl) rfl ⟨Nat.le_of_ble_eq_true rfl, Nat.le_of_ble_eq_true rfl⟩ t90 (fun v9 N9 h91 => ?_) (fun E9 N9 h91 => by cases h91)
      cases h91
      show G z mX12_work (d + 71) 0 0 35 [some (.ref 54), some (.int x1), none, none] [.int v87] (mrow (mrow M 54 r88) 55 r89) Q
      refine G.if_ne (off := (5)) (tgt := 40) (by decide +kernel) rfl (fun c92 => ?_) (fun c92 => ?_)
      · skip
        rw [if_neg c92] at hk
        refine G.sl [(.aload_n 0, 1, 0, 0, 0, 0), (.iload_n 1, 1, 1, 0, 0, 0)] [] (pc2 := 42) (ls2 := [some (.ref 54), some (.int x1), none, none]) (st2 := [.int x1, .ref 54]) (M2 := mrow (mrow M 54 r88) 55 r89) (Ps := []) (by decide +kernel) rfl rfl trivial ?_
        obtain ⟨k93, hk⟩ := hk
        rcases g94 : k_begins r88 x1 with ⟨u95, r96⟩
        try simp only [g94] at hk
        have t97 : GM z mX12_begins (d + 70) [.ref 54, .int x1] (mrow (mrow M 54 r88) 55 r89) (fun rs => rs = .inl (none, mrow (mrow M 54 r96) 55 r89)) := by
          have q9 := c_k_begins_54 z (d + 70) (mrow (mrow M 54 r88) 55 r89) x1
          try simp only [mput, mrow_same, mrow_hit, mrow_miss, mrow_sw, idr_eq, ne_eq, Nat.reduceEqDiff, not_false_eq_true, Nat.reduceLT, reduceCtorEq, g94] at q9
          exact q9
        refine G.callV (as := [.int x1]) (rest := []) (a := 54) oX12_begins lk_EvenFindersModel_217 (by decide +kernel) rfl rfl ⟨rfl, rfl⟩ (Nat.le_of_ble_eq_true rfl) rfl ⟨Nat.le_of_ble_eq_true rfl, Nat.le_of_ble_eq_true rfl⟩ t97 (fun v9 N9 h98 => ?_) (fun E9 N9 h98 => by cases h98)
        cases h98
        show G z mX12_work (d + 71) 0 0 45 [some (.ref 54), some (.int x1), none, none] [] (mrow (mrow M 54 r96) 55 r89) Q
        refine G.sl [(.aload_n 0, 1, 0, 0, 0, 0), (.getfield 178, 3, 11, 35, 158, 0), (.bipush 16, 2, 0, 0, 0, nI 16)] [] (pc2 := 51) (ls2 := [some (.ref 54), some (.int x1), none, none]) (st2 := [.int (nI 16), .int (r96 35)]) (M2 := mrow (mrow M 54 r96) 55 r89) (Ps := []) (by decide +kernel) rfl rfl trivial ?_
        refine G.ic_ne (off := (12)) (tgt := 63) (by decide +kernel) rfl (fun c99 => ?_) (fun c99 => ?_)
        · skip
          rw [if_neg c99] at hk
          refine G.sl [(.aload_n 0, 1, 0, 0, 0, 0), (.iconst 0, 1, 0, 0, 0, nI 0), (.putfield 295, 3, 11, 34, 157, 0)] [] (pc2 := 68) (ls2 := [some (.ref 54), some (.int x1), none, none]) (st2 := []) (M2 := mput (mrow (mrow M 54 r96) 55 r89) 54 34 (nI 0)) (Ps := []) (by decide +kernel) rfl rfl trivial ?_
          refine G.mem (M' := mrow (mrow M 54 (upd r96 34 (nI 0))) 55 r89) (by first | rfl | (simp only [mput, mrow_same, mrow_hit, mrow_miss, mrow_sw, idr_eq, ne_eq, Nat.reduceEqDiff, not_false_eq_true, Nat.reduceLT, reduceCtorEq]; done)) ?_
          refine G.loc (ls2 := [some (.ref 54), none, none, none]) (by simp [subL]) ?_
          obtain ⟨k118, hk⟩ := hk
          refine G.mem (M' := mrow (mrow (mrow (mrow M 54 (upd r96 34 (nI 0))) 55 r89) 54 ((mrow (mrow M 54 (upd r96 34 (nI 0))) 55 r89).1 54)) 69 ((mrow (mrow M 54 (upd r96 34 (nI 0))) 55 r89).1 69)) (by simp only [mrow_self]) ?_
          refine lp_k_work_54_68 z d (mrow (mrow M 54 (upd r96 34 (nI 0))) 55 r89) Q FU ((mrow (mrow M 54 (upd r96 34 (nI 0))) 55 r89).1 54) ((mrow (mrow M 54 (upd r96 34 (nI 0))) 55 r89).1 69) (by first | (simp only [mput, mrow_same, mrow_hit, mrow_miss, mrow_sw, idr_eq, ne_eq, Nat.reduceEqDiff, not_false_eq_true, Nat.reduceLT, reduceCtorEq]; exact k118) | exact k118) ?_
          try simp only [mput, mrow_same, mrow_hit, mrow_miss, mrow_sw, idr_eq, ne_eq, Nat.reduceEqDiff, not_false_eq_true, Nat.reduceLT, reduceCtorEq]
          rcases g119 : k_work_68 (M.1 56) FU (upd r96 34 (nI 0)) (M.1 69) with ⟨r120, r121⟩
          try simp only [g119] at hk
          show G z mX12_work (d + 71) 0 0 89 [some (.ref 54), none, none, none] [] (mrow (mrow (mrow M 54 r120) 55 r89) 69 r121) Q
          refine G.sl [(.aload_n 0, 1, 0, 0, 0, 0), (.iconst 0, 1, 0, 0, 0, nI 0)] [] (pc2 := 91) (ls2 := [some (.ref 54), none, none, none]) (st2 := [.int (nI 0), .ref 54]) (M2 := mrow (mrow (mrow M 54 r120) 55 r89) 69 r121) (Ps := []) (by decide +kernel) rfl rfl trivial ?_
          obtain ⟨k122, hk⟩ := hk
          rcases g123 : k_result r120 (nI 0) with ⟨v124, r125⟩
          try simp only [g123] at hk
          have t126 : GM z mX12_result (d + 70) [.ref 54, .int (nI 0)] (mrow (mrow (mrow M 54 r120) 55 r89) 69 r121) (fun rs => rs = .inl (some (.int v124), mrow (mrow (mrow M 54 r125) 55 r89) 69 r121)) := by
            have q9 := c_k_result_54 z (d + 69) (mrow (mrow (mrow M 54 r120) 55 r89) 69 r121) (nI 0)
            try simp only [mput, mrow_same, mrow_hit, mrow_miss, mrow_sw, idr_eq, ne_eq, Nat.reduceEqDiff, not_false_eq_true, Nat.reduceLT, reduceCtorEq, g123] at q9
            exact q9
          refine G.callV (as := [.int (nI 0)]) (rest := []) (a := 54) oX12_result lk_EvenFindersModel_242 (by decide +kernel) rfl rfl ⟨rfl, rfl⟩ (Nat.le_of_ble_eq_true rfl) rfl ⟨Nat.le_of_ble_eq_true rfl, Nat.le_of_ble_eq_true rfl⟩ t126 (fun v9 N9 h127 => ?_) (fun E9 N9 h127 => by cases h127)
          cases h127
          show G z mX12_work (d + 71) 0 0 94 [some (.ref 54), none, none, none] [.int v124] (mrow (mrow (mrow M 54 r125) 55 r89) 69 r121) Q
          refine G.sl [(.istore_n 2, 1, 2, 0, 0, 0), (.aload_n 0, 1, 0, 0, 0, 0), (.getfield 101, 3, 11, 5, 128, 0), (.iconst (-1), 1, 0, 0, 0, (-1))] [] (pc2 := 100) (ls2 := [some (.ref 54), none, some (.int v124), none]) (st2 := [.int ((-1)), .int (r125 5)]) (M2 := mrow (mrow (mrow M 54 r125) 55 r89) 69 r121) (Ps := []) (by decide +kernel) rfl rfl trivial ?_
          refine G.ic_eq (off := (5)) (tgt := 105) (by decide +kernel) rfl (fun c128 => ?_) (fun c128 => ?_)
          · skip
            rw [if_pos c128] at hk
            refine G.sl [(.aload_n 0, 1, 0, 0, 0, 0), (.aload_n 0, 1, 0, 0, 0, 0), (.getfield 59, 3, 11, 32, 155, 0), (.aload_n 0, 1, 0, 0, 0, 0), (.getfield 62, 3, 11, 33, 156, 0), (.aload_n 0, 1, 0, 0, 0, 0), (.getfield 295, 3, 11, 34, 157, 0)] [] (pc2 := 118) (ls2 := [some (.ref 54), none, some (.int v124), none]) (st2 := [.int (r125 34), .ref 70, .ref 69, .ref 54]) (M2 := mrow (mrow (mrow M 54 r125) 55 r89) 69 r121) (Ps := []) (by decide +kernel) rfl rfl trivial ?_
            obtain ⟨k129, k130, hk⟩ := hk
            obtain ⟨k131, hk⟩ := hk
            refine G.eq (st' := [.int (nI (ix (r125 34))), .ref 70, .ref 69, .ref 54]) ?_ rfl (by rw [← (show r125 34 = nI (ix (r125 34)) from (ixE k129))]) rfl
            rcases g132 : k_copies_L150_L150 r121 (M.1 70) (ix (r125 34)) with ⟨u133, r134⟩
            try simp only [g132] at hk
            have t135 : GM z mX12_copies (d + 70) [.ref 54, .ref 69, .ref 70, .int (nI (ix (r125 34)))] (mrow (mrow (mrow M 54 r125) 55 r89) 69 r121) (fun rs => rs = .inl (none, mrow (mrow (mrow (mrow M 54 r125) 55 r89) 69 r121) 70 r134)) := by
              have q9 := c_k_copies_L150_L150_54_69_70 z (d + 70) (mrow (mrow (mrow M 54 r125) 55 r89) 69 r121) (ix (r125 34)) k130 k131
              try simp only [mput, mrow_same, mrow_hit, mrow_miss, mrow_sw, idr_eq, ne_eq, Nat.reduceEqDiff, not_false_eq_true, Nat.reduceLT, reduceCtorEq, g132] at q9
              exact q9
            refine G.callV (as := [.ref 69, .ref 70, .int (nI (ix (r125 34)))]) (rest := []) (a := 54) oX12_copies lk_EvenFindersModel_168 (by decide +kernel) rfl rfl ⟨rfl, rfl⟩ (Nat.le_of_ble_eq_true rfl) rfl ⟨Nat.le_of_ble_eq_true rfl, Nat.le_of_ble_eq_true rfl⟩ t135 (fun v9 N9 h136 => ?_) (fun E9 N9 h136 => by cases h136)
            cases h136
            show G z mX12_work (d + 71) 0 0 121 [some (.ref 54), none, some (.int v124), none] [] (mrow (mrow (mrow (mrow M 54 r125) 55 r89) 69 r121) 70 r134) Q
            refine G.sl [(.iconst 0, 1, 0, 0, 0, nI 0), (.istore_n 3, 1, 3, 0, 0, 0)] [] (pc2 := 123) (ls2 := [some (.ref 54), none, some (.int v124), some (.int (nI 0))]) (st2 := []) (M2 := mrow (mrow (mrow (mrow M 54 r125) 55 r89) 69 r121) 70 r134) (Ps := []) (by decide +kernel) rfl rfl trivial ?_
            refine G.loc (ls2 := [some (.ref 54), none, none, some (.int (nI 0))]) (by simp [subL]) ?_
            obtain ⟨k139, hk⟩ := hk
            refine lp_k_work_54_123 z d (mrow (mrow (mrow (mrow M 54 r125) 55 r89) 69 r121) 70 r134) Q (cN 51) (cN_eq 51) (by first | (simp only [mput, mrow_same, mrow_hit, mrow_miss, mrow_sw, idr_eq, ne_eq, Nat.reduceEqDiff, not_false_eq_true, Nat.reduceLT, reduceCtorEq]; exact k139) | exact k139) ?_
            try simp only [mput, mrow_same, mrow_hit, mrow_miss, mrow_sw, idr_eq, ne_eq, Nat.reduceEqDiff, not_false_eq_true, Nat.reduceLT, reduceCtorEq]
            show G z mX12_work (d + 71) 0 0 155 [some (.ref 54), none, none, none] [] (mrow (mrow (mrow (mrow (mrow M 54 r125) 55 r89) 69 r121) 70 r134) 73 (k_work_123 r125 (M.1 71) (M.1 73) (cN 51))) Q
            refine G.sl [(.aload_n 0, 1, 0, 0, 0, 0), (.dup, 1, 0, 0, 0, 0), (.getfield 178, 3, 11, 35, 158, 0), (.iconst 1, 1, 0, 0, 0, nI 1), (.iadd, 1, 0, 0, 0, 0), (.putfield 178, 3, 11, 35, 158, 0), (.aload_n 0, 1, 0, 0, 0, 0)] [] (pc2 := 166) (ls2 := [some (.ref 54), none, none, none]) (st2 := [.ref 54]) (M2 := mput (mrow (mrow (mrow (mrow (mrow M 54 r125) 55 r89) 69 r121) 70 r134) 73 (k_work_123 r125 (M.1 71) (M.1 73) (cN 51))) 54 35 ((r125 35) + (nI 1))) (Ps := []) (by decide +kernel) rfl rfl trivial ?_
            refine G.mem (M' := mrow (mrow (mrow (mrow (mrow M 54 (upd r125 35 ((r125 35) + (nI 1)))) 55 r89) 69 r121) 70 r134) 73 (k_work_123 r125 (M.1 71) (M.1 73) (cN 51))) (by first | rfl | (simp only [mput, mrow_same, mrow_hit, mrow_miss, mrow_sw, idr_eq, ne_eq, Nat.reduceEqDiff, not_false_eq_true, Nat.reduceLT, reduceCtorEq]; done)) ?_
            obtain ⟨k140, hk⟩ := hk
            rcases g141 : k_take (M.1 71) (M.1 72) with ⟨u142, r143⟩
            try simp only [g141] at hk
            have t144 : GM z mX12_take (d + 70) [.ref 54] (mrow (mrow (mrow (mrow (mrow M 54 (upd r125 35 ((r125 35) + (nI 1)))) 55 r89) 69 r121) 70 r134) 73 (k_work_123 r125 (M.1 71) (M.1 73) (cN 51))) (fun rs => rs = .inl (none, mrow (mrow (mrow (mrow (mrow (mrow M 54 (upd r125 35 ((r125 35) + (nI 1)))) 55 r89) 69 r121) 70 r134) 72 r143) 73 (k_work_123 r125 (M.1 71) (M.1 73) (cN 51)))) := by
              have q9 := c_k_take_54 z (d + 69) (mrow (mrow (mrow (mrow (mrow M 54 (upd r125 35 ((r125 35) + (nI 1)))) 55 r89) 69 r121) 70 r134) 73 (k_work_123 r125 (M.1 71) (M.1 73) (cN 51))) k140
              try simp only [mput, mrow_same, mrow_hit, mrow_miss, mrow_sw, idr_eq, ne_eq, Nat.reduceEqDiff, not_false_eq_true, Nat.reduceLT, reduceCtorEq, g141] at q9
              exact q9
            refine G.callV (as := []) (rest := []) (a := 54) oX12_take lk_EvenFindersModel_320 (by decide +kernel) rfl rfl ⟨rfl, rfl⟩ (Nat.le_of_ble_eq_true rfl) rfl ⟨Nat.le_of_ble_eq_true rfl, Nat.le_of_ble_eq_true rfl⟩ t144 (fun v9 N9 h145 => ?_) (fun E9 N9 h145 => by cases h145)
            cases h145
            show G z mX12_work (d + 71) 0 0 169 [some (.ref 54), none, none, none] [] (mrow (mrow (mrow (mrow (mrow (mrow M 54 (upd r125 35 ((r125 35) + (nI 1)))) 55 r89) 69 r121) 70 r134) 72 r143) 73 (k_work_123 r125 (M.1 71) (M.1 73) (cN 51))) Q
            refine G.sl [(.aload_n 0, 1, 0, 0, 0, 0), (.iconst 0, 1, 0, 0, 0, nI 0), (.putfield 323, 3, 11, 37, 160, 0), (.aload_n 0, 1, 0, 0, 0, 0), (.iconst 0, 1, 0, 0, 0, nI 0), (.putfield 326, 3, 11, 38, 161, 0), (.aload_n 0, 1, 0, 0, 0, 0), (.iconst 0, 1, 0, 0, 0, nI 0), (.putfield 329, 3, 11, 39, 162, 0), (.aload_n 0, 1, 0, 0, 0, 0), (.iconst 0, 1, 0, 0, 0, nI 0), (.aload_n 0, 1, 0, 0, 0, 0), (.getfield 295, 3, 11, 34, 157, 0)] [] (pc2 := 190) (ls2 := [some (.ref 54), none, none, none]) (st2 := [.int (r125 34), .int (nI 0), .ref 54]) (M2 := mput (mput (mput (mrow (mrow (mrow (mrow (mrow (mrow M 54 (upd r125 35 ((r125 35) + (nI 1)))) 55 r89) 69 r121) 70 r134) 72 r143) 73 (k_work_123 r125 (M.1 71) (M.1 73) (cN 51))) 54 37 (nI 0)) 54 38 (nI 0)) 54 39 (nI 0)) (Ps := []) (by decide +kernel) rfl rfl trivial ?_
            refine G.mem (M' := mrow (mrow (mrow (mrow (mrow (mrow M 54 (upd (upd (upd (upd r125 35 ((r125 35) + (nI 1))) 37 (nI 0)) 38 (nI 0)) 39 (nI 0))) 55 r89) 69 r121) 70 r134) 72 r143) 73 (k_work_123 r125 (M.1 71) (M.1 73) (cN 51))) (by first | rfl | (simp only [mput, mrow_same, mrow_hit, mrow_miss, mrow_sw, idr_eq, ne_eq, Nat.reduceEqDiff, not_false_eq_true, Nat.reduceLT, reduceCtorEq]; done)) ?_
            obtain ⟨k146, hk⟩ := hk
            rcases g147 : k_goesSteps (upd (upd (upd (upd r125 35 ((r125 35) + (nI 1))) 37 (nI 0)) 38 (nI 0)) 39 (nI 0)) (M.1 60) (M.1 61) (M.1 65) (M.1 66) (M.1 67) (M.1 68) r134 r143 (nI 0) (r125 34) with ⟨u148, r149, r150, r151, r152⟩
            try simp only [g147] at hk
            have t153 : GM z mX12_goesSteps (d + 70) [.ref 54, .int (nI 0), .int (r125 34)] (mrow (mrow (mrow (mrow (mrow (mrow M 54 (upd (upd (upd (upd r125 35 ((r125 35) + (nI 1))) 37 (nI 0)) 38 (nI 0)) 39 (nI 0))) 55 r89) 69 r121) 70 r134) 72 r143) 73 (k_work_123 r125 (M.1 71) (M.1 73) (cN 51))) (fun rs => rs = .inl (none, mrow (mrow (mrow (mrow (mrow (mrow (mrow (mrow M 54 r149) 55 r89) 67 r150) 68 r151) 69 r121) 70 r134) 72 r152) 73 (k_work_123 r125 (M.1 71) (M.1 73) (cN 51)))) := by
              have q9 := c_k_goesSteps_54 z d (mrow (mrow (mrow (mrow (mrow (mrow M 54 (upd (upd (upd (upd r125 35 ((r125 35) + (nI 1))) 37 (nI 0)) 38 (nI 0)) 39 (nI 0))) 55 r89) 69 r121) 70 r134) 72 r143) 73 (k_work_123 r125 (M.1 71) (M.1 73) (cN 51))) (nI 0) (r125 34) k146
              try simp only [mput, mrow_same, mrow_hit, mrow_miss, mrow_sw, idr_eq, ne_eq, Nat.reduceEqDiff, not_false_eq_true, Nat.reduceLT, reduceCtorEq, g147] at q9
              exact q9
            refine G.callV (as := [.int (nI 0), .int (r125 34)]) (rest := []) (a := 54) oX12_goesSteps lk_EvenFindersModel_332 (by decide +kernel) rfl rfl ⟨rfl, rfl⟩ (Nat.le_of_ble_eq_true rfl) rfl ⟨Nat.le_of_ble_eq_true rfl, Nat.le_of_ble_eq_true rfl⟩ t153 (fun v9 N9 h154 => ?_) (fun E9 N9 h154 => by cases h154)
            cases h154
            show G z mX12_work (d + 71) 0 0 193 [some (.ref 54), none, none, none] [] (mrow (mrow (mrow (mrow (mrow (mrow (mrow (mrow M 54 r149) 55 r89) 67 r150) 68 r151) 69 r121) 70 r134) 72 r152) 73 (k_work_123 r125 (M.1 71) (M.1 73) (cN 51))) Q
            refine G.sl [(.aload_n 0, 1, 0, 0, 0, 0), (.aload_n 0, 1, 0, 0, 0, 0), (.getfield 68, 3, 11, 41, 164, 0), (.aload_n 0, 1, 0, 0, 0, 0), (.getfield 65, 3, 11, 40, 163, 0), (.bipush 51, 2, 0, 0, 0, nI 51)] [] (pc2 := 204) (ls2 := [some (.ref 54), none, none, none]) (st2 := [.int (nI 51), .ref 71, .ref 72, .ref 54]) (M2 := mrow (mrow (mrow (mrow (mrow (mrow (mrow (mrow M 54 r149) 55 r89) 67 r150) 68 r151) 69 r121) 70 r134) 72 r152) 73 (k_work_123 r125 (M.1 71) (M.1 73) (cN 51))) (Ps := []) (by decide +kernel) rfl rfl trivial ?_
            obtain ⟨k155, hk⟩ := hk
            rcases g156 : k_copies_L51_L51 r152 (M.1 71) 51 with ⟨u157, r158⟩
            have t159 : GM z mX12_copies (d + 70) [.ref 54, .ref 72, .ref 71, .int (nI 51)] (mrow (mrow (mrow (mrow (mrow (mrow (mrow (mrow M 54 r149) 55 r89) 67 r150) 68 r151) 69 r121) 70 r134) 72 r152) 73 (k_work_123 r125 (M.1 71) (M.1 73) (cN 51))) (fun rs => rs = .inl (none, mrow (mrow (mrow (mrow (mrow (mrow (mrow (mrow (mrow M 54 r149) 55 r89) 67 r150) 68 r151) 69 r121) 70 r134) 71 r158) 72 r152) 73 (k_work_123 r125 (M.1 71) (M.1 73) (cN 51)))) := by
              have q9 := c_k_copies_L51_L51_54_72_71 z (d + 70) (mrow (mrow (mrow (mrow (mrow (mrow (mrow (mrow M 54 r149) 55 r89) 67 r150) 68 r151) 69 r121) 70 r134) 72 r152) 73 (k_work_123 r125 (M.1 71) (M.1 73) (cN 51))) 51 (by omega) k155
              try simp only [mput, mrow_same, mrow_hit, mrow_miss, mrow_sw, idr_eq, ne_eq, Nat.reduceEqDiff, not_false_eq_true, Nat.reduceLT, reduceCtorEq, g156] at q9
              exact q9
            refine G.callV (as := [.ref 72, .ref 71, .int (nI 51)]) (rest := []) (a := 54) oX12_copies lk_EvenFindersModel_168 (by decide +kernel) rfl rfl ⟨rfl, rfl⟩ (Nat.le_of_ble_eq_true rfl) rfl ⟨Nat.le_of_ble_eq_true rfl, Nat.le_of_ble_eq_true rfl⟩ t159 (fun v9 N9 h160 => ?_) (fun E9 N9 h160 => by cases h160)
            cases h160
            show G z mX12_work (d + 71) 0 0 207 [some (.ref 54), none, none, none] [] (mrow (mrow (mrow (mrow (mrow (mrow (mrow (mrow (mrow M 54 r149) 55 r89) 67 r150) 68 r151) 69 r121) 70 r134) 71 r158) 72 r152) 73 (k_work_123 r125 (M.1 71) (M.1 73) (cN 51))) Q
            refine G.sl [(.aload_n 0, 1, 0, 0, 0, 0), (.aload_n 0, 1, 0, 0, 0, 0), (.getfield 329, 3, 11, 39, 162, 0), (.putfield 184, 3, 11, 36, 159, 0), (.aload_n 0, 1, 0, 0, 0, 0), (.getfield 326, 3, 11, 38, 161, 0)] [] (pc2 := 219) (ls2 := [some (.ref 54), none, none, none]) (st2 := [.int (r149 38)]) (M2 := mput (mrow (mrow (mrow (mrow (mrow (mrow (mrow (mrow (mrow M 54 r149) 55 r89) 67 r150) 68 r151) 69 r121) 70 r134) 71 r158) 72 r152) 73 (k_work_123 r125 (M.1 71) (M.1 73) (cN 51))) 54 36 (r149 39)) (Ps := []) (by decide +kernel) rfl rfl trivial ?_
            refine G.mem (M' := mrow (mrow (mrow (mrow (mrow (mrow (mrow (mrow (mrow M 54 (upd r149 36 (r149 39))) 55 r89) 67 r150) 68 r151) 69 r121) 70 r134) 71 r158) 72 r152) 73 (k_work_123 r125 (M.1 71) (M.1 73) (cN 51))) (by first | rfl | (simp only [mput, mrow_same, mrow_hit, mrow_miss, mrow_sw, idr_eq, ne_eq, Nat.reduceEqDiff, not_false_eq_true, Nat.reduceLT, reduceCtorEq]; done)) ?_
            exact G.reti (by decide +kernel) rfl rfl (Nat.le_of_ble_eq_true rfl) (Nat.le_of_ble_eq_true rfl) ((by rw [hQ]; simp only [k_work, if_neg c1, if_pos c84, g86, if_neg c92, g94, if_neg c99, g119, g123, if_pos c128, g132, g141, g147, g156, mrow_self]))
          · skip
            rw [if_neg c128] at hk
            refine G.sl [(.iload_n 2, 1, 2, 0, 0, 0)] [] (pc2 := 104) (ls2 := [some (.ref 54), none, some (.int v124), none]) (st2 := [.int v124]) (M2 := mrow (mrow (mrow M 54 r125) 55 r89) 69 r121) (Ps := []) (by decide +kernel) rfl rfl trivial ?_
            refine G.mem (M' := mrow (mrow (mrow (mrow (mrow (mrow (mrow (mrow (mrow M 54 r125) 55 r89) 67 (M.1 67)) 68 (M.1 68)) 69 r121) 70 (M.1 70)) 71 (M.1 71)) 72 (M.1 72)) 73 (M.1 73)) ((((((((mrow_id (N := mrow (mrow (mrow M 54 r125) 55 r89) 69 r121) (c := 67) (f := M.1 67) (by first | rfl | (simp only [mput, mrow_same, mrow_hit, mrow_miss, mrow_sw, idr_eq, ne_eq, Nat.reduceEqDiff, not_false_eq_true, Nat.reduceLT, reduceCtorEq]; done))).symm).trans (mrow_id (N := mrow (mrow (mrow (mrow M 54 r125) 55 r89) 69 r121) 67 (M.1 67)) (c := 68) (f := M.1 68) (by first | rfl | (simp only [mput, mrow_same, mrow_hit, mrow_miss, mrow_sw, idr_eq, ne_eq, Nat.reduceEqDiff, not_false_eq_true, Nat.reduceLT, reduceCtorEq]; done))).symm).trans (mrow_id (N := mrow (mrow (mrow (mrow (mrow M 54 r125) 55 r89) 69 r121) 67 (M.1 67)) 68 (M.1 68)) (c := 70) (f := M.1 70) (by first | rfl | (simp only [mput, mrow_same, mrow_hit, mrow_miss, mrow_sw, idr_eq, ne_eq, Nat.reduceEqDiff, not_false_eq_true, Nat.reduceLT, reduceCtorEq]; done))).symm).trans (mrow_id (N := mrow (mrow (mrow (mrow (mrow (mrow M 54 r125) 55 r89) 69 r121) 67 (M.1 67)) 68 (M.1 68)) 70 (M.1 70)) (c := 71) (f := M.1 71) (by first | rfl | (simp only [mput, mrow_same, mrow_hit, mrow_miss, mrow_sw, idr_eq, ne_eq, Nat.reduceEqDiff, not_false_eq_true, Nat.reduceLT, reduceCtorEq]; done))).symm).trans (mrow_id (N := mrow (mrow (mrow (mrow (mrow (mrow (mrow M 54 r125) 55 r89) 69 r121) 67 (M.1 67)) 68 (M.1 68)) 70 (M.1 70)) 71 (M.1 71)) (c := 72) (f := M.1 72) (by first | rfl | (simp only [mput, mrow_same, mrow_hit, mrow_miss, mrow_sw, idr_eq, ne_eq, Nat.reduceEqDiff, not_false_eq_true, Nat.reduceLT, reduceCtorEq]; done))).symm).trans (mrow_id (N := mrow (mrow (mrow (mrow (mrow (mrow (mrow (mrow M 54 r125) 55 r89) 69 r121) 67 (M.1 67)) 68 (M.1 68)) 70 (M.1 70)) 71 (M.1 71)) 72 (M.1 72)) (c := 73) (f := M.1 73) (by first | rfl | (simp only [mput, mrow_same, mrow_hit, mrow_miss, mrow_sw, idr_eq, ne_eq, Nat.reduceEqDiff, not_false_eq_true, Nat.reduceLT, reduceCtorEq]; done))).symm).trans (by first | rfl | (simp only [mput, mrow_same, mrow_hit, mrow_miss, mrow_sw, idr_eq, ne_eq, Nat.reduceEqDiff, not_false_eq_true, Nat.reduceLT, reduceCtorEq]; done))) ?_
            exact G.reti (by decide +kernel) rfl rfl (Nat.le_of_ble_eq_true rfl) (Nat.le_of_ble_eq_true rfl) ((by rw [hQ]; simp only [k_work, if_neg c1, if_pos c84, g86, if_neg c92, g94, if_neg c99, g119, g123, if_neg c128, mrow_self]))
        · skip
          rw [if_pos c99] at hk
          refine G.sl [(.aload_n 0, 1, 0, 0, 0, 0), (.iconst 0, 1, 0, 0, 0, nI 0)] [] (pc2 := 56) (ls2 := [some (.ref 54), some (.int x1), none, none]) (st2 := [.int (nI 0), .ref 54]) (M2 := mrow (mrow M 54 r96) 55 r89) (Ps := []) (by decide +kernel) rfl rfl trivial ?_
          rcases g162 : k_result r96 (nI 0) with ⟨v163, r164⟩
          have t165 : GM z mX12_result (d + 70) [.ref 54, .int (nI 0)] (mrow (mrow M 54 r96) 55 r89) (fun rs => rs = .inl (some (.int v163), mrow (mrow M 54 r164) 55 r89)) := by
            have q9 := c_k_result_54 z (d + 69) (mrow (mrow M 54 r96) 55 r89) (nI 0)
            try simp only [mput, mrow_same, mrow_hit, mrow_miss, mrow_sw, idr_eq, ne_eq, Nat.reduceEqDiff, not_false_eq_true, Nat.reduceLT, reduceCtorEq, g162] at q9
            exact q9
          refine G.callV (as := [.int (nI 0)]) (rest := []) (a := 54) oX12_result lk_EvenFindersModel_242 (by decide +kernel) rfl rfl ⟨rfl, rfl⟩ (Nat.le_of_ble_eq_true rfl) rfl ⟨Nat.le_of_ble_eq_true rfl, Nat.le_of_ble_eq_true rfl⟩ t165 (fun v9 N9 h166 => ?_) (fun E9 N9 h166 => by cases h166)
          cases h166
          show G z mX12_work (d + 71) 0 0 59 [some (.ref 54), some (.int x1), none, none] [.int v163] (mrow (mrow M 54 r164) 55 r89) Q
          refine G.sl [(.pop, 1, 0, 0, 0, 0), (.bipush (-20), 2, 0, 0, 0, (-20))] [] (pc2 := 62) (ls2 := [some (.ref 54), some (.int x1), none, none]) (st2 := [.int ((-20))]) (M2 := mrow (mrow M 54 r164) 55 r89) (Ps := []) (by decide +kernel) rfl rfl trivial ?_
          refine G.mem (M' := mrow (mrow (mrow (mrow (mrow (mrow (mrow (mrow (mrow M 54 r164) 55 r89) 67 (M.1 67)) 68 (M.1 68)) 69 (M.1 69)) 70 (M.1 70)) 71 (M.1 71)) 72 (M.1 72)) 73 (M.1 73)) (((((((((mrow_id (N := mrow (mrow M 54 r164) 55 r89) (c := 67) (f := M.1 67) (by first | rfl | (simp only [mput, mrow_same, mrow_hit, mrow_miss, mrow_sw, idr_eq, ne_eq, Nat.reduceEqDiff, not_false_eq_true, Nat.reduceLT, reduceCtorEq]; done))).symm).trans (mrow_id (N := mrow (mrow (mrow M 54 r164) 55 r89) 67 (M.1 67)) (c := 68) (f := M.1 68) (by first | rfl | (simp only [mput, mrow_same, mrow_hit, mrow_miss, mrow_sw, idr_eq, ne_eq, Nat.reduceEqDiff, not_false_eq_true, Nat.reduceLT, reduceCtorEq]; done))).symm).trans (mrow_id (N := mrow (mrow (mrow (mrow M 54 r164) 55 r89) 67 (M.1 67)) 68 (M.1 68)) (c := 69) (f := M.1 69) (by first | rfl | (simp only [mput, mrow_same, mrow_hit, mrow_miss, mrow_sw, idr_eq, ne_eq, Nat.reduceEqDiff, not_false_eq_true, Nat.reduceLT, reduceCtorEq]; done))).symm).trans (mrow_id (N := mrow (mrow (mrow (mrow (mrow M 54 r164) 55 r89) 67 (M.1 67)) 68 (M.1 68)) 69 (M.1 69)) (c := 70) (f := M.1 70) (by first | rfl | (simp only [mput, mrow_same, mrow_hit, mrow_miss, mrow_sw, idr_eq, ne_eq, Nat.reduceEqDiff, not_false_eq_true, Nat.reduceLT, reduceCtorEq]; done))).symm).trans (mrow_id (N := mrow (mrow (mrow (mrow (mrow (mrow M 54 r164) 55 r89) 67 (M.1 67)) 68 (M.1 68)) 69 (M.1 69)) 70 (M.1 70)) (c := 71) (f := M.1 71) (by first | rfl | (simp only [mput, mrow_same, mrow_hit, mrow_miss, mrow_sw, idr_eq, ne_eq, Nat.reduceEqDiff, not_false_eq_true, Nat.reduceLT, reduceCtorEq]; done))).symm).trans (mrow_id (N := mrow (mrow (mrow (mrow (mrow (mrow (mrow M 54 r164) 55 r89) 67 (M.1 67)) 68 (M.1 68)) 69 (M.1 69)) 70 (M.1 70)) 71 (M.1 71)) (c := 72) (f := M.1 72) (by first | rfl | (simp only [mput, mrow_same, mrow_hit, mrow_miss, mrow_sw, idr_eq, ne_eq, Nat.reduceEqDiff, not_false_eq_true, Nat.reduceLT, reduceCtorEq]; done))).symm).trans (mrow_id (N := mrow (mrow (mrow (mrow (mrow (mrow (mrow (mrow M 54 r164) 55 r89) 67 (M.1 67)) 68 (M.1 68)) 69 (M.1 69)) 70 (M.1 70)) 71 (M.1 71)) 72 (M.1 72)) (c := 73) (f := M.1 73) (by first | rfl | (simp only [mput, mrow_same, mrow_hit, mrow_miss, mrow_sw, idr_eq, ne_eq, Nat.reduceEqDiff, not_false_eq_true, Nat.reduceLT, reduceCtorEq]; done))).symm).trans (by first | rfl | (simp only [mput, mrow_same, mrow_hit, mrow_miss, mrow_sw, idr_eq, ne_eq, Nat.reduceEqDiff, not_false_eq_true, Nat.reduceLT, reduceCtorEq]; done))) ?_
          exact G.reti (by decide +kernel) rfl rfl (Nat.le_of_ble_eq_true rfl) (Nat.le_of_ble_eq_true rfl) ((by rw [hQ]; simp only [k_work, if_neg c1, if_pos c84, g86, if_neg c92, g94, if_pos c99, g162, mrow_self]))
      · skip
        rw [if_pos c92] at hk
        refine G.sl [(.iconst 0, 1, 0, 0, 0, nI 0)] [] (pc2 := 39) (ls2 := [some (.ref 54), some (.int x1), none, none]) (st2 := [.int (nI 0)]) (M2 := mrow (mrow M 54 r88) 55 r89) (Ps := []) (by decide +kernel) rfl rfl trivial ?_
        refine G.mem (M' := mrow (mrow (mrow (mrow (mrow (mrow (mrow (mrow (mrow M 54 r88) 55 r89) 67 (M.1 67)) 68 (M.1 68)) 69 (M.1 69)) 70 (M.1 70)) 71 (M.1 71)) 72 (M.1 72)) 73 (M.1 73)) (((((((((mrow_id (N := mrow (mrow M 54 r88) 55 r89) (c := 67) (f := M.1 67) (by first | rfl | (simp only [mput, mrow_same, mrow_hit, mrow_miss, mrow_sw, idr_eq, ne_eq, Nat.reduceEqDiff, not_false_eq_true, Nat.reduceLT, reduceCtorEq]; done))).symm).trans (mrow_id (N := mrow (mrow (mrow M 54 r88) 55 r89) 67 (M.1 67)) (c := 68) (f := M.1 68) (by first | rfl | (simp only [mput, mrow_same, mrow_hit, mrow_miss, mrow_sw, idr_eq, ne_eq, Nat.reduceEqDiff, not_false_eq_true, Nat.reduceLT, reduceCtorEq]; done))).symm).trans (mrow_id (N := mrow (mrow (mrow (mrow M 54 r88) 55 r89) 67 (M.1 67)) 68 (M.1 68)) (c := 69) (f := M.1 69) (by first | rfl | (simp only [mput, mrow_same, mrow_hit, mrow_miss, mrow_sw, idr_eq, ne_eq, Nat.reduceEqDiff, not_false_eq_true, Nat.reduceLT, reduceCtorEq]; done))).symm).trans (mrow_id (N := mrow (mrow (mrow (mrow (mrow M 54 r88) 55 r89) 67 (M.1 67)) 68 (M.1 68)) 69 (M.1 69)) (c := 70) (f := M.1 70) (by first | rfl | (simp only [mput, mrow_same, mrow_hit, mrow_miss, mrow_sw, idr_eq, ne_eq, Nat.reduceEqDiff, not_false_eq_true, Nat.reduceLT, reduceCtorEq]; done))).symm).trans (mrow_id (N := mrow (mrow (mrow (mrow (mrow (mrow M 54 r88) 55 r89) 67 (M.1 67)) 68 (M.1 68)) 69 (M.1 69)) 70 (M.1 70)) (c := 71) (f := M.1 71) (by first | rfl | (simp only [mput, mrow_same, mrow_hit, mrow_miss, mrow_sw, idr_eq, ne_eq, Nat.reduceEqDiff, not_false_eq_true, Nat.reduceLT, reduceCtorEq]; done))).symm).trans (mrow_id (N := mrow (mrow (mrow (mrow (mrow (mrow (mrow M 54 r88) 55 r89) 67 (M.1 67)) 68 (M.1 68)) 69 (M.1 69)) 70 (M.1 70)) 71 (M.1 71)) (c := 72) (f := M.1 72) (by first | rfl | (simp only [mput, mrow_same, mrow_hit, mrow_miss, mrow_sw, idr_eq, ne_eq, Nat.reduceEqDiff, not_false_eq_true, Nat.reduceLT, reduceCtorEq]; done))).symm).trans (mrow_id (N := mrow (mrow (mrow (mrow (mrow (mrow (mrow (mrow M 54 r88) 55 r89) 67 (M.1 67)) 68 (M.1 68)) 69 (M.1 69)) 70 (M.1 70)) 71 (M.1 71)) 72 (M.1 72)) (c := 73) (f := M.1 73) (by first | rfl | (simp only [mput, mrow_same, mrow_hit, mrow_miss, mrow_sw, idr_eq, ne_eq, Nat.reduceEqDiff, not_false_eq_true, Nat.reduceLT, reduceCtorEq]; done))).symm).trans (by first | rfl | (simp only [mput, mrow_same, mrow_hit, mrow_miss, mrow_sw, idr_eq, ne_eq, Nat.reduceEqDiff, not_false_eq_true, Nat.reduceLT, reduceCtorEq]; done))) ?_
        exact G.reti (by decide +kernel) rfl rfl (Nat.le_of_ble_eq_true rfl) (Nat.le_of_ble_eq_true rfl) ((by rw [hQ]; simp only [k_work, if_neg c1, if_pos c84, g86, if_pos c92, mrow_self]))
    · skip
      rw [if_neg c84] at hk
      refine G.sl [(.iload_n 1, 1, 1, 0, 0, 0), (.sipush 150, 3, 0, 0, 0, nI 150)] [] (pc2 := 22) (ls2 := [some (.ref 54), some (.int x1), none, none]) (st2 := [.int (nI 150), .int x1, .ref 54]) (M2 := mrow M 54 (upd (M.1 54) 0 (nI 0))) (Ps := []) (by decide +kernel) rfl rfl trivial ?_
      refine G.ic_gt (off := (7)) (tgt := 29) (by decide +kernel) rfl (fun c167 => ?_) (fun c167 => ?_)
      · skip
        rw [if_pos c167] at hk
        refine G.sl [(.iconst 0, 1, 0, 0, 0, nI 0), (.iconst 1, 1, 0, 0, 0, nI 1), (.iconst 1, 1, 0, 0, 0, nI 1)] [] (pc2 := 32) (ls2 := [some (.ref 54), some (.int x1), none, none]) (st2 := [.int (nI 1), .int (nI 1), .int (nI 0), .ref 54]) (M2 := mrow M 54 (upd (M.1 54) 0 (nI 0))) (Ps := []) (by decide +kernel) rfl rfl trivial ?_
        obtain ⟨k168, hk⟩ := hk
        rcases g169 : k_may_1 (upd (M.1 54) 0 (nI 0)) (M.1 55) (nI 0) (nI 1) with ⟨v170, r171, r172⟩
        try simp only [g169] at hk
        have ev170 : v170 = 0 ∨ v170 = 1 := by
          have q9 := k_may_1_01 (upd (M.1 54) 0 (nI 0)) (M.1 55) (nI 0) (nI 1)
          rw [g169] at q9
          exact q9
        have t173 : GM z mX12_may (d + 70) [.ref 54, .int (nI 0), .int (nI 1), .int (nI 1)] (mrow M 54 (upd (M.1 54) 0 (nI 0))) (fun rs => rs = .inl (some (.int v170), mrow (mrow M 54 r171) 55 r172)) := by
          have q9 := c_k_may_1_54 z (d + 70) (mrow M 54 (upd (M.1 54) 0 (nI 0))) (nI 0) (nI 1)
          try simp only [mput, mrow_same, mrow_hit, mrow_miss, mrow_sw, idr_eq, ne_eq, Nat.reduceEqDiff, not_false_eq_true, Nat.reduceLT, reduceCtorEq, g169] at q9
          exact q9
        refine G.callV (as := [.int (nI 0), .int (nI 1), .int (nI 1)]) (rest := []) (a := 54) oX12_may lk_EvenFindersModel_213 (by decide +kernel) rfl rfl ⟨rfl, rfl⟩ (Nat.le_of_ble_eq_true rfl) rfl ⟨Nat.le_of_ble_eq_true rfl, Nat.le_of_ble_eq_true rfl⟩ t173 (fun v9 N9 h174 => ?_) (fun E9 N9 h174 => by cases h174)
        cases h174
        show G z mX12_work (d + 71) 0 0 35 [some (.ref 54), some (.int x1), none, none] [.int v170] (mrow (mrow M 54 r171) 55 r172) Q
        refine G.if_ne (off := (5)) (tgt := 40) (by decide +kernel) rfl (fun c175 => ?_) (fun c175 => ?_)
        · skip
          rw [if_neg c175] at hk
          refine G.sl [(.aload_n 0, 1, 0, 0, 0, 0), (.iload_n 1, 1, 1, 0, 0, 0)] [] (pc2 := 42) (ls2 := [some (.ref 54), some (.int x1), none, none]) (st2 := [.int x1, .ref 54]) (M2 := mrow (mrow M 54 r171) 55 r172) (Ps := []) (by decide +kernel) rfl rfl trivial ?_
          obtain ⟨k176, hk⟩ := hk
          rcases g177 : k_begins r171 x1 with ⟨u178, r179⟩
          try simp only [g177] at hk
          have t180 : GM z mX12_begins (d + 70) [.ref 54, .int x1] (mrow (mrow M 54 r171) 55 r172) (fun rs => rs = .inl (none, mrow (mrow M 54 r179) 55 r172)) := by
            have q9 := c_k_begins_54 z (d + 70) (mrow (mrow M 54 r171) 55 r172) x1
            try simp only [mput, mrow_same, mrow_hit, mrow_miss, mrow_sw, idr_eq, ne_eq, Nat.reduceEqDiff, not_false_eq_true, Nat.reduceLT, reduceCtorEq, g177] at q9
            exact q9
          refine G.callV (as := [.int x1]) (rest := []) (a := 54) oX12_begins lk_EvenFindersModel_217 (by decide +kernel) rfl rfl ⟨rfl, rfl⟩ (Nat.le_of_ble_eq_true rfl) rfl ⟨Nat.le_of_ble_eq_true rfl, Nat.le_of_ble_eq_true rfl⟩ t180 (fun v9 N9 h181 => ?_) (fun E9 N9 h181 => by cases h181)
          cases h181
          show G z mX12_work (d + 71) 0 0 45 [some (.ref 54), some (.int x1), none, none] [] (mrow (mrow M 54 r179) 55 r172) Q
          refine G.sl [(.aload_n 0, 1, 0, 0, 0, 0), (.getfield 178, 3, 11, 35, 158, 0), (.bipush 16, 2, 0, 0, 0, nI 16)] [] (pc2 := 51) (ls2 := [some (.ref 54), some (.int x1), none, none]) (st2 := [.int (nI 16), .int (r179 35)]) (M2 := mrow (mrow M 54 r179) 55 r172) (Ps := []) (by decide +kernel) rfl rfl trivial ?_
          refine G.ic_ne (off := (12)) (tgt := 63) (by decide +kernel) rfl (fun c182 => ?_) (fun c182 => ?_)
          · skip
            rw [if_neg c182] at hk
            refine G.sl [(.aload_n 0, 1, 0, 0, 0, 0), (.iconst 0, 1, 0, 0, 0, nI 0), (.putfield 295, 3, 11, 34, 157, 0)] [] (pc2 := 68) (ls2 := [some (.ref 54), some (.int x1), none, none]) (st2 := []) (M2 := mput (mrow (mrow M 54 r179) 55 r172) 54 34 (nI 0)) (Ps := []) (by decide +kernel) rfl rfl trivial ?_
            refine G.mem (M' := mrow (mrow M 54 (upd r179 34 (nI 0))) 55 r172) (by first | rfl | (simp only [mput, mrow_same, mrow_hit, mrow_miss, mrow_sw, idr_eq, ne_eq, Nat.reduceEqDiff, not_false_eq_true, Nat.reduceLT, reduceCtorEq]; done)) ?_
            refine G.loc (ls2 := [some (.ref 54), none, none, none]) (by simp [subL]) ?_
            obtain ⟨k201, hk⟩ := hk
            refine G.mem (M' := mrow (mrow (mrow (mrow M 54 (upd r179 34 (nI 0))) 55 r172) 54 ((mrow (mrow M 54 (upd r179 34 (nI 0))) 55 r172).1 54)) 69 ((mrow (mrow M 54 (upd r179 34 (nI 0))) 55 r172).1 69)) (by simp only [mrow_self]) ?_
            refine lp_k_work_54_68 z d (mrow (mrow M 54 (upd r179 34 (nI 0))) 55 r172) Q FU ((mrow (mrow M 54 (upd r179 34 (nI 0))) 55 r172).1 54) ((mrow (mrow M 54 (upd r179 34 (nI 0))) 55 r172).1 69) (by first | (simp only [mput, mrow_same, mrow_hit, mrow_miss, mrow_sw, idr_eq, ne_eq, Nat.reduceEqDiff, not_false_eq_true, Nat.reduceLT, reduceCtorEq]; exact k201) | exact k201) ?_
            try simp only [mput, mrow_same, mrow_hit, mrow_miss, mrow_sw, idr_eq, ne_eq, Nat.reduceEqDiff, not_false_eq_true, Nat.reduceLT, reduceCtorEq]
            rcases g202 : k_work_68 (M.1 56) FU (upd r179 34 (nI 0)) (M.1 69) with ⟨r203, r204⟩
            try simp only [g202] at hk
            show G z mX12_work (d + 71) 0 0 89 [some (.ref 54), none, none, none] [] (mrow (mrow (mrow M 54 r203) 55 r172) 69 r204) Q
            refine G.sl [(.aload_n 0, 1, 0, 0, 0, 0), (.iconst 0, 1, 0, 0, 0, nI 0)] [] (pc2 := 91) (ls2 := [some (.ref 54), none, none, none]) (st2 := [.int (nI 0), .ref 54]) (M2 := mrow (mrow (mrow M 54 r203) 55 r172) 69 r204) (Ps := []) (by decide +kernel) rfl rfl trivial ?_
            obtain ⟨k205, hk⟩ := hk
            rcases g206 : k_result r203 (nI 0) with ⟨v207, r208⟩
            try simp only [g206] at hk
            have t209 : GM z mX12_result (d + 70) [.ref 54, .int (nI 0)] (mrow (mrow (mrow M 54 r203) 55 r172) 69 r204) (fun rs => rs = .inl (some (.int v207), mrow (mrow (mrow M 54 r208) 55 r172) 69 r204)) := by
              have q9 := c_k_result_54 z (d + 69) (mrow (mrow (mrow M 54 r203) 55 r172) 69 r204) (nI 0)
              try simp only [mput, mrow_same, mrow_hit, mrow_miss, mrow_sw, idr_eq, ne_eq, Nat.reduceEqDiff, not_false_eq_true, Nat.reduceLT, reduceCtorEq, g206] at q9
              exact q9
            refine G.callV (as := [.int (nI 0)]) (rest := []) (a := 54) oX12_result lk_EvenFindersModel_242 (by decide +kernel) rfl rfl ⟨rfl, rfl⟩ (Nat.le_of_ble_eq_true rfl) rfl ⟨Nat.le_of_ble_eq_true rfl, Nat.le_of_ble_eq_true rfl⟩ t209 (fun v9 N9 h210 => ?_) (fun E9 N9 h210 => by cases h210)
            cases h210
            show G z mX12_work (d + 71) 0 0 94 [some (.ref 54), none, none, none] [.int v207] (mrow (mrow (mrow M 54 r208) 55 r172) 69 r204) Q
            refine G.sl [(.istore_n 2, 1, 2, 0, 0, 0), (.aload_n 0, 1, 0, 0, 0, 0), (.getfield 101, 3, 11, 5, 128, 0), (.iconst (-1), 1, 0, 0, 0, (-1))] [] (pc2 := 100) (ls2 := [some (.ref 54), none, some (.int v207), none]) (st2 := [.int ((-1)), .int (r208 5)]) (M2 := mrow (mrow (mrow M 54 r208) 55 r172) 69 r204) (Ps := []) (by decide +kernel) rfl rfl trivial ?_
            refine G.ic_eq (off := (5)) (tgt := 105) (by decide +kernel) rfl (fun c211 => ?_) (fun c211 => ?_)
            · skip
              rw [if_pos c211] at hk
              refine G.sl [(.aload_n 0, 1, 0, 0, 0, 0), (.aload_n 0, 1, 0, 0, 0, 0), (.getfield 59, 3, 11, 32, 155, 0), (.aload_n 0, 1, 0, 0, 0, 0), (.getfield 62, 3, 11, 33, 156, 0), (.aload_n 0, 1, 0, 0, 0, 0), (.getfield 295, 3, 11, 34, 157, 0)] [] (pc2 := 118) (ls2 := [some (.ref 54), none, some (.int v207), none]) (st2 := [.int (r208 34), .ref 70, .ref 69, .ref 54]) (M2 := mrow (mrow (mrow M 54 r208) 55 r172) 69 r204) (Ps := []) (by decide +kernel) rfl rfl trivial ?_
              obtain ⟨k212, k213, hk⟩ := hk
              obtain ⟨k214, hk⟩ := hk
              refine G.eq (st' := [.int (nI (ix (r208 34))), .ref 70, .ref 69, .ref 54]) ?_ rfl (by rw [← (show r208 34 = nI (ix (r208 34)) from (ixE k212))]) rfl
              rcases g215 : k_copies_L150_L150 r204 (M.1 70) (ix (r208 34)) with ⟨u216, r217⟩
              try simp only [g215] at hk
              have t218 : GM z mX12_copies (d + 70) [.ref 54, .ref 69, .ref 70, .int (nI (ix (r208 34)))] (mrow (mrow (mrow M 54 r208) 55 r172) 69 r204) (fun rs => rs = .inl (none, mrow (mrow (mrow (mrow M 54 r208) 55 r172) 69 r204) 70 r217)) := by
                have q9 := c_k_copies_L150_L150_54_69_70 z (d + 70) (mrow (mrow (mrow M 54 r208) 55 r172) 69 r204) (ix (r208 34)) k213 k214
                try simp only [mput, mrow_same, mrow_hit, mrow_miss, mrow_sw, idr_eq, ne_eq, Nat.reduceEqDiff, not_false_eq_true, Nat.reduceLT, reduceCtorEq, g215] at q9
                exact q9
              refine G.callV (as := [.ref 69, .ref 70, .int (nI (ix (r208 34)))]) (rest := []) (a := 54) oX12_copies lk_EvenFindersModel_168 (by decide +kernel) rfl rfl ⟨rfl, rfl⟩ (Nat.le_of_ble_eq_true rfl) rfl ⟨Nat.le_of_ble_eq_true rfl, Nat.le_of_ble_eq_true rfl⟩ t218 (fun v9 N9 h219 => ?_) (fun E9 N9 h219 => by cases h219)
              cases h219
              show G z mX12_work (d + 71) 0 0 121 [some (.ref 54), none, some (.int v207), none] [] (mrow (mrow (mrow (mrow M 54 r208) 55 r172) 69 r204) 70 r217) Q
              refine G.sl [(.iconst 0, 1, 0, 0, 0, nI 0), (.istore_n 3, 1, 3, 0, 0, 0)] [] (pc2 := 123) (ls2 := [some (.ref 54), none, some (.int v207), some (.int (nI 0))]) (st2 := []) (M2 := mrow (mrow (mrow (mrow M 54 r208) 55 r172) 69 r204) 70 r217) (Ps := []) (by decide +kernel) rfl rfl trivial ?_
              refine G.loc (ls2 := [some (.ref 54), none, none, some (.int (nI 0))]) (by simp [subL]) ?_
              obtain ⟨k222, hk⟩ := hk
              refine lp_k_work_54_123 z d (mrow (mrow (mrow (mrow M 54 r208) 55 r172) 69 r204) 70 r217) Q (cN 51) (cN_eq 51) (by first | (simp only [mput, mrow_same, mrow_hit, mrow_miss, mrow_sw, idr_eq, ne_eq, Nat.reduceEqDiff, not_false_eq_true, Nat.reduceLT, reduceCtorEq]; exact k222) | exact k222) ?_
              try simp only [mput, mrow_same, mrow_hit, mrow_miss, mrow_sw, idr_eq, ne_eq, Nat.reduceEqDiff, not_false_eq_true, Nat.reduceLT, reduceCtorEq]
              show G z mX12_work (d + 71) 0 0 155 [some (.ref 54), none, none, none] [] (mrow (mrow (mrow (mrow (mrow M 54 r208) 55 r172) 69 r204) 70 r217) 73 (k_work_123 r208 (M.1 71) (M.1 73) (cN 51))) Q
              refine G.sl [(.aload_n 0, 1, 0, 0, 0, 0), (.dup, 1, 0, 0, 0, 0), (.getfield 178, 3, 11, 35, 158, 0), (.iconst 1, 1, 0, 0, 0, nI 1), (.iadd, 1, 0, 0, 0, 0), (.putfield 178, 3, 11, 35, 158, 0), (.aload_n 0, 1, 0, 0, 0, 0)] [] (pc2 := 166) (ls2 := [some (.ref 54), none, none, none]) (st2 := [.ref 54]) (M2 := mput (mrow (mrow (mrow (mrow (mrow M 54 r208) 55 r172) 69 r204) 70 r217) 73 (k_work_123 r208 (M.1 71) (M.1 73) (cN 51))) 54 35 ((r208 35) + (nI 1))) (Ps := []) (by decide +kernel) rfl rfl trivial ?_
              refine G.mem (M' := mrow (mrow (mrow (mrow (mrow M 54 (upd r208 35 ((r208 35) + (nI 1)))) 55 r172) 69 r204) 70 r217) 73 (k_work_123 r208 (M.1 71) (M.1 73) (cN 51))) (by first | rfl | (simp only [mput, mrow_same, mrow_hit, mrow_miss, mrow_sw, idr_eq, ne_eq, Nat.reduceEqDiff, not_false_eq_true, Nat.reduceLT, reduceCtorEq]; done)) ?_
              obtain ⟨k223, hk⟩ := hk
              rcases g224 : k_take (M.1 71) (M.1 72) with ⟨u225, r226⟩
              try simp only [g224] at hk
              have t227 : GM z mX12_take (d + 70) [.ref 54] (mrow (mrow (mrow (mrow (mrow M 54 (upd r208 35 ((r208 35) + (nI 1)))) 55 r172) 69 r204) 70 r217) 73 (k_work_123 r208 (M.1 71) (M.1 73) (cN 51))) (fun rs => rs = .inl (none, mrow (mrow (mrow (mrow (mrow (mrow M 54 (upd r208 35 ((r208 35) + (nI 1)))) 55 r172) 69 r204) 70 r217) 72 r226) 73 (k_work_123 r208 (M.1 71) (M.1 73) (cN 51)))) := by
                have q9 := c_k_take_54 z (d + 69) (mrow (mrow (mrow (mrow (mrow M 54 (upd r208 35 ((r208 35) + (nI 1)))) 55 r172) 69 r204) 70 r217) 73 (k_work_123 r208 (M.1 71) (M.1 73) (cN 51))) k223
                try simp only [mput, mrow_same, mrow_hit, mrow_miss, mrow_sw, idr_eq, ne_eq, Nat.reduceEqDiff, not_false_eq_true, Nat.reduceLT, reduceCtorEq, g224] at q9
                exact q9
              refine G.callV (as := []) (rest := []) (a := 54) oX12_take lk_EvenFindersModel_320 (by decide +kernel) rfl rfl ⟨rfl, rfl⟩ (Nat.le_of_ble_eq_true rfl) rfl ⟨Nat.le_of_ble_eq_true rfl, Nat.le_of_ble_eq_true rfl⟩ t227 (fun v9 N9 h228 => ?_) (fun E9 N9 h228 => by cases h228)
              cases h228
              show G z mX12_work (d + 71) 0 0 169 [some (.ref 54), none, none, none] [] (mrow (mrow (mrow (mrow (mrow (mrow M 54 (upd r208 35 ((r208 35) + (nI 1)))) 55 r172) 69 r204) 70 r217) 72 r226) 73 (k_work_123 r208 (M.1 71) (M.1 73) (cN 51))) Q
              refine G.sl [(.aload_n 0, 1, 0, 0, 0, 0), (.iconst 0, 1, 0, 0, 0, nI 0), (.putfield 323, 3, 11, 37, 160, 0), (.aload_n 0, 1, 0, 0, 0, 0), (.iconst 0, 1, 0, 0, 0, nI 0), (.putfield 326, 3, 11, 38, 161, 0), (.aload_n 0, 1, 0, 0, 0, 0), (.iconst 0, 1, 0, 0, 0, nI 0), (.putfield 329, 3, 11, 39, 162, 0), (.aload_n 0, 1, 0, 0, 0, 0), (.iconst 0, 1, 0, 0, 0, nI 0), (.aload_n 0, 1, 0, 0, 0, 0), (.getfield 295, 3, 11, 34, 157, 0)] [] (pc2 := 190) (ls2 := [some (.ref 54), none, none, none]) (st2 := [.int (r208 34), .int (nI 0), .ref 54]) (M2 := mput (mput (mput (mrow (mrow (mrow (mrow (mrow (mrow M 54 (upd r208 35 ((r208 35) + (nI 1)))) 55 r172) 69 r204) 70 r217) 72 r226) 73 (k_work_123 r208 (M.1 71) (M.1 73) (cN 51))) 54 37 (nI 0)) 54 38 (nI 0)) 54 39 (nI 0)) (Ps := []) (by decide +kernel) rfl rfl trivial ?_
              refine G.mem (M' := mrow (mrow (mrow (mrow (mrow (mrow M 54 (upd (upd (upd (upd r208 35 ((r208 35) + (nI 1))) 37 (nI 0)) 38 (nI 0)) 39 (nI 0))) 55 r172) 69 r204) 70 r217) 72 r226) 73 (k_work_123 r208 (M.1 71) (M.1 73) (cN 51))) (by first | rfl | (simp only [mput, mrow_same, mrow_hit, mrow_miss, mrow_sw, idr_eq, ne_eq, Nat.reduceEqDiff, not_false_eq_true, Nat.reduceLT, reduceCtorEq]; done)) ?_
              obtain ⟨k229, hk⟩ := hk
              rcases g230 : k_goesSteps (upd (upd (upd (upd r208 35 ((r208 35) + (nI 1))) 37 (nI 0)) 38 (nI 0)) 39 (nI 0)) (M.1 60) (M.1 61) (M.1 65) (M.1 66) (M.1 67) (M.1 68) r217 r226 (nI 0) (r208 34) with ⟨u231, r232, r233, r234, r235⟩
              try simp only [g230] at hk
              have t236 : GM z mX12_goesSteps (d + 70) [.ref 54, .int (nI 0), .int (r208 34)] (mrow (mrow (mrow (mrow (mrow (mrow M 54 (upd (upd (upd (upd r208 35 ((r208 35) + (nI 1))) 37 (nI 0)) 38 (nI 0)) 39 (nI 0))) 55 r172) 69 r204) 70 r217) 72 r226) 73 (k_work_123 r208 (M.1 71) (M.1 73) (cN 51))) (fun rs => rs = .inl (none, mrow (mrow (mrow (mrow (mrow (mrow (mrow (mrow M 54 r232) 55 r172) 67 r233) 68 r234) 69 r204) 70 r217) 72 r235) 73 (k_work_123 r208 (M.1 71) (M.1 73) (cN 51)))) := by
                have q9 := c_k_goesSteps_54 z d (mrow (mrow (mrow (mrow (mrow (mrow M 54 (upd (upd (upd (upd r208 35 ((r208 35) + (nI 1))) 37 (nI 0)) 38 (nI 0)) 39 (nI 0))) 55 r172) 69 r204) 70 r217) 72 r226) 73 (k_work_123 r208 (M.1 71) (M.1 73) (cN 51))) (nI 0) (r208 34) k229
                try simp only [mput, mrow_same, mrow_hit, mrow_miss, mrow_sw, idr_eq, ne_eq, Nat.reduceEqDiff, not_false_eq_true, Nat.reduceLT, reduceCtorEq, g230] at q9
                exact q9
              refine G.callV (as := [.int (nI 0), .int (r208 34)]) (rest := []) (a := 54) oX12_goesSteps lk_EvenFindersModel_332 (by decide +kernel) rfl rfl ⟨rfl, rfl⟩ (Nat.le_of_ble_eq_true rfl) rfl ⟨Nat.le_of_ble_eq_true rfl, Nat.le_of_ble_eq_true rfl⟩ t236 (fun v9 N9 h237 => ?_) (fun E9 N9 h237 => by cases h237)
              cases h237
              show G z mX12_work (d + 71) 0 0 193 [some (.ref 54), none, none, none] [] (mrow (mrow (mrow (mrow (mrow (mrow (mrow (mrow M 54 r232) 55 r172) 67 r233) 68 r234) 69 r204) 70 r217) 72 r235) 73 (k_work_123 r208 (M.1 71) (M.1 73) (cN 51))) Q
              refine G.sl [(.aload_n 0, 1, 0, 0, 0, 0), (.aload_n 0, 1, 0, 0, 0, 0), (.getfield 68, 3, 11, 41, 164, 0), (.aload_n 0, 1, 0, 0, 0, 0), (.getfield 65, 3, 11, 40, 163, 0), (.bipush 51, 2, 0, 0, 0, nI 51)] [] (pc2 := 204) (ls2 := [some (.ref 54), none, none, none]) (st2 := [.int (nI 51), .ref 71, .ref 72, .ref 54]) (M2 := mrow (mrow (mrow (mrow (mrow (mrow (mrow (mrow M 54 r232) 55 r172) 67 r233) 68 r234) 69 r204) 70 r217) 72 r235) 73 (k_work_123 r208 (M.1 71) (M.1 73) (cN 51))) (Ps := []) (by decide +kernel) rfl rfl trivial ?_
              obtain ⟨k238, hk⟩ := hk
              rcases g239 : k_copies_L51_L51 r235 (M.1 71) 51 with ⟨u240, r241⟩
              have t242 : GM z mX12_copies (d + 70) [.ref 54, .ref 72, .ref 71, .int (nI 51)] (mrow (mrow (mrow (mrow (mrow (mrow (mrow (mrow M 54 r232) 55 r172) 67 r233) 68 r234) 69 r204) 70 r217) 72 r235) 73 (k_work_123 r208 (M.1 71) (M.1 73) (cN 51))) (fun rs => rs = .inl (none, mrow (mrow (mrow (mrow (mrow (mrow (mrow (mrow (mrow M 54 r232) 55 r172) 67 r233) 68 r234) 69 r204) 70 r217) 71 r241) 72 r235) 73 (k_work_123 r208 (M.1 71) (M.1 73) (cN 51)))) := by
                have q9 := c_k_copies_L51_L51_54_72_71 z (d + 70) (mrow (mrow (mrow (mrow (mrow (mrow (mrow (mrow M 54 r232) 55 r172) 67 r233) 68 r234) 69 r204) 70 r217) 72 r235) 73 (k_work_123 r208 (M.1 71) (M.1 73) (cN 51))) 51 (by omega) k238
                try simp only [mput, mrow_same, mrow_hit, mrow_miss, mrow_sw, idr_eq, ne_eq, Nat.reduceEqDiff, not_false_eq_true, Nat.reduceLT, reduceCtorEq, g239] at q9
                exact q9
              refine G.callV (as := [.ref 72, .ref 71, .int (nI 51)]) (rest := []) (a := 54) oX12_copies lk_EvenFindersModel_168 (by decide +kernel) rfl rfl ⟨rfl, rfl⟩ (Nat.le_of_ble_eq_true rfl) rfl ⟨Nat.le_of_ble_eq_true rfl, Nat.le_of_ble_eq_true rfl⟩ t242 (fun v9 N9 h243 => ?_) (fun E9 N9 h243 => by cases h243)
              cases h243
              show G z mX12_work (d + 71) 0 0 207 [some (.ref 54), none, none, none] [] (mrow (mrow (mrow (mrow (mrow (mrow (mrow (mrow (mrow M 54 r232) 55 r172) 67 r233) 68 r234) 69 r204) 70 r217) 71 r241) 72 r235) 73 (k_work_123 r208 (M.1 71) (M.1 73) (cN 51))) Q
              refine G.sl [(.aload_n 0, 1, 0, 0, 0, 0), (.aload_n 0, 1, 0, 0, 0, 0), (.getfield 329, 3, 11, 39, 162, 0), (.putfield 184, 3, 11, 36, 159, 0), (.aload_n 0, 1, 0, 0, 0, 0), (.getfield 326, 3, 11, 38, 161, 0)] [] (pc2 := 219) (ls2 := [some (.ref 54), none, none, none]) (st2 := [.int (r232 38)]) (M2 := mput (mrow (mrow (mrow (mrow (mrow (mrow (mrow (mrow (mrow M 54 r232) 55 r172) 67 r233) 68 r234) 69 r204) 70 r217) 71 r241) 72 r235) 73 (k_work_123 r208 (M.1 71) (M.1 73) (cN 51))) 54 36 (r232 39)) (Ps := []) (by decide +kernel) rfl rfl trivial ?_
              refine G.mem (M' := mrow (mrow (mrow (mrow (mrow (mrow (mrow (mrow (mrow M 54 (upd r232 36 (r232 39))) 55 r172) 67 r233) 68 r234) 69 r204) 70 r217) 71 r241) 72 r235) 73 (k_work_123 r208 (M.1 71) (M.1 73) (cN 51))) (by first | rfl | (simp only [mput, mrow_same, mrow_hit, mrow_miss, mrow_sw, idr_eq, ne_eq, Nat.reduceEqDiff, not_false_eq_true, Nat.reduceLT, reduceCtorEq]; done)) ?_
              exact G.reti (by decide +kernel) rfl rfl (Nat.le_of_ble_eq_true rfl) (Nat.le_of_ble_eq_true rfl) ((by rw [hQ]; simp only [k_work, if_neg c1, if_neg c84, if_pos c167, g169, if_neg c175, g177, if_neg c182, g202, g206, if_pos c211, g215, g224, g230, g239, mrow_self]))
            · skip
              rw [if_neg c211] at hk
              refine G.sl [(.iload_n 2, 1, 2, 0, 0, 0)] [] (pc2 := 104) (ls2 := [some (.ref 54), none, some (.int v207), none]) (st2 := [.int v207]) (M2 := mrow (mrow (mrow M 54 r208) 55 r172) 69 r204) (Ps := []) (by decide +kernel) rfl rfl trivial ?_
              refine G.mem (M' := mrow (mrow (mrow (mrow (mrow (mrow (mrow (mrow (mrow M 54 r208) 55 r172) 67 (M.1 67)) 68 (M.1 68)) 69 r204) 70 (M.1 70)) 71 (M.1 71)) 72 (M.1 72)) 73 (M.1 73)) ((((((((mrow_id (N := mrow (mrow (mrow M 54 r208) 55 r172) 69 r204) (c := 67) (f := M.1 67) (by first | rfl | (simp only [mput, mrow_same, mrow_hit, mrow_miss, mrow_sw, idr_eq, ne_eq, Nat.reduceEqDiff, not_false_eq_true, Nat.reduceLT, reduceCtorEq]; done))).symm).trans (mrow_id (N := mrow (mrow (mrow (mrow M 54 r208) 55 r172) 69 r204) 67 (M.1 67)) (c := 68) (f := M.1 68) (by first | rfl | (simp only [mput, mrow_same, mrow_hit, mrow_miss, mrow_sw, idr_eq, ne_eq, Nat.reduceEqDiff, not_false_eq_true, Nat.reduceLT, reduceCtorEq]; done))).symm).trans (mrow_id (N := mrow (mrow (mrow (mrow (mrow M 54 r208) 55 r172) 69 r204) 67 (M.1 67)) 68 (M.1 68)) (c := 70) (f := M.1 70) (by first | rfl | (simp only [mput, mrow_same, mrow_hit, mrow_miss, mrow_sw, idr_eq, ne_eq, Nat.reduceEqDiff, not_false_eq_true, Nat.reduceLT, reduceCtorEq]; done))).symm).trans (mrow_id (N := mrow (mrow (mrow (mrow (mrow (mrow M 54 r208) 55 r172) 69 r204) 67 (M.1 67)) 68 (M.1 68)) 70 (M.1 70)) (c := 71) (f := M.1 71) (by first | rfl | (simp only [mput, mrow_same, mrow_hit, mrow_miss, mrow_sw, idr_eq, ne_eq, Nat.reduceEqDiff, not_false_eq_true, Nat.reduceLT, reduceCtorEq]; done))).symm).trans (mrow_id (N := mrow (mrow (mrow (mrow (mrow (mrow (mrow M 54 r208) 55 r172) 69 r204) 67 (M.1 67)) 68 (M.1 68)) 70 (M.1 70)) 71 (M.1 71)) (c := 72) (f := M.1 72) (by first | rfl | (simp only [mput, mrow_same, mrow_hit, mrow_miss, mrow_sw, idr_eq, ne_eq, Nat.reduceEqDiff, not_false_eq_true, Nat.reduceLT, reduceCtorEq]; done))).symm).trans (mrow_id (N := mrow (mrow (mrow (mrow (mrow (mrow (mrow (mrow M 54 r208) 55 r172) 69 r204) 67 (M.1 67)) 68 (M.1 68)) 70 (M.1 70)) 71 (M.1 71)) 72 (M.1 72)) (c := 73) (f := M.1 73) (by first | rfl | (simp only [mput, mrow_same, mrow_hit, mrow_miss, mrow_sw, idr_eq, ne_eq, Nat.reduceEqDiff, not_false_eq_true, Nat.reduceLT, reduceCtorEq]; done))).symm).trans (by first | rfl | (simp only [mput, mrow_same, mrow_hit, mrow_miss, mrow_sw, idr_eq, ne_eq, Nat.reduceEqDiff, not_false_eq_true, Nat.reduceLT, reduceCtorEq]; done))) ?_
              exact G.reti (by decide +kernel) rfl rfl (Nat.le_of_ble_eq_true rfl) (Nat.le_of_ble_eq_true rfl) ((by rw [hQ]; simp only [k_work, if_neg c1, if_neg c84, if_pos c167, g169, if_neg c175, g177, if_neg c182, g202, g206, if_neg c211, mrow_self]))
          · skip
            rw [if_pos c182] at hk
            refine G.sl [(.aload_n 0, 1, 0, 0, 0, 0), (.iconst 0, 1, 0, 0, 0, nI 0)] [] (pc2 := 56) (ls2 := [some (.ref 54), some (.int x1), none, none]) (st2 := [.int (nI 0), .ref 54]) (M2 := mrow (mrow M 54 r179) 55 r172) (Ps := []) (by decide +kernel) rfl rfl trivial ?_
            rcases g245 : k_result r179 (nI 0) with ⟨v246, r247⟩
            have t248 : GM z mX12_result (d + 70) [.ref 54, .int (nI 0)] (mrow (mrow M 54 r179) 55 r172) (fun rs => rs = .inl (some (.int v246), mrow (mrow M 54 r247) 55 r172)) := by
              have q9 := c_k_result_54 z (d + 69) (mrow (mrow M 54 r179) 55 r172) (nI 0)
              try simp only [mput, mrow_same, mrow_hit, mrow_miss, mrow_sw, idr_eq, ne_eq, Nat.reduceEqDiff, not_false_eq_true, Nat.reduceLT, reduceCtorEq, g245] at q9
              exact q9
            refine G.callV (as := [.int (nI 0)]) (rest := []) (a := 54) oX12_result lk_EvenFindersModel_242 (by decide +kernel) rfl rfl ⟨rfl, rfl⟩ (Nat.le_of_ble_eq_true rfl) rfl ⟨Nat.le_of_ble_eq_true rfl, Nat.le_of_ble_eq_true rfl⟩ t248 (fun v9 N9 h249 => ?_) (fun E9 N9 h249 => by cases h249)
            cases h249
            show G z mX12_work (d + 71) 0 0 59 [some (.ref 54), some (.int x1), none, none] [.int v246] (mrow (mrow M 54 r247) 55 r172) Q
            refine G.sl [(.pop, 1, 0, 0, 0, 0), (.bipush (-20), 2, 0, 0, 0, (-20))] [] (pc2 := 62) (ls2 := [some (.ref 54), some (.int x1), none, none]) (st2 := [.int ((-20))]) (M2 := mrow (mrow M 54 r247) 55 r172) (Ps := []) (by decide +kernel) rfl rfl trivial ?_
            refine G.mem (M' := mrow (mrow (mrow (mrow (mrow (mrow (mrow (mrow (mrow M 54 r247) 55 r172) 67 (M.1 67)) 68 (M.1 68)) 69 (M.1 69)) 70 (M.1 70)) 71 (M.1 71)) 72 (M.1 72)) 73 (M.1 73)) (((((((((mrow_id (N := mrow (mrow M 54 r247) 55 r172) (c := 67) (f := M.1 67) (by first | rfl | (simp only [mput, mrow_same, mrow_hit, mrow_miss, mrow_sw, idr_eq, ne_eq, Nat.reduceEqDiff, not_false_eq_true, Nat.reduceLT, reduceCtorEq]; done))).symm).trans (mrow_id (N := mrow (mrow (mrow M 54 r247) 55 r172) 67 (M.1 67)) (c := 68) (f := M.1 68) (by first | rfl | (simp only [mput, mrow_same, mrow_hit, mrow_miss, mrow_sw, idr_eq, ne_eq, Nat.reduceEqDiff, not_false_eq_true, Nat.reduceLT, reduceCtorEq]; done))).symm).trans (mrow_id (N := mrow (mrow (mrow (mrow M 54 r247) 55 r172) 67 (M.1 67)) 68 (M.1 68)) (c := 69) (f := M.1 69) (by first | rfl | (simp only [mput, mrow_same, mrow_hit, mrow_miss, mrow_sw, idr_eq, ne_eq, Nat.reduceEqDiff, not_false_eq_true, Nat.reduceLT, reduceCtorEq]; done))).symm).trans (mrow_id (N := mrow (mrow (mrow (mrow (mrow M 54 r247) 55 r172) 67 (M.1 67)) 68 (M.1 68)) 69 (M.1 69)) (c := 70) (f := M.1 70) (by first | rfl | (simp only [mput, mrow_same, mrow_hit, mrow_miss, mrow_sw, idr_eq, ne_eq, Nat.reduceEqDiff, not_false_eq_true, Nat.reduceLT, reduceCtorEq]; done))).symm).trans (mrow_id (N := mrow (mrow (mrow (mrow (mrow (mrow M 54 r247) 55 r172) 67 (M.1 67)) 68 (M.1 68)) 69 (M.1 69)) 70 (M.1 70)) (c := 71) (f := M.1 71) (by first | rfl | (simp only [mput, mrow_same, mrow_hit, mrow_miss, mrow_sw, idr_eq, ne_eq, Nat.reduceEqDiff, not_false_eq_true, Nat.reduceLT, reduceCtorEq]; done))).symm).trans (mrow_id (N := mrow (mrow (mrow (mrow (mrow (mrow (mrow M 54 r247) 55 r172) 67 (M.1 67)) 68 (M.1 68)) 69 (M.1 69)) 70 (M.1 70)) 71 (M.1 71)) (c := 72) (f := M.1 72) (by first | rfl | (simp only [mput, mrow_same, mrow_hit, mrow_miss, mrow_sw, idr_eq, ne_eq, Nat.reduceEqDiff, not_false_eq_true, Nat.reduceLT, reduceCtorEq]; done))).symm).trans (mrow_id (N := mrow (mrow (mrow (mrow (mrow (mrow (mrow (mrow M 54 r247) 55 r172) 67 (M.1 67)) 68 (M.1 68)) 69 (M.1 69)) 70 (M.1 70)) 71 (M.1 71)) 72 (M.1 72)) (c := 73) (f := M.1 73) (by first | rfl | (simp only [mput, mrow_same, mrow_hit, mrow_miss, mrow_sw, idr_eq, ne_eq, Nat.reduceEqDiff, not_false_eq_true, Nat.reduceLT, reduceCtorEq]; done))).symm).trans (by first | rfl | (simp only [mput, mrow_same, mrow_hit, mrow_miss, mrow_sw, idr_eq, ne_eq, Nat.reduceEqDiff, not_false_eq_true, Nat.reduceLT, reduceCtorEq]; done))) ?_
            exact G.reti (by decide +kernel) rfl rfl (Nat.le_of_ble_eq_true rfl) (Nat.le_of_ble_eq_true rfl) ((by rw [hQ]; simp only [k_work, if_neg c1, if_neg c84, if_pos c167, g169, if_neg c175, g177, if_pos c182, g245, mrow_self]))
        · skip
          rw [if_pos c175] at hk
          refine G.sl [(.iconst 0, 1, 0, 0, 0, nI 0)] [] (pc2 := 39) (ls2 := [some (.ref 54), some (.int x1), none, none]) (st2 := [.int (nI 0)]) (M2 := mrow (mrow M 54 r171) 55 r172) (Ps := []) (by decide +kernel) rfl rfl trivial ?_
          refine G.mem (M' := mrow (mrow (mrow (mrow (mrow (mrow (mrow (mrow (mrow M 54 r171) 55 r172) 67 (M.1 67)) 68 (M.1 68)) 69 (M.1 69)) 70 (M.1 70)) 71 (M.1 71)) 72 (M.1 72)) 73 (M.1 73)) (((((((((mrow_id (N := mrow (mrow M 54 r171) 55 r172) (c := 67) (f := M.1 67) (by first | rfl | (simp only [mput, mrow_same, mrow_hit, mrow_miss, mrow_sw, idr_eq, ne_eq, Nat.reduceEqDiff, not_false_eq_true, Nat.reduceLT, reduceCtorEq]; done))).symm).trans (mrow_id (N := mrow (mrow (mrow M 54 r171) 55 r172) 67 (M.1 67)) (c := 68) (f := M.1 68) (by first | rfl | (simp only [mput, mrow_same, mrow_hit, mrow_miss, mrow_sw, idr_eq, ne_eq, Nat.reduceEqDiff, not_false_eq_true, Nat.reduceLT, reduceCtorEq]; done))).symm).trans (mrow_id (N := mrow (mrow (mrow (mrow M 54 r171) 55 r172) 67 (M.1 67)) 68 (M.1 68)) (c := 69) (f := M.1 69) (by first | rfl | (simp only [mput, mrow_same, mrow_hit, mrow_miss, mrow_sw, idr_eq, ne_eq, Nat.reduceEqDiff, not_false_eq_true, Nat.reduceLT, reduceCtorEq]; done))).symm).trans (mrow_id (N := mrow (mrow (mrow (mrow (mrow M 54 r171) 55 r172) 67 (M.1 67)) 68 (M.1 68)) 69 (M.1 69)) (c := 70) (f := M.1 70) (by first | rfl | (simp only [mput, mrow_same, mrow_hit, mrow_miss, mrow_sw, idr_eq, ne_eq, Nat.reduceEqDiff, not_false_eq_true, Nat.reduceLT, reduceCtorEq]; done))).symm).trans (mrow_id (N := mrow (mrow (mrow (mrow (mrow (mrow M 54 r171) 55 r172) 67 (M.1 67)) 68 (M.1 68)) 69 (M.1 69)) 70 (M.1 70)) (c := 71) (f := M.1 71) (by first | rfl | (simp only [mput, mrow_same, mrow_hit, mrow_miss, mrow_sw, idr_eq, ne_eq, Nat.reduceEqDiff, not_false_eq_true, Nat.reduceLT, reduceCtorEq]; done))).symm).trans (mrow_id (N := mrow (mrow (mrow (mrow (mrow (mrow (mrow M 54 r171) 55 r172) 67 (M.1 67)) 68 (M.1 68)) 69 (M.1 69)) 70 (M.1 70)) 71 (M.1 71)) (c := 72) (f := M.1 72) (by first | rfl | (simp only [mput, mrow_same, mrow_hit, mrow_miss, mrow_sw, idr_eq, ne_eq, Nat.reduceEqDiff, not_false_eq_true, Nat.reduceLT, reduceCtorEq]; done))).symm).trans (mrow_id (N := mrow (mrow (mrow (mrow (mrow (mrow (mrow (mrow M 54 r171) 55 r172) 67 (M.1 67)) 68 (M.1 68)) 69 (M.1 69)) 70 (M.1 70)) 71 (M.1 71)) 72 (M.1 72)) (c := 73) (f := M.1 73) (by first | rfl | (simp only [mput, mrow_same, mrow_hit, mrow_miss, mrow_sw, idr_eq, ne_eq, Nat.reduceEqDiff, not_false_eq_true, Nat.reduceLT, reduceCtorEq]; done))).symm).trans (by first | rfl | (simp only [mput, mrow_same, mrow_hit, mrow_miss, mrow_sw, idr_eq, ne_eq, Nat.reduceEqDiff, not_false_eq_true, Nat.reduceLT, reduceCtorEq]; done))) ?_
          exact G.reti (by decide +kernel) rfl rfl (Nat.le_of_ble_eq_true rfl) (Nat.le_of_ble_eq_true rfl) ((by rw [hQ]; simp only [k_work, if_neg c1, if_neg c84, if_pos c167, g169, if_pos c175, mrow_self]))
      · skip
        rw [if_neg c167] at hk
        refine G.sl [(.iconst 1, 1, 0, 0, 0, nI 1), (.goto 4, 3, 30, 0, 0, 0), (.iconst 1, 1, 0, 0, 0, nI 1), (.iconst 1, 1, 0, 0, 0, nI 1)] [] (pc2 := 32) (ls2 := [some (.ref 54), some (.int x1), none, none]) (st2 := [.int (nI 1), .int (nI 1), .int (nI 1), .ref 54]) (M2 := mrow M 54 (upd (M.1 54) 0 (nI 0))) (Ps := []) (by decide +kernel) rfl rfl trivial ?_
        obtain ⟨k250, hk⟩ := hk
        rcases g251 : k_may_1 (upd (M.1 54) 0 (nI 0)) (M.1 55) (nI 1) (nI 1) with ⟨v252, r253, r254⟩
        try simp only [g251] at hk
        have ev252 : v252 = 0 ∨ v252 = 1 := by
          have q9 := k_may_1_01 (upd (M.1 54) 0 (nI 0)) (M.1 55) (nI 1) (nI 1)
          rw [g251] at q9
          exact q9
        have t255 : GM z mX12_may (d + 70) [.ref 54, .int (nI 1), .int (nI 1), .int (nI 1)] (mrow M 54 (upd (M.1 54) 0 (nI 0))) (fun rs => rs = .inl (some (.int v252), mrow (mrow M 54 r253) 55 r254)) := by
          have q9 := c_k_may_1_54 z (d + 70) (mrow M 54 (upd (M.1 54) 0 (nI 0))) (nI 1) (nI 1)
          try simp only [mput, mrow_same, mrow_hit, mrow_miss, mrow_sw, idr_eq, ne_eq, Nat.reduceEqDiff, not_false_eq_true, Nat.reduceLT, reduceCtorEq, g251] at q9
          exact q9
        refine G.callV (as := [.int (nI 1), .int (nI 1), .int (nI 1)]) (rest := []) (a := 54) oX12_may lk_EvenFindersModel_213 (by decide +kernel) rfl rfl ⟨rfl, rfl⟩ (Nat.le_of_ble_eq_true rfl) rfl ⟨Nat.le_of_ble_eq_true rfl, Nat.le_of_ble_eq_true rfl⟩ t255 (fun v9 N9 h256 => ?_) (fun E9 N9 h256 => by cases h256)
        cases h256
        show G z mX12_work (d + 71) 0 0 35 [some (.ref 54), some (.int x1), none, none] [.int v252] (mrow (mrow M 54 r253) 55 r254) Q
        refine G.if_ne (off := (5)) (tgt := 40) (by decide +kernel) rfl (fun c257 => ?_) (fun c257 => ?_)
        · skip
          rw [if_neg c257] at hk
          refine G.sl [(.aload_n 0, 1, 0, 0, 0, 0), (.iload_n 1, 1, 1, 0, 0, 0)] [] (pc2 := 42) (ls2 := [some (.ref 54), some (.int x1), none, none]) (st2 := [.int x1, .ref 54]) (M2 := mrow (mrow M 54 r253) 55 r254) (Ps := []) (by decide +kernel) rfl rfl trivial ?_
          obtain ⟨k258, hk⟩ := hk
          rcases g259 : k_begins r253 x1 with ⟨u260, r261⟩
          try simp only [g259] at hk
          have t262 : GM z mX12_begins (d + 70) [.ref 54, .int x1] (mrow (mrow M 54 r253) 55 r254) (fun rs => rs = .inl (none, mrow (mrow M 54 r261) 55 r254)) := by
            have q9 := c_k_begins_54 z (d + 70) (mrow (mrow M 54 r253) 55 r254) x1
            try simp only [mput, mrow_same, mrow_hit, mrow_miss, mrow_sw, idr_eq, ne_eq, Nat.reduceEqDiff, not_false_eq_true, Nat.reduceLT, reduceCtorEq, g259] at q9
            exact q9
          refine G.callV (as := [.int x1]) (rest := []) (a := 54) oX12_begins lk_EvenFindersModel_217 (by decide +kernel) rfl rfl ⟨rfl, rfl⟩ (Nat.le_of_ble_eq_true rfl) rfl ⟨Nat.le_of_ble_eq_true rfl, Nat.le_of_ble_eq_true rfl⟩ t262 (fun v9 N9 h263 => ?_) (fun E9 N9 h263 => by cases h263)
          cases h263
          show G z mX12_work (d + 71) 0 0 45 [some (.ref 54), some (.int x1), none, none] [] (mrow (mrow M 54 r261) 55 r254) Q
          refine G.sl [(.aload_n 0, 1, 0, 0, 0, 0), (.getfield 178, 3, 11, 35, 158, 0), (.bipush 16, 2, 0, 0, 0, nI 16)] [] (pc2 := 51) (ls2 := [some (.ref 54), some (.int x1), none, none]) (st2 := [.int (nI 16), .int (r261 35)]) (M2 := mrow (mrow M 54 r261) 55 r254) (Ps := []) (by decide +kernel) rfl rfl trivial ?_
          refine G.ic_ne (off := (12)) (tgt := 63) (by decide +kernel) rfl (fun c264 => ?_) (fun c264 => ?_)
          · skip
            rw [if_neg c264] at hk
            refine G.sl [(.aload_n 0, 1, 0, 0, 0, 0), (.iconst 0, 1, 0, 0, 0, nI 0), (.putfield 295, 3, 11, 34, 157, 0)] [] (pc2 := 68) (ls2 := [some (.ref 54), some (.int x1), none, none]) (st2 := []) (M2 := mput (mrow (mrow M 54 r261) 55 r254) 54 34 (nI 0)) (Ps := []) (by decide +kernel) rfl rfl trivial ?_
            refine G.mem (M' := mrow (mrow M 54 (upd r261 34 (nI 0))) 55 r254) (by first | rfl | (simp only [mput, mrow_same, mrow_hit, mrow_miss, mrow_sw, idr_eq, ne_eq, Nat.reduceEqDiff, not_false_eq_true, Nat.reduceLT, reduceCtorEq]; done)) ?_
            refine G.loc (ls2 := [some (.ref 54), none, none, none]) (by simp [subL]) ?_
            obtain ⟨k283, hk⟩ := hk
            refine G.mem (M' := mrow (mrow (mrow (mrow M 54 (upd r261 34 (nI 0))) 55 r254) 54 ((mrow (mrow M 54 (upd r261 34 (nI 0))) 55 r254).1 54)) 69 ((mrow (mrow M 54 (upd r261 34 (nI 0))) 55 r254).1 69)) (by simp only [mrow_self]) ?_
            refine lp_k_work_54_68 z d (mrow (mrow M 54 (upd r261 34 (nI 0))) 55 r254) Q FU ((mrow (mrow M 54 (upd r261 34 (nI 0))) 55 r254).1 54) ((mrow (mrow M 54 (upd r261 34 (nI 0))) 55 r254).1 69) (by first | (simp only [mput, mrow_same, mrow_hit, mrow_miss, mrow_sw, idr_eq, ne_eq, Nat.reduceEqDiff, not_false_eq_true, Nat.reduceLT, reduceCtorEq]; exact k283) | exact k283) ?_
            try simp only [mput, mrow_same, mrow_hit, mrow_miss, mrow_sw, idr_eq, ne_eq, Nat.reduceEqDiff, not_false_eq_true, Nat.reduceLT, reduceCtorEq]
            rcases g284 : k_work_68 (M.1 56) FU (upd r261 34 (nI 0)) (M.1 69) with ⟨r285, r286⟩
            try simp only [g284] at hk
            show G z mX12_work (d + 71) 0 0 89 [some (.ref 54), none, none, none] [] (mrow (mrow (mrow M 54 r285) 55 r254) 69 r286) Q
            refine G.sl [(.aload_n 0, 1, 0, 0, 0, 0), (.iconst 0, 1, 0, 0, 0, nI 0)] [] (pc2 := 91) (ls2 := [some (.ref 54), none, none, none]) (st2 := [.int (nI 0), .ref 54]) (M2 := mrow (mrow (mrow M 54 r285) 55 r254) 69 r286) (Ps := []) (by decide +kernel) rfl rfl trivial ?_
            obtain ⟨k287, hk⟩ := hk
            rcases g288 : k_result r285 (nI 0) with ⟨v289, r290⟩
            try simp only [g288] at hk
            have t291 : GM z mX12_result (d + 70) [.ref 54, .int (nI 0)] (mrow (mrow (mrow M 54 r285) 55 r254) 69 r286) (fun rs => rs = .inl (some (.int v289), mrow (mrow (mrow M 54 r290) 55 r254) 69 r286)) := by
              have q9 := c_k_result_54 z (d + 69) (mrow (mrow (mrow M 54 r285) 55 r254) 69 r286) (nI 0)
              try simp only [mput, mrow_same, mrow_hit, mrow_miss, mrow_sw, idr_eq, ne_eq, Nat.reduceEqDiff, not_false_eq_true, Nat.reduceLT, reduceCtorEq, g288] at q9
              exact q9
            refine G.callV (as := [.int (nI 0)]) (rest := []) (a := 54) oX12_result lk_EvenFindersModel_242 (by decide +kernel) rfl rfl ⟨rfl, rfl⟩ (Nat.le_of_ble_eq_true rfl) rfl ⟨Nat.le_of_ble_eq_true rfl, Nat.le_of_ble_eq_true rfl⟩ t291 (fun v9 N9 h292 => ?_) (fun E9 N9 h292 => by cases h292)
            cases h292
            show G z mX12_work (d + 71) 0 0 94 [some (.ref 54), none, none, none] [.int v289] (mrow (mrow (mrow M 54 r290) 55 r254) 69 r286) Q
            refine G.sl [(.istore_n 2, 1, 2, 0, 0, 0), (.aload_n 0, 1, 0, 0, 0, 0), (.getfield 101, 3, 11, 5, 128, 0), (.iconst (-1), 1, 0, 0, 0, (-1))] [] (pc2 := 100) (ls2 := [some (.ref 54), none, some (.int v289), none]) (st2 := [.int ((-1)), .int (r290 5)]) (M2 := mrow (mrow (mrow M 54 r290) 55 r254) 69 r286) (Ps := []) (by decide +kernel) rfl rfl trivial ?_
            refine G.ic_eq (off := (5)) (tgt := 105) (by decide +kernel) rfl (fun c293 => ?_) (fun c293 => ?_)
            · skip
              rw [if_pos c293] at hk
              refine G.sl [(.aload_n 0, 1, 0, 0, 0, 0), (.aload_n 0, 1, 0, 0, 0, 0), (.getfield 59, 3, 11, 32, 155, 0), (.aload_n 0, 1, 0, 0, 0, 0), (.getfield 62, 3, 11, 33, 156, 0), (.aload_n 0, 1, 0, 0, 0, 0), (.getfield 295, 3, 11, 34, 157, 0)] [] (pc2 := 118) (ls2 := [some (.ref 54), none, some (.int v289), none]) (st2 := [.int (r290 34), .ref 70, .ref 69, .ref 54]) (M2 := mrow (mrow (mrow M 54 r290) 55 r254) 69 r286) (Ps := []) (by decide +kernel) rfl rfl trivial ?_
              obtain ⟨k294, k295, hk⟩ := hk
              obtain ⟨k296, hk⟩ := hk
              refine G.eq (st' := [.int (nI (ix (r290 34))), .ref 70, .ref 69, .ref 54]) ?_ rfl (by rw [← (show r290 34 = nI (ix (r290 34)) from (ixE k294))]) rfl
              rcases g297 : k_copies_L150_L150 r286 (M.1 70) (ix (r290 34)) with ⟨u298, r299⟩
              try simp only [g297] at hk
              have t300 : GM z mX12_copies (d + 70) [.ref 54, .ref 69, .ref 70, .int (nI (ix (r290 34)))] (mrow (mrow (mrow M 54 r290) 55 r254) 69 r286) (fun rs => rs = .inl (none, mrow (mrow (mrow (mrow M 54 r290) 55 r254) 69 r286) 70 r299)) := by
                have q9 := c_k_copies_L150_L150_54_69_70 z (d + 70) (mrow (mrow (mrow M 54 r290) 55 r254) 69 r286) (ix (r290 34)) k295 k296
                try simp only [mput, mrow_same, mrow_hit, mrow_miss, mrow_sw, idr_eq, ne_eq, Nat.reduceEqDiff, not_false_eq_true, Nat.reduceLT, reduceCtorEq, g297] at q9
                exact q9
              refine G.callV (as := [.ref 69, .ref 70, .int (nI (ix (r290 34)))]) (rest := []) (a := 54) oX12_copies lk_EvenFindersModel_168 (by decide +kernel) rfl rfl ⟨rfl, rfl⟩ (Nat.le_of_ble_eq_true rfl) rfl ⟨Nat.le_of_ble_eq_true rfl, Nat.le_of_ble_eq_true rfl⟩ t300 (fun v9 N9 h301 => ?_) (fun E9 N9 h301 => by cases h301)
              cases h301
              show G z mX12_work (d + 71) 0 0 121 [some (.ref 54), none, some (.int v289), none] [] (mrow (mrow (mrow (mrow M 54 r290) 55 r254) 69 r286) 70 r299) Q
              refine G.sl [(.iconst 0, 1, 0, 0, 0, nI 0), (.istore_n 3, 1, 3, 0, 0, 0)] [] (pc2 := 123) (ls2 := [some (.ref 54), none, some (.int v289), some (.int (nI 0))]) (st2 := []) (M2 := mrow (mrow (mrow (mrow M 54 r290) 55 r254) 69 r286) 70 r299) (Ps := []) (by decide +kernel) rfl rfl trivial ?_
              refine G.loc (ls2 := [some (.ref 54), none, none, some (.int (nI 0))]) (by simp [subL]) ?_
              obtain ⟨k304, hk⟩ := hk
              refine lp_k_work_54_123 z d (mrow (mrow (mrow (mrow M 54 r290) 55 r254) 69 r286) 70 r299) Q (cN 51) (cN_eq 51) (by first | (simp only [mput, mrow_same, mrow_hit, mrow_miss, mrow_sw, idr_eq, ne_eq, Nat.reduceEqDiff, not_false_eq_true, Nat.reduceLT, reduceCtorEq]; exact k304) | exact k304) ?_
              try simp only [mput, mrow_same, mrow_hit, mrow_miss, mrow_sw, idr_eq, ne_eq, Nat.reduceEqDiff, not_false_eq_true, Nat.reduceLT, reduceCtorEq]
              show G z mX12_work (d + 71) 0 0 155 [some (.ref 54), none, none, none] [] (mrow (mrow (mrow (mrow (mrow M 54 r290) 55 r254) 69 r286) 70 r299) 73 (k_work_123 r290 (M.1 71) (M.1 73) (cN 51))) Q
              refine G.sl [(.aload_n 0, 1, 0, 0, 0, 0), (.dup, 1, 0, 0, 0, 0), (.getfield 178, 3, 11, 35, 158, 0), (.iconst 1, 1, 0, 0, 0, nI 1), (.iadd, 1, 0, 0, 0, 0), (.putfield 178, 3, 11, 35, 158, 0), (.aload_n 0, 1, 0, 0, 0, 0)] [] (pc2 := 166) (ls2 := [some (.ref 54), none, none, none]) (st2 := [.ref 54]) (M2 := mput (mrow (mrow (mrow (mrow (mrow M 54 r290) 55 r254) 69 r286) 70 r299) 73 (k_work_123 r290 (M.1 71) (M.1 73) (cN 51))) 54 35 ((r290 35) + (nI 1))) (Ps := []) (by decide +kernel) rfl rfl trivial ?_
              refine G.mem (M' := mrow (mrow (mrow (mrow (mrow M 54 (upd r290 35 ((r290 35) + (nI 1)))) 55 r254) 69 r286) 70 r299) 73 (k_work_123 r290 (M.1 71) (M.1 73) (cN 51))) (by first | rfl | (simp only [mput, mrow_same, mrow_hit, mrow_miss, mrow_sw, idr_eq, ne_eq, Nat.reduceEqDiff, not_false_eq_true, Nat.reduceLT, reduceCtorEq]; done)) ?_
              obtain ⟨k305, hk⟩ := hk
              rcases g306 : k_take (M.1 71) (M.1 72) with ⟨u307, r308⟩
              try simp only [g306] at hk
              have t309 : GM z mX12_take (d + 70) [.ref 54] (mrow (mrow (mrow (mrow (mrow M 54 (upd r290 35 ((r290 35) + (nI 1)))) 55 r254) 69 r286) 70 r299) 73 (k_work_123 r290 (M.1 71) (M.1 73) (cN 51))) (fun rs => rs = .inl (none, mrow (mrow (mrow (mrow (mrow (mrow M 54 (upd r290 35 ((r290 35) + (nI 1)))) 55 r254) 69 r286) 70 r299) 72 r308) 73 (k_work_123 r290 (M.1 71) (M.1 73) (cN 51)))) := by
                have q9 := c_k_take_54 z (d + 69) (mrow (mrow (mrow (mrow (mrow M 54 (upd r290 35 ((r290 35) + (nI 1)))) 55 r254) 69 r286) 70 r299) 73 (k_work_123 r290 (M.1 71) (M.1 73) (cN 51))) k305
                try simp only [mput, mrow_same, mrow_hit, mrow_miss, mrow_sw, idr_eq, ne_eq, Nat.reduceEqDiff, not_false_eq_true, Nat.reduceLT, reduceCtorEq, g306] at q9
                exact q9
              refine G.callV (as := []) (rest := []) (a := 54) oX12_take lk_EvenFindersModel_320 (by decide +kernel) rfl rfl ⟨rfl, rfl⟩ (Nat.le_of_ble_eq_true rfl) rfl ⟨Nat.le_of_ble_eq_true rfl, Nat.le_of_ble_eq_true rfl⟩ t309 (fun v9 N9 h310 => ?_) (fun E9 N9 h310 => by cases h310)
              cases h310
              show G z mX12_work (d + 71) 0 0 169 [some (.ref 54), none, none, none] [] (mrow (mrow (mrow (mrow (mrow (mrow M 54 (upd r290 35 ((r290 35) + (nI 1)))) 55 r254) 69 r286) 70 r299) 72 r308) 73 (k_work_123 r290 (M.1 71) (M.1 73) (cN 51))) Q
              refine G.sl [(.aload_n 0, 1, 0, 0, 0, 0), (.iconst 0, 1, 0, 0, 0, nI 0), (.putfield 323, 3, 11, 37, 160, 0), (.aload_n 0, 1, 0, 0, 0, 0), (.iconst 0, 1, 0, 0, 0, nI 0), (.putfield 326, 3, 11, 38, 161, 0), (.aload_n 0, 1, 0, 0, 0, 0), (.iconst 0, 1, 0, 0, 0, nI 0), (.putfield 329, 3, 11, 39, 162, 0), (.aload_n 0, 1, 0, 0, 0, 0), (.iconst 0, 1, 0, 0, 0, nI 0), (.aload_n 0, 1, 0, 0, 0, 0), (.getfield 295, 3, 11, 34, 157, 0)] [] (pc2 := 190) (ls2 := [some (.ref 54), none, none, none]) (st2 := [.int (r290 34), .int (nI 0), .ref 54]) (M2 := mput (mput (mput (mrow (mrow (mrow (mrow (mrow (mrow M 54 (upd r290 35 ((r290 35) + (nI 1)))) 55 r254) 69 r286) 70 r299) 72 r308) 73 (k_work_123 r290 (M.1 71) (M.1 73) (cN 51))) 54 37 (nI 0)) 54 38 (nI 0)) 54 39 (nI 0)) (Ps := []) (by decide +kernel) rfl rfl trivial ?_
              refine G.mem (M' := mrow (mrow (mrow (mrow (mrow (mrow M 54 (upd (upd (upd (upd r290 35 ((r290 35) + (nI 1))) 37 (nI 0)) 38 (nI 0)) 39 (nI 0))) 55 r254) 69 r286) 70 r299) 72 r308) 73 (k_work_123 r290 (M.1 71) (M.1 73) (cN 51))) (by first | rfl | (simp only [mput, mrow_same, mrow_hit, mrow_miss, mrow_sw, idr_eq, ne_eq, Nat.reduceEqDiff, not_false_eq_true, Nat.reduceLT, reduceCtorEq]; done)) ?_
              obtain ⟨k311, hk⟩ := hk
              rcases g312 : k_goesSteps (upd (upd (upd (upd r290 35 ((r290 35) + (nI 1))) 37 (nI 0)) 38 (nI 0)) 39 (nI 0)) (M.1 60) (M.1 61) (M.1 65) (M.1 66) (M.1 67) (M.1 68) r299 r308 (nI 0) (r290 34) with ⟨u313, r314, r315, r316, r317⟩
              try simp only [g312] at hk
              have t318 : GM z mX12_goesSteps (d + 70) [.ref 54, .int (nI 0), .int (r290 34)] (mrow (mrow (mrow (mrow (mrow (mrow M 54 (upd (upd (upd (upd r290 35 ((r290 35) + (nI 1))) 37 (nI 0)) 38 (nI 0)) 39 (nI 0))) 55 r254) 69 r286) 70 r299) 72 r308) 73 (k_work_123 r290 (M.1 71) (M.1 73) (cN 51))) (fun rs => rs = .inl (none, mrow (mrow (mrow (mrow (mrow (mrow (mrow (mrow M 54 r314) 55 r254) 67 r315) 68 r316) 69 r286) 70 r299) 72 r317) 73 (k_work_123 r290 (M.1 71) (M.1 73) (cN 51)))) := by
                have q9 := c_k_goesSteps_54 z d (mrow (mrow (mrow (mrow (mrow (mrow M 54 (upd (upd (upd (upd r290 35 ((r290 35) + (nI 1))) 37 (nI 0)) 38 (nI 0)) 39 (nI 0))) 55 r254) 69 r286) 70 r299) 72 r308) 73 (k_work_123 r290 (M.1 71) (M.1 73) (cN 51))) (nI 0) (r290 34) k311
                try simp only [mput, mrow_same, mrow_hit, mrow_miss, mrow_sw, idr_eq, ne_eq, Nat.reduceEqDiff, not_false_eq_true, Nat.reduceLT, reduceCtorEq, g312] at q9
                exact q9
              refine G.callV (as := [.int (nI 0), .int (r290 34)]) (rest := []) (a := 54) oX12_goesSteps lk_EvenFindersModel_332 (by decide +kernel) rfl rfl ⟨rfl, rfl⟩ (Nat.le_of_ble_eq_true rfl) rfl ⟨Nat.le_of_ble_eq_true rfl, Nat.le_of_ble_eq_true rfl⟩ t318 (fun v9 N9 h319 => ?_) (fun E9 N9 h319 => by cases h319)
              cases h319
              show G z mX12_work (d + 71) 0 0 193 [some (.ref 54), none, none, none] [] (mrow (mrow (mrow (mrow (mrow (mrow (mrow (mrow M 54 r314) 55 r254) 67 r315) 68 r316) 69 r286) 70 r299) 72 r317) 73 (k_work_123 r290 (M.1 71) (M.1 73) (cN 51))) Q
              refine G.sl [(.aload_n 0, 1, 0, 0, 0, 0), (.aload_n 0, 1, 0, 0, 0, 0), (.getfield 68, 3, 11, 41, 164, 0), (.aload_n 0, 1, 0, 0, 0, 0), (.getfield 65, 3, 11, 40, 163, 0), (.bipush 51, 2, 0, 0, 0, nI 51)] [] (pc2 := 204) (ls2 := [some (.ref 54), none, none, none]) (st2 := [.int (nI 51), .ref 71, .ref 72, .ref 54]) (M2 := mrow (mrow (mrow (mrow (mrow (mrow (mrow (mrow M 54 r314) 55 r254) 67 r315) 68 r316) 69 r286) 70 r299) 72 r317) 73 (k_work_123 r290 (M.1 71) (M.1 73) (cN 51))) (Ps := []) (by decide +kernel) rfl rfl trivial ?_
              obtain ⟨k320, hk⟩ := hk
              rcases g321 : k_copies_L51_L51 r317 (M.1 71) 51 with ⟨u322, r323⟩
              have t324 : GM z mX12_copies (d + 70) [.ref 54, .ref 72, .ref 71, .int (nI 51)] (mrow (mrow (mrow (mrow (mrow (mrow (mrow (mrow M 54 r314) 55 r254) 67 r315) 68 r316) 69 r286) 70 r299) 72 r317) 73 (k_work_123 r290 (M.1 71) (M.1 73) (cN 51))) (fun rs => rs = .inl (none, mrow (mrow (mrow (mrow (mrow (mrow (mrow (mrow (mrow M 54 r314) 55 r254) 67 r315) 68 r316) 69 r286) 70 r299) 71 r323) 72 r317) 73 (k_work_123 r290 (M.1 71) (M.1 73) (cN 51)))) := by
                have q9 := c_k_copies_L51_L51_54_72_71 z (d + 70) (mrow (mrow (mrow (mrow (mrow (mrow (mrow (mrow M 54 r314) 55 r254) 67 r315) 68 r316) 69 r286) 70 r299) 72 r317) 73 (k_work_123 r290 (M.1 71) (M.1 73) (cN 51))) 51 (by omega) k320
                try simp only [mput, mrow_same, mrow_hit, mrow_miss, mrow_sw, idr_eq, ne_eq, Nat.reduceEqDiff, not_false_eq_true, Nat.reduceLT, reduceCtorEq, g321] at q9
                exact q9
              refine G.callV (as := [.ref 72, .ref 71, .int (nI 51)]) (rest := []) (a := 54) oX12_copies lk_EvenFindersModel_168 (by decide +kernel) rfl rfl ⟨rfl, rfl⟩ (Nat.le_of_ble_eq_true rfl) rfl ⟨Nat.le_of_ble_eq_true rfl, Nat.le_of_ble_eq_true rfl⟩ t324 (fun v9 N9 h325 => ?_) (fun E9 N9 h325 => by cases h325)
              cases h325
              show G z mX12_work (d + 71) 0 0 207 [some (.ref 54), none, none, none] [] (mrow (mrow (mrow (mrow (mrow (mrow (mrow (mrow (mrow M 54 r314) 55 r254) 67 r315) 68 r316) 69 r286) 70 r299) 71 r323) 72 r317) 73 (k_work_123 r290 (M.1 71) (M.1 73) (cN 51))) Q
              refine G.sl [(.aload_n 0, 1, 0, 0, 0, 0), (.aload_n 0, 1, 0, 0, 0, 0), (.getfield 329, 3, 11, 39, 162, 0), (.putfield 184, 3, 11, 36, 159, 0), (.aload_n 0, 1, 0, 0, 0, 0), (.getfield 326, 3, 11, 38, 161, 0)] [] (pc2 := 219) (ls2 := [some (.ref 54), none, none, none]) (st2 := [.int (r314 38)]) (M2 := mput (mrow (mrow (mrow (mrow (mrow (mrow (mrow (mrow (mrow M 54 r314) 55 r254) 67 r315) 68 r316) 69 r286) 70 r299) 71 r323) 72 r317) 73 (k_work_123 r290 (M.1 71) (M.1 73) (cN 51))) 54 36 (r314 39)) (Ps := []) (by decide +kernel) rfl rfl trivial ?_
              refine G.mem (M' := mrow (mrow (mrow (mrow (mrow (mrow (mrow (mrow (mrow M 54 (upd r314 36 (r314 39))) 55 r254) 67 r315) 68 r316) 69 r286) 70 r299) 71 r323) 72 r317) 73 (k_work_123 r290 (M.1 71) (M.1 73) (cN 51))) (by first | rfl | (simp only [mput, mrow_same, mrow_hit, mrow_miss, mrow_sw, idr_eq, ne_eq, Nat.reduceEqDiff, not_false_eq_true, Nat.reduceLT, reduceCtorEq]; done)) ?_
              exact G.reti (by decide +kernel) rfl rfl (Nat.le_of_ble_eq_true rfl) (Nat.le_of_ble_eq_true rfl) ((by rw [hQ]; simp only [k_work, if_neg c1, if_neg c84, if_neg c167, g251, if_neg c257, g259, if_neg c264, g284, g288, if_pos c293, g297, g306, g312, g321, mrow_self]))
            · skip
              rw [if_neg c293] at hk
              refine G.sl [(.iload_n 2, 1, 2, 0, 0, 0)] [] (pc2 := 104) (ls2 := [some (.ref 54), none, some (.int v289), none]) (st2 := [.int v289]) (M2 := mrow (mrow (mrow M 54 r290) 55 r254) 69 r286) (Ps := []) (by decide +kernel) rfl rfl trivial ?_
              refine G.mem (M' := mrow (mrow (mrow (mrow (mrow (mrow (mrow (mrow (mrow M 54 r290) 55 r254) 67 (M.1 67)) 68 (M.1 68)) 69 r286) 70 (M.1 70)) 71 (M.1 71)) 72 (M.1 72)) 73 (M.1 73)) ((((((((mrow_id (N := mrow (mrow (mrow M 54 r290) 55 r254) 69 r286) (c := 67) (f := M.1 67) (by first | rfl | (simp only [mput, mrow_same, mrow_hit, mrow_miss, mrow_sw, idr_eq, ne_eq, Nat.reduceEqDiff, not_false_eq_true, Nat.reduceLT, reduceCtorEq]; done))).symm).trans (mrow_id (N := mrow (mrow (mrow (mrow M 54 r290) 55 r254) 69 r286) 67 (M.1 67)) (c := 68) (f := M.1 68) (by first | rfl | (simp only [mput, mrow_same, mrow_hit, mrow_miss, mrow_sw, idr_eq, ne_eq, Nat.reduceEqDiff, not_false_eq_true, Nat.reduceLT, reduceCtorEq]; done))).symm).trans (mrow_id (N := mrow (mrow (mrow (mrow (mrow M 54 r290) 55 r254) 69 r286) 67 (M.1 67)) 68 (M.1 68)) (c := 70) (f := M.1 70) (by first | rfl | (simp only [mput, mrow_same, mrow_hit, mrow_miss, mrow_sw, idr_eq, ne_eq, Nat.reduceEqDiff, not_false_eq_true, Nat.reduceLT, reduceCtorEq]; done))).symm).trans (mrow_id (N := mrow (mrow (mrow (mrow (mrow (mrow M 54 r290) 55 r254) 69 r286) 67 (M.1 67)) 68 (M.1 68)) 70 (M.1 70)) (c := 71) (f := M.1 71) (by first | rfl | (simp only [mput, mrow_same, mrow_hit, mrow_miss, mrow_sw, idr_eq, ne_eq, Nat.reduceEqDiff, not_false_eq_true, Nat.reduceLT, reduceCtorEq]; done))).symm).trans (mrow_id (N := mrow (mrow (mrow (mrow (mrow (mrow (mrow M 54 r290) 55 r254) 69 r286) 67 (M.1 67)) 68 (M.1 68)) 70 (M.1 70)) 71 (M.1 71)) (c := 72) (f := M.1 72) (by first | rfl | (simp only [mput, mrow_same, mrow_hit, mrow_miss, mrow_sw, idr_eq, ne_eq, Nat.reduceEqDiff, not_false_eq_true, Nat.reduceLT, reduceCtorEq]; done))).symm).trans (mrow_id (N := mrow (mrow (mrow (mrow (mrow (mrow (mrow (mrow M 54 r290) 55 r254) 69 r286) 67 (M.1 67)) 68 (M.1 68)) 70 (M.1 70)) 71 (M.1 71)) 72 (M.1 72)) (c := 73) (f := M.1 73) (by first | rfl | (simp only [mput, mrow_same, mrow_hit, mrow_miss, mrow_sw, idr_eq, ne_eq, Nat.reduceEqDiff, not_false_eq_true, Nat.reduceLT, reduceCtorEq]; done))).symm).trans (by first | rfl | (simp only [mput, mrow_same, mrow_hit, mrow_miss, mrow_sw, idr_eq, ne_eq, Nat.reduceEqDiff, not_false_eq_true, Nat.reduceLT, reduceCtorEq]; done))) ?_
              exact G.reti (by decide +kernel) rfl rfl (Nat.le_of_ble_eq_true rfl) (Nat.le_of_ble_eq_true rfl) ((by rw [hQ]; simp only [k_work, if_neg c1, if_neg c84, if_neg c167, g251, if_neg c257, g259, if_neg c264, g284, g288, if_neg c293, mrow_self]))
          · skip
            rw [if_pos c264] at hk
            refine G.sl [(.aload_n 0, 1, 0, 0, 0, 0), (.iconst 0, 1, 0, 0, 0, nI 0)] [] (pc2 := 56) (ls2 := [some (.ref 54), some (.int x1), none, none]) (st2 := [.int (nI 0), .ref 54]) (M2 := mrow (mrow M 54 r261) 55 r254) (Ps := []) (by decide +kernel) rfl rfl trivial ?_
            rcases g327 : k_result r261 (nI 0) with ⟨v328, r329⟩
            have t330 : GM z mX12_result (d + 70) [.ref 54, .int (nI 0)] (mrow (mrow M 54 r261) 55 r254) (fun rs => rs = .inl (some (.int v328), mrow (mrow M 54 r329) 55 r254)) := by
              have q9 := c_k_result_54 z (d + 69) (mrow (mrow M 54 r261) 55 r254) (nI 0)
              try simp only [mput, mrow_same, mrow_hit, mrow_miss, mrow_sw, idr_eq, ne_eq, Nat.reduceEqDiff, not_false_eq_true, Nat.reduceLT, reduceCtorEq, g327] at q9
              exact q9
            refine G.callV (as := [.int (nI 0)]) (rest := []) (a := 54) oX12_result lk_EvenFindersModel_242 (by decide +kernel) rfl rfl ⟨rfl, rfl⟩ (Nat.le_of_ble_eq_true rfl) rfl ⟨Nat.le_of_ble_eq_true rfl, Nat.le_of_ble_eq_true rfl⟩ t330 (fun v9 N9 h331 => ?_) (fun E9 N9 h331 => by cases h331)
            cases h331
            show G z mX12_work (d + 71) 0 0 59 [some (.ref 54), some (.int x1), none, none] [.int v328] (mrow (mrow M 54 r329) 55 r254) Q
            refine G.sl [(.pop, 1, 0, 0, 0, 0), (.bipush (-20), 2, 0, 0, 0, (-20))] [] (pc2 := 62) (ls2 := [some (.ref 54), some (.int x1), none, none]) (st2 := [.int ((-20))]) (M2 := mrow (mrow M 54 r329) 55 r254) (Ps := []) (by decide +kernel) rfl rfl trivial ?_
            refine G.mem (M' := mrow (mrow (mrow (mrow (mrow (mrow (mrow (mrow (mrow M 54 r329) 55 r254) 67 (M.1 67)) 68 (M.1 68)) 69 (M.1 69)) 70 (M.1 70)) 71 (M.1 71)) 72 (M.1 72)) 73 (M.1 73)) (((((((((mrow_id (N := mrow (mrow M 54 r329) 55 r254) (c := 67) (f := M.1 67) (by first | rfl | (simp only [mput, mrow_same, mrow_hit, mrow_miss, mrow_sw, idr_eq, ne_eq, Nat.reduceEqDiff, not_false_eq_true, Nat.reduceLT, reduceCtorEq]; done))).symm).trans (mrow_id (N := mrow (mrow (mrow M 54 r329) 55 r254) 67 (M.1 67)) (c := 68) (f := M.1 68) (by first | rfl | (simp only [mput, mrow_same, mrow_hit, mrow_miss, mrow_sw, idr_eq, ne_eq, Nat.reduceEqDiff, not_false_eq_true, Nat.reduceLT, reduceCtorEq]; done))).symm).trans (mrow_id (N := mrow (mrow (mrow (mrow M 54 r329) 55 r254) 67 (M.1 67)) 68 (M.1 68)) (c := 69) (f := M.1 69) (by first | rfl | (simp only [mput, mrow_same, mrow_hit, mrow_miss, mrow_sw, idr_eq, ne_eq, Nat.reduceEqDiff, not_false_eq_true, Nat.reduceLT, reduceCtorEq]; done))).symm).trans (mrow_id (N := mrow (mrow (mrow (mrow (mrow M 54 r329) 55 r254) 67 (M.1 67)) 68 (M.1 68)) 69 (M.1 69)) (c := 70) (f := M.1 70) (by first | rfl | (simp only [mput, mrow_same, mrow_hit, mrow_miss, mrow_sw, idr_eq, ne_eq, Nat.reduceEqDiff, not_false_eq_true, Nat.reduceLT, reduceCtorEq]; done))).symm).trans (mrow_id (N := mrow (mrow (mrow (mrow (mrow (mrow M 54 r329) 55 r254) 67 (M.1 67)) 68 (M.1 68)) 69 (M.1 69)) 70 (M.1 70)) (c := 71) (f := M.1 71) (by first | rfl | (simp only [mput, mrow_same, mrow_hit, mrow_miss, mrow_sw, idr_eq, ne_eq, Nat.reduceEqDiff, not_false_eq_true, Nat.reduceLT, reduceCtorEq]; done))).symm).trans (mrow_id (N := mrow (mrow (mrow (mrow (mrow (mrow (mrow M 54 r329) 55 r254) 67 (M.1 67)) 68 (M.1 68)) 69 (M.1 69)) 70 (M.1 70)) 71 (M.1 71)) (c := 72) (f := M.1 72) (by first | rfl | (simp only [mput, mrow_same, mrow_hit, mrow_miss, mrow_sw, idr_eq, ne_eq, Nat.reduceEqDiff, not_false_eq_true, Nat.reduceLT, reduceCtorEq]; done))).symm).trans (mrow_id (N := mrow (mrow (mrow (mrow (mrow (mrow (mrow (mrow M 54 r329) 55 r254) 67 (M.1 67)) 68 (M.1 68)) 69 (M.1 69)) 70 (M.1 70)) 71 (M.1 71)) 72 (M.1 72)) (c := 73) (f := M.1 73) (by first | rfl | (simp only [mput, mrow_same, mrow_hit, mrow_miss, mrow_sw, idr_eq, ne_eq, Nat.reduceEqDiff, not_false_eq_true, Nat.reduceLT, reduceCtorEq]; done))).symm).trans (by first | rfl | (simp only [mput, mrow_same, mrow_hit, mrow_miss, mrow_sw, idr_eq, ne_eq, Nat.reduceEqDiff, not_false_eq_true, Nat.reduceLT, reduceCtorEq]; done))) ?_
            exact G.reti (by decide +kernel) rfl rfl (Nat.le_of_ble_eq_true rfl) (Nat.le_of_ble_eq_true rfl) ((by rw [hQ]; simp only [k_work, if_neg c1, if_neg c84, if_neg c167, g251, if_neg c257, g259, if_pos c264, g327, mrow_self]))
        · skip
          rw [if_pos c257] at hk
          refine G.sl [(.iconst 0, 1, 0, 0, 0, nI 0)] [] (pc2 := 39) (ls2 := [some (.ref 54), some (.int x1), none, none]) (st2 := [.int (nI 0)]) (M2 := mrow (mrow M 54 r253) 55 r254) (Ps := []) (by decide +kernel) rfl rfl trivial ?_
          refine G.mem (M' := mrow (mrow (mrow (mrow (mrow (mrow (mrow (mrow (mrow M 54 r253) 55 r254) 67 (M.1 67)) 68 (M.1 68)) 69 (M.1 69)) 70 (M.1 70)) 71 (M.1 71)) 72 (M.1 72)) 73 (M.1 73)) (((((((((mrow_id (N := mrow (mrow M 54 r253) 55 r254) (c := 67) (f := M.1 67) (by first | rfl | (simp only [mput, mrow_same, mrow_hit, mrow_miss, mrow_sw, idr_eq, ne_eq, Nat.reduceEqDiff, not_false_eq_true, Nat.reduceLT, reduceCtorEq]; done))).symm).trans (mrow_id (N := mrow (mrow (mrow M 54 r253) 55 r254) 67 (M.1 67)) (c := 68) (f := M.1 68) (by first | rfl | (simp only [mput, mrow_same, mrow_hit, mrow_miss, mrow_sw, idr_eq, ne_eq, Nat.reduceEqDiff, not_false_eq_true, Nat.reduceLT, reduceCtorEq]; done))).symm).trans (mrow_id (N := mrow (mrow (mrow (mrow M 54 r253) 55 r254) 67 (M.1 67)) 68 (M.1 68)) (c := 69) (f := M.1 69) (by first | rfl | (simp only [mput, mrow_same, mrow_hit, mrow_miss, mrow_sw, idr_eq, ne_eq, Nat.reduceEqDiff, not_false_eq_true, Nat.reduceLT, reduceCtorEq]; done))).symm).trans (mrow_id (N := mrow (mrow (mrow (mrow (mrow M 54 r253) 55 r254) 67 (M.1 67)) 68 (M.1 68)) 69 (M.1 69)) (c := 70) (f := M.1 70) (by first | rfl | (simp only [mput, mrow_same, mrow_hit, mrow_miss, mrow_sw, idr_eq, ne_eq, Nat.reduceEqDiff, not_false_eq_true, Nat.reduceLT, reduceCtorEq]; done))).symm).trans (mrow_id (N := mrow (mrow (mrow (mrow (mrow (mrow M 54 r253) 55 r254) 67 (M.1 67)) 68 (M.1 68)) 69 (M.1 69)) 70 (M.1 70)) (c := 71) (f := M.1 71) (by first | rfl | (simp only [mput, mrow_same, mrow_hit, mrow_miss, mrow_sw, idr_eq, ne_eq, Nat.reduceEqDiff, not_false_eq_true, Nat.reduceLT, reduceCtorEq]; done))).symm).trans (mrow_id (N := mrow (mrow (mrow (mrow (mrow (mrow (mrow M 54 r253) 55 r254) 67 (M.1 67)) 68 (M.1 68)) 69 (M.1 69)) 70 (M.1 70)) 71 (M.1 71)) (c := 72) (f := M.1 72) (by first | rfl | (simp only [mput, mrow_same, mrow_hit, mrow_miss, mrow_sw, idr_eq, ne_eq, Nat.reduceEqDiff, not_false_eq_true, Nat.reduceLT, reduceCtorEq]; done))).symm).trans (mrow_id (N := mrow (mrow (mrow (mrow (mrow (mrow (mrow (mrow M 54 r253) 55 r254) 67 (M.1 67)) 68 (M.1 68)) 69 (M.1 69)) 70 (M.1 70)) 71 (M.1 71)) 72 (M.1 72)) (c := 73) (f := M.1 73) (by first | rfl | (simp only [mput, mrow_same, mrow_hit, mrow_miss, mrow_sw, idr_eq, ne_eq, Nat.reduceEqDiff, not_false_eq_true, Nat.reduceLT, reduceCtorEq]; done))).symm).trans (by first | rfl | (simp only [mput, mrow_same, mrow_hit, mrow_miss, mrow_sw, idr_eq, ne_eq, Nat.reduceEqDiff, not_false_eq_true, Nat.reduceLT, reduceCtorEq]; done))) ?_
          exact G.reti (by decide +kernel) rfl rfl (Nat.le_of_ble_eq_true rfl) (Nat.le_of_ble_eq_true rfl) ((by rw [hQ]; simp only [k_work, if_neg c1, if_neg c84, if_neg c167, g251, if_pos c257, mrow_self]))
