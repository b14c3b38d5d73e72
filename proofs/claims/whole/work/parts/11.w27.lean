set_option maxHeartbeats 4000000 in
set_option maxRecDepth 3000 in
theorem lp_k_of_s20_4 (z : Zp) (d : Nat) (M : Mem) (Q : Rs → Prop) (nn : Nat) (hnn : nn = 4) (hX : G z mX12_of (d + 4) 0 0 31 [none, some (.int (k_of_s20_4  nn)), none] [] M Q) : G z mX12_of (d + 4) 0 0 4 [some (.ref 1020), some (.int (nI 0)), some (.int (nI 0))] [] M Q := by
  refine down (n := nn) (P := fun i2 => G z mX12_of (d + 4) 0 0 4 [some (.ref 1020), some (.int (k_of_s20_4  i2)), some (.int (nI i2))] [] M Q) ?_ ?_ 0 (Nat.zero_le _)
  · skip
    refine G.sl [(.iload_n 2, 1, 2, 0, 0, 0), (.aload_n 0, 1, 0, 0, 0, 0)] [] (pc2 := 6) (ls2 := [some (.ref 1020), some (.int (k_of_s20_4  nn)), some (.int (nI nn))]) (st2 := [.ref 1020, .int (nI nn)]) (M2 := M) (Ps := []) (by decide +kernel) rfl rfl trivial ?_
    have t1 : GM z mJ0_length_8abf5 (d + 3) [.ref 1020] M (fun rs => rs = .inl (some (.int (nI 4)), M)) := c_slen z _ _ 20 (by decide)
    refine G.callT (as := []) (rest := [.int (nI nn)]) (i := 20) oJ0_length_8abf5 lk_EvenFindersModel_121 (by decide +kernel) rfl (by decide) rfl (Nat.le_of_ble_eq_true rfl) rfl ⟨Nat.le_of_ble_eq_true rfl, Nat.le_of_ble_eq_true rfl⟩ t1 (fun v9 N9 h2 => ?_) (fun E9 N9 h2 => by cases h2)
    cases h2
    show G z mX12_of (d + 4) 0 0 9 [some (.ref 1020), some (.int (k_of_s20_4  nn)), some (.int (nI nn))] [.int (nI 4), .int (nI nn)] M Q
    refine G.ic_ge (off := (22)) (tgt := 31) (by decide +kernel) rfl (fun _ => ?_) (fun h9 => absurd (nI_le (by omega) (by omega)) h9)
    refine G.loc (ls2 := [none, some (.int (k_of_s20_4  nn)), none]) (by simp [subL]) ?_
    exact hX
  · skip
    intro i2 hi ih
    show G z mX12_of (d + 4) 0 0 4 [some (.ref 1020), some (.int (k_of_s20_4  i2)), some (.int (nI i2))] [] M Q
    refine G.sl [(.iload_n 2, 1, 2, 0, 0, 0), (.aload_n 0, 1, 0, 0, 0, 0)] [] (pc2 := 6) (ls2 := [some (.ref 1020), some (.int (k_of_s20_4  i2)), some (.int (nI i2))]) (st2 := [.ref 1020, .int (nI i2)]) (M2 := M) (Ps := []) (by decide +kernel) rfl rfl trivial ?_
    have t3 : GM z mJ0_length_8abf5 (d + 3) [.ref 1020] M (fun rs => rs = .inl (some (.int (nI 4)), M)) := c_slen z _ _ 20 (by decide)
    refine G.callT (as := []) (rest := [.int (nI i2)]) (i := 20) oJ0_length_8abf5 lk_EvenFindersModel_121 (by decide +kernel) rfl (by decide) rfl (Nat.le_of_ble_eq_true rfl) rfl ⟨Nat.le_of_ble_eq_true rfl, Nat.le_of_ble_eq_true rfl⟩ t3 (fun v9 N9 h4 => ?_) (fun E9 N9 h4 => by cases h4)
    cases h4
    show G z mX12_of (d + 4) 0 0 9 [some (.ref 1020), some (.int (k_of_s20_4  i2)), some (.int (nI i2))] [.int (nI 4), .int (nI i2)] M Q
    refine G.ic_ge (off := (22)) (tgt := 31) (by decide +kernel) rfl (fun h9 => absurd h9 (nI_ge (by omega) (by omega))) (fun _ => ?_)
    refine G.sl [(.iload_n 1, 1, 1, 0, 0, 0), (.iconst 5, 1, 0, 0, 0, nI 5), (.ishl, 1, 0, 0, 0, 0), (.aload_n 0, 1, 0, 0, 0, 0), (.iload_n 2, 1, 2, 0, 0, 0)] [] (pc2 := 17) (ls2 := [some (.ref 1020), some (.int (k_of_s20_4  i2)), some (.int (nI i2))]) (st2 := [.int (nI i2), .ref 1020, .int ((k_of_s20_4  i2) <<< ((nI 5) &&& 31))]) (M2 := M) (Ps := []) (by decide +kernel) rfl rfl trivial ?_
    have t5 : GM z mJ0_charAt_5068e (d + 3) [.ref 1020, .int (nI i2)] M (fun rs => rs = .inl (some (.int (sby 20 i2)), M)) := c_charAt z _ _ 20 i2 (by decide) (show i2 < 4 from (by omega))
    refine G.callT (as := [.int (nI i2)]) (rest := [.int ((k_of_s20_4  i2) <<< ((nI 5) &&& 31))]) (i := 20) oJ0_charAt_5068e lk_EvenFindersModel_126 (by decide +kernel) rfl (by decide) rfl (Nat.le_of_ble_eq_true rfl) rfl ⟨Nat.le_of_ble_eq_true rfl, Nat.le_of_ble_eq_true rfl⟩ t5 (fun v9 N9 h6 => ?_) (fun E9 N9 h6 => by cases h6)
    cases h6
    show G z mX12_of (d + 4) 0 0 20 [some (.ref 1020), some (.int (k_of_s20_4  i2)), some (.int (nI i2))] [.int (sby 20 i2), .int ((k_of_s20_4  i2) <<< ((nI 5) &&& 31))] M Q
    refine G.sl [(.bipush 96, 2, 0, 0, 0, nI 96), (.isub, 1, 0, 0, 0, 0), (.ior, 1, 0, 0, 0, 0), (.istore_n 1, 1, 1, 0, 0, 0), (.iinc 2 1, 3, 2, 0, 0, nI 1), (.goto (-24), 3, 4, 0, 0, 0)] [] (pc2 := 4) (ls2 := [some (.ref 1020), some (.int (((k_of_s20_4  i2) <<< ((nI 5) &&& 31)) ||| ((sby 20 i2) - (nI 96)))), some (.int ((nI i2) + nI 1))]) (st2 := []) (M2 := M) (Ps := []) (by decide +kernel) rfl rfl trivial ?_
    rw [nI_add i2 1]
    simp only [k_of_s20_4] at ih
    exact ih
set_option maxHeartbeats 4000000 in
set_option maxRecDepth 3000 in
theorem c_k_of_s20 (z : Zp) (d : Nat) (M : Mem) : GM z mX12_of (d + 4) [.ref 1020] M (fun rs => rs = .inl (some (.int (k_of_s20 )), M)) := by
  refine GM.of oX12_of.1 (Nat.le_of_ble_eq_true rfl) ?_
  show G z mX12_of (d + 4) 0 0 0 [some (.ref 1020), none, none] [] M _
  obtain ⟨Q, hQ⟩ : ∃ Q : Rs → Prop, Q = (fun rs => rs = .inl (some (.int (k_of_s20 )), M)) := ⟨_, rfl⟩
  rw [← hQ]
  refine G.sl [(.iconst 0, 1, 0, 0, 0, nI 0), (.istore_n 1, 1, 1, 0, 0, 0), (.iconst 0, 1, 0, 0, 0, nI 0), (.istore_n 2, 1, 2, 0, 0, 0)] [] (pc2 := 4) (ls2 := [some (.ref 1020), some (.int (nI 0)), some (.int (nI 0))]) (st2 := []) (M2 := M) (Ps := []) (by decide +kernel) rfl rfl trivial ?_
  refine lp_k_of_s20_4 z d M Q (cN 4) (cN_eq 4) ?_
  show G z mX12_of (d + 4) 0 0 31 [none, some (.int (k_of_s20_4 (cN 4))), none] [] M Q
  refine G.sl [(.iload_n 1, 1, 1, 0, 0, 0)] [] (pc2 := 32) (ls2 := [none, some (.int (k_of_s20_4 (cN 4))), none]) (st2 := [.int (k_of_s20_4 (cN 4))]) (M2 := M) (Ps := []) (by decide +kernel) rfl rfl trivial ?_
  exact G.reti (by decide +kernel) rfl rfl (Nat.le_of_ble_eq_true rfl) (Nat.le_of_ble_eq_true rfl) ((by rw [hQ]; simp only [k_of_s20, mrow_self]))
set_option maxHeartbeats 4000000 in
set_option maxRecDepth 3000 in
theorem lp_k_of_s21_4 (z : Zp) (d : Nat) (M : Mem) (Q : Rs → Prop) (nn : Nat) (hnn : nn = 4) (hX : G z mX12_of (d + 4) 0 0 31 [none, some (.int (k_of_s21_4  nn)), none] [] M Q) : G z mX12_of (d + 4) 0 0 4 [some (.ref 1021), some (.int (nI 0)), some (.int (nI 0))] [] M Q := by
  refine down (n := nn) (P := fun i2 => G z mX12_of (d + 4) 0 0 4 [some (.ref 1021), some (.int (k_of_s21_4  i2)), some (.int (nI i2))] [] M Q) ?_ ?_ 0 (Nat.zero_le _)
  · skip
    refine G.sl [(.iload_n 2, 1, 2, 0, 0, 0), (.aload_n 0, 1, 0, 0, 0, 0)] [] (pc2 := 6) (ls2 := [some (.ref 1021), some (.int (k_of_s21_4  nn)), some (.int (nI nn))]) (st2 := [.ref 1021, .int (nI nn)]) (M2 := M) (Ps := []) (by decide +kernel) rfl rfl trivial ?_
    have t1 : GM z mJ0_length_8abf5 (d + 3) [.ref 1021] M (fun rs => rs = .inl (some (.int (nI 4)), M)) := c_slen z _ _ 21 (by decide)
    refine G.callT (as := []) (rest := [.int (nI nn)]) (i := 21) oJ0_length_8abf5 lk_EvenFindersModel_121 (by decide +kernel) rfl (by decide) rfl (Nat.le_of_ble_eq_true rfl) rfl ⟨Nat.le_of_ble_eq_true rfl, Nat.le_of_ble_eq_true rfl⟩ t1 (fun v9 N9 h2 => ?_) (fun E9 N9 h2 => by cases h2)
    cases h2
    show G z mX12_of (d + 4) 0 0 9 [some (.ref 1021), some (.int (k_of_s21_4  nn)), some (.int (nI nn))] [.int (nI 4), .int (nI nn)] M Q
    refine G.ic_ge (off := (22)) (tgt := 31) (by decide +kernel) rfl (fun _ => ?_) (fun h9 => absurd (nI_le (by omega) (by omega)) h9)
    refine G.loc (ls2 := [none, some (.int (k_of_s21_4  nn)), none]) (by simp [subL]) ?_
    exact hX
  · skip
    intro i2 hi ih
    show G z mX12_of (d + 4) 0 0 4 [some (.ref 1021), some (.int (k_of_s21_4  i2)), some (.int (nI i2))] [] M Q
    refine G.sl [(.iload_n 2, 1, 2, 0, 0, 0), (.aload_n 0, 1, 0, 0, 0, 0)] [] (pc2 := 6) (ls2 := [some (.ref 1021), some (.int (k_of_s21_4  i2)), some (.int (nI i2))]) (st2 := [.ref 1021, .int (nI i2)]) (M2 := M) (Ps := []) (by decide +kernel) rfl rfl trivial ?_
    have t3 : GM z mJ0_length_8abf5 (d + 3) [.ref 1021] M (fun rs => rs = .inl (some (.int (nI 4)), M)) := c_slen z _ _ 21 (by decide)
    refine G.callT (as := []) (rest := [.int (nI i2)]) (i := 21) oJ0_length_8abf5 lk_EvenFindersModel_121 (by decide +kernel) rfl (by decide) rfl (Nat.le_of_ble_eq_true rfl) rfl ⟨Nat.le_of_ble_eq_true rfl, Nat.le_of_ble_eq_true rfl⟩ t3 (fun v9 N9 h4 => ?_) (fun E9 N9 h4 => by cases h4)
    cases h4
    show G z mX12_of (d + 4) 0 0 9 [some (.ref 1021), some (.int (k_of_s21_4  i2)), some (.int (nI i2))] [.int (nI 4), .int (nI i2)] M Q
    refine G.ic_ge (off := (22)) (tgt := 31) (by decide +kernel) rfl (fun h9 => absurd h9 (nI_ge (by omega) (by omega))) (fun _ => ?_)
    refine G.sl [(.iload_n 1, 1, 1, 0, 0, 0), (.iconst 5, 1, 0, 0, 0, nI 5), (.ishl, 1, 0, 0, 0, 0), (.aload_n 0, 1, 0, 0, 0, 0), (.iload_n 2, 1, 2, 0, 0, 0)] [] (pc2 := 17) (ls2 := [some (.ref 1021), some (.int (k_of_s21_4  i2)), some (.int (nI i2))]) (st2 := [.int (nI i2), .ref 1021, .int ((k_of_s21_4  i2) <<< ((nI 5) &&& 31))]) (M2 := M) (Ps := []) (by decide +kernel) rfl rfl trivial ?_
    have t5 : GM z mJ0_charAt_5068e (d + 3) [.ref 1021, .int (nI i2)] M (fun rs => rs = .inl (some (.int (sby 21 i2)), M)) := c_charAt z _ _ 21 i2 (by decide) (show i2 < 4 from (by omega))
    refine G.callT (as := [.int (nI i2)]) (rest := [.int ((k_of_s21_4  i2) <<< ((nI 5) &&& 31))]) (i := 21) oJ0_charAt_5068e lk_EvenFindersModel_126 (by decide +kernel) rfl (by decide) rfl (Nat.le_of_ble_eq_true rfl) rfl ⟨Nat.le_of_ble_eq_true rfl, Nat.le_of_ble_eq_true rfl⟩ t5 (fun v9 N9 h6 => ?_) (fun E9 N9 h6 => by cases h6)
    cases h6
    show G z mX12_of (d + 4) 0 0 20 [some (.ref 1021), some (.int (k_of_s21_4  i2)), some (.int (nI i2))] [.int (sby 21 i2), .int ((k_of_s21_4  i2) <<< ((nI 5) &&& 31))] M Q
    refine G.sl [(.bipush 96, 2, 0, 0, 0, nI 96), (.isub, 1, 0, 0, 0, 0), (.ior, 1, 0, 0, 0, 0), (.istore_n 1, 1, 1, 0, 0, 0), (.iinc 2 1, 3, 2, 0, 0, nI 1), (.goto (-24), 3, 4, 0, 0, 0)] [] (pc2 := 4) (ls2 := [some (.ref 1021), some (.int (((k_of_s21_4  i2) <<< ((nI 5) &&& 31)) ||| ((sby 21 i2) - (nI 96)))), some (.int ((nI i2) + nI 1))]) (st2 := []) (M2 := M) (Ps := []) (by decide +kernel) rfl rfl trivial ?_
    rw [nI_add i2 1]
    simp only [k_of_s21_4] at ih
    exact ih
set_option maxHeartbeats 4000000 in
set_option maxRecDepth 3000 in
theorem c_k_of_s21 (z : Zp) (d : Nat) (M : Mem) : GM z mX12_of (d + 4) [.ref 1021] M (fun rs => rs = .inl (some (.int (k_of_s21 )), M)) := by
  refine GM.of oX12_of.1 (Nat.le_of_ble_eq_true rfl) ?_
  show G z mX12_of (d + 4) 0 0 0 [some (.ref 1021), none, none] [] M _
  obtain ⟨Q, hQ⟩ : ∃ Q : Rs → Prop, Q = (fun rs => rs = .inl (some (.int (k_of_s21 )), M)) := ⟨_, rfl⟩
  rw [← hQ]
  refine G.sl [(.iconst 0, 1, 0, 0, 0, nI 0), (.istore_n 1, 1, 1, 0, 0, 0), (.iconst 0, 1, 0, 0, 0, nI 0), (.istore_n 2, 1, 2, 0, 0, 0)] [] (pc2 := 4) (ls2 := [some (.ref 1021), some (.int (nI 0)), some (.int (nI 0))]) (st2 := []) (M2 := M) (Ps := []) (by decide +kernel) rfl rfl trivial ?_
  refine lp_k_of_s21_4 z d M Q (cN 4) (cN_eq 4) ?_
  show G z mX12_of (d + 4) 0 0 31 [none, some (.int (k_of_s21_4 (cN 4))), none] [] M Q
  refine G.sl [(.iload_n 1, 1, 1, 0, 0, 0)] [] (pc2 := 32) (ls2 := [none, some (.int (k_of_s21_4 (cN 4))), none]) (st2 := [.int (k_of_s21_4 (cN 4))]) (M2 := M) (Ps := []) (by decide +kernel) rfl rfl trivial ?_
  exact G.reti (by decide +kernel) rfl rfl (Nat.le_of_ble_eq_true rfl) (Nat.le_of_ble_eq_true rfl) ((by rw [hQ]; simp only [k_of_s21, mrow_self]))
set_option maxHeartbeats 4000000 in
set_option maxRecDepth 3000 in
theorem lp_k_of_s22_4 (z : Zp) (d : Nat) (M : Mem) (Q : Rs → Prop) (nn : Nat) (hnn : nn = 4) (hX : G z mX12_of (d + 4) 0 0 31 [none, some (.int (k_of_s22_4  nn)), none] [] M Q) : G z mX12_of (d + 4) 0 0 4 [some (.ref 1022), some (.int (nI 0)), some (.int (nI 0))] [] M Q := by
  refine down (n := nn) (P := fun i2 => G z mX12_of (d + 4) 0 0 4 [some (.ref 1022), some (.int (k_of_s22_4  i2)), some (.int (nI i2))] [] M Q) ?_ ?_ 0 (Nat.zero_le _)
  · skip
    refine G.sl [(.iload_n 2, 1, 2, 0, 0, 0), (.aload_n 0, 1, 0, 0, 0, 0)] [] (pc2 := 6) (ls2 := [some (.ref 1022), some (.int (k_of_s22_4  nn)), some (.int (nI nn))]) (st2 := [.ref 1022, .int (nI nn)]) (M2 := M) (Ps := []) (by decide +kernel) rfl rfl trivial ?_
    have t1 : GM z mJ0_length_8abf5 (d + 3) [.ref 1022] M (fun rs => rs = .inl (some (.int (nI 4)), M)) := c_slen z _ _ 22 (by decide)
    refine G.callT (as := []) (rest := [.int (nI nn)]) (i := 22) oJ0_length_8abf5 lk_EvenFindersModel_121 (by decide +kernel) rfl (by decide) rfl (Nat.le_of_ble_eq_true rfl) rfl ⟨Nat.le_of_ble_eq_true rfl, Nat.le_of_ble_eq_true rfl⟩ t1 (fun v9 N9 h2 => ?_) (fun E9 N9 h2 => by cases h2)
    cases h2
    show G z mX12_of (d + 4) 0 0 9 [some (.ref 1022), some (.int (k_of_s22_4  nn)), some (.int (nI nn))] [.int (nI 4), .int (nI nn)] M Q
    refine G.ic_ge (off := (22)) (tgt := 31) (by decide +kernel) rfl (fun _ => ?_) (fun h9 => absurd (nI_le (by omega) (by omega)) h9)
    refine G.loc (ls2 := [none, some (.int (k_of_s22_4  nn)), none]) (by simp [subL]) ?_
    exact hX
  · skip
    intro i2 hi ih
    show G z mX12_of (d + 4) 0 0 4 [some (.ref 1022), some (.int (k_of_s22_4  i2)), some (.int (nI i2))] [] M Q
    refine G.sl [(.iload_n 2, 1, 2, 0, 0, 0), (.aload_n 0, 1, 0, 0, 0, 0)] [] (pc2 := 6) (ls2 := [some (.ref 1022), some (.int (k_of_s22_4  i2)), some (.int (nI i2))]) (st2 := [.ref 1022, .int (nI i2)]) (M2 := M) (Ps := []) (by decide +kernel) rfl rfl trivial ?_
    have t3 : GM z mJ0_length_8abf5 (d + 3) [.ref 1022] M (fun rs => rs = .inl (some (.int (nI 4)), M)) := c_slen z _ _ 22 (by decide)
    refine G.callT (as := []) (rest := [.int (nI i2)]) (i := 22) oJ0_length_8abf5 lk_EvenFindersModel_121 (by decide +kernel) rfl (by decide) rfl (Nat.le_of_ble_eq_true rfl) rfl ⟨Nat.le_of_ble_eq_true rfl, Nat.le_of_ble_eq_true rfl⟩ t3 (fun v9 N9 h4 => ?_) (fun E9 N9 h4 => by cases h4)
    cases h4
    show G z mX12_of (d + 4) 0 0 9 [some (.ref 1022), some (.int (k_of_s22_4  i2)), some (.int (nI i2))] [.int (nI 4), .int (nI i2)] M Q
    refine G.ic_ge (off := (22)) (tgt := 31) (by decide +kernel) rfl (fun h9 => absurd h9 (nI_ge (by omega) (by omega))) (fun _ => ?_)
    refine G.sl [(.iload_n 1, 1, 1, 0, 0, 0), (.iconst 5, 1, 0, 0, 0, nI 5), (.ishl, 1, 0, 0, 0, 0), (.aload_n 0, 1, 0, 0, 0, 0), (.iload_n 2, 1, 2, 0, 0, 0)] [] (pc2 := 17) (ls2 := [some (.ref 1022), some (.int (k_of_s22_4  i2)), some (.int (nI i2))]) (st2 := [.int (nI i2), .ref 1022, .int ((k_of_s22_4  i2) <<< ((nI 5) &&& 31))]) (M2 := M) (Ps := []) (by decide +kernel) rfl rfl trivial ?_
    have t5 : GM z mJ0_charAt_5068e (d + 3) [.ref 1022, .int (nI i2)] M (fun rs => rs = .inl (some (.int (sby 22 i2)), M)) := c_charAt z _ _ 22 i2 (by decide) (show i2 < 4 from (by omega))
    refine G.callT (as := [.int (nI i2)]) (rest := [.int ((k_of_s22_4  i2) <<< ((nI 5) &&& 31))]) (i := 22) oJ0_charAt_5068e lk_EvenFindersModel_126 (by decide +kernel) rfl (by decide) rfl (Nat.le_of_ble_eq_true rfl) rfl ⟨Nat.le_of_ble_eq_true rfl, Nat.le_of_ble_eq_true rfl⟩ t5 (fun v9 N9 h6 => ?_) (fun E9 N9 h6 => by cases h6)
    cases h6
    show G z mX12_of (d + 4) 0 0 20 [some (.ref 1022), some (.int (k_of_s22_4  i2)), some (.int (nI i2))] [.int (sby 22 i2), .int ((k_of_s22_4  i2) <<< ((nI 5) &&& 31))] M Q
    refine G.sl [(.bipush 96, 2, 0, 0, 0, nI 96), (.isub, 1, 0, 0, 0, 0), (.ior, 1, 0, 0, 0, 0), (.istore_n 1, 1, 1, 0, 0, 0), (.iinc 2 1, 3, 2, 0, 0, nI 1), (.goto (-24), 3, 4, 0, 0, 0)] [] (pc2 := 4) (ls2 := [some (.ref 1022), some (.int (((k_of_s22_4  i2) <<< ((nI 5) &&& 31)) ||| ((sby 22 i2) - (nI 96)))), some (.int ((nI i2) + nI 1))]) (st2 := []) (M2 := M) (Ps := []) (by decide +kernel) rfl rfl trivial ?_
    rw [nI_add i2 1]
    simp only [k_of_s22_4] at ih
    exact ih
set_option maxHeartbeats 4000000 in
set_option maxRecDepth 3000 in
theorem c_k_of_s22 (z : Zp) (d : Nat) (M : Mem) : GM z mX12_of (d + 4) [.ref 1022] M (fun rs => rs = .inl (some (.int (k_of_s22 )), M)) := by
  refine GM.of oX12_of.1 (Nat.le_of_ble_eq_true rfl) ?_
  show G z mX12_of (d + 4) 0 0 0 [some (.ref 1022), none, none] [] M _
  obtain ⟨Q, hQ⟩ : ∃ Q : Rs → Prop, Q = (fun rs => rs = .inl (some (.int (k_of_s22 )), M)) := ⟨_, rfl⟩
  rw [← hQ]
  refine G.sl [(.iconst 0, 1, 0, 0, 0, nI 0), (.istore_n 1, 1, 1, 0, 0, 0), (.iconst 0, 1, 0, 0, 0, nI 0), (.istore_n 2, 1, 2, 0, 0, 0)] [] (pc2 := 4) (ls2 := [some (.ref 1022), some (.int (nI 0)), some (.int (nI 0))]) (st2 := []) (M2 := M) (Ps := []) (by decide +kernel) rfl rfl trivial ?_
  refine lp_k_of_s22_4 z d M Q (cN 4) (cN_eq 4) ?_
  show G z mX12_of (d + 4) 0 0 31 [none, some (.int (k_of_s22_4 (cN 4))), none] [] M Q
  refine G.sl [(.iload_n 1, 1, 1, 0, 0, 0)] [] (pc2 := 32) (ls2 := [none, some (.int (k_of_s22_4 (cN 4))), none]) (st2 := [.int (k_of_s22_4 (cN 4))]) (M2 := M) (Ps := []) (by decide +kernel) rfl rfl trivial ?_
  exact G.reti (by decide +kernel) rfl rfl (Nat.le_of_ble_eq_true rfl) (Nat.le_of_ble_eq_true rfl) ((by rw [hQ]; simp only [k_of_s22, mrow_self]))
set_option maxHeartbeats 4000000 in
set_option maxRecDepth 3000 in
theorem lp_k_of_s23_4 (z : Zp) (d : Nat) (M : Mem) (Q : Rs → Prop) (nn : Nat) (hnn : nn = 5) (hX : G z mX12_of (d + 4) 0 0 31 [none, some (.int (k_of_s23_4  nn)), none] [] M Q) : G z mX12_of (d + 4) 0 0 4 [some (.ref 1023), some (.int (nI 0)), some (.int (nI 0))] [] M Q := by
  refine down (n := nn) (P := fun i2 => G z mX12_of (d + 4) 0 0 4 [some (.ref 1023), some (.int (k_of_s23_4  i2)), some (.int (nI i2))] [] M Q) ?_ ?_ 0 (Nat.zero_le _)
  · skip
    refine G.sl [(.iload_n 2, 1, 2, 0, 0, 0), (.aload_n 0, 1, 0, 0, 0, 0)] [] (pc2 := 6) (ls2 := [some (.ref 1023), some (.int (k_of_s23_4  nn)), some (.int (nI nn))]) (st2 := [.ref 1023, .int (nI nn)]) (M2 := M) (Ps := []) (by decide +kernel) rfl rfl trivial ?_
    have t1 : GM z mJ0_length_8abf5 (d + 3) [.ref 1023] M (fun rs => rs = .inl (some (.int (nI 5)), M)) := c_slen z _ _ 23 (by decide)
    refine G.callT (as := []) (rest := [.int (nI nn)]) (i := 23) oJ0_length_8abf5 lk_EvenFindersModel_121 (by decide +kernel) rfl (by decide) rfl (Nat.le_of_ble_eq_true rfl) rfl ⟨Nat.le_of_ble_eq_true rfl, Nat.le_of_ble_eq_true rfl⟩ t1 (fun v9 N9 h2 => ?_) (fun E9 N9 h2 => by cases h2)
    cases h2
    show G z mX12_of (d + 4) 0 0 9 [some (.ref 1023), some (.int (k_of_s23_4  nn)), some (.int (nI nn))] [.int (nI 5), .int (nI nn)] M Q
    refine G.ic_ge (off := (22)) (tgt := 31) (by decide +kernel) rfl (fun _ => ?_) (fun h9 => absurd (nI_le (by omega) (by omega)) h9)
    refine G.loc (ls2 := [none, some (.int (k_of_s23_4  nn)), none]) (by simp [subL]) ?_
    exact hX
  · skip
    intro i2 hi ih
    show G z mX12_of (d + 4) 0 0 4 [some (.ref 1023), some (.int (k_of_s23_4  i2)), some (.int (nI i2))] [] M Q
    refine G.sl [(.iload_n 2, 1, 2, 0, 0, 0), (.aload_n 0, 1, 0, 0, 0, 0)] [] (pc2 := 6) (ls2 := [some (.ref 1023), some (.int (k_of_s23_4  i2)), some (.int (nI i2))]) (st2 := [.ref 1023, .int (nI i2)]) (M2 := M) (Ps := []) (by decide +kernel) rfl rfl trivial ?_
    have t3 : GM z mJ0_length_8abf5 (d + 3) [.ref 1023] M (fun rs => rs = .inl (some (.int (nI 5)), M)) := c_slen z _ _ 23 (by decide)
    refine G.callT (as := []) (rest := [.int (nI i2)]) (i := 23) oJ0_length_8abf5 lk_EvenFindersModel_121 (by decide +kernel) rfl (by decide) rfl (Nat.le_of_ble_eq_true rfl) rfl ⟨Nat.le_of_ble_eq_true rfl, Nat.le_of_ble_eq_true rfl⟩ t3 (fun v9 N9 h4 => ?_) (fun E9 N9 h4 => by cases h4)
    cases h4
    show G z mX12_of (d + 4) 0 0 9 [some (.ref 1023), some (.int (k_of_s23_4  i2)), some (.int (nI i2))] [.int (nI 5), .int (nI i2)] M Q
    refine G.ic_ge (off := (22)) (tgt := 31) (by decide +kernel) rfl (fun h9 => absurd h9 (nI_ge (by omega) (by omega))) (fun _ => ?_)
    refine G.sl [(.iload_n 1, 1, 1, 0, 0, 0), (.iconst 5, 1, 0, 0, 0, nI 5), (.ishl, 1, 0, 0, 0, 0), (.aload_n 0, 1, 0, 0, 0, 0), (.iload_n 2, 1, 2, 0, 0, 0)] [] (pc2 := 17) (ls2 := [some (.ref 1023), some (.int (k_of_s23_4  i2)), some (.int (nI i2))]) (st2 := [.int (nI i2), .ref 1023, .int ((k_of_s23_4  i2) <<< ((nI 5) &&& 31))]) (M2 := M) (Ps := []) (by decide +kernel) rfl rfl trivial ?_
    have t5 : GM z mJ0_charAt_5068e (d + 3) [.ref 1023, .int (nI i2)] M (fun rs => rs = .inl (some (.int (sby 23 i2)), M)) := c_charAt z _ _ 23 i2 (by decide) (show i2 < 5 from (by omega))
    refine G.callT (as := [.int (nI i2)]) (rest := [.int ((k_of_s23_4  i2) <<< ((nI 5) &&& 31))]) (i := 23) oJ0_charAt_5068e lk_EvenFindersModel_126 (by decide +kernel) rfl (by decide) rfl (Nat.le_of_ble_eq_true rfl) rfl ⟨Nat.le_of_ble_eq_true rfl, Nat.le_of_ble_eq_true rfl⟩ t5 (fun v9 N9 h6 => ?_) (fun E9 N9 h6 => by cases h6)
    cases h6
    show G z mX12_of (d + 4) 0 0 20 [some (.ref 1023), some (.int (k_of_s23_4  i2)), some (.int (nI i2))] [.int (sby 23 i2), .int ((k_of_s23_4  i2) <<< ((nI 5) &&& 31))] M Q
    refine G.sl [(.bipush 96, 2, 0, 0, 0, nI 96), (.isub, 1, 0, 0, 0, 0), (.ior, 1, 0, 0, 0, 0), (.istore_n 1, 1, 1, 0, 0, 0), (.iinc 2 1, 3, 2, 0, 0, nI 1), (.goto (-24), 3, 4, 0, 0, 0)] [] (pc2 := 4) (ls2 := [some (.ref 1023), some (.int (((k_of_s23_4  i2) <<< ((nI 5) &&& 31)) ||| ((sby 23 i2) - (nI 96)))), some (.int ((nI i2) + nI 1))]) (st2 := []) (M2 := M) (Ps := []) (by decide +kernel) rfl rfl trivial ?_
    rw [nI_add i2 1]
    simp only [k_of_s23_4] at ih
    exact ih
set_option maxHeartbeats 4000000 in
set_option maxRecDepth 3000 in
theorem c_k_of_s23 (z : Zp) (d : Nat) (M : Mem) : GM z mX12_of (d + 4) [.ref 1023] M (fun rs => rs = .inl (some (.int (k_of_s23 )), M)) := by
  refine GM.of oX12_of.1 (Nat.le_of_ble_eq_true rfl) ?_
  show G z mX12_of (d + 4) 0 0 0 [some (.ref 1023), none, none] [] M _
  obtain ⟨Q, hQ⟩ : ∃ Q : Rs → Prop, Q = (fun rs => rs = .inl (some (.int (k_of_s23 )), M)) := ⟨_, rfl⟩
  rw [← hQ]
  refine G.sl [(.iconst 0, 1, 0, 0, 0, nI 0), (.istore_n 1, 1, 1, 0, 0, 0), (.iconst 0, 1, 0, 0, 0, nI 0), (.istore_n 2, 1, 2, 0, 0, 0)] [] (pc2 := 4) (ls2 := [some (.ref 1023), some (.int (nI 0)), some (.int (nI 0))]) (st2 := []) (M2 := M) (Ps := []) (by decide +kernel) rfl rfl trivial ?_
  refine lp_k_of_s23_4 z d M Q (cN 5) (cN_eq 5) ?_
  show G z mX12_of (d + 4) 0 0 31 [none, some (.int (k_of_s23_4 (cN 5))), none] [] M Q
  refine G.sl [(.iload_n 1, 1, 1, 0, 0, 0)] [] (pc2 := 32) (ls2 := [none, some (.int (k_of_s23_4 (cN 5))), none]) (st2 := [.int (k_of_s23_4 (cN 5))]) (M2 := M) (Ps := []) (by decide +kernel) rfl rfl trivial ?_
  exact G.reti (by decide +kernel) rfl rfl (Nat.le_of_ble_eq_true rfl) (Nat.le_of_ble_eq_true rfl) ((by rw [hQ]; simp only [k_of_s23, mrow_self]))
set_option maxHeartbeats 4000000 in
set_option maxRecDepth 3000 in
theorem lp_k_of_s24_4 (z : Zp) (d : Nat) (M : Mem) (Q : Rs → Prop) (nn : Nat) (hnn : nn = 5) (hX : G z mX12_of (d + 4) 0 0 31 [none, some (.int (k_of_s24_4  nn)), none] [] M Q) : G z mX12_of (d + 4) 0 0 4 [some (.ref 1024), some (.int (nI 0)), some (.int (nI 0))] [] M Q := by
  refine down (n := nn) (P := fun i2 => G z mX12_of (d + 4) 0 0 4 [some (.ref 1024), some (.int (k_of_s24_4  i2)), some (.int (nI i2))] [] M Q) ?_ ?_ 0 (Nat.zero_le _)
  · skip
    refine G.sl [(.iload_n 2, 1, 2, 0, 0, 0), (.aload_n 0, 1, 0, 0, 0, 0)] [] (pc2 := 6) (ls2 := [some (.ref 1024), some (.int (k_of_s24_4  nn)), some (.int (nI nn))]) (st2 := [.ref 1024, .int (nI nn)]) (M2 := M) (Ps := []) (by decide +kernel) rfl rfl trivial ?_
    have t1 : GM z mJ0_length_8abf5 (d + 3) [.ref 1024] M (fun rs => rs = .inl (some (.int (nI 5)), M)) := c_slen z _ _ 24 (by decide)
    refine G.callT (as := []) (rest := [.int (nI nn)]) (i := 24) oJ0_length_8abf5 lk_EvenFindersModel_121 (by decide +kernel) rfl (by decide) rfl (Nat.le_of_ble_eq_true rfl) rfl ⟨Nat.le_of_ble_eq_true rfl, Nat.le_of_ble_eq_true rfl⟩ t1 (fun v9 N9 h2 => ?_) (fun E9 N9 h2 => by cases h2)
    cases h2
    show G z mX12_of (d + 4) 0 0 9 [some (.ref 1024), some (.int (k_of_s24_4  nn)), some (.int (nI nn))] [.int (nI 5), .int (nI nn)] M Q
    refine G.ic_ge (off := (22)) (tgt := 31) (by decide +kernel) rfl (fun _ => ?_) (fun h9 => absurd (nI_le (by omega) (by omega)) h9)
    refine G.loc (ls2 := [none, some (.int (k_of_s24_4  nn)), none]) (by simp [subL]) ?_
    exact hX
  · skip
    intro i2 hi ih
    show G z mX12_of (d + 4) 0 0 4 [some (.ref 1024), some (.int (k_of_s24_4  i2)), some (.int (nI i2))] [] M Q
    refine G.sl [(.iload_n 2, 1, 2, 0, 0, 0), (.aload_n 0, 1, 0, 0, 0, 0)] [] (pc2 := 6) (ls2 := [some (.ref 1024), some (.int (k_of_s24_4  i2)), some (.int (nI i2))]) (st2 := [.ref 1024, .int (nI i2)]) (M2 := M) (Ps := []) (by decide +kernel) rfl rfl trivial ?_
    have t3 : GM z mJ0_length_8abf5 (d + 3) [.ref 1024] M (fun rs => rs = .inl (some (.int (nI 5)), M)) := c_slen z _ _ 24 (by decide)
    refine G.callT (as := []) (rest := [.int (nI i2)]) (i := 24) oJ0_length_8abf5 lk_EvenFindersModel_121 (by decide +kernel) rfl (by decide) rfl (Nat.le_of_ble_eq_true rfl) rfl ⟨Nat.le_of_ble_eq_true rfl, Nat.le_of_ble_eq_true rfl⟩ t3 (fun v9 N9 h4 => ?_) (fun E9 N9 h4 => by cases h4)
    cases h4
    show G z mX12_of (d + 4) 0 0 9 [some (.ref 1024), some (.int (k_of_s24_4  i2)), some (.int (nI i2))] [.int (nI 5), .int (nI i2)] M Q
    refine G.ic_ge (off := (22)) (tgt := 31) (by decide +kernel) rfl (fun h9 => absurd h9 (nI_ge (by omega) (by omega))) (fun _ => ?_)
    refine G.sl [(.iload_n 1, 1, 1, 0, 0, 0), (.iconst 5, 1, 0, 0, 0, nI 5), (.ishl, 1, 0, 0, 0, 0), (.aload_n 0, 1, 0, 0, 0, 0), (.iload_n 2, 1, 2, 0, 0, 0)] [] (pc2 := 17) (ls2 := [some (.ref 1024), some (.int (k_of_s24_4  i2)), some (.int (nI i2))]) (st2 := [.int (nI i2), .ref 1024, .int ((k_of_s24_4  i2) <<< ((nI 5) &&& 31))]) (M2 := M) (Ps := []) (by decide +kernel) rfl rfl trivial ?_
    have t5 : GM z mJ0_charAt_5068e (d + 3) [.ref 1024, .int (nI i2)] M (fun rs => rs = .inl (some (.int (sby 24 i2)), M)) := c_charAt z _ _ 24 i2 (by decide) (show i2 < 5 from (by omega))
    refine G.callT (as := [.int (nI i2)]) (rest := [.int ((k_of_s24_4  i2) <<< ((nI 5) &&& 31))]) (i := 24) oJ0_charAt_5068e lk_EvenFindersModel_126 (by decide +kernel) rfl (by decide) rfl (Nat.le_of_ble_eq_true rfl) rfl ⟨Nat.le_of_ble_eq_true rfl, Nat.le_of_ble_eq_true rfl⟩ t5 (fun v9 N9 h6 => ?_) (fun E9 N9 h6 => by cases h6)
    cases h6
    show G z mX12_of (d + 4) 0 0 20 [some (.ref 1024), some (.int (k_of_s24_4  i2)), some (.int (nI i2))] [.int (sby 24 i2), .int ((k_of_s24_4  i2) <<< ((nI 5) &&& 31))] M Q
    refine G.sl [(.bipush 96, 2, 0, 0, 0, nI 96), (.isub, 1, 0, 0, 0, 0), (.ior, 1, 0, 0, 0, 0), (.istore_n 1, 1, 1, 0, 0, 0), (.iinc 2 1, 3, 2, 0, 0, nI 1), (.goto (-24), 3, 4, 0, 0, 0)] [] (pc2 := 4) (ls2 := [some (.ref 1024), some (.int (((k_of_s24_4  i2) <<< ((nI 5) &&& 31)) ||| ((sby 24 i2) - (nI 96)))), some (.int ((nI i2) + nI 1))]) (st2 := []) (M2 := M) (Ps := []) (by decide +kernel) rfl rfl trivial ?_
    rw [nI_add i2 1]
    simp only [k_of_s24_4] at ih
    exact ih
set_option maxHeartbeats 4000000 in
set_option maxRecDepth 3000 in
theorem c_k_of_s24 (z : Zp) (d : Nat) (M : Mem) : GM z mX12_of (d + 4) [.ref 1024] M (fun rs => rs = .inl (some (.int (k_of_s24 )), M)) := by
  refine GM.of oX12_of.1 (Nat.le_of_ble_eq_true rfl) ?_
  show G z mX12_of (d + 4) 0 0 0 [some (.ref 1024), none, none] [] M _
  obtain ⟨Q, hQ⟩ : ∃ Q : Rs → Prop, Q = (fun rs => rs = .inl (some (.int (k_of_s24 )), M)) := ⟨_, rfl⟩
  rw [← hQ]
  refine G.sl [(.iconst 0, 1, 0, 0, 0, nI 0), (.istore_n 1, 1, 1, 0, 0, 0), (.iconst 0, 1, 0, 0, 0, nI 0), (.istore_n 2, 1, 2, 0, 0, 0)] [] (pc2 := 4) (ls2 := [some (.ref 1024), some (.int (nI 0)), some (.int (nI 0))]) (st2 := []) (M2 := M) (Ps := []) (by decide +kernel) rfl rfl trivial ?_
  refine lp_k_of_s24_4 z d M Q (cN 5) (cN_eq 5) ?_
  show G z mX12_of (d + 4) 0 0 31 [none, some (.int (k_of_s24_4 (cN 5))), none] [] M Q
  refine G.sl [(.iload_n 1, 1, 1, 0, 0, 0)] [] (pc2 := 32) (ls2 := [none, some (.int (k_of_s24_4 (cN 5))), none]) (st2 := [.int (k_of_s24_4 (cN 5))]) (M2 := M) (Ps := []) (by decide +kernel) rfl rfl trivial ?_
  exact G.reti (by decide +kernel) rfl rfl (Nat.le_of_ble_eq_true rfl) (Nat.le_of_ble_eq_true rfl) ((by rw [hQ]; simp only [k_of_s24, mrow_self]))
set_option maxHeartbeats 4000000 in
set_option maxRecDepth 3000 in
theorem c_k_stepOf (z : Zp) (d : Nat) (M : Mem) (x0 : Int32) : GM z mX12_stepOf (d + 5) [.int x0] M (fun rs => rs = .inl (some (.int (k_stepOf x0)), M)) := by
  refine GM.of oX12_stepOf.1 (Nat.le_of_ble_eq_true rfl) ?_
  show G z mX12_stepOf (d + 5) 0 0 0 [some (.int x0)] [] M _
  obtain ⟨Q, hQ⟩ : ∃ Q : Rs → Prop, Q = (fun rs => rs = .inl (some (.int (k_stepOf x0)), M)) := ⟨_, rfl⟩
  rw [← hQ]
  refine G.sl [(.iload_n 0, 1, 0, 0, 0, 0), (.ldc_w 298, 3, 1, 19, 0, 0)] [] (pc2 := 4) (ls2 := [some (.int x0)]) (st2 := [.ref 1019, .int x0]) (M2 := M) (Ps := []) (by decide +kernel) rfl rfl trivial ?_
  have t2 : GM z mX12_of (d + 4) [.ref 1019] M (fun rs => rs = .inl (some (.int k_of_s19), M)) := by
    have q9 := c_k_of_s19 z d M 
    try simp only [mput, mrow_same, mrow_hit, mrow_miss, mrow_sw, idr_eq, ne_eq, Nat.reduceEqDiff, not_false_eq_true, Nat.reduceLT, reduceCtorEq] at q9
    exact q9
  refine G.callS (as := [.ref 1019]) (rest := [.int x0]) oX12_of lk_EvenFindersModel_198 (by decide +kernel) rfl (Nat.le_of_ble_eq_true rfl) rfl ⟨Nat.le_of_ble_eq_true rfl, Nat.le_of_ble_eq_true rfl⟩ t2 (fun v9 N9 h3 => ?_) (fun E9 N9 h3 => by cases h3)
  cases h3
  show G z mX12_stepOf (d + 5) 0 0 7 [some (.int x0)] [.int k_of_s19, .int x0] M Q
  refine G.ic_ne (off := (7)) (tgt := 14) (by decide +kernel) rfl (fun c4 => ?_) (fun c4 => ?_)
  · skip
    refine G.sl [(.iload_n 0, 1, 0, 0, 0, 0), (.ldc_w 300, 3, 1, 20, 0, 0)] [] (pc2 := 18) (ls2 := [some (.int x0)]) (st2 := [.ref 1020, .int x0]) (M2 := M) (Ps := []) (by decide +kernel) rfl rfl trivial ?_
    have t6 : GM z mX12_of (d + 4) [.ref 1020] M (fun rs => rs = .inl (some (.int k_of_s20), M)) := by
      have q9 := c_k_of_s20 z d M 
      try simp only [mput, mrow_same, mrow_hit, mrow_miss, mrow_sw, idr_eq, ne_eq, Nat.reduceEqDiff, not_false_eq_true, Nat.reduceLT, reduceCtorEq] at q9
      exact q9
    refine G.callS (as := [.ref 1020]) (rest := [.int x0]) oX12_of lk_EvenFindersModel_198 (by decide +kernel) rfl (Nat.le_of_ble_eq_true rfl) rfl ⟨Nat.le_of_ble_eq_true rfl, Nat.le_of_ble_eq_true rfl⟩ t6 (fun v9 N9 h7 => ?_) (fun E9 N9 h7 => by cases h7)
    cases h7
    show G z mX12_stepOf (d + 5) 0 0 21 [some (.int x0)] [.int k_of_s20, .int x0] M Q
    refine G.ic_ne (off := (7)) (tgt := 28) (by decide +kernel) rfl (fun c8 => ?_) (fun c8 => ?_)
    · skip
      refine G.sl [(.iload_n 0, 1, 0, 0, 0, 0), (.ldc_w 302, 3, 1, 21, 0, 0)] [] (pc2 := 32) (ls2 := [some (.int x0)]) (st2 := [.ref 1021, .int x0]) (M2 := M) (Ps := []) (by decide +kernel) rfl rfl trivial ?_
      have t10 : GM z mX12_of (d + 4) [.ref 1021] M (fun rs => rs = .inl (some (.int k_of_s21), M)) := by
        have q9 := c_k_of_s21 z d M 
        try simp only [mput, mrow_same, mrow_hit, mrow_miss, mrow_sw, idr_eq, ne_eq, Nat.reduceEqDiff, not_false_eq_true, Nat.reduceLT, reduceCtorEq] at q9
        exact q9
      refine G.callS (as := [.ref 1021]) (rest := [.int x0]) oX12_of lk_EvenFindersModel_198 (by decide +kernel) rfl (Nat.le_of_ble_eq_true rfl) rfl ⟨Nat.le_of_ble_eq_true rfl, Nat.le_of_ble_eq_true rfl⟩ t10 (fun v9 N9 h11 => ?_) (fun E9 N9 h11 => by cases h11)
      cases h11
      show G z mX12_stepOf (d + 5) 0 0 35 [some (.int x0)] [.int k_of_s21, .int x0] M Q
      refine G.ic_ne (off := (7)) (tgt := 42) (by decide +kernel) rfl (fun c12 => ?_) (fun c12 => ?_)
      · skip
        refine G.sl [(.iload_n 0, 1, 0, 0, 0, 0), (.ldc_w 304, 3, 1, 22, 0, 0)] [] (pc2 := 46) (ls2 := [some (.int x0)]) (st2 := [.ref 1022, .int x0]) (M2 := M) (Ps := []) (by decide +kernel) rfl rfl trivial ?_
        have t14 : GM z mX12_of (d + 4) [.ref 1022] M (fun rs => rs = .inl (some (.int k_of_s22), M)) := by
          have q9 := c_k_of_s22 z d M 
          try simp only [mput, mrow_same, mrow_hit, mrow_miss, mrow_sw, idr_eq, ne_eq, Nat.reduceEqDiff, not_false_eq_true, Nat.reduceLT, reduceCtorEq] at q9
          exact q9
        refine G.callS (as := [.ref 1022]) (rest := [.int x0]) oX12_of lk_EvenFindersModel_198 (by decide +kernel) rfl (Nat.le_of_ble_eq_true rfl) rfl ⟨Nat.le_of_ble_eq_true rfl, Nat.le_of_ble_eq_true rfl⟩ t14 (fun v9 N9 h15 => ?_) (fun E9 N9 h15 => by cases h15)
        cases h15
        show G z mX12_stepOf (d + 5) 0 0 49 [some (.int x0)] [.int k_of_s22, .int x0] M Q
        refine G.ic_ne (off := (7)) (tgt := 56) (by decide +kernel) rfl (fun c16 => ?_) (fun c16 => ?_)
        · skip
          refine G.sl [(.iload_n 0, 1, 0, 0, 0, 0), (.ldc_w 306, 3, 1, 23, 0, 0)] [] (pc2 := 60) (ls2 := [some (.int x0)]) (st2 := [.ref 1023, .int x0]) (M2 := M) (Ps := []) (by decide +kernel) rfl rfl trivial ?_
          have t18 : GM z mX12_of (d + 4) [.ref 1023] M (fun rs => rs = .inl (some (.int k_of_s23), M)) := by
            have q9 := c_k_of_s23 z d M 
            try simp only [mput, mrow_same, mrow_hit, mrow_miss, mrow_sw, idr_eq, ne_eq, Nat.reduceEqDiff, not_false_eq_true, Nat.reduceLT, reduceCtorEq] at q9
            exact q9
          refine G.callS (as := [.ref 1023]) (rest := [.int x0]) oX12_of lk_EvenFindersModel_198 (by decide +kernel) rfl (Nat.le_of_ble_eq_true rfl) rfl ⟨Nat.le_of_ble_eq_true rfl, Nat.le_of_ble_eq_true rfl⟩ t18 (fun v9 N9 h19 => ?_) (fun E9 N9 h19 => by cases h19)
          cases h19
          show G z mX12_stepOf (d + 5) 0 0 63 [some (.int x0)] [.int k_of_s23, .int x0] M Q
          refine G.ic_ne (off := (7)) (tgt := 70) (by decide +kernel) rfl (fun c20 => ?_) (fun c20 => ?_)
          · skip
            refine G.sl [(.iload_n 0, 1, 0, 0, 0, 0), (.ldc_w 308, 3, 1, 24, 0, 0)] [] (pc2 := 74) (ls2 := [some (.int x0)]) (st2 := [.ref 1024, .int x0]) (M2 := M) (Ps := []) (by decide +kernel) rfl rfl trivial ?_
            have t22 : GM z mX12_of (d + 4) [.ref 1024] M (fun rs => rs = .inl (some (.int k_of_s24), M)) := by
              have q9 := c_k_of_s24 z d M 
              try simp only [mput, mrow_same, mrow_hit, mrow_miss, mrow_sw, idr_eq, ne_eq, Nat.reduceEqDiff, not_false_eq_true, Nat.reduceLT, reduceCtorEq] at q9
              exact q9
            refine G.callS (as := [.ref 1024]) (rest := [.int x0]) oX12_of lk_EvenFindersModel_198 (by decide +kernel) rfl (Nat.le_of_ble_eq_true rfl) rfl ⟨Nat.le_of_ble_eq_true rfl, Nat.le_of_ble_eq_true rfl⟩ t22 (fun v9 N9 h23 => ?_) (fun E9 N9 h23 => by cases h23)
            cases h23
            show G z mX12_stepOf (d + 5) 0 0 77 [some (.int x0)] [.int k_of_s24, .int x0] M Q
            refine G.ic_ne (off := (7)) (tgt := 84) (by decide +kernel) rfl (fun c24 => ?_) (fun c24 => ?_)
            · skip
              refine G.sl [(.iconst (-1), 1, 0, 0, 0, (-1))] [] (pc2 := 85) (ls2 := [some (.int x0)]) (st2 := [.int ((-1))]) (M2 := M) (Ps := []) (by decide +kernel) rfl rfl trivial ?_
              exact G.reti (by decide +kernel) rfl rfl (Nat.le_of_ble_eq_true rfl) (Nat.le_of_ble_eq_true rfl) ((by rw [hQ]; simp only [k_stepOf, if_neg c4, if_neg c8, if_neg c12, if_neg c16, if_neg c20, if_neg c24, mrow_self]))
            · skip
              refine G.sl [(.iconst 5, 1, 0, 0, 0, nI 5), (.goto 4, 3, 85, 0, 0, 0)] [] (pc2 := 85) (ls2 := [some (.int x0)]) (st2 := [.int (nI 5)]) (M2 := M) (Ps := []) (by decide +kernel) rfl rfl trivial ?_
              exact G.reti (by decide +kernel) rfl rfl (Nat.le_of_ble_eq_true rfl) (Nat.le_of_ble_eq_true rfl) ((by rw [hQ]; simp only [k_stepOf, if_neg c4, if_neg c8, if_neg c12, if_neg c16, if_neg c20, if_pos c24, mrow_self]))
          · skip
            refine G.sl [(.iconst 4, 1, 0, 0, 0, nI 4), (.goto 18, 3, 85, 0, 0, 0)] [] (pc2 := 85) (ls2 := [some (.int x0)]) (st2 := [.int (nI 4)]) (M2 := M) (Ps := []) (by decide +kernel) rfl rfl trivial ?_
            exact G.reti (by decide +kernel) rfl rfl (Nat.le_of_ble_eq_true rfl) (Nat.le_of_ble_eq_true rfl) ((by rw [hQ]; simp only [k_stepOf, if_neg c4, if_neg c8, if_neg c12, if_neg c16, if_pos c20, mrow_self]))
        · skip
          refine G.sl [(.iconst 3, 1, 0, 0, 0, nI 3), (.goto 32, 3, 85, 0, 0, 0)] [] (pc2 := 85) (ls2 := [some (.int x0)]) (st2 := [.int (nI 3)]) (M2 := M) (Ps := []) (by decide +kernel) rfl rfl trivial ?_
          exact G.reti (by decide +kernel) rfl rfl (Nat.le_of_ble_eq_true rfl) (Nat.le_of_ble_eq_true rfl) ((by rw [hQ]; simp only [k_stepOf, if_neg c4, if_neg c8, if_neg c12, if_pos c16, mrow_self]))
      · skip
        refine G.sl [(.iconst 2, 1, 0, 0, 0, nI 2), (.goto 46, 3, 85, 0, 0, 0)] [] (pc2 := 85) (ls2 := [some (.int x0)]) (st2 := [.int (nI 2)]) (M2 := M) (Ps := []) (by decide +kernel) rfl rfl trivial ?_
        exact G.reti (by decide +kernel) rfl rfl (Nat.le_of_ble_eq_true rfl) (Nat.le_of_ble_eq_true rfl) ((by rw [hQ]; simp only [k_stepOf, if_neg c4, if_neg c8, if_pos c12, mrow_self]))
    · skip
      refine G.sl [(.iconst 1, 1, 0, 0, 0, nI 1), (.goto 60, 3, 85, 0, 0, 0)] [] (pc2 := 85) (ls2 := [some (.int x0)]) (st2 := [.int (nI 1)]) (M2 := M) (Ps := []) (by decide +kernel) rfl rfl trivial ?_
      exact G.reti (by decide +kernel) rfl rfl (Nat.le_of_ble_eq_true rfl) (Nat.le_of_ble_eq_true rfl) ((by rw [hQ]; simp only [k_stepOf, if_neg c4, if_pos c8, mrow_self]))
  · skip
    refine G.sl [(.iconst 0, 1, 0, 0, 0, nI 0), (.goto 74, 3, 85, 0, 0, 0)] [] (pc2 := 85) (ls2 := [some (.int x0)]) (st2 := [.int (nI 0)]) (M2 := M) (Ps := []) (by decide +kernel) rfl rfl trivial ?_
    exact G.reti (by decide +kernel) rfl rfl (Nat.le_of_ble_eq_true rfl) (Nat.le_of_ble_eq_true rfl) ((by rw [hQ]; simp only [k_stepOf, if_pos c4, mrow_self]))
set_option maxHeartbeats 4000000 in
set_option maxRecDepth 3000 in
theorem c_k_tellsStep_54 (z : Zp) (d : Nat) (M : Mem) (x1 : Int32) (x2 : Int32) (x3 : Int32) (hk : k_tellsStep_ok (M.1 54) (M.1 69) x1 x2 x3) : GM z mX12_tellsStep (d + 1) [.ref 54, .int x1, .int x2, .int x3] M (fun rs => rs = .inl (none, mrow (mrow M 54 ((k_tellsStep (M.1 54) (M.1 69) x1 x2 x3).2.1)) 69 ((k_tellsStep (M.1 54) (M.1 69) x1 x2 x3).2.2))) := by
  simp only [k_tellsStep_ok] at hk
  refine GM.of oX12_tellsStep.1 (Nat.le_of_ble_eq_true rfl) ?_
  show G z mX12_tellsStep (d + 1) 0 0 0 [some (.ref 54), some (.int x1), some (.int x2), some (.int x3)] [] M _
  obtain ⟨Q, hQ⟩ : ∃ Q : Rs → Prop, Q = (fun rs => rs = .inl (none, mrow (mrow M 54 ((k_tellsStep (M.1 54) (M.1 69) x1 x2 x3).2.1)) 69 ((k_tellsStep (M.1 54) (M.1 69) x1 x2 x3).2.2))) := ⟨_, rfl⟩
  rw [← hQ]
  refine G.sl [(.aload_n 0, 1, 0, 0, 0, 0)] [] (pc2 := 1) (ls2 := [some (.ref 54), some (.int x1), some (.int x2), some (.int x3)]) (st2 := [.ref 54]) (M2 := M) (Ps := []) (by decide +kernel) rfl rfl trivial ?_
  obtain ⟨k1, hk⟩ := hk
  have t2 : GM z mX12_fine (d) [.ref 54] M (fun rs => rs = .inl (some (.int (k_fine (M.1 54))), M)) := by
    have q9 := c_k_fine_54 z d M 
    try simp only [mput, mrow_same, mrow_hit, mrow_miss, mrow_sw, idr_eq, ne_eq, Nat.reduceEqDiff, not_false_eq_true, Nat.reduceLT, reduceCtorEq] at q9
    exact q9
  refine G.callV (as := []) (rest := []) (a := 54) oX12_fine lk_EvenFindersModel_130 (by decide +kernel) rfl rfl ⟨rfl, rfl⟩ (Nat.le_of_ble_eq_true rfl) rfl ⟨Nat.le_of_ble_eq_true rfl, Nat.le_of_ble_eq_true rfl⟩ t2 (fun v9 N9 h3 => ?_) (fun E9 N9 h3 => by cases h3)
  cases h3
  show G z mX12_tellsStep (d + 1) 0 0 4 [some (.ref 54), some (.int x1), some (.int x2), some (.int x3)] [.int (k_fine (M.1 54))] M Q
  refine G.if_ne (off := (4)) (tgt := 8) (by decide +kernel) rfl (fun c4 => ?_) (fun c4 => ?_)
  · skip
    rw [if_neg c4] at hk
    obtain ⟨k5, k6, k7, k8, hk⟩ := hk
    refine G.sl [(.aload_n 0, 1, 0, 0, 0, 0), (.getfield 59, 3, 11, 32, 155, 0), (.aload_n 0, 1, 0, 0, 0, 0), (.getfield 295, 3, 11, 34, 157, 0), (.iload_n 1, 1, 1, 0, 0, 0), (.iastore, 1, 0, 0, 0, 0), (.aload_n 0, 1, 0, 0, 0, 0), (.getfield 59, 3, 11, 32, 155, 0), (.aload_n 0, 1, 0, 0, 0, 0), (.getfield 295, 3, 11, 34, 157, 0), (.iconst 1, 1, 0, 0, 0, nI 1), (.iadd, 1, 0, 0, 0, 0), (.iload_n 2, 1, 2, 0, 0, 0), (.iastore, 1, 0, 0, 0, 0), (.aload_n 0, 1, 0, 0, 0, 0), (.getfield 59, 3, 11, 32, 155, 0), (.aload_n 0, 1, 0, 0, 0, 0), (.getfield 295, 3, 11, 34, 157, 0), (.iconst 2, 1, 0, 0, 0, nI 2), (.iadd, 1, 0, 0, 0, 0), (.iload_n 3, 1, 3, 0, 0, 0), (.iastore, 1, 0, 0, 0, 0), (.aload_n 0, 1, 0, 0, 0, 0), (.dup, 1, 0, 0, 0, 0), (.getfield 295, 3, 11, 34, 157, 0), (.iconst 3, 1, 0, 0, 0, nI 3), (.iadd, 1, 0, 0, 0, 0), (.putfield 295, 3, 11, 34, 157, 0)] [ix (M.1 54 34), (ix (M.1 54 34)) + 1, (ix (M.1 54 34)) + 2] (pc2 := 52) (ls2 := [some (.ref 54), some (.int x1), some (.int x2), some (.int x3)]) (st2 := []) (M2 := mput (mput (mput (mput M 69 (ix (M.1 54 34)) x1) 69 ((ix (M.1 54 34)) + 1) x2) 69 ((ix (M.1 54 34)) + 2) x3) 54 34 ((M.1 54 34) + (nI 3))) (Ps := [(M.1 54 34) = nI (ix (M.1 54 34)) ∧ (ix (M.1 54 34)) < 150, ((M.1 54 34) + (nI 1)) = nI ((ix (M.1 54 34)) + 1) ∧ ((ix (M.1 54 34)) + 1) < 150, ((M.1 54 34) + (nI 2)) = nI ((ix (M.1 54 34)) + 2) ∧ ((ix (M.1 54 34)) + 2) < 150]) (by decide +kernel) rfl rfl ⟨⟨(ixE k5), k6⟩, ⟨(nAdd (ixE k5) rfl), k7⟩, ⟨(nAdd (ixE k5) rfl), k8⟩, trivial⟩ ?_
    refine G.mem (M' := mrow (mrow M 54 (upd (M.1 54) 34 ((M.1 54 34) + (nI 3)))) 69 (upd (upd (upd (M.1 69) (ix (M.1 54 34)) x1) ((ix (M.1 54 34)) + 1) x2) ((ix (M.1 54 34)) + 2) x3)) (by first | rfl | (simp only [mput, mrow_same, mrow_hit, mrow_miss, mrow_sw, idr_eq, ne_eq, Nat.reduceEqDiff, not_false_eq_true, Nat.reduceLT, reduceCtorEq]; done)) ?_
    exact G.retv (by decide +kernel) rfl (Nat.le_of_ble_eq_true rfl) (Nat.le_of_ble_eq_true rfl) ((by rw [hQ]; simp only [k_tellsStep, if_neg c4, mrow_self]))
  · skip
    rw [if_pos c4] at hk
    refine G.mem (M' := mrow (mrow M 54 (M.1 54)) 69 (M.1 69)) ((((mrow_id (N := M) (c := 54) (f := M.1 54) (by first | rfl | (simp only [mput, mrow_same, mrow_hit, mrow_miss, mrow_sw, idr_eq, ne_eq, Nat.reduceEqDiff, not_false_eq_true, Nat.reduceLT, reduceCtorEq]; done))).symm).trans (mrow_id (N := mrow M 54 (M.1 54)) (c := 69) (f := M.1 69) (by first | rfl | (simp only [mput, mrow_same, mrow_hit, mrow_miss, mrow_sw, idr_eq, ne_eq, Nat.reduceEqDiff, not_false_eq_true, Nat.reduceLT, reduceCtorEq]; done))).symm).trans (by first | rfl | (simp only [mput, mrow_same, mrow_hit, mrow_miss, mrow_sw, idr_eq, ne_eq, Nat.reduceEqDiff, not_false_eq_true, Nat.reduceLT, reduceCtorEq]; done))) ?_
    exact G.retv (by decide +kernel) rfl (Nat.le_of_ble_eq_true rfl) (Nat.le_of_ble_eq_true rfl) ((by rw [hQ]; simp only [k_tellsStep, if_pos c4, mrow_self]))
set_option maxHeartbeats 4000000 in
set_option maxRecDepth 3000 in
theorem lp_k_readStep_54_st_61 (z : Zp) (d : Nat) (M : Mem) (Q : Rs → Prop) (x3 : Int32) (fz : (Nat → Int32) → (Nat → Int32) → (Nat → Int32) → Int32 × (Nat → Int32) × (Nat → Int32)) (gz : (Nat → Int32) → (Nat → Int32) → (Nat → Int32) → Prop) (Hz : ∀ (j : Nat) (M : Mem) , gz (M.1 54) (M.1 56) (M.1 69) → GM z mX12_readStep (d + j) [.ref 54] M (fun rs => rs = .inl (none, mrow (mrow M 54 ((fz (M.1 54) (M.1 56) (M.1 69)).2.1)) 69 ((fz (M.1 54) (M.1 56) (M.1 69)).2.2)))) : ∀ (k0 : Nat) (q54 : (Nat → Int32)) (q69 : (Nat → Int32)), k_readStep_st_61_ok fz gz (M.1 56) x3 k0 q54 q69 → (match k_readStep_st_61 fz (M.1 56) x3 k0 q54 q69 with | (q54', q69') => G z mX12_readStep (d + 6) 0 0 84 [some (.ref 54), none, none, some (.int x3)] [] (mrow (mrow M 54 (q54')) 69 (q69')) Q) → G z mX12_readStep (d + 6) 0 0 61 [some (.ref 54), none, none, some (.int x3)] [] (mrow (mrow M 54 q54) 69 q69) Q := by
  intro k0
  induction k0 with
  | zero =>
      intro q54 q69 hk hX
      exact (by simpa only [k_readStep_st_61_ok] using hk : False).elim
  | succ k0 ih =>
      intro q54 q69 hk hX
      simp only [k_readStep_st_61_ok] at hk
      refine G.sl [(.aload_n 0, 1, 0, 0, 0, 0)] [] (pc2 := 62) (ls2 := [some (.ref 54), none, none, some (.int x3)]) (st2 := [.ref 54]) (M2 := mrow (mrow M 54 q54) 69 q69) (Ps := []) (by decide +kernel) rfl rfl trivial ?_
      obtain ⟨k102, hk⟩ := hk
      have t103 : GM z mX12_fine (d + 5) [.ref 54] (mrow (mrow M 54 q54) 69 q69) (fun rs => rs = .inl (some (.int (k_fine q54)), mrow (mrow M 54 q54) 69 q69)) := by
        have q9 := c_k_fine_54 z (d + 5) (mrow (mrow M 54 q54) 69 q69) 
        try simp only [mput, mrow_same, mrow_hit, mrow_miss, mrow_sw, idr_eq, ne_eq, Nat.reduceEqDiff, not_false_eq_true, Nat.reduceLT, reduceCtorEq] at q9
        exact q9
      refine G.callV (as := []) (rest := []) (a := 54) oX12_fine lk_EvenFindersModel_130 (by decide +kernel) rfl rfl ⟨rfl, rfl⟩ (Nat.le_of_ble_eq_true rfl) rfl ⟨Nat.le_of_ble_eq_true rfl, Nat.le_of_ble_eq_true rfl⟩ t103 (fun v9 N9 h104 => ?_) (fun E9 N9 h104 => by cases h104)
      cases h104
      show G z mX12_readStep (d + 6) 0 0 65 [some (.ref 54), none, none, some (.int x3)] [.int (k_fine q54)] (mrow (mrow M 54 q54) 69 q69) Q
      refine G.if_eq (off := (19)) (tgt := 84) (by decide +kernel) rfl (fun c105 => ?_) (fun c105 => ?_)
      · skip
        rw [if_pos c105] at hk
        simp only [k_readStep_st_61, if_pos c105] at hX
        exact hX
      · skip
        rw [if_neg c105] at hk
        refine G.sl [(.aload_n 0, 1, 0, 0, 0, 0)] [] (pc2 := 69) (ls2 := [some (.ref 54), none, none, some (.int x3)]) (st2 := [.ref 54]) (M2 := mrow (mrow M 54 q54) 69 q69) (Ps := []) (by decide +kernel) rfl rfl trivial ?_
        obtain ⟨k106, hk⟩ := hk
        rcases g107 : k_here q54 (M.1 56) with ⟨v108, r109⟩
        try simp only [g107] at hk
        have t110 : GM z mX12_here (d + 5) [.ref 54] (mrow (mrow M 54 q54) 69 q69) (fun rs => rs = .inl (some (.int v108), mrow (mrow M 54 r109) 69 q69)) := by
          have q9 := c_k_here_54 z (d + 5) (mrow (mrow M 54 q54) 69 q69) k106
          try simp only [mput, mrow_same, mrow_hit, mrow_miss, mrow_sw, idr_eq, ne_eq, Nat.reduceEqDiff, not_false_eq_true, Nat.reduceLT, reduceCtorEq, g107] at q9
          exact q9
        refine G.callV (as := []) (rest := []) (a := 54) oX12_here lk_EvenFindersModel_113 (by decide +kernel) rfl rfl ⟨rfl, rfl⟩ (Nat.le_of_ble_eq_true rfl) rfl ⟨Nat.le_of_ble_eq_true rfl, Nat.le_of_ble_eq_true rfl⟩ t110 (fun v9 N9 h111 => ?_) (fun E9 N9 h111 => by cases h111)
        cases h111
        show G z mX12_readStep (d + 6) 0 0 72 [some (.ref 54), none, none, some (.int x3)] [.int v108] (mrow (mrow M 54 r109) 69 q69) Q
        refine G.sl [(.bipush 93, 2, 0, 0, 0, nI 93)] [] (pc2 := 74) (ls2 := [some (.ref 54), none, none, some (.int x3)]) (st2 := [.int (nI 93), .int v108]) (M2 := mrow (mrow M 54 r109) 69 q69) (Ps := []) (by decide +kernel) rfl rfl trivial ?_
        refine G.ic_eq (off := (10)) (tgt := 84) (by decide +kernel) rfl (fun c112 => ?_) (fun c112 => ?_)
        · skip
          rw [if_pos c112] at hk
          simp only [k_readStep_st_61, if_neg c105, g107, if_pos c112] at hX
          exact hX
        · skip
          rw [if_neg c112] at hk
          refine G.sl [(.aload_n 0, 1, 0, 0, 0, 0)] [] (pc2 := 78) (ls2 := [some (.ref 54), none, none, some (.int x3)]) (st2 := [.ref 54]) (M2 := mrow (mrow M 54 r109) 69 q69) (Ps := []) (by decide +kernel) rfl rfl trivial ?_
          obtain ⟨k113, hk⟩ := hk
          rcases g114 : fz r109 (M.1 56) q69 with ⟨u115, r116, r117⟩
          try simp only [g114] at hk
          have t118 : GM z mX12_readStep (d + 5) [.ref 54] (mrow (mrow M 54 r109) 69 q69) (fun rs => rs = .inl (none, mrow (mrow M 54 r116) 69 r117)) := by
            have q9 := Hz 5 (mrow (mrow M 54 r109) 69 q69) 
            try simp only [mput, mrow_same, mrow_hit, mrow_miss, mrow_sw, idr_eq, ne_eq, Nat.reduceEqDiff, not_false_eq_true, Nat.reduceLT, reduceCtorEq, g114] at q9
            exact q9 (by first | exact k113 | (simp only [mput, mrow_same, mrow_hit, mrow_miss, mrow_sw, idr_eq, ne_eq, Nat.reduceEqDiff, not_false_eq_true, Nat.reduceLT, reduceCtorEq]; exact k113))
          refine G.callV (as := []) (rest := []) (a := 54) oX12_readStep lk_EvenFindersModel_317 (by decide +kernel) rfl rfl ⟨rfl, rfl⟩ (Nat.le_of_ble_eq_true rfl) rfl ⟨Nat.le_of_ble_eq_true rfl, Nat.le_of_ble_eq_true rfl⟩ t118 (fun v9 N9 h119 => ?_) (fun E9 N9 h119 => by cases h119)
          cases h119
          show G z mX12_readStep (d + 6) 0 0 81 [some (.ref 54), none, none, some (.int x3)] [] (mrow (mrow M 54 r116) 69 r117) Q
          refine G.sl [(.goto (-20), 3, 61, 0, 0, 0)] [] (pc2 := 61) (ls2 := [some (.ref 54), none, none, some (.int x3)]) (st2 := []) (M2 := mrow (mrow M 54 r116) 69 r117) (Ps := []) (by decide +kernel) rfl rfl trivial ?_
          simp only [k_readStep_st_61, if_neg c105, g107, if_neg c112, g114] at hX
          exact ih r116 r117 hk hX
set_option maxHeartbeats 4000000 in
set_option maxRecDepth 3000 in
theorem c_k_readStep_54_st (z : Zp) (d : Nat) (M : Mem) (fz : (Nat → Int32) → (Nat → Int32) → (Nat → Int32) → Int32 × (Nat → Int32) × (Nat → Int32)) (gz : (Nat → Int32) → (Nat → Int32) → (Nat → Int32) → Prop) (Hz : ∀ (j : Nat) (M : Mem) , gz (M.1 54) (M.1 56) (M.1 69) → GM z mX12_readStep (d + j) [.ref 54] M (fun rs => rs = .inl (none, mrow (mrow M 54 ((fz (M.1 54) (M.1 56) (M.1 69)).2.1)) 69 ((fz (M.1 54) (M.1 56) (M.1 69)).2.2)))) (hk : k_readStep_st_ok fz gz (M.1 54) (M.1 56) (M.1 69)) : GM z mX12_readStep (d + 6) [.ref 54] M (fun rs => rs = .inl (none, mrow (mrow M 54 ((k_readStep_st fz (M.1 54) (M.1 56) (M.1 69)).2.1)) 69 ((k_readStep_st fz (M.1 54) (M.1 56) (M.1 69)).2.2))) := by
  simp only [k_readStep_st_ok] at hk
  refine GM.of oX12_readStep.1 (Nat.le_of_ble_eq_true rfl) ?_
  show G z mX12_readStep (d + 6) 0 0 0 [some (.ref 54), none, none, none] [] M _
  obtain ⟨Q, hQ⟩ : ∃ Q : Rs → Prop, Q = (fun rs => rs = .inl (none, mrow (mrow M 54 ((k_readStep_st fz (M.1 54) (M.1 56) (M.1 69)).2.1)) 69 ((k_readStep_st fz (M.1 54) (M.1 56) (M.1 69)).2.2))) := ⟨_, rfl⟩
  rw [← hQ]
  refine G.sl [(.aload_n 0, 1, 0, 0, 0, 0)] [] (pc2 := 1) (ls2 := [some (.ref 54), none, none, none]) (st2 := [.ref 54]) (M2 := M) (Ps := []) (by decide +kernel) rfl rfl trivial ?_
  obtain ⟨k1, hk⟩ := hk
  rcases g2 : k_word (M.1 54) (M.1 56) with ⟨v3, r4⟩
  try simp only [g2] at hk
  have t5 : GM z mX12_word (d + 5) [.ref 54] M (fun rs => rs = .inl (some (.int v3), mrow M 54 r4)) := by
    have q9 := c_k_word_54 z (d + 4) M k1
    try simp only [mput, mrow_same, mrow_hit, mrow_miss, mrow_sw, idr_eq, ne_eq, Nat.reduceEqDiff, not_false_eq_true, Nat.reduceLT, reduceCtorEq, g2] at q9
    exact q9
  refine G.callV (as := []) (rest := []) (a := 54) oX12_word lk_EvenFindersModel_224 (by decide +kernel) rfl rfl ⟨rfl, rfl⟩ (Nat.le_of_ble_eq_true rfl) rfl ⟨Nat.le_of_ble_eq_true rfl, Nat.le_of_ble_eq_true rfl⟩ t5 (fun v9 N9 h6 => ?_) (fun E9 N9 h6 => by cases h6)
  cases h6
  show G z mX12_readStep (d + 6) 0 0 4 [some (.ref 54), none, none, none] [.int v3] (mrow M 54 r4) Q
  obtain ⟨k7, hk⟩ := hk
  have t8 : GM z mX12_stepOf (d + 5) [.int v3] (mrow M 54 r4) (fun rs => rs = .inl (some (.int (k_stepOf v3)), mrow M 54 r4)) := by
    have q9 := c_k_stepOf z d (mrow M 54 r4) v3
    try simp only [mput, mrow_same, mrow_hit, mrow_miss, mrow_sw, idr_eq, ne_eq, Nat.reduceEqDiff, not_false_eq_true, Nat.reduceLT, reduceCtorEq] at q9
    exact q9
  refine G.callS (as := [.int v3]) (rest := []) oX12_stepOf lk_EvenFindersModel_310 (by decide +kernel) rfl (Nat.le_of_ble_eq_true rfl) rfl ⟨Nat.le_of_ble_eq_true rfl, Nat.le_of_ble_eq_true rfl⟩ t8 (fun v9 N9 h9 => ?_) (fun E9 N9 h9 => by cases h9)
  cases h9
  show G z mX12_readStep (d + 6) 0 0 7 [some (.ref 54), none, none, none] [.int (k_stepOf v3)] (mrow M 54 r4) Q
  refine G.sl [(.istore_n 1, 1, 1, 0, 0, 0), (.iload_n 1, 1, 1, 0, 0, 0), (.iconst (-1), 1, 0, 0, 0, (-1))] [] (pc2 := 10) (ls2 := [some (.ref 54), some (.int (k_stepOf v3)), none, none]) (st2 := [.int ((-1)), .int (k_stepOf v3)]) (M2 := mrow M 54 r4) (Ps := []) (by decide +kernel) rfl rfl trivial ?_
  refine G.ic_ne (off := (15)) (tgt := 25) (by decide +kernel) rfl (fun c10 => ?_) (fun c10 => ?_)
  · skip
    rw [if_neg c10] at hk
    refine G.sl [(.iload_n 1, 1, 1, 0, 0, 0), (.iconst 5, 1, 0, 0, 0, nI 5)] [] (pc2 := 27) (ls2 := [some (.ref 54), some (.int (k_stepOf v3)), none, none]) (st2 := [.int (nI 5), .int (k_stepOf v3)]) (M2 := mrow M 54 r4) (Ps := []) (by decide +kernel) rfl rfl trivial ?_
    refine G.ic_ne (off := (95)) (tgt := 122) (by decide +kernel) rfl (fun c11 => ?_) (fun c11 => ?_)
    · skip
      rw [if_neg c11] at hk
      refine G.sl [(.aload_n 0, 1, 0, 0, 0, 0)] [] (pc2 := 123) (ls2 := [some (.ref 54), some (.int (k_stepOf v3)), none, none]) (st2 := [.ref 54]) (M2 := mrow M 54 r4) (Ps := []) (by decide +kernel) rfl rfl trivial ?_
      obtain ⟨k12, hk⟩ := hk
      rcases g13 : k_pass r4 (M.1 56) with ⟨u14, r15⟩
      try simp only [g13] at hk
      have t16 : GM z mX12_pass (d + 5) [.ref 54] (mrow M 54 r4) (fun rs => rs = .inl (none, mrow M 54 r15)) := by
        have q9 := c_k_pass_54 z (d + 4) (mrow M 54 r4) k12
        try simp only [mput, mrow_same, mrow_hit, mrow_miss, mrow_sw, idr_eq, ne_eq, Nat.reduceEqDiff, not_false_eq_true, Nat.reduceLT, reduceCtorEq, g13] at q9
        exact q9
      refine G.callV (as := []) (rest := []) (a := 54) oX12_pass lk_EvenFindersModel_233 (by decide +kernel) rfl rfl ⟨rfl, rfl⟩ (Nat.le_of_ble_eq_true rfl) rfl ⟨Nat.le_of_ble_eq_true rfl, Nat.le_of_ble_eq_true rfl⟩ t16 (fun v9 N9 h17 => ?_) (fun E9 N9 h17 => by cases h17)
      cases h17
      show G z mX12_readStep (d + 6) 0 0 126 [some (.ref 54), some (.int (k_stepOf v3)), none, none] [] (mrow M 54 r15) Q
      refine G.sl [(.iload_n 1, 1, 1, 0, 0, 0), (.iconst 4, 1, 0, 0, 0, nI 4)] [] (pc2 := 128) (ls2 := [some (.ref 54), some (.int (k_stepOf v3)), none, none]) (st2 := [.int (nI 4), .int (k_stepOf v3)]) (M2 := mrow M 54 r15) (Ps := []) (by decide +kernel) rfl rfl trivial ?_
      refine G.ic_ne (off := (7)) (tgt := 135) (by decide +kernel) rfl (fun c18 => ?_) (fun c18 => ?_)
      · skip
        rw [if_neg c18] at hk
        refine G.sl [(.aload_n 0, 1, 0, 0, 0, 0), (.iconst 0, 1, 0, 0, 0, nI 0), (.aload_n 0, 1, 0, 0, 0, 0), (.getfield 165, 3, 11, 23, 146, 0), (.iconst 1, 1, 0, 0, 0, nI 1), (.isub, 1, 0, 0, 0, 0)] [] (pc2 := 143) (ls2 := [some (.ref 54), some (.int (k_stepOf v3)), none, none]) (st2 := [.int ((r15 23) - (nI 1)), .int (nI 0), .ref 54]) (M2 := mrow M 54 r15) (Ps := []) (by decide +kernel) rfl rfl trivial ?_
        obtain ⟨k19, hk⟩ := hk
        rcases g20 : k_readNumber r15 (M.1 56) (nI 0) ((r15 23) - (nI 1)) with ⟨v21, r22⟩
        try simp only [g20] at hk
        have t23 : GM z mX12_readNumber (d + 5) [.ref 54, .int (nI 0), .int ((r15 23) - (nI 1))] (mrow M 54 r15) (fun rs => rs = .inl (some (.int v21), mrow M 54 r22)) := by
          have q9 := c_k_readNumber_54 z (d + 4) (mrow M 54 r15) (nI 0) ((r15 23) - (nI 1)) k19
          try simp only [mput, mrow_same, mrow_hit, mrow_miss, mrow_sw, idr_eq, ne_eq, Nat.reduceEqDiff, not_false_eq_true, Nat.reduceLT, reduceCtorEq, g20] at q9
          exact q9
        refine G.callV (as := [.int (nI 0), .int ((r15 23) - (nI 1))]) (rest := []) (a := 54) oX12_readNumber lk_EvenFindersModel_190 (by decide +kernel) rfl rfl ⟨rfl, rfl⟩ (Nat.le_of_ble_eq_true rfl) rfl ⟨Nat.le_of_ble_eq_true rfl, Nat.le_of_ble_eq_true rfl⟩ t23 (fun v9 N9 h24 => ?_) (fun E9 N9 h24 => by cases h24)
        cases h24
        show G z mX12_readStep (d + 6) 0 0 146 [some (.ref 54), some (.int (k_stepOf v3)), none, none] [.int v21] (mrow M 54 r22) Q
        refine G.sl [(.istore_n 2, 1, 2, 0, 0, 0), (.aload_n 0, 1, 0, 0, 0, 0), (.iload_n 1, 1, 1, 0, 0, 0), (.iload_n 2, 1, 2, 0, 0, 0), (.iload_n 1, 1, 1, 0, 0, 0), (.iconst 4, 1, 0, 0, 0, nI 4)] [] (pc2 := 152) (ls2 := [some (.ref 54), some (.int (k_stepOf v3)), some (.int v21), none]) (st2 := [.int (nI 4), .int (k_stepOf v3), .int v21, .int (k_stepOf v3), .ref 54]) (M2 := mrow M 54 r22) (Ps := []) (by decide +kernel) rfl rfl trivial ?_
        refine G.ic_ne (off := (7)) (tgt := 159) (by decide +kernel) rfl (fun _ => ?_) (fun h9 => absurd h9 c18)
        refine G.sl [(.aload_n 0, 1, 0, 0, 0, 0), (.iconst 0, 1, 0, 0, 0, nI 0), (.iload_n 1, 1, 1, 0, 0, 0)] [] (pc2 := 162) (ls2 := [some (.ref 54), some (.int (k_stepOf v3)), some (.int v21), none]) (st2 := [.int (k_stepOf v3), .int (nI 0), .ref 54, .int v21, .int (k_stepOf v3), .ref 54]) (M2 := mrow M 54 r22) (Ps := []) (by decide +kernel) rfl rfl trivial ?_
        refine G.if_ne (off := (10)) (tgt := 172) (by decide +kernel) rfl (fun c25 => ?_) (fun c25 => ?_)
        · skip
          rw [if_neg c25] at hk
          refine G.sl [(.aload_n 0, 1, 0, 0, 0, 0), (.getfield 162, 3, 11, 22, 145, 0), (.iconst 1, 1, 0, 0, 0, nI 1), (.isub, 1, 0, 0, 0, 0)] [] (pc2 := 178) (ls2 := [some (.ref 54), some (.int (k_stepOf v3)), some (.int v21), none]) (st2 := [.int ((r22 22) - (nI 1)), .int (nI 0), .ref 54, .int v21, .int (k_stepOf v3), .ref 54]) (M2 := mrow M 54 r22) (Ps := []) (by decide +kernel) rfl rfl trivial ?_
          obtain ⟨k26, hk⟩ := hk
          rcases g27 : k_readNumber r22 (M.1 56) (nI 0) ((r22 22) - (nI 1)) with ⟨v28, r29⟩
          try simp only [g27] at hk
          have t30 : GM z mX12_readNumber (d + 5) [.ref 54, .int (nI 0), .int ((r22 22) - (nI 1))] (mrow M 54 r22) (fun rs => rs = .inl (some (.int v28), mrow M 54 r29)) := by
            have q9 := c_k_readNumber_54 z (d + 4) (mrow M 54 r22) (nI 0) ((r22 22) - (nI 1)) k26
            try simp only [mput, mrow_same, mrow_hit, mrow_miss, mrow_sw, idr_eq, ne_eq, Nat.reduceEqDiff, not_false_eq_true, Nat.reduceLT, reduceCtorEq, g27] at q9
            exact q9
          refine G.callV (as := [.int (nI 0), .int ((r22 22) - (nI 1))]) (rest := [.int v21, .int (k_stepOf v3), .ref 54]) (a := 54) oX12_readNumber lk_EvenFindersModel_190 (by decide +kernel) rfl rfl ⟨rfl, rfl⟩ (Nat.le_of_ble_eq_true rfl) rfl ⟨Nat.le_of_ble_eq_true rfl, Nat.le_of_ble_eq_true rfl⟩ t30 (fun v9 N9 h31 => ?_) (fun E9 N9 h31 => by cases h31)
          cases h31
          show G z mX12_readStep (d + 6) 0 0 181 [some (.ref 54), some (.int (k_stepOf v3)), some (.int v21), none] [.int v28, .int v21, .int (k_stepOf v3), .ref 54] (mrow M 54 r29) Q
          obtain ⟨k32, hk⟩ := hk
          rcases g33 : k_tellsStep r29 (M.1 69) (k_stepOf v3) v21 v28 with ⟨u34, r35, r36⟩
          try simp only [g33] at hk
          have t37 : GM z mX12_tellsStep (d + 5) [.ref 54, .int (k_stepOf v3), .int v21, .int v28] (mrow M 54 r29) (fun rs => rs = .inl (none, mrow (mrow M 54 r35) 69 r36)) := by
            have q9 := c_k_tellsStep_54 z (d + 4) (mrow M 54 r29) (k_stepOf v3) v21 v28 k32
            try simp only [mput, mrow_same, mrow_hit, mrow_miss, mrow_sw, idr_eq, ne_eq, Nat.reduceEqDiff, not_false_eq_true, Nat.reduceLT, reduceCtorEq, g33] at q9
            exact q9
          refine G.callV (as := [.int (k_stepOf v3), .int v21, .int v28]) (rest := []) (a := 54) oX12_tellsStep lk_EvenFindersModel_313 (by decide +kernel) rfl rfl ⟨rfl, rfl⟩ (Nat.le_of_ble_eq_true rfl) rfl ⟨Nat.le_of_ble_eq_true rfl, Nat.le_of_ble_eq_true rfl⟩ t37 (fun v9 N9 h38 => ?_) (fun E9 N9 h38 => by cases h38)
          cases h38
          show G z mX12_readStep (d + 6) 0 0 184 [some (.ref 54), some (.int (k_stepOf v3)), some (.int v21), none] [] (mrow (mrow M 54 r35) 69 r36) Q
          refine G.sl [(.aload_n 0, 1, 0, 0, 0, 0), (.bipush 59, 2, 0, 0, 0, nI 59)] [] (pc2 := 187) (ls2 := [some (.ref 54), some (.int (k_stepOf v3)), some (.int v21), none]) (st2 := [.int (nI 59), .ref 54]) (M2 := mrow (mrow M 54 r35) 69 r36) (Ps := []) (by decide +kernel) rfl rfl trivial ?_
          obtain ⟨k39, hk⟩ := hk
          rcases g40 : k_sign r35 (M.1 56) (nI 59) with ⟨u41, r42⟩
          have t43 : GM z mX12_sign (d + 5) [.ref 54, .int (nI 59)] (mrow (mrow M 54 r35) 69 r36) (fun rs => rs = .inl (none, mrow (mrow M 54 r42) 69 r36)) := by
            have q9 := c_k_sign_54 z (d + 4) (mrow (mrow M 54 r35) 69 r36) (nI 59) k39
            try simp only [mput, mrow_same, mrow_hit, mrow_miss, mrow_sw, idr_eq, ne_eq, Nat.reduceEqDiff, not_false_eq_true, Nat.reduceLT, reduceCtorEq, g40] at q9
            exact q9
          refine G.callV (as := [.int (nI 59)]) (rest := []) (a := 54) oX12_sign lk_EvenFindersModel_239 (by decide +kernel) rfl rfl ⟨rfl, rfl⟩ (Nat.le_of_ble_eq_true rfl) rfl ⟨Nat.le_of_ble_eq_true rfl, Nat.le_of_ble_eq_true rfl⟩ t43 (fun v9 N9 h44 => ?_) (fun E9 N9 h44 => by cases h44)
          cases h44
          show G z mX12_readStep (d + 6) 0 0 190 [some (.ref 54), some (.int (k_stepOf v3)), some (.int v21), none] [] (mrow (mrow M 54 r42) 69 r36) Q
          exact G.retv (by decide +kernel) rfl (Nat.le_of_ble_eq_true rfl) (Nat.le_of_ble_eq_true rfl) ((by rw [hQ]; simp only [k_readStep_st, g2, if_neg c10, if_neg c11, g13, if_neg c18, g20, if_neg c25, g27, g33, g40, mrow_self]))
        · skip
          rw [if_pos c25] at hk
          refine G.sl [(.aload_n 0, 1, 0, 0, 0, 0), (.getfield 159, 3, 11, 21, 144, 0), (.goto 7, 3, 176, 0, 0, 0), (.iconst 1, 1, 0, 0, 0, nI 1), (.isub, 1, 0, 0, 0, 0)] [] (pc2 := 178) (ls2 := [some (.ref 54), some (.int (k_stepOf v3)), some (.int v21), none]) (st2 := [.int ((r22 21) - (nI 1)), .int (nI 0), .ref 54, .int v21, .int (k_stepOf v3), .ref 54]) (M2 := mrow M 54 r22) (Ps := []) (by decide +kernel) rfl rfl trivial ?_
          obtain ⟨k45, hk⟩ := hk
          rcases g46 : k_readNumber r22 (M.1 56) (nI 0) ((r22 21) - (nI 1)) with ⟨v47, r48⟩
          try simp only [g46] at hk
          have t49 : GM z mX12_readNumber (d + 5) [.ref 54, .int (nI 0), .int ((r22 21) - (nI 1))] (mrow M 54 r22) (fun rs => rs = .inl (some (.int v47), mrow M 54 r48)) := by
            have q9 := c_k_readNumber_54 z (d + 4) (mrow M 54 r22) (nI 0) ((r22 21) - (nI 1)) k45
            try simp only [mput, mrow_same, mrow_hit, mrow_miss, mrow_sw, idr_eq, ne_eq, Nat.reduceEqDiff, not_false_eq_true, Nat.reduceLT, reduceCtorEq, g46] at q9
            exact q9
          refine G.callV (as := [.int (nI 0), .int ((r22 21) - (nI 1))]) (rest := [.int v21, .int (k_stepOf v3), .ref 54]) (a := 54) oX12_readNumber lk_EvenFindersModel_190 (by decide +kernel) rfl rfl ⟨rfl, rfl⟩ (Nat.le_of_ble_eq_true rfl) rfl ⟨Nat.le_of_ble_eq_true rfl, Nat.le_of_ble_eq_true rfl⟩ t49 (fun v9 N9 h50 => ?_) (fun E9 N9 h50 => by cases h50)
          cases h50
          show G z mX12_readStep (d + 6) 0 0 181 [some (.ref 54), some (.int (k_stepOf v3)), some (.int v21), none] [.int v47, .int v21, .int (k_stepOf v3), .ref 54] (mrow M 54 r48) Q
          obtain ⟨k51, hk⟩ := hk
          rcases g52 : k_tellsStep r48 (M.1 69) (k_stepOf v3) v21 v47 with ⟨u53, r54, r55⟩
          try simp only [g52] at hk
          have t56 : GM z mX12_tellsStep (d + 5) [.ref 54, .int (k_stepOf v3), .int v21, .int v47] (mrow M 54 r48) (fun rs => rs = .inl (none, mrow (mrow M 54 r54) 69 r55)) := by
            have q9 := c_k_tellsStep_54 z (d + 4) (mrow M 54 r48) (k_stepOf v3) v21 v47 k51
            try simp only [mput, mrow_same, mrow_hit, mrow_miss, mrow_sw, idr_eq, ne_eq, Nat.reduceEqDiff, not_false_eq_true, Nat.reduceLT, reduceCtorEq, g52] at q9
            exact q9
          refine G.callV (as := [.int (k_stepOf v3), .int v21, .int v47]) (rest := []) (a := 54) oX12_tellsStep lk_EvenFindersModel_313 (by decide +kernel) rfl rfl ⟨rfl, rfl⟩ (Nat.le_of_ble_eq_true rfl) rfl ⟨Nat.le_of_ble_eq_true rfl, Nat.le_of_ble_eq_true rfl⟩ t56 (fun v9 N9 h57 => ?_) (fun E9 N9 h57 => by cases h57)
          cases h57
          show G z mX12_readStep (d + 6) 0 0 184 [some (.ref 54), some (.int (k_stepOf v3)), some (.int v21), none] [] (mrow (mrow M 54 r54) 69 r55) Q
          refine G.sl [(.aload_n 0, 1, 0, 0, 0, 0), (.bipush 59, 2, 0, 0, 0, nI 59)] [] (pc2 := 187) (ls2 := [some (.ref 54), some (.int (k_stepOf v3)), some (.int v21), none]) (st2 := [.int (nI 59), .ref 54]) (M2 := mrow (mrow M 54 r54) 69 r55) (Ps := []) (by decide +kernel) rfl rfl trivial ?_
          obtain ⟨k58, hk⟩ := hk
          rcases g59 : k_sign r54 (M.1 56) (nI 59) with ⟨u60, r61⟩
          have t62 : GM z mX12_sign (d + 5) [.ref 54, .int (nI 59)] (mrow (mrow M 54 r54) 69 r55) (fun rs => rs = .inl (none, mrow (mrow M 54 r61) 69 r55)) := by
            have q9 := c_k_sign_54 z (d + 4) (mrow (mrow M 54 r54) 69 r55) (nI 59) k58
            try simp only [mput, mrow_same, mrow_hit, mrow_miss, mrow_sw, idr_eq, ne_eq, Nat.reduceEqDiff, not_false_eq_true, Nat.reduceLT, reduceCtorEq, g59] at q9
            exact q9
          refine G.callV (as := [.int (nI 59)]) (rest := []) (a := 54) oX12_sign lk_EvenFindersModel_239 (by decide +kernel) rfl rfl ⟨rfl, rfl⟩ (Nat.le_of_ble_eq_true rfl) rfl ⟨Nat.le_of_ble_eq_true rfl, Nat.le_of_ble_eq_true rfl⟩ t62 (fun v9 N9 h63 => ?_) (fun E9 N9 h63 => by cases h63)
          cases h63
          show G z mX12_readStep (d + 6) 0 0 190 [some (.ref 54), some (.int (k_stepOf v3)), some (.int v21), none] [] (mrow (mrow M 54 r61) 69 r55) Q
          exact G.retv (by decide +kernel) rfl (Nat.le_of_ble_eq_true rfl) (Nat.le_of_ble_eq_true rfl) ((by rw [hQ]; simp only [k_readStep_st, g2, if_neg c10, if_neg c11, g13, if_neg c18, g20, if_pos c25, g46, g52, g59, mrow_self]))
      · skip
        rw [if_pos c18] at hk
        refine G.sl [(.iconst 0, 1, 0, 0, 0, nI 0), (.goto 14, 3, 146, 0, 0, 0), (.istore_n 2, 1, 2, 0, 0, 0), (.aload_n 0, 1, 0, 0, 0, 0), (.iload_n 1, 1, 1, 0, 0, 0), (.iload_n 2, 1, 2, 0, 0, 0), (.iload_n 1, 1, 1, 0, 0, 0), (.iconst 4, 1, 0, 0, 0, nI 4)] [] (pc2 := 152) (ls2 := [some (.ref 54), some (.int (k_stepOf v3)), some (.int (nI 0)), none]) (st2 := [.int (nI 4), .int (k_stepOf v3), .int (nI 0), .int (k_stepOf v3), .ref 54]) (M2 := mrow M 54 r15) (Ps := []) (by decide +kernel) rfl rfl trivial ?_
        refine G.ic_ne (off := (7)) (tgt := 159) (by decide +kernel) rfl (fun h9 => absurd c18 h9) (fun _ => ?_)
        refine G.sl [(.iconst 0, 1, 0, 0, 0, nI 0), (.goto 25, 3, 181, 0, 0, 0)] [] (pc2 := 181) (ls2 := [some (.ref 54), some (.int (k_stepOf v3)), some (.int (nI 0)), none]) (st2 := [.int (nI 0), .int (nI 0), .int (k_stepOf v3), .ref 54]) (M2 := mrow M 54 r15) (Ps := []) (by decide +kernel) rfl rfl trivial ?_
        obtain ⟨k64, hk⟩ := hk
        rcases g65 : k_tellsStep r15 (M.1 69) (k_stepOf v3) (nI 0) (nI 0) with ⟨u66, r67, r68⟩
        try simp only [g65] at hk
        have t69 : GM z mX12_tellsStep (d + 5) [.ref 54, .int (k_stepOf v3), .int (nI 0), .int (nI 0)] (mrow M 54 r15) (fun rs => rs = .inl (none, mrow (mrow M 54 r67) 69 r68)) := by
          have q9 := c_k_tellsStep_54 z (d + 4) (mrow M 54 r15) (k_stepOf v3) (nI 0) (nI 0) k64
          try simp only [mput, mrow_same, mrow_hit, mrow_miss, mrow_sw, idr_eq, ne_eq, Nat.reduceEqDiff, not_false_eq_true, Nat.reduceLT, reduceCtorEq, g65] at q9
          exact q9
        refine G.callV (as := [.int (k_stepOf v3), .int (nI 0), .int (nI 0)]) (rest := []) (a := 54) oX12_tellsStep lk_EvenFindersModel_313 (by decide +kernel) rfl rfl ⟨rfl, rfl⟩ (Nat.le_of_ble_eq_true rfl) rfl ⟨Nat.le_of_ble_eq_true rfl, Nat.le_of_ble_eq_true rfl⟩ t69 (fun v9 N9 h70 => ?_) (fun E9 N9 h70 => by cases h70)
        cases h70
        show G z mX12_readStep (d + 6) 0 0 184 [some (.ref 54), some (.int (k_stepOf v3)), some (.int (nI 0)), none] [] (mrow (mrow M 54 r67) 69 r68) Q
        refine G.sl [(.aload_n 0, 1, 0, 0, 0, 0), (.bipush 59, 2, 0, 0, 0, nI 59)] [] (pc2 := 187) (ls2 := [some (.ref 54), some (.int (k_stepOf v3)), some (.int (nI 0)), none]) (st2 := [.int (nI 59), .ref 54]) (M2 := mrow (mrow M 54 r67) 69 r68) (Ps := []) (by decide +kernel) rfl rfl trivial ?_
        obtain ⟨k71, hk⟩ := hk
        rcases g72 : k_sign r67 (M.1 56) (nI 59) with ⟨u73, r74⟩
        have t75 : GM z mX12_sign (d + 5) [.ref 54, .int (nI 59)] (mrow (mrow M 54 r67) 69 r68) (fun rs => rs = .inl (none, mrow (mrow M 54 r74) 69 r68)) := by
          have q9 := c_k_sign_54 z (d + 4) (mrow (mrow M 54 r67) 69 r68) (nI 59) k71
          try simp only [mput, mrow_same, mrow_hit, mrow_miss, mrow_sw, idr_eq, ne_eq, Nat.reduceEqDiff, not_false_eq_true, Nat.reduceLT, reduceCtorEq, g72] at q9
          exact q9
        refine G.callV (as := [.int (nI 59)]) (rest := []) (a := 54) oX12_sign lk_EvenFindersModel_239 (by decide +kernel) rfl rfl ⟨rfl, rfl⟩ (Nat.le_of_ble_eq_true rfl) rfl ⟨Nat.le_of_ble_eq_true rfl, Nat.le_of_ble_eq_true rfl⟩ t75 (fun v9 N9 h76 => ?_) (fun E9 N9 h76 => by cases h76)
        cases h76
        show G z mX12_readStep (d + 6) 0 0 190 [some (.ref 54), some (.int (k_stepOf v3)), some (.int (nI 0)), none] [] (mrow (mrow M 54 r74) 69 r68) Q
        exact G.retv (by decide +kernel) rfl (Nat.le_of_ble_eq_true rfl) (Nat.le_of_ble_eq_true rfl) ((by rw [hQ]; simp only [k_readStep_st, g2, if_neg c10, if_neg c11, g13, if_pos c18, g65, g72, mrow_self]))
    · skip
      rw [if_pos c11] at hk
      refine G.sl [(.aload_n 0, 1, 0, 0, 0, 0), (.iconst 5, 1, 0, 0, 0, nI 5)] [] (pc2 := 32) (ls2 := [some (.ref 54), some (.int (k_stepOf v3)), none, none]) (st2 := [.int (nI 5), .ref 54]) (M2 := mrow M 54 r4) (Ps := []) (by decide +kernel) rfl rfl trivial ?_
      obtain ⟨k77, hk⟩ := hk
      rcases g78 : k_opensOne r4 (nI 5) with ⟨u79, r80⟩
      try simp only [g78] at hk
      have t81 : GM z mX12_opensOne (d + 5) [.ref 54, .int (nI 5)] (mrow M 54 r4) (fun rs => rs = .inl (none, mrow M 54 r80)) := by
        have q9 := c_k_opensOne_54 z (d + 4) (mrow M 54 r4) (nI 5)
        try simp only [mput, mrow_same, mrow_hit, mrow_miss, mrow_sw, idr_eq, ne_eq, Nat.reduceEqDiff, not_false_eq_true, Nat.reduceLT, reduceCtorEq, g78] at q9
        exact q9
      refine G.callV (as := [.int (nI 5)]) (rest := []) (a := 54) oX12_opensOne lk_EvenFindersModel_258 (by decide +kernel) rfl rfl ⟨rfl, rfl⟩ (Nat.le_of_ble_eq_true rfl) rfl ⟨Nat.le_of_ble_eq_true rfl, Nat.le_of_ble_eq_true rfl⟩ t81 (fun v9 N9 h82 => ?_) (fun E9 N9 h82 => by cases h82)
      cases h82
      show G z mX12_readStep (d + 6) 0 0 35 [some (.ref 54), some (.int (k_stepOf v3)), none, none] [] (mrow M 54 r80) Q
      refine G.sl [(.aload_n 0, 1, 0, 0, 0, 0), (.iconst 0, 1, 0, 0, 0, nI 0), (.bipush 30, 2, 0, 0, 0, nI 30)] [] (pc2 := 39) (ls2 := [some (.ref 54), some (.int (k_stepOf v3)), none, none]) (st2 := [.int (nI 30), .int (nI 0), .ref 54]) (M2 := mrow M 54 r80) (Ps := []) (by decide +kernel) rfl rfl trivial ?_
      obtain ⟨k83, hk⟩ := hk
      rcases g84 : k_readNumber r80 (M.1 56) (nI 0) (nI 30) with ⟨v85, r86⟩
      try simp only [g84] at hk
      have t87 : GM z mX12_readNumber (d + 5) [.ref 54, .int (nI 0), .int (nI 30)] (mrow M 54 r80) (fun rs => rs = .inl (some (.int v85), mrow M 54 r86)) := by
        have q9 := c_k_readNumber_54 z (d + 4) (mrow M 54 r80) (nI 0) (nI 30) k83
        try simp only [mput, mrow_same, mrow_hit, mrow_miss, mrow_sw, idr_eq, ne_eq, Nat.reduceEqDiff, not_false_eq_true, Nat.reduceLT, reduceCtorEq, g84] at q9
        exact q9
      refine G.callV (as := [.int (nI 0), .int (nI 30)]) (rest := []) (a := 54) oX12_readNumber lk_EvenFindersModel_190 (by decide +kernel) rfl rfl ⟨rfl, rfl⟩ (Nat.le_of_ble_eq_true rfl) rfl ⟨Nat.le_of_ble_eq_true rfl, Nat.le_of_ble_eq_true rfl⟩ t87 (fun v9 N9 h88 => ?_) (fun E9 N9 h88 => by cases h88)
      cases h88
      show G z mX12_readStep (d + 6) 0 0 42 [some (.ref 54), some (.int (k_stepOf v3)), none, none] [.int v85] (mrow M 54 r86) Q
      refine G.sl [(.istore_n 2, 1, 2, 0, 0, 0), (.aload_n 0, 1, 0, 0, 0, 0), (.bipush 91, 2, 0, 0, 0, nI 91)] [] (pc2 := 46) (ls2 := [some (.ref 54), some (.int (k_stepOf v3)), some (.int v85), none]) (st2 := [.int (nI 91), .ref 54]) (M2 := mrow M 54 r86) (Ps := []) (by decide +kernel) rfl rfl trivial ?_
      obtain ⟨k89, hk⟩ := hk
      rcases g90 : k_sign r86 (M.1 56) (nI 91) with ⟨u91, r92⟩
      try simp only [g90] at hk
      have t93 : GM z mX12_sign (d + 5) [.ref 54, .int (nI 91)] (mrow M 54 r86) (fun rs => rs = .inl (none, mrow M 54 r92)) := by
        have q9 := c_k_sign_54 z (d + 4) (mrow M 54 r86) (nI 91) k89
        try simp only [mput, mrow_same, mrow_hit, mrow_miss, mrow_sw, idr_eq, ne_eq, Nat.reduceEqDiff, not_false_eq_true, Nat.reduceLT, reduceCtorEq, g90] at q9
        exact q9
      refine G.callV (as := [.int (nI 91)]) (rest := []) (a := 54) oX12_sign lk_EvenFindersModel_239 (by decide +kernel) rfl rfl ⟨rfl, rfl⟩ (Nat.le_of_ble_eq_true rfl) rfl ⟨Nat.le_of_ble_eq_true rfl, Nat.le_of_ble_eq_true rfl⟩ t93 (fun v9 N9 h94 => ?_) (fun E9 N9 h94 => by cases h94)
      cases h94
      show G z mX12_readStep (d + 6) 0 0 49 [some (.ref 54), some (.int (k_stepOf v3)), some (.int v85), none] [] (mrow M 54 r92) Q
      refine G.sl [(.aload_n 0, 1, 0, 0, 0, 0), (.getfield 295, 3, 11, 34, 157, 0), (.istore_n 3, 1, 3, 0, 0, 0), (.aload_n 0, 1, 0, 0, 0, 0), (.iconst 5, 1, 0, 0, 0, nI 5), (.iload_n 2, 1, 2, 0, 0, 0), (.iconst 0, 1, 0, 0, 0, nI 0)] [] (pc2 := 58) (ls2 := [some (.ref 54), some (.int (k_stepOf v3)), some (.int v85), some (.int (r92 34))]) (st2 := [.int (nI 0), .int v85, .int (nI 5), .ref 54]) (M2 := mrow M 54 r92) (Ps := []) (by decide +kernel) rfl rfl trivial ?_
      obtain ⟨k95, hk⟩ := hk
      rcases g96 : k_tellsStep r92 (M.1 69) (nI 5) v85 (nI 0) with ⟨u97, r98, r99⟩
      try simp only [g96] at hk
      have t100 : GM z mX12_tellsStep (d + 5) [.ref 54, .int (nI 5), .int v85, .int (nI 0)] (mrow M 54 r92) (fun rs => rs = .inl (none, mrow (mrow M 54 r98) 69 r99)) := by
        have q9 := c_k_tellsStep_54 z (d + 4) (mrow M 54 r92) (nI 5) v85 (nI 0) k95
        try simp only [mput, mrow_same, mrow_hit, mrow_miss, mrow_sw, idr_eq, ne_eq, Nat.reduceEqDiff, not_false_eq_true, Nat.reduceLT, reduceCtorEq, g96] at q9
        exact q9
      refine G.callV (as := [.int (nI 5), .int v85, .int (nI 0)]) (rest := []) (a := 54) oX12_tellsStep lk_EvenFindersModel_313 (by decide +kernel) rfl rfl ⟨rfl, rfl⟩ (Nat.le_of_ble_eq_true rfl) rfl ⟨Nat.le_of_ble_eq_true rfl, Nat.le_of_ble_eq_true rfl⟩ t100 (fun v9 N9 h101 => ?_) (fun E9 N9 h101 => by cases h101)
      cases h101
      show G z mX12_readStep (d + 6) 0 0 61 [some (.ref 54), some (.int (k_stepOf v3)), some (.int v85), some (.int (r92 34))] [] (mrow (mrow M 54 r98) 69 r99) Q
      refine G.loc (ls2 := [some (.ref 54), none, none, some (.int (r92 34))]) (by simp [subL]) ?_
      obtain ⟨k120, hk⟩ := hk
      refine G.mem (M' := mrow (mrow (mrow (mrow M 54 r98) 69 r99) 54 ((mrow (mrow M 54 r98) 69 r99).1 54)) 69 ((mrow (mrow M 54 r98) 69 r99).1 69)) (by simp only [mrow_self]) ?_
      refine lp_k_readStep_54_st_61 z d (mrow (mrow M 54 r98) 69 r99) Q (r92 34) fz gz Hz FU ((mrow (mrow M 54 r98) 69 r99).1 54) ((mrow (mrow M 54 r98) 69 r99).1 69) (by first | (simp only [mput, mrow_same, mrow_hit, mrow_miss, mrow_sw, idr_eq, ne_eq, Nat.reduceEqDiff, not_false_eq_true, Nat.reduceLT, reduceCtorEq]; exact k120) | exact k120) ?_
      try simp only [mput, mrow_same, mrow_hit, mrow_miss, mrow_sw, idr_eq, ne_eq, Nat.reduceEqDiff, not_false_eq_true, Nat.reduceLT, reduceCtorEq]
      rcases g121 : k_readStep_st_61 fz (M.1 56) (r92 34) FU r98 r99 with ⟨r122, r123⟩
      try simp only [g121] at hk
      show G z mX12_readStep (d + 6) 0 0 84 [some (.ref 54), none, none, some (.int (r92 34))] [] (mrow (mrow M 54 r122) 69 r123) Q
      refine G.sl [(.aload_n 0, 1, 0, 0, 0, 0), (.bipush 93, 2, 0, 0, 0, nI 93)] [] (pc2 := 87) (ls2 := [some (.ref 54), none, none, some (.int (r92 34))]) (st2 := [.int (nI 93), .ref 54]) (M2 := mrow (mrow M 54 r122) 69 r123) (Ps := []) (by decide +kernel) rfl rfl trivial ?_
      obtain ⟨k124, hk⟩ := hk
      rcases g125 : k_sign r122 (M.1 56) (nI 93) with ⟨u126, r127⟩
      try simp only [g125] at hk
      have t128 : GM z mX12_sign (d + 5) [.ref 54, .int (nI 93)] (mrow (mrow M 54 r122) 69 r123) (fun rs => rs = .inl (none, mrow (mrow M 54 r127) 69 r123)) := by
        have q9 := c_k_sign_54 z (d + 4) (mrow (mrow M 54 r122) 69 r123) (nI 93) k124
        try simp only [mput, mrow_same, mrow_hit, mrow_miss, mrow_sw, idr_eq, ne_eq, Nat.reduceEqDiff, not_false_eq_true, Nat.reduceLT, reduceCtorEq, g125] at q9
        exact q9
      refine G.callV (as := [.int (nI 93)]) (rest := []) (a := 54) oX12_sign lk_EvenFindersModel_239 (by decide +kernel) rfl rfl ⟨rfl, rfl⟩ (Nat.le_of_ble_eq_true rfl) rfl ⟨Nat.le_of_ble_eq_true rfl, Nat.le_of_ble_eq_true rfl⟩ t128 (fun v9 N9 h129 => ?_) (fun E9 N9 h129 => by cases h129)
      cases h129
      show G z mX12_readStep (d + 6) 0 0 90 [some (.ref 54), none, none, some (.int (r92 34))] [] (mrow (mrow M 54 r127) 69 r123) Q
      refine G.sl [(.aload_n 0, 1, 0, 0, 0, 0), (.dup, 1, 0, 0, 0, 0), (.getfield 141, 3, 11, 7, 130, 0), (.iconst 1, 1, 0, 0, 0, nI 1), (.isub, 1, 0, 0, 0, 0), (.putfield 141, 3, 11, 7, 130, 0), (.aload_n 0, 1, 0, 0, 0, 0)] [] (pc2 := 101) (ls2 := [some (.ref 54), none, none, some (.int (r92 34))]) (st2 := [.ref 54]) (M2 := mput (mrow (mrow M 54 r127) 69 r123) 54 7 ((r127 7) - (nI 1))) (Ps := []) (by decide +kernel) rfl rfl trivial ?_
      refine G.mem (M' := mrow (mrow M 54 (upd r127 7 ((r127 7) - (nI 1)))) 69 r123) (by first | rfl | (simp only [mput, mrow_same, mrow_hit, mrow_miss, mrow_sw, idr_eq, ne_eq, Nat.reduceEqDiff, not_false_eq_true, Nat.reduceLT, reduceCtorEq]; done)) ?_
      obtain ⟨k130, hk⟩ := hk
      have t131 : GM z mX12_fine (d + 5) [.ref 54] (mrow (mrow M 54 (upd r127 7 ((r127 7) - (nI 1)))) 69 r123) (fun rs => rs = .inl (some (.int (k_fine (upd r127 7 ((r127 7) - (nI 1))))), mrow (mrow M 54 (upd r127 7 ((r127 7) - (nI 1)))) 69 r123)) := by
        have q9 := c_k_fine_54 z (d + 5) (mrow (mrow M 54 (upd r127 7 ((r127 7) - (nI 1)))) 69 r123) 
        try simp only [mput, mrow_same, mrow_hit, mrow_miss, mrow_sw, idr_eq, ne_eq, Nat.reduceEqDiff, not_false_eq_true, Nat.reduceLT, reduceCtorEq] at q9
        exact q9
      refine G.callV (as := []) (rest := []) (a := 54) oX12_fine lk_EvenFindersModel_130 (by decide +kernel) rfl rfl ⟨rfl, rfl⟩ (Nat.le_of_ble_eq_true rfl) rfl ⟨Nat.le_of_ble_eq_true rfl, Nat.le_of_ble_eq_true rfl⟩ t131 (fun v9 N9 h132 => ?_) (fun E9 N9 h132 => by cases h132)
      cases h132
      show G z mX12_readStep (d + 6) 0 0 104 [some (.ref 54), none, none, some (.int (r92 34))] [.int (k_fine (upd r127 7 ((r127 7) - (nI 1))))] (mrow (mrow M 54 (upd r127 7 ((r127 7) - (nI 1)))) 69 r123) Q
      refine G.if_eq (off := (15)) (tgt := 119) (by decide +kernel) rfl (fun c133 => ?_) (fun c133 => ?_)
      · skip
        rw [if_pos c133] at hk
        refine G.sl [(.goto 65, 3, 184, 0, 0, 0), (.aload_n 0, 1, 0, 0, 0, 0), (.bipush 59, 2, 0, 0, 0, nI 59)] [] (pc2 := 187) (ls2 := [some (.ref 54), none, none, some (.int (r92 34))]) (st2 := [.int (nI 59), .ref 54]) (M2 := mrow (mrow M 54 (upd r127 7 ((r127 7) - (nI 1)))) 69 r123) (Ps := []) (by decide +kernel) rfl rfl trivial ?_
        obtain ⟨k134, hk⟩ := hk
        rcases g135 : k_sign (upd r127 7 ((r127 7) - (nI 1))) (M.1 56) (nI 59) with ⟨u136, r137⟩
        have t138 : GM z mX12_sign (d + 5) [.ref 54, .int (nI 59)] (mrow (mrow M 54 (upd r127 7 ((r127 7) - (nI 1)))) 69 r123) (fun rs => rs = .inl (none, mrow (mrow M 54 r137) 69 r123)) := by
          have q9 := c_k_sign_54 z (d + 4) (mrow (mrow M 54 (upd r127 7 ((r127 7) - (nI 1)))) 69 r123) (nI 59) k134
          try simp only [mput, mrow_same, mrow_hit, mrow_miss, mrow_sw, idr_eq, ne_eq, Nat.reduceEqDiff, not_false_eq_true, Nat.reduceLT, reduceCtorEq, g135] at q9
          exact q9
        refine G.callV (as := [.int (nI 59)]) (rest := []) (a := 54) oX12_sign lk_EvenFindersModel_239 (by decide +kernel) rfl rfl ⟨rfl, rfl⟩ (Nat.le_of_ble_eq_true rfl) rfl ⟨Nat.le_of_ble_eq_true rfl, Nat.le_of_ble_eq_true rfl⟩ t138 (fun v9 N9 h139 => ?_) (fun E9 N9 h139 => by cases h139)
        cases h139
        show G z mX12_readStep (d + 6) 0 0 190 [some (.ref 54), none, none, some (.int (r92 34))] [] (mrow (mrow M 54 r137) 69 r123) Q
        exact G.retv (by decide +kernel) rfl (Nat.le_of_ble_eq_true rfl) (Nat.le_of_ble_eq_true rfl) ((by rw [hQ]; simp only [k_readStep_st, g2, if_neg c10, if_pos c11, g78, g84, g90, g96, g121, g125, if_pos c133, g135, mrow_self]))
      · skip
        rw [if_neg c133] at hk
        obtain ⟨k140, k141, hk⟩ := hk
        refine G.sl [(.aload_n 0, 1, 0, 0, 0, 0), (.getfield 59, 3, 11, 32, 155, 0), (.iload_n 3, 1, 3, 0, 0, 0), (.iconst 2, 1, 0, 0, 0, nI 2), (.iadd, 1, 0, 0, 0, 0), (.aload_n 0, 1, 0, 0, 0, 0), (.getfield 295, 3, 11, 34, 157, 0), (.iastore, 1, 0, 0, 0, 0), (.goto 65, 3, 184, 0, 0, 0), (.aload_n 0, 1, 0, 0, 0, 0), (.bipush 59, 2, 0, 0, 0, nI 59)] [(ix (r92 34)) + 2] (pc2 := 187) (ls2 := [some (.ref 54), none, none, some (.int (r92 34))]) (st2 := [.int (nI 59), .ref 54]) (M2 := mput (mrow (mrow M 54 (upd r127 7 ((r127 7) - (nI 1)))) 69 r123) 69 ((ix (r92 34)) + 2) (r127 34)) (Ps := [((r92 34) + (nI 2)) = nI ((ix (r92 34)) + 2) ∧ ((ix (r92 34)) + 2) < 150]) (by decide +kernel) rfl rfl ⟨⟨(nAdd (ixE k140) rfl), k141⟩, trivial⟩ ?_
        refine G.mem (M' := mrow (mrow M 54 (upd r127 7 ((r127 7) - (nI 1)))) 69 (upd r123 ((ix (r92 34)) + 2) (r127 34))) (by first | rfl | (simp only [mput, mrow_same, mrow_hit, mrow_miss, mrow_sw, idr_eq, ne_eq, Nat.reduceEqDiff, not_false_eq_true, Nat.reduceLT, reduceCtorEq]; done)) ?_
        obtain ⟨k142, hk⟩ := hk
        rcases g143 : k_sign (upd r127 7 ((r127 7) - (nI 1))) (M.1 56) (nI 59) with ⟨u144, r145⟩
        have t146 : GM z mX12_sign (d + 5) [.ref 54, .int (nI 59)] (mrow (mrow M 54 (upd r127 7 ((r127 7) - (nI 1)))) 69 (upd r123 ((ix (r92 34)) + 2) (r127 34))) (fun rs => rs = .inl (none, mrow (mrow M 54 r145) 69 (upd r123 ((ix (r92 34)) + 2) (r127 34)))) := by
          have q9 := c_k_sign_54 z (d + 4) (mrow (mrow M 54 (upd r127 7 ((r127 7) - (nI 1)))) 69 (upd r123 ((ix (r92 34)) + 2) (r127 34))) (nI 59) k142
          try simp only [mput, mrow_same, mrow_hit, mrow_miss, mrow_sw, idr_eq, ne_eq, Nat.reduceEqDiff, not_false_eq_true, Nat.reduceLT, reduceCtorEq, g143] at q9
          exact q9
        refine G.callV (as := [.int (nI 59)]) (rest := []) (a := 54) oX12_sign lk_EvenFindersModel_239 (by decide +kernel) rfl rfl ⟨rfl, rfl⟩ (Nat.le_of_ble_eq_true rfl) rfl ⟨Nat.le_of_ble_eq_true rfl, Nat.le_of_ble_eq_true rfl⟩ t146 (fun v9 N9 h147 => ?_) (fun E9 N9 h147 => by cases h147)
        cases h147
        show G z mX12_readStep (d + 6) 0 0 190 [some (.ref 54), none, none, some (.int (r92 34))] [] (mrow (mrow M 54 r145) 69 (upd r123 ((ix (r92 34)) + 2) (r127 34))) Q
        exact G.retv (by decide +kernel) rfl (Nat.le_of_ble_eq_true rfl) (Nat.le_of_ble_eq_true rfl) ((by rw [hQ]; simp only [k_readStep_st, g2, if_neg c10, if_pos c11, g78, g84, g90, g96, g121, g125, if_neg c133, g143, mrow_self]))
  · skip
    rw [if_pos c10] at hk
    refine G.sl [(.aload_n 0, 1, 0, 0, 0, 0), (.iconst 1, 1, 0, 0, 0, nI 1), (.aload_n 0, 1, 0, 0, 0, 0), (.getfield 107, 3, 11, 4, 127, 0)] [] (pc2 := 19) (ls2 := [some (.ref 54), some (.int (k_stepOf v3)), none, none]) (st2 := [.int (r4 4), .int (nI 1), .ref 54]) (M2 := mrow M 54 r4) (Ps := []) (by decide +kernel) rfl rfl trivial ?_
    obtain ⟨k148, hk⟩ := hk
    rcases g149 : k_wrong r4 (nI 1) (r4 4) with ⟨u150, r151⟩
    try simp only [g149] at hk
    have t152 : GM z mX12_wrong (d + 5) [.ref 54, .int (nI 1), .int (r4 4)] (mrow M 54 r4) (fun rs => rs = .inl (none, mrow M 54 r151)) := by
      have q9 := c_k_wrong_54 z (d + 5) (mrow M 54 r4) (nI 1) (r4 4)
      try simp only [mput, mrow_same, mrow_hit, mrow_miss, mrow_sw, idr_eq, ne_eq, Nat.reduceEqDiff, not_false_eq_true, Nat.reduceLT, reduceCtorEq, g149] at q9
      exact q9
    refine G.callV (as := [.int (nI 1), .int (r4 4)]) (rest := []) (a := 54) oX12_wrong lk_EvenFindersModel_137 (by decide +kernel) rfl rfl ⟨rfl, rfl⟩ (Nat.le_of_ble_eq_true rfl) rfl ⟨Nat.le_of_ble_eq_true rfl, Nat.le_of_ble_eq_true rfl⟩ t152 (fun v9 N9 h153 => ?_) (fun E9 N9 h153 => by cases h153)
    cases h153
    show G z mX12_readStep (d + 6) 0 0 22 [some (.ref 54), some (.int (k_stepOf v3)), none, none] [] (mrow M 54 r151) Q
    refine G.sl [(.goto 162, 3, 184, 0, 0, 0), (.aload_n 0, 1, 0, 0, 0, 0), (.bipush 59, 2, 0, 0, 0, nI 59)] [] (pc2 := 187) (ls2 := [some (.ref 54), some (.int (k_stepOf v3)), none, none]) (st2 := [.int (nI 59), .ref 54]) (M2 := mrow M 54 r151) (Ps := []) (by decide +kernel) rfl rfl trivial ?_
    obtain ⟨k154, hk⟩ := hk
    rcases g155 : k_sign r151 (M.1 56) (nI 59) with ⟨u156, r157⟩
    have t158 : GM z mX12_sign (d + 5) [.ref 54, .int (nI 59)] (mrow M 54 r151) (fun rs => rs = .inl (none, mrow M 54 r157)) := by
      have q9 := c_k_sign_54 z (d + 4) (mrow M 54 r151) (nI 59) k154
      try simp only [mput, mrow_same, mrow_hit, mrow_miss, mrow_sw, idr_eq, ne_eq, Nat.reduceEqDiff, not_false_eq_true, Nat.reduceLT, reduceCtorEq, g155] at q9
      exact q9
    refine G.callV (as := [.int (nI 59)]) (rest := []) (a := 54) oX12_sign lk_EvenFindersModel_239 (by decide +kernel) rfl rfl ⟨rfl, rfl⟩ (Nat.le_of_ble_eq_true rfl) rfl ⟨Nat.le_of_ble_eq_true rfl, Nat.le_of_ble_eq_true rfl⟩ t158 (fun v9 N9 h159 => ?_) (fun E9 N9 h159 => by cases h159)
    cases h159
    show G z mX12_readStep (d + 6) 0 0 190 [some (.ref 54), some (.int (k_stepOf v3)), none, none] [] (mrow M 54 r157) Q
    refine G.mem (M' := mrow (mrow M 54 r157) 69 (M.1 69)) (((mrow_id (N := mrow M 54 r157) (c := 69) (f := M.1 69) (by first | rfl | (simp only [mput, mrow_same, mrow_hit, mrow_miss, mrow_sw, idr_eq, ne_eq, Nat.reduceEqDiff, not_false_eq_true, Nat.reduceLT, reduceCtorEq]; done))).symm).trans (by first | rfl | (simp only [mput, mrow_same, mrow_hit, mrow_miss, mrow_sw, idr_eq, ne_eq, Nat.reduceEqDiff, not_false_eq_true, Nat.reduceLT, reduceCtorEq]; done))) ?_
    exact G.retv (by decide +kernel) rfl (Nat.le_of_ble_eq_true rfl) (Nat.le_of_ble_eq_true rfl) ((by rw [hQ]; simp only [k_readStep_st, g2, if_pos c10, g149, g155, mrow_self]))
theorem c_k_readStep_54_rec (z : Zp)  : ∀ (k0 d : Nat) (M : Mem) , k_readStep_rec_ok k0 (M.1 54) (M.1 56) (M.1 69) → GM z mX12_readStep (d + 6 * k0) [.ref 54] M (fun rs => rs = .inl (none, mrow (mrow M 54 ((k_readStep_rec k0 (M.1 54) (M.1 56) (M.1 69)).2.1)) 69 ((k_readStep_rec k0 (M.1 54) (M.1 56) (M.1 69)).2.2))) := by
  intro k0
  induction k0 with
  | zero =>
    intro d M   hk
    exact (by simpa only [k_readStep_rec_ok] using hk : False).elim
  | succ k0 ih =>
    intro d M   hk
    have e9 : d + 6 * (k0 + 1) = (d + 6 * k0) + 6 := by omega
    rw [e9]
    simp only [k_readStep_rec_ok] at hk
    have q9 := c_k_readStep_54_st z (d + 6 * k0) M   (k_readStep_rec k0) (k_readStep_rec_ok k0) (fun j M   hk => by
      have q9 := ih (d + j) M   hk
      rw [show d + j + 6 * k0 = d + 6 * k0 + j by omega] at q9
      exact q9)  hk
    simp only [k_readStep_rec]
    exact q9
theorem c_k_readStep_54 (z : Zp) (d : Nat) (M : Mem)   (hk : k_readStep_ok (M.1 54) (M.1 56) (M.1 69)) : GM z mX12_readStep (d + 60) [.ref 54] M (fun rs => rs = .inl (none, mrow (mrow M 54 ((k_readStep (M.1 54) (M.1 56) (M.1 69)).2.1)) 69 ((k_readStep (M.1 54) (M.1 56) (M.1 69)).2.2))) := by
  have q9 := c_k_readStep_54_rec z  (cN 10) d M   hk
  rw [show d + 6 * cN 10 = d + 60 from by rw [cN_eq]] at q9
  exact q9
set_option maxHeartbeats 4000000 in
set_option maxRecDepth 3000 in
theorem lp_k_work_54_68 (z : Zp) (d : Nat) (M : Mem) (Q : Rs → Prop) : ∀ (k0 : Nat) (q54 : (Nat → Int32)) (q69 : (Nat → Int32)), k_work_68_ok (M.1 56) k0 q54 q69 → (match k_work_68 (M.1 56) k0 q54 q69 with | (q54', q69') => G z mX12_work (d + 71) 0 0 89 [some (.ref 54), none, none, none] [] (mrow (mrow M 54 (q54')) 69 (q69')) Q) → G z mX12_work (d + 71) 0 0 68 [some (.ref 54), none, none, none] [] (mrow (mrow M 54 q54) 69 q69) Q := by
  intro k0
  induction k0 with
  | zero =>
      intro q54 q69 hk hX
      exact (by simpa only [k_work_68_ok] using hk : False).elim
  | succ k0 ih =>
      intro q54 q69 hk hX
      simp only [k_work_68_ok] at hk
      refine G.sl [(.aload_n 0, 1, 0, 0, 0, 0)] [] (pc2 := 69) (ls2 := [some (.ref 54), none, none, none]) (st2 := [.ref 54]) (M2 := mrow (mrow M 54 q54) 69 q69) (Ps := []) (by decide +kernel) rfl rfl trivial ?_
      obtain ⟨k19, hk⟩ := hk
      have t20 : GM z mX12_fine (d + 70) [.ref 54] (mrow (mrow M 54 q54) 69 q69) (fun rs => rs = .inl (some (.int (k_fine q54)), mrow (mrow M 54 q54) 69 q69)) := by
        have q9 := c_k_fine_54 z (d + 70) (mrow (mrow M 54 q54) 69 q69) 
        try simp only [mput, mrow_same, mrow_hit, mrow_miss, mrow_sw, idr_eq, ne_eq, Nat.reduceEqDiff, not_false_eq_true, Nat.reduceLT, reduceCtorEq] at q9
        exact q9
      refine G.callV (as := []) (rest := []) (a := 54) oX12_fine lk_EvenFindersModel_130 (by decide +kernel) rfl rfl ⟨rfl, rfl⟩ (Nat.le_of_ble_eq_true rfl) rfl ⟨Nat.le_of_ble_eq_true rfl, Nat.le_of_ble_eq_true rfl⟩ t20 (fun v9 N9 h21 => ?_) (fun E9 N9 h21 => by cases h21)
      cases h21
      show G z mX12_work (d + 71) 0 0 72 [some (.ref 54), none, none, none] [.int (k_fine q54)] (mrow (mrow M 54 q54) 69 q69) Q
      refine G.if_eq (off := (17)) (tgt := 89) (by decide +kernel) rfl (fun c22 => ?_) (fun c22 => ?_)
      · skip
        rw [if_pos c22] at hk
        simp only [k_work_68, if_pos c22] at hX
        exact hX
      · skip
        rw [if_neg c22] at hk
        refine G.sl [(.aload_n 0, 1, 0, 0, 0, 0)] [] (pc2 := 76) (ls2 := [some (.ref 54), none, none, none]) (st2 := [.ref 54]) (M2 := mrow (mrow M 54 q54) 69 q69) (Ps := []) (by decide +kernel) rfl rfl trivial ?_
        obtain ⟨k23, hk⟩ := hk
        rcases g24 : k_isMore q54 (M.1 56) with ⟨v25, r26⟩
        try simp only [g24] at hk
        have ev25 : v25 = 0 ∨ v25 = 1 := by
          have q9 := k_isMore_01 q54 (M.1 56)
          rw [g24] at q9
          exact q9
        have t27 : GM z mX12_isMore (d + 70) [.ref 54] (mrow (mrow M 54 q54) 69 q69) (fun rs => rs = .inl (some (.int v25), mrow (mrow M 54 r26) 69 q69)) := by
          have q9 := c_k_isMore_54 z (d + 69) (mrow (mrow M 54 q54) 69 q69) k23
          try simp only [mput, mrow_same, mrow_hit, mrow_miss, mrow_sw, idr_eq, ne_eq, Nat.reduceEqDiff, not_false_eq_true, Nat.reduceLT, reduceCtorEq, g24] at q9
          exact q9
        refine G.callV (as := []) (rest := []) (a := 54) oX12_isMore lk_EvenFindersModel_221 (by decide +kernel) rfl rfl ⟨rfl, rfl⟩ (Nat.le_of_ble_eq_true rfl) rfl ⟨Nat.le_of_ble_eq_true rfl, Nat.le_of_ble_eq_true rfl⟩ t27 (fun v9 N9 h28 => ?_) (fun E9 N9 h28 => by cases h28)
        cases h28
        show G z mX12_work (d + 71) 0 0 79 [some (.ref 54), none, none, none] [.int v25] (mrow (mrow M 54 r26) 69 q69) Q
        refine G.if_eq (off := (10)) (tgt := 89) (by decide +kernel) rfl (fun c29 => ?_) (fun c29 => ?_)
        · skip
          rw [if_pos c29] at hk
          simp only [k_work_68, if_neg c22, g24, if_pos c29] at hX
          exact hX
        · skip
          rw [if_neg c29] at hk
          refine G.sl [(.aload_n 0, 1, 0, 0, 0, 0)] [] (pc2 := 83) (ls2 := [some (.ref 54), none, none, none]) (st2 := [.ref 54]) (M2 := mrow (mrow M 54 r26) 69 q69) (Ps := []) (by decide +kernel) rfl rfl trivial ?_
          obtain ⟨k30, hk⟩ := hk
          rcases g31 : k_readStep r26 (M.1 56) q69 with ⟨u32, r33, r34⟩
          try simp only [g31] at hk
          have t35 : GM z mX12_readStep (d + 70) [.ref 54] (mrow (mrow M 54 r26) 69 q69) (fun rs => rs = .inl (none, mrow (mrow M 54 r33) 69 r34)) := by
            have q9 := c_k_readStep_54 z (d + 10) (mrow (mrow M 54 r26) 69 q69) k30
            try simp only [mput, mrow_same, mrow_hit, mrow_miss, mrow_sw, idr_eq, ne_eq, Nat.reduceEqDiff, not_false_eq_true, Nat.reduceLT, reduceCtorEq, g31] at q9
            exact q9
          refine G.callV (as := []) (rest := []) (a := 54) oX12_readStep lk_EvenFindersModel_317 (by decide +kernel) rfl rfl ⟨rfl, rfl⟩ (Nat.le_of_ble_eq_true rfl) rfl ⟨Nat.le_of_ble_eq_true rfl, Nat.le_of_ble_eq_true rfl⟩ t35 (fun v9 N9 h36 => ?_) (fun E9 N9 h36 => by cases h36)
          cases h36
          show G z mX12_work (d + 71) 0 0 86 [some (.ref 54), none, none, none] [] (mrow (mrow M 54 r33) 69 r34) Q
          refine G.sl [(.goto (-18), 3, 68, 0, 0, 0)] [] (pc2 := 68) (ls2 := [some (.ref 54), none, none, none]) (st2 := []) (M2 := mrow (mrow M 54 r33) 69 r34) (Ps := []) (by decide +kernel) rfl rfl trivial ?_
          simp only [k_work_68, if_neg c22, g24, if_neg c29, g31] at hX
          exact ih r33 r34 hk hX
set_option maxHeartbeats 4000000 in
set_option maxRecDepth 3000 in
theorem lp_k_copies_L150_L150_54_69_70_3 (z : Zp) (d : Nat) (M : Mem) (Q : Rs → Prop) (n3 : Nat) (b3 : n3 < 3000) (hk : ∀ i4, i4 < n3 → k_copies_L150_L150_3_ok (M.1 69) (M.1 70) n3 i4) (hX : G z mX12_copies (d) 0 0 23 [none, none, none, none, none] [] (mrow M 70 (k_copies_L150_L150_3 (M.1 69) (M.1 70) n3 n3)) Q) : G z mX12_copies (d) 0 0 3 [none, some (.ref 69), some (.ref 70), some (.int (nI n3)), some (.int (nI 0))] [] M Q := by
  refine G.mem (M' := mrow M 70 (M.1 70)) (by simp only [mrow_self]) ?_
  refine down (n := n3) (P := fun i4 => G z mX12_copies (d) 0 0 3 [none, some (.ref 69), some (.ref 70), some (.int (nI n3)), some (.int (nI i4))] [] (mrow M 70 (k_copies_L150_L150_3 (M.1 69) (M.1 70) n3 i4)) Q) ?_ ?_ 0 (Nat.zero_le _)
  · skip
    refine G.sl [(.iload 4, 2, 4, 0, 0, 0), (.iload_n 3, 1, 3, 0, 0, 0)] [] (pc2 := 6) (ls2 := [none, some (.ref 69), some (.ref 70), some (.int (nI n3)), some (.int (nI n3))]) (st2 := [.int (nI n3), .int (nI n3)]) (M2 := mrow M 70 (k_copies_L150_L150_3 (M.1 69) (M.1 70) n3 n3)) (Ps := []) (by decide +kernel) rfl rfl trivial ?_
    refine G.ic_ge (off := (17)) (tgt := 23) (by decide +kernel) rfl (fun _ => ?_) (fun h9 => absurd (nI_le (by omega) (by omega)) h9)
    refine G.loc (ls2 := [none, none, none, none, none]) (by simp [subL]) ?_
    exact hX
  · skip
    intro i4 hi ih
    have hk := hk i4 hi
    simp only [k_copies_L150_L150_3_ok] at hk
    show G z mX12_copies (d) 0 0 3 [none, some (.ref 69), some (.ref 70), some (.int (nI n3)), some (.int (nI i4))] [] (mrow M 70 (k_copies_L150_L150_3 (M.1 69) (M.1 70) n3 i4)) Q
    refine G.sl [(.iload 4, 2, 4, 0, 0, 0), (.iload_n 3, 1, 3, 0, 0, 0)] [] (pc2 := 6) (ls2 := [none, some (.ref 69), some (.ref 70), some (.int (nI n3)), some (.int (nI i4))]) (st2 := [.int (nI n3), .int (nI i4)]) (M2 := mrow M 70 (k_copies_L150_L150_3 (M.1 69) (M.1 70) n3 i4)) (Ps := []) (by decide +kernel) rfl rfl trivial ?_
    refine G.ic_ge (off := (17)) (tgt := 23) (by decide +kernel) rfl (fun h9 => absurd h9 (nI_ge (by omega) (by omega))) (fun _ => ?_)
    obtain ⟨k1, hk⟩ := hk
    refine G.sl [(.aload_n 2, 1, 2, 0, 0, 0), (.iload 4, 2, 4, 0, 0, 0), (.aload_n 1, 1, 1, 0, 0, 0), (.iload 4, 2, 4, 0, 0, 0), (.iaload, 1, 0, 0, 0, 0), (.iastore, 1, 0, 0, 0, 0), (.iinc 4 1, 3, 4, 0, 0, nI 1), (.goto (-17), 3, 3, 0, 0, 0)] [i4, i4] (pc2 := 3) (ls2 := [none, some (.ref 69), some (.ref 70), some (.int (nI n3)), some (.int ((nI i4) + nI 1))]) (st2 := []) (M2 := mput (mrow M 70 (k_copies_L150_L150_3 (M.1 69) (M.1 70) n3 i4)) 70 i4 (M.1 69 i4)) (Ps := [(nI i4) = nI i4 ∧ i4 < 150, (nI i4) = nI i4 ∧ i4 < 150]) (by decide +kernel) rfl rfl ⟨⟨rfl, k1⟩, ⟨rfl, k1⟩, trivial⟩ ?_
    refine G.mem (M' := mrow M 70 (upd (k_copies_L150_L150_3 (M.1 69) (M.1 70) n3 i4) i4 (M.1 69 i4))) (by first | rfl | (simp only [mput, mrow_same, mrow_hit, mrow_miss, mrow_sw, idr_eq, ne_eq, Nat.reduceEqDiff, not_false_eq_true, Nat.reduceLT, reduceCtorEq]; done)) ?_
    rw [nI_add i4 1]
    simp only [k_copies_L150_L150_3] at ih
    exact ih
set_option maxHeartbeats 4000000 in
set_option maxRecDepth 3000 in
theorem c_k_copies_L150_L150_54_69_70 (z : Zp) (d : Nat) (M : Mem) (n3 : Nat) (b3 : n3 < 3000) (hk : k_copies_L150_L150_ok (M.1 69) (M.1 70) n3) : GM z mX12_copies (d) [.ref 54, .ref 69, .ref 70, .int (nI n3)] M (fun rs => rs = .inl (none, mrow M 70 ((k_copies_L150_L150 (M.1 69) (M.1 70) n3).2))) := by
  simp only [k_copies_L150_L150_ok] at hk
  refine GM.of oX12_copies.1 (Nat.le_of_ble_eq_true rfl) ?_
  show G z mX12_copies (d) 0 0 0 [some (.ref 54), some (.ref 69), some (.ref 70), some (.int (nI n3)), none] [] M _
  obtain ⟨Q, hQ⟩ : ∃ Q : Rs → Prop, Q = (fun rs => rs = .inl (none, mrow M 70 ((k_copies_L150_L150 (M.1 69) (M.1 70) n3).2))) := ⟨_, rfl⟩
  rw [← hQ]
  refine G.sl [(.iconst 0, 1, 0, 0, 0, nI 0), (.istore 4, 2, 4, 0, 0, 0)] [] (pc2 := 3) (ls2 := [some (.ref 54), some (.ref 69), some (.ref 70), some (.int (nI n3)), some (.int (nI 0))]) (st2 := []) (M2 := M) (Ps := []) (by decide +kernel) rfl rfl trivial ?_
  refine G.loc (ls2 := [none, some (.ref 69), some (.ref 70), some (.int (nI n3)), some (.int (nI 0))]) (by simp [subL]) ?_
  obtain ⟨k2, hk⟩ := hk
  refine lp_k_copies_L150_L150_54_69_70_3 z d M Q n3 (by omega) (by first | (simp only [mput, mrow_same, mrow_hit, mrow_miss, mrow_sw, idr_eq, ne_eq, Nat.reduceEqDiff, not_false_eq_true, Nat.reduceLT, reduceCtorEq]; exact k2) | exact k2) ?_
  try simp only [mput, mrow_same, mrow_hit, mrow_miss, mrow_sw, idr_eq, ne_eq, Nat.reduceEqDiff, not_false_eq_true, Nat.reduceLT, reduceCtorEq]
  show G z mX12_copies (d) 0 0 23 [none, none, none, none, none] [] (mrow M 70 (k_copies_L150_L150_3 (M.1 69) (M.1 70) n3 n3)) Q
  exact G.retv (by decide +kernel) rfl (Nat.le_of_ble_eq_true rfl) (Nat.le_of_ble_eq_true rfl) ((by rw [hQ]; simp only [k_copies_L150_L150, mrow_self]))
set_option maxHeartbeats 4000000 in
set_option maxRecDepth 3000 in
theorem lp_k_work_54_123 (z : Zp) (d : Nat) (M : Mem) (Q : Rs → Prop) (nn : Nat) (hnn : nn = 51) (hk : ∀ i3, i3 < nn → k_work_123_ok (M.1 54) (M.1 71) (M.1 73) i3) (hX : G z mX12_work (d + 71) 0 0 155 [some (.ref 54), none, none, none] [] (mrow M 73 (k_work_123 (M.1 54) (M.1 71) (M.1 73) nn)) Q) : G z mX12_work (d + 71) 0 0 123 [some (.ref 54), none, none, some (.int (nI 0))] [] M Q := by
  refine G.mem (M' := mrow M 73 (M.1 73)) (by simp only [mrow_self]) ?_
  refine down (n := nn) (P := fun i3 => G z mX12_work (d + 71) 0 0 123 [some (.ref 54), none, none, some (.int (nI i3))] [] (mrow M 73 (k_work_123 (M.1 54) (M.1 71) (M.1 73) i3)) Q) ?_ ?_ 0 (Nat.zero_le _)
  · skip
    refine G.sl [(.iload_n 3, 1, 3, 0, 0, 0), (.bipush 51, 2, 0, 0, 0, nI 51)] [] (pc2 := 126) (ls2 := [some (.ref 54), none, none, some (.int (nI nn))]) (st2 := [.int (nI 51), .int (nI nn)]) (M2 := mrow M 73 (k_work_123 (M.1 54) (M.1 71) (M.1 73) nn)) (Ps := []) (by decide +kernel) rfl rfl trivial ?_
    refine G.ic_ge (off := (29)) (tgt := 155) (by decide +kernel) rfl (fun _ => ?_) (fun h9 => absurd (nI_le (by omega) (by omega)) h9)
    refine G.loc (ls2 := [some (.ref 54), none, none, none]) (by simp [subL]) ?_
    exact hX
  · skip
    intro i3 hi ih
    have hk := hk i3 hi
    simp only [k_work_123_ok] at hk
    show G z mX12_work (d + 71) 0 0 123 [some (.ref 54), none, none, some (.int (nI i3))] [] (mrow M 73 (k_work_123 (M.1 54) (M.1 71) (M.1 73) i3)) Q
    refine G.sl [(.iload_n 3, 1, 3, 0, 0, 0), (.bipush 51, 2, 0, 0, 0, nI 51)] [] (pc2 := 126) (ls2 := [some (.ref 54), none, none, some (.int (nI i3))]) (st2 := [.int (nI 51), .int (nI i3)]) (M2 := mrow M 73 (k_work_123 (M.1 54) (M.1 71) (M.1 73) i3)) (Ps := []) (by decide +kernel) rfl rfl trivial ?_
    refine G.ic_ge (off := (29)) (tgt := 155) (by decide +kernel) rfl (fun h9 => absurd h9 (nI_ge (by omega) (by omega))) (fun _ => ?_)
    obtain ⟨k56, k57, hk⟩ := hk
    refine G.sl [(.aload_n 0, 1, 0, 0, 0, 0), (.getfield 71, 3, 11, 42, 165, 0), (.bipush 51, 2, 0, 0, 0, nI 51), (.aload_n 0, 1, 0, 0, 0, 0), (.getfield 178, 3, 11, 35, 158, 0), (.imul, 1, 0, 0, 0, 0), (.iload_n 3, 1, 3, 0, 0, 0), (.iadd, 1, 0, 0, 0, 0), (.aload_n 0, 1, 0, 0, 0, 0), (.getfield 65, 3, 11, 40, 163, 0), (.iload_n 3, 1, 3, 0, 0, 0), (.iaload, 1, 0, 0, 0, 0), (.iastore, 1, 0, 0, 0, 0), (.iinc 3 1, 3, 3, 0, 0, nI 1), (.goto (-29), 3, 123, 0, 0, 0)] [i3, (51 * (ix (M.1 54 35))) + i3] (pc2 := 123) (ls2 := [some (.ref 54), none, none, some (.int ((nI i3) + nI 1))]) (st2 := []) (M2 := mput (mrow M 73 (k_work_123 (M.1 54) (M.1 71) (M.1 73) i3)) 73 ((51 * (ix (M.1 54 35))) + i3) (M.1 71 i3)) (Ps := [(nI i3) = nI i3 ∧ i3 < 51, (((nI 51) * (M.1 54 35)) + (nI i3)) = nI ((51 * (ix (M.1 54 35))) + i3) ∧ ((51 * (ix (M.1 54 35))) + i3) < 816]) (by decide +kernel) rfl rfl ⟨⟨rfl, (by omega)⟩, ⟨(nAdd (nMul rfl (ixE k56)) rfl), k57⟩, trivial⟩ ?_
    refine G.mem (M' := mrow M 73 (upd (k_work_123 (M.1 54) (M.1 71) (M.1 73) i3) ((51 * (ix (M.1 54 35))) + i3) (M.1 71 i3))) (by first | rfl | (simp only [mput, mrow_same, mrow_hit, mrow_miss, mrow_sw, idr_eq, ne_eq, Nat.reduceEqDiff, not_false_eq_true, Nat.reduceLT, reduceCtorEq]; done)) ?_
    rw [nI_add i3 1]
    simp only [k_work_123] at ih
    exact ih
theorem k_isDone_01 (Rmd Rroad Rthing Rcode RofCode Rstack Rfacts Rs : Nat → Int32) (nt nf : Nat) (x1 : Int32) (x2 : Int32) (x3 : Int32) : (k_isDone Rmd Rroad Rthing Rcode RofCode Rstack Rfacts Rs nt nf x1 x2 x3).1 = 0 ∨ (k_isDone Rmd Rroad Rthing Rcode RofCode Rstack Rfacts Rs nt nf x1 x2 x3).1 = 1 := by
  unfold k_isDone
  repeat' split
  all_goals first | exact Or.inl rfl | exact Or.inr rfl | (rename_i h9; have q9 := k_letsLie_m99_01 (Rthing) (Rs) (ix x2) (ix x3); rw [h9] at q9; exact q9) | (rename_i h9; have q9 := k_loses_01 (Rthing) (Rs) (ix x2) (ix x3); rw [h9] at q9; exact q9) | (rename_i h9; have q9 := k_finds_01 (Rmd) (Rthing) (Rcode) (RofCode) (Rstack) (Rfacts) (Rs) nt (ix x2) (ix x3); rw [h9] at q9; exact q9) | (rename_i h9; have q9 := k_walks_01 (Rroad) (Rs) nt (ix x2) (ix x3); rw [h9] at q9; exact q9)
