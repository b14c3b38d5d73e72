set_option maxHeartbeats 4000000 in
set_option maxRecDepth 3000 in
theorem lp_k_of_s10_4 (z : Zp) (d : Nat) (M : Mem) (Q : Rs → Prop) (nn : Nat) (hnn : nn = 5) (hX : G z mX12_of (d + 4) 0 0 31 [none, some (.int (k_of_s10_4  nn)), none] [] M Q) : G z mX12_of (d + 4) 0 0 4 [some (.ref 1010), some (.int (nI 0)), some (.int (nI 0))] [] M Q := by
  refine down (n := nn) (P := fun i2 => G z mX12_of (d + 4) 0 0 4 [some (.ref 1010), some (.int (k_of_s10_4  i2)), some (.int (nI i2))] [] M Q) ?_ ?_ 0 (Nat.zero_le _)
  · skip
    refine G.sl [(.iload_n 2, 1, 2, 0, 0, 0), (.aload_n 0, 1, 0, 0, 0, 0)] [] (pc2 := 6) (ls2 := [some (.ref 1010), some (.int (k_of_s10_4  nn)), some (.int (nI nn))]) (st2 := [.ref 1010, .int (nI nn)]) (M2 := M) (Ps := []) (by decide +kernel) rfl rfl trivial ?_
    have t1 : GM z mJ0_length_8abf5 (d + 3) [.ref 1010] M (fun rs => rs = .inl (some (.int (nI 5)), M)) := c_slen z _ _ 10 (by decide)
    refine G.callT (as := []) (rest := [.int (nI nn)]) (i := 10) oJ0_length_8abf5 lk_EvenFindersModel_121 (by decide +kernel) rfl (by decide) rfl (Nat.le_of_ble_eq_true rfl) rfl ⟨Nat.le_of_ble_eq_true rfl, Nat.le_of_ble_eq_true rfl⟩ t1 (fun v9 N9 h2 => ?_) (fun E9 N9 h2 => by cases h2)
    cases h2
    show G z mX12_of (d + 4) 0 0 9 [some (.ref 1010), some (.int (k_of_s10_4  nn)), some (.int (nI nn))] [.int (nI 5), .int (nI nn)] M Q
    refine G.ic_ge (off := (22)) (tgt := 31) (by decide +kernel) rfl (fun _ => ?_) (fun h9 => absurd (nI_le (by omega) (by omega)) h9)
    refine G.loc (ls2 := [none, some (.int (k_of_s10_4  nn)), none]) (by simp [subL]) ?_
    exact hX
  · skip
    intro i2 hi ih
    show G z mX12_of (d + 4) 0 0 4 [some (.ref 1010), some (.int (k_of_s10_4  i2)), some (.int (nI i2))] [] M Q
    refine G.sl [(.iload_n 2, 1, 2, 0, 0, 0), (.aload_n 0, 1, 0, 0, 0, 0)] [] (pc2 := 6) (ls2 := [some (.ref 1010), some (.int (k_of_s10_4  i2)), some (.int (nI i2))]) (st2 := [.ref 1010, .int (nI i2)]) (M2 := M) (Ps := []) (by decide +kernel) rfl rfl trivial ?_
    have t3 : GM z mJ0_length_8abf5 (d + 3) [.ref 1010] M (fun rs => rs = .inl (some (.int (nI 5)), M)) := c_slen z _ _ 10 (by decide)
    refine G.callT (as := []) (rest := [.int (nI i2)]) (i := 10) oJ0_length_8abf5 lk_EvenFindersModel_121 (by decide +kernel) rfl (by decide) rfl (Nat.le_of_ble_eq_true rfl) rfl ⟨Nat.le_of_ble_eq_true rfl, Nat.le_of_ble_eq_true rfl⟩ t3 (fun v9 N9 h4 => ?_) (fun E9 N9 h4 => by cases h4)
    cases h4
    show G z mX12_of (d + 4) 0 0 9 [some (.ref 1010), some (.int (k_of_s10_4  i2)), some (.int (nI i2))] [.int (nI 5), .int (nI i2)] M Q
    refine G.ic_ge (off := (22)) (tgt := 31) (by decide +kernel) rfl (fun h9 => absurd h9 (nI_ge (by omega) (by omega))) (fun _ => ?_)
    refine G.sl [(.iload_n 1, 1, 1, 0, 0, 0), (.iconst 5, 1, 0, 0, 0, nI 5), (.ishl, 1, 0, 0, 0, 0), (.aload_n 0, 1, 0, 0, 0, 0), (.iload_n 2, 1, 2, 0, 0, 0)] [] (pc2 := 17) (ls2 := [some (.ref 1010), some (.int (k_of_s10_4  i2)), some (.int (nI i2))]) (st2 := [.int (nI i2), .ref 1010, .int ((k_of_s10_4  i2) <<< ((nI 5) &&& 31))]) (M2 := M) (Ps := []) (by decide +kernel) rfl rfl trivial ?_
    have t5 : GM z mJ0_charAt_5068e (d + 3) [.ref 1010, .int (nI i2)] M (fun rs => rs = .inl (some (.int (sby 10 i2)), M)) := c_charAt z _ _ 10 i2 (by decide) (show i2 < 5 from (by omega))
    refine G.callT (as := [.int (nI i2)]) (rest := [.int ((k_of_s10_4  i2) <<< ((nI 5) &&& 31))]) (i := 10) oJ0_charAt_5068e lk_EvenFindersModel_126 (by decide +kernel) rfl (by decide) rfl (Nat.le_of_ble_eq_true rfl) rfl ⟨Nat.le_of_ble_eq_true rfl, Nat.le_of_ble_eq_true rfl⟩ t5 (fun v9 N9 h6 => ?_) (fun E9 N9 h6 => by cases h6)
    cases h6
    show G z mX12_of (d + 4) 0 0 20 [some (.ref 1010), some (.int (k_of_s10_4  i2)), some (.int (nI i2))] [.int (sby 10 i2), .int ((k_of_s10_4  i2) <<< ((nI 5) &&& 31))] M Q
    refine G.sl [(.bipush 96, 2, 0, 0, 0, nI 96), (.isub, 1, 0, 0, 0, 0), (.ior, 1, 0, 0, 0, 0), (.istore_n 1, 1, 1, 0, 0, 0), (.iinc 2 1, 3, 2, 0, 0, nI 1), (.goto (-24), 3, 4, 0, 0, 0)] [] (pc2 := 4) (ls2 := [some (.ref 1010), some (.int (((k_of_s10_4  i2) <<< ((nI 5) &&& 31)) ||| ((sby 10 i2) - (nI 96)))), some (.int ((nI i2) + nI 1))]) (st2 := []) (M2 := M) (Ps := []) (by decide +kernel) rfl rfl trivial ?_
    rw [nI_add i2 1]
    simp only [k_of_s10_4] at ih
    exact ih
set_option maxHeartbeats 4000000 in
set_option maxRecDepth 3000 in
theorem c_k_of_s10 (z : Zp) (d : Nat) (M : Mem) : GM z mX12_of (d + 4) [.ref 1010] M (fun rs => rs = .inl (some (.int (k_of_s10 )), M)) := by
  refine GM.of oX12_of.1 (Nat.le_of_ble_eq_true rfl) ?_
  show G z mX12_of (d + 4) 0 0 0 [some (.ref 1010), none, none] [] M _
  obtain ⟨Q, hQ⟩ : ∃ Q : Rs → Prop, Q = (fun rs => rs = .inl (some (.int (k_of_s10 )), M)) := ⟨_, rfl⟩
  rw [← hQ]
  refine G.sl [(.iconst 0, 1, 0, 0, 0, nI 0), (.istore_n 1, 1, 1, 0, 0, 0), (.iconst 0, 1, 0, 0, 0, nI 0), (.istore_n 2, 1, 2, 0, 0, 0)] [] (pc2 := 4) (ls2 := [some (.ref 1010), some (.int (nI 0)), some (.int (nI 0))]) (st2 := []) (M2 := M) (Ps := []) (by decide +kernel) rfl rfl trivial ?_
  refine lp_k_of_s10_4 z d M Q (cN 5) (cN_eq 5) ?_
  show G z mX12_of (d + 4) 0 0 31 [none, some (.int (k_of_s10_4 (cN 5))), none] [] M Q
  refine G.sl [(.iload_n 1, 1, 1, 0, 0, 0)] [] (pc2 := 32) (ls2 := [none, some (.int (k_of_s10_4 (cN 5))), none]) (st2 := [.int (k_of_s10_4 (cN 5))]) (M2 := M) (Ps := []) (by decide +kernel) rfl rfl trivial ?_
  exact G.reti (by decide +kernel) rfl rfl (Nat.le_of_ble_eq_true rfl) (Nat.le_of_ble_eq_true rfl) ((by rw [hQ]; simp only [k_of_s10, mrow_self]))
set_option maxHeartbeats 4000000 in
set_option maxRecDepth 3000 in
theorem lp_k_of_s11_4 (z : Zp) (d : Nat) (M : Mem) (Q : Rs → Prop) (nn : Nat) (hnn : nn = 4) (hX : G z mX12_of (d + 4) 0 0 31 [none, some (.int (k_of_s11_4  nn)), none] [] M Q) : G z mX12_of (d + 4) 0 0 4 [some (.ref 1011), some (.int (nI 0)), some (.int (nI 0))] [] M Q := by
  refine down (n := nn) (P := fun i2 => G z mX12_of (d + 4) 0 0 4 [some (.ref 1011), some (.int (k_of_s11_4  i2)), some (.int (nI i2))] [] M Q) ?_ ?_ 0 (Nat.zero_le _)
  · skip
    refine G.sl [(.iload_n 2, 1, 2, 0, 0, 0), (.aload_n 0, 1, 0, 0, 0, 0)] [] (pc2 := 6) (ls2 := [some (.ref 1011), some (.int (k_of_s11_4  nn)), some (.int (nI nn))]) (st2 := [.ref 1011, .int (nI nn)]) (M2 := M) (Ps := []) (by decide +kernel) rfl rfl trivial ?_
    have t1 : GM z mJ0_length_8abf5 (d + 3) [.ref 1011] M (fun rs => rs = .inl (some (.int (nI 4)), M)) := c_slen z _ _ 11 (by decide)
    refine G.callT (as := []) (rest := [.int (nI nn)]) (i := 11) oJ0_length_8abf5 lk_EvenFindersModel_121 (by decide +kernel) rfl (by decide) rfl (Nat.le_of_ble_eq_true rfl) rfl ⟨Nat.le_of_ble_eq_true rfl, Nat.le_of_ble_eq_true rfl⟩ t1 (fun v9 N9 h2 => ?_) (fun E9 N9 h2 => by cases h2)
    cases h2
    show G z mX12_of (d + 4) 0 0 9 [some (.ref 1011), some (.int (k_of_s11_4  nn)), some (.int (nI nn))] [.int (nI 4), .int (nI nn)] M Q
    refine G.ic_ge (off := (22)) (tgt := 31) (by decide +kernel) rfl (fun _ => ?_) (fun h9 => absurd (nI_le (by omega) (by omega)) h9)
    refine G.loc (ls2 := [none, some (.int (k_of_s11_4  nn)), none]) (by simp [subL]) ?_
    exact hX
  · skip
    intro i2 hi ih
    show G z mX12_of (d + 4) 0 0 4 [some (.ref 1011), some (.int (k_of_s11_4  i2)), some (.int (nI i2))] [] M Q
    refine G.sl [(.iload_n 2, 1, 2, 0, 0, 0), (.aload_n 0, 1, 0, 0, 0, 0)] [] (pc2 := 6) (ls2 := [some (.ref 1011), some (.int (k_of_s11_4  i2)), some (.int (nI i2))]) (st2 := [.ref 1011, .int (nI i2)]) (M2 := M) (Ps := []) (by decide +kernel) rfl rfl trivial ?_
    have t3 : GM z mJ0_length_8abf5 (d + 3) [.ref 1011] M (fun rs => rs = .inl (some (.int (nI 4)), M)) := c_slen z _ _ 11 (by decide)
    refine G.callT (as := []) (rest := [.int (nI i2)]) (i := 11) oJ0_length_8abf5 lk_EvenFindersModel_121 (by decide +kernel) rfl (by decide) rfl (Nat.le_of_ble_eq_true rfl) rfl ⟨Nat.le_of_ble_eq_true rfl, Nat.le_of_ble_eq_true rfl⟩ t3 (fun v9 N9 h4 => ?_) (fun E9 N9 h4 => by cases h4)
    cases h4
    show G z mX12_of (d + 4) 0 0 9 [some (.ref 1011), some (.int (k_of_s11_4  i2)), some (.int (nI i2))] [.int (nI 4), .int (nI i2)] M Q
    refine G.ic_ge (off := (22)) (tgt := 31) (by decide +kernel) rfl (fun h9 => absurd h9 (nI_ge (by omega) (by omega))) (fun _ => ?_)
    refine G.sl [(.iload_n 1, 1, 1, 0, 0, 0), (.iconst 5, 1, 0, 0, 0, nI 5), (.ishl, 1, 0, 0, 0, 0), (.aload_n 0, 1, 0, 0, 0, 0), (.iload_n 2, 1, 2, 0, 0, 0)] [] (pc2 := 17) (ls2 := [some (.ref 1011), some (.int (k_of_s11_4  i2)), some (.int (nI i2))]) (st2 := [.int (nI i2), .ref 1011, .int ((k_of_s11_4  i2) <<< ((nI 5) &&& 31))]) (M2 := M) (Ps := []) (by decide +kernel) rfl rfl trivial ?_
    have t5 : GM z mJ0_charAt_5068e (d + 3) [.ref 1011, .int (nI i2)] M (fun rs => rs = .inl (some (.int (sby 11 i2)), M)) := c_charAt z _ _ 11 i2 (by decide) (show i2 < 4 from (by omega))
    refine G.callT (as := [.int (nI i2)]) (rest := [.int ((k_of_s11_4  i2) <<< ((nI 5) &&& 31))]) (i := 11) oJ0_charAt_5068e lk_EvenFindersModel_126 (by decide +kernel) rfl (by decide) rfl (Nat.le_of_ble_eq_true rfl) rfl ⟨Nat.le_of_ble_eq_true rfl, Nat.le_of_ble_eq_true rfl⟩ t5 (fun v9 N9 h6 => ?_) (fun E9 N9 h6 => by cases h6)
    cases h6
    show G z mX12_of (d + 4) 0 0 20 [some (.ref 1011), some (.int (k_of_s11_4  i2)), some (.int (nI i2))] [.int (sby 11 i2), .int ((k_of_s11_4  i2) <<< ((nI 5) &&& 31))] M Q
    refine G.sl [(.bipush 96, 2, 0, 0, 0, nI 96), (.isub, 1, 0, 0, 0, 0), (.ior, 1, 0, 0, 0, 0), (.istore_n 1, 1, 1, 0, 0, 0), (.iinc 2 1, 3, 2, 0, 0, nI 1), (.goto (-24), 3, 4, 0, 0, 0)] [] (pc2 := 4) (ls2 := [some (.ref 1011), some (.int (((k_of_s11_4  i2) <<< ((nI 5) &&& 31)) ||| ((sby 11 i2) - (nI 96)))), some (.int ((nI i2) + nI 1))]) (st2 := []) (M2 := M) (Ps := []) (by decide +kernel) rfl rfl trivial ?_
    rw [nI_add i2 1]
    simp only [k_of_s11_4] at ih
    exact ih
set_option maxHeartbeats 4000000 in
set_option maxRecDepth 3000 in
theorem c_k_of_s11 (z : Zp) (d : Nat) (M : Mem) : GM z mX12_of (d + 4) [.ref 1011] M (fun rs => rs = .inl (some (.int (k_of_s11 )), M)) := by
  refine GM.of oX12_of.1 (Nat.le_of_ble_eq_true rfl) ?_
  show G z mX12_of (d + 4) 0 0 0 [some (.ref 1011), none, none] [] M _
  obtain ⟨Q, hQ⟩ : ∃ Q : Rs → Prop, Q = (fun rs => rs = .inl (some (.int (k_of_s11 )), M)) := ⟨_, rfl⟩
  rw [← hQ]
  refine G.sl [(.iconst 0, 1, 0, 0, 0, nI 0), (.istore_n 1, 1, 1, 0, 0, 0), (.iconst 0, 1, 0, 0, 0, nI 0), (.istore_n 2, 1, 2, 0, 0, 0)] [] (pc2 := 4) (ls2 := [some (.ref 1011), some (.int (nI 0)), some (.int (nI 0))]) (st2 := []) (M2 := M) (Ps := []) (by decide +kernel) rfl rfl trivial ?_
  refine lp_k_of_s11_4 z d M Q (cN 4) (cN_eq 4) ?_
  show G z mX12_of (d + 4) 0 0 31 [none, some (.int (k_of_s11_4 (cN 4))), none] [] M Q
  refine G.sl [(.iload_n 1, 1, 1, 0, 0, 0)] [] (pc2 := 32) (ls2 := [none, some (.int (k_of_s11_4 (cN 4))), none]) (st2 := [.int (k_of_s11_4 (cN 4))]) (M2 := M) (Ps := []) (by decide +kernel) rfl rfl trivial ?_
  exact G.reti (by decide +kernel) rfl rfl (Nat.le_of_ble_eq_true rfl) (Nat.le_of_ble_eq_true rfl) ((by rw [hQ]; simp only [k_of_s11, mrow_self]))
set_option maxHeartbeats 4000000 in
set_option maxRecDepth 3000 in
theorem lp_k_of_s12_4 (z : Zp) (d : Nat) (M : Mem) (Q : Rs → Prop) (nn : Nat) (hnn : nn = 5) (hX : G z mX12_of (d + 4) 0 0 31 [none, some (.int (k_of_s12_4  nn)), none] [] M Q) : G z mX12_of (d + 4) 0 0 4 [some (.ref 1012), some (.int (nI 0)), some (.int (nI 0))] [] M Q := by
  refine down (n := nn) (P := fun i2 => G z mX12_of (d + 4) 0 0 4 [some (.ref 1012), some (.int (k_of_s12_4  i2)), some (.int (nI i2))] [] M Q) ?_ ?_ 0 (Nat.zero_le _)
  · skip
    refine G.sl [(.iload_n 2, 1, 2, 0, 0, 0), (.aload_n 0, 1, 0, 0, 0, 0)] [] (pc2 := 6) (ls2 := [some (.ref 1012), some (.int (k_of_s12_4  nn)), some (.int (nI nn))]) (st2 := [.ref 1012, .int (nI nn)]) (M2 := M) (Ps := []) (by decide +kernel) rfl rfl trivial ?_
    have t1 : GM z mJ0_length_8abf5 (d + 3) [.ref 1012] M (fun rs => rs = .inl (some (.int (nI 5)), M)) := c_slen z _ _ 12 (by decide)
    refine G.callT (as := []) (rest := [.int (nI nn)]) (i := 12) oJ0_length_8abf5 lk_EvenFindersModel_121 (by decide +kernel) rfl (by decide) rfl (Nat.le_of_ble_eq_true rfl) rfl ⟨Nat.le_of_ble_eq_true rfl, Nat.le_of_ble_eq_true rfl⟩ t1 (fun v9 N9 h2 => ?_) (fun E9 N9 h2 => by cases h2)
    cases h2
    show G z mX12_of (d + 4) 0 0 9 [some (.ref 1012), some (.int (k_of_s12_4  nn)), some (.int (nI nn))] [.int (nI 5), .int (nI nn)] M Q
    refine G.ic_ge (off := (22)) (tgt := 31) (by decide +kernel) rfl (fun _ => ?_) (fun h9 => absurd (nI_le (by omega) (by omega)) h9)
    refine G.loc (ls2 := [none, some (.int (k_of_s12_4  nn)), none]) (by simp [subL]) ?_
    exact hX
  · skip
    intro i2 hi ih
    show G z mX12_of (d + 4) 0 0 4 [some (.ref 1012), some (.int (k_of_s12_4  i2)), some (.int (nI i2))] [] M Q
    refine G.sl [(.iload_n 2, 1, 2, 0, 0, 0), (.aload_n 0, 1, 0, 0, 0, 0)] [] (pc2 := 6) (ls2 := [some (.ref 1012), some (.int (k_of_s12_4  i2)), some (.int (nI i2))]) (st2 := [.ref 1012, .int (nI i2)]) (M2 := M) (Ps := []) (by decide +kernel) rfl rfl trivial ?_
    have t3 : GM z mJ0_length_8abf5 (d + 3) [.ref 1012] M (fun rs => rs = .inl (some (.int (nI 5)), M)) := c_slen z _ _ 12 (by decide)
    refine G.callT (as := []) (rest := [.int (nI i2)]) (i := 12) oJ0_length_8abf5 lk_EvenFindersModel_121 (by decide +kernel) rfl (by decide) rfl (Nat.le_of_ble_eq_true rfl) rfl ⟨Nat.le_of_ble_eq_true rfl, Nat.le_of_ble_eq_true rfl⟩ t3 (fun v9 N9 h4 => ?_) (fun E9 N9 h4 => by cases h4)
    cases h4
    show G z mX12_of (d + 4) 0 0 9 [some (.ref 1012), some (.int (k_of_s12_4  i2)), some (.int (nI i2))] [.int (nI 5), .int (nI i2)] M Q
    refine G.ic_ge (off := (22)) (tgt := 31) (by decide +kernel) rfl (fun h9 => absurd h9 (nI_ge (by omega) (by omega))) (fun _ => ?_)
    refine G.sl [(.iload_n 1, 1, 1, 0, 0, 0), (.iconst 5, 1, 0, 0, 0, nI 5), (.ishl, 1, 0, 0, 0, 0), (.aload_n 0, 1, 0, 0, 0, 0), (.iload_n 2, 1, 2, 0, 0, 0)] [] (pc2 := 17) (ls2 := [some (.ref 1012), some (.int (k_of_s12_4  i2)), some (.int (nI i2))]) (st2 := [.int (nI i2), .ref 1012, .int ((k_of_s12_4  i2) <<< ((nI 5) &&& 31))]) (M2 := M) (Ps := []) (by decide +kernel) rfl rfl trivial ?_
    have t5 : GM z mJ0_charAt_5068e (d + 3) [.ref 1012, .int (nI i2)] M (fun rs => rs = .inl (some (.int (sby 12 i2)), M)) := c_charAt z _ _ 12 i2 (by decide) (show i2 < 5 from (by omega))
    refine G.callT (as := [.int (nI i2)]) (rest := [.int ((k_of_s12_4  i2) <<< ((nI 5) &&& 31))]) (i := 12) oJ0_charAt_5068e lk_EvenFindersModel_126 (by decide +kernel) rfl (by decide) rfl (Nat.le_of_ble_eq_true rfl) rfl ⟨Nat.le_of_ble_eq_true rfl, Nat.le_of_ble_eq_true rfl⟩ t5 (fun v9 N9 h6 => ?_) (fun E9 N9 h6 => by cases h6)
    cases h6
    show G z mX12_of (d + 4) 0 0 20 [some (.ref 1012), some (.int (k_of_s12_4  i2)), some (.int (nI i2))] [.int (sby 12 i2), .int ((k_of_s12_4  i2) <<< ((nI 5) &&& 31))] M Q
    refine G.sl [(.bipush 96, 2, 0, 0, 0, nI 96), (.isub, 1, 0, 0, 0, 0), (.ior, 1, 0, 0, 0, 0), (.istore_n 1, 1, 1, 0, 0, 0), (.iinc 2 1, 3, 2, 0, 0, nI 1), (.goto (-24), 3, 4, 0, 0, 0)] [] (pc2 := 4) (ls2 := [some (.ref 1012), some (.int (((k_of_s12_4  i2) <<< ((nI 5) &&& 31)) ||| ((sby 12 i2) - (nI 96)))), some (.int ((nI i2) + nI 1))]) (st2 := []) (M2 := M) (Ps := []) (by decide +kernel) rfl rfl trivial ?_
    rw [nI_add i2 1]
    simp only [k_of_s12_4] at ih
    exact ih
set_option maxHeartbeats 4000000 in
set_option maxRecDepth 3000 in
theorem c_k_of_s12 (z : Zp) (d : Nat) (M : Mem) : GM z mX12_of (d + 4) [.ref 1012] M (fun rs => rs = .inl (some (.int (k_of_s12 )), M)) := by
  refine GM.of oX12_of.1 (Nat.le_of_ble_eq_true rfl) ?_
  show G z mX12_of (d + 4) 0 0 0 [some (.ref 1012), none, none] [] M _
  obtain ⟨Q, hQ⟩ : ∃ Q : Rs → Prop, Q = (fun rs => rs = .inl (some (.int (k_of_s12 )), M)) := ⟨_, rfl⟩
  rw [← hQ]
  refine G.sl [(.iconst 0, 1, 0, 0, 0, nI 0), (.istore_n 1, 1, 1, 0, 0, 0), (.iconst 0, 1, 0, 0, 0, nI 0), (.istore_n 2, 1, 2, 0, 0, 0)] [] (pc2 := 4) (ls2 := [some (.ref 1012), some (.int (nI 0)), some (.int (nI 0))]) (st2 := []) (M2 := M) (Ps := []) (by decide +kernel) rfl rfl trivial ?_
  refine lp_k_of_s12_4 z d M Q (cN 5) (cN_eq 5) ?_
  show G z mX12_of (d + 4) 0 0 31 [none, some (.int (k_of_s12_4 (cN 5))), none] [] M Q
  refine G.sl [(.iload_n 1, 1, 1, 0, 0, 0)] [] (pc2 := 32) (ls2 := [none, some (.int (k_of_s12_4 (cN 5))), none]) (st2 := [.int (k_of_s12_4 (cN 5))]) (M2 := M) (Ps := []) (by decide +kernel) rfl rfl trivial ?_
  exact G.reti (by decide +kernel) rfl rfl (Nat.le_of_ble_eq_true rfl) (Nat.le_of_ble_eq_true rfl) ((by rw [hQ]; simp only [k_of_s12, mrow_self]))
set_option maxHeartbeats 4000000 in
set_option maxRecDepth 3000 in
theorem lp_k_of_s13_4 (z : Zp) (d : Nat) (M : Mem) (Q : Rs → Prop) (nn : Nat) (hnn : nn = 4) (hX : G z mX12_of (d + 4) 0 0 31 [none, some (.int (k_of_s13_4  nn)), none] [] M Q) : G z mX12_of (d + 4) 0 0 4 [some (.ref 1013), some (.int (nI 0)), some (.int (nI 0))] [] M Q := by
  refine down (n := nn) (P := fun i2 => G z mX12_of (d + 4) 0 0 4 [some (.ref 1013), some (.int (k_of_s13_4  i2)), some (.int (nI i2))] [] M Q) ?_ ?_ 0 (Nat.zero_le _)
  · skip
    refine G.sl [(.iload_n 2, 1, 2, 0, 0, 0), (.aload_n 0, 1, 0, 0, 0, 0)] [] (pc2 := 6) (ls2 := [some (.ref 1013), some (.int (k_of_s13_4  nn)), some (.int (nI nn))]) (st2 := [.ref 1013, .int (nI nn)]) (M2 := M) (Ps := []) (by decide +kernel) rfl rfl trivial ?_
    have t1 : GM z mJ0_length_8abf5 (d + 3) [.ref 1013] M (fun rs => rs = .inl (some (.int (nI 4)), M)) := c_slen z _ _ 13 (by decide)
    refine G.callT (as := []) (rest := [.int (nI nn)]) (i := 13) oJ0_length_8abf5 lk_EvenFindersModel_121 (by decide +kernel) rfl (by decide) rfl (Nat.le_of_ble_eq_true rfl) rfl ⟨Nat.le_of_ble_eq_true rfl, Nat.le_of_ble_eq_true rfl⟩ t1 (fun v9 N9 h2 => ?_) (fun E9 N9 h2 => by cases h2)
    cases h2
    show G z mX12_of (d + 4) 0 0 9 [some (.ref 1013), some (.int (k_of_s13_4  nn)), some (.int (nI nn))] [.int (nI 4), .int (nI nn)] M Q
    refine G.ic_ge (off := (22)) (tgt := 31) (by decide +kernel) rfl (fun _ => ?_) (fun h9 => absurd (nI_le (by omega) (by omega)) h9)
    refine G.loc (ls2 := [none, some (.int (k_of_s13_4  nn)), none]) (by simp [subL]) ?_
    exact hX
  · skip
    intro i2 hi ih
    show G z mX12_of (d + 4) 0 0 4 [some (.ref 1013), some (.int (k_of_s13_4  i2)), some (.int (nI i2))] [] M Q
    refine G.sl [(.iload_n 2, 1, 2, 0, 0, 0), (.aload_n 0, 1, 0, 0, 0, 0)] [] (pc2 := 6) (ls2 := [some (.ref 1013), some (.int (k_of_s13_4  i2)), some (.int (nI i2))]) (st2 := [.ref 1013, .int (nI i2)]) (M2 := M) (Ps := []) (by decide +kernel) rfl rfl trivial ?_
    have t3 : GM z mJ0_length_8abf5 (d + 3) [.ref 1013] M (fun rs => rs = .inl (some (.int (nI 4)), M)) := c_slen z _ _ 13 (by decide)
    refine G.callT (as := []) (rest := [.int (nI i2)]) (i := 13) oJ0_length_8abf5 lk_EvenFindersModel_121 (by decide +kernel) rfl (by decide) rfl (Nat.le_of_ble_eq_true rfl) rfl ⟨Nat.le_of_ble_eq_true rfl, Nat.le_of_ble_eq_true rfl⟩ t3 (fun v9 N9 h4 => ?_) (fun E9 N9 h4 => by cases h4)
    cases h4
    show G z mX12_of (d + 4) 0 0 9 [some (.ref 1013), some (.int (k_of_s13_4  i2)), some (.int (nI i2))] [.int (nI 4), .int (nI i2)] M Q
    refine G.ic_ge (off := (22)) (tgt := 31) (by decide +kernel) rfl (fun h9 => absurd h9 (nI_ge (by omega) (by omega))) (fun _ => ?_)
    refine G.sl [(.iload_n 1, 1, 1, 0, 0, 0), (.iconst 5, 1, 0, 0, 0, nI 5), (.ishl, 1, 0, 0, 0, 0), (.aload_n 0, 1, 0, 0, 0, 0), (.iload_n 2, 1, 2, 0, 0, 0)] [] (pc2 := 17) (ls2 := [some (.ref 1013), some (.int (k_of_s13_4  i2)), some (.int (nI i2))]) (st2 := [.int (nI i2), .ref 1013, .int ((k_of_s13_4  i2) <<< ((nI 5) &&& 31))]) (M2 := M) (Ps := []) (by decide +kernel) rfl rfl trivial ?_
    have t5 : GM z mJ0_charAt_5068e (d + 3) [.ref 1013, .int (nI i2)] M (fun rs => rs = .inl (some (.int (sby 13 i2)), M)) := c_charAt z _ _ 13 i2 (by decide) (show i2 < 4 from (by omega))
    refine G.callT (as := [.int (nI i2)]) (rest := [.int ((k_of_s13_4  i2) <<< ((nI 5) &&& 31))]) (i := 13) oJ0_charAt_5068e lk_EvenFindersModel_126 (by decide +kernel) rfl (by decide) rfl (Nat.le_of_ble_eq_true rfl) rfl ⟨Nat.le_of_ble_eq_true rfl, Nat.le_of_ble_eq_true rfl⟩ t5 (fun v9 N9 h6 => ?_) (fun E9 N9 h6 => by cases h6)
    cases h6
    show G z mX12_of (d + 4) 0 0 20 [some (.ref 1013), some (.int (k_of_s13_4  i2)), some (.int (nI i2))] [.int (sby 13 i2), .int ((k_of_s13_4  i2) <<< ((nI 5) &&& 31))] M Q
    refine G.sl [(.bipush 96, 2, 0, 0, 0, nI 96), (.isub, 1, 0, 0, 0, 0), (.ior, 1, 0, 0, 0, 0), (.istore_n 1, 1, 1, 0, 0, 0), (.iinc 2 1, 3, 2, 0, 0, nI 1), (.goto (-24), 3, 4, 0, 0, 0)] [] (pc2 := 4) (ls2 := [some (.ref 1013), some (.int (((k_of_s13_4  i2) <<< ((nI 5) &&& 31)) ||| ((sby 13 i2) - (nI 96)))), some (.int ((nI i2) + nI 1))]) (st2 := []) (M2 := M) (Ps := []) (by decide +kernel) rfl rfl trivial ?_
    rw [nI_add i2 1]
    simp only [k_of_s13_4] at ih
    exact ih
set_option maxHeartbeats 4000000 in
set_option maxRecDepth 3000 in
theorem c_k_of_s13 (z : Zp) (d : Nat) (M : Mem) : GM z mX12_of (d + 4) [.ref 1013] M (fun rs => rs = .inl (some (.int (k_of_s13 )), M)) := by
  refine GM.of oX12_of.1 (Nat.le_of_ble_eq_true rfl) ?_
  show G z mX12_of (d + 4) 0 0 0 [some (.ref 1013), none, none] [] M _
  obtain ⟨Q, hQ⟩ : ∃ Q : Rs → Prop, Q = (fun rs => rs = .inl (some (.int (k_of_s13 )), M)) := ⟨_, rfl⟩
  rw [← hQ]
  refine G.sl [(.iconst 0, 1, 0, 0, 0, nI 0), (.istore_n 1, 1, 1, 0, 0, 0), (.iconst 0, 1, 0, 0, 0, nI 0), (.istore_n 2, 1, 2, 0, 0, 0)] [] (pc2 := 4) (ls2 := [some (.ref 1013), some (.int (nI 0)), some (.int (nI 0))]) (st2 := []) (M2 := M) (Ps := []) (by decide +kernel) rfl rfl trivial ?_
  refine lp_k_of_s13_4 z d M Q (cN 4) (cN_eq 4) ?_
  show G z mX12_of (d + 4) 0 0 31 [none, some (.int (k_of_s13_4 (cN 4))), none] [] M Q
  refine G.sl [(.iload_n 1, 1, 1, 0, 0, 0)] [] (pc2 := 32) (ls2 := [none, some (.int (k_of_s13_4 (cN 4))), none]) (st2 := [.int (k_of_s13_4 (cN 4))]) (M2 := M) (Ps := []) (by decide +kernel) rfl rfl trivial ?_
  exact G.reti (by decide +kernel) rfl rfl (Nat.le_of_ble_eq_true rfl) (Nat.le_of_ble_eq_true rfl) ((by rw [hQ]; simp only [k_of_s13, mrow_self]))
set_option maxHeartbeats 4000000 in
set_option maxRecDepth 3000 in
theorem lp_k_of_s14_4 (z : Zp) (d : Nat) (M : Mem) (Q : Rs → Prop) (nn : Nat) (hnn : nn = 4) (hX : G z mX12_of (d + 4) 0 0 31 [none, some (.int (k_of_s14_4  nn)), none] [] M Q) : G z mX12_of (d + 4) 0 0 4 [some (.ref 1014), some (.int (nI 0)), some (.int (nI 0))] [] M Q := by
  refine down (n := nn) (P := fun i2 => G z mX12_of (d + 4) 0 0 4 [some (.ref 1014), some (.int (k_of_s14_4  i2)), some (.int (nI i2))] [] M Q) ?_ ?_ 0 (Nat.zero_le _)
  · skip
    refine G.sl [(.iload_n 2, 1, 2, 0, 0, 0), (.aload_n 0, 1, 0, 0, 0, 0)] [] (pc2 := 6) (ls2 := [some (.ref 1014), some (.int (k_of_s14_4  nn)), some (.int (nI nn))]) (st2 := [.ref 1014, .int (nI nn)]) (M2 := M) (Ps := []) (by decide +kernel) rfl rfl trivial ?_
    have t1 : GM z mJ0_length_8abf5 (d + 3) [.ref 1014] M (fun rs => rs = .inl (some (.int (nI 4)), M)) := c_slen z _ _ 14 (by decide)
    refine G.callT (as := []) (rest := [.int (nI nn)]) (i := 14) oJ0_length_8abf5 lk_EvenFindersModel_121 (by decide +kernel) rfl (by decide) rfl (Nat.le_of_ble_eq_true rfl) rfl ⟨Nat.le_of_ble_eq_true rfl, Nat.le_of_ble_eq_true rfl⟩ t1 (fun v9 N9 h2 => ?_) (fun E9 N9 h2 => by cases h2)
    cases h2
    show G z mX12_of (d + 4) 0 0 9 [some (.ref 1014), some (.int (k_of_s14_4  nn)), some (.int (nI nn))] [.int (nI 4), .int (nI nn)] M Q
    refine G.ic_ge (off := (22)) (tgt := 31) (by decide +kernel) rfl (fun _ => ?_) (fun h9 => absurd (nI_le (by omega) (by omega)) h9)
    refine G.loc (ls2 := [none, some (.int (k_of_s14_4  nn)), none]) (by simp [subL]) ?_
    exact hX
  · skip
    intro i2 hi ih
    show G z mX12_of (d + 4) 0 0 4 [some (.ref 1014), some (.int (k_of_s14_4  i2)), some (.int (nI i2))] [] M Q
    refine G.sl [(.iload_n 2, 1, 2, 0, 0, 0), (.aload_n 0, 1, 0, 0, 0, 0)] [] (pc2 := 6) (ls2 := [some (.ref 1014), some (.int (k_of_s14_4  i2)), some (.int (nI i2))]) (st2 := [.ref 1014, .int (nI i2)]) (M2 := M) (Ps := []) (by decide +kernel) rfl rfl trivial ?_
    have t3 : GM z mJ0_length_8abf5 (d + 3) [.ref 1014] M (fun rs => rs = .inl (some (.int (nI 4)), M)) := c_slen z _ _ 14 (by decide)
    refine G.callT (as := []) (rest := [.int (nI i2)]) (i := 14) oJ0_length_8abf5 lk_EvenFindersModel_121 (by decide +kernel) rfl (by decide) rfl (Nat.le_of_ble_eq_true rfl) rfl ⟨Nat.le_of_ble_eq_true rfl, Nat.le_of_ble_eq_true rfl⟩ t3 (fun v9 N9 h4 => ?_) (fun E9 N9 h4 => by cases h4)
    cases h4
    show G z mX12_of (d + 4) 0 0 9 [some (.ref 1014), some (.int (k_of_s14_4  i2)), some (.int (nI i2))] [.int (nI 4), .int (nI i2)] M Q
    refine G.ic_ge (off := (22)) (tgt := 31) (by decide +kernel) rfl (fun h9 => absurd h9 (nI_ge (by omega) (by omega))) (fun _ => ?_)
    refine G.sl [(.iload_n 1, 1, 1, 0, 0, 0), (.iconst 5, 1, 0, 0, 0, nI 5), (.ishl, 1, 0, 0, 0, 0), (.aload_n 0, 1, 0, 0, 0, 0), (.iload_n 2, 1, 2, 0, 0, 0)] [] (pc2 := 17) (ls2 := [some (.ref 1014), some (.int (k_of_s14_4  i2)), some (.int (nI i2))]) (st2 := [.int (nI i2), .ref 1014, .int ((k_of_s14_4  i2) <<< ((nI 5) &&& 31))]) (M2 := M) (Ps := []) (by decide +kernel) rfl rfl trivial ?_
    have t5 : GM z mJ0_charAt_5068e (d + 3) [.ref 1014, .int (nI i2)] M (fun rs => rs = .inl (some (.int (sby 14 i2)), M)) := c_charAt z _ _ 14 i2 (by decide) (show i2 < 4 from (by omega))
    refine G.callT (as := [.int (nI i2)]) (rest := [.int ((k_of_s14_4  i2) <<< ((nI 5) &&& 31))]) (i := 14) oJ0_charAt_5068e lk_EvenFindersModel_126 (by decide +kernel) rfl (by decide) rfl (Nat.le_of_ble_eq_true rfl) rfl ⟨Nat.le_of_ble_eq_true rfl, Nat.le_of_ble_eq_true rfl⟩ t5 (fun v9 N9 h6 => ?_) (fun E9 N9 h6 => by cases h6)
    cases h6
    show G z mX12_of (d + 4) 0 0 20 [some (.ref 1014), some (.int (k_of_s14_4  i2)), some (.int (nI i2))] [.int (sby 14 i2), .int ((k_of_s14_4  i2) <<< ((nI 5) &&& 31))] M Q
    refine G.sl [(.bipush 96, 2, 0, 0, 0, nI 96), (.isub, 1, 0, 0, 0, 0), (.ior, 1, 0, 0, 0, 0), (.istore_n 1, 1, 1, 0, 0, 0), (.iinc 2 1, 3, 2, 0, 0, nI 1), (.goto (-24), 3, 4, 0, 0, 0)] [] (pc2 := 4) (ls2 := [some (.ref 1014), some (.int (((k_of_s14_4  i2) <<< ((nI 5) &&& 31)) ||| ((sby 14 i2) - (nI 96)))), some (.int ((nI i2) + nI 1))]) (st2 := []) (M2 := M) (Ps := []) (by decide +kernel) rfl rfl trivial ?_
    rw [nI_add i2 1]
    simp only [k_of_s14_4] at ih
    exact ih
set_option maxHeartbeats 4000000 in
set_option maxRecDepth 3000 in
theorem c_k_of_s14 (z : Zp) (d : Nat) (M : Mem) : GM z mX12_of (d + 4) [.ref 1014] M (fun rs => rs = .inl (some (.int (k_of_s14 )), M)) := by
  refine GM.of oX12_of.1 (Nat.le_of_ble_eq_true rfl) ?_
  show G z mX12_of (d + 4) 0 0 0 [some (.ref 1014), none, none] [] M _
  obtain ⟨Q, hQ⟩ : ∃ Q : Rs → Prop, Q = (fun rs => rs = .inl (some (.int (k_of_s14 )), M)) := ⟨_, rfl⟩
  rw [← hQ]
  refine G.sl [(.iconst 0, 1, 0, 0, 0, nI 0), (.istore_n 1, 1, 1, 0, 0, 0), (.iconst 0, 1, 0, 0, 0, nI 0), (.istore_n 2, 1, 2, 0, 0, 0)] [] (pc2 := 4) (ls2 := [some (.ref 1014), some (.int (nI 0)), some (.int (nI 0))]) (st2 := []) (M2 := M) (Ps := []) (by decide +kernel) rfl rfl trivial ?_
  refine lp_k_of_s14_4 z d M Q (cN 4) (cN_eq 4) ?_
  show G z mX12_of (d + 4) 0 0 31 [none, some (.int (k_of_s14_4 (cN 4))), none] [] M Q
  refine G.sl [(.iload_n 1, 1, 1, 0, 0, 0)] [] (pc2 := 32) (ls2 := [none, some (.int (k_of_s14_4 (cN 4))), none]) (st2 := [.int (k_of_s14_4 (cN 4))]) (M2 := M) (Ps := []) (by decide +kernel) rfl rfl trivial ?_
  exact G.reti (by decide +kernel) rfl rfl (Nat.le_of_ble_eq_true rfl) (Nat.le_of_ble_eq_true rfl) ((by rw [hQ]; simp only [k_of_s14, mrow_self]))
set_option maxHeartbeats 4000000 in
set_option maxRecDepth 3000 in
theorem lp_k_of_s15_4 (z : Zp) (d : Nat) (M : Mem) (Q : Rs → Prop) (nn : Nat) (hnn : nn = 5) (hX : G z mX12_of (d + 4) 0 0 31 [none, some (.int (k_of_s15_4  nn)), none] [] M Q) : G z mX12_of (d + 4) 0 0 4 [some (.ref 1015), some (.int (nI 0)), some (.int (nI 0))] [] M Q := by
  refine down (n := nn) (P := fun i2 => G z mX12_of (d + 4) 0 0 4 [some (.ref 1015), some (.int (k_of_s15_4  i2)), some (.int (nI i2))] [] M Q) ?_ ?_ 0 (Nat.zero_le _)
  · skip
    refine G.sl [(.iload_n 2, 1, 2, 0, 0, 0), (.aload_n 0, 1, 0, 0, 0, 0)] [] (pc2 := 6) (ls2 := [some (.ref 1015), some (.int (k_of_s15_4  nn)), some (.int (nI nn))]) (st2 := [.ref 1015, .int (nI nn)]) (M2 := M) (Ps := []) (by decide +kernel) rfl rfl trivial ?_
    have t1 : GM z mJ0_length_8abf5 (d + 3) [.ref 1015] M (fun rs => rs = .inl (some (.int (nI 5)), M)) := c_slen z _ _ 15 (by decide)
    refine G.callT (as := []) (rest := [.int (nI nn)]) (i := 15) oJ0_length_8abf5 lk_EvenFindersModel_121 (by decide +kernel) rfl (by decide) rfl (Nat.le_of_ble_eq_true rfl) rfl ⟨Nat.le_of_ble_eq_true rfl, Nat.le_of_ble_eq_true rfl⟩ t1 (fun v9 N9 h2 => ?_) (fun E9 N9 h2 => by cases h2)
    cases h2
    show G z mX12_of (d + 4) 0 0 9 [some (.ref 1015), some (.int (k_of_s15_4  nn)), some (.int (nI nn))] [.int (nI 5), .int (nI nn)] M Q
    refine G.ic_ge (off := (22)) (tgt := 31) (by decide +kernel) rfl (fun _ => ?_) (fun h9 => absurd (nI_le (by omega) (by omega)) h9)
    refine G.loc (ls2 := [none, some (.int (k_of_s15_4  nn)), none]) (by simp [subL]) ?_
    exact hX
  · skip
    intro i2 hi ih
    show G z mX12_of (d + 4) 0 0 4 [some (.ref 1015), some (.int (k_of_s15_4  i2)), some (.int (nI i2))] [] M Q
    refine G.sl [(.iload_n 2, 1, 2, 0, 0, 0), (.aload_n 0, 1, 0, 0, 0, 0)] [] (pc2 := 6) (ls2 := [some (.ref 1015), some (.int (k_of_s15_4  i2)), some (.int (nI i2))]) (st2 := [.ref 1015, .int (nI i2)]) (M2 := M) (Ps := []) (by decide +kernel) rfl rfl trivial ?_
    have t3 : GM z mJ0_length_8abf5 (d + 3) [.ref 1015] M (fun rs => rs = .inl (some (.int (nI 5)), M)) := c_slen z _ _ 15 (by decide)
    refine G.callT (as := []) (rest := [.int (nI i2)]) (i := 15) oJ0_length_8abf5 lk_EvenFindersModel_121 (by decide +kernel) rfl (by decide) rfl (Nat.le_of_ble_eq_true rfl) rfl ⟨Nat.le_of_ble_eq_true rfl, Nat.le_of_ble_eq_true rfl⟩ t3 (fun v9 N9 h4 => ?_) (fun E9 N9 h4 => by cases h4)
    cases h4
    show G z mX12_of (d + 4) 0 0 9 [some (.ref 1015), some (.int (k_of_s15_4  i2)), some (.int (nI i2))] [.int (nI 5), .int (nI i2)] M Q
    refine G.ic_ge (off := (22)) (tgt := 31) (by decide +kernel) rfl (fun h9 => absurd h9 (nI_ge (by omega) (by omega))) (fun _ => ?_)
    refine G.sl [(.iload_n 1, 1, 1, 0, 0, 0), (.iconst 5, 1, 0, 0, 0, nI 5), (.ishl, 1, 0, 0, 0, 0), (.aload_n 0, 1, 0, 0, 0, 0), (.iload_n 2, 1, 2, 0, 0, 0)] [] (pc2 := 17) (ls2 := [some (.ref 1015), some (.int (k_of_s15_4  i2)), some (.int (nI i2))]) (st2 := [.int (nI i2), .ref 1015, .int ((k_of_s15_4  i2) <<< ((nI 5) &&& 31))]) (M2 := M) (Ps := []) (by decide +kernel) rfl rfl trivial ?_
    have t5 : GM z mJ0_charAt_5068e (d + 3) [.ref 1015, .int (nI i2)] M (fun rs => rs = .inl (some (.int (sby 15 i2)), M)) := c_charAt z _ _ 15 i2 (by decide) (show i2 < 5 from (by omega))
    refine G.callT (as := [.int (nI i2)]) (rest := [.int ((k_of_s15_4  i2) <<< ((nI 5) &&& 31))]) (i := 15) oJ0_charAt_5068e lk_EvenFindersModel_126 (by decide +kernel) rfl (by decide) rfl (Nat.le_of_ble_eq_true rfl) rfl ⟨Nat.le_of_ble_eq_true rfl, Nat.le_of_ble_eq_true rfl⟩ t5 (fun v9 N9 h6 => ?_) (fun E9 N9 h6 => by cases h6)
    cases h6
    show G z mX12_of (d + 4) 0 0 20 [some (.ref 1015), some (.int (k_of_s15_4  i2)), some (.int (nI i2))] [.int (sby 15 i2), .int ((k_of_s15_4  i2) <<< ((nI 5) &&& 31))] M Q
    refine G.sl [(.bipush 96, 2, 0, 0, 0, nI 96), (.isub, 1, 0, 0, 0, 0), (.ior, 1, 0, 0, 0, 0), (.istore_n 1, 1, 1, 0, 0, 0), (.iinc 2 1, 3, 2, 0, 0, nI 1), (.goto (-24), 3, 4, 0, 0, 0)] [] (pc2 := 4) (ls2 := [some (.ref 1015), some (.int (((k_of_s15_4  i2) <<< ((nI 5) &&& 31)) ||| ((sby 15 i2) - (nI 96)))), some (.int ((nI i2) + nI 1))]) (st2 := []) (M2 := M) (Ps := []) (by decide +kernel) rfl rfl trivial ?_
    rw [nI_add i2 1]
    simp only [k_of_s15_4] at ih
    exact ih
set_option maxHeartbeats 4000000 in
set_option maxRecDepth 3000 in
theorem c_k_of_s15 (z : Zp) (d : Nat) (M : Mem) : GM z mX12_of (d + 4) [.ref 1015] M (fun rs => rs = .inl (some (.int (k_of_s15 )), M)) := by
  refine GM.of oX12_of.1 (Nat.le_of_ble_eq_true rfl) ?_
  show G z mX12_of (d + 4) 0 0 0 [some (.ref 1015), none, none] [] M _
  obtain ⟨Q, hQ⟩ : ∃ Q : Rs → Prop, Q = (fun rs => rs = .inl (some (.int (k_of_s15 )), M)) := ⟨_, rfl⟩
  rw [← hQ]
  refine G.sl [(.iconst 0, 1, 0, 0, 0, nI 0), (.istore_n 1, 1, 1, 0, 0, 0), (.iconst 0, 1, 0, 0, 0, nI 0), (.istore_n 2, 1, 2, 0, 0, 0)] [] (pc2 := 4) (ls2 := [some (.ref 1015), some (.int (nI 0)), some (.int (nI 0))]) (st2 := []) (M2 := M) (Ps := []) (by decide +kernel) rfl rfl trivial ?_
  refine lp_k_of_s15_4 z d M Q (cN 5) (cN_eq 5) ?_
  show G z mX12_of (d + 4) 0 0 31 [none, some (.int (k_of_s15_4 (cN 5))), none] [] M Q
  refine G.sl [(.iload_n 1, 1, 1, 0, 0, 0)] [] (pc2 := 32) (ls2 := [none, some (.int (k_of_s15_4 (cN 5))), none]) (st2 := [.int (k_of_s15_4 (cN 5))]) (M2 := M) (Ps := []) (by decide +kernel) rfl rfl trivial ?_
  exact G.reti (by decide +kernel) rfl rfl (Nat.le_of_ble_eq_true rfl) (Nat.le_of_ble_eq_true rfl) ((by rw [hQ]; simp only [k_of_s15, mrow_self]))
set_option maxHeartbeats 4000000 in
set_option maxRecDepth 3000 in
theorem lp_k_of_s16_4 (z : Zp) (d : Nat) (M : Mem) (Q : Rs → Prop) (nn : Nat) (hnn : nn = 5) (hX : G z mX12_of (d + 4) 0 0 31 [none, some (.int (k_of_s16_4  nn)), none] [] M Q) : G z mX12_of (d + 4) 0 0 4 [some (.ref 1016), some (.int (nI 0)), some (.int (nI 0))] [] M Q := by
  refine down (n := nn) (P := fun i2 => G z mX12_of (d + 4) 0 0 4 [some (.ref 1016), some (.int (k_of_s16_4  i2)), some (.int (nI i2))] [] M Q) ?_ ?_ 0 (Nat.zero_le _)
  · skip
    refine G.sl [(.iload_n 2, 1, 2, 0, 0, 0), (.aload_n 0, 1, 0, 0, 0, 0)] [] (pc2 := 6) (ls2 := [some (.ref 1016), some (.int (k_of_s16_4  nn)), some (.int (nI nn))]) (st2 := [.ref 1016, .int (nI nn)]) (M2 := M) (Ps := []) (by decide +kernel) rfl rfl trivial ?_
    have t1 : GM z mJ0_length_8abf5 (d + 3) [.ref 1016] M (fun rs => rs = .inl (some (.int (nI 5)), M)) := c_slen z _ _ 16 (by decide)
    refine G.callT (as := []) (rest := [.int (nI nn)]) (i := 16) oJ0_length_8abf5 lk_EvenFindersModel_121 (by decide +kernel) rfl (by decide) rfl (Nat.le_of_ble_eq_true rfl) rfl ⟨Nat.le_of_ble_eq_true rfl, Nat.le_of_ble_eq_true rfl⟩ t1 (fun v9 N9 h2 => ?_) (fun E9 N9 h2 => by cases h2)
    cases h2
    show G z mX12_of (d + 4) 0 0 9 [some (.ref 1016), some (.int (k_of_s16_4  nn)), some (.int (nI nn))] [.int (nI 5), .int (nI nn)] M Q
    refine G.ic_ge (off := (22)) (tgt := 31) (by decide +kernel) rfl (fun _ => ?_) (fun h9 => absurd (nI_le (by omega) (by omega)) h9)
    refine G.loc (ls2 := [none, some (.int (k_of_s16_4  nn)), none]) (by simp [subL]) ?_
    exact hX
  · skip
    intro i2 hi ih
    show G z mX12_of (d + 4) 0 0 4 [some (.ref 1016), some (.int (k_of_s16_4  i2)), some (.int (nI i2))] [] M Q
    refine G.sl [(.iload_n 2, 1, 2, 0, 0, 0), (.aload_n 0, 1, 0, 0, 0, 0)] [] (pc2 := 6) (ls2 := [some (.ref 1016), some (.int (k_of_s16_4  i2)), some (.int (nI i2))]) (st2 := [.ref 1016, .int (nI i2)]) (M2 := M) (Ps := []) (by decide +kernel) rfl rfl trivial ?_
    have t3 : GM z mJ0_length_8abf5 (d + 3) [.ref 1016] M (fun rs => rs = .inl (some (.int (nI 5)), M)) := c_slen z _ _ 16 (by decide)
    refine G.callT (as := []) (rest := [.int (nI i2)]) (i := 16) oJ0_length_8abf5 lk_EvenFindersModel_121 (by decide +kernel) rfl (by decide) rfl (Nat.le_of_ble_eq_true rfl) rfl ⟨Nat.le_of_ble_eq_true rfl, Nat.le_of_ble_eq_true rfl⟩ t3 (fun v9 N9 h4 => ?_) (fun E9 N9 h4 => by cases h4)
    cases h4
    show G z mX12_of (d + 4) 0 0 9 [some (.ref 1016), some (.int (k_of_s16_4  i2)), some (.int (nI i2))] [.int (nI 5), .int (nI i2)] M Q
    refine G.ic_ge (off := (22)) (tgt := 31) (by decide +kernel) rfl (fun h9 => absurd h9 (nI_ge (by omega) (by omega))) (fun _ => ?_)
    refine G.sl [(.iload_n 1, 1, 1, 0, 0, 0), (.iconst 5, 1, 0, 0, 0, nI 5), (.ishl, 1, 0, 0, 0, 0), (.aload_n 0, 1, 0, 0, 0, 0), (.iload_n 2, 1, 2, 0, 0, 0)] [] (pc2 := 17) (ls2 := [some (.ref 1016), some (.int (k_of_s16_4  i2)), some (.int (nI i2))]) (st2 := [.int (nI i2), .ref 1016, .int ((k_of_s16_4  i2) <<< ((nI 5) &&& 31))]) (M2 := M) (Ps := []) (by decide +kernel) rfl rfl trivial ?_
    have t5 : GM z mJ0_charAt_5068e (d + 3) [.ref 1016, .int (nI i2)] M (fun rs => rs = .inl (some (.int (sby 16 i2)), M)) := c_charAt z _ _ 16 i2 (by decide) (show i2 < 5 from (by omega))
    refine G.callT (as := [.int (nI i2)]) (rest := [.int ((k_of_s16_4  i2) <<< ((nI 5) &&& 31))]) (i := 16) oJ0_charAt_5068e lk_EvenFindersModel_126 (by decide +kernel) rfl (by decide) rfl (Nat.le_of_ble_eq_true rfl) rfl ⟨Nat.le_of_ble_eq_true rfl, Nat.le_of_ble_eq_true rfl⟩ t5 (fun v9 N9 h6 => ?_) (fun E9 N9 h6 => by cases h6)
    cases h6
    show G z mX12_of (d + 4) 0 0 20 [some (.ref 1016), some (.int (k_of_s16_4  i2)), some (.int (nI i2))] [.int (sby 16 i2), .int ((k_of_s16_4  i2) <<< ((nI 5) &&& 31))] M Q
    refine G.sl [(.bipush 96, 2, 0, 0, 0, nI 96), (.isub, 1, 0, 0, 0, 0), (.ior, 1, 0, 0, 0, 0), (.istore_n 1, 1, 1, 0, 0, 0), (.iinc 2 1, 3, 2, 0, 0, nI 1), (.goto (-24), 3, 4, 0, 0, 0)] [] (pc2 := 4) (ls2 := [some (.ref 1016), some (.int (((k_of_s16_4  i2) <<< ((nI 5) &&& 31)) ||| ((sby 16 i2) - (nI 96)))), some (.int ((nI i2) + nI 1))]) (st2 := []) (M2 := M) (Ps := []) (by decide +kernel) rfl rfl trivial ?_
    rw [nI_add i2 1]
    simp only [k_of_s16_4] at ih
    exact ih
set_option maxHeartbeats 4000000 in
set_option maxRecDepth 3000 in
theorem c_k_of_s16 (z : Zp) (d : Nat) (M : Mem) : GM z mX12_of (d + 4) [.ref 1016] M (fun rs => rs = .inl (some (.int (k_of_s16 )), M)) := by
  refine GM.of oX12_of.1 (Nat.le_of_ble_eq_true rfl) ?_
  show G z mX12_of (d + 4) 0 0 0 [some (.ref 1016), none, none] [] M _
  obtain ⟨Q, hQ⟩ : ∃ Q : Rs → Prop, Q = (fun rs => rs = .inl (some (.int (k_of_s16 )), M)) := ⟨_, rfl⟩
  rw [← hQ]
  refine G.sl [(.iconst 0, 1, 0, 0, 0, nI 0), (.istore_n 1, 1, 1, 0, 0, 0), (.iconst 0, 1, 0, 0, 0, nI 0), (.istore_n 2, 1, 2, 0, 0, 0)] [] (pc2 := 4) (ls2 := [some (.ref 1016), some (.int (nI 0)), some (.int (nI 0))]) (st2 := []) (M2 := M) (Ps := []) (by decide +kernel) rfl rfl trivial ?_
  refine lp_k_of_s16_4 z d M Q (cN 5) (cN_eq 5) ?_
  show G z mX12_of (d + 4) 0 0 31 [none, some (.int (k_of_s16_4 (cN 5))), none] [] M Q
  refine G.sl [(.iload_n 1, 1, 1, 0, 0, 0)] [] (pc2 := 32) (ls2 := [none, some (.int (k_of_s16_4 (cN 5))), none]) (st2 := [.int (k_of_s16_4 (cN 5))]) (M2 := M) (Ps := []) (by decide +kernel) rfl rfl trivial ?_
  exact G.reti (by decide +kernel) rfl rfl (Nat.le_of_ble_eq_true rfl) (Nat.le_of_ble_eq_true rfl) ((by rw [hQ]; simp only [k_of_s16, mrow_self]))
set_option maxHeartbeats 4000000 in
set_option maxRecDepth 3000 in
theorem lp_k_of_s17_4 (z : Zp) (d : Nat) (M : Mem) (Q : Rs → Prop) (nn : Nat) (hnn : nn = 3) (hX : G z mX12_of (d + 4) 0 0 31 [none, some (.int (k_of_s17_4  nn)), none] [] M Q) : G z mX12_of (d + 4) 0 0 4 [some (.ref 1017), some (.int (nI 0)), some (.int (nI 0))] [] M Q := by
  refine down (n := nn) (P := fun i2 => G z mX12_of (d + 4) 0 0 4 [some (.ref 1017), some (.int (k_of_s17_4  i2)), some (.int (nI i2))] [] M Q) ?_ ?_ 0 (Nat.zero_le _)
  · skip
    refine G.sl [(.iload_n 2, 1, 2, 0, 0, 0), (.aload_n 0, 1, 0, 0, 0, 0)] [] (pc2 := 6) (ls2 := [some (.ref 1017), some (.int (k_of_s17_4  nn)), some (.int (nI nn))]) (st2 := [.ref 1017, .int (nI nn)]) (M2 := M) (Ps := []) (by decide +kernel) rfl rfl trivial ?_
    have t1 : GM z mJ0_length_8abf5 (d + 3) [.ref 1017] M (fun rs => rs = .inl (some (.int (nI 3)), M)) := c_slen z _ _ 17 (by decide)
    refine G.callT (as := []) (rest := [.int (nI nn)]) (i := 17) oJ0_length_8abf5 lk_EvenFindersModel_121 (by decide +kernel) rfl (by decide) rfl (Nat.le_of_ble_eq_true rfl) rfl ⟨Nat.le_of_ble_eq_true rfl, Nat.le_of_ble_eq_true rfl⟩ t1 (fun v9 N9 h2 => ?_) (fun E9 N9 h2 => by cases h2)
    cases h2
    show G z mX12_of (d + 4) 0 0 9 [some (.ref 1017), some (.int (k_of_s17_4  nn)), some (.int (nI nn))] [.int (nI 3), .int (nI nn)] M Q
    refine G.ic_ge (off := (22)) (tgt := 31) (by decide +kernel) rfl (fun _ => ?_) (fun h9 => absurd (nI_le (by omega) (by omega)) h9)
    refine G.loc (ls2 := [none, some (.int (k_of_s17_4  nn)), none]) (by simp [subL]) ?_
    exact hX
  · skip
    intro i2 hi ih
    show G z mX12_of (d + 4) 0 0 4 [some (.ref 1017), some (.int (k_of_s17_4  i2)), some (.int (nI i2))] [] M Q
    refine G.sl [(.iload_n 2, 1, 2, 0, 0, 0), (.aload_n 0, 1, 0, 0, 0, 0)] [] (pc2 := 6) (ls2 := [some (.ref 1017), some (.int (k_of_s17_4  i2)), some (.int (nI i2))]) (st2 := [.ref 1017, .int (nI i2)]) (M2 := M) (Ps := []) (by decide +kernel) rfl rfl trivial ?_
    have t3 : GM z mJ0_length_8abf5 (d + 3) [.ref 1017] M (fun rs => rs = .inl (some (.int (nI 3)), M)) := c_slen z _ _ 17 (by decide)
    refine G.callT (as := []) (rest := [.int (nI i2)]) (i := 17) oJ0_length_8abf5 lk_EvenFindersModel_121 (by decide +kernel) rfl (by decide) rfl (Nat.le_of_ble_eq_true rfl) rfl ⟨Nat.le_of_ble_eq_true rfl, Nat.le_of_ble_eq_true rfl⟩ t3 (fun v9 N9 h4 => ?_) (fun E9 N9 h4 => by cases h4)
    cases h4
    show G z mX12_of (d + 4) 0 0 9 [some (.ref 1017), some (.int (k_of_s17_4  i2)), some (.int (nI i2))] [.int (nI 3), .int (nI i2)] M Q
    refine G.ic_ge (off := (22)) (tgt := 31) (by decide +kernel) rfl (fun h9 => absurd h9 (nI_ge (by omega) (by omega))) (fun _ => ?_)
    refine G.sl [(.iload_n 1, 1, 1, 0, 0, 0), (.iconst 5, 1, 0, 0, 0, nI 5), (.ishl, 1, 0, 0, 0, 0), (.aload_n 0, 1, 0, 0, 0, 0), (.iload_n 2, 1, 2, 0, 0, 0)] [] (pc2 := 17) (ls2 := [some (.ref 1017), some (.int (k_of_s17_4  i2)), some (.int (nI i2))]) (st2 := [.int (nI i2), .ref 1017, .int ((k_of_s17_4  i2) <<< ((nI 5) &&& 31))]) (M2 := M) (Ps := []) (by decide +kernel) rfl rfl trivial ?_
    have t5 : GM z mJ0_charAt_5068e (d + 3) [.ref 1017, .int (nI i2)] M (fun rs => rs = .inl (some (.int (sby 17 i2)), M)) := c_charAt z _ _ 17 i2 (by decide) (show i2 < 3 from (by omega))
    refine G.callT (as := [.int (nI i2)]) (rest := [.int ((k_of_s17_4  i2) <<< ((nI 5) &&& 31))]) (i := 17) oJ0_charAt_5068e lk_EvenFindersModel_126 (by decide +kernel) rfl (by decide) rfl (Nat.le_of_ble_eq_true rfl) rfl ⟨Nat.le_of_ble_eq_true rfl, Nat.le_of_ble_eq_true rfl⟩ t5 (fun v9 N9 h6 => ?_) (fun E9 N9 h6 => by cases h6)
    cases h6
    show G z mX12_of (d + 4) 0 0 20 [some (.ref 1017), some (.int (k_of_s17_4  i2)), some (.int (nI i2))] [.int (sby 17 i2), .int ((k_of_s17_4  i2) <<< ((nI 5) &&& 31))] M Q
    refine G.sl [(.bipush 96, 2, 0, 0, 0, nI 96), (.isub, 1, 0, 0, 0, 0), (.ior, 1, 0, 0, 0, 0), (.istore_n 1, 1, 1, 0, 0, 0), (.iinc 2 1, 3, 2, 0, 0, nI 1), (.goto (-24), 3, 4, 0, 0, 0)] [] (pc2 := 4) (ls2 := [some (.ref 1017), some (.int (((k_of_s17_4  i2) <<< ((nI 5) &&& 31)) ||| ((sby 17 i2) - (nI 96)))), some (.int ((nI i2) + nI 1))]) (st2 := []) (M2 := M) (Ps := []) (by decide +kernel) rfl rfl trivial ?_
    rw [nI_add i2 1]
    simp only [k_of_s17_4] at ih
    exact ih
set_option maxHeartbeats 4000000 in
set_option maxRecDepth 3000 in
theorem c_k_of_s17 (z : Zp) (d : Nat) (M : Mem) : GM z mX12_of (d + 4) [.ref 1017] M (fun rs => rs = .inl (some (.int (k_of_s17 )), M)) := by
  refine GM.of oX12_of.1 (Nat.le_of_ble_eq_true rfl) ?_
  show G z mX12_of (d + 4) 0 0 0 [some (.ref 1017), none, none] [] M _
  obtain ⟨Q, hQ⟩ : ∃ Q : Rs → Prop, Q = (fun rs => rs = .inl (some (.int (k_of_s17 )), M)) := ⟨_, rfl⟩
  rw [← hQ]
  refine G.sl [(.iconst 0, 1, 0, 0, 0, nI 0), (.istore_n 1, 1, 1, 0, 0, 0), (.iconst 0, 1, 0, 0, 0, nI 0), (.istore_n 2, 1, 2, 0, 0, 0)] [] (pc2 := 4) (ls2 := [some (.ref 1017), some (.int (nI 0)), some (.int (nI 0))]) (st2 := []) (M2 := M) (Ps := []) (by decide +kernel) rfl rfl trivial ?_
  refine lp_k_of_s17_4 z d M Q (cN 3) (cN_eq 3) ?_
  show G z mX12_of (d + 4) 0 0 31 [none, some (.int (k_of_s17_4 (cN 3))), none] [] M Q
  refine G.sl [(.iload_n 1, 1, 1, 0, 0, 0)] [] (pc2 := 32) (ls2 := [none, some (.int (k_of_s17_4 (cN 3))), none]) (st2 := [.int (k_of_s17_4 (cN 3))]) (M2 := M) (Ps := []) (by decide +kernel) rfl rfl trivial ?_
  exact G.reti (by decide +kernel) rfl rfl (Nat.le_of_ble_eq_true rfl) (Nat.le_of_ble_eq_true rfl) ((by rw [hQ]; simp only [k_of_s17, mrow_self]))
set_option maxHeartbeats 4000000 in
set_option maxRecDepth 3000 in
theorem lp_k_of_s18_4 (z : Zp) (d : Nat) (M : Mem) (Q : Rs → Prop) (nn : Nat) (hnn : nn = 5) (hX : G z mX12_of (d + 4) 0 0 31 [none, some (.int (k_of_s18_4  nn)), none] [] M Q) : G z mX12_of (d + 4) 0 0 4 [some (.ref 1018), some (.int (nI 0)), some (.int (nI 0))] [] M Q := by
  refine down (n := nn) (P := fun i2 => G z mX12_of (d + 4) 0 0 4 [some (.ref 1018), some (.int (k_of_s18_4  i2)), some (.int (nI i2))] [] M Q) ?_ ?_ 0 (Nat.zero_le _)
  · skip
    refine G.sl [(.iload_n 2, 1, 2, 0, 0, 0), (.aload_n 0, 1, 0, 0, 0, 0)] [] (pc2 := 6) (ls2 := [some (.ref 1018), some (.int (k_of_s18_4  nn)), some (.int (nI nn))]) (st2 := [.ref 1018, .int (nI nn)]) (M2 := M) (Ps := []) (by decide +kernel) rfl rfl trivial ?_
    have t1 : GM z mJ0_length_8abf5 (d + 3) [.ref 1018] M (fun rs => rs = .inl (some (.int (nI 5)), M)) := c_slen z _ _ 18 (by decide)
    refine G.callT (as := []) (rest := [.int (nI nn)]) (i := 18) oJ0_length_8abf5 lk_EvenFindersModel_121 (by decide +kernel) rfl (by decide) rfl (Nat.le_of_ble_eq_true rfl) rfl ⟨Nat.le_of_ble_eq_true rfl, Nat.le_of_ble_eq_true rfl⟩ t1 (fun v9 N9 h2 => ?_) (fun E9 N9 h2 => by cases h2)
    cases h2
    show G z mX12_of (d + 4) 0 0 9 [some (.ref 1018), some (.int (k_of_s18_4  nn)), some (.int (nI nn))] [.int (nI 5), .int (nI nn)] M Q
    refine G.ic_ge (off := (22)) (tgt := 31) (by decide +kernel) rfl (fun _ => ?_) (fun h9 => absurd (nI_le (by omega) (by omega)) h9)
    refine G.loc (ls2 := [none, some (.int (k_of_s18_4  nn)), none]) (by simp [subL]) ?_
    exact hX
  · skip
    intro i2 hi ih
    show G z mX12_of (d + 4) 0 0 4 [some (.ref 1018), some (.int (k_of_s18_4  i2)), some (.int (nI i2))] [] M Q
    refine G.sl [(.iload_n 2, 1, 2, 0, 0, 0), (.aload_n 0, 1, 0, 0, 0, 0)] [] (pc2 := 6) (ls2 := [some (.ref 1018), some (.int (k_of_s18_4  i2)), some (.int (nI i2))]) (st2 := [.ref 1018, .int (nI i2)]) (M2 := M) (Ps := []) (by decide +kernel) rfl rfl trivial ?_
    have t3 : GM z mJ0_length_8abf5 (d + 3) [.ref 1018] M (fun rs => rs = .inl (some (.int (nI 5)), M)) := c_slen z _ _ 18 (by decide)
    refine G.callT (as := []) (rest := [.int (nI i2)]) (i := 18) oJ0_length_8abf5 lk_EvenFindersModel_121 (by decide +kernel) rfl (by decide) rfl (Nat.le_of_ble_eq_true rfl) rfl ⟨Nat.le_of_ble_eq_true rfl, Nat.le_of_ble_eq_true rfl⟩ t3 (fun v9 N9 h4 => ?_) (fun E9 N9 h4 => by cases h4)
    cases h4
    show G z mX12_of (d + 4) 0 0 9 [some (.ref 1018), some (.int (k_of_s18_4  i2)), some (.int (nI i2))] [.int (nI 5), .int (nI i2)] M Q
    refine G.ic_ge (off := (22)) (tgt := 31) (by decide +kernel) rfl (fun h9 => absurd h9 (nI_ge (by omega) (by omega))) (fun _ => ?_)
    refine G.sl [(.iload_n 1, 1, 1, 0, 0, 0), (.iconst 5, 1, 0, 0, 0, nI 5), (.ishl, 1, 0, 0, 0, 0), (.aload_n 0, 1, 0, 0, 0, 0), (.iload_n 2, 1, 2, 0, 0, 0)] [] (pc2 := 17) (ls2 := [some (.ref 1018), some (.int (k_of_s18_4  i2)), some (.int (nI i2))]) (st2 := [.int (nI i2), .ref 1018, .int ((k_of_s18_4  i2) <<< ((nI 5) &&& 31))]) (M2 := M) (Ps := []) (by decide +kernel) rfl rfl trivial ?_
    have t5 : GM z mJ0_charAt_5068e (d + 3) [.ref 1018, .int (nI i2)] M (fun rs => rs = .inl (some (.int (sby 18 i2)), M)) := c_charAt z _ _ 18 i2 (by decide) (show i2 < 5 from (by omega))
    refine G.callT (as := [.int (nI i2)]) (rest := [.int ((k_of_s18_4  i2) <<< ((nI 5) &&& 31))]) (i := 18) oJ0_charAt_5068e lk_EvenFindersModel_126 (by decide +kernel) rfl (by decide) rfl (Nat.le_of_ble_eq_true rfl) rfl ⟨Nat.le_of_ble_eq_true rfl, Nat.le_of_ble_eq_true rfl⟩ t5 (fun v9 N9 h6 => ?_) (fun E9 N9 h6 => by cases h6)
    cases h6
    show G z mX12_of (d + 4) 0 0 20 [some (.ref 1018), some (.int (k_of_s18_4  i2)), some (.int (nI i2))] [.int (sby 18 i2), .int ((k_of_s18_4  i2) <<< ((nI 5) &&& 31))] M Q
    refine G.sl [(.bipush 96, 2, 0, 0, 0, nI 96), (.isub, 1, 0, 0, 0, 0), (.ior, 1, 0, 0, 0, 0), (.istore_n 1, 1, 1, 0, 0, 0), (.iinc 2 1, 3, 2, 0, 0, nI 1), (.goto (-24), 3, 4, 0, 0, 0)] [] (pc2 := 4) (ls2 := [some (.ref 1018), some (.int (((k_of_s18_4  i2) <<< ((nI 5) &&& 31)) ||| ((sby 18 i2) - (nI 96)))), some (.int ((nI i2) + nI 1))]) (st2 := []) (M2 := M) (Ps := []) (by decide +kernel) rfl rfl trivial ?_
    rw [nI_add i2 1]
    simp only [k_of_s18_4] at ih
    exact ih
set_option maxHeartbeats 4000000 in
set_option maxRecDepth 3000 in
theorem c_k_of_s18 (z : Zp) (d : Nat) (M : Mem) : GM z mX12_of (d + 4) [.ref 1018] M (fun rs => rs = .inl (some (.int (k_of_s18 )), M)) := by
  refine GM.of oX12_of.1 (Nat.le_of_ble_eq_true rfl) ?_
  show G z mX12_of (d + 4) 0 0 0 [some (.ref 1018), none, none] [] M _
  obtain ⟨Q, hQ⟩ : ∃ Q : Rs → Prop, Q = (fun rs => rs = .inl (some (.int (k_of_s18 )), M)) := ⟨_, rfl⟩
  rw [← hQ]
  refine G.sl [(.iconst 0, 1, 0, 0, 0, nI 0), (.istore_n 1, 1, 1, 0, 0, 0), (.iconst 0, 1, 0, 0, 0, nI 0), (.istore_n 2, 1, 2, 0, 0, 0)] [] (pc2 := 4) (ls2 := [some (.ref 1018), some (.int (nI 0)), some (.int (nI 0))]) (st2 := []) (M2 := M) (Ps := []) (by decide +kernel) rfl rfl trivial ?_
  refine lp_k_of_s18_4 z d M Q (cN 5) (cN_eq 5) ?_
  show G z mX12_of (d + 4) 0 0 31 [none, some (.int (k_of_s18_4 (cN 5))), none] [] M Q
  refine G.sl [(.iload_n 1, 1, 1, 0, 0, 0)] [] (pc2 := 32) (ls2 := [none, some (.int (k_of_s18_4 (cN 5))), none]) (st2 := [.int (k_of_s18_4 (cN 5))]) (M2 := M) (Ps := []) (by decide +kernel) rfl rfl trivial ?_
  exact G.reti (by decide +kernel) rfl rfl (Nat.le_of_ble_eq_true rfl) (Nat.le_of_ble_eq_true rfl) ((by rw [hQ]; simp only [k_of_s18, mrow_self]))
set_option maxHeartbeats 4000000 in
set_option maxRecDepth 3000 in
theorem c_k_factHere_54 (z : Zp) (d : Nat) (M : Mem) (hk : k_factHere_ok (M.1 54) (M.1 56)) : GM z mX12_factHere (d + 5) [.ref 54] M (fun rs => rs = .inl (some (.int ((k_factHere (M.1 54) (M.1 56)).1)), mrow M 54 ((k_factHere (M.1 54) (M.1 56)).2))) := by
  simp only [k_factHere_ok] at hk
  refine GM.of oX12_factHere.1 (Nat.le_of_ble_eq_true rfl) ?_
  show G z mX12_factHere (d + 5) 0 0 0 [some (.ref 54), none] [] M _
  obtain ⟨Q, hQ⟩ : ∃ Q : Rs → Prop, Q = (fun rs => rs = .inl (some (.int ((k_factHere (M.1 54) (M.1 56)).1)), mrow M 54 ((k_factHere (M.1 54) (M.1 56)).2))) := ⟨_, rfl⟩
  rw [← hQ]
  refine G.sl [(.aload_n 0, 1, 0, 0, 0, 0)] [] (pc2 := 1) (ls2 := [some (.ref 54), none]) (st2 := [.ref 54]) (M2 := M) (Ps := []) (by decide +kernel) rfl rfl trivial ?_
  obtain ⟨k1, hk⟩ := hk
  rcases g2 : k_word (M.1 54) (M.1 56) with ⟨v3, r4⟩
  have t5 : GM z mX12_word (d + 4) [.ref 54] M (fun rs => rs = .inl (some (.int v3), mrow M 54 r4)) := by
    have q9 := c_k_word_54 z (d + 3) M k1
    try simp only [mput, mrow_same, mrow_hit, mrow_miss, mrow_sw, idr_eq, ne_eq, Nat.reduceEqDiff, not_false_eq_true, Nat.reduceLT, reduceCtorEq, g2] at q9
    exact q9
  refine G.callV (as := []) (rest := []) (a := 54) oX12_word lk_EvenFindersModel_224 (by decide +kernel) rfl rfl ⟨rfl, rfl⟩ (Nat.le_of_ble_eq_true rfl) rfl ⟨Nat.le_of_ble_eq_true rfl, Nat.le_of_ble_eq_true rfl⟩ t5 (fun v9 N9 h6 => ?_) (fun E9 N9 h6 => by cases h6)
  cases h6
  show G z mX12_factHere (d + 5) 0 0 4 [some (.ref 54), none] [.int v3] (mrow M 54 r4) Q
  refine G.sl [(.istore_n 1, 1, 1, 0, 0, 0), (.iload_n 1, 1, 1, 0, 0, 0), (.ldc_w 264, 3, 1, 12, 0, 0)] [] (pc2 := 9) (ls2 := [some (.ref 54), some (.int v3)]) (st2 := [.ref 1012, .int v3]) (M2 := mrow M 54 r4) (Ps := []) (by decide +kernel) rfl rfl trivial ?_
  have t8 : GM z mX12_of (d + 4) [.ref 1012] (mrow M 54 r4) (fun rs => rs = .inl (some (.int k_of_s12), mrow M 54 r4)) := by
    have q9 := c_k_of_s12 z d (mrow M 54 r4) 
    try simp only [mput, mrow_same, mrow_hit, mrow_miss, mrow_sw, idr_eq, ne_eq, Nat.reduceEqDiff, not_false_eq_true, Nat.reduceLT, reduceCtorEq] at q9
    exact q9
  refine G.callS (as := [.ref 1012]) (rest := [.int v3]) oX12_of lk_EvenFindersModel_198 (by decide +kernel) rfl (Nat.le_of_ble_eq_true rfl) rfl ⟨Nat.le_of_ble_eq_true rfl, Nat.le_of_ble_eq_true rfl⟩ t8 (fun v9 N9 h9 => ?_) (fun E9 N9 h9 => by cases h9)
  cases h9
  show G z mX12_factHere (d + 5) 0 0 12 [some (.ref 54), some (.int v3)] [.int k_of_s12, .int v3] (mrow M 54 r4) Q
  refine G.ic_ne (off := (7)) (tgt := 19) (by decide +kernel) rfl (fun c10 => ?_) (fun c10 => ?_)
  · skip
    refine G.sl [(.iload_n 1, 1, 1, 0, 0, 0), (.ldc_w 266, 3, 1, 13, 0, 0)] [] (pc2 := 23) (ls2 := [some (.ref 54), some (.int v3)]) (st2 := [.ref 1013, .int v3]) (M2 := mrow M 54 r4) (Ps := []) (by decide +kernel) rfl rfl trivial ?_
    have t12 : GM z mX12_of (d + 4) [.ref 1013] (mrow M 54 r4) (fun rs => rs = .inl (some (.int k_of_s13), mrow M 54 r4)) := by
      have q9 := c_k_of_s13 z d (mrow M 54 r4) 
      try simp only [mput, mrow_same, mrow_hit, mrow_miss, mrow_sw, idr_eq, ne_eq, Nat.reduceEqDiff, not_false_eq_true, Nat.reduceLT, reduceCtorEq] at q9
      exact q9
    refine G.callS (as := [.ref 1013]) (rest := [.int v3]) oX12_of lk_EvenFindersModel_198 (by decide +kernel) rfl (Nat.le_of_ble_eq_true rfl) rfl ⟨Nat.le_of_ble_eq_true rfl, Nat.le_of_ble_eq_true rfl⟩ t12 (fun v9 N9 h13 => ?_) (fun E9 N9 h13 => by cases h13)
    cases h13
    show G z mX12_factHere (d + 5) 0 0 26 [some (.ref 54), some (.int v3)] [.int k_of_s13, .int v3] (mrow M 54 r4) Q
    refine G.ic_ne (off := (7)) (tgt := 33) (by decide +kernel) rfl (fun c14 => ?_) (fun c14 => ?_)
    · skip
      refine G.sl [(.iload_n 1, 1, 1, 0, 0, 0), (.ldc_w 268, 3, 1, 14, 0, 0)] [] (pc2 := 37) (ls2 := [some (.ref 54), some (.int v3)]) (st2 := [.ref 1014, .int v3]) (M2 := mrow M 54 r4) (Ps := []) (by decide +kernel) rfl rfl trivial ?_
      have t16 : GM z mX12_of (d + 4) [.ref 1014] (mrow M 54 r4) (fun rs => rs = .inl (some (.int k_of_s14), mrow M 54 r4)) := by
        have q9 := c_k_of_s14 z d (mrow M 54 r4) 
        try simp only [mput, mrow_same, mrow_hit, mrow_miss, mrow_sw, idr_eq, ne_eq, Nat.reduceEqDiff, not_false_eq_true, Nat.reduceLT, reduceCtorEq] at q9
        exact q9
      refine G.callS (as := [.ref 1014]) (rest := [.int v3]) oX12_of lk_EvenFindersModel_198 (by decide +kernel) rfl (Nat.le_of_ble_eq_true rfl) rfl ⟨Nat.le_of_ble_eq_true rfl, Nat.le_of_ble_eq_true rfl⟩ t16 (fun v9 N9 h17 => ?_) (fun E9 N9 h17 => by cases h17)
      cases h17
      show G z mX12_factHere (d + 5) 0 0 40 [some (.ref 54), some (.int v3)] [.int k_of_s14, .int v3] (mrow M 54 r4) Q
      refine G.ic_ne (off := (7)) (tgt := 47) (by decide +kernel) rfl (fun c18 => ?_) (fun c18 => ?_)
      · skip
        refine G.sl [(.iload_n 1, 1, 1, 0, 0, 0), (.ldc_w 270, 3, 1, 15, 0, 0)] [] (pc2 := 51) (ls2 := [some (.ref 54), some (.int v3)]) (st2 := [.ref 1015, .int v3]) (M2 := mrow M 54 r4) (Ps := []) (by decide +kernel) rfl rfl trivial ?_
        have t20 : GM z mX12_of (d + 4) [.ref 1015] (mrow M 54 r4) (fun rs => rs = .inl (some (.int k_of_s15), mrow M 54 r4)) := by
          have q9 := c_k_of_s15 z d (mrow M 54 r4) 
          try simp only [mput, mrow_same, mrow_hit, mrow_miss, mrow_sw, idr_eq, ne_eq, Nat.reduceEqDiff, not_false_eq_true, Nat.reduceLT, reduceCtorEq] at q9
          exact q9
        refine G.callS (as := [.ref 1015]) (rest := [.int v3]) oX12_of lk_EvenFindersModel_198 (by decide +kernel) rfl (Nat.le_of_ble_eq_true rfl) rfl ⟨Nat.le_of_ble_eq_true rfl, Nat.le_of_ble_eq_true rfl⟩ t20 (fun v9 N9 h21 => ?_) (fun E9 N9 h21 => by cases h21)
        cases h21
        show G z mX12_factHere (d + 5) 0 0 54 [some (.ref 54), some (.int v3)] [.int k_of_s15, .int v3] (mrow M 54 r4) Q
        refine G.ic_ne (off := (7)) (tgt := 61) (by decide +kernel) rfl (fun c22 => ?_) (fun c22 => ?_)
        · skip
          refine G.sl [(.iload_n 1, 1, 1, 0, 0, 0), (.ldc_w 272, 3, 1, 16, 0, 0)] [] (pc2 := 65) (ls2 := [some (.ref 54), some (.int v3)]) (st2 := [.ref 1016, .int v3]) (M2 := mrow M 54 r4) (Ps := []) (by decide +kernel) rfl rfl trivial ?_
          have t24 : GM z mX12_of (d + 4) [.ref 1016] (mrow M 54 r4) (fun rs => rs = .inl (some (.int k_of_s16), mrow M 54 r4)) := by
            have q9 := c_k_of_s16 z d (mrow M 54 r4) 
            try simp only [mput, mrow_same, mrow_hit, mrow_miss, mrow_sw, idr_eq, ne_eq, Nat.reduceEqDiff, not_false_eq_true, Nat.reduceLT, reduceCtorEq] at q9
            exact q9
          refine G.callS (as := [.ref 1016]) (rest := [.int v3]) oX12_of lk_EvenFindersModel_198 (by decide +kernel) rfl (Nat.le_of_ble_eq_true rfl) rfl ⟨Nat.le_of_ble_eq_true rfl, Nat.le_of_ble_eq_true rfl⟩ t24 (fun v9 N9 h25 => ?_) (fun E9 N9 h25 => by cases h25)
          cases h25
          show G z mX12_factHere (d + 5) 0 0 68 [some (.ref 54), some (.int v3)] [.int k_of_s16, .int v3] (mrow M 54 r4) Q
          refine G.ic_ne (off := (7)) (tgt := 75) (by decide +kernel) rfl (fun c26 => ?_) (fun c26 => ?_)
          · skip
            refine G.sl [(.iload_n 1, 1, 1, 0, 0, 0), (.ldc_w 274, 3, 1, 17, 0, 0)] [] (pc2 := 79) (ls2 := [some (.ref 54), some (.int v3)]) (st2 := [.ref 1017, .int v3]) (M2 := mrow M 54 r4) (Ps := []) (by decide +kernel) rfl rfl trivial ?_
            have t28 : GM z mX12_of (d + 4) [.ref 1017] (mrow M 54 r4) (fun rs => rs = .inl (some (.int k_of_s17), mrow M 54 r4)) := by
              have q9 := c_k_of_s17 z d (mrow M 54 r4) 
              try simp only [mput, mrow_same, mrow_hit, mrow_miss, mrow_sw, idr_eq, ne_eq, Nat.reduceEqDiff, not_false_eq_true, Nat.reduceLT, reduceCtorEq] at q9
              exact q9
            refine G.callS (as := [.ref 1017]) (rest := [.int v3]) oX12_of lk_EvenFindersModel_198 (by decide +kernel) rfl (Nat.le_of_ble_eq_true rfl) rfl ⟨Nat.le_of_ble_eq_true rfl, Nat.le_of_ble_eq_true rfl⟩ t28 (fun v9 N9 h29 => ?_) (fun E9 N9 h29 => by cases h29)
            cases h29
            show G z mX12_factHere (d + 5) 0 0 82 [some (.ref 54), some (.int v3)] [.int k_of_s17, .int v3] (mrow M 54 r4) Q
            refine G.ic_ne (off := (7)) (tgt := 89) (by decide +kernel) rfl (fun c30 => ?_) (fun c30 => ?_)
            · skip
              refine G.sl [(.iload_n 1, 1, 1, 0, 0, 0), (.ldc_w 276, 3, 1, 18, 0, 0)] [] (pc2 := 93) (ls2 := [some (.ref 54), some (.int v3)]) (st2 := [.ref 1018, .int v3]) (M2 := mrow M 54 r4) (Ps := []) (by decide +kernel) rfl rfl trivial ?_
              have t32 : GM z mX12_of (d + 4) [.ref 1018] (mrow M 54 r4) (fun rs => rs = .inl (some (.int k_of_s18), mrow M 54 r4)) := by
                have q9 := c_k_of_s18 z d (mrow M 54 r4) 
                try simp only [mput, mrow_same, mrow_hit, mrow_miss, mrow_sw, idr_eq, ne_eq, Nat.reduceEqDiff, not_false_eq_true, Nat.reduceLT, reduceCtorEq] at q9
                exact q9
              refine G.callS (as := [.ref 1018]) (rest := [.int v3]) oX12_of lk_EvenFindersModel_198 (by decide +kernel) rfl (Nat.le_of_ble_eq_true rfl) rfl ⟨Nat.le_of_ble_eq_true rfl, Nat.le_of_ble_eq_true rfl⟩ t32 (fun v9 N9 h33 => ?_) (fun E9 N9 h33 => by cases h33)
              cases h33
              show G z mX12_factHere (d + 5) 0 0 96 [some (.ref 54), some (.int v3)] [.int k_of_s18, .int v3] (mrow M 54 r4) Q
              refine G.ic_ne (off := (8)) (tgt := 104) (by decide +kernel) rfl (fun c34 => ?_) (fun c34 => ?_)
              · skip
                refine G.sl [(.iload_n 1, 1, 1, 0, 0, 0), (.ldc 204, 2, 1, 8, 0, 0)] [] (pc2 := 107) (ls2 := [some (.ref 54), some (.int v3)]) (st2 := [.ref 1008, .int v3]) (M2 := mrow M 54 r4) (Ps := []) (by decide +kernel) rfl rfl trivial ?_
                have t36 : GM z mX12_of (d + 4) [.ref 1008] (mrow M 54 r4) (fun rs => rs = .inl (some (.int k_of_s8), mrow M 54 r4)) := by
                  have q9 := c_k_of_s8 z d (mrow M 54 r4) 
                  try simp only [mput, mrow_same, mrow_hit, mrow_miss, mrow_sw, idr_eq, ne_eq, Nat.reduceEqDiff, not_false_eq_true, Nat.reduceLT, reduceCtorEq] at q9
                  exact q9
                refine G.callS (as := [.ref 1008]) (rest := [.int v3]) oX12_of lk_EvenFindersModel_198 (by decide +kernel) rfl (Nat.le_of_ble_eq_true rfl) rfl ⟨Nat.le_of_ble_eq_true rfl, Nat.le_of_ble_eq_true rfl⟩ t36 (fun v9 N9 h37 => ?_) (fun E9 N9 h37 => by cases h37)
                cases h37
                show G z mX12_factHere (d + 5) 0 0 110 [some (.ref 54), some (.int v3)] [.int k_of_s8, .int v3] (mrow M 54 r4) Q
                refine G.ic_ne (off := (8)) (tgt := 118) (by decide +kernel) rfl (fun c38 => ?_) (fun c38 => ?_)
                · skip
                  refine G.sl [(.iconst (-1), 1, 0, 0, 0, (-1))] [] (pc2 := 119) (ls2 := [some (.ref 54), some (.int v3)]) (st2 := [.int ((-1))]) (M2 := mrow M 54 r4) (Ps := []) (by decide +kernel) rfl rfl trivial ?_
                  exact G.reti (by decide +kernel) rfl rfl (Nat.le_of_ble_eq_true rfl) (Nat.le_of_ble_eq_true rfl) ((by rw [hQ]; simp only [k_factHere, g2, if_neg c10, if_neg c14, if_neg c18, if_neg c22, if_neg c26, if_neg c30, if_neg c34, if_neg c38, mrow_self]))
                · skip
                  refine G.sl [(.bipush 7, 2, 0, 0, 0, nI 7), (.goto 4, 3, 119, 0, 0, 0)] [] (pc2 := 119) (ls2 := [some (.ref 54), some (.int v3)]) (st2 := [.int (nI 7)]) (M2 := mrow M 54 r4) (Ps := []) (by decide +kernel) rfl rfl trivial ?_
                  exact G.reti (by decide +kernel) rfl rfl (Nat.le_of_ble_eq_true rfl) (Nat.le_of_ble_eq_true rfl) ((by rw [hQ]; simp only [k_factHere, g2, if_neg c10, if_neg c14, if_neg c18, if_neg c22, if_neg c26, if_neg c30, if_neg c34, if_pos c38, mrow_self]))
              · skip
                refine G.sl [(.bipush 6, 2, 0, 0, 0, nI 6), (.goto 18, 3, 119, 0, 0, 0)] [] (pc2 := 119) (ls2 := [some (.ref 54), some (.int v3)]) (st2 := [.int (nI 6)]) (M2 := mrow M 54 r4) (Ps := []) (by decide +kernel) rfl rfl trivial ?_
                exact G.reti (by decide +kernel) rfl rfl (Nat.le_of_ble_eq_true rfl) (Nat.le_of_ble_eq_true rfl) ((by rw [hQ]; simp only [k_factHere, g2, if_neg c10, if_neg c14, if_neg c18, if_neg c22, if_neg c26, if_neg c30, if_pos c34, mrow_self]))
            · skip
              refine G.sl [(.iconst 5, 1, 0, 0, 0, nI 5), (.goto 33, 3, 119, 0, 0, 0)] [] (pc2 := 119) (ls2 := [some (.ref 54), some (.int v3)]) (st2 := [.int (nI 5)]) (M2 := mrow M 54 r4) (Ps := []) (by decide +kernel) rfl rfl trivial ?_
              exact G.reti (by decide +kernel) rfl rfl (Nat.le_of_ble_eq_true rfl) (Nat.le_of_ble_eq_true rfl) ((by rw [hQ]; simp only [k_factHere, g2, if_neg c10, if_neg c14, if_neg c18, if_neg c22, if_neg c26, if_pos c30, mrow_self]))
          · skip
            refine G.sl [(.iconst 4, 1, 0, 0, 0, nI 4), (.goto 47, 3, 119, 0, 0, 0)] [] (pc2 := 119) (ls2 := [some (.ref 54), some (.int v3)]) (st2 := [.int (nI 4)]) (M2 := mrow M 54 r4) (Ps := []) (by decide +kernel) rfl rfl trivial ?_
            exact G.reti (by decide +kernel) rfl rfl (Nat.le_of_ble_eq_true rfl) (Nat.le_of_ble_eq_true rfl) ((by rw [hQ]; simp only [k_factHere, g2, if_neg c10, if_neg c14, if_neg c18, if_neg c22, if_pos c26, mrow_self]))
        · skip
          refine G.sl [(.iconst 3, 1, 0, 0, 0, nI 3), (.goto 61, 3, 119, 0, 0, 0)] [] (pc2 := 119) (ls2 := [some (.ref 54), some (.int v3)]) (st2 := [.int (nI 3)]) (M2 := mrow M 54 r4) (Ps := []) (by decide +kernel) rfl rfl trivial ?_
          exact G.reti (by decide +kernel) rfl rfl (Nat.le_of_ble_eq_true rfl) (Nat.le_of_ble_eq_true rfl) ((by rw [hQ]; simp only [k_factHere, g2, if_neg c10, if_neg c14, if_neg c18, if_pos c22, mrow_self]))
      · skip
        refine G.sl [(.iconst 2, 1, 0, 0, 0, nI 2), (.goto 75, 3, 119, 0, 0, 0)] [] (pc2 := 119) (ls2 := [some (.ref 54), some (.int v3)]) (st2 := [.int (nI 2)]) (M2 := mrow M 54 r4) (Ps := []) (by decide +kernel) rfl rfl trivial ?_
        exact G.reti (by decide +kernel) rfl rfl (Nat.le_of_ble_eq_true rfl) (Nat.le_of_ble_eq_true rfl) ((by rw [hQ]; simp only [k_factHere, g2, if_neg c10, if_neg c14, if_pos c18, mrow_self]))
    · skip
      refine G.sl [(.iconst 1, 1, 0, 0, 0, nI 1), (.goto 89, 3, 119, 0, 0, 0)] [] (pc2 := 119) (ls2 := [some (.ref 54), some (.int v3)]) (st2 := [.int (nI 1)]) (M2 := mrow M 54 r4) (Ps := []) (by decide +kernel) rfl rfl trivial ?_
      exact G.reti (by decide +kernel) rfl rfl (Nat.le_of_ble_eq_true rfl) (Nat.le_of_ble_eq_true rfl) ((by rw [hQ]; simp only [k_factHere, g2, if_neg c10, if_pos c14, mrow_self]))
  · skip
    refine G.sl [(.iconst 0, 1, 0, 0, 0, nI 0), (.goto 103, 3, 119, 0, 0, 0)] [] (pc2 := 119) (ls2 := [some (.ref 54), some (.int v3)]) (st2 := [.int (nI 0)]) (M2 := mrow M 54 r4) (Ps := []) (by decide +kernel) rfl rfl trivial ?_
    exact G.reti (by decide +kernel) rfl rfl (Nat.le_of_ble_eq_true rfl) (Nat.le_of_ble_eq_true rfl) ((by rw [hQ]; simp only [k_factHere, g2, if_pos c10, mrow_self]))
set_option maxHeartbeats 4000000 in
set_option maxRecDepth 3000 in
theorem c_k_emit_54 (z : Zp) (d : Nat) (M : Mem) (x1 : Int32) (x2 : Int32) (hk : k_emit_ok (M.1 54) (M.1 63) (M.1 64) x1 x2) : GM z mX12_emit (d + 1) [.ref 54, .int x1, .int x2] M (fun rs => rs = .inl (none, mrow (mrow (mrow M 54 ((k_emit (M.1 54) (M.1 63) (M.1 64) x1 x2).2.1)) 63 ((k_emit (M.1 54) (M.1 63) (M.1 64) x1 x2).2.2.1)) 64 ((k_emit (M.1 54) (M.1 63) (M.1 64) x1 x2).2.2.2))) := by
  simp only [k_emit_ok] at hk
  refine GM.of oX12_emit.1 (Nat.le_of_ble_eq_true rfl) ?_
  show G z mX12_emit (d + 1) 0 0 0 [some (.ref 54), some (.int x1), some (.int x2)] [] M _
  obtain ⟨Q, hQ⟩ : ∃ Q : Rs → Prop, Q = (fun rs => rs = .inl (none, mrow (mrow (mrow M 54 ((k_emit (M.1 54) (M.1 63) (M.1 64) x1 x2).2.1)) 63 ((k_emit (M.1 54) (M.1 63) (M.1 64) x1 x2).2.2.1)) 64 ((k_emit (M.1 54) (M.1 63) (M.1 64) x1 x2).2.2.2))) := ⟨_, rfl⟩
  rw [← hQ]
  refine G.sl [(.aload_n 0, 1, 0, 0, 0, 0)] [] (pc2 := 1) (ls2 := [some (.ref 54), some (.int x1), some (.int x2)]) (st2 := [.ref 54]) (M2 := M) (Ps := []) (by decide +kernel) rfl rfl trivial ?_
  obtain ⟨k1, hk⟩ := hk
  have t2 : GM z mX12_fine (d) [.ref 54] M (fun rs => rs = .inl (some (.int (k_fine (M.1 54))), M)) := by
    have q9 := c_k_fine_54 z d M 
    try simp only [mput, mrow_same, mrow_hit, mrow_miss, mrow_sw, idr_eq, ne_eq, Nat.reduceEqDiff, not_false_eq_true, Nat.reduceLT, reduceCtorEq] at q9
    exact q9
  refine G.callV (as := []) (rest := []) (a := 54) oX12_fine lk_EvenFindersModel_130 (by decide +kernel) rfl rfl ⟨rfl, rfl⟩ (Nat.le_of_ble_eq_true rfl) rfl ⟨Nat.le_of_ble_eq_true rfl, Nat.le_of_ble_eq_true rfl⟩ t2 (fun v9 N9 h3 => ?_) (fun E9 N9 h3 => by cases h3)
  cases h3
  show G z mX12_emit (d + 1) 0 0 4 [some (.ref 54), some (.int x1), some (.int x2)] [.int (k_fine (M.1 54))] M Q
  refine G.if_ne (off := (4)) (tgt := 8) (by decide +kernel) rfl (fun c4 => ?_) (fun c4 => ?_)
  · skip
    rw [if_neg c4] at hk
    obtain ⟨k5, k6, hk⟩ := hk
    refine G.sl [(.aload_n 0, 1, 0, 0, 0, 0), (.getfield 41, 3, 11, 24, 147, 0), (.aload_n 0, 1, 0, 0, 0, 0), (.getfield 246, 3, 11, 29, 152, 0), (.iload_n 1, 1, 1, 0, 0, 0), (.iastore, 1, 0, 0, 0, 0), (.aload_n 0, 1, 0, 0, 0, 0), (.getfield 44, 3, 11, 25, 148, 0), (.aload_n 0, 1, 0, 0, 0, 0), (.getfield 246, 3, 11, 29, 152, 0), (.iload_n 2, 1, 2, 0, 0, 0), (.iastore, 1, 0, 0, 0, 0), (.aload_n 0, 1, 0, 0, 0, 0), (.dup, 1, 0, 0, 0, 0), (.getfield 246, 3, 11, 29, 152, 0), (.iconst 1, 1, 0, 0, 0, nI 1), (.iadd, 1, 0, 0, 0, 0), (.putfield 246, 3, 11, 29, 152, 0)] [ix (M.1 54 29), ix (M.1 54 29)] (pc2 := 38) (ls2 := [some (.ref 54), some (.int x1), some (.int x2)]) (st2 := []) (M2 := mput (mput (mput M 63 (ix (M.1 54 29)) x1) 64 (ix (M.1 54 29)) x2) 54 29 ((M.1 54 29) + (nI 1))) (Ps := [(M.1 54 29) = nI (ix (M.1 54 29)) ∧ (ix (M.1 54 29)) < 150, (M.1 54 29) = nI (ix (M.1 54 29)) ∧ (ix (M.1 54 29)) < 150]) (by decide +kernel) rfl rfl ⟨⟨(ixE k5), k6⟩, ⟨(ixE k5), k6⟩, trivial⟩ ?_
    refine G.mem (M' := mrow (mrow (mrow M 54 (upd (M.1 54) 29 ((M.1 54 29) + (nI 1)))) 63 (upd (M.1 63) (ix (M.1 54 29)) x1)) 64 (upd (M.1 64) (ix (M.1 54 29)) x2)) (by first | rfl | (simp only [mput, mrow_same, mrow_hit, mrow_miss, mrow_sw, idr_eq, ne_eq, Nat.reduceEqDiff, not_false_eq_true, Nat.reduceLT, reduceCtorEq]; done)) ?_
    exact G.retv (by decide +kernel) rfl (Nat.le_of_ble_eq_true rfl) (Nat.le_of_ble_eq_true rfl) ((by rw [hQ]; simp only [k_emit, if_neg c4, mrow_self]))
  · skip
    rw [if_pos c4] at hk
    refine G.mem (M' := mrow (mrow (mrow M 54 (M.1 54)) 63 (M.1 63)) 64 (M.1 64)) (((((mrow_id (N := M) (c := 54) (f := M.1 54) (by first | rfl | (simp only [mput, mrow_same, mrow_hit, mrow_miss, mrow_sw, idr_eq, ne_eq, Nat.reduceEqDiff, not_false_eq_true, Nat.reduceLT, reduceCtorEq]; done))).symm).trans (mrow_id (N := mrow M 54 (M.1 54)) (c := 63) (f := M.1 63) (by first | rfl | (simp only [mput, mrow_same, mrow_hit, mrow_miss, mrow_sw, idr_eq, ne_eq, Nat.reduceEqDiff, not_false_eq_true, Nat.reduceLT, reduceCtorEq]; done))).symm).trans (mrow_id (N := mrow (mrow M 54 (M.1 54)) 63 (M.1 63)) (c := 64) (f := M.1 64) (by first | rfl | (simp only [mput, mrow_same, mrow_hit, mrow_miss, mrow_sw, idr_eq, ne_eq, Nat.reduceEqDiff, not_false_eq_true, Nat.reduceLT, reduceCtorEq]; done))).symm).trans (by first | rfl | (simp only [mput, mrow_same, mrow_hit, mrow_miss, mrow_sw, idr_eq, ne_eq, Nat.reduceEqDiff, not_false_eq_true, Nat.reduceLT, reduceCtorEq]; done))) ?_
    exact G.retv (by decide +kernel) rfl (Nat.le_of_ble_eq_true rfl) (Nat.le_of_ble_eq_true rfl) ((by rw [hQ]; simp only [k_emit, if_pos c4, mrow_self]))
set_option maxHeartbeats 4000000 in
set_option maxRecDepth 3000 in
theorem c_k_opensOne_54 (z : Zp) (d : Nat) (M : Mem) (x1 : Int32) : GM z mX12_opensOne (d + 1) [.ref 54, .int x1] M (fun rs => rs = .inl (none, mrow M 54 ((k_opensOne (M.1 54) x1).2))) := by
  refine GM.of oX12_opensOne.1 (Nat.le_of_ble_eq_true rfl) ?_
  show G z mX12_opensOne (d + 1) 0 0 0 [some (.ref 54), some (.int x1)] [] M _
  obtain ⟨Q, hQ⟩ : ∃ Q : Rs → Prop, Q = (fun rs => rs = .inl (none, mrow M 54 ((k_opensOne (M.1 54) x1).2))) := ⟨_, rfl⟩
  rw [← hQ]
  refine G.sl [(.aload_n 0, 1, 0, 0, 0, 0)] [] (pc2 := 1) (ls2 := [some (.ref 54), some (.int x1)]) (st2 := [.ref 54]) (M2 := M) (Ps := []) (by decide +kernel) rfl rfl trivial ?_
  have t2 : GM z mX12_fine (d) [.ref 54] M (fun rs => rs = .inl (some (.int (k_fine (M.1 54))), M)) := by
    have q9 := c_k_fine_54 z d M 
    try simp only [mput, mrow_same, mrow_hit, mrow_miss, mrow_sw, idr_eq, ne_eq, Nat.reduceEqDiff, not_false_eq_true, Nat.reduceLT, reduceCtorEq] at q9
    exact q9
  refine G.callV (as := []) (rest := []) (a := 54) oX12_fine lk_EvenFindersModel_130 (by decide +kernel) rfl rfl ⟨rfl, rfl⟩ (Nat.le_of_ble_eq_true rfl) rfl ⟨Nat.le_of_ble_eq_true rfl, Nat.le_of_ble_eq_true rfl⟩ t2 (fun v9 N9 h3 => ?_) (fun E9 N9 h3 => by cases h3)
  cases h3
  show G z mX12_opensOne (d + 1) 0 0 4 [some (.ref 54), some (.int x1)] [.int (k_fine (M.1 54))] M Q
  refine G.if_eq (off := (21)) (tgt := 25) (by decide +kernel) rfl (fun c4 => ?_) (fun c4 => ?_)
  · skip
    refine G.sl [(.aload_n 0, 1, 0, 0, 0, 0)] [] (pc2 := 26) (ls2 := [some (.ref 54), some (.int x1)]) (st2 := [.ref 54]) (M2 := M) (Ps := []) (by decide +kernel) rfl rfl trivial ?_
    have t6 : GM z mX12_fine (d) [.ref 54] M (fun rs => rs = .inl (some (.int (k_fine (M.1 54))), M)) := by
      have q9 := c_k_fine_54 z d M 
      try simp only [mput, mrow_same, mrow_hit, mrow_miss, mrow_sw, idr_eq, ne_eq, Nat.reduceEqDiff, not_false_eq_true, Nat.reduceLT, reduceCtorEq] at q9
      exact q9
    refine G.callV (as := []) (rest := []) (a := 54) oX12_fine lk_EvenFindersModel_130 (by decide +kernel) rfl rfl ⟨rfl, rfl⟩ (Nat.le_of_ble_eq_true rfl) rfl ⟨Nat.le_of_ble_eq_true rfl, Nat.le_of_ble_eq_true rfl⟩ t6 (fun v9 N9 h7 => ?_) (fun E9 N9 h7 => by cases h7)
    cases h7
    show G z mX12_opensOne (d + 1) 0 0 29 [some (.ref 54), some (.int x1)] [.int (k_fine (M.1 54))] M Q
    refine G.if_eq (off := (13)) (tgt := 42) (by decide +kernel) rfl (fun _ => ?_) (fun h9 => absurd c4 h9)
    refine G.sl [(.aload_n 0, 1, 0, 0, 0, 0), (.dup, 1, 0, 0, 0, 0), (.getfield 141, 3, 11, 7, 130, 0), (.iconst 1, 1, 0, 0, 0, nI 1), (.iadd, 1, 0, 0, 0, 0), (.putfield 141, 3, 11, 7, 130, 0)] [] (pc2 := 52) (ls2 := [some (.ref 54), some (.int x1)]) (st2 := []) (M2 := mput M 54 7 ((M.1 54 7) + (nI 1))) (Ps := []) (by decide +kernel) rfl rfl trivial ?_
    refine G.mem (M' := mrow M 54 (upd (M.1 54) 7 ((M.1 54 7) + (nI 1)))) (by first | rfl | (simp only [mput, mrow_same, mrow_hit, mrow_miss, mrow_sw, idr_eq, ne_eq, Nat.reduceEqDiff, not_false_eq_true, Nat.reduceLT, reduceCtorEq]; done)) ?_
    exact G.retv (by decide +kernel) rfl (Nat.le_of_ble_eq_true rfl) (Nat.le_of_ble_eq_true rfl) ((by rw [hQ]; simp only [k_opensOne, if_pos c4, mrow_self]))
  · skip
    refine G.sl [(.aload_n 0, 1, 0, 0, 0, 0), (.getfield 141, 3, 11, 7, 130, 0), (.bipush 6, 2, 0, 0, 0, nI 6)] [] (pc2 := 13) (ls2 := [some (.ref 54), some (.int x1)]) (st2 := [.int (nI 6), .int (M.1 54 7)]) (M2 := M) (Ps := []) (by decide +kernel) rfl rfl trivial ?_
    refine G.ic_ne (off := (12)) (tgt := 25) (by decide +kernel) rfl (fun c8 => ?_) (fun c8 => ?_)
    · skip
      refine G.sl [(.aload_n 0, 1, 0, 0, 0, 0)] [] (pc2 := 26) (ls2 := [some (.ref 54), some (.int x1)]) (st2 := [.ref 54]) (M2 := M) (Ps := []) (by decide +kernel) rfl rfl trivial ?_
      have t10 : GM z mX12_fine (d) [.ref 54] M (fun rs => rs = .inl (some (.int (k_fine (M.1 54))), M)) := by
        have q9 := c_k_fine_54 z d M 
        try simp only [mput, mrow_same, mrow_hit, mrow_miss, mrow_sw, idr_eq, ne_eq, Nat.reduceEqDiff, not_false_eq_true, Nat.reduceLT, reduceCtorEq] at q9
        exact q9
      refine G.callV (as := []) (rest := []) (a := 54) oX12_fine lk_EvenFindersModel_130 (by decide +kernel) rfl rfl ⟨rfl, rfl⟩ (Nat.le_of_ble_eq_true rfl) rfl ⟨Nat.le_of_ble_eq_true rfl, Nat.le_of_ble_eq_true rfl⟩ t10 (fun v9 N9 h11 => ?_) (fun E9 N9 h11 => by cases h11)
      cases h11
      show G z mX12_opensOne (d + 1) 0 0 29 [some (.ref 54), some (.int x1)] [.int (k_fine (M.1 54))] M Q
      refine G.if_eq (off := (13)) (tgt := 42) (by decide +kernel) rfl (fun h9 => absurd h9 c4) (fun _ => ?_)
      refine G.sl [(.aload_n 0, 1, 0, 0, 0, 0), (.dup, 1, 0, 0, 0, 0), (.getfield 107, 3, 11, 4, 127, 0), (.iload_n 1, 1, 1, 0, 0, 0), (.iadd, 1, 0, 0, 0, 0), (.putfield 107, 3, 11, 4, 127, 0), (.aload_n 0, 1, 0, 0, 0, 0), (.dup, 1, 0, 0, 0, 0), (.getfield 141, 3, 11, 7, 130, 0), (.iconst 1, 1, 0, 0, 0, nI 1), (.iadd, 1, 0, 0, 0, 0), (.putfield 141, 3, 11, 7, 130, 0)] [] (pc2 := 52) (ls2 := [some (.ref 54), some (.int x1)]) (st2 := []) (M2 := mput (mput M 54 4 ((M.1 54 4) + x1)) 54 7 ((M.1 54 7) + (nI 1))) (Ps := []) (by decide +kernel) rfl rfl trivial ?_
      refine G.mem (M' := mrow M 54 (upd (upd (M.1 54) 4 ((M.1 54 4) + x1)) 7 ((M.1 54 7) + (nI 1)))) (by first | rfl | (simp only [mput, mrow_same, mrow_hit, mrow_miss, mrow_sw, idr_eq, ne_eq, Nat.reduceEqDiff, not_false_eq_true, Nat.reduceLT, reduceCtorEq]; done)) ?_
      exact G.retv (by decide +kernel) rfl (Nat.le_of_ble_eq_true rfl) (Nat.le_of_ble_eq_true rfl) ((by rw [hQ]; simp only [k_opensOne, if_neg c4, if_neg c8, mrow_self]))
    · skip
      refine G.sl [(.aload_n 0, 1, 0, 0, 0, 0), (.iconst 3, 1, 0, 0, 0, nI 3), (.aload_n 0, 1, 0, 0, 0, 0), (.getfield 107, 3, 11, 4, 127, 0)] [] (pc2 := 22) (ls2 := [some (.ref 54), some (.int x1)]) (st2 := [.int (M.1 54 4), .int (nI 3), .ref 54]) (M2 := M) (Ps := []) (by decide +kernel) rfl rfl trivial ?_
      rcases g13 : k_wrong (M.1 54) (nI 3) (M.1 54 4) with ⟨u14, r15⟩
      have t16 : GM z mX12_wrong (d) [.ref 54, .int (nI 3), .int (M.1 54 4)] M (fun rs => rs = .inl (none, mrow M 54 r15)) := by
        have q9 := c_k_wrong_54 z d M (nI 3) (M.1 54 4)
        try simp only [mput, mrow_same, mrow_hit, mrow_miss, mrow_sw, idr_eq, ne_eq, Nat.reduceEqDiff, not_false_eq_true, Nat.reduceLT, reduceCtorEq, g13] at q9
        exact q9
      refine G.callV (as := [.int (nI 3), .int (M.1 54 4)]) (rest := []) (a := 54) oX12_wrong lk_EvenFindersModel_137 (by decide +kernel) rfl rfl ⟨rfl, rfl⟩ (Nat.le_of_ble_eq_true rfl) rfl ⟨Nat.le_of_ble_eq_true rfl, Nat.le_of_ble_eq_true rfl⟩ t16 (fun v9 N9 h17 => ?_) (fun E9 N9 h17 => by cases h17)
      cases h17
      show G z mX12_opensOne (d + 1) 0 0 25 [some (.ref 54), some (.int x1)] [] (mrow M 54 r15) Q
      refine G.sl [(.aload_n 0, 1, 0, 0, 0, 0)] [] (pc2 := 26) (ls2 := [some (.ref 54), some (.int x1)]) (st2 := [.ref 54]) (M2 := mrow M 54 r15) (Ps := []) (by decide +kernel) rfl rfl trivial ?_
      have t19 : GM z mX12_fine (d) [.ref 54] (mrow M 54 r15) (fun rs => rs = .inl (some (.int (k_fine r15)), mrow M 54 r15)) := by
        have q9 := c_k_fine_54 z d (mrow M 54 r15) 
        try simp only [mput, mrow_same, mrow_hit, mrow_miss, mrow_sw, idr_eq, ne_eq, Nat.reduceEqDiff, not_false_eq_true, Nat.reduceLT, reduceCtorEq] at q9
        exact q9
      refine G.callV (as := []) (rest := []) (a := 54) oX12_fine lk_EvenFindersModel_130 (by decide +kernel) rfl rfl ⟨rfl, rfl⟩ (Nat.le_of_ble_eq_true rfl) rfl ⟨Nat.le_of_ble_eq_true rfl, Nat.le_of_ble_eq_true rfl⟩ t19 (fun v9 N9 h20 => ?_) (fun E9 N9 h20 => by cases h20)
      cases h20
      show G z mX12_opensOne (d + 1) 0 0 29 [some (.ref 54), some (.int x1)] [.int (k_fine r15)] (mrow M 54 r15) Q
      refine G.if_eq (off := (13)) (tgt := 42) (by decide +kernel) rfl (fun c21 => ?_) (fun c21 => ?_)
      · skip
        refine G.sl [(.aload_n 0, 1, 0, 0, 0, 0), (.dup, 1, 0, 0, 0, 0), (.getfield 141, 3, 11, 7, 130, 0), (.iconst 1, 1, 0, 0, 0, nI 1), (.iadd, 1, 0, 0, 0, 0), (.putfield 141, 3, 11, 7, 130, 0)] [] (pc2 := 52) (ls2 := [some (.ref 54), some (.int x1)]) (st2 := []) (M2 := mput (mrow M 54 r15) 54 7 ((r15 7) + (nI 1))) (Ps := []) (by decide +kernel) rfl rfl trivial ?_
        refine G.mem (M' := mrow M 54 (upd r15 7 ((r15 7) + (nI 1)))) (by first | rfl | (simp only [mput, mrow_same, mrow_hit, mrow_miss, mrow_sw, idr_eq, ne_eq, Nat.reduceEqDiff, not_false_eq_true, Nat.reduceLT, reduceCtorEq]; done)) ?_
        exact G.retv (by decide +kernel) rfl (Nat.le_of_ble_eq_true rfl) (Nat.le_of_ble_eq_true rfl) ((by rw [hQ]; simp only [k_opensOne, if_neg c4, if_pos c8, g13, if_pos c21, mrow_self]))
      · skip
        refine G.sl [(.aload_n 0, 1, 0, 0, 0, 0), (.dup, 1, 0, 0, 0, 0), (.getfield 107, 3, 11, 4, 127, 0), (.iload_n 1, 1, 1, 0, 0, 0), (.iadd, 1, 0, 0, 0, 0), (.putfield 107, 3, 11, 4, 127, 0), (.aload_n 0, 1, 0, 0, 0, 0), (.dup, 1, 0, 0, 0, 0), (.getfield 141, 3, 11, 7, 130, 0), (.iconst 1, 1, 0, 0, 0, nI 1), (.iadd, 1, 0, 0, 0, 0), (.putfield 141, 3, 11, 7, 130, 0)] [] (pc2 := 52) (ls2 := [some (.ref 54), some (.int x1)]) (st2 := []) (M2 := mput (mput (mrow M 54 r15) 54 4 ((r15 4) + x1)) 54 7 ((r15 7) + (nI 1))) (Ps := []) (by decide +kernel) rfl rfl trivial ?_
        refine G.mem (M' := mrow M 54 (upd (upd r15 4 ((r15 4) + x1)) 7 ((r15 7) + (nI 1)))) (by first | rfl | (simp only [mput, mrow_same, mrow_hit, mrow_miss, mrow_sw, idr_eq, ne_eq, Nat.reduceEqDiff, not_false_eq_true, Nat.reduceLT, reduceCtorEq]; done)) ?_
        exact G.retv (by decide +kernel) rfl (Nat.le_of_ble_eq_true rfl) (Nat.le_of_ble_eq_true rfl) ((by rw [hQ]; simp only [k_opensOne, if_neg c4, if_pos c8, g13, if_neg c21, mrow_self]))
set_option maxHeartbeats 4000000 in
set_option maxRecDepth 3000 in
theorem c_k_readTwo_54 (z : Zp) (d : Nat) (M : Mem) (x1 : Int32) (x2 : Int32) (fz : (Nat → Int32) → (Nat → Int32) → (Nat → Int32) → (Nat → Int32) → Int32 × (Nat → Int32) × (Nat → Int32) × (Nat → Int32)) (gz : (Nat → Int32) → (Nat → Int32) → (Nat → Int32) → (Nat → Int32) → Prop) (Hz : ∀ (j : Nat) (M : Mem) , gz (M.1 54) (M.1 56) (M.1 63) (M.1 64) → GM z mX12_readSum (d + j) [.ref 54] M (fun rs => rs = .inl (none, mrow (mrow (mrow M 54 ((fz (M.1 54) (M.1 56) (M.1 63) (M.1 64)).2.1)) 63 ((fz (M.1 54) (M.1 56) (M.1 63) (M.1 64)).2.2.1)) 64 ((fz (M.1 54) (M.1 56) (M.1 63) (M.1 64)).2.2.2)))) (hk : k_readTwo_ok fz gz (M.1 54) (M.1 56) (M.1 63) (M.1 64) x1 x2) : GM z mX12_readTwo (d + 2) [.ref 54, .int x1, .int x2] M (fun rs => rs = .inl (none, mrow (mrow (mrow M 54 ((k_readTwo fz (M.1 54) (M.1 56) (M.1 63) (M.1 64) x1 x2).2.1)) 63 ((k_readTwo fz (M.1 54) (M.1 56) (M.1 63) (M.1 64) x1 x2).2.2.1)) 64 ((k_readTwo fz (M.1 54) (M.1 56) (M.1 63) (M.1 64) x1 x2).2.2.2))) := by
  simp only [k_readTwo_ok] at hk
  refine GM.of oX12_readTwo.1 (Nat.le_of_ble_eq_true rfl) ?_
  show G z mX12_readTwo (d + 2) 0 0 0 [some (.ref 54), some (.int x1), some (.int x2)] [] M _
  obtain ⟨Q, hQ⟩ : ∃ Q : Rs → Prop, Q = (fun rs => rs = .inl (none, mrow (mrow (mrow M 54 ((k_readTwo fz (M.1 54) (M.1 56) (M.1 63) (M.1 64) x1 x2).2.1)) 63 ((k_readTwo fz (M.1 54) (M.1 56) (M.1 63) (M.1 64) x1 x2).2.2.1)) 64 ((k_readTwo fz (M.1 54) (M.1 56) (M.1 63) (M.1 64) x1 x2).2.2.2))) := ⟨_, rfl⟩
  rw [← hQ]
  refine G.sl [(.aload_n 0, 1, 0, 0, 0, 0), (.iload_n 1, 1, 1, 0, 0, 0)] [] (pc2 := 2) (ls2 := [some (.ref 54), some (.int x1), some (.int x2)]) (st2 := [.int x1, .ref 54]) (M2 := M) (Ps := []) (by decide +kernel) rfl rfl trivial ?_
  obtain ⟨k1, hk⟩ := hk
  rcases g2 : k_opensOne (M.1 54) x1 with ⟨u3, r4⟩
  try simp only [g2] at hk
  have t5 : GM z mX12_opensOne (d + 1) [.ref 54, .int x1] M (fun rs => rs = .inl (none, mrow M 54 r4)) := by
    have q9 := c_k_opensOne_54 z d M x1
    try simp only [mput, mrow_same, mrow_hit, mrow_miss, mrow_sw, idr_eq, ne_eq, Nat.reduceEqDiff, not_false_eq_true, Nat.reduceLT, reduceCtorEq, g2] at q9
    exact q9
  refine G.callV (as := [.int x1]) (rest := []) (a := 54) oX12_opensOne lk_EvenFindersModel_258 (by decide +kernel) rfl rfl ⟨rfl, rfl⟩ (Nat.le_of_ble_eq_true rfl) rfl ⟨Nat.le_of_ble_eq_true rfl, Nat.le_of_ble_eq_true rfl⟩ t5 (fun v9 N9 h6 => ?_) (fun E9 N9 h6 => by cases h6)
  cases h6
  show G z mX12_readTwo (d + 2) 0 0 5 [some (.ref 54), some (.int x1), some (.int x2)] [] (mrow M 54 r4) Q
  refine G.sl [(.aload_n 0, 1, 0, 0, 0, 0), (.bipush 91, 2, 0, 0, 0, nI 91)] [] (pc2 := 8) (ls2 := [some (.ref 54), some (.int x1), some (.int x2)]) (st2 := [.int (nI 91), .ref 54]) (M2 := mrow M 54 r4) (Ps := []) (by decide +kernel) rfl rfl trivial ?_
  obtain ⟨k7, hk⟩ := hk
  rcases g8 : k_sign r4 (M.1 56) (nI 91) with ⟨u9, r10⟩
  try simp only [g8] at hk
  have t11 : GM z mX12_sign (d + 1) [.ref 54, .int (nI 91)] (mrow M 54 r4) (fun rs => rs = .inl (none, mrow M 54 r10)) := by
    have q9 := c_k_sign_54 z d (mrow M 54 r4) (nI 91) k7
    try simp only [mput, mrow_same, mrow_hit, mrow_miss, mrow_sw, idr_eq, ne_eq, Nat.reduceEqDiff, not_false_eq_true, Nat.reduceLT, reduceCtorEq, g8] at q9
    exact q9
  refine G.callV (as := [.int (nI 91)]) (rest := []) (a := 54) oX12_sign lk_EvenFindersModel_239 (by decide +kernel) rfl rfl ⟨rfl, rfl⟩ (Nat.le_of_ble_eq_true rfl) rfl ⟨Nat.le_of_ble_eq_true rfl, Nat.le_of_ble_eq_true rfl⟩ t11 (fun v9 N9 h12 => ?_) (fun E9 N9 h12 => by cases h12)
  cases h12
  show G z mX12_readTwo (d + 2) 0 0 11 [some (.ref 54), some (.int x1), some (.int x2)] [] (mrow M 54 r10) Q
  refine G.sl [(.aload_n 0, 1, 0, 0, 0, 0)] [] (pc2 := 12) (ls2 := [some (.ref 54), some (.int x1), some (.int x2)]) (st2 := [.ref 54]) (M2 := mrow M 54 r10) (Ps := []) (by decide +kernel) rfl rfl trivial ?_
  obtain ⟨k13, hk⟩ := hk
  rcases g14 : fz r10 (M.1 56) (M.1 63) (M.1 64) with ⟨u15, r16, r17, r18⟩
  try simp only [g14] at hk
  have t19 : GM z mX12_readSum (d + 1) [.ref 54] (mrow M 54 r10) (fun rs => rs = .inl (none, mrow (mrow (mrow M 54 r16) 63 r17) 64 r18)) := by
    have q9 := Hz 1 (mrow M 54 r10) 
    try simp only [mput, mrow_same, mrow_hit, mrow_miss, mrow_sw, idr_eq, ne_eq, Nat.reduceEqDiff, not_false_eq_true, Nat.reduceLT, reduceCtorEq, g14] at q9
    exact q9 (by first | exact k13 | (simp only [mput, mrow_same, mrow_hit, mrow_miss, mrow_sw, idr_eq, ne_eq, Nat.reduceEqDiff, not_false_eq_true, Nat.reduceLT, reduceCtorEq]; exact k13))
  refine G.callV (as := []) (rest := []) (a := 54) oX12_readSum lk_EvenFindersModel_261 (by decide +kernel) rfl rfl ⟨rfl, rfl⟩ (Nat.le_of_ble_eq_true rfl) rfl ⟨Nat.le_of_ble_eq_true rfl, Nat.le_of_ble_eq_true rfl⟩ t19 (fun v9 N9 h20 => ?_) (fun E9 N9 h20 => by cases h20)
  cases h20
  show G z mX12_readTwo (d + 2) 0 0 15 [some (.ref 54), some (.int x1), some (.int x2)] [] (mrow (mrow (mrow M 54 r16) 63 r17) 64 r18) Q
  refine G.sl [(.aload_n 0, 1, 0, 0, 0, 0), (.bipush 44, 2, 0, 0, 0, nI 44)] [] (pc2 := 18) (ls2 := [some (.ref 54), some (.int x1), some (.int x2)]) (st2 := [.int (nI 44), .ref 54]) (M2 := mrow (mrow (mrow M 54 r16) 63 r17) 64 r18) (Ps := []) (by decide +kernel) rfl rfl trivial ?_
  obtain ⟨k21, hk⟩ := hk
  rcases g22 : k_sign r16 (M.1 56) (nI 44) with ⟨u23, r24⟩
  try simp only [g22] at hk
  have t25 : GM z mX12_sign (d + 1) [.ref 54, .int (nI 44)] (mrow (mrow (mrow M 54 r16) 63 r17) 64 r18) (fun rs => rs = .inl (none, mrow (mrow (mrow M 54 r24) 63 r17) 64 r18)) := by
    have q9 := c_k_sign_54 z d (mrow (mrow (mrow M 54 r16) 63 r17) 64 r18) (nI 44) k21
    try simp only [mput, mrow_same, mrow_hit, mrow_miss, mrow_sw, idr_eq, ne_eq, Nat.reduceEqDiff, not_false_eq_true, Nat.reduceLT, reduceCtorEq, g22] at q9
    exact q9
  refine G.callV (as := [.int (nI 44)]) (rest := []) (a := 54) oX12_sign lk_EvenFindersModel_239 (by decide +kernel) rfl rfl ⟨rfl, rfl⟩ (Nat.le_of_ble_eq_true rfl) rfl ⟨Nat.le_of_ble_eq_true rfl, Nat.le_of_ble_eq_true rfl⟩ t25 (fun v9 N9 h26 => ?_) (fun E9 N9 h26 => by cases h26)
  cases h26
  show G z mX12_readTwo (d + 2) 0 0 21 [some (.ref 54), some (.int x1), some (.int x2)] [] (mrow (mrow (mrow M 54 r24) 63 r17) 64 r18) Q
  refine G.sl [(.aload_n 0, 1, 0, 0, 0, 0)] [] (pc2 := 22) (ls2 := [some (.ref 54), some (.int x1), some (.int x2)]) (st2 := [.ref 54]) (M2 := mrow (mrow (mrow M 54 r24) 63 r17) 64 r18) (Ps := []) (by decide +kernel) rfl rfl trivial ?_
  obtain ⟨k27, hk⟩ := hk
  rcases g28 : fz r24 (M.1 56) r17 r18 with ⟨u29, r30, r31, r32⟩
  try simp only [g28] at hk
  have t33 : GM z mX12_readSum (d + 1) [.ref 54] (mrow (mrow (mrow M 54 r24) 63 r17) 64 r18) (fun rs => rs = .inl (none, mrow (mrow (mrow M 54 r30) 63 r31) 64 r32)) := by
    have q9 := Hz 1 (mrow (mrow (mrow M 54 r24) 63 r17) 64 r18) 
    try simp only [mput, mrow_same, mrow_hit, mrow_miss, mrow_sw, idr_eq, ne_eq, Nat.reduceEqDiff, not_false_eq_true, Nat.reduceLT, reduceCtorEq, g28] at q9
    exact q9 (by first | exact k27 | (simp only [mput, mrow_same, mrow_hit, mrow_miss, mrow_sw, idr_eq, ne_eq, Nat.reduceEqDiff, not_false_eq_true, Nat.reduceLT, reduceCtorEq]; exact k27))
  refine G.callV (as := []) (rest := []) (a := 54) oX12_readSum lk_EvenFindersModel_261 (by decide +kernel) rfl rfl ⟨rfl, rfl⟩ (Nat.le_of_ble_eq_true rfl) rfl ⟨Nat.le_of_ble_eq_true rfl, Nat.le_of_ble_eq_true rfl⟩ t33 (fun v9 N9 h34 => ?_) (fun E9 N9 h34 => by cases h34)
  cases h34
  show G z mX12_readTwo (d + 2) 0 0 25 [some (.ref 54), some (.int x1), some (.int x2)] [] (mrow (mrow (mrow M 54 r30) 63 r31) 64 r32) Q
  refine G.sl [(.aload_n 0, 1, 0, 0, 0, 0), (.bipush 93, 2, 0, 0, 0, nI 93)] [] (pc2 := 28) (ls2 := [some (.ref 54), some (.int x1), some (.int x2)]) (st2 := [.int (nI 93), .ref 54]) (M2 := mrow (mrow (mrow M 54 r30) 63 r31) 64 r32) (Ps := []) (by decide +kernel) rfl rfl trivial ?_
  obtain ⟨k35, hk⟩ := hk
  rcases g36 : k_sign r30 (M.1 56) (nI 93) with ⟨u37, r38⟩
  try simp only [g36] at hk
  have t39 : GM z mX12_sign (d + 1) [.ref 54, .int (nI 93)] (mrow (mrow (mrow M 54 r30) 63 r31) 64 r32) (fun rs => rs = .inl (none, mrow (mrow (mrow M 54 r38) 63 r31) 64 r32)) := by
    have q9 := c_k_sign_54 z d (mrow (mrow (mrow M 54 r30) 63 r31) 64 r32) (nI 93) k35
    try simp only [mput, mrow_same, mrow_hit, mrow_miss, mrow_sw, idr_eq, ne_eq, Nat.reduceEqDiff, not_false_eq_true, Nat.reduceLT, reduceCtorEq, g36] at q9
    exact q9
  refine G.callV (as := [.int (nI 93)]) (rest := []) (a := 54) oX12_sign lk_EvenFindersModel_239 (by decide +kernel) rfl rfl ⟨rfl, rfl⟩ (Nat.le_of_ble_eq_true rfl) rfl ⟨Nat.le_of_ble_eq_true rfl, Nat.le_of_ble_eq_true rfl⟩ t39 (fun v9 N9 h40 => ?_) (fun E9 N9 h40 => by cases h40)
  cases h40
  show G z mX12_readTwo (d + 2) 0 0 31 [some (.ref 54), some (.int x1), some (.int x2)] [] (mrow (mrow (mrow M 54 r38) 63 r31) 64 r32) Q
  refine G.sl [(.aload_n 0, 1, 0, 0, 0, 0), (.dup, 1, 0, 0, 0, 0), (.getfield 141, 3, 11, 7, 130, 0), (.iconst 1, 1, 0, 0, 0, nI 1), (.isub, 1, 0, 0, 0, 0), (.putfield 141, 3, 11, 7, 130, 0), (.aload_n 0, 1, 0, 0, 0, 0), (.iload_n 2, 1, 2, 0, 0, 0), (.iconst 0, 1, 0, 0, 0, nI 0)] [] (pc2 := 44) (ls2 := [some (.ref 54), some (.int x1), some (.int x2)]) (st2 := [.int (nI 0), .int x2, .ref 54]) (M2 := mput (mrow (mrow (mrow M 54 r38) 63 r31) 64 r32) 54 7 ((r38 7) - (nI 1))) (Ps := []) (by decide +kernel) rfl rfl trivial ?_
  refine G.mem (M' := mrow (mrow (mrow M 54 (upd r38 7 ((r38 7) - (nI 1)))) 63 r31) 64 r32) (by first | rfl | (simp only [mput, mrow_same, mrow_hit, mrow_miss, mrow_sw, idr_eq, ne_eq, Nat.reduceEqDiff, not_false_eq_true, Nat.reduceLT, reduceCtorEq]; done)) ?_
  obtain ⟨k41, hk⟩ := hk
  rcases g42 : k_emit (upd r38 7 ((r38 7) - (nI 1))) r31 r32 x2 (nI 0) with ⟨u43, r44, r45, r46⟩
  have t47 : GM z mX12_emit (d + 1) [.ref 54, .int x2, .int (nI 0)] (mrow (mrow (mrow M 54 (upd r38 7 ((r38 7) - (nI 1)))) 63 r31) 64 r32) (fun rs => rs = .inl (none, mrow (mrow (mrow M 54 r44) 63 r45) 64 r46)) := by
    have q9 := c_k_emit_54 z d (mrow (mrow (mrow M 54 (upd r38 7 ((r38 7) - (nI 1)))) 63 r31) 64 r32) x2 (nI 0) k41
    try simp only [mput, mrow_same, mrow_hit, mrow_miss, mrow_sw, idr_eq, ne_eq, Nat.reduceEqDiff, not_false_eq_true, Nat.reduceLT, reduceCtorEq, g42] at q9
    exact q9
  refine G.callV (as := [.int x2, .int (nI 0)]) (rest := []) (a := 54) oX12_emit lk_EvenFindersModel_252 (by decide +kernel) rfl rfl ⟨rfl, rfl⟩ (Nat.le_of_ble_eq_true rfl) rfl ⟨Nat.le_of_ble_eq_true rfl, Nat.le_of_ble_eq_true rfl⟩ t47 (fun v9 N9 h48 => ?_) (fun E9 N9 h48 => by cases h48)
  cases h48
  show G z mX12_readTwo (d + 2) 0 0 47 [some (.ref 54), some (.int x1), some (.int x2)] [] (mrow (mrow (mrow M 54 r44) 63 r45) 64 r46) Q
  exact G.retv (by decide +kernel) rfl (Nat.le_of_ble_eq_true rfl) (Nat.le_of_ble_eq_true rfl) ((by rw [hQ]; simp only [k_readTwo, g2, g8, g14, g22, g28, g36, g42, mrow_self]))
set_option maxHeartbeats 4000000 in
set_option maxRecDepth 3000 in
theorem c_k_readUnit_54 (z : Zp) (d : Nat) (M : Mem) (fz : (Nat → Int32) → (Nat → Int32) → (Nat → Int32) → (Nat → Int32) → Int32 × (Nat → Int32) × (Nat → Int32) × (Nat → Int32)) (gz : (Nat → Int32) → (Nat → Int32) → (Nat → Int32) → (Nat → Int32) → Prop) (Hz : ∀ (j : Nat) (M : Mem) , gz (M.1 54) (M.1 56) (M.1 63) (M.1 64) → GM z mX12_readSum (d + j) [.ref 54] M (fun rs => rs = .inl (none, mrow (mrow (mrow M 54 ((fz (M.1 54) (M.1 56) (M.1 63) (M.1 64)).2.1)) 63 ((fz (M.1 54) (M.1 56) (M.1 63) (M.1 64)).2.2.1)) 64 ((fz (M.1 54) (M.1 56) (M.1 63) (M.1 64)).2.2.2)))) (hk : k_readUnit_ok fz gz (M.1 54) (M.1 56) (M.1 63) (M.1 64)) : GM z mX12_readUnit (d + 6) [.ref 54] M (fun rs => rs = .inl (none, mrow (mrow (mrow M 54 ((k_readUnit fz (M.1 54) (M.1 56) (M.1 63) (M.1 64)).2.1)) 63 ((k_readUnit fz (M.1 54) (M.1 56) (M.1 63) (M.1 64)).2.2.1)) 64 ((k_readUnit fz (M.1 54) (M.1 56) (M.1 63) (M.1 64)).2.2.2))) := by
  simp only [k_readUnit_ok] at hk
  refine GM.of oX12_readUnit.1 (Nat.le_of_ble_eq_true rfl) ?_
  show G z mX12_readUnit (d + 6) 0 0 0 [some (.ref 54), none] [] M _
  obtain ⟨Q, hQ⟩ : ∃ Q : Rs → Prop, Q = (fun rs => rs = .inl (none, mrow (mrow (mrow M 54 ((k_readUnit fz (M.1 54) (M.1 56) (M.1 63) (M.1 64)).2.1)) 63 ((k_readUnit fz (M.1 54) (M.1 56) (M.1 63) (M.1 64)).2.2.1)) 64 ((k_readUnit fz (M.1 54) (M.1 56) (M.1 63) (M.1 64)).2.2.2))) := ⟨_, rfl⟩
  rw [← hQ]
  refine G.sl [(.aload_n 0, 1, 0, 0, 0, 0)] [] (pc2 := 1) (ls2 := [some (.ref 54), none]) (st2 := [.ref 54]) (M2 := M) (Ps := []) (by decide +kernel) rfl rfl trivial ?_
  obtain ⟨k1, hk⟩ := hk
  have t2 : GM z mX12_fine (d + 5) [.ref 54] M (fun rs => rs = .inl (some (.int (k_fine (M.1 54))), M)) := by
    have q9 := c_k_fine_54 z (d + 5) M 
    try simp only [mput, mrow_same, mrow_hit, mrow_miss, mrow_sw, idr_eq, ne_eq, Nat.reduceEqDiff, not_false_eq_true, Nat.reduceLT, reduceCtorEq] at q9
    exact q9
  refine G.callV (as := []) (rest := []) (a := 54) oX12_fine lk_EvenFindersModel_130 (by decide +kernel) rfl rfl ⟨rfl, rfl⟩ (Nat.le_of_ble_eq_true rfl) rfl ⟨Nat.le_of_ble_eq_true rfl, Nat.le_of_ble_eq_true rfl⟩ t2 (fun v9 N9 h3 => ?_) (fun E9 N9 h3 => by cases h3)
  cases h3
  show G z mX12_readUnit (d + 6) 0 0 4 [some (.ref 54), none] [.int (k_fine (M.1 54))] M Q
  refine G.if_ne (off := (4)) (tgt := 8) (by decide +kernel) rfl (fun c4 => ?_) (fun c4 => ?_)
  · skip
    rw [if_neg c4] at hk
    refine G.sl [(.aload_n 0, 1, 0, 0, 0, 0)] [] (pc2 := 9) (ls2 := [some (.ref 54), none]) (st2 := [.ref 54]) (M2 := M) (Ps := []) (by decide +kernel) rfl rfl trivial ?_
    obtain ⟨k5, hk⟩ := hk
    rcases g6 : k_here (M.1 54) (M.1 56) with ⟨v7, r8⟩
    try simp only [g6] at hk
    have t9 : GM z mX12_here (d + 5) [.ref 54] M (fun rs => rs = .inl (some (.int v7), mrow M 54 r8)) := by
      have q9 := c_k_here_54 z (d + 5) M k5
      try simp only [mput, mrow_same, mrow_hit, mrow_miss, mrow_sw, idr_eq, ne_eq, Nat.reduceEqDiff, not_false_eq_true, Nat.reduceLT, reduceCtorEq, g6] at q9
      exact q9
    refine G.callV (as := []) (rest := []) (a := 54) oX12_here lk_EvenFindersModel_113 (by decide +kernel) rfl rfl ⟨rfl, rfl⟩ (Nat.le_of_ble_eq_true rfl) rfl ⟨Nat.le_of_ble_eq_true rfl, Nat.le_of_ble_eq_true rfl⟩ t9 (fun v9 N9 h10 => ?_) (fun E9 N9 h10 => by cases h10)
    cases h10
    show G z mX12_readUnit (d + 6) 0 0 12 [some (.ref 54), none] [.int v7] (mrow M 54 r8) Q
    refine G.sl [(.bipush 40, 2, 0, 0, 0, nI 40)] [] (pc2 := 14) (ls2 := [some (.ref 54), none]) (st2 := [.int (nI 40), .int v7]) (M2 := mrow M 54 r8) (Ps := []) (by decide +kernel) rfl rfl trivial ?_
    refine G.ic_ne (off := (31)) (tgt := 45) (by decide +kernel) rfl (fun c11 => ?_) (fun c11 => ?_)
    · skip
      rw [if_neg c11] at hk
      refine G.sl [(.aload_n 0, 1, 0, 0, 0, 0)] [] (pc2 := 46) (ls2 := [some (.ref 54), none]) (st2 := [.ref 54]) (M2 := mrow M 54 r8) (Ps := []) (by decide +kernel) rfl rfl trivial ?_
      obtain ⟨k12, hk⟩ := hk
      rcases g13 : k_here r8 (M.1 56) with ⟨v14, r15⟩
      try simp only [g13] at hk
      have t16 : GM z mX12_here (d + 5) [.ref 54] (mrow M 54 r8) (fun rs => rs = .inl (some (.int v14), mrow M 54 r15)) := by
        have q9 := c_k_here_54 z (d + 5) (mrow M 54 r8) k12
        try simp only [mput, mrow_same, mrow_hit, mrow_miss, mrow_sw, idr_eq, ne_eq, Nat.reduceEqDiff, not_false_eq_true, Nat.reduceLT, reduceCtorEq, g13] at q9
        exact q9
      refine G.callV (as := []) (rest := []) (a := 54) oX12_here lk_EvenFindersModel_113 (by decide +kernel) rfl rfl ⟨rfl, rfl⟩ (Nat.le_of_ble_eq_true rfl) rfl ⟨Nat.le_of_ble_eq_true rfl, Nat.le_of_ble_eq_true rfl⟩ t16 (fun v9 N9 h17 => ?_) (fun E9 N9 h17 => by cases h17)
      cases h17
      show G z mX12_readUnit (d + 6) 0 0 49 [some (.ref 54), none] [.int v14] (mrow M 54 r15) Q
      obtain ⟨k18, hk⟩ := hk
      have t19 : GM z mX12_isDigit (d + 5) [.int v14] (mrow M 54 r15) (fun rs => rs = .inl (some (.int (k_isDigit v14)), mrow M 54 r15)) := by
        have q9 := c_k_isDigit z (d + 5) (mrow M 54 r15) v14
        try simp only [mput, mrow_same, mrow_hit, mrow_miss, mrow_sw, idr_eq, ne_eq, Nat.reduceEqDiff, not_false_eq_true, Nat.reduceLT, reduceCtorEq] at q9
        exact q9
      refine G.callS (as := [.int v14]) (rest := []) oX12_isDigit lk_EvenFindersModel_134 (by decide +kernel) rfl (Nat.le_of_ble_eq_true rfl) rfl ⟨Nat.le_of_ble_eq_true rfl, Nat.le_of_ble_eq_true rfl⟩ t19 (fun v9 N9 h20 => ?_) (fun E9 N9 h20 => by cases h20)
      cases h20
      show G z mX12_readUnit (d + 6) 0 0 52 [some (.ref 54), none] [.int (k_isDigit v14)] (mrow M 54 r15) Q
      refine G.if_eq (off := (19)) (tgt := 71) (by decide +kernel) rfl (fun c21 => ?_) (fun c21 => ?_)
      · skip
        rw [if_pos c21] at hk
        refine G.sl [(.aload_n 0, 1, 0, 0, 0, 0)] [] (pc2 := 72) (ls2 := [some (.ref 54), none]) (st2 := [.ref 54]) (M2 := mrow M 54 r15) (Ps := []) (by decide +kernel) rfl rfl trivial ?_
        obtain ⟨k22, hk⟩ := hk
        rcases g23 : k_word r15 (M.1 56) with ⟨v24, r25⟩
        try simp only [g23] at hk
        have t26 : GM z mX12_word (d + 5) [.ref 54] (mrow M 54 r15) (fun rs => rs = .inl (some (.int v24), mrow M 54 r25)) := by
          have q9 := c_k_word_54 z (d + 4) (mrow M 54 r15) k22
          try simp only [mput, mrow_same, mrow_hit, mrow_miss, mrow_sw, idr_eq, ne_eq, Nat.reduceEqDiff, not_false_eq_true, Nat.reduceLT, reduceCtorEq, g23] at q9
          exact q9
        refine G.callV (as := []) (rest := []) (a := 54) oX12_word lk_EvenFindersModel_224 (by decide +kernel) rfl rfl ⟨rfl, rfl⟩ (Nat.le_of_ble_eq_true rfl) rfl ⟨Nat.le_of_ble_eq_true rfl, Nat.le_of_ble_eq_true rfl⟩ t26 (fun v9 N9 h27 => ?_) (fun E9 N9 h27 => by cases h27)
        cases h27
        show G z mX12_readUnit (d + 6) 0 0 75 [some (.ref 54), none] [.int v24] (mrow M 54 r25) Q
        refine G.sl [(.ldc_w 278, 3, 1, 10, 0, 0)] [] (pc2 := 78) (ls2 := [some (.ref 54), none]) (st2 := [.ref 1010, .int v24]) (M2 := mrow M 54 r25) (Ps := []) (by decide +kernel) rfl rfl trivial ?_
        obtain ⟨k28, hk⟩ := hk
        have t29 : GM z mX12_of (d + 5) [.ref 1010] (mrow M 54 r25) (fun rs => rs = .inl (some (.int k_of_s10), mrow M 54 r25)) := by
          have q9 := c_k_of_s10 z (d + 1) (mrow M 54 r25) 
          try simp only [mput, mrow_same, mrow_hit, mrow_miss, mrow_sw, idr_eq, ne_eq, Nat.reduceEqDiff, not_false_eq_true, Nat.reduceLT, reduceCtorEq] at q9
          exact q9
        refine G.callS (as := [.ref 1010]) (rest := [.int v24]) oX12_of lk_EvenFindersModel_198 (by decide +kernel) rfl (Nat.le_of_ble_eq_true rfl) rfl ⟨Nat.le_of_ble_eq_true rfl, Nat.le_of_ble_eq_true rfl⟩ t29 (fun v9 N9 h30 => ?_) (fun E9 N9 h30 => by cases h30)
        cases h30
        show G z mX12_readUnit (d + 6) 0 0 81 [some (.ref 54), none] [.int k_of_s10, .int v24] (mrow M 54 r25) Q
        refine G.ic_ne (off := (13)) (tgt := 94) (by decide +kernel) rfl (fun c31 => ?_) (fun c31 => ?_)
        · skip
          rw [if_neg c31] at hk
          refine G.sl [(.aload_n 0, 1, 0, 0, 0, 0)] [] (pc2 := 95) (ls2 := [some (.ref 54), none]) (st2 := [.ref 54]) (M2 := mrow M 54 r25) (Ps := []) (by decide +kernel) rfl rfl trivial ?_
          obtain ⟨k32, hk⟩ := hk
          rcases g33 : k_word r25 (M.1 56) with ⟨v34, r35⟩
          try simp only [g33] at hk
          have t36 : GM z mX12_word (d + 5) [.ref 54] (mrow M 54 r25) (fun rs => rs = .inl (some (.int v34), mrow M 54 r35)) := by
            have q9 := c_k_word_54 z (d + 4) (mrow M 54 r25) k32
            try simp only [mput, mrow_same, mrow_hit, mrow_miss, mrow_sw, idr_eq, ne_eq, Nat.reduceEqDiff, not_false_eq_true, Nat.reduceLT, reduceCtorEq, g33] at q9
            exact q9
          refine G.callV (as := []) (rest := []) (a := 54) oX12_word lk_EvenFindersModel_224 (by decide +kernel) rfl rfl ⟨rfl, rfl⟩ (Nat.le_of_ble_eq_true rfl) rfl ⟨Nat.le_of_ble_eq_true rfl, Nat.le_of_ble_eq_true rfl⟩ t36 (fun v9 N9 h37 => ?_) (fun E9 N9 h37 => by cases h37)
          cases h37
          show G z mX12_readUnit (d + 6) 0 0 98 [some (.ref 54), none] [.int v34] (mrow M 54 r35) Q
          refine G.sl [(.ldc_w 283, 3, 1, 11, 0, 0)] [] (pc2 := 101) (ls2 := [some (.ref 54), none]) (st2 := [.ref 1011, .int v34]) (M2 := mrow M 54 r35) (Ps := []) (by decide +kernel) rfl rfl trivial ?_
          obtain ⟨k38, hk⟩ := hk
          have t39 : GM z mX12_of (d + 5) [.ref 1011] (mrow M 54 r35) (fun rs => rs = .inl (some (.int k_of_s11), mrow M 54 r35)) := by
            have q9 := c_k_of_s11 z (d + 1) (mrow M 54 r35) 
            try simp only [mput, mrow_same, mrow_hit, mrow_miss, mrow_sw, idr_eq, ne_eq, Nat.reduceEqDiff, not_false_eq_true, Nat.reduceLT, reduceCtorEq] at q9
            exact q9
          refine G.callS (as := [.ref 1011]) (rest := [.int v34]) oX12_of lk_EvenFindersModel_198 (by decide +kernel) rfl (Nat.le_of_ble_eq_true rfl) rfl ⟨Nat.le_of_ble_eq_true rfl, Nat.le_of_ble_eq_true rfl⟩ t39 (fun v9 N9 h40 => ?_) (fun E9 N9 h40 => by cases h40)
          cases h40
          show G z mX12_readUnit (d + 6) 0 0 104 [some (.ref 54), none] [.int k_of_s11, .int v34] (mrow M 54 r35) Q
          refine G.ic_ne (off := (13)) (tgt := 117) (by decide +kernel) rfl (fun c41 => ?_) (fun c41 => ?_)
          · skip
            rw [if_neg c41] at hk
            refine G.sl [(.aload_n 0, 1, 0, 0, 0, 0)] [] (pc2 := 118) (ls2 := [some (.ref 54), none]) (st2 := [.ref 54]) (M2 := mrow M 54 r35) (Ps := []) (by decide +kernel) rfl rfl trivial ?_
            obtain ⟨k42, hk⟩ := hk
            rcases g43 : k_factHere r35 (M.1 56) with ⟨v44, r45⟩
            try simp only [g43] at hk
            have t46 : GM z mX12_factHere (d + 5) [.ref 54] (mrow M 54 r35) (fun rs => rs = .inl (some (.int v44), mrow M 54 r45)) := by
              have q9 := c_k_factHere_54 z d (mrow M 54 r35) k42
              try simp only [mput, mrow_same, mrow_hit, mrow_miss, mrow_sw, idr_eq, ne_eq, Nat.reduceEqDiff, not_false_eq_true, Nat.reduceLT, reduceCtorEq, g43] at q9
              exact q9
            refine G.callV (as := []) (rest := []) (a := 54) oX12_factHere lk_EvenFindersModel_285 (by decide +kernel) rfl rfl ⟨rfl, rfl⟩ (Nat.le_of_ble_eq_true rfl) rfl ⟨Nat.le_of_ble_eq_true rfl, Nat.le_of_ble_eq_true rfl⟩ t46 (fun v9 N9 h47 => ?_) (fun E9 N9 h47 => by cases h47)
            cases h47
            show G z mX12_readUnit (d + 6) 0 0 121 [some (.ref 54), none] [.int v44] (mrow M 54 r45) Q
            refine G.sl [(.istore_n 1, 1, 1, 0, 0, 0), (.iload_n 1, 1, 1, 0, 0, 0), (.iconst (-1), 1, 0, 0, 0, (-1))] [] (pc2 := 124) (ls2 := [some (.ref 54), some (.int v44)]) (st2 := [.int ((-1)), .int v44]) (M2 := mrow M 54 r45) (Ps := []) (by decide +kernel) rfl rfl trivial ?_
            refine G.ic_ne (off := (12)) (tgt := 136) (by decide +kernel) rfl (fun c48 => ?_) (fun c48 => ?_)
            · skip
              rw [if_neg c48] at hk
              refine G.sl [(.aload_n 0, 1, 0, 0, 0, 0)] [] (pc2 := 137) (ls2 := [some (.ref 54), some (.int v44)]) (st2 := [.ref 54]) (M2 := mrow M 54 r45) (Ps := []) (by decide +kernel) rfl rfl trivial ?_
              obtain ⟨k49, hk⟩ := hk
              have t50 : GM z mX12_fine (d + 5) [.ref 54] (mrow M 54 r45) (fun rs => rs = .inl (some (.int (k_fine r45)), mrow M 54 r45)) := by
                have q9 := c_k_fine_54 z (d + 5) (mrow M 54 r45) 
                try simp only [mput, mrow_same, mrow_hit, mrow_miss, mrow_sw, idr_eq, ne_eq, Nat.reduceEqDiff, not_false_eq_true, Nat.reduceLT, reduceCtorEq] at q9
                exact q9
              refine G.callV (as := []) (rest := []) (a := 54) oX12_fine lk_EvenFindersModel_130 (by decide +kernel) rfl rfl ⟨rfl, rfl⟩ (Nat.le_of_ble_eq_true rfl) rfl ⟨Nat.le_of_ble_eq_true rfl, Nat.le_of_ble_eq_true rfl⟩ t50 (fun v9 N9 h51 => ?_) (fun E9 N9 h51 => by cases h51)
              cases h51
              show G z mX12_readUnit (d + 6) 0 0 140 [some (.ref 54), some (.int v44)] [.int (k_fine r45)] (mrow M 54 r45) Q
              refine G.if_ne (off := (4)) (tgt := 144) (by decide +kernel) rfl (fun c52 => ?_) (fun c52 => ?_)
              · skip
                rw [if_neg c52] at hk
                refine G.sl [(.aload_n 0, 1, 0, 0, 0, 0)] [] (pc2 := 145) (ls2 := [some (.ref 54), some (.int v44)]) (st2 := [.ref 54]) (M2 := mrow M 54 r45) (Ps := []) (by decide +kernel) rfl rfl trivial ?_
                obtain ⟨k53, hk⟩ := hk
                rcases g54 : k_pass r45 (M.1 56) with ⟨u55, r56⟩
                try simp only [g54] at hk
                have t57 : GM z mX12_pass (d + 5) [.ref 54] (mrow M 54 r45) (fun rs => rs = .inl (none, mrow M 54 r56)) := by
                  have q9 := c_k_pass_54 z (d + 4) (mrow M 54 r45) k53
                  try simp only [mput, mrow_same, mrow_hit, mrow_miss, mrow_sw, idr_eq, ne_eq, Nat.reduceEqDiff, not_false_eq_true, Nat.reduceLT, reduceCtorEq, g54] at q9
                  exact q9
                refine G.callV (as := []) (rest := []) (a := 54) oX12_pass lk_EvenFindersModel_233 (by decide +kernel) rfl rfl ⟨rfl, rfl⟩ (Nat.le_of_ble_eq_true rfl) rfl ⟨Nat.le_of_ble_eq_true rfl, Nat.le_of_ble_eq_true rfl⟩ t57 (fun v9 N9 h58 => ?_) (fun E9 N9 h58 => by cases h58)
                cases h58
                show G z mX12_readUnit (d + 6) 0 0 148 [some (.ref 54), some (.int v44)] [] (mrow M 54 r56) Q
                refine G.sl [(.aload_n 0, 1, 0, 0, 0, 0), (.iconst 1, 1, 0, 0, 0, nI 1), (.iload_n 1, 1, 1, 0, 0, 0)] [] (pc2 := 151) (ls2 := [some (.ref 54), some (.int v44)]) (st2 := [.int v44, .int (nI 1), .ref 54]) (M2 := mrow M 54 r56) (Ps := []) (by decide +kernel) rfl rfl trivial ?_
                obtain ⟨k59, hk⟩ := hk
                rcases g60 : k_emit r56 (M.1 63) (M.1 64) (nI 1) v44 with ⟨u61, r62, r63, r64⟩
                have t65 : GM z mX12_emit (d + 5) [.ref 54, .int (nI 1), .int v44] (mrow M 54 r56) (fun rs => rs = .inl (none, mrow (mrow (mrow M 54 r62) 63 r63) 64 r64)) := by
                  have q9 := c_k_emit_54 z (d + 4) (mrow M 54 r56) (nI 1) v44 k59
                  try simp only [mput, mrow_same, mrow_hit, mrow_miss, mrow_sw, idr_eq, ne_eq, Nat.reduceEqDiff, not_false_eq_true, Nat.reduceLT, reduceCtorEq, g60] at q9
                  exact q9
                refine G.callV (as := [.int (nI 1), .int v44]) (rest := []) (a := 54) oX12_emit lk_EvenFindersModel_252 (by decide +kernel) rfl rfl ⟨rfl, rfl⟩ (Nat.le_of_ble_eq_true rfl) rfl ⟨Nat.le_of_ble_eq_true rfl, Nat.le_of_ble_eq_true rfl⟩ t65 (fun v9 N9 h66 => ?_) (fun E9 N9 h66 => by cases h66)
                cases h66
                show G z mX12_readUnit (d + 6) 0 0 154 [some (.ref 54), some (.int v44)] [] (mrow (mrow (mrow M 54 r62) 63 r63) 64 r64) Q
                exact G.retv (by decide +kernel) rfl (Nat.le_of_ble_eq_true rfl) (Nat.le_of_ble_eq_true rfl) ((by rw [hQ]; simp only [k_readUnit, if_neg c4, g6, if_neg c11, g13, if_pos c21, g23, if_neg c31, g33, if_neg c41, g43, if_neg c48, if_neg c52, g54, g60, mrow_self]))
              · skip
                rw [if_pos c52] at hk
                refine G.mem (M' := mrow (mrow (mrow M 54 r45) 63 (M.1 63)) 64 (M.1 64)) ((((mrow_id (N := mrow M 54 r45) (c := 63) (f := M.1 63) (by first | rfl | (simp only [mput, mrow_same, mrow_hit, mrow_miss, mrow_sw, idr_eq, ne_eq, Nat.reduceEqDiff, not_false_eq_true, Nat.reduceLT, reduceCtorEq]; done))).symm).trans (mrow_id (N := mrow (mrow M 54 r45) 63 (M.1 63)) (c := 64) (f := M.1 64) (by first | rfl | (simp only [mput, mrow_same, mrow_hit, mrow_miss, mrow_sw, idr_eq, ne_eq, Nat.reduceEqDiff, not_false_eq_true, Nat.reduceLT, reduceCtorEq]; done))).symm).trans (by first | rfl | (simp only [mput, mrow_same, mrow_hit, mrow_miss, mrow_sw, idr_eq, ne_eq, Nat.reduceEqDiff, not_false_eq_true, Nat.reduceLT, reduceCtorEq]; done))) ?_
                exact G.retv (by decide +kernel) rfl (Nat.le_of_ble_eq_true rfl) (Nat.le_of_ble_eq_true rfl) ((by rw [hQ]; simp only [k_readUnit, if_neg c4, g6, if_neg c11, g13, if_pos c21, g23, if_neg c31, g33, if_neg c41, g43, if_neg c48, if_pos c52, mrow_self]))
            · skip
              rw [if_pos c48] at hk
              refine G.sl [(.aload_n 0, 1, 0, 0, 0, 0), (.iconst 1, 1, 0, 0, 0, nI 1), (.aload_n 0, 1, 0, 0, 0, 0), (.getfield 107, 3, 11, 4, 127, 0)] [] (pc2 := 133) (ls2 := [some (.ref 54), some (.int v44)]) (st2 := [.int (r45 4), .int (nI 1), .ref 54]) (M2 := mrow M 54 r45) (Ps := []) (by decide +kernel) rfl rfl trivial ?_
              obtain ⟨k67, hk⟩ := hk
              rcases g68 : k_wrong r45 (nI 1) (r45 4) with ⟨u69, r70⟩
              try simp only [g68] at hk
              have t71 : GM z mX12_wrong (d + 5) [.ref 54, .int (nI 1), .int (r45 4)] (mrow M 54 r45) (fun rs => rs = .inl (none, mrow M 54 r70)) := by
                have q9 := c_k_wrong_54 z (d + 5) (mrow M 54 r45) (nI 1) (r45 4)
                try simp only [mput, mrow_same, mrow_hit, mrow_miss, mrow_sw, idr_eq, ne_eq, Nat.reduceEqDiff, not_false_eq_true, Nat.reduceLT, reduceCtorEq, g68] at q9
                exact q9
              refine G.callV (as := [.int (nI 1), .int (r45 4)]) (rest := []) (a := 54) oX12_wrong lk_EvenFindersModel_137 (by decide +kernel) rfl rfl ⟨rfl, rfl⟩ (Nat.le_of_ble_eq_true rfl) rfl ⟨Nat.le_of_ble_eq_true rfl, Nat.le_of_ble_eq_true rfl⟩ t71 (fun v9 N9 h72 => ?_) (fun E9 N9 h72 => by cases h72)
              cases h72
              show G z mX12_readUnit (d + 6) 0 0 136 [some (.ref 54), some (.int v44)] [] (mrow M 54 r70) Q
              refine G.sl [(.aload_n 0, 1, 0, 0, 0, 0)] [] (pc2 := 137) (ls2 := [some (.ref 54), some (.int v44)]) (st2 := [.ref 54]) (M2 := mrow M 54 r70) (Ps := []) (by decide +kernel) rfl rfl trivial ?_
              obtain ⟨k73, hk⟩ := hk
              have t74 : GM z mX12_fine (d + 5) [.ref 54] (mrow M 54 r70) (fun rs => rs = .inl (some (.int (k_fine r70)), mrow M 54 r70)) := by
                have q9 := c_k_fine_54 z (d + 5) (mrow M 54 r70) 
                try simp only [mput, mrow_same, mrow_hit, mrow_miss, mrow_sw, idr_eq, ne_eq, Nat.reduceEqDiff, not_false_eq_true, Nat.reduceLT, reduceCtorEq] at q9
                exact q9
              refine G.callV (as := []) (rest := []) (a := 54) oX12_fine lk_EvenFindersModel_130 (by decide +kernel) rfl rfl ⟨rfl, rfl⟩ (Nat.le_of_ble_eq_true rfl) rfl ⟨Nat.le_of_ble_eq_true rfl, Nat.le_of_ble_eq_true rfl⟩ t74 (fun v9 N9 h75 => ?_) (fun E9 N9 h75 => by cases h75)
              cases h75
              show G z mX12_readUnit (d + 6) 0 0 140 [some (.ref 54), some (.int v44)] [.int (k_fine r70)] (mrow M 54 r70) Q
              refine G.if_ne (off := (4)) (tgt := 144) (by decide +kernel) rfl (fun c76 => ?_) (fun c76 => ?_)
              · skip
                rw [if_neg c76] at hk
                refine G.sl [(.aload_n 0, 1, 0, 0, 0, 0)] [] (pc2 := 145) (ls2 := [some (.ref 54), some (.int v44)]) (st2 := [.ref 54]) (M2 := mrow M 54 r70) (Ps := []) (by decide +kernel) rfl rfl trivial ?_
                obtain ⟨k77, hk⟩ := hk
                rcases g78 : k_pass r70 (M.1 56) with ⟨u79, r80⟩
                try simp only [g78] at hk
                have t81 : GM z mX12_pass (d + 5) [.ref 54] (mrow M 54 r70) (fun rs => rs = .inl (none, mrow M 54 r80)) := by
                  have q9 := c_k_pass_54 z (d + 4) (mrow M 54 r70) k77
                  try simp only [mput, mrow_same, mrow_hit, mrow_miss, mrow_sw, idr_eq, ne_eq, Nat.reduceEqDiff, not_false_eq_true, Nat.reduceLT, reduceCtorEq, g78] at q9
                  exact q9
                refine G.callV (as := []) (rest := []) (a := 54) oX12_pass lk_EvenFindersModel_233 (by decide +kernel) rfl rfl ⟨rfl, rfl⟩ (Nat.le_of_ble_eq_true rfl) rfl ⟨Nat.le_of_ble_eq_true rfl, Nat.le_of_ble_eq_true rfl⟩ t81 (fun v9 N9 h82 => ?_) (fun E9 N9 h82 => by cases h82)
                cases h82
                show G z mX12_readUnit (d + 6) 0 0 148 [some (.ref 54), some (.int v44)] [] (mrow M 54 r80) Q
                refine G.sl [(.aload_n 0, 1, 0, 0, 0, 0), (.iconst 1, 1, 0, 0, 0, nI 1), (.iload_n 1, 1, 1, 0, 0, 0)] [] (pc2 := 151) (ls2 := [some (.ref 54), some (.int v44)]) (st2 := [.int v44, .int (nI 1), .ref 54]) (M2 := mrow M 54 r80) (Ps := []) (by decide +kernel) rfl rfl trivial ?_
                obtain ⟨k83, hk⟩ := hk
                rcases g84 : k_emit r80 (M.1 63) (M.1 64) (nI 1) v44 with ⟨u85, r86, r87, r88⟩
                have t89 : GM z mX12_emit (d + 5) [.ref 54, .int (nI 1), .int v44] (mrow M 54 r80) (fun rs => rs = .inl (none, mrow (mrow (mrow M 54 r86) 63 r87) 64 r88)) := by
                  have q9 := c_k_emit_54 z (d + 4) (mrow M 54 r80) (nI 1) v44 k83
                  try simp only [mput, mrow_same, mrow_hit, mrow_miss, mrow_sw, idr_eq, ne_eq, Nat.reduceEqDiff, not_false_eq_true, Nat.reduceLT, reduceCtorEq, g84] at q9
                  exact q9
                refine G.callV (as := [.int (nI 1), .int v44]) (rest := []) (a := 54) oX12_emit lk_EvenFindersModel_252 (by decide +kernel) rfl rfl ⟨rfl, rfl⟩ (Nat.le_of_ble_eq_true rfl) rfl ⟨Nat.le_of_ble_eq_true rfl, Nat.le_of_ble_eq_true rfl⟩ t89 (fun v9 N9 h90 => ?_) (fun E9 N9 h90 => by cases h90)
                cases h90
                show G z mX12_readUnit (d + 6) 0 0 154 [some (.ref 54), some (.int v44)] [] (mrow (mrow (mrow M 54 r86) 63 r87) 64 r88) Q
                exact G.retv (by decide +kernel) rfl (Nat.le_of_ble_eq_true rfl) (Nat.le_of_ble_eq_true rfl) ((by rw [hQ]; simp only [k_readUnit, if_neg c4, g6, if_neg c11, g13, if_pos c21, g23, if_neg c31, g33, if_neg c41, g43, if_pos c48, g68, if_neg c76, g78, g84, mrow_self]))
              · skip
                rw [if_pos c76] at hk
                refine G.mem (M' := mrow (mrow (mrow M 54 r70) 63 (M.1 63)) 64 (M.1 64)) ((((mrow_id (N := mrow M 54 r70) (c := 63) (f := M.1 63) (by first | rfl | (simp only [mput, mrow_same, mrow_hit, mrow_miss, mrow_sw, idr_eq, ne_eq, Nat.reduceEqDiff, not_false_eq_true, Nat.reduceLT, reduceCtorEq]; done))).symm).trans (mrow_id (N := mrow (mrow M 54 r70) 63 (M.1 63)) (c := 64) (f := M.1 64) (by first | rfl | (simp only [mput, mrow_same, mrow_hit, mrow_miss, mrow_sw, idr_eq, ne_eq, Nat.reduceEqDiff, not_false_eq_true, Nat.reduceLT, reduceCtorEq]; done))).symm).trans (by first | rfl | (simp only [mput, mrow_same, mrow_hit, mrow_miss, mrow_sw, idr_eq, ne_eq, Nat.reduceEqDiff, not_false_eq_true, Nat.reduceLT, reduceCtorEq]; done))) ?_
                exact G.retv (by decide +kernel) rfl (Nat.le_of_ble_eq_true rfl) (Nat.le_of_ble_eq_true rfl) ((by rw [hQ]; simp only [k_readUnit, if_neg c4, g6, if_neg c11, g13, if_pos c21, g23, if_neg c31, g33, if_neg c41, g43, if_pos c48, g68, if_pos c76, mrow_self]))
          · skip
            rw [if_pos c41] at hk
            refine G.sl [(.aload_n 0, 1, 0, 0, 0, 0), (.iconst 4, 1, 0, 0, 0, nI 4), (.bipush 7, 2, 0, 0, 0, nI 7)] [] (pc2 := 111) (ls2 := [some (.ref 54), none]) (st2 := [.int (nI 7), .int (nI 4), .ref 54]) (M2 := mrow M 54 r35) (Ps := []) (by decide +kernel) rfl rfl trivial ?_
            obtain ⟨k91, hk⟩ := hk
            rcases g92 : k_readTwo fz r35 (M.1 56) (M.1 63) (M.1 64) (nI 4) (nI 7) with ⟨u93, r94, r95, r96⟩
            have t97 : GM z mX12_readTwo (d + 5) [.ref 54, .int (nI 4), .int (nI 7)] (mrow M 54 r35) (fun rs => rs = .inl (none, mrow (mrow (mrow M 54 r94) 63 r95) 64 r96)) := by
              have q9 := c_k_readTwo_54 z (d + 3) (mrow M 54 r35) (nI 4) (nI 7) fz gz Hz k91
              try simp only [mput, mrow_same, mrow_hit, mrow_miss, mrow_sw, idr_eq, ne_eq, Nat.reduceEqDiff, not_false_eq_true, Nat.reduceLT, reduceCtorEq, g92] at q9
              exact q9
            refine G.callV (as := [.int (nI 4), .int (nI 7)]) (rest := []) (a := 54) oX12_readTwo lk_EvenFindersModel_280 (by decide +kernel) rfl rfl ⟨rfl, rfl⟩ (Nat.le_of_ble_eq_true rfl) rfl ⟨Nat.le_of_ble_eq_true rfl, Nat.le_of_ble_eq_true rfl⟩ t97 (fun v9 N9 h98 => ?_) (fun E9 N9 h98 => by cases h98)
            cases h98
            show G z mX12_readUnit (d + 6) 0 0 114 [some (.ref 54), none] [] (mrow (mrow (mrow M 54 r94) 63 r95) 64 r96) Q
            refine G.sl [(.goto 40, 3, 154, 0, 0, 0)] [] (pc2 := 154) (ls2 := [some (.ref 54), none]) (st2 := []) (M2 := mrow (mrow (mrow M 54 r94) 63 r95) 64 r96) (Ps := []) (by decide +kernel) rfl rfl trivial ?_
            exact G.retv (by decide +kernel) rfl (Nat.le_of_ble_eq_true rfl) (Nat.le_of_ble_eq_true rfl) ((by rw [hQ]; simp only [k_readUnit, if_neg c4, g6, if_neg c11, g13, if_pos c21, g23, if_neg c31, g33, if_pos c41, g92, mrow_self]))
        · skip
          rw [if_pos c31] at hk
          refine G.sl [(.aload_n 0, 1, 0, 0, 0, 0), (.iconst 5, 1, 0, 0, 0, nI 5), (.bipush 6, 2, 0, 0, 0, nI 6)] [] (pc2 := 88) (ls2 := [some (.ref 54), none]) (st2 := [.int (nI 6), .int (nI 5), .ref 54]) (M2 := mrow M 54 r25) (Ps := []) (by decide +kernel) rfl rfl trivial ?_
          obtain ⟨k99, hk⟩ := hk
          rcases g100 : k_readTwo fz r25 (M.1 56) (M.1 63) (M.1 64) (nI 5) (nI 6) with ⟨u101, r102, r103, r104⟩
          have t105 : GM z mX12_readTwo (d + 5) [.ref 54, .int (nI 5), .int (nI 6)] (mrow M 54 r25) (fun rs => rs = .inl (none, mrow (mrow (mrow M 54 r102) 63 r103) 64 r104)) := by
            have q9 := c_k_readTwo_54 z (d + 3) (mrow M 54 r25) (nI 5) (nI 6) fz gz Hz k99
            try simp only [mput, mrow_same, mrow_hit, mrow_miss, mrow_sw, idr_eq, ne_eq, Nat.reduceEqDiff, not_false_eq_true, Nat.reduceLT, reduceCtorEq, g100] at q9
            exact q9
          refine G.callV (as := [.int (nI 5), .int (nI 6)]) (rest := []) (a := 54) oX12_readTwo lk_EvenFindersModel_280 (by decide +kernel) rfl rfl ⟨rfl, rfl⟩ (Nat.le_of_ble_eq_true rfl) rfl ⟨Nat.le_of_ble_eq_true rfl, Nat.le_of_ble_eq_true rfl⟩ t105 (fun v9 N9 h106 => ?_) (fun E9 N9 h106 => by cases h106)
          cases h106
          show G z mX12_readUnit (d + 6) 0 0 91 [some (.ref 54), none] [] (mrow (mrow (mrow M 54 r102) 63 r103) 64 r104) Q
          refine G.sl [(.goto 63, 3, 154, 0, 0, 0)] [] (pc2 := 154) (ls2 := [some (.ref 54), none]) (st2 := []) (M2 := mrow (mrow (mrow M 54 r102) 63 r103) 64 r104) (Ps := []) (by decide +kernel) rfl rfl trivial ?_
          exact G.retv (by decide +kernel) rfl (Nat.le_of_ble_eq_true rfl) (Nat.le_of_ble_eq_true rfl) ((by rw [hQ]; simp only [k_readUnit, if_neg c4, g6, if_neg c11, g13, if_pos c21, g23, if_pos c31, g100, mrow_self]))
      · skip
        rw [if_neg c21] at hk
        refine G.sl [(.aload_n 0, 1, 0, 0, 0, 0), (.iconst 0, 1, 0, 0, 0, nI 0), (.aload_n 0, 1, 0, 0, 0, 0), (.iconst 0, 1, 0, 0, 0, nI 0), (.sipush 999, 3, 0, 0, 0, nI 999)] [] (pc2 := 62) (ls2 := [some (.ref 54), none]) (st2 := [.int (nI 999), .int (nI 0), .ref 54, .int (nI 0), .ref 54]) (M2 := mrow M 54 r15) (Ps := []) (by decide +kernel) rfl rfl trivial ?_
        obtain ⟨k107, hk⟩ := hk
        rcases g108 : k_readNumber r15 (M.1 56) (nI 0) (nI 999) with ⟨v109, r110⟩
        try simp only [g108] at hk
        have t111 : GM z mX12_readNumber (d + 5) [.ref 54, .int (nI 0), .int (nI 999)] (mrow M 54 r15) (fun rs => rs = .inl (some (.int v109), mrow M 54 r110)) := by
          have q9 := c_k_readNumber_54 z (d + 4) (mrow M 54 r15) (nI 0) (nI 999) k107
          try simp only [mput, mrow_same, mrow_hit, mrow_miss, mrow_sw, idr_eq, ne_eq, Nat.reduceEqDiff, not_false_eq_true, Nat.reduceLT, reduceCtorEq, g108] at q9
          exact q9
        refine G.callV (as := [.int (nI 0), .int (nI 999)]) (rest := [.int (nI 0), .ref 54]) (a := 54) oX12_readNumber lk_EvenFindersModel_190 (by decide +kernel) rfl rfl ⟨rfl, rfl⟩ (Nat.le_of_ble_eq_true rfl) rfl ⟨Nat.le_of_ble_eq_true rfl, Nat.le_of_ble_eq_true rfl⟩ t111 (fun v9 N9 h112 => ?_) (fun E9 N9 h112 => by cases h112)
        cases h112
        show G z mX12_readUnit (d + 6) 0 0 65 [some (.ref 54), none] [.int v109, .int (nI 0), .ref 54] (mrow M 54 r110) Q
        obtain ⟨k113, hk⟩ := hk
        rcases g114 : k_emit r110 (M.1 63) (M.1 64) (nI 0) v109 with ⟨u115, r116, r117, r118⟩
        have t119 : GM z mX12_emit (d + 5) [.ref 54, .int (nI 0), .int v109] (mrow M 54 r110) (fun rs => rs = .inl (none, mrow (mrow (mrow M 54 r116) 63 r117) 64 r118)) := by
          have q9 := c_k_emit_54 z (d + 4) (mrow M 54 r110) (nI 0) v109 k113
          try simp only [mput, mrow_same, mrow_hit, mrow_miss, mrow_sw, idr_eq, ne_eq, Nat.reduceEqDiff, not_false_eq_true, Nat.reduceLT, reduceCtorEq, g114] at q9
          exact q9
        refine G.callV (as := [.int (nI 0), .int v109]) (rest := []) (a := 54) oX12_emit lk_EvenFindersModel_252 (by decide +kernel) rfl rfl ⟨rfl, rfl⟩ (Nat.le_of_ble_eq_true rfl) rfl ⟨Nat.le_of_ble_eq_true rfl, Nat.le_of_ble_eq_true rfl⟩ t119 (fun v9 N9 h120 => ?_) (fun E9 N9 h120 => by cases h120)
        cases h120
        show G z mX12_readUnit (d + 6) 0 0 68 [some (.ref 54), none] [] (mrow (mrow (mrow M 54 r116) 63 r117) 64 r118) Q
        refine G.sl [(.goto 86, 3, 154, 0, 0, 0)] [] (pc2 := 154) (ls2 := [some (.ref 54), none]) (st2 := []) (M2 := mrow (mrow (mrow M 54 r116) 63 r117) 64 r118) (Ps := []) (by decide +kernel) rfl rfl trivial ?_
        exact G.retv (by decide +kernel) rfl (Nat.le_of_ble_eq_true rfl) (Nat.le_of_ble_eq_true rfl) ((by rw [hQ]; simp only [k_readUnit, if_neg c4, g6, if_neg c11, g13, if_neg c21, g108, g114, mrow_self]))
    · skip
      rw [if_pos c11] at hk
      refine G.sl [(.aload_n 0, 1, 0, 0, 0, 0), (.iconst 1, 1, 0, 0, 0, nI 1)] [] (pc2 := 19) (ls2 := [some (.ref 54), none]) (st2 := [.int (nI 1), .ref 54]) (M2 := mrow M 54 r8) (Ps := []) (by decide +kernel) rfl rfl trivial ?_
      obtain ⟨k121, hk⟩ := hk
      rcases g122 : k_opensOne r8 (nI 1) with ⟨u123, r124⟩
      try simp only [g122] at hk
      have t125 : GM z mX12_opensOne (d + 5) [.ref 54, .int (nI 1)] (mrow M 54 r8) (fun rs => rs = .inl (none, mrow M 54 r124)) := by
        have q9 := c_k_opensOne_54 z (d + 4) (mrow M 54 r8) (nI 1)
        try simp only [mput, mrow_same, mrow_hit, mrow_miss, mrow_sw, idr_eq, ne_eq, Nat.reduceEqDiff, not_false_eq_true, Nat.reduceLT, reduceCtorEq, g122] at q9
        exact q9
      refine G.callV (as := [.int (nI 1)]) (rest := []) (a := 54) oX12_opensOne lk_EvenFindersModel_258 (by decide +kernel) rfl rfl ⟨rfl, rfl⟩ (Nat.le_of_ble_eq_true rfl) rfl ⟨Nat.le_of_ble_eq_true rfl, Nat.le_of_ble_eq_true rfl⟩ t125 (fun v9 N9 h126 => ?_) (fun E9 N9 h126 => by cases h126)
      cases h126
      show G z mX12_readUnit (d + 6) 0 0 22 [some (.ref 54), none] [] (mrow M 54 r124) Q
      refine G.sl [(.aload_n 0, 1, 0, 0, 0, 0)] [] (pc2 := 23) (ls2 := [some (.ref 54), none]) (st2 := [.ref 54]) (M2 := mrow M 54 r124) (Ps := []) (by decide +kernel) rfl rfl trivial ?_
      obtain ⟨k127, hk⟩ := hk
      rcases g128 : fz r124 (M.1 56) (M.1 63) (M.1 64) with ⟨u129, r130, r131, r132⟩
      try simp only [g128] at hk
      have t133 : GM z mX12_readSum (d + 5) [.ref 54] (mrow M 54 r124) (fun rs => rs = .inl (none, mrow (mrow (mrow M 54 r130) 63 r131) 64 r132)) := by
        have q9 := Hz 5 (mrow M 54 r124) 
        try simp only [mput, mrow_same, mrow_hit, mrow_miss, mrow_sw, idr_eq, ne_eq, Nat.reduceEqDiff, not_false_eq_true, Nat.reduceLT, reduceCtorEq, g128] at q9
        exact q9 (by first | exact k127 | (simp only [mput, mrow_same, mrow_hit, mrow_miss, mrow_sw, idr_eq, ne_eq, Nat.reduceEqDiff, not_false_eq_true, Nat.reduceLT, reduceCtorEq]; exact k127))
      refine G.callV (as := []) (rest := []) (a := 54) oX12_readSum lk_EvenFindersModel_261 (by decide +kernel) rfl rfl ⟨rfl, rfl⟩ (Nat.le_of_ble_eq_true rfl) rfl ⟨Nat.le_of_ble_eq_true rfl, Nat.le_of_ble_eq_true rfl⟩ t133 (fun v9 N9 h134 => ?_) (fun E9 N9 h134 => by cases h134)
      cases h134
      show G z mX12_readUnit (d + 6) 0 0 26 [some (.ref 54), none] [] (mrow (mrow (mrow M 54 r130) 63 r131) 64 r132) Q
      refine G.sl [(.aload_n 0, 1, 0, 0, 0, 0), (.bipush 41, 2, 0, 0, 0, nI 41)] [] (pc2 := 29) (ls2 := [some (.ref 54), none]) (st2 := [.int (nI 41), .ref 54]) (M2 := mrow (mrow (mrow M 54 r130) 63 r131) 64 r132) (Ps := []) (by decide +kernel) rfl rfl trivial ?_
      obtain ⟨k135, hk⟩ := hk
      rcases g136 : k_sign r130 (M.1 56) (nI 41) with ⟨u137, r138⟩
      have t139 : GM z mX12_sign (d + 5) [.ref 54, .int (nI 41)] (mrow (mrow (mrow M 54 r130) 63 r131) 64 r132) (fun rs => rs = .inl (none, mrow (mrow (mrow M 54 r138) 63 r131) 64 r132)) := by
        have q9 := c_k_sign_54 z (d + 4) (mrow (mrow (mrow M 54 r130) 63 r131) 64 r132) (nI 41) k135
        try simp only [mput, mrow_same, mrow_hit, mrow_miss, mrow_sw, idr_eq, ne_eq, Nat.reduceEqDiff, not_false_eq_true, Nat.reduceLT, reduceCtorEq, g136] at q9
        exact q9
      refine G.callV (as := [.int (nI 41)]) (rest := []) (a := 54) oX12_sign lk_EvenFindersModel_239 (by decide +kernel) rfl rfl ⟨rfl, rfl⟩ (Nat.le_of_ble_eq_true rfl) rfl ⟨Nat.le_of_ble_eq_true rfl, Nat.le_of_ble_eq_true rfl⟩ t139 (fun v9 N9 h140 => ?_) (fun E9 N9 h140 => by cases h140)
      cases h140
      show G z mX12_readUnit (d + 6) 0 0 32 [some (.ref 54), none] [] (mrow (mrow (mrow M 54 r138) 63 r131) 64 r132) Q
      refine G.sl [(.aload_n 0, 1, 0, 0, 0, 0), (.dup, 1, 0, 0, 0, 0), (.getfield 141, 3, 11, 7, 130, 0), (.iconst 1, 1, 0, 0, 0, nI 1), (.isub, 1, 0, 0, 0, 0), (.putfield 141, 3, 11, 7, 130, 0), (.goto 112, 3, 154, 0, 0, 0)] [] (pc2 := 154) (ls2 := [some (.ref 54), none]) (st2 := []) (M2 := mput (mrow (mrow (mrow M 54 r138) 63 r131) 64 r132) 54 7 ((r138 7) - (nI 1))) (Ps := []) (by decide +kernel) rfl rfl trivial ?_
      refine G.mem (M' := mrow (mrow (mrow M 54 (upd r138 7 ((r138 7) - (nI 1)))) 63 r131) 64 r132) (by first | rfl | (simp only [mput, mrow_same, mrow_hit, mrow_miss, mrow_sw, idr_eq, ne_eq, Nat.reduceEqDiff, not_false_eq_true, Nat.reduceLT, reduceCtorEq]; done)) ?_
      exact G.retv (by decide +kernel) rfl (Nat.le_of_ble_eq_true rfl) (Nat.le_of_ble_eq_true rfl) ((by rw [hQ]; simp only [k_readUnit, if_neg c4, g6, if_pos c11, g122, g128, g136, mrow_self]))
  · skip
    rw [if_pos c4] at hk
    refine G.mem (M' := mrow (mrow (mrow M 54 (M.1 54)) 63 (M.1 63)) 64 (M.1 64)) (((((mrow_id (N := M) (c := 54) (f := M.1 54) (by first | rfl | (simp only [mput, mrow_same, mrow_hit, mrow_miss, mrow_sw, idr_eq, ne_eq, Nat.reduceEqDiff, not_false_eq_true, Nat.reduceLT, reduceCtorEq]; done))).symm).trans (mrow_id (N := mrow M 54 (M.1 54)) (c := 63) (f := M.1 63) (by first | rfl | (simp only [mput, mrow_same, mrow_hit, mrow_miss, mrow_sw, idr_eq, ne_eq, Nat.reduceEqDiff, not_false_eq_true, Nat.reduceLT, reduceCtorEq]; done))).symm).trans (mrow_id (N := mrow (mrow M 54 (M.1 54)) 63 (M.1 63)) (c := 64) (f := M.1 64) (by first | rfl | (simp only [mput, mrow_same, mrow_hit, mrow_miss, mrow_sw, idr_eq, ne_eq, Nat.reduceEqDiff, not_false_eq_true, Nat.reduceLT, reduceCtorEq]; done))).symm).trans (by first | rfl | (simp only [mput, mrow_same, mrow_hit, mrow_miss, mrow_sw, idr_eq, ne_eq, Nat.reduceEqDiff, not_false_eq_true, Nat.reduceLT, reduceCtorEq]; done))) ?_
    exact G.retv (by decide +kernel) rfl (Nat.le_of_ble_eq_true rfl) (Nat.le_of_ble_eq_true rfl) ((by rw [hQ]; simp only [k_readUnit, if_pos c4, mrow_self]))
set_option maxHeartbeats 4000000 in
set_option maxRecDepth 3000 in
theorem lp_k_readProduct_54_4 (z : Zp) (d : Nat) (M : Mem) (Q : Rs → Prop) (fz : (Nat → Int32) → (Nat → Int32) → (Nat → Int32) → (Nat → Int32) → Int32 × (Nat → Int32) × (Nat → Int32) × (Nat → Int32)) (gz : (Nat → Int32) → (Nat → Int32) → (Nat → Int32) → (Nat → Int32) → Prop) (Hz : ∀ (j : Nat) (M : Mem) , gz (M.1 54) (M.1 56) (M.1 63) (M.1 64) → GM z mX12_readSum (d + j) [.ref 54] M (fun rs => rs = .inl (none, mrow (mrow (mrow M 54 ((fz (M.1 54) (M.1 56) (M.1 63) (M.1 64)).2.1)) 63 ((fz (M.1 54) (M.1 56) (M.1 63) (M.1 64)).2.2.1)) 64 ((fz (M.1 54) (M.1 56) (M.1 63) (M.1 64)).2.2.2)))) : ∀ (k0 : Nat) (q54 : (Nat → Int32)) (q63 : (Nat → Int32)) (q64 : (Nat → Int32)), k_readProduct_4_ok fz gz (M.1 56) k0 q54 q63 q64 → (match k_readProduct_4 fz (M.1 56) k0 q54 q63 q64 with | (q54', q63', q64') => G z mX12_readProduct (d + 7) 0 0 90 [none, none] [] (mrow (mrow (mrow M 54 (q54')) 63 (q63')) 64 (q64')) Q) → G z mX12_readProduct (d + 7) 0 0 4 [some (.ref 54), none] [] (mrow (mrow (mrow M 54 q54) 63 q63) 64 q64) Q := by
  intro k0
  induction k0 with
  | zero =>
      intro q54 q63 q64 hk hX
      exact (by simpa only [k_readProduct_4_ok] using hk : False).elim
  | succ k0 ih =>
      intro q54 q63 q64 hk hX
      simp only [k_readProduct_4_ok] at hk
      refine G.sl [(.aload_n 0, 1, 0, 0, 0, 0)] [] (pc2 := 5) (ls2 := [some (.ref 54), none]) (st2 := [.ref 54]) (M2 := mrow (mrow (mrow M 54 q54) 63 q63) 64 q64) (Ps := []) (by decide +kernel) rfl rfl trivial ?_
      obtain ⟨k9, hk⟩ := hk
      have t10 : GM z mX12_fine (d + 6) [.ref 54] (mrow (mrow (mrow M 54 q54) 63 q63) 64 q64) (fun rs => rs = .inl (some (.int (k_fine q54)), mrow (mrow (mrow M 54 q54) 63 q63) 64 q64)) := by
        have q9 := c_k_fine_54 z (d + 6) (mrow (mrow (mrow M 54 q54) 63 q63) 64 q64) 
        try simp only [mput, mrow_same, mrow_hit, mrow_miss, mrow_sw, idr_eq, ne_eq, Nat.reduceEqDiff, not_false_eq_true, Nat.reduceLT, reduceCtorEq] at q9
        exact q9
      refine G.callV (as := []) (rest := []) (a := 54) oX12_fine lk_EvenFindersModel_130 (by decide +kernel) rfl rfl ⟨rfl, rfl⟩ (Nat.le_of_ble_eq_true rfl) rfl ⟨Nat.le_of_ble_eq_true rfl, Nat.le_of_ble_eq_true rfl⟩ t10 (fun v9 N9 h11 => ?_) (fun E9 N9 h11 => by cases h11)
      cases h11
      show G z mX12_readProduct (d + 7) 0 0 8 [some (.ref 54), none] [.int (k_fine q54)] (mrow (mrow (mrow M 54 q54) 63 q63) 64 q64) Q
      refine G.if_eq (off := (82)) (tgt := 90) (by decide +kernel) rfl (fun c12 => ?_) (fun c12 => ?_)
      · skip
        rw [if_pos c12] at hk
        refine G.loc (ls2 := [none, none]) (by simp [subL]) ?_
        simp only [k_readProduct_4, if_pos c12] at hX
        exact hX
      · skip
        rw [if_neg c12] at hk
        refine G.sl [(.aload_n 0, 1, 0, 0, 0, 0)] [] (pc2 := 12) (ls2 := [some (.ref 54), none]) (st2 := [.ref 54]) (M2 := mrow (mrow (mrow M 54 q54) 63 q63) 64 q64) (Ps := []) (by decide +kernel) rfl rfl trivial ?_
        obtain ⟨k13, hk⟩ := hk
        rcases g14 : k_here q54 (M.1 56) with ⟨v15, r16⟩
        try simp only [g14] at hk
        have t17 : GM z mX12_here (d + 6) [.ref 54] (mrow (mrow (mrow M 54 q54) 63 q63) 64 q64) (fun rs => rs = .inl (some (.int v15), mrow (mrow (mrow M 54 r16) 63 q63) 64 q64)) := by
          have q9 := c_k_here_54 z (d + 6) (mrow (mrow (mrow M 54 q54) 63 q63) 64 q64) k13
          try simp only [mput, mrow_same, mrow_hit, mrow_miss, mrow_sw, idr_eq, ne_eq, Nat.reduceEqDiff, not_false_eq_true, Nat.reduceLT, reduceCtorEq, g14] at q9
          exact q9
        refine G.callV (as := []) (rest := []) (a := 54) oX12_here lk_EvenFindersModel_113 (by decide +kernel) rfl rfl ⟨rfl, rfl⟩ (Nat.le_of_ble_eq_true rfl) rfl ⟨Nat.le_of_ble_eq_true rfl, Nat.le_of_ble_eq_true rfl⟩ t17 (fun v9 N9 h18 => ?_) (fun E9 N9 h18 => by cases h18)
        cases h18
        show G z mX12_readProduct (d + 7) 0 0 15 [some (.ref 54), none] [.int v15] (mrow (mrow (mrow M 54 r16) 63 q63) 64 q64) Q
        refine G.sl [(.bipush 42, 2, 0, 0, 0, nI 42)] [] (pc2 := 17) (ls2 := [some (.ref 54), none]) (st2 := [.int (nI 42), .int v15]) (M2 := mrow (mrow (mrow M 54 r16) 63 q63) 64 q64) (Ps := []) (by decide +kernel) rfl rfl trivial ?_
        refine G.ic_eq (off := (21)) (tgt := 38) (by decide +kernel) rfl (fun c19 => ?_) (fun c19 => ?_)
        · skip
          rw [if_pos c19] at hk
          refine G.sl [(.aload_n 0, 1, 0, 0, 0, 0)] [] (pc2 := 39) (ls2 := [some (.ref 54), none]) (st2 := [.ref 54]) (M2 := mrow (mrow (mrow M 54 r16) 63 q63) 64 q64) (Ps := []) (by decide +kernel) rfl rfl trivial ?_
          obtain ⟨k20, hk⟩ := hk
          rcases g21 : k_here r16 (M.1 56) with ⟨v22, r23⟩
          try simp only [g21] at hk
          have t24 : GM z mX12_here (d + 6) [.ref 54] (mrow (mrow (mrow M 54 r16) 63 q63) 64 q64) (fun rs => rs = .inl (some (.int v22), mrow (mrow (mrow M 54 r23) 63 q63) 64 q64)) := by
            have q9 := c_k_here_54 z (d + 6) (mrow (mrow (mrow M 54 r16) 63 q63) 64 q64) k20
            try simp only [mput, mrow_same, mrow_hit, mrow_miss, mrow_sw, idr_eq, ne_eq, Nat.reduceEqDiff, not_false_eq_true, Nat.reduceLT, reduceCtorEq, g21] at q9
            exact q9
          refine G.callV (as := []) (rest := []) (a := 54) oX12_here lk_EvenFindersModel_113 (by decide +kernel) rfl rfl ⟨rfl, rfl⟩ (Nat.le_of_ble_eq_true rfl) rfl ⟨Nat.le_of_ble_eq_true rfl, Nat.le_of_ble_eq_true rfl⟩ t24 (fun v9 N9 h25 => ?_) (fun E9 N9 h25 => by cases h25)
          cases h25
          show G z mX12_readProduct (d + 7) 0 0 42 [some (.ref 54), none] [.int v22] (mrow (mrow (mrow M 54 r23) 63 q63) 64 q64) Q
          refine G.sl [(.bipush 42, 2, 0, 0, 0, nI 42)] [] (pc2 := 44) (ls2 := [some (.ref 54), none]) (st2 := [.int (nI 42), .int v22]) (M2 := mrow (mrow (mrow M 54 r23) 63 q63) 64 q64) (Ps := []) (by decide +kernel) rfl rfl trivial ?_
          refine G.ic_ne (off := (7)) (tgt := 51) (by decide +kernel) rfl (fun c26 => ?_) (fun c26 => ?_)
          · skip
            rw [if_neg c26] at hk
            refine G.sl [(.aload_n 0, 1, 0, 0, 0, 0)] [] (pc2 := 52) (ls2 := [some (.ref 54), none]) (st2 := [.ref 54]) (M2 := mrow (mrow (mrow M 54 r23) 63 q63) 64 q64) (Ps := []) (by decide +kernel) rfl rfl trivial ?_
            obtain ⟨k27, hk⟩ := hk
            rcases g28 : k_here r23 (M.1 56) with ⟨v29, r30⟩
            try simp only [g28] at hk
            have t31 : GM z mX12_here (d + 6) [.ref 54] (mrow (mrow (mrow M 54 r23) 63 q63) 64 q64) (fun rs => rs = .inl (some (.int v29), mrow (mrow (mrow M 54 r30) 63 q63) 64 q64)) := by
              have q9 := c_k_here_54 z (d + 6) (mrow (mrow (mrow M 54 r23) 63 q63) 64 q64) k27
              try simp only [mput, mrow_same, mrow_hit, mrow_miss, mrow_sw, idr_eq, ne_eq, Nat.reduceEqDiff, not_false_eq_true, Nat.reduceLT, reduceCtorEq, g28] at q9
              exact q9
            refine G.callV (as := []) (rest := []) (a := 54) oX12_here lk_EvenFindersModel_113 (by decide +kernel) rfl rfl ⟨rfl, rfl⟩ (Nat.le_of_ble_eq_true rfl) rfl ⟨Nat.le_of_ble_eq_true rfl, Nat.le_of_ble_eq_true rfl⟩ t31 (fun v9 N9 h32 => ?_) (fun E9 N9 h32 => by cases h32)
            cases h32
            show G z mX12_readProduct (d + 7) 0 0 55 [some (.ref 54), none] [.int v29] (mrow (mrow (mrow M 54 r30) 63 q63) 64 q64) Q
            refine G.sl [(.bipush 47, 2, 0, 0, 0, nI 47)] [] (pc2 := 57) (ls2 := [some (.ref 54), none]) (st2 := [.int (nI 47), .int v29]) (M2 := mrow (mrow (mrow M 54 r30) 63 q63) 64 q64) (Ps := []) (by decide +kernel) rfl rfl trivial ?_
            refine G.ic_ne (off := (7)) (tgt := 64) (by decide +kernel) rfl (fun c33 => ?_) (fun c33 => ?_)
            · skip
              rw [if_neg c33] at hk
              refine G.sl [(.bipush 8, 2, 0, 0, 0, nI 8), (.istore_n 1, 1, 1, 0, 0, 0), (.aload_n 0, 1, 0, 0, 0, 0), (.dup, 1, 0, 0, 0, 0), (.getfield 107, 3, 11, 4, 127, 0), (.iconst 1, 1, 0, 0, 0, nI 1), (.iadd, 1, 0, 0, 0, 0), (.putfield 107, 3, 11, 4, 127, 0), (.aload_n 0, 1, 0, 0, 0, 0)] [] (pc2 := 78) (ls2 := [some (.ref 54), some (.int (nI 8))]) (st2 := [.ref 54]) (M2 := mput (mrow (mrow (mrow M 54 r30) 63 q63) 64 q64) 54 4 ((r30 4) + (nI 1))) (Ps := []) (by decide +kernel) rfl rfl trivial ?_
              refine G.mem (M' := mrow (mrow (mrow M 54 (upd r30 4 ((r30 4) + (nI 1)))) 63 q63) 64 q64) (by first | rfl | (simp only [mput, mrow_same, mrow_hit, mrow_miss, mrow_sw, idr_eq, ne_eq, Nat.reduceEqDiff, not_false_eq_true, Nat.reduceLT, reduceCtorEq]; done)) ?_
              obtain ⟨k34, hk⟩ := hk
              rcases g35 : k_readUnit fz (upd r30 4 ((r30 4) + (nI 1))) (M.1 56) q63 q64 with ⟨u36, r37, r38, r39⟩
              try simp only [g35] at hk
              have t40 : GM z mX12_readUnit (d + 6) [.ref 54] (mrow (mrow (mrow M 54 (upd r30 4 ((r30 4) + (nI 1)))) 63 q63) 64 q64) (fun rs => rs = .inl (none, mrow (mrow (mrow M 54 r37) 63 r38) 64 r39)) := by
                have q9 := c_k_readUnit_54 z d (mrow (mrow (mrow M 54 (upd r30 4 ((r30 4) + (nI 1)))) 63 q63) 64 q64) fz gz Hz k34
                try simp only [mput, mrow_same, mrow_hit, mrow_miss, mrow_sw, idr_eq, ne_eq, Nat.reduceEqDiff, not_false_eq_true, Nat.reduceLT, reduceCtorEq, g35] at q9
                exact q9
              refine G.callV (as := []) (rest := []) (a := 54) oX12_readUnit lk_EvenFindersModel_255 (by decide +kernel) rfl rfl ⟨rfl, rfl⟩ (Nat.le_of_ble_eq_true rfl) rfl ⟨Nat.le_of_ble_eq_true rfl, Nat.le_of_ble_eq_true rfl⟩ t40 (fun v9 N9 h41 => ?_) (fun E9 N9 h41 => by cases h41)
              cases h41
              show G z mX12_readProduct (d + 7) 0 0 81 [some (.ref 54), some (.int (nI 8))] [] (mrow (mrow (mrow M 54 r37) 63 r38) 64 r39) Q
              refine G.sl [(.aload_n 0, 1, 0, 0, 0, 0), (.iload_n 1, 1, 1, 0, 0, 0), (.iconst 0, 1, 0, 0, 0, nI 0)] [] (pc2 := 84) (ls2 := [some (.ref 54), some (.int (nI 8))]) (st2 := [.int (nI 0), .int (nI 8), .ref 54]) (M2 := mrow (mrow (mrow M 54 r37) 63 r38) 64 r39) (Ps := []) (by decide +kernel) rfl rfl trivial ?_
              obtain ⟨k42, hk⟩ := hk
              rcases g43 : k_emit r37 r38 r39 (nI 8) (nI 0) with ⟨u44, r45, r46, r47⟩
              try simp only [g43] at hk
              have t48 : GM z mX12_emit (d + 6) [.ref 54, .int (nI 8), .int (nI 0)] (mrow (mrow (mrow M 54 r37) 63 r38) 64 r39) (fun rs => rs = .inl (none, mrow (mrow (mrow M 54 r45) 63 r46) 64 r47)) := by
                have q9 := c_k_emit_54 z (d + 5) (mrow (mrow (mrow M 54 r37) 63 r38) 64 r39) (nI 8) (nI 0) k42
                try simp only [mput, mrow_same, mrow_hit, mrow_miss, mrow_sw, idr_eq, ne_eq, Nat.reduceEqDiff, not_false_eq_true, Nat.reduceLT, reduceCtorEq, g43] at q9
                exact q9
              refine G.callV (as := [.int (nI 8), .int (nI 0)]) (rest := []) (a := 54) oX12_emit lk_EvenFindersModel_252 (by decide +kernel) rfl rfl ⟨rfl, rfl⟩ (Nat.le_of_ble_eq_true rfl) rfl ⟨Nat.le_of_ble_eq_true rfl, Nat.le_of_ble_eq_true rfl⟩ t48 (fun v9 N9 h49 => ?_) (fun E9 N9 h49 => by cases h49)
              cases h49
              show G z mX12_readProduct (d + 7) 0 0 87 [some (.ref 54), some (.int (nI 8))] [] (mrow (mrow (mrow M 54 r45) 63 r46) 64 r47) Q
              refine G.sl [(.goto (-83), 3, 4, 0, 0, 0)] [] (pc2 := 4) (ls2 := [some (.ref 54), some (.int (nI 8))]) (st2 := []) (M2 := mrow (mrow (mrow M 54 r45) 63 r46) 64 r47) (Ps := []) (by decide +kernel) rfl rfl trivial ?_
              refine G.loc (ls2 := [some (.ref 54), none]) (by simp [subL]) ?_
              simp only [k_readProduct_4, if_neg c12, g14, if_pos c19, g21, if_neg c26, g28, if_neg c33, g35, g43] at hX
              exact ih r45 r46 r47 hk hX
            · skip
              rw [if_pos c33] at hk
              refine G.sl [(.iconst 5, 1, 0, 0, 0, nI 5), (.goto 5, 3, 66, 0, 0, 0), (.istore_n 1, 1, 1, 0, 0, 0), (.aload_n 0, 1, 0, 0, 0, 0), (.dup, 1, 0, 0, 0, 0), (.getfield 107, 3, 11, 4, 127, 0), (.iconst 1, 1, 0, 0, 0, nI 1), (.iadd, 1, 0, 0, 0, 0), (.putfield 107, 3, 11, 4, 127, 0), (.aload_n 0, 1, 0, 0, 0, 0)] [] (pc2 := 78) (ls2 := [some (.ref 54), some (.int (nI 5))]) (st2 := [.ref 54]) (M2 := mput (mrow (mrow (mrow M 54 r30) 63 q63) 64 q64) 54 4 ((r30 4) + (nI 1))) (Ps := []) (by decide +kernel) rfl rfl trivial ?_
              refine G.mem (M' := mrow (mrow (mrow M 54 (upd r30 4 ((r30 4) + (nI 1)))) 63 q63) 64 q64) (by first | rfl | (simp only [mput, mrow_same, mrow_hit, mrow_miss, mrow_sw, idr_eq, ne_eq, Nat.reduceEqDiff, not_false_eq_true, Nat.reduceLT, reduceCtorEq]; done)) ?_
              obtain ⟨k50, hk⟩ := hk
              rcases g51 : k_readUnit fz (upd r30 4 ((r30 4) + (nI 1))) (M.1 56) q63 q64 with ⟨u52, r53, r54, r55⟩
              try simp only [g51] at hk
              have t56 : GM z mX12_readUnit (d + 6) [.ref 54] (mrow (mrow (mrow M 54 (upd r30 4 ((r30 4) + (nI 1)))) 63 q63) 64 q64) (fun rs => rs = .inl (none, mrow (mrow (mrow M 54 r53) 63 r54) 64 r55)) := by
                have q9 := c_k_readUnit_54 z d (mrow (mrow (mrow M 54 (upd r30 4 ((r30 4) + (nI 1)))) 63 q63) 64 q64) fz gz Hz k50
                try simp only [mput, mrow_same, mrow_hit, mrow_miss, mrow_sw, idr_eq, ne_eq, Nat.reduceEqDiff, not_false_eq_true, Nat.reduceLT, reduceCtorEq, g51] at q9
                exact q9
              refine G.callV (as := []) (rest := []) (a := 54) oX12_readUnit lk_EvenFindersModel_255 (by decide +kernel) rfl rfl ⟨rfl, rfl⟩ (Nat.le_of_ble_eq_true rfl) rfl ⟨Nat.le_of_ble_eq_true rfl, Nat.le_of_ble_eq_true rfl⟩ t56 (fun v9 N9 h57 => ?_) (fun E9 N9 h57 => by cases h57)
              cases h57
              show G z mX12_readProduct (d + 7) 0 0 81 [some (.ref 54), some (.int (nI 5))] [] (mrow (mrow (mrow M 54 r53) 63 r54) 64 r55) Q
              refine G.sl [(.aload_n 0, 1, 0, 0, 0, 0), (.iload_n 1, 1, 1, 0, 0, 0), (.iconst 0, 1, 0, 0, 0, nI 0)] [] (pc2 := 84) (ls2 := [some (.ref 54), some (.int (nI 5))]) (st2 := [.int (nI 0), .int (nI 5), .ref 54]) (M2 := mrow (mrow (mrow M 54 r53) 63 r54) 64 r55) (Ps := []) (by decide +kernel) rfl rfl trivial ?_
              obtain ⟨k58, hk⟩ := hk
              rcases g59 : k_emit r53 r54 r55 (nI 5) (nI 0) with ⟨u60, r61, r62, r63⟩
              try simp only [g59] at hk
              have t64 : GM z mX12_emit (d + 6) [.ref 54, .int (nI 5), .int (nI 0)] (mrow (mrow (mrow M 54 r53) 63 r54) 64 r55) (fun rs => rs = .inl (none, mrow (mrow (mrow M 54 r61) 63 r62) 64 r63)) := by
                have q9 := c_k_emit_54 z (d + 5) (mrow (mrow (mrow M 54 r53) 63 r54) 64 r55) (nI 5) (nI 0) k58
                try simp only [mput, mrow_same, mrow_hit, mrow_miss, mrow_sw, idr_eq, ne_eq, Nat.reduceEqDiff, not_false_eq_true, Nat.reduceLT, reduceCtorEq, g59] at q9
                exact q9
              refine G.callV (as := [.int (nI 5), .int (nI 0)]) (rest := []) (a := 54) oX12_emit lk_EvenFindersModel_252 (by decide +kernel) rfl rfl ⟨rfl, rfl⟩ (Nat.le_of_ble_eq_true rfl) rfl ⟨Nat.le_of_ble_eq_true rfl, Nat.le_of_ble_eq_true rfl⟩ t64 (fun v9 N9 h65 => ?_) (fun E9 N9 h65 => by cases h65)
              cases h65
              show G z mX12_readProduct (d + 7) 0 0 87 [some (.ref 54), some (.int (nI 5))] [] (mrow (mrow (mrow M 54 r61) 63 r62) 64 r63) Q
              refine G.sl [(.goto (-83), 3, 4, 0, 0, 0)] [] (pc2 := 4) (ls2 := [some (.ref 54), some (.int (nI 5))]) (st2 := []) (M2 := mrow (mrow (mrow M 54 r61) 63 r62) 64 r63) (Ps := []) (by decide +kernel) rfl rfl trivial ?_
              refine G.loc (ls2 := [some (.ref 54), none]) (by simp [subL]) ?_
              simp only [k_readProduct_4, if_neg c12, g14, if_pos c19, g21, if_neg c26, g28, if_pos c33, g51, g59] at hX
              exact ih r61 r62 r63 hk hX
          · skip
            rw [if_pos c26] at hk
            refine G.sl [(.iconst 4, 1, 0, 0, 0, nI 4), (.goto 18, 3, 66, 0, 0, 0), (.istore_n 1, 1, 1, 0, 0, 0), (.aload_n 0, 1, 0, 0, 0, 0), (.dup, 1, 0, 0, 0, 0), (.getfield 107, 3, 11, 4, 127, 0), (.iconst 1, 1, 0, 0, 0, nI 1), (.iadd, 1, 0, 0, 0, 0), (.putfield 107, 3, 11, 4, 127, 0), (.aload_n 0, 1, 0, 0, 0, 0)] [] (pc2 := 78) (ls2 := [some (.ref 54), some (.int (nI 4))]) (st2 := [.ref 54]) (M2 := mput (mrow (mrow (mrow M 54 r23) 63 q63) 64 q64) 54 4 ((r23 4) + (nI 1))) (Ps := []) (by decide +kernel) rfl rfl trivial ?_
            refine G.mem (M' := mrow (mrow (mrow M 54 (upd r23 4 ((r23 4) + (nI 1)))) 63 q63) 64 q64) (by first | rfl | (simp only [mput, mrow_same, mrow_hit, mrow_miss, mrow_sw, idr_eq, ne_eq, Nat.reduceEqDiff, not_false_eq_true, Nat.reduceLT, reduceCtorEq]; done)) ?_
            obtain ⟨k66, hk⟩ := hk
            rcases g67 : k_readUnit fz (upd r23 4 ((r23 4) + (nI 1))) (M.1 56) q63 q64 with ⟨u68, r69, r70, r71⟩
            try simp only [g67] at hk
            have t72 : GM z mX12_readUnit (d + 6) [.ref 54] (mrow (mrow (mrow M 54 (upd r23 4 ((r23 4) + (nI 1)))) 63 q63) 64 q64) (fun rs => rs = .inl (none, mrow (mrow (mrow M 54 r69) 63 r70) 64 r71)) := by
              have q9 := c_k_readUnit_54 z d (mrow (mrow (mrow M 54 (upd r23 4 ((r23 4) + (nI 1)))) 63 q63) 64 q64) fz gz Hz k66
              try simp only [mput, mrow_same, mrow_hit, mrow_miss, mrow_sw, idr_eq, ne_eq, Nat.reduceEqDiff, not_false_eq_true, Nat.reduceLT, reduceCtorEq, g67] at q9
              exact q9
            refine G.callV (as := []) (rest := []) (a := 54) oX12_readUnit lk_EvenFindersModel_255 (by decide +kernel) rfl rfl ⟨rfl, rfl⟩ (Nat.le_of_ble_eq_true rfl) rfl ⟨Nat.le_of_ble_eq_true rfl, Nat.le_of_ble_eq_true rfl⟩ t72 (fun v9 N9 h73 => ?_) (fun E9 N9 h73 => by cases h73)
            cases h73
            show G z mX12_readProduct (d + 7) 0 0 81 [some (.ref 54), some (.int (nI 4))] [] (mrow (mrow (mrow M 54 r69) 63 r70) 64 r71) Q
            refine G.sl [(.aload_n 0, 1, 0, 0, 0, 0), (.iload_n 1, 1, 1, 0, 0, 0), (.iconst 0, 1, 0, 0, 0, nI 0)] [] (pc2 := 84) (ls2 := [some (.ref 54), some (.int (nI 4))]) (st2 := [.int (nI 0), .int (nI 4), .ref 54]) (M2 := mrow (mrow (mrow M 54 r69) 63 r70) 64 r71) (Ps := []) (by decide +kernel) rfl rfl trivial ?_
            obtain ⟨k74, hk⟩ := hk
            rcases g75 : k_emit r69 r70 r71 (nI 4) (nI 0) with ⟨u76, r77, r78, r79⟩
            try simp only [g75] at hk
            have t80 : GM z mX12_emit (d + 6) [.ref 54, .int (nI 4), .int (nI 0)] (mrow (mrow (mrow M 54 r69) 63 r70) 64 r71) (fun rs => rs = .inl (none, mrow (mrow (mrow M 54 r77) 63 r78) 64 r79)) := by
              have q9 := c_k_emit_54 z (d + 5) (mrow (mrow (mrow M 54 r69) 63 r70) 64 r71) (nI 4) (nI 0) k74
              try simp only [mput, mrow_same, mrow_hit, mrow_miss, mrow_sw, idr_eq, ne_eq, Nat.reduceEqDiff, not_false_eq_true, Nat.reduceLT, reduceCtorEq, g75] at q9
              exact q9
            refine G.callV (as := [.int (nI 4), .int (nI 0)]) (rest := []) (a := 54) oX12_emit lk_EvenFindersModel_252 (by decide +kernel) rfl rfl ⟨rfl, rfl⟩ (Nat.le_of_ble_eq_true rfl) rfl ⟨Nat.le_of_ble_eq_true rfl, Nat.le_of_ble_eq_true rfl⟩ t80 (fun v9 N9 h81 => ?_) (fun E9 N9 h81 => by cases h81)
            cases h81
            show G z mX12_readProduct (d + 7) 0 0 87 [some (.ref 54), some (.int (nI 4))] [] (mrow (mrow (mrow M 54 r77) 63 r78) 64 r79) Q
            refine G.sl [(.goto (-83), 3, 4, 0, 0, 0)] [] (pc2 := 4) (ls2 := [some (.ref 54), some (.int (nI 4))]) (st2 := []) (M2 := mrow (mrow (mrow M 54 r77) 63 r78) 64 r79) (Ps := []) (by decide +kernel) rfl rfl trivial ?_
            refine G.loc (ls2 := [some (.ref 54), none]) (by simp [subL]) ?_
            simp only [k_readProduct_4, if_neg c12, g14, if_pos c19, g21, if_pos c26, g67, g75] at hX
            exact ih r77 r78 r79 hk hX
        · skip
          rw [if_neg c19] at hk
          refine G.sl [(.aload_n 0, 1, 0, 0, 0, 0)] [] (pc2 := 21) (ls2 := [some (.ref 54), none]) (st2 := [.ref 54]) (M2 := mrow (mrow (mrow M 54 r16) 63 q63) 64 q64) (Ps := []) (by decide +kernel) rfl rfl trivial ?_
          obtain ⟨k82, hk⟩ := hk
          rcases g83 : k_here r16 (M.1 56) with ⟨v84, r85⟩
          try simp only [g83] at hk
          have t86 : GM z mX12_here (d + 6) [.ref 54] (mrow (mrow (mrow M 54 r16) 63 q63) 64 q64) (fun rs => rs = .inl (some (.int v84), mrow (mrow (mrow M 54 r85) 63 q63) 64 q64)) := by
            have q9 := c_k_here_54 z (d + 6) (mrow (mrow (mrow M 54 r16) 63 q63) 64 q64) k82
            try simp only [mput, mrow_same, mrow_hit, mrow_miss, mrow_sw, idr_eq, ne_eq, Nat.reduceEqDiff, not_false_eq_true, Nat.reduceLT, reduceCtorEq, g83] at q9
            exact q9
          refine G.callV (as := []) (rest := []) (a := 54) oX12_here lk_EvenFindersModel_113 (by decide +kernel) rfl rfl ⟨rfl, rfl⟩ (Nat.le_of_ble_eq_true rfl) rfl ⟨Nat.le_of_ble_eq_true rfl, Nat.le_of_ble_eq_true rfl⟩ t86 (fun v9 N9 h87 => ?_) (fun E9 N9 h87 => by cases h87)
          cases h87
          show G z mX12_readProduct (d + 7) 0 0 24 [some (.ref 54), none] [.int v84] (mrow (mrow (mrow M 54 r85) 63 q63) 64 q64) Q
          refine G.sl [(.bipush 47, 2, 0, 0, 0, nI 47)] [] (pc2 := 26) (ls2 := [some (.ref 54), none]) (st2 := [.int (nI 47), .int v84]) (M2 := mrow (mrow (mrow M 54 r85) 63 q63) 64 q64) (Ps := []) (by decide +kernel) rfl rfl trivial ?_
          refine G.ic_eq (off := (12)) (tgt := 38) (by decide +kernel) rfl (fun c88 => ?_) (fun c88 => ?_)
          · skip
            rw [if_pos c88] at hk
            refine G.sl [(.aload_n 0, 1, 0, 0, 0, 0)] [] (pc2 := 39) (ls2 := [some (.ref 54), none]) (st2 := [.ref 54]) (M2 := mrow (mrow (mrow M 54 r85) 63 q63) 64 q64) (Ps := []) (by decide +kernel) rfl rfl trivial ?_
            obtain ⟨k89, hk⟩ := hk
            rcases g90 : k_here r85 (M.1 56) with ⟨v91, r92⟩
            try simp only [g90] at hk
            have t93 : GM z mX12_here (d + 6) [.ref 54] (mrow (mrow (mrow M 54 r85) 63 q63) 64 q64) (fun rs => rs = .inl (some (.int v91), mrow (mrow (mrow M 54 r92) 63 q63) 64 q64)) := by
              have q9 := c_k_here_54 z (d + 6) (mrow (mrow (mrow M 54 r85) 63 q63) 64 q64) k89
              try simp only [mput, mrow_same, mrow_hit, mrow_miss, mrow_sw, idr_eq, ne_eq, Nat.reduceEqDiff, not_false_eq_true, Nat.reduceLT, reduceCtorEq, g90] at q9
              exact q9
            refine G.callV (as := []) (rest := []) (a := 54) oX12_here lk_EvenFindersModel_113 (by decide +kernel) rfl rfl ⟨rfl, rfl⟩ (Nat.le_of_ble_eq_true rfl) rfl ⟨Nat.le_of_ble_eq_true rfl, Nat.le_of_ble_eq_true rfl⟩ t93 (fun v9 N9 h94 => ?_) (fun E9 N9 h94 => by cases h94)
            cases h94
            show G z mX12_readProduct (d + 7) 0 0 42 [some (.ref 54), none] [.int v91] (mrow (mrow (mrow M 54 r92) 63 q63) 64 q64) Q
            refine G.sl [(.bipush 42, 2, 0, 0, 0, nI 42)] [] (pc2 := 44) (ls2 := [some (.ref 54), none]) (st2 := [.int (nI 42), .int v91]) (M2 := mrow (mrow (mrow M 54 r92) 63 q63) 64 q64) (Ps := []) (by decide +kernel) rfl rfl trivial ?_
            refine G.ic_ne (off := (7)) (tgt := 51) (by decide +kernel) rfl (fun c95 => ?_) (fun c95 => ?_)
            · skip
              rw [if_neg c95] at hk
              refine G.sl [(.aload_n 0, 1, 0, 0, 0, 0)] [] (pc2 := 52) (ls2 := [some (.ref 54), none]) (st2 := [.ref 54]) (M2 := mrow (mrow (mrow M 54 r92) 63 q63) 64 q64) (Ps := []) (by decide +kernel) rfl rfl trivial ?_
              obtain ⟨k96, hk⟩ := hk
              rcases g97 : k_here r92 (M.1 56) with ⟨v98, r99⟩
              try simp only [g97] at hk
              have t100 : GM z mX12_here (d + 6) [.ref 54] (mrow (mrow (mrow M 54 r92) 63 q63) 64 q64) (fun rs => rs = .inl (some (.int v98), mrow (mrow (mrow M 54 r99) 63 q63) 64 q64)) := by
                have q9 := c_k_here_54 z (d + 6) (mrow (mrow (mrow M 54 r92) 63 q63) 64 q64) k96
                try simp only [mput, mrow_same, mrow_hit, mrow_miss, mrow_sw, idr_eq, ne_eq, Nat.reduceEqDiff, not_false_eq_true, Nat.reduceLT, reduceCtorEq, g97] at q9
                exact q9
              refine G.callV (as := []) (rest := []) (a := 54) oX12_here lk_EvenFindersModel_113 (by decide +kernel) rfl rfl ⟨rfl, rfl⟩ (Nat.le_of_ble_eq_true rfl) rfl ⟨Nat.le_of_ble_eq_true rfl, Nat.le_of_ble_eq_true rfl⟩ t100 (fun v9 N9 h101 => ?_) (fun E9 N9 h101 => by cases h101)
              cases h101
              show G z mX12_readProduct (d + 7) 0 0 55 [some (.ref 54), none] [.int v98] (mrow (mrow (mrow M 54 r99) 63 q63) 64 q64) Q
              refine G.sl [(.bipush 47, 2, 0, 0, 0, nI 47)] [] (pc2 := 57) (ls2 := [some (.ref 54), none]) (st2 := [.int (nI 47), .int v98]) (M2 := mrow (mrow (mrow M 54 r99) 63 q63) 64 q64) (Ps := []) (by decide +kernel) rfl rfl trivial ?_
              refine G.ic_ne (off := (7)) (tgt := 64) (by decide +kernel) rfl (fun c102 => ?_) (fun c102 => ?_)
              · skip
                rw [if_neg c102] at hk
                refine G.sl [(.bipush 8, 2, 0, 0, 0, nI 8), (.istore_n 1, 1, 1, 0, 0, 0), (.aload_n 0, 1, 0, 0, 0, 0), (.dup, 1, 0, 0, 0, 0), (.getfield 107, 3, 11, 4, 127, 0), (.iconst 1, 1, 0, 0, 0, nI 1), (.iadd, 1, 0, 0, 0, 0), (.putfield 107, 3, 11, 4, 127, 0), (.aload_n 0, 1, 0, 0, 0, 0)] [] (pc2 := 78) (ls2 := [some (.ref 54), some (.int (nI 8))]) (st2 := [.ref 54]) (M2 := mput (mrow (mrow (mrow M 54 r99) 63 q63) 64 q64) 54 4 ((r99 4) + (nI 1))) (Ps := []) (by decide +kernel) rfl rfl trivial ?_
                refine G.mem (M' := mrow (mrow (mrow M 54 (upd r99 4 ((r99 4) + (nI 1)))) 63 q63) 64 q64) (by first | rfl | (simp only [mput, mrow_same, mrow_hit, mrow_miss, mrow_sw, idr_eq, ne_eq, Nat.reduceEqDiff, not_false_eq_true, Nat.reduceLT, reduceCtorEq]; done)) ?_
                obtain ⟨k103, hk⟩ := hk
                rcases g104 : k_readUnit fz (upd r99 4 ((r99 4) + (nI 1))) (M.1 56) q63 q64 with ⟨u105, r106, r107, r108⟩
                try simp only [g104] at hk
                have t109 : GM z mX12_readUnit (d + 6) [.ref 54] (mrow (mrow (mrow M 54 (upd r99 4 ((r99 4) + (nI 1)))) 63 q63) 64 q64) (fun rs => rs = .inl (none, mrow (mrow (mrow M 54 r106) 63 r107) 64 r108)) := by
                  have q9 := c_k_readUnit_54 z d (mrow (mrow (mrow M 54 (upd r99 4 ((r99 4) + (nI 1)))) 63 q63) 64 q64) fz gz Hz k103
                  try simp only [mput, mrow_same, mrow_hit, mrow_miss, mrow_sw, idr_eq, ne_eq, Nat.reduceEqDiff, not_false_eq_true, Nat.reduceLT, reduceCtorEq, g104] at q9
                  exact q9
                refine G.callV (as := []) (rest := []) (a := 54) oX12_readUnit lk_EvenFindersModel_255 (by decide +kernel) rfl rfl ⟨rfl, rfl⟩ (Nat.le_of_ble_eq_true rfl) rfl ⟨Nat.le_of_ble_eq_true rfl, Nat.le_of_ble_eq_true rfl⟩ t109 (fun v9 N9 h110 => ?_) (fun E9 N9 h110 => by cases h110)
                cases h110
                show G z mX12_readProduct (d + 7) 0 0 81 [some (.ref 54), some (.int (nI 8))] [] (mrow (mrow (mrow M 54 r106) 63 r107) 64 r108) Q
                refine G.sl [(.aload_n 0, 1, 0, 0, 0, 0), (.iload_n 1, 1, 1, 0, 0, 0), (.iconst 0, 1, 0, 0, 0, nI 0)] [] (pc2 := 84) (ls2 := [some (.ref 54), some (.int (nI 8))]) (st2 := [.int (nI 0), .int (nI 8), .ref 54]) (M2 := mrow (mrow (mrow M 54 r106) 63 r107) 64 r108) (Ps := []) (by decide +kernel) rfl rfl trivial ?_
                obtain ⟨k111, hk⟩ := hk
                rcases g112 : k_emit r106 r107 r108 (nI 8) (nI 0) with ⟨u113, r114, r115, r116⟩
                try simp only [g112] at hk
                have t117 : GM z mX12_emit (d + 6) [.ref 54, .int (nI 8), .int (nI 0)] (mrow (mrow (mrow M 54 r106) 63 r107) 64 r108) (fun rs => rs = .inl (none, mrow (mrow (mrow M 54 r114) 63 r115) 64 r116)) := by
                  have q9 := c_k_emit_54 z (d + 5) (mrow (mrow (mrow M 54 r106) 63 r107) 64 r108) (nI 8) (nI 0) k111
                  try simp only [mput, mrow_same, mrow_hit, mrow_miss, mrow_sw, idr_eq, ne_eq, Nat.reduceEqDiff, not_false_eq_true, Nat.reduceLT, reduceCtorEq, g112] at q9
                  exact q9
                refine G.callV (as := [.int (nI 8), .int (nI 0)]) (rest := []) (a := 54) oX12_emit lk_EvenFindersModel_252 (by decide +kernel) rfl rfl ⟨rfl, rfl⟩ (Nat.le_of_ble_eq_true rfl) rfl ⟨Nat.le_of_ble_eq_true rfl, Nat.le_of_ble_eq_true rfl⟩ t117 (fun v9 N9 h118 => ?_) (fun E9 N9 h118 => by cases h118)
                cases h118
                show G z mX12_readProduct (d + 7) 0 0 87 [some (.ref 54), some (.int (nI 8))] [] (mrow (mrow (mrow M 54 r114) 63 r115) 64 r116) Q
                refine G.sl [(.goto (-83), 3, 4, 0, 0, 0)] [] (pc2 := 4) (ls2 := [some (.ref 54), some (.int (nI 8))]) (st2 := []) (M2 := mrow (mrow (mrow M 54 r114) 63 r115) 64 r116) (Ps := []) (by decide +kernel) rfl rfl trivial ?_
                refine G.loc (ls2 := [some (.ref 54), none]) (by simp [subL]) ?_
                simp only [k_readProduct_4, if_neg c12, g14, if_neg c19, g83, if_pos c88, g90, if_neg c95, g97, if_neg c102, g104, g112] at hX
                exact ih r114 r115 r116 hk hX
              · skip
                rw [if_pos c102] at hk
                refine G.sl [(.iconst 5, 1, 0, 0, 0, nI 5), (.goto 5, 3, 66, 0, 0, 0), (.istore_n 1, 1, 1, 0, 0, 0), (.aload_n 0, 1, 0, 0, 0, 0), (.dup, 1, 0, 0, 0, 0), (.getfield 107, 3, 11, 4, 127, 0), (.iconst 1, 1, 0, 0, 0, nI 1), (.iadd, 1, 0, 0, 0, 0), (.putfield 107, 3, 11, 4, 127, 0), (.aload_n 0, 1, 0, 0, 0, 0)] [] (pc2 := 78) (ls2 := [some (.ref 54), some (.int (nI 5))]) (st2 := [.ref 54]) (M2 := mput (mrow (mrow (mrow M 54 r99) 63 q63) 64 q64) 54 4 ((r99 4) + (nI 1))) (Ps := []) (by decide +kernel) rfl rfl trivial ?_
                refine G.mem (M' := mrow (mrow (mrow M 54 (upd r99 4 ((r99 4) + (nI 1)))) 63 q63) 64 q64) (by first | rfl | (simp only [mput, mrow_same, mrow_hit, mrow_miss, mrow_sw, idr_eq, ne_eq, Nat.reduceEqDiff, not_false_eq_true, Nat.reduceLT, reduceCtorEq]; done)) ?_
                obtain ⟨k119, hk⟩ := hk
                rcases g120 : k_readUnit fz (upd r99 4 ((r99 4) + (nI 1))) (M.1 56) q63 q64 with ⟨u121, r122, r123, r124⟩
                try simp only [g120] at hk
                have t125 : GM z mX12_readUnit (d + 6) [.ref 54] (mrow (mrow (mrow M 54 (upd r99 4 ((r99 4) + (nI 1)))) 63 q63) 64 q64) (fun rs => rs = .inl (none, mrow (mrow (mrow M 54 r122) 63 r123) 64 r124)) := by
                  have q9 := c_k_readUnit_54 z d (mrow (mrow (mrow M 54 (upd r99 4 ((r99 4) + (nI 1)))) 63 q63) 64 q64) fz gz Hz k119
                  try simp only [mput, mrow_same, mrow_hit, mrow_miss, mrow_sw, idr_eq, ne_eq, Nat.reduceEqDiff, not_false_eq_true, Nat.reduceLT, reduceCtorEq, g120] at q9
                  exact q9
                refine G.callV (as := []) (rest := []) (a := 54) oX12_readUnit lk_EvenFindersModel_255 (by decide +kernel) rfl rfl ⟨rfl, rfl⟩ (Nat.le_of_ble_eq_true rfl) rfl ⟨Nat.le_of_ble_eq_true rfl, Nat.le_of_ble_eq_true rfl⟩ t125 (fun v9 N9 h126 => ?_) (fun E9 N9 h126 => by cases h126)
                cases h126
                show G z mX12_readProduct (d + 7) 0 0 81 [some (.ref 54), some (.int (nI 5))] [] (mrow (mrow (mrow M 54 r122) 63 r123) 64 r124) Q
                refine G.sl [(.aload_n 0, 1, 0, 0, 0, 0), (.iload_n 1, 1, 1, 0, 0, 0), (.iconst 0, 1, 0, 0, 0, nI 0)] [] (pc2 := 84) (ls2 := [some (.ref 54), some (.int (nI 5))]) (st2 := [.int (nI 0), .int (nI 5), .ref 54]) (M2 := mrow (mrow (mrow M 54 r122) 63 r123) 64 r124) (Ps := []) (by decide +kernel) rfl rfl trivial ?_
                obtain ⟨k127, hk⟩ := hk
                rcases g128 : k_emit r122 r123 r124 (nI 5) (nI 0) with ⟨u129, r130, r131, r132⟩
                try simp only [g128] at hk
                have t133 : GM z mX12_emit (d + 6) [.ref 54, .int (nI 5), .int (nI 0)] (mrow (mrow (mrow M 54 r122) 63 r123) 64 r124) (fun rs => rs = .inl (none, mrow (mrow (mrow M 54 r130) 63 r131) 64 r132)) := by
                  have q9 := c_k_emit_54 z (d + 5) (mrow (mrow (mrow M 54 r122) 63 r123) 64 r124) (nI 5) (nI 0) k127
                  try simp only [mput, mrow_same, mrow_hit, mrow_miss, mrow_sw, idr_eq, ne_eq, Nat.reduceEqDiff, not_false_eq_true, Nat.reduceLT, reduceCtorEq, g128] at q9
                  exact q9
                refine G.callV (as := [.int (nI 5), .int (nI 0)]) (rest := []) (a := 54) oX12_emit lk_EvenFindersModel_252 (by decide +kernel) rfl rfl ⟨rfl, rfl⟩ (Nat.le_of_ble_eq_true rfl) rfl ⟨Nat.le_of_ble_eq_true rfl, Nat.le_of_ble_eq_true rfl⟩ t133 (fun v9 N9 h134 => ?_) (fun E9 N9 h134 => by cases h134)
                cases h134
                show G z mX12_readProduct (d + 7) 0 0 87 [some (.ref 54), some (.int (nI 5))] [] (mrow (mrow (mrow M 54 r130) 63 r131) 64 r132) Q
                refine G.sl [(.goto (-83), 3, 4, 0, 0, 0)] [] (pc2 := 4) (ls2 := [some (.ref 54), some (.int (nI 5))]) (st2 := []) (M2 := mrow (mrow (mrow M 54 r130) 63 r131) 64 r132) (Ps := []) (by decide +kernel) rfl rfl trivial ?_
                refine G.loc (ls2 := [some (.ref 54), none]) (by simp [subL]) ?_
                simp only [k_readProduct_4, if_neg c12, g14, if_neg c19, g83, if_pos c88, g90, if_neg c95, g97, if_pos c102, g120, g128] at hX
                exact ih r130 r131 r132 hk hX
            · skip
              rw [if_pos c95] at hk
              refine G.sl [(.iconst 4, 1, 0, 0, 0, nI 4), (.goto 18, 3, 66, 0, 0, 0), (.istore_n 1, 1, 1, 0, 0, 0), (.aload_n 0, 1, 0, 0, 0, 0), (.dup, 1, 0, 0, 0, 0), (.getfield 107, 3, 11, 4, 127, 0), (.iconst 1, 1, 0, 0, 0, nI 1), (.iadd, 1, 0, 0, 0, 0), (.putfield 107, 3, 11, 4, 127, 0), (.aload_n 0, 1, 0, 0, 0, 0)] [] (pc2 := 78) (ls2 := [some (.ref 54), some (.int (nI 4))]) (st2 := [.ref 54]) (M2 := mput (mrow (mrow (mrow M 54 r92) 63 q63) 64 q64) 54 4 ((r92 4) + (nI 1))) (Ps := []) (by decide +kernel) rfl rfl trivial ?_
              refine G.mem (M' := mrow (mrow (mrow M 54 (upd r92 4 ((r92 4) + (nI 1)))) 63 q63) 64 q64) (by first | rfl | (simp only [mput, mrow_same, mrow_hit, mrow_miss, mrow_sw, idr_eq, ne_eq, Nat.reduceEqDiff, not_false_eq_true, Nat.reduceLT, reduceCtorEq]; done)) ?_
              obtain ⟨k135, hk⟩ := hk
              rcases g136 : k_readUnit fz (upd r92 4 ((r92 4) + (nI 1))) (M.1 56) q63 q64 with ⟨u137, r138, r139, r140⟩
              try simp only [g136] at hk
              have t141 : GM z mX12_readUnit (d + 6) [.ref 54] (mrow (mrow (mrow M 54 (upd r92 4 ((r92 4) + (nI 1)))) 63 q63) 64 q64) (fun rs => rs = .inl (none, mrow (mrow (mrow M 54 r138) 63 r139) 64 r140)) := by
                have q9 := c_k_readUnit_54 z d (mrow (mrow (mrow M 54 (upd r92 4 ((r92 4) + (nI 1)))) 63 q63) 64 q64) fz gz Hz k135
                try simp only [mput, mrow_same, mrow_hit, mrow_miss, mrow_sw, idr_eq, ne_eq, Nat.reduceEqDiff, not_false_eq_true, Nat.reduceLT, reduceCtorEq, g136] at q9
                exact q9
              refine G.callV (as := []) (rest := []) (a := 54) oX12_readUnit lk_EvenFindersModel_255 (by decide +kernel) rfl rfl ⟨rfl, rfl⟩ (Nat.le_of_ble_eq_true rfl) rfl ⟨Nat.le_of_ble_eq_true rfl, Nat.le_of_ble_eq_true rfl⟩ t141 (fun v9 N9 h142 => ?_) (fun E9 N9 h142 => by cases h142)
              cases h142
              show G z mX12_readProduct (d + 7) 0 0 81 [some (.ref 54), some (.int (nI 4))] [] (mrow (mrow (mrow M 54 r138) 63 r139) 64 r140) Q
              refine G.sl [(.aload_n 0, 1, 0, 0, 0, 0), (.iload_n 1, 1, 1, 0, 0, 0), (.iconst 0, 1, 0, 0, 0, nI 0)] [] (pc2 := 84) (ls2 := [some (.ref 54), some (.int (nI 4))]) (st2 := [.int (nI 0), .int (nI 4), .ref 54]) (M2 := mrow (mrow (mrow M 54 r138) 63 r139) 64 r140) (Ps := []) (by decide +kernel) rfl rfl trivial ?_
              obtain ⟨k143, hk⟩ := hk
              rcases g144 : k_emit r138 r139 r140 (nI 4) (nI 0) with ⟨u145, r146, r147, r148⟩
              try simp only [g144] at hk
              have t149 : GM z mX12_emit (d + 6) [.ref 54, .int (nI 4), .int (nI 0)] (mrow (mrow (mrow M 54 r138) 63 r139) 64 r140) (fun rs => rs = .inl (none, mrow (mrow (mrow M 54 r146) 63 r147) 64 r148)) := by
                have q9 := c_k_emit_54 z (d + 5) (mrow (mrow (mrow M 54 r138) 63 r139) 64 r140) (nI 4) (nI 0) k143
                try simp only [mput, mrow_same, mrow_hit, mrow_miss, mrow_sw, idr_eq, ne_eq, Nat.reduceEqDiff, not_false_eq_true, Nat.reduceLT, reduceCtorEq, g144] at q9
                exact q9
              refine G.callV (as := [.int (nI 4), .int (nI 0)]) (rest := []) (a := 54) oX12_emit lk_EvenFindersModel_252 (by decide +kernel) rfl rfl ⟨rfl, rfl⟩ (Nat.le_of_ble_eq_true rfl) rfl ⟨Nat.le_of_ble_eq_true rfl, Nat.le_of_ble_eq_true rfl⟩ t149 (fun v9 N9 h150 => ?_) (fun E9 N9 h150 => by cases h150)
              cases h150
              show G z mX12_readProduct (d + 7) 0 0 87 [some (.ref 54), some (.int (nI 4))] [] (mrow (mrow (mrow M 54 r146) 63 r147) 64 r148) Q
              refine G.sl [(.goto (-83), 3, 4, 0, 0, 0)] [] (pc2 := 4) (ls2 := [some (.ref 54), some (.int (nI 4))]) (st2 := []) (M2 := mrow (mrow (mrow M 54 r146) 63 r147) 64 r148) (Ps := []) (by decide +kernel) rfl rfl trivial ?_
              refine G.loc (ls2 := [some (.ref 54), none]) (by simp [subL]) ?_
              simp only [k_readProduct_4, if_neg c12, g14, if_neg c19, g83, if_pos c88, g90, if_pos c95, g136, g144] at hX
              exact ih r146 r147 r148 hk hX
          · skip
            rw [if_neg c88] at hk
            refine G.sl [(.aload_n 0, 1, 0, 0, 0, 0)] [] (pc2 := 30) (ls2 := [some (.ref 54), none]) (st2 := [.ref 54]) (M2 := mrow (mrow (mrow M 54 r85) 63 q63) 64 q64) (Ps := []) (by decide +kernel) rfl rfl trivial ?_
            obtain ⟨k151, hk⟩ := hk
            rcases g152 : k_here r85 (M.1 56) with ⟨v153, r154⟩
            try simp only [g152] at hk
            have t155 : GM z mX12_here (d + 6) [.ref 54] (mrow (mrow (mrow M 54 r85) 63 q63) 64 q64) (fun rs => rs = .inl (some (.int v153), mrow (mrow (mrow M 54 r154) 63 q63) 64 q64)) := by
              have q9 := c_k_here_54 z (d + 6) (mrow (mrow (mrow M 54 r85) 63 q63) 64 q64) k151
              try simp only [mput, mrow_same, mrow_hit, mrow_miss, mrow_sw, idr_eq, ne_eq, Nat.reduceEqDiff, not_false_eq_true, Nat.reduceLT, reduceCtorEq, g152] at q9
              exact q9
            refine G.callV (as := []) (rest := []) (a := 54) oX12_here lk_EvenFindersModel_113 (by decide +kernel) rfl rfl ⟨rfl, rfl⟩ (Nat.le_of_ble_eq_true rfl) rfl ⟨Nat.le_of_ble_eq_true rfl, Nat.le_of_ble_eq_true rfl⟩ t155 (fun v9 N9 h156 => ?_) (fun E9 N9 h156 => by cases h156)
            cases h156
            show G z mX12_readProduct (d + 7) 0 0 33 [some (.ref 54), none] [.int v153] (mrow (mrow (mrow M 54 r154) 63 q63) 64 q64) Q
            refine G.sl [(.bipush 37, 2, 0, 0, 0, nI 37)] [] (pc2 := 35) (ls2 := [some (.ref 54), none]) (st2 := [.int (nI 37), .int v153]) (M2 := mrow (mrow (mrow M 54 r154) 63 q63) 64 q64) (Ps := []) (by decide +kernel) rfl rfl trivial ?_
            refine G.ic_ne (off := (55)) (tgt := 90) (by decide +kernel) rfl (fun c157 => ?_) (fun c157 => ?_)
            · skip
              rw [if_neg c157] at hk
              refine G.loc (ls2 := [none, none]) (by simp [subL]) ?_
              simp only [k_readProduct_4, if_neg c12, g14, if_neg c19, g83, if_neg c88, g152, if_neg c157] at hX
              exact hX
            · skip
              rw [if_pos c157] at hk
              refine G.sl [(.aload_n 0, 1, 0, 0, 0, 0)] [] (pc2 := 39) (ls2 := [some (.ref 54), none]) (st2 := [.ref 54]) (M2 := mrow (mrow (mrow M 54 r154) 63 q63) 64 q64) (Ps := []) (by decide +kernel) rfl rfl trivial ?_
              obtain ⟨k158, hk⟩ := hk
              rcases g159 : k_here r154 (M.1 56) with ⟨v160, r161⟩
              try simp only [g159] at hk
              have t162 : GM z mX12_here (d + 6) [.ref 54] (mrow (mrow (mrow M 54 r154) 63 q63) 64 q64) (fun rs => rs = .inl (some (.int v160), mrow (mrow (mrow M 54 r161) 63 q63) 64 q64)) := by
                have q9 := c_k_here_54 z (d + 6) (mrow (mrow (mrow M 54 r154) 63 q63) 64 q64) k158
                try simp only [mput, mrow_same, mrow_hit, mrow_miss, mrow_sw, idr_eq, ne_eq, Nat.reduceEqDiff, not_false_eq_true, Nat.reduceLT, reduceCtorEq, g159] at q9
                exact q9
              refine G.callV (as := []) (rest := []) (a := 54) oX12_here lk_EvenFindersModel_113 (by decide +kernel) rfl rfl ⟨rfl, rfl⟩ (Nat.le_of_ble_eq_true rfl) rfl ⟨Nat.le_of_ble_eq_true rfl, Nat.le_of_ble_eq_true rfl⟩ t162 (fun v9 N9 h163 => ?_) (fun E9 N9 h163 => by cases h163)
              cases h163
              show G z mX12_readProduct (d + 7) 0 0 42 [some (.ref 54), none] [.int v160] (mrow (mrow (mrow M 54 r161) 63 q63) 64 q64) Q
              refine G.sl [(.bipush 42, 2, 0, 0, 0, nI 42)] [] (pc2 := 44) (ls2 := [some (.ref 54), none]) (st2 := [.int (nI 42), .int v160]) (M2 := mrow (mrow (mrow M 54 r161) 63 q63) 64 q64) (Ps := []) (by decide +kernel) rfl rfl trivial ?_
              refine G.ic_ne (off := (7)) (tgt := 51) (by decide +kernel) rfl (fun c164 => ?_) (fun c164 => ?_)
              · skip
                rw [if_neg c164] at hk
                refine G.sl [(.aload_n 0, 1, 0, 0, 0, 0)] [] (pc2 := 52) (ls2 := [some (.ref 54), none]) (st2 := [.ref 54]) (M2 := mrow (mrow (mrow M 54 r161) 63 q63) 64 q64) (Ps := []) (by decide +kernel) rfl rfl trivial ?_
                obtain ⟨k165, hk⟩ := hk
                rcases g166 : k_here r161 (M.1 56) with ⟨v167, r168⟩
                try simp only [g166] at hk
                have t169 : GM z mX12_here (d + 6) [.ref 54] (mrow (mrow (mrow M 54 r161) 63 q63) 64 q64) (fun rs => rs = .inl (some (.int v167), mrow (mrow (mrow M 54 r168) 63 q63) 64 q64)) := by
                  have q9 := c_k_here_54 z (d + 6) (mrow (mrow (mrow M 54 r161) 63 q63) 64 q64) k165
                  try simp only [mput, mrow_same, mrow_hit, mrow_miss, mrow_sw, idr_eq, ne_eq, Nat.reduceEqDiff, not_false_eq_true, Nat.reduceLT, reduceCtorEq, g166] at q9
                  exact q9
                refine G.callV (as := []) (rest := []) (a := 54) oX12_here lk_EvenFindersModel_113 (by decide +kernel) rfl rfl ⟨rfl, rfl⟩ (Nat.le_of_ble_eq_true rfl) rfl ⟨Nat.le_of_ble_eq_true rfl, Nat.le_of_ble_eq_true rfl⟩ t169 (fun v9 N9 h170 => ?_) (fun E9 N9 h170 => by cases h170)
                cases h170
                show G z mX12_readProduct (d + 7) 0 0 55 [some (.ref 54), none] [.int v167] (mrow (mrow (mrow M 54 r168) 63 q63) 64 q64) Q
                refine G.sl [(.bipush 47, 2, 0, 0, 0, nI 47)] [] (pc2 := 57) (ls2 := [some (.ref 54), none]) (st2 := [.int (nI 47), .int v167]) (M2 := mrow (mrow (mrow M 54 r168) 63 q63) 64 q64) (Ps := []) (by decide +kernel) rfl rfl trivial ?_
                refine G.ic_ne (off := (7)) (tgt := 64) (by decide +kernel) rfl (fun c171 => ?_) (fun c171 => ?_)
                · skip
                  rw [if_neg c171] at hk
                  refine G.sl [(.bipush 8, 2, 0, 0, 0, nI 8), (.istore_n 1, 1, 1, 0, 0, 0), (.aload_n 0, 1, 0, 0, 0, 0), (.dup, 1, 0, 0, 0, 0), (.getfield 107, 3, 11, 4, 127, 0), (.iconst 1, 1, 0, 0, 0, nI 1), (.iadd, 1, 0, 0, 0, 0), (.putfield 107, 3, 11, 4, 127, 0), (.aload_n 0, 1, 0, 0, 0, 0)] [] (pc2 := 78) (ls2 := [some (.ref 54), some (.int (nI 8))]) (st2 := [.ref 54]) (M2 := mput (mrow (mrow (mrow M 54 r168) 63 q63) 64 q64) 54 4 ((r168 4) + (nI 1))) (Ps := []) (by decide +kernel) rfl rfl trivial ?_
                  refine G.mem (M' := mrow (mrow (mrow M 54 (upd r168 4 ((r168 4) + (nI 1)))) 63 q63) 64 q64) (by first | rfl | (simp only [mput, mrow_same, mrow_hit, mrow_miss, mrow_sw, idr_eq, ne_eq, Nat.reduceEqDiff, not_false_eq_true, Nat.reduceLT, reduceCtorEq]; done)) ?_
                  obtain ⟨k172, hk⟩ := hk
                  rcases g173 : k_readUnit fz (upd r168 4 ((r168 4) + (nI 1))) (M.1 56) q63 q64 with ⟨u174, r175, r176, r177⟩
                  try simp only [g173] at hk
                  have t178 : GM z mX12_readUnit (d + 6) [.ref 54] (mrow (mrow (mrow M 54 (upd r168 4 ((r168 4) + (nI 1)))) 63 q63) 64 q64) (fun rs => rs = .inl (none, mrow (mrow (mrow M 54 r175) 63 r176) 64 r177)) := by
                    have q9 := c_k_readUnit_54 z d (mrow (mrow (mrow M 54 (upd r168 4 ((r168 4) + (nI 1)))) 63 q63) 64 q64) fz gz Hz k172
                    try simp only [mput, mrow_same, mrow_hit, mrow_miss, mrow_sw, idr_eq, ne_eq, Nat.reduceEqDiff, not_false_eq_true, Nat.reduceLT, reduceCtorEq, g173] at q9
                    exact q9
                  refine G.callV (as := []) (rest := []) (a := 54) oX12_readUnit lk_EvenFindersModel_255 (by decide +kernel) rfl rfl ⟨rfl, rfl⟩ (Nat.le_of_ble_eq_true rfl) rfl ⟨Nat.le_of_ble_eq_true rfl, Nat.le_of_ble_eq_true rfl⟩ t178 (fun v9 N9 h179 => ?_) (fun E9 N9 h179 => by cases h179)
                  cases h179
                  show G z mX12_readProduct (d + 7) 0 0 81 [some (.ref 54), some (.int (nI 8))] [] (mrow (mrow (mrow M 54 r175) 63 r176) 64 r177) Q
                  refine G.sl [(.aload_n 0, 1, 0, 0, 0, 0), (.iload_n 1, 1, 1, 0, 0, 0), (.iconst 0, 1, 0, 0, 0, nI 0)] [] (pc2 := 84) (ls2 := [some (.ref 54), some (.int (nI 8))]) (st2 := [.int (nI 0), .int (nI 8), .ref 54]) (M2 := mrow (mrow (mrow M 54 r175) 63 r176) 64 r177) (Ps := []) (by decide +kernel) rfl rfl trivial ?_
                  obtain ⟨k180, hk⟩ := hk
                  rcases g181 : k_emit r175 r176 r177 (nI 8) (nI 0) with ⟨u182, r183, r184, r185⟩
                  try simp only [g181] at hk
                  have t186 : GM z mX12_emit (d + 6) [.ref 54, .int (nI 8), .int (nI 0)] (mrow (mrow (mrow M 54 r175) 63 r176) 64 r177) (fun rs => rs = .inl (none, mrow (mrow (mrow M 54 r183) 63 r184) 64 r185)) := by
                    have q9 := c_k_emit_54 z (d + 5) (mrow (mrow (mrow M 54 r175) 63 r176) 64 r177) (nI 8) (nI 0) k180
                    try simp only [mput, mrow_same, mrow_hit, mrow_miss, mrow_sw, idr_eq, ne_eq, Nat.reduceEqDiff, not_false_eq_true, Nat.reduceLT, reduceCtorEq, g181] at q9
                    exact q9
                  refine G.callV (as := [.int (nI 8), .int (nI 0)]) (rest := []) (a := 54) oX12_emit lk_EvenFindersModel_252 (by decide +kernel) rfl rfl ⟨rfl, rfl⟩ (Nat.le_of_ble_eq_true rfl) rfl ⟨Nat.le_of_ble_eq_true rfl, Nat.le_of_ble_eq_true rfl⟩ t186 (fun v9 N9 h187 => ?_) (fun E9 N9 h187 => by cases h187)
                  cases h187
                  show G z mX12_readProduct (d + 7) 0 0 87 [some (.ref 54), some (.int (nI 8))] [] (mrow (mrow (mrow M 54 r183) 63 r184) 64 r185) Q
                  refine G.sl [(.goto (-83), 3, 4, 0, 0, 0)] [] (pc2 := 4) (ls2 := [some (.ref 54), some (.int (nI 8))]) (st2 := []) (M2 := mrow (mrow (mrow M 54 r183) 63 r184) 64 r185) (Ps := []) (by decide +kernel) rfl rfl trivial ?_
                  refine G.loc (ls2 := [some (.ref 54), none]) (by simp [subL]) ?_
                  simp only [k_readProduct_4, if_neg c12, g14, if_neg c19, g83, if_neg c88, g152, if_pos c157, g159, if_neg c164, g166, if_neg c171, g173, g181] at hX
                  exact ih r183 r184 r185 hk hX
                · skip
                  rw [if_pos c171] at hk
                  refine G.sl [(.iconst 5, 1, 0, 0, 0, nI 5), (.goto 5, 3, 66, 0, 0, 0), (.istore_n 1, 1, 1, 0, 0, 0), (.aload_n 0, 1, 0, 0, 0, 0), (.dup, 1, 0, 0, 0, 0), (.getfield 107, 3, 11, 4, 127, 0), (.iconst 1, 1, 0, 0, 0, nI 1), (.iadd, 1, 0, 0, 0, 0), (.putfield 107, 3, 11, 4, 127, 0), (.aload_n 0, 1, 0, 0, 0, 0)] [] (pc2 := 78) (ls2 := [some (.ref 54), some (.int (nI 5))]) (st2 := [.ref 54]) (M2 := mput (mrow (mrow (mrow M 54 r168) 63 q63) 64 q64) 54 4 ((r168 4) + (nI 1))) (Ps := []) (by decide +kernel) rfl rfl trivial ?_
                  refine G.mem (M' := mrow (mrow (mrow M 54 (upd r168 4 ((r168 4) + (nI 1)))) 63 q63) 64 q64) (by first | rfl | (simp only [mput, mrow_same, mrow_hit, mrow_miss, mrow_sw, idr_eq, ne_eq, Nat.reduceEqDiff, not_false_eq_true, Nat.reduceLT, reduceCtorEq]; done)) ?_
                  obtain ⟨k188, hk⟩ := hk
                  rcases g189 : k_readUnit fz (upd r168 4 ((r168 4) + (nI 1))) (M.1 56) q63 q64 with ⟨u190, r191, r192, r193⟩
                  try simp only [g189] at hk
                  have t194 : GM z mX12_readUnit (d + 6) [.ref 54] (mrow (mrow (mrow M 54 (upd r168 4 ((r168 4) + (nI 1)))) 63 q63) 64 q64) (fun rs => rs = .inl (none, mrow (mrow (mrow M 54 r191) 63 r192) 64 r193)) := by
                    have q9 := c_k_readUnit_54 z d (mrow (mrow (mrow M 54 (upd r168 4 ((r168 4) + (nI 1)))) 63 q63) 64 q64) fz gz Hz k188
                    try simp only [mput, mrow_same, mrow_hit, mrow_miss, mrow_sw, idr_eq, ne_eq, Nat.reduceEqDiff, not_false_eq_true, Nat.reduceLT, reduceCtorEq, g189] at q9
                    exact q9
                  refine G.callV (as := []) (rest := []) (a := 54) oX12_readUnit lk_EvenFindersModel_255 (by decide +kernel) rfl rfl ⟨rfl, rfl⟩ (Nat.le_of_ble_eq_true rfl) rfl ⟨Nat.le_of_ble_eq_true rfl, Nat.le_of_ble_eq_true rfl⟩ t194 (fun v9 N9 h195 => ?_) (fun E9 N9 h195 => by cases h195)
                  cases h195
                  show G z mX12_readProduct (d + 7) 0 0 81 [some (.ref 54), some (.int (nI 5))] [] (mrow (mrow (mrow M 54 r191) 63 r192) 64 r193) Q
                  refine G.sl [(.aload_n 0, 1, 0, 0, 0, 0), (.iload_n 1, 1, 1, 0, 0, 0), (.iconst 0, 1, 0, 0, 0, nI 0)] [] (pc2 := 84) (ls2 := [some (.ref 54), some (.int (nI 5))]) (st2 := [.int (nI 0), .int (nI 5), .ref 54]) (M2 := mrow (mrow (mrow M 54 r191) 63 r192) 64 r193) (Ps := []) (by decide +kernel) rfl rfl trivial ?_
                  obtain ⟨k196, hk⟩ := hk
                  rcases g197 : k_emit r191 r192 r193 (nI 5) (nI 0) with ⟨u198, r199, r200, r201⟩
                  try simp only [g197] at hk
                  have t202 : GM z mX12_emit (d + 6) [.ref 54, .int (nI 5), .int (nI 0)] (mrow (mrow (mrow M 54 r191) 63 r192) 64 r193) (fun rs => rs = .inl (none, mrow (mrow (mrow M 54 r199) 63 r200) 64 r201)) := by
                    have q9 := c_k_emit_54 z (d + 5) (mrow (mrow (mrow M 54 r191) 63 r192) 64 r193) (nI 5) (nI 0) k196
                    try simp only [mput, mrow_same, mrow_hit, mrow_miss, mrow_sw, idr_eq, ne_eq, Nat.reduceEqDiff, not_false_eq_true, Nat.reduceLT, reduceCtorEq, g197] at q9
                    exact q9
                  refine G.callV (as := [.int (nI 5), .int (nI 0)]) (rest := []) (a := 54) oX12_emit lk_EvenFindersModel_252 (by decide +kernel) rfl rfl ⟨rfl, rfl⟩ (Nat.le_of_ble_eq_true rfl) rfl ⟨Nat.le_of_ble_eq_true rfl, Nat.le_of_ble_eq_true rfl⟩ t202 (fun v9 N9 h203 => ?_) (fun E9 N9 h203 => by cases h203)
                  cases h203
                  show G z mX12_readProduct (d + 7) 0 0 87 [some (.ref 54), some (.int (nI 5))] [] (mrow (mrow (mrow M 54 r199) 63 r200) 64 r201) Q
                  refine G.sl [(.goto (-83), 3, 4, 0, 0, 0)] [] (pc2 := 4) (ls2 := [some (.ref 54), some (.int (nI 5))]) (st2 := []) (M2 := mrow (mrow (mrow M 54 r199) 63 r200) 64 r201) (Ps := []) (by decide +kernel) rfl rfl trivial ?_
                  refine G.loc (ls2 := [some (.ref 54), none]) (by simp [subL]) ?_
                  simp only [k_readProduct_4, if_neg c12, g14, if_neg c19, g83, if_neg c88, g152, if_pos c157, g159, if_neg c164, g166, if_pos c171, g189, g197] at hX
                  exact ih r199 r200 r201 hk hX
              · skip
                rw [if_pos c164] at hk
                refine G.sl [(.iconst 4, 1, 0, 0, 0, nI 4), (.goto 18, 3, 66, 0, 0, 0), (.istore_n 1, 1, 1, 0, 0, 0), (.aload_n 0, 1, 0, 0, 0, 0), (.dup, 1, 0, 0, 0, 0), (.getfield 107, 3, 11, 4, 127, 0), (.iconst 1, 1, 0, 0, 0, nI 1), (.iadd, 1, 0, 0, 0, 0), (.putfield 107, 3, 11, 4, 127, 0), (.aload_n 0, 1, 0, 0, 0, 0)] [] (pc2 := 78) (ls2 := [some (.ref 54), some (.int (nI 4))]) (st2 := [.ref 54]) (M2 := mput (mrow (mrow (mrow M 54 r161) 63 q63) 64 q64) 54 4 ((r161 4) + (nI 1))) (Ps := []) (by decide +kernel) rfl rfl trivial ?_
                refine G.mem (M' := mrow (mrow (mrow M 54 (upd r161 4 ((r161 4) + (nI 1)))) 63 q63) 64 q64) (by first | rfl | (simp only [mput, mrow_same, mrow_hit, mrow_miss, mrow_sw, idr_eq, ne_eq, Nat.reduceEqDiff, not_false_eq_true, Nat.reduceLT, reduceCtorEq]; done)) ?_
                obtain ⟨k204, hk⟩ := hk
                rcases g205 : k_readUnit fz (upd r161 4 ((r161 4) + (nI 1))) (M.1 56) q63 q64 with ⟨u206, r207, r208, r209⟩
                try simp only [g205] at hk
                have t210 : GM z mX12_readUnit (d + 6) [.ref 54] (mrow (mrow (mrow M 54 (upd r161 4 ((r161 4) + (nI 1)))) 63 q63) 64 q64) (fun rs => rs = .inl (none, mrow (mrow (mrow M 54 r207) 63 r208) 64 r209)) := by
                  have q9 := c_k_readUnit_54 z d (mrow (mrow (mrow M 54 (upd r161 4 ((r161 4) + (nI 1)))) 63 q63) 64 q64) fz gz Hz k204
                  try simp only [mput, mrow_same, mrow_hit, mrow_miss, mrow_sw, idr_eq, ne_eq, Nat.reduceEqDiff, not_false_eq_true, Nat.reduceLT, reduceCtorEq, g205] at q9
                  exact q9
                refine G.callV (as := []) (rest := []) (a := 54) oX12_readUnit lk_EvenFindersModel_255 (by decide +kernel) rfl rfl ⟨rfl, rfl⟩ (Nat.le_of_ble_eq_true rfl) rfl ⟨Nat.le_of_ble_eq_true rfl, Nat.le_of_ble_eq_true rfl⟩ t210 (fun v9 N9 h211 => ?_) (fun E9 N9 h211 => by cases h211)
                cases h211
                show G z mX12_readProduct (d + 7) 0 0 81 [some (.ref 54), some (.int (nI 4))] [] (mrow (mrow (mrow M 54 r207) 63 r208) 64 r209) Q
                refine G.sl [(.aload_n 0, 1, 0, 0, 0, 0), (.iload_n 1, 1, 1, 0, 0, 0), (.iconst 0, 1, 0, 0, 0, nI 0)] [] (pc2 := 84) (ls2 := [some (.ref 54), some (.int (nI 4))]) (st2 := [.int (nI 0), .int (nI 4), .ref 54]) (M2 := mrow (mrow (mrow M 54 r207) 63 r208) 64 r209) (Ps := []) (by decide +kernel) rfl rfl trivial ?_
                obtain ⟨k212, hk⟩ := hk
                rcases g213 : k_emit r207 r208 r209 (nI 4) (nI 0) with ⟨u214, r215, r216, r217⟩
                try simp only [g213] at hk
                have t218 : GM z mX12_emit (d + 6) [.ref 54, .int (nI 4), .int (nI 0)] (mrow (mrow (mrow M 54 r207) 63 r208) 64 r209) (fun rs => rs = .inl (none, mrow (mrow (mrow M 54 r215) 63 r216) 64 r217)) := by
                  have q9 := c_k_emit_54 z (d + 5) (mrow (mrow (mrow M 54 r207) 63 r208) 64 r209) (nI 4) (nI 0) k212
                  try simp only [mput, mrow_same, mrow_hit, mrow_miss, mrow_sw, idr_eq, ne_eq, Nat.reduceEqDiff, not_false_eq_true, Nat.reduceLT, reduceCtorEq, g213] at q9
                  exact q9
                refine G.callV (as := [.int (nI 4), .int (nI 0)]) (rest := []) (a := 54) oX12_emit lk_EvenFindersModel_252 (by decide +kernel) rfl rfl ⟨rfl, rfl⟩ (Nat.le_of_ble_eq_true rfl) rfl ⟨Nat.le_of_ble_eq_true rfl, Nat.le_of_ble_eq_true rfl⟩ t218 (fun v9 N9 h219 => ?_) (fun E9 N9 h219 => by cases h219)
                cases h219
                show G z mX12_readProduct (d + 7) 0 0 87 [some (.ref 54), some (.int (nI 4))] [] (mrow (mrow (mrow M 54 r215) 63 r216) 64 r217) Q
                refine G.sl [(.goto (-83), 3, 4, 0, 0, 0)] [] (pc2 := 4) (ls2 := [some (.ref 54), some (.int (nI 4))]) (st2 := []) (M2 := mrow (mrow (mrow M 54 r215) 63 r216) 64 r217) (Ps := []) (by decide +kernel) rfl rfl trivial ?_
                refine G.loc (ls2 := [some (.ref 54), none]) (by simp [subL]) ?_
                simp only [k_readProduct_4, if_neg c12, g14, if_neg c19, g83, if_neg c88, g152, if_pos c157, g159, if_pos c164, g205, g213] at hX
                exact ih r215 r216 r217 hk hX
set_option maxHeartbeats 4000000 in
set_option maxRecDepth 3000 in
theorem c_k_readProduct_54 (z : Zp) (d : Nat) (M : Mem) (fz : (Nat → Int32) → (Nat → Int32) → (Nat → Int32) → (Nat → Int32) → Int32 × (Nat → Int32) × (Nat → Int32) × (Nat → Int32)) (gz : (Nat → Int32) → (Nat → Int32) → (Nat → Int32) → (Nat → Int32) → Prop) (Hz : ∀ (j : Nat) (M : Mem) , gz (M.1 54) (M.1 56) (M.1 63) (M.1 64) → GM z mX12_readSum (d + j) [.ref 54] M (fun rs => rs = .inl (none, mrow (mrow (mrow M 54 ((fz (M.1 54) (M.1 56) (M.1 63) (M.1 64)).2.1)) 63 ((fz (M.1 54) (M.1 56) (M.1 63) (M.1 64)).2.2.1)) 64 ((fz (M.1 54) (M.1 56) (M.1 63) (M.1 64)).2.2.2)))) (hk : k_readProduct_ok fz gz (M.1 54) (M.1 56) (M.1 63) (M.1 64)) : GM z mX12_readProduct (d + 7) [.ref 54] M (fun rs => rs = .inl (none, mrow (mrow (mrow M 54 ((k_readProduct fz (M.1 54) (M.1 56) (M.1 63) (M.1 64)).2.1)) 63 ((k_readProduct fz (M.1 54) (M.1 56) (M.1 63) (M.1 64)).2.2.1)) 64 ((k_readProduct fz (M.1 54) (M.1 56) (M.1 63) (M.1 64)).2.2.2))) := by
  simp only [k_readProduct_ok] at hk
  refine GM.of oX12_readProduct.1 (Nat.le_of_ble_eq_true rfl) ?_
  show G z mX12_readProduct (d + 7) 0 0 0 [some (.ref 54), none] [] M _
  obtain ⟨Q, hQ⟩ : ∃ Q : Rs → Prop, Q = (fun rs => rs = .inl (none, mrow (mrow (mrow M 54 ((k_readProduct fz (M.1 54) (M.1 56) (M.1 63) (M.1 64)).2.1)) 63 ((k_readProduct fz (M.1 54) (M.1 56) (M.1 63) (M.1 64)).2.2.1)) 64 ((k_readProduct fz (M.1 54) (M.1 56) (M.1 63) (M.1 64)).2.2.2))) := ⟨_, rfl⟩
  rw [← hQ]
  refine G.sl [(.aload_n 0, 1, 0, 0, 0, 0)] [] (pc2 := 1) (ls2 := [some (.ref 54), none]) (st2 := [.ref 54]) (M2 := M) (Ps := []) (by decide +kernel) rfl rfl trivial ?_
  obtain ⟨k1, hk⟩ := hk
  rcases g2 : k_readUnit fz (M.1 54) (M.1 56) (M.1 63) (M.1 64) with ⟨u3, r4, r5, r6⟩
  try simp only [g2] at hk
  have t7 : GM z mX12_readUnit (d + 6) [.ref 54] M (fun rs => rs = .inl (none, mrow (mrow (mrow M 54 r4) 63 r5) 64 r6)) := by
    have q9 := c_k_readUnit_54 z d M fz gz Hz k1
    try simp only [mput, mrow_same, mrow_hit, mrow_miss, mrow_sw, idr_eq, ne_eq, Nat.reduceEqDiff, not_false_eq_true, Nat.reduceLT, reduceCtorEq, g2] at q9
    exact q9
  refine G.callV (as := []) (rest := []) (a := 54) oX12_readUnit lk_EvenFindersModel_255 (by decide +kernel) rfl rfl ⟨rfl, rfl⟩ (Nat.le_of_ble_eq_true rfl) rfl ⟨Nat.le_of_ble_eq_true rfl, Nat.le_of_ble_eq_true rfl⟩ t7 (fun v9 N9 h8 => ?_) (fun E9 N9 h8 => by cases h8)
  cases h8
  show G z mX12_readProduct (d + 7) 0 0 4 [some (.ref 54), none] [] (mrow (mrow (mrow M 54 r4) 63 r5) 64 r6) Q
  obtain ⟨k220, hk⟩ := hk
  refine G.mem (M' := mrow (mrow (mrow (mrow (mrow (mrow M 54 r4) 63 r5) 64 r6) 54 ((mrow (mrow (mrow M 54 r4) 63 r5) 64 r6).1 54)) 63 ((mrow (mrow (mrow M 54 r4) 63 r5) 64 r6).1 63)) 64 ((mrow (mrow (mrow M 54 r4) 63 r5) 64 r6).1 64)) (by simp only [mrow_self]) ?_
  refine lp_k_readProduct_54_4 z d (mrow (mrow (mrow M 54 r4) 63 r5) 64 r6) Q fz gz Hz FU ((mrow (mrow (mrow M 54 r4) 63 r5) 64 r6).1 54) ((mrow (mrow (mrow M 54 r4) 63 r5) 64 r6).1 63) ((mrow (mrow (mrow M 54 r4) 63 r5) 64 r6).1 64) (by first | (simp only [mput, mrow_same, mrow_hit, mrow_miss, mrow_sw, idr_eq, ne_eq, Nat.reduceEqDiff, not_false_eq_true, Nat.reduceLT, reduceCtorEq]; exact k220) | exact k220) ?_
  try simp only [mput, mrow_same, mrow_hit, mrow_miss, mrow_sw, idr_eq, ne_eq, Nat.reduceEqDiff, not_false_eq_true, Nat.reduceLT, reduceCtorEq]
  rcases g221 : k_readProduct_4 fz (M.1 56) FU r4 r5 r6 with ⟨r222, r223, r224⟩
  show G z mX12_readProduct (d + 7) 0 0 90 [none, none] [] (mrow (mrow (mrow M 54 r222) 63 r223) 64 r224) Q
  exact G.retv (by decide +kernel) rfl (Nat.le_of_ble_eq_true rfl) (Nat.le_of_ble_eq_true rfl) ((by rw [hQ]; simp only [k_readProduct, g2, g221, mrow_self]))
set_option maxHeartbeats 4000000 in
set_option maxRecDepth 3000 in
theorem lp_k_readSum_54_st_4 (z : Zp) (d : Nat) (M : Mem) (Q : Rs → Prop) (fz : (Nat → Int32) → (Nat → Int32) → (Nat → Int32) → (Nat → Int32) → Int32 × (Nat → Int32) × (Nat → Int32) × (Nat → Int32)) (gz : (Nat → Int32) → (Nat → Int32) → (Nat → Int32) → (Nat → Int32) → Prop) (Hz : ∀ (j : Nat) (M : Mem) , gz (M.1 54) (M.1 56) (M.1 63) (M.1 64) → GM z mX12_readSum (d + j) [.ref 54] M (fun rs => rs = .inl (none, mrow (mrow (mrow M 54 ((fz (M.1 54) (M.1 56) (M.1 63) (M.1 64)).2.1)) 63 ((fz (M.1 54) (M.1 56) (M.1 63) (M.1 64)).2.2.1)) 64 ((fz (M.1 54) (M.1 56) (M.1 63) (M.1 64)).2.2.2)))) : ∀ (k0 : Nat) (q54 : (Nat → Int32)) (q63 : (Nat → Int32)) (q64 : (Nat → Int32)), k_readSum_st_4_ok fz gz (M.1 56) k0 q54 q63 q64 → (match k_readSum_st_4 fz (M.1 56) k0 q54 q63 q64 with | (q54', q63', q64') => G z mX12_readSum (d + 8) 0 0 67 [none, none] [] (mrow (mrow (mrow M 54 (q54')) 63 (q63')) 64 (q64')) Q) → G z mX12_readSum (d + 8) 0 0 4 [some (.ref 54), none] [] (mrow (mrow (mrow M 54 q54) 63 q63) 64 q64) Q := by
  intro k0
  induction k0 with
  | zero =>
      intro q54 q63 q64 hk hX
      exact (by simpa only [k_readSum_st_4_ok] using hk : False).elim
  | succ k0 ih =>
      intro q54 q63 q64 hk hX
      simp only [k_readSum_st_4_ok] at hk
      refine G.sl [(.aload_n 0, 1, 0, 0, 0, 0)] [] (pc2 := 5) (ls2 := [some (.ref 54), none]) (st2 := [.ref 54]) (M2 := mrow (mrow (mrow M 54 q54) 63 q63) 64 q64) (Ps := []) (by decide +kernel) rfl rfl trivial ?_
      obtain ⟨k9, hk⟩ := hk
      have t10 : GM z mX12_fine (d + 7) [.ref 54] (mrow (mrow (mrow M 54 q54) 63 q63) 64 q64) (fun rs => rs = .inl (some (.int (k_fine q54)), mrow (mrow (mrow M 54 q54) 63 q63) 64 q64)) := by
        have q9 := c_k_fine_54 z (d + 7) (mrow (mrow (mrow M 54 q54) 63 q63) 64 q64) 
        try simp only [mput, mrow_same, mrow_hit, mrow_miss, mrow_sw, idr_eq, ne_eq, Nat.reduceEqDiff, not_false_eq_true, Nat.reduceLT, reduceCtorEq] at q9
        exact q9
      refine G.callV (as := []) (rest := []) (a := 54) oX12_fine lk_EvenFindersModel_130 (by decide +kernel) rfl rfl ⟨rfl, rfl⟩ (Nat.le_of_ble_eq_true rfl) rfl ⟨Nat.le_of_ble_eq_true rfl, Nat.le_of_ble_eq_true rfl⟩ t10 (fun v9 N9 h11 => ?_) (fun E9 N9 h11 => by cases h11)
      cases h11
      show G z mX12_readSum (d + 8) 0 0 8 [some (.ref 54), none] [.int (k_fine q54)] (mrow (mrow (mrow M 54 q54) 63 q63) 64 q64) Q
      refine G.if_eq (off := (59)) (tgt := 67) (by decide +kernel) rfl (fun c12 => ?_) (fun c12 => ?_)
      · skip
        rw [if_pos c12] at hk
        refine G.loc (ls2 := [none, none]) (by simp [subL]) ?_
        simp only [k_readSum_st_4, if_pos c12] at hX
        exact hX
      · skip
        rw [if_neg c12] at hk
        refine G.sl [(.aload_n 0, 1, 0, 0, 0, 0)] [] (pc2 := 12) (ls2 := [some (.ref 54), none]) (st2 := [.ref 54]) (M2 := mrow (mrow (mrow M 54 q54) 63 q63) 64 q64) (Ps := []) (by decide +kernel) rfl rfl trivial ?_
        obtain ⟨k13, hk⟩ := hk
        rcases g14 : k_here q54 (M.1 56) with ⟨v15, r16⟩
        try simp only [g14] at hk
        have t17 : GM z mX12_here (d + 7) [.ref 54] (mrow (mrow (mrow M 54 q54) 63 q63) 64 q64) (fun rs => rs = .inl (some (.int v15), mrow (mrow (mrow M 54 r16) 63 q63) 64 q64)) := by
          have q9 := c_k_here_54 z (d + 7) (mrow (mrow (mrow M 54 q54) 63 q63) 64 q64) k13
          try simp only [mput, mrow_same, mrow_hit, mrow_miss, mrow_sw, idr_eq, ne_eq, Nat.reduceEqDiff, not_false_eq_true, Nat.reduceLT, reduceCtorEq, g14] at q9
          exact q9
        refine G.callV (as := []) (rest := []) (a := 54) oX12_here lk_EvenFindersModel_113 (by decide +kernel) rfl rfl ⟨rfl, rfl⟩ (Nat.le_of_ble_eq_true rfl) rfl ⟨Nat.le_of_ble_eq_true rfl, Nat.le_of_ble_eq_true rfl⟩ t17 (fun v9 N9 h18 => ?_) (fun E9 N9 h18 => by cases h18)
        cases h18
        show G z mX12_readSum (d + 8) 0 0 15 [some (.ref 54), none] [.int v15] (mrow (mrow (mrow M 54 r16) 63 q63) 64 q64) Q
        refine G.sl [(.bipush 43, 2, 0, 0, 0, nI 43)] [] (pc2 := 17) (ls2 := [some (.ref 54), none]) (st2 := [.int (nI 43), .int v15]) (M2 := mrow (mrow (mrow M 54 r16) 63 q63) 64 q64) (Ps := []) (by decide +kernel) rfl rfl trivial ?_
        refine G.ic_eq (off := (12)) (tgt := 29) (by decide +kernel) rfl (fun c19 => ?_) (fun c19 => ?_)
        · skip
          rw [if_pos c19] at hk
          refine G.sl [(.aload_n 0, 1, 0, 0, 0, 0)] [] (pc2 := 30) (ls2 := [some (.ref 54), none]) (st2 := [.ref 54]) (M2 := mrow (mrow (mrow M 54 r16) 63 q63) 64 q64) (Ps := []) (by decide +kernel) rfl rfl trivial ?_
          obtain ⟨k20, hk⟩ := hk
          rcases g21 : k_here r16 (M.1 56) with ⟨v22, r23⟩
          try simp only [g21] at hk
          have t24 : GM z mX12_here (d + 7) [.ref 54] (mrow (mrow (mrow M 54 r16) 63 q63) 64 q64) (fun rs => rs = .inl (some (.int v22), mrow (mrow (mrow M 54 r23) 63 q63) 64 q64)) := by
            have q9 := c_k_here_54 z (d + 7) (mrow (mrow (mrow M 54 r16) 63 q63) 64 q64) k20
            try simp only [mput, mrow_same, mrow_hit, mrow_miss, mrow_sw, idr_eq, ne_eq, Nat.reduceEqDiff, not_false_eq_true, Nat.reduceLT, reduceCtorEq, g21] at q9
            exact q9
          refine G.callV (as := []) (rest := []) (a := 54) oX12_here lk_EvenFindersModel_113 (by decide +kernel) rfl rfl ⟨rfl, rfl⟩ (Nat.le_of_ble_eq_true rfl) rfl ⟨Nat.le_of_ble_eq_true rfl, Nat.le_of_ble_eq_true rfl⟩ t24 (fun v9 N9 h25 => ?_) (fun E9 N9 h25 => by cases h25)
          cases h25
          show G z mX12_readSum (d + 8) 0 0 33 [some (.ref 54), none] [.int v22] (mrow (mrow (mrow M 54 r23) 63 q63) 64 q64) Q
          refine G.sl [(.bipush 43, 2, 0, 0, 0, nI 43)] [] (pc2 := 35) (ls2 := [some (.ref 54), none]) (st2 := [.int (nI 43), .int v22]) (M2 := mrow (mrow (mrow M 54 r23) 63 q63) 64 q64) (Ps := []) (by decide +kernel) rfl rfl trivial ?_
          refine G.ic_ne (off := (7)) (tgt := 42) (by decide +kernel) rfl (fun c26 => ?_) (fun c26 => ?_)
          · skip
            rw [if_neg c26] at hk
            refine G.sl [(.iconst 3, 1, 0, 0, 0, nI 3), (.istore_n 1, 1, 1, 0, 0, 0), (.aload_n 0, 1, 0, 0, 0, 0), (.dup, 1, 0, 0, 0, 0), (.getfield 107, 3, 11, 4, 127, 0), (.iconst 1, 1, 0, 0, 0, nI 1), (.iadd, 1, 0, 0, 0, 0), (.putfield 107, 3, 11, 4, 127, 0), (.aload_n 0, 1, 0, 0, 0, 0)] [] (pc2 := 55) (ls2 := [some (.ref 54), some (.int (nI 3))]) (st2 := [.ref 54]) (M2 := mput (mrow (mrow (mrow M 54 r23) 63 q63) 64 q64) 54 4 ((r23 4) + (nI 1))) (Ps := []) (by decide +kernel) rfl rfl trivial ?_
            refine G.mem (M' := mrow (mrow (mrow M 54 (upd r23 4 ((r23 4) + (nI 1)))) 63 q63) 64 q64) (by first | rfl | (simp only [mput, mrow_same, mrow_hit, mrow_miss, mrow_sw, idr_eq, ne_eq, Nat.reduceEqDiff, not_false_eq_true, Nat.reduceLT, reduceCtorEq]; done)) ?_
            obtain ⟨k27, hk⟩ := hk
            rcases g28 : k_readProduct fz (upd r23 4 ((r23 4) + (nI 1))) (M.1 56) q63 q64 with ⟨u29, r30, r31, r32⟩
            try simp only [g28] at hk
            have t33 : GM z mX12_readProduct (d + 7) [.ref 54] (mrow (mrow (mrow M 54 (upd r23 4 ((r23 4) + (nI 1)))) 63 q63) 64 q64) (fun rs => rs = .inl (none, mrow (mrow (mrow M 54 r30) 63 r31) 64 r32)) := by
              have q9 := c_k_readProduct_54 z d (mrow (mrow (mrow M 54 (upd r23 4 ((r23 4) + (nI 1)))) 63 q63) 64 q64) fz gz Hz k27
              try simp only [mput, mrow_same, mrow_hit, mrow_miss, mrow_sw, idr_eq, ne_eq, Nat.reduceEqDiff, not_false_eq_true, Nat.reduceLT, reduceCtorEq, g28] at q9
              exact q9
            refine G.callV (as := []) (rest := []) (a := 54) oX12_readProduct lk_EvenFindersModel_249 (by decide +kernel) rfl rfl ⟨rfl, rfl⟩ (Nat.le_of_ble_eq_true rfl) rfl ⟨Nat.le_of_ble_eq_true rfl, Nat.le_of_ble_eq_true rfl⟩ t33 (fun v9 N9 h34 => ?_) (fun E9 N9 h34 => by cases h34)
            cases h34
            show G z mX12_readSum (d + 8) 0 0 58 [some (.ref 54), some (.int (nI 3))] [] (mrow (mrow (mrow M 54 r30) 63 r31) 64 r32) Q
            refine G.sl [(.aload_n 0, 1, 0, 0, 0, 0), (.iload_n 1, 1, 1, 0, 0, 0), (.iconst 0, 1, 0, 0, 0, nI 0)] [] (pc2 := 61) (ls2 := [some (.ref 54), some (.int (nI 3))]) (st2 := [.int (nI 0), .int (nI 3), .ref 54]) (M2 := mrow (mrow (mrow M 54 r30) 63 r31) 64 r32) (Ps := []) (by decide +kernel) rfl rfl trivial ?_
            obtain ⟨k35, hk⟩ := hk
            rcases g36 : k_emit r30 r31 r32 (nI 3) (nI 0) with ⟨u37, r38, r39, r40⟩
            try simp only [g36] at hk
            have t41 : GM z mX12_emit (d + 7) [.ref 54, .int (nI 3), .int (nI 0)] (mrow (mrow (mrow M 54 r30) 63 r31) 64 r32) (fun rs => rs = .inl (none, mrow (mrow (mrow M 54 r38) 63 r39) 64 r40)) := by
              have q9 := c_k_emit_54 z (d + 6) (mrow (mrow (mrow M 54 r30) 63 r31) 64 r32) (nI 3) (nI 0) k35
              try simp only [mput, mrow_same, mrow_hit, mrow_miss, mrow_sw, idr_eq, ne_eq, Nat.reduceEqDiff, not_false_eq_true, Nat.reduceLT, reduceCtorEq, g36] at q9
              exact q9
            refine G.callV (as := [.int (nI 3), .int (nI 0)]) (rest := []) (a := 54) oX12_emit lk_EvenFindersModel_252 (by decide +kernel) rfl rfl ⟨rfl, rfl⟩ (Nat.le_of_ble_eq_true rfl) rfl ⟨Nat.le_of_ble_eq_true rfl, Nat.le_of_ble_eq_true rfl⟩ t41 (fun v9 N9 h42 => ?_) (fun E9 N9 h42 => by cases h42)
            cases h42
            show G z mX12_readSum (d + 8) 0 0 64 [some (.ref 54), some (.int (nI 3))] [] (mrow (mrow (mrow M 54 r38) 63 r39) 64 r40) Q
            refine G.sl [(.goto (-60), 3, 4, 0, 0, 0)] [] (pc2 := 4) (ls2 := [some (.ref 54), some (.int (nI 3))]) (st2 := []) (M2 := mrow (mrow (mrow M 54 r38) 63 r39) 64 r40) (Ps := []) (by decide +kernel) rfl rfl trivial ?_
            refine G.loc (ls2 := [some (.ref 54), none]) (by simp [subL]) ?_
            simp only [k_readSum_st_4, if_neg c12, g14, if_pos c19, g21, if_neg c26, g28, g36] at hX
            exact ih r38 r39 r40 hk hX
          · skip
            rw [if_pos c26] at hk
            refine G.sl [(.iconst 2, 1, 0, 0, 0, nI 2), (.goto 4, 3, 43, 0, 0, 0), (.istore_n 1, 1, 1, 0, 0, 0), (.aload_n 0, 1, 0, 0, 0, 0), (.dup, 1, 0, 0, 0, 0), (.getfield 107, 3, 11, 4, 127, 0), (.iconst 1, 1, 0, 0, 0, nI 1), (.iadd, 1, 0, 0, 0, 0), (.putfield 107, 3, 11, 4, 127, 0), (.aload_n 0, 1, 0, 0, 0, 0)] [] (pc2 := 55) (ls2 := [some (.ref 54), some (.int (nI 2))]) (st2 := [.ref 54]) (M2 := mput (mrow (mrow (mrow M 54 r23) 63 q63) 64 q64) 54 4 ((r23 4) + (nI 1))) (Ps := []) (by decide +kernel) rfl rfl trivial ?_
            refine G.mem (M' := mrow (mrow (mrow M 54 (upd r23 4 ((r23 4) + (nI 1)))) 63 q63) 64 q64) (by first | rfl | (simp only [mput, mrow_same, mrow_hit, mrow_miss, mrow_sw, idr_eq, ne_eq, Nat.reduceEqDiff, not_false_eq_true, Nat.reduceLT, reduceCtorEq]; done)) ?_
            obtain ⟨k43, hk⟩ := hk
            rcases g44 : k_readProduct fz (upd r23 4 ((r23 4) + (nI 1))) (M.1 56) q63 q64 with ⟨u45, r46, r47, r48⟩
            try simp only [g44] at hk
            have t49 : GM z mX12_readProduct (d + 7) [.ref 54] (mrow (mrow (mrow M 54 (upd r23 4 ((r23 4) + (nI 1)))) 63 q63) 64 q64) (fun rs => rs = .inl (none, mrow (mrow (mrow M 54 r46) 63 r47) 64 r48)) := by
              have q9 := c_k_readProduct_54 z d (mrow (mrow (mrow M 54 (upd r23 4 ((r23 4) + (nI 1)))) 63 q63) 64 q64) fz gz Hz k43
              try simp only [mput, mrow_same, mrow_hit, mrow_miss, mrow_sw, idr_eq, ne_eq, Nat.reduceEqDiff, not_false_eq_true, Nat.reduceLT, reduceCtorEq, g44] at q9
              exact q9
            refine G.callV (as := []) (rest := []) (a := 54) oX12_readProduct lk_EvenFindersModel_249 (by decide +kernel) rfl rfl ⟨rfl, rfl⟩ (Nat.le_of_ble_eq_true rfl) rfl ⟨Nat.le_of_ble_eq_true rfl, Nat.le_of_ble_eq_true rfl⟩ t49 (fun v9 N9 h50 => ?_) (fun E9 N9 h50 => by cases h50)
            cases h50
            show G z mX12_readSum (d + 8) 0 0 58 [some (.ref 54), some (.int (nI 2))] [] (mrow (mrow (mrow M 54 r46) 63 r47) 64 r48) Q
            refine G.sl [(.aload_n 0, 1, 0, 0, 0, 0), (.iload_n 1, 1, 1, 0, 0, 0), (.iconst 0, 1, 0, 0, 0, nI 0)] [] (pc2 := 61) (ls2 := [some (.ref 54), some (.int (nI 2))]) (st2 := [.int (nI 0), .int (nI 2), .ref 54]) (M2 := mrow (mrow (mrow M 54 r46) 63 r47) 64 r48) (Ps := []) (by decide +kernel) rfl rfl trivial ?_
            obtain ⟨k51, hk⟩ := hk
            rcases g52 : k_emit r46 r47 r48 (nI 2) (nI 0) with ⟨u53, r54, r55, r56⟩
            try simp only [g52] at hk
            have t57 : GM z mX12_emit (d + 7) [.ref 54, .int (nI 2), .int (nI 0)] (mrow (mrow (mrow M 54 r46) 63 r47) 64 r48) (fun rs => rs = .inl (none, mrow (mrow (mrow M 54 r54) 63 r55) 64 r56)) := by
              have q9 := c_k_emit_54 z (d + 6) (mrow (mrow (mrow M 54 r46) 63 r47) 64 r48) (nI 2) (nI 0) k51
              try simp only [mput, mrow_same, mrow_hit, mrow_miss, mrow_sw, idr_eq, ne_eq, Nat.reduceEqDiff, not_false_eq_true, Nat.reduceLT, reduceCtorEq, g52] at q9
              exact q9
            refine G.callV (as := [.int (nI 2), .int (nI 0)]) (rest := []) (a := 54) oX12_emit lk_EvenFindersModel_252 (by decide +kernel) rfl rfl ⟨rfl, rfl⟩ (Nat.le_of_ble_eq_true rfl) rfl ⟨Nat.le_of_ble_eq_true rfl, Nat.le_of_ble_eq_true rfl⟩ t57 (fun v9 N9 h58 => ?_) (fun E9 N9 h58 => by cases h58)
            cases h58
            show G z mX12_readSum (d + 8) 0 0 64 [some (.ref 54), some (.int (nI 2))] [] (mrow (mrow (mrow M 54 r54) 63 r55) 64 r56) Q
            refine G.sl [(.goto (-60), 3, 4, 0, 0, 0)] [] (pc2 := 4) (ls2 := [some (.ref 54), some (.int (nI 2))]) (st2 := []) (M2 := mrow (mrow (mrow M 54 r54) 63 r55) 64 r56) (Ps := []) (by decide +kernel) rfl rfl trivial ?_
            refine G.loc (ls2 := [some (.ref 54), none]) (by simp [subL]) ?_
            simp only [k_readSum_st_4, if_neg c12, g14, if_pos c19, g21, if_pos c26, g44, g52] at hX
            exact ih r54 r55 r56 hk hX
        · skip
          rw [if_neg c19] at hk
          refine G.sl [(.aload_n 0, 1, 0, 0, 0, 0)] [] (pc2 := 21) (ls2 := [some (.ref 54), none]) (st2 := [.ref 54]) (M2 := mrow (mrow (mrow M 54 r16) 63 q63) 64 q64) (Ps := []) (by decide +kernel) rfl rfl trivial ?_
          obtain ⟨k59, hk⟩ := hk
          rcases g60 : k_here r16 (M.1 56) with ⟨v61, r62⟩
          try simp only [g60] at hk
          have t63 : GM z mX12_here (d + 7) [.ref 54] (mrow (mrow (mrow M 54 r16) 63 q63) 64 q64) (fun rs => rs = .inl (some (.int v61), mrow (mrow (mrow M 54 r62) 63 q63) 64 q64)) := by
            have q9 := c_k_here_54 z (d + 7) (mrow (mrow (mrow M 54 r16) 63 q63) 64 q64) k59
            try simp only [mput, mrow_same, mrow_hit, mrow_miss, mrow_sw, idr_eq, ne_eq, Nat.reduceEqDiff, not_false_eq_true, Nat.reduceLT, reduceCtorEq, g60] at q9
            exact q9
          refine G.callV (as := []) (rest := []) (a := 54) oX12_here lk_EvenFindersModel_113 (by decide +kernel) rfl rfl ⟨rfl, rfl⟩ (Nat.le_of_ble_eq_true rfl) rfl ⟨Nat.le_of_ble_eq_true rfl, Nat.le_of_ble_eq_true rfl⟩ t63 (fun v9 N9 h64 => ?_) (fun E9 N9 h64 => by cases h64)
          cases h64
          show G z mX12_readSum (d + 8) 0 0 24 [some (.ref 54), none] [.int v61] (mrow (mrow (mrow M 54 r62) 63 q63) 64 q64) Q
          refine G.sl [(.bipush 45, 2, 0, 0, 0, nI 45)] [] (pc2 := 26) (ls2 := [some (.ref 54), none]) (st2 := [.int (nI 45), .int v61]) (M2 := mrow (mrow (mrow M 54 r62) 63 q63) 64 q64) (Ps := []) (by decide +kernel) rfl rfl trivial ?_
          refine G.ic_ne (off := (41)) (tgt := 67) (by decide +kernel) rfl (fun c65 => ?_) (fun c65 => ?_)
          · skip
            rw [if_neg c65] at hk
            refine G.loc (ls2 := [none, none]) (by simp [subL]) ?_
            simp only [k_readSum_st_4, if_neg c12, g14, if_neg c19, g60, if_neg c65] at hX
            exact hX
          · skip
            rw [if_pos c65] at hk
            refine G.sl [(.aload_n 0, 1, 0, 0, 0, 0)] [] (pc2 := 30) (ls2 := [some (.ref 54), none]) (st2 := [.ref 54]) (M2 := mrow (mrow (mrow M 54 r62) 63 q63) 64 q64) (Ps := []) (by decide +kernel) rfl rfl trivial ?_
            obtain ⟨k66, hk⟩ := hk
            rcases g67 : k_here r62 (M.1 56) with ⟨v68, r69⟩
            try simp only [g67] at hk
            have t70 : GM z mX12_here (d + 7) [.ref 54] (mrow (mrow (mrow M 54 r62) 63 q63) 64 q64) (fun rs => rs = .inl (some (.int v68), mrow (mrow (mrow M 54 r69) 63 q63) 64 q64)) := by
              have q9 := c_k_here_54 z (d + 7) (mrow (mrow (mrow M 54 r62) 63 q63) 64 q64) k66
              try simp only [mput, mrow_same, mrow_hit, mrow_miss, mrow_sw, idr_eq, ne_eq, Nat.reduceEqDiff, not_false_eq_true, Nat.reduceLT, reduceCtorEq, g67] at q9
              exact q9
            refine G.callV (as := []) (rest := []) (a := 54) oX12_here lk_EvenFindersModel_113 (by decide +kernel) rfl rfl ⟨rfl, rfl⟩ (Nat.le_of_ble_eq_true rfl) rfl ⟨Nat.le_of_ble_eq_true rfl, Nat.le_of_ble_eq_true rfl⟩ t70 (fun v9 N9 h71 => ?_) (fun E9 N9 h71 => by cases h71)
            cases h71
            show G z mX12_readSum (d + 8) 0 0 33 [some (.ref 54), none] [.int v68] (mrow (mrow (mrow M 54 r69) 63 q63) 64 q64) Q
            refine G.sl [(.bipush 43, 2, 0, 0, 0, nI 43)] [] (pc2 := 35) (ls2 := [some (.ref 54), none]) (st2 := [.int (nI 43), .int v68]) (M2 := mrow (mrow (mrow M 54 r69) 63 q63) 64 q64) (Ps := []) (by decide +kernel) rfl rfl trivial ?_
            refine G.ic_ne (off := (7)) (tgt := 42) (by decide +kernel) rfl (fun c72 => ?_) (fun c72 => ?_)
            · skip
              rw [if_neg c72] at hk
              refine G.sl [(.iconst 3, 1, 0, 0, 0, nI 3), (.istore_n 1, 1, 1, 0, 0, 0), (.aload_n 0, 1, 0, 0, 0, 0), (.dup, 1, 0, 0, 0, 0), (.getfield 107, 3, 11, 4, 127, 0), (.iconst 1, 1, 0, 0, 0, nI 1), (.iadd, 1, 0, 0, 0, 0), (.putfield 107, 3, 11, 4, 127, 0), (.aload_n 0, 1, 0, 0, 0, 0)] [] (pc2 := 55) (ls2 := [some (.ref 54), some (.int (nI 3))]) (st2 := [.ref 54]) (M2 := mput (mrow (mrow (mrow M 54 r69) 63 q63) 64 q64) 54 4 ((r69 4) + (nI 1))) (Ps := []) (by decide +kernel) rfl rfl trivial ?_
              refine G.mem (M' := mrow (mrow (mrow M 54 (upd r69 4 ((r69 4) + (nI 1)))) 63 q63) 64 q64) (by first | rfl | (simp only [mput, mrow_same, mrow_hit, mrow_miss, mrow_sw, idr_eq, ne_eq, Nat.reduceEqDiff, not_false_eq_true, Nat.reduceLT, reduceCtorEq]; done)) ?_
              obtain ⟨k73, hk⟩ := hk
              rcases g74 : k_readProduct fz (upd r69 4 ((r69 4) + (nI 1))) (M.1 56) q63 q64 with ⟨u75, r76, r77, r78⟩
              try simp only [g74] at hk
              have t79 : GM z mX12_readProduct (d + 7) [.ref 54] (mrow (mrow (mrow M 54 (upd r69 4 ((r69 4) + (nI 1)))) 63 q63) 64 q64) (fun rs => rs = .inl (none, mrow (mrow (mrow M 54 r76) 63 r77) 64 r78)) := by
                have q9 := c_k_readProduct_54 z d (mrow (mrow (mrow M 54 (upd r69 4 ((r69 4) + (nI 1)))) 63 q63) 64 q64) fz gz Hz k73
                try simp only [mput, mrow_same, mrow_hit, mrow_miss, mrow_sw, idr_eq, ne_eq, Nat.reduceEqDiff, not_false_eq_true, Nat.reduceLT, reduceCtorEq, g74] at q9
                exact q9
              refine G.callV (as := []) (rest := []) (a := 54) oX12_readProduct lk_EvenFindersModel_249 (by decide +kernel) rfl rfl ⟨rfl, rfl⟩ (Nat.le_of_ble_eq_true rfl) rfl ⟨Nat.le_of_ble_eq_true rfl, Nat.le_of_ble_eq_true rfl⟩ t79 (fun v9 N9 h80 => ?_) (fun E9 N9 h80 => by cases h80)
              cases h80
              show G z mX12_readSum (d + 8) 0 0 58 [some (.ref 54), some (.int (nI 3))] [] (mrow (mrow (mrow M 54 r76) 63 r77) 64 r78) Q
              refine G.sl [(.aload_n 0, 1, 0, 0, 0, 0), (.iload_n 1, 1, 1, 0, 0, 0), (.iconst 0, 1, 0, 0, 0, nI 0)] [] (pc2 := 61) (ls2 := [some (.ref 54), some (.int (nI 3))]) (st2 := [.int (nI 0), .int (nI 3), .ref 54]) (M2 := mrow (mrow (mrow M 54 r76) 63 r77) 64 r78) (Ps := []) (by decide +kernel) rfl rfl trivial ?_
              obtain ⟨k81, hk⟩ := hk
              rcases g82 : k_emit r76 r77 r78 (nI 3) (nI 0) with ⟨u83, r84, r85, r86⟩
              try simp only [g82] at hk
              have t87 : GM z mX12_emit (d + 7) [.ref 54, .int (nI 3), .int (nI 0)] (mrow (mrow (mrow M 54 r76) 63 r77) 64 r78) (fun rs => rs = .inl (none, mrow (mrow (mrow M 54 r84) 63 r85) 64 r86)) := by
                have q9 := c_k_emit_54 z (d + 6) (mrow (mrow (mrow M 54 r76) 63 r77) 64 r78) (nI 3) (nI 0) k81
                try simp only [mput, mrow_same, mrow_hit, mrow_miss, mrow_sw, idr_eq, ne_eq, Nat.reduceEqDiff, not_false_eq_true, Nat.reduceLT, reduceCtorEq, g82] at q9
                exact q9
              refine G.callV (as := [.int (nI 3), .int (nI 0)]) (rest := []) (a := 54) oX12_emit lk_EvenFindersModel_252 (by decide +kernel) rfl rfl ⟨rfl, rfl⟩ (Nat.le_of_ble_eq_true rfl) rfl ⟨Nat.le_of_ble_eq_true rfl, Nat.le_of_ble_eq_true rfl⟩ t87 (fun v9 N9 h88 => ?_) (fun E9 N9 h88 => by cases h88)
              cases h88
              show G z mX12_readSum (d + 8) 0 0 64 [some (.ref 54), some (.int (nI 3))] [] (mrow (mrow (mrow M 54 r84) 63 r85) 64 r86) Q
              refine G.sl [(.goto (-60), 3, 4, 0, 0, 0)] [] (pc2 := 4) (ls2 := [some (.ref 54), some (.int (nI 3))]) (st2 := []) (M2 := mrow (mrow (mrow M 54 r84) 63 r85) 64 r86) (Ps := []) (by decide +kernel) rfl rfl trivial ?_
              refine G.loc (ls2 := [some (.ref 54), none]) (by simp [subL]) ?_
              simp only [k_readSum_st_4, if_neg c12, g14, if_neg c19, g60, if_pos c65, g67, if_neg c72, g74, g82] at hX
              exact ih r84 r85 r86 hk hX
            · skip
              rw [if_pos c72] at hk
              refine G.sl [(.iconst 2, 1, 0, 0, 0, nI 2), (.goto 4, 3, 43, 0, 0, 0), (.istore_n 1, 1, 1, 0, 0, 0), (.aload_n 0, 1, 0, 0, 0, 0), (.dup, 1, 0, 0, 0, 0), (.getfield 107, 3, 11, 4, 127, 0), (.iconst 1, 1, 0, 0, 0, nI 1), (.iadd, 1, 0, 0, 0, 0), (.putfield 107, 3, 11, 4, 127, 0), (.aload_n 0, 1, 0, 0, 0, 0)] [] (pc2 := 55) (ls2 := [some (.ref 54), some (.int (nI 2))]) (st2 := [.ref 54]) (M2 := mput (mrow (mrow (mrow M 54 r69) 63 q63) 64 q64) 54 4 ((r69 4) + (nI 1))) (Ps := []) (by decide +kernel) rfl rfl trivial ?_
              refine G.mem (M' := mrow (mrow (mrow M 54 (upd r69 4 ((r69 4) + (nI 1)))) 63 q63) 64 q64) (by first | rfl | (simp only [mput, mrow_same, mrow_hit, mrow_miss, mrow_sw, idr_eq, ne_eq, Nat.reduceEqDiff, not_false_eq_true, Nat.reduceLT, reduceCtorEq]; done)) ?_
              obtain ⟨k89, hk⟩ := hk
              rcases g90 : k_readProduct fz (upd r69 4 ((r69 4) + (nI 1))) (M.1 56) q63 q64 with ⟨u91, r92, r93, r94⟩
              try simp only [g90] at hk
              have t95 : GM z mX12_readProduct (d + 7) [.ref 54] (mrow (mrow (mrow M 54 (upd r69 4 ((r69 4) + (nI 1)))) 63 q63) 64 q64) (fun rs => rs = .inl (none, mrow (mrow (mrow M 54 r92) 63 r93) 64 r94)) := by
                have q9 := c_k_readProduct_54 z d (mrow (mrow (mrow M 54 (upd r69 4 ((r69 4) + (nI 1)))) 63 q63) 64 q64) fz gz Hz k89
                try simp only [mput, mrow_same, mrow_hit, mrow_miss, mrow_sw, idr_eq, ne_eq, Nat.reduceEqDiff, not_false_eq_true, Nat.reduceLT, reduceCtorEq, g90] at q9
                exact q9
              refine G.callV (as := []) (rest := []) (a := 54) oX12_readProduct lk_EvenFindersModel_249 (by decide +kernel) rfl rfl ⟨rfl, rfl⟩ (Nat.le_of_ble_eq_true rfl) rfl ⟨Nat.le_of_ble_eq_true rfl, Nat.le_of_ble_eq_true rfl⟩ t95 (fun v9 N9 h96 => ?_) (fun E9 N9 h96 => by cases h96)
              cases h96
              show G z mX12_readSum (d + 8) 0 0 58 [some (.ref 54), some (.int (nI 2))] [] (mrow (mrow (mrow M 54 r92) 63 r93) 64 r94) Q
              refine G.sl [(.aload_n 0, 1, 0, 0, 0, 0), (.iload_n 1, 1, 1, 0, 0, 0), (.iconst 0, 1, 0, 0, 0, nI 0)] [] (pc2 := 61) (ls2 := [some (.ref 54), some (.int (nI 2))]) (st2 := [.int (nI 0), .int (nI 2), .ref 54]) (M2 := mrow (mrow (mrow M 54 r92) 63 r93) 64 r94) (Ps := []) (by decide +kernel) rfl rfl trivial ?_
              obtain ⟨k97, hk⟩ := hk
              rcases g98 : k_emit r92 r93 r94 (nI 2) (nI 0) with ⟨u99, r100, r101, r102⟩
              try simp only [g98] at hk
              have t103 : GM z mX12_emit (d + 7) [.ref 54, .int (nI 2), .int (nI 0)] (mrow (mrow (mrow M 54 r92) 63 r93) 64 r94) (fun rs => rs = .inl (none, mrow (mrow (mrow M 54 r100) 63 r101) 64 r102)) := by
                have q9 := c_k_emit_54 z (d + 6) (mrow (mrow (mrow M 54 r92) 63 r93) 64 r94) (nI 2) (nI 0) k97
                try simp only [mput, mrow_same, mrow_hit, mrow_miss, mrow_sw, idr_eq, ne_eq, Nat.reduceEqDiff, not_false_eq_true, Nat.reduceLT, reduceCtorEq, g98] at q9
                exact q9
              refine G.callV (as := [.int (nI 2), .int (nI 0)]) (rest := []) (a := 54) oX12_emit lk_EvenFindersModel_252 (by decide +kernel) rfl rfl ⟨rfl, rfl⟩ (Nat.le_of_ble_eq_true rfl) rfl ⟨Nat.le_of_ble_eq_true rfl, Nat.le_of_ble_eq_true rfl⟩ t103 (fun v9 N9 h104 => ?_) (fun E9 N9 h104 => by cases h104)
              cases h104
              show G z mX12_readSum (d + 8) 0 0 64 [some (.ref 54), some (.int (nI 2))] [] (mrow (mrow (mrow M 54 r100) 63 r101) 64 r102) Q
              refine G.sl [(.goto (-60), 3, 4, 0, 0, 0)] [] (pc2 := 4) (ls2 := [some (.ref 54), some (.int (nI 2))]) (st2 := []) (M2 := mrow (mrow (mrow M 54 r100) 63 r101) 64 r102) (Ps := []) (by decide +kernel) rfl rfl trivial ?_
              refine G.loc (ls2 := [some (.ref 54), none]) (by simp [subL]) ?_
              simp only [k_readSum_st_4, if_neg c12, g14, if_neg c19, g60, if_pos c65, g67, if_pos c72, g90, g98] at hX
              exact ih r100 r101 r102 hk hX
set_option maxHeartbeats 4000000 in
set_option maxRecDepth 3000 in
theorem c_k_readSum_54_st (z : Zp) (d : Nat) (M : Mem) (fz : (Nat → Int32) → (Nat → Int32) → (Nat → Int32) → (Nat → Int32) → Int32 × (Nat → Int32) × (Nat → Int32) × (Nat → Int32)) (gz : (Nat → Int32) → (Nat → Int32) → (Nat → Int32) → (Nat → Int32) → Prop) (Hz : ∀ (j : Nat) (M : Mem) , gz (M.1 54) (M.1 56) (M.1 63) (M.1 64) → GM z mX12_readSum (d + j) [.ref 54] M (fun rs => rs = .inl (none, mrow (mrow (mrow M 54 ((fz (M.1 54) (M.1 56) (M.1 63) (M.1 64)).2.1)) 63 ((fz (M.1 54) (M.1 56) (M.1 63) (M.1 64)).2.2.1)) 64 ((fz (M.1 54) (M.1 56) (M.1 63) (M.1 64)).2.2.2)))) (hk : k_readSum_st_ok fz gz (M.1 54) (M.1 56) (M.1 63) (M.1 64)) : GM z mX12_readSum (d + 8) [.ref 54] M (fun rs => rs = .inl (none, mrow (mrow (mrow M 54 ((k_readSum_st fz (M.1 54) (M.1 56) (M.1 63) (M.1 64)).2.1)) 63 ((k_readSum_st fz (M.1 54) (M.1 56) (M.1 63) (M.1 64)).2.2.1)) 64 ((k_readSum_st fz (M.1 54) (M.1 56) (M.1 63) (M.1 64)).2.2.2))) := by
  simp only [k_readSum_st_ok] at hk
  refine GM.of oX12_readSum.1 (Nat.le_of_ble_eq_true rfl) ?_
  show G z mX12_readSum (d + 8) 0 0 0 [some (.ref 54), none] [] M _
  obtain ⟨Q, hQ⟩ : ∃ Q : Rs → Prop, Q = (fun rs => rs = .inl (none, mrow (mrow (mrow M 54 ((k_readSum_st fz (M.1 54) (M.1 56) (M.1 63) (M.1 64)).2.1)) 63 ((k_readSum_st fz (M.1 54) (M.1 56) (M.1 63) (M.1 64)).2.2.1)) 64 ((k_readSum_st fz (M.1 54) (M.1 56) (M.1 63) (M.1 64)).2.2.2))) := ⟨_, rfl⟩
  rw [← hQ]
  refine G.sl [(.aload_n 0, 1, 0, 0, 0, 0)] [] (pc2 := 1) (ls2 := [some (.ref 54), none]) (st2 := [.ref 54]) (M2 := M) (Ps := []) (by decide +kernel) rfl rfl trivial ?_
  obtain ⟨k1, hk⟩ := hk
  rcases g2 : k_readProduct fz (M.1 54) (M.1 56) (M.1 63) (M.1 64) with ⟨u3, r4, r5, r6⟩
  try simp only [g2] at hk
  have t7 : GM z mX12_readProduct (d + 7) [.ref 54] M (fun rs => rs = .inl (none, mrow (mrow (mrow M 54 r4) 63 r5) 64 r6)) := by
    have q9 := c_k_readProduct_54 z d M fz gz Hz k1
    try simp only [mput, mrow_same, mrow_hit, mrow_miss, mrow_sw, idr_eq, ne_eq, Nat.reduceEqDiff, not_false_eq_true, Nat.reduceLT, reduceCtorEq, g2] at q9
    exact q9
  refine G.callV (as := []) (rest := []) (a := 54) oX12_readProduct lk_EvenFindersModel_249 (by decide +kernel) rfl rfl ⟨rfl, rfl⟩ (Nat.le_of_ble_eq_true rfl) rfl ⟨Nat.le_of_ble_eq_true rfl, Nat.le_of_ble_eq_true rfl⟩ t7 (fun v9 N9 h8 => ?_) (fun E9 N9 h8 => by cases h8)
  cases h8
  show G z mX12_readSum (d + 8) 0 0 4 [some (.ref 54), none] [] (mrow (mrow (mrow M 54 r4) 63 r5) 64 r6) Q
  obtain ⟨k105, hk⟩ := hk
  refine G.mem (M' := mrow (mrow (mrow (mrow (mrow (mrow M 54 r4) 63 r5) 64 r6) 54 ((mrow (mrow (mrow M 54 r4) 63 r5) 64 r6).1 54)) 63 ((mrow (mrow (mrow M 54 r4) 63 r5) 64 r6).1 63)) 64 ((mrow (mrow (mrow M 54 r4) 63 r5) 64 r6).1 64)) (by simp only [mrow_self]) ?_
  refine lp_k_readSum_54_st_4 z d (mrow (mrow (mrow M 54 r4) 63 r5) 64 r6) Q fz gz Hz FU ((mrow (mrow (mrow M 54 r4) 63 r5) 64 r6).1 54) ((mrow (mrow (mrow M 54 r4) 63 r5) 64 r6).1 63) ((mrow (mrow (mrow M 54 r4) 63 r5) 64 r6).1 64) (by first | (simp only [mput, mrow_same, mrow_hit, mrow_miss, mrow_sw, idr_eq, ne_eq, Nat.reduceEqDiff, not_false_eq_true, Nat.reduceLT, reduceCtorEq]; exact k105) | exact k105) ?_
  try simp only [mput, mrow_same, mrow_hit, mrow_miss, mrow_sw, idr_eq, ne_eq, Nat.reduceEqDiff, not_false_eq_true, Nat.reduceLT, reduceCtorEq]
  rcases g106 : k_readSum_st_4 fz (M.1 56) FU r4 r5 r6 with ⟨r107, r108, r109⟩
  show G z mX12_readSum (d + 8) 0 0 67 [none, none] [] (mrow (mrow (mrow M 54 r107) 63 r108) 64 r109) Q
  exact G.retv (by decide +kernel) rfl (Nat.le_of_ble_eq_true rfl) (Nat.le_of_ble_eq_true rfl) ((by rw [hQ]; simp only [k_readSum_st, g2, g106, mrow_self]))
theorem c_k_readSum_54_rec (z : Zp)  : ∀ (k0 d : Nat) (M : Mem) , k_readSum_rec_ok k0 (M.1 54) (M.1 56) (M.1 63) (M.1 64) → GM z mX12_readSum (d + 8 * k0) [.ref 54] M (fun rs => rs = .inl (none, mrow (mrow (mrow M 54 ((k_readSum_rec k0 (M.1 54) (M.1 56) (M.1 63) (M.1 64)).2.1)) 63 ((k_readSum_rec k0 (M.1 54) (M.1 56) (M.1 63) (M.1 64)).2.2.1)) 64 ((k_readSum_rec k0 (M.1 54) (M.1 56) (M.1 63) (M.1 64)).2.2.2))) := by
  intro k0
  induction k0 with
  | zero =>
    intro d M   hk
    exact (by simpa only [k_readSum_rec_ok] using hk : False).elim
  | succ k0 ih =>
    intro d M   hk
    have e9 : d + 8 * (k0 + 1) = (d + 8 * k0) + 8 := by omega
    rw [e9]
    simp only [k_readSum_rec_ok] at hk
    have q9 := c_k_readSum_54_st z (d + 8 * k0) M   (k_readSum_rec k0) (k_readSum_rec_ok k0) (fun j M   hk => by
      have q9 := ih (d + j) M   hk
      rw [show d + j + 8 * k0 = d + 8 * k0 + j by omega] at q9
      exact q9)  hk
    simp only [k_readSum_rec]
    exact q9
theorem c_k_readSum_54 (z : Zp) (d : Nat) (M : Mem)   (hk : k_readSum_ok (M.1 54) (M.1 56) (M.1 63) (M.1 64)) : GM z mX12_readSum (d + 80) [.ref 54] M (fun rs => rs = .inl (none, mrow (mrow (mrow M 54 ((k_readSum (M.1 54) (M.1 56) (M.1 63) (M.1 64)).2.1)) 63 ((k_readSum (M.1 54) (M.1 56) (M.1 63) (M.1 64)).2.2.1)) 64 ((k_readSum (M.1 54) (M.1 56) (M.1 63) (M.1 64)).2.2.2))) := by
  have q9 := c_k_readSum_54_rec z  10 d M   hk
  exact q9
set_option maxHeartbeats 4000000 in
set_option maxRecDepth 3000 in
theorem lp_k_copies_L150_L150_54_63_65_3 (z : Zp) (d : Nat) (M : Mem) (Q : Rs → Prop) (n3 : Nat) (b3 : n3 < 3000) (hk : ∀ i4, i4 < n3 → k_copies_L150_L150_3_ok (M.1 63) (M.1 65) n3 i4) (hX : G z mX12_copies (d) 0 0 23 [none, none, none, none, none] [] (mrow M 65 (k_copies_L150_L150_3 (M.1 63) (M.1 65) n3 n3)) Q) : G z mX12_copies (d) 0 0 3 [none, some (.ref 63), some (.ref 65), some (.int (nI n3)), some (.int (nI 0))] [] M Q := by
  refine G.mem (M' := mrow M 65 (M.1 65)) (by simp only [mrow_self]) ?_
  refine down (n := n3) (P := fun i4 => G z mX12_copies (d) 0 0 3 [none, some (.ref 63), some (.ref 65), some (.int (nI n3)), some (.int (nI i4))] [] (mrow M 65 (k_copies_L150_L150_3 (M.1 63) (M.1 65) n3 i4)) Q) ?_ ?_ 0 (Nat.zero_le _)
  · skip
    refine G.sl [(.iload 4, 2, 4, 0, 0, 0), (.iload_n 3, 1, 3, 0, 0, 0)] [] (pc2 := 6) (ls2 := [none, some (.ref 63), some (.ref 65), some (.int (nI n3)), some (.int (nI n3))]) (st2 := [.int (nI n3), .int (nI n3)]) (M2 := mrow M 65 (k_copies_L150_L150_3 (M.1 63) (M.1 65) n3 n3)) (Ps := []) (by decide +kernel) rfl rfl trivial ?_
    refine G.ic_ge (off := (17)) (tgt := 23) (by decide +kernel) rfl (fun _ => ?_) (fun h9 => absurd (nI_le (by omega) (by omega)) h9)
    refine G.loc (ls2 := [none, none, none, none, none]) (by simp [subL]) ?_
    exact hX
  · skip
    intro i4 hi ih
    have hk := hk i4 hi
    simp only [k_copies_L150_L150_3_ok] at hk
    show G z mX12_copies (d) 0 0 3 [none, some (.ref 63), some (.ref 65), some (.int (nI n3)), some (.int (nI i4))] [] (mrow M 65 (k_copies_L150_L150_3 (M.1 63) (M.1 65) n3 i4)) Q
    refine G.sl [(.iload 4, 2, 4, 0, 0, 0), (.iload_n 3, 1, 3, 0, 0, 0)] [] (pc2 := 6) (ls2 := [none, some (.ref 63), some (.ref 65), some (.int (nI n3)), some (.int (nI i4))]) (st2 := [.int (nI n3), .int (nI i4)]) (M2 := mrow M 65 (k_copies_L150_L150_3 (M.1 63) (M.1 65) n3 i4)) (Ps := []) (by decide +kernel) rfl rfl trivial ?_
    refine G.ic_ge (off := (17)) (tgt := 23) (by decide +kernel) rfl (fun h9 => absurd h9 (nI_ge (by omega) (by omega))) (fun _ => ?_)
    obtain ⟨k1, hk⟩ := hk
    refine G.sl [(.aload_n 2, 1, 2, 0, 0, 0), (.iload 4, 2, 4, 0, 0, 0), (.aload_n 1, 1, 1, 0, 0, 0), (.iload 4, 2, 4, 0, 0, 0), (.iaload, 1, 0, 0, 0, 0), (.iastore, 1, 0, 0, 0, 0), (.iinc 4 1, 3, 4, 0, 0, nI 1), (.goto (-17), 3, 3, 0, 0, 0)] [i4, i4] (pc2 := 3) (ls2 := [none, some (.ref 63), some (.ref 65), some (.int (nI n3)), some (.int ((nI i4) + nI 1))]) (st2 := []) (M2 := mput (mrow M 65 (k_copies_L150_L150_3 (M.1 63) (M.1 65) n3 i4)) 65 i4 (M.1 63 i4)) (Ps := [(nI i4) = nI i4 ∧ i4 < 150, (nI i4) = nI i4 ∧ i4 < 150]) (by decide +kernel) rfl rfl ⟨⟨rfl, k1⟩, ⟨rfl, k1⟩, trivial⟩ ?_
    refine G.mem (M' := mrow M 65 (upd (k_copies_L150_L150_3 (M.1 63) (M.1 65) n3 i4) i4 (M.1 63 i4))) (by first | rfl | (simp only [mput, mrow_same, mrow_hit, mrow_miss, mrow_sw, idr_eq, ne_eq, Nat.reduceEqDiff, not_false_eq_true, Nat.reduceLT, reduceCtorEq]; done)) ?_
    rw [nI_add i4 1]
    simp only [k_copies_L150_L150_3] at ih
    exact ih
set_option maxHeartbeats 4000000 in
set_option maxRecDepth 3000 in
theorem c_k_copies_L150_L150_54_63_65 (z : Zp) (d : Nat) (M : Mem) (n3 : Nat) (b3 : n3 < 3000) (hk : k_copies_L150_L150_ok (M.1 63) (M.1 65) n3) : GM z mX12_copies (d) [.ref 54, .ref 63, .ref 65, .int (nI n3)] M (fun rs => rs = .inl (none, mrow M 65 ((k_copies_L150_L150 (M.1 63) (M.1 65) n3).2))) := by
  simp only [k_copies_L150_L150_ok] at hk
  refine GM.of oX12_copies.1 (Nat.le_of_ble_eq_true rfl) ?_
  show G z mX12_copies (d) 0 0 0 [some (.ref 54), some (.ref 63), some (.ref 65), some (.int (nI n3)), none] [] M _
  obtain ⟨Q, hQ⟩ : ∃ Q : Rs → Prop, Q = (fun rs => rs = .inl (none, mrow M 65 ((k_copies_L150_L150 (M.1 63) (M.1 65) n3).2))) := ⟨_, rfl⟩
  rw [← hQ]
  refine G.sl [(.iconst 0, 1, 0, 0, 0, nI 0), (.istore 4, 2, 4, 0, 0, 0)] [] (pc2 := 3) (ls2 := [some (.ref 54), some (.ref 63), some (.ref 65), some (.int (nI n3)), some (.int (nI 0))]) (st2 := []) (M2 := M) (Ps := []) (by decide +kernel) rfl rfl trivial ?_
  refine G.loc (ls2 := [none, some (.ref 63), some (.ref 65), some (.int (nI n3)), some (.int (nI 0))]) (by simp [subL]) ?_
  obtain ⟨k2, hk⟩ := hk
  refine lp_k_copies_L150_L150_54_63_65_3 z d M Q n3 (by omega) (by first | (simp only [mput, mrow_same, mrow_hit, mrow_miss, mrow_sw, idr_eq, ne_eq, Nat.reduceEqDiff, not_false_eq_true, Nat.reduceLT, reduceCtorEq]; exact k2) | exact k2) ?_
  try simp only [mput, mrow_same, mrow_hit, mrow_miss, mrow_sw, idr_eq, ne_eq, Nat.reduceEqDiff, not_false_eq_true, Nat.reduceLT, reduceCtorEq]
  show G z mX12_copies (d) 0 0 23 [none, none, none, none, none] [] (mrow M 65 (k_copies_L150_L150_3 (M.1 63) (M.1 65) n3 n3)) Q
  exact G.retv (by decide +kernel) rfl (Nat.le_of_ble_eq_true rfl) (Nat.le_of_ble_eq_true rfl) ((by rw [hQ]; simp only [k_copies_L150_L150, mrow_self]))
set_option maxHeartbeats 4000000 in
set_option maxRecDepth 3000 in
theorem lp_k_copies_L150_L150_54_64_66_3 (z : Zp) (d : Nat) (M : Mem) (Q : Rs → Prop) (n3 : Nat) (b3 : n3 < 3000) (hk : ∀ i4, i4 < n3 → k_copies_L150_L150_3_ok (M.1 64) (M.1 66) n3 i4) (hX : G z mX12_copies (d) 0 0 23 [none, none, none, none, none] [] (mrow M 66 (k_copies_L150_L150_3 (M.1 64) (M.1 66) n3 n3)) Q) : G z mX12_copies (d) 0 0 3 [none, some (.ref 64), some (.ref 66), some (.int (nI n3)), some (.int (nI 0))] [] M Q := by
  refine G.mem (M' := mrow M 66 (M.1 66)) (by simp only [mrow_self]) ?_
  refine down (n := n3) (P := fun i4 => G z mX12_copies (d) 0 0 3 [none, some (.ref 64), some (.ref 66), some (.int (nI n3)), some (.int (nI i4))] [] (mrow M 66 (k_copies_L150_L150_3 (M.1 64) (M.1 66) n3 i4)) Q) ?_ ?_ 0 (Nat.zero_le _)
  · skip
    refine G.sl [(.iload 4, 2, 4, 0, 0, 0), (.iload_n 3, 1, 3, 0, 0, 0)] [] (pc2 := 6) (ls2 := [none, some (.ref 64), some (.ref 66), some (.int (nI n3)), some (.int (nI n3))]) (st2 := [.int (nI n3), .int (nI n3)]) (M2 := mrow M 66 (k_copies_L150_L150_3 (M.1 64) (M.1 66) n3 n3)) (Ps := []) (by decide +kernel) rfl rfl trivial ?_
    refine G.ic_ge (off := (17)) (tgt := 23) (by decide +kernel) rfl (fun _ => ?_) (fun h9 => absurd (nI_le (by omega) (by omega)) h9)
    refine G.loc (ls2 := [none, none, none, none, none]) (by simp [subL]) ?_
    exact hX
  · skip
    intro i4 hi ih
    have hk := hk i4 hi
    simp only [k_copies_L150_L150_3_ok] at hk
    show G z mX12_copies (d) 0 0 3 [none, some (.ref 64), some (.ref 66), some (.int (nI n3)), some (.int (nI i4))] [] (mrow M 66 (k_copies_L150_L150_3 (M.1 64) (M.1 66) n3 i4)) Q
    refine G.sl [(.iload 4, 2, 4, 0, 0, 0), (.iload_n 3, 1, 3, 0, 0, 0)] [] (pc2 := 6) (ls2 := [none, some (.ref 64), some (.ref 66), some (.int (nI n3)), some (.int (nI i4))]) (st2 := [.int (nI n3), .int (nI i4)]) (M2 := mrow M 66 (k_copies_L150_L150_3 (M.1 64) (M.1 66) n3 i4)) (Ps := []) (by decide +kernel) rfl rfl trivial ?_
    refine G.ic_ge (off := (17)) (tgt := 23) (by decide +kernel) rfl (fun h9 => absurd h9 (nI_ge (by omega) (by omega))) (fun _ => ?_)
    obtain ⟨k1, hk⟩ := hk
    refine G.sl [(.aload_n 2, 1, 2, 0, 0, 0), (.iload 4, 2, 4, 0, 0, 0), (.aload_n 1, 1, 1, 0, 0, 0), (.iload 4, 2, 4, 0, 0, 0), (.iaload, 1, 0, 0, 0, 0), (.iastore, 1, 0, 0, 0, 0), (.iinc 4 1, 3, 4, 0, 0, nI 1), (.goto (-17), 3, 3, 0, 0, 0)] [i4, i4] (pc2 := 3) (ls2 := [none, some (.ref 64), some (.ref 66), some (.int (nI n3)), some (.int ((nI i4) + nI 1))]) (st2 := []) (M2 := mput (mrow M 66 (k_copies_L150_L150_3 (M.1 64) (M.1 66) n3 i4)) 66 i4 (M.1 64 i4)) (Ps := [(nI i4) = nI i4 ∧ i4 < 150, (nI i4) = nI i4 ∧ i4 < 150]) (by decide +kernel) rfl rfl ⟨⟨rfl, k1⟩, ⟨rfl, k1⟩, trivial⟩ ?_
    refine G.mem (M' := mrow M 66 (upd (k_copies_L150_L150_3 (M.1 64) (M.1 66) n3 i4) i4 (M.1 64 i4))) (by first | rfl | (simp only [mput, mrow_same, mrow_hit, mrow_miss, mrow_sw, idr_eq, ne_eq, Nat.reduceEqDiff, not_false_eq_true, Nat.reduceLT, reduceCtorEq]; done)) ?_
    rw [nI_add i4 1]
    simp only [k_copies_L150_L150_3] at ih
    exact ih
set_option maxHeartbeats 4000000 in
set_option maxRecDepth 3000 in
theorem c_k_copies_L150_L150_54_64_66 (z : Zp) (d : Nat) (M : Mem) (n3 : Nat) (b3 : n3 < 3000) (hk : k_copies_L150_L150_ok (M.1 64) (M.1 66) n3) : GM z mX12_copies (d) [.ref 54, .ref 64, .ref 66, .int (nI n3)] M (fun rs => rs = .inl (none, mrow M 66 ((k_copies_L150_L150 (M.1 64) (M.1 66) n3).2))) := by
  simp only [k_copies_L150_L150_ok] at hk
  refine GM.of oX12_copies.1 (Nat.le_of_ble_eq_true rfl) ?_
  show G z mX12_copies (d) 0 0 0 [some (.ref 54), some (.ref 64), some (.ref 66), some (.int (nI n3)), none] [] M _
  obtain ⟨Q, hQ⟩ : ∃ Q : Rs → Prop, Q = (fun rs => rs = .inl (none, mrow M 66 ((k_copies_L150_L150 (M.1 64) (M.1 66) n3).2))) := ⟨_, rfl⟩
  rw [← hQ]
  refine G.sl [(.iconst 0, 1, 0, 0, 0, nI 0), (.istore 4, 2, 4, 0, 0, 0)] [] (pc2 := 3) (ls2 := [some (.ref 54), some (.ref 64), some (.ref 66), some (.int (nI n3)), some (.int (nI 0))]) (st2 := []) (M2 := M) (Ps := []) (by decide +kernel) rfl rfl trivial ?_
  refine G.loc (ls2 := [none, some (.ref 64), some (.ref 66), some (.int (nI n3)), some (.int (nI 0))]) (by simp [subL]) ?_
  obtain ⟨k2, hk⟩ := hk
  refine lp_k_copies_L150_L150_54_64_66_3 z d M Q n3 (by omega) (by first | (simp only [mput, mrow_same, mrow_hit, mrow_miss, mrow_sw, idr_eq, ne_eq, Nat.reduceEqDiff, not_false_eq_true, Nat.reduceLT, reduceCtorEq]; exact k2) | exact k2) ?_
  try simp only [mput, mrow_same, mrow_hit, mrow_miss, mrow_sw, idr_eq, ne_eq, Nat.reduceEqDiff, not_false_eq_true, Nat.reduceLT, reduceCtorEq]
  show G z mX12_copies (d) 0 0 23 [none, none, none, none, none] [] (mrow M 66 (k_copies_L150_L150_3 (M.1 64) (M.1 66) n3 n3)) Q
  exact G.retv (by decide +kernel) rfl (Nat.le_of_ble_eq_true rfl) (Nat.le_of_ble_eq_true rfl) ((by rw [hQ]; simp only [k_copies_L150_L150, mrow_self]))
set_option maxHeartbeats 4000000 in
set_option maxRecDepth 3000 in
theorem c_k_law_54 (z : Zp) (d : Nat) (M : Mem) (x1 : Int32) (hk : k_law_ok (M.1 54) (M.1 55) (M.1 56) (M.1 63) (M.1 64) (M.1 65) (M.1 66) x1) : GM z mX12_law (d + 81) [.ref 54, .int x1] M (fun rs => rs = .inl (some (.int ((k_law (M.1 54) (M.1 55) (M.1 56) (M.1 63) (M.1 64) (M.1 65) (M.1 66) x1).1)), mrow (mrow (mrow (mrow (mrow (mrow M 54 ((k_law (M.1 54) (M.1 55) (M.1 56) (M.1 63) (M.1 64) (M.1 65) (M.1 66) x1).2.1)) 55 ((k_law (M.1 54) (M.1 55) (M.1 56) (M.1 63) (M.1 64) (M.1 65) (M.1 66) x1).2.2.1)) 63 ((k_law (M.1 54) (M.1 55) (M.1 56) (M.1 63) (M.1 64) (M.1 65) (M.1 66) x1).2.2.2.1)) 64 ((k_law (M.1 54) (M.1 55) (M.1 56) (M.1 63) (M.1 64) (M.1 65) (M.1 66) x1).2.2.2.2.1)) 65 ((k_law (M.1 54) (M.1 55) (M.1 56) (M.1 63) (M.1 64) (M.1 65) (M.1 66) x1).2.2.2.2.2.1)) 66 ((k_law (M.1 54) (M.1 55) (M.1 56) (M.1 63) (M.1 64) (M.1 65) (M.1 66) x1).2.2.2.2.2.2))) := by
  simp only [k_law_ok] at hk
  refine GM.of oX12_law.1 (Nat.le_of_ble_eq_true rfl) ?_
  show G z mX12_law (d + 81) 0 0 0 [some (.ref 54), some (.int x1), none] [] M _
  obtain ⟨Q, hQ⟩ : ∃ Q : Rs → Prop, Q = (fun rs => rs = .inl (some (.int ((k_law (M.1 54) (M.1 55) (M.1 56) (M.1 63) (M.1 64) (M.1 65) (M.1 66) x1).1)), mrow (mrow (mrow (mrow (mrow (mrow M 54 ((k_law (M.1 54) (M.1 55) (M.1 56) (M.1 63) (M.1 64) (M.1 65) (M.1 66) x1).2.1)) 55 ((k_law (M.1 54) (M.1 55) (M.1 56) (M.1 63) (M.1 64) (M.1 65) (M.1 66) x1).2.2.1)) 63 ((k_law (M.1 54) (M.1 55) (M.1 56) (M.1 63) (M.1 64) (M.1 65) (M.1 66) x1).2.2.2.1)) 64 ((k_law (M.1 54) (M.1 55) (M.1 56) (M.1 63) (M.1 64) (M.1 65) (M.1 66) x1).2.2.2.2.1)) 65 ((k_law (M.1 54) (M.1 55) (M.1 56) (M.1 63) (M.1 64) (M.1 65) (M.1 66) x1).2.2.2.2.2.1)) 66 ((k_law (M.1 54) (M.1 55) (M.1 56) (M.1 63) (M.1 64) (M.1 65) (M.1 66) x1).2.2.2.2.2.2))) := ⟨_, rfl⟩
  rw [← hQ]
  refine G.sl [(.aload_n 0, 1, 0, 0, 0, 0), (.iconst 0, 1, 0, 0, 0, nI 0), (.putfield 3, 3, 11, 0, 123, 0), (.aload_n 0, 1, 0, 0, 0, 0), (.iload_n 1, 1, 1, 0, 0, 0)] [] (pc2 := 7) (ls2 := [some (.ref 54), some (.int x1), none]) (st2 := [.int x1, .ref 54]) (M2 := mput M 54 0 (nI 0)) (Ps := []) (by decide +kernel) rfl rfl trivial ?_
  refine G.mem (M' := mrow M 54 (upd (M.1 54) 0 (nI 0))) (by first | rfl | (simp only [mput, mrow_same, mrow_hit, mrow_miss, mrow_sw, idr_eq, ne_eq, Nat.reduceEqDiff, not_false_eq_true, Nat.reduceLT, reduceCtorEq]; done)) ?_
  refine G.if_lt (off := (22)) (tgt := 29) (by decide +kernel) rfl (fun c1 => ?_) (fun c1 => ?_)
  · skip
    rw [if_pos c1] at hk
    refine G.sl [(.iconst 0, 1, 0, 0, 0, nI 0), (.iconst 1, 1, 0, 0, 0, nI 1), (.iconst 1, 1, 0, 0, 0, nI 1)] [] (pc2 := 32) (ls2 := [some (.ref 54), some (.int x1), none]) (st2 := [.int (nI 1), .int (nI 1), .int (nI 0), .ref 54]) (M2 := mrow M 54 (upd (M.1 54) 0 (nI 0))) (Ps := []) (by decide +kernel) rfl rfl trivial ?_
    obtain ⟨k2, hk⟩ := hk
    rcases g3 : k_may_1 (upd (M.1 54) 0 (nI 0)) (M.1 55) (nI 0) (nI 1) with ⟨v4, r5, r6⟩
    try simp only [g3] at hk
    have ev4 : v4 = 0 ∨ v4 = 1 := by
      have q9 := k_may_1_01 (upd (M.1 54) 0 (nI 0)) (M.1 55) (nI 0) (nI 1)
      rw [g3] at q9
      exact q9
    have t7 : GM z mX12_may (d + 80) [.ref 54, .int (nI 0), .int (nI 1), .int (nI 1)] (mrow M 54 (upd (M.1 54) 0 (nI 0))) (fun rs => rs = .inl (some (.int v4), mrow (mrow M 54 r5) 55 r6)) := by
      have q9 := c_k_may_1_54 z (d + 80) (mrow M 54 (upd (M.1 54) 0 (nI 0))) (nI 0) (nI 1)
      try simp only [mput, mrow_same, mrow_hit, mrow_miss, mrow_sw, idr_eq, ne_eq, Nat.reduceEqDiff, not_false_eq_true, Nat.reduceLT, reduceCtorEq, g3] at q9
      exact q9
    refine G.callV (as := [.int (nI 0), .int (nI 1), .int (nI 1)]) (rest := []) (a := 54) oX12_may lk_EvenFindersModel_213 (by decide +kernel) rfl rfl ⟨rfl, rfl⟩ (Nat.le_of_ble_eq_true rfl) rfl ⟨Nat.le_of_ble_eq_true rfl, Nat.le_of_ble_eq_true rfl⟩ t7 (fun v9 N9 h8 => ?_) (fun E9 N9 h8 => by cases h8)
    cases h8
    show G z mX12_law (d + 81) 0 0 35 [some (.ref 54), some (.int x1), none] [.int v4] (mrow (mrow M 54 r5) 55 r6) Q
    refine G.if_ne (off := (5)) (tgt := 40) (by decide +kernel) rfl (fun c9 => ?_) (fun c9 => ?_)
    · skip
      rw [if_neg c9] at hk
      refine G.sl [(.aload_n 0, 1, 0, 0, 0, 0), (.iload_n 1, 1, 1, 0, 0, 0)] [] (pc2 := 42) (ls2 := [some (.ref 54), some (.int x1), none]) (st2 := [.int x1, .ref 54]) (M2 := mrow (mrow M 54 r5) 55 r6) (Ps := []) (by decide +kernel) rfl rfl trivial ?_
      obtain ⟨k10, hk⟩ := hk
      rcases g11 : k_begins r5 x1 with ⟨u12, r13⟩
      try simp only [g11] at hk
      have t14 : GM z mX12_begins (d + 80) [.ref 54, .int x1] (mrow (mrow M 54 r5) 55 r6) (fun rs => rs = .inl (none, mrow (mrow M 54 r13) 55 r6)) := by
        have q9 := c_k_begins_54 z (d + 80) (mrow (mrow M 54 r5) 55 r6) x1
        try simp only [mput, mrow_same, mrow_hit, mrow_miss, mrow_sw, idr_eq, ne_eq, Nat.reduceEqDiff, not_false_eq_true, Nat.reduceLT, reduceCtorEq, g11] at q9
        exact q9
      refine G.callV (as := [.int x1]) (rest := []) (a := 54) oX12_begins lk_EvenFindersModel_217 (by decide +kernel) rfl rfl ⟨rfl, rfl⟩ (Nat.le_of_ble_eq_true rfl) rfl ⟨Nat.le_of_ble_eq_true rfl, Nat.le_of_ble_eq_true rfl⟩ t14 (fun v9 N9 h15 => ?_) (fun E9 N9 h15 => by cases h15)
      cases h15
      show G z mX12_law (d + 81) 0 0 45 [some (.ref 54), some (.int x1), none] [] (mrow (mrow M 54 r13) 55 r6) Q
      refine G.sl [(.aload_n 0, 1, 0, 0, 0, 0), (.iconst 0, 1, 0, 0, 0, nI 0), (.putfield 246, 3, 11, 29, 152, 0), (.aload_n 0, 1, 0, 0, 0, 0)] [] (pc2 := 51) (ls2 := [some (.ref 54), some (.int x1), none]) (st2 := [.ref 54]) (M2 := mput (mrow (mrow M 54 r13) 55 r6) 54 29 (nI 0)) (Ps := []) (by decide +kernel) rfl rfl trivial ?_
      refine G.mem (M' := mrow (mrow M 54 (upd r13 29 (nI 0))) 55 r6) (by first | rfl | (simp only [mput, mrow_same, mrow_hit, mrow_miss, mrow_sw, idr_eq, ne_eq, Nat.reduceEqDiff, not_false_eq_true, Nat.reduceLT, reduceCtorEq]; done)) ?_
      obtain ⟨k16, hk⟩ := hk
      rcases g17 : k_readSum (upd r13 29 (nI 0)) (M.1 56) (M.1 63) (M.1 64) with ⟨u18, r19, r20, r21⟩
      try simp only [g17] at hk
      have t22 : GM z mX12_readSum (d + 80) [.ref 54] (mrow (mrow M 54 (upd r13 29 (nI 0))) 55 r6) (fun rs => rs = .inl (none, mrow (mrow (mrow (mrow M 54 r19) 55 r6) 63 r20) 64 r21)) := by
        have q9 := c_k_readSum_54 z d (mrow (mrow M 54 (upd r13 29 (nI 0))) 55 r6) k16
        try simp only [mput, mrow_same, mrow_hit, mrow_miss, mrow_sw, idr_eq, ne_eq, Nat.reduceEqDiff, not_false_eq_true, Nat.reduceLT, reduceCtorEq, g17] at q9
        exact q9
      refine G.callV (as := []) (rest := []) (a := 54) oX12_readSum lk_EvenFindersModel_261 (by decide +kernel) rfl rfl ⟨rfl, rfl⟩ (Nat.le_of_ble_eq_true rfl) rfl ⟨Nat.le_of_ble_eq_true rfl, Nat.le_of_ble_eq_true rfl⟩ t22 (fun v9 N9 h23 => ?_) (fun E9 N9 h23 => by cases h23)
      cases h23
      show G z mX12_law (d + 81) 0 0 54 [some (.ref 54), some (.int x1), none] [] (mrow (mrow (mrow (mrow M 54 r19) 55 r6) 63 r20) 64 r21) Q
      refine G.sl [(.aload_n 0, 1, 0, 0, 0, 0)] [] (pc2 := 55) (ls2 := [some (.ref 54), some (.int x1), none]) (st2 := [.ref 54]) (M2 := mrow (mrow (mrow (mrow M 54 r19) 55 r6) 63 r20) 64 r21) (Ps := []) (by decide +kernel) rfl rfl trivial ?_
      obtain ⟨k24, hk⟩ := hk
      have t25 : GM z mX12_fine (d + 80) [.ref 54] (mrow (mrow (mrow (mrow M 54 r19) 55 r6) 63 r20) 64 r21) (fun rs => rs = .inl (some (.int (k_fine r19)), mrow (mrow (mrow (mrow M 54 r19) 55 r6) 63 r20) 64 r21)) := by
        have q9 := c_k_fine_54 z (d + 80) (mrow (mrow (mrow (mrow M 54 r19) 55 r6) 63 r20) 64 r21) 
        try simp only [mput, mrow_same, mrow_hit, mrow_miss, mrow_sw, idr_eq, ne_eq, Nat.reduceEqDiff, not_false_eq_true, Nat.reduceLT, reduceCtorEq] at q9
        exact q9
      refine G.callV (as := []) (rest := []) (a := 54) oX12_fine lk_EvenFindersModel_130 (by decide +kernel) rfl rfl ⟨rfl, rfl⟩ (Nat.le_of_ble_eq_true rfl) rfl ⟨Nat.le_of_ble_eq_true rfl, Nat.le_of_ble_eq_true rfl⟩ t25 (fun v9 N9 h26 => ?_) (fun E9 N9 h26 => by cases h26)
      cases h26
      show G z mX12_law (d + 81) 0 0 58 [some (.ref 54), some (.int x1), none] [.int (k_fine r19)] (mrow (mrow (mrow (mrow M 54 r19) 55 r6) 63 r20) 64 r21) Q
      refine G.if_eq (off := (19)) (tgt := 77) (by decide +kernel) rfl (fun c27 => ?_) (fun c27 => ?_)
      · skip
        rw [if_pos c27] at hk
        refine G.sl [(.aload_n 0, 1, 0, 0, 0, 0), (.iconst 1, 1, 0, 0, 0, nI 1)] [] (pc2 := 79) (ls2 := [some (.ref 54), some (.int x1), none]) (st2 := [.int (nI 1), .ref 54]) (M2 := mrow (mrow (mrow (mrow M 54 r19) 55 r6) 63 r20) 64 r21) (Ps := []) (by decide +kernel) rfl rfl trivial ?_
        obtain ⟨k28, hk⟩ := hk
        rcases g29 : k_result r19 (nI 1) with ⟨v30, r31⟩
        try simp only [g29] at hk
        have t32 : GM z mX12_result (d + 80) [.ref 54, .int (nI 1)] (mrow (mrow (mrow (mrow M 54 r19) 55 r6) 63 r20) 64 r21) (fun rs => rs = .inl (some (.int v30), mrow (mrow (mrow (mrow M 54 r31) 55 r6) 63 r20) 64 r21)) := by
          have q9 := c_k_result_54 z (d + 79) (mrow (mrow (mrow (mrow M 54 r19) 55 r6) 63 r20) 64 r21) (nI 1)
          try simp only [mput, mrow_same, mrow_hit, mrow_miss, mrow_sw, idr_eq, ne_eq, Nat.reduceEqDiff, not_false_eq_true, Nat.reduceLT, reduceCtorEq, g29] at q9
          exact q9
        refine G.callV (as := [.int (nI 1)]) (rest := []) (a := 54) oX12_result lk_EvenFindersModel_242 (by decide +kernel) rfl rfl ⟨rfl, rfl⟩ (Nat.le_of_ble_eq_true rfl) rfl ⟨Nat.le_of_ble_eq_true rfl, Nat.le_of_ble_eq_true rfl⟩ t32 (fun v9 N9 h33 => ?_) (fun E9 N9 h33 => by cases h33)
        cases h33
        show G z mX12_law (d + 81) 0 0 82 [some (.ref 54), some (.int x1), none] [.int v30] (mrow (mrow (mrow (mrow M 54 r31) 55 r6) 63 r20) 64 r21) Q
        refine G.sl [(.istore_n 2, 1, 2, 0, 0, 0), (.aload_n 0, 1, 0, 0, 0, 0), (.getfield 101, 3, 11, 5, 128, 0), (.iconst (-1), 1, 0, 0, 0, (-1))] [] (pc2 := 88) (ls2 := [some (.ref 54), some (.int x1), some (.int v30)]) (st2 := [.int ((-1)), .int (r31 5)]) (M2 := mrow (mrow (mrow (mrow M 54 r31) 55 r6) 63 r20) 64 r21) (Ps := []) (by decide +kernel) rfl rfl trivial ?_
        refine G.ic_eq (off := (5)) (tgt := 93) (by decide +kernel) rfl (fun c34 => ?_) (fun c34 => ?_)
        · skip
          rw [if_pos c34] at hk
          refine G.sl [(.aload_n 0, 1, 0, 0, 0, 0), (.aload_n 0, 1, 0, 0, 0, 0), (.getfield 246, 3, 11, 29, 152, 0), (.putfield 172, 3, 11, 30, 153, 0), (.aload_n 0, 1, 0, 0, 0, 0), (.aload_n 0, 1, 0, 0, 0, 0), (.getfield 41, 3, 11, 24, 147, 0), (.aload_n 0, 1, 0, 0, 0, 0), (.getfield 47, 3, 11, 26, 149, 0), (.aload_n 0, 1, 0, 0, 0, 0), (.getfield 246, 3, 11, 29, 152, 0)] [] (pc2 := 114) (ls2 := [some (.ref 54), some (.int x1), some (.int v30)]) (st2 := [.int (r31 29), .ref 65, .ref 63, .ref 54]) (M2 := mput (mrow (mrow (mrow (mrow M 54 r31) 55 r6) 63 r20) 64 r21) 54 30 (r31 29)) (Ps := []) (by decide +kernel) rfl rfl trivial ?_
          refine G.mem (M' := mrow (mrow (mrow (mrow M 54 (upd r31 30 (r31 29))) 55 r6) 63 r20) 64 r21) (by first | rfl | (simp only [mput, mrow_same, mrow_hit, mrow_miss, mrow_sw, idr_eq, ne_eq, Nat.reduceEqDiff, not_false_eq_true, Nat.reduceLT, reduceCtorEq]; done)) ?_
          obtain ⟨k35, k36, hk⟩ := hk
          obtain ⟨k37, hk⟩ := hk
          refine G.eq (st' := [.int (nI (ix (r31 29))), .ref 65, .ref 63, .ref 54]) ?_ rfl (by rw [← (show r31 29 = nI (ix (r31 29)) from (ixE k35))]) rfl
          rcases g38 : k_copies_L150_L150 r20 (M.1 65) (ix (r31 29)) with ⟨u39, r40⟩
          try simp only [g38] at hk
          have t41 : GM z mX12_copies (d + 80) [.ref 54, .ref 63, .ref 65, .int (nI (ix (r31 29)))] (mrow (mrow (mrow (mrow M 54 (upd r31 30 (r31 29))) 55 r6) 63 r20) 64 r21) (fun rs => rs = .inl (none, mrow (mrow (mrow (mrow (mrow M 54 (upd r31 30 (r31 29))) 55 r6) 63 r20) 64 r21) 65 r40)) := by
            have q9 := c_k_copies_L150_L150_54_63_65 z (d + 80) (mrow (mrow (mrow (mrow M 54 (upd r31 30 (r31 29))) 55 r6) 63 r20) 64 r21) (ix (r31 29)) k36 k37
            try simp only [mput, mrow_same, mrow_hit, mrow_miss, mrow_sw, idr_eq, ne_eq, Nat.reduceEqDiff, not_false_eq_true, Nat.reduceLT, reduceCtorEq, g38] at q9
            exact q9
          refine G.callV (as := [.ref 63, .ref 65, .int (nI (ix (r31 29)))]) (rest := []) (a := 54) oX12_copies lk_EvenFindersModel_168 (by decide +kernel) rfl rfl ⟨rfl, rfl⟩ (Nat.le_of_ble_eq_true rfl) rfl ⟨Nat.le_of_ble_eq_true rfl, Nat.le_of_ble_eq_true rfl⟩ t41 (fun v9 N9 h42 => ?_) (fun E9 N9 h42 => by cases h42)
          cases h42
          show G z mX12_law (d + 81) 0 0 117 [some (.ref 54), some (.int x1), some (.int v30)] [] (mrow (mrow (mrow (mrow (mrow M 54 (upd r31 30 (r31 29))) 55 r6) 63 r20) 64 r21) 65 r40) Q
          refine G.sl [(.aload_n 0, 1, 0, 0, 0, 0), (.aload_n 0, 1, 0, 0, 0, 0), (.getfield 44, 3, 11, 25, 148, 0), (.aload_n 0, 1, 0, 0, 0, 0), (.getfield 50, 3, 11, 27, 150, 0), (.aload_n 0, 1, 0, 0, 0, 0), (.getfield 246, 3, 11, 29, 152, 0)] [] (pc2 := 130) (ls2 := [some (.ref 54), some (.int x1), some (.int v30)]) (st2 := [.int (r31 29), .ref 66, .ref 64, .ref 54]) (M2 := mrow (mrow (mrow (mrow (mrow M 54 (upd r31 30 (r31 29))) 55 r6) 63 r20) 64 r21) 65 r40) (Ps := []) (by decide +kernel) rfl rfl trivial ?_
          obtain ⟨k43, hk⟩ := hk
          refine G.eq (st' := [.int (nI (ix (r31 29))), .ref 66, .ref 64, .ref 54]) ?_ rfl (by rw [← (show r31 29 = nI (ix (r31 29)) from (ixE k35))]) rfl
          rcases g44 : k_copies_L150_L150 r21 (M.1 66) (ix (r31 29)) with ⟨u45, r46⟩
          have t47 : GM z mX12_copies (d + 80) [.ref 54, .ref 64, .ref 66, .int (nI (ix (r31 29)))] (mrow (mrow (mrow (mrow (mrow M 54 (upd r31 30 (r31 29))) 55 r6) 63 r20) 64 r21) 65 r40) (fun rs => rs = .inl (none, mrow (mrow (mrow (mrow (mrow (mrow M 54 (upd r31 30 (r31 29))) 55 r6) 63 r20) 64 r21) 65 r40) 66 r46)) := by
            have q9 := c_k_copies_L150_L150_54_64_66 z (d + 80) (mrow (mrow (mrow (mrow (mrow M 54 (upd r31 30 (r31 29))) 55 r6) 63 r20) 64 r21) 65 r40) (ix (r31 29)) k36 k43
            try simp only [mput, mrow_same, mrow_hit, mrow_miss, mrow_sw, idr_eq, ne_eq, Nat.reduceEqDiff, not_false_eq_true, Nat.reduceLT, reduceCtorEq, g44] at q9
            exact q9
          refine G.callV (as := [.ref 64, .ref 66, .int (nI (ix (r31 29)))]) (rest := []) (a := 54) oX12_copies lk_EvenFindersModel_168 (by decide +kernel) rfl rfl ⟨rfl, rfl⟩ (Nat.le_of_ble_eq_true rfl) rfl ⟨Nat.le_of_ble_eq_true rfl, Nat.le_of_ble_eq_true rfl⟩ t47 (fun v9 N9 h48 => ?_) (fun E9 N9 h48 => by cases h48)
          cases h48
          show G z mX12_law (d + 81) 0 0 133 [some (.ref 54), some (.int x1), some (.int v30)] [] (mrow (mrow (mrow (mrow (mrow (mrow M 54 (upd r31 30 (r31 29))) 55 r6) 63 r20) 64 r21) 65 r40) 66 r46) Q
          refine G.sl [(.iload_n 2, 1, 2, 0, 0, 0)] [] (pc2 := 134) (ls2 := [some (.ref 54), some (.int x1), some (.int v30)]) (st2 := [.int v30]) (M2 := mrow (mrow (mrow (mrow (mrow (mrow M 54 (upd r31 30 (r31 29))) 55 r6) 63 r20) 64 r21) 65 r40) 66 r46) (Ps := []) (by decide +kernel) rfl rfl trivial ?_
          exact G.reti (by decide +kernel) rfl rfl (Nat.le_of_ble_eq_true rfl) (Nat.le_of_ble_eq_true rfl) ((by rw [hQ]; simp only [k_law, if_pos c1, g3, if_neg c9, g11, g17, if_pos c27, g29, if_pos c34, g38, g44, mrow_self]))
        · skip
          rw [if_neg c34] at hk
          refine G.sl [(.iload_n 2, 1, 2, 0, 0, 0)] [] (pc2 := 92) (ls2 := [some (.ref 54), some (.int x1), some (.int v30)]) (st2 := [.int v30]) (M2 := mrow (mrow (mrow (mrow M 54 r31) 55 r6) 63 r20) 64 r21) (Ps := []) (by decide +kernel) rfl rfl trivial ?_
          refine G.mem (M' := mrow (mrow (mrow (mrow (mrow (mrow M 54 r31) 55 r6) 63 r20) 64 r21) 65 (M.1 65)) 66 (M.1 66)) ((((mrow_id (N := mrow (mrow (mrow (mrow M 54 r31) 55 r6) 63 r20) 64 r21) (c := 65) (f := M.1 65) (by first | rfl | (simp only [mput, mrow_same, mrow_hit, mrow_miss, mrow_sw, idr_eq, ne_eq, Nat.reduceEqDiff, not_false_eq_true, Nat.reduceLT, reduceCtorEq]; done))).symm).trans (mrow_id (N := mrow (mrow (mrow (mrow (mrow M 54 r31) 55 r6) 63 r20) 64 r21) 65 (M.1 65)) (c := 66) (f := M.1 66) (by first | rfl | (simp only [mput, mrow_same, mrow_hit, mrow_miss, mrow_sw, idr_eq, ne_eq, Nat.reduceEqDiff, not_false_eq_true, Nat.reduceLT, reduceCtorEq]; done))).symm).trans (by first | rfl | (simp only [mput, mrow_same, mrow_hit, mrow_miss, mrow_sw, idr_eq, ne_eq, Nat.reduceEqDiff, not_false_eq_true, Nat.reduceLT, reduceCtorEq]; done))) ?_
          exact G.reti (by decide +kernel) rfl rfl (Nat.le_of_ble_eq_true rfl) (Nat.le_of_ble_eq_true rfl) ((by rw [hQ]; simp only [k_law, if_pos c1, g3, if_neg c9, g11, g17, if_pos c27, g29, if_neg c34, mrow_self]))
      · skip
        rw [if_neg c27] at hk
        refine G.sl [(.aload_n 0, 1, 0, 0, 0, 0)] [] (pc2 := 62) (ls2 := [some (.ref 54), some (.int x1), none]) (st2 := [.ref 54]) (M2 := mrow (mrow (mrow (mrow M 54 r19) 55 r6) 63 r20) 64 r21) (Ps := []) (by decide +kernel) rfl rfl trivial ?_
        obtain ⟨k49, hk⟩ := hk
        rcases g50 : k_isMore r19 (M.1 56) with ⟨v51, r52⟩
        try simp only [g50] at hk
        have ev51 : v51 = 0 ∨ v51 = 1 := by
          have q9 := k_isMore_01 r19 (M.1 56)
          rw [g50] at q9
          exact q9
        have t53 : GM z mX12_isMore (d + 80) [.ref 54] (mrow (mrow (mrow (mrow M 54 r19) 55 r6) 63 r20) 64 r21) (fun rs => rs = .inl (some (.int v51), mrow (mrow (mrow (mrow M 54 r52) 55 r6) 63 r20) 64 r21)) := by
          have q9 := c_k_isMore_54 z (d + 79) (mrow (mrow (mrow (mrow M 54 r19) 55 r6) 63 r20) 64 r21) k49
          try simp only [mput, mrow_same, mrow_hit, mrow_miss, mrow_sw, idr_eq, ne_eq, Nat.reduceEqDiff, not_false_eq_true, Nat.reduceLT, reduceCtorEq, g50] at q9
          exact q9
        refine G.callV (as := []) (rest := []) (a := 54) oX12_isMore lk_EvenFindersModel_221 (by decide +kernel) rfl rfl ⟨rfl, rfl⟩ (Nat.le_of_ble_eq_true rfl) rfl ⟨Nat.le_of_ble_eq_true rfl, Nat.le_of_ble_eq_true rfl⟩ t53 (fun v9 N9 h54 => ?_) (fun E9 N9 h54 => by cases h54)
        cases h54
        show G z mX12_law (d + 81) 0 0 65 [some (.ref 54), some (.int x1), none] [.int v51] (mrow (mrow (mrow (mrow M 54 r52) 55 r6) 63 r20) 64 r21) Q
        refine G.if_eq (off := (12)) (tgt := 77) (by decide +kernel) rfl (fun c55 => ?_) (fun c55 => ?_)
        · skip
          rw [if_pos c55] at hk
          refine G.sl [(.aload_n 0, 1, 0, 0, 0, 0), (.iconst 1, 1, 0, 0, 0, nI 1)] [] (pc2 := 79) (ls2 := [some (.ref 54), some (.int x1), none]) (st2 := [.int (nI 1), .ref 54]) (M2 := mrow (mrow (mrow (mrow M 54 r52) 55 r6) 63 r20) 64 r21) (Ps := []) (by decide +kernel) rfl rfl trivial ?_
          obtain ⟨k56, hk⟩ := hk
          rcases g57 : k_result r52 (nI 1) with ⟨v58, r59⟩
          try simp only [g57] at hk
          have t60 : GM z mX12_result (d + 80) [.ref 54, .int (nI 1)] (mrow (mrow (mrow (mrow M 54 r52) 55 r6) 63 r20) 64 r21) (fun rs => rs = .inl (some (.int v58), mrow (mrow (mrow (mrow M 54 r59) 55 r6) 63 r20) 64 r21)) := by
            have q9 := c_k_result_54 z (d + 79) (mrow (mrow (mrow (mrow M 54 r52) 55 r6) 63 r20) 64 r21) (nI 1)
            try simp only [mput, mrow_same, mrow_hit, mrow_miss, mrow_sw, idr_eq, ne_eq, Nat.reduceEqDiff, not_false_eq_true, Nat.reduceLT, reduceCtorEq, g57] at q9
            exact q9
          refine G.callV (as := [.int (nI 1)]) (rest := []) (a := 54) oX12_result lk_EvenFindersModel_242 (by decide +kernel) rfl rfl ⟨rfl, rfl⟩ (Nat.le_of_ble_eq_true rfl) rfl ⟨Nat.le_of_ble_eq_true rfl, Nat.le_of_ble_eq_true rfl⟩ t60 (fun v9 N9 h61 => ?_) (fun E9 N9 h61 => by cases h61)
          cases h61
          show G z mX12_law (d + 81) 0 0 82 [some (.ref 54), some (.int x1), none] [.int v58] (mrow (mrow (mrow (mrow M 54 r59) 55 r6) 63 r20) 64 r21) Q
          refine G.sl [(.istore_n 2, 1, 2, 0, 0, 0), (.aload_n 0, 1, 0, 0, 0, 0), (.getfield 101, 3, 11, 5, 128, 0), (.iconst (-1), 1, 0, 0, 0, (-1))] [] (pc2 := 88) (ls2 := [some (.ref 54), some (.int x1), some (.int v58)]) (st2 := [.int ((-1)), .int (r59 5)]) (M2 := mrow (mrow (mrow (mrow M 54 r59) 55 r6) 63 r20) 64 r21) (Ps := []) (by decide +kernel) rfl rfl trivial ?_
          refine G.ic_eq (off := (5)) (tgt := 93) (by decide +kernel) rfl (fun c62 => ?_) (fun c62 => ?_)
          · skip
            rw [if_pos c62] at hk
            refine G.sl [(.aload_n 0, 1, 0, 0, 0, 0), (.aload_n 0, 1, 0, 0, 0, 0), (.getfield 246, 3, 11, 29, 152, 0), (.putfield 172, 3, 11, 30, 153, 0), (.aload_n 0, 1, 0, 0, 0, 0), (.aload_n 0, 1, 0, 0, 0, 0), (.getfield 41, 3, 11, 24, 147, 0), (.aload_n 0, 1, 0, 0, 0, 0), (.getfield 47, 3, 11, 26, 149, 0), (.aload_n 0, 1, 0, 0, 0, 0), (.getfield 246, 3, 11, 29, 152, 0)] [] (pc2 := 114) (ls2 := [some (.ref 54), some (.int x1), some (.int v58)]) (st2 := [.int (r59 29), .ref 65, .ref 63, .ref 54]) (M2 := mput (mrow (mrow (mrow (mrow M 54 r59) 55 r6) 63 r20) 64 r21) 54 30 (r59 29)) (Ps := []) (by decide +kernel) rfl rfl trivial ?_
            refine G.mem (M' := mrow (mrow (mrow (mrow M 54 (upd r59 30 (r59 29))) 55 r6) 63 r20) 64 r21) (by first | rfl | (simp only [mput, mrow_same, mrow_hit, mrow_miss, mrow_sw, idr_eq, ne_eq, Nat.reduceEqDiff, not_false_eq_true, Nat.reduceLT, reduceCtorEq]; done)) ?_
            obtain ⟨k63, k64, hk⟩ := hk
            obtain ⟨k65, hk⟩ := hk
            refine G.eq (st' := [.int (nI (ix (r59 29))), .ref 65, .ref 63, .ref 54]) ?_ rfl (by rw [← (show r59 29 = nI (ix (r59 29)) from (ixE k63))]) rfl
            rcases g66 : k_copies_L150_L150 r20 (M.1 65) (ix (r59 29)) with ⟨u67, r68⟩
            try simp only [g66] at hk
            have t69 : GM z mX12_copies (d + 80) [.ref 54, .ref 63, .ref 65, .int (nI (ix (r59 29)))] (mrow (mrow (mrow (mrow M 54 (upd r59 30 (r59 29))) 55 r6) 63 r20) 64 r21) (fun rs => rs = .inl (none, mrow (mrow (mrow (mrow (mrow M 54 (upd r59 30 (r59 29))) 55 r6) 63 r20) 64 r21) 65 r68)) := by
              have q9 := c_k_copies_L150_L150_54_63_65 z (d + 80) (mrow (mrow (mrow (mrow M 54 (upd r59 30 (r59 29))) 55 r6) 63 r20) 64 r21) (ix (r59 29)) k64 k65
              try simp only [mput, mrow_same, mrow_hit, mrow_miss, mrow_sw, idr_eq, ne_eq, Nat.reduceEqDiff, not_false_eq_true, Nat.reduceLT, reduceCtorEq, g66] at q9
              exact q9
            refine G.callV (as := [.ref 63, .ref 65, .int (nI (ix (r59 29)))]) (rest := []) (a := 54) oX12_copies lk_EvenFindersModel_168 (by decide +kernel) rfl rfl ⟨rfl, rfl⟩ (Nat.le_of_ble_eq_true rfl) rfl ⟨Nat.le_of_ble_eq_true rfl, Nat.le_of_ble_eq_true rfl⟩ t69 (fun v9 N9 h70 => ?_) (fun E9 N9 h70 => by cases h70)
            cases h70
            show G z mX12_law (d + 81) 0 0 117 [some (.ref 54), some (.int x1), some (.int v58)] [] (mrow (mrow (mrow (mrow (mrow M 54 (upd r59 30 (r59 29))) 55 r6) 63 r20) 64 r21) 65 r68) Q
            refine G.sl [(.aload_n 0, 1, 0, 0, 0, 0), (.aload_n 0, 1, 0, 0, 0, 0), (.getfield 44, 3, 11, 25, 148, 0), (.aload_n 0, 1, 0, 0, 0, 0), (.getfield 50, 3, 11, 27, 150, 0), (.aload_n 0, 1, 0, 0, 0, 0), (.getfield 246, 3, 11, 29, 152, 0)] [] (pc2 := 130) (ls2 := [some (.ref 54), some (.int x1), some (.int v58)]) (st2 := [.int (r59 29), .ref 66, .ref 64, .ref 54]) (M2 := mrow (mrow (mrow (mrow (mrow M 54 (upd r59 30 (r59 29))) 55 r6) 63 r20) 64 r21) 65 r68) (Ps := []) (by decide +kernel) rfl rfl trivial ?_
            obtain ⟨k71, hk⟩ := hk
            refine G.eq (st' := [.int (nI (ix (r59 29))), .ref 66, .ref 64, .ref 54]) ?_ rfl (by rw [← (show r59 29 = nI (ix (r59 29)) from (ixE k63))]) rfl
            rcases g72 : k_copies_L150_L150 r21 (M.1 66) (ix (r59 29)) with ⟨u73, r74⟩
            have t75 : GM z mX12_copies (d + 80) [.ref 54, .ref 64, .ref 66, .int (nI (ix (r59 29)))] (mrow (mrow (mrow (mrow (mrow M 54 (upd r59 30 (r59 29))) 55 r6) 63 r20) 64 r21) 65 r68) (fun rs => rs = .inl (none, mrow (mrow (mrow (mrow (mrow (mrow M 54 (upd r59 30 (r59 29))) 55 r6) 63 r20) 64 r21) 65 r68) 66 r74)) := by
              have q9 := c_k_copies_L150_L150_54_64_66 z (d + 80) (mrow (mrow (mrow (mrow (mrow M 54 (upd r59 30 (r59 29))) 55 r6) 63 r20) 64 r21) 65 r68) (ix (r59 29)) k64 k71
              try simp only [mput, mrow_same, mrow_hit, mrow_miss, mrow_sw, idr_eq, ne_eq, Nat.reduceEqDiff, not_false_eq_true, Nat.reduceLT, reduceCtorEq, g72] at q9
              exact q9
            refine G.callV (as := [.ref 64, .ref 66, .int (nI (ix (r59 29)))]) (rest := []) (a := 54) oX12_copies lk_EvenFindersModel_168 (by decide +kernel) rfl rfl ⟨rfl, rfl⟩ (Nat.le_of_ble_eq_true rfl) rfl ⟨Nat.le_of_ble_eq_true rfl, Nat.le_of_ble_eq_true rfl⟩ t75 (fun v9 N9 h76 => ?_) (fun E9 N9 h76 => by cases h76)
            cases h76
            show G z mX12_law (d + 81) 0 0 133 [some (.ref 54), some (.int x1), some (.int v58)] [] (mrow (mrow (mrow (mrow (mrow (mrow M 54 (upd r59 30 (r59 29))) 55 r6) 63 r20) 64 r21) 65 r68) 66 r74) Q
            refine G.sl [(.iload_n 2, 1, 2, 0, 0, 0)] [] (pc2 := 134) (ls2 := [some (.ref 54), some (.int x1), some (.int v58)]) (st2 := [.int v58]) (M2 := mrow (mrow (mrow (mrow (mrow (mrow M 54 (upd r59 30 (r59 29))) 55 r6) 63 r20) 64 r21) 65 r68) 66 r74) (Ps := []) (by decide +kernel) rfl rfl trivial ?_
            exact G.reti (by decide +kernel) rfl rfl (Nat.le_of_ble_eq_true rfl) (Nat.le_of_ble_eq_true rfl) ((by rw [hQ]; simp only [k_law, if_pos c1, g3, if_neg c9, g11, g17, if_neg c27, g50, if_pos c55, g57, if_pos c62, g66, g72, mrow_self]))
          · skip
            rw [if_neg c62] at hk
            refine G.sl [(.iload_n 2, 1, 2, 0, 0, 0)] [] (pc2 := 92) (ls2 := [some (.ref 54), some (.int x1), some (.int v58)]) (st2 := [.int v58]) (M2 := mrow (mrow (mrow (mrow M 54 r59) 55 r6) 63 r20) 64 r21) (Ps := []) (by decide +kernel) rfl rfl trivial ?_
            refine G.mem (M' := mrow (mrow (mrow (mrow (mrow (mrow M 54 r59) 55 r6) 63 r20) 64 r21) 65 (M.1 65)) 66 (M.1 66)) ((((mrow_id (N := mrow (mrow (mrow (mrow M 54 r59) 55 r6) 63 r20) 64 r21) (c := 65) (f := M.1 65) (by first | rfl | (simp only [mput, mrow_same, mrow_hit, mrow_miss, mrow_sw, idr_eq, ne_eq, Nat.reduceEqDiff, not_false_eq_true, Nat.reduceLT, reduceCtorEq]; done))).symm).trans (mrow_id (N := mrow (mrow (mrow (mrow (mrow M 54 r59) 55 r6) 63 r20) 64 r21) 65 (M.1 65)) (c := 66) (f := M.1 66) (by first | rfl | (simp only [mput, mrow_same, mrow_hit, mrow_miss, mrow_sw, idr_eq, ne_eq, Nat.reduceEqDiff, not_false_eq_true, Nat.reduceLT, reduceCtorEq]; done))).symm).trans (by first | rfl | (simp only [mput, mrow_same, mrow_hit, mrow_miss, mrow_sw, idr_eq, ne_eq, Nat.reduceEqDiff, not_false_eq_true, Nat.reduceLT, reduceCtorEq]; done))) ?_
            exact G.reti (by decide +kernel) rfl rfl (Nat.le_of_ble_eq_true rfl) (Nat.le_of_ble_eq_true rfl) ((by rw [hQ]; simp only [k_law, if_pos c1, g3, if_neg c9, g11, g17, if_neg c27, g50, if_pos c55, g57, if_neg c62, mrow_self]))
        · skip
          rw [if_neg c55] at hk
          refine G.sl [(.aload_n 0, 1, 0, 0, 0, 0), (.iconst 1, 1, 0, 0, 0, nI 1), (.aload_n 0, 1, 0, 0, 0, 0), (.getfield 107, 3, 11, 4, 127, 0)] [] (pc2 := 74) (ls2 := [some (.ref 54), some (.int x1), none]) (st2 := [.int (r52 4), .int (nI 1), .ref 54]) (M2 := mrow (mrow (mrow (mrow M 54 r52) 55 r6) 63 r20) 64 r21) (Ps := []) (by decide +kernel) rfl rfl trivial ?_
          obtain ⟨k77, hk⟩ := hk
          rcases g78 : k_wrong r52 (nI 1) (r52 4) with ⟨u79, r80⟩
          try simp only [g78] at hk
          have t81 : GM z mX12_wrong (d + 80) [.ref 54, .int (nI 1), .int (r52 4)] (mrow (mrow (mrow (mrow M 54 r52) 55 r6) 63 r20) 64 r21) (fun rs => rs = .inl (none, mrow (mrow (mrow (mrow M 54 r80) 55 r6) 63 r20) 64 r21)) := by
            have q9 := c_k_wrong_54 z (d + 80) (mrow (mrow (mrow (mrow M 54 r52) 55 r6) 63 r20) 64 r21) (nI 1) (r52 4)
            try simp only [mput, mrow_same, mrow_hit, mrow_miss, mrow_sw, idr_eq, ne_eq, Nat.reduceEqDiff, not_false_eq_true, Nat.reduceLT, reduceCtorEq, g78] at q9
            exact q9
          refine G.callV (as := [.int (nI 1), .int (r52 4)]) (rest := []) (a := 54) oX12_wrong lk_EvenFindersModel_137 (by decide +kernel) rfl rfl ⟨rfl, rfl⟩ (Nat.le_of_ble_eq_true rfl) rfl ⟨Nat.le_of_ble_eq_true rfl, Nat.le_of_ble_eq_true rfl⟩ t81 (fun v9 N9 h82 => ?_) (fun E9 N9 h82 => by cases h82)
          cases h82
          show G z mX12_law (d + 81) 0 0 77 [some (.ref 54), some (.int x1), none] [] (mrow (mrow (mrow (mrow M 54 r80) 55 r6) 63 r20) 64 r21) Q
          refine G.sl [(.aload_n 0, 1, 0, 0, 0, 0), (.iconst 1, 1, 0, 0, 0, nI 1)] [] (pc2 := 79) (ls2 := [some (.ref 54), some (.int x1), none]) (st2 := [.int (nI 1), .ref 54]) (M2 := mrow (mrow (mrow (mrow M 54 r80) 55 r6) 63 r20) 64 r21) (Ps := []) (by decide +kernel) rfl rfl trivial ?_
          obtain ⟨k83, hk⟩ := hk
          rcases g84 : k_result r80 (nI 1) with ⟨v85, r86⟩
          try simp only [g84] at hk
          have t87 : GM z mX12_result (d + 80) [.ref 54, .int (nI 1)] (mrow (mrow (mrow (mrow M 54 r80) 55 r6) 63 r20) 64 r21) (fun rs => rs = .inl (some (.int v85), mrow (mrow (mrow (mrow M 54 r86) 55 r6) 63 r20) 64 r21)) := by
            have q9 := c_k_result_54 z (d + 79) (mrow (mrow (mrow (mrow M 54 r80) 55 r6) 63 r20) 64 r21) (nI 1)
            try simp only [mput, mrow_same, mrow_hit, mrow_miss, mrow_sw, idr_eq, ne_eq, Nat.reduceEqDiff, not_false_eq_true, Nat.reduceLT, reduceCtorEq, g84] at q9
            exact q9
          refine G.callV (as := [.int (nI 1)]) (rest := []) (a := 54) oX12_result lk_EvenFindersModel_242 (by decide +kernel) rfl rfl ⟨rfl, rfl⟩ (Nat.le_of_ble_eq_true rfl) rfl ⟨Nat.le_of_ble_eq_true rfl, Nat.le_of_ble_eq_true rfl⟩ t87 (fun v9 N9 h88 => ?_) (fun E9 N9 h88 => by cases h88)
          cases h88
          show G z mX12_law (d + 81) 0 0 82 [some (.ref 54), some (.int x1), none] [.int v85] (mrow (mrow (mrow (mrow M 54 r86) 55 r6) 63 r20) 64 r21) Q
          refine G.sl [(.istore_n 2, 1, 2, 0, 0, 0), (.aload_n 0, 1, 0, 0, 0, 0), (.getfield 101, 3, 11, 5, 128, 0), (.iconst (-1), 1, 0, 0, 0, (-1))] [] (pc2 := 88) (ls2 := [some (.ref 54), some (.int x1), some (.int v85)]) (st2 := [.int ((-1)), .int (r86 5)]) (M2 := mrow (mrow (mrow (mrow M 54 r86) 55 r6) 63 r20) 64 r21) (Ps := []) (by decide +kernel) rfl rfl trivial ?_
          refine G.ic_eq (off := (5)) (tgt := 93) (by decide +kernel) rfl (fun c89 => ?_) (fun c89 => ?_)
          · skip
            rw [if_pos c89] at hk
            refine G.sl [(.aload_n 0, 1, 0, 0, 0, 0), (.aload_n 0, 1, 0, 0, 0, 0), (.getfield 246, 3, 11, 29, 152, 0), (.putfield 172, 3, 11, 30, 153, 0), (.aload_n 0, 1, 0, 0, 0, 0), (.aload_n 0, 1, 0, 0, 0, 0), (.getfield 41, 3, 11, 24, 147, 0), (.aload_n 0, 1, 0, 0, 0, 0), (.getfield 47, 3, 11, 26, 149, 0), (.aload_n 0, 1, 0, 0, 0, 0), (.getfield 246, 3, 11, 29, 152, 0)] [] (pc2 := 114) (ls2 := [some (.ref 54), some (.int x1), some (.int v85)]) (st2 := [.int (r86 29), .ref 65, .ref 63, .ref 54]) (M2 := mput (mrow (mrow (mrow (mrow M 54 r86) 55 r6) 63 r20) 64 r21) 54 30 (r86 29)) (Ps := []) (by decide +kernel) rfl rfl trivial ?_
            refine G.mem (M' := mrow (mrow (mrow (mrow M 54 (upd r86 30 (r86 29))) 55 r6) 63 r20) 64 r21) (by first | rfl | (simp only [mput, mrow_same, mrow_hit, mrow_miss, mrow_sw, idr_eq, ne_eq, Nat.reduceEqDiff, not_false_eq_true, Nat.reduceLT, reduceCtorEq]; done)) ?_
            obtain ⟨k90, k91, hk⟩ := hk
            obtain ⟨k92, hk⟩ := hk
            refine G.eq (st' := [.int (nI (ix (r86 29))), .ref 65, .ref 63, .ref 54]) ?_ rfl (by rw [← (show r86 29 = nI (ix (r86 29)) from (ixE k90))]) rfl
            rcases g93 : k_copies_L150_L150 r20 (M.1 65) (ix (r86 29)) with ⟨u94, r95⟩
            try simp only [g93] at hk
            have t96 : GM z mX12_copies (d + 80) [.ref 54, .ref 63, .ref 65, .int (nI (ix (r86 29)))] (mrow (mrow (mrow (mrow M 54 (upd r86 30 (r86 29))) 55 r6) 63 r20) 64 r21) (fun rs => rs = .inl (none, mrow (mrow (mrow (mrow (mrow M 54 (upd r86 30 (r86 29))) 55 r6) 63 r20) 64 r21) 65 r95)) := by
              have q9 := c_k_copies_L150_L150_54_63_65 z (d + 80) (mrow (mrow (mrow (mrow M 54 (upd r86 30 (r86 29))) 55 r6) 63 r20) 64 r21) (ix (r86 29)) k91 k92
              try simp only [mput, mrow_same, mrow_hit, mrow_miss, mrow_sw, idr_eq, ne_eq, Nat.reduceEqDiff, not_false_eq_true, Nat.reduceLT, reduceCtorEq, g93] at q9
              exact q9
            refine G.callV (as := [.ref 63, .ref 65, .int (nI (ix (r86 29)))]) (rest := []) (a := 54) oX12_copies lk_EvenFindersModel_168 (by decide +kernel) rfl rfl ⟨rfl, rfl⟩ (Nat.le_of_ble_eq_true rfl) rfl ⟨Nat.le_of_ble_eq_true rfl, Nat.le_of_ble_eq_true rfl⟩ t96 (fun v9 N9 h97 => ?_) (fun E9 N9 h97 => by cases h97)
            cases h97
            show G z mX12_law (d + 81) 0 0 117 [some (.ref 54), some (.int x1), some (.int v85)] [] (mrow (mrow (mrow (mrow (mrow M 54 (upd r86 30 (r86 29))) 55 r6) 63 r20) 64 r21) 65 r95) Q
            refine G.sl [(.aload_n 0, 1, 0, 0, 0, 0), (.aload_n 0, 1, 0, 0, 0, 0), (.getfield 44, 3, 11, 25, 148, 0), (.aload_n 0, 1, 0, 0, 0, 0), (.getfield 50, 3, 11, 27, 150, 0), (.aload_n 0, 1, 0, 0, 0, 0), (.getfield 246, 3, 11, 29, 152, 0)] [] (pc2 := 130) (ls2 := [some (.ref 54), some (.int x1), some (.int v85)]) (st2 := [.int (r86 29), .ref 66, .ref 64, .ref 54]) (M2 := mrow (mrow (mrow (mrow (mrow M 54 (upd r86 30 (r86 29))) 55 r6) 63 r20) 64 r21) 65 r95) (Ps := []) (by decide +kernel) rfl rfl trivial ?_
            obtain ⟨k98, hk⟩ := hk
            refine G.eq (st' := [.int (nI (ix (r86 29))), .ref 66, .ref 64, .ref 54]) ?_ rfl (by rw [← (show r86 29 = nI (ix (r86 29)) from (ixE k90))]) rfl
            rcases g99 : k_copies_L150_L150 r21 (M.1 66) (ix (r86 29)) with ⟨u100, r101⟩
            have t102 : GM z mX12_copies (d + 80) [.ref 54, .ref 64, .ref 66, .int (nI (ix (r86 29)))] (mrow (mrow (mrow (mrow (mrow M 54 (upd r86 30 (r86 29))) 55 r6) 63 r20) 64 r21) 65 r95) (fun rs => rs = .inl (none, mrow (mrow (mrow (mrow (mrow (mrow M 54 (upd r86 30 (r86 29))) 55 r6) 63 r20) 64 r21) 65 r95) 66 r101)) := by
              have q9 := c_k_copies_L150_L150_54_64_66 z (d + 80) (mrow (mrow (mrow (mrow (mrow M 54 (upd r86 30 (r86 29))) 55 r6) 63 r20) 64 r21) 65 r95) (ix (r86 29)) k91 k98
              try simp only [mput, mrow_same, mrow_hit, mrow_miss, mrow_sw, idr_eq, ne_eq, Nat.reduceEqDiff, not_false_eq_true, Nat.reduceLT, reduceCtorEq, g99] at q9
              exact q9
            refine G.callV (as := [.ref 64, .ref 66, .int (nI (ix (r86 29)))]) (rest := []) (a := 54) oX12_copies lk_EvenFindersModel_168 (by decide +kernel) rfl rfl ⟨rfl, rfl⟩ (Nat.le_of_ble_eq_true rfl) rfl ⟨Nat.le_of_ble_eq_true rfl, Nat.le_of_ble_eq_true rfl⟩ t102 (fun v9 N9 h103 => ?_) (fun E9 N9 h103 => by cases h103)
            cases h103
            show G z mX12_law (d + 81) 0 0 133 [some (.ref 54), some (.int x1), some (.int v85)] [] (mrow (mrow (mrow (mrow (mrow (mrow M 54 (upd r86 30 (r86 29))) 55 r6) 63 r20) 64 r21) 65 r95) 66 r101) Q
            refine G.sl [(.iload_n 2, 1, 2, 0, 0, 0)] [] (pc2 := 134) (ls2 := [some (.ref 54), some (.int x1), some (.int v85)]) (st2 := [.int v85]) (M2 := mrow (mrow (mrow (mrow (mrow (mrow M 54 (upd r86 30 (r86 29))) 55 r6) 63 r20) 64 r21) 65 r95) 66 r101) (Ps := []) (by decide +kernel) rfl rfl trivial ?_
            exact G.reti (by decide +kernel) rfl rfl (Nat.le_of_ble_eq_true rfl) (Nat.le_of_ble_eq_true rfl) ((by rw [hQ]; simp only [k_law, if_pos c1, g3, if_neg c9, g11, g17, if_neg c27, g50, if_neg c55, g78, g84, if_pos c89, g93, g99, mrow_self]))
          · skip
            rw [if_neg c89] at hk
            refine G.sl [(.iload_n 2, 1, 2, 0, 0, 0)] [] (pc2 := 92) (ls2 := [some (.ref 54), some (.int x1), some (.int v85)]) (st2 := [.int v85]) (M2 := mrow (mrow (mrow (mrow M 54 r86) 55 r6) 63 r20) 64 r21) (Ps := []) (by decide +kernel) rfl rfl trivial ?_
            refine G.mem (M' := mrow (mrow (mrow (mrow (mrow (mrow M 54 r86) 55 r6) 63 r20) 64 r21) 65 (M.1 65)) 66 (M.1 66)) ((((mrow_id (N := mrow (mrow (mrow (mrow M 54 r86) 55 r6) 63 r20) 64 r21) (c := 65) (f := M.1 65) (by first | rfl | (simp only [mput, mrow_same, mrow_hit, mrow_miss, mrow_sw, idr_eq, ne_eq, Nat.reduceEqDiff, not_false_eq_true, Nat.reduceLT, reduceCtorEq]; done))).symm).trans (mrow_id (N := mrow (mrow (mrow (mrow (mrow M 54 r86) 55 r6) 63 r20) 64 r21) 65 (M.1 65)) (c := 66) (f := M.1 66) (by first | rfl | (simp only [mput, mrow_same, mrow_hit, mrow_miss, mrow_sw, idr_eq, ne_eq, Nat.reduceEqDiff, not_false_eq_true, Nat.reduceLT, reduceCtorEq]; done))).symm).trans (by first | rfl | (simp only [mput, mrow_same, mrow_hit, mrow_miss, mrow_sw, idr_eq, ne_eq, Nat.reduceEqDiff, not_false_eq_true, Nat.reduceLT, reduceCtorEq]; done))) ?_
            exact G.reti (by decide +kernel) rfl rfl (Nat.le_of_ble_eq_true rfl) (Nat.le_of_ble_eq_true rfl) ((by rw [hQ]; simp only [k_law, if_pos c1, g3, if_neg c9, g11, g17, if_neg c27, g50, if_neg c55, g78, g84, if_neg c89, mrow_self]))
    · skip
      rw [if_pos c9] at hk
      refine G.sl [(.iconst 0, 1, 0, 0, 0, nI 0)] [] (pc2 := 39) (ls2 := [some (.ref 54), some (.int x1), none]) (st2 := [.int (nI 0)]) (M2 := mrow (mrow M 54 r5) 55 r6) (Ps := []) (by decide +kernel) rfl rfl trivial ?_
      refine G.mem (M' := mrow (mrow (mrow (mrow (mrow (mrow M 54 r5) 55 r6) 63 (M.1 63)) 64 (M.1 64)) 65 (M.1 65)) 66 (M.1 66)) ((((((mrow_id (N := mrow (mrow M 54 r5) 55 r6) (c := 63) (f := M.1 63) (by first | rfl | (simp only [mput, mrow_same, mrow_hit, mrow_miss, mrow_sw, idr_eq, ne_eq, Nat.reduceEqDiff, not_false_eq_true, Nat.reduceLT, reduceCtorEq]; done))).symm).trans (mrow_id (N := mrow (mrow (mrow M 54 r5) 55 r6) 63 (M.1 63)) (c := 64) (f := M.1 64) (by first | rfl | (simp only [mput, mrow_same, mrow_hit, mrow_miss, mrow_sw, idr_eq, ne_eq, Nat.reduceEqDiff, not_false_eq_true, Nat.reduceLT, reduceCtorEq]; done))).symm).trans (mrow_id (N := mrow (mrow (mrow (mrow M 54 r5) 55 r6) 63 (M.1 63)) 64 (M.1 64)) (c := 65) (f := M.1 65) (by first | rfl | (simp only [mput, mrow_same, mrow_hit, mrow_miss, mrow_sw, idr_eq, ne_eq, Nat.reduceEqDiff, not_false_eq_true, Nat.reduceLT, reduceCtorEq]; done))).symm).trans (mrow_id (N := mrow (mrow (mrow (mrow (mrow M 54 r5) 55 r6) 63 (M.1 63)) 64 (M.1 64)) 65 (M.1 65)) (c := 66) (f := M.1 66) (by first | rfl | (simp only [mput, mrow_same, mrow_hit, mrow_miss, mrow_sw, idr_eq, ne_eq, Nat.reduceEqDiff, not_false_eq_true, Nat.reduceLT, reduceCtorEq]; done))).symm).trans (by first | rfl | (simp only [mput, mrow_same, mrow_hit, mrow_miss, mrow_sw, idr_eq, ne_eq, Nat.reduceEqDiff, not_false_eq_true, Nat.reduceLT, reduceCtorEq]; done))) ?_
      exact G.reti (by decide +kernel) rfl rfl (Nat.le_of_ble_eq_true rfl) (Nat.le_of_ble_eq_true rfl) ((by rw [hQ]; simp only [k_law, if_pos c1, g3, if_pos c9, mrow_self]))
  · skip
    rw [if_neg c1] at hk
    refine G.sl [(.iload_n 1, 1, 1, 0, 0, 0), (.aload_n 0, 1, 0, 0, 0, 0), (.getfield 98, 3, 11, 2, 125, 0)] [] (pc2 := 15) (ls2 := [some (.ref 54), some (.int x1), none]) (st2 := [.int (M.1 54 2), .int x1, .ref 54]) (M2 := mrow M 54 (upd (M.1 54) 0 (nI 0))) (Ps := []) (by decide +kernel) rfl rfl trivial ?_
    refine G.ic_gt (off := (14)) (tgt := 29) (by decide +kernel) rfl (fun c104 => ?_) (fun c104 => ?_)
    · skip
      rw [if_pos c104] at hk
      refine G.sl [(.iconst 0, 1, 0, 0, 0, nI 0), (.iconst 1, 1, 0, 0, 0, nI 1), (.iconst 1, 1, 0, 0, 0, nI 1)] [] (pc2 := 32) (ls2 := [some (.ref 54), some (.int x1), none]) (st2 := [.int (nI 1), .int (nI 1), .int (nI 0), .ref 54]) (M2 := mrow M 54 (upd (M.1 54) 0 (nI 0))) (Ps := []) (by decide +kernel) rfl rfl trivial ?_
      obtain ⟨k105, hk⟩ := hk
      rcases g106 : k_may_1 (upd (M.1 54) 0 (nI 0)) (M.1 55) (nI 0) (nI 1) with ⟨v107, r108, r109⟩
      try simp only [g106] at hk
      have ev107 : v107 = 0 ∨ v107 = 1 := by
        have q9 := k_may_1_01 (upd (M.1 54) 0 (nI 0)) (M.1 55) (nI 0) (nI 1)
        rw [g106] at q9
        exact q9
      have t110 : GM z mX12_may (d + 80) [.ref 54, .int (nI 0), .int (nI 1), .int (nI 1)] (mrow M 54 (upd (M.1 54) 0 (nI 0))) (fun rs => rs = .inl (some (.int v107), mrow (mrow M 54 r108) 55 r109)) := by
        have q9 := c_k_may_1_54 z (d + 80) (mrow M 54 (upd (M.1 54) 0 (nI 0))) (nI 0) (nI 1)
        try simp only [mput, mrow_same, mrow_hit, mrow_miss, mrow_sw, idr_eq, ne_eq, Nat.reduceEqDiff, not_false_eq_true, Nat.reduceLT, reduceCtorEq, g106] at q9
        exact q9
      refine G.callV (as := [.int (nI 0), .int (nI 1), .int (nI 1)]) (rest := []) (a := 54) oX12_may lk_EvenFindersModel_213 (by decide +kernel) rfl rfl ⟨rfl, rfl⟩ (Nat.le_of_ble_eq_true rfl) rfl ⟨Nat.le_of_ble_eq_true rfl, Nat.le_of_ble_eq_true rfl⟩ t110 (fun v9 N9 h111 => ?_) (fun E9 N9 h111 => by cases h111)
      cases h111
      show G z mX12_law (d + 81) 0 0 35 [some (.ref 54), some (.int x1), none] [.int v107] (mrow (mrow M 54 r108) 55 r109) Q
      refine G.if_ne (off := (5)) (tgt := 40) (by decide +kernel) rfl (fun c112 => ?_) (fun c112 => ?_)
      · skip
        rw [if_neg c112] at hk
        refine G.sl [(.aload_n 0, 1, 0, 0, 0, 0), (.iload_n 1, 1, 1, 0, 0, 0)] [] (pc2 := 42) (ls2 := [some (.ref 54), some (.int x1), none]) (st2 := [.int x1, .ref 54]) (M2 := mrow (mrow M 54 r108) 55 r109) (Ps := []) (by decide +kernel) rfl rfl trivial ?_
        obtain ⟨k113, hk⟩ := hk
        rcases g114 : k_begins r108 x1 with ⟨u115, r116⟩
        try simp only [g114] at hk
        have t117 : GM z mX12_begins (d + 80) [.ref 54, .int x1] (mrow (mrow M 54 r108) 55 r109) (fun rs => rs = .inl (none, mrow (mrow M 54 r116) 55 r109)) := by
          have q9 := c_k_begins_54 z (d + 80) (mrow (mrow M 54 r108) 55 r109) x1
          try simp only [mput, mrow_same, mrow_hit, mrow_miss, mrow_sw, idr_eq, ne_eq, Nat.reduceEqDiff, not_false_eq_true, Nat.reduceLT, reduceCtorEq, g114] at q9
          exact q9
        refine G.callV (as := [.int x1]) (rest := []) (a := 54) oX12_begins lk_EvenFindersModel_217 (by decide +kernel) rfl rfl ⟨rfl, rfl⟩ (Nat.le_of_ble_eq_true rfl) rfl ⟨Nat.le_of_ble_eq_true rfl, Nat.le_of_ble_eq_true rfl⟩ t117 (fun v9 N9 h118 => ?_) (fun E9 N9 h118 => by cases h118)
        cases h118
        show G z mX12_law (d + 81) 0 0 45 [some (.ref 54), some (.int x1), none] [] (mrow (mrow M 54 r116) 55 r109) Q
        refine G.sl [(.aload_n 0, 1, 0, 0, 0, 0), (.iconst 0, 1, 0, 0, 0, nI 0), (.putfield 246, 3, 11, 29, 152, 0), (.aload_n 0, 1, 0, 0, 0, 0)] [] (pc2 := 51) (ls2 := [some (.ref 54), some (.int x1), none]) (st2 := [.ref 54]) (M2 := mput (mrow (mrow M 54 r116) 55 r109) 54 29 (nI 0)) (Ps := []) (by decide +kernel) rfl rfl trivial ?_
        refine G.mem (M' := mrow (mrow M 54 (upd r116 29 (nI 0))) 55 r109) (by first | rfl | (simp only [mput, mrow_same, mrow_hit, mrow_miss, mrow_sw, idr_eq, ne_eq, Nat.reduceEqDiff, not_false_eq_true, Nat.reduceLT, reduceCtorEq]; done)) ?_
        obtain ⟨k119, hk⟩ := hk
        rcases g120 : k_readSum (upd r116 29 (nI 0)) (M.1 56) (M.1 63) (M.1 64) with ⟨u121, r122, r123, r124⟩
        try simp only [g120] at hk
        have t125 : GM z mX12_readSum (d + 80) [.ref 54] (mrow (mrow M 54 (upd r116 29 (nI 0))) 55 r109) (fun rs => rs = .inl (none, mrow (mrow (mrow (mrow M 54 r122) 55 r109) 63 r123) 64 r124)) := by
          have q9 := c_k_readSum_54 z d (mrow (mrow M 54 (upd r116 29 (nI 0))) 55 r109) k119
          try simp only [mput, mrow_same, mrow_hit, mrow_miss, mrow_sw, idr_eq, ne_eq, Nat.reduceEqDiff, not_false_eq_true, Nat.reduceLT, reduceCtorEq, g120] at q9
          exact q9
        refine G.callV (as := []) (rest := []) (a := 54) oX12_readSum lk_EvenFindersModel_261 (by decide +kernel) rfl rfl ⟨rfl, rfl⟩ (Nat.le_of_ble_eq_true rfl) rfl ⟨Nat.le_of_ble_eq_true rfl, Nat.le_of_ble_eq_true rfl⟩ t125 (fun v9 N9 h126 => ?_) (fun E9 N9 h126 => by cases h126)
        cases h126
        show G z mX12_law (d + 81) 0 0 54 [some (.ref 54), some (.int x1), none] [] (mrow (mrow (mrow (mrow M 54 r122) 55 r109) 63 r123) 64 r124) Q
        refine G.sl [(.aload_n 0, 1, 0, 0, 0, 0)] [] (pc2 := 55) (ls2 := [some (.ref 54), some (.int x1), none]) (st2 := [.ref 54]) (M2 := mrow (mrow (mrow (mrow M 54 r122) 55 r109) 63 r123) 64 r124) (Ps := []) (by decide +kernel) rfl rfl trivial ?_
        obtain ⟨k127, hk⟩ := hk
        have t128 : GM z mX12_fine (d + 80) [.ref 54] (mrow (mrow (mrow (mrow M 54 r122) 55 r109) 63 r123) 64 r124) (fun rs => rs = .inl (some (.int (k_fine r122)), mrow (mrow (mrow (mrow M 54 r122) 55 r109) 63 r123) 64 r124)) := by
          have q9 := c_k_fine_54 z (d + 80) (mrow (mrow (mrow (mrow M 54 r122) 55 r109) 63 r123) 64 r124) 
          try simp only [mput, mrow_same, mrow_hit, mrow_miss, mrow_sw, idr_eq, ne_eq, Nat.reduceEqDiff, not_false_eq_true, Nat.reduceLT, reduceCtorEq] at q9
          exact q9
        refine G.callV (as := []) (rest := []) (a := 54) oX12_fine lk_EvenFindersModel_130 (by decide +kernel) rfl rfl ⟨rfl, rfl⟩ (Nat.le_of_ble_eq_true rfl) rfl ⟨Nat.le_of_ble_eq_true rfl, Nat.le_of_ble_eq_true rfl⟩ t128 (fun v9 N9 h129 => ?_) (fun E9 N9 h129 => by cases h129)
        cases h129
        show G z mX12_law (d + 81) 0 0 58 [some (.ref 54), some (.int x1), none] [.int (k_fine r122)] (mrow (mrow (mrow (mrow M 54 r122) 55 r109) 63 r123) 64 r124) Q
        refine G.if_eq (off := (19)) (tgt := 77) (by decide +kernel) rfl (fun c130 => ?_) (fun c130 => ?_)
        · skip
          rw [if_pos c130] at hk
          refine G.sl [(.aload_n 0, 1, 0, 0, 0, 0), (.iconst 1, 1, 0, 0, 0, nI 1)] [] (pc2 := 79) (ls2 := [some (.ref 54), some (.int x1), none]) (st2 := [.int (nI 1), .ref 54]) (M2 := mrow (mrow (mrow (mrow M 54 r122) 55 r109) 63 r123) 64 r124) (Ps := []) (by decide +kernel) rfl rfl trivial ?_
          obtain ⟨k131, hk⟩ := hk
          rcases g132 : k_result r122 (nI 1) with ⟨v133, r134⟩
          try simp only [g132] at hk
          have t135 : GM z mX12_result (d + 80) [.ref 54, .int (nI 1)] (mrow (mrow (mrow (mrow M 54 r122) 55 r109) 63 r123) 64 r124) (fun rs => rs = .inl (some (.int v133), mrow (mrow (mrow (mrow M 54 r134) 55 r109) 63 r123) 64 r124)) := by
            have q9 := c_k_result_54 z (d + 79) (mrow (mrow (mrow (mrow M 54 r122) 55 r109) 63 r123) 64 r124) (nI 1)
            try simp only [mput, mrow_same, mrow_hit, mrow_miss, mrow_sw, idr_eq, ne_eq, Nat.reduceEqDiff, not_false_eq_true, Nat.reduceLT, reduceCtorEq, g132] at q9
            exact q9
          refine G.callV (as := [.int (nI 1)]) (rest := []) (a := 54) oX12_result lk_EvenFindersModel_242 (by decide +kernel) rfl rfl ⟨rfl, rfl⟩ (Nat.le_of_ble_eq_true rfl) rfl ⟨Nat.le_of_ble_eq_true rfl, Nat.le_of_ble_eq_true rfl⟩ t135 (fun v9 N9 h136 => ?_) (fun E9 N9 h136 => by cases h136)
          cases h136
          show G z mX12_law (d + 81) 0 0 82 [some (.ref 54), some (.int x1), none] [.int v133] (mrow (mrow (mrow (mrow M 54 r134) 55 r109) 63 r123) 64 r124) Q
          refine G.sl [(.istore_n 2, 1, 2, 0, 0, 0), (.aload_n 0, 1, 0, 0, 0, 0), (.getfield 101, 3, 11, 5, 128, 0), (.iconst (-1), 1, 0, 0, 0, (-1))] [] (pc2 := 88) (ls2 := [some (.ref 54), some (.int x1), some (.int v133)]) (st2 := [.int ((-1)), .int (r134 5)]) (M2 := mrow (mrow (mrow (mrow M 54 r134) 55 r109) 63 r123) 64 r124) (Ps := []) (by decide +kernel) rfl rfl trivial ?_
          refine G.ic_eq (off := (5)) (tgt := 93) (by decide +kernel) rfl (fun c137 => ?_) (fun c137 => ?_)
          · skip
            rw [if_pos c137] at hk
            refine G.sl [(.aload_n 0, 1, 0, 0, 0, 0), (.aload_n 0, 1, 0, 0, 0, 0), (.getfield 246, 3, 11, 29, 152, 0), (.putfield 172, 3, 11, 30, 153, 0), (.aload_n 0, 1, 0, 0, 0, 0), (.aload_n 0, 1, 0, 0, 0, 0), (.getfield 41, 3, 11, 24, 147, 0), (.aload_n 0, 1, 0, 0, 0, 0), (.getfield 47, 3, 11, 26, 149, 0), (.aload_n 0, 1, 0, 0, 0, 0), (.getfield 246, 3, 11, 29, 152, 0)] [] (pc2 := 114) (ls2 := [some (.ref 54), some (.int x1), some (.int v133)]) (st2 := [.int (r134 29), .ref 65, .ref 63, .ref 54]) (M2 := mput (mrow (mrow (mrow (mrow M 54 r134) 55 r109) 63 r123) 64 r124) 54 30 (r134 29)) (Ps := []) (by decide +kernel) rfl rfl trivial ?_
            refine G.mem (M' := mrow (mrow (mrow (mrow M 54 (upd r134 30 (r134 29))) 55 r109) 63 r123) 64 r124) (by first | rfl | (simp only [mput, mrow_same, mrow_hit, mrow_miss, mrow_sw, idr_eq, ne_eq, Nat.reduceEqDiff, not_false_eq_true, Nat.reduceLT, reduceCtorEq]; done)) ?_
            obtain ⟨k138, k139, hk⟩ := hk
            obtain ⟨k140, hk⟩ := hk
            refine G.eq (st' := [.int (nI (ix (r134 29))), .ref 65, .ref 63, .ref 54]) ?_ rfl (by rw [← (show r134 29 = nI (ix (r134 29)) from (ixE k138))]) rfl
            rcases g141 : k_copies_L150_L150 r123 (M.1 65) (ix (r134 29)) with ⟨u142, r143⟩
            try simp only [g141] at hk
            have t144 : GM z mX12_copies (d + 80) [.ref 54, .ref 63, .ref 65, .int (nI (ix (r134 29)))] (mrow (mrow (mrow (mrow M 54 (upd r134 30 (r134 29))) 55 r109) 63 r123) 64 r124) (fun rs => rs = .inl (none, mrow (mrow (mrow (mrow (mrow M 54 (upd r134 30 (r134 29))) 55 r109) 63 r123) 64 r124) 65 r143)) := by
              have q9 := c_k_copies_L150_L150_54_63_65 z (d + 80) (mrow (mrow (mrow (mrow M 54 (upd r134 30 (r134 29))) 55 r109) 63 r123) 64 r124) (ix (r134 29)) k139 k140
              try simp only [mput, mrow_same, mrow_hit, mrow_miss, mrow_sw, idr_eq, ne_eq, Nat.reduceEqDiff, not_false_eq_true, Nat.reduceLT, reduceCtorEq, g141] at q9
              exact q9
            refine G.callV (as := [.ref 63, .ref 65, .int (nI (ix (r134 29)))]) (rest := []) (a := 54) oX12_copies lk_EvenFindersModel_168 (by decide +kernel) rfl rfl ⟨rfl, rfl⟩ (Nat.le_of_ble_eq_true rfl) rfl ⟨Nat.le_of_ble_eq_true rfl, Nat.le_of_ble_eq_true rfl⟩ t144 (fun v9 N9 h145 => ?_) (fun E9 N9 h145 => by cases h145)
            cases h145
            show G z mX12_law (d + 81) 0 0 117 [some (.ref 54), some (.int x1), some (.int v133)] [] (mrow (mrow (mrow (mrow (mrow M 54 (upd r134 30 (r134 29))) 55 r109) 63 r123) 64 r124) 65 r143) Q
            refine G.sl [(.aload_n 0, 1, 0, 0, 0, 0), (.aload_n 0, 1, 0, 0, 0, 0), (.getfield 44, 3, 11, 25, 148, 0), (.aload_n 0, 1, 0, 0, 0, 0), (.getfield 50, 3, 11, 27, 150, 0), (.aload_n 0, 1, 0, 0, 0, 0), (.getfield 246, 3, 11, 29, 152, 0)] [] (pc2 := 130) (ls2 := [some (.ref 54), some (.int x1), some (.int v133)]) (st2 := [.int (r134 29), .ref 66, .ref 64, .ref 54]) (M2 := mrow (mrow (mrow (mrow (mrow M 54 (upd r134 30 (r134 29))) 55 r109) 63 r123) 64 r124) 65 r143) (Ps := []) (by decide +kernel) rfl rfl trivial ?_
            obtain ⟨k146, hk⟩ := hk
            refine G.eq (st' := [.int (nI (ix (r134 29))), .ref 66, .ref 64, .ref 54]) ?_ rfl (by rw [← (show r134 29 = nI (ix (r134 29)) from (ixE k138))]) rfl
            rcases g147 : k_copies_L150_L150 r124 (M.1 66) (ix (r134 29)) with ⟨u148, r149⟩
            have t150 : GM z mX12_copies (d + 80) [.ref 54, .ref 64, .ref 66, .int (nI (ix (r134 29)))] (mrow (mrow (mrow (mrow (mrow M 54 (upd r134 30 (r134 29))) 55 r109) 63 r123) 64 r124) 65 r143) (fun rs => rs = .inl (none, mrow (mrow (mrow (mrow (mrow (mrow M 54 (upd r134 30 (r134 29))) 55 r109) 63 r123) 64 r124) 65 r143) 66 r149)) := by
              have q9 := c_k_copies_L150_L150_54_64_66 z (d + 80) (mrow (mrow (mrow (mrow (mrow M 54 (upd r134 30 (r134 29))) 55 r109) 63 r123) 64 r124) 65 r143) (ix (r134 29)) k139 k146
              try simp only [mput, mrow_same, mrow_hit, mrow_miss, mrow_sw, idr_eq, ne_eq, Nat.reduceEqDiff, not_false_eq_true, Nat.reduceLT, reduceCtorEq, g147] at q9
              exact q9
            refine G.callV (as := [.ref 64, .ref 66, .int (nI (ix (r134 29)))]) (rest := []) (a := 54) oX12_copies lk_EvenFindersModel_168 (by decide +kernel) rfl rfl ⟨rfl, rfl⟩ (Nat.le_of_ble_eq_true rfl) rfl ⟨Nat.le_of_ble_eq_true rfl, Nat.le_of_ble_eq_true rfl⟩ t150 (fun v9 N9 h151 => ?_) (fun E9 N9 h151 => by cases h151)
            cases h151
            show G z mX12_law (d + 81) 0 0 133 [some (.ref 54), some (.int x1), some (.int v133)] [] (mrow (mrow (mrow (mrow (mrow (mrow M 54 (upd r134 30 (r134 29))) 55 r109) 63 r123) 64 r124) 65 r143) 66 r149) Q
            refine G.sl [(.iload_n 2, 1, 2, 0, 0, 0)] [] (pc2 := 134) (ls2 := [some (.ref 54), some (.int x1), some (.int v133)]) (st2 := [.int v133]) (M2 := mrow (mrow (mrow (mrow (mrow (mrow M 54 (upd r134 30 (r134 29))) 55 r109) 63 r123) 64 r124) 65 r143) 66 r149) (Ps := []) (by decide +kernel) rfl rfl trivial ?_
            exact G.reti (by decide +kernel) rfl rfl (Nat.le_of_ble_eq_true rfl) (Nat.le_of_ble_eq_true rfl) ((by rw [hQ]; simp only [k_law, if_neg c1, if_pos c104, g106, if_neg c112, g114, g120, if_pos c130, g132, if_pos c137, g141, g147, mrow_self]))
          · skip
            rw [if_neg c137] at hk
            refine G.sl [(.iload_n 2, 1, 2, 0, 0, 0)] [] (pc2 := 92) (ls2 := [some (.ref 54), some (.int x1), some (.int v133)]) (st2 := [.int v133]) (M2 := mrow (mrow (mrow (mrow M 54 r134) 55 r109) 63 r123) 64 r124) (Ps := []) (by decide +kernel) rfl rfl trivial ?_
            refine G.mem (M' := mrow (mrow (mrow (mrow (mrow (mrow M 54 r134) 55 r109) 63 r123) 64 r124) 65 (M.1 65)) 66 (M.1 66)) ((((mrow_id (N := mrow (mrow (mrow (mrow M 54 r134) 55 r109) 63 r123) 64 r124) (c := 65) (f := M.1 65) (by first | rfl | (simp only [mput, mrow_same, mrow_hit, mrow_miss, mrow_sw, idr_eq, ne_eq, Nat.reduceEqDiff, not_false_eq_true, Nat.reduceLT, reduceCtorEq]; done))).symm).trans (mrow_id (N := mrow (mrow (mrow (mrow (mrow M 54 r134) 55 r109) 63 r123) 64 r124) 65 (M.1 65)) (c := 66) (f := M.1 66) (by first | rfl | (simp only [mput, mrow_same, mrow_hit, mrow_miss, mrow_sw, idr_eq, ne_eq, Nat.reduceEqDiff, not_false_eq_true, Nat.reduceLT, reduceCtorEq]; done))).symm).trans (by first | rfl | (simp only [mput, mrow_same, mrow_hit, mrow_miss, mrow_sw, idr_eq, ne_eq, Nat.reduceEqDiff, not_false_eq_true, Nat.reduceLT, reduceCtorEq]; done))) ?_
            exact G.reti (by decide +kernel) rfl rfl (Nat.le_of_ble_eq_true rfl) (Nat.le_of_ble_eq_true rfl) ((by rw [hQ]; simp only [k_law, if_neg c1, if_pos c104, g106, if_neg c112, g114, g120, if_pos c130, g132, if_neg c137, mrow_self]))
        · skip
          rw [if_neg c130] at hk
          refine G.sl [(.aload_n 0, 1, 0, 0, 0, 0)] [] (pc2 := 62) (ls2 := [some (.ref 54), some (.int x1), none]) (st2 := [.ref 54]) (M2 := mrow (mrow (mrow (mrow M 54 r122) 55 r109) 63 r123) 64 r124) (Ps := []) (by decide +kernel) rfl rfl trivial ?_
          obtain ⟨k152, hk⟩ := hk
          rcases g153 : k_isMore r122 (M.1 56) with ⟨v154, r155⟩
          try simp only [g153] at hk
          have ev154 : v154 = 0 ∨ v154 = 1 := by
            have q9 := k_isMore_01 r122 (M.1 56)
            rw [g153] at q9
            exact q9
          have t156 : GM z mX12_isMore (d + 80) [.ref 54] (mrow (mrow (mrow (mrow M 54 r122) 55 r109) 63 r123) 64 r124) (fun rs => rs = .inl (some (.int v154), mrow (mrow (mrow (mrow M 54 r155) 55 r109) 63 r123) 64 r124)) := by
            have q9 := c_k_isMore_54 z (d + 79) (mrow (mrow (mrow (mrow M 54 r122) 55 r109) 63 r123) 64 r124) k152
            try simp only [mput, mrow_same, mrow_hit, mrow_miss, mrow_sw, idr_eq, ne_eq, Nat.reduceEqDiff, not_false_eq_true, Nat.reduceLT, reduceCtorEq, g153] at q9
            exact q9
          refine G.callV (as := []) (rest := []) (a := 54) oX12_isMore lk_EvenFindersModel_221 (by decide +kernel) rfl rfl ⟨rfl, rfl⟩ (Nat.le_of_ble_eq_true rfl) rfl ⟨Nat.le_of_ble_eq_true rfl, Nat.le_of_ble_eq_true rfl⟩ t156 (fun v9 N9 h157 => ?_) (fun E9 N9 h157 => by cases h157)
          cases h157
          show G z mX12_law (d + 81) 0 0 65 [some (.ref 54), some (.int x1), none] [.int v154] (mrow (mrow (mrow (mrow M 54 r155) 55 r109) 63 r123) 64 r124) Q
          refine G.if_eq (off := (12)) (tgt := 77) (by decide +kernel) rfl (fun c158 => ?_) (fun c158 => ?_)
          · skip
            rw [if_pos c158] at hk
            refine G.sl [(.aload_n 0, 1, 0, 0, 0, 0), (.iconst 1, 1, 0, 0, 0, nI 1)] [] (pc2 := 79) (ls2 := [some (.ref 54), some (.int x1), none]) (st2 := [.int (nI 1), .ref 54]) (M2 := mrow (mrow (mrow (mrow M 54 r155) 55 r109) 63 r123) 64 r124) (Ps := []) (by decide +kernel) rfl rfl trivial ?_
            obtain ⟨k159, hk⟩ := hk
            rcases g160 : k_result r155 (nI 1) with ⟨v161, r162⟩
            try simp only [g160] at hk
            have t163 : GM z mX12_result (d + 80) [.ref 54, .int (nI 1)] (mrow (mrow (mrow (mrow M 54 r155) 55 r109) 63 r123) 64 r124) (fun rs => rs = .inl (some (.int v161), mrow (mrow (mrow (mrow M 54 r162) 55 r109) 63 r123) 64 r124)) := by
              have q9 := c_k_result_54 z (d + 79) (mrow (mrow (mrow (mrow M 54 r155) 55 r109) 63 r123) 64 r124) (nI 1)
              try simp only [mput, mrow_same, mrow_hit, mrow_miss, mrow_sw, idr_eq, ne_eq, Nat.reduceEqDiff, not_false_eq_true, Nat.reduceLT, reduceCtorEq, g160] at q9
              exact q9
            refine G.callV (as := [.int (nI 1)]) (rest := []) (a := 54) oX12_result lk_EvenFindersModel_242 (by decide +kernel) rfl rfl ⟨rfl, rfl⟩ (Nat.le_of_ble_eq_true rfl) rfl ⟨Nat.le_of_ble_eq_true rfl, Nat.le_of_ble_eq_true rfl⟩ t163 (fun v9 N9 h164 => ?_) (fun E9 N9 h164 => by cases h164)
            cases h164
            show G z mX12_law (d + 81) 0 0 82 [some (.ref 54), some (.int x1), none] [.int v161] (mrow (mrow (mrow (mrow M 54 r162) 55 r109) 63 r123) 64 r124) Q
            refine G.sl [(.istore_n 2, 1, 2, 0, 0, 0), (.aload_n 0, 1, 0, 0, 0, 0), (.getfield 101, 3, 11, 5, 128, 0), (.iconst (-1), 1, 0, 0, 0, (-1))] [] (pc2 := 88) (ls2 := [some (.ref 54), some (.int x1), some (.int v161)]) (st2 := [.int ((-1)), .int (r162 5)]) (M2 := mrow (mrow (mrow (mrow M 54 r162) 55 r109) 63 r123) 64 r124) (Ps := []) (by decide +kernel) rfl rfl trivial ?_
            refine G.ic_eq (off := (5)) (tgt := 93) (by decide +kernel) rfl (fun c165 => ?_) (fun c165 => ?_)
            · skip
              rw [if_pos c165] at hk
              refine G.sl [(.aload_n 0, 1, 0, 0, 0, 0), (.aload_n 0, 1, 0, 0, 0, 0), (.getfield 246, 3, 11, 29, 152, 0), (.putfield 172, 3, 11, 30, 153, 0), (.aload_n 0, 1, 0, 0, 0, 0), (.aload_n 0, 1, 0, 0, 0, 0), (.getfield 41, 3, 11, 24, 147, 0), (.aload_n 0, 1, 0, 0, 0, 0), (.getfield 47, 3, 11, 26, 149, 0), (.aload_n 0, 1, 0, 0, 0, 0), (.getfield 246, 3, 11, 29, 152, 0)] [] (pc2 := 114) (ls2 := [some (.ref 54), some (.int x1), some (.int v161)]) (st2 := [.int (r162 29), .ref 65, .ref 63, .ref 54]) (M2 := mput (mrow (mrow (mrow (mrow M 54 r162) 55 r109) 63 r123) 64 r124) 54 30 (r162 29)) (Ps := []) (by decide +kernel) rfl rfl trivial ?_
              refine G.mem (M' := mrow (mrow (mrow (mrow M 54 (upd r162 30 (r162 29))) 55 r109) 63 r123) 64 r124) (by first | rfl | (simp only [mput, mrow_same, mrow_hit, mrow_miss, mrow_sw, idr_eq, ne_eq, Nat.reduceEqDiff, not_false_eq_true, Nat.reduceLT, reduceCtorEq]; done)) ?_
              obtain ⟨k166, k167, hk⟩ := hk
              obtain ⟨k168, hk⟩ := hk
              refine G.eq (st' := [.int (nI (ix (r162 29))), .ref 65, .ref 63, .ref 54]) ?_ rfl (by rw [← (show r162 29 = nI (ix (r162 29)) from (ixE k166))]) rfl
              rcases g169 : k_copies_L150_L150 r123 (M.1 65) (ix (r162 29)) with ⟨u170, r171⟩
              try simp only [g169] at hk
              have t172 : GM z mX12_copies (d + 80) [.ref 54, .ref 63, .ref 65, .int (nI (ix (r162 29)))] (mrow (mrow (mrow (mrow M 54 (upd r162 30 (r162 29))) 55 r109) 63 r123) 64 r124) (fun rs => rs = .inl (none, mrow (mrow (mrow (mrow (mrow M 54 (upd r162 30 (r162 29))) 55 r109) 63 r123) 64 r124) 65 r171)) := by
                have q9 := c_k_copies_L150_L150_54_63_65 z (d + 80) (mrow (mrow (mrow (mrow M 54 (upd r162 30 (r162 29))) 55 r109) 63 r123) 64 r124) (ix (r162 29)) k167 k168
                try simp only [mput, mrow_same, mrow_hit, mrow_miss, mrow_sw, idr_eq, ne_eq, Nat.reduceEqDiff, not_false_eq_true, Nat.reduceLT, reduceCtorEq, g169] at q9
                exact q9
              refine G.callV (as := [.ref 63, .ref 65, .int (nI (ix (r162 29)))]) (rest := []) (a := 54) oX12_copies lk_EvenFindersModel_168 (by decide +kernel) rfl rfl ⟨rfl, rfl⟩ (Nat.le_of_ble_eq_true rfl) rfl ⟨Nat.le_of_ble_eq_true rfl, Nat.le_of_ble_eq_true rfl⟩ t172 (fun v9 N9 h173 => ?_) (fun E9 N9 h173 => by cases h173)
              cases h173
              show G z mX12_law (d + 81) 0 0 117 [some (.ref 54), some (.int x1), some (.int v161)] [] (mrow (mrow (mrow (mrow (mrow M 54 (upd r162 30 (r162 29))) 55 r109) 63 r123) 64 r124) 65 r171) Q
              refine G.sl [(.aload_n 0, 1, 0, 0, 0, 0), (.aload_n 0, 1, 0, 0, 0, 0), (.getfield 44, 3, 11, 25, 148, 0), (.aload_n 0, 1, 0, 0, 0, 0), (.getfield 50, 3, 11, 27, 150, 0), (.aload_n 0, 1, 0, 0, 0, 0), (.getfield 246, 3, 11, 29, 152, 0)] [] (pc2 := 130) (ls2 := [some (.ref 54), some (.int x1), some (.int v161)]) (st2 := [.int (r162 29), .ref 66, .ref 64, .ref 54]) (M2 := mrow (mrow (mrow (mrow (mrow M 54 (upd r162 30 (r162 29))) 55 r109) 63 r123) 64 r124) 65 r171) (Ps := []) (by decide +kernel) rfl rfl trivial ?_
              obtain ⟨k174, hk⟩ := hk
              refine G.eq (st' := [.int (nI (ix (r162 29))), .ref 66, .ref 64, .ref 54]) ?_ rfl (by rw [← (show r162 29 = nI (ix (r162 29)) from (ixE k166))]) rfl
              rcases g175 : k_copies_L150_L150 r124 (M.1 66) (ix (r162 29)) with ⟨u176, r177⟩
              have t178 : GM z mX12_copies (d + 80) [.ref 54, .ref 64, .ref 66, .int (nI (ix (r162 29)))] (mrow (mrow (mrow (mrow (mrow M 54 (upd r162 30 (r162 29))) 55 r109) 63 r123) 64 r124) 65 r171) (fun rs => rs = .inl (none, mrow (mrow (mrow (mrow (mrow (mrow M 54 (upd r162 30 (r162 29))) 55 r109) 63 r123) 64 r124) 65 r171) 66 r177)) := by
                have q9 := c_k_copies_L150_L150_54_64_66 z (d + 80) (mrow (mrow (mrow (mrow (mrow M 54 (upd r162 30 (r162 29))) 55 r109) 63 r123) 64 r124) 65 r171) (ix (r162 29)) k167 k174
                try simp only [mput, mrow_same, mrow_hit, mrow_miss, mrow_sw, idr_eq, ne_eq, Nat.reduceEqDiff, not_false_eq_true, Nat.reduceLT, reduceCtorEq, g175] at q9
                exact q9
              refine G.callV (as := [.ref 64, .ref 66, .int (nI (ix (r162 29)))]) (rest := []) (a := 54) oX12_copies lk_EvenFindersModel_168 (by decide +kernel) rfl rfl ⟨rfl, rfl⟩ (Nat.le_of_ble_eq_true rfl) rfl ⟨Nat.le_of_ble_eq_true rfl, Nat.le_of_ble_eq_true rfl⟩ t178 (fun v9 N9 h179 => ?_) (fun E9 N9 h179 => by cases h179)
              cases h179
              show G z mX12_law (d + 81) 0 0 133 [some (.ref 54), some (.int x1), some (.int v161)] [] (mrow (mrow (mrow (mrow (mrow (mrow M 54 (upd r162 30 (r162 29))) 55 r109) 63 r123) 64 r124) 65 r171) 66 r177) Q
              refine G.sl [(.iload_n 2, 1, 2, 0, 0, 0)] [] (pc2 := 134) (ls2 := [some (.ref 54), some (.int x1), some (.int v161)]) (st2 := [.int v161]) (M2 := mrow (mrow (mrow (mrow (mrow (mrow M 54 (upd r162 30 (r162 29))) 55 r109) 63 r123) 64 r124) 65 r171) 66 r177) (Ps := []) (by decide +kernel) rfl rfl trivial ?_
              exact G.reti (by decide +kernel) rfl rfl (Nat.le_of_ble_eq_true rfl) (Nat.le_of_ble_eq_true rfl) ((by rw [hQ]; simp only [k_law, if_neg c1, if_pos c104, g106, if_neg c112, g114, g120, if_neg c130, g153, if_pos c158, g160, if_pos c165, g169, g175, mrow_self]))
            · skip
              rw [if_neg c165] at hk
              refine G.sl [(.iload_n 2, 1, 2, 0, 0, 0)] [] (pc2 := 92) (ls2 := [some (.ref 54), some (.int x1), some (.int v161)]) (st2 := [.int v161]) (M2 := mrow (mrow (mrow (mrow M 54 r162) 55 r109) 63 r123) 64 r124) (Ps := []) (by decide +kernel) rfl rfl trivial ?_
              refine G.mem (M' := mrow (mrow (mrow (mrow (mrow (mrow M 54 r162) 55 r109) 63 r123) 64 r124) 65 (M.1 65)) 66 (M.1 66)) ((((mrow_id (N := mrow (mrow (mrow (mrow M 54 r162) 55 r109) 63 r123) 64 r124) (c := 65) (f := M.1 65) (by first | rfl | (simp only [mput, mrow_same, mrow_hit, mrow_miss, mrow_sw, idr_eq, ne_eq, Nat.reduceEqDiff, not_false_eq_true, Nat.reduceLT, reduceCtorEq]; done))).symm).trans (mrow_id (N := mrow (mrow (mrow (mrow (mrow M 54 r162) 55 r109) 63 r123) 64 r124) 65 (M.1 65)) (c := 66) (f := M.1 66) (by first | rfl | (simp only [mput, mrow_same, mrow_hit, mrow_miss, mrow_sw, idr_eq, ne_eq, Nat.reduceEqDiff, not_false_eq_true, Nat.reduceLT, reduceCtorEq]; done))).symm).trans (by first | rfl | (simp only [mput, mrow_same, mrow_hit, mrow_miss, mrow_sw, idr_eq, ne_eq, Nat.reduceEqDiff, not_false_eq_true, Nat.reduceLT, reduceCtorEq]; done))) ?_
              exact G.reti (by decide +kernel) rfl rfl (Nat.le_of_ble_eq_true rfl) (Nat.le_of_ble_eq_true rfl) ((by rw [hQ]; simp only [k_law, if_neg c1, if_pos c104, g106, if_neg c112, g114, g120, if_neg c130, g153, if_pos c158, g160, if_neg c165, mrow_self]))
          · skip
            rw [if_neg c158] at hk
            refine G.sl [(.aload_n 0, 1, 0, 0, 0, 0), (.iconst 1, 1, 0, 0, 0, nI 1), (.aload_n 0, 1, 0, 0, 0, 0), (.getfield 107, 3, 11, 4, 127, 0)] [] (pc2 := 74) (ls2 := [some (.ref 54), some (.int x1), none]) (st2 := [.int (r155 4), .int (nI 1), .ref 54]) (M2 := mrow (mrow (mrow (mrow M 54 r155) 55 r109) 63 r123) 64 r124) (Ps := []) (by decide +kernel) rfl rfl trivial ?_
            obtain ⟨k180, hk⟩ := hk
            rcases g181 : k_wrong r155 (nI 1) (r155 4) with ⟨u182, r183⟩
            try simp only [g181] at hk
            have t184 : GM z mX12_wrong (d + 80) [.ref 54, .int (nI 1), .int (r155 4)] (mrow (mrow (mrow (mrow M 54 r155) 55 r109) 63 r123) 64 r124) (fun rs => rs = .inl (none, mrow (mrow (mrow (mrow M 54 r183) 55 r109) 63 r123) 64 r124)) := by
              have q9 := c_k_wrong_54 z (d + 80) (mrow (mrow (mrow (mrow M 54 r155) 55 r109) 63 r123) 64 r124) (nI 1) (r155 4)
              try simp only [mput, mrow_same, mrow_hit, mrow_miss, mrow_sw, idr_eq, ne_eq, Nat.reduceEqDiff, not_false_eq_true, Nat.reduceLT, reduceCtorEq, g181] at q9
              exact q9
            refine G.callV (as := [.int (nI 1), .int (r155 4)]) (rest := []) (a := 54) oX12_wrong lk_EvenFindersModel_137 (by decide +kernel) rfl rfl ⟨rfl, rfl⟩ (Nat.le_of_ble_eq_true rfl) rfl ⟨Nat.le_of_ble_eq_true rfl, Nat.le_of_ble_eq_true rfl⟩ t184 (fun v9 N9 h185 => ?_) (fun E9 N9 h185 => by cases h185)
            cases h185
            show G z mX12_law (d + 81) 0 0 77 [some (.ref 54), some (.int x1), none] [] (mrow (mrow (mrow (mrow M 54 r183) 55 r109) 63 r123) 64 r124) Q
            refine G.sl [(.aload_n 0, 1, 0, 0, 0, 0), (.iconst 1, 1, 0, 0, 0, nI 1)] [] (pc2 := 79) (ls2 := [some (.ref 54), some (.int x1), none]) (st2 := [.int (nI 1), .ref 54]) (M2 := mrow (mrow (mrow (mrow M 54 r183) 55 r109) 63 r123) 64 r124) (Ps := []) (by decide +kernel) rfl rfl trivial ?_
            obtain ⟨k186, hk⟩ := hk
            rcases g187 : k_result r183 (nI 1) with ⟨v188, r189⟩
            try simp only [g187] at hk
            have t190 : GM z mX12_result (d + 80) [.ref 54, .int (nI 1)] (mrow (mrow (mrow (mrow M 54 r183) 55 r109) 63 r123) 64 r124) (fun rs => rs = .inl (some (.int v188), mrow (mrow (mrow (mrow M 54 r189) 55 r109) 63 r123) 64 r124)) := by
              have q9 := c_k_result_54 z (d + 79) (mrow (mrow (mrow (mrow M 54 r183) 55 r109) 63 r123) 64 r124) (nI 1)
              try simp only [mput, mrow_same, mrow_hit, mrow_miss, mrow_sw, idr_eq, ne_eq, Nat.reduceEqDiff, not_false_eq_true, Nat.reduceLT, reduceCtorEq, g187] at q9
              exact q9
            refine G.callV (as := [.int (nI 1)]) (rest := []) (a := 54) oX12_result lk_EvenFindersModel_242 (by decide +kernel) rfl rfl ⟨rfl, rfl⟩ (Nat.le_of_ble_eq_true rfl) rfl ⟨Nat.le_of_ble_eq_true rfl, Nat.le_of_ble_eq_true rfl⟩ t190 (fun v9 N9 h191 => ?_) (fun E9 N9 h191 => by cases h191)
            cases h191
            show G z mX12_law (d + 81) 0 0 82 [some (.ref 54), some (.int x1), none] [.int v188] (mrow (mrow (mrow (mrow M 54 r189) 55 r109) 63 r123) 64 r124) Q
            refine G.sl [(.istore_n 2, 1, 2, 0, 0, 0), (.aload_n 0, 1, 0, 0, 0, 0), (.getfield 101, 3, 11, 5, 128, 0), (.iconst (-1), 1, 0, 0, 0, (-1))] [] (pc2 := 88) (ls2 := [some (.ref 54), some (.int x1), some (.int v188)]) (st2 := [.int ((-1)), .int (r189 5)]) (M2 := mrow (mrow (mrow (mrow M 54 r189) 55 r109) 63 r123) 64 r124) (Ps := []) (by decide +kernel) rfl rfl trivial ?_
            refine G.ic_eq (off := (5)) (tgt := 93) (by decide +kernel) rfl (fun c192 => ?_) (fun c192 => ?_)
            · skip
              rw [if_pos c192] at hk
              refine G.sl [(.aload_n 0, 1, 0, 0, 0, 0), (.aload_n 0, 1, 0, 0, 0, 0), (.getfield 246, 3, 11, 29, 152, 0), (.putfield 172, 3, 11, 30, 153, 0), (.aload_n 0, 1, 0, 0, 0, 0), (.aload_n 0, 1, 0, 0, 0, 0), (.getfield 41, 3, 11, 24, 147, 0), (.aload_n 0, 1, 0, 0, 0, 0), (.getfield 47, 3, 11, 26, 149, 0), (.aload_n 0, 1, 0, 0, 0, 0), (.getfield 246, 3, 11, 29, 152, 0)] [] (pc2 := 114) (ls2 := [some (.ref 54), some (.int x1), some (.int v188)]) (st2 := [.int (r189 29), .ref 65, .ref 63, .ref 54]) (M2 := mput (mrow (mrow (mrow (mrow M 54 r189) 55 r109) 63 r123) 64 r124) 54 30 (r189 29)) (Ps := []) (by decide +kernel) rfl rfl trivial ?_
              refine G.mem (M' := mrow (mrow (mrow (mrow M 54 (upd r189 30 (r189 29))) 55 r109) 63 r123) 64 r124) (by first | rfl | (simp only [mput, mrow_same, mrow_hit, mrow_miss, mrow_sw, idr_eq, ne_eq, Nat.reduceEqDiff, not_false_eq_true, Nat.reduceLT, reduceCtorEq]; done)) ?_
              obtain ⟨k193, k194, hk⟩ := hk
              obtain ⟨k195, hk⟩ := hk
              refine G.eq (st' := [.int (nI (ix (r189 29))), .ref 65, .ref 63, .ref 54]) ?_ rfl (by rw [← (show r189 29 = nI (ix (r189 29)) from (ixE k193))]) rfl
              rcases g196 : k_copies_L150_L150 r123 (M.1 65) (ix (r189 29)) with ⟨u197, r198⟩
              try simp only [g196] at hk
              have t199 : GM z mX12_copies (d + 80) [.ref 54, .ref 63, .ref 65, .int (nI (ix (r189 29)))] (mrow (mrow (mrow (mrow M 54 (upd r189 30 (r189 29))) 55 r109) 63 r123) 64 r124) (fun rs => rs = .inl (none, mrow (mrow (mrow (mrow (mrow M 54 (upd r189 30 (r189 29))) 55 r109) 63 r123) 64 r124) 65 r198)) := by
                have q9 := c_k_copies_L150_L150_54_63_65 z (d + 80) (mrow (mrow (mrow (mrow M 54 (upd r189 30 (r189 29))) 55 r109) 63 r123) 64 r124) (ix (r189 29)) k194 k195
                try simp only [mput, mrow_same, mrow_hit, mrow_miss, mrow_sw, idr_eq, ne_eq, Nat.reduceEqDiff, not_false_eq_true, Nat.reduceLT, reduceCtorEq, g196] at q9
                exact q9
              refine G.callV (as := [.ref 63, .ref 65, .int (nI (ix (r189 29)))]) (rest := []) (a := 54) oX12_copies lk_EvenFindersModel_168 (by decide +kernel) rfl rfl ⟨rfl, rfl⟩ (Nat.le_of_ble_eq_true rfl) rfl ⟨Nat.le_of_ble_eq_true rfl, Nat.le_of_ble_eq_true rfl⟩ t199 (fun v9 N9 h200 => ?_) (fun E9 N9 h200 => by cases h200)
              cases h200
              show G z mX12_law (d + 81) 0 0 117 [some (.ref 54), some (.int x1), some (.int v188)] [] (mrow (mrow (mrow (mrow (mrow M 54 (upd r189 30 (r189 29))) 55 r109) 63 r123) 64 r124) 65 r198) Q
              refine G.sl [(.aload_n 0, 1, 0, 0, 0, 0), (.aload_n 0, 1, 0, 0, 0, 0), (.getfield 44, 3, 11, 25, 148, 0), (.aload_n 0, 1, 0, 0, 0, 0), (.getfield 50, 3, 11, 27, 150, 0), (.aload_n 0, 1, 0, 0, 0, 0), (.getfield 246, 3, 11, 29, 152, 0)] [] (pc2 := 130) (ls2 := [some (.ref 54), some (.int x1), some (.int v188)]) (st2 := [.int (r189 29), .ref 66, .ref 64, .ref 54]) (M2 := mrow (mrow (mrow (mrow (mrow M 54 (upd r189 30 (r189 29))) 55 r109) 63 r123) 64 r124) 65 r198) (Ps := []) (by decide +kernel) rfl rfl trivial ?_
              obtain ⟨k201, hk⟩ := hk
              refine G.eq (st' := [.int (nI (ix (r189 29))), .ref 66, .ref 64, .ref 54]) ?_ rfl (by rw [← (show r189 29 = nI (ix (r189 29)) from (ixE k193))]) rfl
              rcases g202 : k_copies_L150_L150 r124 (M.1 66) (ix (r189 29)) with ⟨u203, r204⟩
              have t205 : GM z mX12_copies (d + 80) [.ref 54, .ref 64, .ref 66, .int (nI (ix (r189 29)))] (mrow (mrow (mrow (mrow (mrow M 54 (upd r189 30 (r189 29))) 55 r109) 63 r123) 64 r124) 65 r198) (fun rs => rs = .inl (none, mrow (mrow (mrow (mrow (mrow (mrow M 54 (upd r189 30 (r189 29))) 55 r109) 63 r123) 64 r124) 65 r198) 66 r204)) := by
                have q9 := c_k_copies_L150_L150_54_64_66 z (d + 80) (mrow (mrow (mrow (mrow (mrow M 54 (upd r189 30 (r189 29))) 55 r109) 63 r123) 64 r124) 65 r198) (ix (r189 29)) k194 k201
                try simp only [mput, mrow_same, mrow_hit, mrow_miss, mrow_sw, idr_eq, ne_eq, Nat.reduceEqDiff, not_false_eq_true, Nat.reduceLT, reduceCtorEq, g202] at q9
                exact q9
              refine G.callV (as := [.ref 64, .ref 66, .int (nI (ix (r189 29)))]) (rest := []) (a := 54) oX12_copies lk_EvenFindersModel_168 (by decide +kernel) rfl rfl ⟨rfl, rfl⟩ (Nat.le_of_ble_eq_true rfl) rfl ⟨Nat.le_of_ble_eq_true rfl, Nat.le_of_ble_eq_true rfl⟩ t205 (fun v9 N9 h206 => ?_) (fun E9 N9 h206 => by cases h206)
              cases h206
              show G z mX12_law (d + 81) 0 0 133 [some (.ref 54), some (.int x1), some (.int v188)] [] (mrow (mrow (mrow (mrow (mrow (mrow M 54 (upd r189 30 (r189 29))) 55 r109) 63 r123) 64 r124) 65 r198) 66 r204) Q
              refine G.sl [(.iload_n 2, 1, 2, 0, 0, 0)] [] (pc2 := 134) (ls2 := [some (.ref 54), some (.int x1), some (.int v188)]) (st2 := [.int v188]) (M2 := mrow (mrow (mrow (mrow (mrow (mrow M 54 (upd r189 30 (r189 29))) 55 r109) 63 r123) 64 r124) 65 r198) 66 r204) (Ps := []) (by decide +kernel) rfl rfl trivial ?_
              exact G.reti (by decide +kernel) rfl rfl (Nat.le_of_ble_eq_true rfl) (Nat.le_of_ble_eq_true rfl) ((by rw [hQ]; simp only [k_law, if_neg c1, if_pos c104, g106, if_neg c112, g114, g120, if_neg c130, g153, if_neg c158, g181, g187, if_pos c192, g196, g202, mrow_self]))
            · skip
              rw [if_neg c192] at hk
              refine G.sl [(.iload_n 2, 1, 2, 0, 0, 0)] [] (pc2 := 92) (ls2 := [some (.ref 54), some (.int x1), some (.int v188)]) (st2 := [.int v188]) (M2 := mrow (mrow (mrow (mrow M 54 r189) 55 r109) 63 r123) 64 r124) (Ps := []) (by decide +kernel) rfl rfl trivial ?_
              refine G.mem (M' := mrow (mrow (mrow (mrow (mrow (mrow M 54 r189) 55 r109) 63 r123) 64 r124) 65 (M.1 65)) 66 (M.1 66)) ((((mrow_id (N := mrow (mrow (mrow (mrow M 54 r189) 55 r109) 63 r123) 64 r124) (c := 65) (f := M.1 65) (by first | rfl | (simp only [mput, mrow_same, mrow_hit, mrow_miss, mrow_sw, idr_eq, ne_eq, Nat.reduceEqDiff, not_false_eq_true, Nat.reduceLT, reduceCtorEq]; done))).symm).trans (mrow_id (N := mrow (mrow (mrow (mrow (mrow M 54 r189) 55 r109) 63 r123) 64 r124) 65 (M.1 65)) (c := 66) (f := M.1 66) (by first | rfl | (simp only [mput, mrow_same, mrow_hit, mrow_miss, mrow_sw, idr_eq, ne_eq, Nat.reduceEqDiff, not_false_eq_true, Nat.reduceLT, reduceCtorEq]; done))).symm).trans (by first | rfl | (simp only [mput, mrow_same, mrow_hit, mrow_miss, mrow_sw, idr_eq, ne_eq, Nat.reduceEqDiff, not_false_eq_true, Nat.reduceLT, reduceCtorEq]; done))) ?_
              exact G.reti (by decide +kernel) rfl rfl (Nat.le_of_ble_eq_true rfl) (Nat.le_of_ble_eq_true rfl) ((by rw [hQ]; simp only [k_law, if_neg c1, if_pos c104, g106, if_neg c112, g114, g120, if_neg c130, g153, if_neg c158, g181, g187, if_neg c192, mrow_self]))
      · skip
        rw [if_pos c112] at hk
        refine G.sl [(.iconst 0, 1, 0, 0, 0, nI 0)] [] (pc2 := 39) (ls2 := [some (.ref 54), some (.int x1), none]) (st2 := [.int (nI 0)]) (M2 := mrow (mrow M 54 r108) 55 r109) (Ps := []) (by decide +kernel) rfl rfl trivial ?_
        refine G.mem (M' := mrow (mrow (mrow (mrow (mrow (mrow M 54 r108) 55 r109) 63 (M.1 63)) 64 (M.1 64)) 65 (M.1 65)) 66 (M.1 66)) ((((((mrow_id (N := mrow (mrow M 54 r108) 55 r109) (c := 63) (f := M.1 63) (by first | rfl | (simp only [mput, mrow_same, mrow_hit, mrow_miss, mrow_sw, idr_eq, ne_eq, Nat.reduceEqDiff, not_false_eq_true, Nat.reduceLT, reduceCtorEq]; done))).symm).trans (mrow_id (N := mrow (mrow (mrow M 54 r108) 55 r109) 63 (M.1 63)) (c := 64) (f := M.1 64) (by first | rfl | (simp only [mput, mrow_same, mrow_hit, mrow_miss, mrow_sw, idr_eq, ne_eq, Nat.reduceEqDiff, not_false_eq_true, Nat.reduceLT, reduceCtorEq]; done))).symm).trans (mrow_id (N := mrow (mrow (mrow (mrow M 54 r108) 55 r109) 63 (M.1 63)) 64 (M.1 64)) (c := 65) (f := M.1 65) (by first | rfl | (simp only [mput, mrow_same, mrow_hit, mrow_miss, mrow_sw, idr_eq, ne_eq, Nat.reduceEqDiff, not_false_eq_true, Nat.reduceLT, reduceCtorEq]; done))).symm).trans (mrow_id (N := mrow (mrow (mrow (mrow (mrow M 54 r108) 55 r109) 63 (M.1 63)) 64 (M.1 64)) 65 (M.1 65)) (c := 66) (f := M.1 66) (by first | rfl | (simp only [mput, mrow_same, mrow_hit, mrow_miss, mrow_sw, idr_eq, ne_eq, Nat.reduceEqDiff, not_false_eq_true, Nat.reduceLT, reduceCtorEq]; done))).symm).trans (by first | rfl | (simp only [mput, mrow_same, mrow_hit, mrow_miss, mrow_sw, idr_eq, ne_eq, Nat.reduceEqDiff, not_false_eq_true, Nat.reduceLT, reduceCtorEq]; done))) ?_
        exact G.reti (by decide +kernel) rfl rfl (Nat.le_of_ble_eq_true rfl) (Nat.le_of_ble_eq_true rfl) ((by rw [hQ]; simp only [k_law, if_neg c1, if_pos c104, g106, if_pos c112, mrow_self]))
    · skip
      rw [if_neg c104] at hk
      refine G.sl [(.iload_n 1, 1, 1, 0, 0, 0), (.sipush 150, 3, 0, 0, 0, nI 150)] [] (pc2 := 22) (ls2 := [some (.ref 54), some (.int x1), none]) (st2 := [.int (nI 150), .int x1, .ref 54]) (M2 := mrow M 54 (upd (M.1 54) 0 (nI 0))) (Ps := []) (by decide +kernel) rfl rfl trivial ?_
      refine G.ic_gt (off := (7)) (tgt := 29) (by decide +kernel) rfl (fun c207 => ?_) (fun c207 => ?_)
      · skip
        rw [if_pos c207] at hk
        refine G.sl [(.iconst 0, 1, 0, 0, 0, nI 0), (.iconst 1, 1, 0, 0, 0, nI 1), (.iconst 1, 1, 0, 0, 0, nI 1)] [] (pc2 := 32) (ls2 := [some (.ref 54), some (.int x1), none]) (st2 := [.int (nI 1), .int (nI 1), .int (nI 0), .ref 54]) (M2 := mrow M 54 (upd (M.1 54) 0 (nI 0))) (Ps := []) (by decide +kernel) rfl rfl trivial ?_
        obtain ⟨k208, hk⟩ := hk
        rcases g209 : k_may_1 (upd (M.1 54) 0 (nI 0)) (M.1 55) (nI 0) (nI 1) with ⟨v210, r211, r212⟩
        try simp only [g209] at hk
        have ev210 : v210 = 0 ∨ v210 = 1 := by
          have q9 := k_may_1_01 (upd (M.1 54) 0 (nI 0)) (M.1 55) (nI 0) (nI 1)
          rw [g209] at q9
          exact q9
        have t213 : GM z mX12_may (d + 80) [.ref 54, .int (nI 0), .int (nI 1), .int (nI 1)] (mrow M 54 (upd (M.1 54) 0 (nI 0))) (fun rs => rs = .inl (some (.int v210), mrow (mrow M 54 r211) 55 r212)) := by
          have q9 := c_k_may_1_54 z (d + 80) (mrow M 54 (upd (M.1 54) 0 (nI 0))) (nI 0) (nI 1)
          try simp only [mput, mrow_same, mrow_hit, mrow_miss, mrow_sw, idr_eq, ne_eq, Nat.reduceEqDiff, not_false_eq_true, Nat.reduceLT, reduceCtorEq, g209] at q9
          exact q9
        refine G.callV (as := [.int (nI 0), .int (nI 1), .int (nI 1)]) (rest := []) (a := 54) oX12_may lk_EvenFindersModel_213 (by decide +kernel) rfl rfl ⟨rfl, rfl⟩ (Nat.le_of_ble_eq_true rfl) rfl ⟨Nat.le_of_ble_eq_true rfl, Nat.le_of_ble_eq_true rfl⟩ t213 (fun v9 N9 h214 => ?_) (fun E9 N9 h214 => by cases h214)
        cases h214
        show G z mX12_law (d + 81) 0 0 35 [some (.ref 54), some (.int x1), none] [.int v210] (mrow (mrow M 54 r211) 55 r212) Q
        refine G.if_ne (off := (5)) (tgt := 40) (by decide +kernel) rfl (fun c215 => ?_) (fun c215 => ?_)
        · skip
          rw [if_neg c215] at hk
          refine G.sl [(.aload_n 0, 1, 0, 0, 0, 0), (.iload_n 1, 1, 1, 0, 0, 0)] [] (pc2 := 42) (ls2 := [some (.ref 54), some (.int x1), none]) (st2 := [.int x1, .ref 54]) (M2 := mrow (mrow M 54 r211) 55 r212) (Ps := []) (by decide +kernel) rfl rfl trivial ?_
          obtain ⟨k216, hk⟩ := hk
          rcases g217 : k_begins r211 x1 with ⟨u218, r219⟩
          try simp only [g217] at hk
          have t220 : GM z mX12_begins (d + 80) [.ref 54, .int x1] (mrow (mrow M 54 r211) 55 r212) (fun rs => rs = .inl (none, mrow (mrow M 54 r219) 55 r212)) := by
            have q9 := c_k_begins_54 z (d + 80) (mrow (mrow M 54 r211) 55 r212) x1
            try simp only [mput, mrow_same, mrow_hit, mrow_miss, mrow_sw, idr_eq, ne_eq, Nat.reduceEqDiff, not_false_eq_true, Nat.reduceLT, reduceCtorEq, g217] at q9
            exact q9
          refine G.callV (as := [.int x1]) (rest := []) (a := 54) oX12_begins lk_EvenFindersModel_217 (by decide +kernel) rfl rfl ⟨rfl, rfl⟩ (Nat.le_of_ble_eq_true rfl) rfl ⟨Nat.le_of_ble_eq_true rfl, Nat.le_of_ble_eq_true rfl⟩ t220 (fun v9 N9 h221 => ?_) (fun E9 N9 h221 => by cases h221)
          cases h221
          show G z mX12_law (d + 81) 0 0 45 [some (.ref 54), some (.int x1), none] [] (mrow (mrow M 54 r219) 55 r212) Q
          refine G.sl [(.aload_n 0, 1, 0, 0, 0, 0), (.iconst 0, 1, 0, 0, 0, nI 0), (.putfield 246, 3, 11, 29, 152, 0), (.aload_n 0, 1, 0, 0, 0, 0)] [] (pc2 := 51) (ls2 := [some (.ref 54), some (.int x1), none]) (st2 := [.ref 54]) (M2 := mput (mrow (mrow M 54 r219) 55 r212) 54 29 (nI 0)) (Ps := []) (by decide +kernel) rfl rfl trivial ?_
          refine G.mem (M' := mrow (mrow M 54 (upd r219 29 (nI 0))) 55 r212) (by first | rfl | (simp only [mput, mrow_same, mrow_hit, mrow_miss, mrow_sw, idr_eq, ne_eq, Nat.reduceEqDiff, not_false_eq_true, Nat.reduceLT, reduceCtorEq]; done)) ?_
          obtain ⟨k222, hk⟩ := hk
          rcases g223 : k_readSum (upd r219 29 (nI 0)) (M.1 56) (M.1 63) (M.1 64) with ⟨u224, r225, r226, r227⟩
          try simp only [g223] at hk
          have t228 : GM z mX12_readSum (d + 80) [.ref 54] (mrow (mrow M 54 (upd r219 29 (nI 0))) 55 r212) (fun rs => rs = .inl (none, mrow (mrow (mrow (mrow M 54 r225) 55 r212) 63 r226) 64 r227)) := by
            have q9 := c_k_readSum_54 z d (mrow (mrow M 54 (upd r219 29 (nI 0))) 55 r212) k222
            try simp only [mput, mrow_same, mrow_hit, mrow_miss, mrow_sw, idr_eq, ne_eq, Nat.reduceEqDiff, not_false_eq_true, Nat.reduceLT, reduceCtorEq, g223] at q9
            exact q9
          refine G.callV (as := []) (rest := []) (a := 54) oX12_readSum lk_EvenFindersModel_261 (by decide +kernel) rfl rfl ⟨rfl, rfl⟩ (Nat.le_of_ble_eq_true rfl) rfl ⟨Nat.le_of_ble_eq_true rfl, Nat.le_of_ble_eq_true rfl⟩ t228 (fun v9 N9 h229 => ?_) (fun E9 N9 h229 => by cases h229)
          cases h229
          show G z mX12_law (d + 81) 0 0 54 [some (.ref 54), some (.int x1), none] [] (mrow (mrow (mrow (mrow M 54 r225) 55 r212) 63 r226) 64 r227) Q
          refine G.sl [(.aload_n 0, 1, 0, 0, 0, 0)] [] (pc2 := 55) (ls2 := [some (.ref 54), some (.int x1), none]) (st2 := [.ref 54]) (M2 := mrow (mrow (mrow (mrow M 54 r225) 55 r212) 63 r226) 64 r227) (Ps := []) (by decide +kernel) rfl rfl trivial ?_
          obtain ⟨k230, hk⟩ := hk
          have t231 : GM z mX12_fine (d + 80) [.ref 54] (mrow (mrow (mrow (mrow M 54 r225) 55 r212) 63 r226) 64 r227) (fun rs => rs = .inl (some (.int (k_fine r225)), mrow (mrow (mrow (mrow M 54 r225) 55 r212) 63 r226) 64 r227)) := by
            have q9 := c_k_fine_54 z (d + 80) (mrow (mrow (mrow (mrow M 54 r225) 55 r212) 63 r226) 64 r227) 
            try simp only [mput, mrow_same, mrow_hit, mrow_miss, mrow_sw, idr_eq, ne_eq, Nat.reduceEqDiff, not_false_eq_true, Nat.reduceLT, reduceCtorEq] at q9
            exact q9
          refine G.callV (as := []) (rest := []) (a := 54) oX12_fine lk_EvenFindersModel_130 (by decide +kernel) rfl rfl ⟨rfl, rfl⟩ (Nat.le_of_ble_eq_true rfl) rfl ⟨Nat.le_of_ble_eq_true rfl, Nat.le_of_ble_eq_true rfl⟩ t231 (fun v9 N9 h232 => ?_) (fun E9 N9 h232 => by cases h232)
          cases h232
          show G z mX12_law (d + 81) 0 0 58 [some (.ref 54), some (.int x1), none] [.int (k_fine r225)] (mrow (mrow (mrow (mrow M 54 r225) 55 r212) 63 r226) 64 r227) Q
          refine G.if_eq (off := (19)) (tgt := 77) (by decide +kernel) rfl (fun c233 => ?_) (fun c233 => ?_)
          · skip
            rw [if_pos c233] at hk
            refine G.sl [(.aload_n 0, 1, 0, 0, 0, 0), (.iconst 1, 1, 0, 0, 0, nI 1)] [] (pc2 := 79) (ls2 := [some (.ref 54), some (.int x1), none]) (st2 := [.int (nI 1), .ref 54]) (M2 := mrow (mrow (mrow (mrow M 54 r225) 55 r212) 63 r226) 64 r227) (Ps := []) (by decide +kernel) rfl rfl trivial ?_
            obtain ⟨k234, hk⟩ := hk
            rcases g235 : k_result r225 (nI 1) with ⟨v236, r237⟩
            try simp only [g235] at hk
            have t238 : GM z mX12_result (d + 80) [.ref 54, .int (nI 1)] (mrow (mrow (mrow (mrow M 54 r225) 55 r212) 63 r226) 64 r227) (fun rs => rs = .inl (some (.int v236), mrow (mrow (mrow (mrow M 54 r237) 55 r212) 63 r226) 64 r227)) := by
              have q9 := c_k_result_54 z (d + 79) (mrow (mrow (mrow (mrow M 54 r225) 55 r212) 63 r226) 64 r227) (nI 1)
              try simp only [mput, mrow_same, mrow_hit, mrow_miss, mrow_sw, idr_eq, ne_eq, Nat.reduceEqDiff, not_false_eq_true, Nat.reduceLT, reduceCtorEq, g235] at q9
              exact q9
            refine G.callV (as := [.int (nI 1)]) (rest := []) (a := 54) oX12_result lk_EvenFindersModel_242 (by decide +kernel) rfl rfl ⟨rfl, rfl⟩ (Nat.le_of_ble_eq_true rfl) rfl ⟨Nat.le_of_ble_eq_true rfl, Nat.le_of_ble_eq_true rfl⟩ t238 (fun v9 N9 h239 => ?_) (fun E9 N9 h239 => by cases h239)
            cases h239
            show G z mX12_law (d + 81) 0 0 82 [some (.ref 54), some (.int x1), none] [.int v236] (mrow (mrow (mrow (mrow M 54 r237) 55 r212) 63 r226) 64 r227) Q
            refine G.sl [(.istore_n 2, 1, 2, 0, 0, 0), (.aload_n 0, 1, 0, 0, 0, 0), (.getfield 101, 3, 11, 5, 128, 0), (.iconst (-1), 1, 0, 0, 0, (-1))] [] (pc2 := 88) (ls2 := [some (.ref 54), some (.int x1), some (.int v236)]) (st2 := [.int ((-1)), .int (r237 5)]) (M2 := mrow (mrow (mrow (mrow M 54 r237) 55 r212) 63 r226) 64 r227) (Ps := []) (by decide +kernel) rfl rfl trivial ?_
            refine G.ic_eq (off := (5)) (tgt := 93) (by decide +kernel) rfl (fun c240 => ?_) (fun c240 => ?_)
            · skip
              rw [if_pos c240] at hk
              refine G.sl [(.aload_n 0, 1, 0, 0, 0, 0), (.aload_n 0, 1, 0, 0, 0, 0), (.getfield 246, 3, 11, 29, 152, 0), (.putfield 172, 3, 11, 30, 153, 0), (.aload_n 0, 1, 0, 0, 0, 0), (.aload_n 0, 1, 0, 0, 0, 0), (.getfield 41, 3, 11, 24, 147, 0), (.aload_n 0, 1, 0, 0, 0, 0), (.getfield 47, 3, 11, 26, 149, 0), (.aload_n 0, 1, 0, 0, 0, 0), (.getfield 246, 3, 11, 29, 152, 0)] [] (pc2 := 114) (ls2 := [some (.ref 54), some (.int x1), some (.int v236)]) (st2 := [.int (r237 29), .ref 65, .ref 63, .ref 54]) (M2 := mput (mrow (mrow (mrow (mrow M 54 r237) 55 r212) 63 r226) 64 r227) 54 30 (r237 29)) (Ps := []) (by decide +kernel) rfl rfl trivial ?_
              refine G.mem (M' := mrow (mrow (mrow (mrow M 54 (upd r237 30 (r237 29))) 55 r212) 63 r226) 64 r227) (by first | rfl | (simp only [mput, mrow_same, mrow_hit, mrow_miss, mrow_sw, idr_eq, ne_eq, Nat.reduceEqDiff, not_false_eq_true, Nat.reduceLT, reduceCtorEq]; done)) ?_
              obtain ⟨k241, k242, hk⟩ := hk
              obtain ⟨k243, hk⟩ := hk
              refine G.eq (st' := [.int (nI (ix (r237 29))), .ref 65, .ref 63, .ref 54]) ?_ rfl (by rw [← (show r237 29 = nI (ix (r237 29)) from (ixE k241))]) rfl
              rcases g244 : k_copies_L150_L150 r226 (M.1 65) (ix (r237 29)) with ⟨u245, r246⟩
              try simp only [g244] at hk
              have t247 : GM z mX12_copies (d + 80) [.ref 54, .ref 63, .ref 65, .int (nI (ix (r237 29)))] (mrow (mrow (mrow (mrow M 54 (upd r237 30 (r237 29))) 55 r212) 63 r226) 64 r227) (fun rs => rs = .inl (none, mrow (mrow (mrow (mrow (mrow M 54 (upd r237 30 (r237 29))) 55 r212) 63 r226) 64 r227) 65 r246)) := by
                have q9 := c_k_copies_L150_L150_54_63_65 z (d + 80) (mrow (mrow (mrow (mrow M 54 (upd r237 30 (r237 29))) 55 r212) 63 r226) 64 r227) (ix (r237 29)) k242 k243
                try simp only [mput, mrow_same, mrow_hit, mrow_miss, mrow_sw, idr_eq, ne_eq, Nat.reduceEqDiff, not_false_eq_true, Nat.reduceLT, reduceCtorEq, g244] at q9
                exact q9
              refine G.callV (as := [.ref 63, .ref 65, .int (nI (ix (r237 29)))]) (rest := []) (a := 54) oX12_copies lk_EvenFindersModel_168 (by decide +kernel) rfl rfl ⟨rfl, rfl⟩ (Nat.le_of_ble_eq_true rfl) rfl ⟨Nat.le_of_ble_eq_true rfl, Nat.le_of_ble_eq_true rfl⟩ t247 (fun v9 N9 h248 => ?_) (fun E9 N9 h248 => by cases h248)
              cases h248
              show G z mX12_law (d + 81) 0 0 117 [some (.ref 54), some (.int x1), some (.int v236)] [] (mrow (mrow (mrow (mrow (mrow M 54 (upd r237 30 (r237 29))) 55 r212) 63 r226) 64 r227) 65 r246) Q
              refine G.sl [(.aload_n 0, 1, 0, 0, 0, 0), (.aload_n 0, 1, 0, 0, 0, 0), (.getfield 44, 3, 11, 25, 148, 0), (.aload_n 0, 1, 0, 0, 0, 0), (.getfield 50, 3, 11, 27, 150, 0), (.aload_n 0, 1, 0, 0, 0, 0), (.getfield 246, 3, 11, 29, 152, 0)] [] (pc2 := 130) (ls2 := [some (.ref 54), some (.int x1), some (.int v236)]) (st2 := [.int (r237 29), .ref 66, .ref 64, .ref 54]) (M2 := mrow (mrow (mrow (mrow (mrow M 54 (upd r237 30 (r237 29))) 55 r212) 63 r226) 64 r227) 65 r246) (Ps := []) (by decide +kernel) rfl rfl trivial ?_
              obtain ⟨k249, hk⟩ := hk
              refine G.eq (st' := [.int (nI (ix (r237 29))), .ref 66, .ref 64, .ref 54]) ?_ rfl (by rw [← (show r237 29 = nI (ix (r237 29)) from (ixE k241))]) rfl
              rcases g250 : k_copies_L150_L150 r227 (M.1 66) (ix (r237 29)) with ⟨u251, r252⟩
              have t253 : GM z mX12_copies (d + 80) [.ref 54, .ref 64, .ref 66, .int (nI (ix (r237 29)))] (mrow (mrow (mrow (mrow (mrow M 54 (upd r237 30 (r237 29))) 55 r212) 63 r226) 64 r227) 65 r246) (fun rs => rs = .inl (none, mrow (mrow (mrow (mrow (mrow (mrow M 54 (upd r237 30 (r237 29))) 55 r212) 63 r226) 64 r227) 65 r246) 66 r252)) := by
                have q9 := c_k_copies_L150_L150_54_64_66 z (d + 80) (mrow (mrow (mrow (mrow (mrow M 54 (upd r237 30 (r237 29))) 55 r212) 63 r226) 64 r227) 65 r246) (ix (r237 29)) k242 k249
                try simp only [mput, mrow_same, mrow_hit, mrow_miss, mrow_sw, idr_eq, ne_eq, Nat.reduceEqDiff, not_false_eq_true, Nat.reduceLT, reduceCtorEq, g250] at q9
                exact q9
              refine G.callV (as := [.ref 64, .ref 66, .int (nI (ix (r237 29)))]) (rest := []) (a := 54) oX12_copies lk_EvenFindersModel_168 (by decide +kernel) rfl rfl ⟨rfl, rfl⟩ (Nat.le_of_ble_eq_true rfl) rfl ⟨Nat.le_of_ble_eq_true rfl, Nat.le_of_ble_eq_true rfl⟩ t253 (fun v9 N9 h254 => ?_) (fun E9 N9 h254 => by cases h254)
              cases h254
              show G z mX12_law (d + 81) 0 0 133 [some (.ref 54), some (.int x1), some (.int v236)] [] (mrow (mrow (mrow (mrow (mrow (mrow M 54 (upd r237 30 (r237 29))) 55 r212) 63 r226) 64 r227) 65 r246) 66 r252) Q
              refine G.sl [(.iload_n 2, 1, 2, 0, 0, 0)] [] (pc2 := 134) (ls2 := [some (.ref 54), some (.int x1), some (.int v236)]) (st2 := [.int v236]) (M2 := mrow (mrow (mrow (mrow (mrow (mrow M 54 (upd r237 30 (r237 29))) 55 r212) 63 r226) 64 r227) 65 r246) 66 r252) (Ps := []) (by decide +kernel) rfl rfl trivial ?_
              exact G.reti (by decide +kernel) rfl rfl (Nat.le_of_ble_eq_true rfl) (Nat.le_of_ble_eq_true rfl) ((by rw [hQ]; simp only [k_law, if_neg c1, if_neg c104, if_pos c207, g209, if_neg c215, g217, g223, if_pos c233, g235, if_pos c240, g244, g250, mrow_self]))
            · skip
              rw [if_neg c240] at hk
              refine G.sl [(.iload_n 2, 1, 2, 0, 0, 0)] [] (pc2 := 92) (ls2 := [some (.ref 54), some (.int x1), some (.int v236)]) (st2 := [.int v236]) (M2 := mrow (mrow (mrow (mrow M 54 r237) 55 r212) 63 r226) 64 r227) (Ps := []) (by decide +kernel) rfl rfl trivial ?_
              refine G.mem (M' := mrow (mrow (mrow (mrow (mrow (mrow M 54 r237) 55 r212) 63 r226) 64 r227) 65 (M.1 65)) 66 (M.1 66)) ((((mrow_id (N := mrow (mrow (mrow (mrow M 54 r237) 55 r212) 63 r226) 64 r227) (c := 65) (f := M.1 65) (by first | rfl | (simp only [mput, mrow_same, mrow_hit, mrow_miss, mrow_sw, idr_eq, ne_eq, Nat.reduceEqDiff, not_false_eq_true, Nat.reduceLT, reduceCtorEq]; done))).symm).trans (mrow_id (N := mrow (mrow (mrow (mrow (mrow M 54 r237) 55 r212) 63 r226) 64 r227) 65 (M.1 65)) (c := 66) (f := M.1 66) (by first | rfl | (simp only [mput, mrow_same, mrow_hit, mrow_miss, mrow_sw, idr_eq, ne_eq, Nat.reduceEqDiff, not_false_eq_true, Nat.reduceLT, reduceCtorEq]; done))).symm).trans (by first | rfl | (simp only [mput, mrow_same, mrow_hit, mrow_miss, mrow_sw, idr_eq, ne_eq, Nat.reduceEqDiff, not_false_eq_true, Nat.reduceLT, reduceCtorEq]; done))) ?_
              exact G.reti (by decide +kernel) rfl rfl (Nat.le_of_ble_eq_true rfl) (Nat.le_of_ble_eq_true rfl) ((by rw [hQ]; simp only [k_law, if_neg c1, if_neg c104, if_pos c207, g209, if_neg c215, g217, g223, if_pos c233, g235, if_neg c240, mrow_self]))
          · skip
            rw [if_neg c233] at hk
            refine G.sl [(.aload_n 0, 1, 0, 0, 0, 0)] [] (pc2 := 62) (ls2 := [some (.ref 54), some (.int x1), none]) (st2 := [.ref 54]) (M2 := mrow (mrow (mrow (mrow M 54 r225) 55 r212) 63 r226) 64 r227) (Ps := []) (by decide +kernel) rfl rfl trivial ?_
            obtain ⟨k255, hk⟩ := hk
            rcases g256 : k_isMore r225 (M.1 56) with ⟨v257, r258⟩
            try simp only [g256] at hk
            have ev257 : v257 = 0 ∨ v257 = 1 := by
              have q9 := k_isMore_01 r225 (M.1 56)
              rw [g256] at q9
              exact q9
            have t259 : GM z mX12_isMore (d + 80) [.ref 54] (mrow (mrow (mrow (mrow M 54 r225) 55 r212) 63 r226) 64 r227) (fun rs => rs = .inl (some (.int v257), mrow (mrow (mrow (mrow M 54 r258) 55 r212) 63 r226) 64 r227)) := by
              have q9 := c_k_isMore_54 z (d + 79) (mrow (mrow (mrow (mrow M 54 r225) 55 r212) 63 r226) 64 r227) k255
              try simp only [mput, mrow_same, mrow_hit, mrow_miss, mrow_sw, idr_eq, ne_eq, Nat.reduceEqDiff, not_false_eq_true, Nat.reduceLT, reduceCtorEq, g256] at q9
              exact q9
            refine G.callV (as := []) (rest := []) (a := 54) oX12_isMore lk_EvenFindersModel_221 (by decide +kernel) rfl rfl ⟨rfl, rfl⟩ (Nat.le_of_ble_eq_true rfl) rfl ⟨Nat.le_of_ble_eq_true rfl, Nat.le_of_ble_eq_true rfl⟩ t259 (fun v9 N9 h260 => ?_) (fun E9 N9 h260 => by cases h260)
            cases h260
            show G z mX12_law (d + 81) 0 0 65 [some (.ref 54), some (.int x1), none] [.int v257] (mrow (mrow (mrow (mrow M 54 r258) 55 r212) 63 r226) 64 r227) Q
            refine G.if_eq (off := (12)) (tgt := 77) (by decide +kernel) rfl (fun c261 => ?_) (fun c261 => ?_)
            · skip
              rw [if_pos c261] at hk
              refine G.sl [(.aload_n 0, 1, 0, 0, 0, 0), (.iconst 1, 1, 0, 0, 0, nI 1)] [] (pc2 := 79) (ls2 := [some (.ref 54), some (.int x1), none]) (st2 := [.int (nI 1), .ref 54]) (M2 := mrow (mrow (mrow (mrow M 54 r258) 55 r212) 63 r226) 64 r227) (Ps := []) (by decide +kernel) rfl rfl trivial ?_
              obtain ⟨k262, hk⟩ := hk
              rcases g263 : k_result r258 (nI 1) with ⟨v264, r265⟩
              try simp only [g263] at hk
              have t266 : GM z mX12_result (d + 80) [.ref 54, .int (nI 1)] (mrow (mrow (mrow (mrow M 54 r258) 55 r212) 63 r226) 64 r227) (fun rs => rs = .inl (some (.int v264), mrow (mrow (mrow (mrow M 54 r265) 55 r212) 63 r226) 64 r227)) := by
                have q9 := c_k_result_54 z (d + 79) (mrow (mrow (mrow (mrow M 54 r258) 55 r212) 63 r226) 64 r227) (nI 1)
                try simp only [mput, mrow_same, mrow_hit, mrow_miss, mrow_sw, idr_eq, ne_eq, Nat.reduceEqDiff, not_false_eq_true, Nat.reduceLT, reduceCtorEq, g263] at q9
                exact q9
              refine G.callV (as := [.int (nI 1)]) (rest := []) (a := 54) oX12_result lk_EvenFindersModel_242 (by decide +kernel) rfl rfl ⟨rfl, rfl⟩ (Nat.le_of_ble_eq_true rfl) rfl ⟨Nat.le_of_ble_eq_true rfl, Nat.le_of_ble_eq_true rfl⟩ t266 (fun v9 N9 h267 => ?_) (fun E9 N9 h267 => by cases h267)
              cases h267
              show G z mX12_law (d + 81) 0 0 82 [some (.ref 54), some (.int x1), none] [.int v264] (mrow (mrow (mrow (mrow M 54 r265) 55 r212) 63 r226) 64 r227) Q
              refine G.sl [(.istore_n 2, 1, 2, 0, 0, 0), (.aload_n 0, 1, 0, 0, 0, 0), (.getfield 101, 3, 11, 5, 128, 0), (.iconst (-1), 1, 0, 0, 0, (-1))] [] (pc2 := 88) (ls2 := [some (.ref 54), some (.int x1), some (.int v264)]) (st2 := [.int ((-1)), .int (r265 5)]) (M2 := mrow (mrow (mrow (mrow M 54 r265) 55 r212) 63 r226) 64 r227) (Ps := []) (by decide +kernel) rfl rfl trivial ?_
              refine G.ic_eq (off := (5)) (tgt := 93) (by decide +kernel) rfl (fun c268 => ?_) (fun c268 => ?_)
              · skip
                rw [if_pos c268] at hk
                refine G.sl [(.aload_n 0, 1, 0, 0, 0, 0), (.aload_n 0, 1, 0, 0, 0, 0), (.getfield 246, 3, 11, 29, 152, 0), (.putfield 172, 3, 11, 30, 153, 0), (.aload_n 0, 1, 0, 0, 0, 0), (.aload_n 0, 1, 0, 0, 0, 0), (.getfield 41, 3, 11, 24, 147, 0), (.aload_n 0, 1, 0, 0, 0, 0), (.getfield 47, 3, 11, 26, 149, 0), (.aload_n 0, 1, 0, 0, 0, 0), (.getfield 246, 3, 11, 29, 152, 0)] [] (pc2 := 114) (ls2 := [some (.ref 54), some (.int x1), some (.int v264)]) (st2 := [.int (r265 29), .ref 65, .ref 63, .ref 54]) (M2 := mput (mrow (mrow (mrow (mrow M 54 r265) 55 r212) 63 r226) 64 r227) 54 30 (r265 29)) (Ps := []) (by decide +kernel) rfl rfl trivial ?_
                refine G.mem (M' := mrow (mrow (mrow (mrow M 54 (upd r265 30 (r265 29))) 55 r212) 63 r226) 64 r227) (by first | rfl | (simp only [mput, mrow_same, mrow_hit, mrow_miss, mrow_sw, idr_eq, ne_eq, Nat.reduceEqDiff, not_false_eq_true, Nat.reduceLT, reduceCtorEq]; done)) ?_
                obtain ⟨k269, k270, hk⟩ := hk
                obtain ⟨k271, hk⟩ := hk
                refine G.eq (st' := [.int (nI (ix (r265 29))), .ref 65, .ref 63, .ref 54]) ?_ rfl (by rw [← (show r265 29 = nI (ix (r265 29)) from (ixE k269))]) rfl
                rcases g272 : k_copies_L150_L150 r226 (M.1 65) (ix (r265 29)) with ⟨u273, r274⟩
                try simp only [g272] at hk
                have t275 : GM z mX12_copies (d + 80) [.ref 54, .ref 63, .ref 65, .int (nI (ix (r265 29)))] (mrow (mrow (mrow (mrow M 54 (upd r265 30 (r265 29))) 55 r212) 63 r226) 64 r227) (fun rs => rs = .inl (none, mrow (mrow (mrow (mrow (mrow M 54 (upd r265 30 (r265 29))) 55 r212) 63 r226) 64 r227) 65 r274)) := by
                  have q9 := c_k_copies_L150_L150_54_63_65 z (d + 80) (mrow (mrow (mrow (mrow M 54 (upd r265 30 (r265 29))) 55 r212) 63 r226) 64 r227) (ix (r265 29)) k270 k271
                  try simp only [mput, mrow_same, mrow_hit, mrow_miss, mrow_sw, idr_eq, ne_eq, Nat.reduceEqDiff, not_false_eq_true, Nat.reduceLT, reduceCtorEq, g272] at q9
                  exact q9
                refine G.callV (as := [.ref 63, .ref 65, .int (nI (ix (r265 29)))]) (rest := []) (a := 54) oX12_copies lk_EvenFindersModel_168 (by decide +kernel) rfl rfl ⟨rfl, rfl⟩ (Nat.le_of_ble_eq_true rfl) rfl ⟨Nat.le_of_ble_eq_true rfl, Nat.le_of_ble_eq_true rfl⟩ t275 (fun v9 N9 h276 => ?_) (fun E9 N9 h276 => by cases h276)
                cases h276
                show G z mX12_law (d + 81) 0 0 117 [some (.ref 54), some (.int x1), some (.int v264)] [] (mrow (mrow (mrow (mrow (mrow M 54 (upd r265 30 (r265 29))) 55 r212) 63 r226) 64 r227) 65 r274) Q
                refine G.sl [(.aload_n 0, 1, 0, 0, 0, 0), (.aload_n 0, 1, 0, 0, 0, 0), (.getfield 44, 3, 11, 25, 148, 0), (.aload_n 0, 1, 0, 0, 0, 0), (.getfield 50, 3, 11, 27, 150, 0), (.aload_n 0, 1, 0, 0, 0, 0), (.getfield 246, 3, 11, 29, 152, 0)] [] (pc2 := 130) (ls2 := [some (.ref 54), some (.int x1), some (.int v264)]) (st2 := [.int (r265 29), .ref 66, .ref 64, .ref 54]) (M2 := mrow (mrow (mrow (mrow (mrow M 54 (upd r265 30 (r265 29))) 55 r212) 63 r226) 64 r227) 65 r274) (Ps := []) (by decide +kernel) rfl rfl trivial ?_
                obtain ⟨k277, hk⟩ := hk
                refine G.eq (st' := [.int (nI (ix (r265 29))), .ref 66, .ref 64, .ref 54]) ?_ rfl (by rw [← (show r265 29 = nI (ix (r265 29)) from (ixE k269))]) rfl
                rcases g278 : k_copies_L150_L150 r227 (M.1 66) (ix (r265 29)) with ⟨u279, r280⟩
                have t281 : GM z mX12_copies (d + 80) [.ref 54, .ref 64, .ref 66, .int (nI (ix (r265 29)))] (mrow (mrow (mrow (mrow (mrow M 54 (upd r265 30 (r265 29))) 55 r212) 63 r226) 64 r227) 65 r274) (fun rs => rs = .inl (none, mrow (mrow (mrow (mrow (mrow (mrow M 54 (upd r265 30 (r265 29))) 55 r212) 63 r226) 64 r227) 65 r274) 66 r280)) := by
                  have q9 := c_k_copies_L150_L150_54_64_66 z (d + 80) (mrow (mrow (mrow (mrow (mrow M 54 (upd r265 30 (r265 29))) 55 r212) 63 r226) 64 r227) 65 r274) (ix (r265 29)) k270 k277
                  try simp only [mput, mrow_same, mrow_hit, mrow_miss, mrow_sw, idr_eq, ne_eq, Nat.reduceEqDiff, not_false_eq_true, Nat.reduceLT, reduceCtorEq, g278] at q9
                  exact q9
                refine G.callV (as := [.ref 64, .ref 66, .int (nI (ix (r265 29)))]) (rest := []) (a := 54) oX12_copies lk_EvenFindersModel_168 (by decide +kernel) rfl rfl ⟨rfl, rfl⟩ (Nat.le_of_ble_eq_true rfl) rfl ⟨Nat.le_of_ble_eq_true rfl, Nat.le_of_ble_eq_true rfl⟩ t281 (fun v9 N9 h282 => ?_) (fun E9 N9 h282 => by cases h282)
                cases h282
                show G z mX12_law (d + 81) 0 0 133 [some (.ref 54), some (.int x1), some (.int v264)] [] (mrow (mrow (mrow (mrow (mrow (mrow M 54 (upd r265 30 (r265 29))) 55 r212) 63 r226) 64 r227) 65 r274) 66 r280) Q
                refine G.sl [(.iload_n 2, 1, 2, 0, 0, 0)] [] (pc2 := 134) (ls2 := [some (.ref 54), some (.int x1), some (.int v264)]) (st2 := [.int v264]) (M2 := mrow (mrow (mrow (mrow (mrow (mrow M 54 (upd r265 30 (r265 29))) 55 r212) 63 r226) 64 r227) 65 r274) 66 r280) (Ps := []) (by decide +kernel) rfl rfl trivial ?_
                exact G.reti (by decide +kernel) rfl rfl (Nat.le_of_ble_eq_true rfl) (Nat.le_of_ble_eq_true rfl) ((by rw [hQ]; simp only [k_law, if_neg c1, if_neg c104, if_pos c207, g209, if_neg c215, g217, g223, if_neg c233, g256, if_pos c261, g263, if_pos c268, g272, g278, mrow_self]))
              · skip
                rw [if_neg c268] at hk
                refine G.sl [(.iload_n 2, 1, 2, 0, 0, 0)] [] (pc2 := 92) (ls2 := [some (.ref 54), some (.int x1), some (.int v264)]) (st2 := [.int v264]) (M2 := mrow (mrow (mrow (mrow M 54 r265) 55 r212) 63 r226) 64 r227) (Ps := []) (by decide +kernel) rfl rfl trivial ?_
                refine G.mem (M' := mrow (mrow (mrow (mrow (mrow (mrow M 54 r265) 55 r212) 63 r226) 64 r227) 65 (M.1 65)) 66 (M.1 66)) ((((mrow_id (N := mrow (mrow (mrow (mrow M 54 r265) 55 r212) 63 r226) 64 r227) (c := 65) (f := M.1 65) (by first | rfl | (simp only [mput, mrow_same, mrow_hit, mrow_miss, mrow_sw, idr_eq, ne_eq, Nat.reduceEqDiff, not_false_eq_true, Nat.reduceLT, reduceCtorEq]; done))).symm).trans (mrow_id (N := mrow (mrow (mrow (mrow (mrow M 54 r265) 55 r212) 63 r226) 64 r227) 65 (M.1 65)) (c := 66) (f := M.1 66) (by first | rfl | (simp only [mput, mrow_same, mrow_hit, mrow_miss, mrow_sw, idr_eq, ne_eq, Nat.reduceEqDiff, not_false_eq_true, Nat.reduceLT, reduceCtorEq]; done))).symm).trans (by first | rfl | (simp only [mput, mrow_same, mrow_hit, mrow_miss, mrow_sw, idr_eq, ne_eq, Nat.reduceEqDiff, not_false_eq_true, Nat.reduceLT, reduceCtorEq]; done))) ?_
                exact G.reti (by decide +kernel) rfl rfl (Nat.le_of_ble_eq_true rfl) (Nat.le_of_ble_eq_true rfl) ((by rw [hQ]; simp only [k_law, if_neg c1, if_neg c104, if_pos c207, g209, if_neg c215, g217, g223, if_neg c233, g256, if_pos c261, g263, if_neg c268, mrow_self]))
            · skip
              rw [if_neg c261] at hk
              refine G.sl [(.aload_n 0, 1, 0, 0, 0, 0), (.iconst 1, 1, 0, 0, 0, nI 1), (.aload_n 0, 1, 0, 0, 0, 0), (.getfield 107, 3, 11, 4, 127, 0)] [] (pc2 := 74) (ls2 := [some (.ref 54), some (.int x1), none]) (st2 := [.int (r258 4), .int (nI 1), .ref 54]) (M2 := mrow (mrow (mrow (mrow M 54 r258) 55 r212) 63 r226) 64 r227) (Ps := []) (by decide +kernel) rfl rfl trivial ?_
              obtain ⟨k283, hk⟩ := hk
              rcases g284 : k_wrong r258 (nI 1) (r258 4) with ⟨u285, r286⟩
              try simp only [g284] at hk
              have t287 : GM z mX12_wrong (d + 80) [.ref 54, .int (nI 1), .int (r258 4)] (mrow (mrow (mrow (mrow M 54 r258) 55 r212) 63 r226) 64 r227) (fun rs => rs = .inl (none, mrow (mrow (mrow (mrow M 54 r286) 55 r212) 63 r226) 64 r227)) := by
                have q9 := c_k_wrong_54 z (d + 80) (mrow (mrow (mrow (mrow M 54 r258) 55 r212) 63 r226) 64 r227) (nI 1) (r258 4)
                try simp only [mput, mrow_same, mrow_hit, mrow_miss, mrow_sw, idr_eq, ne_eq, Nat.reduceEqDiff, not_false_eq_true, Nat.reduceLT, reduceCtorEq, g284] at q9
                exact q9
              refine G.callV (as := [.int (nI 1), .int (r258 4)]) (rest := []) (a := 54) oX12_wrong lk_EvenFindersModel_137 (by decide +kernel) rfl rfl ⟨rfl, rfl⟩ (Nat.le_of_ble_eq_true rfl) rfl ⟨Nat.le_of_ble_eq_true rfl, Nat.le_of_ble_eq_true rfl⟩ t287 (fun v9 N9 h288 => ?_) (fun E9 N9 h288 => by cases h288)
              cases h288
              show G z mX12_law (d + 81) 0 0 77 [some (.ref 54), some (.int x1), none] [] (mrow (mrow (mrow (mrow M 54 r286) 55 r212) 63 r226) 64 r227) Q
              refine G.sl [(.aload_n 0, 1, 0, 0, 0, 0), (.iconst 1, 1, 0, 0, 0, nI 1)] [] (pc2 := 79) (ls2 := [some (.ref 54), some (.int x1), none]) (st2 := [.int (nI 1), .ref 54]) (M2 := mrow (mrow (mrow (mrow M 54 r286) 55 r212) 63 r226) 64 r227) (Ps := []) (by decide +kernel) rfl rfl trivial ?_
              obtain ⟨k289, hk⟩ := hk
              rcases g290 : k_result r286 (nI 1) with ⟨v291, r292⟩
              try simp only [g290] at hk
              have t293 : GM z mX12_result (d + 80) [.ref 54, .int (nI 1)] (mrow (mrow (mrow (mrow M 54 r286) 55 r212) 63 r226) 64 r227) (fun rs => rs = .inl (some (.int v291), mrow (mrow (mrow (mrow M 54 r292) 55 r212) 63 r226) 64 r227)) := by
                have q9 := c_k_result_54 z (d + 79) (mrow (mrow (mrow (mrow M 54 r286) 55 r212) 63 r226) 64 r227) (nI 1)
                try simp only [mput, mrow_same, mrow_hit, mrow_miss, mrow_sw, idr_eq, ne_eq, Nat.reduceEqDiff, not_false_eq_true, Nat.reduceLT, reduceCtorEq, g290] at q9
                exact q9
              refine G.callV (as := [.int (nI 1)]) (rest := []) (a := 54) oX12_result lk_EvenFindersModel_242 (by decide +kernel) rfl rfl ⟨rfl, rfl⟩ (Nat.le_of_ble_eq_true rfl) rfl ⟨Nat.le_of_ble_eq_true rfl, Nat.le_of_ble_eq_true rfl⟩ t293 (fun v9 N9 h294 => ?_) (fun E9 N9 h294 => by cases h294)
              cases h294
              show G z mX12_law (d + 81) 0 0 82 [some (.ref 54), some (.int x1), none] [.int v291] (mrow (mrow (mrow (mrow M 54 r292) 55 r212) 63 r226) 64 r227) Q
              refine G.sl [(.istore_n 2, 1, 2, 0, 0, 0), (.aload_n 0, 1, 0, 0, 0, 0), (.getfield 101, 3, 11, 5, 128, 0), (.iconst (-1), 1, 0, 0, 0, (-1))] [] (pc2 := 88) (ls2 := [some (.ref 54), some (.int x1), some (.int v291)]) (st2 := [.int ((-1)), .int (r292 5)]) (M2 := mrow (mrow (mrow (mrow M 54 r292) 55 r212) 63 r226) 64 r227) (Ps := []) (by decide +kernel) rfl rfl trivial ?_
              refine G.ic_eq (off := (5)) (tgt := 93) (by decide +kernel) rfl (fun c295 => ?_) (fun c295 => ?_)
              · skip
                rw [if_pos c295] at hk
                refine G.sl [(.aload_n 0, 1, 0, 0, 0, 0), (.aload_n 0, 1, 0, 0, 0, 0), (.getfield 246, 3, 11, 29, 152, 0), (.putfield 172, 3, 11, 30, 153, 0), (.aload_n 0, 1, 0, 0, 0, 0), (.aload_n 0, 1, 0, 0, 0, 0), (.getfield 41, 3, 11, 24, 147, 0), (.aload_n 0, 1, 0, 0, 0, 0), (.getfield 47, 3, 11, 26, 149, 0), (.aload_n 0, 1, 0, 0, 0, 0), (.getfield 246, 3, 11, 29, 152, 0)] [] (pc2 := 114) (ls2 := [some (.ref 54), some (.int x1), some (.int v291)]) (st2 := [.int (r292 29), .ref 65, .ref 63, .ref 54]) (M2 := mput (mrow (mrow (mrow (mrow M 54 r292) 55 r212) 63 r226) 64 r227) 54 30 (r292 29)) (Ps := []) (by decide +kernel) rfl rfl trivial ?_
                refine G.mem (M' := mrow (mrow (mrow (mrow M 54 (upd r292 30 (r292 29))) 55 r212) 63 r226) 64 r227) (by first | rfl | (simp only [mput, mrow_same, mrow_hit, mrow_miss, mrow_sw, idr_eq, ne_eq, Nat.reduceEqDiff, not_false_eq_true, Nat.reduceLT, reduceCtorEq]; done)) ?_
                obtain ⟨k296, k297, hk⟩ := hk
                obtain ⟨k298, hk⟩ := hk
                refine G.eq (st' := [.int (nI (ix (r292 29))), .ref 65, .ref 63, .ref 54]) ?_ rfl (by rw [← (show r292 29 = nI (ix (r292 29)) from (ixE k296))]) rfl
                rcases g299 : k_copies_L150_L150 r226 (M.1 65) (ix (r292 29)) with ⟨u300, r301⟩
                try simp only [g299] at hk
                have t302 : GM z mX12_copies (d + 80) [.ref 54, .ref 63, .ref 65, .int (nI (ix (r292 29)))] (mrow (mrow (mrow (mrow M 54 (upd r292 30 (r292 29))) 55 r212) 63 r226) 64 r227) (fun rs => rs = .inl (none, mrow (mrow (mrow (mrow (mrow M 54 (upd r292 30 (r292 29))) 55 r212) 63 r226) 64 r227) 65 r301)) := by
                  have q9 := c_k_copies_L150_L150_54_63_65 z (d + 80) (mrow (mrow (mrow (mrow M 54 (upd r292 30 (r292 29))) 55 r212) 63 r226) 64 r227) (ix (r292 29)) k297 k298
                  try simp only [mput, mrow_same, mrow_hit, mrow_miss, mrow_sw, idr_eq, ne_eq, Nat.reduceEqDiff, not_false_eq_true, Nat.reduceLT, reduceCtorEq, g299] at q9
                  exact q9
                refine G.callV (as := [.ref 63, .ref 65, .int (nI (ix (r292 29)))]) (rest := []) (a := 54) oX12_copies lk_EvenFindersModel_168 (by decide +kernel) rfl rfl ⟨rfl, rfl⟩ (Nat.le_of_ble_eq_true rfl) rfl ⟨Nat.le_of_ble_eq_true rfl, Nat.le_of_ble_eq_true rfl⟩ t302 (fun v9 N9 h303 => ?_) (fun E9 N9 h303 => by cases h303)
                cases h303
                show G z mX12_law (d + 81) 0 0 117 [some (.ref 54), some (.int x1), some (.int v291)] [] (mrow (mrow (mrow (mrow (mrow M 54 (upd r292 30 (r292 29))) 55 r212) 63 r226) 64 r227) 65 r301) Q
                refine G.sl [(.aload_n 0, 1, 0, 0, 0, 0), (.aload_n 0, 1, 0, 0, 0, 0), (.getfield 44, 3, 11, 25, 148, 0), (.aload_n 0, 1, 0, 0, 0, 0), (.getfield 50, 3, 11, 27, 150, 0), (.aload_n 0, 1, 0, 0, 0, 0), (.getfield 246, 3, 11, 29, 152, 0)] [] (pc2 := 130) (ls2 := [some (.ref 54), some (.int x1), some (.int v291)]) (st2 := [.int (r292 29), .ref 66, .ref 64, .ref 54]) (M2 := mrow (mrow (mrow (mrow (mrow M 54 (upd r292 30 (r292 29))) 55 r212) 63 r226) 64 r227) 65 r301) (Ps := []) (by decide +kernel) rfl rfl trivial ?_
                obtain ⟨k304, hk⟩ := hk
                refine G.eq (st' := [.int (nI (ix (r292 29))), .ref 66, .ref 64, .ref 54]) ?_ rfl (by rw [← (show r292 29 = nI (ix (r292 29)) from (ixE k296))]) rfl
                rcases g305 : k_copies_L150_L150 r227 (M.1 66) (ix (r292 29)) with ⟨u306, r307⟩
                have t308 : GM z mX12_copies (d + 80) [.ref 54, .ref 64, .ref 66, .int (nI (ix (r292 29)))] (mrow (mrow (mrow (mrow (mrow M 54 (upd r292 30 (r292 29))) 55 r212) 63 r226) 64 r227) 65 r301) (fun rs => rs = .inl (none, mrow (mrow (mrow (mrow (mrow (mrow M 54 (upd r292 30 (r292 29))) 55 r212) 63 r226) 64 r227) 65 r301) 66 r307)) := by
                  have q9 := c_k_copies_L150_L150_54_64_66 z (d + 80) (mrow (mrow (mrow (mrow (mrow M 54 (upd r292 30 (r292 29))) 55 r212) 63 r226) 64 r227) 65 r301) (ix (r292 29)) k297 k304
                  try simp only [mput, mrow_same, mrow_hit, mrow_miss, mrow_sw, idr_eq, ne_eq, Nat.reduceEqDiff, not_false_eq_true, Nat.reduceLT, reduceCtorEq, g305] at q9
                  exact q9
                refine G.callV (as := [.ref 64, .ref 66, .int (nI (ix (r292 29)))]) (rest := []) (a := 54) oX12_copies lk_EvenFindersModel_168 (by decide +kernel) rfl rfl ⟨rfl, rfl⟩ (Nat.le_of_ble_eq_true rfl) rfl ⟨Nat.le_of_ble_eq_true rfl, Nat.le_of_ble_eq_true rfl⟩ t308 (fun v9 N9 h309 => ?_) (fun E9 N9 h309 => by cases h309)
                cases h309
                show G z mX12_law (d + 81) 0 0 133 [some (.ref 54), some (.int x1), some (.int v291)] [] (mrow (mrow (mrow (mrow (mrow (mrow M 54 (upd r292 30 (r292 29))) 55 r212) 63 r226) 64 r227) 65 r301) 66 r307) Q
                refine G.sl [(.iload_n 2, 1, 2, 0, 0, 0)] [] (pc2 := 134) (ls2 := [some (.ref 54), some (.int x1), some (.int v291)]) (st2 := [.int v291]) (M2 := mrow (mrow (mrow (mrow (mrow (mrow M 54 (upd r292 30 (r292 29))) 55 r212) 63 r226) 64 r227) 65 r301) 66 r307) (Ps := []) (by decide +kernel) rfl rfl trivial ?_
                exact G.reti (by decide +kernel) rfl rfl (Nat.le_of_ble_eq_true rfl) (Nat.le_of_ble_eq_true rfl) ((by rw [hQ]; simp only [k_law, if_neg c1, if_neg c104, if_pos c207, g209, if_neg c215, g217, g223, if_neg c233, g256, if_neg c261, g284, g290, if_pos c295, g299, g305, mrow_self]))
              · skip
                rw [if_neg c295] at hk
                refine G.sl [(.iload_n 2, 1, 2, 0, 0, 0)] [] (pc2 := 92) (ls2 := [some (.ref 54), some (.int x1), some (.int v291)]) (st2 := [.int v291]) (M2 := mrow (mrow (mrow (mrow M 54 r292) 55 r212) 63 r226) 64 r227) (Ps := []) (by decide +kernel) rfl rfl trivial ?_
                refine G.mem (M' := mrow (mrow (mrow (mrow (mrow (mrow M 54 r292) 55 r212) 63 r226) 64 r227) 65 (M.1 65)) 66 (M.1 66)) ((((mrow_id (N := mrow (mrow (mrow (mrow M 54 r292) 55 r212) 63 r226) 64 r227) (c := 65) (f := M.1 65) (by first | rfl | (simp only [mput, mrow_same, mrow_hit, mrow_miss, mrow_sw, idr_eq, ne_eq, Nat.reduceEqDiff, not_false_eq_true, Nat.reduceLT, reduceCtorEq]; done))).symm).trans (mrow_id (N := mrow (mrow (mrow (mrow (mrow M 54 r292) 55 r212) 63 r226) 64 r227) 65 (M.1 65)) (c := 66) (f := M.1 66) (by first | rfl | (simp only [mput, mrow_same, mrow_hit, mrow_miss, mrow_sw, idr_eq, ne_eq, Nat.reduceEqDiff, not_false_eq_true, Nat.reduceLT, reduceCtorEq]; done))).symm).trans (by first | rfl | (simp only [mput, mrow_same, mrow_hit, mrow_miss, mrow_sw, idr_eq, ne_eq, Nat.reduceEqDiff, not_false_eq_true, Nat.reduceLT, reduceCtorEq]; done))) ?_
                exact G.reti (by decide +kernel) rfl rfl (Nat.le_of_ble_eq_true rfl) (Nat.le_of_ble_eq_true rfl) ((by rw [hQ]; simp only [k_law, if_neg c1, if_neg c104, if_pos c207, g209, if_neg c215, g217, g223, if_neg c233, g256, if_neg c261, g284, g290, if_neg c295, mrow_self]))
        · skip
          rw [if_pos c215] at hk
          refine G.sl [(.iconst 0, 1, 0, 0, 0, nI 0)] [] (pc2 := 39) (ls2 := [some (.ref 54), some (.int x1), none]) (st2 := [.int (nI 0)]) (M2 := mrow (mrow M 54 r211) 55 r212) (Ps := []) (by decide +kernel) rfl rfl trivial ?_
          refine G.mem (M' := mrow (mrow (mrow (mrow (mrow (mrow M 54 r211) 55 r212) 63 (M.1 63)) 64 (M.1 64)) 65 (M.1 65)) 66 (M.1 66)) ((((((mrow_id (N := mrow (mrow M 54 r211) 55 r212) (c := 63) (f := M.1 63) (by first | rfl | (simp only [mput, mrow_same, mrow_hit, mrow_miss, mrow_sw, idr_eq, ne_eq, Nat.reduceEqDiff, not_false_eq_true, Nat.reduceLT, reduceCtorEq]; done))).symm).trans (mrow_id (N := mrow (mrow (mrow M 54 r211) 55 r212) 63 (M.1 63)) (c := 64) (f := M.1 64) (by first | rfl | (simp only [mput, mrow_same, mrow_hit, mrow_miss, mrow_sw, idr_eq, ne_eq, Nat.reduceEqDiff, not_false_eq_true, Nat.reduceLT, reduceCtorEq]; done))).symm).trans (mrow_id (N := mrow (mrow (mrow (mrow M 54 r211) 55 r212) 63 (M.1 63)) 64 (M.1 64)) (c := 65) (f := M.1 65) (by first | rfl | (simp only [mput, mrow_same, mrow_hit, mrow_miss, mrow_sw, idr_eq, ne_eq, Nat.reduceEqDiff, not_false_eq_true, Nat.reduceLT, reduceCtorEq]; done))).symm).trans (mrow_id (N := mrow (mrow (mrow (mrow (mrow M 54 r211) 55 r212) 63 (M.1 63)) 64 (M.1 64)) 65 (M.1 65)) (c := 66) (f := M.1 66) (by first | rfl | (simp only [mput, mrow_same, mrow_hit, mrow_miss, mrow_sw, idr_eq, ne_eq, Nat.reduceEqDiff, not_false_eq_true, Nat.reduceLT, reduceCtorEq]; done))).symm).trans (by first | rfl | (simp only [mput, mrow_same, mrow_hit, mrow_miss, mrow_sw, idr_eq, ne_eq, Nat.reduceEqDiff, not_false_eq_true, Nat.reduceLT, reduceCtorEq]; done))) ?_
          exact G.reti (by decide +kernel) rfl rfl (Nat.le_of_ble_eq_true rfl) (Nat.le_of_ble_eq_true rfl) ((by rw [hQ]; simp only [k_law, if_neg c1, if_neg c104, if_pos c207, g209, if_pos c215, mrow_self]))
      · skip
        rw [if_neg c207] at hk
        refine G.sl [(.iconst 1, 1, 0, 0, 0, nI 1), (.goto 4, 3, 30, 0, 0, 0), (.iconst 1, 1, 0, 0, 0, nI 1), (.iconst 1, 1, 0, 0, 0, nI 1)] [] (pc2 := 32) (ls2 := [some (.ref 54), some (.int x1), none]) (st2 := [.int (nI 1), .int (nI 1), .int (nI 1), .ref 54]) (M2 := mrow M 54 (upd (M.1 54) 0 (nI 0))) (Ps := []) (by decide +kernel) rfl rfl trivial ?_
        obtain ⟨k310, hk⟩ := hk
        rcases g311 : k_may_1 (upd (M.1 54) 0 (nI 0)) (M.1 55) (nI 1) (nI 1) with ⟨v312, r313, r314⟩
        try simp only [g311] at hk
        have ev312 : v312 = 0 ∨ v312 = 1 := by
          have q9 := k_may_1_01 (upd (M.1 54) 0 (nI 0)) (M.1 55) (nI 1) (nI 1)
          rw [g311] at q9
          exact q9
        have t315 : GM z mX12_may (d + 80) [.ref 54, .int (nI 1), .int (nI 1), .int (nI 1)] (mrow M 54 (upd (M.1 54) 0 (nI 0))) (fun rs => rs = .inl (some (.int v312), mrow (mrow M 54 r313) 55 r314)) := by
          have q9 := c_k_may_1_54 z (d + 80) (mrow M 54 (upd (M.1 54) 0 (nI 0))) (nI 1) (nI 1)
          try simp only [mput, mrow_same, mrow_hit, mrow_miss, mrow_sw, idr_eq, ne_eq, Nat.reduceEqDiff, not_false_eq_true, Nat.reduceLT, reduceCtorEq, g311] at q9
          exact q9
        refine G.callV (as := [.int (nI 1), .int (nI 1), .int (nI 1)]) (rest := []) (a := 54) oX12_may lk_EvenFindersModel_213 (by decide +kernel) rfl rfl ⟨rfl, rfl⟩ (Nat.le_of_ble_eq_true rfl) rfl ⟨Nat.le_of_ble_eq_true rfl, Nat.le_of_ble_eq_true rfl⟩ t315 (fun v9 N9 h316 => ?_) (fun E9 N9 h316 => by cases h316)
        cases h316
        show G z mX12_law (d + 81) 0 0 35 [some (.ref 54), some (.int x1), none] [.int v312] (mrow (mrow M 54 r313) 55 r314) Q
        refine G.if_ne (off := (5)) (tgt := 40) (by decide +kernel) rfl (fun c317 => ?_) (fun c317 => ?_)
        · skip
          rw [if_neg c317] at hk
          refine G.sl [(.aload_n 0, 1, 0, 0, 0, 0), (.iload_n 1, 1, 1, 0, 0, 0)] [] (pc2 := 42) (ls2 := [some (.ref 54), some (.int x1), none]) (st2 := [.int x1, .ref 54]) (M2 := mrow (mrow M 54 r313) 55 r314) (Ps := []) (by decide +kernel) rfl rfl trivial ?_
          obtain ⟨k318, hk⟩ := hk
          rcases g319 : k_begins r313 x1 with ⟨u320, r321⟩
          try simp only [g319] at hk
          have t322 : GM z mX12_begins (d + 80) [.ref 54, .int x1] (mrow (mrow M 54 r313) 55 r314) (fun rs => rs = .inl (none, mrow (mrow M 54 r321) 55 r314)) := by
            have q9 := c_k_begins_54 z (d + 80) (mrow (mrow M 54 r313) 55 r314) x1
            try simp only [mput, mrow_same, mrow_hit, mrow_miss, mrow_sw, idr_eq, ne_eq, Nat.reduceEqDiff, not_false_eq_true, Nat.reduceLT, reduceCtorEq, g319] at q9
            exact q9
          refine G.callV (as := [.int x1]) (rest := []) (a := 54) oX12_begins lk_EvenFindersModel_217 (by decide +kernel) rfl rfl ⟨rfl, rfl⟩ (Nat.le_of_ble_eq_true rfl) rfl ⟨Nat.le_of_ble_eq_true rfl, Nat.le_of_ble_eq_true rfl⟩ t322 (fun v9 N9 h323 => ?_) (fun E9 N9 h323 => by cases h323)
          cases h323
          show G z mX12_law (d + 81) 0 0 45 [some (.ref 54), some (.int x1), none] [] (mrow (mrow M 54 r321) 55 r314) Q
          refine G.sl [(.aload_n 0, 1, 0, 0, 0, 0), (.iconst 0, 1, 0, 0, 0, nI 0), (.putfield 246, 3, 11, 29, 152, 0), (.aload_n 0, 1, 0, 0, 0, 0)] [] (pc2 := 51) (ls2 := [some (.ref 54), some (.int x1), none]) (st2 := [.ref 54]) (M2 := mput (mrow (mrow M 54 r321) 55 r314) 54 29 (nI 0)) (Ps := []) (by decide +kernel) rfl rfl trivial ?_
          refine G.mem (M' := mrow (mrow M 54 (upd r321 29 (nI 0))) 55 r314) (by first | rfl | (simp only [mput, mrow_same, mrow_hit, mrow_miss, mrow_sw, idr_eq, ne_eq, Nat.reduceEqDiff, not_false_eq_true, Nat.reduceLT, reduceCtorEq]; done)) ?_
          obtain ⟨k324, hk⟩ := hk
          rcases g325 : k_readSum (upd r321 29 (nI 0)) (M.1 56) (M.1 63) (M.1 64) with ⟨u326, r327, r328, r329⟩
          try simp only [g325] at hk
          have t330 : GM z mX12_readSum (d + 80) [.ref 54] (mrow (mrow M 54 (upd r321 29 (nI 0))) 55 r314) (fun rs => rs = .inl (none, mrow (mrow (mrow (mrow M 54 r327) 55 r314) 63 r328) 64 r329)) := by
            have q9 := c_k_readSum_54 z d (mrow (mrow M 54 (upd r321 29 (nI 0))) 55 r314) k324
            try simp only [mput, mrow_same, mrow_hit, mrow_miss, mrow_sw, idr_eq, ne_eq, Nat.reduceEqDiff, not_false_eq_true, Nat.reduceLT, reduceCtorEq, g325] at q9
            exact q9
          refine G.callV (as := []) (rest := []) (a := 54) oX12_readSum lk_EvenFindersModel_261 (by decide +kernel) rfl rfl ⟨rfl, rfl⟩ (Nat.le_of_ble_eq_true rfl) rfl ⟨Nat.le_of_ble_eq_true rfl, Nat.le_of_ble_eq_true rfl⟩ t330 (fun v9 N9 h331 => ?_) (fun E9 N9 h331 => by cases h331)
          cases h331
          show G z mX12_law (d + 81) 0 0 54 [some (.ref 54), some (.int x1), none] [] (mrow (mrow (mrow (mrow M 54 r327) 55 r314) 63 r328) 64 r329) Q
          refine G.sl [(.aload_n 0, 1, 0, 0, 0, 0)] [] (pc2 := 55) (ls2 := [some (.ref 54), some (.int x1), none]) (st2 := [.ref 54]) (M2 := mrow (mrow (mrow (mrow M 54 r327) 55 r314) 63 r328) 64 r329) (Ps := []) (by decide +kernel) rfl rfl trivial ?_
          obtain ⟨k332, hk⟩ := hk
          have t333 : GM z mX12_fine (d + 80) [.ref 54] (mrow (mrow (mrow (mrow M 54 r327) 55 r314) 63 r328) 64 r329) (fun rs => rs = .inl (some (.int (k_fine r327)), mrow (mrow (mrow (mrow M 54 r327) 55 r314) 63 r328) 64 r329)) := by
            have q9 := c_k_fine_54 z (d + 80) (mrow (mrow (mrow (mrow M 54 r327) 55 r314) 63 r328) 64 r329) 
            try simp only [mput, mrow_same, mrow_hit, mrow_miss, mrow_sw, idr_eq, ne_eq, Nat.reduceEqDiff, not_false_eq_true, Nat.reduceLT, reduceCtorEq] at q9
            exact q9
          refine G.callV (as := []) (rest := []) (a := 54) oX12_fine lk_EvenFindersModel_130 (by decide +kernel) rfl rfl ⟨rfl, rfl⟩ (Nat.le_of_ble_eq_true rfl) rfl ⟨Nat.le_of_ble_eq_true rfl, Nat.le_of_ble_eq_true rfl⟩ t333 (fun v9 N9 h334 => ?_) (fun E9 N9 h334 => by cases h334)
          cases h334
          show G z mX12_law (d + 81) 0 0 58 [some (.ref 54), some (.int x1), none] [.int (k_fine r327)] (mrow (mrow (mrow (mrow M 54 r327) 55 r314) 63 r328) 64 r329) Q
          refine G.if_eq (off := (19)) (tgt := 77) (by decide +kernel) rfl (fun c335 => ?_) (fun c335 => ?_)
          · skip
            rw [if_pos c335] at hk
            refine G.sl [(.aload_n 0, 1, 0, 0, 0, 0), (.iconst 1, 1, 0, 0, 0, nI 1)] [] (pc2 := 79) (ls2 := [some (.ref 54), some (.int x1), none]) (st2 := [.int (nI 1), .ref 54]) (M2 := mrow (mrow (mrow (mrow M 54 r327) 55 r314) 63 r328) 64 r329) (Ps := []) (by decide +kernel) rfl rfl trivial ?_
            obtain ⟨k336, hk⟩ := hk
            rcases g337 : k_result r327 (nI 1) with ⟨v338, r339⟩
            try simp only [g337] at hk
            have t340 : GM z mX12_result (d + 80) [.ref 54, .int (nI 1)] (mrow (mrow (mrow (mrow M 54 r327) 55 r314) 63 r328) 64 r329) (fun rs => rs = .inl (some (.int v338), mrow (mrow (mrow (mrow M 54 r339) 55 r314) 63 r328) 64 r329)) := by
              have q9 := c_k_result_54 z (d + 79) (mrow (mrow (mrow (mrow M 54 r327) 55 r314) 63 r328) 64 r329) (nI 1)
              try simp only [mput, mrow_same, mrow_hit, mrow_miss, mrow_sw, idr_eq, ne_eq, Nat.reduceEqDiff, not_false_eq_true, Nat.reduceLT, reduceCtorEq, g337] at q9
              exact q9
            refine G.callV (as := [.int (nI 1)]) (rest := []) (a := 54) oX12_result lk_EvenFindersModel_242 (by decide +kernel) rfl rfl ⟨rfl, rfl⟩ (Nat.le_of_ble_eq_true rfl) rfl ⟨Nat.le_of_ble_eq_true rfl, Nat.le_of_ble_eq_true rfl⟩ t340 (fun v9 N9 h341 => ?_) (fun E9 N9 h341 => by cases h341)
            cases h341
            show G z mX12_law (d + 81) 0 0 82 [some (.ref 54), some (.int x1), none] [.int v338] (mrow (mrow (mrow (mrow M 54 r339) 55 r314) 63 r328) 64 r329) Q
            refine G.sl [(.istore_n 2, 1, 2, 0, 0, 0), (.aload_n 0, 1, 0, 0, 0, 0), (.getfield 101, 3, 11, 5, 128, 0), (.iconst (-1), 1, 0, 0, 0, (-1))] [] (pc2 := 88) (ls2 := [some (.ref 54), some (.int x1), some (.int v338)]) (st2 := [.int ((-1)), .int (r339 5)]) (M2 := mrow (mrow (mrow (mrow M 54 r339) 55 r314) 63 r328) 64 r329) (Ps := []) (by decide +kernel) rfl rfl trivial ?_
            refine G.ic_eq (off := (5)) (tgt := 93) (by decide +kernel) rfl (fun c342 => ?_) (fun c342 => ?_)
            · skip
              rw [if_pos c342] at hk
              refine G.sl [(.aload_n 0, 1, 0, 0, 0, 0), (.aload_n 0, 1, 0, 0, 0, 0), (.getfield 246, 3, 11, 29, 152, 0), (.putfield 172, 3, 11, 30, 153, 0), (.aload_n 0, 1, 0, 0, 0, 0), (.aload_n 0, 1, 0, 0, 0, 0), (.getfield 41, 3, 11, 24, 147, 0), (.aload_n 0, 1, 0, 0, 0, 0), (.getfield 47, 3, 11, 26, 149, 0), (.aload_n 0, 1, 0, 0, 0, 0), (.getfield 246, 3, 11, 29, 152, 0)] [] (pc2 := 114) (ls2 := [some (.ref 54), some (.int x1), some (.int v338)]) (st2 := [.int (r339 29), .ref 65, .ref 63, .ref 54]) (M2 := mput (mrow (mrow (mrow (mrow M 54 r339) 55 r314) 63 r328) 64 r329) 54 30 (r339 29)) (Ps := []) (by decide +kernel) rfl rfl trivial ?_
              refine G.mem (M' := mrow (mrow (mrow (mrow M 54 (upd r339 30 (r339 29))) 55 r314) 63 r328) 64 r329) (by first | rfl | (simp only [mput, mrow_same, mrow_hit, mrow_miss, mrow_sw, idr_eq, ne_eq, Nat.reduceEqDiff, not_false_eq_true, Nat.reduceLT, reduceCtorEq]; done)) ?_
              obtain ⟨k343, k344, hk⟩ := hk
              obtain ⟨k345, hk⟩ := hk
              refine G.eq (st' := [.int (nI (ix (r339 29))), .ref 65, .ref 63, .ref 54]) ?_ rfl (by rw [← (show r339 29 = nI (ix (r339 29)) from (ixE k343))]) rfl
              rcases g346 : k_copies_L150_L150 r328 (M.1 65) (ix (r339 29)) with ⟨u347, r348⟩
              try simp only [g346] at hk
              have t349 : GM z mX12_copies (d + 80) [.ref 54, .ref 63, .ref 65, .int (nI (ix (r339 29)))] (mrow (mrow (mrow (mrow M 54 (upd r339 30 (r339 29))) 55 r314) 63 r328) 64 r329) (fun rs => rs = .inl (none, mrow (mrow (mrow (mrow (mrow M 54 (upd r339 30 (r339 29))) 55 r314) 63 r328) 64 r329) 65 r348)) := by
                have q9 := c_k_copies_L150_L150_54_63_65 z (d + 80) (mrow (mrow (mrow (mrow M 54 (upd r339 30 (r339 29))) 55 r314) 63 r328) 64 r329) (ix (r339 29)) k344 k345
                try simp only [mput, mrow_same, mrow_hit, mrow_miss, mrow_sw, idr_eq, ne_eq, Nat.reduceEqDiff, not_false_eq_true, Nat.reduceLT, reduceCtorEq, g346] at q9
                exact q9
              refine G.callV (as := [.ref 63, .ref 65, .int (nI (ix (r339 29)))]) (rest := []) (a := 54) oX12_copies lk_EvenFindersModel_168 (by decide +kernel) rfl rfl ⟨rfl, rfl⟩ (Nat.le_of_ble_eq_true rfl) rfl ⟨Nat.le_of_ble_eq_true rfl, Nat.le_of_ble_eq_true rfl⟩ t349 (fun v9 N9 h350 => ?_) (fun E9 N9 h350 => by cases h350)
              cases h350
              show G z mX12_law (d + 81) 0 0 117 [some (.ref 54), some (.int x1), some (.int v338)] [] (mrow (mrow (mrow (mrow (mrow M 54 (upd r339 30 (r339 29))) 55 r314) 63 r328) 64 r329) 65 r348) Q
              refine G.sl [(.aload_n 0, 1, 0, 0, 0, 0), (.aload_n 0, 1, 0, 0, 0, 0), (.getfield 44, 3, 11, 25, 148, 0), (.aload_n 0, 1, 0, 0, 0, 0), (.getfield 50, 3, 11, 27, 150, 0), (.aload_n 0, 1, 0, 0, 0, 0), (.getfield 246, 3, 11, 29, 152, 0)] [] (pc2 := 130) (ls2 := [some (.ref 54), some (.int x1), some (.int v338)]) (st2 := [.int (r339 29), .ref 66, .ref 64, .ref 54]) (M2 := mrow (mrow (mrow (mrow (mrow M 54 (upd r339 30 (r339 29))) 55 r314) 63 r328) 64 r329) 65 r348) (Ps := []) (by decide +kernel) rfl rfl trivial ?_
              obtain ⟨k351, hk⟩ := hk
              refine G.eq (st' := [.int (nI (ix (r339 29))), .ref 66, .ref 64, .ref 54]) ?_ rfl (by rw [← (show r339 29 = nI (ix (r339 29)) from (ixE k343))]) rfl
              rcases g352 : k_copies_L150_L150 r329 (M.1 66) (ix (r339 29)) with ⟨u353, r354⟩
              have t355 : GM z mX12_copies (d + 80) [.ref 54, .ref 64, .ref 66, .int (nI (ix (r339 29)))] (mrow (mrow (mrow (mrow (mrow M 54 (upd r339 30 (r339 29))) 55 r314) 63 r328) 64 r329) 65 r348) (fun rs => rs = .inl (none, mrow (mrow (mrow (mrow (mrow (mrow M 54 (upd r339 30 (r339 29))) 55 r314) 63 r328) 64 r329) 65 r348) 66 r354)) := by
                have q9 := c_k_copies_L150_L150_54_64_66 z (d + 80) (mrow (mrow (mrow (mrow (mrow M 54 (upd r339 30 (r339 29))) 55 r314) 63 r328) 64 r329) 65 r348) (ix (r339 29)) k344 k351
                try simp only [mput, mrow_same, mrow_hit, mrow_miss, mrow_sw, idr_eq, ne_eq, Nat.reduceEqDiff, not_false_eq_true, Nat.reduceLT, reduceCtorEq, g352] at q9
                exact q9
              refine G.callV (as := [.ref 64, .ref 66, .int (nI (ix (r339 29)))]) (rest := []) (a := 54) oX12_copies lk_EvenFindersModel_168 (by decide +kernel) rfl rfl ⟨rfl, rfl⟩ (Nat.le_of_ble_eq_true rfl) rfl ⟨Nat.le_of_ble_eq_true rfl, Nat.le_of_ble_eq_true rfl⟩ t355 (fun v9 N9 h356 => ?_) (fun E9 N9 h356 => by cases h356)
              cases h356
              show G z mX12_law (d + 81) 0 0 133 [some (.ref 54), some (.int x1), some (.int v338)] [] (mrow (mrow (mrow (mrow (mrow (mrow M 54 (upd r339 30 (r339 29))) 55 r314) 63 r328) 64 r329) 65 r348) 66 r354) Q
              refine G.sl [(.iload_n 2, 1, 2, 0, 0, 0)] [] (pc2 := 134) (ls2 := [some (.ref 54), some (.int x1), some (.int v338)]) (st2 := [.int v338]) (M2 := mrow (mrow (mrow (mrow (mrow (mrow M 54 (upd r339 30 (r339 29))) 55 r314) 63 r328) 64 r329) 65 r348) 66 r354) (Ps := []) (by decide +kernel) rfl rfl trivial ?_
              exact G.reti (by decide +kernel) rfl rfl (Nat.le_of_ble_eq_true rfl) (Nat.le_of_ble_eq_true rfl) ((by rw [hQ]; simp only [k_law, if_neg c1, if_neg c104, if_neg c207, g311, if_neg c317, g319, g325, if_pos c335, g337, if_pos c342, g346, g352, mrow_self]))
            · skip
              rw [if_neg c342] at hk
              refine G.sl [(.iload_n 2, 1, 2, 0, 0, 0)] [] (pc2 := 92) (ls2 := [some (.ref 54), some (.int x1), some (.int v338)]) (st2 := [.int v338]) (M2 := mrow (mrow (mrow (mrow M 54 r339) 55 r314) 63 r328) 64 r329) (Ps := []) (by decide +kernel) rfl rfl trivial ?_
              refine G.mem (M' := mrow (mrow (mrow (mrow (mrow (mrow M 54 r339) 55 r314) 63 r328) 64 r329) 65 (M.1 65)) 66 (M.1 66)) ((((mrow_id (N := mrow (mrow (mrow (mrow M 54 r339) 55 r314) 63 r328) 64 r329) (c := 65) (f := M.1 65) (by first | rfl | (simp only [mput, mrow_same, mrow_hit, mrow_miss, mrow_sw, idr_eq, ne_eq, Nat.reduceEqDiff, not_false_eq_true, Nat.reduceLT, reduceCtorEq]; done))).symm).trans (mrow_id (N := mrow (mrow (mrow (mrow (mrow M 54 r339) 55 r314) 63 r328) 64 r329) 65 (M.1 65)) (c := 66) (f := M.1 66) (by first | rfl | (simp only [mput, mrow_same, mrow_hit, mrow_miss, mrow_sw, idr_eq, ne_eq, Nat.reduceEqDiff, not_false_eq_true, Nat.reduceLT, reduceCtorEq]; done))).symm).trans (by first | rfl | (simp only [mput, mrow_same, mrow_hit, mrow_miss, mrow_sw, idr_eq, ne_eq, Nat.reduceEqDiff, not_false_eq_true, Nat.reduceLT, reduceCtorEq]; done))) ?_
              exact G.reti (by decide +kernel) rfl rfl (Nat.le_of_ble_eq_true rfl) (Nat.le_of_ble_eq_true rfl) ((by rw [hQ]; simp only [k_law, if_neg c1, if_neg c104, if_neg c207, g311, if_neg c317, g319, g325, if_pos c335, g337, if_neg c342, mrow_self]))
          · skip
            rw [if_neg c335] at hk
            refine G.sl [(.aload_n 0, 1, 0, 0, 0, 0)] [] (pc2 := 62) (ls2 := [some (.ref 54), some (.int x1), none]) (st2 := [.ref 54]) (M2 := mrow (mrow (mrow (mrow M 54 r327) 55 r314) 63 r328) 64 r329) (Ps := []) (by decide +kernel) rfl rfl trivial ?_
            obtain ⟨k357, hk⟩ := hk
            rcases g358 : k_isMore r327 (M.1 56) with ⟨v359, r360⟩
            try simp only [g358] at hk
            have ev359 : v359 = 0 ∨ v359 = 1 := by
              have q9 := k_isMore_01 r327 (M.1 56)
              rw [g358] at q9
              exact q9
            have t361 : GM z mX12_isMore (d + 80) [.ref 54] (mrow (mrow (mrow (mrow M 54 r327) 55 r314) 63 r328) 64 r329) (fun rs => rs = .inl (some (.int v359), mrow (mrow (mrow (mrow M 54 r360) 55 r314) 63 r328) 64 r329)) := by
              have q9 := c_k_isMore_54 z (d + 79) (mrow (mrow (mrow (mrow M 54 r327) 55 r314) 63 r328) 64 r329) k357
              try simp only [mput, mrow_same, mrow_hit, mrow_miss, mrow_sw, idr_eq, ne_eq, Nat.reduceEqDiff, not_false_eq_true, Nat.reduceLT, reduceCtorEq, g358] at q9
              exact q9
            refine G.callV (as := []) (rest := []) (a := 54) oX12_isMore lk_EvenFindersModel_221 (by decide +kernel) rfl rfl ⟨rfl, rfl⟩ (Nat.le_of_ble_eq_true rfl) rfl ⟨Nat.le_of_ble_eq_true rfl, Nat.le_of_ble_eq_true rfl⟩ t361 (fun v9 N9 h362 => ?_) (fun E9 N9 h362 => by cases h362)
            cases h362
            show G z mX12_law (d + 81) 0 0 65 [some (.ref 54), some (.int x1), none] [.int v359] (mrow (mrow (mrow (mrow M 54 r360) 55 r314) 63 r328) 64 r329) Q
            refine G.if_eq (off := (12)) (tgt := 77) (by decide +kernel) rfl (fun c363 => ?_) (fun c363 => ?_)
            · skip
              rw [if_pos c363] at hk
              refine G.sl [(.aload_n 0, 1, 0, 0, 0, 0), (.iconst 1, 1, 0, 0, 0, nI 1)] [] (pc2 := 79) (ls2 := [some (.ref 54), some (.int x1), none]) (st2 := [.int (nI 1), .ref 54]) (M2 := mrow (mrow (mrow (mrow M 54 r360) 55 r314) 63 r328) 64 r329) (Ps := []) (by decide +kernel) rfl rfl trivial ?_
              obtain ⟨k364, hk⟩ := hk
              rcases g365 : k_result r360 (nI 1) with ⟨v366, r367⟩
              try simp only [g365] at hk
              have t368 : GM z mX12_result (d + 80) [.ref 54, .int (nI 1)] (mrow (mrow (mrow (mrow M 54 r360) 55 r314) 63 r328) 64 r329) (fun rs => rs = .inl (some (.int v366), mrow (mrow (mrow (mrow M 54 r367) 55 r314) 63 r328) 64 r329)) := by
                have q9 := c_k_result_54 z (d + 79) (mrow (mrow (mrow (mrow M 54 r360) 55 r314) 63 r328) 64 r329) (nI 1)
                try simp only [mput, mrow_same, mrow_hit, mrow_miss, mrow_sw, idr_eq, ne_eq, Nat.reduceEqDiff, not_false_eq_true, Nat.reduceLT, reduceCtorEq, g365] at q9
                exact q9
              refine G.callV (as := [.int (nI 1)]) (rest := []) (a := 54) oX12_result lk_EvenFindersModel_242 (by decide +kernel) rfl rfl ⟨rfl, rfl⟩ (Nat.le_of_ble_eq_true rfl) rfl ⟨Nat.le_of_ble_eq_true rfl, Nat.le_of_ble_eq_true rfl⟩ t368 (fun v9 N9 h369 => ?_) (fun E9 N9 h369 => by cases h369)
              cases h369
              show G z mX12_law (d + 81) 0 0 82 [some (.ref 54), some (.int x1), none] [.int v366] (mrow (mrow (mrow (mrow M 54 r367) 55 r314) 63 r328) 64 r329) Q
              refine G.sl [(.istore_n 2, 1, 2, 0, 0, 0), (.aload_n 0, 1, 0, 0, 0, 0), (.getfield 101, 3, 11, 5, 128, 0), (.iconst (-1), 1, 0, 0, 0, (-1))] [] (pc2 := 88) (ls2 := [some (.ref 54), some (.int x1), some (.int v366)]) (st2 := [.int ((-1)), .int (r367 5)]) (M2 := mrow (mrow (mrow (mrow M 54 r367) 55 r314) 63 r328) 64 r329) (Ps := []) (by decide +kernel) rfl rfl trivial ?_
              refine G.ic_eq (off := (5)) (tgt := 93) (by decide +kernel) rfl (fun c370 => ?_) (fun c370 => ?_)
              · skip
                rw [if_pos c370] at hk
                refine G.sl [(.aload_n 0, 1, 0, 0, 0, 0), (.aload_n 0, 1, 0, 0, 0, 0), (.getfield 246, 3, 11, 29, 152, 0), (.putfield 172, 3, 11, 30, 153, 0), (.aload_n 0, 1, 0, 0, 0, 0), (.aload_n 0, 1, 0, 0, 0, 0), (.getfield 41, 3, 11, 24, 147, 0), (.aload_n 0, 1, 0, 0, 0, 0), (.getfield 47, 3, 11, 26, 149, 0), (.aload_n 0, 1, 0, 0, 0, 0), (.getfield 246, 3, 11, 29, 152, 0)] [] (pc2 := 114) (ls2 := [some (.ref 54), some (.int x1), some (.int v366)]) (st2 := [.int (r367 29), .ref 65, .ref 63, .ref 54]) (M2 := mput (mrow (mrow (mrow (mrow M 54 r367) 55 r314) 63 r328) 64 r329) 54 30 (r367 29)) (Ps := []) (by decide +kernel) rfl rfl trivial ?_
                refine G.mem (M' := mrow (mrow (mrow (mrow M 54 (upd r367 30 (r367 29))) 55 r314) 63 r328) 64 r329) (by first | rfl | (simp only [mput, mrow_same, mrow_hit, mrow_miss, mrow_sw, idr_eq, ne_eq, Nat.reduceEqDiff, not_false_eq_true, Nat.reduceLT, reduceCtorEq]; done)) ?_
                obtain ⟨k371, k372, hk⟩ := hk
                obtain ⟨k373, hk⟩ := hk
                refine G.eq (st' := [.int (nI (ix (r367 29))), .ref 65, .ref 63, .ref 54]) ?_ rfl (by rw [← (show r367 29 = nI (ix (r367 29)) from (ixE k371))]) rfl
                rcases g374 : k_copies_L150_L150 r328 (M.1 65) (ix (r367 29)) with ⟨u375, r376⟩
                try simp only [g374] at hk
                have t377 : GM z mX12_copies (d + 80) [.ref 54, .ref 63, .ref 65, .int (nI (ix (r367 29)))] (mrow (mrow (mrow (mrow M 54 (upd r367 30 (r367 29))) 55 r314) 63 r328) 64 r329) (fun rs => rs = .inl (none, mrow (mrow (mrow (mrow (mrow M 54 (upd r367 30 (r367 29))) 55 r314) 63 r328) 64 r329) 65 r376)) := by
                  have q9 := c_k_copies_L150_L150_54_63_65 z (d + 80) (mrow (mrow (mrow (mrow M 54 (upd r367 30 (r367 29))) 55 r314) 63 r328) 64 r329) (ix (r367 29)) k372 k373
                  try simp only [mput, mrow_same, mrow_hit, mrow_miss, mrow_sw, idr_eq, ne_eq, Nat.reduceEqDiff, not_false_eq_true, Nat.reduceLT, reduceCtorEq, g374] at q9
                  exact q9
                refine G.callV (as := [.ref 63, .ref 65, .int (nI (ix (r367 29)))]) (rest := []) (a := 54) oX12_copies lk_EvenFindersModel_168 (by decide +kernel) rfl rfl ⟨rfl, rfl⟩ (Nat.le_of_ble_eq_true rfl) rfl ⟨Nat.le_of_ble_eq_true rfl, Nat.le_of_ble_eq_true rfl⟩ t377 (fun v9 N9 h378 => ?_) (fun E9 N9 h378 => by cases h378)
                cases h378
                show G z mX12_law (d + 81) 0 0 117 [some (.ref 54), some (.int x1), some (.int v366)] [] (mrow (mrow (mrow (mrow (mrow M 54 (upd r367 30 (r367 29))) 55 r314) 63 r328) 64 r329) 65 r376) Q
                refine G.sl [(.aload_n 0, 1, 0, 0, 0, 0), (.aload_n 0, 1, 0, 0, 0, 0), (.getfield 44, 3, 11, 25, 148, 0), (.aload_n 0, 1, 0, 0, 0, 0), (.getfield 50, 3, 11, 27, 150, 0), (.aload_n 0, 1, 0, 0, 0, 0), (.getfield 246, 3, 11, 29, 152, 0)] [] (pc2 := 130) (ls2 := [some (.ref 54), some (.int x1), some (.int v366)]) (st2 := [.int (r367 29), .ref 66, .ref 64, .ref 54]) (M2 := mrow (mrow (mrow (mrow (mrow M 54 (upd r367 30 (r367 29))) 55 r314) 63 r328) 64 r329) 65 r376) (Ps := []) (by decide +kernel) rfl rfl trivial ?_
                obtain ⟨k379, hk⟩ := hk
                refine G.eq (st' := [.int (nI (ix (r367 29))), .ref 66, .ref 64, .ref 54]) ?_ rfl (by rw [← (show r367 29 = nI (ix (r367 29)) from (ixE k371))]) rfl
                rcases g380 : k_copies_L150_L150 r329 (M.1 66) (ix (r367 29)) with ⟨u381, r382⟩
                have t383 : GM z mX12_copies (d + 80) [.ref 54, .ref 64, .ref 66, .int (nI (ix (r367 29)))] (mrow (mrow (mrow (mrow (mrow M 54 (upd r367 30 (r367 29))) 55 r314) 63 r328) 64 r329) 65 r376) (fun rs => rs = .inl (none, mrow (mrow (mrow (mrow (mrow (mrow M 54 (upd r367 30 (r367 29))) 55 r314) 63 r328) 64 r329) 65 r376) 66 r382)) := by
                  have q9 := c_k_copies_L150_L150_54_64_66 z (d + 80) (mrow (mrow (mrow (mrow (mrow M 54 (upd r367 30 (r367 29))) 55 r314) 63 r328) 64 r329) 65 r376) (ix (r367 29)) k372 k379
                  try simp only [mput, mrow_same, mrow_hit, mrow_miss, mrow_sw, idr_eq, ne_eq, Nat.reduceEqDiff, not_false_eq_true, Nat.reduceLT, reduceCtorEq, g380] at q9
                  exact q9
                refine G.callV (as := [.ref 64, .ref 66, .int (nI (ix (r367 29)))]) (rest := []) (a := 54) oX12_copies lk_EvenFindersModel_168 (by decide +kernel) rfl rfl ⟨rfl, rfl⟩ (Nat.le_of_ble_eq_true rfl) rfl ⟨Nat.le_of_ble_eq_true rfl, Nat.le_of_ble_eq_true rfl⟩ t383 (fun v9 N9 h384 => ?_) (fun E9 N9 h384 => by cases h384)
                cases h384
                show G z mX12_law (d + 81) 0 0 133 [some (.ref 54), some (.int x1), some (.int v366)] [] (mrow (mrow (mrow (mrow (mrow (mrow M 54 (upd r367 30 (r367 29))) 55 r314) 63 r328) 64 r329) 65 r376) 66 r382) Q
                refine G.sl [(.iload_n 2, 1, 2, 0, 0, 0)] [] (pc2 := 134) (ls2 := [some (.ref 54), some (.int x1), some (.int v366)]) (st2 := [.int v366]) (M2 := mrow (mrow (mrow (mrow (mrow (mrow M 54 (upd r367 30 (r367 29))) 55 r314) 63 r328) 64 r329) 65 r376) 66 r382) (Ps := []) (by decide +kernel) rfl rfl trivial ?_
                exact G.reti (by decide +kernel) rfl rfl (Nat.le_of_ble_eq_true rfl) (Nat.le_of_ble_eq_true rfl) ((by rw [hQ]; simp only [k_law, if_neg c1, if_neg c104, if_neg c207, g311, if_neg c317, g319, g325, if_neg c335, g358, if_pos c363, g365, if_pos c370, g374, g380, mrow_self]))
              · skip
                rw [if_neg c370] at hk
                refine G.sl [(.iload_n 2, 1, 2, 0, 0, 0)] [] (pc2 := 92) (ls2 := [some (.ref 54), some (.int x1), some (.int v366)]) (st2 := [.int v366]) (M2 := mrow (mrow (mrow (mrow M 54 r367) 55 r314) 63 r328) 64 r329) (Ps := []) (by decide +kernel) rfl rfl trivial ?_
                refine G.mem (M' := mrow (mrow (mrow (mrow (mrow (mrow M 54 r367) 55 r314) 63 r328) 64 r329) 65 (M.1 65)) 66 (M.1 66)) ((((mrow_id (N := mrow (mrow (mrow (mrow M 54 r367) 55 r314) 63 r328) 64 r329) (c := 65) (f := M.1 65) (by first | rfl | (simp only [mput, mrow_same, mrow_hit, mrow_miss, mrow_sw, idr_eq, ne_eq, Nat.reduceEqDiff, not_false_eq_true, Nat.reduceLT, reduceCtorEq]; done))).symm).trans (mrow_id (N := mrow (mrow (mrow (mrow (mrow M 54 r367) 55 r314) 63 r328) 64 r329) 65 (M.1 65)) (c := 66) (f := M.1 66) (by first | rfl | (simp only [mput, mrow_same, mrow_hit, mrow_miss, mrow_sw, idr_eq, ne_eq, Nat.reduceEqDiff, not_false_eq_true, Nat.reduceLT, reduceCtorEq]; done))).symm).trans (by first | rfl | (simp only [mput, mrow_same, mrow_hit, mrow_miss, mrow_sw, idr_eq, ne_eq, Nat.reduceEqDiff, not_false_eq_true, Nat.reduceLT, reduceCtorEq]; done))) ?_
                exact G.reti (by decide +kernel) rfl rfl (Nat.le_of_ble_eq_true rfl) (Nat.le_of_ble_eq_true rfl) ((by rw [hQ]; simp only [k_law, if_neg c1, if_neg c104, if_neg c207, g311, if_neg c317, g319, g325, if_neg c335, g358, if_pos c363, g365, if_neg c370, mrow_self]))
            · skip
              rw [if_neg c363] at hk
              refine G.sl [(.aload_n 0, 1, 0, 0, 0, 0), (.iconst 1, 1, 0, 0, 0, nI 1), (.aload_n 0, 1, 0, 0, 0, 0), (.getfield 107, 3, 11, 4, 127, 0)] [] (pc2 := 74) (ls2 := [some (.ref 54), some (.int x1), none]) (st2 := [.int (r360 4), .int (nI 1), .ref 54]) (M2 := mrow (mrow (mrow (mrow M 54 r360) 55 r314) 63 r328) 64 r329) (Ps := []) (by decide +kernel) rfl rfl trivial ?_
              obtain ⟨k385, hk⟩ := hk
              rcases g386 : k_wrong r360 (nI 1) (r360 4) with ⟨u387, r388⟩
              try simp only [g386] at hk
              have t389 : GM z mX12_wrong (d + 80) [.ref 54, .int (nI 1), .int (r360 4)] (mrow (mrow (mrow (mrow M 54 r360) 55 r314) 63 r328) 64 r329) (fun rs => rs = .inl (none, mrow (mrow (mrow (mrow M 54 r388) 55 r314) 63 r328) 64 r329)) := by
                have q9 := c_k_wrong_54 z (d + 80) (mrow (mrow (mrow (mrow M 54 r360) 55 r314) 63 r328) 64 r329) (nI 1) (r360 4)
                try simp only [mput, mrow_same, mrow_hit, mrow_miss, mrow_sw, idr_eq, ne_eq, Nat.reduceEqDiff, not_false_eq_true, Nat.reduceLT, reduceCtorEq, g386] at q9
                exact q9
              refine G.callV (as := [.int (nI 1), .int (r360 4)]) (rest := []) (a := 54) oX12_wrong lk_EvenFindersModel_137 (by decide +kernel) rfl rfl ⟨rfl, rfl⟩ (Nat.le_of_ble_eq_true rfl) rfl ⟨Nat.le_of_ble_eq_true rfl, Nat.le_of_ble_eq_true rfl⟩ t389 (fun v9 N9 h390 => ?_) (fun E9 N9 h390 => by cases h390)
              cases h390
              show G z mX12_law (d + 81) 0 0 77 [some (.ref 54), some (.int x1), none] [] (mrow (mrow (mrow (mrow M 54 r388) 55 r314) 63 r328) 64 r329) Q
              refine G.sl [(.aload_n 0, 1, 0, 0, 0, 0), (.iconst 1, 1, 0, 0, 0, nI 1)] [] (pc2 := 79) (ls2 := [some (.ref 54), some (.int x1), none]) (st2 := [.int (nI 1), .ref 54]) (M2 := mrow (mrow (mrow (mrow M 54 r388) 55 r314) 63 r328) 64 r329) (Ps := []) (by decide +kernel) rfl rfl trivial ?_
              obtain ⟨k391, hk⟩ := hk
              rcases g392 : k_result r388 (nI 1) with ⟨v393, r394⟩
              try simp only [g392] at hk
              have t395 : GM z mX12_result (d + 80) [.ref 54, .int (nI 1)] (mrow (mrow (mrow (mrow M 54 r388) 55 r314) 63 r328) 64 r329) (fun rs => rs = .inl (some (.int v393), mrow (mrow (mrow (mrow M 54 r394) 55 r314) 63 r328) 64 r329)) := by
                have q9 := c_k_result_54 z (d + 79) (mrow (mrow (mrow (mrow M 54 r388) 55 r314) 63 r328) 64 r329) (nI 1)
                try simp only [mput, mrow_same, mrow_hit, mrow_miss, mrow_sw, idr_eq, ne_eq, Nat.reduceEqDiff, not_false_eq_true, Nat.reduceLT, reduceCtorEq, g392] at q9
                exact q9
              refine G.callV (as := [.int (nI 1)]) (rest := []) (a := 54) oX12_result lk_EvenFindersModel_242 (by decide +kernel) rfl rfl ⟨rfl, rfl⟩ (Nat.le_of_ble_eq_true rfl) rfl ⟨Nat.le_of_ble_eq_true rfl, Nat.le_of_ble_eq_true rfl⟩ t395 (fun v9 N9 h396 => ?_) (fun E9 N9 h396 => by cases h396)
              cases h396
              show G z mX12_law (d + 81) 0 0 82 [some (.ref 54), some (.int x1), none] [.int v393] (mrow (mrow (mrow (mrow M 54 r394) 55 r314) 63 r328) 64 r329) Q
              refine G.sl [(.istore_n 2, 1, 2, 0, 0, 0), (.aload_n 0, 1, 0, 0, 0, 0), (.getfield 101, 3, 11, 5, 128, 0), (.iconst (-1), 1, 0, 0, 0, (-1))] [] (pc2 := 88) (ls2 := [some (.ref 54), some (.int x1), some (.int v393)]) (st2 := [.int ((-1)), .int (r394 5)]) (M2 := mrow (mrow (mrow (mrow M 54 r394) 55 r314) 63 r328) 64 r329) (Ps := []) (by decide +kernel) rfl rfl trivial ?_
              refine G.ic_eq (off := (5)) (tgt := 93) (by decide +kernel) rfl (fun c397 => ?_) (fun c397 => ?_)
              · skip
                rw [if_pos c397] at hk
                refine G.sl [(.aload_n 0, 1, 0, 0, 0, 0), (.aload_n 0, 1, 0, 0, 0, 0), (.getfield 246, 3, 11, 29, 152, 0), (.putfield 172, 3, 11, 30, 153, 0), (.aload_n 0, 1, 0, 0, 0, 0), (.aload_n 0, 1, 0, 0, 0, 0), (.getfield 41, 3, 11, 24, 147, 0), (.aload_n 0, 1, 0, 0, 0, 0), (.getfield 47, 3, 11, 26, 149, 0), (.aload_n 0, 1, 0, 0, 0, 0), (.getfield 246, 3, 11, 29, 152, 0)] [] (pc2 := 114) (ls2 := [some (.ref 54), some (.int x1), some (.int v393)]) (st2 := [.int (r394 29), .ref 65, .ref 63, .ref 54]) (M2 := mput (mrow (mrow (mrow (mrow M 54 r394) 55 r314) 63 r328) 64 r329) 54 30 (r394 29)) (Ps := []) (by decide +kernel) rfl rfl trivial ?_
                refine G.mem (M' := mrow (mrow (mrow (mrow M 54 (upd r394 30 (r394 29))) 55 r314) 63 r328) 64 r329) (by first | rfl | (simp only [mput, mrow_same, mrow_hit, mrow_miss, mrow_sw, idr_eq, ne_eq, Nat.reduceEqDiff, not_false_eq_true, Nat.reduceLT, reduceCtorEq]; done)) ?_
                obtain ⟨k398, k399, hk⟩ := hk
                obtain ⟨k400, hk⟩ := hk
                refine G.eq (st' := [.int (nI (ix (r394 29))), .ref 65, .ref 63, .ref 54]) ?_ rfl (by rw [← (show r394 29 = nI (ix (r394 29)) from (ixE k398))]) rfl
                rcases g401 : k_copies_L150_L150 r328 (M.1 65) (ix (r394 29)) with ⟨u402, r403⟩
                try simp only [g401] at hk
                have t404 : GM z mX12_copies (d + 80) [.ref 54, .ref 63, .ref 65, .int (nI (ix (r394 29)))] (mrow (mrow (mrow (mrow M 54 (upd r394 30 (r394 29))) 55 r314) 63 r328) 64 r329) (fun rs => rs = .inl (none, mrow (mrow (mrow (mrow (mrow M 54 (upd r394 30 (r394 29))) 55 r314) 63 r328) 64 r329) 65 r403)) := by
                  have q9 := c_k_copies_L150_L150_54_63_65 z (d + 80) (mrow (mrow (mrow (mrow M 54 (upd r394 30 (r394 29))) 55 r314) 63 r328) 64 r329) (ix (r394 29)) k399 k400
                  try simp only [mput, mrow_same, mrow_hit, mrow_miss, mrow_sw, idr_eq, ne_eq, Nat.reduceEqDiff, not_false_eq_true, Nat.reduceLT, reduceCtorEq, g401] at q9
                  exact q9
                refine G.callV (as := [.ref 63, .ref 65, .int (nI (ix (r394 29)))]) (rest := []) (a := 54) oX12_copies lk_EvenFindersModel_168 (by decide +kernel) rfl rfl ⟨rfl, rfl⟩ (Nat.le_of_ble_eq_true rfl) rfl ⟨Nat.le_of_ble_eq_true rfl, Nat.le_of_ble_eq_true rfl⟩ t404 (fun v9 N9 h405 => ?_) (fun E9 N9 h405 => by cases h405)
                cases h405
                show G z mX12_law (d + 81) 0 0 117 [some (.ref 54), some (.int x1), some (.int v393)] [] (mrow (mrow (mrow (mrow (mrow M 54 (upd r394 30 (r394 29))) 55 r314) 63 r328) 64 r329) 65 r403) Q
                refine G.sl [(.aload_n 0, 1, 0, 0, 0, 0), (.aload_n 0, 1, 0, 0, 0, 0), (.getfield 44, 3, 11, 25, 148, 0), (.aload_n 0, 1, 0, 0, 0, 0), (.getfield 50, 3, 11, 27, 150, 0), (.aload_n 0, 1, 0, 0, 0, 0), (.getfield 246, 3, 11, 29, 152, 0)] [] (pc2 := 130) (ls2 := [some (.ref 54), some (.int x1), some (.int v393)]) (st2 := [.int (r394 29), .ref 66, .ref 64, .ref 54]) (M2 := mrow (mrow (mrow (mrow (mrow M 54 (upd r394 30 (r394 29))) 55 r314) 63 r328) 64 r329) 65 r403) (Ps := []) (by decide +kernel) rfl rfl trivial ?_
                obtain ⟨k406, hk⟩ := hk
                refine G.eq (st' := [.int (nI (ix (r394 29))), .ref 66, .ref 64, .ref 54]) ?_ rfl (by rw [← (show r394 29 = nI (ix (r394 29)) from (ixE k398))]) rfl
                rcases g407 : k_copies_L150_L150 r329 (M.1 66) (ix (r394 29)) with ⟨u408, r409⟩
                have t410 : GM z mX12_copies (d + 80) [.ref 54, .ref 64, .ref 66, .int (nI (ix (r394 29)))] (mrow (mrow (mrow (mrow (mrow M 54 (upd r394 30 (r394 29))) 55 r314) 63 r328) 64 r329) 65 r403) (fun rs => rs = .inl (none, mrow (mrow (mrow (mrow (mrow (mrow M 54 (upd r394 30 (r394 29))) 55 r314) 63 r328) 64 r329) 65 r403) 66 r409)) := by
                  have q9 := c_k_copies_L150_L150_54_64_66 z (d + 80) (mrow (mrow (mrow (mrow (mrow M 54 (upd r394 30 (r394 29))) 55 r314) 63 r328) 64 r329) 65 r403) (ix (r394 29)) k399 k406
                  try simp only [mput, mrow_same, mrow_hit, mrow_miss, mrow_sw, idr_eq, ne_eq, Nat.reduceEqDiff, not_false_eq_true, Nat.reduceLT, reduceCtorEq, g407] at q9
                  exact q9
                refine G.callV (as := [.ref 64, .ref 66, .int (nI (ix (r394 29)))]) (rest := []) (a := 54) oX12_copies lk_EvenFindersModel_168 (by decide +kernel) rfl rfl ⟨rfl, rfl⟩ (Nat.le_of_ble_eq_true rfl) rfl ⟨Nat.le_of_ble_eq_true rfl, Nat.le_of_ble_eq_true rfl⟩ t410 (fun v9 N9 h411 => ?_) (fun E9 N9 h411 => by cases h411)
                cases h411
                show G z mX12_law (d + 81) 0 0 133 [some (.ref 54), some (.int x1), some (.int v393)] [] (mrow (mrow (mrow (mrow (mrow (mrow M 54 (upd r394 30 (r394 29))) 55 r314) 63 r328) 64 r329) 65 r403) 66 r409) Q
                refine G.sl [(.iload_n 2, 1, 2, 0, 0, 0)] [] (pc2 := 134) (ls2 := [some (.ref 54), some (.int x1), some (.int v393)]) (st2 := [.int v393]) (M2 := mrow (mrow (mrow (mrow (mrow (mrow M 54 (upd r394 30 (r394 29))) 55 r314) 63 r328) 64 r329) 65 r403) 66 r409) (Ps := []) (by decide +kernel) rfl rfl trivial ?_
                exact G.reti (by decide +kernel) rfl rfl (Nat.le_of_ble_eq_true rfl) (Nat.le_of_ble_eq_true rfl) ((by rw [hQ]; simp only [k_law, if_neg c1, if_neg c104, if_neg c207, g311, if_neg c317, g319, g325, if_neg c335, g358, if_neg c363, g386, g392, if_pos c397, g401, g407, mrow_self]))
              · skip
                rw [if_neg c397] at hk
                refine G.sl [(.iload_n 2, 1, 2, 0, 0, 0)] [] (pc2 := 92) (ls2 := [some (.ref 54), some (.int x1), some (.int v393)]) (st2 := [.int v393]) (M2 := mrow (mrow (mrow (mrow M 54 r394) 55 r314) 63 r328) 64 r329) (Ps := []) (by decide +kernel) rfl rfl trivial ?_
                refine G.mem (M' := mrow (mrow (mrow (mrow (mrow (mrow M 54 r394) 55 r314) 63 r328) 64 r329) 65 (M.1 65)) 66 (M.1 66)) ((((mrow_id (N := mrow (mrow (mrow (mrow M 54 r394) 55 r314) 63 r328) 64 r329) (c := 65) (f := M.1 65) (by first | rfl | (simp only [mput, mrow_same, mrow_hit, mrow_miss, mrow_sw, idr_eq, ne_eq, Nat.reduceEqDiff, not_false_eq_true, Nat.reduceLT, reduceCtorEq]; done))).symm).trans (mrow_id (N := mrow (mrow (mrow (mrow (mrow M 54 r394) 55 r314) 63 r328) 64 r329) 65 (M.1 65)) (c := 66) (f := M.1 66) (by first | rfl | (simp only [mput, mrow_same, mrow_hit, mrow_miss, mrow_sw, idr_eq, ne_eq, Nat.reduceEqDiff, not_false_eq_true, Nat.reduceLT, reduceCtorEq]; done))).symm).trans (by first | rfl | (simp only [mput, mrow_same, mrow_hit, mrow_miss, mrow_sw, idr_eq, ne_eq, Nat.reduceEqDiff, not_false_eq_true, Nat.reduceLT, reduceCtorEq]; done))) ?_
                exact G.reti (by decide +kernel) rfl rfl (Nat.le_of_ble_eq_true rfl) (Nat.le_of_ble_eq_true rfl) ((by rw [hQ]; simp only [k_law, if_neg c1, if_neg c104, if_neg c207, g311, if_neg c317, g319, g325, if_neg c335, g358, if_neg c363, g386, g392, if_neg c397, mrow_self]))
        · skip
          rw [if_pos c317] at hk
          refine G.sl [(.iconst 0, 1, 0, 0, 0, nI 0)] [] (pc2 := 39) (ls2 := [some (.ref 54), some (.int x1), none]) (st2 := [.int (nI 0)]) (M2 := mrow (mrow M 54 r313) 55 r314) (Ps := []) (by decide +kernel) rfl rfl trivial ?_
          refine G.mem (M' := mrow (mrow (mrow (mrow (mrow (mrow M 54 r313) 55 r314) 63 (M.1 63)) 64 (M.1 64)) 65 (M.1 65)) 66 (M.1 66)) ((((((mrow_id (N := mrow (mrow M 54 r313) 55 r314) (c := 63) (f := M.1 63) (by first | rfl | (simp only [mput, mrow_same, mrow_hit, mrow_miss, mrow_sw, idr_eq, ne_eq, Nat.reduceEqDiff, not_false_eq_true, Nat.reduceLT, reduceCtorEq]; done))).symm).trans (mrow_id (N := mrow (mrow (mrow M 54 r313) 55 r314) 63 (M.1 63)) (c := 64) (f := M.1 64) (by first | rfl | (simp only [mput, mrow_same, mrow_hit, mrow_miss, mrow_sw, idr_eq, ne_eq, Nat.reduceEqDiff, not_false_eq_true, Nat.reduceLT, reduceCtorEq]; done))).symm).trans (mrow_id (N := mrow (mrow (mrow (mrow M 54 r313) 55 r314) 63 (M.1 63)) 64 (M.1 64)) (c := 65) (f := M.1 65) (by first | rfl | (simp only [mput, mrow_same, mrow_hit, mrow_miss, mrow_sw, idr_eq, ne_eq, Nat.reduceEqDiff, not_false_eq_true, Nat.reduceLT, reduceCtorEq]; done))).symm).trans (mrow_id (N := mrow (mrow (mrow (mrow (mrow M 54 r313) 55 r314) 63 (M.1 63)) 64 (M.1 64)) 65 (M.1 65)) (c := 66) (f := M.1 66) (by first | rfl | (simp only [mput, mrow_same, mrow_hit, mrow_miss, mrow_sw, idr_eq, ne_eq, Nat.reduceEqDiff, not_false_eq_true, Nat.reduceLT, reduceCtorEq]; done))).symm).trans (by first | rfl | (simp only [mput, mrow_same, mrow_hit, mrow_miss, mrow_sw, idr_eq, ne_eq, Nat.reduceEqDiff, not_false_eq_true, Nat.reduceLT, reduceCtorEq]; done))) ?_
          exact G.reti (by decide +kernel) rfl rfl (Nat.le_of_ble_eq_true rfl) (Nat.le_of_ble_eq_true rfl) ((by rw [hQ]; simp only [k_law, if_neg c1, if_neg c104, if_neg c207, g311, if_pos c317, mrow_self]))
