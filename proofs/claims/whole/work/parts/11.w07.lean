set_option maxHeartbeats 4000000 in
set_option maxRecDepth 3000 in
theorem lp_k_ones_4 (z : Zp) (d : Nat) (M : Mem) (Q : Rs → Prop) (nn : Nat) (x0 : Int32) (hnn : nn = 10) (hX : G z mX12_ones (d) 0 0 24 [none, some (.int (k_ones_4 x0 nn)), none] [] M Q) : G z mX12_ones (d) 0 0 4 [some (.int x0), some (.int (nI 0)), some (.int (nI 0))] [] M Q := by
  refine down (n := nn) (P := fun i2 => G z mX12_ones (d) 0 0 4 [some (.int x0), some (.int (k_ones_4 x0 i2)), some (.int (nI i2))] [] M Q) ?_ ?_ 0 (Nat.zero_le _)
  · skip
    refine G.sl [(.iload_n 2, 1, 2, 0, 0, 0), (.bipush 10, 2, 0, 0, 0, nI 10)] [] (pc2 := 7) (ls2 := [some (.int x0), some (.int (k_ones_4 x0 nn)), some (.int (nI nn))]) (st2 := [.int (nI 10), .int (nI nn)]) (M2 := M) (Ps := []) (by decide +kernel) rfl rfl trivial ?_
    refine G.ic_ge (off := (17)) (tgt := 24) (by decide +kernel) rfl (fun _ => ?_) (fun h9 => absurd (nI_le (by omega) (by omega)) h9)
    refine G.loc (ls2 := [none, some (.int (k_ones_4 x0 nn)), none]) (by simp [subL]) ?_
    exact hX
  · skip
    intro i2 hi ih
    show G z mX12_ones (d) 0 0 4 [some (.int x0), some (.int (k_ones_4 x0 i2)), some (.int (nI i2))] [] M Q
    refine G.sl [(.iload_n 2, 1, 2, 0, 0, 0), (.bipush 10, 2, 0, 0, 0, nI 10)] [] (pc2 := 7) (ls2 := [some (.int x0), some (.int (k_ones_4 x0 i2)), some (.int (nI i2))]) (st2 := [.int (nI 10), .int (nI i2)]) (M2 := M) (Ps := []) (by decide +kernel) rfl rfl trivial ?_
    refine G.ic_ge (off := (17)) (tgt := 24) (by decide +kernel) rfl (fun h9 => absurd h9 (nI_ge (by omega) (by omega))) (fun _ => ?_)
    refine G.sl [(.iload_n 1, 1, 1, 0, 0, 0), (.iload_n 0, 1, 0, 0, 0, 0), (.iload_n 2, 1, 2, 0, 0, 0), (.ishr, 1, 0, 0, 0, 0), (.iconst 1, 1, 0, 0, 0, nI 1), (.iand, 1, 0, 0, 0, 0), (.iadd, 1, 0, 0, 0, 0), (.istore_n 1, 1, 1, 0, 0, 0), (.iinc 2 1, 3, 2, 0, 0, nI 1), (.goto (-17), 3, 4, 0, 0, 0)] [] (pc2 := 4) (ls2 := [some (.int x0), some (.int ((k_ones_4 x0 i2) + ((x0 >>> ((nI i2) &&& 31)) &&& (nI 1)))), some (.int ((nI i2) + nI 1))]) (st2 := []) (M2 := M) (Ps := []) (by decide +kernel) rfl rfl trivial ?_
    rw [nI_add i2 1]
    simp only [k_ones_4] at ih
    exact ih
set_option maxHeartbeats 4000000 in
set_option maxRecDepth 3000 in
theorem c_k_ones (z : Zp) (d : Nat) (M : Mem) (x0 : Int32) : GM z mX12_ones (d) [.int x0] M (fun rs => rs = .inl (some (.int (k_ones x0)), M)) := by
  refine GM.of oX12_ones.1 (Nat.le_of_ble_eq_true rfl) ?_
  show G z mX12_ones (d) 0 0 0 [some (.int x0), none, none] [] M _
  obtain ⟨Q, hQ⟩ : ∃ Q : Rs → Prop, Q = (fun rs => rs = .inl (some (.int (k_ones x0)), M)) := ⟨_, rfl⟩
  rw [← hQ]
  refine G.sl [(.iconst 0, 1, 0, 0, 0, nI 0), (.istore_n 1, 1, 1, 0, 0, 0), (.iconst 0, 1, 0, 0, 0, nI 0), (.istore_n 2, 1, 2, 0, 0, 0)] [] (pc2 := 4) (ls2 := [some (.int x0), some (.int (nI 0)), some (.int (nI 0))]) (st2 := []) (M2 := M) (Ps := []) (by decide +kernel) rfl rfl trivial ?_
  refine lp_k_ones_4 z d M Q (cN 10) x0 (cN_eq 10) ?_
  show G z mX12_ones (d) 0 0 24 [none, some (.int (k_ones_4 x0 (cN 10))), none] [] M Q
  refine G.sl [(.iload_n 1, 1, 1, 0, 0, 0)] [] (pc2 := 25) (ls2 := [none, some (.int (k_ones_4 x0 (cN 10))), none]) (st2 := [.int (k_ones_4 x0 (cN 10))]) (M2 := M) (Ps := []) (by decide +kernel) rfl rfl trivial ?_
  exact G.reti (by decide +kernel) rfl rfl (Nat.le_of_ble_eq_true rfl) (Nat.le_of_ble_eq_true rfl) ((by rw [hQ]; simp only [k_ones, mrow_self]))
set_option maxHeartbeats 4000000 in
set_option maxRecDepth 3000 in
theorem c_k_both (z : Zp) (d : Nat) (M : Mem) (x0 : Int32) (x1 : Int32) (x2 : Int32) : GM z mX12_both (d) [.int x0, .int x1, .int x2] M (fun rs => rs = .inl (some (.int (k_both x0 x1 x2)), M)) := by
  refine GM.of oX12_both.1 (Nat.le_of_ble_eq_true rfl) ?_
  show G z mX12_both (d) 0 0 0 [some (.int x0), some (.int x1), some (.int x2)] [] M _
  obtain ⟨Q, hQ⟩ : ∃ Q : Rs → Prop, Q = (fun rs => rs = .inl (some (.int (k_both x0 x1 x2)), M)) := ⟨_, rfl⟩
  rw [← hQ]
  refine G.sl [(.iload_n 0, 1, 0, 0, 0, 0), (.iconst 2, 1, 0, 0, 0, nI 2)] [] (pc2 := 2) (ls2 := [some (.int x0), some (.int x1), some (.int x2)]) (st2 := [.int (nI 2), .int x0]) (M2 := M) (Ps := []) (by decide +kernel) rfl rfl trivial ?_
  refine G.ic_ne (off := (7)) (tgt := 9) (by decide +kernel) rfl (fun c1 => ?_) (fun c1 => ?_)
  · skip
    refine G.sl [(.iload_n 0, 1, 0, 0, 0, 0), (.iconst 3, 1, 0, 0, 0, nI 3)] [] (pc2 := 11) (ls2 := [some (.int x0), some (.int x1), some (.int x2)]) (st2 := [.int (nI 3), .int x0]) (M2 := M) (Ps := []) (by decide +kernel) rfl rfl trivial ?_
    refine G.ic_ne (off := (7)) (tgt := 18) (by decide +kernel) rfl (fun c2 => ?_) (fun c2 => ?_)
    · skip
      refine G.sl [(.iload_n 0, 1, 0, 0, 0, 0), (.iconst 4, 1, 0, 0, 0, nI 4)] [] (pc2 := 20) (ls2 := [some (.int x0), some (.int x1), some (.int x2)]) (st2 := [.int (nI 4), .int x0]) (M2 := M) (Ps := []) (by decide +kernel) rfl rfl trivial ?_
      refine G.ic_ne (off := (7)) (tgt := 27) (by decide +kernel) rfl (fun c3 => ?_) (fun c3 => ?_)
      · skip
        refine G.sl [(.iload_n 0, 1, 0, 0, 0, 0), (.iconst 5, 1, 0, 0, 0, nI 5)] [] (pc2 := 29) (ls2 := [some (.int x0), some (.int x1), some (.int x2)]) (st2 := [.int (nI 5), .int x0]) (M2 := M) (Ps := []) (by decide +kernel) rfl rfl trivial ?_
        refine G.ic_eq (off := (9)) (tgt := 38) (by decide +kernel) rfl (fun c4 => ?_) (fun c4 => ?_)
        · skip
          refine G.sl [(.iload_n 2, 1, 2, 0, 0, 0)] [] (pc2 := 39) (ls2 := [some (.int x0), some (.int x1), some (.int x2)]) (st2 := [.int x2]) (M2 := M) (Ps := []) (by decide +kernel) rfl rfl trivial ?_
          refine G.if_ne (off := (7)) (tgt := 46) (by decide +kernel) rfl (fun c5 => ?_) (fun c5 => ?_)
          · skip
            refine G.sl [(.iload_n 0, 1, 0, 0, 0, 0), (.iconst 5, 1, 0, 0, 0, nI 5)] [] (pc2 := 48) (ls2 := [some (.int x0), some (.int x1), some (.int x2)]) (st2 := [.int (nI 5), .int x0]) (M2 := M) (Ps := []) (by decide +kernel) rfl rfl trivial ?_
            refine G.ic_ne (off := (9)) (tgt := 57) (by decide +kernel) rfl (fun h9 => absurd c4 h9) (fun _ => ?_)
            refine G.sl [(.iload_n 1, 1, 1, 0, 0, 0), (.iload_n 2, 1, 2, 0, 0, 0), (.idiv, 1, 0, 0, 0, 0), (.goto 6, 3, 60, 0, 0, 0)] [] (pc2 := 60) (ls2 := [some (.int x0), some (.int x1), some (.int x2)]) (st2 := [.int (x1 / x2)]) (M2 := M) (Ps := [¬ x2 = 0]) (by decide +kernel) rfl rfl ⟨c5, trivial⟩ ?_
            exact G.reti (by decide +kernel) rfl rfl (Nat.le_of_ble_eq_true rfl) (Nat.le_of_ble_eq_true rfl) ((by rw [hQ]; simp only [k_both, if_neg c1, if_neg c2, if_neg c3, if_pos c4, if_neg c5, mrow_self]))
          · skip
            refine G.sl [(.iconst 0, 1, 0, 0, 0, nI 0), (.goto 17, 3, 60, 0, 0, 0)] [] (pc2 := 60) (ls2 := [some (.int x0), some (.int x1), some (.int x2)]) (st2 := [.int (nI 0)]) (M2 := M) (Ps := []) (by decide +kernel) rfl rfl trivial ?_
            exact G.reti (by decide +kernel) rfl rfl (Nat.le_of_ble_eq_true rfl) (Nat.le_of_ble_eq_true rfl) ((by rw [hQ]; simp only [k_both, if_neg c1, if_neg c2, if_neg c3, if_pos c4, if_pos c5, mrow_self]))
        · skip
          refine G.sl [(.iload_n 0, 1, 0, 0, 0, 0), (.bipush 8, 2, 0, 0, 0, nI 8)] [] (pc2 := 35) (ls2 := [some (.int x0), some (.int x1), some (.int x2)]) (st2 := [.int (nI 8), .int x0]) (M2 := M) (Ps := []) (by decide +kernel) rfl rfl trivial ?_
          refine G.ic_ne (off := (26)) (tgt := 61) (by decide +kernel) rfl (fun c6 => ?_) (fun c6 => ?_)
          · skip
            refine G.sl [(.iload_n 1, 1, 1, 0, 0, 0), (.iload_n 2, 1, 2, 0, 0, 0)] [] (pc2 := 63) (ls2 := [some (.int x0), some (.int x1), some (.int x2)]) (st2 := [.int x2, .int x1]) (M2 := M) (Ps := []) (by decide +kernel) rfl rfl trivial ?_
            refine G.ic_ge (off := (7)) (tgt := 70) (by decide +kernel) rfl (fun c7 => ?_) (fun c7 => ?_)
            · skip
              refine G.sl [(.iconst 0, 1, 0, 0, 0, nI 0), (.iload_n 0, 1, 0, 0, 0, 0), (.bipush 6, 2, 0, 0, 0, nI 6)] [] (pc2 := 74) (ls2 := [some (.int x0), some (.int x1), some (.int x2)]) (st2 := [.int (nI 6), .int x0, .int (nI 0)]) (M2 := M) (Ps := []) (by decide +kernel) rfl rfl trivial ?_
              refine G.ic_ne (off := (7)) (tgt := 81) (by decide +kernel) rfl (fun c8 => ?_) (fun c8 => ?_)
              · skip
                refine G.sl [(.iconst 0, 1, 0, 0, 0, nI 0)] [] (pc2 := 82) (ls2 := [some (.int x0), some (.int x1), some (.int x2)]) (st2 := [.int (nI 0), .int (nI 0)]) (M2 := M) (Ps := []) (by decide +kernel) rfl rfl trivial ?_
                refine G.ic_ne (off := (7)) (tgt := 89) (by decide +kernel) rfl (fun h9 => absurd (by decide) h9) (fun _ => ?_)
                refine G.sl [(.iload_n 1, 1, 1, 0, 0, 0), (.goto 4, 3, 90, 0, 0, 0)] [] (pc2 := 90) (ls2 := [some (.int x0), some (.int x1), some (.int x2)]) (st2 := [.int x1]) (M2 := M) (Ps := []) (by decide +kernel) rfl rfl trivial ?_
                exact G.reti (by decide +kernel) rfl rfl (Nat.le_of_ble_eq_true rfl) (Nat.le_of_ble_eq_true rfl) ((by rw [hQ]; simp only [k_both, if_neg c1, if_neg c2, if_neg c3, if_neg c4, if_neg c6, if_pos c7, if_neg c8, mrow_self]))
              · skip
                refine G.sl [(.iconst 1, 1, 0, 0, 0, nI 1), (.goto 4, 3, 82, 0, 0, 0)] [] (pc2 := 82) (ls2 := [some (.int x0), some (.int x1), some (.int x2)]) (st2 := [.int (nI 1), .int (nI 0)]) (M2 := M) (Ps := []) (by decide +kernel) rfl rfl trivial ?_
                refine G.ic_ne (off := (7)) (tgt := 89) (by decide +kernel) rfl (fun _ => ?_) (fun h9 => absurd h9 (by decide))
                refine G.sl [(.iload_n 2, 1, 2, 0, 0, 0)] [] (pc2 := 90) (ls2 := [some (.int x0), some (.int x1), some (.int x2)]) (st2 := [.int x2]) (M2 := M) (Ps := []) (by decide +kernel) rfl rfl trivial ?_
                exact G.reti (by decide +kernel) rfl rfl (Nat.le_of_ble_eq_true rfl) (Nat.le_of_ble_eq_true rfl) ((by rw [hQ]; simp only [k_both, if_neg c1, if_neg c2, if_neg c3, if_neg c4, if_neg c6, if_pos c7, if_pos c8, mrow_self]))
            · skip
              refine G.sl [(.iconst 1, 1, 0, 0, 0, nI 1), (.goto 4, 3, 71, 0, 0, 0), (.iload_n 0, 1, 0, 0, 0, 0), (.bipush 6, 2, 0, 0, 0, nI 6)] [] (pc2 := 74) (ls2 := [some (.int x0), some (.int x1), some (.int x2)]) (st2 := [.int (nI 6), .int x0, .int (nI 1)]) (M2 := M) (Ps := []) (by decide +kernel) rfl rfl trivial ?_
              refine G.ic_ne (off := (7)) (tgt := 81) (by decide +kernel) rfl (fun c9 => ?_) (fun c9 => ?_)
              · skip
                refine G.sl [(.iconst 0, 1, 0, 0, 0, nI 0)] [] (pc2 := 82) (ls2 := [some (.int x0), some (.int x1), some (.int x2)]) (st2 := [.int (nI 0), .int (nI 1)]) (M2 := M) (Ps := []) (by decide +kernel) rfl rfl trivial ?_
                refine G.ic_ne (off := (7)) (tgt := 89) (by decide +kernel) rfl (fun _ => ?_) (fun h9 => absurd h9 (by decide))
                refine G.sl [(.iload_n 2, 1, 2, 0, 0, 0)] [] (pc2 := 90) (ls2 := [some (.int x0), some (.int x1), some (.int x2)]) (st2 := [.int x2]) (M2 := M) (Ps := []) (by decide +kernel) rfl rfl trivial ?_
                exact G.reti (by decide +kernel) rfl rfl (Nat.le_of_ble_eq_true rfl) (Nat.le_of_ble_eq_true rfl) ((by rw [hQ]; simp only [k_both, if_neg c1, if_neg c2, if_neg c3, if_neg c4, if_neg c6, if_neg c7, if_neg c9, mrow_self]))
              · skip
                refine G.sl [(.iconst 1, 1, 0, 0, 0, nI 1), (.goto 4, 3, 82, 0, 0, 0)] [] (pc2 := 82) (ls2 := [some (.int x0), some (.int x1), some (.int x2)]) (st2 := [.int (nI 1), .int (nI 1)]) (M2 := M) (Ps := []) (by decide +kernel) rfl rfl trivial ?_
                refine G.ic_ne (off := (7)) (tgt := 89) (by decide +kernel) rfl (fun h9 => absurd (by decide) h9) (fun _ => ?_)
                refine G.sl [(.iload_n 1, 1, 1, 0, 0, 0), (.goto 4, 3, 90, 0, 0, 0)] [] (pc2 := 90) (ls2 := [some (.int x0), some (.int x1), some (.int x2)]) (st2 := [.int x1]) (M2 := M) (Ps := []) (by decide +kernel) rfl rfl trivial ?_
                exact G.reti (by decide +kernel) rfl rfl (Nat.le_of_ble_eq_true rfl) (Nat.le_of_ble_eq_true rfl) ((by rw [hQ]; simp only [k_both, if_neg c1, if_neg c2, if_neg c3, if_neg c4, if_neg c6, if_neg c7, if_pos c9, mrow_self]))
          · skip
            refine G.sl [(.iload_n 2, 1, 2, 0, 0, 0)] [] (pc2 := 39) (ls2 := [some (.int x0), some (.int x1), some (.int x2)]) (st2 := [.int x2]) (M2 := M) (Ps := []) (by decide +kernel) rfl rfl trivial ?_
            refine G.if_ne (off := (7)) (tgt := 46) (by decide +kernel) rfl (fun c10 => ?_) (fun c10 => ?_)
            · skip
              refine G.sl [(.iload_n 0, 1, 0, 0, 0, 0), (.iconst 5, 1, 0, 0, 0, nI 5)] [] (pc2 := 48) (ls2 := [some (.int x0), some (.int x1), some (.int x2)]) (st2 := [.int (nI 5), .int x0]) (M2 := M) (Ps := []) (by decide +kernel) rfl rfl trivial ?_
              refine G.ic_ne (off := (9)) (tgt := 57) (by decide +kernel) rfl (fun _ => ?_) (fun h9 => absurd h9 c4)
              refine G.sl [(.iload_n 1, 1, 1, 0, 0, 0), (.iload_n 2, 1, 2, 0, 0, 0), (.irem, 1, 0, 0, 0, 0)] [] (pc2 := 60) (ls2 := [some (.int x0), some (.int x1), some (.int x2)]) (st2 := [.int (x1 - x1 / x2 * x2)]) (M2 := M) (Ps := [¬ x2 = 0]) (by decide +kernel) rfl rfl ⟨c10, trivial⟩ ?_
              exact G.reti (by decide +kernel) rfl rfl (Nat.le_of_ble_eq_true rfl) (Nat.le_of_ble_eq_true rfl) ((by rw [hQ]; simp only [k_both, if_neg c1, if_neg c2, if_neg c3, if_neg c4, if_pos c6, if_neg c10, mrow_self]))
            · skip
              refine G.sl [(.iconst 0, 1, 0, 0, 0, nI 0), (.goto 17, 3, 60, 0, 0, 0)] [] (pc2 := 60) (ls2 := [some (.int x0), some (.int x1), some (.int x2)]) (st2 := [.int (nI 0)]) (M2 := M) (Ps := []) (by decide +kernel) rfl rfl trivial ?_
              exact G.reti (by decide +kernel) rfl rfl (Nat.le_of_ble_eq_true rfl) (Nat.le_of_ble_eq_true rfl) ((by rw [hQ]; simp only [k_both, if_neg c1, if_neg c2, if_neg c3, if_neg c4, if_pos c6, if_pos c10, mrow_self]))
      · skip
        refine G.sl [(.iload_n 1, 1, 1, 0, 0, 0), (.iload_n 2, 1, 2, 0, 0, 0), (.imul, 1, 0, 0, 0, 0)] [] (pc2 := 26) (ls2 := [some (.int x0), some (.int x1), some (.int x2)]) (st2 := [.int (x1 * x2)]) (M2 := M) (Ps := []) (by decide +kernel) rfl rfl trivial ?_
        exact G.reti (by decide +kernel) rfl rfl (Nat.le_of_ble_eq_true rfl) (Nat.le_of_ble_eq_true rfl) ((by rw [hQ]; simp only [k_both, if_neg c1, if_neg c2, if_pos c3, mrow_self]))
    · skip
      refine G.sl [(.iload_n 1, 1, 1, 0, 0, 0), (.iload_n 2, 1, 2, 0, 0, 0), (.isub, 1, 0, 0, 0, 0)] [] (pc2 := 17) (ls2 := [some (.int x0), some (.int x1), some (.int x2)]) (st2 := [.int (x1 - x2)]) (M2 := M) (Ps := []) (by decide +kernel) rfl rfl trivial ?_
      exact G.reti (by decide +kernel) rfl rfl (Nat.le_of_ble_eq_true rfl) (Nat.le_of_ble_eq_true rfl) ((by rw [hQ]; simp only [k_both, if_neg c1, if_pos c2, mrow_self]))
  · skip
    refine G.sl [(.iload_n 1, 1, 1, 0, 0, 0), (.iload_n 2, 1, 2, 0, 0, 0), (.iadd, 1, 0, 0, 0, 0)] [] (pc2 := 8) (ls2 := [some (.int x0), some (.int x1), some (.int x2)]) (st2 := [.int (x1 + x2)]) (M2 := M) (Ps := []) (by decide +kernel) rfl rfl trivial ?_
    exact G.reti (by decide +kernel) rfl rfl (Nat.le_of_ble_eq_true rfl) (Nat.le_of_ble_eq_true rfl) ((by rw [hQ]; simp only [k_both, if_pos c1, mrow_self]))
set_option maxHeartbeats 4000000 in
set_option maxRecDepth 3000 in
theorem lp_k_valueNow_54_4 (z : Zp) (d : Nat) (M : Mem) (Q : Rs → Prop) : ∀ (k0 : Nat) (s1 : Int32) (s2 : Int32) (q67 : (Nat → Int32)), k_valueNow_4_ok (M.1 54) (M.1 65) (M.1 66) (M.1 68) k0 s1 s2 q67 → (match k_valueNow_4 (M.1 54) (M.1 65) (M.1 66) (M.1 68) k0 s1 s2 q67 with | (s1', s2', q67') => G z mX12_valueNow (d + 1) 0 0 95 [some (.ref 54), none, none, none] [] (mrow M 67 (q67')) Q) → G z mX12_valueNow (d + 1) 0 0 4 [some (.ref 54), some (.int s1), some (.int s2), none] [] (mrow M 67 q67) Q := by
  intro k0
  induction k0 with
  | zero =>
      intro s1 s2 q67 hk hX
      exact (by simpa only [k_valueNow_4_ok] using hk : False).elim
  | succ k0 ih =>
      intro s1 s2 q67 hk hX
      simp only [k_valueNow_4_ok] at hk
      refine G.sl [(.iload_n 2, 1, 2, 0, 0, 0), (.aload_n 0, 1, 0, 0, 0, 0), (.getfield 172, 3, 11, 30, 153, 0)] [] (pc2 := 9) (ls2 := [some (.ref 54), some (.int s1), some (.int s2), none]) (st2 := [.int (M.1 54 30), .int s2]) (M2 := mrow M 67 q67) (Ps := []) (by decide +kernel) rfl rfl trivial ?_
      refine G.ic_ge (off := (86)) (tgt := 95) (by decide +kernel) rfl (fun c1 => ?_) (fun c1 => ?_)
      · skip
        rw [if_pos c1] at hk
        refine G.loc (ls2 := [some (.ref 54), none, none, none]) (by simp [subL]) ?_
        simp only [k_valueNow_4, if_pos c1] at hX
        exact hX
      · skip
        rw [if_neg c1] at hk
        obtain ⟨k2, k3, hk⟩ := hk
        refine G.sl [(.aload_n 0, 1, 0, 0, 0, 0), (.getfield 47, 3, 11, 26, 149, 0), (.iload_n 2, 1, 2, 0, 0, 0), (.iaload, 1, 0, 0, 0, 0), (.istore_n 3, 1, 3, 0, 0, 0), (.iload_n 3, 1, 3, 0, 0, 0), (.iconst 1, 1, 0, 0, 0, nI 1)] [ix s2] (pc2 := 21) (ls2 := [some (.ref 54), some (.int s1), some (.int s2), some (.int (M.1 65 (ix s2)))]) (st2 := [.int (nI 1), .int (M.1 65 (ix s2))]) (M2 := mrow M 67 q67) (Ps := [s2 = nI (ix s2) ∧ (ix s2) < 150]) (by decide +kernel) rfl rfl ⟨⟨(ixE k2), k3⟩, trivial⟩ ?_
        refine G.ic_gt (off := (39)) (tgt := 60) (by decide +kernel) rfl (fun c4 => ?_) (fun c4 => ?_)
        · skip
          rw [if_pos c4] at hk
          refine G.sl [(.iinc 1 (-1), 3, 1, 0, 0, (-1))] [] (pc2 := 63) (ls2 := [some (.ref 54), some (.int (s1 + (-1))), some (.int s2), some (.int (M.1 65 (ix s2)))]) (st2 := []) (M2 := mrow M 67 q67) (Ps := []) (by decide +kernel) rfl rfl trivial ?_
          obtain ⟨w5, hw5⟩ : ∃ w : Int32, w = (s1 + (-1)) := ⟨_, rfl⟩
          rw [← hw5]
          try rw [← hw5] at hk
          obtain ⟨k6, k7, k8, k9, hk⟩ := hk
          refine G.sl [(.aload_n 0, 1, 0, 0, 0, 0), (.getfield 53, 3, 11, 28, 151, 0), (.iload_n 1, 1, 1, 0, 0, 0), (.iconst 1, 1, 0, 0, 0, nI 1), (.isub, 1, 0, 0, 0, 0), (.iload_n 3, 1, 3, 0, 0, 0), (.aload_n 0, 1, 0, 0, 0, 0), (.getfield 53, 3, 11, 28, 151, 0), (.iload_n 1, 1, 1, 0, 0, 0), (.iconst 1, 1, 0, 0, 0, nI 1), (.isub, 1, 0, 0, 0, 0), (.iaload, 1, 0, 0, 0, 0), (.aload_n 0, 1, 0, 0, 0, 0), (.getfield 53, 3, 11, 28, 151, 0), (.iload_n 1, 1, 1, 0, 0, 0), (.iaload, 1, 0, 0, 0, 0)] [ix (w5 - (nI 1)), ix w5] (pc2 := 85) (ls2 := [some (.ref 54), some (.int w5), some (.int s2), some (.int (M.1 65 (ix s2)))]) (st2 := [.int (q67 (ix w5)), .int (q67 (ix (w5 - (nI 1)))), .int (M.1 65 (ix s2)), .int (w5 - (nI 1)), .ref 67]) (M2 := mrow M 67 q67) (Ps := [(w5 - (nI 1)) = nI (ix (w5 - (nI 1))) ∧ (ix (w5 - (nI 1))) < 150, w5 = nI (ix w5) ∧ (ix w5) < 150]) (by decide +kernel) rfl rfl ⟨⟨(ixE k6), k7⟩, ⟨(ixE k8), k9⟩, trivial⟩ ?_
          obtain ⟨k10, hk⟩ := hk
          have t11 : GM z mX12_both (d) [.int (M.1 65 (ix s2)), .int (q67 (ix (w5 - (nI 1)))), .int (q67 (ix w5))] (mrow M 67 q67) (fun rs => rs = .inl (some (.int (k_both (M.1 65 (ix s2)) (q67 (ix (w5 - (nI 1)))) (q67 (ix w5)))), mrow M 67 q67)) := by
            have q9 := c_k_both z d (mrow M 67 q67) (M.1 65 (ix s2)) (q67 (ix (w5 - (nI 1)))) (q67 (ix w5))
            try simp only [mput, mrow_same, mrow_hit, mrow_miss, mrow_sw, idr_eq, ne_eq, Nat.reduceEqDiff, not_false_eq_true, Nat.reduceLT, reduceCtorEq] at q9
            exact q9
          refine G.callS (as := [.int (M.1 65 (ix s2)), .int (q67 (ix (w5 - (nI 1)))), .int (q67 (ix w5))]) (rest := [.int (w5 - (nI 1)), .ref 67]) oX12_both lk_EvenFindersModel_288 (by decide +kernel) rfl (Nat.le_of_ble_eq_true rfl) rfl ⟨Nat.le_of_ble_eq_true rfl, Nat.le_of_ble_eq_true rfl⟩ t11 (fun v9 N9 h12 => ?_) (fun E9 N9 h12 => by cases h12)
          cases h12
          show G z mX12_valueNow (d + 1) 0 0 88 [some (.ref 54), some (.int w5), some (.int s2), some (.int (M.1 65 (ix s2)))] [.int (k_both (M.1 65 (ix s2)) (q67 (ix (w5 - (nI 1)))) (q67 (ix w5))), .int (w5 - (nI 1)), .ref 67] (mrow M 67 q67) Q
          refine G.sl [(.iastore, 1, 0, 0, 0, 0), (.iinc 2 1, 3, 2, 0, 0, nI 1), (.goto (-88), 3, 4, 0, 0, 0)] [ix (w5 - (nI 1))] (pc2 := 4) (ls2 := [some (.ref 54), some (.int w5), some (.int (s2 + nI 1)), some (.int (M.1 65 (ix s2)))]) (st2 := []) (M2 := mput (mrow M 67 q67) 67 (ix (w5 - (nI 1))) (k_both (M.1 65 (ix s2)) (q67 (ix (w5 - (nI 1)))) (q67 (ix w5)))) (Ps := [(w5 - (nI 1)) = nI (ix (w5 - (nI 1))) ∧ (ix (w5 - (nI 1))) < 150]) (by decide +kernel) rfl rfl ⟨⟨(ixE k6), k7⟩, trivial⟩ ?_
          refine G.mem (M' := mrow M 67 (upd q67 (ix (w5 - (nI 1))) (k_both (M.1 65 (ix s2)) (q67 (ix (w5 - (nI 1)))) (q67 (ix w5))))) (by first | rfl | (simp only [mput, mrow_same, mrow_hit, mrow_miss, mrow_sw, idr_eq, ne_eq, Nat.reduceEqDiff, not_false_eq_true, Nat.reduceLT, reduceCtorEq]; done)) ?_
          refine G.loc (ls2 := [some (.ref 54), some (.int w5), some (.int (s2 + nI 1)), none]) (by simp [subL]) ?_
          simp only [k_valueNow_4, if_neg c1, if_pos c4, ← hw5] at hX
          exact ih w5 (s2 + nI 1) (upd q67 (ix (w5 - (nI 1))) (k_both (M.1 65 (ix s2)) (q67 (ix (w5 - (nI 1)))) (q67 (ix w5)))) hk hX
        · skip
          rw [if_neg c4] at hk
          refine G.sl [(.aload_n 0, 1, 0, 0, 0, 0), (.getfield 53, 3, 11, 28, 151, 0), (.iload_n 1, 1, 1, 0, 0, 0), (.iload_n 3, 1, 3, 0, 0, 0)] [] (pc2 := 30) (ls2 := [some (.ref 54), some (.int s1), some (.int s2), some (.int (M.1 65 (ix s2)))]) (st2 := [.int (M.1 65 (ix s2)), .int s1, .ref 67]) (M2 := mrow M 67 q67) (Ps := []) (by decide +kernel) rfl rfl trivial ?_
          refine G.if_ne (off := (12)) (tgt := 42) (by decide +kernel) rfl (fun c13 => ?_) (fun c13 => ?_)
          · skip
            rw [if_neg c13] at hk
            obtain ⟨k14, k15, k16, k17, hk⟩ := hk
            refine G.sl [(.aload_n 0, 1, 0, 0, 0, 0), (.getfield 56, 3, 11, 31, 154, 0), (.aload_n 0, 1, 0, 0, 0, 0), (.getfield 50, 3, 11, 27, 150, 0), (.iload_n 2, 1, 2, 0, 0, 0), (.iaload, 1, 0, 0, 0, 0), (.iaload, 1, 0, 0, 0, 0), (.iastore, 1, 0, 0, 0, 0), (.iinc 1 1, 3, 1, 0, 0, nI 1), (.goto 32, 3, 89, 0, 0, 0), (.iinc 2 1, 3, 2, 0, 0, nI 1), (.goto (-88), 3, 4, 0, 0, 0)] [ix s2, ix (M.1 66 (ix s2)), ix s1] (pc2 := 4) (ls2 := [some (.ref 54), some (.int (s1 + nI 1)), some (.int (s2 + nI 1)), some (.int (M.1 65 (ix s2)))]) (st2 := []) (M2 := mput (mrow M 67 q67) 67 (ix s1) (M.1 68 (ix (M.1 66 (ix s2))))) (Ps := [s2 = nI (ix s2) ∧ (ix s2) < 150, (M.1 66 (ix s2)) = nI (ix (M.1 66 (ix s2))) ∧ (ix (M.1 66 (ix s2))) < 8, s1 = nI (ix s1) ∧ (ix s1) < 150]) (by decide +kernel) rfl rfl ⟨⟨(ixE k2), k3⟩, ⟨(ixE k14), k15⟩, ⟨(ixE k16), k17⟩, trivial⟩ ?_
            refine G.mem (M' := mrow M 67 (upd q67 (ix s1) (M.1 68 (ix (M.1 66 (ix s2)))))) (by first | rfl | (simp only [mput, mrow_same, mrow_hit, mrow_miss, mrow_sw, idr_eq, ne_eq, Nat.reduceEqDiff, not_false_eq_true, Nat.reduceLT, reduceCtorEq]; done)) ?_
            refine G.loc (ls2 := [some (.ref 54), some (.int (s1 + nI 1)), some (.int (s2 + nI 1)), none]) (by simp [subL]) ?_
            simp only [k_valueNow_4, if_neg c1, if_neg c4, if_neg c13] at hX
            exact ih (s1 + nI 1) (s2 + nI 1) (upd q67 (ix s1) (M.1 68 (ix (M.1 66 (ix s2))))) hk hX
          · skip
            rw [if_pos c13] at hk
            obtain ⟨k18, k19, hk⟩ := hk
            refine G.sl [(.aload_n 0, 1, 0, 0, 0, 0), (.getfield 50, 3, 11, 27, 150, 0), (.iload_n 2, 1, 2, 0, 0, 0), (.iaload, 1, 0, 0, 0, 0), (.goto 14, 3, 53, 0, 0, 0), (.iastore, 1, 0, 0, 0, 0), (.iinc 1 1, 3, 1, 0, 0, nI 1), (.goto 32, 3, 89, 0, 0, 0), (.iinc 2 1, 3, 2, 0, 0, nI 1), (.goto (-88), 3, 4, 0, 0, 0)] [ix s2, ix s1] (pc2 := 4) (ls2 := [some (.ref 54), some (.int (s1 + nI 1)), some (.int (s2 + nI 1)), some (.int (M.1 65 (ix s2)))]) (st2 := []) (M2 := mput (mrow M 67 q67) 67 (ix s1) (M.1 66 (ix s2))) (Ps := [s2 = nI (ix s2) ∧ (ix s2) < 150, s1 = nI (ix s1) ∧ (ix s1) < 150]) (by decide +kernel) rfl rfl ⟨⟨(ixE k2), k3⟩, ⟨(ixE k18), k19⟩, trivial⟩ ?_
            refine G.mem (M' := mrow M 67 (upd q67 (ix s1) (M.1 66 (ix s2)))) (by first | rfl | (simp only [mput, mrow_same, mrow_hit, mrow_miss, mrow_sw, idr_eq, ne_eq, Nat.reduceEqDiff, not_false_eq_true, Nat.reduceLT, reduceCtorEq]; done)) ?_
            refine G.loc (ls2 := [some (.ref 54), some (.int (s1 + nI 1)), some (.int (s2 + nI 1)), none]) (by simp [subL]) ?_
            simp only [k_valueNow_4, if_neg c1, if_neg c4, if_pos c13] at hX
            exact ih (s1 + nI 1) (s2 + nI 1) (upd q67 (ix s1) (M.1 66 (ix s2))) hk hX
set_option maxHeartbeats 4000000 in
set_option maxRecDepth 3000 in
theorem c_k_valueNow_54 (z : Zp) (d : Nat) (M : Mem) (hk : k_valueNow_ok (M.1 54) (M.1 65) (M.1 66) (M.1 67) (M.1 68)) : GM z mX12_valueNow (d + 1) [.ref 54] M (fun rs => rs = .inl (some (.int ((k_valueNow (M.1 54) (M.1 65) (M.1 66) (M.1 67) (M.1 68)).1)), mrow M 67 ((k_valueNow (M.1 54) (M.1 65) (M.1 66) (M.1 67) (M.1 68)).2))) := by
  simp only [k_valueNow_ok] at hk
  refine GM.of oX12_valueNow.1 (Nat.le_of_ble_eq_true rfl) ?_
  show G z mX12_valueNow (d + 1) 0 0 0 [some (.ref 54), none, none, none] [] M _
  obtain ⟨Q, hQ⟩ : ∃ Q : Rs → Prop, Q = (fun rs => rs = .inl (some (.int ((k_valueNow (M.1 54) (M.1 65) (M.1 66) (M.1 67) (M.1 68)).1)), mrow M 67 ((k_valueNow (M.1 54) (M.1 65) (M.1 66) (M.1 67) (M.1 68)).2))) := ⟨_, rfl⟩
  rw [← hQ]
  refine G.sl [(.iconst 0, 1, 0, 0, 0, nI 0), (.istore_n 1, 1, 1, 0, 0, 0), (.iconst 0, 1, 0, 0, 0, nI 0), (.istore_n 2, 1, 2, 0, 0, 0)] [] (pc2 := 4) (ls2 := [some (.ref 54), some (.int (nI 0)), some (.int (nI 0)), none]) (st2 := []) (M2 := M) (Ps := []) (by decide +kernel) rfl rfl trivial ?_
  obtain ⟨k20, hk⟩ := hk
  refine G.mem (M' := mrow M 67 (M.1 67)) (by simp only [mrow_self]) ?_
  refine lp_k_valueNow_54_4 z d M Q FU (nI 0) (nI 0) (M.1 67) (by first | (simp only [mput, mrow_same, mrow_hit, mrow_miss, mrow_sw, idr_eq, ne_eq, Nat.reduceEqDiff, not_false_eq_true, Nat.reduceLT, reduceCtorEq]; exact k20) | exact k20) ?_
  try simp only [mput, mrow_same, mrow_hit, mrow_miss, mrow_sw, idr_eq, ne_eq, Nat.reduceEqDiff, not_false_eq_true, Nat.reduceLT, reduceCtorEq]
  rcases g21 : k_valueNow_4 (M.1 54) (M.1 65) (M.1 66) (M.1 68) FU (nI 0) (nI 0) (M.1 67) with ⟨v22, v23, r24⟩
  show G z mX12_valueNow (d + 1) 0 0 95 [some (.ref 54), none, none, none] [] (mrow M 67 r24) Q
  refine G.sl [(.aload_n 0, 1, 0, 0, 0, 0), (.getfield 53, 3, 11, 28, 151, 0), (.iconst 0, 1, 0, 0, 0, nI 0), (.iaload, 1, 0, 0, 0, 0)] [0] (pc2 := 101) (ls2 := [some (.ref 54), none, none, none]) (st2 := [.int (r24 0)]) (M2 := mrow M 67 r24) (Ps := [(nI 0) = nI 0 ∧ 0 < 150]) (by decide +kernel) rfl rfl ⟨⟨rfl, (by omega)⟩, trivial⟩ ?_
  exact G.reti (by decide +kernel) rfl rfl (Nat.le_of_ble_eq_true rfl) (Nat.le_of_ble_eq_true rfl) ((by rw [hQ]; simp only [k_valueNow, g21, mrow_self]))
set_option maxHeartbeats 4000000 in
set_option maxRecDepth 3000 in
theorem c_k_dutyNow_54 (z : Zp) (d : Nat) (M : Mem) (hk : k_dutyNow_ok (M.1 54) (M.1 65) (M.1 66) (M.1 67) (M.1 68)) : GM z mX12_dutyNow (d + 2) [.ref 54] M (fun rs => rs = .inl (some (.int ((k_dutyNow (M.1 54) (M.1 65) (M.1 66) (M.1 67) (M.1 68)).1)), mrow M 67 ((k_dutyNow (M.1 54) (M.1 65) (M.1 66) (M.1 67) (M.1 68)).2))) := by
  simp only [k_dutyNow_ok] at hk
  refine GM.of oX12_dutyNow.1 (Nat.le_of_ble_eq_true rfl) ?_
  show G z mX12_dutyNow (d + 2) 0 0 0 [some (.ref 54), none] [] M _
  obtain ⟨Q, hQ⟩ : ∃ Q : Rs → Prop, Q = (fun rs => rs = .inl (some (.int ((k_dutyNow (M.1 54) (M.1 65) (M.1 66) (M.1 67) (M.1 68)).1)), mrow M 67 ((k_dutyNow (M.1 54) (M.1 65) (M.1 66) (M.1 67) (M.1 68)).2))) := ⟨_, rfl⟩
  rw [← hQ]
  refine G.sl [(.aload_n 0, 1, 0, 0, 0, 0), (.getfield 172, 3, 11, 30, 153, 0)] [] (pc2 := 4) (ls2 := [some (.ref 54), none]) (st2 := [.int (M.1 54 30)]) (M2 := M) (Ps := []) (by decide +kernel) rfl rfl trivial ?_
  refine G.if_ne (off := (12)) (tgt := 16) (by decide +kernel) rfl (fun c1 => ?_) (fun c1 => ?_)
  · skip
    rw [if_neg c1] at hk
    refine G.sl [(.aload_n 0, 1, 0, 0, 0, 0)] [] (pc2 := 17) (ls2 := [some (.ref 54), none]) (st2 := [.ref 54]) (M2 := M) (Ps := []) (by decide +kernel) rfl rfl trivial ?_
    obtain ⟨k2, hk⟩ := hk
    rcases g3 : k_valueNow (M.1 54) (M.1 65) (M.1 66) (M.1 67) (M.1 68) with ⟨v4, r5⟩
    have t6 : GM z mX12_valueNow (d + 1) [.ref 54] M (fun rs => rs = .inl (some (.int v4), mrow M 67 r5)) := by
      have q9 := c_k_valueNow_54 z d M k2
      try simp only [mput, mrow_same, mrow_hit, mrow_miss, mrow_sw, idr_eq, ne_eq, Nat.reduceEqDiff, not_false_eq_true, Nat.reduceLT, reduceCtorEq, g3] at q9
      exact q9
    refine G.callV (as := []) (rest := []) (a := 54) oX12_valueNow lk_EvenFindersModel_292 (by decide +kernel) rfl rfl ⟨rfl, rfl⟩ (Nat.le_of_ble_eq_true rfl) rfl ⟨Nat.le_of_ble_eq_true rfl, Nat.le_of_ble_eq_true rfl⟩ t6 (fun v9 N9 h7 => ?_) (fun E9 N9 h7 => by cases h7)
    cases h7
    show G z mX12_dutyNow (d + 2) 0 0 20 [some (.ref 54), none] [.int v4] (mrow M 67 r5) Q
    refine G.sl [(.istore_n 1, 1, 1, 0, 0, 0), (.iload_n 1, 1, 1, 0, 0, 0)] [] (pc2 := 22) (ls2 := [some (.ref 54), some (.int v4)]) (st2 := [.int v4]) (M2 := mrow M 67 r5) (Ps := []) (by decide +kernel) rfl rfl trivial ?_
    refine G.if_ge (off := (7)) (tgt := 29) (by decide +kernel) rfl (fun c8 => ?_) (fun c8 => ?_)
    · skip
      refine G.sl [(.iload_n 1, 1, 1, 0, 0, 0), (.bipush 99, 2, 0, 0, 0, nI 99)] [] (pc2 := 32) (ls2 := [some (.ref 54), some (.int v4)]) (st2 := [.int (nI 99), .int v4]) (M2 := mrow M 67 r5) (Ps := []) (by decide +kernel) rfl rfl trivial ?_
      refine G.ic_le (off := (8)) (tgt := 40) (by decide +kernel) rfl (fun c9 => ?_) (fun c9 => ?_)
      · skip
        refine G.sl [(.iload_n 1, 1, 1, 0, 0, 0)] [] (pc2 := 41) (ls2 := [some (.ref 54), some (.int v4)]) (st2 := [.int v4]) (M2 := mrow M 67 r5) (Ps := []) (by decide +kernel) rfl rfl trivial ?_
        exact G.reti (by decide +kernel) rfl rfl (Nat.le_of_ble_eq_true rfl) (Nat.le_of_ble_eq_true rfl) ((by rw [hQ]; simp only [k_dutyNow, if_neg c1, g3, if_pos c8, if_pos c9, mrow_self]))
      · skip
        refine G.sl [(.bipush 99, 2, 0, 0, 0, nI 99), (.goto 4, 3, 41, 0, 0, 0)] [] (pc2 := 41) (ls2 := [some (.ref 54), some (.int v4)]) (st2 := [.int (nI 99)]) (M2 := mrow M 67 r5) (Ps := []) (by decide +kernel) rfl rfl trivial ?_
        exact G.reti (by decide +kernel) rfl rfl (Nat.le_of_ble_eq_true rfl) (Nat.le_of_ble_eq_true rfl) ((by rw [hQ]; simp only [k_dutyNow, if_neg c1, g3, if_pos c8, if_neg c9, mrow_self]))
    · skip
      refine G.sl [(.iconst 0, 1, 0, 0, 0, nI 0), (.goto 15, 3, 41, 0, 0, 0)] [] (pc2 := 41) (ls2 := [some (.ref 54), some (.int v4)]) (st2 := [.int (nI 0)]) (M2 := mrow M 67 r5) (Ps := []) (by decide +kernel) rfl rfl trivial ?_
      exact G.reti (by decide +kernel) rfl rfl (Nat.le_of_ble_eq_true rfl) (Nat.le_of_ble_eq_true rfl) ((by rw [hQ]; simp only [k_dutyNow, if_neg c1, g3, if_neg c8, mrow_self]))
  · skip
    rw [if_pos c1] at hk
    refine G.sl [(.aload_n 0, 1, 0, 0, 0, 0), (.getfield 56, 3, 11, 31, 154, 0), (.iconst 0, 1, 0, 0, 0, nI 0), (.iaload, 1, 0, 0, 0, 0), (.goto 7, 3, 20, 0, 0, 0), (.istore_n 1, 1, 1, 0, 0, 0), (.iload_n 1, 1, 1, 0, 0, 0)] [0] (pc2 := 22) (ls2 := [some (.ref 54), some (.int (M.1 68 0))]) (st2 := [.int (M.1 68 0)]) (M2 := M) (Ps := [(nI 0) = nI 0 ∧ 0 < 8]) (by decide +kernel) rfl rfl ⟨⟨rfl, (by omega)⟩, trivial⟩ ?_
    refine G.if_ge (off := (7)) (tgt := 29) (by decide +kernel) rfl (fun c10 => ?_) (fun c10 => ?_)
    · skip
      refine G.sl [(.iload_n 1, 1, 1, 0, 0, 0), (.bipush 99, 2, 0, 0, 0, nI 99)] [] (pc2 := 32) (ls2 := [some (.ref 54), some (.int (M.1 68 0))]) (st2 := [.int (nI 99), .int (M.1 68 0)]) (M2 := M) (Ps := []) (by decide +kernel) rfl rfl trivial ?_
      refine G.ic_le (off := (8)) (tgt := 40) (by decide +kernel) rfl (fun c11 => ?_) (fun c11 => ?_)
      · skip
        refine G.sl [(.iload_n 1, 1, 1, 0, 0, 0)] [] (pc2 := 41) (ls2 := [some (.ref 54), some (.int (M.1 68 0))]) (st2 := [.int (M.1 68 0)]) (M2 := M) (Ps := []) (by decide +kernel) rfl rfl trivial ?_
        refine G.mem (M' := mrow M 67 (M.1 67)) (((mrow_id (N := M) (c := 67) (f := M.1 67) (by first | rfl | (simp only [mput, mrow_same, mrow_hit, mrow_miss, mrow_sw, idr_eq, ne_eq, Nat.reduceEqDiff, not_false_eq_true, Nat.reduceLT, reduceCtorEq]; done))).symm).trans (by first | rfl | (simp only [mput, mrow_same, mrow_hit, mrow_miss, mrow_sw, idr_eq, ne_eq, Nat.reduceEqDiff, not_false_eq_true, Nat.reduceLT, reduceCtorEq]; done))) ?_
        exact G.reti (by decide +kernel) rfl rfl (Nat.le_of_ble_eq_true rfl) (Nat.le_of_ble_eq_true rfl) ((by rw [hQ]; simp only [k_dutyNow, if_pos c1, if_pos c10, if_pos c11, mrow_self]))
      · skip
        refine G.sl [(.bipush 99, 2, 0, 0, 0, nI 99), (.goto 4, 3, 41, 0, 0, 0)] [] (pc2 := 41) (ls2 := [some (.ref 54), some (.int (M.1 68 0))]) (st2 := [.int (nI 99)]) (M2 := M) (Ps := []) (by decide +kernel) rfl rfl trivial ?_
        refine G.mem (M' := mrow M 67 (M.1 67)) (((mrow_id (N := M) (c := 67) (f := M.1 67) (by first | rfl | (simp only [mput, mrow_same, mrow_hit, mrow_miss, mrow_sw, idr_eq, ne_eq, Nat.reduceEqDiff, not_false_eq_true, Nat.reduceLT, reduceCtorEq]; done))).symm).trans (by first | rfl | (simp only [mput, mrow_same, mrow_hit, mrow_miss, mrow_sw, idr_eq, ne_eq, Nat.reduceEqDiff, not_false_eq_true, Nat.reduceLT, reduceCtorEq]; done))) ?_
        exact G.reti (by decide +kernel) rfl rfl (Nat.le_of_ble_eq_true rfl) (Nat.le_of_ble_eq_true rfl) ((by rw [hQ]; simp only [k_dutyNow, if_pos c1, if_pos c10, if_neg c11, mrow_self]))
    · skip
      refine G.sl [(.iconst 0, 1, 0, 0, 0, nI 0), (.goto 15, 3, 41, 0, 0, 0)] [] (pc2 := 41) (ls2 := [some (.ref 54), some (.int (M.1 68 0))]) (st2 := [.int (nI 0)]) (M2 := M) (Ps := []) (by decide +kernel) rfl rfl trivial ?_
      refine G.mem (M' := mrow M 67 (M.1 67)) (((mrow_id (N := M) (c := 67) (f := M.1 67) (by first | rfl | (simp only [mput, mrow_same, mrow_hit, mrow_miss, mrow_sw, idr_eq, ne_eq, Nat.reduceEqDiff, not_false_eq_true, Nat.reduceLT, reduceCtorEq]; done))).symm).trans (by first | rfl | (simp only [mput, mrow_same, mrow_hit, mrow_miss, mrow_sw, idr_eq, ne_eq, Nat.reduceEqDiff, not_false_eq_true, Nat.reduceLT, reduceCtorEq]; done))) ?_
      exact G.reti (by decide +kernel) rfl rfl (Nat.le_of_ble_eq_true rfl) (Nat.le_of_ble_eq_true rfl) ((by rw [hQ]; simp only [k_dutyNow, if_pos c1, if_neg c10, mrow_self]))
set_option maxHeartbeats 4000000 in
set_option maxRecDepth 3000 in
theorem c_k_dutyOf_54 (z : Zp) (d : Nat) (M : Mem) (x1 : Int32) (x2 : Int32) (x3 : Int32) (x4 : Int32) (x5 : Int32) (x6 : Int32) (x7 : Int32) (x8 : Int32) (hk : k_dutyOf_ok (M.1 54) (M.1 65) (M.1 66) (M.1 67) (M.1 68) x1 x2 x3 x4 x5 x6 x7 x8) : GM z mX12_dutyOf (d + 3) [.ref 54, .int x1, .int x2, .int x3, .int x4, .int x5, .int x6, .int x7, .int x8] M (fun rs => rs = .inl (some (.int ((k_dutyOf (M.1 54) (M.1 65) (M.1 66) (M.1 67) (M.1 68) x1 x2 x3 x4 x5 x6 x7 x8).1)), mrow (mrow M 67 ((k_dutyOf (M.1 54) (M.1 65) (M.1 66) (M.1 67) (M.1 68) x1 x2 x3 x4 x5 x6 x7 x8).2.1)) 68 ((k_dutyOf (M.1 54) (M.1 65) (M.1 66) (M.1 67) (M.1 68) x1 x2 x3 x4 x5 x6 x7 x8).2.2))) := by
  simp only [k_dutyOf_ok] at hk
  refine GM.of oX12_dutyOf.1 (Nat.le_of_ble_eq_true rfl) ?_
  show G z mX12_dutyOf (d + 3) 0 0 0 [some (.ref 54), some (.int x1), some (.int x2), some (.int x3), some (.int x4), some (.int x5), some (.int x6), some (.int x7), some (.int x8)] [] M _
  obtain ⟨Q, hQ⟩ : ∃ Q : Rs → Prop, Q = (fun rs => rs = .inl (some (.int ((k_dutyOf (M.1 54) (M.1 65) (M.1 66) (M.1 67) (M.1 68) x1 x2 x3 x4 x5 x6 x7 x8).1)), mrow (mrow M 67 ((k_dutyOf (M.1 54) (M.1 65) (M.1 66) (M.1 67) (M.1 68) x1 x2 x3 x4 x5 x6 x7 x8).2.1)) 68 ((k_dutyOf (M.1 54) (M.1 65) (M.1 66) (M.1 67) (M.1 68) x1 x2 x3 x4 x5 x6 x7 x8).2.2))) := ⟨_, rfl⟩
  rw [← hQ]
  refine G.sl [(.aload_n 0, 1, 0, 0, 0, 0), (.getfield 56, 3, 11, 31, 154, 0), (.iconst 0, 1, 0, 0, 0, nI 0), (.iload_n 1, 1, 1, 0, 0, 0), (.iastore, 1, 0, 0, 0, 0), (.aload_n 0, 1, 0, 0, 0, 0), (.getfield 56, 3, 11, 31, 154, 0), (.iconst 1, 1, 0, 0, 0, nI 1), (.iload_n 2, 1, 2, 0, 0, 0), (.iastore, 1, 0, 0, 0, 0), (.aload_n 0, 1, 0, 0, 0, 0), (.getfield 56, 3, 11, 31, 154, 0), (.iconst 2, 1, 0, 0, 0, nI 2), (.iload_n 3, 1, 3, 0, 0, 0), (.iastore, 1, 0, 0, 0, 0), (.aload_n 0, 1, 0, 0, 0, 0), (.getfield 56, 3, 11, 31, 154, 0), (.iconst 3, 1, 0, 0, 0, nI 3), (.iload 4, 2, 4, 0, 0, 0), (.iastore, 1, 0, 0, 0, 0), (.aload_n 0, 1, 0, 0, 0, 0), (.getfield 56, 3, 11, 31, 154, 0), (.iconst 4, 1, 0, 0, 0, nI 4), (.iload 5, 2, 5, 0, 0, 0), (.iastore, 1, 0, 0, 0, 0), (.aload_n 0, 1, 0, 0, 0, 0), (.getfield 56, 3, 11, 31, 154, 0), (.iconst 5, 1, 0, 0, 0, nI 5), (.iload 6, 2, 6, 0, 0, 0), (.iastore, 1, 0, 0, 0, 0), (.aload_n 0, 1, 0, 0, 0, 0), (.getfield 56, 3, 11, 31, 154, 0), (.bipush 6, 2, 0, 0, 0, nI 6), (.iload 7, 2, 7, 0, 0, 0), (.iastore, 1, 0, 0, 0, 0), (.aload_n 0, 1, 0, 0, 0, 0), (.getfield 56, 3, 11, 31, 154, 0), (.bipush 7, 2, 0, 0, 0, nI 7), (.iload 8, 2, 8, 0, 0, 0), (.iastore, 1, 0, 0, 0, 0), (.aload_n 0, 1, 0, 0, 0, 0)] [0, 1, 2, 3, 4, 5, 6, 7] (pc2 := 64) (ls2 := [some (.ref 54), some (.int x1), some (.int x2), some (.int x3), some (.int x4), some (.int x5), some (.int x6), some (.int x7), some (.int x8)]) (st2 := [.ref 54]) (M2 := mput (mput (mput (mput (mput (mput (mput (mput M 68 0 x1) 68 1 x2) 68 2 x3) 68 3 x4) 68 4 x5) 68 5 x6) 68 6 x7) 68 7 x8) (Ps := [(nI 0) = nI 0 ∧ 0 < 8, (nI 1) = nI 1 ∧ 1 < 8, (nI 2) = nI 2 ∧ 2 < 8, (nI 3) = nI 3 ∧ 3 < 8, (nI 4) = nI 4 ∧ 4 < 8, (nI 5) = nI 5 ∧ 5 < 8, (nI 6) = nI 6 ∧ 6 < 8, (nI 7) = nI 7 ∧ 7 < 8]) (by decide +kernel) rfl rfl ⟨⟨rfl, (by omega)⟩, ⟨rfl, (by omega)⟩, ⟨rfl, (by omega)⟩, ⟨rfl, (by omega)⟩, ⟨rfl, (by omega)⟩, ⟨rfl, (by omega)⟩, ⟨rfl, (by omega)⟩, ⟨rfl, (by omega)⟩, trivial⟩ ?_
  refine G.mem (M' := mrow M 68 (upd (upd (upd (upd (upd (upd (upd (upd (M.1 68) 0 x1) 1 x2) 2 x3) 3 x4) 4 x5) 5 x6) 6 x7) 7 x8)) (by first | rfl | (simp only [mput, mrow_same, mrow_hit, mrow_miss, mrow_sw, idr_eq, ne_eq, Nat.reduceEqDiff, not_false_eq_true, Nat.reduceLT, reduceCtorEq]; done)) ?_
  obtain ⟨k1, hk⟩ := hk
  rcases g2 : k_dutyNow (M.1 54) (M.1 65) (M.1 66) (M.1 67) (upd (upd (upd (upd (upd (upd (upd (upd (M.1 68) 0 x1) 1 x2) 2 x3) 3 x4) 4 x5) 5 x6) 6 x7) 7 x8) with ⟨v3, r4⟩
  have t5 : GM z mX12_dutyNow (d + 2) [.ref 54] (mrow M 68 (upd (upd (upd (upd (upd (upd (upd (upd (M.1 68) 0 x1) 1 x2) 2 x3) 3 x4) 4 x5) 5 x6) 6 x7) 7 x8)) (fun rs => rs = .inl (some (.int v3), mrow (mrow M 67 r4) 68 (upd (upd (upd (upd (upd (upd (upd (upd (M.1 68) 0 x1) 1 x2) 2 x3) 3 x4) 4 x5) 5 x6) 6 x7) 7 x8))) := by
    have q9 := c_k_dutyNow_54 z d (mrow M 68 (upd (upd (upd (upd (upd (upd (upd (upd (M.1 68) 0 x1) 1 x2) 2 x3) 3 x4) 4 x5) 5 x6) 6 x7) 7 x8)) k1
    try simp only [mput, mrow_same, mrow_hit, mrow_miss, mrow_sw, idr_eq, ne_eq, Nat.reduceEqDiff, not_false_eq_true, Nat.reduceLT, reduceCtorEq, g2] at q9
    exact q9
  refine G.callV (as := []) (rest := []) (a := 54) oX12_dutyNow lk_EvenFindersModel_339 (by decide +kernel) rfl rfl ⟨rfl, rfl⟩ (Nat.le_of_ble_eq_true rfl) rfl ⟨Nat.le_of_ble_eq_true rfl, Nat.le_of_ble_eq_true rfl⟩ t5 (fun v9 N9 h6 => ?_) (fun E9 N9 h6 => by cases h6)
  cases h6
  show G z mX12_dutyOf (d + 3) 0 0 67 [some (.ref 54), some (.int x1), some (.int x2), some (.int x3), some (.int x4), some (.int x5), some (.int x6), some (.int x7), some (.int x8)] [.int v3] (mrow (mrow M 67 r4) 68 (upd (upd (upd (upd (upd (upd (upd (upd (M.1 68) 0 x1) 1 x2) 2 x3) 3 x4) 4 x5) 5 x6) 6 x7) 7 x8)) Q
  exact G.reti (by decide +kernel) rfl rfl (Nat.le_of_ble_eq_true rfl) (Nat.le_of_ble_eq_true rfl) ((by rw [hQ]; simp only [k_dutyOf, g2, mrow_self]))
set_option maxHeartbeats 4000000 in
set_option maxRecDepth 3000 in
theorem c_k_dutyBy_54 (z : Zp) (d : Nat) (M : Mem) (n1 : Nat) (n2 : Nat) (nt : Nat) (hnt : nt ≤ 10) (ct : M.1 54 22 = nI nt) (b1 : n1 < 6) (b2 : n2 < 10) (hk : k_dutyBy_ok (M.1 54) (M.1 61) (M.1 65) (M.1 66) (M.1 67) (M.1 68) (M.1 72) nt n1 n2) : GM z mX12_dutyBy (d + 4) [.ref 54, .int (nI n1), .int (nI n2)] M (fun rs => rs = .inl (some (.int ((k_dutyBy (M.1 54) (M.1 61) (M.1 65) (M.1 66) (M.1 67) (M.1 68) (M.1 72) nt n1 n2).1)), mrow (mrow M 67 ((k_dutyBy (M.1 54) (M.1 61) (M.1 65) (M.1 66) (M.1 67) (M.1 68) (M.1 72) nt n1 n2).2.1)) 68 ((k_dutyBy (M.1 54) (M.1 61) (M.1 65) (M.1 66) (M.1 67) (M.1 68) (M.1 72) nt n1 n2).2.2))) := by
  simp only [k_dutyBy_ok] at hk
  refine GM.of oX12_dutyBy.1 (Nat.le_of_ble_eq_true rfl) ?_
  show G z mX12_dutyBy (d + 4) 0 0 0 [some (.ref 54), some (.int (nI n1)), some (.int (nI n2))] [] M _
  obtain ⟨Q, hQ⟩ : ∃ Q : Rs → Prop, Q = (fun rs => rs = .inl (some (.int ((k_dutyBy (M.1 54) (M.1 61) (M.1 65) (M.1 66) (M.1 67) (M.1 68) (M.1 72) nt n1 n2).1)), mrow (mrow M 67 ((k_dutyBy (M.1 54) (M.1 61) (M.1 65) (M.1 66) (M.1 67) (M.1 68) (M.1 72) nt n1 n2).2.1)) 68 ((k_dutyBy (M.1 54) (M.1 61) (M.1 65) (M.1 66) (M.1 67) (M.1 68) (M.1 72) nt n1 n2).2.2))) := ⟨_, rfl⟩
  rw [← hQ]
  refine G.sl [(.aload_n 0, 1, 0, 0, 0, 0), (.aload_n 0, 1, 0, 0, 0, 0), (.getfield 35, 3, 11, 14, 137, 0), (.iconst 3, 1, 0, 0, 0, nI 3), (.iload_n 2, 1, 2, 0, 0, 0), (.imul, 1, 0, 0, 0, 0), (.iconst 2, 1, 0, 0, 0, nI 2), (.iadd, 1, 0, 0, 0, 0), (.iaload, 1, 0, 0, 0, 0), (.aload_n 0, 1, 0, 0, 0, 0), (.getfield 68, 3, 11, 41, 164, 0), (.bipush 26, 2, 0, 0, 0, nI 26), (.iload_n 1, 1, 1, 0, 0, 0), (.iadd, 1, 0, 0, 0, 0), (.iaload, 1, 0, 0, 0, 0), (.aload_n 0, 1, 0, 0, 0, 0), (.iload_n 1, 1, 1, 0, 0, 0)] [(3 * n2) + 2, 26 + n1] (pc2 := 22) (ls2 := [some (.ref 54), some (.int (nI n1)), some (.int (nI n2))]) (st2 := [.int (nI n1), .ref 54, .int (M.1 72 (26 + n1)), .int (M.1 61 ((3 * n2) + 2)), .ref 54]) (M2 := M) (Ps := [(((nI 3) * (nI n2)) + (nI 2)) = nI ((3 * n2) + 2) ∧ ((3 * n2) + 2) < 30, ((nI 26) + (nI n1)) = nI (26 + n1) ∧ (26 + n1) < 51]) (by decide +kernel) rfl rfl ⟨⟨(nAdd (pk_mul _ _) rfl), (by omega)⟩, ⟨(nI_add _ _), (by omega)⟩, trivial⟩ ?_
  obtain ⟨k1, hk⟩ := hk
  have t2 : GM z mX12_heldBy (d + 3) [.ref 54, .int (nI n1)] M (fun rs => rs = .inl (some (.int (k_heldBy (M.1 72) nt (nI n1))), M)) := by
    have q9 := c_k_heldBy_54 z (d + 3) M (nI n1) nt hnt ct
    try simp only [mput, mrow_same, mrow_hit, mrow_miss, mrow_sw, idr_eq, ne_eq, Nat.reduceEqDiff, not_false_eq_true, Nat.reduceLT, reduceCtorEq] at q9
    exact q9
  refine G.callV (as := [.int (nI n1)]) (rest := [.int (M.1 72 (26 + n1)), .int (M.1 61 ((3 * n2) + 2)), .ref 54]) (a := 54) oX12_heldBy lk_EvenFindersModel_342 (by decide +kernel) rfl rfl ⟨rfl, rfl⟩ (Nat.le_of_ble_eq_true rfl) rfl ⟨Nat.le_of_ble_eq_true rfl, Nat.le_of_ble_eq_true rfl⟩ t2 (fun v9 N9 h3 => ?_) (fun E9 N9 h3 => by cases h3)
  cases h3
  show G z mX12_dutyBy (d + 4) 0 0 25 [some (.ref 54), some (.int (nI n1)), some (.int (nI n2))] [.int (k_heldBy (M.1 72) nt (nI n1)), .int (M.1 72 (26 + n1)), .int (M.1 61 ((3 * n2) + 2)), .ref 54] M Q
  obtain ⟨k4, hk⟩ := hk
  have t5 : GM z mX12_ones (d + 3) [.int (k_heldBy (M.1 72) nt (nI n1))] M (fun rs => rs = .inl (some (.int (k_ones (k_heldBy (M.1 72) nt (nI n1)))), M)) := by
    have q9 := c_k_ones z (d + 3) M (k_heldBy (M.1 72) nt (nI n1))
    try simp only [mput, mrow_same, mrow_hit, mrow_miss, mrow_sw, idr_eq, ne_eq, Nat.reduceEqDiff, not_false_eq_true, Nat.reduceLT, reduceCtorEq] at q9
    exact q9
  refine G.callS (as := [.int (k_heldBy (M.1 72) nt (nI n1))]) (rest := [.int (M.1 72 (26 + n1)), .int (M.1 61 ((3 * n2) + 2)), .ref 54]) oX12_ones lk_EvenFindersModel_345 (by decide +kernel) rfl (Nat.le_of_ble_eq_true rfl) rfl ⟨Nat.le_of_ble_eq_true rfl, Nat.le_of_ble_eq_true rfl⟩ t5 (fun v9 N9 h6 => ?_) (fun E9 N9 h6 => by cases h6)
  cases h6
  show G z mX12_dutyBy (d + 4) 0 0 28 [some (.ref 54), some (.int (nI n1)), some (.int (nI n2))] [.int (k_ones (k_heldBy (M.1 72) nt (nI n1))), .int (M.1 72 (26 + n1)), .int (M.1 61 ((3 * n2) + 2)), .ref 54] M Q
  refine G.sl [(.aload_n 0, 1, 0, 0, 0, 0), (.getfield 68, 3, 11, 41, 164, 0), (.bipush 38, 2, 0, 0, 0, nI 38), (.iload_n 1, 1, 1, 0, 0, 0), (.iadd, 1, 0, 0, 0, 0), (.iaload, 1, 0, 0, 0, 0), (.aload_n 0, 1, 0, 0, 0, 0), (.aload_n 0, 1, 0, 0, 0, 0), (.getfield 68, 3, 11, 41, 164, 0), (.bipush 20, 2, 0, 0, 0, nI 20), (.iload_n 1, 1, 1, 0, 0, 0), (.iadd, 1, 0, 0, 0, 0), (.iaload, 1, 0, 0, 0, 0)] [38 + n1, 20 + n1] (pc2 := 47) (ls2 := [some (.ref 54), some (.int (nI n1)), some (.int (nI n2))]) (st2 := [.int (M.1 72 (20 + n1)), .ref 54, .int (M.1 72 (38 + n1)), .int (k_ones (k_heldBy (M.1 72) nt (nI n1))), .int (M.1 72 (26 + n1)), .int (M.1 61 ((3 * n2) + 2)), .ref 54]) (M2 := M) (Ps := [((nI 38) + (nI n1)) = nI (38 + n1) ∧ (38 + n1) < 51, ((nI 20) + (nI n1)) = nI (20 + n1) ∧ (20 + n1) < 51]) (by decide +kernel) rfl rfl ⟨⟨(nI_add _ _), (by omega)⟩, ⟨(nI_add _ _), (by omega)⟩, trivial⟩ ?_
  obtain ⟨k7, hk⟩ := hk
  have t8 : GM z mX12_lyingAt (d + 3) [.ref 54, .int (M.1 72 (20 + n1))] M (fun rs => rs = .inl (some (.int (k_lyingAt (M.1 72) nt (M.1 72 (20 + n1)))), M)) := by
    have q9 := c_k_lyingAt_54 z (d + 3) M (M.1 72 (20 + n1)) nt hnt ct
    try simp only [mput, mrow_same, mrow_hit, mrow_miss, mrow_sw, idr_eq, ne_eq, Nat.reduceEqDiff, not_false_eq_true, Nat.reduceLT, reduceCtorEq] at q9
    exact q9
  refine G.callV (as := [.int (M.1 72 (20 + n1))]) (rest := [.int (M.1 72 (38 + n1)), .int (k_ones (k_heldBy (M.1 72) nt (nI n1))), .int (M.1 72 (26 + n1)), .int (M.1 61 ((3 * n2) + 2)), .ref 54]) (a := 54) oX12_lyingAt lk_EvenFindersModel_348 (by decide +kernel) rfl rfl ⟨rfl, rfl⟩ (Nat.le_of_ble_eq_true rfl) rfl ⟨Nat.le_of_ble_eq_true rfl, Nat.le_of_ble_eq_true rfl⟩ t8 (fun v9 N9 h9 => ?_) (fun E9 N9 h9 => by cases h9)
  cases h9
  show G z mX12_dutyBy (d + 4) 0 0 50 [some (.ref 54), some (.int (nI n1)), some (.int (nI n2))] [.int (k_lyingAt (M.1 72) nt (M.1 72 (20 + n1))), .int (M.1 72 (38 + n1)), .int (k_ones (k_heldBy (M.1 72) nt (nI n1))), .int (M.1 72 (26 + n1)), .int (M.1 61 ((3 * n2) + 2)), .ref 54] M Q
  obtain ⟨k10, hk⟩ := hk
  have t11 : GM z mX12_ones (d + 3) [.int (k_lyingAt (M.1 72) nt (M.1 72 (20 + n1)))] M (fun rs => rs = .inl (some (.int (k_ones (k_lyingAt (M.1 72) nt (M.1 72 (20 + n1))))), M)) := by
    have q9 := c_k_ones z (d + 3) M (k_lyingAt (M.1 72) nt (M.1 72 (20 + n1)))
    try simp only [mput, mrow_same, mrow_hit, mrow_miss, mrow_sw, idr_eq, ne_eq, Nat.reduceEqDiff, not_false_eq_true, Nat.reduceLT, reduceCtorEq] at q9
    exact q9
  refine G.callS (as := [.int (k_lyingAt (M.1 72) nt (M.1 72 (20 + n1)))]) (rest := [.int (M.1 72 (38 + n1)), .int (k_ones (k_heldBy (M.1 72) nt (nI n1))), .int (M.1 72 (26 + n1)), .int (M.1 61 ((3 * n2) + 2)), .ref 54]) oX12_ones lk_EvenFindersModel_345 (by decide +kernel) rfl (Nat.le_of_ble_eq_true rfl) rfl ⟨Nat.le_of_ble_eq_true rfl, Nat.le_of_ble_eq_true rfl⟩ t11 (fun v9 N9 h12 => ?_) (fun E9 N9 h12 => by cases h12)
  cases h12
  show G z mX12_dutyBy (d + 4) 0 0 53 [some (.ref 54), some (.int (nI n1)), some (.int (nI n2))] [.int (k_ones (k_lyingAt (M.1 72) nt (M.1 72 (20 + n1)))), .int (M.1 72 (38 + n1)), .int (k_ones (k_heldBy (M.1 72) nt (nI n1))), .int (M.1 72 (26 + n1)), .int (M.1 61 ((3 * n2) + 2)), .ref 54] M Q
  refine G.sl [(.aload_n 0, 1, 0, 0, 0, 0), (.getfield 68, 3, 11, 41, 164, 0), (.bipush 50, 2, 0, 0, 0, nI 50), (.iaload, 1, 0, 0, 0, 0), (.aload_n 0, 1, 0, 0, 0, 0), (.getfield 68, 3, 11, 41, 164, 0), (.bipush 44, 2, 0, 0, 0, nI 44), (.iload_n 1, 1, 1, 0, 0, 0), (.iadd, 1, 0, 0, 0, 0), (.iaload, 1, 0, 0, 0, 0), (.iload_n 1, 1, 1, 0, 0, 0)] [50, 44 + n1] (pc2 := 70) (ls2 := [some (.ref 54), some (.int (nI n1)), some (.int (nI n2))]) (st2 := [.int (nI n1), .int (M.1 72 (44 + n1)), .int (M.1 72 50), .int (k_ones (k_lyingAt (M.1 72) nt (M.1 72 (20 + n1)))), .int (M.1 72 (38 + n1)), .int (k_ones (k_heldBy (M.1 72) nt (nI n1))), .int (M.1 72 (26 + n1)), .int (M.1 61 ((3 * n2) + 2)), .ref 54]) (M2 := M) (Ps := [(nI 50) = nI 50 ∧ 50 < 51, ((nI 44) + (nI n1)) = nI (44 + n1) ∧ (44 + n1) < 51]) (by decide +kernel) rfl rfl ⟨⟨rfl, (by omega)⟩, ⟨(nI_add _ _), (by omega)⟩, trivial⟩ ?_
  obtain ⟨k13, hk⟩ := hk
  rcases g14 : k_dutyOf (M.1 54) (M.1 65) (M.1 66) (M.1 67) (M.1 68) (M.1 61 ((3 * n2) + 2)) (M.1 72 (26 + n1)) (k_ones (k_heldBy (M.1 72) nt (nI n1))) (M.1 72 (38 + n1)) (k_ones (k_lyingAt (M.1 72) nt (M.1 72 (20 + n1)))) (M.1 72 50) (M.1 72 (44 + n1)) (nI n1) with ⟨v15, r16, r17⟩
  have t18 : GM z mX12_dutyOf (d + 3) [.ref 54, .int (M.1 61 ((3 * n2) + 2)), .int (M.1 72 (26 + n1)), .int (k_ones (k_heldBy (M.1 72) nt (nI n1))), .int (M.1 72 (38 + n1)), .int (k_ones (k_lyingAt (M.1 72) nt (M.1 72 (20 + n1)))), .int (M.1 72 50), .int (M.1 72 (44 + n1)), .int (nI n1)] M (fun rs => rs = .inl (some (.int v15), mrow (mrow M 67 r16) 68 r17)) := by
    have q9 := c_k_dutyOf_54 z d M (M.1 61 ((3 * n2) + 2)) (M.1 72 (26 + n1)) (k_ones (k_heldBy (M.1 72) nt (nI n1))) (M.1 72 (38 + n1)) (k_ones (k_lyingAt (M.1 72) nt (M.1 72 (20 + n1)))) (M.1 72 50) (M.1 72 (44 + n1)) (nI n1) k13
    try simp only [mput, mrow_same, mrow_hit, mrow_miss, mrow_sw, idr_eq, ne_eq, Nat.reduceEqDiff, not_false_eq_true, Nat.reduceLT, reduceCtorEq, g14] at q9
    exact q9
  refine G.callV (as := [.int (M.1 61 ((3 * n2) + 2)), .int (M.1 72 (26 + n1)), .int (k_ones (k_heldBy (M.1 72) nt (nI n1))), .int (M.1 72 (38 + n1)), .int (k_ones (k_lyingAt (M.1 72) nt (M.1 72 (20 + n1)))), .int (M.1 72 50), .int (M.1 72 (44 + n1)), .int (nI n1)]) (rest := []) (a := 54) oX12_dutyOf lk_EvenFindersModel_351 (by decide +kernel) rfl rfl ⟨rfl, rfl⟩ (Nat.le_of_ble_eq_true rfl) rfl ⟨Nat.le_of_ble_eq_true rfl, Nat.le_of_ble_eq_true rfl⟩ t18 (fun v9 N9 h19 => ?_) (fun E9 N9 h19 => by cases h19)
  cases h19
  show G z mX12_dutyBy (d + 4) 0 0 73 [some (.ref 54), some (.int (nI n1)), some (.int (nI n2))] [.int v15] (mrow (mrow M 67 r16) 68 r17) Q
  exact G.reti (by decide +kernel) rfl rfl (Nat.le_of_ble_eq_true rfl) (Nat.le_of_ble_eq_true rfl) ((by rw [hQ]; simp only [k_dutyBy, g14, mrow_self]))
set_option maxHeartbeats 4000000 in
set_option maxRecDepth 3000 in
theorem c_k_duty_54 (z : Zp) (d : Nat) (M : Mem) (x1 : Int32) (x2 : Int32) (nf : Nat) (hnf : nf ≤ 6) (cf : M.1 54 23 = nI nf) (hk : k_duty_ok (M.1 54) (M.1 55) (M.1 61) (M.1 65) (M.1 66) (M.1 67) (M.1 68) (M.1 71) (M.1 72) nf x1 x2) : GM z mX12_duty (d + 5) [.ref 54, .int x1, .int x2] M (fun rs => rs = .inl (some (.int ((k_duty (M.1 54) (M.1 55) (M.1 61) (M.1 65) (M.1 66) (M.1 67) (M.1 68) (M.1 71) (M.1 72) nf x1 x2).1)), mrow (mrow (mrow (mrow (mrow M 54 ((k_duty (M.1 54) (M.1 55) (M.1 61) (M.1 65) (M.1 66) (M.1 67) (M.1 68) (M.1 71) (M.1 72) nf x1 x2).2.1)) 55 ((k_duty (M.1 54) (M.1 55) (M.1 61) (M.1 65) (M.1 66) (M.1 67) (M.1 68) (M.1 71) (M.1 72) nf x1 x2).2.2.1)) 67 ((k_duty (M.1 54) (M.1 55) (M.1 61) (M.1 65) (M.1 66) (M.1 67) (M.1 68) (M.1 71) (M.1 72) nf x1 x2).2.2.2.1)) 68 ((k_duty (M.1 54) (M.1 55) (M.1 61) (M.1 65) (M.1 66) (M.1 67) (M.1 68) (M.1 71) (M.1 72) nf x1 x2).2.2.2.2.1)) 72 ((k_duty (M.1 54) (M.1 55) (M.1 61) (M.1 65) (M.1 66) (M.1 67) (M.1 68) (M.1 71) (M.1 72) nf x1 x2).2.2.2.2.2))) := by
  simp only [k_duty_ok] at hk
  refine GM.of oX12_duty.1 (Nat.le_of_ble_eq_true rfl) ?_
  show G z mX12_duty (d + 5) 0 0 0 [some (.ref 54), some (.int x1), some (.int x2)] [] M _
  obtain ⟨Q, hQ⟩ : ∃ Q : Rs → Prop, Q = (fun rs => rs = .inl (some (.int ((k_duty (M.1 54) (M.1 55) (M.1 61) (M.1 65) (M.1 66) (M.1 67) (M.1 68) (M.1 71) (M.1 72) nf x1 x2).1)), mrow (mrow (mrow (mrow (mrow M 54 ((k_duty (M.1 54) (M.1 55) (M.1 61) (M.1 65) (M.1 66) (M.1 67) (M.1 68) (M.1 71) (M.1 72) nf x1 x2).2.1)) 55 ((k_duty (M.1 54) (M.1 55) (M.1 61) (M.1 65) (M.1 66) (M.1 67) (M.1 68) (M.1 71) (M.1 72) nf x1 x2).2.2.1)) 67 ((k_duty (M.1 54) (M.1 55) (M.1 61) (M.1 65) (M.1 66) (M.1 67) (M.1 68) (M.1 71) (M.1 72) nf x1 x2).2.2.2.1)) 68 ((k_duty (M.1 54) (M.1 55) (M.1 61) (M.1 65) (M.1 66) (M.1 67) (M.1 68) (M.1 71) (M.1 72) nf x1 x2).2.2.2.2.1)) 72 ((k_duty (M.1 54) (M.1 55) (M.1 61) (M.1 65) (M.1 66) (M.1 67) (M.1 68) (M.1 71) (M.1 72) nf x1 x2).2.2.2.2.2))) := ⟨_, rfl⟩
  rw [← hQ]
  refine G.sl [(.aload_n 0, 1, 0, 0, 0, 0), (.iconst 0, 1, 0, 0, 0, nI 0), (.putfield 3, 3, 11, 0, 123, 0), (.aload_n 0, 1, 0, 0, 0, 0), (.iload_n 1, 1, 1, 0, 0, 0), (.iconst 1, 1, 0, 0, 0, nI 1)] [] (pc2 := 8) (ls2 := [some (.ref 54), some (.int x1), some (.int x2)]) (st2 := [.int (nI 1), .int x1, .ref 54]) (M2 := mput M 54 0 (nI 0)) (Ps := []) (by decide +kernel) rfl rfl trivial ?_
  refine G.mem (M' := mrow M 54 (upd (M.1 54) 0 (nI 0))) (by first | rfl | (simp only [mput, mrow_same, mrow_hit, mrow_miss, mrow_sw, idr_eq, ne_eq, Nat.reduceEqDiff, not_false_eq_true, Nat.reduceLT, reduceCtorEq]; done)) ?_
  obtain ⟨k1, hk⟩ := hk
  rcases g2 : k_isFinder (upd (M.1 54) 0 (nI 0)) (M.1 55) nf x1 (nI 1) with ⟨v3, r4, r5⟩
  try simp only [g2] at hk
  have ev3 : v3 = 0 ∨ v3 = 1 := by
    have q9 := k_isFinder_01 (upd (M.1 54) 0 (nI 0)) (M.1 55) nf x1 (nI 1)
    rw [g2] at q9
    exact q9
  have t6 : GM z mX12_isFinder (d + 4) [.ref 54, .int x1, .int (nI 1)] (mrow M 54 (upd (M.1 54) 0 (nI 0))) (fun rs => rs = .inl (some (.int v3), mrow (mrow M 54 r4) 55 r5)) := by
    have q9 := c_k_isFinder_54 z (d + 3) (mrow M 54 (upd (M.1 54) 0 (nI 0))) x1 (nI 1) nf hnf cf
    try simp only [mput, mrow_same, mrow_hit, mrow_miss, mrow_sw, idr_eq, ne_eq, Nat.reduceEqDiff, not_false_eq_true, Nat.reduceLT, reduceCtorEq, g2] at q9
    exact q9
  refine G.callV (as := [.int x1, .int (nI 1)]) (rest := []) (a := 54) oX12_isFinder lk_EvenFindersModel_400 (by decide +kernel) rfl rfl ⟨rfl, rfl⟩ (Nat.le_of_ble_eq_true rfl) rfl ⟨Nat.le_of_ble_eq_true rfl, Nat.le_of_ble_eq_true rfl⟩ t6 (fun v9 N9 h7 => ?_) (fun E9 N9 h7 => by cases h7)
  cases h7
  show G z mX12_duty (d + 5) 0 0 11 [some (.ref 54), some (.int x1), some (.int x2)] [.int v3] (mrow (mrow M 54 r4) 55 r5) Q
  refine G.if_eq (off := (12)) (tgt := 23) (by decide +kernel) rfl (fun c8 => ?_) (fun c8 => ?_)
  · skip
    rw [if_pos c8] at hk
    refine G.sl [(.iconst 0, 1, 0, 0, 0, nI 0)] [] (pc2 := 24) (ls2 := [some (.ref 54), some (.int x1), some (.int x2)]) (st2 := [.int (nI 0)]) (M2 := mrow (mrow M 54 r4) 55 r5) (Ps := []) (by decide +kernel) rfl rfl trivial ?_
    refine G.mem (M' := mrow (mrow (mrow (mrow (mrow M 54 r4) 55 r5) 67 (M.1 67)) 68 (M.1 68)) 72 (M.1 72)) (((((mrow_id (N := mrow (mrow M 54 r4) 55 r5) (c := 67) (f := M.1 67) (by first | rfl | (simp only [mput, mrow_same, mrow_hit, mrow_miss, mrow_sw, idr_eq, ne_eq, Nat.reduceEqDiff, not_false_eq_true, Nat.reduceLT, reduceCtorEq]; done))).symm).trans (mrow_id (N := mrow (mrow (mrow M 54 r4) 55 r5) 67 (M.1 67)) (c := 68) (f := M.1 68) (by first | rfl | (simp only [mput, mrow_same, mrow_hit, mrow_miss, mrow_sw, idr_eq, ne_eq, Nat.reduceEqDiff, not_false_eq_true, Nat.reduceLT, reduceCtorEq]; done))).symm).trans (mrow_id (N := mrow (mrow (mrow (mrow M 54 r4) 55 r5) 67 (M.1 67)) 68 (M.1 68)) (c := 72) (f := M.1 72) (by first | rfl | (simp only [mput, mrow_same, mrow_hit, mrow_miss, mrow_sw, idr_eq, ne_eq, Nat.reduceEqDiff, not_false_eq_true, Nat.reduceLT, reduceCtorEq]; done))).symm).trans (by first | rfl | (simp only [mput, mrow_same, mrow_hit, mrow_miss, mrow_sw, idr_eq, ne_eq, Nat.reduceEqDiff, not_false_eq_true, Nat.reduceLT, reduceCtorEq]; done))) ?_
    exact G.reti (by decide +kernel) rfl rfl (Nat.le_of_ble_eq_true rfl) (Nat.le_of_ble_eq_true rfl) ((by rw [hQ]; simp only [k_duty, g2, if_pos c8, mrow_self]))
  · skip
    rw [if_neg c8] at hk
    refine G.sl [(.aload_n 0, 1, 0, 0, 0, 0), (.iload_n 2, 1, 2, 0, 0, 0), (.iconst 1, 1, 0, 0, 0, nI 1)] [] (pc2 := 17) (ls2 := [some (.ref 54), some (.int x1), some (.int x2)]) (st2 := [.int (nI 1), .int x2, .ref 54]) (M2 := mrow (mrow M 54 r4) 55 r5) (Ps := []) (by decide +kernel) rfl rfl trivial ?_
    obtain ⟨k9, k10, hk⟩ := hk
    obtain ⟨k11, hk⟩ := hk
    rcases g12 : k_isThing r4 r5 (ix (r4 22)) x2 (nI 1) with ⟨v13, r14, r15⟩
    try simp only [g12] at hk
    have ev13 : v13 = 0 ∨ v13 = 1 := by
      have q9 := k_isThing_01 r4 r5 (ix (r4 22)) x2 (nI 1)
      rw [g12] at q9
      exact q9
    have t16 : GM z mX12_isThing (d + 4) [.ref 54, .int x2, .int (nI 1)] (mrow (mrow M 54 r4) 55 r5) (fun rs => rs = .inl (some (.int v13), mrow (mrow M 54 r14) 55 r15)) := by
      have q9 := c_k_isThing_54 z (d + 3) (mrow (mrow M 54 r4) 55 r5) x2 (nI 1) (ix (r4 22)) k10 (ixE k9)
      try simp only [mput, mrow_same, mrow_hit, mrow_miss, mrow_sw, idr_eq, ne_eq, Nat.reduceEqDiff, not_false_eq_true, Nat.reduceLT, reduceCtorEq, g12] at q9
      exact q9
    refine G.callV (as := [.int x2, .int (nI 1)]) (rest := []) (a := 54) oX12_isThing lk_EvenFindersModel_397 (by decide +kernel) rfl rfl ⟨rfl, rfl⟩ (Nat.le_of_ble_eq_true rfl) rfl ⟨Nat.le_of_ble_eq_true rfl, Nat.le_of_ble_eq_true rfl⟩ t16 (fun v9 N9 h17 => ?_) (fun E9 N9 h17 => by cases h17)
    cases h17
    show G z mX12_duty (d + 5) 0 0 20 [some (.ref 54), some (.int x1), some (.int x2)] [.int v13] (mrow (mrow M 54 r14) 55 r15) Q
    refine G.if_ne (off := (5)) (tgt := 25) (by decide +kernel) rfl (fun c18 => ?_) (fun c18 => ?_)
    · skip
      rw [if_neg c18] at hk
      refine G.sl [(.aload_n 0, 1, 0, 0, 0, 0)] [] (pc2 := 26) (ls2 := [some (.ref 54), some (.int x1), some (.int x2)]) (st2 := [.ref 54]) (M2 := mrow (mrow M 54 r14) 55 r15) (Ps := []) (by decide +kernel) rfl rfl trivial ?_
      obtain ⟨k19, hk⟩ := hk
      rcases g20 : k_take (M.1 71) (M.1 72) with ⟨u21, r22⟩
      try simp only [g20] at hk
      have t23 : GM z mX12_take (d + 4) [.ref 54] (mrow (mrow M 54 r14) 55 r15) (fun rs => rs = .inl (none, mrow (mrow (mrow M 54 r14) 55 r15) 72 r22)) := by
        have q9 := c_k_take_54 z (d + 3) (mrow (mrow M 54 r14) 55 r15) k19
        try simp only [mput, mrow_same, mrow_hit, mrow_miss, mrow_sw, idr_eq, ne_eq, Nat.reduceEqDiff, not_false_eq_true, Nat.reduceLT, reduceCtorEq, g20] at q9
        exact q9
      refine G.callV (as := []) (rest := []) (a := 54) oX12_take lk_EvenFindersModel_320 (by decide +kernel) rfl rfl ⟨rfl, rfl⟩ (Nat.le_of_ble_eq_true rfl) rfl ⟨Nat.le_of_ble_eq_true rfl, Nat.le_of_ble_eq_true rfl⟩ t23 (fun v9 N9 h24 => ?_) (fun E9 N9 h24 => by cases h24)
      cases h24
      show G z mX12_duty (d + 5) 0 0 29 [some (.ref 54), some (.int x1), some (.int x2)] [] (mrow (mrow (mrow M 54 r14) 55 r15) 72 r22) Q
      refine G.sl [(.aload_n 0, 1, 0, 0, 0, 0), (.iload_n 1, 1, 1, 0, 0, 0), (.iload_n 2, 1, 2, 0, 0, 0)] [] (pc2 := 32) (ls2 := [some (.ref 54), some (.int x1), some (.int x2)]) (st2 := [.int x2, .int x1, .ref 54]) (M2 := mrow (mrow (mrow M 54 r14) 55 r15) 72 r22) (Ps := []) (by decide +kernel) rfl rfl trivial ?_
      obtain ⟨k25, k26, k27, k28, k29, k30, hk⟩ := hk
      obtain ⟨k31, hk⟩ := hk
      refine G.eq (st' := [.int (nI (ix x2)), .int (nI (ix x1)), .ref 54]) ?_ rfl (by rw [← (show x1 = nI (ix x1) from (ixE k25)), ← (show x2 = nI (ix x2) from (ixE k27))]) rfl
      rcases g32 : k_dutyBy r14 (M.1 61) (M.1 65) (M.1 66) (M.1 67) (M.1 68) r22 (ix (r14 22)) (ix x1) (ix x2) with ⟨v33, r34, r35⟩
      have t36 : GM z mX12_dutyBy (d + 4) [.ref 54, .int (nI (ix x1)), .int (nI (ix x2))] (mrow (mrow (mrow M 54 r14) 55 r15) 72 r22) (fun rs => rs = .inl (some (.int v33), mrow (mrow (mrow (mrow (mrow M 54 r14) 55 r15) 67 r34) 68 r35) 72 r22)) := by
        have q9 := c_k_dutyBy_54 z d (mrow (mrow (mrow M 54 r14) 55 r15) 72 r22) (ix x1) (ix x2) (ix (r14 22)) k30 (ixE k29) k26 k28 k31
        try simp only [mput, mrow_same, mrow_hit, mrow_miss, mrow_sw, idr_eq, ne_eq, Nat.reduceEqDiff, not_false_eq_true, Nat.reduceLT, reduceCtorEq, g32] at q9
        exact q9
      refine G.callV (as := [.int (nI (ix x1)), .int (nI (ix x2))]) (rest := []) (a := 54) oX12_dutyBy lk_EvenFindersModel_359 (by decide +kernel) rfl rfl ⟨rfl, rfl⟩ (Nat.le_of_ble_eq_true rfl) rfl ⟨Nat.le_of_ble_eq_true rfl, Nat.le_of_ble_eq_true rfl⟩ t36 (fun v9 N9 h37 => ?_) (fun E9 N9 h37 => by cases h37)
      cases h37
      show G z mX12_duty (d + 5) 0 0 35 [some (.ref 54), some (.int x1), some (.int x2)] [.int v33] (mrow (mrow (mrow (mrow (mrow M 54 r14) 55 r15) 67 r34) 68 r35) 72 r22) Q
      exact G.reti (by decide +kernel) rfl rfl (Nat.le_of_ble_eq_true rfl) (Nat.le_of_ble_eq_true rfl) ((by rw [hQ]; simp only [k_duty, g2, if_neg c8, g12, if_neg c18, g20, g32, mrow_self]))
    · skip
      rw [if_pos c18] at hk
      refine G.sl [(.iconst 0, 1, 0, 0, 0, nI 0)] [] (pc2 := 24) (ls2 := [some (.ref 54), some (.int x1), some (.int x2)]) (st2 := [.int (nI 0)]) (M2 := mrow (mrow M 54 r14) 55 r15) (Ps := []) (by decide +kernel) rfl rfl trivial ?_
      refine G.mem (M' := mrow (mrow (mrow (mrow (mrow M 54 r14) 55 r15) 67 (M.1 67)) 68 (M.1 68)) 72 (M.1 72)) (((((mrow_id (N := mrow (mrow M 54 r14) 55 r15) (c := 67) (f := M.1 67) (by first | rfl | (simp only [mput, mrow_same, mrow_hit, mrow_miss, mrow_sw, idr_eq, ne_eq, Nat.reduceEqDiff, not_false_eq_true, Nat.reduceLT, reduceCtorEq]; done))).symm).trans (mrow_id (N := mrow (mrow (mrow M 54 r14) 55 r15) 67 (M.1 67)) (c := 68) (f := M.1 68) (by first | rfl | (simp only [mput, mrow_same, mrow_hit, mrow_miss, mrow_sw, idr_eq, ne_eq, Nat.reduceEqDiff, not_false_eq_true, Nat.reduceLT, reduceCtorEq]; done))).symm).trans (mrow_id (N := mrow (mrow (mrow (mrow M 54 r14) 55 r15) 67 (M.1 67)) 68 (M.1 68)) (c := 72) (f := M.1 72) (by first | rfl | (simp only [mput, mrow_same, mrow_hit, mrow_miss, mrow_sw, idr_eq, ne_eq, Nat.reduceEqDiff, not_false_eq_true, Nat.reduceLT, reduceCtorEq]; done))).symm).trans (by first | rfl | (simp only [mput, mrow_same, mrow_hit, mrow_miss, mrow_sw, idr_eq, ne_eq, Nat.reduceEqDiff, not_false_eq_true, Nat.reduceLT, reduceCtorEq]; done))) ?_
      exact G.reti (by decide +kernel) rfl rfl (Nat.le_of_ble_eq_true rfl) (Nat.le_of_ble_eq_true rfl) ((by rw [hQ]; simp only [k_duty, g2, if_neg c8, g12, if_pos c18, mrow_self]))
set_option maxHeartbeats 4000000 in
set_option maxRecDepth 3000 in
theorem c_k_would_54 (z : Zp) (d : Nat) (M : Mem) (x1 : Int32) (x2 : Int32) (x3 : Int32) (x4 : Int32) (x5 : Int32) (x6 : Int32) (x7 : Int32) (x8 : Int32) (hk : k_would_ok (M.1 54) (M.1 55) (M.1 65) (M.1 66) (M.1 67) (M.1 68) x1 x2 x3 x4 x5 x6 x7 x8) : GM z mX12_would (d + 4) [.ref 54, .int x1, .int x2, .int x3, .int x4, .int x5, .int x6, .int x7, .int x8] M (fun rs => rs = .inl (some (.int ((k_would (M.1 54) (M.1 55) (M.1 65) (M.1 66) (M.1 67) (M.1 68) x1 x2 x3 x4 x5 x6 x7 x8).1)), mrow (mrow (mrow (mrow M 54 ((k_would (M.1 54) (M.1 55) (M.1 65) (M.1 66) (M.1 67) (M.1 68) x1 x2 x3 x4 x5 x6 x7 x8).2.1)) 55 ((k_would (M.1 54) (M.1 55) (M.1 65) (M.1 66) (M.1 67) (M.1 68) x1 x2 x3 x4 x5 x6 x7 x8).2.2.1)) 67 ((k_would (M.1 54) (M.1 55) (M.1 65) (M.1 66) (M.1 67) (M.1 68) x1 x2 x3 x4 x5 x6 x7 x8).2.2.2.1)) 68 ((k_would (M.1 54) (M.1 55) (M.1 65) (M.1 66) (M.1 67) (M.1 68) x1 x2 x3 x4 x5 x6 x7 x8).2.2.2.2))) := by
  simp only [k_would_ok] at hk
  refine GM.of oX12_would.1 (Nat.le_of_ble_eq_true rfl) ?_
  show G z mX12_would (d + 4) 0 0 0 [some (.ref 54), some (.int x1), some (.int x2), some (.int x3), some (.int x4), some (.int x5), some (.int x6), some (.int x7), some (.int x8)] [] M _
  obtain ⟨Q, hQ⟩ : ∃ Q : Rs → Prop, Q = (fun rs => rs = .inl (some (.int ((k_would (M.1 54) (M.1 55) (M.1 65) (M.1 66) (M.1 67) (M.1 68) x1 x2 x3 x4 x5 x6 x7 x8).1)), mrow (mrow (mrow (mrow M 54 ((k_would (M.1 54) (M.1 55) (M.1 65) (M.1 66) (M.1 67) (M.1 68) x1 x2 x3 x4 x5 x6 x7 x8).2.1)) 55 ((k_would (M.1 54) (M.1 55) (M.1 65) (M.1 66) (M.1 67) (M.1 68) x1 x2 x3 x4 x5 x6 x7 x8).2.2.1)) 67 ((k_would (M.1 54) (M.1 55) (M.1 65) (M.1 66) (M.1 67) (M.1 68) x1 x2 x3 x4 x5 x6 x7 x8).2.2.2.1)) 68 ((k_would (M.1 54) (M.1 55) (M.1 65) (M.1 66) (M.1 67) (M.1 68) x1 x2 x3 x4 x5 x6 x7 x8).2.2.2.2))) := ⟨_, rfl⟩
  rw [← hQ]
  refine G.sl [(.aload_n 0, 1, 0, 0, 0, 0), (.iconst 0, 1, 0, 0, 0, nI 0), (.putfield 3, 3, 11, 0, 123, 0), (.aload_n 0, 1, 0, 0, 0, 0), (.iload_n 1, 1, 1, 0, 0, 0), (.iconst 1, 1, 0, 0, 0, nI 1), (.bipush 60, 2, 0, 0, 0, nI 60)] [] (pc2 := 10) (ls2 := [some (.ref 54), some (.int x1), some (.int x2), some (.int x3), some (.int x4), some (.int x5), some (.int x6), some (.int x7), some (.int x8)]) (st2 := [.int (nI 60), .int (nI 1), .int x1, .ref 54]) (M2 := mput M 54 0 (nI 0)) (Ps := []) (by decide +kernel) rfl rfl trivial ?_
  refine G.mem (M' := mrow M 54 (upd (M.1 54) 0 (nI 0))) (by first | rfl | (simp only [mput, mrow_same, mrow_hit, mrow_miss, mrow_sw, idr_eq, ne_eq, Nat.reduceEqDiff, not_false_eq_true, Nat.reduceLT, reduceCtorEq]; done)) ?_
  obtain ⟨k1, hk⟩ := hk
  have t2 : GM z mX12_within (d + 3) [.int x1, .int (nI 1), .int (nI 60)] (mrow M 54 (upd (M.1 54) 0 (nI 0))) (fun rs => rs = .inl (some (.int (k_within x1 (nI 1) (nI 60))), mrow M 54 (upd (M.1 54) 0 (nI 0)))) := by
    have q9 := c_k_within z (d + 3) (mrow M 54 (upd (M.1 54) 0 (nI 0))) x1 (nI 1) (nI 60)
    try simp only [mput, mrow_same, mrow_hit, mrow_miss, mrow_sw, idr_eq, ne_eq, Nat.reduceEqDiff, not_false_eq_true, Nat.reduceLT, reduceCtorEq] at q9
    exact q9
  refine G.callS (as := [.int x1, .int (nI 1), .int (nI 60)]) (rest := [.ref 54]) oX12_within lk_EvenFindersModel_379 (by decide +kernel) rfl (Nat.le_of_ble_eq_true rfl) rfl ⟨Nat.le_of_ble_eq_true rfl, Nat.le_of_ble_eq_true rfl⟩ t2 (fun v9 N9 h3 => ?_) (fun E9 N9 h3 => by cases h3)
  cases h3
  show G z mX12_would (d + 4) 0 0 13 [some (.ref 54), some (.int x1), some (.int x2), some (.int x3), some (.int x4), some (.int x5), some (.int x6), some (.int x7), some (.int x8)] [.int (k_within x1 (nI 1) (nI 60)), .ref 54] (mrow M 54 (upd (M.1 54) 0 (nI 0))) Q
  refine G.if_eq (off := (86)) (tgt := 99) (by decide +kernel) rfl (fun c4 => ?_) (fun c4 => ?_)
  · skip
    rw [if_pos c4] at hk
    refine G.sl [(.iconst 0, 1, 0, 0, 0, nI 0), (.iconst 1, 1, 0, 0, 0, nI 1), (.iconst 1, 1, 0, 0, 0, nI 1)] [] (pc2 := 102) (ls2 := [some (.ref 54), some (.int x1), some (.int x2), some (.int x3), some (.int x4), some (.int x5), some (.int x6), some (.int x7), some (.int x8)]) (st2 := [.int (nI 1), .int (nI 1), .int (nI 0), .ref 54]) (M2 := mrow M 54 (upd (M.1 54) 0 (nI 0))) (Ps := []) (by decide +kernel) rfl rfl trivial ?_
    obtain ⟨k5, hk⟩ := hk
    rcases g6 : k_may_1 (upd (M.1 54) 0 (nI 0)) (M.1 55) (nI 0) (nI 1) with ⟨v7, r8, r9⟩
    try simp only [g6] at hk
    have ev7 : v7 = 0 ∨ v7 = 1 := by
      have q9 := k_may_1_01 (upd (M.1 54) 0 (nI 0)) (M.1 55) (nI 0) (nI 1)
      rw [g6] at q9
      exact q9
    have t10 : GM z mX12_may (d + 3) [.ref 54, .int (nI 0), .int (nI 1), .int (nI 1)] (mrow M 54 (upd (M.1 54) 0 (nI 0))) (fun rs => rs = .inl (some (.int v7), mrow (mrow M 54 r8) 55 r9)) := by
      have q9 := c_k_may_1_54 z (d + 3) (mrow M 54 (upd (M.1 54) 0 (nI 0))) (nI 0) (nI 1)
      try simp only [mput, mrow_same, mrow_hit, mrow_miss, mrow_sw, idr_eq, ne_eq, Nat.reduceEqDiff, not_false_eq_true, Nat.reduceLT, reduceCtorEq, g6] at q9
      exact q9
    refine G.callV (as := [.int (nI 0), .int (nI 1), .int (nI 1)]) (rest := []) (a := 54) oX12_may lk_EvenFindersModel_213 (by decide +kernel) rfl rfl ⟨rfl, rfl⟩ (Nat.le_of_ble_eq_true rfl) rfl ⟨Nat.le_of_ble_eq_true rfl, Nat.le_of_ble_eq_true rfl⟩ t10 (fun v9 N9 h11 => ?_) (fun E9 N9 h11 => by cases h11)
    cases h11
    show G z mX12_would (d + 4) 0 0 105 [some (.ref 54), some (.int x1), some (.int x2), some (.int x3), some (.int x4), some (.int x5), some (.int x6), some (.int x7), some (.int x8)] [.int v7] (mrow (mrow M 54 r8) 55 r9) Q
    refine G.if_ne (off := (5)) (tgt := 110) (by decide +kernel) rfl (fun c12 => ?_) (fun c12 => ?_)
    · skip
      rw [if_neg c12] at hk
      refine G.sl [(.aload_n 0, 1, 0, 0, 0, 0), (.iload_n 1, 1, 1, 0, 0, 0), (.iload_n 2, 1, 2, 0, 0, 0), (.iload_n 3, 1, 3, 0, 0, 0), (.iload 4, 2, 4, 0, 0, 0), (.iload 5, 2, 5, 0, 0, 0), (.iload 6, 2, 6, 0, 0, 0), (.iload 7, 2, 7, 0, 0, 0), (.iload 8, 2, 8, 0, 0, 0)] [] (pc2 := 124) (ls2 := [some (.ref 54), some (.int x1), some (.int x2), some (.int x3), some (.int x4), some (.int x5), some (.int x6), some (.int x7), some (.int x8)]) (st2 := [.int x8, .int x7, .int x6, .int x5, .int x4, .int x3, .int x2, .int x1, .ref 54]) (M2 := mrow (mrow M 54 r8) 55 r9) (Ps := []) (by decide +kernel) rfl rfl trivial ?_
      obtain ⟨k13, hk⟩ := hk
      rcases g14 : k_dutyOf r8 (M.1 65) (M.1 66) (M.1 67) (M.1 68) x1 x2 x3 x4 x5 x6 x7 x8 with ⟨v15, r16, r17⟩
      have t18 : GM z mX12_dutyOf (d + 3) [.ref 54, .int x1, .int x2, .int x3, .int x4, .int x5, .int x6, .int x7, .int x8] (mrow (mrow M 54 r8) 55 r9) (fun rs => rs = .inl (some (.int v15), mrow (mrow (mrow (mrow M 54 r8) 55 r9) 67 r16) 68 r17)) := by
        have q9 := c_k_dutyOf_54 z d (mrow (mrow M 54 r8) 55 r9) x1 x2 x3 x4 x5 x6 x7 x8 k13
        try simp only [mput, mrow_same, mrow_hit, mrow_miss, mrow_sw, idr_eq, ne_eq, Nat.reduceEqDiff, not_false_eq_true, Nat.reduceLT, reduceCtorEq, g14] at q9
        exact q9
      refine G.callV (as := [.int x1, .int x2, .int x3, .int x4, .int x5, .int x6, .int x7, .int x8]) (rest := []) (a := 54) oX12_dutyOf lk_EvenFindersModel_351 (by decide +kernel) rfl rfl ⟨rfl, rfl⟩ (Nat.le_of_ble_eq_true rfl) rfl ⟨Nat.le_of_ble_eq_true rfl, Nat.le_of_ble_eq_true rfl⟩ t18 (fun v9 N9 h19 => ?_) (fun E9 N9 h19 => by cases h19)
      cases h19
      show G z mX12_would (d + 4) 0 0 127 [some (.ref 54), some (.int x1), some (.int x2), some (.int x3), some (.int x4), some (.int x5), some (.int x6), some (.int x7), some (.int x8)] [.int v15] (mrow (mrow (mrow (mrow M 54 r8) 55 r9) 67 r16) 68 r17) Q
      exact G.reti (by decide +kernel) rfl rfl (Nat.le_of_ble_eq_true rfl) (Nat.le_of_ble_eq_true rfl) ((by rw [hQ]; simp only [k_would, if_pos c4, g6, if_neg c12, g14, mrow_self]))
    · skip
      rw [if_pos c12] at hk
      refine G.sl [(.iconst 0, 1, 0, 0, 0, nI 0)] [] (pc2 := 109) (ls2 := [some (.ref 54), some (.int x1), some (.int x2), some (.int x3), some (.int x4), some (.int x5), some (.int x6), some (.int x7), some (.int x8)]) (st2 := [.int (nI 0)]) (M2 := mrow (mrow M 54 r8) 55 r9) (Ps := []) (by decide +kernel) rfl rfl trivial ?_
      refine G.mem (M' := mrow (mrow (mrow (mrow M 54 r8) 55 r9) 67 (M.1 67)) 68 (M.1 68)) ((((mrow_id (N := mrow (mrow M 54 r8) 55 r9) (c := 67) (f := M.1 67) (by first | rfl | (simp only [mput, mrow_same, mrow_hit, mrow_miss, mrow_sw, idr_eq, ne_eq, Nat.reduceEqDiff, not_false_eq_true, Nat.reduceLT, reduceCtorEq]; done))).symm).trans (mrow_id (N := mrow (mrow (mrow M 54 r8) 55 r9) 67 (M.1 67)) (c := 68) (f := M.1 68) (by first | rfl | (simp only [mput, mrow_same, mrow_hit, mrow_miss, mrow_sw, idr_eq, ne_eq, Nat.reduceEqDiff, not_false_eq_true, Nat.reduceLT, reduceCtorEq]; done))).symm).trans (by first | rfl | (simp only [mput, mrow_same, mrow_hit, mrow_miss, mrow_sw, idr_eq, ne_eq, Nat.reduceEqDiff, not_false_eq_true, Nat.reduceLT, reduceCtorEq]; done))) ?_
      exact G.reti (by decide +kernel) rfl rfl (Nat.le_of_ble_eq_true rfl) (Nat.le_of_ble_eq_true rfl) ((by rw [hQ]; simp only [k_would, if_pos c4, g6, if_pos c12, mrow_self]))
  · skip
    rw [if_neg c4] at hk
    refine G.sl [(.iload_n 2, 1, 2, 0, 0, 0), (.bipush (-99), 2, 0, 0, 0, (-99)), (.sipush 999, 3, 0, 0, 0, nI 999)] [] (pc2 := 22) (ls2 := [some (.ref 54), some (.int x1), some (.int x2), some (.int x3), some (.int x4), some (.int x5), some (.int x6), some (.int x7), some (.int x8)]) (st2 := [.int (nI 999), .int ((-99)), .int x2, .ref 54]) (M2 := mrow M 54 (upd (M.1 54) 0 (nI 0))) (Ps := []) (by decide +kernel) rfl rfl trivial ?_
    obtain ⟨k20, hk⟩ := hk
    have t21 : GM z mX12_within (d + 3) [.int x2, .int ((-99)), .int (nI 999)] (mrow M 54 (upd (M.1 54) 0 (nI 0))) (fun rs => rs = .inl (some (.int (k_within x2 ((-99)) (nI 999))), mrow M 54 (upd (M.1 54) 0 (nI 0)))) := by
      have q9 := c_k_within z (d + 3) (mrow M 54 (upd (M.1 54) 0 (nI 0))) x2 ((-99)) (nI 999)
      try simp only [mput, mrow_same, mrow_hit, mrow_miss, mrow_sw, idr_eq, ne_eq, Nat.reduceEqDiff, not_false_eq_true, Nat.reduceLT, reduceCtorEq] at q9
      exact q9
    refine G.callS (as := [.int x2, .int ((-99)), .int (nI 999)]) (rest := [.ref 54]) oX12_within lk_EvenFindersModel_379 (by decide +kernel) rfl (Nat.le_of_ble_eq_true rfl) rfl ⟨Nat.le_of_ble_eq_true rfl, Nat.le_of_ble_eq_true rfl⟩ t21 (fun v9 N9 h22 => ?_) (fun E9 N9 h22 => by cases h22)
    cases h22
    show G z mX12_would (d + 4) 0 0 25 [some (.ref 54), some (.int x1), some (.int x2), some (.int x3), some (.int x4), some (.int x5), some (.int x6), some (.int x7), some (.int x8)] [.int (k_within x2 ((-99)) (nI 999)), .ref 54] (mrow M 54 (upd (M.1 54) 0 (nI 0))) Q
    refine G.if_eq (off := (74)) (tgt := 99) (by decide +kernel) rfl (fun c23 => ?_) (fun c23 => ?_)
    · skip
      rw [if_pos c23] at hk
      refine G.sl [(.iconst 0, 1, 0, 0, 0, nI 0), (.iconst 1, 1, 0, 0, 0, nI 1), (.iconst 1, 1, 0, 0, 0, nI 1)] [] (pc2 := 102) (ls2 := [some (.ref 54), some (.int x1), some (.int x2), some (.int x3), some (.int x4), some (.int x5), some (.int x6), some (.int x7), some (.int x8)]) (st2 := [.int (nI 1), .int (nI 1), .int (nI 0), .ref 54]) (M2 := mrow M 54 (upd (M.1 54) 0 (nI 0))) (Ps := []) (by decide +kernel) rfl rfl trivial ?_
      obtain ⟨k24, hk⟩ := hk
      rcases g25 : k_may_1 (upd (M.1 54) 0 (nI 0)) (M.1 55) (nI 0) (nI 1) with ⟨v26, r27, r28⟩
      try simp only [g25] at hk
      have ev26 : v26 = 0 ∨ v26 = 1 := by
        have q9 := k_may_1_01 (upd (M.1 54) 0 (nI 0)) (M.1 55) (nI 0) (nI 1)
        rw [g25] at q9
        exact q9
      have t29 : GM z mX12_may (d + 3) [.ref 54, .int (nI 0), .int (nI 1), .int (nI 1)] (mrow M 54 (upd (M.1 54) 0 (nI 0))) (fun rs => rs = .inl (some (.int v26), mrow (mrow M 54 r27) 55 r28)) := by
        have q9 := c_k_may_1_54 z (d + 3) (mrow M 54 (upd (M.1 54) 0 (nI 0))) (nI 0) (nI 1)
        try simp only [mput, mrow_same, mrow_hit, mrow_miss, mrow_sw, idr_eq, ne_eq, Nat.reduceEqDiff, not_false_eq_true, Nat.reduceLT, reduceCtorEq, g25] at q9
        exact q9
      refine G.callV (as := [.int (nI 0), .int (nI 1), .int (nI 1)]) (rest := []) (a := 54) oX12_may lk_EvenFindersModel_213 (by decide +kernel) rfl rfl ⟨rfl, rfl⟩ (Nat.le_of_ble_eq_true rfl) rfl ⟨Nat.le_of_ble_eq_true rfl, Nat.le_of_ble_eq_true rfl⟩ t29 (fun v9 N9 h30 => ?_) (fun E9 N9 h30 => by cases h30)
      cases h30
      show G z mX12_would (d + 4) 0 0 105 [some (.ref 54), some (.int x1), some (.int x2), some (.int x3), some (.int x4), some (.int x5), some (.int x6), some (.int x7), some (.int x8)] [.int v26] (mrow (mrow M 54 r27) 55 r28) Q
      refine G.if_ne (off := (5)) (tgt := 110) (by decide +kernel) rfl (fun c31 => ?_) (fun c31 => ?_)
      · skip
        rw [if_neg c31] at hk
        refine G.sl [(.aload_n 0, 1, 0, 0, 0, 0), (.iload_n 1, 1, 1, 0, 0, 0), (.iload_n 2, 1, 2, 0, 0, 0), (.iload_n 3, 1, 3, 0, 0, 0), (.iload 4, 2, 4, 0, 0, 0), (.iload 5, 2, 5, 0, 0, 0), (.iload 6, 2, 6, 0, 0, 0), (.iload 7, 2, 7, 0, 0, 0), (.iload 8, 2, 8, 0, 0, 0)] [] (pc2 := 124) (ls2 := [some (.ref 54), some (.int x1), some (.int x2), some (.int x3), some (.int x4), some (.int x5), some (.int x6), some (.int x7), some (.int x8)]) (st2 := [.int x8, .int x7, .int x6, .int x5, .int x4, .int x3, .int x2, .int x1, .ref 54]) (M2 := mrow (mrow M 54 r27) 55 r28) (Ps := []) (by decide +kernel) rfl rfl trivial ?_
        obtain ⟨k32, hk⟩ := hk
        rcases g33 : k_dutyOf r27 (M.1 65) (M.1 66) (M.1 67) (M.1 68) x1 x2 x3 x4 x5 x6 x7 x8 with ⟨v34, r35, r36⟩
        have t37 : GM z mX12_dutyOf (d + 3) [.ref 54, .int x1, .int x2, .int x3, .int x4, .int x5, .int x6, .int x7, .int x8] (mrow (mrow M 54 r27) 55 r28) (fun rs => rs = .inl (some (.int v34), mrow (mrow (mrow (mrow M 54 r27) 55 r28) 67 r35) 68 r36)) := by
          have q9 := c_k_dutyOf_54 z d (mrow (mrow M 54 r27) 55 r28) x1 x2 x3 x4 x5 x6 x7 x8 k32
          try simp only [mput, mrow_same, mrow_hit, mrow_miss, mrow_sw, idr_eq, ne_eq, Nat.reduceEqDiff, not_false_eq_true, Nat.reduceLT, reduceCtorEq, g33] at q9
          exact q9
        refine G.callV (as := [.int x1, .int x2, .int x3, .int x4, .int x5, .int x6, .int x7, .int x8]) (rest := []) (a := 54) oX12_dutyOf lk_EvenFindersModel_351 (by decide +kernel) rfl rfl ⟨rfl, rfl⟩ (Nat.le_of_ble_eq_true rfl) rfl ⟨Nat.le_of_ble_eq_true rfl, Nat.le_of_ble_eq_true rfl⟩ t37 (fun v9 N9 h38 => ?_) (fun E9 N9 h38 => by cases h38)
        cases h38
        show G z mX12_would (d + 4) 0 0 127 [some (.ref 54), some (.int x1), some (.int x2), some (.int x3), some (.int x4), some (.int x5), some (.int x6), some (.int x7), some (.int x8)] [.int v34] (mrow (mrow (mrow (mrow M 54 r27) 55 r28) 67 r35) 68 r36) Q
        exact G.reti (by decide +kernel) rfl rfl (Nat.le_of_ble_eq_true rfl) (Nat.le_of_ble_eq_true rfl) ((by rw [hQ]; simp only [k_would, if_neg c4, if_pos c23, g25, if_neg c31, g33, mrow_self]))
      · skip
        rw [if_pos c31] at hk
        refine G.sl [(.iconst 0, 1, 0, 0, 0, nI 0)] [] (pc2 := 109) (ls2 := [some (.ref 54), some (.int x1), some (.int x2), some (.int x3), some (.int x4), some (.int x5), some (.int x6), some (.int x7), some (.int x8)]) (st2 := [.int (nI 0)]) (M2 := mrow (mrow M 54 r27) 55 r28) (Ps := []) (by decide +kernel) rfl rfl trivial ?_
        refine G.mem (M' := mrow (mrow (mrow (mrow M 54 r27) 55 r28) 67 (M.1 67)) 68 (M.1 68)) ((((mrow_id (N := mrow (mrow M 54 r27) 55 r28) (c := 67) (f := M.1 67) (by first | rfl | (simp only [mput, mrow_same, mrow_hit, mrow_miss, mrow_sw, idr_eq, ne_eq, Nat.reduceEqDiff, not_false_eq_true, Nat.reduceLT, reduceCtorEq]; done))).symm).trans (mrow_id (N := mrow (mrow (mrow M 54 r27) 55 r28) 67 (M.1 67)) (c := 68) (f := M.1 68) (by first | rfl | (simp only [mput, mrow_same, mrow_hit, mrow_miss, mrow_sw, idr_eq, ne_eq, Nat.reduceEqDiff, not_false_eq_true, Nat.reduceLT, reduceCtorEq]; done))).symm).trans (by first | rfl | (simp only [mput, mrow_same, mrow_hit, mrow_miss, mrow_sw, idr_eq, ne_eq, Nat.reduceEqDiff, not_false_eq_true, Nat.reduceLT, reduceCtorEq]; done))) ?_
        exact G.reti (by decide +kernel) rfl rfl (Nat.le_of_ble_eq_true rfl) (Nat.le_of_ble_eq_true rfl) ((by rw [hQ]; simp only [k_would, if_neg c4, if_pos c23, g25, if_pos c31, mrow_self]))
    · skip
      rw [if_neg c23] at hk
      refine G.sl [(.iload_n 3, 1, 3, 0, 0, 0), (.iconst 0, 1, 0, 0, 0, nI 0), (.bipush 10, 2, 0, 0, 0, nI 10)] [] (pc2 := 32) (ls2 := [some (.ref 54), some (.int x1), some (.int x2), some (.int x3), some (.int x4), some (.int x5), some (.int x6), some (.int x7), some (.int x8)]) (st2 := [.int (nI 10), .int (nI 0), .int x3, .ref 54]) (M2 := mrow M 54 (upd (M.1 54) 0 (nI 0))) (Ps := []) (by decide +kernel) rfl rfl trivial ?_
      obtain ⟨k39, hk⟩ := hk
      have t40 : GM z mX12_within (d + 3) [.int x3, .int (nI 0), .int (nI 10)] (mrow M 54 (upd (M.1 54) 0 (nI 0))) (fun rs => rs = .inl (some (.int (k_within x3 (nI 0) (nI 10))), mrow M 54 (upd (M.1 54) 0 (nI 0)))) := by
        have q9 := c_k_within z (d + 3) (mrow M 54 (upd (M.1 54) 0 (nI 0))) x3 (nI 0) (nI 10)
        try simp only [mput, mrow_same, mrow_hit, mrow_miss, mrow_sw, idr_eq, ne_eq, Nat.reduceEqDiff, not_false_eq_true, Nat.reduceLT, reduceCtorEq] at q9
        exact q9
      refine G.callS (as := [.int x3, .int (nI 0), .int (nI 10)]) (rest := [.ref 54]) oX12_within lk_EvenFindersModel_379 (by decide +kernel) rfl (Nat.le_of_ble_eq_true rfl) rfl ⟨Nat.le_of_ble_eq_true rfl, Nat.le_of_ble_eq_true rfl⟩ t40 (fun v9 N9 h41 => ?_) (fun E9 N9 h41 => by cases h41)
      cases h41
      show G z mX12_would (d + 4) 0 0 35 [some (.ref 54), some (.int x1), some (.int x2), some (.int x3), some (.int x4), some (.int x5), some (.int x6), some (.int x7), some (.int x8)] [.int (k_within x3 (nI 0) (nI 10)), .ref 54] (mrow M 54 (upd (M.1 54) 0 (nI 0))) Q
      refine G.if_eq (off := (64)) (tgt := 99) (by decide +kernel) rfl (fun c42 => ?_) (fun c42 => ?_)
      · skip
        rw [if_pos c42] at hk
        refine G.sl [(.iconst 0, 1, 0, 0, 0, nI 0), (.iconst 1, 1, 0, 0, 0, nI 1), (.iconst 1, 1, 0, 0, 0, nI 1)] [] (pc2 := 102) (ls2 := [some (.ref 54), some (.int x1), some (.int x2), some (.int x3), some (.int x4), some (.int x5), some (.int x6), some (.int x7), some (.int x8)]) (st2 := [.int (nI 1), .int (nI 1), .int (nI 0), .ref 54]) (M2 := mrow M 54 (upd (M.1 54) 0 (nI 0))) (Ps := []) (by decide +kernel) rfl rfl trivial ?_
        obtain ⟨k43, hk⟩ := hk
        rcases g44 : k_may_1 (upd (M.1 54) 0 (nI 0)) (M.1 55) (nI 0) (nI 1) with ⟨v45, r46, r47⟩
        try simp only [g44] at hk
        have ev45 : v45 = 0 ∨ v45 = 1 := by
          have q9 := k_may_1_01 (upd (M.1 54) 0 (nI 0)) (M.1 55) (nI 0) (nI 1)
          rw [g44] at q9
          exact q9
        have t48 : GM z mX12_may (d + 3) [.ref 54, .int (nI 0), .int (nI 1), .int (nI 1)] (mrow M 54 (upd (M.1 54) 0 (nI 0))) (fun rs => rs = .inl (some (.int v45), mrow (mrow M 54 r46) 55 r47)) := by
          have q9 := c_k_may_1_54 z (d + 3) (mrow M 54 (upd (M.1 54) 0 (nI 0))) (nI 0) (nI 1)
          try simp only [mput, mrow_same, mrow_hit, mrow_miss, mrow_sw, idr_eq, ne_eq, Nat.reduceEqDiff, not_false_eq_true, Nat.reduceLT, reduceCtorEq, g44] at q9
          exact q9
        refine G.callV (as := [.int (nI 0), .int (nI 1), .int (nI 1)]) (rest := []) (a := 54) oX12_may lk_EvenFindersModel_213 (by decide +kernel) rfl rfl ⟨rfl, rfl⟩ (Nat.le_of_ble_eq_true rfl) rfl ⟨Nat.le_of_ble_eq_true rfl, Nat.le_of_ble_eq_true rfl⟩ t48 (fun v9 N9 h49 => ?_) (fun E9 N9 h49 => by cases h49)
        cases h49
        show G z mX12_would (d + 4) 0 0 105 [some (.ref 54), some (.int x1), some (.int x2), some (.int x3), some (.int x4), some (.int x5), some (.int x6), some (.int x7), some (.int x8)] [.int v45] (mrow (mrow M 54 r46) 55 r47) Q
        refine G.if_ne (off := (5)) (tgt := 110) (by decide +kernel) rfl (fun c50 => ?_) (fun c50 => ?_)
        · skip
          rw [if_neg c50] at hk
          refine G.sl [(.aload_n 0, 1, 0, 0, 0, 0), (.iload_n 1, 1, 1, 0, 0, 0), (.iload_n 2, 1, 2, 0, 0, 0), (.iload_n 3, 1, 3, 0, 0, 0), (.iload 4, 2, 4, 0, 0, 0), (.iload 5, 2, 5, 0, 0, 0), (.iload 6, 2, 6, 0, 0, 0), (.iload 7, 2, 7, 0, 0, 0), (.iload 8, 2, 8, 0, 0, 0)] [] (pc2 := 124) (ls2 := [some (.ref 54), some (.int x1), some (.int x2), some (.int x3), some (.int x4), some (.int x5), some (.int x6), some (.int x7), some (.int x8)]) (st2 := [.int x8, .int x7, .int x6, .int x5, .int x4, .int x3, .int x2, .int x1, .ref 54]) (M2 := mrow (mrow M 54 r46) 55 r47) (Ps := []) (by decide +kernel) rfl rfl trivial ?_
          obtain ⟨k51, hk⟩ := hk
          rcases g52 : k_dutyOf r46 (M.1 65) (M.1 66) (M.1 67) (M.1 68) x1 x2 x3 x4 x5 x6 x7 x8 with ⟨v53, r54, r55⟩
          have t56 : GM z mX12_dutyOf (d + 3) [.ref 54, .int x1, .int x2, .int x3, .int x4, .int x5, .int x6, .int x7, .int x8] (mrow (mrow M 54 r46) 55 r47) (fun rs => rs = .inl (some (.int v53), mrow (mrow (mrow (mrow M 54 r46) 55 r47) 67 r54) 68 r55)) := by
            have q9 := c_k_dutyOf_54 z d (mrow (mrow M 54 r46) 55 r47) x1 x2 x3 x4 x5 x6 x7 x8 k51
            try simp only [mput, mrow_same, mrow_hit, mrow_miss, mrow_sw, idr_eq, ne_eq, Nat.reduceEqDiff, not_false_eq_true, Nat.reduceLT, reduceCtorEq, g52] at q9
            exact q9
          refine G.callV (as := [.int x1, .int x2, .int x3, .int x4, .int x5, .int x6, .int x7, .int x8]) (rest := []) (a := 54) oX12_dutyOf lk_EvenFindersModel_351 (by decide +kernel) rfl rfl ⟨rfl, rfl⟩ (Nat.le_of_ble_eq_true rfl) rfl ⟨Nat.le_of_ble_eq_true rfl, Nat.le_of_ble_eq_true rfl⟩ t56 (fun v9 N9 h57 => ?_) (fun E9 N9 h57 => by cases h57)
          cases h57
          show G z mX12_would (d + 4) 0 0 127 [some (.ref 54), some (.int x1), some (.int x2), some (.int x3), some (.int x4), some (.int x5), some (.int x6), some (.int x7), some (.int x8)] [.int v53] (mrow (mrow (mrow (mrow M 54 r46) 55 r47) 67 r54) 68 r55) Q
          exact G.reti (by decide +kernel) rfl rfl (Nat.le_of_ble_eq_true rfl) (Nat.le_of_ble_eq_true rfl) ((by rw [hQ]; simp only [k_would, if_neg c4, if_neg c23, if_pos c42, g44, if_neg c50, g52, mrow_self]))
        · skip
          rw [if_pos c50] at hk
          refine G.sl [(.iconst 0, 1, 0, 0, 0, nI 0)] [] (pc2 := 109) (ls2 := [some (.ref 54), some (.int x1), some (.int x2), some (.int x3), some (.int x4), some (.int x5), some (.int x6), some (.int x7), some (.int x8)]) (st2 := [.int (nI 0)]) (M2 := mrow (mrow M 54 r46) 55 r47) (Ps := []) (by decide +kernel) rfl rfl trivial ?_
          refine G.mem (M' := mrow (mrow (mrow (mrow M 54 r46) 55 r47) 67 (M.1 67)) 68 (M.1 68)) ((((mrow_id (N := mrow (mrow M 54 r46) 55 r47) (c := 67) (f := M.1 67) (by first | rfl | (simp only [mput, mrow_same, mrow_hit, mrow_miss, mrow_sw, idr_eq, ne_eq, Nat.reduceEqDiff, not_false_eq_true, Nat.reduceLT, reduceCtorEq]; done))).symm).trans (mrow_id (N := mrow (mrow (mrow M 54 r46) 55 r47) 67 (M.1 67)) (c := 68) (f := M.1 68) (by first | rfl | (simp only [mput, mrow_same, mrow_hit, mrow_miss, mrow_sw, idr_eq, ne_eq, Nat.reduceEqDiff, not_false_eq_true, Nat.reduceLT, reduceCtorEq]; done))).symm).trans (by first | rfl | (simp only [mput, mrow_same, mrow_hit, mrow_miss, mrow_sw, idr_eq, ne_eq, Nat.reduceEqDiff, not_false_eq_true, Nat.reduceLT, reduceCtorEq]; done))) ?_
          exact G.reti (by decide +kernel) rfl rfl (Nat.le_of_ble_eq_true rfl) (Nat.le_of_ble_eq_true rfl) ((by rw [hQ]; simp only [k_would, if_neg c4, if_neg c23, if_pos c42, g44, if_pos c50, mrow_self]))
      · skip
        rw [if_neg c42] at hk
        refine G.sl [(.iload 4, 2, 4, 0, 0, 0), (.iconst 0, 1, 0, 0, 0, nI 0), (.sipush 999, 3, 0, 0, 0, nI 999)] [] (pc2 := 44) (ls2 := [some (.ref 54), some (.int x1), some (.int x2), some (.int x3), some (.int x4), some (.int x5), some (.int x6), some (.int x7), some (.int x8)]) (st2 := [.int (nI 999), .int (nI 0), .int x4, .ref 54]) (M2 := mrow M 54 (upd (M.1 54) 0 (nI 0))) (Ps := []) (by decide +kernel) rfl rfl trivial ?_
        obtain ⟨k58, hk⟩ := hk
        have t59 : GM z mX12_within (d + 3) [.int x4, .int (nI 0), .int (nI 999)] (mrow M 54 (upd (M.1 54) 0 (nI 0))) (fun rs => rs = .inl (some (.int (k_within x4 (nI 0) (nI 999))), mrow M 54 (upd (M.1 54) 0 (nI 0)))) := by
          have q9 := c_k_within z (d + 3) (mrow M 54 (upd (M.1 54) 0 (nI 0))) x4 (nI 0) (nI 999)
          try simp only [mput, mrow_same, mrow_hit, mrow_miss, mrow_sw, idr_eq, ne_eq, Nat.reduceEqDiff, not_false_eq_true, Nat.reduceLT, reduceCtorEq] at q9
          exact q9
        refine G.callS (as := [.int x4, .int (nI 0), .int (nI 999)]) (rest := [.ref 54]) oX12_within lk_EvenFindersModel_379 (by decide +kernel) rfl (Nat.le_of_ble_eq_true rfl) rfl ⟨Nat.le_of_ble_eq_true rfl, Nat.le_of_ble_eq_true rfl⟩ t59 (fun v9 N9 h60 => ?_) (fun E9 N9 h60 => by cases h60)
        cases h60
        show G z mX12_would (d + 4) 0 0 47 [some (.ref 54), some (.int x1), some (.int x2), some (.int x3), some (.int x4), some (.int x5), some (.int x6), some (.int x7), some (.int x8)] [.int (k_within x4 (nI 0) (nI 999)), .ref 54] (mrow M 54 (upd (M.1 54) 0 (nI 0))) Q
        refine G.if_eq (off := (52)) (tgt := 99) (by decide +kernel) rfl (fun c61 => ?_) (fun c61 => ?_)
        · skip
          rw [if_pos c61] at hk
          refine G.sl [(.iconst 0, 1, 0, 0, 0, nI 0), (.iconst 1, 1, 0, 0, 0, nI 1), (.iconst 1, 1, 0, 0, 0, nI 1)] [] (pc2 := 102) (ls2 := [some (.ref 54), some (.int x1), some (.int x2), some (.int x3), some (.int x4), some (.int x5), some (.int x6), some (.int x7), some (.int x8)]) (st2 := [.int (nI 1), .int (nI 1), .int (nI 0), .ref 54]) (M2 := mrow M 54 (upd (M.1 54) 0 (nI 0))) (Ps := []) (by decide +kernel) rfl rfl trivial ?_
          obtain ⟨k62, hk⟩ := hk
          rcases g63 : k_may_1 (upd (M.1 54) 0 (nI 0)) (M.1 55) (nI 0) (nI 1) with ⟨v64, r65, r66⟩
          try simp only [g63] at hk
          have ev64 : v64 = 0 ∨ v64 = 1 := by
            have q9 := k_may_1_01 (upd (M.1 54) 0 (nI 0)) (M.1 55) (nI 0) (nI 1)
            rw [g63] at q9
            exact q9
          have t67 : GM z mX12_may (d + 3) [.ref 54, .int (nI 0), .int (nI 1), .int (nI 1)] (mrow M 54 (upd (M.1 54) 0 (nI 0))) (fun rs => rs = .inl (some (.int v64), mrow (mrow M 54 r65) 55 r66)) := by
            have q9 := c_k_may_1_54 z (d + 3) (mrow M 54 (upd (M.1 54) 0 (nI 0))) (nI 0) (nI 1)
            try simp only [mput, mrow_same, mrow_hit, mrow_miss, mrow_sw, idr_eq, ne_eq, Nat.reduceEqDiff, not_false_eq_true, Nat.reduceLT, reduceCtorEq, g63] at q9
            exact q9
          refine G.callV (as := [.int (nI 0), .int (nI 1), .int (nI 1)]) (rest := []) (a := 54) oX12_may lk_EvenFindersModel_213 (by decide +kernel) rfl rfl ⟨rfl, rfl⟩ (Nat.le_of_ble_eq_true rfl) rfl ⟨Nat.le_of_ble_eq_true rfl, Nat.le_of_ble_eq_true rfl⟩ t67 (fun v9 N9 h68 => ?_) (fun E9 N9 h68 => by cases h68)
          cases h68
          show G z mX12_would (d + 4) 0 0 105 [some (.ref 54), some (.int x1), some (.int x2), some (.int x3), some (.int x4), some (.int x5), some (.int x6), some (.int x7), some (.int x8)] [.int v64] (mrow (mrow M 54 r65) 55 r66) Q
          refine G.if_ne (off := (5)) (tgt := 110) (by decide +kernel) rfl (fun c69 => ?_) (fun c69 => ?_)
          · skip
            rw [if_neg c69] at hk
            refine G.sl [(.aload_n 0, 1, 0, 0, 0, 0), (.iload_n 1, 1, 1, 0, 0, 0), (.iload_n 2, 1, 2, 0, 0, 0), (.iload_n 3, 1, 3, 0, 0, 0), (.iload 4, 2, 4, 0, 0, 0), (.iload 5, 2, 5, 0, 0, 0), (.iload 6, 2, 6, 0, 0, 0), (.iload 7, 2, 7, 0, 0, 0), (.iload 8, 2, 8, 0, 0, 0)] [] (pc2 := 124) (ls2 := [some (.ref 54), some (.int x1), some (.int x2), some (.int x3), some (.int x4), some (.int x5), some (.int x6), some (.int x7), some (.int x8)]) (st2 := [.int x8, .int x7, .int x6, .int x5, .int x4, .int x3, .int x2, .int x1, .ref 54]) (M2 := mrow (mrow M 54 r65) 55 r66) (Ps := []) (by decide +kernel) rfl rfl trivial ?_
            obtain ⟨k70, hk⟩ := hk
            rcases g71 : k_dutyOf r65 (M.1 65) (M.1 66) (M.1 67) (M.1 68) x1 x2 x3 x4 x5 x6 x7 x8 with ⟨v72, r73, r74⟩
            have t75 : GM z mX12_dutyOf (d + 3) [.ref 54, .int x1, .int x2, .int x3, .int x4, .int x5, .int x6, .int x7, .int x8] (mrow (mrow M 54 r65) 55 r66) (fun rs => rs = .inl (some (.int v72), mrow (mrow (mrow (mrow M 54 r65) 55 r66) 67 r73) 68 r74)) := by
              have q9 := c_k_dutyOf_54 z d (mrow (mrow M 54 r65) 55 r66) x1 x2 x3 x4 x5 x6 x7 x8 k70
              try simp only [mput, mrow_same, mrow_hit, mrow_miss, mrow_sw, idr_eq, ne_eq, Nat.reduceEqDiff, not_false_eq_true, Nat.reduceLT, reduceCtorEq, g71] at q9
              exact q9
            refine G.callV (as := [.int x1, .int x2, .int x3, .int x4, .int x5, .int x6, .int x7, .int x8]) (rest := []) (a := 54) oX12_dutyOf lk_EvenFindersModel_351 (by decide +kernel) rfl rfl ⟨rfl, rfl⟩ (Nat.le_of_ble_eq_true rfl) rfl ⟨Nat.le_of_ble_eq_true rfl, Nat.le_of_ble_eq_true rfl⟩ t75 (fun v9 N9 h76 => ?_) (fun E9 N9 h76 => by cases h76)
            cases h76
            show G z mX12_would (d + 4) 0 0 127 [some (.ref 54), some (.int x1), some (.int x2), some (.int x3), some (.int x4), some (.int x5), some (.int x6), some (.int x7), some (.int x8)] [.int v72] (mrow (mrow (mrow (mrow M 54 r65) 55 r66) 67 r73) 68 r74) Q
            exact G.reti (by decide +kernel) rfl rfl (Nat.le_of_ble_eq_true rfl) (Nat.le_of_ble_eq_true rfl) ((by rw [hQ]; simp only [k_would, if_neg c4, if_neg c23, if_neg c42, if_pos c61, g63, if_neg c69, g71, mrow_self]))
          · skip
            rw [if_pos c69] at hk
            refine G.sl [(.iconst 0, 1, 0, 0, 0, nI 0)] [] (pc2 := 109) (ls2 := [some (.ref 54), some (.int x1), some (.int x2), some (.int x3), some (.int x4), some (.int x5), some (.int x6), some (.int x7), some (.int x8)]) (st2 := [.int (nI 0)]) (M2 := mrow (mrow M 54 r65) 55 r66) (Ps := []) (by decide +kernel) rfl rfl trivial ?_
            refine G.mem (M' := mrow (mrow (mrow (mrow M 54 r65) 55 r66) 67 (M.1 67)) 68 (M.1 68)) ((((mrow_id (N := mrow (mrow M 54 r65) 55 r66) (c := 67) (f := M.1 67) (by first | rfl | (simp only [mput, mrow_same, mrow_hit, mrow_miss, mrow_sw, idr_eq, ne_eq, Nat.reduceEqDiff, not_false_eq_true, Nat.reduceLT, reduceCtorEq]; done))).symm).trans (mrow_id (N := mrow (mrow (mrow M 54 r65) 55 r66) 67 (M.1 67)) (c := 68) (f := M.1 68) (by first | rfl | (simp only [mput, mrow_same, mrow_hit, mrow_miss, mrow_sw, idr_eq, ne_eq, Nat.reduceEqDiff, not_false_eq_true, Nat.reduceLT, reduceCtorEq]; done))).symm).trans (by first | rfl | (simp only [mput, mrow_same, mrow_hit, mrow_miss, mrow_sw, idr_eq, ne_eq, Nat.reduceEqDiff, not_false_eq_true, Nat.reduceLT, reduceCtorEq]; done))) ?_
            exact G.reti (by decide +kernel) rfl rfl (Nat.le_of_ble_eq_true rfl) (Nat.le_of_ble_eq_true rfl) ((by rw [hQ]; simp only [k_would, if_neg c4, if_neg c23, if_neg c42, if_pos c61, g63, if_pos c69, mrow_self]))
        · skip
          rw [if_neg c61] at hk
          refine G.sl [(.iload 5, 2, 5, 0, 0, 0), (.iconst 0, 1, 0, 0, 0, nI 0), (.bipush 10, 2, 0, 0, 0, nI 10)] [] (pc2 := 55) (ls2 := [some (.ref 54), some (.int x1), some (.int x2), some (.int x3), some (.int x4), some (.int x5), some (.int x6), some (.int x7), some (.int x8)]) (st2 := [.int (nI 10), .int (nI 0), .int x5, .ref 54]) (M2 := mrow M 54 (upd (M.1 54) 0 (nI 0))) (Ps := []) (by decide +kernel) rfl rfl trivial ?_
          obtain ⟨k77, hk⟩ := hk
          have t78 : GM z mX12_within (d + 3) [.int x5, .int (nI 0), .int (nI 10)] (mrow M 54 (upd (M.1 54) 0 (nI 0))) (fun rs => rs = .inl (some (.int (k_within x5 (nI 0) (nI 10))), mrow M 54 (upd (M.1 54) 0 (nI 0)))) := by
            have q9 := c_k_within z (d + 3) (mrow M 54 (upd (M.1 54) 0 (nI 0))) x5 (nI 0) (nI 10)
            try simp only [mput, mrow_same, mrow_hit, mrow_miss, mrow_sw, idr_eq, ne_eq, Nat.reduceEqDiff, not_false_eq_true, Nat.reduceLT, reduceCtorEq] at q9
            exact q9
          refine G.callS (as := [.int x5, .int (nI 0), .int (nI 10)]) (rest := [.ref 54]) oX12_within lk_EvenFindersModel_379 (by decide +kernel) rfl (Nat.le_of_ble_eq_true rfl) rfl ⟨Nat.le_of_ble_eq_true rfl, Nat.le_of_ble_eq_true rfl⟩ t78 (fun v9 N9 h79 => ?_) (fun E9 N9 h79 => by cases h79)
          cases h79
          show G z mX12_would (d + 4) 0 0 58 [some (.ref 54), some (.int x1), some (.int x2), some (.int x3), some (.int x4), some (.int x5), some (.int x6), some (.int x7), some (.int x8)] [.int (k_within x5 (nI 0) (nI 10)), .ref 54] (mrow M 54 (upd (M.1 54) 0 (nI 0))) Q
          refine G.if_eq (off := (41)) (tgt := 99) (by decide +kernel) rfl (fun c80 => ?_) (fun c80 => ?_)
          · skip
            rw [if_pos c80] at hk
            refine G.sl [(.iconst 0, 1, 0, 0, 0, nI 0), (.iconst 1, 1, 0, 0, 0, nI 1), (.iconst 1, 1, 0, 0, 0, nI 1)] [] (pc2 := 102) (ls2 := [some (.ref 54), some (.int x1), some (.int x2), some (.int x3), some (.int x4), some (.int x5), some (.int x6), some (.int x7), some (.int x8)]) (st2 := [.int (nI 1), .int (nI 1), .int (nI 0), .ref 54]) (M2 := mrow M 54 (upd (M.1 54) 0 (nI 0))) (Ps := []) (by decide +kernel) rfl rfl trivial ?_
            obtain ⟨k81, hk⟩ := hk
            rcases g82 : k_may_1 (upd (M.1 54) 0 (nI 0)) (M.1 55) (nI 0) (nI 1) with ⟨v83, r84, r85⟩
            try simp only [g82] at hk
            have ev83 : v83 = 0 ∨ v83 = 1 := by
              have q9 := k_may_1_01 (upd (M.1 54) 0 (nI 0)) (M.1 55) (nI 0) (nI 1)
              rw [g82] at q9
              exact q9
            have t86 : GM z mX12_may (d + 3) [.ref 54, .int (nI 0), .int (nI 1), .int (nI 1)] (mrow M 54 (upd (M.1 54) 0 (nI 0))) (fun rs => rs = .inl (some (.int v83), mrow (mrow M 54 r84) 55 r85)) := by
              have q9 := c_k_may_1_54 z (d + 3) (mrow M 54 (upd (M.1 54) 0 (nI 0))) (nI 0) (nI 1)
              try simp only [mput, mrow_same, mrow_hit, mrow_miss, mrow_sw, idr_eq, ne_eq, Nat.reduceEqDiff, not_false_eq_true, Nat.reduceLT, reduceCtorEq, g82] at q9
              exact q9
            refine G.callV (as := [.int (nI 0), .int (nI 1), .int (nI 1)]) (rest := []) (a := 54) oX12_may lk_EvenFindersModel_213 (by decide +kernel) rfl rfl ⟨rfl, rfl⟩ (Nat.le_of_ble_eq_true rfl) rfl ⟨Nat.le_of_ble_eq_true rfl, Nat.le_of_ble_eq_true rfl⟩ t86 (fun v9 N9 h87 => ?_) (fun E9 N9 h87 => by cases h87)
            cases h87
            show G z mX12_would (d + 4) 0 0 105 [some (.ref 54), some (.int x1), some (.int x2), some (.int x3), some (.int x4), some (.int x5), some (.int x6), some (.int x7), some (.int x8)] [.int v83] (mrow (mrow M 54 r84) 55 r85) Q
            refine G.if_ne (off := (5)) (tgt := 110) (by decide +kernel) rfl (fun c88 => ?_) (fun c88 => ?_)
            · skip
              rw [if_neg c88] at hk
              refine G.sl [(.aload_n 0, 1, 0, 0, 0, 0), (.iload_n 1, 1, 1, 0, 0, 0), (.iload_n 2, 1, 2, 0, 0, 0), (.iload_n 3, 1, 3, 0, 0, 0), (.iload 4, 2, 4, 0, 0, 0), (.iload 5, 2, 5, 0, 0, 0), (.iload 6, 2, 6, 0, 0, 0), (.iload 7, 2, 7, 0, 0, 0), (.iload 8, 2, 8, 0, 0, 0)] [] (pc2 := 124) (ls2 := [some (.ref 54), some (.int x1), some (.int x2), some (.int x3), some (.int x4), some (.int x5), some (.int x6), some (.int x7), some (.int x8)]) (st2 := [.int x8, .int x7, .int x6, .int x5, .int x4, .int x3, .int x2, .int x1, .ref 54]) (M2 := mrow (mrow M 54 r84) 55 r85) (Ps := []) (by decide +kernel) rfl rfl trivial ?_
              obtain ⟨k89, hk⟩ := hk
              rcases g90 : k_dutyOf r84 (M.1 65) (M.1 66) (M.1 67) (M.1 68) x1 x2 x3 x4 x5 x6 x7 x8 with ⟨v91, r92, r93⟩
              have t94 : GM z mX12_dutyOf (d + 3) [.ref 54, .int x1, .int x2, .int x3, .int x4, .int x5, .int x6, .int x7, .int x8] (mrow (mrow M 54 r84) 55 r85) (fun rs => rs = .inl (some (.int v91), mrow (mrow (mrow (mrow M 54 r84) 55 r85) 67 r92) 68 r93)) := by
                have q9 := c_k_dutyOf_54 z d (mrow (mrow M 54 r84) 55 r85) x1 x2 x3 x4 x5 x6 x7 x8 k89
                try simp only [mput, mrow_same, mrow_hit, mrow_miss, mrow_sw, idr_eq, ne_eq, Nat.reduceEqDiff, not_false_eq_true, Nat.reduceLT, reduceCtorEq, g90] at q9
                exact q9
              refine G.callV (as := [.int x1, .int x2, .int x3, .int x4, .int x5, .int x6, .int x7, .int x8]) (rest := []) (a := 54) oX12_dutyOf lk_EvenFindersModel_351 (by decide +kernel) rfl rfl ⟨rfl, rfl⟩ (Nat.le_of_ble_eq_true rfl) rfl ⟨Nat.le_of_ble_eq_true rfl, Nat.le_of_ble_eq_true rfl⟩ t94 (fun v9 N9 h95 => ?_) (fun E9 N9 h95 => by cases h95)
              cases h95
              show G z mX12_would (d + 4) 0 0 127 [some (.ref 54), some (.int x1), some (.int x2), some (.int x3), some (.int x4), some (.int x5), some (.int x6), some (.int x7), some (.int x8)] [.int v91] (mrow (mrow (mrow (mrow M 54 r84) 55 r85) 67 r92) 68 r93) Q
              exact G.reti (by decide +kernel) rfl rfl (Nat.le_of_ble_eq_true rfl) (Nat.le_of_ble_eq_true rfl) ((by rw [hQ]; simp only [k_would, if_neg c4, if_neg c23, if_neg c42, if_neg c61, if_pos c80, g82, if_neg c88, g90, mrow_self]))
            · skip
              rw [if_pos c88] at hk
              refine G.sl [(.iconst 0, 1, 0, 0, 0, nI 0)] [] (pc2 := 109) (ls2 := [some (.ref 54), some (.int x1), some (.int x2), some (.int x3), some (.int x4), some (.int x5), some (.int x6), some (.int x7), some (.int x8)]) (st2 := [.int (nI 0)]) (M2 := mrow (mrow M 54 r84) 55 r85) (Ps := []) (by decide +kernel) rfl rfl trivial ?_
              refine G.mem (M' := mrow (mrow (mrow (mrow M 54 r84) 55 r85) 67 (M.1 67)) 68 (M.1 68)) ((((mrow_id (N := mrow (mrow M 54 r84) 55 r85) (c := 67) (f := M.1 67) (by first | rfl | (simp only [mput, mrow_same, mrow_hit, mrow_miss, mrow_sw, idr_eq, ne_eq, Nat.reduceEqDiff, not_false_eq_true, Nat.reduceLT, reduceCtorEq]; done))).symm).trans (mrow_id (N := mrow (mrow (mrow M 54 r84) 55 r85) 67 (M.1 67)) (c := 68) (f := M.1 68) (by first | rfl | (simp only [mput, mrow_same, mrow_hit, mrow_miss, mrow_sw, idr_eq, ne_eq, Nat.reduceEqDiff, not_false_eq_true, Nat.reduceLT, reduceCtorEq]; done))).symm).trans (by first | rfl | (simp only [mput, mrow_same, mrow_hit, mrow_miss, mrow_sw, idr_eq, ne_eq, Nat.reduceEqDiff, not_false_eq_true, Nat.reduceLT, reduceCtorEq]; done))) ?_
              exact G.reti (by decide +kernel) rfl rfl (Nat.le_of_ble_eq_true rfl) (Nat.le_of_ble_eq_true rfl) ((by rw [hQ]; simp only [k_would, if_neg c4, if_neg c23, if_neg c42, if_neg c61, if_pos c80, g82, if_pos c88, mrow_self]))
          · skip
            rw [if_neg c80] at hk
            refine G.sl [(.iload 6, 2, 6, 0, 0, 0), (.iconst 0, 1, 0, 0, 0, nI 0), (.sipush 400, 3, 0, 0, 0, nI 400)] [] (pc2 := 67) (ls2 := [some (.ref 54), some (.int x1), some (.int x2), some (.int x3), some (.int x4), some (.int x5), some (.int x6), some (.int x7), some (.int x8)]) (st2 := [.int (nI 400), .int (nI 0), .int x6, .ref 54]) (M2 := mrow M 54 (upd (M.1 54) 0 (nI 0))) (Ps := []) (by decide +kernel) rfl rfl trivial ?_
            obtain ⟨k96, hk⟩ := hk
            have t97 : GM z mX12_within (d + 3) [.int x6, .int (nI 0), .int (nI 400)] (mrow M 54 (upd (M.1 54) 0 (nI 0))) (fun rs => rs = .inl (some (.int (k_within x6 (nI 0) (nI 400))), mrow M 54 (upd (M.1 54) 0 (nI 0)))) := by
              have q9 := c_k_within z (d + 3) (mrow M 54 (upd (M.1 54) 0 (nI 0))) x6 (nI 0) (nI 400)
              try simp only [mput, mrow_same, mrow_hit, mrow_miss, mrow_sw, idr_eq, ne_eq, Nat.reduceEqDiff, not_false_eq_true, Nat.reduceLT, reduceCtorEq] at q9
              exact q9
            refine G.callS (as := [.int x6, .int (nI 0), .int (nI 400)]) (rest := [.ref 54]) oX12_within lk_EvenFindersModel_379 (by decide +kernel) rfl (Nat.le_of_ble_eq_true rfl) rfl ⟨Nat.le_of_ble_eq_true rfl, Nat.le_of_ble_eq_true rfl⟩ t97 (fun v9 N9 h98 => ?_) (fun E9 N9 h98 => by cases h98)
            cases h98
            show G z mX12_would (d + 4) 0 0 70 [some (.ref 54), some (.int x1), some (.int x2), some (.int x3), some (.int x4), some (.int x5), some (.int x6), some (.int x7), some (.int x8)] [.int (k_within x6 (nI 0) (nI 400)), .ref 54] (mrow M 54 (upd (M.1 54) 0 (nI 0))) Q
            refine G.if_eq (off := (29)) (tgt := 99) (by decide +kernel) rfl (fun c99 => ?_) (fun c99 => ?_)
            · skip
              rw [if_pos c99] at hk
              refine G.sl [(.iconst 0, 1, 0, 0, 0, nI 0), (.iconst 1, 1, 0, 0, 0, nI 1), (.iconst 1, 1, 0, 0, 0, nI 1)] [] (pc2 := 102) (ls2 := [some (.ref 54), some (.int x1), some (.int x2), some (.int x3), some (.int x4), some (.int x5), some (.int x6), some (.int x7), some (.int x8)]) (st2 := [.int (nI 1), .int (nI 1), .int (nI 0), .ref 54]) (M2 := mrow M 54 (upd (M.1 54) 0 (nI 0))) (Ps := []) (by decide +kernel) rfl rfl trivial ?_
              obtain ⟨k100, hk⟩ := hk
              rcases g101 : k_may_1 (upd (M.1 54) 0 (nI 0)) (M.1 55) (nI 0) (nI 1) with ⟨v102, r103, r104⟩
              try simp only [g101] at hk
              have ev102 : v102 = 0 ∨ v102 = 1 := by
                have q9 := k_may_1_01 (upd (M.1 54) 0 (nI 0)) (M.1 55) (nI 0) (nI 1)
                rw [g101] at q9
                exact q9
              have t105 : GM z mX12_may (d + 3) [.ref 54, .int (nI 0), .int (nI 1), .int (nI 1)] (mrow M 54 (upd (M.1 54) 0 (nI 0))) (fun rs => rs = .inl (some (.int v102), mrow (mrow M 54 r103) 55 r104)) := by
                have q9 := c_k_may_1_54 z (d + 3) (mrow M 54 (upd (M.1 54) 0 (nI 0))) (nI 0) (nI 1)
                try simp only [mput, mrow_same, mrow_hit, mrow_miss, mrow_sw, idr_eq, ne_eq, Nat.reduceEqDiff, not_false_eq_true, Nat.reduceLT, reduceCtorEq, g101] at q9
                exact q9
              refine G.callV (as := [.int (nI 0), .int (nI 1), .int (nI 1)]) (rest := []) (a := 54) oX12_may lk_EvenFindersModel_213 (by decide +kernel) rfl rfl ⟨rfl, rfl⟩ (Nat.le_of_ble_eq_true rfl) rfl ⟨Nat.le_of_ble_eq_true rfl, Nat.le_of_ble_eq_true rfl⟩ t105 (fun v9 N9 h106 => ?_) (fun E9 N9 h106 => by cases h106)
              cases h106
              show G z mX12_would (d + 4) 0 0 105 [some (.ref 54), some (.int x1), some (.int x2), some (.int x3), some (.int x4), some (.int x5), some (.int x6), some (.int x7), some (.int x8)] [.int v102] (mrow (mrow M 54 r103) 55 r104) Q
              refine G.if_ne (off := (5)) (tgt := 110) (by decide +kernel) rfl (fun c107 => ?_) (fun c107 => ?_)
              · skip
                rw [if_neg c107] at hk
                refine G.sl [(.aload_n 0, 1, 0, 0, 0, 0), (.iload_n 1, 1, 1, 0, 0, 0), (.iload_n 2, 1, 2, 0, 0, 0), (.iload_n 3, 1, 3, 0, 0, 0), (.iload 4, 2, 4, 0, 0, 0), (.iload 5, 2, 5, 0, 0, 0), (.iload 6, 2, 6, 0, 0, 0), (.iload 7, 2, 7, 0, 0, 0), (.iload 8, 2, 8, 0, 0, 0)] [] (pc2 := 124) (ls2 := [some (.ref 54), some (.int x1), some (.int x2), some (.int x3), some (.int x4), some (.int x5), some (.int x6), some (.int x7), some (.int x8)]) (st2 := [.int x8, .int x7, .int x6, .int x5, .int x4, .int x3, .int x2, .int x1, .ref 54]) (M2 := mrow (mrow M 54 r103) 55 r104) (Ps := []) (by decide +kernel) rfl rfl trivial ?_
                obtain ⟨k108, hk⟩ := hk
                rcases g109 : k_dutyOf r103 (M.1 65) (M.1 66) (M.1 67) (M.1 68) x1 x2 x3 x4 x5 x6 x7 x8 with ⟨v110, r111, r112⟩
                have t113 : GM z mX12_dutyOf (d + 3) [.ref 54, .int x1, .int x2, .int x3, .int x4, .int x5, .int x6, .int x7, .int x8] (mrow (mrow M 54 r103) 55 r104) (fun rs => rs = .inl (some (.int v110), mrow (mrow (mrow (mrow M 54 r103) 55 r104) 67 r111) 68 r112)) := by
                  have q9 := c_k_dutyOf_54 z d (mrow (mrow M 54 r103) 55 r104) x1 x2 x3 x4 x5 x6 x7 x8 k108
                  try simp only [mput, mrow_same, mrow_hit, mrow_miss, mrow_sw, idr_eq, ne_eq, Nat.reduceEqDiff, not_false_eq_true, Nat.reduceLT, reduceCtorEq, g109] at q9
                  exact q9
                refine G.callV (as := [.int x1, .int x2, .int x3, .int x4, .int x5, .int x6, .int x7, .int x8]) (rest := []) (a := 54) oX12_dutyOf lk_EvenFindersModel_351 (by decide +kernel) rfl rfl ⟨rfl, rfl⟩ (Nat.le_of_ble_eq_true rfl) rfl ⟨Nat.le_of_ble_eq_true rfl, Nat.le_of_ble_eq_true rfl⟩ t113 (fun v9 N9 h114 => ?_) (fun E9 N9 h114 => by cases h114)
                cases h114
                show G z mX12_would (d + 4) 0 0 127 [some (.ref 54), some (.int x1), some (.int x2), some (.int x3), some (.int x4), some (.int x5), some (.int x6), some (.int x7), some (.int x8)] [.int v110] (mrow (mrow (mrow (mrow M 54 r103) 55 r104) 67 r111) 68 r112) Q
                exact G.reti (by decide +kernel) rfl rfl (Nat.le_of_ble_eq_true rfl) (Nat.le_of_ble_eq_true rfl) ((by rw [hQ]; simp only [k_would, if_neg c4, if_neg c23, if_neg c42, if_neg c61, if_neg c80, if_pos c99, g101, if_neg c107, g109, mrow_self]))
              · skip
                rw [if_pos c107] at hk
                refine G.sl [(.iconst 0, 1, 0, 0, 0, nI 0)] [] (pc2 := 109) (ls2 := [some (.ref 54), some (.int x1), some (.int x2), some (.int x3), some (.int x4), some (.int x5), some (.int x6), some (.int x7), some (.int x8)]) (st2 := [.int (nI 0)]) (M2 := mrow (mrow M 54 r103) 55 r104) (Ps := []) (by decide +kernel) rfl rfl trivial ?_
                refine G.mem (M' := mrow (mrow (mrow (mrow M 54 r103) 55 r104) 67 (M.1 67)) 68 (M.1 68)) ((((mrow_id (N := mrow (mrow M 54 r103) 55 r104) (c := 67) (f := M.1 67) (by first | rfl | (simp only [mput, mrow_same, mrow_hit, mrow_miss, mrow_sw, idr_eq, ne_eq, Nat.reduceEqDiff, not_false_eq_true, Nat.reduceLT, reduceCtorEq]; done))).symm).trans (mrow_id (N := mrow (mrow (mrow M 54 r103) 55 r104) 67 (M.1 67)) (c := 68) (f := M.1 68) (by first | rfl | (simp only [mput, mrow_same, mrow_hit, mrow_miss, mrow_sw, idr_eq, ne_eq, Nat.reduceEqDiff, not_false_eq_true, Nat.reduceLT, reduceCtorEq]; done))).symm).trans (by first | rfl | (simp only [mput, mrow_same, mrow_hit, mrow_miss, mrow_sw, idr_eq, ne_eq, Nat.reduceEqDiff, not_false_eq_true, Nat.reduceLT, reduceCtorEq]; done))) ?_
                exact G.reti (by decide +kernel) rfl rfl (Nat.le_of_ble_eq_true rfl) (Nat.le_of_ble_eq_true rfl) ((by rw [hQ]; simp only [k_would, if_neg c4, if_neg c23, if_neg c42, if_neg c61, if_neg c80, if_pos c99, g101, if_pos c107, mrow_self]))
            · skip
              rw [if_neg c99] at hk
              refine G.sl [(.iload 7, 2, 7, 0, 0, 0), (.iconst 0, 1, 0, 0, 0, nI 0), (.sipush 999, 3, 0, 0, 0, nI 999)] [] (pc2 := 79) (ls2 := [some (.ref 54), some (.int x1), some (.int x2), some (.int x3), some (.int x4), some (.int x5), some (.int x6), some (.int x7), some (.int x8)]) (st2 := [.int (nI 999), .int (nI 0), .int x7, .ref 54]) (M2 := mrow M 54 (upd (M.1 54) 0 (nI 0))) (Ps := []) (by decide +kernel) rfl rfl trivial ?_
              obtain ⟨k115, hk⟩ := hk
              have t116 : GM z mX12_within (d + 3) [.int x7, .int (nI 0), .int (nI 999)] (mrow M 54 (upd (M.1 54) 0 (nI 0))) (fun rs => rs = .inl (some (.int (k_within x7 (nI 0) (nI 999))), mrow M 54 (upd (M.1 54) 0 (nI 0)))) := by
                have q9 := c_k_within z (d + 3) (mrow M 54 (upd (M.1 54) 0 (nI 0))) x7 (nI 0) (nI 999)
                try simp only [mput, mrow_same, mrow_hit, mrow_miss, mrow_sw, idr_eq, ne_eq, Nat.reduceEqDiff, not_false_eq_true, Nat.reduceLT, reduceCtorEq] at q9
                exact q9
              refine G.callS (as := [.int x7, .int (nI 0), .int (nI 999)]) (rest := [.ref 54]) oX12_within lk_EvenFindersModel_379 (by decide +kernel) rfl (Nat.le_of_ble_eq_true rfl) rfl ⟨Nat.le_of_ble_eq_true rfl, Nat.le_of_ble_eq_true rfl⟩ t116 (fun v9 N9 h117 => ?_) (fun E9 N9 h117 => by cases h117)
              cases h117
              show G z mX12_would (d + 4) 0 0 82 [some (.ref 54), some (.int x1), some (.int x2), some (.int x3), some (.int x4), some (.int x5), some (.int x6), some (.int x7), some (.int x8)] [.int (k_within x7 (nI 0) (nI 999)), .ref 54] (mrow M 54 (upd (M.1 54) 0 (nI 0))) Q
              refine G.if_eq (off := (17)) (tgt := 99) (by decide +kernel) rfl (fun c118 => ?_) (fun c118 => ?_)
              · skip
                rw [if_pos c118] at hk
                refine G.sl [(.iconst 0, 1, 0, 0, 0, nI 0), (.iconst 1, 1, 0, 0, 0, nI 1), (.iconst 1, 1, 0, 0, 0, nI 1)] [] (pc2 := 102) (ls2 := [some (.ref 54), some (.int x1), some (.int x2), some (.int x3), some (.int x4), some (.int x5), some (.int x6), some (.int x7), some (.int x8)]) (st2 := [.int (nI 1), .int (nI 1), .int (nI 0), .ref 54]) (M2 := mrow M 54 (upd (M.1 54) 0 (nI 0))) (Ps := []) (by decide +kernel) rfl rfl trivial ?_
                obtain ⟨k119, hk⟩ := hk
                rcases g120 : k_may_1 (upd (M.1 54) 0 (nI 0)) (M.1 55) (nI 0) (nI 1) with ⟨v121, r122, r123⟩
                try simp only [g120] at hk
                have ev121 : v121 = 0 ∨ v121 = 1 := by
                  have q9 := k_may_1_01 (upd (M.1 54) 0 (nI 0)) (M.1 55) (nI 0) (nI 1)
                  rw [g120] at q9
                  exact q9
                have t124 : GM z mX12_may (d + 3) [.ref 54, .int (nI 0), .int (nI 1), .int (nI 1)] (mrow M 54 (upd (M.1 54) 0 (nI 0))) (fun rs => rs = .inl (some (.int v121), mrow (mrow M 54 r122) 55 r123)) := by
                  have q9 := c_k_may_1_54 z (d + 3) (mrow M 54 (upd (M.1 54) 0 (nI 0))) (nI 0) (nI 1)
                  try simp only [mput, mrow_same, mrow_hit, mrow_miss, mrow_sw, idr_eq, ne_eq, Nat.reduceEqDiff, not_false_eq_true, Nat.reduceLT, reduceCtorEq, g120] at q9
                  exact q9
                refine G.callV (as := [.int (nI 0), .int (nI 1), .int (nI 1)]) (rest := []) (a := 54) oX12_may lk_EvenFindersModel_213 (by decide +kernel) rfl rfl ⟨rfl, rfl⟩ (Nat.le_of_ble_eq_true rfl) rfl ⟨Nat.le_of_ble_eq_true rfl, Nat.le_of_ble_eq_true rfl⟩ t124 (fun v9 N9 h125 => ?_) (fun E9 N9 h125 => by cases h125)
                cases h125
                show G z mX12_would (d + 4) 0 0 105 [some (.ref 54), some (.int x1), some (.int x2), some (.int x3), some (.int x4), some (.int x5), some (.int x6), some (.int x7), some (.int x8)] [.int v121] (mrow (mrow M 54 r122) 55 r123) Q
                refine G.if_ne (off := (5)) (tgt := 110) (by decide +kernel) rfl (fun c126 => ?_) (fun c126 => ?_)
                · skip
                  rw [if_neg c126] at hk
                  refine G.sl [(.aload_n 0, 1, 0, 0, 0, 0), (.iload_n 1, 1, 1, 0, 0, 0), (.iload_n 2, 1, 2, 0, 0, 0), (.iload_n 3, 1, 3, 0, 0, 0), (.iload 4, 2, 4, 0, 0, 0), (.iload 5, 2, 5, 0, 0, 0), (.iload 6, 2, 6, 0, 0, 0), (.iload 7, 2, 7, 0, 0, 0), (.iload 8, 2, 8, 0, 0, 0)] [] (pc2 := 124) (ls2 := [some (.ref 54), some (.int x1), some (.int x2), some (.int x3), some (.int x4), some (.int x5), some (.int x6), some (.int x7), some (.int x8)]) (st2 := [.int x8, .int x7, .int x6, .int x5, .int x4, .int x3, .int x2, .int x1, .ref 54]) (M2 := mrow (mrow M 54 r122) 55 r123) (Ps := []) (by decide +kernel) rfl rfl trivial ?_
                  obtain ⟨k127, hk⟩ := hk
                  rcases g128 : k_dutyOf r122 (M.1 65) (M.1 66) (M.1 67) (M.1 68) x1 x2 x3 x4 x5 x6 x7 x8 with ⟨v129, r130, r131⟩
                  have t132 : GM z mX12_dutyOf (d + 3) [.ref 54, .int x1, .int x2, .int x3, .int x4, .int x5, .int x6, .int x7, .int x8] (mrow (mrow M 54 r122) 55 r123) (fun rs => rs = .inl (some (.int v129), mrow (mrow (mrow (mrow M 54 r122) 55 r123) 67 r130) 68 r131)) := by
                    have q9 := c_k_dutyOf_54 z d (mrow (mrow M 54 r122) 55 r123) x1 x2 x3 x4 x5 x6 x7 x8 k127
                    try simp only [mput, mrow_same, mrow_hit, mrow_miss, mrow_sw, idr_eq, ne_eq, Nat.reduceEqDiff, not_false_eq_true, Nat.reduceLT, reduceCtorEq, g128] at q9
                    exact q9
                  refine G.callV (as := [.int x1, .int x2, .int x3, .int x4, .int x5, .int x6, .int x7, .int x8]) (rest := []) (a := 54) oX12_dutyOf lk_EvenFindersModel_351 (by decide +kernel) rfl rfl ⟨rfl, rfl⟩ (Nat.le_of_ble_eq_true rfl) rfl ⟨Nat.le_of_ble_eq_true rfl, Nat.le_of_ble_eq_true rfl⟩ t132 (fun v9 N9 h133 => ?_) (fun E9 N9 h133 => by cases h133)
                  cases h133
                  show G z mX12_would (d + 4) 0 0 127 [some (.ref 54), some (.int x1), some (.int x2), some (.int x3), some (.int x4), some (.int x5), some (.int x6), some (.int x7), some (.int x8)] [.int v129] (mrow (mrow (mrow (mrow M 54 r122) 55 r123) 67 r130) 68 r131) Q
                  exact G.reti (by decide +kernel) rfl rfl (Nat.le_of_ble_eq_true rfl) (Nat.le_of_ble_eq_true rfl) ((by rw [hQ]; simp only [k_would, if_neg c4, if_neg c23, if_neg c42, if_neg c61, if_neg c80, if_neg c99, if_pos c118, g120, if_neg c126, g128, mrow_self]))
                · skip
                  rw [if_pos c126] at hk
                  refine G.sl [(.iconst 0, 1, 0, 0, 0, nI 0)] [] (pc2 := 109) (ls2 := [some (.ref 54), some (.int x1), some (.int x2), some (.int x3), some (.int x4), some (.int x5), some (.int x6), some (.int x7), some (.int x8)]) (st2 := [.int (nI 0)]) (M2 := mrow (mrow M 54 r122) 55 r123) (Ps := []) (by decide +kernel) rfl rfl trivial ?_
                  refine G.mem (M' := mrow (mrow (mrow (mrow M 54 r122) 55 r123) 67 (M.1 67)) 68 (M.1 68)) ((((mrow_id (N := mrow (mrow M 54 r122) 55 r123) (c := 67) (f := M.1 67) (by first | rfl | (simp only [mput, mrow_same, mrow_hit, mrow_miss, mrow_sw, idr_eq, ne_eq, Nat.reduceEqDiff, not_false_eq_true, Nat.reduceLT, reduceCtorEq]; done))).symm).trans (mrow_id (N := mrow (mrow (mrow M 54 r122) 55 r123) 67 (M.1 67)) (c := 68) (f := M.1 68) (by first | rfl | (simp only [mput, mrow_same, mrow_hit, mrow_miss, mrow_sw, idr_eq, ne_eq, Nat.reduceEqDiff, not_false_eq_true, Nat.reduceLT, reduceCtorEq]; done))).symm).trans (by first | rfl | (simp only [mput, mrow_same, mrow_hit, mrow_miss, mrow_sw, idr_eq, ne_eq, Nat.reduceEqDiff, not_false_eq_true, Nat.reduceLT, reduceCtorEq]; done))) ?_
                  exact G.reti (by decide +kernel) rfl rfl (Nat.le_of_ble_eq_true rfl) (Nat.le_of_ble_eq_true rfl) ((by rw [hQ]; simp only [k_would, if_neg c4, if_neg c23, if_neg c42, if_neg c61, if_neg c80, if_neg c99, if_pos c118, g120, if_pos c126, mrow_self]))
              · skip
                rw [if_neg c118] at hk
                refine G.sl [(.iload 8, 2, 8, 0, 0, 0), (.iconst 0, 1, 0, 0, 0, nI 0), (.iconst 5, 1, 0, 0, 0, nI 5)] [] (pc2 := 89) (ls2 := [some (.ref 54), some (.int x1), some (.int x2), some (.int x3), some (.int x4), some (.int x5), some (.int x6), some (.int x7), some (.int x8)]) (st2 := [.int (nI 5), .int (nI 0), .int x8, .ref 54]) (M2 := mrow M 54 (upd (M.1 54) 0 (nI 0))) (Ps := []) (by decide +kernel) rfl rfl trivial ?_
                obtain ⟨k134, hk⟩ := hk
                have t135 : GM z mX12_within (d + 3) [.int x8, .int (nI 0), .int (nI 5)] (mrow M 54 (upd (M.1 54) 0 (nI 0))) (fun rs => rs = .inl (some (.int (k_within x8 (nI 0) (nI 5))), mrow M 54 (upd (M.1 54) 0 (nI 0)))) := by
                  have q9 := c_k_within z (d + 3) (mrow M 54 (upd (M.1 54) 0 (nI 0))) x8 (nI 0) (nI 5)
                  try simp only [mput, mrow_same, mrow_hit, mrow_miss, mrow_sw, idr_eq, ne_eq, Nat.reduceEqDiff, not_false_eq_true, Nat.reduceLT, reduceCtorEq] at q9
                  exact q9
                refine G.callS (as := [.int x8, .int (nI 0), .int (nI 5)]) (rest := [.ref 54]) oX12_within lk_EvenFindersModel_379 (by decide +kernel) rfl (Nat.le_of_ble_eq_true rfl) rfl ⟨Nat.le_of_ble_eq_true rfl, Nat.le_of_ble_eq_true rfl⟩ t135 (fun v9 N9 h136 => ?_) (fun E9 N9 h136 => by cases h136)
                cases h136
                show G z mX12_would (d + 4) 0 0 92 [some (.ref 54), some (.int x1), some (.int x2), some (.int x3), some (.int x4), some (.int x5), some (.int x6), some (.int x7), some (.int x8)] [.int (k_within x8 (nI 0) (nI 5)), .ref 54] (mrow M 54 (upd (M.1 54) 0 (nI 0))) Q
                refine G.if_eq (off := (7)) (tgt := 99) (by decide +kernel) rfl (fun c137 => ?_) (fun c137 => ?_)
                · skip
                  rw [if_pos c137] at hk
                  refine G.sl [(.iconst 0, 1, 0, 0, 0, nI 0), (.iconst 1, 1, 0, 0, 0, nI 1), (.iconst 1, 1, 0, 0, 0, nI 1)] [] (pc2 := 102) (ls2 := [some (.ref 54), some (.int x1), some (.int x2), some (.int x3), some (.int x4), some (.int x5), some (.int x6), some (.int x7), some (.int x8)]) (st2 := [.int (nI 1), .int (nI 1), .int (nI 0), .ref 54]) (M2 := mrow M 54 (upd (M.1 54) 0 (nI 0))) (Ps := []) (by decide +kernel) rfl rfl trivial ?_
                  obtain ⟨k138, hk⟩ := hk
                  rcases g139 : k_may_1 (upd (M.1 54) 0 (nI 0)) (M.1 55) (nI 0) (nI 1) with ⟨v140, r141, r142⟩
                  try simp only [g139] at hk
                  have ev140 : v140 = 0 ∨ v140 = 1 := by
                    have q9 := k_may_1_01 (upd (M.1 54) 0 (nI 0)) (M.1 55) (nI 0) (nI 1)
                    rw [g139] at q9
                    exact q9
                  have t143 : GM z mX12_may (d + 3) [.ref 54, .int (nI 0), .int (nI 1), .int (nI 1)] (mrow M 54 (upd (M.1 54) 0 (nI 0))) (fun rs => rs = .inl (some (.int v140), mrow (mrow M 54 r141) 55 r142)) := by
                    have q9 := c_k_may_1_54 z (d + 3) (mrow M 54 (upd (M.1 54) 0 (nI 0))) (nI 0) (nI 1)
                    try simp only [mput, mrow_same, mrow_hit, mrow_miss, mrow_sw, idr_eq, ne_eq, Nat.reduceEqDiff, not_false_eq_true, Nat.reduceLT, reduceCtorEq, g139] at q9
                    exact q9
                  refine G.callV (as := [.int (nI 0), .int (nI 1), .int (nI 1)]) (rest := []) (a := 54) oX12_may lk_EvenFindersModel_213 (by decide +kernel) rfl rfl ⟨rfl, rfl⟩ (Nat.le_of_ble_eq_true rfl) rfl ⟨Nat.le_of_ble_eq_true rfl, Nat.le_of_ble_eq_true rfl⟩ t143 (fun v9 N9 h144 => ?_) (fun E9 N9 h144 => by cases h144)
                  cases h144
                  show G z mX12_would (d + 4) 0 0 105 [some (.ref 54), some (.int x1), some (.int x2), some (.int x3), some (.int x4), some (.int x5), some (.int x6), some (.int x7), some (.int x8)] [.int v140] (mrow (mrow M 54 r141) 55 r142) Q
                  refine G.if_ne (off := (5)) (tgt := 110) (by decide +kernel) rfl (fun c145 => ?_) (fun c145 => ?_)
                  · skip
                    rw [if_neg c145] at hk
                    refine G.sl [(.aload_n 0, 1, 0, 0, 0, 0), (.iload_n 1, 1, 1, 0, 0, 0), (.iload_n 2, 1, 2, 0, 0, 0), (.iload_n 3, 1, 3, 0, 0, 0), (.iload 4, 2, 4, 0, 0, 0), (.iload 5, 2, 5, 0, 0, 0), (.iload 6, 2, 6, 0, 0, 0), (.iload 7, 2, 7, 0, 0, 0), (.iload 8, 2, 8, 0, 0, 0)] [] (pc2 := 124) (ls2 := [some (.ref 54), some (.int x1), some (.int x2), some (.int x3), some (.int x4), some (.int x5), some (.int x6), some (.int x7), some (.int x8)]) (st2 := [.int x8, .int x7, .int x6, .int x5, .int x4, .int x3, .int x2, .int x1, .ref 54]) (M2 := mrow (mrow M 54 r141) 55 r142) (Ps := []) (by decide +kernel) rfl rfl trivial ?_
                    obtain ⟨k146, hk⟩ := hk
                    rcases g147 : k_dutyOf r141 (M.1 65) (M.1 66) (M.1 67) (M.1 68) x1 x2 x3 x4 x5 x6 x7 x8 with ⟨v148, r149, r150⟩
                    have t151 : GM z mX12_dutyOf (d + 3) [.ref 54, .int x1, .int x2, .int x3, .int x4, .int x5, .int x6, .int x7, .int x8] (mrow (mrow M 54 r141) 55 r142) (fun rs => rs = .inl (some (.int v148), mrow (mrow (mrow (mrow M 54 r141) 55 r142) 67 r149) 68 r150)) := by
                      have q9 := c_k_dutyOf_54 z d (mrow (mrow M 54 r141) 55 r142) x1 x2 x3 x4 x5 x6 x7 x8 k146
                      try simp only [mput, mrow_same, mrow_hit, mrow_miss, mrow_sw, idr_eq, ne_eq, Nat.reduceEqDiff, not_false_eq_true, Nat.reduceLT, reduceCtorEq, g147] at q9
                      exact q9
                    refine G.callV (as := [.int x1, .int x2, .int x3, .int x4, .int x5, .int x6, .int x7, .int x8]) (rest := []) (a := 54) oX12_dutyOf lk_EvenFindersModel_351 (by decide +kernel) rfl rfl ⟨rfl, rfl⟩ (Nat.le_of_ble_eq_true rfl) rfl ⟨Nat.le_of_ble_eq_true rfl, Nat.le_of_ble_eq_true rfl⟩ t151 (fun v9 N9 h152 => ?_) (fun E9 N9 h152 => by cases h152)
                    cases h152
                    show G z mX12_would (d + 4) 0 0 127 [some (.ref 54), some (.int x1), some (.int x2), some (.int x3), some (.int x4), some (.int x5), some (.int x6), some (.int x7), some (.int x8)] [.int v148] (mrow (mrow (mrow (mrow M 54 r141) 55 r142) 67 r149) 68 r150) Q
                    exact G.reti (by decide +kernel) rfl rfl (Nat.le_of_ble_eq_true rfl) (Nat.le_of_ble_eq_true rfl) ((by rw [hQ]; simp only [k_would, if_neg c4, if_neg c23, if_neg c42, if_neg c61, if_neg c80, if_neg c99, if_neg c118, if_pos c137, g139, if_neg c145, g147, mrow_self]))
                  · skip
                    rw [if_pos c145] at hk
                    refine G.sl [(.iconst 0, 1, 0, 0, 0, nI 0)] [] (pc2 := 109) (ls2 := [some (.ref 54), some (.int x1), some (.int x2), some (.int x3), some (.int x4), some (.int x5), some (.int x6), some (.int x7), some (.int x8)]) (st2 := [.int (nI 0)]) (M2 := mrow (mrow M 54 r141) 55 r142) (Ps := []) (by decide +kernel) rfl rfl trivial ?_
                    refine G.mem (M' := mrow (mrow (mrow (mrow M 54 r141) 55 r142) 67 (M.1 67)) 68 (M.1 68)) ((((mrow_id (N := mrow (mrow M 54 r141) 55 r142) (c := 67) (f := M.1 67) (by first | rfl | (simp only [mput, mrow_same, mrow_hit, mrow_miss, mrow_sw, idr_eq, ne_eq, Nat.reduceEqDiff, not_false_eq_true, Nat.reduceLT, reduceCtorEq]; done))).symm).trans (mrow_id (N := mrow (mrow (mrow M 54 r141) 55 r142) 67 (M.1 67)) (c := 68) (f := M.1 68) (by first | rfl | (simp only [mput, mrow_same, mrow_hit, mrow_miss, mrow_sw, idr_eq, ne_eq, Nat.reduceEqDiff, not_false_eq_true, Nat.reduceLT, reduceCtorEq]; done))).symm).trans (by first | rfl | (simp only [mput, mrow_same, mrow_hit, mrow_miss, mrow_sw, idr_eq, ne_eq, Nat.reduceEqDiff, not_false_eq_true, Nat.reduceLT, reduceCtorEq]; done))) ?_
                    exact G.reti (by decide +kernel) rfl rfl (Nat.le_of_ble_eq_true rfl) (Nat.le_of_ble_eq_true rfl) ((by rw [hQ]; simp only [k_would, if_neg c4, if_neg c23, if_neg c42, if_neg c61, if_neg c80, if_neg c99, if_neg c118, if_pos c137, g139, if_pos c145, mrow_self]))
                · skip
                  rw [if_neg c137] at hk
                  refine G.sl [(.iconst 1, 1, 0, 0, 0, nI 1), (.goto 4, 3, 100, 0, 0, 0), (.iconst 1, 1, 0, 0, 0, nI 1), (.iconst 1, 1, 0, 0, 0, nI 1)] [] (pc2 := 102) (ls2 := [some (.ref 54), some (.int x1), some (.int x2), some (.int x3), some (.int x4), some (.int x5), some (.int x6), some (.int x7), some (.int x8)]) (st2 := [.int (nI 1), .int (nI 1), .int (nI 1), .ref 54]) (M2 := mrow M 54 (upd (M.1 54) 0 (nI 0))) (Ps := []) (by decide +kernel) rfl rfl trivial ?_
                  obtain ⟨k153, hk⟩ := hk
                  rcases g154 : k_may_1 (upd (M.1 54) 0 (nI 0)) (M.1 55) (nI 1) (nI 1) with ⟨v155, r156, r157⟩
                  try simp only [g154] at hk
                  have ev155 : v155 = 0 ∨ v155 = 1 := by
                    have q9 := k_may_1_01 (upd (M.1 54) 0 (nI 0)) (M.1 55) (nI 1) (nI 1)
                    rw [g154] at q9
                    exact q9
                  have t158 : GM z mX12_may (d + 3) [.ref 54, .int (nI 1), .int (nI 1), .int (nI 1)] (mrow M 54 (upd (M.1 54) 0 (nI 0))) (fun rs => rs = .inl (some (.int v155), mrow (mrow M 54 r156) 55 r157)) := by
                    have q9 := c_k_may_1_54 z (d + 3) (mrow M 54 (upd (M.1 54) 0 (nI 0))) (nI 1) (nI 1)
                    try simp only [mput, mrow_same, mrow_hit, mrow_miss, mrow_sw, idr_eq, ne_eq, Nat.reduceEqDiff, not_false_eq_true, Nat.reduceLT, reduceCtorEq, g154] at q9
                    exact q9
                  refine G.callV (as := [.int (nI 1), .int (nI 1), .int (nI 1)]) (rest := []) (a := 54) oX12_may lk_EvenFindersModel_213 (by decide +kernel) rfl rfl ⟨rfl, rfl⟩ (Nat.le_of_ble_eq_true rfl) rfl ⟨Nat.le_of_ble_eq_true rfl, Nat.le_of_ble_eq_true rfl⟩ t158 (fun v9 N9 h159 => ?_) (fun E9 N9 h159 => by cases h159)
                  cases h159
                  show G z mX12_would (d + 4) 0 0 105 [some (.ref 54), some (.int x1), some (.int x2), some (.int x3), some (.int x4), some (.int x5), some (.int x6), some (.int x7), some (.int x8)] [.int v155] (mrow (mrow M 54 r156) 55 r157) Q
                  refine G.if_ne (off := (5)) (tgt := 110) (by decide +kernel) rfl (fun c160 => ?_) (fun c160 => ?_)
                  · skip
                    rw [if_neg c160] at hk
                    refine G.sl [(.aload_n 0, 1, 0, 0, 0, 0), (.iload_n 1, 1, 1, 0, 0, 0), (.iload_n 2, 1, 2, 0, 0, 0), (.iload_n 3, 1, 3, 0, 0, 0), (.iload 4, 2, 4, 0, 0, 0), (.iload 5, 2, 5, 0, 0, 0), (.iload 6, 2, 6, 0, 0, 0), (.iload 7, 2, 7, 0, 0, 0), (.iload 8, 2, 8, 0, 0, 0)] [] (pc2 := 124) (ls2 := [some (.ref 54), some (.int x1), some (.int x2), some (.int x3), some (.int x4), some (.int x5), some (.int x6), some (.int x7), some (.int x8)]) (st2 := [.int x8, .int x7, .int x6, .int x5, .int x4, .int x3, .int x2, .int x1, .ref 54]) (M2 := mrow (mrow M 54 r156) 55 r157) (Ps := []) (by decide +kernel) rfl rfl trivial ?_
                    obtain ⟨k161, hk⟩ := hk
                    rcases g162 : k_dutyOf r156 (M.1 65) (M.1 66) (M.1 67) (M.1 68) x1 x2 x3 x4 x5 x6 x7 x8 with ⟨v163, r164, r165⟩
                    have t166 : GM z mX12_dutyOf (d + 3) [.ref 54, .int x1, .int x2, .int x3, .int x4, .int x5, .int x6, .int x7, .int x8] (mrow (mrow M 54 r156) 55 r157) (fun rs => rs = .inl (some (.int v163), mrow (mrow (mrow (mrow M 54 r156) 55 r157) 67 r164) 68 r165)) := by
                      have q9 := c_k_dutyOf_54 z d (mrow (mrow M 54 r156) 55 r157) x1 x2 x3 x4 x5 x6 x7 x8 k161
                      try simp only [mput, mrow_same, mrow_hit, mrow_miss, mrow_sw, idr_eq, ne_eq, Nat.reduceEqDiff, not_false_eq_true, Nat.reduceLT, reduceCtorEq, g162] at q9
                      exact q9
                    refine G.callV (as := [.int x1, .int x2, .int x3, .int x4, .int x5, .int x6, .int x7, .int x8]) (rest := []) (a := 54) oX12_dutyOf lk_EvenFindersModel_351 (by decide +kernel) rfl rfl ⟨rfl, rfl⟩ (Nat.le_of_ble_eq_true rfl) rfl ⟨Nat.le_of_ble_eq_true rfl, Nat.le_of_ble_eq_true rfl⟩ t166 (fun v9 N9 h167 => ?_) (fun E9 N9 h167 => by cases h167)
                    cases h167
                    show G z mX12_would (d + 4) 0 0 127 [some (.ref 54), some (.int x1), some (.int x2), some (.int x3), some (.int x4), some (.int x5), some (.int x6), some (.int x7), some (.int x8)] [.int v163] (mrow (mrow (mrow (mrow M 54 r156) 55 r157) 67 r164) 68 r165) Q
                    exact G.reti (by decide +kernel) rfl rfl (Nat.le_of_ble_eq_true rfl) (Nat.le_of_ble_eq_true rfl) ((by rw [hQ]; simp only [k_would, if_neg c4, if_neg c23, if_neg c42, if_neg c61, if_neg c80, if_neg c99, if_neg c118, if_neg c137, g154, if_neg c160, g162, mrow_self]))
                  · skip
                    rw [if_pos c160] at hk
                    refine G.sl [(.iconst 0, 1, 0, 0, 0, nI 0)] [] (pc2 := 109) (ls2 := [some (.ref 54), some (.int x1), some (.int x2), some (.int x3), some (.int x4), some (.int x5), some (.int x6), some (.int x7), some (.int x8)]) (st2 := [.int (nI 0)]) (M2 := mrow (mrow M 54 r156) 55 r157) (Ps := []) (by decide +kernel) rfl rfl trivial ?_
                    refine G.mem (M' := mrow (mrow (mrow (mrow M 54 r156) 55 r157) 67 (M.1 67)) 68 (M.1 68)) ((((mrow_id (N := mrow (mrow M 54 r156) 55 r157) (c := 67) (f := M.1 67) (by first | rfl | (simp only [mput, mrow_same, mrow_hit, mrow_miss, mrow_sw, idr_eq, ne_eq, Nat.reduceEqDiff, not_false_eq_true, Nat.reduceLT, reduceCtorEq]; done))).symm).trans (mrow_id (N := mrow (mrow (mrow M 54 r156) 55 r157) 67 (M.1 67)) (c := 68) (f := M.1 68) (by first | rfl | (simp only [mput, mrow_same, mrow_hit, mrow_miss, mrow_sw, idr_eq, ne_eq, Nat.reduceEqDiff, not_false_eq_true, Nat.reduceLT, reduceCtorEq]; done))).symm).trans (by first | rfl | (simp only [mput, mrow_same, mrow_hit, mrow_miss, mrow_sw, idr_eq, ne_eq, Nat.reduceEqDiff, not_false_eq_true, Nat.reduceLT, reduceCtorEq]; done))) ?_
                    exact G.reti (by decide +kernel) rfl rfl (Nat.le_of_ble_eq_true rfl) (Nat.le_of_ble_eq_true rfl) ((by rw [hQ]; simp only [k_would, if_neg c4, if_neg c23, if_neg c42, if_neg c61, if_neg c80, if_neg c99, if_neg c118, if_neg c137, g154, if_pos c160, mrow_self]))
theorem k_canFind_01 (Rs : Nat → Int32) (n1 : Nat) (n2 : Nat) : k_canFind Rs n1 n2 = 0 ∨ k_canFind Rs n1 n2 = 1 := by
  unfold k_canFind
  repeat' split
  all_goals first | exact Or.inl rfl | exact Or.inr rfl
set_option maxHeartbeats 4000000 in
set_option maxRecDepth 3000 in
theorem c_k_canFind_54 (z : Zp) (d : Nat) (M : Mem) (n1 : Nat) (n2 : Nat) (b1 : n1 < 6) (b2 : n2 < 10) : GM z mX12_canFind (d) [.ref 54, .int (nI n1), .int (nI n2)] M (fun rs => rs = .inl (some (.int (k_canFind (M.1 72) n1 n2)), M)) := by
  refine GM.of oX12_canFind.1 (Nat.le_of_ble_eq_true rfl) ?_
  show G z mX12_canFind (d) 0 0 0 [some (.ref 54), some (.int (nI n1)), some (.int (nI n2))] [] M _
  obtain ⟨Q, hQ⟩ : ∃ Q : Rs → Prop, Q = (fun rs => rs = .inl (some (.int (k_canFind (M.1 72) n1 n2)), M)) := ⟨_, rfl⟩
  rw [← hQ]
  refine G.sl [(.aload_n 0, 1, 0, 0, 0, 0), (.getfield 68, 3, 11, 41, 164, 0), (.bipush 10, 2, 0, 0, 0, nI 10), (.iload_n 2, 1, 2, 0, 0, 0), (.iadd, 1, 0, 0, 0, 0), (.iaload, 1, 0, 0, 0, 0), (.iconst (-1), 1, 0, 0, 0, (-1))] [10 + n2] (pc2 := 10) (ls2 := [some (.ref 54), some (.int (nI n1)), some (.int (nI n2))]) (st2 := [.int ((-1)), .int (M.1 72 (10 + n2))]) (M2 := M) (Ps := [((nI 10) + (nI n2)) = nI (10 + n2) ∧ (10 + n2) < 51]) (by decide +kernel) rfl rfl ⟨⟨(nI_add _ _), (by omega)⟩, trivial⟩ ?_
  refine G.ic_ne (off := (39)) (tgt := 49) (by decide +kernel) rfl (fun c1 => ?_) (fun c1 => ?_)
  · skip
    refine G.sl [(.iconst 0, 1, 0, 0, 0, nI 0)] [] (pc2 := 50) (ls2 := [some (.ref 54), some (.int (nI n1)), some (.int (nI n2))]) (st2 := [.int (nI 0)]) (M2 := M) (Ps := []) (by decide +kernel) rfl rfl trivial ?_
    exact G.reti (by decide +kernel) rfl rfl (Nat.le_of_ble_eq_true rfl) (Nat.le_of_ble_eq_true rfl) ((by rw [hQ]; simp only [k_canFind, if_neg c1, mrow_self]))
  · skip
    refine G.sl [(.aload_n 0, 1, 0, 0, 0, 0), (.getfield 68, 3, 11, 41, 164, 0), (.iconst 0, 1, 0, 0, 0, nI 0), (.iload_n 2, 1, 2, 0, 0, 0), (.iadd, 1, 0, 0, 0, 0), (.iaload, 1, 0, 0, 0, 0), (.aload_n 0, 1, 0, 0, 0, 0), (.getfield 68, 3, 11, 41, 164, 0), (.bipush 20, 2, 0, 0, 0, nI 20), (.iload_n 1, 1, 1, 0, 0, 0), (.iadd, 1, 0, 0, 0, 0), (.iaload, 1, 0, 0, 0, 0)] [0 + n2, 20 + n1] (pc2 := 30) (ls2 := [some (.ref 54), some (.int (nI n1)), some (.int (nI n2))]) (st2 := [.int (M.1 72 (20 + n1)), .int (M.1 72 (0 + n2))]) (M2 := M) (Ps := [((nI 0) + (nI n2)) = nI (0 + n2) ∧ (0 + n2) < 51, ((nI 20) + (nI n1)) = nI (20 + n1) ∧ (20 + n1) < 51]) (by decide +kernel) rfl rfl ⟨⟨(nI_add _ _), (by omega)⟩, ⟨(nI_add _ _), (by omega)⟩, trivial⟩ ?_
    refine G.ic_ne (off := (19)) (tgt := 49) (by decide +kernel) rfl (fun c2 => ?_) (fun c2 => ?_)
    · skip
      refine G.sl [(.iconst 0, 1, 0, 0, 0, nI 0)] [] (pc2 := 50) (ls2 := [some (.ref 54), some (.int (nI n1)), some (.int (nI n2))]) (st2 := [.int (nI 0)]) (M2 := M) (Ps := []) (by decide +kernel) rfl rfl trivial ?_
      exact G.reti (by decide +kernel) rfl rfl (Nat.le_of_ble_eq_true rfl) (Nat.le_of_ble_eq_true rfl) ((by rw [hQ]; simp only [k_canFind, if_pos c1, if_neg c2, mrow_self]))
    · skip
      refine G.sl [(.aload_n 0, 1, 0, 0, 0, 0), (.getfield 68, 3, 11, 41, 164, 0), (.bipush 26, 2, 0, 0, 0, nI 26), (.iload_n 1, 1, 1, 0, 0, 0), (.iadd, 1, 0, 0, 0, 0), (.iaload, 1, 0, 0, 0, 0)] [26 + n1] (pc2 := 42) (ls2 := [some (.ref 54), some (.int (nI n1)), some (.int (nI n2))]) (st2 := [.int (M.1 72 (26 + n1))]) (M2 := M) (Ps := [((nI 26) + (nI n1)) = nI (26 + n1) ∧ (26 + n1) < 51]) (by decide +kernel) rfl rfl ⟨⟨(nI_add _ _), (by omega)⟩, trivial⟩ ?_
      refine G.if_gt (off := (7)) (tgt := 49) (by decide +kernel) rfl (fun c3 => ?_) (fun c3 => ?_)
      · skip
        refine G.sl [(.iconst 0, 1, 0, 0, 0, nI 0)] [] (pc2 := 50) (ls2 := [some (.ref 54), some (.int (nI n1)), some (.int (nI n2))]) (st2 := [.int (nI 0)]) (M2 := M) (Ps := []) (by decide +kernel) rfl rfl trivial ?_
        exact G.reti (by decide +kernel) rfl rfl (Nat.le_of_ble_eq_true rfl) (Nat.le_of_ble_eq_true rfl) ((by rw [hQ]; simp only [k_canFind, if_pos c1, if_pos c2, if_pos c3, mrow_self]))
      · skip
        refine G.sl [(.iconst 1, 1, 0, 0, 0, nI 1), (.goto 4, 3, 50, 0, 0, 0)] [] (pc2 := 50) (ls2 := [some (.ref 54), some (.int (nI n1)), some (.int (nI n2))]) (st2 := [.int (nI 1)]) (M2 := M) (Ps := []) (by decide +kernel) rfl rfl trivial ?_
        exact G.reti (by decide +kernel) rfl rfl (Nat.le_of_ble_eq_true rfl) (Nat.le_of_ble_eq_true rfl) ((by rw [hQ]; simp only [k_canFind, if_pos c1, if_pos c2, if_neg c3, mrow_self]))
theorem k_can_01 (Rmd Rrefused Rnow Rs : Nat → Int32) (nf : Nat) (x1 : Int32) (x2 : Int32) : (k_can Rmd Rrefused Rnow Rs nf x1 x2).1 = 0 ∨ (k_can Rmd Rrefused Rnow Rs nf x1 x2).1 = 1 := by
  unfold k_can
  repeat' split
  all_goals first | exact Or.inl rfl | exact Or.inr rfl | (rename_i h9; have q9 := k_isFinder_01 (upd (Rmd) 0 (nI 0)) (Rrefused) nf x1 (nI 1); rw [h9] at q9; exact q9) | (rename_i h9; have q9 := k_isThing_01 r4 r5 (ix (r4 22)) x2 (nI 1); rw [h9] at q9; exact q9) | exact k_canFind_01 _ _ _
set_option maxHeartbeats 4000000 in
set_option maxRecDepth 3000 in
theorem c_k_can_54 (z : Zp) (d : Nat) (M : Mem) (x1 : Int32) (x2 : Int32) (nf : Nat) (hnf : nf ≤ 6) (cf : M.1 54 23 = nI nf) (hk : k_can_ok (M.1 54) (M.1 55) (M.1 71) (M.1 72) nf x1 x2) : GM z mX12_can (d + 2) [.ref 54, .int x1, .int x2] M (fun rs => rs = .inl (some (.int ((k_can (M.1 54) (M.1 55) (M.1 71) (M.1 72) nf x1 x2).1)), mrow (mrow (mrow M 54 ((k_can (M.1 54) (M.1 55) (M.1 71) (M.1 72) nf x1 x2).2.1)) 55 ((k_can (M.1 54) (M.1 55) (M.1 71) (M.1 72) nf x1 x2).2.2.1)) 72 ((k_can (M.1 54) (M.1 55) (M.1 71) (M.1 72) nf x1 x2).2.2.2))) := by
  simp only [k_can_ok] at hk
  refine GM.of oX12_can.1 (Nat.le_of_ble_eq_true rfl) ?_
  show G z mX12_can (d + 2) 0 0 0 [some (.ref 54), some (.int x1), some (.int x2)] [] M _
  obtain ⟨Q, hQ⟩ : ∃ Q : Rs → Prop, Q = (fun rs => rs = .inl (some (.int ((k_can (M.1 54) (M.1 55) (M.1 71) (M.1 72) nf x1 x2).1)), mrow (mrow (mrow M 54 ((k_can (M.1 54) (M.1 55) (M.1 71) (M.1 72) nf x1 x2).2.1)) 55 ((k_can (M.1 54) (M.1 55) (M.1 71) (M.1 72) nf x1 x2).2.2.1)) 72 ((k_can (M.1 54) (M.1 55) (M.1 71) (M.1 72) nf x1 x2).2.2.2))) := ⟨_, rfl⟩
  rw [← hQ]
  refine G.sl [(.aload_n 0, 1, 0, 0, 0, 0), (.iconst 0, 1, 0, 0, 0, nI 0), (.putfield 3, 3, 11, 0, 123, 0), (.aload_n 0, 1, 0, 0, 0, 0), (.iload_n 1, 1, 1, 0, 0, 0), (.iconst 1, 1, 0, 0, 0, nI 1)] [] (pc2 := 8) (ls2 := [some (.ref 54), some (.int x1), some (.int x2)]) (st2 := [.int (nI 1), .int x1, .ref 54]) (M2 := mput M 54 0 (nI 0)) (Ps := []) (by decide +kernel) rfl rfl trivial ?_
  refine G.mem (M' := mrow M 54 (upd (M.1 54) 0 (nI 0))) (by first | rfl | (simp only [mput, mrow_same, mrow_hit, mrow_miss, mrow_sw, idr_eq, ne_eq, Nat.reduceEqDiff, not_false_eq_true, Nat.reduceLT, reduceCtorEq]; done)) ?_
  obtain ⟨k1, hk⟩ := hk
  rcases g2 : k_isFinder (upd (M.1 54) 0 (nI 0)) (M.1 55) nf x1 (nI 1) with ⟨v3, r4, r5⟩
  try simp only [g2] at hk
  have ev3 : v3 = 0 ∨ v3 = 1 := by
    have q9 := k_isFinder_01 (upd (M.1 54) 0 (nI 0)) (M.1 55) nf x1 (nI 1)
    rw [g2] at q9
    exact q9
  have t6 : GM z mX12_isFinder (d + 1) [.ref 54, .int x1, .int (nI 1)] (mrow M 54 (upd (M.1 54) 0 (nI 0))) (fun rs => rs = .inl (some (.int v3), mrow (mrow M 54 r4) 55 r5)) := by
    have q9 := c_k_isFinder_54 z d (mrow M 54 (upd (M.1 54) 0 (nI 0))) x1 (nI 1) nf hnf cf
    try simp only [mput, mrow_same, mrow_hit, mrow_miss, mrow_sw, idr_eq, ne_eq, Nat.reduceEqDiff, not_false_eq_true, Nat.reduceLT, reduceCtorEq, g2] at q9
    exact q9
  refine G.callV (as := [.int x1, .int (nI 1)]) (rest := []) (a := 54) oX12_isFinder lk_EvenFindersModel_400 (by decide +kernel) rfl rfl ⟨rfl, rfl⟩ (Nat.le_of_ble_eq_true rfl) rfl ⟨Nat.le_of_ble_eq_true rfl, Nat.le_of_ble_eq_true rfl⟩ t6 (fun v9 N9 h7 => ?_) (fun E9 N9 h7 => by cases h7)
  cases h7
  show G z mX12_can (d + 2) 0 0 11 [some (.ref 54), some (.int x1), some (.int x2)] [.int v3] (mrow (mrow M 54 r4) 55 r5) Q
  refine G.if_eq (off := (12)) (tgt := 23) (by decide +kernel) rfl (fun c8 => ?_) (fun c8 => ?_)
  · skip
    rw [if_pos c8] at hk
    refine G.sl [(.iconst 0, 1, 0, 0, 0, nI 0)] [] (pc2 := 24) (ls2 := [some (.ref 54), some (.int x1), some (.int x2)]) (st2 := [.int (nI 0)]) (M2 := mrow (mrow M 54 r4) 55 r5) (Ps := []) (by decide +kernel) rfl rfl trivial ?_
    refine G.mem (M' := mrow (mrow (mrow M 54 r4) 55 r5) 72 (M.1 72)) (((mrow_id (N := mrow (mrow M 54 r4) 55 r5) (c := 72) (f := M.1 72) (by first | rfl | (simp only [mput, mrow_same, mrow_hit, mrow_miss, mrow_sw, idr_eq, ne_eq, Nat.reduceEqDiff, not_false_eq_true, Nat.reduceLT, reduceCtorEq]; done))).symm).trans (by first | rfl | (simp only [mput, mrow_same, mrow_hit, mrow_miss, mrow_sw, idr_eq, ne_eq, Nat.reduceEqDiff, not_false_eq_true, Nat.reduceLT, reduceCtorEq]; done))) ?_
    exact G.reti (by decide +kernel) rfl rfl (Nat.le_of_ble_eq_true rfl) (Nat.le_of_ble_eq_true rfl) ((by rw [hQ]; simp only [k_can, g2, if_pos c8, mrow_self]))
  · skip
    rw [if_neg c8] at hk
    refine G.sl [(.aload_n 0, 1, 0, 0, 0, 0), (.iload_n 2, 1, 2, 0, 0, 0), (.iconst 1, 1, 0, 0, 0, nI 1)] [] (pc2 := 17) (ls2 := [some (.ref 54), some (.int x1), some (.int x2)]) (st2 := [.int (nI 1), .int x2, .ref 54]) (M2 := mrow (mrow M 54 r4) 55 r5) (Ps := []) (by decide +kernel) rfl rfl trivial ?_
    obtain ⟨k9, k10, hk⟩ := hk
    obtain ⟨k11, hk⟩ := hk
    rcases g12 : k_isThing r4 r5 (ix (r4 22)) x2 (nI 1) with ⟨v13, r14, r15⟩
    try simp only [g12] at hk
    have ev13 : v13 = 0 ∨ v13 = 1 := by
      have q9 := k_isThing_01 r4 r5 (ix (r4 22)) x2 (nI 1)
      rw [g12] at q9
      exact q9
    have t16 : GM z mX12_isThing (d + 1) [.ref 54, .int x2, .int (nI 1)] (mrow (mrow M 54 r4) 55 r5) (fun rs => rs = .inl (some (.int v13), mrow (mrow M 54 r14) 55 r15)) := by
      have q9 := c_k_isThing_54 z d (mrow (mrow M 54 r4) 55 r5) x2 (nI 1) (ix (r4 22)) k10 (ixE k9)
      try simp only [mput, mrow_same, mrow_hit, mrow_miss, mrow_sw, idr_eq, ne_eq, Nat.reduceEqDiff, not_false_eq_true, Nat.reduceLT, reduceCtorEq, g12] at q9
      exact q9
    refine G.callV (as := [.int x2, .int (nI 1)]) (rest := []) (a := 54) oX12_isThing lk_EvenFindersModel_397 (by decide +kernel) rfl rfl ⟨rfl, rfl⟩ (Nat.le_of_ble_eq_true rfl) rfl ⟨Nat.le_of_ble_eq_true rfl, Nat.le_of_ble_eq_true rfl⟩ t16 (fun v9 N9 h17 => ?_) (fun E9 N9 h17 => by cases h17)
    cases h17
    show G z mX12_can (d + 2) 0 0 20 [some (.ref 54), some (.int x1), some (.int x2)] [.int v13] (mrow (mrow M 54 r14) 55 r15) Q
    refine G.if_ne (off := (5)) (tgt := 25) (by decide +kernel) rfl (fun c18 => ?_) (fun c18 => ?_)
    · skip
      rw [if_neg c18] at hk
      refine G.sl [(.aload_n 0, 1, 0, 0, 0, 0)] [] (pc2 := 26) (ls2 := [some (.ref 54), some (.int x1), some (.int x2)]) (st2 := [.ref 54]) (M2 := mrow (mrow M 54 r14) 55 r15) (Ps := []) (by decide +kernel) rfl rfl trivial ?_
      obtain ⟨k19, hk⟩ := hk
      rcases g20 : k_take (M.1 71) (M.1 72) with ⟨u21, r22⟩
      try simp only [g20] at hk
      have t23 : GM z mX12_take (d + 1) [.ref 54] (mrow (mrow M 54 r14) 55 r15) (fun rs => rs = .inl (none, mrow (mrow (mrow M 54 r14) 55 r15) 72 r22)) := by
        have q9 := c_k_take_54 z d (mrow (mrow M 54 r14) 55 r15) k19
        try simp only [mput, mrow_same, mrow_hit, mrow_miss, mrow_sw, idr_eq, ne_eq, Nat.reduceEqDiff, not_false_eq_true, Nat.reduceLT, reduceCtorEq, g20] at q9
        exact q9
      refine G.callV (as := []) (rest := []) (a := 54) oX12_take lk_EvenFindersModel_320 (by decide +kernel) rfl rfl ⟨rfl, rfl⟩ (Nat.le_of_ble_eq_true rfl) rfl ⟨Nat.le_of_ble_eq_true rfl, Nat.le_of_ble_eq_true rfl⟩ t23 (fun v9 N9 h24 => ?_) (fun E9 N9 h24 => by cases h24)
      cases h24
      show G z mX12_can (d + 2) 0 0 29 [some (.ref 54), some (.int x1), some (.int x2)] [] (mrow (mrow (mrow M 54 r14) 55 r15) 72 r22) Q
      refine G.sl [(.aload_n 0, 1, 0, 0, 0, 0), (.iload_n 1, 1, 1, 0, 0, 0), (.iload_n 2, 1, 2, 0, 0, 0)] [] (pc2 := 32) (ls2 := [some (.ref 54), some (.int x1), some (.int x2)]) (st2 := [.int x2, .int x1, .ref 54]) (M2 := mrow (mrow (mrow M 54 r14) 55 r15) 72 r22) (Ps := []) (by decide +kernel) rfl rfl trivial ?_
      obtain ⟨k25, k26, k27, k28, hk⟩ := hk
      refine G.eq (st' := [.int (nI (ix x2)), .int (nI (ix x1)), .ref 54]) ?_ rfl (by rw [← (show x1 = nI (ix x1) from (ixE k25)), ← (show x2 = nI (ix x2) from (ixE k27))]) rfl
      have t30 : GM z mX12_canFind (d + 1) [.ref 54, .int (nI (ix x1)), .int (nI (ix x2))] (mrow (mrow (mrow M 54 r14) 55 r15) 72 r22) (fun rs => rs = .inl (some (.int (k_canFind r22 (ix x1) (ix x2))), mrow (mrow (mrow M 54 r14) 55 r15) 72 r22)) := by
        have q9 := c_k_canFind_54 z (d + 1) (mrow (mrow (mrow M 54 r14) 55 r15) 72 r22) (ix x1) (ix x2) k26 k28
        try simp only [mput, mrow_same, mrow_hit, mrow_miss, mrow_sw, idr_eq, ne_eq, Nat.reduceEqDiff, not_false_eq_true, Nat.reduceLT, reduceCtorEq] at q9
        exact q9
      refine G.callV (as := [.int (nI (ix x1)), .int (nI (ix x2))]) (rest := []) (a := 54) oX12_canFind lk_EvenFindersModel_355 (by decide +kernel) rfl rfl ⟨rfl, rfl⟩ (Nat.le_of_ble_eq_true rfl) rfl ⟨Nat.le_of_ble_eq_true rfl, Nat.le_of_ble_eq_true rfl⟩ t30 (fun v9 N9 h31 => ?_) (fun E9 N9 h31 => by cases h31)
      cases h31
      show G z mX12_can (d + 2) 0 0 35 [some (.ref 54), some (.int x1), some (.int x2)] [.int (k_canFind r22 (ix x1) (ix x2))] (mrow (mrow (mrow M 54 r14) 55 r15) 72 r22) Q
      exact G.reti (by decide +kernel) rfl (nar01 (k_canFind_01 r22 (ix x1) (ix x2))) (Nat.le_of_ble_eq_true rfl) (Nat.le_of_ble_eq_true rfl) ((by rw [hQ]; simp only [k_can, g2, if_neg c8, g12, if_neg c18, g20, mrow_self]))
    · skip
      rw [if_pos c18] at hk
      refine G.sl [(.iconst 0, 1, 0, 0, 0, nI 0)] [] (pc2 := 24) (ls2 := [some (.ref 54), some (.int x1), some (.int x2)]) (st2 := [.int (nI 0)]) (M2 := mrow (mrow M 54 r14) 55 r15) (Ps := []) (by decide +kernel) rfl rfl trivial ?_
      refine G.mem (M' := mrow (mrow (mrow M 54 r14) 55 r15) 72 (M.1 72)) (((mrow_id (N := mrow (mrow M 54 r14) 55 r15) (c := 72) (f := M.1 72) (by first | rfl | (simp only [mput, mrow_same, mrow_hit, mrow_miss, mrow_sw, idr_eq, ne_eq, Nat.reduceEqDiff, not_false_eq_true, Nat.reduceLT, reduceCtorEq]; done))).symm).trans (by first | rfl | (simp only [mput, mrow_same, mrow_hit, mrow_miss, mrow_sw, idr_eq, ne_eq, Nat.reduceEqDiff, not_false_eq_true, Nat.reduceLT, reduceCtorEq]; done))) ?_
      exact G.reti (by decide +kernel) rfl rfl (Nat.le_of_ble_eq_true rfl) (Nat.le_of_ble_eq_true rfl) ((by rw [hQ]; simp only [k_can, g2, if_neg c8, g12, if_pos c18, mrow_self]))
set_option maxHeartbeats 4000000 in
set_option maxRecDepth 3000 in
theorem lp_k_passes_54_52 (z : Zp) (d : Nat) (M : Mem) (Q : Rs → Prop) (n1 : Nat) (nt : Nat) (hnt : nt ≤ 10) (ct : M.1 54 22 = nI nt) (b1 : n1 < 6) (hk : ∀ i3, i3 < nt → k_passes_52_ok (M.1 61) (M.1 72) n1 i3) (hX : G z mX12_passes (d) 0 0 109 [some (.ref 54), some (.int (nI n1)), some (.int (k_passes_52 (M.1 61) (M.1 72) n1 nt)), none] [] M Q) : G z mX12_passes (d) 0 0 52 [some (.ref 54), some (.int (nI n1)), some (.int ((-1))), some (.int (nI 0))] [] M Q := by
  refine down (n := nt) (P := fun i3 => G z mX12_passes (d) 0 0 52 [some (.ref 54), some (.int (nI n1)), some (.int (k_passes_52 (M.1 61) (M.1 72) n1 i3)), some (.int (nI i3))] [] M Q) ?_ ?_ 0 (Nat.zero_le _)
  · skip
    refine G.sl [(.iload_n 3, 1, 3, 0, 0, 0), (.aload_n 0, 1, 0, 0, 0, 0), (.getfield 162, 3, 11, 22, 145, 0)] [] (pc2 := 57) (ls2 := [some (.ref 54), some (.int (nI n1)), some (.int (k_passes_52 (M.1 61) (M.1 72) n1 nt)), some (.int (nI nt))]) (st2 := [.int (M.1 54 22), .int (nI nt)]) (M2 := M) (Ps := []) (by decide +kernel) rfl rfl trivial ?_
    rw [ct]
    refine G.ic_ge (off := (52)) (tgt := 109) (by decide +kernel) rfl (fun _ => ?_) (fun h9 => absurd (nI_le (by omega) (by omega)) h9)
    refine G.loc (ls2 := [some (.ref 54), some (.int (nI n1)), some (.int (k_passes_52 (M.1 61) (M.1 72) n1 nt)), none]) (by simp [subL]) ?_
    exact hX
  · skip
    intro i3 hi ih
    have hk := hk i3 hi
    simp only [k_passes_52_ok] at hk
    show G z mX12_passes (d) 0 0 52 [some (.ref 54), some (.int (nI n1)), some (.int (k_passes_52 (M.1 61) (M.1 72) n1 i3)), some (.int (nI i3))] [] M Q
    refine G.sl [(.iload_n 3, 1, 3, 0, 0, 0), (.aload_n 0, 1, 0, 0, 0, 0), (.getfield 162, 3, 11, 22, 145, 0)] [] (pc2 := 57) (ls2 := [some (.ref 54), some (.int (nI n1)), some (.int (k_passes_52 (M.1 61) (M.1 72) n1 i3)), some (.int (nI i3))]) (st2 := [.int (M.1 54 22), .int (nI i3)]) (M2 := M) (Ps := []) (by decide +kernel) rfl rfl trivial ?_
    rw [ct]
    refine G.ic_ge (off := (52)) (tgt := 109) (by decide +kernel) rfl (fun h9 => absurd h9 (nI_ge (by omega) (by omega))) (fun _ => ?_)
    refine G.sl [(.aload_n 0, 1, 0, 0, 0, 0), (.getfield 68, 3, 11, 41, 164, 0), (.bipush 10, 2, 0, 0, 0, nI 10), (.iload_n 3, 1, 3, 0, 0, 0), (.iadd, 1, 0, 0, 0, 0), (.iaload, 1, 0, 0, 0, 0), (.iload_n 1, 1, 1, 0, 0, 0)] [10 + i3] (pc2 := 70) (ls2 := [some (.ref 54), some (.int (nI n1)), some (.int (k_passes_52 (M.1 61) (M.1 72) n1 i3)), some (.int (nI i3))]) (st2 := [.int (nI n1), .int (M.1 72 (10 + i3))]) (M2 := M) (Ps := [((nI 10) + (nI i3)) = nI (10 + i3) ∧ (10 + i3) < 51]) (by decide +kernel) rfl rfl ⟨⟨(nI_add _ _), (by omega)⟩, trivial⟩ ?_
    refine G.ic_ne (off := (33)) (tgt := 103) (by decide +kernel) rfl (fun c2 => ?_) (fun c2 => ?_)
    · skip
      rw [if_neg c2] at hk
      refine G.sl [(.iinc 3 1, 3, 3, 0, 0, nI 1), (.goto (-54), 3, 52, 0, 0, 0)] [] (pc2 := 52) (ls2 := [some (.ref 54), some (.int (nI n1)), some (.int (k_passes_52 (M.1 61) (M.1 72) n1 i3)), some (.int ((nI i3) + nI 1))]) (st2 := []) (M2 := M) (Ps := []) (by decide +kernel) rfl rfl trivial ?_
      rw [nI_add i3 1]
      simp only [k_passes_52, if_neg c2] at ih
      exact ih
    · skip
      rw [if_pos c2] at hk
      refine G.sl [(.iload_n 2, 1, 2, 0, 0, 0), (.iconst (-1), 1, 0, 0, 0, (-1))] [] (pc2 := 75) (ls2 := [some (.ref 54), some (.int (nI n1)), some (.int (k_passes_52 (M.1 61) (M.1 72) n1 i3)), some (.int (nI i3))]) (st2 := [.int ((-1)), .int (k_passes_52 (M.1 61) (M.1 72) n1 i3)]) (M2 := M) (Ps := []) (by decide +kernel) rfl rfl trivial ?_
      refine G.ic_eq (off := (26)) (tgt := 101) (by decide +kernel) rfl (fun c3 => ?_) (fun c3 => ?_)
      · skip
        rw [if_pos c3] at hk
        refine G.sl [(.iload_n 3, 1, 3, 0, 0, 0), (.istore_n 2, 1, 2, 0, 0, 0), (.iinc 3 1, 3, 3, 0, 0, nI 1), (.goto (-54), 3, 52, 0, 0, 0)] [] (pc2 := 52) (ls2 := [some (.ref 54), some (.int (nI n1)), some (.int (nI i3)), some (.int ((nI i3) + nI 1))]) (st2 := []) (M2 := M) (Ps := []) (by decide +kernel) rfl rfl trivial ?_
        rw [nI_add i3 1]
        simp only [k_passes_52, if_pos c2, if_pos c3] at ih
        exact ih
      · skip
        rw [if_neg c3] at hk
        obtain ⟨k4, k5, hk⟩ := hk
        refine G.sl [(.aload_n 0, 1, 0, 0, 0, 0), (.getfield 35, 3, 11, 14, 137, 0), (.iconst 3, 1, 0, 0, 0, nI 3), (.iload_n 3, 1, 3, 0, 0, 0), (.imul, 1, 0, 0, 0, 0), (.iconst 2, 1, 0, 0, 0, nI 2), (.iadd, 1, 0, 0, 0, 0), (.iaload, 1, 0, 0, 0, 0), (.aload_n 0, 1, 0, 0, 0, 0), (.getfield 35, 3, 11, 14, 137, 0), (.iconst 3, 1, 0, 0, 0, nI 3), (.iload_n 2, 1, 2, 0, 0, 0), (.imul, 1, 0, 0, 0, 0), (.iconst 2, 1, 0, 0, 0, nI 2), (.iadd, 1, 0, 0, 0, 0), (.iaload, 1, 0, 0, 0, 0)] [(3 * i3) + 2, (3 * (ix (k_passes_52 (M.1 61) (M.1 72) n1 i3))) + 2] (pc2 := 98) (ls2 := [some (.ref 54), some (.int (nI n1)), some (.int (k_passes_52 (M.1 61) (M.1 72) n1 i3)), some (.int (nI i3))]) (st2 := [.int (M.1 61 ((3 * (ix (k_passes_52 (M.1 61) (M.1 72) n1 i3))) + 2)), .int (M.1 61 ((3 * i3) + 2))]) (M2 := M) (Ps := [(((nI 3) * (nI i3)) + (nI 2)) = nI ((3 * i3) + 2) ∧ ((3 * i3) + 2) < 30, (((nI 3) * (k_passes_52 (M.1 61) (M.1 72) n1 i3)) + (nI 2)) = nI ((3 * (ix (k_passes_52 (M.1 61) (M.1 72) n1 i3))) + 2) ∧ ((3 * (ix (k_passes_52 (M.1 61) (M.1 72) n1 i3))) + 2) < 30]) (by decide +kernel) rfl rfl ⟨⟨(nAdd (pk_mul _ _) rfl), (by omega)⟩, ⟨(nAdd (nMul rfl (ixE k4)) rfl), k5⟩, trivial⟩ ?_
        refine G.ic_ge (off := (5)) (tgt := 103) (by decide +kernel) rfl (fun c6 => ?_) (fun c6 => ?_)
        · skip
          refine G.sl [(.iinc 3 1, 3, 3, 0, 0, nI 1), (.goto (-54), 3, 52, 0, 0, 0)] [] (pc2 := 52) (ls2 := [some (.ref 54), some (.int (nI n1)), some (.int (k_passes_52 (M.1 61) (M.1 72) n1 i3)), some (.int ((nI i3) + nI 1))]) (st2 := []) (M2 := M) (Ps := []) (by decide +kernel) rfl rfl trivial ?_
          rw [nI_add i3 1]
          simp only [k_passes_52, if_pos c2, if_neg c3, if_pos c6] at ih
          exact ih
        · skip
          refine G.sl [(.iload_n 3, 1, 3, 0, 0, 0), (.istore_n 2, 1, 2, 0, 0, 0), (.iinc 3 1, 3, 3, 0, 0, nI 1), (.goto (-54), 3, 52, 0, 0, 0)] [] (pc2 := 52) (ls2 := [some (.ref 54), some (.int (nI n1)), some (.int (nI i3)), some (.int ((nI i3) + nI 1))]) (st2 := []) (M2 := M) (Ps := []) (by decide +kernel) rfl rfl trivial ?_
          rw [nI_add i3 1]
          simp only [k_passes_52, if_pos c2, if_neg c3, if_neg c6] at ih
          exact ih
set_option maxHeartbeats 4000000 in
set_option maxRecDepth 3000 in
theorem lp_k_passes_54_2 (z : Zp) (d : Nat) (M : Mem) (Q : Rs → Prop) (nt : Nat) (hnt : nt ≤ 10) (ct : M.1 54 22 = nI nt) (nf : Nat) (hnf : nf ≤ 6) (cf : M.1 54 23 = nI nf) (hk : ∀ i1, i1 < nf → k_passes_2_ok (M.1 61) (M.1 72) nt i1) (hX : G z mX12_passes (d) 0 0 130 [some (.ref 54), none, none, none] [] (mrow M 72 (k_passes_2 (M.1 61) (M.1 72) nt nf)) Q) : G z mX12_passes (d) 0 0 2 [some (.ref 54), some (.int (nI 0)), none, none] [] M Q := by
  refine G.mem (M' := mrow M 72 (M.1 72)) (by simp only [mrow_self]) ?_
  refine down (n := nf) (P := fun i1 => G z mX12_passes (d) 0 0 2 [some (.ref 54), some (.int (nI i1)), none, none] [] (mrow M 72 (k_passes_2 (M.1 61) (M.1 72) nt i1)) Q) ?_ ?_ 0 (Nat.zero_le _)
  · skip
    refine G.sl [(.iload_n 1, 1, 1, 0, 0, 0), (.aload_n 0, 1, 0, 0, 0, 0), (.getfield 165, 3, 11, 23, 146, 0)] [] (pc2 := 7) (ls2 := [some (.ref 54), some (.int (nI nf)), none, none]) (st2 := [.int (M.1 54 23), .int (nI nf)]) (M2 := mrow M 72 (k_passes_2 (M.1 61) (M.1 72) nt nf)) (Ps := []) (by decide +kernel) rfl rfl trivial ?_
    rw [cf]
    refine G.ic_ge (off := (123)) (tgt := 130) (by decide +kernel) rfl (fun _ => ?_) (fun h9 => absurd (nI_le (by omega) (by omega)) h9)
    refine G.loc (ls2 := [some (.ref 54), none, none, none]) (by simp [subL]) ?_
    exact hX
  · skip
    intro i1 hi ih
    have hk := hk i1 hi
    simp only [k_passes_2_ok] at hk
    show G z mX12_passes (d) 0 0 2 [some (.ref 54), some (.int (nI i1)), none, none] [] (mrow M 72 (k_passes_2 (M.1 61) (M.1 72) nt i1)) Q
    refine G.sl [(.iload_n 1, 1, 1, 0, 0, 0), (.aload_n 0, 1, 0, 0, 0, 0), (.getfield 165, 3, 11, 23, 146, 0)] [] (pc2 := 7) (ls2 := [some (.ref 54), some (.int (nI i1)), none, none]) (st2 := [.int (M.1 54 23), .int (nI i1)]) (M2 := mrow M 72 (k_passes_2 (M.1 61) (M.1 72) nt i1)) (Ps := []) (by decide +kernel) rfl rfl trivial ?_
    rw [cf]
    refine G.ic_ge (off := (123)) (tgt := 130) (by decide +kernel) rfl (fun h9 => absurd h9 (nI_ge (by omega) (by omega))) (fun _ => ?_)
    refine G.sl [(.aload_n 0, 1, 0, 0, 0, 0), (.getfield 68, 3, 11, 41, 164, 0), (.bipush 32, 2, 0, 0, 0, nI 32), (.iload_n 1, 1, 1, 0, 0, 0), (.iadd, 1, 0, 0, 0, 0), (.iconst 0, 1, 0, 0, 0, nI 0), (.iastore, 1, 0, 0, 0, 0), (.aload_n 0, 1, 0, 0, 0, 0), (.getfield 68, 3, 11, 41, 164, 0), (.bipush 26, 2, 0, 0, 0, nI 26), (.iload_n 1, 1, 1, 0, 0, 0), (.iadd, 1, 0, 0, 0, 0), (.iaload, 1, 0, 0, 0, 0)] [32 + i1, 26 + i1] (pc2 := 29) (ls2 := [some (.ref 54), some (.int (nI i1)), none, none]) (st2 := [.int ((upd (k_passes_2 (M.1 61) (M.1 72) nt i1) (32 + i1) (nI 0)) (26 + i1))]) (M2 := mput (mrow M 72 (k_passes_2 (M.1 61) (M.1 72) nt i1)) 72 (32 + i1) (nI 0)) (Ps := [((nI 32) + (nI i1)) = nI (32 + i1) ∧ (32 + i1) < 51, ((nI 26) + (nI i1)) = nI (26 + i1) ∧ (26 + i1) < 51]) (by decide +kernel) rfl rfl ⟨⟨(nI_add _ _), (by omega)⟩, ⟨(nI_add _ _), (by omega)⟩, trivial⟩ ?_
    refine G.mem (M' := mrow M 72 (upd (k_passes_2 (M.1 61) (M.1 72) nt i1) (32 + i1) (nI 0))) (by first | rfl | (simp only [mput, mrow_same, mrow_hit, mrow_miss, mrow_sw, idr_eq, ne_eq, Nat.reduceEqDiff, not_false_eq_true, Nat.reduceLT, reduceCtorEq]; done)) ?_
    refine G.if_gt (off := (6)) (tgt := 35) (by decide +kernel) rfl (fun c1 => ?_) (fun c1 => ?_)
    · skip
      rw [if_pos c1] at hk
      refine G.sl [(.aload_n 0, 1, 0, 0, 0, 0), (.getfield 68, 3, 11, 41, 164, 0), (.bipush 44, 2, 0, 0, 0, nI 44), (.iload_n 1, 1, 1, 0, 0, 0), (.iadd, 1, 0, 0, 0, 0), (.dup2, 1, 0, 0, 0, 0), (.iaload, 1, 0, 0, 0, 0), (.iconst 1, 1, 0, 0, 0, nI 1), (.iadd, 1, 0, 0, 0, 0), (.iastore, 1, 0, 0, 0, 0), (.iconst (-1), 1, 0, 0, 0, (-1)), (.istore_n 2, 1, 2, 0, 0, 0), (.iconst 0, 1, 0, 0, 0, nI 0), (.istore_n 3, 1, 3, 0, 0, 0)] [44 + i1, 44 + i1] (pc2 := 52) (ls2 := [some (.ref 54), some (.int (nI i1)), some (.int ((-1))), some (.int (nI 0))]) (st2 := []) (M2 := mput (mrow M 72 (upd (k_passes_2 (M.1 61) (M.1 72) nt i1) (32 + i1) (nI 0))) 72 (44 + i1) (((upd (k_passes_2 (M.1 61) (M.1 72) nt i1) (32 + i1) (nI 0)) (44 + i1)) + (nI 1))) (Ps := [((nI 44) + (nI i1)) = nI (44 + i1) ∧ (44 + i1) < 51, ((nI 44) + (nI i1)) = nI (44 + i1) ∧ (44 + i1) < 51]) (by decide +kernel) rfl rfl ⟨⟨(nI_add _ _), (by omega)⟩, ⟨(nI_add _ _), (by omega)⟩, trivial⟩ ?_
      refine G.mem (M' := mrow M 72 (upd (upd (k_passes_2 (M.1 61) (M.1 72) nt i1) (32 + i1) (nI 0)) (44 + i1) (((upd (k_passes_2 (M.1 61) (M.1 72) nt i1) (32 + i1) (nI 0)) (44 + i1)) + (nI 1)))) (by first | rfl | (simp only [mput, mrow_same, mrow_hit, mrow_miss, mrow_sw, idr_eq, ne_eq, Nat.reduceEqDiff, not_false_eq_true, Nat.reduceLT, reduceCtorEq]; done)) ?_
      obtain ⟨k7, hk⟩ := hk
      refine lp_k_passes_54_52 z d (mrow M 72 (upd (upd (k_passes_2 (M.1 61) (M.1 72) nt i1) (32 + i1) (nI 0)) (44 + i1) (((upd (k_passes_2 (M.1 61) (M.1 72) nt i1) (32 + i1) (nI 0)) (44 + i1)) + (nI 1)))) Q i1 nt hnt ct (by omega) (by first | (simp only [mput, mrow_same, mrow_hit, mrow_miss, mrow_sw, idr_eq, ne_eq, Nat.reduceEqDiff, not_false_eq_true, Nat.reduceLT, reduceCtorEq]; exact k7) | exact k7) ?_
      show G z mX12_passes (d) 0 0 109 [some (.ref 54), some (.int (nI i1)), some (.int (k_passes_52 (M.1 61) (upd (upd (k_passes_2 (M.1 61) (M.1 72) nt i1) (32 + i1) (nI 0)) (44 + i1) (((upd (k_passes_2 (M.1 61) (M.1 72) nt i1) (32 + i1) (nI 0)) (44 + i1)) + (nI 1))) i1 nt)), none] [] (mrow M 72 (upd (upd (k_passes_2 (M.1 61) (M.1 72) nt i1) (32 + i1) (nI 0)) (44 + i1) (((upd (k_passes_2 (M.1 61) (M.1 72) nt i1) (32 + i1) (nI 0)) (44 + i1)) + (nI 1)))) Q
      refine G.sl [(.iload_n 2, 1, 2, 0, 0, 0), (.iconst (-1), 1, 0, 0, 0, (-1))] [] (pc2 := 111) (ls2 := [some (.ref 54), some (.int (nI i1)), some (.int (k_passes_52 (M.1 61) (upd (upd (k_passes_2 (M.1 61) (M.1 72) nt i1) (32 + i1) (nI 0)) (44 + i1) (((upd (k_passes_2 (M.1 61) (M.1 72) nt i1) (32 + i1) (nI 0)) (44 + i1)) + (nI 1))) i1 nt)), none]) (st2 := [.int ((-1)), .int (k_passes_52 (M.1 61) (upd (upd (k_passes_2 (M.1 61) (M.1 72) nt i1) (32 + i1) (nI 0)) (44 + i1) (((upd (k_passes_2 (M.1 61) (M.1 72) nt i1) (32 + i1) (nI 0)) (44 + i1)) + (nI 1))) i1 nt)]) (M2 := mrow M 72 (upd (upd (k_passes_2 (M.1 61) (M.1 72) nt i1) (32 + i1) (nI 0)) (44 + i1) (((upd (k_passes_2 (M.1 61) (M.1 72) nt i1) (32 + i1) (nI 0)) (44 + i1)) + (nI 1)))) (Ps := []) (by decide +kernel) rfl rfl trivial ?_
      refine G.ic_eq (off := (13)) (tgt := 124) (by decide +kernel) rfl (fun c8 => ?_) (fun c8 => ?_)
      · skip
        rw [if_pos c8] at hk
        refine G.sl [(.iinc 1 1, 3, 1, 0, 0, nI 1), (.goto (-125), 3, 2, 0, 0, 0)] [] (pc2 := 2) (ls2 := [some (.ref 54), some (.int ((nI i1) + nI 1)), some (.int (k_passes_52 (M.1 61) (upd (upd (k_passes_2 (M.1 61) (M.1 72) nt i1) (32 + i1) (nI 0)) (44 + i1) (((upd (k_passes_2 (M.1 61) (M.1 72) nt i1) (32 + i1) (nI 0)) (44 + i1)) + (nI 1))) i1 nt)), none]) (st2 := []) (M2 := mrow M 72 (upd (upd (k_passes_2 (M.1 61) (M.1 72) nt i1) (32 + i1) (nI 0)) (44 + i1) (((upd (k_passes_2 (M.1 61) (M.1 72) nt i1) (32 + i1) (nI 0)) (44 + i1)) + (nI 1)))) (Ps := []) (by decide +kernel) rfl rfl trivial ?_
        refine G.loc (ls2 := [some (.ref 54), some (.int ((nI i1) + nI 1)), none, none]) (by simp [subL]) ?_
        rw [nI_add i1 1]
        simp only [k_passes_2, if_pos c1, if_pos c8] at ih
        exact ih
      · skip
        rw [if_neg c8] at hk
        obtain ⟨k9, k10, hk⟩ := hk
        refine G.sl [(.aload_n 0, 1, 0, 0, 0, 0), (.getfield 68, 3, 11, 41, 164, 0), (.bipush 10, 2, 0, 0, 0, nI 10), (.iload_n 2, 1, 2, 0, 0, 0), (.iadd, 1, 0, 0, 0, 0), (.iconst (-1), 1, 0, 0, 0, (-1)), (.iastore, 1, 0, 0, 0, 0), (.iinc 1 1, 3, 1, 0, 0, nI 1), (.goto (-125), 3, 2, 0, 0, 0)] [10 + (ix (k_passes_52 (M.1 61) (upd (upd (k_passes_2 (M.1 61) (M.1 72) nt i1) (32 + i1) (nI 0)) (44 + i1) (((upd (k_passes_2 (M.1 61) (M.1 72) nt i1) (32 + i1) (nI 0)) (44 + i1)) + (nI 1))) i1 nt))] (pc2 := 2) (ls2 := [some (.ref 54), some (.int ((nI i1) + nI 1)), some (.int (k_passes_52 (M.1 61) (upd (upd (k_passes_2 (M.1 61) (M.1 72) nt i1) (32 + i1) (nI 0)) (44 + i1) (((upd (k_passes_2 (M.1 61) (M.1 72) nt i1) (32 + i1) (nI 0)) (44 + i1)) + (nI 1))) i1 nt)), none]) (st2 := []) (M2 := mput (mrow M 72 (upd (upd (k_passes_2 (M.1 61) (M.1 72) nt i1) (32 + i1) (nI 0)) (44 + i1) (((upd (k_passes_2 (M.1 61) (M.1 72) nt i1) (32 + i1) (nI 0)) (44 + i1)) + (nI 1)))) 72 (10 + (ix (k_passes_52 (M.1 61) (upd (upd (k_passes_2 (M.1 61) (M.1 72) nt i1) (32 + i1) (nI 0)) (44 + i1) (((upd (k_passes_2 (M.1 61) (M.1 72) nt i1) (32 + i1) (nI 0)) (44 + i1)) + (nI 1))) i1 nt))) ((-1))) (Ps := [((nI 10) + (k_passes_52 (M.1 61) (upd (upd (k_passes_2 (M.1 61) (M.1 72) nt i1) (32 + i1) (nI 0)) (44 + i1) (((upd (k_passes_2 (M.1 61) (M.1 72) nt i1) (32 + i1) (nI 0)) (44 + i1)) + (nI 1))) i1 nt)) = nI (10 + (ix (k_passes_52 (M.1 61) (upd (upd (k_passes_2 (M.1 61) (M.1 72) nt i1) (32 + i1) (nI 0)) (44 + i1) (((upd (k_passes_2 (M.1 61) (M.1 72) nt i1) (32 + i1) (nI 0)) (44 + i1)) + (nI 1))) i1 nt))) ∧ (10 + (ix (k_passes_52 (M.1 61) (upd (upd (k_passes_2 (M.1 61) (M.1 72) nt i1) (32 + i1) (nI 0)) (44 + i1) (((upd (k_passes_2 (M.1 61) (M.1 72) nt i1) (32 + i1) (nI 0)) (44 + i1)) + (nI 1))) i1 nt))) < 51]) (by decide +kernel) rfl rfl ⟨⟨(nAdd rfl (ixE k9)), k10⟩, trivial⟩ ?_
        refine G.mem (M' := mrow M 72 (upd (upd (upd (k_passes_2 (M.1 61) (M.1 72) nt i1) (32 + i1) (nI 0)) (44 + i1) (((upd (k_passes_2 (M.1 61) (M.1 72) nt i1) (32 + i1) (nI 0)) (44 + i1)) + (nI 1))) (10 + (ix (k_passes_52 (M.1 61) (upd (upd (k_passes_2 (M.1 61) (M.1 72) nt i1) (32 + i1) (nI 0)) (44 + i1) (((upd (k_passes_2 (M.1 61) (M.1 72) nt i1) (32 + i1) (nI 0)) (44 + i1)) + (nI 1))) i1 nt))) ((-1)))) (by first | rfl | (simp only [mput, mrow_same, mrow_hit, mrow_miss, mrow_sw, idr_eq, ne_eq, Nat.reduceEqDiff, not_false_eq_true, Nat.reduceLT, reduceCtorEq]; done)) ?_
        refine G.loc (ls2 := [some (.ref 54), some (.int ((nI i1) + nI 1)), none, none]) (by simp [subL]) ?_
        rw [nI_add i1 1]
        simp only [k_passes_2, if_pos c1, if_neg c8] at ih
        exact ih
    · skip
      rw [if_neg c1] at hk
      refine G.sl [(.goto 92, 3, 124, 0, 0, 0), (.iinc 1 1, 3, 1, 0, 0, nI 1), (.goto (-125), 3, 2, 0, 0, 0)] [] (pc2 := 2) (ls2 := [some (.ref 54), some (.int ((nI i1) + nI 1)), none, none]) (st2 := []) (M2 := mrow M 72 (upd (k_passes_2 (M.1 61) (M.1 72) nt i1) (32 + i1) (nI 0))) (Ps := []) (by decide +kernel) rfl rfl trivial ?_
      rw [nI_add i1 1]
      simp only [k_passes_2, if_neg c1] at ih
      exact ih
set_option maxHeartbeats 4000000 in
set_option maxRecDepth 3000 in
theorem c_k_passes_54 (z : Zp) (d : Nat) (M : Mem) (nt : Nat) (hnt : nt ≤ 10) (ct : M.1 54 22 = nI nt) (nf : Nat) (hnf : nf ≤ 6) (cf : M.1 54 23 = nI nf) (hk : k_passes_ok (M.1 61) (M.1 72) nt nf) : GM z mX12_passes (d) [.ref 54] M (fun rs => rs = .inl (none, mrow M 72 ((k_passes (M.1 61) (M.1 72) nt nf).2))) := by
  simp only [k_passes_ok] at hk
  refine GM.of oX12_passes.1 (Nat.le_of_ble_eq_true rfl) ?_
  show G z mX12_passes (d) 0 0 0 [some (.ref 54), none, none, none] [] M _
  obtain ⟨Q, hQ⟩ : ∃ Q : Rs → Prop, Q = (fun rs => rs = .inl (none, mrow M 72 ((k_passes (M.1 61) (M.1 72) nt nf).2))) := ⟨_, rfl⟩
  rw [← hQ]
  refine G.sl [(.iconst 0, 1, 0, 0, 0, nI 0), (.istore_n 1, 1, 1, 0, 0, 0)] [] (pc2 := 2) (ls2 := [some (.ref 54), some (.int (nI 0)), none, none]) (st2 := []) (M2 := M) (Ps := []) (by decide +kernel) rfl rfl trivial ?_
  obtain ⟨k11, hk⟩ := hk
  refine lp_k_passes_54_2 z d M Q nt hnt ct nf hnf cf (by first | (simp only [mput, mrow_same, mrow_hit, mrow_miss, mrow_sw, idr_eq, ne_eq, Nat.reduceEqDiff, not_false_eq_true, Nat.reduceLT, reduceCtorEq]; exact k11) | exact k11) ?_
  try simp only [mput, mrow_same, mrow_hit, mrow_miss, mrow_sw, idr_eq, ne_eq, Nat.reduceEqDiff, not_false_eq_true, Nat.reduceLT, reduceCtorEq]
  show G z mX12_passes (d) 0 0 130 [some (.ref 54), none, none, none] [] (mrow M 72 (k_passes_2 (M.1 61) (M.1 72) nt nf)) Q
  refine G.sl [(.aload_n 0, 1, 0, 0, 0, 0), (.getfield 68, 3, 11, 41, 164, 0), (.bipush 50, 2, 0, 0, 0, nI 50), (.dup2, 1, 0, 0, 0, 0), (.iaload, 1, 0, 0, 0, 0), (.iconst 1, 1, 0, 0, 0, nI 1), (.iadd, 1, 0, 0, 0, 0), (.iastore, 1, 0, 0, 0, 0)] [50, 50] (pc2 := 141) (ls2 := [some (.ref 54), none, none, none]) (st2 := []) (M2 := mput (mrow M 72 (k_passes_2 (M.1 61) (M.1 72) nt nf)) 72 50 (((k_passes_2 (M.1 61) (M.1 72) nt nf) 50) + (nI 1))) (Ps := [(nI 50) = nI 50 ∧ 50 < 51, (nI 50) = nI 50 ∧ 50 < 51]) (by decide +kernel) rfl rfl ⟨⟨rfl, (by omega)⟩, ⟨rfl, (by omega)⟩, trivial⟩ ?_
  refine G.mem (M' := mrow M 72 (upd (k_passes_2 (M.1 61) (M.1 72) nt nf) 50 (((k_passes_2 (M.1 61) (M.1 72) nt nf) 50) + (nI 1)))) (by first | rfl | (simp only [mput, mrow_same, mrow_hit, mrow_miss, mrow_sw, idr_eq, ne_eq, Nat.reduceEqDiff, not_false_eq_true, Nat.reduceLT, reduceCtorEq]; done)) ?_
  exact G.retv (by decide +kernel) rfl (Nat.le_of_ble_eq_true rfl) (Nat.le_of_ble_eq_true rfl) ((by rw [hQ]; simp only [k_passes, mrow_self]))
set_option maxHeartbeats 4000000 in
set_option maxRecDepth 3000 in
theorem lp_k_ahead_54_46 (z : Zp) (d : Nat) (M : Mem) (Q : Rs → Prop) (x1 : Int32) (x2 : Int32) (nt : Nat) (hnt : nt ≤ 10) (ct : M.1 54 22 = nI nt) (nf : Nat) (hnf : nf ≤ 6) (cf : M.1 54 23 = nI nf) : ∀ (k0 : Nat) (s3 : Int32) (q72 : (Nat → Int32)), k_ahead_46_ok (M.1 61) nt nf x1 x2 k0 s3 q72 → (match k_ahead_46 (M.1 61) nt nf x1 x2 k0 s3 q72 with | (s3', q72') => G z mX12_ahead (d + 2) 0 0 61 [some (.ref 54), none, some (.int x2), none] [] (mrow M 72 (q72')) Q) → G z mX12_ahead (d + 2) 0 0 46 [some (.ref 54), some (.int x1), some (.int x2), some (.int s3)] [] (mrow M 72 q72) Q := by
  intro k0
  induction k0 with
  | zero =>
      intro s3 q72 hk hX
      exact (by simpa only [k_ahead_46_ok] using hk : False).elim
  | succ k0 ih =>
      intro s3 q72 hk hX
      simp only [k_ahead_46_ok] at hk
      refine G.sl [(.iload_n 3, 1, 3, 0, 0, 0), (.iload_n 1, 1, 1, 0, 0, 0)] [] (pc2 := 48) (ls2 := [some (.ref 54), some (.int x1), some (.int x2), some (.int s3)]) (st2 := [.int x1, .int s3]) (M2 := mrow M 72 q72) (Ps := []) (by decide +kernel) rfl rfl trivial ?_
      refine G.ic_ge (off := (13)) (tgt := 61) (by decide +kernel) rfl (fun c19 => ?_) (fun c19 => ?_)
      · skip
        rw [if_pos c19] at hk
        refine G.loc (ls2 := [some (.ref 54), none, some (.int x2), none]) (by simp [subL]) ?_
        simp only [k_ahead_46, if_pos c19] at hX
        exact hX
      · skip
        rw [if_neg c19] at hk
        refine G.sl [(.aload_n 0, 1, 0, 0, 0, 0)] [] (pc2 := 52) (ls2 := [some (.ref 54), some (.int x1), some (.int x2), some (.int s3)]) (st2 := [.ref 54]) (M2 := mrow M 72 q72) (Ps := []) (by decide +kernel) rfl rfl trivial ?_
        obtain ⟨k20, hk⟩ := hk
        rcases g21 : k_passes (M.1 61) q72 nt nf with ⟨u22, r23⟩
        try simp only [g21] at hk
        have t24 : GM z mX12_passes (d + 1) [.ref 54] (mrow M 72 q72) (fun rs => rs = .inl (none, mrow M 72 r23)) := by
          have q9 := c_k_passes_54 z (d + 1) (mrow M 72 q72) nt hnt ct nf hnf cf k20
          try simp only [mput, mrow_same, mrow_hit, mrow_miss, mrow_sw, idr_eq, ne_eq, Nat.reduceEqDiff, not_false_eq_true, Nat.reduceLT, reduceCtorEq, g21] at q9
          exact q9
        refine G.callV (as := []) (rest := []) (a := 54) oX12_passes lk_EvenFindersModel_373 (by decide +kernel) rfl rfl ⟨rfl, rfl⟩ (Nat.le_of_ble_eq_true rfl) rfl ⟨Nat.le_of_ble_eq_true rfl, Nat.le_of_ble_eq_true rfl⟩ t24 (fun v9 N9 h25 => ?_) (fun E9 N9 h25 => by cases h25)
        cases h25
        show G z mX12_ahead (d + 2) 0 0 55 [some (.ref 54), some (.int x1), some (.int x2), some (.int s3)] [] (mrow M 72 r23) Q
        refine G.sl [(.iinc 3 1, 3, 3, 0, 0, nI 1), (.goto (-12), 3, 46, 0, 0, 0)] [] (pc2 := 46) (ls2 := [some (.ref 54), some (.int x1), some (.int x2), some (.int (s3 + nI 1))]) (st2 := []) (M2 := mrow M 72 r23) (Ps := []) (by decide +kernel) rfl rfl trivial ?_
        simp only [k_ahead_46, if_neg c19, g21] at hX
        exact ih (s3 + nI 1) r23 hk hX
set_option maxHeartbeats 4000000 in
set_option maxRecDepth 3000 in
theorem c_k_ahead_54 (z : Zp) (d : Nat) (M : Mem) (x1 : Int32) (x2 : Int32) (hk : k_ahead_ok (M.1 54) (M.1 55) (M.1 61) (M.1 71) (M.1 72) x1 x2) : GM z mX12_ahead (d + 2) [.ref 54, .int x1, .int x2] M (fun rs => rs = .inl (some (.int ((k_ahead (M.1 54) (M.1 55) (M.1 61) (M.1 71) (M.1 72) x1 x2).1)), mrow (mrow (mrow M 54 ((k_ahead (M.1 54) (M.1 55) (M.1 61) (M.1 71) (M.1 72) x1 x2).2.1)) 55 ((k_ahead (M.1 54) (M.1 55) (M.1 61) (M.1 71) (M.1 72) x1 x2).2.2.1)) 72 ((k_ahead (M.1 54) (M.1 55) (M.1 61) (M.1 71) (M.1 72) x1 x2).2.2.2))) := by
  simp only [k_ahead_ok] at hk
  refine GM.of oX12_ahead.1 (Nat.le_of_ble_eq_true rfl) ?_
  show G z mX12_ahead (d + 2) 0 0 0 [some (.ref 54), some (.int x1), some (.int x2), none] [] M _
  obtain ⟨Q, hQ⟩ : ∃ Q : Rs → Prop, Q = (fun rs => rs = .inl (some (.int ((k_ahead (M.1 54) (M.1 55) (M.1 61) (M.1 71) (M.1 72) x1 x2).1)), mrow (mrow (mrow M 54 ((k_ahead (M.1 54) (M.1 55) (M.1 61) (M.1 71) (M.1 72) x1 x2).2.1)) 55 ((k_ahead (M.1 54) (M.1 55) (M.1 61) (M.1 71) (M.1 72) x1 x2).2.2.1)) 72 ((k_ahead (M.1 54) (M.1 55) (M.1 61) (M.1 71) (M.1 72) x1 x2).2.2.2))) := ⟨_, rfl⟩
  rw [← hQ]
  refine G.sl [(.aload_n 0, 1, 0, 0, 0, 0), (.iconst 0, 1, 0, 0, 0, nI 0), (.putfield 3, 3, 11, 0, 123, 0), (.aload_n 0, 1, 0, 0, 0, 0), (.iload_n 1, 1, 1, 0, 0, 0), (.iconst 0, 1, 0, 0, 0, nI 0), (.bipush 99, 2, 0, 0, 0, nI 99)] [] (pc2 := 10) (ls2 := [some (.ref 54), some (.int x1), some (.int x2), none]) (st2 := [.int (nI 99), .int (nI 0), .int x1, .ref 54]) (M2 := mput M 54 0 (nI 0)) (Ps := []) (by decide +kernel) rfl rfl trivial ?_
  refine G.mem (M' := mrow M 54 (upd (M.1 54) 0 (nI 0))) (by first | rfl | (simp only [mput, mrow_same, mrow_hit, mrow_miss, mrow_sw, idr_eq, ne_eq, Nat.reduceEqDiff, not_false_eq_true, Nat.reduceLT, reduceCtorEq]; done)) ?_
  obtain ⟨k1, hk⟩ := hk
  have t2 : GM z mX12_within (d + 1) [.int x1, .int (nI 0), .int (nI 99)] (mrow M 54 (upd (M.1 54) 0 (nI 0))) (fun rs => rs = .inl (some (.int (k_within x1 (nI 0) (nI 99))), mrow M 54 (upd (M.1 54) 0 (nI 0)))) := by
    have q9 := c_k_within z (d + 1) (mrow M 54 (upd (M.1 54) 0 (nI 0))) x1 (nI 0) (nI 99)
    try simp only [mput, mrow_same, mrow_hit, mrow_miss, mrow_sw, idr_eq, ne_eq, Nat.reduceEqDiff, not_false_eq_true, Nat.reduceLT, reduceCtorEq] at q9
    exact q9
  refine G.callS (as := [.int x1, .int (nI 0), .int (nI 99)]) (rest := [.ref 54]) oX12_within lk_EvenFindersModel_379 (by decide +kernel) rfl (Nat.le_of_ble_eq_true rfl) rfl ⟨Nat.le_of_ble_eq_true rfl, Nat.le_of_ble_eq_true rfl⟩ t2 (fun v9 N9 h3 => ?_) (fun E9 N9 h3 => by cases h3)
  cases h3
  show G z mX12_ahead (d + 2) 0 0 13 [some (.ref 54), some (.int x1), some (.int x2), none] [.int (k_within x1 (nI 0) (nI 99)), .ref 54] (mrow M 54 (upd (M.1 54) 0 (nI 0))) Q
  refine G.if_eq (off := (16)) (tgt := 29) (by decide +kernel) rfl (fun c4 => ?_) (fun c4 => ?_)
  · skip
    rw [if_pos c4] at hk
    refine G.sl [(.iconst 0, 1, 0, 0, 0, nI 0), (.iconst 1, 1, 0, 0, 0, nI 1), (.iconst 1, 1, 0, 0, 0, nI 1)] [] (pc2 := 32) (ls2 := [some (.ref 54), some (.int x1), some (.int x2), none]) (st2 := [.int (nI 1), .int (nI 1), .int (nI 0), .ref 54]) (M2 := mrow M 54 (upd (M.1 54) 0 (nI 0))) (Ps := []) (by decide +kernel) rfl rfl trivial ?_
    obtain ⟨k5, hk⟩ := hk
    rcases g6 : k_may_1 (upd (M.1 54) 0 (nI 0)) (M.1 55) (nI 0) (nI 1) with ⟨v7, r8, r9⟩
    try simp only [g6] at hk
    have ev7 : v7 = 0 ∨ v7 = 1 := by
      have q9 := k_may_1_01 (upd (M.1 54) 0 (nI 0)) (M.1 55) (nI 0) (nI 1)
      rw [g6] at q9
      exact q9
    have t10 : GM z mX12_may (d + 1) [.ref 54, .int (nI 0), .int (nI 1), .int (nI 1)] (mrow M 54 (upd (M.1 54) 0 (nI 0))) (fun rs => rs = .inl (some (.int v7), mrow (mrow M 54 r8) 55 r9)) := by
      have q9 := c_k_may_1_54 z (d + 1) (mrow M 54 (upd (M.1 54) 0 (nI 0))) (nI 0) (nI 1)
      try simp only [mput, mrow_same, mrow_hit, mrow_miss, mrow_sw, idr_eq, ne_eq, Nat.reduceEqDiff, not_false_eq_true, Nat.reduceLT, reduceCtorEq, g6] at q9
      exact q9
    refine G.callV (as := [.int (nI 0), .int (nI 1), .int (nI 1)]) (rest := []) (a := 54) oX12_may lk_EvenFindersModel_213 (by decide +kernel) rfl rfl ⟨rfl, rfl⟩ (Nat.le_of_ble_eq_true rfl) rfl ⟨Nat.le_of_ble_eq_true rfl, Nat.le_of_ble_eq_true rfl⟩ t10 (fun v9 N9 h11 => ?_) (fun E9 N9 h11 => by cases h11)
    cases h11
    show G z mX12_ahead (d + 2) 0 0 35 [some (.ref 54), some (.int x1), some (.int x2), none] [.int v7] (mrow (mrow M 54 r8) 55 r9) Q
    refine G.if_ne (off := (5)) (tgt := 40) (by decide +kernel) rfl (fun c12 => ?_) (fun c12 => ?_)
    · skip
      rw [if_neg c12] at hk
      refine G.sl [(.aload_n 0, 1, 0, 0, 0, 0)] [] (pc2 := 41) (ls2 := [some (.ref 54), some (.int x1), some (.int x2), none]) (st2 := [.ref 54]) (M2 := mrow (mrow M 54 r8) 55 r9) (Ps := []) (by decide +kernel) rfl rfl trivial ?_
      obtain ⟨k13, hk⟩ := hk
      rcases g14 : k_take (M.1 71) (M.1 72) with ⟨u15, r16⟩
      try simp only [g14] at hk
      have t17 : GM z mX12_take (d + 1) [.ref 54] (mrow (mrow M 54 r8) 55 r9) (fun rs => rs = .inl (none, mrow (mrow (mrow M 54 r8) 55 r9) 72 r16)) := by
        have q9 := c_k_take_54 z d (mrow (mrow M 54 r8) 55 r9) k13
        try simp only [mput, mrow_same, mrow_hit, mrow_miss, mrow_sw, idr_eq, ne_eq, Nat.reduceEqDiff, not_false_eq_true, Nat.reduceLT, reduceCtorEq, g14] at q9
        exact q9
      refine G.callV (as := []) (rest := []) (a := 54) oX12_take lk_EvenFindersModel_320 (by decide +kernel) rfl rfl ⟨rfl, rfl⟩ (Nat.le_of_ble_eq_true rfl) rfl ⟨Nat.le_of_ble_eq_true rfl, Nat.le_of_ble_eq_true rfl⟩ t17 (fun v9 N9 h18 => ?_) (fun E9 N9 h18 => by cases h18)
      cases h18
      show G z mX12_ahead (d + 2) 0 0 44 [some (.ref 54), some (.int x1), some (.int x2), none] [] (mrow (mrow (mrow M 54 r8) 55 r9) 72 r16) Q
      refine G.sl [(.iconst 0, 1, 0, 0, 0, nI 0), (.istore_n 3, 1, 3, 0, 0, 0)] [] (pc2 := 46) (ls2 := [some (.ref 54), some (.int x1), some (.int x2), some (.int (nI 0))]) (st2 := []) (M2 := mrow (mrow (mrow M 54 r8) 55 r9) 72 r16) (Ps := []) (by decide +kernel) rfl rfl trivial ?_
      obtain ⟨k26, k27, k28, k29, hk⟩ := hk
      obtain ⟨k30, hk⟩ := hk
      refine G.mem (M' := mrow (mrow (mrow (mrow M 54 r8) 55 r9) 72 r16) 72 ((mrow (mrow (mrow M 54 r8) 55 r9) 72 r16).1 72)) (by simp only [mrow_self]) ?_
      refine lp_k_ahead_54_46 z d (mrow (mrow (mrow M 54 r8) 55 r9) 72 r16) Q x1 x2 (ix (r8 22)) k27 (ixE k26) (ix (r8 23)) k29 (ixE k28) FU (nI 0) ((mrow (mrow (mrow M 54 r8) 55 r9) 72 r16).1 72) (by first | (simp only [mput, mrow_same, mrow_hit, mrow_miss, mrow_sw, idr_eq, ne_eq, Nat.reduceEqDiff, not_false_eq_true, Nat.reduceLT, reduceCtorEq]; exact k30) | exact k30) ?_
      try simp only [mput, mrow_same, mrow_hit, mrow_miss, mrow_sw, idr_eq, ne_eq, Nat.reduceEqDiff, not_false_eq_true, Nat.reduceLT, reduceCtorEq]
      rcases g31 : k_ahead_46 (M.1 61) (ix (r8 22)) (ix (r8 23)) x1 x2 FU (nI 0) r16 with ⟨v32, r33⟩
      show G z mX12_ahead (d + 2) 0 0 61 [some (.ref 54), none, some (.int x2), none] [] (mrow (mrow (mrow M 54 r8) 55 r9) 72 r33) Q
      refine G.sl [(.iload_n 2, 1, 2, 0, 0, 0)] [] (pc2 := 62) (ls2 := [some (.ref 54), none, some (.int x2), none]) (st2 := [.int x2]) (M2 := mrow (mrow (mrow M 54 r8) 55 r9) 72 r33) (Ps := []) (by decide +kernel) rfl rfl trivial ?_
      refine G.if_ne (off := (10)) (tgt := 72) (by decide +kernel) rfl (fun c34 => ?_) (fun c34 => ?_)
      · skip
        refine G.sl [(.iload_n 2, 1, 2, 0, 0, 0), (.iconst 1, 1, 0, 0, 0, nI 1)] [] (pc2 := 74) (ls2 := [some (.ref 54), none, some (.int x2), none]) (st2 := [.int (nI 1), .int x2]) (M2 := mrow (mrow (mrow M 54 r8) 55 r9) 72 r33) (Ps := []) (by decide +kernel) rfl rfl trivial ?_
        refine G.ic_ne (off := (12)) (tgt := 86) (by decide +kernel) rfl (fun c35 => ?_) (fun c35 => ?_)
        · skip
          refine G.sl [(.aload_n 0, 1, 0, 0, 0, 0), (.aload_n 0, 1, 0, 0, 0, 0)] [] (pc2 := 88) (ls2 := [some (.ref 54), none, some (.int x2), none]) (st2 := [.ref 54, .ref 54]) (M2 := mrow (mrow (mrow M 54 r8) 55 r9) 72 r33) (Ps := []) (by decide +kernel) rfl rfl trivial ?_
          have t37 : GM z mX12_allLying (d + 1) [.ref 54] (mrow (mrow (mrow M 54 r8) 55 r9) 72 r33) (fun rs => rs = .inl (some (.int (k_allLying r33 (ix (r8 22)))), mrow (mrow (mrow M 54 r8) 55 r9) 72 r33)) := by
            have q9 := c_k_allLying_54 z (d + 1) (mrow (mrow (mrow M 54 r8) 55 r9) 72 r33) (ix (r8 22)) (by omega) (ixE k26)
            try simp only [mput, mrow_same, mrow_hit, mrow_miss, mrow_sw, idr_eq, ne_eq, Nat.reduceEqDiff, not_false_eq_true, Nat.reduceLT, reduceCtorEq] at q9
            exact q9
          refine G.callV (as := []) (rest := [.ref 54]) (a := 54) oX12_allLying lk_EvenFindersModel_376 (by decide +kernel) rfl rfl ⟨rfl, rfl⟩ (Nat.le_of_ble_eq_true rfl) rfl ⟨Nat.le_of_ble_eq_true rfl, Nat.le_of_ble_eq_true rfl⟩ t37 (fun v9 N9 h38 => ?_) (fun E9 N9 h38 => by cases h38)
          cases h38
          show G z mX12_ahead (d + 2) 0 0 91 [some (.ref 54), none, some (.int x2), none] [.int (k_allLying r33 (ix (r8 22))), .ref 54] (mrow (mrow (mrow M 54 r8) 55 r9) 72 r33) Q
          have t40 : GM z mX12_worthOf (d + 1) [.ref 54, .int (k_allLying r33 (ix (r8 22)))] (mrow (mrow (mrow M 54 r8) 55 r9) 72 r33) (fun rs => rs = .inl (some (.int (k_worthOf (M.1 61) (ix (r8 22)) (k_allLying r33 (ix (r8 22))))), mrow (mrow (mrow M 54 r8) 55 r9) 72 r33)) := by
            have q9 := c_k_worthOf_54 z (d + 1) (mrow (mrow (mrow M 54 r8) 55 r9) 72 r33) (k_allLying r33 (ix (r8 22))) (ix (r8 22)) (by omega) (ixE k26)
            try simp only [mput, mrow_same, mrow_hit, mrow_miss, mrow_sw, idr_eq, ne_eq, Nat.reduceEqDiff, not_false_eq_true, Nat.reduceLT, reduceCtorEq] at q9
            exact q9
          refine G.callV (as := [.int (k_allLying r33 (ix (r8 22)))]) (rest := []) (a := 54) oX12_worthOf lk_EvenFindersModel_388 (by decide +kernel) rfl rfl ⟨rfl, rfl⟩ (Nat.le_of_ble_eq_true rfl) rfl ⟨Nat.le_of_ble_eq_true rfl, Nat.le_of_ble_eq_true rfl⟩ t40 (fun v9 N9 h41 => ?_) (fun E9 N9 h41 => by cases h41)
          cases h41
          show G z mX12_ahead (d + 2) 0 0 94 [some (.ref 54), none, some (.int x2), none] [.int (k_worthOf (M.1 61) (ix (r8 22)) (k_allLying r33 (ix (r8 22))))] (mrow (mrow (mrow M 54 r8) 55 r9) 72 r33) Q
          exact G.reti (by decide +kernel) rfl rfl (Nat.le_of_ble_eq_true rfl) (Nat.le_of_ble_eq_true rfl) ((by rw [hQ]; simp only [k_ahead, if_pos c4, g6, if_neg c12, g14, g31, if_neg c34, if_neg c35, mrow_self]))
        · skip
          refine G.sl [(.aload_n 0, 1, 0, 0, 0, 0), (.bipush 44, 2, 0, 0, 0, nI 44)] [] (pc2 := 80) (ls2 := [some (.ref 54), none, some (.int x2), none]) (st2 := [.int (nI 44), .ref 54]) (M2 := mrow (mrow (mrow M 54 r8) 55 r9) 72 r33) (Ps := []) (by decide +kernel) rfl rfl trivial ?_
          have t43 : GM z mX12_sumOf (d + 1) [.ref 54, .int (nI 44)] (mrow (mrow (mrow M 54 r8) 55 r9) 72 r33) (fun rs => rs = .inl (some (.int (k_sumOf_44 r33 (ix (r8 23)))), mrow (mrow (mrow M 54 r8) 55 r9) 72 r33)) := by
            have q9 := c_k_sumOf_44_54 z (d + 1) (mrow (mrow (mrow M 54 r8) 55 r9) 72 r33) (ix (r8 23)) (by omega) (ixE k28)
            try simp only [mput, mrow_same, mrow_hit, mrow_miss, mrow_sw, idr_eq, ne_eq, Nat.reduceEqDiff, not_false_eq_true, Nat.reduceLT, reduceCtorEq] at q9
            exact q9
          refine G.callV (as := [.int (nI 44)]) (rest := []) (a := 54) oX12_sumOf lk_EvenFindersModel_391 (by decide +kernel) rfl rfl ⟨rfl, rfl⟩ (Nat.le_of_ble_eq_true rfl) rfl ⟨Nat.le_of_ble_eq_true rfl, Nat.le_of_ble_eq_true rfl⟩ t43 (fun v9 N9 h44 => ?_) (fun E9 N9 h44 => by cases h44)
          cases h44
          show G z mX12_ahead (d + 2) 0 0 83 [some (.ref 54), none, some (.int x2), none] [.int (k_sumOf_44 r33 (ix (r8 23)))] (mrow (mrow (mrow M 54 r8) 55 r9) 72 r33) Q
          refine G.sl [(.goto 11, 3, 94, 0, 0, 0)] [] (pc2 := 94) (ls2 := [some (.ref 54), none, some (.int x2), none]) (st2 := [.int (k_sumOf_44 r33 (ix (r8 23)))]) (M2 := mrow (mrow (mrow M 54 r8) 55 r9) 72 r33) (Ps := []) (by decide +kernel) rfl rfl trivial ?_
          exact G.reti (by decide +kernel) rfl rfl (Nat.le_of_ble_eq_true rfl) (Nat.le_of_ble_eq_true rfl) ((by rw [hQ]; simp only [k_ahead, if_pos c4, g6, if_neg c12, g14, g31, if_neg c34, if_pos c35, mrow_self]))
      · skip
        refine G.sl [(.aload_n 0, 1, 0, 0, 0, 0)] [] (pc2 := 66) (ls2 := [some (.ref 54), none, some (.int x2), none]) (st2 := [.ref 54]) (M2 := mrow (mrow (mrow M 54 r8) 55 r9) 72 r33) (Ps := []) (by decide +kernel) rfl rfl trivial ?_
        have t46 : GM z mX12_allHeld (d + 1) [.ref 54] (mrow (mrow (mrow M 54 r8) 55 r9) 72 r33) (fun rs => rs = .inl (some (.int (k_allHeld r33 (ix (r8 22)))), mrow (mrow (mrow M 54 r8) 55 r9) 72 r33)) := by
          have q9 := c_k_allHeld_54 z d (mrow (mrow (mrow M 54 r8) 55 r9) 72 r33) (ix (r8 22)) (by omega) (ixE k26)
          try simp only [mput, mrow_same, mrow_hit, mrow_miss, mrow_sw, idr_eq, ne_eq, Nat.reduceEqDiff, not_false_eq_true, Nat.reduceLT, reduceCtorEq] at q9
          exact q9
        refine G.callV (as := []) (rest := []) (a := 54) oX12_allHeld lk_EvenFindersModel_382 (by decide +kernel) rfl rfl ⟨rfl, rfl⟩ (Nat.le_of_ble_eq_true rfl) rfl ⟨Nat.le_of_ble_eq_true rfl, Nat.le_of_ble_eq_true rfl⟩ t46 (fun v9 N9 h47 => ?_) (fun E9 N9 h47 => by cases h47)
        cases h47
        show G z mX12_ahead (d + 2) 0 0 69 [some (.ref 54), none, some (.int x2), none] [.int (k_allHeld r33 (ix (r8 22)))] (mrow (mrow (mrow M 54 r8) 55 r9) 72 r33) Q
        refine G.sl [(.goto 25, 3, 94, 0, 0, 0)] [] (pc2 := 94) (ls2 := [some (.ref 54), none, some (.int x2), none]) (st2 := [.int (k_allHeld r33 (ix (r8 22)))]) (M2 := mrow (mrow (mrow M 54 r8) 55 r9) 72 r33) (Ps := []) (by decide +kernel) rfl rfl trivial ?_
        exact G.reti (by decide +kernel) rfl rfl (Nat.le_of_ble_eq_true rfl) (Nat.le_of_ble_eq_true rfl) ((by rw [hQ]; simp only [k_ahead, if_pos c4, g6, if_neg c12, g14, g31, if_pos c34, mrow_self]))
    · skip
      rw [if_pos c12] at hk
      refine G.sl [(.iconst 0, 1, 0, 0, 0, nI 0)] [] (pc2 := 39) (ls2 := [some (.ref 54), some (.int x1), some (.int x2), none]) (st2 := [.int (nI 0)]) (M2 := mrow (mrow M 54 r8) 55 r9) (Ps := []) (by decide +kernel) rfl rfl trivial ?_
      refine G.mem (M' := mrow (mrow (mrow M 54 r8) 55 r9) 72 (M.1 72)) (((mrow_id (N := mrow (mrow M 54 r8) 55 r9) (c := 72) (f := M.1 72) (by first | rfl | (simp only [mput, mrow_same, mrow_hit, mrow_miss, mrow_sw, idr_eq, ne_eq, Nat.reduceEqDiff, not_false_eq_true, Nat.reduceLT, reduceCtorEq]; done))).symm).trans (by first | rfl | (simp only [mput, mrow_same, mrow_hit, mrow_miss, mrow_sw, idr_eq, ne_eq, Nat.reduceEqDiff, not_false_eq_true, Nat.reduceLT, reduceCtorEq]; done))) ?_
      exact G.reti (by decide +kernel) rfl rfl (Nat.le_of_ble_eq_true rfl) (Nat.le_of_ble_eq_true rfl) ((by rw [hQ]; simp only [k_ahead, if_pos c4, g6, if_pos c12, mrow_self]))
  · skip
    rw [if_neg c4] at hk
    refine G.sl [(.iload_n 2, 1, 2, 0, 0, 0), (.iconst 0, 1, 0, 0, 0, nI 0), (.iconst 2, 1, 0, 0, 0, nI 2)] [] (pc2 := 19) (ls2 := [some (.ref 54), some (.int x1), some (.int x2), none]) (st2 := [.int (nI 2), .int (nI 0), .int x2, .ref 54]) (M2 := mrow M 54 (upd (M.1 54) 0 (nI 0))) (Ps := []) (by decide +kernel) rfl rfl trivial ?_
    obtain ⟨k48, hk⟩ := hk
    have t49 : GM z mX12_within (d + 1) [.int x2, .int (nI 0), .int (nI 2)] (mrow M 54 (upd (M.1 54) 0 (nI 0))) (fun rs => rs = .inl (some (.int (k_within x2 (nI 0) (nI 2))), mrow M 54 (upd (M.1 54) 0 (nI 0)))) := by
      have q9 := c_k_within z (d + 1) (mrow M 54 (upd (M.1 54) 0 (nI 0))) x2 (nI 0) (nI 2)
      try simp only [mput, mrow_same, mrow_hit, mrow_miss, mrow_sw, idr_eq, ne_eq, Nat.reduceEqDiff, not_false_eq_true, Nat.reduceLT, reduceCtorEq] at q9
      exact q9
    refine G.callS (as := [.int x2, .int (nI 0), .int (nI 2)]) (rest := [.ref 54]) oX12_within lk_EvenFindersModel_379 (by decide +kernel) rfl (Nat.le_of_ble_eq_true rfl) rfl ⟨Nat.le_of_ble_eq_true rfl, Nat.le_of_ble_eq_true rfl⟩ t49 (fun v9 N9 h50 => ?_) (fun E9 N9 h50 => by cases h50)
    cases h50
    show G z mX12_ahead (d + 2) 0 0 22 [some (.ref 54), some (.int x1), some (.int x2), none] [.int (k_within x2 (nI 0) (nI 2)), .ref 54] (mrow M 54 (upd (M.1 54) 0 (nI 0))) Q
    refine G.if_eq (off := (7)) (tgt := 29) (by decide +kernel) rfl (fun c51 => ?_) (fun c51 => ?_)
    · skip
      rw [if_pos c51] at hk
      refine G.sl [(.iconst 0, 1, 0, 0, 0, nI 0), (.iconst 1, 1, 0, 0, 0, nI 1), (.iconst 1, 1, 0, 0, 0, nI 1)] [] (pc2 := 32) (ls2 := [some (.ref 54), some (.int x1), some (.int x2), none]) (st2 := [.int (nI 1), .int (nI 1), .int (nI 0), .ref 54]) (M2 := mrow M 54 (upd (M.1 54) 0 (nI 0))) (Ps := []) (by decide +kernel) rfl rfl trivial ?_
      obtain ⟨k52, hk⟩ := hk
      rcases g53 : k_may_1 (upd (M.1 54) 0 (nI 0)) (M.1 55) (nI 0) (nI 1) with ⟨v54, r55, r56⟩
      try simp only [g53] at hk
      have ev54 : v54 = 0 ∨ v54 = 1 := by
        have q9 := k_may_1_01 (upd (M.1 54) 0 (nI 0)) (M.1 55) (nI 0) (nI 1)
        rw [g53] at q9
        exact q9
      have t57 : GM z mX12_may (d + 1) [.ref 54, .int (nI 0), .int (nI 1), .int (nI 1)] (mrow M 54 (upd (M.1 54) 0 (nI 0))) (fun rs => rs = .inl (some (.int v54), mrow (mrow M 54 r55) 55 r56)) := by
        have q9 := c_k_may_1_54 z (d + 1) (mrow M 54 (upd (M.1 54) 0 (nI 0))) (nI 0) (nI 1)
        try simp only [mput, mrow_same, mrow_hit, mrow_miss, mrow_sw, idr_eq, ne_eq, Nat.reduceEqDiff, not_false_eq_true, Nat.reduceLT, reduceCtorEq, g53] at q9
        exact q9
      refine G.callV (as := [.int (nI 0), .int (nI 1), .int (nI 1)]) (rest := []) (a := 54) oX12_may lk_EvenFindersModel_213 (by decide +kernel) rfl rfl ⟨rfl, rfl⟩ (Nat.le_of_ble_eq_true rfl) rfl ⟨Nat.le_of_ble_eq_true rfl, Nat.le_of_ble_eq_true rfl⟩ t57 (fun v9 N9 h58 => ?_) (fun E9 N9 h58 => by cases h58)
      cases h58
      show G z mX12_ahead (d + 2) 0 0 35 [some (.ref 54), some (.int x1), some (.int x2), none] [.int v54] (mrow (mrow M 54 r55) 55 r56) Q
      refine G.if_ne (off := (5)) (tgt := 40) (by decide +kernel) rfl (fun c59 => ?_) (fun c59 => ?_)
      · skip
        rw [if_neg c59] at hk
        refine G.sl [(.aload_n 0, 1, 0, 0, 0, 0)] [] (pc2 := 41) (ls2 := [some (.ref 54), some (.int x1), some (.int x2), none]) (st2 := [.ref 54]) (M2 := mrow (mrow M 54 r55) 55 r56) (Ps := []) (by decide +kernel) rfl rfl trivial ?_
        obtain ⟨k60, hk⟩ := hk
        rcases g61 : k_take (M.1 71) (M.1 72) with ⟨u62, r63⟩
        try simp only [g61] at hk
        have t64 : GM z mX12_take (d + 1) [.ref 54] (mrow (mrow M 54 r55) 55 r56) (fun rs => rs = .inl (none, mrow (mrow (mrow M 54 r55) 55 r56) 72 r63)) := by
          have q9 := c_k_take_54 z d (mrow (mrow M 54 r55) 55 r56) k60
          try simp only [mput, mrow_same, mrow_hit, mrow_miss, mrow_sw, idr_eq, ne_eq, Nat.reduceEqDiff, not_false_eq_true, Nat.reduceLT, reduceCtorEq, g61] at q9
          exact q9
        refine G.callV (as := []) (rest := []) (a := 54) oX12_take lk_EvenFindersModel_320 (by decide +kernel) rfl rfl ⟨rfl, rfl⟩ (Nat.le_of_ble_eq_true rfl) rfl ⟨Nat.le_of_ble_eq_true rfl, Nat.le_of_ble_eq_true rfl⟩ t64 (fun v9 N9 h65 => ?_) (fun E9 N9 h65 => by cases h65)
        cases h65
        show G z mX12_ahead (d + 2) 0 0 44 [some (.ref 54), some (.int x1), some (.int x2), none] [] (mrow (mrow (mrow M 54 r55) 55 r56) 72 r63) Q
        refine G.sl [(.iconst 0, 1, 0, 0, 0, nI 0), (.istore_n 3, 1, 3, 0, 0, 0)] [] (pc2 := 46) (ls2 := [some (.ref 54), some (.int x1), some (.int x2), some (.int (nI 0))]) (st2 := []) (M2 := mrow (mrow (mrow M 54 r55) 55 r56) 72 r63) (Ps := []) (by decide +kernel) rfl rfl trivial ?_
        obtain ⟨k73, k74, k75, k76, hk⟩ := hk
        obtain ⟨k77, hk⟩ := hk
        refine G.mem (M' := mrow (mrow (mrow (mrow M 54 r55) 55 r56) 72 r63) 72 ((mrow (mrow (mrow M 54 r55) 55 r56) 72 r63).1 72)) (by simp only [mrow_self]) ?_
        refine lp_k_ahead_54_46 z d (mrow (mrow (mrow M 54 r55) 55 r56) 72 r63) Q x1 x2 (ix (r55 22)) k74 (ixE k73) (ix (r55 23)) k76 (ixE k75) FU (nI 0) ((mrow (mrow (mrow M 54 r55) 55 r56) 72 r63).1 72) (by first | (simp only [mput, mrow_same, mrow_hit, mrow_miss, mrow_sw, idr_eq, ne_eq, Nat.reduceEqDiff, not_false_eq_true, Nat.reduceLT, reduceCtorEq]; exact k77) | exact k77) ?_
        try simp only [mput, mrow_same, mrow_hit, mrow_miss, mrow_sw, idr_eq, ne_eq, Nat.reduceEqDiff, not_false_eq_true, Nat.reduceLT, reduceCtorEq]
        rcases g78 : k_ahead_46 (M.1 61) (ix (r55 22)) (ix (r55 23)) x1 x2 FU (nI 0) r63 with ⟨v79, r80⟩
        show G z mX12_ahead (d + 2) 0 0 61 [some (.ref 54), none, some (.int x2), none] [] (mrow (mrow (mrow M 54 r55) 55 r56) 72 r80) Q
        refine G.sl [(.iload_n 2, 1, 2, 0, 0, 0)] [] (pc2 := 62) (ls2 := [some (.ref 54), none, some (.int x2), none]) (st2 := [.int x2]) (M2 := mrow (mrow (mrow M 54 r55) 55 r56) 72 r80) (Ps := []) (by decide +kernel) rfl rfl trivial ?_
        refine G.if_ne (off := (10)) (tgt := 72) (by decide +kernel) rfl (fun c81 => ?_) (fun c81 => ?_)
        · skip
          refine G.sl [(.iload_n 2, 1, 2, 0, 0, 0), (.iconst 1, 1, 0, 0, 0, nI 1)] [] (pc2 := 74) (ls2 := [some (.ref 54), none, some (.int x2), none]) (st2 := [.int (nI 1), .int x2]) (M2 := mrow (mrow (mrow M 54 r55) 55 r56) 72 r80) (Ps := []) (by decide +kernel) rfl rfl trivial ?_
          refine G.ic_ne (off := (12)) (tgt := 86) (by decide +kernel) rfl (fun c82 => ?_) (fun c82 => ?_)
          · skip
            refine G.sl [(.aload_n 0, 1, 0, 0, 0, 0), (.aload_n 0, 1, 0, 0, 0, 0)] [] (pc2 := 88) (ls2 := [some (.ref 54), none, some (.int x2), none]) (st2 := [.ref 54, .ref 54]) (M2 := mrow (mrow (mrow M 54 r55) 55 r56) 72 r80) (Ps := []) (by decide +kernel) rfl rfl trivial ?_
            have t84 : GM z mX12_allLying (d + 1) [.ref 54] (mrow (mrow (mrow M 54 r55) 55 r56) 72 r80) (fun rs => rs = .inl (some (.int (k_allLying r80 (ix (r55 22)))), mrow (mrow (mrow M 54 r55) 55 r56) 72 r80)) := by
              have q9 := c_k_allLying_54 z (d + 1) (mrow (mrow (mrow M 54 r55) 55 r56) 72 r80) (ix (r55 22)) (by omega) (ixE k73)
              try simp only [mput, mrow_same, mrow_hit, mrow_miss, mrow_sw, idr_eq, ne_eq, Nat.reduceEqDiff, not_false_eq_true, Nat.reduceLT, reduceCtorEq] at q9
              exact q9
            refine G.callV (as := []) (rest := [.ref 54]) (a := 54) oX12_allLying lk_EvenFindersModel_376 (by decide +kernel) rfl rfl ⟨rfl, rfl⟩ (Nat.le_of_ble_eq_true rfl) rfl ⟨Nat.le_of_ble_eq_true rfl, Nat.le_of_ble_eq_true rfl⟩ t84 (fun v9 N9 h85 => ?_) (fun E9 N9 h85 => by cases h85)
            cases h85
            show G z mX12_ahead (d + 2) 0 0 91 [some (.ref 54), none, some (.int x2), none] [.int (k_allLying r80 (ix (r55 22))), .ref 54] (mrow (mrow (mrow M 54 r55) 55 r56) 72 r80) Q
            have t87 : GM z mX12_worthOf (d + 1) [.ref 54, .int (k_allLying r80 (ix (r55 22)))] (mrow (mrow (mrow M 54 r55) 55 r56) 72 r80) (fun rs => rs = .inl (some (.int (k_worthOf (M.1 61) (ix (r55 22)) (k_allLying r80 (ix (r55 22))))), mrow (mrow (mrow M 54 r55) 55 r56) 72 r80)) := by
              have q9 := c_k_worthOf_54 z (d + 1) (mrow (mrow (mrow M 54 r55) 55 r56) 72 r80) (k_allLying r80 (ix (r55 22))) (ix (r55 22)) (by omega) (ixE k73)
              try simp only [mput, mrow_same, mrow_hit, mrow_miss, mrow_sw, idr_eq, ne_eq, Nat.reduceEqDiff, not_false_eq_true, Nat.reduceLT, reduceCtorEq] at q9
              exact q9
            refine G.callV (as := [.int (k_allLying r80 (ix (r55 22)))]) (rest := []) (a := 54) oX12_worthOf lk_EvenFindersModel_388 (by decide +kernel) rfl rfl ⟨rfl, rfl⟩ (Nat.le_of_ble_eq_true rfl) rfl ⟨Nat.le_of_ble_eq_true rfl, Nat.le_of_ble_eq_true rfl⟩ t87 (fun v9 N9 h88 => ?_) (fun E9 N9 h88 => by cases h88)
            cases h88
            show G z mX12_ahead (d + 2) 0 0 94 [some (.ref 54), none, some (.int x2), none] [.int (k_worthOf (M.1 61) (ix (r55 22)) (k_allLying r80 (ix (r55 22))))] (mrow (mrow (mrow M 54 r55) 55 r56) 72 r80) Q
            exact G.reti (by decide +kernel) rfl rfl (Nat.le_of_ble_eq_true rfl) (Nat.le_of_ble_eq_true rfl) ((by rw [hQ]; simp only [k_ahead, if_neg c4, if_pos c51, g53, if_neg c59, g61, g78, if_neg c81, if_neg c82, mrow_self]))
          · skip
            refine G.sl [(.aload_n 0, 1, 0, 0, 0, 0), (.bipush 44, 2, 0, 0, 0, nI 44)] [] (pc2 := 80) (ls2 := [some (.ref 54), none, some (.int x2), none]) (st2 := [.int (nI 44), .ref 54]) (M2 := mrow (mrow (mrow M 54 r55) 55 r56) 72 r80) (Ps := []) (by decide +kernel) rfl rfl trivial ?_
            have t90 : GM z mX12_sumOf (d + 1) [.ref 54, .int (nI 44)] (mrow (mrow (mrow M 54 r55) 55 r56) 72 r80) (fun rs => rs = .inl (some (.int (k_sumOf_44 r80 (ix (r55 23)))), mrow (mrow (mrow M 54 r55) 55 r56) 72 r80)) := by
              have q9 := c_k_sumOf_44_54 z (d + 1) (mrow (mrow (mrow M 54 r55) 55 r56) 72 r80) (ix (r55 23)) (by omega) (ixE k75)
              try simp only [mput, mrow_same, mrow_hit, mrow_miss, mrow_sw, idr_eq, ne_eq, Nat.reduceEqDiff, not_false_eq_true, Nat.reduceLT, reduceCtorEq] at q9
              exact q9
            refine G.callV (as := [.int (nI 44)]) (rest := []) (a := 54) oX12_sumOf lk_EvenFindersModel_391 (by decide +kernel) rfl rfl ⟨rfl, rfl⟩ (Nat.le_of_ble_eq_true rfl) rfl ⟨Nat.le_of_ble_eq_true rfl, Nat.le_of_ble_eq_true rfl⟩ t90 (fun v9 N9 h91 => ?_) (fun E9 N9 h91 => by cases h91)
            cases h91
            show G z mX12_ahead (d + 2) 0 0 83 [some (.ref 54), none, some (.int x2), none] [.int (k_sumOf_44 r80 (ix (r55 23)))] (mrow (mrow (mrow M 54 r55) 55 r56) 72 r80) Q
            refine G.sl [(.goto 11, 3, 94, 0, 0, 0)] [] (pc2 := 94) (ls2 := [some (.ref 54), none, some (.int x2), none]) (st2 := [.int (k_sumOf_44 r80 (ix (r55 23)))]) (M2 := mrow (mrow (mrow M 54 r55) 55 r56) 72 r80) (Ps := []) (by decide +kernel) rfl rfl trivial ?_
            exact G.reti (by decide +kernel) rfl rfl (Nat.le_of_ble_eq_true rfl) (Nat.le_of_ble_eq_true rfl) ((by rw [hQ]; simp only [k_ahead, if_neg c4, if_pos c51, g53, if_neg c59, g61, g78, if_neg c81, if_pos c82, mrow_self]))
        · skip
          refine G.sl [(.aload_n 0, 1, 0, 0, 0, 0)] [] (pc2 := 66) (ls2 := [some (.ref 54), none, some (.int x2), none]) (st2 := [.ref 54]) (M2 := mrow (mrow (mrow M 54 r55) 55 r56) 72 r80) (Ps := []) (by decide +kernel) rfl rfl trivial ?_
          have t93 : GM z mX12_allHeld (d + 1) [.ref 54] (mrow (mrow (mrow M 54 r55) 55 r56) 72 r80) (fun rs => rs = .inl (some (.int (k_allHeld r80 (ix (r55 22)))), mrow (mrow (mrow M 54 r55) 55 r56) 72 r80)) := by
            have q9 := c_k_allHeld_54 z d (mrow (mrow (mrow M 54 r55) 55 r56) 72 r80) (ix (r55 22)) (by omega) (ixE k73)
            try simp only [mput, mrow_same, mrow_hit, mrow_miss, mrow_sw, idr_eq, ne_eq, Nat.reduceEqDiff, not_false_eq_true, Nat.reduceLT, reduceCtorEq] at q9
            exact q9
          refine G.callV (as := []) (rest := []) (a := 54) oX12_allHeld lk_EvenFindersModel_382 (by decide +kernel) rfl rfl ⟨rfl, rfl⟩ (Nat.le_of_ble_eq_true rfl) rfl ⟨Nat.le_of_ble_eq_true rfl, Nat.le_of_ble_eq_true rfl⟩ t93 (fun v9 N9 h94 => ?_) (fun E9 N9 h94 => by cases h94)
          cases h94
          show G z mX12_ahead (d + 2) 0 0 69 [some (.ref 54), none, some (.int x2), none] [.int (k_allHeld r80 (ix (r55 22)))] (mrow (mrow (mrow M 54 r55) 55 r56) 72 r80) Q
          refine G.sl [(.goto 25, 3, 94, 0, 0, 0)] [] (pc2 := 94) (ls2 := [some (.ref 54), none, some (.int x2), none]) (st2 := [.int (k_allHeld r80 (ix (r55 22)))]) (M2 := mrow (mrow (mrow M 54 r55) 55 r56) 72 r80) (Ps := []) (by decide +kernel) rfl rfl trivial ?_
          exact G.reti (by decide +kernel) rfl rfl (Nat.le_of_ble_eq_true rfl) (Nat.le_of_ble_eq_true rfl) ((by rw [hQ]; simp only [k_ahead, if_neg c4, if_pos c51, g53, if_neg c59, g61, g78, if_pos c81, mrow_self]))
      · skip
        rw [if_pos c59] at hk
        refine G.sl [(.iconst 0, 1, 0, 0, 0, nI 0)] [] (pc2 := 39) (ls2 := [some (.ref 54), some (.int x1), some (.int x2), none]) (st2 := [.int (nI 0)]) (M2 := mrow (mrow M 54 r55) 55 r56) (Ps := []) (by decide +kernel) rfl rfl trivial ?_
        refine G.mem (M' := mrow (mrow (mrow M 54 r55) 55 r56) 72 (M.1 72)) (((mrow_id (N := mrow (mrow M 54 r55) 55 r56) (c := 72) (f := M.1 72) (by first | rfl | (simp only [mput, mrow_same, mrow_hit, mrow_miss, mrow_sw, idr_eq, ne_eq, Nat.reduceEqDiff, not_false_eq_true, Nat.reduceLT, reduceCtorEq]; done))).symm).trans (by first | rfl | (simp only [mput, mrow_same, mrow_hit, mrow_miss, mrow_sw, idr_eq, ne_eq, Nat.reduceEqDiff, not_false_eq_true, Nat.reduceLT, reduceCtorEq]; done))) ?_
        exact G.reti (by decide +kernel) rfl rfl (Nat.le_of_ble_eq_true rfl) (Nat.le_of_ble_eq_true rfl) ((by rw [hQ]; simp only [k_ahead, if_neg c4, if_pos c51, g53, if_pos c59, mrow_self]))
    · skip
      rw [if_neg c51] at hk
      refine G.sl [(.iconst 1, 1, 0, 0, 0, nI 1), (.goto 4, 3, 30, 0, 0, 0), (.iconst 1, 1, 0, 0, 0, nI 1), (.iconst 1, 1, 0, 0, 0, nI 1)] [] (pc2 := 32) (ls2 := [some (.ref 54), some (.int x1), some (.int x2), none]) (st2 := [.int (nI 1), .int (nI 1), .int (nI 1), .ref 54]) (M2 := mrow M 54 (upd (M.1 54) 0 (nI 0))) (Ps := []) (by decide +kernel) rfl rfl trivial ?_
      obtain ⟨k95, hk⟩ := hk
      rcases g96 : k_may_1 (upd (M.1 54) 0 (nI 0)) (M.1 55) (nI 1) (nI 1) with ⟨v97, r98, r99⟩
      try simp only [g96] at hk
      have ev97 : v97 = 0 ∨ v97 = 1 := by
        have q9 := k_may_1_01 (upd (M.1 54) 0 (nI 0)) (M.1 55) (nI 1) (nI 1)
        rw [g96] at q9
        exact q9
      have t100 : GM z mX12_may (d + 1) [.ref 54, .int (nI 1), .int (nI 1), .int (nI 1)] (mrow M 54 (upd (M.1 54) 0 (nI 0))) (fun rs => rs = .inl (some (.int v97), mrow (mrow M 54 r98) 55 r99)) := by
        have q9 := c_k_may_1_54 z (d + 1) (mrow M 54 (upd (M.1 54) 0 (nI 0))) (nI 1) (nI 1)
        try simp only [mput, mrow_same, mrow_hit, mrow_miss, mrow_sw, idr_eq, ne_eq, Nat.reduceEqDiff, not_false_eq_true, Nat.reduceLT, reduceCtorEq, g96] at q9
        exact q9
      refine G.callV (as := [.int (nI 1), .int (nI 1), .int (nI 1)]) (rest := []) (a := 54) oX12_may lk_EvenFindersModel_213 (by decide +kernel) rfl rfl ⟨rfl, rfl⟩ (Nat.le_of_ble_eq_true rfl) rfl ⟨Nat.le_of_ble_eq_true rfl, Nat.le_of_ble_eq_true rfl⟩ t100 (fun v9 N9 h101 => ?_) (fun E9 N9 h101 => by cases h101)
      cases h101
      show G z mX12_ahead (d + 2) 0 0 35 [some (.ref 54), some (.int x1), some (.int x2), none] [.int v97] (mrow (mrow M 54 r98) 55 r99) Q
      refine G.if_ne (off := (5)) (tgt := 40) (by decide +kernel) rfl (fun c102 => ?_) (fun c102 => ?_)
      · skip
        rw [if_neg c102] at hk
        refine G.sl [(.aload_n 0, 1, 0, 0, 0, 0)] [] (pc2 := 41) (ls2 := [some (.ref 54), some (.int x1), some (.int x2), none]) (st2 := [.ref 54]) (M2 := mrow (mrow M 54 r98) 55 r99) (Ps := []) (by decide +kernel) rfl rfl trivial ?_
        obtain ⟨k103, hk⟩ := hk
        rcases g104 : k_take (M.1 71) (M.1 72) with ⟨u105, r106⟩
        try simp only [g104] at hk
        have t107 : GM z mX12_take (d + 1) [.ref 54] (mrow (mrow M 54 r98) 55 r99) (fun rs => rs = .inl (none, mrow (mrow (mrow M 54 r98) 55 r99) 72 r106)) := by
          have q9 := c_k_take_54 z d (mrow (mrow M 54 r98) 55 r99) k103
          try simp only [mput, mrow_same, mrow_hit, mrow_miss, mrow_sw, idr_eq, ne_eq, Nat.reduceEqDiff, not_false_eq_true, Nat.reduceLT, reduceCtorEq, g104] at q9
          exact q9
        refine G.callV (as := []) (rest := []) (a := 54) oX12_take lk_EvenFindersModel_320 (by decide +kernel) rfl rfl ⟨rfl, rfl⟩ (Nat.le_of_ble_eq_true rfl) rfl ⟨Nat.le_of_ble_eq_true rfl, Nat.le_of_ble_eq_true rfl⟩ t107 (fun v9 N9 h108 => ?_) (fun E9 N9 h108 => by cases h108)
        cases h108
        show G z mX12_ahead (d + 2) 0 0 44 [some (.ref 54), some (.int x1), some (.int x2), none] [] (mrow (mrow (mrow M 54 r98) 55 r99) 72 r106) Q
        refine G.sl [(.iconst 0, 1, 0, 0, 0, nI 0), (.istore_n 3, 1, 3, 0, 0, 0)] [] (pc2 := 46) (ls2 := [some (.ref 54), some (.int x1), some (.int x2), some (.int (nI 0))]) (st2 := []) (M2 := mrow (mrow (mrow M 54 r98) 55 r99) 72 r106) (Ps := []) (by decide +kernel) rfl rfl trivial ?_
        obtain ⟨k116, k117, k118, k119, hk⟩ := hk
        obtain ⟨k120, hk⟩ := hk
        refine G.mem (M' := mrow (mrow (mrow (mrow M 54 r98) 55 r99) 72 r106) 72 ((mrow (mrow (mrow M 54 r98) 55 r99) 72 r106).1 72)) (by simp only [mrow_self]) ?_
        refine lp_k_ahead_54_46 z d (mrow (mrow (mrow M 54 r98) 55 r99) 72 r106) Q x1 x2 (ix (r98 22)) k117 (ixE k116) (ix (r98 23)) k119 (ixE k118) FU (nI 0) ((mrow (mrow (mrow M 54 r98) 55 r99) 72 r106).1 72) (by first | (simp only [mput, mrow_same, mrow_hit, mrow_miss, mrow_sw, idr_eq, ne_eq, Nat.reduceEqDiff, not_false_eq_true, Nat.reduceLT, reduceCtorEq]; exact k120) | exact k120) ?_
        try simp only [mput, mrow_same, mrow_hit, mrow_miss, mrow_sw, idr_eq, ne_eq, Nat.reduceEqDiff, not_false_eq_true, Nat.reduceLT, reduceCtorEq]
        rcases g121 : k_ahead_46 (M.1 61) (ix (r98 22)) (ix (r98 23)) x1 x2 FU (nI 0) r106 with ⟨v122, r123⟩
        show G z mX12_ahead (d + 2) 0 0 61 [some (.ref 54), none, some (.int x2), none] [] (mrow (mrow (mrow M 54 r98) 55 r99) 72 r123) Q
        refine G.sl [(.iload_n 2, 1, 2, 0, 0, 0)] [] (pc2 := 62) (ls2 := [some (.ref 54), none, some (.int x2), none]) (st2 := [.int x2]) (M2 := mrow (mrow (mrow M 54 r98) 55 r99) 72 r123) (Ps := []) (by decide +kernel) rfl rfl trivial ?_
        refine G.if_ne (off := (10)) (tgt := 72) (by decide +kernel) rfl (fun c124 => ?_) (fun c124 => ?_)
        · skip
          refine G.sl [(.iload_n 2, 1, 2, 0, 0, 0), (.iconst 1, 1, 0, 0, 0, nI 1)] [] (pc2 := 74) (ls2 := [some (.ref 54), none, some (.int x2), none]) (st2 := [.int (nI 1), .int x2]) (M2 := mrow (mrow (mrow M 54 r98) 55 r99) 72 r123) (Ps := []) (by decide +kernel) rfl rfl trivial ?_
          refine G.ic_ne (off := (12)) (tgt := 86) (by decide +kernel) rfl (fun c125 => ?_) (fun c125 => ?_)
          · skip
            refine G.sl [(.aload_n 0, 1, 0, 0, 0, 0), (.aload_n 0, 1, 0, 0, 0, 0)] [] (pc2 := 88) (ls2 := [some (.ref 54), none, some (.int x2), none]) (st2 := [.ref 54, .ref 54]) (M2 := mrow (mrow (mrow M 54 r98) 55 r99) 72 r123) (Ps := []) (by decide +kernel) rfl rfl trivial ?_
            have t127 : GM z mX12_allLying (d + 1) [.ref 54] (mrow (mrow (mrow M 54 r98) 55 r99) 72 r123) (fun rs => rs = .inl (some (.int (k_allLying r123 (ix (r98 22)))), mrow (mrow (mrow M 54 r98) 55 r99) 72 r123)) := by
              have q9 := c_k_allLying_54 z (d + 1) (mrow (mrow (mrow M 54 r98) 55 r99) 72 r123) (ix (r98 22)) (by omega) (ixE k116)
              try simp only [mput, mrow_same, mrow_hit, mrow_miss, mrow_sw, idr_eq, ne_eq, Nat.reduceEqDiff, not_false_eq_true, Nat.reduceLT, reduceCtorEq] at q9
              exact q9
            refine G.callV (as := []) (rest := [.ref 54]) (a := 54) oX12_allLying lk_EvenFindersModel_376 (by decide +kernel) rfl rfl ⟨rfl, rfl⟩ (Nat.le_of_ble_eq_true rfl) rfl ⟨Nat.le_of_ble_eq_true rfl, Nat.le_of_ble_eq_true rfl⟩ t127 (fun v9 N9 h128 => ?_) (fun E9 N9 h128 => by cases h128)
            cases h128
            show G z mX12_ahead (d + 2) 0 0 91 [some (.ref 54), none, some (.int x2), none] [.int (k_allLying r123 (ix (r98 22))), .ref 54] (mrow (mrow (mrow M 54 r98) 55 r99) 72 r123) Q
            have t130 : GM z mX12_worthOf (d + 1) [.ref 54, .int (k_allLying r123 (ix (r98 22)))] (mrow (mrow (mrow M 54 r98) 55 r99) 72 r123) (fun rs => rs = .inl (some (.int (k_worthOf (M.1 61) (ix (r98 22)) (k_allLying r123 (ix (r98 22))))), mrow (mrow (mrow M 54 r98) 55 r99) 72 r123)) := by
              have q9 := c_k_worthOf_54 z (d + 1) (mrow (mrow (mrow M 54 r98) 55 r99) 72 r123) (k_allLying r123 (ix (r98 22))) (ix (r98 22)) (by omega) (ixE k116)
              try simp only [mput, mrow_same, mrow_hit, mrow_miss, mrow_sw, idr_eq, ne_eq, Nat.reduceEqDiff, not_false_eq_true, Nat.reduceLT, reduceCtorEq] at q9
              exact q9
            refine G.callV (as := [.int (k_allLying r123 (ix (r98 22)))]) (rest := []) (a := 54) oX12_worthOf lk_EvenFindersModel_388 (by decide +kernel) rfl rfl ⟨rfl, rfl⟩ (Nat.le_of_ble_eq_true rfl) rfl ⟨Nat.le_of_ble_eq_true rfl, Nat.le_of_ble_eq_true rfl⟩ t130 (fun v9 N9 h131 => ?_) (fun E9 N9 h131 => by cases h131)
            cases h131
            show G z mX12_ahead (d + 2) 0 0 94 [some (.ref 54), none, some (.int x2), none] [.int (k_worthOf (M.1 61) (ix (r98 22)) (k_allLying r123 (ix (r98 22))))] (mrow (mrow (mrow M 54 r98) 55 r99) 72 r123) Q
            exact G.reti (by decide +kernel) rfl rfl (Nat.le_of_ble_eq_true rfl) (Nat.le_of_ble_eq_true rfl) ((by rw [hQ]; simp only [k_ahead, if_neg c4, if_neg c51, g96, if_neg c102, g104, g121, if_neg c124, if_neg c125, mrow_self]))
          · skip
            refine G.sl [(.aload_n 0, 1, 0, 0, 0, 0), (.bipush 44, 2, 0, 0, 0, nI 44)] [] (pc2 := 80) (ls2 := [some (.ref 54), none, some (.int x2), none]) (st2 := [.int (nI 44), .ref 54]) (M2 := mrow (mrow (mrow M 54 r98) 55 r99) 72 r123) (Ps := []) (by decide +kernel) rfl rfl trivial ?_
            have t133 : GM z mX12_sumOf (d + 1) [.ref 54, .int (nI 44)] (mrow (mrow (mrow M 54 r98) 55 r99) 72 r123) (fun rs => rs = .inl (some (.int (k_sumOf_44 r123 (ix (r98 23)))), mrow (mrow (mrow M 54 r98) 55 r99) 72 r123)) := by
              have q9 := c_k_sumOf_44_54 z (d + 1) (mrow (mrow (mrow M 54 r98) 55 r99) 72 r123) (ix (r98 23)) (by omega) (ixE k118)
              try simp only [mput, mrow_same, mrow_hit, mrow_miss, mrow_sw, idr_eq, ne_eq, Nat.reduceEqDiff, not_false_eq_true, Nat.reduceLT, reduceCtorEq] at q9
              exact q9
            refine G.callV (as := [.int (nI 44)]) (rest := []) (a := 54) oX12_sumOf lk_EvenFindersModel_391 (by decide +kernel) rfl rfl ⟨rfl, rfl⟩ (Nat.le_of_ble_eq_true rfl) rfl ⟨Nat.le_of_ble_eq_true rfl, Nat.le_of_ble_eq_true rfl⟩ t133 (fun v9 N9 h134 => ?_) (fun E9 N9 h134 => by cases h134)
            cases h134
            show G z mX12_ahead (d + 2) 0 0 83 [some (.ref 54), none, some (.int x2), none] [.int (k_sumOf_44 r123 (ix (r98 23)))] (mrow (mrow (mrow M 54 r98) 55 r99) 72 r123) Q
            refine G.sl [(.goto 11, 3, 94, 0, 0, 0)] [] (pc2 := 94) (ls2 := [some (.ref 54), none, some (.int x2), none]) (st2 := [.int (k_sumOf_44 r123 (ix (r98 23)))]) (M2 := mrow (mrow (mrow M 54 r98) 55 r99) 72 r123) (Ps := []) (by decide +kernel) rfl rfl trivial ?_
            exact G.reti (by decide +kernel) rfl rfl (Nat.le_of_ble_eq_true rfl) (Nat.le_of_ble_eq_true rfl) ((by rw [hQ]; simp only [k_ahead, if_neg c4, if_neg c51, g96, if_neg c102, g104, g121, if_neg c124, if_pos c125, mrow_self]))
        · skip
          refine G.sl [(.aload_n 0, 1, 0, 0, 0, 0)] [] (pc2 := 66) (ls2 := [some (.ref 54), none, some (.int x2), none]) (st2 := [.ref 54]) (M2 := mrow (mrow (mrow M 54 r98) 55 r99) 72 r123) (Ps := []) (by decide +kernel) rfl rfl trivial ?_
          have t136 : GM z mX12_allHeld (d + 1) [.ref 54] (mrow (mrow (mrow M 54 r98) 55 r99) 72 r123) (fun rs => rs = .inl (some (.int (k_allHeld r123 (ix (r98 22)))), mrow (mrow (mrow M 54 r98) 55 r99) 72 r123)) := by
            have q9 := c_k_allHeld_54 z d (mrow (mrow (mrow M 54 r98) 55 r99) 72 r123) (ix (r98 22)) (by omega) (ixE k116)
            try simp only [mput, mrow_same, mrow_hit, mrow_miss, mrow_sw, idr_eq, ne_eq, Nat.reduceEqDiff, not_false_eq_true, Nat.reduceLT, reduceCtorEq] at q9
            exact q9
          refine G.callV (as := []) (rest := []) (a := 54) oX12_allHeld lk_EvenFindersModel_382 (by decide +kernel) rfl rfl ⟨rfl, rfl⟩ (Nat.le_of_ble_eq_true rfl) rfl ⟨Nat.le_of_ble_eq_true rfl, Nat.le_of_ble_eq_true rfl⟩ t136 (fun v9 N9 h137 => ?_) (fun E9 N9 h137 => by cases h137)
          cases h137
          show G z mX12_ahead (d + 2) 0 0 69 [some (.ref 54), none, some (.int x2), none] [.int (k_allHeld r123 (ix (r98 22)))] (mrow (mrow (mrow M 54 r98) 55 r99) 72 r123) Q
          refine G.sl [(.goto 25, 3, 94, 0, 0, 0)] [] (pc2 := 94) (ls2 := [some (.ref 54), none, some (.int x2), none]) (st2 := [.int (k_allHeld r123 (ix (r98 22)))]) (M2 := mrow (mrow (mrow M 54 r98) 55 r99) 72 r123) (Ps := []) (by decide +kernel) rfl rfl trivial ?_
          exact G.reti (by decide +kernel) rfl rfl (Nat.le_of_ble_eq_true rfl) (Nat.le_of_ble_eq_true rfl) ((by rw [hQ]; simp only [k_ahead, if_neg c4, if_neg c51, g96, if_neg c102, g104, g121, if_pos c124, mrow_self]))
      · skip
        rw [if_pos c102] at hk
        refine G.sl [(.iconst 0, 1, 0, 0, 0, nI 0)] [] (pc2 := 39) (ls2 := [some (.ref 54), some (.int x1), some (.int x2), none]) (st2 := [.int (nI 0)]) (M2 := mrow (mrow M 54 r98) 55 r99) (Ps := []) (by decide +kernel) rfl rfl trivial ?_
        refine G.mem (M' := mrow (mrow (mrow M 54 r98) 55 r99) 72 (M.1 72)) (((mrow_id (N := mrow (mrow M 54 r98) 55 r99) (c := 72) (f := M.1 72) (by first | rfl | (simp only [mput, mrow_same, mrow_hit, mrow_miss, mrow_sw, idr_eq, ne_eq, Nat.reduceEqDiff, not_false_eq_true, Nat.reduceLT, reduceCtorEq]; done))).symm).trans (by first | rfl | (simp only [mput, mrow_same, mrow_hit, mrow_miss, mrow_sw, idr_eq, ne_eq, Nat.reduceEqDiff, not_false_eq_true, Nat.reduceLT, reduceCtorEq]; done))) ?_
        exact G.reti (by decide +kernel) rfl rfl (Nat.le_of_ble_eq_true rfl) (Nat.le_of_ble_eq_true rfl) ((by rw [hQ]; simp only [k_ahead, if_neg c4, if_neg c51, g96, if_pos c102, mrow_self]))
