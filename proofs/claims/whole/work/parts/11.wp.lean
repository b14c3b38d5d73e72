noncomputable def t_next_0 (Rbytes : Nat → Int32) : Nat → (Nat → Int32) → (Nat → Int32)
  | 0, q1 => q1
  | k0 + 1, q1 => (if (q1 5) ≤ (q1 6) then q1 else (if (Rbytes (ix (q1 6))) = (nI 32) then t_next_0 Rbytes k0 (upd q1 6 ((q1 6) + (nI 1))) else q1))
noncomputable def t_next_0_ok (Rbytes : Nat → Int32) : Nat → (Nat → Int32) → Prop
  | 0, _ => False
  | k0 + 1, q1 => (if (q1 5) ≤ (q1 6) then True else ((isN (q1 6)) ∧ (ix (q1 6) < 600) ∧ (if (Rbytes (ix (q1 6))) = (nI 32) then t_next_0_ok Rbytes k0 (upd q1 6 ((q1 6) + (nI 1))) else True)))
theorem lp_t_next_1_0 (z : Zp) (d : Nat) (M : Mem) (Q : Rs → Prop) : ∀ (k0 : Nat) (q1 : (Nat → Int32)), t_next_0_ok (M.1 2) k0 q1 → (match t_next_0 (M.1 2) k0 q1 with | q1' => G z mX6_next (d) 0 0 38 [some (.ref 1)] [] (mrow M 1 (q1')) Q) → G z mX6_next (d) 0 0 0 [some (.ref 1)] [] (mrow M 1 q1) Q := by
  intro k0
  induction k0 with
  | zero =>
      intro q1 hk hX
      exact (by simpa only [t_next_0_ok] using hk : False).elim
  | succ k0 ih =>
      intro q1 hk hX
      simp only [t_next_0_ok] at hk
      refine G.sl [(.aload_n 0, 1, 0, 0, 0, 0), (.getfield 34, 3, 5, 6, 13, 0), (.aload_n 0, 1, 0, 0, 0, 0), (.getfield 31, 3, 5, 5, 12, 0)] [] (pc2 := 8) (ls2 := [some (.ref 1)]) (st2 := [.int (q1 5), .int (q1 6)]) (M2 := mrow M 1 q1) (Ps := []) (by decide +kernel) rfl rfl trivial ?_
      refine G.ic_ge (off := (30)) (tgt := 38) (by decide +kernel) rfl (fun c1 => ?_) (fun c1 => ?_)
      · skip
        rw [if_pos c1] at hk
        simp only [t_next_0, if_pos c1] at hX
        exact hX
      · skip
        rw [if_neg c1] at hk
        obtain ⟨k2, k3, hk⟩ := hk
        refine G.sl [(.aload_n 0, 1, 0, 0, 0, 0), (.getfield 9, 3, 5, 0, 0, 0), (.aload_n 0, 1, 0, 0, 0, 0), (.getfield 34, 3, 5, 6, 13, 0), (.iaload, 1, 0, 0, 0, 0), (.bipush 32, 2, 0, 0, 0, nI 32)] [ix (q1 6)] (pc2 := 22) (ls2 := [some (.ref 1)]) (st2 := [.int (nI 32), .int (M.1 2 (ix (q1 6)))]) (M2 := mrow M 1 q1) (Ps := [(q1 6) = nI (ix (q1 6)) ∧ (ix (q1 6)) < 600]) (by decide +kernel) rfl rfl ⟨⟨(ixE k2), k3⟩, trivial⟩ ?_
        refine G.ic_ne (off := (16)) (tgt := 38) (by decide +kernel) rfl (fun c4 => ?_) (fun c4 => ?_)
        · skip
          rw [if_neg c4] at hk
          simp only [t_next_0, if_neg c1, if_neg c4] at hX
          exact hX
        · skip
          rw [if_pos c4] at hk
          refine G.sl [(.aload_n 0, 1, 0, 0, 0, 0), (.dup, 1, 0, 0, 0, 0), (.getfield 34, 3, 5, 6, 13, 0), (.iconst 1, 1, 0, 0, 0, nI 1), (.iadd, 1, 0, 0, 0, 0), (.putfield 34, 3, 5, 6, 13, 0), (.goto (-35), 3, 0, 0, 0, 0)] [] (pc2 := 0) (ls2 := [some (.ref 1)]) (st2 := []) (M2 := mput (mrow M 1 q1) 1 6 ((q1 6) + (nI 1))) (Ps := []) (by decide +kernel) rfl rfl trivial ?_
          refine G.mem (M' := mrow M 1 (upd q1 6 ((q1 6) + (nI 1)))) (by first | rfl | (simp only [mrow_same, mrow_hit, mrow_miss, mrow_swap, ne_eq, Nat.reduceEqDiff, not_false_eq_true, Nat.reduceLT, reduceCtorEq]; done)) ?_
          simp only [t_next_0, if_neg c1, if_pos c4] at hX
          exact ih (upd q1 6 ((q1 6) + (nI 1))) hk hX
noncomputable def t_next (Rtape Rbytes : Nat → Int32) : Int32 × (Nat → Int32) := (if ((t_next_0 (Rbytes) FU (Rtape)) 5) ≤ ((t_next_0 (Rbytes) FU (Rtape)) 6) then ((-1), upd (t_next_0 (Rbytes) FU (Rtape)) 4 ((t_next_0 (Rbytes) FU (Rtape)) 6)) else (if ((t_next_0 (Rbytes) FU (Rtape)) 2) = 0 then (Rbytes (ix ((t_next_0 (Rbytes) FU (Rtape)) 6)), upd (t_next_0 (Rbytes) FU (Rtape)) 4 ((t_next_0 (Rbytes) FU (Rtape)) 6)) else ((-1), upd (t_next_0 (Rbytes) FU (Rtape)) 4 ((t_next_0 (Rbytes) FU (Rtape)) 6))))
noncomputable def t_next_ok (Rtape Rbytes : Nat → Int32) : Prop := (t_next_0_ok (Rbytes) FU (Rtape) ∧ (if ((t_next_0 (Rbytes) FU (Rtape)) 5) ≤ ((t_next_0 (Rbytes) FU (Rtape)) 6) then True else (if ((t_next_0 (Rbytes) FU (Rtape)) 2) = 0 then ((isN ((t_next_0 (Rbytes) FU (Rtape)) 6)) ∧ (ix ((t_next_0 (Rbytes) FU (Rtape)) 6) < 600) ∧ True) else True)))
theorem c_t_next_1 (z : Zp) (d : Nat) (M : Mem) (hk : t_next_ok (M.1 1) (M.1 2)) : GM z mX6_next (d) [.ref 1] M (fun rs => rs = .inl (some (.int ((t_next (M.1 1) (M.1 2)).1)), mrow M 1 ((t_next (M.1 1) (M.1 2)).2))) := by
  simp only [t_next_ok] at hk
  refine GM.of oX6_next.1 (Nat.le_of_ble_eq_true rfl) ?_
  show G z mX6_next (d) 0 0 0 [some (.ref 1)] [] M _
  obtain ⟨Q, hQ⟩ : ∃ Q : Rs → Prop, Q = (fun rs => rs = .inl (some (.int ((t_next (M.1 1) (M.1 2)).1)), mrow M 1 ((t_next (M.1 1) (M.1 2)).2))) := ⟨_, rfl⟩
  rw [← hQ]
  obtain ⟨k5, hk⟩ := hk
  refine G.mem (M' := mrow M 1 (M.1 1)) (by simp only [mrow_self]) ?_
  refine lp_t_next_1_0 z d M Q FU (M.1 1) (by first | (simp only [mrow_same, mrow_hit, mrow_miss, mrow_swap, ne_eq, Nat.reduceEqDiff, not_false_eq_true, Nat.reduceLT, reduceCtorEq]; exact k5) | exact k5) ?_
  try simp only [mrow_same, mrow_hit, mrow_miss, mrow_swap, ne_eq, Nat.reduceEqDiff, not_false_eq_true, Nat.reduceLT, reduceCtorEq]
  show G z mX6_next (d) 0 0 38 [some (.ref 1)] [] (mrow M 1 (t_next_0 (M.1 2) FU (M.1 1))) Q
  refine G.sl [(.aload_n 0, 1, 0, 0, 0, 0), (.aload_n 0, 1, 0, 0, 0, 0), (.getfield 34, 3, 5, 6, 13, 0), (.putfield 40, 3, 5, 4, 7, 0), (.aload_n 0, 1, 0, 0, 0, 0), (.getfield 34, 3, 5, 6, 13, 0), (.aload_n 0, 1, 0, 0, 0, 0), (.getfield 31, 3, 5, 5, 12, 0)] [] (pc2 := 54) (ls2 := [some (.ref 1)]) (st2 := [.int ((t_next_0 (M.1 2) FU (M.1 1)) 5), .int ((t_next_0 (M.1 2) FU (M.1 1)) 6)]) (M2 := mput (mrow M 1 (t_next_0 (M.1 2) FU (M.1 1))) 1 4 ((t_next_0 (M.1 2) FU (M.1 1)) 6)) (Ps := []) (by decide +kernel) rfl rfl trivial ?_
  refine G.mem (M' := mrow M 1 (upd (t_next_0 (M.1 2) FU (M.1 1)) 4 ((t_next_0 (M.1 2) FU (M.1 1)) 6))) (by first | rfl | (simp only [mrow_same, mrow_hit, mrow_miss, mrow_swap, ne_eq, Nat.reduceEqDiff, not_false_eq_true, Nat.reduceLT, reduceCtorEq]; done)) ?_
  refine G.ic_ge (off := (22)) (tgt := 76) (by decide +kernel) rfl (fun c6 => ?_) (fun c6 => ?_)
  · skip
    rw [if_pos c6] at hk
    refine G.sl [(.iconst (-1), 1, 0, 0, 0, (-1))] [] (pc2 := 77) (ls2 := [some (.ref 1)]) (st2 := [.int ((-1))]) (M2 := mrow M 1 (upd (t_next_0 (M.1 2) FU (M.1 1)) 4 ((t_next_0 (M.1 2) FU (M.1 1)) 6))) (Ps := []) (by decide +kernel) rfl rfl trivial ?_
    exact G.reti (by decide +kernel) rfl rfl (Nat.le_of_ble_eq_true rfl) (Nat.le_of_ble_eq_true rfl) ((by rw [hQ]; simp only [t_next, if_pos c6, mrow_self]))
  · skip
    rw [if_neg c6] at hk
    refine G.sl [(.aload_n 0, 1, 0, 0, 0, 0), (.getfield 37, 3, 5, 2, 3, 0)] [] (pc2 := 61) (ls2 := [some (.ref 1)]) (st2 := [.int ((t_next_0 (M.1 2) FU (M.1 1)) 2)]) (M2 := mrow M 1 (upd (t_next_0 (M.1 2) FU (M.1 1)) 4 ((t_next_0 (M.1 2) FU (M.1 1)) 6))) (Ps := []) (by decide +kernel) rfl rfl trivial ?_
    refine G.if_ne (off := (15)) (tgt := 76) (by decide +kernel) rfl (fun c7 => ?_) (fun c7 => ?_)
    · skip
      rw [if_neg c7] at hk
      refine G.sl [(.iconst (-1), 1, 0, 0, 0, (-1))] [] (pc2 := 77) (ls2 := [some (.ref 1)]) (st2 := [.int ((-1))]) (M2 := mrow M 1 (upd (t_next_0 (M.1 2) FU (M.1 1)) 4 ((t_next_0 (M.1 2) FU (M.1 1)) 6))) (Ps := []) (by decide +kernel) rfl rfl trivial ?_
      exact G.reti (by decide +kernel) rfl rfl (Nat.le_of_ble_eq_true rfl) (Nat.le_of_ble_eq_true rfl) ((by rw [hQ]; simp only [t_next, if_neg c6, if_neg c7, mrow_self]))
    · skip
      rw [if_pos c7] at hk
      obtain ⟨k8, k9, hk⟩ := hk
      refine G.sl [(.aload_n 0, 1, 0, 0, 0, 0), (.getfield 9, 3, 5, 0, 0, 0), (.aload_n 0, 1, 0, 0, 0, 0), (.getfield 34, 3, 5, 6, 13, 0), (.iaload, 1, 0, 0, 0, 0), (.goto 4, 3, 77, 0, 0, 0)] [ix ((t_next_0 (M.1 2) FU (M.1 1)) 6)] (pc2 := 77) (ls2 := [some (.ref 1)]) (st2 := [.int (M.1 2 (ix ((t_next_0 (M.1 2) FU (M.1 1)) 6)))]) (M2 := mrow M 1 (upd (t_next_0 (M.1 2) FU (M.1 1)) 4 ((t_next_0 (M.1 2) FU (M.1 1)) 6))) (Ps := [((t_next_0 (M.1 2) FU (M.1 1)) 6) = nI (ix ((t_next_0 (M.1 2) FU (M.1 1)) 6)) ∧ (ix ((t_next_0 (M.1 2) FU (M.1 1)) 6)) < 600]) (by decide +kernel) rfl rfl ⟨⟨(ixE k8), k9⟩, trivial⟩ ?_
      exact G.reti (by decide +kernel) rfl rfl (Nat.le_of_ble_eq_true rfl) (Nat.le_of_ble_eq_true rfl) ((by rw [hQ]; simp only [t_next, if_neg c6, if_pos c7, mrow_self]))
noncomputable def t_isDigit (x0 : Int32) : Int32 := (if x0 < (nI 48) then nI 0 else (if (nI 57) < x0 then nI 0 else nI 1))
theorem t_isDigit_01 (x0 : Int32) : t_isDigit x0 = 0 ∨ t_isDigit x0 = 1 := by
  unfold t_isDigit
  repeat' split
  all_goals first | exact Or.inl rfl | exact Or.inr rfl
theorem c_t_isDigit (z : Zp) (d : Nat) (M : Mem) (x0 : Int32) : GM z mX6_isDigit (d) [.int x0] M (fun rs => rs = .inl (some (.int (t_isDigit x0)), M)) := by
  refine GM.of oX6_isDigit.1 (Nat.le_of_ble_eq_true rfl) ?_
  show G z mX6_isDigit (d) 0 0 0 [some (.int x0)] [] M _
  obtain ⟨Q, hQ⟩ : ∃ Q : Rs → Prop, Q = (fun rs => rs = .inl (some (.int (t_isDigit x0)), M)) := ⟨_, rfl⟩
  rw [← hQ]
  refine G.sl [(.iload_n 0, 1, 0, 0, 0, 0), (.bipush 48, 2, 0, 0, 0, nI 48)] [] (pc2 := 3) (ls2 := [some (.int x0)]) (st2 := [.int (nI 48), .int x0]) (M2 := M) (Ps := []) (by decide +kernel) rfl rfl trivial ?_
  refine G.ic_lt (off := (13)) (tgt := 16) (by decide +kernel) rfl (fun c1 => ?_) (fun c1 => ?_)
  · skip
    refine G.sl [(.iconst 0, 1, 0, 0, 0, nI 0)] [] (pc2 := 17) (ls2 := [some (.int x0)]) (st2 := [.int (nI 0)]) (M2 := M) (Ps := []) (by decide +kernel) rfl rfl trivial ?_
    exact G.reti (by decide +kernel) rfl rfl (Nat.le_of_ble_eq_true rfl) (Nat.le_of_ble_eq_true rfl) ((by rw [hQ]; simp only [t_isDigit, if_pos c1, mrow_self]))
  · skip
    refine G.sl [(.iload_n 0, 1, 0, 0, 0, 0), (.bipush 57, 2, 0, 0, 0, nI 57)] [] (pc2 := 9) (ls2 := [some (.int x0)]) (st2 := [.int (nI 57), .int x0]) (M2 := M) (Ps := []) (by decide +kernel) rfl rfl trivial ?_
    refine G.ic_gt (off := (7)) (tgt := 16) (by decide +kernel) rfl (fun c2 => ?_) (fun c2 => ?_)
    · skip
      refine G.sl [(.iconst 0, 1, 0, 0, 0, nI 0)] [] (pc2 := 17) (ls2 := [some (.int x0)]) (st2 := [.int (nI 0)]) (M2 := M) (Ps := []) (by decide +kernel) rfl rfl trivial ?_
      exact G.reti (by decide +kernel) rfl rfl (Nat.le_of_ble_eq_true rfl) (Nat.le_of_ble_eq_true rfl) ((by rw [hQ]; simp only [t_isDigit, if_neg c1, if_pos c2, mrow_self]))
    · skip
      refine G.sl [(.iconst 1, 1, 0, 0, 0, nI 1), (.goto 4, 3, 17, 0, 0, 0)] [] (pc2 := 17) (ls2 := [some (.int x0)]) (st2 := [.int (nI 1)]) (M2 := M) (Ps := []) (by decide +kernel) rfl rfl trivial ?_
      exact G.reti (by decide +kernel) rfl rfl (Nat.le_of_ble_eq_true rfl) (Nat.le_of_ble_eq_true rfl) ((by rw [hQ]; simp only [t_isDigit, if_neg c1, if_neg c2, mrow_self]))
noncomputable def t_number_16 (Rbytes : Nat → Int32) (x1 : Int32) (x2 : Int32) : Nat → Int32 → (Nat → Int32) → Int32 × (Nat → Int32)
  | 0, s3, q1 => (s3, q1)
  | k0 + 1, s3, q1 => (if (q1 5) ≤ (q1 6) then (s3, q1) else (if (t_isDigit (Rbytes (ix (q1 6)))) = 0 then (s3, q1) else t_number_16 Rbytes x1 x2 k0 (if (nI 10000) < (((s3 * (nI 10)) + (Rbytes (ix (q1 6)))) - (nI 48)) then (nI 10000) else (((s3 * (nI 10)) + (Rbytes (ix (q1 6)))) - (nI 48))) (upd q1 6 ((q1 6) + (nI 1)))))
noncomputable def t_number_16_ok (Rbytes : Nat → Int32) (x1 : Int32) (x2 : Int32) : Nat → Int32 → (Nat → Int32) → Prop
  | 0, _, _ => False
  | k0 + 1, s3, q1 => (if (q1 5) ≤ (q1 6) then True else ((isN (q1 6)) ∧ (ix (q1 6) < 600) ∧ (True ∧ (if (t_isDigit (Rbytes (ix (q1 6)))) = 0 then True else t_number_16_ok Rbytes x1 x2 k0 (if (nI 10000) < (((s3 * (nI 10)) + (Rbytes (ix (q1 6)))) - (nI 48)) then (nI 10000) else (((s3 * (nI 10)) + (Rbytes (ix (q1 6)))) - (nI 48))) (upd q1 6 ((q1 6) + (nI 1)))))))
theorem lp_t_number_1_16 (z : Zp) (d : Nat) (M : Mem) (Q : Rs → Prop) (x1 : Int32) (x2 : Int32) : ∀ (k0 : Nat) (s3 : Int32) (q1 : (Nat → Int32)), t_number_16_ok (M.1 2) x1 x2 k0 s3 q1 → (match t_number_16 (M.1 2) x1 x2 k0 s3 q1 with | (s3', q1') => G z mX6_number (d + 1) 0 0 79 [some (.ref 1), some (.int x1), some (.int x2), some (.int (s3'))] [] (mrow M 1 (q1')) Q) → G z mX6_number (d + 1) 0 0 16 [some (.ref 1), some (.int x1), some (.int x2), some (.int s3)] [] (mrow M 1 q1) Q := by
  intro k0
  induction k0 with
  | zero =>
      intro s3 q1 hk hX
      exact (by simpa only [t_number_16_ok] using hk : False).elim
  | succ k0 ih =>
      intro s3 q1 hk hX
      simp only [t_number_16_ok] at hk
      refine G.sl [(.aload_n 0, 1, 0, 0, 0, 0), (.getfield 34, 3, 5, 6, 13, 0), (.aload_n 0, 1, 0, 0, 0, 0), (.getfield 31, 3, 5, 5, 12, 0)] [] (pc2 := 24) (ls2 := [some (.ref 1), some (.int x1), some (.int x2), some (.int s3)]) (st2 := [.int (q1 5), .int (q1 6)]) (M2 := mrow M 1 q1) (Ps := []) (by decide +kernel) rfl rfl trivial ?_
      refine G.ic_ge (off := (55)) (tgt := 79) (by decide +kernel) rfl (fun c8 => ?_) (fun c8 => ?_)
      · skip
        rw [if_pos c8] at hk
        simp only [t_number_16, if_pos c8] at hX
        exact hX
      · skip
        rw [if_neg c8] at hk
        obtain ⟨k9, k10, hk⟩ := hk
        refine G.sl [(.aload_n 0, 1, 0, 0, 0, 0), (.getfield 9, 3, 5, 0, 0, 0), (.aload_n 0, 1, 0, 0, 0, 0), (.getfield 34, 3, 5, 6, 13, 0), (.iaload, 1, 0, 0, 0, 0)] [ix (q1 6)] (pc2 := 36) (ls2 := [some (.ref 1), some (.int x1), some (.int x2), some (.int s3)]) (st2 := [.int (M.1 2 (ix (q1 6)))]) (M2 := mrow M 1 q1) (Ps := [(q1 6) = nI (ix (q1 6)) ∧ (ix (q1 6)) < 600]) (by decide +kernel) rfl rfl ⟨⟨(ixE k9), k10⟩, trivial⟩ ?_
        obtain ⟨k11, hk⟩ := hk
        have t12 : GM z mX6_isDigit (d) [.int (M.1 2 (ix (q1 6)))] (mrow M 1 q1) (fun rs => rs = .inl (some (.int (t_isDigit (M.1 2 (ix (q1 6))))), mrow M 1 q1)) := by
          have q9 := c_t_isDigit z d (mrow M 1 q1) (M.1 2 (ix (q1 6)))
          try simp only [mrow_same, mrow_hit, mrow_miss, mrow_swap, ne_eq, Nat.reduceEqDiff, not_false_eq_true, Nat.reduceLT, reduceCtorEq] at q9
          exact q9
        refine G.callS (as := [.int (M.1 2 (ix (q1 6)))]) (rest := []) oX6_isDigit lk_EvenFinders_Tape_55 (by decide +kernel) rfl (Nat.le_of_ble_eq_true rfl) rfl ⟨Nat.le_of_ble_eq_true rfl, Nat.le_of_ble_eq_true rfl⟩ t12 (fun v9 N9 h13 => ?_) (fun E9 N9 h13 => by cases h13)
        cases h13
        show G z mX6_number (d + 1) 0 0 39 [some (.ref 1), some (.int x1), some (.int x2), some (.int s3)] [.int (t_isDigit (M.1 2 (ix (q1 6))))] (mrow M 1 q1) Q
        refine G.if_eq (off := (40)) (tgt := 79) (by decide +kernel) rfl (fun c14 => ?_) (fun c14 => ?_)
        · skip
          rw [if_pos c14] at hk
          simp only [t_number_16, if_neg c8, if_pos c14] at hX
          exact hX
        · skip
          rw [if_neg c14] at hk
          refine G.sl [(.iload_n 3, 1, 3, 0, 0, 0), (.bipush 10, 2, 0, 0, 0, nI 10), (.imul, 1, 0, 0, 0, 0), (.aload_n 0, 1, 0, 0, 0, 0), (.getfield 9, 3, 5, 0, 0, 0), (.aload_n 0, 1, 0, 0, 0, 0), (.getfield 34, 3, 5, 6, 13, 0), (.iaload, 1, 0, 0, 0, 0), (.iadd, 1, 0, 0, 0, 0), (.bipush 48, 2, 0, 0, 0, nI 48), (.isub, 1, 0, 0, 0, 0), (.sipush 10000, 3, 0, 0, 0, nI 10000)] [ix (q1 6)] (pc2 := 62) (ls2 := [some (.ref 1), some (.int x1), some (.int x2), some (.int s3)]) (st2 := [.int (nI 10000), .int (((s3 * (nI 10)) + (M.1 2 (ix (q1 6)))) - (nI 48))]) (M2 := mrow M 1 q1) (Ps := [(q1 6) = nI (ix (q1 6)) ∧ (ix (q1 6)) < 600]) (by decide +kernel) rfl rfl ⟨⟨(ixE k9), k10⟩, trivial⟩ ?_
          refine G.mmin lm_EvenFinders_Tape_22 (by decide +kernel) (Nat.le_of_ble_eq_true rfl) (Nat.le_of_ble_eq_true rfl) (Nat.le_of_ble_eq_true rfl) ?_
          refine G.sl [(.istore_n 3, 1, 3, 0, 0, 0), (.aload_n 0, 1, 0, 0, 0, 0), (.dup, 1, 0, 0, 0, 0), (.getfield 34, 3, 5, 6, 13, 0), (.iconst 1, 1, 0, 0, 0, nI 1), (.iadd, 1, 0, 0, 0, 0), (.putfield 34, 3, 5, 6, 13, 0), (.goto (-60), 3, 16, 0, 0, 0)] [] (pc2 := 16) (ls2 := [some (.ref 1), some (.int x1), some (.int x2), some (.int (if (nI 10000) < (((s3 * (nI 10)) + (M.1 2 (ix (q1 6)))) - (nI 48)) then (nI 10000) else (((s3 * (nI 10)) + (M.1 2 (ix (q1 6)))) - (nI 48))))]) (st2 := []) (M2 := mput (mrow M 1 q1) 1 6 ((q1 6) + (nI 1))) (Ps := []) (by decide +kernel) rfl rfl trivial ?_
          refine G.mem (M' := mrow M 1 (upd q1 6 ((q1 6) + (nI 1)))) (by first | rfl | (simp only [mrow_same, mrow_hit, mrow_miss, mrow_swap, ne_eq, Nat.reduceEqDiff, not_false_eq_true, Nat.reduceLT, reduceCtorEq]; done)) ?_
          simp only [t_number_16, if_neg c8, if_neg c14] at hX
          exact ih (if (nI 10000) < (((s3 * (nI 10)) + (M.1 2 (ix (q1 6)))) - (nI 48)) then (nI 10000) else (((s3 * (nI 10)) + (M.1 2 (ix (q1 6)))) - (nI 48))) (upd q1 6 ((q1 6) + (nI 1))) hk hX
noncomputable def t_fail (Rtape : Nat → Int32) (x1 : Int32) (x2 : Int32) : Int32 × (Nat → Int32) := (if (Rtape 2) = 0 then (0, upd (upd (Rtape) 2 x1) 3 x2) else (0, Rtape))
theorem c_t_fail_1 (z : Zp) (d : Nat) (M : Mem) (x1 : Int32) (x2 : Int32) : GM z mX6_fail (d) [.ref 1, .int x1, .int x2] M (fun rs => rs = .inl (none, mrow M 1 ((t_fail (M.1 1) x1 x2).2))) := by
  refine GM.of oX6_fail.1 (Nat.le_of_ble_eq_true rfl) ?_
  show G z mX6_fail (d) 0 0 0 [some (.ref 1), some (.int x1), some (.int x2)] [] M _
  obtain ⟨Q, hQ⟩ : ∃ Q : Rs → Prop, Q = (fun rs => rs = .inl (none, mrow M 1 ((t_fail (M.1 1) x1 x2).2))) := ⟨_, rfl⟩
  rw [← hQ]
  refine G.sl [(.aload_n 0, 1, 0, 0, 0, 0), (.getfield 37, 3, 5, 2, 3, 0)] [] (pc2 := 4) (ls2 := [some (.ref 1), some (.int x1), some (.int x2)]) (st2 := [.int (M.1 1 2)]) (M2 := M) (Ps := []) (by decide +kernel) rfl rfl trivial ?_
  refine G.if_ne (off := (13)) (tgt := 17) (by decide +kernel) rfl (fun c1 => ?_) (fun c1 => ?_)
  · skip
    refine G.mem (M' := mrow M 1 (M.1 1)) (((mrow_id (N := M) (c := 1) (f := M.1 1) (by first | rfl | (simp only [mrow_same, mrow_hit, mrow_miss, mrow_swap, ne_eq, Nat.reduceEqDiff, not_false_eq_true, Nat.reduceLT, reduceCtorEq]; done))).symm).trans (by first | rfl | (simp only [mrow_same, mrow_hit, mrow_miss, mrow_swap, ne_eq, Nat.reduceEqDiff, not_false_eq_true, Nat.reduceLT, reduceCtorEq]; done))) ?_
    exact G.retv (by decide +kernel) rfl (Nat.le_of_ble_eq_true rfl) (Nat.le_of_ble_eq_true rfl) ((by rw [hQ]; simp only [t_fail, if_neg c1, mrow_self]))
  · skip
    refine G.sl [(.aload_n 0, 1, 0, 0, 0, 0), (.iload_n 1, 1, 1, 0, 0, 0), (.putfield 37, 3, 5, 2, 3, 0), (.aload_n 0, 1, 0, 0, 0, 0), (.iload_n 2, 1, 2, 0, 0, 0), (.putfield 15, 3, 5, 3, 5, 0)] [] (pc2 := 17) (ls2 := [some (.ref 1), some (.int x1), some (.int x2)]) (st2 := []) (M2 := mput (mput M 1 2 x1) 1 3 x2) (Ps := []) (by decide +kernel) rfl rfl trivial ?_
    refine G.mem (M' := mrow M 1 (upd (upd (M.1 1) 2 x1) 3 x2)) (by first | rfl | (simp only [mrow_same, mrow_hit, mrow_miss, mrow_swap, ne_eq, Nat.reduceEqDiff, not_false_eq_true, Nat.reduceLT, reduceCtorEq]; done)) ?_
    exact G.retv (by decide +kernel) rfl (Nat.le_of_ble_eq_true rfl) (Nat.le_of_ble_eq_true rfl) ((by rw [hQ]; simp only [t_fail, if_pos c1, mrow_self]))
noncomputable def t_number (Rtape Rbytes : Nat → Int32) (x1 : Int32) (x2 : Int32) : Int32 × (Nat → Int32) := (match t_next (Rtape) (Rbytes) with | (v3, r4) => (if (r4 2) = 0 then (match t_number_16 (Rbytes) x1 x2 FU (nI 0) r4 with | (v17, r18) => (if (r18 6) = (r18 4) then (match t_fail r18 (nI 1) (r18 4) with | (u36, r37) => (v17, r37)) else (if v17 < x1 then (match t_fail r18 (nI 2) (r18 4) with | (u23, r24) => (v17, r24)) else (if v17 ≤ x2 then (v17, r18) else (match t_fail r18 (nI 2) (r18 4) with | (u30, r31) => (v17, r31)))))) else (nI 0, r4)))
noncomputable def t_number_ok (Rtape Rbytes : Nat → Int32) (x1 : Int32) (x2 : Int32) : Prop := (t_next_ok (Rtape) (Rbytes) ∧ (match t_next (Rtape) (Rbytes) with | (v3, r4) => (if (r4 2) = 0 then (t_number_16_ok (Rbytes) x1 x2 FU (nI 0) r4 ∧ True) else True)))
theorem c_t_number_1 (z : Zp) (d : Nat) (M : Mem) (x1 : Int32) (x2 : Int32) (hk : t_number_ok (M.1 1) (M.1 2) x1 x2) : GM z mX6_number (d + 1) [.ref 1, .int x1, .int x2] M (fun rs => rs = .inl (some (.int ((t_number (M.1 1) (M.1 2) x1 x2).1)), mrow M 1 ((t_number (M.1 1) (M.1 2) x1 x2).2))) := by
  simp only [t_number_ok] at hk
  refine GM.of oX6_number.1 (Nat.le_of_ble_eq_true rfl) ?_
  show G z mX6_number (d + 1) 0 0 0 [some (.ref 1), some (.int x1), some (.int x2), none] [] M _
  obtain ⟨Q, hQ⟩ : ∃ Q : Rs → Prop, Q = (fun rs => rs = .inl (some (.int ((t_number (M.1 1) (M.1 2) x1 x2).1)), mrow M 1 ((t_number (M.1 1) (M.1 2) x1 x2).2))) := ⟨_, rfl⟩
  rw [← hQ]
  refine G.sl [(.aload_n 0, 1, 0, 0, 0, 0)] [] (pc2 := 1) (ls2 := [some (.ref 1), some (.int x1), some (.int x2), none]) (st2 := [.ref 1]) (M2 := M) (Ps := []) (by decide +kernel) rfl rfl trivial ?_
  obtain ⟨k1, hk⟩ := hk
  rcases g2 : t_next (M.1 1) (M.1 2) with ⟨v3, r4⟩
  try simp only [g2] at hk
  have t5 : GM z mX6_next (d) [.ref 1] M (fun rs => rs = .inl (some (.int v3), mrow M 1 r4)) := by
    have q9 := c_t_next_1 z d M k1
    try simp only [mrow_same, mrow_hit, mrow_miss, mrow_swap, ne_eq, Nat.reduceEqDiff, not_false_eq_true, Nat.reduceLT, reduceCtorEq, g2] at q9
    exact q9
  refine G.callV (as := []) (rest := []) (a := 1) oX6_next lk_EvenFinders_Tape_43 (by decide +kernel) rfl rfl ⟨rfl, rfl⟩ (Nat.le_of_ble_eq_true rfl) rfl ⟨Nat.le_of_ble_eq_true rfl, Nat.le_of_ble_eq_true rfl⟩ t5 (fun v9 N9 h6 => ?_) (fun E9 N9 h6 => by cases h6)
  cases h6
  show G z mX6_number (d + 1) 0 0 4 [some (.ref 1), some (.int x1), some (.int x2), none] [.int v3] (mrow M 1 r4) Q
  refine G.sl [(.pop, 1, 0, 0, 0, 0), (.aload_n 0, 1, 0, 0, 0, 0), (.getfield 37, 3, 5, 2, 3, 0)] [] (pc2 := 9) (ls2 := [some (.ref 1), some (.int x1), some (.int x2), none]) (st2 := [.int (r4 2)]) (M2 := mrow M 1 r4) (Ps := []) (by decide +kernel) rfl rfl trivial ?_
  refine G.if_eq (off := (5)) (tgt := 14) (by decide +kernel) rfl (fun c7 => ?_) (fun c7 => ?_)
  · skip
    rw [if_pos c7] at hk
    refine G.sl [(.iconst 0, 1, 0, 0, 0, nI 0), (.istore_n 3, 1, 3, 0, 0, 0)] [] (pc2 := 16) (ls2 := [some (.ref 1), some (.int x1), some (.int x2), some (.int (nI 0))]) (st2 := []) (M2 := mrow M 1 r4) (Ps := []) (by decide +kernel) rfl rfl trivial ?_
    obtain ⟨k15, hk⟩ := hk
    refine G.mem (M' := mrow (mrow M 1 r4) 1 ((mrow M 1 r4).1 1)) (by simp only [mrow_self]) ?_
    refine lp_t_number_1_16 z d (mrow M 1 r4) Q x1 x2 FU (nI 0) ((mrow M 1 r4).1 1) (by first | (simp only [mrow_same, mrow_hit, mrow_miss, mrow_swap, ne_eq, Nat.reduceEqDiff, not_false_eq_true, Nat.reduceLT, reduceCtorEq]; exact k15) | exact k15) ?_
    try simp only [mrow_same, mrow_hit, mrow_miss, mrow_swap, ne_eq, Nat.reduceEqDiff, not_false_eq_true, Nat.reduceLT, reduceCtorEq]
    rcases g16 : t_number_16 (M.1 2) x1 x2 FU (nI 0) r4 with ⟨v17, r18⟩
    show G z mX6_number (d + 1) 0 0 79 [some (.ref 1), some (.int x1), some (.int x2), some (.int v17)] [] (mrow M 1 r18) Q
    refine G.sl [(.aload_n 0, 1, 0, 0, 0, 0), (.getfield 34, 3, 5, 6, 13, 0), (.aload_n 0, 1, 0, 0, 0, 0), (.getfield 40, 3, 5, 4, 7, 0)] [] (pc2 := 87) (ls2 := [some (.ref 1), some (.int x1), some (.int x2), some (.int v17)]) (st2 := [.int (r18 4), .int (r18 6)]) (M2 := mrow M 1 r18) (Ps := []) (by decide +kernel) rfl rfl trivial ?_
    refine G.ic_ne (off := (15)) (tgt := 102) (by decide +kernel) rfl (fun c19 => ?_) (fun c19 => ?_)
    · skip
      refine G.sl [(.iload_n 3, 1, 3, 0, 0, 0), (.iload_n 1, 1, 1, 0, 0, 0)] [] (pc2 := 104) (ls2 := [some (.ref 1), some (.int x1), some (.int x2), some (.int v17)]) (st2 := [.int x1, .int v17]) (M2 := mrow M 1 r18) (Ps := []) (by decide +kernel) rfl rfl trivial ?_
      refine G.ic_lt (off := (8)) (tgt := 112) (by decide +kernel) rfl (fun c20 => ?_) (fun c20 => ?_)
      · skip
        refine G.sl [(.aload_n 0, 1, 0, 0, 0, 0), (.iconst 2, 1, 0, 0, 0, nI 2), (.aload_n 0, 1, 0, 0, 0, 0), (.getfield 40, 3, 5, 4, 7, 0)] [] (pc2 := 118) (ls2 := [some (.ref 1), some (.int x1), some (.int x2), some (.int v17)]) (st2 := [.int (r18 4), .int (nI 2), .ref 1]) (M2 := mrow M 1 r18) (Ps := []) (by decide +kernel) rfl rfl trivial ?_
        rcases g22 : t_fail r18 (nI 2) (r18 4) with ⟨u23, r24⟩
        have t25 : GM z mX6_fail (d) [.ref 1, .int (nI 2), .int (r18 4)] (mrow M 1 r18) (fun rs => rs = .inl (none, mrow M 1 r24)) := by
          have q9 := c_t_fail_1 z d (mrow M 1 r18) (nI 2) (r18 4)
          try simp only [mrow_same, mrow_hit, mrow_miss, mrow_swap, ne_eq, Nat.reduceEqDiff, not_false_eq_true, Nat.reduceLT, reduceCtorEq, g22] at q9
          exact q9
        refine G.callV (as := [.int (nI 2), .int (r18 4)]) (rest := []) (a := 1) oX6_fail lk_EvenFinders_Tape_51 (by decide +kernel) rfl rfl ⟨rfl, rfl⟩ (Nat.le_of_ble_eq_true rfl) rfl ⟨Nat.le_of_ble_eq_true rfl, Nat.le_of_ble_eq_true rfl⟩ t25 (fun v9 N9 h26 => ?_) (fun E9 N9 h26 => by cases h26)
        cases h26
        show G z mX6_number (d + 1) 0 0 121 [some (.ref 1), some (.int x1), some (.int x2), some (.int v17)] [] (mrow M 1 r24) Q
        refine G.sl [(.iload_n 3, 1, 3, 0, 0, 0)] [] (pc2 := 122) (ls2 := [some (.ref 1), some (.int x1), some (.int x2), some (.int v17)]) (st2 := [.int v17]) (M2 := mrow M 1 r24) (Ps := []) (by decide +kernel) rfl rfl trivial ?_
        exact G.reti (by decide +kernel) rfl rfl (Nat.le_of_ble_eq_true rfl) (Nat.le_of_ble_eq_true rfl) ((by rw [hQ]; simp only [t_number, g2, if_pos c7, g16, if_neg c19, if_pos c20, g22, mrow_self]))
      · skip
        refine G.sl [(.iload_n 3, 1, 3, 0, 0, 0), (.iload_n 2, 1, 2, 0, 0, 0)] [] (pc2 := 109) (ls2 := [some (.ref 1), some (.int x1), some (.int x2), some (.int v17)]) (st2 := [.int x2, .int v17]) (M2 := mrow M 1 r18) (Ps := []) (by decide +kernel) rfl rfl trivial ?_
        refine G.ic_le (off := (12)) (tgt := 121) (by decide +kernel) rfl (fun c27 => ?_) (fun c27 => ?_)
        · skip
          refine G.sl [(.iload_n 3, 1, 3, 0, 0, 0)] [] (pc2 := 122) (ls2 := [some (.ref 1), some (.int x1), some (.int x2), some (.int v17)]) (st2 := [.int v17]) (M2 := mrow M 1 r18) (Ps := []) (by decide +kernel) rfl rfl trivial ?_
          exact G.reti (by decide +kernel) rfl rfl (Nat.le_of_ble_eq_true rfl) (Nat.le_of_ble_eq_true rfl) ((by rw [hQ]; simp only [t_number, g2, if_pos c7, g16, if_neg c19, if_neg c20, if_pos c27, mrow_self]))
        · skip
          refine G.sl [(.aload_n 0, 1, 0, 0, 0, 0), (.iconst 2, 1, 0, 0, 0, nI 2), (.aload_n 0, 1, 0, 0, 0, 0), (.getfield 40, 3, 5, 4, 7, 0)] [] (pc2 := 118) (ls2 := [some (.ref 1), some (.int x1), some (.int x2), some (.int v17)]) (st2 := [.int (r18 4), .int (nI 2), .ref 1]) (M2 := mrow M 1 r18) (Ps := []) (by decide +kernel) rfl rfl trivial ?_
          rcases g29 : t_fail r18 (nI 2) (r18 4) with ⟨u30, r31⟩
          have t32 : GM z mX6_fail (d) [.ref 1, .int (nI 2), .int (r18 4)] (mrow M 1 r18) (fun rs => rs = .inl (none, mrow M 1 r31)) := by
            have q9 := c_t_fail_1 z d (mrow M 1 r18) (nI 2) (r18 4)
            try simp only [mrow_same, mrow_hit, mrow_miss, mrow_swap, ne_eq, Nat.reduceEqDiff, not_false_eq_true, Nat.reduceLT, reduceCtorEq, g29] at q9
            exact q9
          refine G.callV (as := [.int (nI 2), .int (r18 4)]) (rest := []) (a := 1) oX6_fail lk_EvenFinders_Tape_51 (by decide +kernel) rfl rfl ⟨rfl, rfl⟩ (Nat.le_of_ble_eq_true rfl) rfl ⟨Nat.le_of_ble_eq_true rfl, Nat.le_of_ble_eq_true rfl⟩ t32 (fun v9 N9 h33 => ?_) (fun E9 N9 h33 => by cases h33)
          cases h33
          show G z mX6_number (d + 1) 0 0 121 [some (.ref 1), some (.int x1), some (.int x2), some (.int v17)] [] (mrow M 1 r31) Q
          refine G.sl [(.iload_n 3, 1, 3, 0, 0, 0)] [] (pc2 := 122) (ls2 := [some (.ref 1), some (.int x1), some (.int x2), some (.int v17)]) (st2 := [.int v17]) (M2 := mrow M 1 r31) (Ps := []) (by decide +kernel) rfl rfl trivial ?_
          exact G.reti (by decide +kernel) rfl rfl (Nat.le_of_ble_eq_true rfl) (Nat.le_of_ble_eq_true rfl) ((by rw [hQ]; simp only [t_number, g2, if_pos c7, g16, if_neg c19, if_neg c20, if_neg c27, g29, mrow_self]))
    · skip
      refine G.sl [(.aload_n 0, 1, 0, 0, 0, 0), (.iconst 1, 1, 0, 0, 0, nI 1), (.aload_n 0, 1, 0, 0, 0, 0), (.getfield 40, 3, 5, 4, 7, 0)] [] (pc2 := 96) (ls2 := [some (.ref 1), some (.int x1), some (.int x2), some (.int v17)]) (st2 := [.int (r18 4), .int (nI 1), .ref 1]) (M2 := mrow M 1 r18) (Ps := []) (by decide +kernel) rfl rfl trivial ?_
      rcases g35 : t_fail r18 (nI 1) (r18 4) with ⟨u36, r37⟩
      have t38 : GM z mX6_fail (d) [.ref 1, .int (nI 1), .int (r18 4)] (mrow M 1 r18) (fun rs => rs = .inl (none, mrow M 1 r37)) := by
        have q9 := c_t_fail_1 z d (mrow M 1 r18) (nI 1) (r18 4)
        try simp only [mrow_same, mrow_hit, mrow_miss, mrow_swap, ne_eq, Nat.reduceEqDiff, not_false_eq_true, Nat.reduceLT, reduceCtorEq, g35] at q9
        exact q9
      refine G.callV (as := [.int (nI 1), .int (r18 4)]) (rest := []) (a := 1) oX6_fail lk_EvenFinders_Tape_51 (by decide +kernel) rfl rfl ⟨rfl, rfl⟩ (Nat.le_of_ble_eq_true rfl) rfl ⟨Nat.le_of_ble_eq_true rfl, Nat.le_of_ble_eq_true rfl⟩ t38 (fun v9 N9 h39 => ?_) (fun E9 N9 h39 => by cases h39)
      cases h39
      show G z mX6_number (d + 1) 0 0 99 [some (.ref 1), some (.int x1), some (.int x2), some (.int v17)] [] (mrow M 1 r37) Q
      refine G.sl [(.goto 22, 3, 121, 0, 0, 0), (.iload_n 3, 1, 3, 0, 0, 0)] [] (pc2 := 122) (ls2 := [some (.ref 1), some (.int x1), some (.int x2), some (.int v17)]) (st2 := [.int v17]) (M2 := mrow M 1 r37) (Ps := []) (by decide +kernel) rfl rfl trivial ?_
      exact G.reti (by decide +kernel) rfl rfl (Nat.le_of_ble_eq_true rfl) (Nat.le_of_ble_eq_true rfl) ((by rw [hQ]; simp only [t_number, g2, if_pos c7, g16, if_pos c19, g35, mrow_self]))
  · skip
    rw [if_neg c7] at hk
    refine G.sl [(.iconst 0, 1, 0, 0, 0, nI 0)] [] (pc2 := 13) (ls2 := [some (.ref 1), some (.int x1), some (.int x2), none]) (st2 := [.int (nI 0)]) (M2 := mrow M 1 r4) (Ps := []) (by decide +kernel) rfl rfl trivial ?_
    exact G.reti (by decide +kernel) rfl rfl (Nat.le_of_ble_eq_true rfl) (Nat.le_of_ble_eq_true rfl) ((by rw [hQ]; simp only [t_number, g2, if_neg c7, mrow_self]))
noncomputable def k_fine (Rmd : Nat → Int32) : Int32 := (if (Rmd 5) = ((-1)) then nI 1 else nI 0)
theorem k_fine_01 (Rmd : Nat → Int32) : k_fine Rmd = 0 ∨ k_fine Rmd = 1 := by
  unfold k_fine
  repeat' split
  all_goals first | exact Or.inl rfl | exact Or.inr rfl
theorem c_k_fine_54 (z : Zp) (d : Nat) (M : Mem) : GM z mX12_fine (d) [.ref 54] M (fun rs => rs = .inl (some (.int (k_fine (M.1 54))), M)) := by
  refine GM.of oX12_fine.1 (Nat.le_of_ble_eq_true rfl) ?_
  show G z mX12_fine (d) 0 0 0 [some (.ref 54)] [] M _
  obtain ⟨Q, hQ⟩ : ∃ Q : Rs → Prop, Q = (fun rs => rs = .inl (some (.int (k_fine (M.1 54))), M)) := ⟨_, rfl⟩
  rw [← hQ]
  refine G.sl [(.aload_n 0, 1, 0, 0, 0, 0), (.getfield 101, 3, 11, 5, 128, 0), (.iconst (-1), 1, 0, 0, 0, (-1))] [] (pc2 := 5) (ls2 := [some (.ref 54)]) (st2 := [.int ((-1)), .int (M.1 54 5)]) (M2 := M) (Ps := []) (by decide +kernel) rfl rfl trivial ?_
  refine G.ic_ne (off := (7)) (tgt := 12) (by decide +kernel) rfl (fun c1 => ?_) (fun c1 => ?_)
  · skip
    refine G.sl [(.iconst 0, 1, 0, 0, 0, nI 0)] [] (pc2 := 13) (ls2 := [some (.ref 54)]) (st2 := [.int (nI 0)]) (M2 := M) (Ps := []) (by decide +kernel) rfl rfl trivial ?_
    exact G.reti (by decide +kernel) rfl rfl (Nat.le_of_ble_eq_true rfl) (Nat.le_of_ble_eq_true rfl) ((by rw [hQ]; simp only [k_fine, if_neg c1, mrow_self]))
  · skip
    refine G.sl [(.iconst 1, 1, 0, 0, 0, nI 1), (.goto 4, 3, 13, 0, 0, 0)] [] (pc2 := 13) (ls2 := [some (.ref 54)]) (st2 := [.int (nI 1)]) (M2 := M) (Ps := []) (by decide +kernel) rfl rfl trivial ?_
    exact G.reti (by decide +kernel) rfl rfl (Nat.le_of_ble_eq_true rfl) (Nat.le_of_ble_eq_true rfl) ((by rw [hQ]; simp only [k_fine, if_pos c1, mrow_self]))
noncomputable def k_here_0 (Rtape : Nat → Int32) : Nat → (Nat → Int32) → (Nat → Int32)
  | 0, q54 => q54
  | k0 + 1, q54 => (if (q54 3) ≤ (q54 4) then q54 else (if (Rtape (ix (q54 4))) = (nI 32) then k_here_0 Rtape k0 (upd q54 4 ((q54 4) + (nI 1))) else q54))
noncomputable def k_here_0_ok (Rtape : Nat → Int32) : Nat → (Nat → Int32) → Prop
  | 0, _ => False
  | k0 + 1, q54 => (if (q54 3) ≤ (q54 4) then True else ((isN (q54 4)) ∧ (ix (q54 4) < 600) ∧ (if (Rtape (ix (q54 4))) = (nI 32) then k_here_0_ok Rtape k0 (upd q54 4 ((q54 4) + (nI 1))) else True)))
theorem lp_k_here_54_0 (z : Zp) (d : Nat) (M : Mem) (Q : Rs → Prop) : ∀ (k0 : Nat) (q54 : (Nat → Int32)), k_here_0_ok (M.1 56) k0 q54 → (match k_here_0 (M.1 56) k0 q54 with | q54' => G z mX12_here (d) 0 0 38 [some (.ref 54)] [] (mrow M 54 (q54')) Q) → G z mX12_here (d) 0 0 0 [some (.ref 54)] [] (mrow M 54 q54) Q := by
  intro k0
  induction k0 with
  | zero =>
      intro q54 hk hX
      exact (by simpa only [k_here_0_ok] using hk : False).elim
  | succ k0 ih =>
      intro q54 hk hX
      simp only [k_here_0_ok] at hk
      refine G.sl [(.aload_n 0, 1, 0, 0, 0, 0), (.getfield 107, 3, 11, 4, 127, 0), (.aload_n 0, 1, 0, 0, 0, 0), (.getfield 110, 3, 11, 3, 126, 0)] [] (pc2 := 8) (ls2 := [some (.ref 54)]) (st2 := [.int (q54 3), .int (q54 4)]) (M2 := mrow M 54 q54) (Ps := []) (by decide +kernel) rfl rfl trivial ?_
      refine G.ic_ge (off := (30)) (tgt := 38) (by decide +kernel) rfl (fun c1 => ?_) (fun c1 => ?_)
      · skip
        rw [if_pos c1] at hk
        simp only [k_here_0, if_pos c1] at hX
        exact hX
      · skip
        rw [if_neg c1] at hk
        obtain ⟨k2, k3, hk⟩ := hk
        refine G.sl [(.aload_n 0, 1, 0, 0, 0, 0), (.getfield 20, 3, 11, 9, 132, 0), (.aload_n 0, 1, 0, 0, 0, 0), (.getfield 107, 3, 11, 4, 127, 0), (.iaload, 1, 0, 0, 0, 0), (.bipush 32, 2, 0, 0, 0, nI 32)] [ix (q54 4)] (pc2 := 22) (ls2 := [some (.ref 54)]) (st2 := [.int (nI 32), .int (M.1 56 (ix (q54 4)))]) (M2 := mrow M 54 q54) (Ps := [(q54 4) = nI (ix (q54 4)) ∧ (ix (q54 4)) < 600]) (by decide +kernel) rfl rfl ⟨⟨(ixE k2), k3⟩, trivial⟩ ?_
        refine G.ic_ne (off := (16)) (tgt := 38) (by decide +kernel) rfl (fun c4 => ?_) (fun c4 => ?_)
        · skip
          rw [if_neg c4] at hk
          simp only [k_here_0, if_neg c1, if_neg c4] at hX
          exact hX
        · skip
          rw [if_pos c4] at hk
          refine G.sl [(.aload_n 0, 1, 0, 0, 0, 0), (.dup, 1, 0, 0, 0, 0), (.getfield 107, 3, 11, 4, 127, 0), (.iconst 1, 1, 0, 0, 0, nI 1), (.iadd, 1, 0, 0, 0, 0), (.putfield 107, 3, 11, 4, 127, 0), (.goto (-35), 3, 0, 0, 0, 0)] [] (pc2 := 0) (ls2 := [some (.ref 54)]) (st2 := []) (M2 := mput (mrow M 54 q54) 54 4 ((q54 4) + (nI 1))) (Ps := []) (by decide +kernel) rfl rfl trivial ?_
          refine G.mem (M' := mrow M 54 (upd q54 4 ((q54 4) + (nI 1)))) (by first | rfl | (simp only [mrow_same, mrow_hit, mrow_miss, mrow_swap, ne_eq, Nat.reduceEqDiff, not_false_eq_true, Nat.reduceLT, reduceCtorEq]; done)) ?_
          simp only [k_here_0, if_neg c1, if_pos c4] at hX
          exact ih (upd q54 4 ((q54 4) + (nI 1))) hk hX
noncomputable def k_here (Rmd Rtape : Nat → Int32) : Int32 × (Nat → Int32) := (if ((k_here_0 (Rtape) FU (Rmd)) 3) ≤ ((k_here_0 (Rtape) FU (Rmd)) 4) then (nI 0, k_here_0 (Rtape) FU (Rmd)) else (Rtape (ix ((k_here_0 (Rtape) FU (Rmd)) 4)), k_here_0 (Rtape) FU (Rmd)))
noncomputable def k_here_ok (Rmd Rtape : Nat → Int32) : Prop := (k_here_0_ok (Rtape) FU (Rmd) ∧ (if ((k_here_0 (Rtape) FU (Rmd)) 3) ≤ ((k_here_0 (Rtape) FU (Rmd)) 4) then True else ((isN ((k_here_0 (Rtape) FU (Rmd)) 4)) ∧ (ix ((k_here_0 (Rtape) FU (Rmd)) 4) < 600) ∧ True)))
theorem c_k_here_54 (z : Zp) (d : Nat) (M : Mem) (hk : k_here_ok (M.1 54) (M.1 56)) : GM z mX12_here (d) [.ref 54] M (fun rs => rs = .inl (some (.int ((k_here (M.1 54) (M.1 56)).1)), mrow M 54 ((k_here (M.1 54) (M.1 56)).2))) := by
  simp only [k_here_ok] at hk
  refine GM.of oX12_here.1 (Nat.le_of_ble_eq_true rfl) ?_
  show G z mX12_here (d) 0 0 0 [some (.ref 54)] [] M _
  obtain ⟨Q, hQ⟩ : ∃ Q : Rs → Prop, Q = (fun rs => rs = .inl (some (.int ((k_here (M.1 54) (M.1 56)).1)), mrow M 54 ((k_here (M.1 54) (M.1 56)).2))) := ⟨_, rfl⟩
  rw [← hQ]
  obtain ⟨k5, hk⟩ := hk
  refine G.mem (M' := mrow M 54 (M.1 54)) (by simp only [mrow_self]) ?_
  refine lp_k_here_54_0 z d M Q FU (M.1 54) (by first | (simp only [mrow_same, mrow_hit, mrow_miss, mrow_swap, ne_eq, Nat.reduceEqDiff, not_false_eq_true, Nat.reduceLT, reduceCtorEq]; exact k5) | exact k5) ?_
  try simp only [mrow_same, mrow_hit, mrow_miss, mrow_swap, ne_eq, Nat.reduceEqDiff, not_false_eq_true, Nat.reduceLT, reduceCtorEq]
  show G z mX12_here (d) 0 0 38 [some (.ref 54)] [] (mrow M 54 (k_here_0 (M.1 56) FU (M.1 54))) Q
  refine G.sl [(.aload_n 0, 1, 0, 0, 0, 0), (.getfield 107, 3, 11, 4, 127, 0), (.aload_n 0, 1, 0, 0, 0, 0), (.getfield 110, 3, 11, 3, 126, 0)] [] (pc2 := 46) (ls2 := [some (.ref 54)]) (st2 := [.int ((k_here_0 (M.1 56) FU (M.1 54)) 3), .int ((k_here_0 (M.1 56) FU (M.1 54)) 4)]) (M2 := mrow M 54 (k_here_0 (M.1 56) FU (M.1 54))) (Ps := []) (by decide +kernel) rfl rfl trivial ?_
  refine G.ic_ge (off := (15)) (tgt := 61) (by decide +kernel) rfl (fun c6 => ?_) (fun c6 => ?_)
  · skip
    rw [if_pos c6] at hk
    refine G.sl [(.iconst 0, 1, 0, 0, 0, nI 0)] [] (pc2 := 62) (ls2 := [some (.ref 54)]) (st2 := [.int (nI 0)]) (M2 := mrow M 54 (k_here_0 (M.1 56) FU (M.1 54))) (Ps := []) (by decide +kernel) rfl rfl trivial ?_
    exact G.reti (by decide +kernel) rfl rfl (Nat.le_of_ble_eq_true rfl) (Nat.le_of_ble_eq_true rfl) ((by rw [hQ]; simp only [k_here, if_pos c6, mrow_self]))
  · skip
    rw [if_neg c6] at hk
    obtain ⟨k7, k8, hk⟩ := hk
    refine G.sl [(.aload_n 0, 1, 0, 0, 0, 0), (.getfield 20, 3, 11, 9, 132, 0), (.aload_n 0, 1, 0, 0, 0, 0), (.getfield 107, 3, 11, 4, 127, 0), (.iaload, 1, 0, 0, 0, 0), (.goto 4, 3, 62, 0, 0, 0)] [ix ((k_here_0 (M.1 56) FU (M.1 54)) 4)] (pc2 := 62) (ls2 := [some (.ref 54)]) (st2 := [.int (M.1 56 (ix ((k_here_0 (M.1 56) FU (M.1 54)) 4)))]) (M2 := mrow M 54 (k_here_0 (M.1 56) FU (M.1 54))) (Ps := [((k_here_0 (M.1 56) FU (M.1 54)) 4) = nI (ix ((k_here_0 (M.1 56) FU (M.1 54)) 4)) ∧ (ix ((k_here_0 (M.1 56) FU (M.1 54)) 4)) < 600]) (by decide +kernel) rfl rfl ⟨⟨(ixE k7), k8⟩, trivial⟩ ?_
    exact G.reti (by decide +kernel) rfl rfl (Nat.le_of_ble_eq_true rfl) (Nat.le_of_ble_eq_true rfl) ((by rw [hQ]; simp only [k_here, if_neg c6, mrow_self]))
noncomputable def k_isDigit (x0 : Int32) : Int32 := (if x0 < (nI 48) then nI 0 else (if (nI 57) < x0 then nI 0 else nI 1))
theorem k_isDigit_01 (x0 : Int32) : k_isDigit x0 = 0 ∨ k_isDigit x0 = 1 := by
  unfold k_isDigit
  repeat' split
  all_goals first | exact Or.inl rfl | exact Or.inr rfl
theorem c_k_isDigit (z : Zp) (d : Nat) (M : Mem) (x0 : Int32) : GM z mX12_isDigit (d) [.int x0] M (fun rs => rs = .inl (some (.int (k_isDigit x0)), M)) := by
  refine GM.of oX12_isDigit.1 (Nat.le_of_ble_eq_true rfl) ?_
  show G z mX12_isDigit (d) 0 0 0 [some (.int x0)] [] M _
  obtain ⟨Q, hQ⟩ : ∃ Q : Rs → Prop, Q = (fun rs => rs = .inl (some (.int (k_isDigit x0)), M)) := ⟨_, rfl⟩
  rw [← hQ]
  refine G.sl [(.iload_n 0, 1, 0, 0, 0, 0), (.bipush 48, 2, 0, 0, 0, nI 48)] [] (pc2 := 3) (ls2 := [some (.int x0)]) (st2 := [.int (nI 48), .int x0]) (M2 := M) (Ps := []) (by decide +kernel) rfl rfl trivial ?_
  refine G.ic_lt (off := (13)) (tgt := 16) (by decide +kernel) rfl (fun c1 => ?_) (fun c1 => ?_)
  · skip
    refine G.sl [(.iconst 0, 1, 0, 0, 0, nI 0)] [] (pc2 := 17) (ls2 := [some (.int x0)]) (st2 := [.int (nI 0)]) (M2 := M) (Ps := []) (by decide +kernel) rfl rfl trivial ?_
    exact G.reti (by decide +kernel) rfl rfl (Nat.le_of_ble_eq_true rfl) (Nat.le_of_ble_eq_true rfl) ((by rw [hQ]; simp only [k_isDigit, if_pos c1, mrow_self]))
  · skip
    refine G.sl [(.iload_n 0, 1, 0, 0, 0, 0), (.bipush 57, 2, 0, 0, 0, nI 57)] [] (pc2 := 9) (ls2 := [some (.int x0)]) (st2 := [.int (nI 57), .int x0]) (M2 := M) (Ps := []) (by decide +kernel) rfl rfl trivial ?_
    refine G.ic_gt (off := (7)) (tgt := 16) (by decide +kernel) rfl (fun c2 => ?_) (fun c2 => ?_)
    · skip
      refine G.sl [(.iconst 0, 1, 0, 0, 0, nI 0)] [] (pc2 := 17) (ls2 := [some (.int x0)]) (st2 := [.int (nI 0)]) (M2 := M) (Ps := []) (by decide +kernel) rfl rfl trivial ?_
      exact G.reti (by decide +kernel) rfl rfl (Nat.le_of_ble_eq_true rfl) (Nat.le_of_ble_eq_true rfl) ((by rw [hQ]; simp only [k_isDigit, if_neg c1, if_pos c2, mrow_self]))
    · skip
      refine G.sl [(.iconst 1, 1, 0, 0, 0, nI 1), (.goto 4, 3, 17, 0, 0, 0)] [] (pc2 := 17) (ls2 := [some (.int x0)]) (st2 := [.int (nI 1)]) (M2 := M) (Ps := []) (by decide +kernel) rfl rfl trivial ?_
      exact G.reti (by decide +kernel) rfl rfl (Nat.le_of_ble_eq_true rfl) (Nat.le_of_ble_eq_true rfl) ((by rw [hQ]; simp only [k_isDigit, if_neg c1, if_neg c2, mrow_self]))
noncomputable def k_readNumber_41 (Rtape : Nat → Int32) (x1 : Int32) (x2 : Int32) (x4 : Int32) : Nat → Int32 → (Nat → Int32) → Int32 × (Nat → Int32)
  | 0, s5, q54 => (s5, q54)
  | k0 + 1, s5, q54 => (if (q54 3) ≤ (q54 4) then (s5, q54) else (if (k_isDigit (Rtape (ix (q54 4)))) = 0 then (s5, q54) else (if s5 ≤ (nI 9999) then k_readNumber_41 Rtape x1 x2 x4 k0 ((((nI 10) * s5) + (Rtape (ix (q54 4)))) - (nI 48)) (upd q54 4 ((q54 4) + (nI 1))) else k_readNumber_41 Rtape x1 x2 x4 k0 (nI 10000) (upd q54 4 ((q54 4) + (nI 1))))))
noncomputable def k_readNumber_41_ok (Rtape : Nat → Int32) (x1 : Int32) (x2 : Int32) (x4 : Int32) : Nat → Int32 → (Nat → Int32) → Prop
  | 0, _, _ => False
  | k0 + 1, s5, q54 => (if (q54 3) ≤ (q54 4) then True else ((isN (q54 4)) ∧ (ix (q54 4) < 600) ∧ (True ∧ (if (k_isDigit (Rtape (ix (q54 4)))) = 0 then True else (if s5 ≤ (nI 9999) then k_readNumber_41_ok Rtape x1 x2 x4 k0 ((((nI 10) * s5) + (Rtape (ix (q54 4)))) - (nI 48)) (upd q54 4 ((q54 4) + (nI 1))) else k_readNumber_41_ok Rtape x1 x2 x4 k0 (nI 10000) (upd q54 4 ((q54 4) + (nI 1))))))))
theorem lp_k_readNumber_54_41 (z : Zp) (d : Nat) (M : Mem) (Q : Rs → Prop) (x1 : Int32) (x2 : Int32) (x4 : Int32) : ∀ (k0 : Nat) (s5 : Int32) (q54 : (Nat → Int32)), k_readNumber_41_ok (M.1 56) x1 x2 x4 k0 s5 q54 → (match k_readNumber_41 (M.1 56) x1 x2 x4 k0 s5 q54 with | (s5', q54') => G z mX12_readNumber (d + 1) 0 0 114 [some (.ref 54), some (.int x1), some (.int x2), none, some (.int x4), some (.int (s5'))] [] (mrow M 54 (q54')) Q) → G z mX12_readNumber (d + 1) 0 0 41 [some (.ref 54), some (.int x1), some (.int x2), none, some (.int x4), some (.int s5)] [] (mrow M 54 q54) Q := by
  intro k0
  induction k0 with
  | zero =>
      intro s5 q54 hk hX
      exact (by simpa only [k_readNumber_41_ok] using hk : False).elim
  | succ k0 ih =>
      intro s5 q54 hk hX
      simp only [k_readNumber_41_ok] at hk
      refine G.sl [(.aload_n 0, 1, 0, 0, 0, 0), (.getfield 107, 3, 11, 4, 127, 0), (.aload_n 0, 1, 0, 0, 0, 0), (.getfield 110, 3, 11, 3, 126, 0)] [] (pc2 := 49) (ls2 := [some (.ref 54), some (.int x1), some (.int x2), none, some (.int x4), some (.int s5)]) (st2 := [.int (q54 3), .int (q54 4)]) (M2 := mrow M 54 q54) (Ps := []) (by decide +kernel) rfl rfl trivial ?_
      refine G.ic_ge (off := (65)) (tgt := 114) (by decide +kernel) rfl (fun c15 => ?_) (fun c15 => ?_)
      · skip
        rw [if_pos c15] at hk
        simp only [k_readNumber_41, if_pos c15] at hX
        exact hX
      · skip
        rw [if_neg c15] at hk
        obtain ⟨k16, k17, hk⟩ := hk
        refine G.sl [(.aload_n 0, 1, 0, 0, 0, 0), (.getfield 20, 3, 11, 9, 132, 0), (.aload_n 0, 1, 0, 0, 0, 0), (.getfield 107, 3, 11, 4, 127, 0), (.iaload, 1, 0, 0, 0, 0)] [ix (q54 4)] (pc2 := 61) (ls2 := [some (.ref 54), some (.int x1), some (.int x2), none, some (.int x4), some (.int s5)]) (st2 := [.int (M.1 56 (ix (q54 4)))]) (M2 := mrow M 54 q54) (Ps := [(q54 4) = nI (ix (q54 4)) ∧ (ix (q54 4)) < 600]) (by decide +kernel) rfl rfl ⟨⟨(ixE k16), k17⟩, trivial⟩ ?_
        obtain ⟨k18, hk⟩ := hk
        have t19 : GM z mX12_isDigit (d) [.int (M.1 56 (ix (q54 4)))] (mrow M 54 q54) (fun rs => rs = .inl (some (.int (k_isDigit (M.1 56 (ix (q54 4))))), mrow M 54 q54)) := by
          have q9 := c_k_isDigit z d (mrow M 54 q54) (M.1 56 (ix (q54 4)))
          try simp only [mrow_same, mrow_hit, mrow_miss, mrow_swap, ne_eq, Nat.reduceEqDiff, not_false_eq_true, Nat.reduceLT, reduceCtorEq] at q9
          exact q9
        refine G.callS (as := [.int (M.1 56 (ix (q54 4)))]) (rest := []) oX12_isDigit lk_EvenFindersModel_134 (by decide +kernel) rfl (Nat.le_of_ble_eq_true rfl) rfl ⟨Nat.le_of_ble_eq_true rfl, Nat.le_of_ble_eq_true rfl⟩ t19 (fun v9 N9 h20 => ?_) (fun E9 N9 h20 => by cases h20)
        cases h20
        show G z mX12_readNumber (d + 1) 0 0 64 [some (.ref 54), some (.int x1), some (.int x2), none, some (.int x4), some (.int s5)] [.int (k_isDigit (M.1 56 (ix (q54 4))))] (mrow M 54 q54) Q
        refine G.if_eq (off := (50)) (tgt := 114) (by decide +kernel) rfl (fun c21 => ?_) (fun c21 => ?_)
        · skip
          rw [if_pos c21] at hk
          simp only [k_readNumber_41, if_neg c15, if_pos c21] at hX
          exact hX
        · skip
          rw [if_neg c21] at hk
          refine G.sl [(.iload 5, 2, 5, 0, 0, 0), (.sipush 9999, 3, 0, 0, 0, nI 9999)] [] (pc2 := 72) (ls2 := [some (.ref 54), some (.int x1), some (.int x2), none, some (.int x4), some (.int s5)]) (st2 := [.int (nI 9999), .int s5]) (M2 := mrow M 54 q54) (Ps := []) (by decide +kernel) rfl rfl trivial ?_
          refine G.ic_le (off := (9)) (tgt := 81) (by decide +kernel) rfl (fun c22 => ?_) (fun c22 => ?_)
          · skip
            rw [if_pos c22] at hk
            refine G.sl [(.bipush 10, 2, 0, 0, 0, nI 10), (.iload 5, 2, 5, 0, 0, 0), (.imul, 1, 0, 0, 0, 0), (.aload_n 0, 1, 0, 0, 0, 0), (.getfield 20, 3, 11, 9, 132, 0), (.aload_n 0, 1, 0, 0, 0, 0), (.getfield 107, 3, 11, 4, 127, 0), (.iaload, 1, 0, 0, 0, 0), (.iadd, 1, 0, 0, 0, 0), (.bipush 48, 2, 0, 0, 0, nI 48), (.isub, 1, 0, 0, 0, 0), (.istore 5, 2, 5, 0, 0, 0), (.aload_n 0, 1, 0, 0, 0, 0), (.dup, 1, 0, 0, 0, 0), (.getfield 107, 3, 11, 4, 127, 0), (.iconst 1, 1, 0, 0, 0, nI 1), (.iadd, 1, 0, 0, 0, 0), (.putfield 107, 3, 11, 4, 127, 0), (.goto (-70), 3, 41, 0, 0, 0)] [ix (q54 4)] (pc2 := 41) (ls2 := [some (.ref 54), some (.int x1), some (.int x2), none, some (.int x4), some (.int ((((nI 10) * s5) + (M.1 56 (ix (q54 4)))) - (nI 48)))]) (st2 := []) (M2 := mput (mrow M 54 q54) 54 4 ((q54 4) + (nI 1))) (Ps := [(q54 4) = nI (ix (q54 4)) ∧ (ix (q54 4)) < 600]) (by decide +kernel) rfl rfl ⟨⟨(ixE k16), k17⟩, trivial⟩ ?_
            refine G.mem (M' := mrow M 54 (upd q54 4 ((q54 4) + (nI 1)))) (by first | rfl | (simp only [mrow_same, mrow_hit, mrow_miss, mrow_swap, ne_eq, Nat.reduceEqDiff, not_false_eq_true, Nat.reduceLT, reduceCtorEq]; done)) ?_
            simp only [k_readNumber_41, if_neg c15, if_neg c21, if_pos c22] at hX
            exact ih ((((nI 10) * s5) + (M.1 56 (ix (q54 4)))) - (nI 48)) (upd q54 4 ((q54 4) + (nI 1))) hk hX
          · skip
            rw [if_neg c22] at hk
            refine G.sl [(.sipush 10000, 3, 0, 0, 0, nI 10000), (.goto 21, 3, 99, 0, 0, 0), (.istore 5, 2, 5, 0, 0, 0), (.aload_n 0, 1, 0, 0, 0, 0), (.dup, 1, 0, 0, 0, 0), (.getfield 107, 3, 11, 4, 127, 0), (.iconst 1, 1, 0, 0, 0, nI 1), (.iadd, 1, 0, 0, 0, 0), (.putfield 107, 3, 11, 4, 127, 0), (.goto (-70), 3, 41, 0, 0, 0)] [] (pc2 := 41) (ls2 := [some (.ref 54), some (.int x1), some (.int x2), none, some (.int x4), some (.int (nI 10000))]) (st2 := []) (M2 := mput (mrow M 54 q54) 54 4 ((q54 4) + (nI 1))) (Ps := []) (by decide +kernel) rfl rfl trivial ?_
            refine G.mem (M' := mrow M 54 (upd q54 4 ((q54 4) + (nI 1)))) (by first | rfl | (simp only [mrow_same, mrow_hit, mrow_miss, mrow_swap, ne_eq, Nat.reduceEqDiff, not_false_eq_true, Nat.reduceLT, reduceCtorEq]; done)) ?_
            simp only [k_readNumber_41, if_neg c15, if_neg c21, if_neg c22] at hX
            exact ih (nI 10000) (upd q54 4 ((q54 4) + (nI 1))) hk hX
noncomputable def k_wrong (Rmd : Nat → Int32) (x1 : Int32) (x2 : Int32) : Int32 × (Nat → Int32) := (if (Rmd 5) = ((-1)) then (0, upd (upd (Rmd) 5 x2) 6 x1) else (0, Rmd))
theorem c_k_wrong_54 (z : Zp) (d : Nat) (M : Mem) (x1 : Int32) (x2 : Int32) : GM z mX12_wrong (d) [.ref 54, .int x1, .int x2] M (fun rs => rs = .inl (none, mrow M 54 ((k_wrong (M.1 54) x1 x2).2))) := by
  refine GM.of oX12_wrong.1 (Nat.le_of_ble_eq_true rfl) ?_
  show G z mX12_wrong (d) 0 0 0 [some (.ref 54), some (.int x1), some (.int x2)] [] M _
  obtain ⟨Q, hQ⟩ : ∃ Q : Rs → Prop, Q = (fun rs => rs = .inl (none, mrow M 54 ((k_wrong (M.1 54) x1 x2).2))) := ⟨_, rfl⟩
  rw [← hQ]
  refine G.sl [(.aload_n 0, 1, 0, 0, 0, 0), (.getfield 101, 3, 11, 5, 128, 0), (.iconst (-1), 1, 0, 0, 0, (-1))] [] (pc2 := 5) (ls2 := [some (.ref 54), some (.int x1), some (.int x2)]) (st2 := [.int ((-1)), .int (M.1 54 5)]) (M2 := M) (Ps := []) (by decide +kernel) rfl rfl trivial ?_
  refine G.ic_eq (off := (4)) (tgt := 9) (by decide +kernel) rfl (fun c1 => ?_) (fun c1 => ?_)
  · skip
    refine G.sl [(.aload_n 0, 1, 0, 0, 0, 0), (.iload_n 2, 1, 2, 0, 0, 0), (.putfield 101, 3, 11, 5, 128, 0), (.aload_n 0, 1, 0, 0, 0, 0), (.iload_n 1, 1, 1, 0, 0, 0), (.putfield 104, 3, 11, 6, 129, 0)] [] (pc2 := 19) (ls2 := [some (.ref 54), some (.int x1), some (.int x2)]) (st2 := []) (M2 := mput (mput M 54 5 x2) 54 6 x1) (Ps := []) (by decide +kernel) rfl rfl trivial ?_
    refine G.mem (M' := mrow M 54 (upd (upd (M.1 54) 5 x2) 6 x1)) (by first | rfl | (simp only [mrow_same, mrow_hit, mrow_miss, mrow_swap, ne_eq, Nat.reduceEqDiff, not_false_eq_true, Nat.reduceLT, reduceCtorEq]; done)) ?_
    exact G.retv (by decide +kernel) rfl (Nat.le_of_ble_eq_true rfl) (Nat.le_of_ble_eq_true rfl) ((by rw [hQ]; simp only [k_wrong, if_pos c1, mrow_self]))
  · skip
    refine G.mem (M' := mrow M 54 (M.1 54)) (((mrow_id (N := M) (c := 54) (f := M.1 54) (by first | rfl | (simp only [mrow_same, mrow_hit, mrow_miss, mrow_swap, ne_eq, Nat.reduceEqDiff, not_false_eq_true, Nat.reduceLT, reduceCtorEq]; done))).symm).trans (by first | rfl | (simp only [mrow_same, mrow_hit, mrow_miss, mrow_swap, ne_eq, Nat.reduceEqDiff, not_false_eq_true, Nat.reduceLT, reduceCtorEq]; done))) ?_
    exact G.retv (by decide +kernel) rfl (Nat.le_of_ble_eq_true rfl) (Nat.le_of_ble_eq_true rfl) ((by rw [hQ]; simp only [k_wrong, if_neg c1, mrow_self]))
noncomputable def k_readNumber (Rmd Rtape : Nat → Int32) (x1 : Int32) (x2 : Int32) : Int32 × (Nat → Int32) := (if (k_fine (Rmd)) = 0 then (nI 0, Rmd) else (match k_here (Rmd) (Rtape) with | (v7, r8) => (if (k_isDigit v7) = 0 then (match k_wrong r8 (nI 1) (r8 4) with | (u43, r44) => (nI 0, r44)) else (match k_readNumber_41 (Rtape) x1 x2 (r8 4) FU (nI 0) r8 with | (v25, r26) => (if v25 < x1 then (match k_wrong r26 (nI 2) (r8 4) with | (u30, r31) => (nI 0, r31)) else (if v25 ≤ x2 then (v25, r26) else (match k_wrong r26 (nI 2) (r8 4) with | (u37, r38) => (nI 0, r38))))))))
noncomputable def k_readNumber_ok (Rmd Rtape : Nat → Int32) (x1 : Int32) (x2 : Int32) : Prop := (True ∧ (if (k_fine (Rmd)) = 0 then True else (k_here_ok (Rmd) (Rtape) ∧ (match k_here (Rmd) (Rtape) with | (v7, r8) => (True ∧ (if (k_isDigit v7) = 0 then True else (k_readNumber_41_ok (Rtape) x1 x2 (r8 4) FU (nI 0) r8 ∧ True)))))))
theorem c_k_readNumber_54 (z : Zp) (d : Nat) (M : Mem) (x1 : Int32) (x2 : Int32) (hk : k_readNumber_ok (M.1 54) (M.1 56) x1 x2) : GM z mX12_readNumber (d + 1) [.ref 54, .int x1, .int x2] M (fun rs => rs = .inl (some (.int ((k_readNumber (M.1 54) (M.1 56) x1 x2).1)), mrow M 54 ((k_readNumber (M.1 54) (M.1 56) x1 x2).2))) := by
  simp only [k_readNumber_ok] at hk
  refine GM.of oX12_readNumber.1 (Nat.le_of_ble_eq_true rfl) ?_
  show G z mX12_readNumber (d + 1) 0 0 0 [some (.ref 54), some (.int x1), some (.int x2), none, none, none] [] M _
  obtain ⟨Q, hQ⟩ : ∃ Q : Rs → Prop, Q = (fun rs => rs = .inl (some (.int ((k_readNumber (M.1 54) (M.1 56) x1 x2).1)), mrow M 54 ((k_readNumber (M.1 54) (M.1 56) x1 x2).2))) := ⟨_, rfl⟩
  rw [← hQ]
  refine G.sl [(.aload_n 0, 1, 0, 0, 0, 0)] [] (pc2 := 1) (ls2 := [some (.ref 54), some (.int x1), some (.int x2), none, none, none]) (st2 := [.ref 54]) (M2 := M) (Ps := []) (by decide +kernel) rfl rfl trivial ?_
  obtain ⟨k1, hk⟩ := hk
  have t2 : GM z mX12_fine (d) [.ref 54] M (fun rs => rs = .inl (some (.int (k_fine (M.1 54))), M)) := by
    have q9 := c_k_fine_54 z d M 
    try simp only [mrow_same, mrow_hit, mrow_miss, mrow_swap, ne_eq, Nat.reduceEqDiff, not_false_eq_true, Nat.reduceLT, reduceCtorEq] at q9
    exact q9
  refine G.callV (as := []) (rest := []) (a := 54) oX12_fine lk_EvenFindersModel_130 (by decide +kernel) rfl rfl ⟨rfl, rfl⟩ (Nat.le_of_ble_eq_true rfl) rfl ⟨Nat.le_of_ble_eq_true rfl, Nat.le_of_ble_eq_true rfl⟩ t2 (fun v9 N9 h3 => ?_) (fun E9 N9 h3 => by cases h3)
  cases h3
  show G z mX12_readNumber (d + 1) 0 0 4 [some (.ref 54), some (.int x1), some (.int x2), none, none, none] [.int (k_fine (M.1 54))] M Q
  refine G.if_ne (off := (5)) (tgt := 9) (by decide +kernel) rfl (fun c4 => ?_) (fun c4 => ?_)
  · skip
    rw [if_neg c4] at hk
    refine G.sl [(.aload_n 0, 1, 0, 0, 0, 0)] [] (pc2 := 10) (ls2 := [some (.ref 54), some (.int x1), some (.int x2), none, none, none]) (st2 := [.ref 54]) (M2 := M) (Ps := []) (by decide +kernel) rfl rfl trivial ?_
    obtain ⟨k5, hk⟩ := hk
    rcases g6 : k_here (M.1 54) (M.1 56) with ⟨v7, r8⟩
    try simp only [g6] at hk
    have t9 : GM z mX12_here (d) [.ref 54] M (fun rs => rs = .inl (some (.int v7), mrow M 54 r8)) := by
      have q9 := c_k_here_54 z d M k5
      try simp only [mrow_same, mrow_hit, mrow_miss, mrow_swap, ne_eq, Nat.reduceEqDiff, not_false_eq_true, Nat.reduceLT, reduceCtorEq, g6] at q9
      exact q9
    refine G.callV (as := []) (rest := []) (a := 54) oX12_here lk_EvenFindersModel_113 (by decide +kernel) rfl rfl ⟨rfl, rfl⟩ (Nat.le_of_ble_eq_true rfl) rfl ⟨Nat.le_of_ble_eq_true rfl, Nat.le_of_ble_eq_true rfl⟩ t9 (fun v9 N9 h10 => ?_) (fun E9 N9 h10 => by cases h10)
    cases h10
    show G z mX12_readNumber (d + 1) 0 0 13 [some (.ref 54), some (.int x1), some (.int x2), none, none, none] [.int v7] (mrow M 54 r8) Q
    refine G.sl [(.istore_n 3, 1, 3, 0, 0, 0), (.aload_n 0, 1, 0, 0, 0, 0), (.getfield 107, 3, 11, 4, 127, 0), (.istore 4, 2, 4, 0, 0, 0), (.iconst 0, 1, 0, 0, 0, nI 0), (.istore 5, 2, 5, 0, 0, 0), (.iload_n 3, 1, 3, 0, 0, 0)] [] (pc2 := 24) (ls2 := [some (.ref 54), some (.int x1), some (.int x2), some (.int v7), some (.int (r8 4)), some (.int (nI 0))]) (st2 := [.int v7]) (M2 := mrow M 54 r8) (Ps := []) (by decide +kernel) rfl rfl trivial ?_
    obtain ⟨k11, hk⟩ := hk
    have t12 : GM z mX12_isDigit (d) [.int v7] (mrow M 54 r8) (fun rs => rs = .inl (some (.int (k_isDigit v7)), mrow M 54 r8)) := by
      have q9 := c_k_isDigit z d (mrow M 54 r8) v7
      try simp only [mrow_same, mrow_hit, mrow_miss, mrow_swap, ne_eq, Nat.reduceEqDiff, not_false_eq_true, Nat.reduceLT, reduceCtorEq] at q9
      exact q9
    refine G.callS (as := [.int v7]) (rest := []) oX12_isDigit lk_EvenFindersModel_134 (by decide +kernel) rfl (Nat.le_of_ble_eq_true rfl) rfl ⟨Nat.le_of_ble_eq_true rfl, Nat.le_of_ble_eq_true rfl⟩ t12 (fun v9 N9 h13 => ?_) (fun E9 N9 h13 => by cases h13)
    cases h13
    show G z mX12_readNumber (d + 1) 0 0 27 [some (.ref 54), some (.int x1), some (.int x2), some (.int v7), some (.int (r8 4)), some (.int (nI 0))] [.int (k_isDigit v7)] (mrow M 54 r8) Q
    refine G.if_ne (off := (14)) (tgt := 41) (by decide +kernel) rfl (fun c14 => ?_) (fun c14 => ?_)
    · skip
      rw [if_neg c14] at hk
      refine G.loc (ls2 := [some (.ref 54), some (.int x1), some (.int x2), none, some (.int (r8 4)), some (.int (nI 0))]) (by simp [subL]) ?_
      obtain ⟨k23, hk⟩ := hk
      refine G.mem (M' := mrow (mrow M 54 r8) 54 ((mrow M 54 r8).1 54)) (by simp only [mrow_self]) ?_
      refine lp_k_readNumber_54_41 z d (mrow M 54 r8) Q x1 x2 (r8 4) FU (nI 0) ((mrow M 54 r8).1 54) (by first | (simp only [mrow_same, mrow_hit, mrow_miss, mrow_swap, ne_eq, Nat.reduceEqDiff, not_false_eq_true, Nat.reduceLT, reduceCtorEq]; exact k23) | exact k23) ?_
      try simp only [mrow_same, mrow_hit, mrow_miss, mrow_swap, ne_eq, Nat.reduceEqDiff, not_false_eq_true, Nat.reduceLT, reduceCtorEq]
      rcases g24 : k_readNumber_41 (M.1 56) x1 x2 (r8 4) FU (nI 0) r8 with ⟨v25, r26⟩
      show G z mX12_readNumber (d + 1) 0 0 114 [some (.ref 54), some (.int x1), some (.int x2), none, some (.int (r8 4)), some (.int v25)] [] (mrow M 54 r26) Q
      refine G.sl [(.iload 5, 2, 5, 0, 0, 0), (.iload_n 1, 1, 1, 0, 0, 0)] [] (pc2 := 117) (ls2 := [some (.ref 54), some (.int x1), some (.int x2), none, some (.int (r8 4)), some (.int v25)]) (st2 := [.int x1, .int v25]) (M2 := mrow M 54 r26) (Ps := []) (by decide +kernel) rfl rfl trivial ?_
      refine G.ic_lt (off := (9)) (tgt := 126) (by decide +kernel) rfl (fun c27 => ?_) (fun c27 => ?_)
      · skip
        refine G.sl [(.aload_n 0, 1, 0, 0, 0, 0), (.iconst 2, 1, 0, 0, 0, nI 2), (.iload 4, 2, 4, 0, 0, 0)] [] (pc2 := 130) (ls2 := [some (.ref 54), some (.int x1), some (.int x2), none, some (.int (r8 4)), some (.int v25)]) (st2 := [.int (r8 4), .int (nI 2), .ref 54]) (M2 := mrow M 54 r26) (Ps := []) (by decide +kernel) rfl rfl trivial ?_
        rcases g29 : k_wrong r26 (nI 2) (r8 4) with ⟨u30, r31⟩
        have t32 : GM z mX12_wrong (d) [.ref 54, .int (nI 2), .int (r8 4)] (mrow M 54 r26) (fun rs => rs = .inl (none, mrow M 54 r31)) := by
          have q9 := c_k_wrong_54 z d (mrow M 54 r26) (nI 2) (r8 4)
          try simp only [mrow_same, mrow_hit, mrow_miss, mrow_swap, ne_eq, Nat.reduceEqDiff, not_false_eq_true, Nat.reduceLT, reduceCtorEq, g29] at q9
          exact q9
        refine G.callV (as := [.int (nI 2), .int (r8 4)]) (rest := []) (a := 54) oX12_wrong lk_EvenFindersModel_137 (by decide +kernel) rfl rfl ⟨rfl, rfl⟩ (Nat.le_of_ble_eq_true rfl) rfl ⟨Nat.le_of_ble_eq_true rfl, Nat.le_of_ble_eq_true rfl⟩ t32 (fun v9 N9 h33 => ?_) (fun E9 N9 h33 => by cases h33)
        cases h33
        show G z mX12_readNumber (d + 1) 0 0 133 [some (.ref 54), some (.int x1), some (.int x2), none, some (.int (r8 4)), some (.int v25)] [] (mrow M 54 r31) Q
        refine G.sl [(.iconst 0, 1, 0, 0, 0, nI 0)] [] (pc2 := 134) (ls2 := [some (.ref 54), some (.int x1), some (.int x2), none, some (.int (r8 4)), some (.int v25)]) (st2 := [.int (nI 0)]) (M2 := mrow M 54 r31) (Ps := []) (by decide +kernel) rfl rfl trivial ?_
        exact G.reti (by decide +kernel) rfl rfl (Nat.le_of_ble_eq_true rfl) (Nat.le_of_ble_eq_true rfl) ((by rw [hQ]; simp only [k_readNumber, if_neg c4, g6, if_neg c14, g24, if_pos c27, g29, mrow_self]))
      · skip
        refine G.sl [(.iload 5, 2, 5, 0, 0, 0), (.iload_n 2, 1, 2, 0, 0, 0)] [] (pc2 := 123) (ls2 := [some (.ref 54), some (.int x1), some (.int x2), none, some (.int (r8 4)), some (.int v25)]) (st2 := [.int x2, .int v25]) (M2 := mrow M 54 r26) (Ps := []) (by decide +kernel) rfl rfl trivial ?_
        refine G.ic_le (off := (12)) (tgt := 135) (by decide +kernel) rfl (fun c34 => ?_) (fun c34 => ?_)
        · skip
          refine G.sl [(.iload 5, 2, 5, 0, 0, 0)] [] (pc2 := 137) (ls2 := [some (.ref 54), some (.int x1), some (.int x2), none, some (.int (r8 4)), some (.int v25)]) (st2 := [.int v25]) (M2 := mrow M 54 r26) (Ps := []) (by decide +kernel) rfl rfl trivial ?_
          exact G.reti (by decide +kernel) rfl rfl (Nat.le_of_ble_eq_true rfl) (Nat.le_of_ble_eq_true rfl) ((by rw [hQ]; simp only [k_readNumber, if_neg c4, g6, if_neg c14, g24, if_neg c27, if_pos c34, mrow_self]))
        · skip
          refine G.sl [(.aload_n 0, 1, 0, 0, 0, 0), (.iconst 2, 1, 0, 0, 0, nI 2), (.iload 4, 2, 4, 0, 0, 0)] [] (pc2 := 130) (ls2 := [some (.ref 54), some (.int x1), some (.int x2), none, some (.int (r8 4)), some (.int v25)]) (st2 := [.int (r8 4), .int (nI 2), .ref 54]) (M2 := mrow M 54 r26) (Ps := []) (by decide +kernel) rfl rfl trivial ?_
          rcases g36 : k_wrong r26 (nI 2) (r8 4) with ⟨u37, r38⟩
          have t39 : GM z mX12_wrong (d) [.ref 54, .int (nI 2), .int (r8 4)] (mrow M 54 r26) (fun rs => rs = .inl (none, mrow M 54 r38)) := by
            have q9 := c_k_wrong_54 z d (mrow M 54 r26) (nI 2) (r8 4)
            try simp only [mrow_same, mrow_hit, mrow_miss, mrow_swap, ne_eq, Nat.reduceEqDiff, not_false_eq_true, Nat.reduceLT, reduceCtorEq, g36] at q9
            exact q9
          refine G.callV (as := [.int (nI 2), .int (r8 4)]) (rest := []) (a := 54) oX12_wrong lk_EvenFindersModel_137 (by decide +kernel) rfl rfl ⟨rfl, rfl⟩ (Nat.le_of_ble_eq_true rfl) rfl ⟨Nat.le_of_ble_eq_true rfl, Nat.le_of_ble_eq_true rfl⟩ t39 (fun v9 N9 h40 => ?_) (fun E9 N9 h40 => by cases h40)
          cases h40
          show G z mX12_readNumber (d + 1) 0 0 133 [some (.ref 54), some (.int x1), some (.int x2), none, some (.int (r8 4)), some (.int v25)] [] (mrow M 54 r38) Q
          refine G.sl [(.iconst 0, 1, 0, 0, 0, nI 0)] [] (pc2 := 134) (ls2 := [some (.ref 54), some (.int x1), some (.int x2), none, some (.int (r8 4)), some (.int v25)]) (st2 := [.int (nI 0)]) (M2 := mrow M 54 r38) (Ps := []) (by decide +kernel) rfl rfl trivial ?_
          exact G.reti (by decide +kernel) rfl rfl (Nat.le_of_ble_eq_true rfl) (Nat.le_of_ble_eq_true rfl) ((by rw [hQ]; simp only [k_readNumber, if_neg c4, g6, if_neg c14, g24, if_neg c27, if_neg c34, g36, mrow_self]))
    · skip
      rw [if_pos c14] at hk
      refine G.sl [(.aload_n 0, 1, 0, 0, 0, 0), (.iconst 1, 1, 0, 0, 0, nI 1), (.aload_n 0, 1, 0, 0, 0, 0), (.getfield 107, 3, 11, 4, 127, 0)] [] (pc2 := 36) (ls2 := [some (.ref 54), some (.int x1), some (.int x2), some (.int v7), some (.int (r8 4)), some (.int (nI 0))]) (st2 := [.int (r8 4), .int (nI 1), .ref 54]) (M2 := mrow M 54 r8) (Ps := []) (by decide +kernel) rfl rfl trivial ?_
      rcases g42 : k_wrong r8 (nI 1) (r8 4) with ⟨u43, r44⟩
      have t45 : GM z mX12_wrong (d) [.ref 54, .int (nI 1), .int (r8 4)] (mrow M 54 r8) (fun rs => rs = .inl (none, mrow M 54 r44)) := by
        have q9 := c_k_wrong_54 z d (mrow M 54 r8) (nI 1) (r8 4)
        try simp only [mrow_same, mrow_hit, mrow_miss, mrow_swap, ne_eq, Nat.reduceEqDiff, not_false_eq_true, Nat.reduceLT, reduceCtorEq, g42] at q9
        exact q9
      refine G.callV (as := [.int (nI 1), .int (r8 4)]) (rest := []) (a := 54) oX12_wrong lk_EvenFindersModel_137 (by decide +kernel) rfl rfl ⟨rfl, rfl⟩ (Nat.le_of_ble_eq_true rfl) rfl ⟨Nat.le_of_ble_eq_true rfl, Nat.le_of_ble_eq_true rfl⟩ t45 (fun v9 N9 h46 => ?_) (fun E9 N9 h46 => by cases h46)
      cases h46
      show G z mX12_readNumber (d + 1) 0 0 39 [some (.ref 54), some (.int x1), some (.int x2), some (.int v7), some (.int (r8 4)), some (.int (nI 0))] [] (mrow M 54 r44) Q
      refine G.sl [(.iconst 0, 1, 0, 0, 0, nI 0)] [] (pc2 := 40) (ls2 := [some (.ref 54), some (.int x1), some (.int x2), some (.int v7), some (.int (r8 4)), some (.int (nI 0))]) (st2 := [.int (nI 0)]) (M2 := mrow M 54 r44) (Ps := []) (by decide +kernel) rfl rfl trivial ?_
      exact G.reti (by decide +kernel) rfl rfl (Nat.le_of_ble_eq_true rfl) (Nat.le_of_ble_eq_true rfl) ((by rw [hQ]; simp only [k_readNumber, if_neg c4, g6, if_pos c14, g42, mrow_self]))
  · skip
    rw [if_pos c4] at hk
    refine G.sl [(.iconst 0, 1, 0, 0, 0, nI 0)] [] (pc2 := 8) (ls2 := [some (.ref 54), some (.int x1), some (.int x2), none, none, none]) (st2 := [.int (nI 0)]) (M2 := M) (Ps := []) (by decide +kernel) rfl rfl trivial ?_
    refine G.mem (M' := mrow M 54 (M.1 54)) (((mrow_id (N := M) (c := 54) (f := M.1 54) (by first | rfl | (simp only [mrow_same, mrow_hit, mrow_miss, mrow_swap, ne_eq, Nat.reduceEqDiff, not_false_eq_true, Nat.reduceLT, reduceCtorEq]; done))).symm).trans (by first | rfl | (simp only [mrow_same, mrow_hit, mrow_miss, mrow_swap, ne_eq, Nat.reduceEqDiff, not_false_eq_true, Nat.reduceLT, reduceCtorEq]; done))) ?_
    exact G.reti (by decide +kernel) rfl rfl (Nat.le_of_ble_eq_true rfl) (Nat.le_of_ble_eq_true rfl) ((by rw [hQ]; simp only [k_readNumber, if_pos c4, mrow_self]))
noncomputable def k_least_6 (x0 : Int64) (x2 : Int64) (x4 : Int32) : Nat → Int64 → Int64 → Int64 × Int64
  | 0, s5, s7 => (s5, s7)
  | k0 + 1, s5, s7 => (if (lg_cmp s7 0) = 0 then (s5, s7) else k_least_6 x0 x2 x4 k0 s7 (s5 - s5 / s7 * s7))
noncomputable def k_least_6_ok (x0 : Int64) (x2 : Int64) (x4 : Int32) : Nat → Int64 → Int64 → Prop
  | 0, _, _ => False
  | k0 + 1, s5, s7 => (if (lg_cmp s7 0) = 0 then True else ((¬ s7 = 0) ∧ k_least_6_ok x0 x2 x4 k0 s7 (s5 - s5 / s7 * s7)))
theorem lp_k_least_6 (z : Zp) (d : Nat) (M : Mem) (Q : Rs → Prop) (x0 : Int64) (x2 : Int64) (x4 : Int32) : ∀ (k0 : Nat) (s5 : Int64) (s7 : Int64), k_least_6_ok x0 x2 x4 k0 s5 s7 → (match k_least_6 x0 x2 x4 k0 s5 s7 with | (s5', s7') => G z mX12_least (d) 0 0 31 [some (.long x0), none, some (.long x2), none, some (.int x4), some (.long (s5')), none, none, none, none, none] [] M Q) → G z mX12_least (d) 0 0 6 [some (.long x0), none, some (.long x2), none, some (.int x4), some (.long s5), none, some (.long s7), none, none, none] [] M Q := by
  intro k0
  induction k0 with
  | zero =>
      intro s5 s7 hk hX
      exact (by simpa only [k_least_6_ok] using hk : False).elim
  | succ k0 ih =>
      intro s5 s7 hk hX
      simp only [k_least_6_ok] at hk
      refine G.sl [(.lload 7, 2, 7, 0, 0, 0), (.lconst 0, 1, 0, 0, 0, 0), (.lcmp, 1, 0, 0, 0, 0)] [] (pc2 := 10) (ls2 := [some (.long x0), none, some (.long x2), none, some (.int x4), some (.long s5), none, some (.long s7), none, none, none]) (st2 := [.int (lg_cmp s7 0)]) (M2 := M) (Ps := []) (by decide +kernel) rfl rfl trivial ?_
      refine G.if_eq (off := (21)) (tgt := 31) (by decide +kernel) rfl (fun c1 => ?_) (fun c1 => ?_)
      · skip
        rw [if_pos c1] at hk
        refine G.loc (ls2 := [some (.long x0), none, some (.long x2), none, some (.int x4), some (.long s5), none, none, none, none, none]) (by simp [subL]) ?_
        simp only [k_least_6, if_pos c1] at hX
        exact hX
      · skip
        rw [if_neg c1] at hk
        obtain ⟨k2, hk⟩ := hk
        refine G.sl [(.lload 5, 2, 5, 0, 0, 0), (.lload 7, 2, 7, 0, 0, 0), (.lrem, 1, 0, 0, 0, 0), (.lstore 9, 2, 9, 0, 0, 0), (.lload 7, 2, 7, 0, 0, 0), (.lstore 5, 2, 5, 0, 0, 0), (.lload 9, 2, 9, 0, 0, 0), (.lstore 7, 2, 7, 0, 0, 0), (.goto (-22), 3, 6, 0, 0, 0)] [] (pc2 := 6) (ls2 := [some (.long x0), none, some (.long x2), none, some (.int x4), some (.long s7), none, some (.long (s5 - s5 / s7 * s7)), none, some (.long (s5 - s5 / s7 * s7)), none]) (st2 := []) (M2 := M) (Ps := [¬ s7 = 0]) (by decide +kernel) rfl rfl ⟨k2, trivial⟩ ?_
        refine G.loc (ls2 := [some (.long x0), none, some (.long x2), none, some (.int x4), some (.long s7), none, some (.long (s5 - s5 / s7 * s7)), none, none, none]) (by simp [subL]) ?_
        simp only [k_least_6, if_neg c1] at hX
        exact ih s7 (s5 - s5 / s7 * s7) hk hX
noncomputable def k_least (x0 : Int64) (x2 : Int64) (x4 : Int32) : Int64 := (match k_least_6 x0 x2 x4 FU x0 x2 with | (v5, v6) => (if x4 = 0 then x0 / v5 else x2 / v5))
noncomputable def k_least_ok (x0 : Int64) (x2 : Int64) (x4 : Int32) : Prop := (k_least_6_ok x0 x2 x4 FU x0 x2 ∧ (match k_least_6 x0 x2 x4 FU x0 x2 with | (v5, v6) => (if x4 = 0 then ((¬ v5 = 0) ∧ True) else ((¬ v5 = 0) ∧ True))))
theorem c_k_least (z : Zp) (d : Nat) (M : Mem) (x0 : Int64) (x2 : Int64) (x4 : Int32) (hk : k_least_ok x0 x2 x4) : GM z mX12_least (d) [.long x0, .long x2, .int x4] M (fun rs => rs = .inl (some (.long (k_least x0 x2 x4)), M)) := by
  simp only [k_least_ok] at hk
  refine GM.of oX12_least.1 (Nat.le_of_ble_eq_true rfl) ?_
  show G z mX12_least (d) 0 0 0 [some (.long x0), none, some (.long x2), none, some (.int x4), none, none, none, none, none, none] [] M _
  obtain ⟨Q, hQ⟩ : ∃ Q : Rs → Prop, Q = (fun rs => rs = .inl (some (.long (k_least x0 x2 x4)), M)) := ⟨_, rfl⟩
  rw [← hQ]
  refine G.sl [(.lload_n 0, 1, 0, 0, 0, 0), (.lstore 5, 2, 5, 0, 0, 0), (.lload_n 2, 1, 2, 0, 0, 0), (.lstore 7, 2, 7, 0, 0, 0)] [] (pc2 := 6) (ls2 := [some (.long x0), none, some (.long x2), none, some (.int x4), some (.long x0), none, some (.long x2), none, none, none]) (st2 := []) (M2 := M) (Ps := []) (by decide +kernel) rfl rfl trivial ?_
  obtain ⟨k3, hk⟩ := hk
  refine lp_k_least_6 z d M Q x0 x2 x4 FU x0 x2 (by first | (simp only [mrow_same, mrow_hit, mrow_miss, mrow_swap, ne_eq, Nat.reduceEqDiff, not_false_eq_true, Nat.reduceLT, reduceCtorEq]; exact k3) | exact k3) ?_
  try simp only [mrow_same, mrow_hit, mrow_miss, mrow_swap, ne_eq, Nat.reduceEqDiff, not_false_eq_true, Nat.reduceLT, reduceCtorEq]
  rcases g4 : k_least_6 x0 x2 x4 FU x0 x2 with ⟨v5, v6⟩
  try simp only [g4] at hk
  show G z mX12_least (d) 0 0 31 [some (.long x0), none, some (.long x2), none, some (.int x4), some (.long v5), none, none, none, none, none] [] M Q
  refine G.sl [(.iload 4, 2, 4, 0, 0, 0)] [] (pc2 := 33) (ls2 := [some (.long x0), none, some (.long x2), none, some (.int x4), some (.long v5), none, none, none, none, none]) (st2 := [.int x4]) (M2 := M) (Ps := []) (by decide +kernel) rfl rfl trivial ?_
  refine G.if_ne (off := (7)) (tgt := 40) (by decide +kernel) rfl (fun c7 => ?_) (fun c7 => ?_)
  · skip
    rw [if_neg c7] at hk
    obtain ⟨k8, hk⟩ := hk
    refine G.sl [(.lload_n 2, 1, 2, 0, 0, 0), (.lload 5, 2, 5, 0, 0, 0), (.ldiv, 1, 0, 0, 0, 0)] [] (pc2 := 44) (ls2 := [some (.long x0), none, some (.long x2), none, some (.int x4), some (.long v5), none, none, none, none, none]) (st2 := [.long (x2 / v5)]) (M2 := M) (Ps := [¬ v5 = 0]) (by decide +kernel) rfl rfl ⟨k8, trivial⟩ ?_
    exact G.retl (by decide +kernel) rfl (Nat.le_of_ble_eq_true rfl) (Nat.le_of_ble_eq_true rfl) ((by rw [hQ]; simp only [k_least, g4, if_neg c7, mrow_self]))
  · skip
    rw [if_pos c7] at hk
    obtain ⟨k9, hk⟩ := hk
    refine G.sl [(.lload_n 0, 1, 0, 0, 0, 0), (.goto 4, 3, 41, 0, 0, 0), (.lload 5, 2, 5, 0, 0, 0), (.ldiv, 1, 0, 0, 0, 0)] [] (pc2 := 44) (ls2 := [some (.long x0), none, some (.long x2), none, some (.int x4), some (.long v5), none, none, none, none, none]) (st2 := [.long (x0 / v5)]) (M2 := M) (Ps := [¬ v5 = 0]) (by decide +kernel) rfl rfl ⟨k9, trivial⟩ ?_
    exact G.retl (by decide +kernel) rfl (Nat.le_of_ble_eq_true rfl) (Nat.le_of_ble_eq_true rfl) ((by rw [hQ]; simp only [k_least, g4, if_pos c7, mrow_self]))
noncomputable def k_within (x0 : Int32) (x1 : Int32) (x2 : Int32) : Int32 := (if x0 < x1 then nI 0 else (if x2 < x0 then nI 0 else nI 1))
theorem k_within_01 (x0 : Int32) (x1 : Int32) (x2 : Int32) : k_within x0 x1 x2 = 0 ∨ k_within x0 x1 x2 = 1 := by
  unfold k_within
  repeat' split
  all_goals first | exact Or.inl rfl | exact Or.inr rfl
theorem c_k_within (z : Zp) (d : Nat) (M : Mem) (x0 : Int32) (x1 : Int32) (x2 : Int32) : GM z mX12_within (d) [.int x0, .int x1, .int x2] M (fun rs => rs = .inl (some (.int (k_within x0 x1 x2)), M)) := by
  refine GM.of oX12_within.1 (Nat.le_of_ble_eq_true rfl) ?_
  show G z mX12_within (d) 0 0 0 [some (.int x0), some (.int x1), some (.int x2)] [] M _
  obtain ⟨Q, hQ⟩ : ∃ Q : Rs → Prop, Q = (fun rs => rs = .inl (some (.int (k_within x0 x1 x2)), M)) := ⟨_, rfl⟩
  rw [← hQ]
  refine G.sl [(.iload_n 0, 1, 0, 0, 0, 0), (.iload_n 1, 1, 1, 0, 0, 0)] [] (pc2 := 2) (ls2 := [some (.int x0), some (.int x1), some (.int x2)]) (st2 := [.int x1, .int x0]) (M2 := M) (Ps := []) (by decide +kernel) rfl rfl trivial ?_
  refine G.ic_lt (off := (12)) (tgt := 14) (by decide +kernel) rfl (fun c1 => ?_) (fun c1 => ?_)
  · skip
    refine G.sl [(.iconst 0, 1, 0, 0, 0, nI 0)] [] (pc2 := 15) (ls2 := [some (.int x0), some (.int x1), some (.int x2)]) (st2 := [.int (nI 0)]) (M2 := M) (Ps := []) (by decide +kernel) rfl rfl trivial ?_
    exact G.reti (by decide +kernel) rfl rfl (Nat.le_of_ble_eq_true rfl) (Nat.le_of_ble_eq_true rfl) ((by rw [hQ]; simp only [k_within, if_pos c1, mrow_self]))
  · skip
    refine G.sl [(.iload_n 0, 1, 0, 0, 0, 0), (.iload_n 2, 1, 2, 0, 0, 0)] [] (pc2 := 7) (ls2 := [some (.int x0), some (.int x1), some (.int x2)]) (st2 := [.int x2, .int x0]) (M2 := M) (Ps := []) (by decide +kernel) rfl rfl trivial ?_
    refine G.ic_gt (off := (7)) (tgt := 14) (by decide +kernel) rfl (fun c2 => ?_) (fun c2 => ?_)
    · skip
      refine G.sl [(.iconst 0, 1, 0, 0, 0, nI 0)] [] (pc2 := 15) (ls2 := [some (.int x0), some (.int x1), some (.int x2)]) (st2 := [.int (nI 0)]) (M2 := M) (Ps := []) (by decide +kernel) rfl rfl trivial ?_
      exact G.reti (by decide +kernel) rfl rfl (Nat.le_of_ble_eq_true rfl) (Nat.le_of_ble_eq_true rfl) ((by rw [hQ]; simp only [k_within, if_neg c1, if_pos c2, mrow_self]))
    · skip
      refine G.sl [(.iconst 1, 1, 0, 0, 0, nI 1), (.goto 4, 3, 15, 0, 0, 0)] [] (pc2 := 15) (ls2 := [some (.int x0), some (.int x1), some (.int x2)]) (st2 := [.int (nI 1)]) (M2 := M) (Ps := []) (by decide +kernel) rfl rfl trivial ?_
      exact G.reti (by decide +kernel) rfl rfl (Nat.le_of_ble_eq_true rfl) (Nat.le_of_ble_eq_true rfl) ((by rw [hQ]; simp only [k_within, if_neg c1, if_neg c2, mrow_self]))
noncomputable def k_may (Rmd Rrefused : Nat → Int32) (x1 : Int32) (x2 : Int32) (x3 : Int32) : Int32 × (Nat → Int32) × (Nat → Int32) := (if x1 = 0 then (if (Rmd 0) = 0 then (if x2 = 0 then (nI 1, upd (Rmd) 0 x2, upd (Rrefused) (ix x3) ((Rrefused (ix x3)) + (nI 1))) else (nI 0, upd (Rmd) 0 x2, upd (Rrefused) (ix x3) ((Rrefused (ix x3)) + (nI 1)))) else (nI 0, Rmd, Rrefused)) else (if (Rmd 0) = 0 then (nI 1, Rmd, Rrefused) else (nI 0, Rmd, Rrefused)))
noncomputable def k_may_ok (Rmd Rrefused : Nat → Int32) (x1 : Int32) (x2 : Int32) (x3 : Int32) : Prop := (if x1 = 0 then (if (Rmd 0) = 0 then ((isN x3) ∧ (ix x3 < 2) ∧ True) else True) else True)
theorem k_may_01 (Rmd Rrefused : Nat → Int32) (x1 : Int32) (x2 : Int32) (x3 : Int32) : (k_may Rmd Rrefused x1 x2 x3).1 = 0 ∨ (k_may Rmd Rrefused x1 x2 x3).1 = 1 := by
  unfold k_may
  repeat' split
  all_goals first | exact Or.inl rfl | exact Or.inr rfl
theorem c_k_may_54 (z : Zp) (d : Nat) (M : Mem) (x1 : Int32) (x2 : Int32) (x3 : Int32) (hk : k_may_ok (M.1 54) (M.1 55) x1 x2 x3) : GM z mX12_may (d) [.ref 54, .int x1, .int x2, .int x3] M (fun rs => rs = .inl (some (.int ((k_may (M.1 54) (M.1 55) x1 x2 x3).1)), mrow (mrow M 54 ((k_may (M.1 54) (M.1 55) x1 x2 x3).2.1)) 55 ((k_may (M.1 54) (M.1 55) x1 x2 x3).2.2))) := by
  simp only [k_may_ok] at hk
  refine GM.of oX12_may.1 (Nat.le_of_ble_eq_true rfl) ?_
  show G z mX12_may (d) 0 0 0 [some (.ref 54), some (.int x1), some (.int x2), some (.int x3)] [] M _
  obtain ⟨Q, hQ⟩ : ∃ Q : Rs → Prop, Q = (fun rs => rs = .inl (some (.int ((k_may (M.1 54) (M.1 55) x1 x2 x3).1)), mrow (mrow M 54 ((k_may (M.1 54) (M.1 55) x1 x2 x3).2.1)) 55 ((k_may (M.1 54) (M.1 55) x1 x2 x3).2.2))) := ⟨_, rfl⟩
  rw [← hQ]
  refine G.sl [(.iload_n 1, 1, 1, 0, 0, 0)] [] (pc2 := 1) (ls2 := [some (.ref 54), some (.int x1), some (.int x2), some (.int x3)]) (st2 := [.int x1]) (M2 := M) (Ps := []) (by decide +kernel) rfl rfl trivial ?_
  refine G.if_ne (off := (25)) (tgt := 26) (by decide +kernel) rfl (fun c1 => ?_) (fun c1 => ?_)
  · skip
    rw [if_neg c1] at hk
    refine G.sl [(.aload_n 0, 1, 0, 0, 0, 0), (.getfield 3, 3, 11, 0, 123, 0)] [] (pc2 := 30) (ls2 := [some (.ref 54), some (.int x1), some (.int x2), some (.int x3)]) (st2 := [.int (M.1 54 0)]) (M2 := M) (Ps := []) (by decide +kernel) rfl rfl trivial ?_
    refine G.if_ne (off := (7)) (tgt := 37) (by decide +kernel) rfl (fun c2 => ?_) (fun c2 => ?_)
    · skip
      refine G.sl [(.iconst 0, 1, 0, 0, 0, nI 0)] [] (pc2 := 38) (ls2 := [some (.ref 54), some (.int x1), some (.int x2), some (.int x3)]) (st2 := [.int (nI 0)]) (M2 := M) (Ps := []) (by decide +kernel) rfl rfl trivial ?_
      refine G.mem (M' := mrow (mrow M 54 (M.1 54)) 55 (M.1 55)) ((((mrow_id (N := M) (c := 54) (f := M.1 54) (by first | rfl | (simp only [mrow_same, mrow_hit, mrow_miss, mrow_swap, ne_eq, Nat.reduceEqDiff, not_false_eq_true, Nat.reduceLT, reduceCtorEq]; done))).symm).trans (mrow_id (N := mrow M 54 (M.1 54)) (c := 55) (f := M.1 55) (by first | rfl | (simp only [mrow_same, mrow_hit, mrow_miss, mrow_swap, ne_eq, Nat.reduceEqDiff, not_false_eq_true, Nat.reduceLT, reduceCtorEq]; done))).symm).trans (by first | rfl | (simp only [mrow_same, mrow_hit, mrow_miss, mrow_swap, ne_eq, Nat.reduceEqDiff, not_false_eq_true, Nat.reduceLT, reduceCtorEq]; done))) ?_
      exact G.reti (by decide +kernel) rfl rfl (Nat.le_of_ble_eq_true rfl) (Nat.le_of_ble_eq_true rfl) ((by rw [hQ]; simp only [k_may, if_neg c1, if_neg c2, mrow_self]))
    · skip
      refine G.sl [(.iconst 1, 1, 0, 0, 0, nI 1), (.goto 4, 3, 38, 0, 0, 0)] [] (pc2 := 38) (ls2 := [some (.ref 54), some (.int x1), some (.int x2), some (.int x3)]) (st2 := [.int (nI 1)]) (M2 := M) (Ps := []) (by decide +kernel) rfl rfl trivial ?_
      refine G.mem (M' := mrow (mrow M 54 (M.1 54)) 55 (M.1 55)) ((((mrow_id (N := M) (c := 54) (f := M.1 54) (by first | rfl | (simp only [mrow_same, mrow_hit, mrow_miss, mrow_swap, ne_eq, Nat.reduceEqDiff, not_false_eq_true, Nat.reduceLT, reduceCtorEq]; done))).symm).trans (mrow_id (N := mrow M 54 (M.1 54)) (c := 55) (f := M.1 55) (by first | rfl | (simp only [mrow_same, mrow_hit, mrow_miss, mrow_swap, ne_eq, Nat.reduceEqDiff, not_false_eq_true, Nat.reduceLT, reduceCtorEq]; done))).symm).trans (by first | rfl | (simp only [mrow_same, mrow_hit, mrow_miss, mrow_swap, ne_eq, Nat.reduceEqDiff, not_false_eq_true, Nat.reduceLT, reduceCtorEq]; done))) ?_
      exact G.reti (by decide +kernel) rfl rfl (Nat.le_of_ble_eq_true rfl) (Nat.le_of_ble_eq_true rfl) ((by rw [hQ]; simp only [k_may, if_neg c1, if_pos c2, mrow_self]))
  · skip
    rw [if_pos c1] at hk
    refine G.sl [(.aload_n 0, 1, 0, 0, 0, 0), (.getfield 3, 3, 11, 0, 123, 0)] [] (pc2 := 8) (ls2 := [some (.ref 54), some (.int x1), some (.int x2), some (.int x3)]) (st2 := [.int (M.1 54 0)]) (M2 := M) (Ps := []) (by decide +kernel) rfl rfl trivial ?_
    refine G.if_ne (off := (18)) (tgt := 26) (by decide +kernel) rfl (fun c3 => ?_) (fun c3 => ?_)
    · skip
      rw [if_neg c3] at hk
      refine G.sl [(.aload_n 0, 1, 0, 0, 0, 0), (.getfield 3, 3, 11, 0, 123, 0)] [] (pc2 := 30) (ls2 := [some (.ref 54), some (.int x1), some (.int x2), some (.int x3)]) (st2 := [.int (M.1 54 0)]) (M2 := M) (Ps := []) (by decide +kernel) rfl rfl trivial ?_
      refine G.if_ne (off := (7)) (tgt := 37) (by decide +kernel) rfl (fun _ => ?_) (fun h9 => absurd h9 c3)
      refine G.sl [(.iconst 0, 1, 0, 0, 0, nI 0)] [] (pc2 := 38) (ls2 := [some (.ref 54), some (.int x1), some (.int x2), some (.int x3)]) (st2 := [.int (nI 0)]) (M2 := M) (Ps := []) (by decide +kernel) rfl rfl trivial ?_
      refine G.mem (M' := mrow (mrow M 54 (M.1 54)) 55 (M.1 55)) ((((mrow_id (N := M) (c := 54) (f := M.1 54) (by first | rfl | (simp only [mrow_same, mrow_hit, mrow_miss, mrow_swap, ne_eq, Nat.reduceEqDiff, not_false_eq_true, Nat.reduceLT, reduceCtorEq]; done))).symm).trans (mrow_id (N := mrow M 54 (M.1 54)) (c := 55) (f := M.1 55) (by first | rfl | (simp only [mrow_same, mrow_hit, mrow_miss, mrow_swap, ne_eq, Nat.reduceEqDiff, not_false_eq_true, Nat.reduceLT, reduceCtorEq]; done))).symm).trans (by first | rfl | (simp only [mrow_same, mrow_hit, mrow_miss, mrow_swap, ne_eq, Nat.reduceEqDiff, not_false_eq_true, Nat.reduceLT, reduceCtorEq]; done))) ?_
      exact G.reti (by decide +kernel) rfl rfl (Nat.le_of_ble_eq_true rfl) (Nat.le_of_ble_eq_true rfl) ((by rw [hQ]; simp only [k_may, if_pos c1, if_neg c3, mrow_self]))
    · skip
      rw [if_pos c3] at hk
      obtain ⟨k4, k5, hk⟩ := hk
      refine G.sl [(.aload_n 0, 1, 0, 0, 0, 0), (.iload_n 2, 1, 2, 0, 0, 0), (.putfield 3, 3, 11, 0, 123, 0), (.aload_n 0, 1, 0, 0, 0, 0), (.getfield 7, 3, 11, 1, 124, 0), (.iload_n 3, 1, 3, 0, 0, 0), (.dup2, 1, 0, 0, 0, 0), (.iaload, 1, 0, 0, 0, 0), (.iconst 1, 1, 0, 0, 0, nI 1), (.iadd, 1, 0, 0, 0, 0), (.iastore, 1, 0, 0, 0, 0), (.aload_n 0, 1, 0, 0, 0, 0), (.getfield 3, 3, 11, 0, 123, 0)] [ix x3, ix x3] (pc2 := 30) (ls2 := [some (.ref 54), some (.int x1), some (.int x2), some (.int x3)]) (st2 := [.int x2]) (M2 := mput (mput M 54 0 x2) 55 (ix x3) ((M.1 55 (ix x3)) + (nI 1))) (Ps := [x3 = nI (ix x3) ∧ (ix x3) < 2, x3 = nI (ix x3) ∧ (ix x3) < 2]) (by decide +kernel) rfl rfl ⟨⟨(ixE k4), k5⟩, ⟨(ixE k4), k5⟩, trivial⟩ ?_
      refine G.mem (M' := mrow (mrow M 54 (upd (M.1 54) 0 x2)) 55 (upd (M.1 55) (ix x3) ((M.1 55 (ix x3)) + (nI 1)))) (by first | rfl | (simp only [mrow_same, mrow_hit, mrow_miss, mrow_swap, ne_eq, Nat.reduceEqDiff, not_false_eq_true, Nat.reduceLT, reduceCtorEq]; done)) ?_
      refine G.if_ne (off := (7)) (tgt := 37) (by decide +kernel) rfl (fun c6 => ?_) (fun c6 => ?_)
      · skip
        refine G.sl [(.iconst 0, 1, 0, 0, 0, nI 0)] [] (pc2 := 38) (ls2 := [some (.ref 54), some (.int x1), some (.int x2), some (.int x3)]) (st2 := [.int (nI 0)]) (M2 := mrow (mrow M 54 (upd (M.1 54) 0 x2)) 55 (upd (M.1 55) (ix x3) ((M.1 55 (ix x3)) + (nI 1)))) (Ps := []) (by decide +kernel) rfl rfl trivial ?_
        exact G.reti (by decide +kernel) rfl rfl (Nat.le_of_ble_eq_true rfl) (Nat.le_of_ble_eq_true rfl) ((by rw [hQ]; simp only [k_may, if_pos c1, if_pos c3, if_neg c6, mrow_self]))
      · skip
        refine G.sl [(.iconst 1, 1, 0, 0, 0, nI 1), (.goto 4, 3, 38, 0, 0, 0)] [] (pc2 := 38) (ls2 := [some (.ref 54), some (.int x1), some (.int x2), some (.int x3)]) (st2 := [.int (nI 1)]) (M2 := mrow (mrow M 54 (upd (M.1 54) 0 x2)) 55 (upd (M.1 55) (ix x3) ((M.1 55 (ix x3)) + (nI 1)))) (Ps := []) (by decide +kernel) rfl rfl trivial ?_
        exact G.reti (by decide +kernel) rfl rfl (Nat.le_of_ble_eq_true rfl) (Nat.le_of_ble_eq_true rfl) ((by rw [hQ]; simp only [k_may, if_pos c1, if_pos c3, if_pos c6, mrow_self]))
noncomputable def k_isFinder (Rmd Rrefused : Nat → Int32) (nf : Nat) (x1 : Int32) (x2 : Int32) : Int32 × (Nat → Int32) × (Nat → Int32) := (match k_may (Rmd) (Rrefused) (k_within x1 (nI 0) ((nI nf) - (nI 1))) x2 (nI 0) with | (v6, r7, r8) => (v6, r7, r8))
noncomputable def k_isFinder_ok (Rmd Rrefused : Nat → Int32) (nf : Nat) (x1 : Int32) (x2 : Int32) : Prop := (True ∧ (k_may_ok (Rmd) (Rrefused) (k_within x1 (nI 0) ((nI nf) - (nI 1))) x2 (nI 0) ∧ True))
theorem k_isFinder_01 (Rmd Rrefused : Nat → Int32) (nf : Nat) (x1 : Int32) (x2 : Int32) : (k_isFinder Rmd Rrefused nf x1 x2).1 = 0 ∨ (k_isFinder Rmd Rrefused nf x1 x2).1 = 1 := by
  unfold k_isFinder
  repeat' split
  all_goals first | exact Or.inl rfl | exact Or.inr rfl | exact k_within_01 x1 (nI 0) ((nI nf) - (nI 1)) | (rename_i h9; have q9 := k_may_01 (Rmd) (Rrefused) (k_within x1 (nI 0) ((nI nf) - (nI 1))) x2 (nI 0); rw [h9] at q9; exact q9)
theorem c_k_isFinder_54 (z : Zp) (d : Nat) (M : Mem) (x1 : Int32) (x2 : Int32) (nf : Nat) (hnf : nf ≤ 6) (cf : M.1 54 23 = nI nf) (hk : k_isFinder_ok (M.1 54) (M.1 55) nf x1 x2) : GM z mX12_isFinder (d + 1) [.ref 54, .int x1, .int x2] M (fun rs => rs = .inl (some (.int ((k_isFinder (M.1 54) (M.1 55) nf x1 x2).1)), mrow (mrow M 54 ((k_isFinder (M.1 54) (M.1 55) nf x1 x2).2.1)) 55 ((k_isFinder (M.1 54) (M.1 55) nf x1 x2).2.2))) := by
  simp only [k_isFinder_ok] at hk
  refine GM.of oX12_isFinder.1 (Nat.le_of_ble_eq_true rfl) ?_
  show G z mX12_isFinder (d + 1) 0 0 0 [some (.ref 54), some (.int x1), some (.int x2)] [] M _
  obtain ⟨Q, hQ⟩ : ∃ Q : Rs → Prop, Q = (fun rs => rs = .inl (some (.int ((k_isFinder (M.1 54) (M.1 55) nf x1 x2).1)), mrow (mrow M 54 ((k_isFinder (M.1 54) (M.1 55) nf x1 x2).2.1)) 55 ((k_isFinder (M.1 54) (M.1 55) nf x1 x2).2.2))) := ⟨_, rfl⟩
  rw [← hQ]
  refine G.sl [(.aload_n 0, 1, 0, 0, 0, 0), (.iload_n 1, 1, 1, 0, 0, 0), (.iconst 0, 1, 0, 0, 0, nI 0), (.aload_n 0, 1, 0, 0, 0, 0), (.getfield 165, 3, 11, 23, 146, 0), (.iconst 1, 1, 0, 0, 0, nI 1), (.isub, 1, 0, 0, 0, 0)] [] (pc2 := 9) (ls2 := [some (.ref 54), some (.int x1), some (.int x2)]) (st2 := [.int ((M.1 54 23) - (nI 1)), .int (nI 0), .int x1, .ref 54]) (M2 := M) (Ps := []) (by decide +kernel) rfl rfl trivial ?_
  rw [cf]
  obtain ⟨k1, hk⟩ := hk
  have t2 : GM z mX12_within (d) [.int x1, .int (nI 0), .int ((nI nf) - (nI 1))] M (fun rs => rs = .inl (some (.int (k_within x1 (nI 0) ((nI nf) - (nI 1)))), M)) := by
    have q9 := c_k_within z d M x1 (nI 0) ((nI nf) - (nI 1))
    try simp only [mrow_same, mrow_hit, mrow_miss, mrow_swap, ne_eq, Nat.reduceEqDiff, not_false_eq_true, Nat.reduceLT, reduceCtorEq] at q9
    exact q9
  refine G.callS (as := [.int x1, .int (nI 0), .int ((nI nf) - (nI 1))]) (rest := [.ref 54]) oX12_within lk_EvenFindersModel_379 (by decide +kernel) rfl (Nat.le_of_ble_eq_true rfl) rfl ⟨Nat.le_of_ble_eq_true rfl, Nat.le_of_ble_eq_true rfl⟩ t2 (fun v9 N9 h3 => ?_) (fun E9 N9 h3 => by cases h3)
  cases h3
  show G z mX12_isFinder (d + 1) 0 0 12 [some (.ref 54), some (.int x1), some (.int x2)] [.int (k_within x1 (nI 0) ((nI nf) - (nI 1))), .ref 54] M Q
  refine G.sl [(.iload_n 2, 1, 2, 0, 0, 0), (.iconst 0, 1, 0, 0, 0, nI 0)] [] (pc2 := 14) (ls2 := [some (.ref 54), some (.int x1), some (.int x2)]) (st2 := [.int (nI 0), .int x2, .int (k_within x1 (nI 0) ((nI nf) - (nI 1))), .ref 54]) (M2 := M) (Ps := []) (by decide +kernel) rfl rfl trivial ?_
  obtain ⟨k4, hk⟩ := hk
  rcases g5 : k_may (M.1 54) (M.1 55) (k_within x1 (nI 0) ((nI nf) - (nI 1))) x2 (nI 0) with ⟨v6, r7, r8⟩
  have ev6 : v6 = 0 ∨ v6 = 1 := by
    have q9 := k_may_01 (M.1 54) (M.1 55) (k_within x1 (nI 0) ((nI nf) - (nI 1))) x2 (nI 0)
    rw [g5] at q9
    exact q9
  have t9 : GM z mX12_may (d) [.ref 54, .int (k_within x1 (nI 0) ((nI nf) - (nI 1))), .int x2, .int (nI 0)] M (fun rs => rs = .inl (some (.int v6), mrow (mrow M 54 r7) 55 r8)) := by
    have q9 := c_k_may_54 z d M (k_within x1 (nI 0) ((nI nf) - (nI 1))) x2 (nI 0) k4
    try simp only [mrow_same, mrow_hit, mrow_miss, mrow_swap, ne_eq, Nat.reduceEqDiff, not_false_eq_true, Nat.reduceLT, reduceCtorEq, g5] at q9
    exact q9
  refine G.callV (as := [.int (k_within x1 (nI 0) ((nI nf) - (nI 1))), .int x2, .int (nI 0)]) (rest := []) (a := 54) oX12_may lk_EvenFindersModel_213 (by decide +kernel) rfl rfl ⟨rfl, rfl⟩ (Nat.le_of_ble_eq_true rfl) rfl ⟨Nat.le_of_ble_eq_true rfl, Nat.le_of_ble_eq_true rfl⟩ t9 (fun v9 N9 h10 => ?_) (fun E9 N9 h10 => by cases h10)
  cases h10
  show G z mX12_isFinder (d + 1) 0 0 17 [some (.ref 54), some (.int x1), some (.int x2)] [.int v6] (mrow (mrow M 54 r7) 55 r8) Q
  exact G.reti (by decide +kernel) rfl (nar01 ev6) (Nat.le_of_ble_eq_true rfl) (Nat.le_of_ble_eq_true rfl) ((by rw [hQ]; simp only [k_isFinder, g5, mrow_self]))
noncomputable def k_copies_3 (Rnow : Nat → Int32) (x3 : Int32) : Nat → Int32 → (Nat → Int32) → Int32 × (Nat → Int32)
  | 0, s4, q72 => (s4, q72)
  | k0 + 1, s4, q72 => (if x3 ≤ s4 then (s4, q72) else k_copies_3 Rnow x3 k0 (s4 + nI 1) (upd q72 (ix s4) (Rnow (ix s4))))
noncomputable def k_copies_3_ok (Rnow : Nat → Int32) (x3 : Int32) : Nat → Int32 → (Nat → Int32) → Prop
  | 0, _, _ => False
  | k0 + 1, s4, q72 => (if x3 ≤ s4 then True else ((isN s4) ∧ (ix s4 < 51) ∧ k_copies_3_ok Rnow x3 k0 (s4 + nI 1) (upd q72 (ix s4) (Rnow (ix s4)))))
theorem lp_k_copies_54_71_72_3 (z : Zp) (d : Nat) (M : Mem) (Q : Rs → Prop) (x3 : Int32) : ∀ (k0 : Nat) (s4 : Int32) (q72 : (Nat → Int32)), k_copies_3_ok (M.1 71) x3 k0 s4 q72 → (match k_copies_3 (M.1 71) x3 k0 s4 q72 with | (s4', q72') => G z mX12_copies (d) 0 0 23 [none, none, none, none, none] [] (mrow M 72 (q72')) Q) → G z mX12_copies (d) 0 0 3 [none, some (.ref 71), some (.ref 72), some (.int x3), some (.int s4)] [] (mrow M 72 q72) Q := by
  intro k0
  induction k0 with
  | zero =>
      intro s4 q72 hk hX
      exact (by simpa only [k_copies_3_ok] using hk : False).elim
  | succ k0 ih =>
      intro s4 q72 hk hX
      simp only [k_copies_3_ok] at hk
      refine G.sl [(.iload 4, 2, 4, 0, 0, 0), (.iload_n 3, 1, 3, 0, 0, 0)] [] (pc2 := 6) (ls2 := [none, some (.ref 71), some (.ref 72), some (.int x3), some (.int s4)]) (st2 := [.int x3, .int s4]) (M2 := mrow M 72 q72) (Ps := []) (by decide +kernel) rfl rfl trivial ?_
      refine G.ic_ge (off := (17)) (tgt := 23) (by decide +kernel) rfl (fun c1 => ?_) (fun c1 => ?_)
      · skip
        rw [if_pos c1] at hk
        refine G.loc (ls2 := [none, none, none, none, none]) (by simp [subL]) ?_
        simp only [k_copies_3, if_pos c1] at hX
        exact hX
      · skip
        rw [if_neg c1] at hk
        obtain ⟨k2, k3, hk⟩ := hk
        refine G.sl [(.aload_n 2, 1, 2, 0, 0, 0), (.iload 4, 2, 4, 0, 0, 0), (.aload_n 1, 1, 1, 0, 0, 0), (.iload 4, 2, 4, 0, 0, 0), (.iaload, 1, 0, 0, 0, 0), (.iastore, 1, 0, 0, 0, 0), (.iinc 4 1, 3, 4, 0, 0, nI 1), (.goto (-17), 3, 3, 0, 0, 0)] [ix s4, ix s4] (pc2 := 3) (ls2 := [none, some (.ref 71), some (.ref 72), some (.int x3), some (.int (s4 + nI 1))]) (st2 := []) (M2 := mput (mrow M 72 q72) 72 (ix s4) (M.1 71 (ix s4))) (Ps := [s4 = nI (ix s4) ∧ (ix s4) < 51, s4 = nI (ix s4) ∧ (ix s4) < 51]) (by decide +kernel) rfl rfl ⟨⟨(ixE k2), k3⟩, ⟨(ixE k2), k3⟩, trivial⟩ ?_
        refine G.mem (M' := mrow M 72 (upd q72 (ix s4) (M.1 71 (ix s4)))) (by first | rfl | (simp only [mrow_same, mrow_hit, mrow_miss, mrow_swap, ne_eq, Nat.reduceEqDiff, not_false_eq_true, Nat.reduceLT, reduceCtorEq]; done)) ?_
        simp only [k_copies_3, if_neg c1] at hX
        exact ih (s4 + nI 1) (upd q72 (ix s4) (M.1 71 (ix s4))) hk hX
noncomputable def k_copies (Rnow Rs : Nat → Int32) (x3 : Int32) : Int32 × (Nat → Int32) := (match k_copies_3 (Rnow) x3 FU (nI 0) (Rs) with | (v6, r7) => (0, r7))
noncomputable def k_copies_ok (Rnow Rs : Nat → Int32) (x3 : Int32) : Prop := (k_copies_3_ok (Rnow) x3 FU (nI 0) (Rs) ∧ True)
theorem c_k_copies_54_71_72 (z : Zp) (d : Nat) (M : Mem) (x3 : Int32) (hk : k_copies_ok (M.1 71) (M.1 72) x3) : GM z mX12_copies (d) [.ref 54, .ref 71, .ref 72, .int x3] M (fun rs => rs = .inl (none, mrow M 72 ((k_copies (M.1 71) (M.1 72) x3).2))) := by
  simp only [k_copies_ok] at hk
  refine GM.of oX12_copies.1 (Nat.le_of_ble_eq_true rfl) ?_
  show G z mX12_copies (d) 0 0 0 [some (.ref 54), some (.ref 71), some (.ref 72), some (.int x3), none] [] M _
  obtain ⟨Q, hQ⟩ : ∃ Q : Rs → Prop, Q = (fun rs => rs = .inl (none, mrow M 72 ((k_copies (M.1 71) (M.1 72) x3).2))) := ⟨_, rfl⟩
  rw [← hQ]
  refine G.sl [(.iconst 0, 1, 0, 0, 0, nI 0), (.istore 4, 2, 4, 0, 0, 0)] [] (pc2 := 3) (ls2 := [some (.ref 54), some (.ref 71), some (.ref 72), some (.int x3), some (.int (nI 0))]) (st2 := []) (M2 := M) (Ps := []) (by decide +kernel) rfl rfl trivial ?_
  refine G.loc (ls2 := [none, some (.ref 71), some (.ref 72), some (.int x3), some (.int (nI 0))]) (by simp [subL]) ?_
  obtain ⟨k4, hk⟩ := hk
  refine G.mem (M' := mrow M 72 (M.1 72)) (by simp only [mrow_self]) ?_
  refine lp_k_copies_54_71_72_3 z d M Q x3 FU (nI 0) (M.1 72) (by first | (simp only [mrow_same, mrow_hit, mrow_miss, mrow_swap, ne_eq, Nat.reduceEqDiff, not_false_eq_true, Nat.reduceLT, reduceCtorEq]; exact k4) | exact k4) ?_
  try simp only [mrow_same, mrow_hit, mrow_miss, mrow_swap, ne_eq, Nat.reduceEqDiff, not_false_eq_true, Nat.reduceLT, reduceCtorEq]
  rcases g5 : k_copies_3 (M.1 71) x3 FU (nI 0) (M.1 72) with ⟨v6, r7⟩
  show G z mX12_copies (d) 0 0 23 [none, none, none, none, none] [] (mrow M 72 r7) Q
  exact G.retv (by decide +kernel) rfl (Nat.le_of_ble_eq_true rfl) (Nat.le_of_ble_eq_true rfl) ((by rw [hQ]; simp only [k_copies, g5, mrow_self]))
noncomputable def k_take (Rnow Rs : Nat → Int32) : Int32 × (Nat → Int32) := (match k_copies (Rnow) (Rs) (nI 51) with | (u3, r4) => (0, r4))
noncomputable def k_take_ok (Rnow Rs : Nat → Int32) : Prop := (k_copies_ok (Rnow) (Rs) (nI 51) ∧ True)
theorem c_k_take_54 (z : Zp) (d : Nat) (M : Mem) (hk : k_take_ok (M.1 71) (M.1 72)) : GM z mX12_take (d + 1) [.ref 54] M (fun rs => rs = .inl (none, mrow M 72 ((k_take (M.1 71) (M.1 72)).2))) := by
  simp only [k_take_ok] at hk
  refine GM.of oX12_take.1 (Nat.le_of_ble_eq_true rfl) ?_
  show G z mX12_take (d + 1) 0 0 0 [some (.ref 54)] [] M _
  obtain ⟨Q, hQ⟩ : ∃ Q : Rs → Prop, Q = (fun rs => rs = .inl (none, mrow M 72 ((k_take (M.1 71) (M.1 72)).2))) := ⟨_, rfl⟩
  rw [← hQ]
  refine G.sl [(.aload_n 0, 1, 0, 0, 0, 0), (.aload_n 0, 1, 0, 0, 0, 0), (.getfield 65, 3, 11, 40, 163, 0), (.aload_n 0, 1, 0, 0, 0, 0), (.getfield 68, 3, 11, 41, 164, 0), (.bipush 51, 2, 0, 0, 0, nI 51)] [] (pc2 := 11) (ls2 := [some (.ref 54)]) (st2 := [.int (nI 51), .ref 72, .ref 71, .ref 54]) (M2 := M) (Ps := []) (by decide +kernel) rfl rfl trivial ?_
  obtain ⟨k1, hk⟩ := hk
  rcases g2 : k_copies (M.1 71) (M.1 72) (nI 51) with ⟨u3, r4⟩
  have t5 : GM z mX12_copies (d) [.ref 54, .ref 71, .ref 72, .int (nI 51)] M (fun rs => rs = .inl (none, mrow M 72 r4)) := by
    have q9 := c_k_copies_54_71_72 z d M (nI 51) k1
    try simp only [mrow_same, mrow_hit, mrow_miss, mrow_swap, ne_eq, Nat.reduceEqDiff, not_false_eq_true, Nat.reduceLT, reduceCtorEq, g2] at q9
    exact q9
  refine G.callV (as := [.ref 71, .ref 72, .int (nI 51)]) (rest := []) (a := 54) oX12_copies lk_EvenFindersModel_168 (by decide +kernel) rfl rfl ⟨rfl, rfl⟩ (Nat.le_of_ble_eq_true rfl) rfl ⟨Nat.le_of_ble_eq_true rfl, Nat.le_of_ble_eq_true rfl⟩ t5 (fun v9 N9 h6 => ?_) (fun E9 N9 h6 => by cases h6)
  cases h6
  show G z mX12_take (d + 1) 0 0 14 [some (.ref 54)] [] (mrow M 72 r4) Q
  exact G.retv (by decide +kernel) rfl (Nat.le_of_ble_eq_true rfl) (Nat.le_of_ble_eq_true rfl) ((by rw [hQ]; simp only [k_take, g2, mrow_self]))
noncomputable def k_heldBy_4 (Rs : Nat → Int32) (x1 : Int32) : Nat → Int32
  | 0 => nI 0
  | i3 + 1 => (if (Rs (10 + i3)) = x1 then (k_heldBy_4 Rs x1 i3) ||| ((nI 1) <<< ((nI i3) &&& 31)) else (k_heldBy_4 Rs x1 i3) ||| (nI 0))
theorem lp_k_heldBy_54_4 (z : Zp) (d : Nat) (M : Mem) (Q : Rs → Prop) (x1 : Int32) (nt : Nat) (hnt : nt ≤ 10) (ct : M.1 54 22 = nI nt) (hX : G z mX12_heldBy (d) 0 0 41 [none, none, some (.int (k_heldBy_4 (M.1 72) x1 nt)), none] [] M Q) : G z mX12_heldBy (d) 0 0 4 [some (.ref 54), some (.int x1), some (.int (nI 0)), some (.int (nI 0))] [] M Q := by
  refine down (n := nt) (P := fun i3 => G z mX12_heldBy (d) 0 0 4 [some (.ref 54), some (.int x1), some (.int (k_heldBy_4 (M.1 72) x1 i3)), some (.int (nI i3))] [] M Q) ?_ ?_ 0 (Nat.zero_le _)
  · skip
    refine G.sl [(.iload_n 3, 1, 3, 0, 0, 0), (.aload_n 0, 1, 0, 0, 0, 0), (.getfield 162, 3, 11, 22, 145, 0)] [] (pc2 := 9) (ls2 := [some (.ref 54), some (.int x1), some (.int (k_heldBy_4 (M.1 72) x1 nt)), some (.int (nI nt))]) (st2 := [.int (M.1 54 22), .int (nI nt)]) (M2 := M) (Ps := []) (by decide +kernel) rfl rfl trivial ?_
    rw [ct]
    refine G.ic_ge (off := (32)) (tgt := 41) (by decide +kernel) rfl (fun _ => ?_) (fun h9 => absurd (nI_le (by omega) (by omega)) h9)
    refine G.loc (ls2 := [none, none, some (.int (k_heldBy_4 (M.1 72) x1 nt)), none]) (by simp [subL]) ?_
    exact hX
  · skip
    intro i3 hi ih
    show G z mX12_heldBy (d) 0 0 4 [some (.ref 54), some (.int x1), some (.int (k_heldBy_4 (M.1 72) x1 i3)), some (.int (nI i3))] [] M Q
    refine G.sl [(.iload_n 3, 1, 3, 0, 0, 0), (.aload_n 0, 1, 0, 0, 0, 0), (.getfield 162, 3, 11, 22, 145, 0)] [] (pc2 := 9) (ls2 := [some (.ref 54), some (.int x1), some (.int (k_heldBy_4 (M.1 72) x1 i3)), some (.int (nI i3))]) (st2 := [.int (M.1 54 22), .int (nI i3)]) (M2 := M) (Ps := []) (by decide +kernel) rfl rfl trivial ?_
    rw [ct]
    refine G.ic_ge (off := (32)) (tgt := 41) (by decide +kernel) rfl (fun h9 => absurd h9 (nI_ge (by omega) (by omega))) (fun _ => ?_)
    refine G.sl [(.iload_n 2, 1, 2, 0, 0, 0), (.aload_n 0, 1, 0, 0, 0, 0), (.getfield 68, 3, 11, 41, 164, 0), (.bipush 10, 2, 0, 0, 0, nI 10), (.iload_n 3, 1, 3, 0, 0, 0), (.iadd, 1, 0, 0, 0, 0), (.iaload, 1, 0, 0, 0, 0), (.iload_n 1, 1, 1, 0, 0, 0)] [10 + i3] (pc2 := 23) (ls2 := [some (.ref 54), some (.int x1), some (.int (k_heldBy_4 (M.1 72) x1 i3)), some (.int (nI i3))]) (st2 := [.int x1, .int (M.1 72 (10 + i3)), .int (k_heldBy_4 (M.1 72) x1 i3)]) (M2 := M) (Ps := [((nI 10) + (nI i3)) = nI (10 + i3) ∧ (10 + i3) < 51]) (by decide +kernel) rfl rfl ⟨⟨(nI_add _ _), (by omega)⟩, trivial⟩ ?_
    refine G.ic_ne (off := (9)) (tgt := 32) (by decide +kernel) rfl (fun c1 => ?_) (fun c1 => ?_)
    · skip
      refine G.sl [(.iconst 0, 1, 0, 0, 0, nI 0), (.ior, 1, 0, 0, 0, 0), (.istore_n 2, 1, 2, 0, 0, 0), (.iinc 3 1, 3, 3, 0, 0, nI 1), (.goto (-34), 3, 4, 0, 0, 0)] [] (pc2 := 4) (ls2 := [some (.ref 54), some (.int x1), some (.int ((k_heldBy_4 (M.1 72) x1 i3) ||| (nI 0))), some (.int ((nI i3) + nI 1))]) (st2 := []) (M2 := M) (Ps := []) (by decide +kernel) rfl rfl trivial ?_
      rw [nI_add i3 1]
      simp only [k_heldBy_4, if_neg c1] at ih
      exact ih
    · skip
      refine G.sl [(.iconst 1, 1, 0, 0, 0, nI 1), (.iload_n 3, 1, 3, 0, 0, 0), (.ishl, 1, 0, 0, 0, 0), (.goto 4, 3, 33, 0, 0, 0), (.ior, 1, 0, 0, 0, 0), (.istore_n 2, 1, 2, 0, 0, 0), (.iinc 3 1, 3, 3, 0, 0, nI 1), (.goto (-34), 3, 4, 0, 0, 0)] [] (pc2 := 4) (ls2 := [some (.ref 54), some (.int x1), some (.int ((k_heldBy_4 (M.1 72) x1 i3) ||| ((nI 1) <<< ((nI i3) &&& 31)))), some (.int ((nI i3) + nI 1))]) (st2 := []) (M2 := M) (Ps := []) (by decide +kernel) rfl rfl trivial ?_
      rw [nI_add i3 1]
      simp only [k_heldBy_4, if_pos c1] at ih
      exact ih
noncomputable def k_heldBy (Rs : Nat → Int32) (nt : Nat) (x1 : Int32) : Int32 := k_heldBy_4 (Rs) x1 nt
theorem c_k_heldBy_54 (z : Zp) (d : Nat) (M : Mem) (x1 : Int32) (nt : Nat) (hnt : nt ≤ 10) (ct : M.1 54 22 = nI nt) : GM z mX12_heldBy (d) [.ref 54, .int x1] M (fun rs => rs = .inl (some (.int (k_heldBy (M.1 72) nt x1)), M)) := by
  refine GM.of oX12_heldBy.1 (Nat.le_of_ble_eq_true rfl) ?_
  show G z mX12_heldBy (d) 0 0 0 [some (.ref 54), some (.int x1), none, none] [] M _
  obtain ⟨Q, hQ⟩ : ∃ Q : Rs → Prop, Q = (fun rs => rs = .inl (some (.int (k_heldBy (M.1 72) nt x1)), M)) := ⟨_, rfl⟩
  rw [← hQ]
  refine G.sl [(.iconst 0, 1, 0, 0, 0, nI 0), (.istore_n 2, 1, 2, 0, 0, 0), (.iconst 0, 1, 0, 0, 0, nI 0), (.istore_n 3, 1, 3, 0, 0, 0)] [] (pc2 := 4) (ls2 := [some (.ref 54), some (.int x1), some (.int (nI 0)), some (.int (nI 0))]) (st2 := []) (M2 := M) (Ps := []) (by decide +kernel) rfl rfl trivial ?_
  refine lp_k_heldBy_54_4 z d M Q x1 nt hnt ct ?_
  show G z mX12_heldBy (d) 0 0 41 [none, none, some (.int (k_heldBy_4 (M.1 72) x1 nt)), none] [] M Q
  refine G.sl [(.iload_n 2, 1, 2, 0, 0, 0)] [] (pc2 := 42) (ls2 := [none, none, some (.int (k_heldBy_4 (M.1 72) x1 nt)), none]) (st2 := [.int (k_heldBy_4 (M.1 72) x1 nt)]) (M2 := M) (Ps := []) (by decide +kernel) rfl rfl trivial ?_
  exact G.reti (by decide +kernel) rfl rfl (Nat.le_of_ble_eq_true rfl) (Nat.le_of_ble_eq_true rfl) ((by rw [hQ]; simp only [k_heldBy, mrow_self]))
noncomputable def k_worthOf_4 (Rthing : Nat → Int32) (x1 : Int32) : Nat → Int32
  | 0 => nI 0
  | i3 + 1 => (k_worthOf_4 Rthing x1 i3) + (((x1 >>> ((nI i3) &&& 31)) &&& (nI 1)) * (Rthing ((3 * i3) + 2)))
theorem lp_k_worthOf_54_4 (z : Zp) (d : Nat) (M : Mem) (Q : Rs → Prop) (x1 : Int32) (nt : Nat) (hnt : nt ≤ 10) (ct : M.1 54 22 = nI nt) (hX : G z mX12_worthOf (d) 0 0 37 [none, none, some (.int (k_worthOf_4 (M.1 61) x1 nt)), none] [] M Q) : G z mX12_worthOf (d) 0 0 4 [some (.ref 54), some (.int x1), some (.int (nI 0)), some (.int (nI 0))] [] M Q := by
  refine down (n := nt) (P := fun i3 => G z mX12_worthOf (d) 0 0 4 [some (.ref 54), some (.int x1), some (.int (k_worthOf_4 (M.1 61) x1 i3)), some (.int (nI i3))] [] M Q) ?_ ?_ 0 (Nat.zero_le _)
  · skip
    refine G.sl [(.iload_n 3, 1, 3, 0, 0, 0), (.aload_n 0, 1, 0, 0, 0, 0), (.getfield 162, 3, 11, 22, 145, 0)] [] (pc2 := 9) (ls2 := [some (.ref 54), some (.int x1), some (.int (k_worthOf_4 (M.1 61) x1 nt)), some (.int (nI nt))]) (st2 := [.int (M.1 54 22), .int (nI nt)]) (M2 := M) (Ps := []) (by decide +kernel) rfl rfl trivial ?_
    rw [ct]
    refine G.ic_ge (off := (28)) (tgt := 37) (by decide +kernel) rfl (fun _ => ?_) (fun h9 => absurd (nI_le (by omega) (by omega)) h9)
    refine G.loc (ls2 := [none, none, some (.int (k_worthOf_4 (M.1 61) x1 nt)), none]) (by simp [subL]) ?_
    exact hX
  · skip
    intro i3 hi ih
    show G z mX12_worthOf (d) 0 0 4 [some (.ref 54), some (.int x1), some (.int (k_worthOf_4 (M.1 61) x1 i3)), some (.int (nI i3))] [] M Q
    refine G.sl [(.iload_n 3, 1, 3, 0, 0, 0), (.aload_n 0, 1, 0, 0, 0, 0), (.getfield 162, 3, 11, 22, 145, 0)] [] (pc2 := 9) (ls2 := [some (.ref 54), some (.int x1), some (.int (k_worthOf_4 (M.1 61) x1 i3)), some (.int (nI i3))]) (st2 := [.int (M.1 54 22), .int (nI i3)]) (M2 := M) (Ps := []) (by decide +kernel) rfl rfl trivial ?_
    rw [ct]
    refine G.ic_ge (off := (28)) (tgt := 37) (by decide +kernel) rfl (fun h9 => absurd h9 (nI_ge (by omega) (by omega))) (fun _ => ?_)
    refine G.sl [(.iload_n 2, 1, 2, 0, 0, 0), (.iload_n 1, 1, 1, 0, 0, 0), (.iload_n 3, 1, 3, 0, 0, 0), (.ishr, 1, 0, 0, 0, 0), (.iconst 1, 1, 0, 0, 0, nI 1), (.iand, 1, 0, 0, 0, 0), (.aload_n 0, 1, 0, 0, 0, 0), (.getfield 35, 3, 11, 14, 137, 0), (.iconst 3, 1, 0, 0, 0, nI 3), (.iload_n 3, 1, 3, 0, 0, 0), (.imul, 1, 0, 0, 0, 0), (.iconst 2, 1, 0, 0, 0, nI 2), (.iadd, 1, 0, 0, 0, 0), (.iaload, 1, 0, 0, 0, 0), (.imul, 1, 0, 0, 0, 0), (.iadd, 1, 0, 0, 0, 0), (.istore_n 2, 1, 2, 0, 0, 0), (.iinc 3 1, 3, 3, 0, 0, nI 1), (.goto (-30), 3, 4, 0, 0, 0)] [(3 * i3) + 2] (pc2 := 4) (ls2 := [some (.ref 54), some (.int x1), some (.int ((k_worthOf_4 (M.1 61) x1 i3) + (((x1 >>> ((nI i3) &&& 31)) &&& (nI 1)) * (M.1 61 ((3 * i3) + 2))))), some (.int ((nI i3) + nI 1))]) (st2 := []) (M2 := M) (Ps := [(((nI 3) * (nI i3)) + (nI 2)) = nI ((3 * i3) + 2) ∧ ((3 * i3) + 2) < 30]) (by decide +kernel) rfl rfl ⟨⟨(nAdd (pk_mul _ _) rfl), (by omega)⟩, trivial⟩ ?_
    rw [nI_add i3 1]
    simp only [k_worthOf_4] at ih
    exact ih
noncomputable def k_worthOf (Rthing : Nat → Int32) (nt : Nat) (x1 : Int32) : Int32 := k_worthOf_4 (Rthing) x1 nt
theorem c_k_worthOf_54 (z : Zp) (d : Nat) (M : Mem) (x1 : Int32) (nt : Nat) (hnt : nt ≤ 10) (ct : M.1 54 22 = nI nt) : GM z mX12_worthOf (d) [.ref 54, .int x1] M (fun rs => rs = .inl (some (.int (k_worthOf (M.1 61) nt x1)), M)) := by
  refine GM.of oX12_worthOf.1 (Nat.le_of_ble_eq_true rfl) ?_
  show G z mX12_worthOf (d) 0 0 0 [some (.ref 54), some (.int x1), none, none] [] M _
  obtain ⟨Q, hQ⟩ : ∃ Q : Rs → Prop, Q = (fun rs => rs = .inl (some (.int (k_worthOf (M.1 61) nt x1)), M)) := ⟨_, rfl⟩
  rw [← hQ]
  refine G.sl [(.iconst 0, 1, 0, 0, 0, nI 0), (.istore_n 2, 1, 2, 0, 0, 0), (.iconst 0, 1, 0, 0, 0, nI 0), (.istore_n 3, 1, 3, 0, 0, 0)] [] (pc2 := 4) (ls2 := [some (.ref 54), some (.int x1), some (.int (nI 0)), some (.int (nI 0))]) (st2 := []) (M2 := M) (Ps := []) (by decide +kernel) rfl rfl trivial ?_
  refine lp_k_worthOf_54_4 z d M Q x1 nt hnt ct ?_
  show G z mX12_worthOf (d) 0 0 37 [none, none, some (.int (k_worthOf_4 (M.1 61) x1 nt)), none] [] M Q
  refine G.sl [(.iload_n 2, 1, 2, 0, 0, 0)] [] (pc2 := 38) (ls2 := [none, none, some (.int (k_worthOf_4 (M.1 61) x1 nt)), none]) (st2 := [.int (k_worthOf_4 (M.1 61) x1 nt)]) (M2 := M) (Ps := []) (by decide +kernel) rfl rfl trivial ?_
  exact G.reti (by decide +kernel) rfl rfl (Nat.le_of_ble_eq_true rfl) (Nat.le_of_ble_eq_true rfl) ((by rw [hQ]; simp only [k_worthOf, mrow_self]))
noncomputable def k_ones_4 (x0 : Int32) : Nat → Int32
  | 0 => nI 0
  | i2 + 1 => (k_ones_4 x0 i2) + ((x0 >>> ((nI i2) &&& 31)) &&& (nI 1))
theorem lp_k_ones_4 (z : Zp) (d : Nat) (M : Mem) (Q : Rs → Prop) (x0 : Int32) (hX : G z mX12_ones (d) 0 0 24 [none, some (.int (k_ones_4 x0 10)), none] [] M Q) : G z mX12_ones (d) 0 0 4 [some (.int x0), some (.int (nI 0)), some (.int (nI 0))] [] M Q := by
  refine down (n := 10) (P := fun i2 => G z mX12_ones (d) 0 0 4 [some (.int x0), some (.int (k_ones_4 x0 i2)), some (.int (nI i2))] [] M Q) ?_ ?_ 0 (Nat.zero_le _)
  · skip
    refine G.sl [(.iload_n 2, 1, 2, 0, 0, 0), (.bipush 10, 2, 0, 0, 0, nI 10)] [] (pc2 := 7) (ls2 := [some (.int x0), some (.int (k_ones_4 x0 10)), some (.int (nI 10))]) (st2 := [.int (nI 10), .int (nI 10)]) (M2 := M) (Ps := []) (by decide +kernel) rfl rfl trivial ?_
    refine G.ic_ge (off := (17)) (tgt := 24) (by decide +kernel) rfl (fun _ => ?_) (fun h9 => absurd (nI_le (by omega) (by omega)) h9)
    refine G.loc (ls2 := [none, some (.int (k_ones_4 x0 10)), none]) (by simp [subL]) ?_
    exact hX
  · skip
    intro i2 hi ih
    show G z mX12_ones (d) 0 0 4 [some (.int x0), some (.int (k_ones_4 x0 i2)), some (.int (nI i2))] [] M Q
    refine G.sl [(.iload_n 2, 1, 2, 0, 0, 0), (.bipush 10, 2, 0, 0, 0, nI 10)] [] (pc2 := 7) (ls2 := [some (.int x0), some (.int (k_ones_4 x0 i2)), some (.int (nI i2))]) (st2 := [.int (nI 10), .int (nI i2)]) (M2 := M) (Ps := []) (by decide +kernel) rfl rfl trivial ?_
    refine G.ic_ge (off := (17)) (tgt := 24) (by decide +kernel) rfl (fun h9 => absurd h9 (nI_ge (by omega) (by omega))) (fun _ => ?_)
    refine G.sl [(.iload_n 1, 1, 1, 0, 0, 0), (.iload_n 0, 1, 0, 0, 0, 0), (.iload_n 2, 1, 2, 0, 0, 0), (.ishr, 1, 0, 0, 0, 0), (.iconst 1, 1, 0, 0, 0, nI 1), (.iand, 1, 0, 0, 0, 0), (.iadd, 1, 0, 0, 0, 0), (.istore_n 1, 1, 1, 0, 0, 0), (.iinc 2 1, 3, 2, 0, 0, nI 1), (.goto (-17), 3, 4, 0, 0, 0)] [] (pc2 := 4) (ls2 := [some (.int x0), some (.int ((k_ones_4 x0 i2) + ((x0 >>> ((nI i2) &&& 31)) &&& (nI 1)))), some (.int ((nI i2) + nI 1))]) (st2 := []) (M2 := M) (Ps := []) (by decide +kernel) rfl rfl trivial ?_
    rw [nI_add i2 1]
    simp only [k_ones_4] at ih
    exact ih
noncomputable def k_ones (x0 : Int32) : Int32 := k_ones_4 x0 10
theorem c_k_ones (z : Zp) (d : Nat) (M : Mem) (x0 : Int32) : GM z mX12_ones (d) [.int x0] M (fun rs => rs = .inl (some (.int (k_ones x0)), M)) := by
  refine GM.of oX12_ones.1 (Nat.le_of_ble_eq_true rfl) ?_
  show G z mX12_ones (d) 0 0 0 [some (.int x0), none, none] [] M _
  obtain ⟨Q, hQ⟩ : ∃ Q : Rs → Prop, Q = (fun rs => rs = .inl (some (.int (k_ones x0)), M)) := ⟨_, rfl⟩
  rw [← hQ]
  refine G.sl [(.iconst 0, 1, 0, 0, 0, nI 0), (.istore_n 1, 1, 1, 0, 0, 0), (.iconst 0, 1, 0, 0, 0, nI 0), (.istore_n 2, 1, 2, 0, 0, 0)] [] (pc2 := 4) (ls2 := [some (.int x0), some (.int (nI 0)), some (.int (nI 0))]) (st2 := []) (M2 := M) (Ps := []) (by decide +kernel) rfl rfl trivial ?_
  refine lp_k_ones_4 z d M Q x0 ?_
  show G z mX12_ones (d) 0 0 24 [none, some (.int (k_ones_4 x0 10)), none] [] M Q
  refine G.sl [(.iload_n 1, 1, 1, 0, 0, 0)] [] (pc2 := 25) (ls2 := [none, some (.int (k_ones_4 x0 10)), none]) (st2 := [.int (k_ones_4 x0 10)]) (M2 := M) (Ps := []) (by decide +kernel) rfl rfl trivial ?_
  exact G.reti (by decide +kernel) rfl rfl (Nat.le_of_ble_eq_true rfl) (Nat.le_of_ble_eq_true rfl) ((by rw [hQ]; simp only [k_ones, mrow_self]))
noncomputable def k_settle_31 (Rthing Rs : Nat → Int32) (nt : Nat) (x1 : Int32) (x2 : Int32) : Nat → Int32 → Int32 → Int32 × Int32
  | 0, s3, s4 => (s3, s4)
  | k0 + 1, s3, s4 => (if x2 < s4 then (s3, s4) else (if (Rs (26 + (ix x1))) ≤ 0 then (s3, s4) else (if (s4 &&& (x2 ^^^ ((-1)))) = 0 then (if (Rs (26 + (ix x1))) ≤ (k_worthOf (Rthing) nt s4) then (if s3 = ((-1)) then k_settle_31 Rthing Rs nt x1 x2 k0 s4 (s4 + nI 1) else (if (k_worthOf (Rthing) nt s4) < (k_worthOf (Rthing) nt s3) then k_settle_31 Rthing Rs nt x1 x2 k0 s4 (s4 + nI 1) else (if (k_worthOf (Rthing) nt s4) = (k_worthOf (Rthing) nt s3) then (if (k_ones s3) ≤ (k_ones s4) then k_settle_31 Rthing Rs nt x1 x2 k0 s3 (s4 + nI 1) else k_settle_31 Rthing Rs nt x1 x2 k0 s4 (s4 + nI 1)) else k_settle_31 Rthing Rs nt x1 x2 k0 s3 (s4 + nI 1)))) else k_settle_31 Rthing Rs nt x1 x2 k0 s3 (s4 + nI 1)) else k_settle_31 Rthing Rs nt x1 x2 k0 s3 (s4 + nI 1))))
noncomputable def k_settle_31_ok (Rthing Rs : Nat → Int32) (nt : Nat) (x1 : Int32) (x2 : Int32) : Nat → Int32 → Int32 → Prop
  | 0, _, _ => False
  | k0 + 1, s3, s4 => (if x2 < s4 then True else ((isN x1) ∧ (26 + (ix x1) < 51) ∧ (if (Rs (26 + (ix x1))) ≤ 0 then True else (True ∧ (if (s4 &&& (x2 ^^^ ((-1)))) = 0 then (if (Rs (26 + (ix x1))) ≤ (k_worthOf (Rthing) nt s4) then (if s3 = ((-1)) then k_settle_31_ok Rthing Rs nt x1 x2 k0 s4 (s4 + nI 1) else (True ∧ (if (k_worthOf (Rthing) nt s4) < (k_worthOf (Rthing) nt s3) then k_settle_31_ok Rthing Rs nt x1 x2 k0 s4 (s4 + nI 1) else (True ∧ (if (k_worthOf (Rthing) nt s4) = (k_worthOf (Rthing) nt s3) then (True ∧ (True ∧ (if (k_ones s3) ≤ (k_ones s4) then k_settle_31_ok Rthing Rs nt x1 x2 k0 s3 (s4 + nI 1) else k_settle_31_ok Rthing Rs nt x1 x2 k0 s4 (s4 + nI 1)))) else k_settle_31_ok Rthing Rs nt x1 x2 k0 s3 (s4 + nI 1)))))) else k_settle_31_ok Rthing Rs nt x1 x2 k0 s3 (s4 + nI 1)) else k_settle_31_ok Rthing Rs nt x1 x2 k0 s3 (s4 + nI 1))))))
theorem lp_k_settle_54_31 (z : Zp) (d : Nat) (M : Mem) (Q : Rs → Prop) (x1 : Int32) (x2 : Int32) (nt : Nat) (hnt : nt ≤ 10) (ct : M.1 54 22 = nI nt) : ∀ (k0 : Nat) (s3 : Int32) (s4 : Int32), k_settle_31_ok (M.1 61) (M.1 72) nt x1 x2 k0 s3 s4 → (match k_settle_31 (M.1 61) (M.1 72) nt x1 x2 k0 s3 s4 with | (s3', s4') => G z mX12_settle (d + 2) 0 0 129 [some (.ref 54), some (.int x1), none, some (.int (s3')), none, none] [] M Q) → G z mX12_settle (d + 2) 0 0 31 [some (.ref 54), some (.int x1), some (.int x2), some (.int s3), some (.int s4), none] [] M Q := by
  intro k0
  induction k0 with
  | zero =>
      intro s3 s4 hk hX
      exact (by simpa only [k_settle_31_ok] using hk : False).elim
  | succ k0 ih =>
      intro s3 s4 hk hX
      simp only [k_settle_31_ok] at hk
      refine G.sl [(.iload 4, 2, 4, 0, 0, 0), (.iload_n 2, 1, 2, 0, 0, 0)] [] (pc2 := 34) (ls2 := [some (.ref 54), some (.int x1), some (.int x2), some (.int s3), some (.int s4), none]) (st2 := [.int x2, .int s4]) (M2 := M) (Ps := []) (by decide +kernel) rfl rfl trivial ?_
      refine G.ic_gt (off := (95)) (tgt := 129) (by decide +kernel) rfl (fun c20 => ?_) (fun c20 => ?_)
      · skip
        rw [if_pos c20] at hk
        refine G.loc (ls2 := [some (.ref 54), some (.int x1), none, some (.int s3), none, none]) (by simp [subL]) ?_
        simp only [k_settle_31, if_pos c20] at hX
        exact hX
      · skip
        rw [if_neg c20] at hk
        obtain ⟨k21, k22, hk⟩ := hk
        refine G.sl [(.aload_n 0, 1, 0, 0, 0, 0), (.getfield 68, 3, 11, 41, 164, 0), (.bipush 26, 2, 0, 0, 0, nI 26), (.iload_n 1, 1, 1, 0, 0, 0), (.iadd, 1, 0, 0, 0, 0), (.iaload, 1, 0, 0, 0, 0)] [26 + (ix x1)] (pc2 := 46) (ls2 := [some (.ref 54), some (.int x1), some (.int x2), some (.int s3), some (.int s4), none]) (st2 := [.int (M.1 72 (26 + (ix x1)))]) (M2 := M) (Ps := [((nI 26) + x1) = nI (26 + (ix x1)) ∧ (26 + (ix x1)) < 51]) (by decide +kernel) rfl rfl ⟨⟨(nAdd rfl (ixE k21)), k22⟩, trivial⟩ ?_
        refine G.if_le (off := (83)) (tgt := 129) (by decide +kernel) rfl (fun c23 => ?_) (fun c23 => ?_)
        · skip
          rw [if_pos c23] at hk
          refine G.loc (ls2 := [some (.ref 54), some (.int x1), none, some (.int s3), none, none]) (by simp [subL]) ?_
          simp only [k_settle_31, if_neg c20, if_pos c23] at hX
          exact hX
        · skip
          rw [if_neg c23] at hk
          refine G.sl [(.aload_n 0, 1, 0, 0, 0, 0), (.iload 4, 2, 4, 0, 0, 0)] [] (pc2 := 52) (ls2 := [some (.ref 54), some (.int x1), some (.int x2), some (.int s3), some (.int s4), none]) (st2 := [.int s4, .ref 54]) (M2 := M) (Ps := []) (by decide +kernel) rfl rfl trivial ?_
          obtain ⟨k24, hk⟩ := hk
          have t25 : GM z mX12_worthOf (d + 1) [.ref 54, .int s4] M (fun rs => rs = .inl (some (.int (k_worthOf (M.1 61) nt s4)), M)) := by
            have q9 := c_k_worthOf_54 z (d + 1) M s4 nt hnt ct
            try simp only [mrow_same, mrow_hit, mrow_miss, mrow_swap, ne_eq, Nat.reduceEqDiff, not_false_eq_true, Nat.reduceLT, reduceCtorEq] at q9
            exact q9
          refine G.callV (as := [.int s4]) (rest := []) (a := 54) oX12_worthOf lk_EvenFindersModel_388 (by decide +kernel) rfl rfl ⟨rfl, rfl⟩ (Nat.le_of_ble_eq_true rfl) rfl ⟨Nat.le_of_ble_eq_true rfl, Nat.le_of_ble_eq_true rfl⟩ t25 (fun v9 N9 h26 => ?_) (fun E9 N9 h26 => by cases h26)
          cases h26
          show G z mX12_settle (d + 2) 0 0 55 [some (.ref 54), some (.int x1), some (.int x2), some (.int s3), some (.int s4), none] [.int (k_worthOf (M.1 61) nt s4)] M Q
          refine G.sl [(.istore 5, 2, 5, 0, 0, 0), (.iload 4, 2, 4, 0, 0, 0), (.iload_n 2, 1, 2, 0, 0, 0), (.iconst (-1), 1, 0, 0, 0, (-1)), (.ixor, 1, 0, 0, 0, 0), (.iand, 1, 0, 0, 0, 0)] [] (pc2 := 63) (ls2 := [some (.ref 54), some (.int x1), some (.int x2), some (.int s3), some (.int s4), some (.int (k_worthOf (M.1 61) nt s4))]) (st2 := [.int (s4 &&& (x2 ^^^ ((-1))))]) (M2 := M) (Ps := []) (by decide +kernel) rfl rfl trivial ?_
          refine G.if_ne (off := (60)) (tgt := 123) (by decide +kernel) rfl (fun c27 => ?_) (fun c27 => ?_)
          · skip
            rw [if_neg c27] at hk
            refine G.sl [(.iinc 4 1, 3, 4, 0, 0, nI 1), (.goto (-95), 3, 31, 0, 0, 0)] [] (pc2 := 31) (ls2 := [some (.ref 54), some (.int x1), some (.int x2), some (.int s3), some (.int (s4 + nI 1)), some (.int (k_worthOf (M.1 61) nt s4))]) (st2 := []) (M2 := M) (Ps := []) (by decide +kernel) rfl rfl trivial ?_
            refine G.loc (ls2 := [some (.ref 54), some (.int x1), some (.int x2), some (.int s3), some (.int (s4 + nI 1)), none]) (by simp [subL]) ?_
            simp only [k_settle_31, if_neg c20, if_neg c23, if_neg c27] at hX
            exact ih s3 (s4 + nI 1) hk hX
          · skip
            rw [if_pos c27] at hk
            refine G.sl [(.iload 5, 2, 5, 0, 0, 0), (.aload_n 0, 1, 0, 0, 0, 0), (.getfield 68, 3, 11, 41, 164, 0), (.bipush 26, 2, 0, 0, 0, nI 26), (.iload_n 1, 1, 1, 0, 0, 0), (.iadd, 1, 0, 0, 0, 0), (.iaload, 1, 0, 0, 0, 0)] [26 + (ix x1)] (pc2 := 77) (ls2 := [some (.ref 54), some (.int x1), some (.int x2), some (.int s3), some (.int s4), some (.int (k_worthOf (M.1 61) nt s4))]) (st2 := [.int (M.1 72 (26 + (ix x1))), .int (k_worthOf (M.1 61) nt s4)]) (M2 := M) (Ps := [((nI 26) + x1) = nI (26 + (ix x1)) ∧ (26 + (ix x1)) < 51]) (by decide +kernel) rfl rfl ⟨⟨(nAdd rfl (ixE k21)), k22⟩, trivial⟩ ?_
            refine G.ic_ge (off := (6)) (tgt := 83) (by decide +kernel) rfl (fun c28 => ?_) (fun c28 => ?_)
            · skip
              rw [if_pos c28] at hk
              refine G.sl [(.iload_n 3, 1, 3, 0, 0, 0), (.iconst (-1), 1, 0, 0, 0, (-1))] [] (pc2 := 85) (ls2 := [some (.ref 54), some (.int x1), some (.int x2), some (.int s3), some (.int s4), some (.int (k_worthOf (M.1 61) nt s4))]) (st2 := [.int ((-1)), .int s3]) (M2 := M) (Ps := []) (by decide +kernel) rfl rfl trivial ?_
              refine G.ic_eq (off := (35)) (tgt := 120) (by decide +kernel) rfl (fun c29 => ?_) (fun c29 => ?_)
              · skip
                rw [if_pos c29] at hk
                refine G.sl [(.iload 4, 2, 4, 0, 0, 0), (.istore_n 3, 1, 3, 0, 0, 0), (.iinc 4 1, 3, 4, 0, 0, nI 1), (.goto (-95), 3, 31, 0, 0, 0)] [] (pc2 := 31) (ls2 := [some (.ref 54), some (.int x1), some (.int x2), some (.int s4), some (.int (s4 + nI 1)), some (.int (k_worthOf (M.1 61) nt s4))]) (st2 := []) (M2 := M) (Ps := []) (by decide +kernel) rfl rfl trivial ?_
                refine G.loc (ls2 := [some (.ref 54), some (.int x1), some (.int x2), some (.int s4), some (.int (s4 + nI 1)), none]) (by simp [subL]) ?_
                simp only [k_settle_31, if_neg c20, if_neg c23, if_pos c27, if_pos c28, if_pos c29] at hX
                exact ih s4 (s4 + nI 1) hk hX
              · skip
                rw [if_neg c29] at hk
                refine G.sl [(.iload 5, 2, 5, 0, 0, 0), (.aload_n 0, 1, 0, 0, 0, 0), (.iload_n 3, 1, 3, 0, 0, 0)] [] (pc2 := 92) (ls2 := [some (.ref 54), some (.int x1), some (.int x2), some (.int s3), some (.int s4), some (.int (k_worthOf (M.1 61) nt s4))]) (st2 := [.int s3, .ref 54, .int (k_worthOf (M.1 61) nt s4)]) (M2 := M) (Ps := []) (by decide +kernel) rfl rfl trivial ?_
                obtain ⟨k30, hk⟩ := hk
                have t31 : GM z mX12_worthOf (d + 1) [.ref 54, .int s3] M (fun rs => rs = .inl (some (.int (k_worthOf (M.1 61) nt s3)), M)) := by
                  have q9 := c_k_worthOf_54 z (d + 1) M s3 nt hnt ct
                  try simp only [mrow_same, mrow_hit, mrow_miss, mrow_swap, ne_eq, Nat.reduceEqDiff, not_false_eq_true, Nat.reduceLT, reduceCtorEq] at q9
                  exact q9
                refine G.callV (as := [.int s3]) (rest := [.int (k_worthOf (M.1 61) nt s4)]) (a := 54) oX12_worthOf lk_EvenFindersModel_388 (by decide +kernel) rfl rfl ⟨rfl, rfl⟩ (Nat.le_of_ble_eq_true rfl) rfl ⟨Nat.le_of_ble_eq_true rfl, Nat.le_of_ble_eq_true rfl⟩ t31 (fun v9 N9 h32 => ?_) (fun E9 N9 h32 => by cases h32)
                cases h32
                show G z mX12_settle (d + 2) 0 0 95 [some (.ref 54), some (.int x1), some (.int x2), some (.int s3), some (.int s4), some (.int (k_worthOf (M.1 61) nt s4))] [.int (k_worthOf (M.1 61) nt s3), .int (k_worthOf (M.1 61) nt s4)] M Q
                refine G.ic_lt (off := (25)) (tgt := 120) (by decide +kernel) rfl (fun c33 => ?_) (fun c33 => ?_)
                · skip
                  rw [if_pos c33] at hk
                  refine G.sl [(.iload 4, 2, 4, 0, 0, 0), (.istore_n 3, 1, 3, 0, 0, 0), (.iinc 4 1, 3, 4, 0, 0, nI 1), (.goto (-95), 3, 31, 0, 0, 0)] [] (pc2 := 31) (ls2 := [some (.ref 54), some (.int x1), some (.int x2), some (.int s4), some (.int (s4 + nI 1)), some (.int (k_worthOf (M.1 61) nt s4))]) (st2 := []) (M2 := M) (Ps := []) (by decide +kernel) rfl rfl trivial ?_
                  refine G.loc (ls2 := [some (.ref 54), some (.int x1), some (.int x2), some (.int s4), some (.int (s4 + nI 1)), none]) (by simp [subL]) ?_
                  simp only [k_settle_31, if_neg c20, if_neg c23, if_pos c27, if_pos c28, if_neg c29, if_pos c33] at hX
                  exact ih s4 (s4 + nI 1) hk hX
                · skip
                  rw [if_neg c33] at hk
                  refine G.sl [(.iload 5, 2, 5, 0, 0, 0), (.aload_n 0, 1, 0, 0, 0, 0), (.iload_n 3, 1, 3, 0, 0, 0)] [] (pc2 := 102) (ls2 := [some (.ref 54), some (.int x1), some (.int x2), some (.int s3), some (.int s4), some (.int (k_worthOf (M.1 61) nt s4))]) (st2 := [.int s3, .ref 54, .int (k_worthOf (M.1 61) nt s4)]) (M2 := M) (Ps := []) (by decide +kernel) rfl rfl trivial ?_
                  obtain ⟨k34, hk⟩ := hk
                  have t35 : GM z mX12_worthOf (d + 1) [.ref 54, .int s3] M (fun rs => rs = .inl (some (.int (k_worthOf (M.1 61) nt s3)), M)) := by
                    have q9 := c_k_worthOf_54 z (d + 1) M s3 nt hnt ct
                    try simp only [mrow_same, mrow_hit, mrow_miss, mrow_swap, ne_eq, Nat.reduceEqDiff, not_false_eq_true, Nat.reduceLT, reduceCtorEq] at q9
                    exact q9
                  refine G.callV (as := [.int s3]) (rest := [.int (k_worthOf (M.1 61) nt s4)]) (a := 54) oX12_worthOf lk_EvenFindersModel_388 (by decide +kernel) rfl rfl ⟨rfl, rfl⟩ (Nat.le_of_ble_eq_true rfl) rfl ⟨Nat.le_of_ble_eq_true rfl, Nat.le_of_ble_eq_true rfl⟩ t35 (fun v9 N9 h36 => ?_) (fun E9 N9 h36 => by cases h36)
                  cases h36
                  show G z mX12_settle (d + 2) 0 0 105 [some (.ref 54), some (.int x1), some (.int x2), some (.int s3), some (.int s4), some (.int (k_worthOf (M.1 61) nt s4))] [.int (k_worthOf (M.1 61) nt s3), .int (k_worthOf (M.1 61) nt s4)] M Q
                  refine G.ic_ne (off := (18)) (tgt := 123) (by decide +kernel) rfl (fun c37 => ?_) (fun c37 => ?_)
                  · skip
                    rw [if_neg c37] at hk
                    refine G.sl [(.iinc 4 1, 3, 4, 0, 0, nI 1), (.goto (-95), 3, 31, 0, 0, 0)] [] (pc2 := 31) (ls2 := [some (.ref 54), some (.int x1), some (.int x2), some (.int s3), some (.int (s4 + nI 1)), some (.int (k_worthOf (M.1 61) nt s4))]) (st2 := []) (M2 := M) (Ps := []) (by decide +kernel) rfl rfl trivial ?_
                    refine G.loc (ls2 := [some (.ref 54), some (.int x1), some (.int x2), some (.int s3), some (.int (s4 + nI 1)), none]) (by simp [subL]) ?_
                    simp only [k_settle_31, if_neg c20, if_neg c23, if_pos c27, if_pos c28, if_neg c29, if_neg c33, if_neg c37] at hX
                    exact ih s3 (s4 + nI 1) hk hX
                  · skip
                    rw [if_pos c37] at hk
                    refine G.sl [(.iload 4, 2, 4, 0, 0, 0)] [] (pc2 := 110) (ls2 := [some (.ref 54), some (.int x1), some (.int x2), some (.int s3), some (.int s4), some (.int (k_worthOf (M.1 61) nt s4))]) (st2 := [.int s4]) (M2 := M) (Ps := []) (by decide +kernel) rfl rfl trivial ?_
                    obtain ⟨k38, hk⟩ := hk
                    have t39 : GM z mX12_ones (d + 1) [.int s4] M (fun rs => rs = .inl (some (.int (k_ones s4)), M)) := by
                      have q9 := c_k_ones z (d + 1) M s4
                      try simp only [mrow_same, mrow_hit, mrow_miss, mrow_swap, ne_eq, Nat.reduceEqDiff, not_false_eq_true, Nat.reduceLT, reduceCtorEq] at q9
                      exact q9
                    refine G.callS (as := [.int s4]) (rest := []) oX12_ones lk_EvenFindersModel_345 (by decide +kernel) rfl (Nat.le_of_ble_eq_true rfl) rfl ⟨Nat.le_of_ble_eq_true rfl, Nat.le_of_ble_eq_true rfl⟩ t39 (fun v9 N9 h40 => ?_) (fun E9 N9 h40 => by cases h40)
                    cases h40
                    show G z mX12_settle (d + 2) 0 0 113 [some (.ref 54), some (.int x1), some (.int x2), some (.int s3), some (.int s4), some (.int (k_worthOf (M.1 61) nt s4))] [.int (k_ones s4)] M Q
                    refine G.sl [(.iload_n 3, 1, 3, 0, 0, 0)] [] (pc2 := 114) (ls2 := [some (.ref 54), some (.int x1), some (.int x2), some (.int s3), some (.int s4), some (.int (k_worthOf (M.1 61) nt s4))]) (st2 := [.int s3, .int (k_ones s4)]) (M2 := M) (Ps := []) (by decide +kernel) rfl rfl trivial ?_
                    obtain ⟨k41, hk⟩ := hk
                    have t42 : GM z mX12_ones (d + 1) [.int s3] M (fun rs => rs = .inl (some (.int (k_ones s3)), M)) := by
                      have q9 := c_k_ones z (d + 1) M s3
                      try simp only [mrow_same, mrow_hit, mrow_miss, mrow_swap, ne_eq, Nat.reduceEqDiff, not_false_eq_true, Nat.reduceLT, reduceCtorEq] at q9
                      exact q9
                    refine G.callS (as := [.int s3]) (rest := [.int (k_ones s4)]) oX12_ones lk_EvenFindersModel_345 (by decide +kernel) rfl (Nat.le_of_ble_eq_true rfl) rfl ⟨Nat.le_of_ble_eq_true rfl, Nat.le_of_ble_eq_true rfl⟩ t42 (fun v9 N9 h43 => ?_) (fun E9 N9 h43 => by cases h43)
                    cases h43
                    show G z mX12_settle (d + 2) 0 0 117 [some (.ref 54), some (.int x1), some (.int x2), some (.int s3), some (.int s4), some (.int (k_worthOf (M.1 61) nt s4))] [.int (k_ones s3), .int (k_ones s4)] M Q
                    refine G.ic_ge (off := (6)) (tgt := 123) (by decide +kernel) rfl (fun c44 => ?_) (fun c44 => ?_)
                    · skip
                      rw [if_pos c44] at hk
                      refine G.sl [(.iinc 4 1, 3, 4, 0, 0, nI 1), (.goto (-95), 3, 31, 0, 0, 0)] [] (pc2 := 31) (ls2 := [some (.ref 54), some (.int x1), some (.int x2), some (.int s3), some (.int (s4 + nI 1)), some (.int (k_worthOf (M.1 61) nt s4))]) (st2 := []) (M2 := M) (Ps := []) (by decide +kernel) rfl rfl trivial ?_
                      refine G.loc (ls2 := [some (.ref 54), some (.int x1), some (.int x2), some (.int s3), some (.int (s4 + nI 1)), none]) (by simp [subL]) ?_
                      simp only [k_settle_31, if_neg c20, if_neg c23, if_pos c27, if_pos c28, if_neg c29, if_neg c33, if_pos c37, if_pos c44] at hX
                      exact ih s3 (s4 + nI 1) hk hX
                    · skip
                      rw [if_neg c44] at hk
                      refine G.sl [(.iload 4, 2, 4, 0, 0, 0), (.istore_n 3, 1, 3, 0, 0, 0), (.iinc 4 1, 3, 4, 0, 0, nI 1), (.goto (-95), 3, 31, 0, 0, 0)] [] (pc2 := 31) (ls2 := [some (.ref 54), some (.int x1), some (.int x2), some (.int s4), some (.int (s4 + nI 1)), some (.int (k_worthOf (M.1 61) nt s4))]) (st2 := []) (M2 := M) (Ps := []) (by decide +kernel) rfl rfl trivial ?_
                      refine G.loc (ls2 := [some (.ref 54), some (.int x1), some (.int x2), some (.int s4), some (.int (s4 + nI 1)), none]) (by simp [subL]) ?_
                      simp only [k_settle_31, if_neg c20, if_neg c23, if_pos c27, if_pos c28, if_neg c29, if_neg c33, if_pos c37, if_neg c44] at hX
                      exact ih s4 (s4 + nI 1) hk hX
            · skip
              rw [if_neg c28] at hk
              refine G.sl [(.goto 43, 3, 123, 0, 0, 0), (.iinc 4 1, 3, 4, 0, 0, nI 1), (.goto (-95), 3, 31, 0, 0, 0)] [] (pc2 := 31) (ls2 := [some (.ref 54), some (.int x1), some (.int x2), some (.int s3), some (.int (s4 + nI 1)), some (.int (k_worthOf (M.1 61) nt s4))]) (st2 := []) (M2 := M) (Ps := []) (by decide +kernel) rfl rfl trivial ?_
              refine G.loc (ls2 := [some (.ref 54), some (.int x1), some (.int x2), some (.int s3), some (.int (s4 + nI 1)), none]) (by simp [subL]) ?_
              simp only [k_settle_31, if_neg c20, if_neg c23, if_pos c27, if_neg c28] at hX
              exact ih s3 (s4 + nI 1) hk hX
noncomputable def k_settle (Rmd Rrefused Rthing Rnow Rs : Nat → Int32) (nf : Nat) (x1 : Int32) : Int32 × (Nat → Int32) × (Nat → Int32) × (Nat → Int32) := (match k_isFinder (upd (Rmd) 0 (nI 0)) (Rrefused) nf x1 (nI 1) with | (v3, r4, r5) => (if v3 = 0 then (nI 0, r4, r5, Rs) else (match k_take (Rnow) (Rs) with | (u11, r12) => (match k_settle_31 (Rthing) r12 (ix (r4 22)) x1 (k_heldBy r12 (ix (r4 22)) x1) FU ((-1)) (nI 0) with | (v47, v48) => (if 0 < (r12 (26 + (ix x1))) then (v47, r4, r5, r12) else (nI 0, r4, r5, r12))))))
noncomputable def k_settle_ok (Rmd Rrefused Rthing Rnow Rs : Nat → Int32) (nf : Nat) (x1 : Int32) : Prop := (k_isFinder_ok (upd (Rmd) 0 (nI 0)) (Rrefused) nf x1 (nI 1) ∧ (match k_isFinder (upd (Rmd) 0 (nI 0)) (Rrefused) nf x1 (nI 1) with | (v3, r4, r5) => (if v3 = 0 then True else (k_take_ok (Rnow) (Rs) ∧ (match k_take (Rnow) (Rs) with | (u11, r12) => ((isN (r4 22)) ∧ (ix (r4 22) ≤ 10) ∧ (True ∧ (k_settle_31_ok (Rthing) r12 (ix (r4 22)) x1 (k_heldBy r12 (ix (r4 22)) x1) FU ((-1)) (nI 0) ∧ (match k_settle_31 (Rthing) r12 (ix (r4 22)) x1 (k_heldBy r12 (ix (r4 22)) x1) FU ((-1)) (nI 0) with | (v47, v48) => ((isN x1) ∧ (26 + (ix x1) < 51) ∧ True))))))))))
theorem c_k_settle_54 (z : Zp) (d : Nat) (M : Mem) (x1 : Int32) (nf : Nat) (hnf : nf ≤ 6) (cf : M.1 54 23 = nI nf) (hk : k_settle_ok (M.1 54) (M.1 55) (M.1 61) (M.1 71) (M.1 72) nf x1) : GM z mX12_settle (d + 2) [.ref 54, .int x1] M (fun rs => rs = .inl (some (.int ((k_settle (M.1 54) (M.1 55) (M.1 61) (M.1 71) (M.1 72) nf x1).1)), mrow (mrow (mrow M 54 ((k_settle (M.1 54) (M.1 55) (M.1 61) (M.1 71) (M.1 72) nf x1).2.1)) 55 ((k_settle (M.1 54) (M.1 55) (M.1 61) (M.1 71) (M.1 72) nf x1).2.2.1)) 72 ((k_settle (M.1 54) (M.1 55) (M.1 61) (M.1 71) (M.1 72) nf x1).2.2.2))) := by
  simp only [k_settle_ok] at hk
  refine GM.of oX12_settle.1 (Nat.le_of_ble_eq_true rfl) ?_
  show G z mX12_settle (d + 2) 0 0 0 [some (.ref 54), some (.int x1), none, none, none, none] [] M _
  obtain ⟨Q, hQ⟩ : ∃ Q : Rs → Prop, Q = (fun rs => rs = .inl (some (.int ((k_settle (M.1 54) (M.1 55) (M.1 61) (M.1 71) (M.1 72) nf x1).1)), mrow (mrow (mrow M 54 ((k_settle (M.1 54) (M.1 55) (M.1 61) (M.1 71) (M.1 72) nf x1).2.1)) 55 ((k_settle (M.1 54) (M.1 55) (M.1 61) (M.1 71) (M.1 72) nf x1).2.2.1)) 72 ((k_settle (M.1 54) (M.1 55) (M.1 61) (M.1 71) (M.1 72) nf x1).2.2.2))) := ⟨_, rfl⟩
  rw [← hQ]
  refine G.sl [(.aload_n 0, 1, 0, 0, 0, 0), (.iconst 0, 1, 0, 0, 0, nI 0), (.putfield 3, 3, 11, 0, 123, 0), (.aload_n 0, 1, 0, 0, 0, 0), (.iload_n 1, 1, 1, 0, 0, 0), (.iconst 1, 1, 0, 0, 0, nI 1)] [] (pc2 := 8) (ls2 := [some (.ref 54), some (.int x1), none, none, none, none]) (st2 := [.int (nI 1), .int x1, .ref 54]) (M2 := mput M 54 0 (nI 0)) (Ps := []) (by decide +kernel) rfl rfl trivial ?_
  refine G.mem (M' := mrow M 54 (upd (M.1 54) 0 (nI 0))) (by first | rfl | (simp only [mrow_same, mrow_hit, mrow_miss, mrow_swap, ne_eq, Nat.reduceEqDiff, not_false_eq_true, Nat.reduceLT, reduceCtorEq]; done)) ?_
  obtain ⟨k1, hk⟩ := hk
  rcases g2 : k_isFinder (upd (M.1 54) 0 (nI 0)) (M.1 55) nf x1 (nI 1) with ⟨v3, r4, r5⟩
  try simp only [g2] at hk
  have ev3 : v3 = 0 ∨ v3 = 1 := by
    have q9 := k_isFinder_01 (upd (M.1 54) 0 (nI 0)) (M.1 55) nf x1 (nI 1)
    rw [g2] at q9
    exact q9
  have t6 : GM z mX12_isFinder (d + 1) [.ref 54, .int x1, .int (nI 1)] (mrow M 54 (upd (M.1 54) 0 (nI 0))) (fun rs => rs = .inl (some (.int v3), mrow (mrow M 54 r4) 55 r5)) := by
    have q9 := c_k_isFinder_54 z d (mrow M 54 (upd (M.1 54) 0 (nI 0))) x1 (nI 1) nf hnf cf k1
    try simp only [mrow_same, mrow_hit, mrow_miss, mrow_swap, ne_eq, Nat.reduceEqDiff, not_false_eq_true, Nat.reduceLT, reduceCtorEq, g2] at q9
    exact q9
  refine G.callV (as := [.int x1, .int (nI 1)]) (rest := []) (a := 54) oX12_isFinder lk_EvenFindersModel_400 (by decide +kernel) rfl rfl ⟨rfl, rfl⟩ (Nat.le_of_ble_eq_true rfl) rfl ⟨Nat.le_of_ble_eq_true rfl, Nat.le_of_ble_eq_true rfl⟩ t6 (fun v9 N9 h7 => ?_) (fun E9 N9 h7 => by cases h7)
  cases h7
  show G z mX12_settle (d + 2) 0 0 11 [some (.ref 54), some (.int x1), none, none, none, none] [.int v3] (mrow (mrow M 54 r4) 55 r5) Q
  refine G.if_ne (off := (5)) (tgt := 16) (by decide +kernel) rfl (fun c8 => ?_) (fun c8 => ?_)
  · skip
    rw [if_neg c8] at hk
    refine G.sl [(.aload_n 0, 1, 0, 0, 0, 0)] [] (pc2 := 17) (ls2 := [some (.ref 54), some (.int x1), none, none, none, none]) (st2 := [.ref 54]) (M2 := mrow (mrow M 54 r4) 55 r5) (Ps := []) (by decide +kernel) rfl rfl trivial ?_
    obtain ⟨k9, hk⟩ := hk
    rcases g10 : k_take (M.1 71) (M.1 72) with ⟨u11, r12⟩
    try simp only [g10] at hk
    have t13 : GM z mX12_take (d + 1) [.ref 54] (mrow (mrow M 54 r4) 55 r5) (fun rs => rs = .inl (none, mrow (mrow (mrow M 54 r4) 55 r5) 72 r12)) := by
      have q9 := c_k_take_54 z d (mrow (mrow M 54 r4) 55 r5) k9
      try simp only [mrow_same, mrow_hit, mrow_miss, mrow_swap, ne_eq, Nat.reduceEqDiff, not_false_eq_true, Nat.reduceLT, reduceCtorEq, g10] at q9
      exact q9
    refine G.callV (as := []) (rest := []) (a := 54) oX12_take lk_EvenFindersModel_320 (by decide +kernel) rfl rfl ⟨rfl, rfl⟩ (Nat.le_of_ble_eq_true rfl) rfl ⟨Nat.le_of_ble_eq_true rfl, Nat.le_of_ble_eq_true rfl⟩ t13 (fun v9 N9 h14 => ?_) (fun E9 N9 h14 => by cases h14)
    cases h14
    show G z mX12_settle (d + 2) 0 0 20 [some (.ref 54), some (.int x1), none, none, none, none] [] (mrow (mrow (mrow M 54 r4) 55 r5) 72 r12) Q
    refine G.sl [(.aload_n 0, 1, 0, 0, 0, 0), (.iload_n 1, 1, 1, 0, 0, 0)] [] (pc2 := 22) (ls2 := [some (.ref 54), some (.int x1), none, none, none, none]) (st2 := [.int x1, .ref 54]) (M2 := mrow (mrow (mrow M 54 r4) 55 r5) 72 r12) (Ps := []) (by decide +kernel) rfl rfl trivial ?_
    obtain ⟨k15, k16, hk⟩ := hk
    obtain ⟨k17, hk⟩ := hk
    have t18 : GM z mX12_heldBy (d + 1) [.ref 54, .int x1] (mrow (mrow (mrow M 54 r4) 55 r5) 72 r12) (fun rs => rs = .inl (some (.int (k_heldBy r12 (ix (r4 22)) x1)), mrow (mrow (mrow M 54 r4) 55 r5) 72 r12)) := by
      have q9 := c_k_heldBy_54 z (d + 1) (mrow (mrow (mrow M 54 r4) 55 r5) 72 r12) x1 (ix (r4 22)) k16 (ixE k15)
      try simp only [mrow_same, mrow_hit, mrow_miss, mrow_swap, ne_eq, Nat.reduceEqDiff, not_false_eq_true, Nat.reduceLT, reduceCtorEq] at q9
      exact q9
    refine G.callV (as := [.int x1]) (rest := []) (a := 54) oX12_heldBy lk_EvenFindersModel_342 (by decide +kernel) rfl rfl ⟨rfl, rfl⟩ (Nat.le_of_ble_eq_true rfl) rfl ⟨Nat.le_of_ble_eq_true rfl, Nat.le_of_ble_eq_true rfl⟩ t18 (fun v9 N9 h19 => ?_) (fun E9 N9 h19 => by cases h19)
    cases h19
    show G z mX12_settle (d + 2) 0 0 25 [some (.ref 54), some (.int x1), none, none, none, none] [.int (k_heldBy r12 (ix (r4 22)) x1)] (mrow (mrow (mrow M 54 r4) 55 r5) 72 r12) Q
    refine G.sl [(.istore_n 2, 1, 2, 0, 0, 0), (.iconst (-1), 1, 0, 0, 0, (-1)), (.istore_n 3, 1, 3, 0, 0, 0), (.iconst 0, 1, 0, 0, 0, nI 0), (.istore 4, 2, 4, 0, 0, 0)] [] (pc2 := 31) (ls2 := [some (.ref 54), some (.int x1), some (.int (k_heldBy r12 (ix (r4 22)) x1)), some (.int ((-1))), some (.int (nI 0)), none]) (st2 := []) (M2 := mrow (mrow (mrow M 54 r4) 55 r5) 72 r12) (Ps := []) (by decide +kernel) rfl rfl trivial ?_
    obtain ⟨k45, hk⟩ := hk
    refine lp_k_settle_54_31 z d (mrow (mrow (mrow M 54 r4) 55 r5) 72 r12) Q x1 (k_heldBy r12 (ix (r4 22)) x1) (ix (r4 22)) (by omega) (ixE k15) FU ((-1)) (nI 0) (by first | (simp only [mrow_same, mrow_hit, mrow_miss, mrow_swap, ne_eq, Nat.reduceEqDiff, not_false_eq_true, Nat.reduceLT, reduceCtorEq]; exact k45) | exact k45) ?_
    try simp only [mrow_same, mrow_hit, mrow_miss, mrow_swap, ne_eq, Nat.reduceEqDiff, not_false_eq_true, Nat.reduceLT, reduceCtorEq]
    rcases g46 : k_settle_31 (M.1 61) r12 (ix (r4 22)) x1 (k_heldBy r12 (ix (r4 22)) x1) FU ((-1)) (nI 0) with ⟨v47, v48⟩
    try simp only [g46] at hk
    show G z mX12_settle (d + 2) 0 0 129 [some (.ref 54), some (.int x1), none, some (.int v47), none, none] [] (mrow (mrow (mrow M 54 r4) 55 r5) 72 r12) Q
    obtain ⟨k49, k50, hk⟩ := hk
    refine G.sl [(.aload_n 0, 1, 0, 0, 0, 0), (.getfield 68, 3, 11, 41, 164, 0), (.bipush 26, 2, 0, 0, 0, nI 26), (.iload_n 1, 1, 1, 0, 0, 0), (.iadd, 1, 0, 0, 0, 0), (.iaload, 1, 0, 0, 0, 0)] [26 + (ix x1)] (pc2 := 138) (ls2 := [some (.ref 54), some (.int x1), none, some (.int v47), none, none]) (st2 := [.int (r12 (26 + (ix x1)))]) (M2 := mrow (mrow (mrow M 54 r4) 55 r5) 72 r12) (Ps := [((nI 26) + x1) = nI (26 + (ix x1)) ∧ (26 + (ix x1)) < 51]) (by decide +kernel) rfl rfl ⟨⟨(nAdd rfl (ixE k49)), k50⟩, trivial⟩ ?_
    refine G.if_gt (off := (7)) (tgt := 145) (by decide +kernel) rfl (fun c51 => ?_) (fun c51 => ?_)
    · skip
      refine G.sl [(.iload_n 3, 1, 3, 0, 0, 0)] [] (pc2 := 146) (ls2 := [some (.ref 54), some (.int x1), none, some (.int v47), none, none]) (st2 := [.int v47]) (M2 := mrow (mrow (mrow M 54 r4) 55 r5) 72 r12) (Ps := []) (by decide +kernel) rfl rfl trivial ?_
      exact G.reti (by decide +kernel) rfl rfl (Nat.le_of_ble_eq_true rfl) (Nat.le_of_ble_eq_true rfl) ((by rw [hQ]; simp only [k_settle, g2, if_neg c8, g10, g46, if_pos c51, mrow_self]))
    · skip
      refine G.sl [(.iconst 0, 1, 0, 0, 0, nI 0), (.goto 4, 3, 146, 0, 0, 0)] [] (pc2 := 146) (ls2 := [some (.ref 54), some (.int x1), none, some (.int v47), none, none]) (st2 := [.int (nI 0)]) (M2 := mrow (mrow (mrow M 54 r4) 55 r5) 72 r12) (Ps := []) (by decide +kernel) rfl rfl trivial ?_
      exact G.reti (by decide +kernel) rfl rfl (Nat.le_of_ble_eq_true rfl) (Nat.le_of_ble_eq_true rfl) ((by rw [hQ]; simp only [k_settle, g2, if_neg c8, g10, g46, if_neg c51, mrow_self]))
  · skip
    rw [if_pos c8] at hk
    refine G.sl [(.iconst 0, 1, 0, 0, 0, nI 0)] [] (pc2 := 15) (ls2 := [some (.ref 54), some (.int x1), none, none, none, none]) (st2 := [.int (nI 0)]) (M2 := mrow (mrow M 54 r4) 55 r5) (Ps := []) (by decide +kernel) rfl rfl trivial ?_
    refine G.mem (M' := mrow (mrow (mrow M 54 r4) 55 r5) 72 (M.1 72)) (((mrow_id (N := mrow (mrow M 54 r4) 55 r5) (c := 72) (f := M.1 72) (by first | rfl | (simp only [mrow_same, mrow_hit, mrow_miss, mrow_swap, ne_eq, Nat.reduceEqDiff, not_false_eq_true, Nat.reduceLT, reduceCtorEq]; done))).symm).trans (by first | rfl | (simp only [mrow_same, mrow_hit, mrow_miss, mrow_swap, ne_eq, Nat.reduceEqDiff, not_false_eq_true, Nat.reduceLT, reduceCtorEq]; done))) ?_
    exact G.reti (by decide +kernel) rfl rfl (Nat.le_of_ble_eq_true rfl) (Nat.le_of_ble_eq_true rfl) ((by rw [hQ]; simp only [k_settle, g2, if_pos c8, mrow_self]))
noncomputable def k_lyingAt_4 (Rs : Nat → Int32) (x1 : Int32) : Nat → Int32
  | 0 => nI 0
  | i3 + 1 => (if (Rs (10 + i3)) = ((-1)) then (if (Rs (0 + i3)) = x1 then (k_lyingAt_4 Rs x1 i3) ||| ((nI 1) <<< ((nI i3) &&& 31)) else (k_lyingAt_4 Rs x1 i3) ||| (nI 0)) else (k_lyingAt_4 Rs x1 i3) ||| (nI 0))
theorem lp_k_lyingAt_54_4 (z : Zp) (d : Nat) (M : Mem) (Q : Rs → Prop) (x1 : Int32) (nt : Nat) (hnt : nt ≤ 10) (ct : M.1 54 22 = nI nt) (hX : G z mX12_lyingAt (d) 0 0 53 [none, none, some (.int (k_lyingAt_4 (M.1 72) x1 nt)), none] [] M Q) : G z mX12_lyingAt (d) 0 0 4 [some (.ref 54), some (.int x1), some (.int (nI 0)), some (.int (nI 0))] [] M Q := by
  refine down (n := nt) (P := fun i3 => G z mX12_lyingAt (d) 0 0 4 [some (.ref 54), some (.int x1), some (.int (k_lyingAt_4 (M.1 72) x1 i3)), some (.int (nI i3))] [] M Q) ?_ ?_ 0 (Nat.zero_le _)
  · skip
    refine G.sl [(.iload_n 3, 1, 3, 0, 0, 0), (.aload_n 0, 1, 0, 0, 0, 0), (.getfield 162, 3, 11, 22, 145, 0)] [] (pc2 := 9) (ls2 := [some (.ref 54), some (.int x1), some (.int (k_lyingAt_4 (M.1 72) x1 nt)), some (.int (nI nt))]) (st2 := [.int (M.1 54 22), .int (nI nt)]) (M2 := M) (Ps := []) (by decide +kernel) rfl rfl trivial ?_
    rw [ct]
    refine G.ic_ge (off := (44)) (tgt := 53) (by decide +kernel) rfl (fun _ => ?_) (fun h9 => absurd (nI_le (by omega) (by omega)) h9)
    refine G.loc (ls2 := [none, none, some (.int (k_lyingAt_4 (M.1 72) x1 nt)), none]) (by simp [subL]) ?_
    exact hX
  · skip
    intro i3 hi ih
    show G z mX12_lyingAt (d) 0 0 4 [some (.ref 54), some (.int x1), some (.int (k_lyingAt_4 (M.1 72) x1 i3)), some (.int (nI i3))] [] M Q
    refine G.sl [(.iload_n 3, 1, 3, 0, 0, 0), (.aload_n 0, 1, 0, 0, 0, 0), (.getfield 162, 3, 11, 22, 145, 0)] [] (pc2 := 9) (ls2 := [some (.ref 54), some (.int x1), some (.int (k_lyingAt_4 (M.1 72) x1 i3)), some (.int (nI i3))]) (st2 := [.int (M.1 54 22), .int (nI i3)]) (M2 := M) (Ps := []) (by decide +kernel) rfl rfl trivial ?_
    rw [ct]
    refine G.ic_ge (off := (44)) (tgt := 53) (by decide +kernel) rfl (fun h9 => absurd h9 (nI_ge (by omega) (by omega))) (fun _ => ?_)
    refine G.sl [(.iload_n 2, 1, 2, 0, 0, 0), (.aload_n 0, 1, 0, 0, 0, 0), (.getfield 68, 3, 11, 41, 164, 0), (.bipush 10, 2, 0, 0, 0, nI 10), (.iload_n 3, 1, 3, 0, 0, 0), (.iadd, 1, 0, 0, 0, 0), (.iaload, 1, 0, 0, 0, 0), (.iconst (-1), 1, 0, 0, 0, (-1))] [10 + i3] (pc2 := 23) (ls2 := [some (.ref 54), some (.int x1), some (.int (k_lyingAt_4 (M.1 72) x1 i3)), some (.int (nI i3))]) (st2 := [.int ((-1)), .int (M.1 72 (10 + i3)), .int (k_lyingAt_4 (M.1 72) x1 i3)]) (M2 := M) (Ps := [((nI 10) + (nI i3)) = nI (10 + i3) ∧ (10 + i3) < 51]) (by decide +kernel) rfl rfl ⟨⟨(nI_add _ _), (by omega)⟩, trivial⟩ ?_
    refine G.ic_ne (off := (21)) (tgt := 44) (by decide +kernel) rfl (fun c1 => ?_) (fun c1 => ?_)
    · skip
      refine G.sl [(.iconst 0, 1, 0, 0, 0, nI 0), (.ior, 1, 0, 0, 0, 0), (.istore_n 2, 1, 2, 0, 0, 0), (.iinc 3 1, 3, 3, 0, 0, nI 1), (.goto (-46), 3, 4, 0, 0, 0)] [] (pc2 := 4) (ls2 := [some (.ref 54), some (.int x1), some (.int ((k_lyingAt_4 (M.1 72) x1 i3) ||| (nI 0))), some (.int ((nI i3) + nI 1))]) (st2 := []) (M2 := M) (Ps := []) (by decide +kernel) rfl rfl trivial ?_
      rw [nI_add i3 1]
      simp only [k_lyingAt_4, if_neg c1] at ih
      exact ih
    · skip
      refine G.sl [(.aload_n 0, 1, 0, 0, 0, 0), (.getfield 68, 3, 11, 41, 164, 0), (.iconst 0, 1, 0, 0, 0, nI 0), (.iload_n 3, 1, 3, 0, 0, 0), (.iadd, 1, 0, 0, 0, 0), (.iaload, 1, 0, 0, 0, 0), (.iload_n 1, 1, 1, 0, 0, 0)] [0 + i3] (pc2 := 35) (ls2 := [some (.ref 54), some (.int x1), some (.int (k_lyingAt_4 (M.1 72) x1 i3)), some (.int (nI i3))]) (st2 := [.int x1, .int (M.1 72 (0 + i3)), .int (k_lyingAt_4 (M.1 72) x1 i3)]) (M2 := M) (Ps := [((nI 0) + (nI i3)) = nI (0 + i3) ∧ (0 + i3) < 51]) (by decide +kernel) rfl rfl ⟨⟨(nI_add _ _), (by omega)⟩, trivial⟩ ?_
      refine G.ic_ne (off := (9)) (tgt := 44) (by decide +kernel) rfl (fun c2 => ?_) (fun c2 => ?_)
      · skip
        refine G.sl [(.iconst 0, 1, 0, 0, 0, nI 0), (.ior, 1, 0, 0, 0, 0), (.istore_n 2, 1, 2, 0, 0, 0), (.iinc 3 1, 3, 3, 0, 0, nI 1), (.goto (-46), 3, 4, 0, 0, 0)] [] (pc2 := 4) (ls2 := [some (.ref 54), some (.int x1), some (.int ((k_lyingAt_4 (M.1 72) x1 i3) ||| (nI 0))), some (.int ((nI i3) + nI 1))]) (st2 := []) (M2 := M) (Ps := []) (by decide +kernel) rfl rfl trivial ?_
        rw [nI_add i3 1]
        simp only [k_lyingAt_4, if_pos c1, if_neg c2] at ih
        exact ih
      · skip
        refine G.sl [(.iconst 1, 1, 0, 0, 0, nI 1), (.iload_n 3, 1, 3, 0, 0, 0), (.ishl, 1, 0, 0, 0, 0), (.goto 4, 3, 45, 0, 0, 0), (.ior, 1, 0, 0, 0, 0), (.istore_n 2, 1, 2, 0, 0, 0), (.iinc 3 1, 3, 3, 0, 0, nI 1), (.goto (-46), 3, 4, 0, 0, 0)] [] (pc2 := 4) (ls2 := [some (.ref 54), some (.int x1), some (.int ((k_lyingAt_4 (M.1 72) x1 i3) ||| ((nI 1) <<< ((nI i3) &&& 31)))), some (.int ((nI i3) + nI 1))]) (st2 := []) (M2 := M) (Ps := []) (by decide +kernel) rfl rfl trivial ?_
        rw [nI_add i3 1]
        simp only [k_lyingAt_4, if_pos c1, if_pos c2] at ih
        exact ih
noncomputable def k_lyingAt (Rs : Nat → Int32) (nt : Nat) (x1 : Int32) : Int32 := k_lyingAt_4 (Rs) x1 nt
theorem c_k_lyingAt_54 (z : Zp) (d : Nat) (M : Mem) (x1 : Int32) (nt : Nat) (hnt : nt ≤ 10) (ct : M.1 54 22 = nI nt) : GM z mX12_lyingAt (d) [.ref 54, .int x1] M (fun rs => rs = .inl (some (.int (k_lyingAt (M.1 72) nt x1)), M)) := by
  refine GM.of oX12_lyingAt.1 (Nat.le_of_ble_eq_true rfl) ?_
  show G z mX12_lyingAt (d) 0 0 0 [some (.ref 54), some (.int x1), none, none] [] M _
  obtain ⟨Q, hQ⟩ : ∃ Q : Rs → Prop, Q = (fun rs => rs = .inl (some (.int (k_lyingAt (M.1 72) nt x1)), M)) := ⟨_, rfl⟩
  rw [← hQ]
  refine G.sl [(.iconst 0, 1, 0, 0, 0, nI 0), (.istore_n 2, 1, 2, 0, 0, 0), (.iconst 0, 1, 0, 0, 0, nI 0), (.istore_n 3, 1, 3, 0, 0, 0)] [] (pc2 := 4) (ls2 := [some (.ref 54), some (.int x1), some (.int (nI 0)), some (.int (nI 0))]) (st2 := []) (M2 := M) (Ps := []) (by decide +kernel) rfl rfl trivial ?_
  refine lp_k_lyingAt_54_4 z d M Q x1 nt hnt ct ?_
  show G z mX12_lyingAt (d) 0 0 53 [none, none, some (.int (k_lyingAt_4 (M.1 72) x1 nt)), none] [] M Q
  refine G.sl [(.iload_n 2, 1, 2, 0, 0, 0)] [] (pc2 := 54) (ls2 := [none, none, some (.int (k_lyingAt_4 (M.1 72) x1 nt)), none]) (st2 := [.int (k_lyingAt_4 (M.1 72) x1 nt)]) (M2 := M) (Ps := []) (by decide +kernel) rfl rfl trivial ?_
  exact G.reti (by decide +kernel) rfl rfl (Nat.le_of_ble_eq_true rfl) (Nat.le_of_ble_eq_true rfl) ((by rw [hQ]; simp only [k_lyingAt, mrow_self]))
noncomputable def k_round_24 (Rs : Nat → Int32) (nt : Nat) (x1 : Int32) : Nat → Int32
  | 0 => nI 0
  | i3 + 1 => (if (k_lyingAt (Rs) nt (nI i3)) = 0 then (k_round_24 Rs nt x1 i3) ||| (nI 0) else (k_round_24 Rs nt x1 i3) ||| ((nI 1) <<< ((nI i3) &&& 31)))
theorem lp_k_round_54_24 (z : Zp) (d : Nat) (M : Mem) (Q : Rs → Prop) (x1 : Int32) (np : Nat) (hnp : np ≤ 8) (cp : M.1 54 20 = nI np) (nt : Nat) (hnt : nt ≤ 10) (ct : M.1 54 22 = nI nt) (hX : G z mX12_round (d + 2) 0 0 56 [some (.ref 54), some (.int x1), some (.int (k_round_24 (M.1 72) nt x1 np)), none, none, none, none, none] [] M Q) : G z mX12_round (d + 2) 0 0 24 [some (.ref 54), some (.int x1), some (.int (nI 0)), some (.int (nI 0)), none, none, none, none] [] M Q := by
  refine down (n := np) (P := fun i3 => G z mX12_round (d + 2) 0 0 24 [some (.ref 54), some (.int x1), some (.int (k_round_24 (M.1 72) nt x1 i3)), some (.int (nI i3)), none, none, none, none] [] M Q) ?_ ?_ 0 (Nat.zero_le _)
  · skip
    refine G.sl [(.iload_n 3, 1, 3, 0, 0, 0), (.aload_n 0, 1, 0, 0, 0, 0), (.getfield 156, 3, 11, 20, 143, 0)] [] (pc2 := 29) (ls2 := [some (.ref 54), some (.int x1), some (.int (k_round_24 (M.1 72) nt x1 np)), some (.int (nI np)), none, none, none, none]) (st2 := [.int (M.1 54 20), .int (nI np)]) (M2 := M) (Ps := []) (by decide +kernel) rfl rfl trivial ?_
    rw [cp]
    refine G.ic_ge (off := (27)) (tgt := 56) (by decide +kernel) rfl (fun _ => ?_) (fun h9 => absurd (nI_le (by omega) (by omega)) h9)
    refine G.loc (ls2 := [some (.ref 54), some (.int x1), some (.int (k_round_24 (M.1 72) nt x1 np)), none, none, none, none, none]) (by simp [subL]) ?_
    exact hX
  · skip
    intro i3 hi ih
    show G z mX12_round (d + 2) 0 0 24 [some (.ref 54), some (.int x1), some (.int (k_round_24 (M.1 72) nt x1 i3)), some (.int (nI i3)), none, none, none, none] [] M Q
    refine G.sl [(.iload_n 3, 1, 3, 0, 0, 0), (.aload_n 0, 1, 0, 0, 0, 0), (.getfield 156, 3, 11, 20, 143, 0)] [] (pc2 := 29) (ls2 := [some (.ref 54), some (.int x1), some (.int (k_round_24 (M.1 72) nt x1 i3)), some (.int (nI i3)), none, none, none, none]) (st2 := [.int (M.1 54 20), .int (nI i3)]) (M2 := M) (Ps := []) (by decide +kernel) rfl rfl trivial ?_
    rw [cp]
    refine G.ic_ge (off := (27)) (tgt := 56) (by decide +kernel) rfl (fun h9 => absurd h9 (nI_ge (by omega) (by omega))) (fun _ => ?_)
    refine G.sl [(.iload_n 2, 1, 2, 0, 0, 0), (.aload_n 0, 1, 0, 0, 0, 0), (.iload_n 3, 1, 3, 0, 0, 0)] [] (pc2 := 35) (ls2 := [some (.ref 54), some (.int x1), some (.int (k_round_24 (M.1 72) nt x1 i3)), some (.int (nI i3)), none, none, none, none]) (st2 := [.int (nI i3), .ref 54, .int (k_round_24 (M.1 72) nt x1 i3)]) (M2 := M) (Ps := []) (by decide +kernel) rfl rfl trivial ?_
    have t16 : GM z mX12_lyingAt (d + 1) [.ref 54, .int (nI i3)] M (fun rs => rs = .inl (some (.int (k_lyingAt (M.1 72) nt (nI i3))), M)) := by
      have q9 := c_k_lyingAt_54 z (d + 1) M (nI i3) nt hnt ct
      try simp only [mrow_same, mrow_hit, mrow_miss, mrow_swap, ne_eq, Nat.reduceEqDiff, not_false_eq_true, Nat.reduceLT, reduceCtorEq] at q9
      exact q9
    refine G.callV (as := [.int (nI i3)]) (rest := [.int (k_round_24 (M.1 72) nt x1 i3)]) (a := 54) oX12_lyingAt lk_EvenFindersModel_348 (by decide +kernel) rfl rfl ⟨rfl, rfl⟩ (Nat.le_of_ble_eq_true rfl) rfl ⟨Nat.le_of_ble_eq_true rfl, Nat.le_of_ble_eq_true rfl⟩ t16 (fun v9 N9 h17 => ?_) (fun E9 N9 h17 => by cases h17)
    cases h17
    show G z mX12_round (d + 2) 0 0 38 [some (.ref 54), some (.int x1), some (.int (k_round_24 (M.1 72) nt x1 i3)), some (.int (nI i3)), none, none, none, none] [.int (k_lyingAt (M.1 72) nt (nI i3)), .int (k_round_24 (M.1 72) nt x1 i3)] M Q
    refine G.if_eq (off := (9)) (tgt := 47) (by decide +kernel) rfl (fun c18 => ?_) (fun c18 => ?_)
    · skip
      refine G.sl [(.iconst 0, 1, 0, 0, 0, nI 0), (.ior, 1, 0, 0, 0, 0), (.istore_n 2, 1, 2, 0, 0, 0), (.iinc 3 1, 3, 3, 0, 0, nI 1), (.goto (-29), 3, 24, 0, 0, 0)] [] (pc2 := 24) (ls2 := [some (.ref 54), some (.int x1), some (.int ((k_round_24 (M.1 72) nt x1 i3) ||| (nI 0))), some (.int ((nI i3) + nI 1)), none, none, none, none]) (st2 := []) (M2 := M) (Ps := []) (by decide +kernel) rfl rfl trivial ?_
      rw [nI_add i3 1]
      simp only [k_round_24, if_pos c18] at ih
      exact ih
    · skip
      refine G.sl [(.iconst 1, 1, 0, 0, 0, nI 1), (.iload_n 3, 1, 3, 0, 0, 0), (.ishl, 1, 0, 0, 0, 0), (.goto 4, 3, 48, 0, 0, 0), (.ior, 1, 0, 0, 0, 0), (.istore_n 2, 1, 2, 0, 0, 0), (.iinc 3 1, 3, 3, 0, 0, nI 1), (.goto (-29), 3, 24, 0, 0, 0)] [] (pc2 := 24) (ls2 := [some (.ref 54), some (.int x1), some (.int ((k_round_24 (M.1 72) nt x1 i3) ||| ((nI 1) <<< ((nI i3) &&& 31)))), some (.int ((nI i3) + nI 1)), none, none, none, none]) (st2 := []) (M2 := M) (Ps := []) (by decide +kernel) rfl rfl trivial ?_
      rw [nI_add i3 1]
      simp only [k_round_24, if_neg c18] at ih
      exact ih
noncomputable def k_round_107 (RfarOf RroundOn : Nat → Int32) (x1 : Int32) (x2 : Int32) (x3 : Int32) (n4 : Nat) : Nat → Int32
  | 0 => nI 9999
  | i6 + 1 => (if ((x3 >>> ((nI i6) &&& 31)) &&& (nI 1)) = 0 then k_round_107 RfarOf RroundOn x1 x2 x3 n4 i6 else (if (k_round_107 RfarOf RroundOn x1 x2 x3 n4 i6) ≤ ((RfarOf ((8 * n4) + i6)) + (RroundOn (ix (((nI i6) <<< ((nI 8) &&& 31)) ||| (x3 &&& (((nI 1) <<< ((nI i6) &&& 31)) ^^^ ((-1)))))))) then k_round_107 RfarOf RroundOn x1 x2 x3 n4 i6 else (RfarOf ((8 * n4) + i6)) + (RroundOn (ix (((nI i6) <<< ((nI 8) &&& 31)) ||| (x3 &&& (((nI 1) <<< ((nI i6) &&& 31)) ^^^ ((-1)))))))))
noncomputable def k_round_107_ok (RfarOf RroundOn : Nat → Int32) (x1 : Int32) (x2 : Int32) (x3 : Int32) (n4 : Nat) (i6 : Nat) : Prop := (if ((x3 >>> ((nI i6) &&& 31)) &&& (nI 1)) = 0 then True else ((isN (((nI i6) <<< ((nI 8) &&& 31)) ||| (x3 &&& (((nI 1) <<< ((nI i6) &&& 31)) ^^^ ((-1)))))) ∧ (ix (((nI i6) <<< ((nI 8) &&& 31)) ||| (x3 &&& (((nI 1) <<< ((nI i6) &&& 31)) ^^^ ((-1))))) < 2048) ∧ True))
theorem lp_k_round_54_107 (z : Zp) (d : Nat) (M : Mem) (Q : Rs → Prop) (x1 : Int32) (x2 : Int32) (x3 : Int32) (n4 : Nat) (np : Nat) (hnp : np ≤ 8) (cp : M.1 54 20 = nI np) (b4 : n4 < 8) (hk : ∀ i6, i6 < np → k_round_107_ok (M.1 76) (M.1 77) x1 x2 x3 n4 i6) (hX : G z mX12_round (d + 2) 0 0 185 [some (.ref 54), some (.int x1), some (.int x2), some (.int x3), some (.int (nI n4)), some (.int (k_round_107 (M.1 76) (M.1 77) x1 x2 x3 n4 np)), none, none] [] M Q) : G z mX12_round (d + 2) 0 0 107 [some (.ref 54), some (.int x1), some (.int x2), some (.int x3), some (.int (nI n4)), some (.int (nI 9999)), some (.int (nI 0)), none] [] M Q := by
  refine down (n := np) (P := fun i6 => G z mX12_round (d + 2) 0 0 107 [some (.ref 54), some (.int x1), some (.int x2), some (.int x3), some (.int (nI n4)), some (.int (k_round_107 (M.1 76) (M.1 77) x1 x2 x3 n4 i6)), some (.int (nI i6)), none] [] M Q) ?_ ?_ 0 (Nat.zero_le _)
  · skip
    refine G.sl [(.iload 6, 2, 6, 0, 0, 0), (.aload_n 0, 1, 0, 0, 0, 0), (.getfield 156, 3, 11, 20, 143, 0)] [] (pc2 := 113) (ls2 := [some (.ref 54), some (.int x1), some (.int x2), some (.int x3), some (.int (nI n4)), some (.int (k_round_107 (M.1 76) (M.1 77) x1 x2 x3 n4 np)), some (.int (nI np)), none]) (st2 := [.int (M.1 54 20), .int (nI np)]) (M2 := M) (Ps := []) (by decide +kernel) rfl rfl trivial ?_
    rw [cp]
    refine G.ic_ge (off := (72)) (tgt := 185) (by decide +kernel) rfl (fun _ => ?_) (fun h9 => absurd (nI_le (by omega) (by omega)) h9)
    refine G.loc (ls2 := [some (.ref 54), some (.int x1), some (.int x2), some (.int x3), some (.int (nI n4)), some (.int (k_round_107 (M.1 76) (M.1 77) x1 x2 x3 n4 np)), none, none]) (by simp [subL]) ?_
    exact hX
  · skip
    intro i6 hi ih
    have hk := hk i6 hi
    simp only [k_round_107_ok] at hk
    show G z mX12_round (d + 2) 0 0 107 [some (.ref 54), some (.int x1), some (.int x2), some (.int x3), some (.int (nI n4)), some (.int (k_round_107 (M.1 76) (M.1 77) x1 x2 x3 n4 i6)), some (.int (nI i6)), none] [] M Q
    refine G.sl [(.iload 6, 2, 6, 0, 0, 0), (.aload_n 0, 1, 0, 0, 0, 0), (.getfield 156, 3, 11, 20, 143, 0)] [] (pc2 := 113) (ls2 := [some (.ref 54), some (.int x1), some (.int x2), some (.int x3), some (.int (nI n4)), some (.int (k_round_107 (M.1 76) (M.1 77) x1 x2 x3 n4 i6)), some (.int (nI i6)), none]) (st2 := [.int (M.1 54 20), .int (nI i6)]) (M2 := M) (Ps := []) (by decide +kernel) rfl rfl trivial ?_
    rw [cp]
    refine G.ic_ge (off := (72)) (tgt := 185) (by decide +kernel) rfl (fun h9 => absurd h9 (nI_ge (by omega) (by omega))) (fun _ => ?_)
    refine G.sl [(.iload_n 3, 1, 3, 0, 0, 0), (.iload 6, 2, 6, 0, 0, 0), (.ishr, 1, 0, 0, 0, 0), (.iconst 1, 1, 0, 0, 0, nI 1), (.iand, 1, 0, 0, 0, 0)] [] (pc2 := 122) (ls2 := [some (.ref 54), some (.int x1), some (.int x2), some (.int x3), some (.int (nI n4)), some (.int (k_round_107 (M.1 76) (M.1 77) x1 x2 x3 n4 i6)), some (.int (nI i6)), none]) (st2 := [.int ((x3 >>> ((nI i6) &&& 31)) &&& (nI 1))]) (M2 := M) (Ps := []) (by decide +kernel) rfl rfl trivial ?_
    refine G.if_ne (off := (6)) (tgt := 128) (by decide +kernel) rfl (fun c28 => ?_) (fun c28 => ?_)
    · skip
      rw [if_neg c28] at hk
      obtain ⟨k29, k30, hk⟩ := hk
      refine G.sl [(.aload_n 0, 1, 0, 0, 0, 0), (.getfield 80, 3, 11, 46, 169, 0), (.bipush 8, 2, 0, 0, 0, nI 8), (.iload 4, 2, 4, 0, 0, 0), (.imul, 1, 0, 0, 0, 0), (.iload 6, 2, 6, 0, 0, 0), (.iadd, 1, 0, 0, 0, 0), (.iaload, 1, 0, 0, 0, 0), (.aload_n 0, 1, 0, 0, 0, 0), (.getfield 83, 3, 11, 47, 170, 0), (.iload 6, 2, 6, 0, 0, 0), (.bipush 8, 2, 0, 0, 0, nI 8), (.ishl, 1, 0, 0, 0, 0), (.iload_n 3, 1, 3, 0, 0, 0), (.iconst 1, 1, 0, 0, 0, nI 1), (.iload 6, 2, 6, 0, 0, 0), (.ishl, 1, 0, 0, 0, 0), (.iconst (-1), 1, 0, 0, 0, (-1)), (.ixor, 1, 0, 0, 0, 0), (.iand, 1, 0, 0, 0, 0), (.ior, 1, 0, 0, 0, 0), (.iaload, 1, 0, 0, 0, 0), (.iadd, 1, 0, 0, 0, 0), (.istore 7, 2, 7, 0, 0, 0), (.iload 7, 2, 7, 0, 0, 0), (.iload 5, 2, 5, 0, 0, 0)] [(8 * n4) + i6, ix (((nI i6) <<< ((nI 8) &&& 31)) ||| (x3 &&& (((nI 1) <<< ((nI i6) &&& 31)) ^^^ ((-1)))))] (pc2 := 167) (ls2 := [some (.ref 54), some (.int x1), some (.int x2), some (.int x3), some (.int (nI n4)), some (.int (k_round_107 (M.1 76) (M.1 77) x1 x2 x3 n4 i6)), some (.int (nI i6)), some (.int ((M.1 76 ((8 * n4) + i6)) + (M.1 77 (ix (((nI i6) <<< ((nI 8) &&& 31)) ||| (x3 &&& (((nI 1) <<< ((nI i6) &&& 31)) ^^^ ((-1)))))))))]) (st2 := [.int (k_round_107 (M.1 76) (M.1 77) x1 x2 x3 n4 i6), .int ((M.1 76 ((8 * n4) + i6)) + (M.1 77 (ix (((nI i6) <<< ((nI 8) &&& 31)) ||| (x3 &&& (((nI 1) <<< ((nI i6) &&& 31)) ^^^ ((-1))))))))]) (M2 := M) (Ps := [(((nI 8) * (nI n4)) + (nI i6)) = nI ((8 * n4) + i6) ∧ ((8 * n4) + i6) < 64, (((nI i6) <<< ((nI 8) &&& 31)) ||| (x3 &&& (((nI 1) <<< ((nI i6) &&& 31)) ^^^ ((-1))))) = nI (ix (((nI i6) <<< ((nI 8) &&& 31)) ||| (x3 &&& (((nI 1) <<< ((nI i6) &&& 31)) ^^^ ((-1)))))) ∧ (ix (((nI i6) <<< ((nI 8) &&& 31)) ||| (x3 &&& (((nI 1) <<< ((nI i6) &&& 31)) ^^^ ((-1)))))) < 2048]) (by decide +kernel) rfl rfl ⟨⟨(nAdd (pk_mul _ _) rfl), (by omega)⟩, ⟨(ixE k29), k30⟩, trivial⟩ ?_
      refine G.ic_ge (off := (8)) (tgt := 175) (by decide +kernel) rfl (fun c31 => ?_) (fun c31 => ?_)
      · skip
        refine G.sl [(.iload 5, 2, 5, 0, 0, 0), (.istore 5, 2, 5, 0, 0, 0), (.iinc 6 1, 3, 6, 0, 0, nI 1), (.goto (-75), 3, 107, 0, 0, 0)] [] (pc2 := 107) (ls2 := [some (.ref 54), some (.int x1), some (.int x2), some (.int x3), some (.int (nI n4)), some (.int (k_round_107 (M.1 76) (M.1 77) x1 x2 x3 n4 i6)), some (.int ((nI i6) + nI 1)), some (.int ((M.1 76 ((8 * n4) + i6)) + (M.1 77 (ix (((nI i6) <<< ((nI 8) &&& 31)) ||| (x3 &&& (((nI 1) <<< ((nI i6) &&& 31)) ^^^ ((-1)))))))))]) (st2 := []) (M2 := M) (Ps := []) (by decide +kernel) rfl rfl trivial ?_
        refine G.loc (ls2 := [some (.ref 54), some (.int x1), some (.int x2), some (.int x3), some (.int (nI n4)), some (.int (k_round_107 (M.1 76) (M.1 77) x1 x2 x3 n4 i6)), some (.int ((nI i6) + nI 1)), none]) (by simp [subL]) ?_
        rw [nI_add i6 1]
        simp only [k_round_107, if_neg c28, if_pos c31] at ih
        exact ih
      · skip
        refine G.sl [(.iload 7, 2, 7, 0, 0, 0), (.goto 5, 3, 177, 0, 0, 0), (.istore 5, 2, 5, 0, 0, 0), (.iinc 6 1, 3, 6, 0, 0, nI 1), (.goto (-75), 3, 107, 0, 0, 0)] [] (pc2 := 107) (ls2 := [some (.ref 54), some (.int x1), some (.int x2), some (.int x3), some (.int (nI n4)), some (.int ((M.1 76 ((8 * n4) + i6)) + (M.1 77 (ix (((nI i6) <<< ((nI 8) &&& 31)) ||| (x3 &&& (((nI 1) <<< ((nI i6) &&& 31)) ^^^ ((-1))))))))), some (.int ((nI i6) + nI 1)), some (.int ((M.1 76 ((8 * n4) + i6)) + (M.1 77 (ix (((nI i6) <<< ((nI 8) &&& 31)) ||| (x3 &&& (((nI 1) <<< ((nI i6) &&& 31)) ^^^ ((-1)))))))))]) (st2 := []) (M2 := M) (Ps := []) (by decide +kernel) rfl rfl trivial ?_
        refine G.loc (ls2 := [some (.ref 54), some (.int x1), some (.int x2), some (.int x3), some (.int (nI n4)), some (.int ((M.1 76 ((8 * n4) + i6)) + (M.1 77 (ix (((nI i6) <<< ((nI 8) &&& 31)) ||| (x3 &&& (((nI 1) <<< ((nI i6) &&& 31)) ^^^ ((-1))))))))), some (.int ((nI i6) + nI 1)), none]) (by simp [subL]) ?_
        rw [nI_add i6 1]
        simp only [k_round_107, if_neg c28, if_neg c31] at ih
        exact ih
    · skip
      rw [if_pos c28] at hk
      refine G.sl [(.goto 54, 3, 179, 0, 0, 0), (.iinc 6 1, 3, 6, 0, 0, nI 1), (.goto (-75), 3, 107, 0, 0, 0)] [] (pc2 := 107) (ls2 := [some (.ref 54), some (.int x1), some (.int x2), some (.int x3), some (.int (nI n4)), some (.int (k_round_107 (M.1 76) (M.1 77) x1 x2 x3 n4 i6)), some (.int ((nI i6) + nI 1)), none]) (st2 := []) (M2 := M) (Ps := []) (by decide +kernel) rfl rfl trivial ?_
      rw [nI_add i6 1]
      simp only [k_round_107, if_pos c28] at ih
      exact ih
noncomputable def k_round_107b (RfarOf RroundOn : Nat → Int32) (x1 : Int32) (x2 : Int32) (x3 : Int32) (n4 : Nat) : Nat → Int32
  | 0 => nI 0
  | i6 + 1 => (if ((x3 >>> ((nI i6) &&& 31)) &&& (nI 1)) = 0 then k_round_107b RfarOf RroundOn x1 x2 x3 n4 i6 else (if (k_round_107b RfarOf RroundOn x1 x2 x3 n4 i6) ≤ ((RfarOf ((8 * n4) + i6)) + (RroundOn (ix (((nI i6) <<< ((nI 8) &&& 31)) ||| (x3 &&& (((nI 1) <<< ((nI i6) &&& 31)) ^^^ ((-1)))))))) then k_round_107b RfarOf RroundOn x1 x2 x3 n4 i6 else (RfarOf ((8 * n4) + i6)) + (RroundOn (ix (((nI i6) <<< ((nI 8) &&& 31)) ||| (x3 &&& (((nI 1) <<< ((nI i6) &&& 31)) ^^^ ((-1)))))))))
noncomputable def k_round_107b_ok (RfarOf RroundOn : Nat → Int32) (x1 : Int32) (x2 : Int32) (x3 : Int32) (n4 : Nat) (i6 : Nat) : Prop := (if ((x3 >>> ((nI i6) &&& 31)) &&& (nI 1)) = 0 then True else ((isN (((nI i6) <<< ((nI 8) &&& 31)) ||| (x3 &&& (((nI 1) <<< ((nI i6) &&& 31)) ^^^ ((-1)))))) ∧ (ix (((nI i6) <<< ((nI 8) &&& 31)) ||| (x3 &&& (((nI 1) <<< ((nI i6) &&& 31)) ^^^ ((-1))))) < 2048) ∧ True))
theorem lp_k_round_54_107b (z : Zp) (d : Nat) (M : Mem) (Q : Rs → Prop) (x1 : Int32) (x2 : Int32) (x3 : Int32) (n4 : Nat) (np : Nat) (hnp : np ≤ 8) (cp : M.1 54 20 = nI np) (b4 : n4 < 8) (hk : ∀ i6, i6 < np → k_round_107b_ok (M.1 76) (M.1 77) x1 x2 x3 n4 i6) (hX : G z mX12_round (d + 2) 0 0 185 [some (.ref 54), some (.int x1), some (.int x2), some (.int x3), some (.int (nI n4)), some (.int (k_round_107b (M.1 76) (M.1 77) x1 x2 x3 n4 np)), none, none] [] M Q) : G z mX12_round (d + 2) 0 0 107 [some (.ref 54), some (.int x1), some (.int x2), some (.int x3), some (.int (nI n4)), some (.int (nI 0)), some (.int (nI 0)), none] [] M Q := by
  refine down (n := np) (P := fun i6 => G z mX12_round (d + 2) 0 0 107 [some (.ref 54), some (.int x1), some (.int x2), some (.int x3), some (.int (nI n4)), some (.int (k_round_107b (M.1 76) (M.1 77) x1 x2 x3 n4 i6)), some (.int (nI i6)), none] [] M Q) ?_ ?_ 0 (Nat.zero_le _)
  · skip
    refine G.sl [(.iload 6, 2, 6, 0, 0, 0), (.aload_n 0, 1, 0, 0, 0, 0), (.getfield 156, 3, 11, 20, 143, 0)] [] (pc2 := 113) (ls2 := [some (.ref 54), some (.int x1), some (.int x2), some (.int x3), some (.int (nI n4)), some (.int (k_round_107b (M.1 76) (M.1 77) x1 x2 x3 n4 np)), some (.int (nI np)), none]) (st2 := [.int (M.1 54 20), .int (nI np)]) (M2 := M) (Ps := []) (by decide +kernel) rfl rfl trivial ?_
    rw [cp]
    refine G.ic_ge (off := (72)) (tgt := 185) (by decide +kernel) rfl (fun _ => ?_) (fun h9 => absurd (nI_le (by omega) (by omega)) h9)
    refine G.loc (ls2 := [some (.ref 54), some (.int x1), some (.int x2), some (.int x3), some (.int (nI n4)), some (.int (k_round_107b (M.1 76) (M.1 77) x1 x2 x3 n4 np)), none, none]) (by simp [subL]) ?_
    exact hX
  · skip
    intro i6 hi ih
    have hk := hk i6 hi
    simp only [k_round_107b_ok] at hk
    show G z mX12_round (d + 2) 0 0 107 [some (.ref 54), some (.int x1), some (.int x2), some (.int x3), some (.int (nI n4)), some (.int (k_round_107b (M.1 76) (M.1 77) x1 x2 x3 n4 i6)), some (.int (nI i6)), none] [] M Q
    refine G.sl [(.iload 6, 2, 6, 0, 0, 0), (.aload_n 0, 1, 0, 0, 0, 0), (.getfield 156, 3, 11, 20, 143, 0)] [] (pc2 := 113) (ls2 := [some (.ref 54), some (.int x1), some (.int x2), some (.int x3), some (.int (nI n4)), some (.int (k_round_107b (M.1 76) (M.1 77) x1 x2 x3 n4 i6)), some (.int (nI i6)), none]) (st2 := [.int (M.1 54 20), .int (nI i6)]) (M2 := M) (Ps := []) (by decide +kernel) rfl rfl trivial ?_
    rw [cp]
    refine G.ic_ge (off := (72)) (tgt := 185) (by decide +kernel) rfl (fun h9 => absurd h9 (nI_ge (by omega) (by omega))) (fun _ => ?_)
    refine G.sl [(.iload_n 3, 1, 3, 0, 0, 0), (.iload 6, 2, 6, 0, 0, 0), (.ishr, 1, 0, 0, 0, 0), (.iconst 1, 1, 0, 0, 0, nI 1), (.iand, 1, 0, 0, 0, 0)] [] (pc2 := 122) (ls2 := [some (.ref 54), some (.int x1), some (.int x2), some (.int x3), some (.int (nI n4)), some (.int (k_round_107b (M.1 76) (M.1 77) x1 x2 x3 n4 i6)), some (.int (nI i6)), none]) (st2 := [.int ((x3 >>> ((nI i6) &&& 31)) &&& (nI 1))]) (M2 := M) (Ps := []) (by decide +kernel) rfl rfl trivial ?_
    refine G.if_ne (off := (6)) (tgt := 128) (by decide +kernel) rfl (fun c35 => ?_) (fun c35 => ?_)
    · skip
      rw [if_neg c35] at hk
      obtain ⟨k36, k37, hk⟩ := hk
      refine G.sl [(.aload_n 0, 1, 0, 0, 0, 0), (.getfield 80, 3, 11, 46, 169, 0), (.bipush 8, 2, 0, 0, 0, nI 8), (.iload 4, 2, 4, 0, 0, 0), (.imul, 1, 0, 0, 0, 0), (.iload 6, 2, 6, 0, 0, 0), (.iadd, 1, 0, 0, 0, 0), (.iaload, 1, 0, 0, 0, 0), (.aload_n 0, 1, 0, 0, 0, 0), (.getfield 83, 3, 11, 47, 170, 0), (.iload 6, 2, 6, 0, 0, 0), (.bipush 8, 2, 0, 0, 0, nI 8), (.ishl, 1, 0, 0, 0, 0), (.iload_n 3, 1, 3, 0, 0, 0), (.iconst 1, 1, 0, 0, 0, nI 1), (.iload 6, 2, 6, 0, 0, 0), (.ishl, 1, 0, 0, 0, 0), (.iconst (-1), 1, 0, 0, 0, (-1)), (.ixor, 1, 0, 0, 0, 0), (.iand, 1, 0, 0, 0, 0), (.ior, 1, 0, 0, 0, 0), (.iaload, 1, 0, 0, 0, 0), (.iadd, 1, 0, 0, 0, 0), (.istore 7, 2, 7, 0, 0, 0), (.iload 7, 2, 7, 0, 0, 0), (.iload 5, 2, 5, 0, 0, 0)] [(8 * n4) + i6, ix (((nI i6) <<< ((nI 8) &&& 31)) ||| (x3 &&& (((nI 1) <<< ((nI i6) &&& 31)) ^^^ ((-1)))))] (pc2 := 167) (ls2 := [some (.ref 54), some (.int x1), some (.int x2), some (.int x3), some (.int (nI n4)), some (.int (k_round_107b (M.1 76) (M.1 77) x1 x2 x3 n4 i6)), some (.int (nI i6)), some (.int ((M.1 76 ((8 * n4) + i6)) + (M.1 77 (ix (((nI i6) <<< ((nI 8) &&& 31)) ||| (x3 &&& (((nI 1) <<< ((nI i6) &&& 31)) ^^^ ((-1)))))))))]) (st2 := [.int (k_round_107b (M.1 76) (M.1 77) x1 x2 x3 n4 i6), .int ((M.1 76 ((8 * n4) + i6)) + (M.1 77 (ix (((nI i6) <<< ((nI 8) &&& 31)) ||| (x3 &&& (((nI 1) <<< ((nI i6) &&& 31)) ^^^ ((-1))))))))]) (M2 := M) (Ps := [(((nI 8) * (nI n4)) + (nI i6)) = nI ((8 * n4) + i6) ∧ ((8 * n4) + i6) < 64, (((nI i6) <<< ((nI 8) &&& 31)) ||| (x3 &&& (((nI 1) <<< ((nI i6) &&& 31)) ^^^ ((-1))))) = nI (ix (((nI i6) <<< ((nI 8) &&& 31)) ||| (x3 &&& (((nI 1) <<< ((nI i6) &&& 31)) ^^^ ((-1)))))) ∧ (ix (((nI i6) <<< ((nI 8) &&& 31)) ||| (x3 &&& (((nI 1) <<< ((nI i6) &&& 31)) ^^^ ((-1)))))) < 2048]) (by decide +kernel) rfl rfl ⟨⟨(nAdd (pk_mul _ _) rfl), (by omega)⟩, ⟨(ixE k36), k37⟩, trivial⟩ ?_
      refine G.ic_ge (off := (8)) (tgt := 175) (by decide +kernel) rfl (fun c38 => ?_) (fun c38 => ?_)
      · skip
        refine G.sl [(.iload 5, 2, 5, 0, 0, 0), (.istore 5, 2, 5, 0, 0, 0), (.iinc 6 1, 3, 6, 0, 0, nI 1), (.goto (-75), 3, 107, 0, 0, 0)] [] (pc2 := 107) (ls2 := [some (.ref 54), some (.int x1), some (.int x2), some (.int x3), some (.int (nI n4)), some (.int (k_round_107b (M.1 76) (M.1 77) x1 x2 x3 n4 i6)), some (.int ((nI i6) + nI 1)), some (.int ((M.1 76 ((8 * n4) + i6)) + (M.1 77 (ix (((nI i6) <<< ((nI 8) &&& 31)) ||| (x3 &&& (((nI 1) <<< ((nI i6) &&& 31)) ^^^ ((-1)))))))))]) (st2 := []) (M2 := M) (Ps := []) (by decide +kernel) rfl rfl trivial ?_
        refine G.loc (ls2 := [some (.ref 54), some (.int x1), some (.int x2), some (.int x3), some (.int (nI n4)), some (.int (k_round_107b (M.1 76) (M.1 77) x1 x2 x3 n4 i6)), some (.int ((nI i6) + nI 1)), none]) (by simp [subL]) ?_
        rw [nI_add i6 1]
        simp only [k_round_107b, if_neg c35, if_pos c38] at ih
        exact ih
      · skip
        refine G.sl [(.iload 7, 2, 7, 0, 0, 0), (.goto 5, 3, 177, 0, 0, 0), (.istore 5, 2, 5, 0, 0, 0), (.iinc 6 1, 3, 6, 0, 0, nI 1), (.goto (-75), 3, 107, 0, 0, 0)] [] (pc2 := 107) (ls2 := [some (.ref 54), some (.int x1), some (.int x2), some (.int x3), some (.int (nI n4)), some (.int ((M.1 76 ((8 * n4) + i6)) + (M.1 77 (ix (((nI i6) <<< ((nI 8) &&& 31)) ||| (x3 &&& (((nI 1) <<< ((nI i6) &&& 31)) ^^^ ((-1))))))))), some (.int ((nI i6) + nI 1)), some (.int ((M.1 76 ((8 * n4) + i6)) + (M.1 77 (ix (((nI i6) <<< ((nI 8) &&& 31)) ||| (x3 &&& (((nI 1) <<< ((nI i6) &&& 31)) ^^^ ((-1)))))))))]) (st2 := []) (M2 := M) (Ps := []) (by decide +kernel) rfl rfl trivial ?_
        refine G.loc (ls2 := [some (.ref 54), some (.int x1), some (.int x2), some (.int x3), some (.int (nI n4)), some (.int ((M.1 76 ((8 * n4) + i6)) + (M.1 77 (ix (((nI i6) <<< ((nI 8) &&& 31)) ||| (x3 &&& (((nI 1) <<< ((nI i6) &&& 31)) ^^^ ((-1))))))))), some (.int ((nI i6) + nI 1)), none]) (by simp [subL]) ?_
        rw [nI_add i6 1]
        simp only [k_round_107b, if_neg c35, if_neg c38] at ih
        exact ih
    · skip
      rw [if_pos c35] at hk
      refine G.sl [(.goto 54, 3, 179, 0, 0, 0), (.iinc 6 1, 3, 6, 0, 0, nI 1), (.goto (-75), 3, 107, 0, 0, 0)] [] (pc2 := 107) (ls2 := [some (.ref 54), some (.int x1), some (.int x2), some (.int x3), some (.int (nI n4)), some (.int (k_round_107b (M.1 76) (M.1 77) x1 x2 x3 n4 i6)), some (.int ((nI i6) + nI 1)), none]) (st2 := []) (M2 := M) (Ps := []) (by decide +kernel) rfl rfl trivial ?_
      rw [nI_add i6 1]
      simp only [k_round_107b, if_pos c35] at ih
      exact ih
noncomputable def k_round_82 (RfarOf RroundOn : Nat → Int32) (np : Nat) (x1 : Int32) (x2 : Int32) (x3 : Int32) : Nat → (Nat → Int32)
  | 0 => RroundOn
  | i4 + 1 => (if x3 = 0 then upd (k_round_82 RfarOf RroundOn np x1 x2 x3 i4) (ix (((nI i4) <<< ((nI 8) &&& 31)) ||| x3)) (k_round_107b (RfarOf) (k_round_82 RfarOf RroundOn np x1 x2 x3 i4) x1 x2 x3 i4 np) else upd (k_round_82 RfarOf RroundOn np x1 x2 x3 i4) (ix (((nI i4) <<< ((nI 8) &&& 31)) ||| x3)) (k_round_107 (RfarOf) (k_round_82 RfarOf RroundOn np x1 x2 x3 i4) x1 x2 x3 i4 np))
noncomputable def k_round_82_ok (RfarOf RroundOn : Nat → Int32) (np : Nat) (x1 : Int32) (x2 : Int32) (x3 : Int32) (i4 : Nat) : Prop := (if x3 = 0 then ((∀ i6, i6 < np → k_round_107b_ok (RfarOf) (k_round_82 RfarOf RroundOn np x1 x2 x3 i4) x1 x2 x3 i4 i6) ∧ ((isN (((nI i4) <<< ((nI 8) &&& 31)) ||| x3)) ∧ (ix (((nI i4) <<< ((nI 8) &&& 31)) ||| x3) < 2048) ∧ True)) else ((∀ i6, i6 < np → k_round_107_ok (RfarOf) (k_round_82 RfarOf RroundOn np x1 x2 x3 i4) x1 x2 x3 i4 i6) ∧ ((isN (((nI i4) <<< ((nI 8) &&& 31)) ||| x3)) ∧ (ix (((nI i4) <<< ((nI 8) &&& 31)) ||| x3) < 2048) ∧ True)))
theorem lp_k_round_54_82 (z : Zp) (d : Nat) (M : Mem) (Q : Rs → Prop) (x1 : Int32) (x2 : Int32) (x3 : Int32) (np : Nat) (hnp : np ≤ 8) (cp : M.1 54 20 = nI np) (hk : ∀ i4, i4 < np → k_round_82_ok (M.1 76) (M.1 77) np x1 x2 x3 i4) (hX : G z mX12_round (d + 2) 0 0 205 [some (.ref 54), some (.int x1), some (.int x2), some (.int x3), none, none, none, none] [] (mrow M 77 (k_round_82 (M.1 76) (M.1 77) np x1 x2 x3 np)) Q) : G z mX12_round (d + 2) 0 0 82 [some (.ref 54), some (.int x1), some (.int x2), some (.int x3), some (.int (nI 0)), none, none, none] [] M Q := by
  refine G.mem (M' := mrow M 77 (M.1 77)) (by simp only [mrow_self]) ?_
  refine down (n := np) (P := fun i4 => G z mX12_round (d + 2) 0 0 82 [some (.ref 54), some (.int x1), some (.int x2), some (.int x3), some (.int (nI i4)), none, none, none] [] (mrow M 77 (k_round_82 (M.1 76) (M.1 77) np x1 x2 x3 i4)) Q) ?_ ?_ 0 (Nat.zero_le _)
  · skip
    refine G.sl [(.iload 4, 2, 4, 0, 0, 0), (.aload_n 0, 1, 0, 0, 0, 0), (.getfield 156, 3, 11, 20, 143, 0)] [] (pc2 := 88) (ls2 := [some (.ref 54), some (.int x1), some (.int x2), some (.int x3), some (.int (nI np)), none, none, none]) (st2 := [.int (M.1 54 20), .int (nI np)]) (M2 := mrow M 77 (k_round_82 (M.1 76) (M.1 77) np x1 x2 x3 np)) (Ps := []) (by decide +kernel) rfl rfl trivial ?_
    rw [cp]
    refine G.ic_ge (off := (117)) (tgt := 205) (by decide +kernel) rfl (fun _ => ?_) (fun h9 => absurd (nI_le (by omega) (by omega)) h9)
    refine G.loc (ls2 := [some (.ref 54), some (.int x1), some (.int x2), some (.int x3), none, none, none, none]) (by simp [subL]) ?_
    exact hX
  · skip
    intro i4 hi ih
    have hk := hk i4 hi
    simp only [k_round_82_ok] at hk
    show G z mX12_round (d + 2) 0 0 82 [some (.ref 54), some (.int x1), some (.int x2), some (.int x3), some (.int (nI i4)), none, none, none] [] (mrow M 77 (k_round_82 (M.1 76) (M.1 77) np x1 x2 x3 i4)) Q
    refine G.sl [(.iload 4, 2, 4, 0, 0, 0), (.aload_n 0, 1, 0, 0, 0, 0), (.getfield 156, 3, 11, 20, 143, 0)] [] (pc2 := 88) (ls2 := [some (.ref 54), some (.int x1), some (.int x2), some (.int x3), some (.int (nI i4)), none, none, none]) (st2 := [.int (M.1 54 20), .int (nI i4)]) (M2 := mrow M 77 (k_round_82 (M.1 76) (M.1 77) np x1 x2 x3 i4)) (Ps := []) (by decide +kernel) rfl rfl trivial ?_
    rw [cp]
    refine G.ic_ge (off := (117)) (tgt := 205) (by decide +kernel) rfl (fun h9 => absurd h9 (nI_ge (by omega) (by omega))) (fun _ => ?_)
    refine G.sl [(.iload_n 3, 1, 3, 0, 0, 0)] [] (pc2 := 92) (ls2 := [some (.ref 54), some (.int x1), some (.int x2), some (.int x3), some (.int (nI i4)), none, none, none]) (st2 := [.int x3]) (M2 := mrow M 77 (k_round_82 (M.1 76) (M.1 77) np x1 x2 x3 i4)) (Ps := []) (by decide +kernel) rfl rfl trivial ?_
    refine G.if_ne (off := (7)) (tgt := 99) (by decide +kernel) rfl (fun c27 => ?_) (fun c27 => ?_)
    · skip
      rw [if_neg c27] at hk
      refine G.sl [(.sipush 9999, 3, 0, 0, 0, nI 9999), (.istore 5, 2, 5, 0, 0, 0), (.iconst 0, 1, 0, 0, 0, nI 0), (.istore 6, 2, 6, 0, 0, 0)] [] (pc2 := 107) (ls2 := [some (.ref 54), some (.int x1), some (.int x2), some (.int x3), some (.int (nI i4)), some (.int (nI 9999)), some (.int (nI 0)), none]) (st2 := []) (M2 := mrow M 77 (k_round_82 (M.1 76) (M.1 77) np x1 x2 x3 i4)) (Ps := []) (by decide +kernel) rfl rfl trivial ?_
      obtain ⟨k32, hk⟩ := hk
      refine lp_k_round_54_107 z d (mrow M 77 (k_round_82 (M.1 76) (M.1 77) np x1 x2 x3 i4)) Q x1 x2 x3 i4 np hnp cp (by omega) (by first | (simp only [mrow_same, mrow_hit, mrow_miss, mrow_swap, ne_eq, Nat.reduceEqDiff, not_false_eq_true, Nat.reduceLT, reduceCtorEq]; exact k32) | exact k32) ?_
      show G z mX12_round (d + 2) 0 0 185 [some (.ref 54), some (.int x1), some (.int x2), some (.int x3), some (.int (nI i4)), some (.int (k_round_107 (M.1 76) (k_round_82 (M.1 76) (M.1 77) np x1 x2 x3 i4) x1 x2 x3 i4 np)), none, none] [] (mrow M 77 (k_round_82 (M.1 76) (M.1 77) np x1 x2 x3 i4)) Q
      obtain ⟨k33, k34, hk⟩ := hk
      refine G.sl [(.aload_n 0, 1, 0, 0, 0, 0), (.getfield 83, 3, 11, 47, 170, 0), (.iload 4, 2, 4, 0, 0, 0), (.bipush 8, 2, 0, 0, 0, nI 8), (.ishl, 1, 0, 0, 0, 0), (.iload_n 3, 1, 3, 0, 0, 0), (.ior, 1, 0, 0, 0, 0), (.iload 5, 2, 5, 0, 0, 0), (.iastore, 1, 0, 0, 0, 0), (.iinc 4 1, 3, 4, 0, 0, nI 1), (.goto (-120), 3, 82, 0, 0, 0)] [ix (((nI i4) <<< ((nI 8) &&& 31)) ||| x3)] (pc2 := 82) (ls2 := [some (.ref 54), some (.int x1), some (.int x2), some (.int x3), some (.int ((nI i4) + nI 1)), some (.int (k_round_107 (M.1 76) (k_round_82 (M.1 76) (M.1 77) np x1 x2 x3 i4) x1 x2 x3 i4 np)), none, none]) (st2 := []) (M2 := mput (mrow M 77 (k_round_82 (M.1 76) (M.1 77) np x1 x2 x3 i4)) 77 (ix (((nI i4) <<< ((nI 8) &&& 31)) ||| x3)) (k_round_107 (M.1 76) (k_round_82 (M.1 76) (M.1 77) np x1 x2 x3 i4) x1 x2 x3 i4 np)) (Ps := [(((nI i4) <<< ((nI 8) &&& 31)) ||| x3) = nI (ix (((nI i4) <<< ((nI 8) &&& 31)) ||| x3)) ∧ (ix (((nI i4) <<< ((nI 8) &&& 31)) ||| x3)) < 2048]) (by decide +kernel) rfl rfl ⟨⟨(ixE k33), k34⟩, trivial⟩ ?_
      refine G.mem (M' := mrow M 77 (upd (k_round_82 (M.1 76) (M.1 77) np x1 x2 x3 i4) (ix (((nI i4) <<< ((nI 8) &&& 31)) ||| x3)) (k_round_107 (M.1 76) (k_round_82 (M.1 76) (M.1 77) np x1 x2 x3 i4) x1 x2 x3 i4 np))) (by first | rfl | (simp only [mrow_same, mrow_hit, mrow_miss, mrow_swap, ne_eq, Nat.reduceEqDiff, not_false_eq_true, Nat.reduceLT, reduceCtorEq]; done)) ?_
      refine G.loc (ls2 := [some (.ref 54), some (.int x1), some (.int x2), some (.int x3), some (.int ((nI i4) + nI 1)), none, none, none]) (by simp [subL]) ?_
      rw [nI_add i4 1]
      simp only [k_round_82, if_neg c27] at ih
      exact ih
    · skip
      rw [if_pos c27] at hk
      refine G.sl [(.iconst 0, 1, 0, 0, 0, nI 0), (.goto 6, 3, 102, 0, 0, 0), (.istore 5, 2, 5, 0, 0, 0), (.iconst 0, 1, 0, 0, 0, nI 0), (.istore 6, 2, 6, 0, 0, 0)] [] (pc2 := 107) (ls2 := [some (.ref 54), some (.int x1), some (.int x2), some (.int x3), some (.int (nI i4)), some (.int (nI 0)), some (.int (nI 0)), none]) (st2 := []) (M2 := mrow M 77 (k_round_82 (M.1 76) (M.1 77) np x1 x2 x3 i4)) (Ps := []) (by decide +kernel) rfl rfl trivial ?_
      obtain ⟨k39, hk⟩ := hk
      refine lp_k_round_54_107b z d (mrow M 77 (k_round_82 (M.1 76) (M.1 77) np x1 x2 x3 i4)) Q x1 x2 x3 i4 np hnp cp (by omega) (by first | (simp only [mrow_same, mrow_hit, mrow_miss, mrow_swap, ne_eq, Nat.reduceEqDiff, not_false_eq_true, Nat.reduceLT, reduceCtorEq]; exact k39) | exact k39) ?_
      show G z mX12_round (d + 2) 0 0 185 [some (.ref 54), some (.int x1), some (.int x2), some (.int x3), some (.int (nI i4)), some (.int (k_round_107b (M.1 76) (k_round_82 (M.1 76) (M.1 77) np x1 x2 x3 i4) x1 x2 x3 i4 np)), none, none] [] (mrow M 77 (k_round_82 (M.1 76) (M.1 77) np x1 x2 x3 i4)) Q
      obtain ⟨k40, k41, hk⟩ := hk
      refine G.sl [(.aload_n 0, 1, 0, 0, 0, 0), (.getfield 83, 3, 11, 47, 170, 0), (.iload 4, 2, 4, 0, 0, 0), (.bipush 8, 2, 0, 0, 0, nI 8), (.ishl, 1, 0, 0, 0, 0), (.iload_n 3, 1, 3, 0, 0, 0), (.ior, 1, 0, 0, 0, 0), (.iload 5, 2, 5, 0, 0, 0), (.iastore, 1, 0, 0, 0, 0), (.iinc 4 1, 3, 4, 0, 0, nI 1), (.goto (-120), 3, 82, 0, 0, 0)] [ix (((nI i4) <<< ((nI 8) &&& 31)) ||| x3)] (pc2 := 82) (ls2 := [some (.ref 54), some (.int x1), some (.int x2), some (.int x3), some (.int ((nI i4) + nI 1)), some (.int (k_round_107b (M.1 76) (k_round_82 (M.1 76) (M.1 77) np x1 x2 x3 i4) x1 x2 x3 i4 np)), none, none]) (st2 := []) (M2 := mput (mrow M 77 (k_round_82 (M.1 76) (M.1 77) np x1 x2 x3 i4)) 77 (ix (((nI i4) <<< ((nI 8) &&& 31)) ||| x3)) (k_round_107b (M.1 76) (k_round_82 (M.1 76) (M.1 77) np x1 x2 x3 i4) x1 x2 x3 i4 np)) (Ps := [(((nI i4) <<< ((nI 8) &&& 31)) ||| x3) = nI (ix (((nI i4) <<< ((nI 8) &&& 31)) ||| x3)) ∧ (ix (((nI i4) <<< ((nI 8) &&& 31)) ||| x3)) < 2048]) (by decide +kernel) rfl rfl ⟨⟨(ixE k40), k41⟩, trivial⟩ ?_
      refine G.mem (M' := mrow M 77 (upd (k_round_82 (M.1 76) (M.1 77) np x1 x2 x3 i4) (ix (((nI i4) <<< ((nI 8) &&& 31)) ||| x3)) (k_round_107b (M.1 76) (k_round_82 (M.1 76) (M.1 77) np x1 x2 x3 i4) x1 x2 x3 i4 np))) (by first | rfl | (simp only [mrow_same, mrow_hit, mrow_miss, mrow_swap, ne_eq, Nat.reduceEqDiff, not_false_eq_true, Nat.reduceLT, reduceCtorEq]; done)) ?_
      refine G.loc (ls2 := [some (.ref 54), some (.int x1), some (.int x2), some (.int x3), some (.int ((nI i4) + nI 1)), none, none, none]) (by simp [subL]) ?_
      rw [nI_add i4 1]
      simp only [k_round_82, if_pos c27] at ih
      exact ih
noncomputable def k_round_74 (RfarOf : Nat → Int32) (np : Nat) (x1 : Int32) (x2 : Int32) : Nat → Int32 → (Nat → Int32) → Int32 × (Nat → Int32)
  | 0, s3, q77 => (s3, q77)
  | k0 + 1, s3, q77 => (if x2 < s3 then (s3, q77) else k_round_74 RfarOf np x1 x2 k0 (s3 + nI 1) (k_round_82 (RfarOf) q77 np x1 x2 s3 np))
noncomputable def k_round_74_ok (RfarOf : Nat → Int32) (np : Nat) (x1 : Int32) (x2 : Int32) : Nat → Int32 → (Nat → Int32) → Prop
  | 0, _, _ => False
  | k0 + 1, s3, q77 => (if x2 < s3 then True else ((∀ i4, i4 < np → k_round_82_ok (RfarOf) q77 np x1 x2 s3 i4) ∧ k_round_74_ok RfarOf np x1 x2 k0 (s3 + nI 1) (k_round_82 (RfarOf) q77 np x1 x2 s3 np)))
theorem lp_k_round_54_74 (z : Zp) (d : Nat) (M : Mem) (Q : Rs → Prop) (x1 : Int32) (x2 : Int32) (np : Nat) (hnp : np ≤ 8) (cp : M.1 54 20 = nI np) : ∀ (k0 : Nat) (s3 : Int32) (q77 : (Nat → Int32)), k_round_74_ok (M.1 76) np x1 x2 k0 s3 q77 → (match k_round_74 (M.1 76) np x1 x2 k0 s3 q77 with | (s3', q77') => G z mX12_round (d + 2) 0 0 211 [some (.ref 54), some (.int x1), some (.int x2), none, none, none, none, none] [] (mrow M 77 (q77')) Q) → G z mX12_round (d + 2) 0 0 74 [some (.ref 54), some (.int x1), some (.int x2), some (.int s3), none, none, none, none] [] (mrow M 77 q77) Q := by
  intro k0
  induction k0 with
  | zero =>
      intro s3 q77 hk hX
      exact (by simpa only [k_round_74_ok] using hk : False).elim
  | succ k0 ih =>
      intro s3 q77 hk hX
      simp only [k_round_74_ok] at hk
      refine G.sl [(.iload_n 3, 1, 3, 0, 0, 0), (.iload_n 2, 1, 2, 0, 0, 0)] [] (pc2 := 76) (ls2 := [some (.ref 54), some (.int x1), some (.int x2), some (.int s3), none, none, none, none]) (st2 := [.int x2, .int s3]) (M2 := mrow M 77 q77) (Ps := []) (by decide +kernel) rfl rfl trivial ?_
      refine G.ic_gt (off := (135)) (tgt := 211) (by decide +kernel) rfl (fun c26 => ?_) (fun c26 => ?_)
      · skip
        rw [if_pos c26] at hk
        refine G.loc (ls2 := [some (.ref 54), some (.int x1), some (.int x2), none, none, none, none, none]) (by simp [subL]) ?_
        simp only [k_round_74, if_pos c26] at hX
        exact hX
      · skip
        rw [if_neg c26] at hk
        refine G.sl [(.iconst 0, 1, 0, 0, 0, nI 0), (.istore 4, 2, 4, 0, 0, 0)] [] (pc2 := 82) (ls2 := [some (.ref 54), some (.int x1), some (.int x2), some (.int s3), some (.int (nI 0)), none, none, none]) (st2 := []) (M2 := mrow M 77 q77) (Ps := []) (by decide +kernel) rfl rfl trivial ?_
        obtain ⟨k42, hk⟩ := hk
        refine lp_k_round_54_82 z d (mrow M 77 q77) Q x1 x2 s3 np hnp cp (by first | (simp only [mrow_same, mrow_hit, mrow_miss, mrow_swap, ne_eq, Nat.reduceEqDiff, not_false_eq_true, Nat.reduceLT, reduceCtorEq]; exact k42) | exact k42) ?_
        try simp only [mrow_same, mrow_hit, mrow_miss, mrow_swap, ne_eq, Nat.reduceEqDiff, not_false_eq_true, Nat.reduceLT, reduceCtorEq]
        show G z mX12_round (d + 2) 0 0 205 [some (.ref 54), some (.int x1), some (.int x2), some (.int s3), none, none, none, none] [] (mrow M 77 (k_round_82 (M.1 76) q77 np x1 x2 s3 np)) Q
        refine G.sl [(.iinc 3 1, 3, 3, 0, 0, nI 1), (.goto (-134), 3, 74, 0, 0, 0)] [] (pc2 := 74) (ls2 := [some (.ref 54), some (.int x1), some (.int x2), some (.int (s3 + nI 1)), none, none, none, none]) (st2 := []) (M2 := mrow M 77 (k_round_82 (M.1 76) q77 np x1 x2 s3 np)) (Ps := []) (by decide +kernel) rfl rfl trivial ?_
        simp only [k_round_74, if_neg c26] at hX
        exact ih (s3 + nI 1) (k_round_82 (M.1 76) q77 np x1 x2 s3 np) hk hX
noncomputable def k_orNone (x0 : Int32) : Int32 := (if x0 < (nI 9999) then x0 else (-1))
theorem c_k_orNone (z : Zp) (d : Nat) (M : Mem) (x0 : Int32) : GM z mX12_orNone (d) [.int x0] M (fun rs => rs = .inl (some (.int (k_orNone x0)), M)) := by
  refine GM.of oX12_orNone.1 (Nat.le_of_ble_eq_true rfl) ?_
  show G z mX12_orNone (d) 0 0 0 [some (.int x0)] [] M _
  obtain ⟨Q, hQ⟩ : ∃ Q : Rs → Prop, Q = (fun rs => rs = .inl (some (.int (k_orNone x0)), M)) := ⟨_, rfl⟩
  rw [← hQ]
  refine G.sl [(.iload_n 0, 1, 0, 0, 0, 0), (.sipush 9999, 3, 0, 0, 0, nI 9999)] [] (pc2 := 4) (ls2 := [some (.int x0)]) (st2 := [.int (nI 9999), .int x0]) (M2 := M) (Ps := []) (by decide +kernel) rfl rfl trivial ?_
  refine G.ic_lt (off := (7)) (tgt := 11) (by decide +kernel) rfl (fun c1 => ?_) (fun c1 => ?_)
  · skip
    refine G.sl [(.iload_n 0, 1, 0, 0, 0, 0)] [] (pc2 := 12) (ls2 := [some (.int x0)]) (st2 := [.int x0]) (M2 := M) (Ps := []) (by decide +kernel) rfl rfl trivial ?_
    exact G.reti (by decide +kernel) rfl rfl (Nat.le_of_ble_eq_true rfl) (Nat.le_of_ble_eq_true rfl) ((by rw [hQ]; simp only [k_orNone, if_pos c1, mrow_self]))
  · skip
    refine G.sl [(.iconst (-1), 1, 0, 0, 0, (-1)), (.goto 4, 3, 12, 0, 0, 0)] [] (pc2 := 12) (ls2 := [some (.int x0)]) (st2 := [.int ((-1))]) (M2 := M) (Ps := []) (by decide +kernel) rfl rfl trivial ?_
    exact G.reti (by decide +kernel) rfl rfl (Nat.le_of_ble_eq_true rfl) (Nat.le_of_ble_eq_true rfl) ((by rw [hQ]; simp only [k_orNone, if_neg c1, mrow_self]))
noncomputable def k_round (Rmd Rrefused Rnow Rs RfarOf RroundOn : Nat → Int32) (nf : Nat) (x1 : Int32) : Int32 × (Nat → Int32) × (Nat → Int32) × (Nat → Int32) × (Nat → Int32) := (match k_isFinder (upd (Rmd) 0 (nI 0)) (Rrefused) nf x1 (nI 1) with | (v3, r4, r5) => (if v3 = 0 then (nI 0, r4, r5, Rs, RroundOn) else (match k_take (Rnow) (Rs) with | (u11, r12) => (match k_round_74 (RfarOf) (ix (r4 20)) x1 ((k_round_24 r12 (ix (r4 22)) x1 (ix (r4 20))) &&& (((nI 1) <<< ((r12 (20 + (ix x1))) &&& 31)) ^^^ ((-1)))) FU (nI 0) (RroundOn) with | (v45, r46) => (k_orNone (r46 (ix (((r12 (20 + (ix x1))) <<< ((nI 8) &&& 31)) ||| ((k_round_24 r12 (ix (r4 22)) x1 (ix (r4 20))) &&& (((nI 1) <<< ((r12 (20 + (ix x1))) &&& 31)) ^^^ ((-1))))))), r4, r5, r12, r46)))))
noncomputable def k_round_ok (Rmd Rrefused Rnow Rs RfarOf RroundOn : Nat → Int32) (nf : Nat) (x1 : Int32) : Prop := (k_isFinder_ok (upd (Rmd) 0 (nI 0)) (Rrefused) nf x1 (nI 1) ∧ (match k_isFinder (upd (Rmd) 0 (nI 0)) (Rrefused) nf x1 (nI 1) with | (v3, r4, r5) => (if v3 = 0 then True else (k_take_ok (Rnow) (Rs) ∧ (match k_take (Rnow) (Rs) with | (u11, r12) => ((isN (r4 20)) ∧ (ix (r4 20) ≤ 8) ∧ (isN (r4 22)) ∧ (ix (r4 22) ≤ 10) ∧ (True ∧ ((isN x1) ∧ (20 + (ix x1) < 51) ∧ (k_round_74_ok (RfarOf) (ix (r4 20)) x1 ((k_round_24 r12 (ix (r4 22)) x1 (ix (r4 20))) &&& (((nI 1) <<< ((r12 (20 + (ix x1))) &&& 31)) ^^^ ((-1)))) FU (nI 0) (RroundOn) ∧ (match k_round_74 (RfarOf) (ix (r4 20)) x1 ((k_round_24 r12 (ix (r4 22)) x1 (ix (r4 20))) &&& (((nI 1) <<< ((r12 (20 + (ix x1))) &&& 31)) ^^^ ((-1)))) FU (nI 0) (RroundOn) with | (v45, r46) => ((isN (((r12 (20 + (ix x1))) <<< ((nI 8) &&& 31)) ||| ((k_round_24 r12 (ix (r4 22)) x1 (ix (r4 20))) &&& (((nI 1) <<< ((r12 (20 + (ix x1))) &&& 31)) ^^^ ((-1)))))) ∧ (ix (((r12 (20 + (ix x1))) <<< ((nI 8) &&& 31)) ||| ((k_round_24 r12 (ix (r4 22)) x1 (ix (r4 20))) &&& (((nI 1) <<< ((r12 (20 + (ix x1))) &&& 31)) ^^^ ((-1))))) < 2048) ∧ True)))))))))))
theorem c_k_round_54 (z : Zp) (d : Nat) (M : Mem) (x1 : Int32) (nf : Nat) (hnf : nf ≤ 6) (cf : M.1 54 23 = nI nf) (hk : k_round_ok (M.1 54) (M.1 55) (M.1 71) (M.1 72) (M.1 76) (M.1 77) nf x1) : GM z mX12_round (d + 2) [.ref 54, .int x1] M (fun rs => rs = .inl (some (.int ((k_round (M.1 54) (M.1 55) (M.1 71) (M.1 72) (M.1 76) (M.1 77) nf x1).1)), mrow (mrow (mrow (mrow M 54 ((k_round (M.1 54) (M.1 55) (M.1 71) (M.1 72) (M.1 76) (M.1 77) nf x1).2.1)) 55 ((k_round (M.1 54) (M.1 55) (M.1 71) (M.1 72) (M.1 76) (M.1 77) nf x1).2.2.1)) 72 ((k_round (M.1 54) (M.1 55) (M.1 71) (M.1 72) (M.1 76) (M.1 77) nf x1).2.2.2.1)) 77 ((k_round (M.1 54) (M.1 55) (M.1 71) (M.1 72) (M.1 76) (M.1 77) nf x1).2.2.2.2))) := by
  simp only [k_round_ok] at hk
  refine GM.of oX12_round.1 (Nat.le_of_ble_eq_true rfl) ?_
  show G z mX12_round (d + 2) 0 0 0 [some (.ref 54), some (.int x1), none, none, none, none, none, none] [] M _
  obtain ⟨Q, hQ⟩ : ∃ Q : Rs → Prop, Q = (fun rs => rs = .inl (some (.int ((k_round (M.1 54) (M.1 55) (M.1 71) (M.1 72) (M.1 76) (M.1 77) nf x1).1)), mrow (mrow (mrow (mrow M 54 ((k_round (M.1 54) (M.1 55) (M.1 71) (M.1 72) (M.1 76) (M.1 77) nf x1).2.1)) 55 ((k_round (M.1 54) (M.1 55) (M.1 71) (M.1 72) (M.1 76) (M.1 77) nf x1).2.2.1)) 72 ((k_round (M.1 54) (M.1 55) (M.1 71) (M.1 72) (M.1 76) (M.1 77) nf x1).2.2.2.1)) 77 ((k_round (M.1 54) (M.1 55) (M.1 71) (M.1 72) (M.1 76) (M.1 77) nf x1).2.2.2.2))) := ⟨_, rfl⟩
  rw [← hQ]
  refine G.sl [(.aload_n 0, 1, 0, 0, 0, 0), (.iconst 0, 1, 0, 0, 0, nI 0), (.putfield 3, 3, 11, 0, 123, 0), (.aload_n 0, 1, 0, 0, 0, 0), (.iload_n 1, 1, 1, 0, 0, 0), (.iconst 1, 1, 0, 0, 0, nI 1)] [] (pc2 := 8) (ls2 := [some (.ref 54), some (.int x1), none, none, none, none, none, none]) (st2 := [.int (nI 1), .int x1, .ref 54]) (M2 := mput M 54 0 (nI 0)) (Ps := []) (by decide +kernel) rfl rfl trivial ?_
  refine G.mem (M' := mrow M 54 (upd (M.1 54) 0 (nI 0))) (by first | rfl | (simp only [mrow_same, mrow_hit, mrow_miss, mrow_swap, ne_eq, Nat.reduceEqDiff, not_false_eq_true, Nat.reduceLT, reduceCtorEq]; done)) ?_
  obtain ⟨k1, hk⟩ := hk
  rcases g2 : k_isFinder (upd (M.1 54) 0 (nI 0)) (M.1 55) nf x1 (nI 1) with ⟨v3, r4, r5⟩
  try simp only [g2] at hk
  have ev3 : v3 = 0 ∨ v3 = 1 := by
    have q9 := k_isFinder_01 (upd (M.1 54) 0 (nI 0)) (M.1 55) nf x1 (nI 1)
    rw [g2] at q9
    exact q9
  have t6 : GM z mX12_isFinder (d + 1) [.ref 54, .int x1, .int (nI 1)] (mrow M 54 (upd (M.1 54) 0 (nI 0))) (fun rs => rs = .inl (some (.int v3), mrow (mrow M 54 r4) 55 r5)) := by
    have q9 := c_k_isFinder_54 z d (mrow M 54 (upd (M.1 54) 0 (nI 0))) x1 (nI 1) nf hnf cf k1
    try simp only [mrow_same, mrow_hit, mrow_miss, mrow_swap, ne_eq, Nat.reduceEqDiff, not_false_eq_true, Nat.reduceLT, reduceCtorEq, g2] at q9
    exact q9
  refine G.callV (as := [.int x1, .int (nI 1)]) (rest := []) (a := 54) oX12_isFinder lk_EvenFindersModel_400 (by decide +kernel) rfl rfl ⟨rfl, rfl⟩ (Nat.le_of_ble_eq_true rfl) rfl ⟨Nat.le_of_ble_eq_true rfl, Nat.le_of_ble_eq_true rfl⟩ t6 (fun v9 N9 h7 => ?_) (fun E9 N9 h7 => by cases h7)
  cases h7
  show G z mX12_round (d + 2) 0 0 11 [some (.ref 54), some (.int x1), none, none, none, none, none, none] [.int v3] (mrow (mrow M 54 r4) 55 r5) Q
  refine G.if_ne (off := (5)) (tgt := 16) (by decide +kernel) rfl (fun c8 => ?_) (fun c8 => ?_)
  · skip
    rw [if_neg c8] at hk
    refine G.sl [(.aload_n 0, 1, 0, 0, 0, 0)] [] (pc2 := 17) (ls2 := [some (.ref 54), some (.int x1), none, none, none, none, none, none]) (st2 := [.ref 54]) (M2 := mrow (mrow M 54 r4) 55 r5) (Ps := []) (by decide +kernel) rfl rfl trivial ?_
    obtain ⟨k9, hk⟩ := hk
    rcases g10 : k_take (M.1 71) (M.1 72) with ⟨u11, r12⟩
    try simp only [g10] at hk
    have t13 : GM z mX12_take (d + 1) [.ref 54] (mrow (mrow M 54 r4) 55 r5) (fun rs => rs = .inl (none, mrow (mrow (mrow M 54 r4) 55 r5) 72 r12)) := by
      have q9 := c_k_take_54 z d (mrow (mrow M 54 r4) 55 r5) k9
      try simp only [mrow_same, mrow_hit, mrow_miss, mrow_swap, ne_eq, Nat.reduceEqDiff, not_false_eq_true, Nat.reduceLT, reduceCtorEq, g10] at q9
      exact q9
    refine G.callV (as := []) (rest := []) (a := 54) oX12_take lk_EvenFindersModel_320 (by decide +kernel) rfl rfl ⟨rfl, rfl⟩ (Nat.le_of_ble_eq_true rfl) rfl ⟨Nat.le_of_ble_eq_true rfl, Nat.le_of_ble_eq_true rfl⟩ t13 (fun v9 N9 h14 => ?_) (fun E9 N9 h14 => by cases h14)
    cases h14
    show G z mX12_round (d + 2) 0 0 20 [some (.ref 54), some (.int x1), none, none, none, none, none, none] [] (mrow (mrow (mrow M 54 r4) 55 r5) 72 r12) Q
    refine G.sl [(.iconst 0, 1, 0, 0, 0, nI 0), (.istore_n 2, 1, 2, 0, 0, 0), (.iconst 0, 1, 0, 0, 0, nI 0), (.istore_n 3, 1, 3, 0, 0, 0)] [] (pc2 := 24) (ls2 := [some (.ref 54), some (.int x1), some (.int (nI 0)), some (.int (nI 0)), none, none, none, none]) (st2 := []) (M2 := mrow (mrow (mrow M 54 r4) 55 r5) 72 r12) (Ps := []) (by decide +kernel) rfl rfl trivial ?_
    obtain ⟨k19, k20, k21, k22, hk⟩ := hk
    obtain ⟨k23, hk⟩ := hk
    refine lp_k_round_54_24 z d (mrow (mrow (mrow M 54 r4) 55 r5) 72 r12) Q x1 (ix (r4 20)) k20 (ixE k19) (ix (r4 22)) k22 (ixE k21) ?_
    show G z mX12_round (d + 2) 0 0 56 [some (.ref 54), some (.int x1), some (.int (k_round_24 r12 (ix (r4 22)) x1 (ix (r4 20)))), none, none, none, none, none] [] (mrow (mrow (mrow M 54 r4) 55 r5) 72 r12) Q
    obtain ⟨k24, k25, hk⟩ := hk
    refine G.sl [(.iload_n 2, 1, 2, 0, 0, 0), (.iconst 1, 1, 0, 0, 0, nI 1), (.aload_n 0, 1, 0, 0, 0, 0), (.getfield 68, 3, 11, 41, 164, 0), (.bipush 20, 2, 0, 0, 0, nI 20), (.iload_n 1, 1, 1, 0, 0, 0), (.iadd, 1, 0, 0, 0, 0), (.iaload, 1, 0, 0, 0, 0), (.ishl, 1, 0, 0, 0, 0), (.iconst (-1), 1, 0, 0, 0, (-1)), (.ixor, 1, 0, 0, 0, 0), (.iand, 1, 0, 0, 0, 0), (.istore_n 2, 1, 2, 0, 0, 0), (.iconst 0, 1, 0, 0, 0, nI 0), (.istore_n 3, 1, 3, 0, 0, 0)] [20 + (ix x1)] (pc2 := 74) (ls2 := [some (.ref 54), some (.int x1), some (.int ((k_round_24 r12 (ix (r4 22)) x1 (ix (r4 20))) &&& (((nI 1) <<< ((r12 (20 + (ix x1))) &&& 31)) ^^^ ((-1))))), some (.int (nI 0)), none, none, none, none]) (st2 := []) (M2 := mrow (mrow (mrow M 54 r4) 55 r5) 72 r12) (Ps := [((nI 20) + x1) = nI (20 + (ix x1)) ∧ (20 + (ix x1)) < 51]) (by decide +kernel) rfl rfl ⟨⟨(nAdd rfl (ixE k24)), k25⟩, trivial⟩ ?_
    obtain ⟨k43, hk⟩ := hk
    refine G.mem (M' := mrow (mrow (mrow (mrow M 54 r4) 55 r5) 72 r12) 77 ((mrow (mrow (mrow M 54 r4) 55 r5) 72 r12).1 77)) (by simp only [mrow_self]) ?_
    refine lp_k_round_54_74 z d (mrow (mrow (mrow M 54 r4) 55 r5) 72 r12) Q x1 ((k_round_24 r12 (ix (r4 22)) x1 (ix (r4 20))) &&& (((nI 1) <<< ((r12 (20 + (ix x1))) &&& 31)) ^^^ ((-1)))) (ix (r4 20)) (by omega) (ixE k19) FU (nI 0) ((mrow (mrow (mrow M 54 r4) 55 r5) 72 r12).1 77) (by first | (simp only [mrow_same, mrow_hit, mrow_miss, mrow_swap, ne_eq, Nat.reduceEqDiff, not_false_eq_true, Nat.reduceLT, reduceCtorEq]; exact k43) | exact k43) ?_
    try simp only [mrow_same, mrow_hit, mrow_miss, mrow_swap, ne_eq, Nat.reduceEqDiff, not_false_eq_true, Nat.reduceLT, reduceCtorEq]
    rcases g44 : k_round_74 (M.1 76) (ix (r4 20)) x1 ((k_round_24 r12 (ix (r4 22)) x1 (ix (r4 20))) &&& (((nI 1) <<< ((r12 (20 + (ix x1))) &&& 31)) ^^^ ((-1)))) FU (nI 0) (M.1 77) with ⟨v45, r46⟩
    try simp only [g44] at hk
    show G z mX12_round (d + 2) 0 0 211 [some (.ref 54), some (.int x1), some (.int ((k_round_24 r12 (ix (r4 22)) x1 (ix (r4 20))) &&& (((nI 1) <<< ((r12 (20 + (ix x1))) &&& 31)) ^^^ ((-1))))), none, none, none, none, none] [] (mrow (mrow (mrow (mrow M 54 r4) 55 r5) 72 r12) 77 r46) Q
    obtain ⟨k47, k48, hk⟩ := hk
    refine G.sl [(.aload_n 0, 1, 0, 0, 0, 0), (.getfield 83, 3, 11, 47, 170, 0), (.aload_n 0, 1, 0, 0, 0, 0), (.getfield 68, 3, 11, 41, 164, 0), (.bipush 20, 2, 0, 0, 0, nI 20), (.iload_n 1, 1, 1, 0, 0, 0), (.iadd, 1, 0, 0, 0, 0), (.iaload, 1, 0, 0, 0, 0), (.bipush 8, 2, 0, 0, 0, nI 8), (.ishl, 1, 0, 0, 0, 0), (.iload_n 2, 1, 2, 0, 0, 0), (.ior, 1, 0, 0, 0, 0), (.iaload, 1, 0, 0, 0, 0)] [20 + (ix x1), ix (((r12 (20 + (ix x1))) <<< ((nI 8) &&& 31)) ||| ((k_round_24 r12 (ix (r4 22)) x1 (ix (r4 20))) &&& (((nI 1) <<< ((r12 (20 + (ix x1))) &&& 31)) ^^^ ((-1)))))] (pc2 := 230) (ls2 := [some (.ref 54), some (.int x1), some (.int ((k_round_24 r12 (ix (r4 22)) x1 (ix (r4 20))) &&& (((nI 1) <<< ((r12 (20 + (ix x1))) &&& 31)) ^^^ ((-1))))), none, none, none, none, none]) (st2 := [.int (r46 (ix (((r12 (20 + (ix x1))) <<< ((nI 8) &&& 31)) ||| ((k_round_24 r12 (ix (r4 22)) x1 (ix (r4 20))) &&& (((nI 1) <<< ((r12 (20 + (ix x1))) &&& 31)) ^^^ ((-1)))))))]) (M2 := mrow (mrow (mrow (mrow M 54 r4) 55 r5) 72 r12) 77 r46) (Ps := [((nI 20) + x1) = nI (20 + (ix x1)) ∧ (20 + (ix x1)) < 51, (((r12 (20 + (ix x1))) <<< ((nI 8) &&& 31)) ||| ((k_round_24 r12 (ix (r4 22)) x1 (ix (r4 20))) &&& (((nI 1) <<< ((r12 (20 + (ix x1))) &&& 31)) ^^^ ((-1))))) = nI (ix (((r12 (20 + (ix x1))) <<< ((nI 8) &&& 31)) ||| ((k_round_24 r12 (ix (r4 22)) x1 (ix (r4 20))) &&& (((nI 1) <<< ((r12 (20 + (ix x1))) &&& 31)) ^^^ ((-1)))))) ∧ (ix (((r12 (20 + (ix x1))) <<< ((nI 8) &&& 31)) ||| ((k_round_24 r12 (ix (r4 22)) x1 (ix (r4 20))) &&& (((nI 1) <<< ((r12 (20 + (ix x1))) &&& 31)) ^^^ ((-1)))))) < 2048]) (by decide +kernel) rfl rfl ⟨⟨(nAdd rfl (ixE k24)), k25⟩, ⟨(ixE k47), k48⟩, trivial⟩ ?_
    have t50 : GM z mX12_orNone (d + 1) [.int (r46 (ix (((r12 (20 + (ix x1))) <<< ((nI 8) &&& 31)) ||| ((k_round_24 r12 (ix (r4 22)) x1 (ix (r4 20))) &&& (((nI 1) <<< ((r12 (20 + (ix x1))) &&& 31)) ^^^ ((-1)))))))] (mrow (mrow (mrow (mrow M 54 r4) 55 r5) 72 r12) 77 r46) (fun rs => rs = .inl (some (.int (k_orNone (r46 (ix (((r12 (20 + (ix x1))) <<< ((nI 8) &&& 31)) ||| ((k_round_24 r12 (ix (r4 22)) x1 (ix (r4 20))) &&& (((nI 1) <<< ((r12 (20 + (ix x1))) &&& 31)) ^^^ ((-1))))))))), mrow (mrow (mrow (mrow M 54 r4) 55 r5) 72 r12) 77 r46)) := by
      have q9 := c_k_orNone z (d + 1) (mrow (mrow (mrow (mrow M 54 r4) 55 r5) 72 r12) 77 r46) (r46 (ix (((r12 (20 + (ix x1))) <<< ((nI 8) &&& 31)) ||| ((k_round_24 r12 (ix (r4 22)) x1 (ix (r4 20))) &&& (((nI 1) <<< ((r12 (20 + (ix x1))) &&& 31)) ^^^ ((-1)))))))
      try simp only [mrow_same, mrow_hit, mrow_miss, mrow_swap, ne_eq, Nat.reduceEqDiff, not_false_eq_true, Nat.reduceLT, reduceCtorEq] at q9
      exact q9
    refine G.callS (as := [.int (r46 (ix (((r12 (20 + (ix x1))) <<< ((nI 8) &&& 31)) ||| ((k_round_24 r12 (ix (r4 22)) x1 (ix (r4 20))) &&& (((nI 1) <<< ((r12 (20 + (ix x1))) &&& 31)) ^^^ ((-1)))))))]) (rest := []) oX12_orNone lk_EvenFindersModel_403 (by decide +kernel) rfl (Nat.le_of_ble_eq_true rfl) rfl ⟨Nat.le_of_ble_eq_true rfl, Nat.le_of_ble_eq_true rfl⟩ t50 (fun v9 N9 h51 => ?_) (fun E9 N9 h51 => by cases h51)
    cases h51
    show G z mX12_round (d + 2) 0 0 233 [some (.ref 54), some (.int x1), some (.int ((k_round_24 r12 (ix (r4 22)) x1 (ix (r4 20))) &&& (((nI 1) <<< ((r12 (20 + (ix x1))) &&& 31)) ^^^ ((-1))))), none, none, none, none, none] [.int (k_orNone (r46 (ix (((r12 (20 + (ix x1))) <<< ((nI 8) &&& 31)) ||| ((k_round_24 r12 (ix (r4 22)) x1 (ix (r4 20))) &&& (((nI 1) <<< ((r12 (20 + (ix x1))) &&& 31)) ^^^ ((-1))))))))] (mrow (mrow (mrow (mrow M 54 r4) 55 r5) 72 r12) 77 r46) Q
    exact G.reti (by decide +kernel) rfl rfl (Nat.le_of_ble_eq_true rfl) (Nat.le_of_ble_eq_true rfl) ((by rw [hQ]; simp only [k_round, g2, if_neg c8, g10, g44, mrow_self]))
  · skip
    rw [if_pos c8] at hk
    refine G.sl [(.iconst 0, 1, 0, 0, 0, nI 0)] [] (pc2 := 15) (ls2 := [some (.ref 54), some (.int x1), none, none, none, none, none, none]) (st2 := [.int (nI 0)]) (M2 := mrow (mrow M 54 r4) 55 r5) (Ps := []) (by decide +kernel) rfl rfl trivial ?_
    refine G.mem (M' := mrow (mrow (mrow (mrow M 54 r4) 55 r5) 72 (M.1 72)) 77 (M.1 77)) ((((mrow_id (N := mrow (mrow M 54 r4) 55 r5) (c := 72) (f := M.1 72) (by first | rfl | (simp only [mrow_same, mrow_hit, mrow_miss, mrow_swap, ne_eq, Nat.reduceEqDiff, not_false_eq_true, Nat.reduceLT, reduceCtorEq]; done))).symm).trans (mrow_id (N := mrow (mrow (mrow M 54 r4) 55 r5) 72 (M.1 72)) (c := 77) (f := M.1 77) (by first | rfl | (simp only [mrow_same, mrow_hit, mrow_miss, mrow_swap, ne_eq, Nat.reduceEqDiff, not_false_eq_true, Nat.reduceLT, reduceCtorEq]; done))).symm).trans (by first | rfl | (simp only [mrow_same, mrow_hit, mrow_miss, mrow_swap, ne_eq, Nat.reduceEqDiff, not_false_eq_true, Nat.reduceLT, reduceCtorEq]; done))) ?_
    exact G.reti (by decide +kernel) rfl rfl (Nat.le_of_ble_eq_true rfl) (Nat.le_of_ble_eq_true rfl) ((by rw [hQ]; simp only [k_round, g2, if_pos c8, mrow_self]))
