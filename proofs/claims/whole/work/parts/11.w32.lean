set_option maxHeartbeats 4000000 in
set_option maxRecDepth 3000 in
theorem c_d_greatestLying_37 (z : Zp) (d : Nat) (M : Mem) (nt : Nat) (hnt : nt ≤ 10) (ht : M.1 3 2 = nI nt) (hk : d_greatestLying_ok (M.1 7) (M.1 38) nt) : GM z mX1_greatestLying (d) [.ref 37] M (fun rs => rs = .inl (some (.int (d_greatestLying (M.1 7) (M.1 38) nt)), M)) := by
  simp only [d_greatestLying_ok] at hk
  refine GM.of oX1_greatestLying.1 (Nat.le_of_ble_eq_true rfl) ?_
  show G z mX1_greatestLying (d) 0 0 0 [some (.ref 37), none, none] [] M _
  obtain ⟨Q, hQ⟩ : ∃ Q : Rs → Prop, Q = (fun rs => rs = .inl (some (.int (d_greatestLying (M.1 7) (M.1 38) nt)), M)) := ⟨_, rfl⟩
  rw [← hQ]
  refine G.sl [(.iconst (-1), 1, 0, 0, 0, (-1)), (.istore_n 1, 1, 1, 0, 0, 0), (.iconst 0, 1, 0, 0, 0, nI 0), (.istore_n 2, 1, 2, 0, 0, 0)] [] (pc2 := 4) (ls2 := [some (.ref 37), some (.int ((-1))), some (.int (nI 0))]) (st2 := []) (M2 := M) (Ps := []) (by decide +kernel) rfl rfl trivial ?_
  obtain ⟨k6, hk⟩ := hk
  refine lp_d_greatestLying_37_4 z d M Q nt hnt ht (by first | (simp only [mput, mrow_same, mrow_hit, mrow_miss, mrow_sw, idr_eq, ne_eq, Nat.reduceEqDiff, not_false_eq_true, Nat.reduceLT, reduceCtorEq]; exact k6) | exact k6) ?_
  show G z mX1_greatestLying (d) 0 0 62 [none, some (.int (d_greatestLying_4 (M.1 7) (M.1 38) nt)), none] [] M Q
  refine G.sl [(.iload_n 1, 1, 1, 0, 0, 0)] [] (pc2 := 63) (ls2 := [none, some (.int (d_greatestLying_4 (M.1 7) (M.1 38) nt)), none]) (st2 := [.int (d_greatestLying_4 (M.1 7) (M.1 38) nt)]) (M2 := M) (Ps := []) (by decide +kernel) rfl rfl trivial ?_
  exact G.reti (by decide +kernel) rfl rfl (Nat.le_of_ble_eq_true rfl) (Nat.le_of_ble_eq_true rfl) ((by rw [hQ]; simp only [d_greatestLying, mrow_self]))
set_option maxHeartbeats 4000000 in
set_option maxRecDepth 3000 in
theorem c_e_greatest_0 (z : Zp) (d : Nat) (M : Mem) (x1 : Int32) (nt : Nat) (hnt : nt ≤ 10) (ht : M.1 3 2 = nI nt) (hk : e_greatest_ok M nt x1) : GM z mX11_greatest (d + 7) [.ref 0, .int x1] M (fun rs => rs = e_greatest M nt x1) := by
  simp only [e_greatest_ok] at hk
  refine GM.of oX11_greatest.1 (Nat.le_of_ble_eq_true rfl) ?_
  show G z mX11_greatest (d + 7) 0 0 0 [some (.ref 0), some (.int x1), none] [] M _
  obtain ⟨Q, hQ⟩ : ∃ Q : Rs → Prop, Q = (fun rs => rs = e_greatest M nt x1) := ⟨_, rfl⟩
  rw [← hQ]
  refine G.sl [(.aload_n 0, 1, 0, 0, 0, 0), (.iload_n 1, 1, 1, 0, 0, 0), (.iconst 0, 1, 0, 0, 0, nI 0), (.iconst 1, 1, 0, 0, 0, nI 1)] [] (pc2 := 4) (ls2 := [some (.ref 0), some (.int x1), none]) (st2 := [.int (nI 1), .int (nI 0), .int x1, .ref 0]) (M2 := M) (Ps := []) (by decide +kernel) rfl rfl trivial ?_
  by_cases c1 : ¬ x1 < (nI 0) ∧ x1 ≤ (nI 1)
  · skip
    rw [if_pos c1] at hk
    have t2 : GM z mX11_needWithin (d + 6) [.ref 0, .int x1, .int (nI 0), .int (nI 1)] M (fun rs => rs = .inl (none, M)) := e_needWithin_g z d _ x1 (nI 0) (nI 1) c1
    refine G.callV (as := [.int x1, .int (nI 0), .int (nI 1)]) (rest := []) (a := 0) oX11_needWithin lk_EvenFinders_182 (by decide +kernel) rfl rfl ⟨rfl, rfl⟩ (Nat.le_of_ble_eq_true rfl) rfl ⟨Nat.le_of_ble_eq_true rfl, Nat.le_of_ble_eq_true rfl⟩ t2 (fun v9 N9 h3 => ?_) (fun E9 N9 h3 => by cases h3)
    cases h3
    show G z mX11_greatest (d + 7) 1 6 7 [some (.ref 0), some (.int x1), none] [] M Q
    refine G.sl [(.aload_n 0, 1, 0, 0, 0, 0), (.getfield 60, 3, 10, 8, 114, 0)] [] (pc2 := 11) (ls2 := [some (.ref 0), some (.int x1), none]) (st2 := [.ref 37]) (M2 := M) (Ps := []) (by decide +kernel) rfl rfl trivial ?_
    obtain ⟨k4, hk⟩ := hk
    have t5 : GM z mX1_greatestLying (d + 6) [.ref 37] M (fun rs => rs = .inl (some (.int (d_greatestLying (M.1 7) (M.1 38) nt)), M)) := by
      have q9 := c_d_greatestLying_37 z (d + 6) M nt hnt ht k4
      try simp only [mput, mrow_same, mrow_hit, mrow_miss, mrow_sw, idr_eq, ne_eq, Nat.reduceEqDiff, not_false_eq_true, Nat.reduceLT, reduceCtorEq] at q9
      exact q9
    refine G.callV (as := []) (rest := []) (a := 37) oX1_greatestLying lk_EvenFinders_329 (by decide +kernel) rfl rfl ⟨rfl, rfl⟩ (Nat.le_of_ble_eq_true rfl) rfl ⟨Nat.le_of_ble_eq_true rfl, Nat.le_of_ble_eq_true rfl⟩ t5 (fun v9 N9 h6 => ?_) (fun E9 N9 h6 => by cases h6)
    cases h6
    show G z mX11_greatest (d + 7) 1 6 14 [some (.ref 0), some (.int x1), none] [.int (d_greatestLying (M.1 7) (M.1 38) nt)] M Q
    refine G.sl [(.istore_n 2, 1, 2, 0, 0, 0), (.iload_n 1, 1, 1, 0, 0, 0)] [] (pc2 := 16) (ls2 := [some (.ref 0), some (.int x1), some (.int (d_greatestLying (M.1 7) (M.1 38) nt))]) (st2 := [.int x1]) (M2 := M) (Ps := []) (by decide +kernel) rfl rfl trivial ?_
    refine G.if_eq (off := (8)) (tgt := 24) (by decide +kernel) rfl (fun c7 => ?_) (fun c7 => ?_)
    · skip
      rw [if_pos c7] at hk
      refine G.sl [(.iload_n 2, 1, 2, 0, 0, 0), (.goto 12, 3, 37, 0, 0, 0)] [] (pc2 := 37) (ls2 := [some (.ref 0), some (.int x1), some (.int (d_greatestLying (M.1 7) (M.1 38) nt))]) (st2 := [.int (d_greatestLying (M.1 7) (M.1 38) nt)]) (M2 := M) (Ps := []) (by decide +kernel) rfl rfl trivial ?_
      exact G.reti (by decide +kernel) rfl rfl (Nat.le_of_ble_eq_true rfl) (Nat.le_of_ble_eq_true rfl) ((by rw [hQ]; simp only [e_greatest, if_pos c1, if_pos c7, mrow_self]))
    · skip
      rw [if_neg c7] at hk
      refine G.sl [(.iload_n 2, 1, 2, 0, 0, 0), (.iconst (-1), 1, 0, 0, 0, (-1))] [] (pc2 := 21) (ls2 := [some (.ref 0), some (.int x1), some (.int (d_greatestLying (M.1 7) (M.1 38) nt))]) (st2 := [.int ((-1)), .int (d_greatestLying (M.1 7) (M.1 38) nt)]) (M2 := M) (Ps := []) (by decide +kernel) rfl rfl trivial ?_
      refine G.ic_ne (off := (7)) (tgt := 28) (by decide +kernel) rfl (fun c8 => ?_) (fun c8 => ?_)
      · skip
        rw [if_neg c8] at hk
        obtain ⟨k9, k10, hk⟩ := hk
        refine G.sl [(.aload_n 0, 1, 0, 0, 0, 0), (.getfield 19, 3, 10, 1, 107, 0), (.getfield 243, 3, 6, 7, 45, 0), (.iload_n 2, 1, 2, 0, 0, 0), (.iaload, 1, 0, 0, 0, 0)] [ix (d_greatestLying (M.1 7) (M.1 38) nt)] (pc2 := 37) (ls2 := [some (.ref 0), some (.int x1), some (.int (d_greatestLying (M.1 7) (M.1 38) nt))]) (st2 := [.int (M.1 7 (ix (d_greatestLying (M.1 7) (M.1 38) nt)))]) (M2 := M) (Ps := [(d_greatestLying (M.1 7) (M.1 38) nt) = nI (ix (d_greatestLying (M.1 7) (M.1 38) nt)) ∧ (ix (d_greatestLying (M.1 7) (M.1 38) nt)) < 10]) (by decide +kernel) rfl rfl ⟨⟨(ixE k9), k10⟩, trivial⟩ ?_
        exact G.reti (by decide +kernel) rfl rfl (Nat.le_of_ble_eq_true rfl) (Nat.le_of_ble_eq_true rfl) ((by rw [hQ]; simp only [e_greatest, if_pos c1, if_neg c7, if_neg c8, mrow_self]))
      · skip
        rw [if_pos c8] at hk
        refine G.sl [(.iload_n 2, 1, 2, 0, 0, 0), (.goto 12, 3, 37, 0, 0, 0)] [] (pc2 := 37) (ls2 := [some (.ref 0), some (.int x1), some (.int (d_greatestLying (M.1 7) (M.1 38) nt))]) (st2 := [.int (d_greatestLying (M.1 7) (M.1 38) nt)]) (M2 := M) (Ps := []) (by decide +kernel) rfl rfl trivial ?_
        exact G.reti (by decide +kernel) rfl rfl (Nat.le_of_ble_eq_true rfl) (Nat.le_of_ble_eq_true rfl) ((by rw [hQ]; simp only [e_greatest, if_pos c1, if_neg c7, if_pos c8, mrow_self]))
  · skip
    rw [if_neg c1] at hk
    have t11 : GM z mX11_needWithin (d + 6) [.ref 0, .int x1, .int (nI 0), .int (nI 1)] M (fun rs => rs = .inr ("java/lang/IllegalArgumentException", mrow M 0 (upd (M.1 0) 16 ((M.1 0 16) + nI 1)))) := e_needWithin_b z d _ x1 (nI 0) (nI 1) c1
    refine G.callV (as := [.int x1, .int (nI 0), .int (nI 1)]) (rest := []) (a := 0) oX11_needWithin lk_EvenFinders_182 (by decide +kernel) rfl rfl ⟨rfl, rfl⟩ (Nat.le_of_ble_eq_true rfl) rfl ⟨Nat.le_of_ble_eq_true rfl, Nat.le_of_ble_eq_true rfl⟩ t11 (fun v9 N9 h9 => by cases h9) (fun E9 N9 h9 => ?_)
    cases h9
    rw [hQ]
    simp only [e_greatest, if_neg c1]
set_option maxHeartbeats 4000000 in
set_option maxRecDepth 3000 in
theorem lp_d_deepestOwing_37_4 (z : Zp) (d : Nat) (M : Mem) (Q : Rs → Prop) (nf : Nat) (hnf : nf ≤ 6) (hf : M.1 3 3 = nI nf) (hk : ∀ i2, i2 < nf → d_deepestOwing_4_ok (M.1 38) i2) (hX : G z mX1_deepestOwing (d) 0 0 49 [none, some (.int (d_deepestOwing_4 (M.1 38) nf)), none] [] M Q) : G z mX1_deepestOwing (d) 0 0 4 [some (.ref 37), some (.int ((-1))), some (.int (nI 0))] [] M Q := by
  refine down (n := nf) (P := fun i2 => G z mX1_deepestOwing (d) 0 0 4 [some (.ref 37), some (.int (d_deepestOwing_4 (M.1 38) i2)), some (.int (nI i2))] [] M Q) ?_ ?_ 0 (Nat.zero_le _)
  · skip
    refine G.sl [(.iload_n 2, 1, 2, 0, 0, 0), (.aload_n 0, 1, 0, 0, 0, 0), (.getfield 18, 3, 1, 2, 79, 0), (.getfield 78, 3, 6, 3, 34, 0)] [] (pc2 := 12) (ls2 := [some (.ref 37), some (.int (d_deepestOwing_4 (M.1 38) nf)), some (.int (nI nf))]) (st2 := [.int (M.1 3 3), .int (nI nf)]) (M2 := M) (Ps := []) (by decide +kernel) rfl rfl trivial ?_
    rw [hf]
    refine G.ic_ge (off := (37)) (tgt := 49) (by decide +kernel) rfl (fun _ => ?_) (fun h9 => absurd (nI_le (by omega) (by omega)) h9)
    refine G.loc (ls2 := [none, some (.int (d_deepestOwing_4 (M.1 38) nf)), none]) (by simp [subL]) ?_
    exact hX
  · skip
    intro i2 hi ih
    have hk := hk i2 hi
    simp only [d_deepestOwing_4_ok] at hk
    show G z mX1_deepestOwing (d) 0 0 4 [some (.ref 37), some (.int (d_deepestOwing_4 (M.1 38) i2)), some (.int (nI i2))] [] M Q
    refine G.sl [(.iload_n 2, 1, 2, 0, 0, 0), (.aload_n 0, 1, 0, 0, 0, 0), (.getfield 18, 3, 1, 2, 79, 0), (.getfield 78, 3, 6, 3, 34, 0)] [] (pc2 := 12) (ls2 := [some (.ref 37), some (.int (d_deepestOwing_4 (M.1 38) i2)), some (.int (nI i2))]) (st2 := [.int (M.1 3 3), .int (nI i2)]) (M2 := M) (Ps := []) (by decide +kernel) rfl rfl trivial ?_
    rw [hf]
    refine G.ic_ge (off := (37)) (tgt := 49) (by decide +kernel) rfl (fun h9 => absurd h9 (nI_ge (by omega) (by omega))) (fun _ => ?_)
    refine G.sl [(.iload_n 1, 1, 1, 0, 0, 0), (.iconst (-1), 1, 0, 0, 0, (-1))] [] (pc2 := 17) (ls2 := [some (.ref 37), some (.int (d_deepestOwing_4 (M.1 38) i2)), some (.int (nI i2))]) (st2 := [.int ((-1)), .int (d_deepestOwing_4 (M.1 38) i2)]) (M2 := M) (Ps := []) (by decide +kernel) rfl rfl trivial ?_
    refine G.ic_eq (off := (24)) (tgt := 41) (by decide +kernel) rfl (fun c1 => ?_) (fun c1 => ?_)
    · skip
      rw [if_pos c1] at hk
      refine G.sl [(.iload_n 2, 1, 2, 0, 0, 0), (.istore_n 1, 1, 1, 0, 0, 0), (.iinc 2 1, 3, 2, 0, 0, nI 1), (.goto (-42), 3, 4, 0, 0, 0)] [] (pc2 := 4) (ls2 := [some (.ref 37), some (.int (nI i2)), some (.int ((nI i2) + nI 1))]) (st2 := []) (M2 := M) (Ps := []) (by decide +kernel) rfl rfl trivial ?_
      rw [nI_add i2 1]
      simp only [d_deepestOwing_4, if_pos c1] at ih
      exact ih
    · skip
      rw [if_neg c1] at hk
      obtain ⟨k2, k3, hk⟩ := hk
      refine G.sl [(.aload_n 0, 1, 0, 0, 0, 0), (.getfield 9, 3, 1, 0, 73, 0), (.bipush 7, 2, 0, 0, 0, nI 7), (.iload_n 2, 1, 2, 0, 0, 0), (.iadd, 1, 0, 0, 0, 0), (.iaload, 1, 0, 0, 0, 0), (.aload_n 0, 1, 0, 0, 0, 0), (.getfield 9, 3, 1, 0, 73, 0), (.bipush 7, 2, 0, 0, 0, nI 7), (.iload_n 1, 1, 1, 0, 0, 0), (.iadd, 1, 0, 0, 0, 0), (.iaload, 1, 0, 0, 0, 0)] [7 + i2, 7 + (ix (d_deepestOwing_4 (M.1 38) i2))] (pc2 := 38) (ls2 := [some (.ref 37), some (.int (d_deepestOwing_4 (M.1 38) i2)), some (.int (nI i2))]) (st2 := [.int (M.1 38 (7 + (ix (d_deepestOwing_4 (M.1 38) i2)))), .int (M.1 38 (7 + i2))]) (M2 := M) (Ps := [((nI 7) + (nI i2)) = nI (7 + i2) ∧ (7 + i2) < 51, ((nI 7) + (d_deepestOwing_4 (M.1 38) i2)) = nI (7 + (ix (d_deepestOwing_4 (M.1 38) i2))) ∧ (7 + (ix (d_deepestOwing_4 (M.1 38) i2))) < 51]) (by decide +kernel) rfl rfl ⟨⟨(nI_add _ _), (by omega)⟩, ⟨(nAdd rfl (ixE k2)), k3⟩, trivial⟩ ?_
      refine G.ic_le (off := (5)) (tgt := 43) (by decide +kernel) rfl (fun c4 => ?_) (fun c4 => ?_)
      · skip
        refine G.sl [(.iinc 2 1, 3, 2, 0, 0, nI 1), (.goto (-42), 3, 4, 0, 0, 0)] [] (pc2 := 4) (ls2 := [some (.ref 37), some (.int (d_deepestOwing_4 (M.1 38) i2)), some (.int ((nI i2) + nI 1))]) (st2 := []) (M2 := M) (Ps := []) (by decide +kernel) rfl rfl trivial ?_
        rw [nI_add i2 1]
        simp only [d_deepestOwing_4, if_neg c1, if_pos c4] at ih
        exact ih
      · skip
        refine G.sl [(.iload_n 2, 1, 2, 0, 0, 0), (.istore_n 1, 1, 1, 0, 0, 0), (.iinc 2 1, 3, 2, 0, 0, nI 1), (.goto (-42), 3, 4, 0, 0, 0)] [] (pc2 := 4) (ls2 := [some (.ref 37), some (.int (nI i2)), some (.int ((nI i2) + nI 1))]) (st2 := []) (M2 := M) (Ps := []) (by decide +kernel) rfl rfl trivial ?_
        rw [nI_add i2 1]
        simp only [d_deepestOwing_4, if_neg c1, if_neg c4] at ih
        exact ih
set_option maxHeartbeats 4000000 in
set_option maxRecDepth 3000 in
theorem c_d_deepestOwing_37 (z : Zp) (d : Nat) (M : Mem) (nf : Nat) (hnf : nf ≤ 6) (hf : M.1 3 3 = nI nf) (hk : d_deepestOwing_ok (M.1 38) nf) : GM z mX1_deepestOwing (d) [.ref 37] M (fun rs => rs = .inl (some (.int (d_deepestOwing (M.1 38) nf)), M)) := by
  simp only [d_deepestOwing_ok] at hk
  refine GM.of oX1_deepestOwing.1 (Nat.le_of_ble_eq_true rfl) ?_
  show G z mX1_deepestOwing (d) 0 0 0 [some (.ref 37), none, none] [] M _
  obtain ⟨Q, hQ⟩ : ∃ Q : Rs → Prop, Q = (fun rs => rs = .inl (some (.int (d_deepestOwing (M.1 38) nf)), M)) := ⟨_, rfl⟩
  rw [← hQ]
  refine G.sl [(.iconst (-1), 1, 0, 0, 0, (-1)), (.istore_n 1, 1, 1, 0, 0, 0), (.iconst 0, 1, 0, 0, 0, nI 0), (.istore_n 2, 1, 2, 0, 0, 0)] [] (pc2 := 4) (ls2 := [some (.ref 37), some (.int ((-1))), some (.int (nI 0))]) (st2 := []) (M2 := M) (Ps := []) (by decide +kernel) rfl rfl trivial ?_
  obtain ⟨k5, hk⟩ := hk
  refine lp_d_deepestOwing_37_4 z d M Q nf hnf hf (by first | (simp only [mput, mrow_same, mrow_hit, mrow_miss, mrow_sw, idr_eq, ne_eq, Nat.reduceEqDiff, not_false_eq_true, Nat.reduceLT, reduceCtorEq]; exact k5) | exact k5) ?_
  show G z mX1_deepestOwing (d) 0 0 49 [none, some (.int (d_deepestOwing_4 (M.1 38) nf)), none] [] M Q
  refine G.sl [(.iload_n 1, 1, 1, 0, 0, 0)] [] (pc2 := 50) (ls2 := [none, some (.int (d_deepestOwing_4 (M.1 38) nf)), none]) (st2 := [.int (d_deepestOwing_4 (M.1 38) nf)]) (M2 := M) (Ps := []) (by decide +kernel) rfl rfl trivial ?_
  exact G.reti (by decide +kernel) rfl rfl (Nat.le_of_ble_eq_true rfl) (Nat.le_of_ble_eq_true rfl) ((by rw [hQ]; simp only [d_deepestOwing, mrow_self]))
set_option maxHeartbeats 4000000 in
set_option maxRecDepth 3000 in
theorem c_e_deepest_0 (z : Zp) (d : Nat) (M : Mem) (x1 : Int32) (nf : Nat) (hnf : nf ≤ 6) (hf : M.1 3 3 = nI nf) (hk : e_deepest_ok M nf x1) : GM z mX11_deepest (d + 7) [.ref 0, .int x1] M (fun rs => rs = e_deepest M nf x1) := by
  simp only [e_deepest_ok] at hk
  refine GM.of oX11_deepest.1 (Nat.le_of_ble_eq_true rfl) ?_
  show G z mX11_deepest (d + 7) 0 0 0 [some (.ref 0), some (.int x1), none] [] M _
  obtain ⟨Q, hQ⟩ : ∃ Q : Rs → Prop, Q = (fun rs => rs = e_deepest M nf x1) := ⟨_, rfl⟩
  rw [← hQ]
  refine G.sl [(.aload_n 0, 1, 0, 0, 0, 0), (.iload_n 1, 1, 1, 0, 0, 0), (.iconst 0, 1, 0, 0, 0, nI 0), (.iconst 1, 1, 0, 0, 0, nI 1)] [] (pc2 := 4) (ls2 := [some (.ref 0), some (.int x1), none]) (st2 := [.int (nI 1), .int (nI 0), .int x1, .ref 0]) (M2 := M) (Ps := []) (by decide +kernel) rfl rfl trivial ?_
  by_cases c1 : ¬ x1 < (nI 0) ∧ x1 ≤ (nI 1)
  · skip
    rw [if_pos c1] at hk
    have t2 : GM z mX11_needWithin (d + 6) [.ref 0, .int x1, .int (nI 0), .int (nI 1)] M (fun rs => rs = .inl (none, M)) := e_needWithin_g z d _ x1 (nI 0) (nI 1) c1
    refine G.callV (as := [.int x1, .int (nI 0), .int (nI 1)]) (rest := []) (a := 0) oX11_needWithin lk_EvenFinders_182 (by decide +kernel) rfl rfl ⟨rfl, rfl⟩ (Nat.le_of_ble_eq_true rfl) rfl ⟨Nat.le_of_ble_eq_true rfl, Nat.le_of_ble_eq_true rfl⟩ t2 (fun v9 N9 h3 => ?_) (fun E9 N9 h3 => by cases h3)
    cases h3
    show G z mX11_deepest (d + 7) 1 6 7 [some (.ref 0), some (.int x1), none] [] M Q
    refine G.sl [(.aload_n 0, 1, 0, 0, 0, 0), (.getfield 60, 3, 10, 8, 114, 0)] [] (pc2 := 11) (ls2 := [some (.ref 0), some (.int x1), none]) (st2 := [.ref 37]) (M2 := M) (Ps := []) (by decide +kernel) rfl rfl trivial ?_
    obtain ⟨k4, hk⟩ := hk
    have t5 : GM z mX1_deepestOwing (d + 6) [.ref 37] M (fun rs => rs = .inl (some (.int (d_deepestOwing (M.1 38) nf)), M)) := by
      have q9 := c_d_deepestOwing_37 z (d + 6) M nf hnf hf k4
      try simp only [mput, mrow_same, mrow_hit, mrow_miss, mrow_sw, idr_eq, ne_eq, Nat.reduceEqDiff, not_false_eq_true, Nat.reduceLT, reduceCtorEq] at q9
      exact q9
    refine G.callV (as := []) (rest := []) (a := 37) oX1_deepestOwing lk_EvenFinders_332 (by decide +kernel) rfl rfl ⟨rfl, rfl⟩ (Nat.le_of_ble_eq_true rfl) rfl ⟨Nat.le_of_ble_eq_true rfl, Nat.le_of_ble_eq_true rfl⟩ t5 (fun v9 N9 h6 => ?_) (fun E9 N9 h6 => by cases h6)
    cases h6
    show G z mX11_deepest (d + 7) 1 6 14 [some (.ref 0), some (.int x1), none] [.int (d_deepestOwing (M.1 38) nf)] M Q
    refine G.sl [(.istore_n 2, 1, 2, 0, 0, 0), (.iload_n 1, 1, 1, 0, 0, 0)] [] (pc2 := 16) (ls2 := [some (.ref 0), some (.int x1), some (.int (d_deepestOwing (M.1 38) nf))]) (st2 := [.int x1]) (M2 := M) (Ps := []) (by decide +kernel) rfl rfl trivial ?_
    refine G.if_ne (off := (5)) (tgt := 21) (by decide +kernel) rfl (fun c7 => ?_) (fun c7 => ?_)
    · skip
      rw [if_neg c7] at hk
      refine G.sl [(.iload_n 2, 1, 2, 0, 0, 0), (.iconst (-1), 1, 0, 0, 0, (-1))] [] (pc2 := 23) (ls2 := [some (.ref 0), some (.int x1), some (.int (d_deepestOwing (M.1 38) nf))]) (st2 := [.int ((-1)), .int (d_deepestOwing (M.1 38) nf)]) (M2 := M) (Ps := []) (by decide +kernel) rfl rfl trivial ?_
      refine G.ic_ne (off := (7)) (tgt := 30) (by decide +kernel) rfl (fun c8 => ?_) (fun c8 => ?_)
      · skip
        rw [if_neg c8] at hk
        obtain ⟨k9, k10, hk⟩ := hk
        refine G.sl [(.aload_n 0, 1, 0, 0, 0, 0), (.getfield 60, 3, 10, 8, 114, 0), (.getfield 192, 3, 1, 0, 77, 0), (.bipush 7, 2, 0, 0, 0, nI 7), (.iload_n 2, 1, 2, 0, 0, 0), (.iadd, 1, 0, 0, 0, 0), (.iaload, 1, 0, 0, 0, 0)] [7 + (ix (d_deepestOwing (M.1 38) nf))] (pc2 := 42) (ls2 := [some (.ref 0), some (.int x1), some (.int (d_deepestOwing (M.1 38) nf))]) (st2 := [.int (M.1 38 (7 + (ix (d_deepestOwing (M.1 38) nf))))]) (M2 := M) (Ps := [((nI 7) + (d_deepestOwing (M.1 38) nf)) = nI (7 + (ix (d_deepestOwing (M.1 38) nf))) ∧ (7 + (ix (d_deepestOwing (M.1 38) nf))) < 51]) (by decide +kernel) rfl rfl ⟨⟨(nAdd rfl (ixE k9)), k10⟩, trivial⟩ ?_
        exact G.reti (by decide +kernel) rfl rfl (Nat.le_of_ble_eq_true rfl) (Nat.le_of_ble_eq_true rfl) ((by rw [hQ]; simp only [e_deepest, if_pos c1, if_neg c7, if_neg c8, mrow_self]))
      · skip
        rw [if_pos c8] at hk
        refine G.sl [(.iconst 0, 1, 0, 0, 0, nI 0), (.goto 15, 3, 42, 0, 0, 0)] [] (pc2 := 42) (ls2 := [some (.ref 0), some (.int x1), some (.int (d_deepestOwing (M.1 38) nf))]) (st2 := [.int (nI 0)]) (M2 := M) (Ps := []) (by decide +kernel) rfl rfl trivial ?_
        exact G.reti (by decide +kernel) rfl rfl (Nat.le_of_ble_eq_true rfl) (Nat.le_of_ble_eq_true rfl) ((by rw [hQ]; simp only [e_deepest, if_pos c1, if_neg c7, if_pos c8, mrow_self]))
    · skip
      rw [if_pos c7] at hk
      refine G.sl [(.iload_n 2, 1, 2, 0, 0, 0)] [] (pc2 := 20) (ls2 := [some (.ref 0), some (.int x1), some (.int (d_deepestOwing (M.1 38) nf))]) (st2 := [.int (d_deepestOwing (M.1 38) nf)]) (M2 := M) (Ps := []) (by decide +kernel) rfl rfl trivial ?_
      exact G.reti (by decide +kernel) rfl rfl (Nat.le_of_ble_eq_true rfl) (Nat.le_of_ble_eq_true rfl) ((by rw [hQ]; simp only [e_deepest, if_pos c1, if_pos c7, mrow_self]))
  · skip
    rw [if_neg c1] at hk
    have t11 : GM z mX11_needWithin (d + 6) [.ref 0, .int x1, .int (nI 0), .int (nI 1)] M (fun rs => rs = .inr ("java/lang/IllegalArgumentException", mrow M 0 (upd (M.1 0) 16 ((M.1 0 16) + nI 1)))) := e_needWithin_b z d _ x1 (nI 0) (nI 1) c1
    refine G.callV (as := [.int x1, .int (nI 0), .int (nI 1)]) (rest := []) (a := 0) oX11_needWithin lk_EvenFinders_182 (by decide +kernel) rfl rfl ⟨rfl, rfl⟩ (Nat.le_of_ble_eq_true rfl) rfl ⟨Nat.le_of_ble_eq_true rfl, Nat.le_of_ble_eq_true rfl⟩ t11 (fun v9 N9 h9 => by cases h9) (fun E9 N9 h9 => ?_)
    cases h9
    rw [hQ]
    simp only [e_deepest, if_neg c1]
set_option maxHeartbeats 4000000 in
set_option maxRecDepth 3000 in
theorem lp_e_sound_0_11 (z : Zp) (d : Nat) (M : Mem) (Q : Rs → Prop) (x1 : Int32) (nt : Nat) (hnt : nt ≤ 10) (ht : M.1 3 2 = nI nt) (nf : Nat) (hnf : nf ≤ 6) (hf : M.1 3 3 = nI nf) (hX : G z mX11_sound (d + 7) 1 6 93 [none, none, some (.int (e_sound_11 (M.1 7) (M.1 38) nt x1 nf)), none, none] [] M Q) : G z mX11_sound (d + 7) 1 6 11 [some (.ref 0), some (.int x1), some (.int (nI 0)), some (.int (nI 0)), none] [] M Q := by
  refine down (n := nf) (P := fun i3 => G z mX11_sound (d + 7) 1 6 11 [some (.ref 0), some (.int x1), some (.int (e_sound_11 (M.1 7) (M.1 38) nt x1 i3)), some (.int (nI i3)), none] [] M Q) ?_ ?_ 0 (Nat.zero_le _)
  · skip
    refine G.sl [(.iload_n 3, 1, 3, 0, 0, 0), (.aload_n 0, 1, 0, 0, 0, 0), (.getfield 19, 3, 10, 1, 107, 0), (.getfield 189, 3, 6, 3, 33, 0)] [] (pc2 := 19) (ls2 := [some (.ref 0), some (.int x1), some (.int (e_sound_11 (M.1 7) (M.1 38) nt x1 nf)), some (.int (nI nf)), none]) (st2 := [.int (M.1 3 3), .int (nI nf)]) (M2 := M) (Ps := []) (by decide +kernel) rfl rfl trivial ?_
    rw [hf]
    refine G.ic_ge (off := (74)) (tgt := 93) (by decide +kernel) rfl (fun _ => ?_) (fun h9 => absurd (nI_le (by omega) (by omega)) h9)
    refine G.loc (ls2 := [none, none, some (.int (e_sound_11 (M.1 7) (M.1 38) nt x1 nf)), none, none]) (by simp [subL]) ?_
    exact hX
  · skip
    intro i3 hi ih
    show G z mX11_sound (d + 7) 1 6 11 [some (.ref 0), some (.int x1), some (.int (e_sound_11 (M.1 7) (M.1 38) nt x1 i3)), some (.int (nI i3)), none] [] M Q
    refine G.sl [(.iload_n 3, 1, 3, 0, 0, 0), (.aload_n 0, 1, 0, 0, 0, 0), (.getfield 19, 3, 10, 1, 107, 0), (.getfield 189, 3, 6, 3, 33, 0)] [] (pc2 := 19) (ls2 := [some (.ref 0), some (.int x1), some (.int (e_sound_11 (M.1 7) (M.1 38) nt x1 i3)), some (.int (nI i3)), none]) (st2 := [.int (M.1 3 3), .int (nI i3)]) (M2 := M) (Ps := []) (by decide +kernel) rfl rfl trivial ?_
    rw [hf]
    refine G.ic_ge (off := (74)) (tgt := 93) (by decide +kernel) rfl (fun h9 => absurd h9 (nI_ge (by omega) (by omega))) (fun _ => ?_)
    refine G.sl [(.aload_n 0, 1, 0, 0, 0, 0), (.getfield 19, 3, 10, 1, 107, 0), (.aload_n 0, 1, 0, 0, 0, 0), (.getfield 60, 3, 10, 8, 114, 0), (.iload_n 3, 1, 3, 0, 0, 0)] [] (pc2 := 31) (ls2 := [some (.ref 0), some (.int x1), some (.int (e_sound_11 (M.1 7) (M.1 38) nt x1 i3)), some (.int (nI i3)), none]) (st2 := [.int (nI i3), .ref 37, .ref 3]) (M2 := M) (Ps := []) (by decide +kernel) rfl rfl trivial ?_
    have t5 : GM z mX1_heldBy (d + 6) [.ref 37, .int (nI i3)] M (fun rs => rs = .inl (some (.int (d_heldBy (M.1 38) nt (nI i3))), M)) := by
      have q9 := c_d_heldBy_37 z (d + 6) M (nI i3) nt hnt ht
      try simp only [mput, mrow_same, mrow_hit, mrow_miss, mrow_sw, idr_eq, ne_eq, Nat.reduceEqDiff, not_false_eq_true, Nat.reduceLT, reduceCtorEq] at q9
      exact q9
    refine G.callV (as := [.int (nI i3)]) (rest := [.ref 3]) (a := 37) oX1_heldBy lk_EvenFinders_252 (by decide +kernel) rfl rfl ⟨rfl, rfl⟩ (Nat.le_of_ble_eq_true rfl) rfl ⟨Nat.le_of_ble_eq_true rfl, Nat.le_of_ble_eq_true rfl⟩ t5 (fun v9 N9 h6 => ?_) (fun E9 N9 h6 => by cases h6)
    cases h6
    show G z mX11_sound (d + 7) 1 6 34 [some (.ref 0), some (.int x1), some (.int (e_sound_11 (M.1 7) (M.1 38) nt x1 i3)), some (.int (nI i3)), none] [.int (d_heldBy (M.1 38) nt (nI i3)), .ref 3] M Q
    have t8 : GM z mX7_worthOf (d + 6) [.ref 3, .int (d_heldBy (M.1 38) nt (nI i3))] M (fun rs => rs = .inl (some (.int (v_worthOf (M.1 7) nt (d_heldBy (M.1 38) nt (nI i3)))), M)) := by
      have q9 := c_v_worthOf_3 z (d + 6) M (d_heldBy (M.1 38) nt (nI i3)) nt hnt ht
      try simp only [mput, mrow_same, mrow_hit, mrow_miss, mrow_sw, idr_eq, ne_eq, Nat.reduceEqDiff, not_false_eq_true, Nat.reduceLT, reduceCtorEq] at q9
      exact q9
    refine G.callV (as := [.int (d_heldBy (M.1 38) nt (nI i3))]) (rest := []) (a := 3) oX7_worthOf lk_EvenFinders_219 (by decide +kernel) rfl rfl ⟨rfl, rfl⟩ (Nat.le_of_ble_eq_true rfl) rfl ⟨Nat.le_of_ble_eq_true rfl, Nat.le_of_ble_eq_true rfl⟩ t8 (fun v9 N9 h9 => ?_) (fun E9 N9 h9 => by cases h9)
    cases h9
    show G z mX11_sound (d + 7) 1 6 37 [some (.ref 0), some (.int x1), some (.int (e_sound_11 (M.1 7) (M.1 38) nt x1 i3)), some (.int (nI i3)), none] [.int (v_worthOf (M.1 7) nt (d_heldBy (M.1 38) nt (nI i3)))] M Q
    refine G.sl [(.aload_n 0, 1, 0, 0, 0, 0), (.getfield 60, 3, 10, 8, 114, 0), (.getfield 192, 3, 1, 0, 77, 0), (.bipush 7, 2, 0, 0, 0, nI 7), (.iload_n 3, 1, 3, 0, 0, 0), (.iadd, 1, 0, 0, 0, 0), (.iaload, 1, 0, 0, 0, 0), (.isub, 1, 0, 0, 0, 0), (.istore 4, 2, 4, 0, 0, 0), (.iload_n 1, 1, 1, 0, 0, 0)] [7 + i3] (pc2 := 53) (ls2 := [some (.ref 0), some (.int x1), some (.int (e_sound_11 (M.1 7) (M.1 38) nt x1 i3)), some (.int (nI i3)), some (.int ((v_worthOf (M.1 7) nt (d_heldBy (M.1 38) nt (nI i3))) - (M.1 38 (7 + i3))))]) (st2 := [.int x1]) (M2 := M) (Ps := [((nI 7) + (nI i3)) = nI (7 + i3) ∧ (7 + i3) < 51]) (by decide +kernel) rfl rfl ⟨⟨(nI_add _ _), (by omega)⟩, trivial⟩ ?_
    refine G.if_ne (off := (8)) (tgt := 61) (by decide +kernel) rfl (fun c10 => ?_) (fun c10 => ?_)
    · skip
      refine G.sl [(.iload_n 1, 1, 1, 0, 0, 0), (.iconst 1, 1, 0, 0, 0, nI 1)] [] (pc2 := 63) (ls2 := [some (.ref 0), some (.int x1), some (.int (e_sound_11 (M.1 7) (M.1 38) nt x1 i3)), some (.int (nI i3)), some (.int ((v_worthOf (M.1 7) nt (d_heldBy (M.1 38) nt (nI i3))) - (M.1 38 (7 + i3))))]) (st2 := [.int (nI 1), .int x1]) (M2 := M) (Ps := []) (by decide +kernel) rfl rfl trivial ?_
      refine G.ic_ne (off := (8)) (tgt := 71) (by decide +kernel) rfl (fun c11 => ?_) (fun c11 => ?_)
      · skip
        refine G.sl [(.iload_n 1, 1, 1, 0, 0, 0), (.iconst 2, 1, 0, 0, 0, nI 2)] [] (pc2 := 73) (ls2 := [some (.ref 0), some (.int x1), some (.int (e_sound_11 (M.1 7) (M.1 38) nt x1 i3)), some (.int (nI i3)), some (.int ((v_worthOf (M.1 7) nt (d_heldBy (M.1 38) nt (nI i3))) - (M.1 38 (7 + i3))))]) (st2 := [.int (nI 2), .int x1]) (M2 := M) (Ps := []) (by decide +kernel) rfl rfl trivial ?_
        refine G.ic_ne (off := (14)) (tgt := 87) (by decide +kernel) rfl (fun c12 => ?_) (fun c12 => ?_)
        · skip
          refine G.sl [(.iinc 3 1, 3, 3, 0, 0, nI 1), (.goto (-79), 3, 11, 0, 0, 0)] [] (pc2 := 11) (ls2 := [some (.ref 0), some (.int x1), some (.int (e_sound_11 (M.1 7) (M.1 38) nt x1 i3)), some (.int ((nI i3) + nI 1)), some (.int ((v_worthOf (M.1 7) nt (d_heldBy (M.1 38) nt (nI i3))) - (M.1 38 (7 + i3))))]) (st2 := []) (M2 := M) (Ps := []) (by decide +kernel) rfl rfl trivial ?_
          refine G.loc (ls2 := [some (.ref 0), some (.int x1), some (.int (e_sound_11 (M.1 7) (M.1 38) nt x1 i3)), some (.int ((nI i3) + nI 1)), none]) (by simp [subL]) ?_
          rw [nI_add i3 1]
          simp only [e_sound_11, if_neg c10, if_neg c11, if_neg c12] at ih
          exact ih
        · skip
          refine G.sl [(.iload 4, 2, 4, 0, 0, 0)] [] (pc2 := 78) (ls2 := [some (.ref 0), some (.int x1), some (.int (e_sound_11 (M.1 7) (M.1 38) nt x1 i3)), some (.int (nI i3)), some (.int ((v_worthOf (M.1 7) nt (d_heldBy (M.1 38) nt (nI i3))) - (M.1 38 (7 + i3))))]) (st2 := [.int ((v_worthOf (M.1 7) nt (d_heldBy (M.1 38) nt (nI i3))) - (M.1 38 (7 + i3)))]) (M2 := M) (Ps := []) (by decide +kernel) rfl rfl trivial ?_
          refine G.if_ge (off := (9)) (tgt := 87) (by decide +kernel) rfl (fun c13 => ?_) (fun c13 => ?_)
          · skip
            refine G.sl [(.iinc 3 1, 3, 3, 0, 0, nI 1), (.goto (-79), 3, 11, 0, 0, 0)] [] (pc2 := 11) (ls2 := [some (.ref 0), some (.int x1), some (.int (e_sound_11 (M.1 7) (M.1 38) nt x1 i3)), some (.int ((nI i3) + nI 1)), some (.int ((v_worthOf (M.1 7) nt (d_heldBy (M.1 38) nt (nI i3))) - (M.1 38 (7 + i3))))]) (st2 := []) (M2 := M) (Ps := []) (by decide +kernel) rfl rfl trivial ?_
            refine G.loc (ls2 := [some (.ref 0), some (.int x1), some (.int (e_sound_11 (M.1 7) (M.1 38) nt x1 i3)), some (.int ((nI i3) + nI 1)), none]) (by simp [subL]) ?_
            rw [nI_add i3 1]
            simp only [e_sound_11, if_neg c10, if_neg c11, if_pos c12, if_pos c13] at ih
            exact ih
          · skip
            refine G.sl [(.iload_n 2, 1, 2, 0, 0, 0), (.iconst 1, 1, 0, 0, 0, nI 1), (.iload_n 3, 1, 3, 0, 0, 0), (.ishl, 1, 0, 0, 0, 0), (.ior, 1, 0, 0, 0, 0), (.istore_n 2, 1, 2, 0, 0, 0), (.iinc 3 1, 3, 3, 0, 0, nI 1), (.goto (-79), 3, 11, 0, 0, 0)] [] (pc2 := 11) (ls2 := [some (.ref 0), some (.int x1), some (.int ((e_sound_11 (M.1 7) (M.1 38) nt x1 i3) ||| ((nI 1) <<< ((nI i3) &&& 31)))), some (.int ((nI i3) + nI 1)), some (.int ((v_worthOf (M.1 7) nt (d_heldBy (M.1 38) nt (nI i3))) - (M.1 38 (7 + i3))))]) (st2 := []) (M2 := M) (Ps := []) (by decide +kernel) rfl rfl trivial ?_
            refine G.loc (ls2 := [some (.ref 0), some (.int x1), some (.int ((e_sound_11 (M.1 7) (M.1 38) nt x1 i3) ||| ((nI 1) <<< ((nI i3) &&& 31)))), some (.int ((nI i3) + nI 1)), none]) (by simp [subL]) ?_
            rw [nI_add i3 1]
            simp only [e_sound_11, if_neg c10, if_neg c11, if_pos c12, if_neg c13] at ih
            exact ih
      · skip
        refine G.sl [(.iload 4, 2, 4, 0, 0, 0)] [] (pc2 := 68) (ls2 := [some (.ref 0), some (.int x1), some (.int (e_sound_11 (M.1 7) (M.1 38) nt x1 i3)), some (.int (nI i3)), some (.int ((v_worthOf (M.1 7) nt (d_heldBy (M.1 38) nt (nI i3))) - (M.1 38 (7 + i3))))]) (st2 := [.int ((v_worthOf (M.1 7) nt (d_heldBy (M.1 38) nt (nI i3))) - (M.1 38 (7 + i3)))]) (M2 := M) (Ps := []) (by decide +kernel) rfl rfl trivial ?_
        refine G.if_eq (off := (13)) (tgt := 81) (by decide +kernel) rfl (fun c14 => ?_) (fun c14 => ?_)
        · skip
          refine G.sl [(.iload_n 2, 1, 2, 0, 0, 0), (.iconst 1, 1, 0, 0, 0, nI 1), (.iload_n 3, 1, 3, 0, 0, 0), (.ishl, 1, 0, 0, 0, 0), (.ior, 1, 0, 0, 0, 0), (.istore_n 2, 1, 2, 0, 0, 0), (.iinc 3 1, 3, 3, 0, 0, nI 1), (.goto (-79), 3, 11, 0, 0, 0)] [] (pc2 := 11) (ls2 := [some (.ref 0), some (.int x1), some (.int ((e_sound_11 (M.1 7) (M.1 38) nt x1 i3) ||| ((nI 1) <<< ((nI i3) &&& 31)))), some (.int ((nI i3) + nI 1)), some (.int ((v_worthOf (M.1 7) nt (d_heldBy (M.1 38) nt (nI i3))) - (M.1 38 (7 + i3))))]) (st2 := []) (M2 := M) (Ps := []) (by decide +kernel) rfl rfl trivial ?_
          refine G.loc (ls2 := [some (.ref 0), some (.int x1), some (.int ((e_sound_11 (M.1 7) (M.1 38) nt x1 i3) ||| ((nI 1) <<< ((nI i3) &&& 31)))), some (.int ((nI i3) + nI 1)), none]) (by simp [subL]) ?_
          rw [nI_add i3 1]
          simp only [e_sound_11, if_neg c10, if_pos c11, if_pos c14] at ih
          exact ih
        · skip
          refine G.sl [(.iload_n 1, 1, 1, 0, 0, 0), (.iconst 2, 1, 0, 0, 0, nI 2)] [] (pc2 := 73) (ls2 := [some (.ref 0), some (.int x1), some (.int (e_sound_11 (M.1 7) (M.1 38) nt x1 i3)), some (.int (nI i3)), some (.int ((v_worthOf (M.1 7) nt (d_heldBy (M.1 38) nt (nI i3))) - (M.1 38 (7 + i3))))]) (st2 := [.int (nI 2), .int x1]) (M2 := M) (Ps := []) (by decide +kernel) rfl rfl trivial ?_
          refine G.ic_ne (off := (14)) (tgt := 87) (by decide +kernel) rfl (fun c15 => ?_) (fun c15 => ?_)
          · skip
            refine G.sl [(.iinc 3 1, 3, 3, 0, 0, nI 1), (.goto (-79), 3, 11, 0, 0, 0)] [] (pc2 := 11) (ls2 := [some (.ref 0), some (.int x1), some (.int (e_sound_11 (M.1 7) (M.1 38) nt x1 i3)), some (.int ((nI i3) + nI 1)), some (.int ((v_worthOf (M.1 7) nt (d_heldBy (M.1 38) nt (nI i3))) - (M.1 38 (7 + i3))))]) (st2 := []) (M2 := M) (Ps := []) (by decide +kernel) rfl rfl trivial ?_
            refine G.loc (ls2 := [some (.ref 0), some (.int x1), some (.int (e_sound_11 (M.1 7) (M.1 38) nt x1 i3)), some (.int ((nI i3) + nI 1)), none]) (by simp [subL]) ?_
            rw [nI_add i3 1]
            simp only [e_sound_11, if_neg c10, if_pos c11, if_neg c14, if_neg c15] at ih
            exact ih
          · skip
            refine G.sl [(.iload 4, 2, 4, 0, 0, 0)] [] (pc2 := 78) (ls2 := [some (.ref 0), some (.int x1), some (.int (e_sound_11 (M.1 7) (M.1 38) nt x1 i3)), some (.int (nI i3)), some (.int ((v_worthOf (M.1 7) nt (d_heldBy (M.1 38) nt (nI i3))) - (M.1 38 (7 + i3))))]) (st2 := [.int ((v_worthOf (M.1 7) nt (d_heldBy (M.1 38) nt (nI i3))) - (M.1 38 (7 + i3)))]) (M2 := M) (Ps := []) (by decide +kernel) rfl rfl trivial ?_
            refine G.if_ge (off := (9)) (tgt := 87) (by decide +kernel) rfl (fun c16 => ?_) (fun c16 => ?_)
            · skip
              refine G.sl [(.iinc 3 1, 3, 3, 0, 0, nI 1), (.goto (-79), 3, 11, 0, 0, 0)] [] (pc2 := 11) (ls2 := [some (.ref 0), some (.int x1), some (.int (e_sound_11 (M.1 7) (M.1 38) nt x1 i3)), some (.int ((nI i3) + nI 1)), some (.int ((v_worthOf (M.1 7) nt (d_heldBy (M.1 38) nt (nI i3))) - (M.1 38 (7 + i3))))]) (st2 := []) (M2 := M) (Ps := []) (by decide +kernel) rfl rfl trivial ?_
              refine G.loc (ls2 := [some (.ref 0), some (.int x1), some (.int (e_sound_11 (M.1 7) (M.1 38) nt x1 i3)), some (.int ((nI i3) + nI 1)), none]) (by simp [subL]) ?_
              rw [nI_add i3 1]
              simp only [e_sound_11, if_neg c10, if_pos c11, if_neg c14, if_pos c15, if_pos c16] at ih
              exact ih
            · skip
              refine G.sl [(.iload_n 2, 1, 2, 0, 0, 0), (.iconst 1, 1, 0, 0, 0, nI 1), (.iload_n 3, 1, 3, 0, 0, 0), (.ishl, 1, 0, 0, 0, 0), (.ior, 1, 0, 0, 0, 0), (.istore_n 2, 1, 2, 0, 0, 0), (.iinc 3 1, 3, 3, 0, 0, nI 1), (.goto (-79), 3, 11, 0, 0, 0)] [] (pc2 := 11) (ls2 := [some (.ref 0), some (.int x1), some (.int ((e_sound_11 (M.1 7) (M.1 38) nt x1 i3) ||| ((nI 1) <<< ((nI i3) &&& 31)))), some (.int ((nI i3) + nI 1)), some (.int ((v_worthOf (M.1 7) nt (d_heldBy (M.1 38) nt (nI i3))) - (M.1 38 (7 + i3))))]) (st2 := []) (M2 := M) (Ps := []) (by decide +kernel) rfl rfl trivial ?_
              refine G.loc (ls2 := [some (.ref 0), some (.int x1), some (.int ((e_sound_11 (M.1 7) (M.1 38) nt x1 i3) ||| ((nI 1) <<< ((nI i3) &&& 31)))), some (.int ((nI i3) + nI 1)), none]) (by simp [subL]) ?_
              rw [nI_add i3 1]
              simp only [e_sound_11, if_neg c10, if_pos c11, if_neg c14, if_pos c15, if_neg c16] at ih
              exact ih
    · skip
      refine G.sl [(.iload 4, 2, 4, 0, 0, 0)] [] (pc2 := 58) (ls2 := [some (.ref 0), some (.int x1), some (.int (e_sound_11 (M.1 7) (M.1 38) nt x1 i3)), some (.int (nI i3)), some (.int ((v_worthOf (M.1 7) nt (d_heldBy (M.1 38) nt (nI i3))) - (M.1 38 (7 + i3))))]) (st2 := [.int ((v_worthOf (M.1 7) nt (d_heldBy (M.1 38) nt (nI i3))) - (M.1 38 (7 + i3)))]) (M2 := M) (Ps := []) (by decide +kernel) rfl rfl trivial ?_
      refine G.if_gt (off := (23)) (tgt := 81) (by decide +kernel) rfl (fun c17 => ?_) (fun c17 => ?_)
      · skip
        refine G.sl [(.iload_n 2, 1, 2, 0, 0, 0), (.iconst 1, 1, 0, 0, 0, nI 1), (.iload_n 3, 1, 3, 0, 0, 0), (.ishl, 1, 0, 0, 0, 0), (.ior, 1, 0, 0, 0, 0), (.istore_n 2, 1, 2, 0, 0, 0), (.iinc 3 1, 3, 3, 0, 0, nI 1), (.goto (-79), 3, 11, 0, 0, 0)] [] (pc2 := 11) (ls2 := [some (.ref 0), some (.int x1), some (.int ((e_sound_11 (M.1 7) (M.1 38) nt x1 i3) ||| ((nI 1) <<< ((nI i3) &&& 31)))), some (.int ((nI i3) + nI 1)), some (.int ((v_worthOf (M.1 7) nt (d_heldBy (M.1 38) nt (nI i3))) - (M.1 38 (7 + i3))))]) (st2 := []) (M2 := M) (Ps := []) (by decide +kernel) rfl rfl trivial ?_
        refine G.loc (ls2 := [some (.ref 0), some (.int x1), some (.int ((e_sound_11 (M.1 7) (M.1 38) nt x1 i3) ||| ((nI 1) <<< ((nI i3) &&& 31)))), some (.int ((nI i3) + nI 1)), none]) (by simp [subL]) ?_
        rw [nI_add i3 1]
        simp only [e_sound_11, if_pos c10, if_pos c17] at ih
        exact ih
      · skip
        refine G.sl [(.iload_n 1, 1, 1, 0, 0, 0), (.iconst 1, 1, 0, 0, 0, nI 1)] [] (pc2 := 63) (ls2 := [some (.ref 0), some (.int x1), some (.int (e_sound_11 (M.1 7) (M.1 38) nt x1 i3)), some (.int (nI i3)), some (.int ((v_worthOf (M.1 7) nt (d_heldBy (M.1 38) nt (nI i3))) - (M.1 38 (7 + i3))))]) (st2 := [.int (nI 1), .int x1]) (M2 := M) (Ps := []) (by decide +kernel) rfl rfl trivial ?_
        refine G.ic_ne (off := (8)) (tgt := 71) (by decide +kernel) rfl (fun c18 => ?_) (fun c18 => ?_)
        · skip
          refine G.sl [(.iload_n 1, 1, 1, 0, 0, 0), (.iconst 2, 1, 0, 0, 0, nI 2)] [] (pc2 := 73) (ls2 := [some (.ref 0), some (.int x1), some (.int (e_sound_11 (M.1 7) (M.1 38) nt x1 i3)), some (.int (nI i3)), some (.int ((v_worthOf (M.1 7) nt (d_heldBy (M.1 38) nt (nI i3))) - (M.1 38 (7 + i3))))]) (st2 := [.int (nI 2), .int x1]) (M2 := M) (Ps := []) (by decide +kernel) rfl rfl trivial ?_
          refine G.ic_ne (off := (14)) (tgt := 87) (by decide +kernel) rfl (fun c19 => ?_) (fun c19 => ?_)
          · skip
            refine G.sl [(.iinc 3 1, 3, 3, 0, 0, nI 1), (.goto (-79), 3, 11, 0, 0, 0)] [] (pc2 := 11) (ls2 := [some (.ref 0), some (.int x1), some (.int (e_sound_11 (M.1 7) (M.1 38) nt x1 i3)), some (.int ((nI i3) + nI 1)), some (.int ((v_worthOf (M.1 7) nt (d_heldBy (M.1 38) nt (nI i3))) - (M.1 38 (7 + i3))))]) (st2 := []) (M2 := M) (Ps := []) (by decide +kernel) rfl rfl trivial ?_
            refine G.loc (ls2 := [some (.ref 0), some (.int x1), some (.int (e_sound_11 (M.1 7) (M.1 38) nt x1 i3)), some (.int ((nI i3) + nI 1)), none]) (by simp [subL]) ?_
            rw [nI_add i3 1]
            simp only [e_sound_11, if_pos c10, if_neg c17, if_neg c18, if_neg c19] at ih
            exact ih
          · skip
            refine G.sl [(.iload 4, 2, 4, 0, 0, 0)] [] (pc2 := 78) (ls2 := [some (.ref 0), some (.int x1), some (.int (e_sound_11 (M.1 7) (M.1 38) nt x1 i3)), some (.int (nI i3)), some (.int ((v_worthOf (M.1 7) nt (d_heldBy (M.1 38) nt (nI i3))) - (M.1 38 (7 + i3))))]) (st2 := [.int ((v_worthOf (M.1 7) nt (d_heldBy (M.1 38) nt (nI i3))) - (M.1 38 (7 + i3)))]) (M2 := M) (Ps := []) (by decide +kernel) rfl rfl trivial ?_
            refine G.if_ge (off := (9)) (tgt := 87) (by decide +kernel) rfl (fun c20 => ?_) (fun c20 => ?_)
            · skip
              refine G.sl [(.iinc 3 1, 3, 3, 0, 0, nI 1), (.goto (-79), 3, 11, 0, 0, 0)] [] (pc2 := 11) (ls2 := [some (.ref 0), some (.int x1), some (.int (e_sound_11 (M.1 7) (M.1 38) nt x1 i3)), some (.int ((nI i3) + nI 1)), some (.int ((v_worthOf (M.1 7) nt (d_heldBy (M.1 38) nt (nI i3))) - (M.1 38 (7 + i3))))]) (st2 := []) (M2 := M) (Ps := []) (by decide +kernel) rfl rfl trivial ?_
              refine G.loc (ls2 := [some (.ref 0), some (.int x1), some (.int (e_sound_11 (M.1 7) (M.1 38) nt x1 i3)), some (.int ((nI i3) + nI 1)), none]) (by simp [subL]) ?_
              rw [nI_add i3 1]
              simp only [e_sound_11, if_pos c10, if_neg c17, if_neg c18, if_pos c19, if_pos c20] at ih
              exact ih
            · skip
              refine G.sl [(.iload_n 2, 1, 2, 0, 0, 0), (.iconst 1, 1, 0, 0, 0, nI 1), (.iload_n 3, 1, 3, 0, 0, 0), (.ishl, 1, 0, 0, 0, 0), (.ior, 1, 0, 0, 0, 0), (.istore_n 2, 1, 2, 0, 0, 0), (.iinc 3 1, 3, 3, 0, 0, nI 1), (.goto (-79), 3, 11, 0, 0, 0)] [] (pc2 := 11) (ls2 := [some (.ref 0), some (.int x1), some (.int ((e_sound_11 (M.1 7) (M.1 38) nt x1 i3) ||| ((nI 1) <<< ((nI i3) &&& 31)))), some (.int ((nI i3) + nI 1)), some (.int ((v_worthOf (M.1 7) nt (d_heldBy (M.1 38) nt (nI i3))) - (M.1 38 (7 + i3))))]) (st2 := []) (M2 := M) (Ps := []) (by decide +kernel) rfl rfl trivial ?_
              refine G.loc (ls2 := [some (.ref 0), some (.int x1), some (.int ((e_sound_11 (M.1 7) (M.1 38) nt x1 i3) ||| ((nI 1) <<< ((nI i3) &&& 31)))), some (.int ((nI i3) + nI 1)), none]) (by simp [subL]) ?_
              rw [nI_add i3 1]
              simp only [e_sound_11, if_pos c10, if_neg c17, if_neg c18, if_pos c19, if_neg c20] at ih
              exact ih
        · skip
          refine G.sl [(.iload 4, 2, 4, 0, 0, 0)] [] (pc2 := 68) (ls2 := [some (.ref 0), some (.int x1), some (.int (e_sound_11 (M.1 7) (M.1 38) nt x1 i3)), some (.int (nI i3)), some (.int ((v_worthOf (M.1 7) nt (d_heldBy (M.1 38) nt (nI i3))) - (M.1 38 (7 + i3))))]) (st2 := [.int ((v_worthOf (M.1 7) nt (d_heldBy (M.1 38) nt (nI i3))) - (M.1 38 (7 + i3)))]) (M2 := M) (Ps := []) (by decide +kernel) rfl rfl trivial ?_
          refine G.if_eq (off := (13)) (tgt := 81) (by decide +kernel) rfl (fun c21 => ?_) (fun c21 => ?_)
          · skip
            refine G.sl [(.iload_n 2, 1, 2, 0, 0, 0), (.iconst 1, 1, 0, 0, 0, nI 1), (.iload_n 3, 1, 3, 0, 0, 0), (.ishl, 1, 0, 0, 0, 0), (.ior, 1, 0, 0, 0, 0), (.istore_n 2, 1, 2, 0, 0, 0), (.iinc 3 1, 3, 3, 0, 0, nI 1), (.goto (-79), 3, 11, 0, 0, 0)] [] (pc2 := 11) (ls2 := [some (.ref 0), some (.int x1), some (.int ((e_sound_11 (M.1 7) (M.1 38) nt x1 i3) ||| ((nI 1) <<< ((nI i3) &&& 31)))), some (.int ((nI i3) + nI 1)), some (.int ((v_worthOf (M.1 7) nt (d_heldBy (M.1 38) nt (nI i3))) - (M.1 38 (7 + i3))))]) (st2 := []) (M2 := M) (Ps := []) (by decide +kernel) rfl rfl trivial ?_
            refine G.loc (ls2 := [some (.ref 0), some (.int x1), some (.int ((e_sound_11 (M.1 7) (M.1 38) nt x1 i3) ||| ((nI 1) <<< ((nI i3) &&& 31)))), some (.int ((nI i3) + nI 1)), none]) (by simp [subL]) ?_
            rw [nI_add i3 1]
            simp only [e_sound_11, if_pos c10, if_neg c17, if_pos c18, if_pos c21] at ih
            exact ih
          · skip
            refine G.sl [(.iload_n 1, 1, 1, 0, 0, 0), (.iconst 2, 1, 0, 0, 0, nI 2)] [] (pc2 := 73) (ls2 := [some (.ref 0), some (.int x1), some (.int (e_sound_11 (M.1 7) (M.1 38) nt x1 i3)), some (.int (nI i3)), some (.int ((v_worthOf (M.1 7) nt (d_heldBy (M.1 38) nt (nI i3))) - (M.1 38 (7 + i3))))]) (st2 := [.int (nI 2), .int x1]) (M2 := M) (Ps := []) (by decide +kernel) rfl rfl trivial ?_
            refine G.ic_ne (off := (14)) (tgt := 87) (by decide +kernel) rfl (fun c22 => ?_) (fun c22 => ?_)
            · skip
              refine G.sl [(.iinc 3 1, 3, 3, 0, 0, nI 1), (.goto (-79), 3, 11, 0, 0, 0)] [] (pc2 := 11) (ls2 := [some (.ref 0), some (.int x1), some (.int (e_sound_11 (M.1 7) (M.1 38) nt x1 i3)), some (.int ((nI i3) + nI 1)), some (.int ((v_worthOf (M.1 7) nt (d_heldBy (M.1 38) nt (nI i3))) - (M.1 38 (7 + i3))))]) (st2 := []) (M2 := M) (Ps := []) (by decide +kernel) rfl rfl trivial ?_
              refine G.loc (ls2 := [some (.ref 0), some (.int x1), some (.int (e_sound_11 (M.1 7) (M.1 38) nt x1 i3)), some (.int ((nI i3) + nI 1)), none]) (by simp [subL]) ?_
              rw [nI_add i3 1]
              simp only [e_sound_11, if_pos c10, if_neg c17, if_pos c18, if_neg c21, if_neg c22] at ih
              exact ih
            · skip
              refine G.sl [(.iload 4, 2, 4, 0, 0, 0)] [] (pc2 := 78) (ls2 := [some (.ref 0), some (.int x1), some (.int (e_sound_11 (M.1 7) (M.1 38) nt x1 i3)), some (.int (nI i3)), some (.int ((v_worthOf (M.1 7) nt (d_heldBy (M.1 38) nt (nI i3))) - (M.1 38 (7 + i3))))]) (st2 := [.int ((v_worthOf (M.1 7) nt (d_heldBy (M.1 38) nt (nI i3))) - (M.1 38 (7 + i3)))]) (M2 := M) (Ps := []) (by decide +kernel) rfl rfl trivial ?_
              refine G.if_ge (off := (9)) (tgt := 87) (by decide +kernel) rfl (fun c23 => ?_) (fun c23 => ?_)
              · skip
                refine G.sl [(.iinc 3 1, 3, 3, 0, 0, nI 1), (.goto (-79), 3, 11, 0, 0, 0)] [] (pc2 := 11) (ls2 := [some (.ref 0), some (.int x1), some (.int (e_sound_11 (M.1 7) (M.1 38) nt x1 i3)), some (.int ((nI i3) + nI 1)), some (.int ((v_worthOf (M.1 7) nt (d_heldBy (M.1 38) nt (nI i3))) - (M.1 38 (7 + i3))))]) (st2 := []) (M2 := M) (Ps := []) (by decide +kernel) rfl rfl trivial ?_
                refine G.loc (ls2 := [some (.ref 0), some (.int x1), some (.int (e_sound_11 (M.1 7) (M.1 38) nt x1 i3)), some (.int ((nI i3) + nI 1)), none]) (by simp [subL]) ?_
                rw [nI_add i3 1]
                simp only [e_sound_11, if_pos c10, if_neg c17, if_pos c18, if_neg c21, if_pos c22, if_pos c23] at ih
                exact ih
              · skip
                refine G.sl [(.iload_n 2, 1, 2, 0, 0, 0), (.iconst 1, 1, 0, 0, 0, nI 1), (.iload_n 3, 1, 3, 0, 0, 0), (.ishl, 1, 0, 0, 0, 0), (.ior, 1, 0, 0, 0, 0), (.istore_n 2, 1, 2, 0, 0, 0), (.iinc 3 1, 3, 3, 0, 0, nI 1), (.goto (-79), 3, 11, 0, 0, 0)] [] (pc2 := 11) (ls2 := [some (.ref 0), some (.int x1), some (.int ((e_sound_11 (M.1 7) (M.1 38) nt x1 i3) ||| ((nI 1) <<< ((nI i3) &&& 31)))), some (.int ((nI i3) + nI 1)), some (.int ((v_worthOf (M.1 7) nt (d_heldBy (M.1 38) nt (nI i3))) - (M.1 38 (7 + i3))))]) (st2 := []) (M2 := M) (Ps := []) (by decide +kernel) rfl rfl trivial ?_
                refine G.loc (ls2 := [some (.ref 0), some (.int x1), some (.int ((e_sound_11 (M.1 7) (M.1 38) nt x1 i3) ||| ((nI 1) <<< ((nI i3) &&& 31)))), some (.int ((nI i3) + nI 1)), none]) (by simp [subL]) ?_
                rw [nI_add i3 1]
                simp only [e_sound_11, if_pos c10, if_neg c17, if_pos c18, if_neg c21, if_pos c22, if_neg c23] at ih
                exact ih
set_option maxHeartbeats 4000000 in
set_option maxRecDepth 3000 in
theorem c_e_sound_0 (z : Zp) (d : Nat) (M : Mem) (x1 : Int32) (nt : Nat) (hnt : nt ≤ 10) (ht : M.1 3 2 = nI nt) (nf : Nat) (hnf : nf ≤ 6) (hf : M.1 3 3 = nI nf) : GM z mX11_sound (d + 7) [.ref 0, .int x1] M (fun rs => rs = e_sound M nt nf x1) := by
  refine GM.of oX11_sound.1 (Nat.le_of_ble_eq_true rfl) ?_
  show G z mX11_sound (d + 7) 0 0 0 [some (.ref 0), some (.int x1), none, none, none] [] M _
  obtain ⟨Q, hQ⟩ : ∃ Q : Rs → Prop, Q = (fun rs => rs = e_sound M nt nf x1) := ⟨_, rfl⟩
  rw [← hQ]
  refine G.sl [(.aload_n 0, 1, 0, 0, 0, 0), (.iload_n 1, 1, 1, 0, 0, 0), (.iconst 0, 1, 0, 0, 0, nI 0), (.iconst 2, 1, 0, 0, 0, nI 2)] [] (pc2 := 4) (ls2 := [some (.ref 0), some (.int x1), none, none, none]) (st2 := [.int (nI 2), .int (nI 0), .int x1, .ref 0]) (M2 := M) (Ps := []) (by decide +kernel) rfl rfl trivial ?_
  by_cases c1 : ¬ x1 < (nI 0) ∧ x1 ≤ (nI 2)
  · skip
    have t2 : GM z mX11_needWithin (d + 6) [.ref 0, .int x1, .int (nI 0), .int (nI 2)] M (fun rs => rs = .inl (none, M)) := e_needWithin_g z d _ x1 (nI 0) (nI 2) c1
    refine G.callV (as := [.int x1, .int (nI 0), .int (nI 2)]) (rest := []) (a := 0) oX11_needWithin lk_EvenFinders_182 (by decide +kernel) rfl rfl ⟨rfl, rfl⟩ (Nat.le_of_ble_eq_true rfl) rfl ⟨Nat.le_of_ble_eq_true rfl, Nat.le_of_ble_eq_true rfl⟩ t2 (fun v9 N9 h3 => ?_) (fun E9 N9 h3 => by cases h3)
    cases h3
    show G z mX11_sound (d + 7) 1 6 7 [some (.ref 0), some (.int x1), none, none, none] [] M Q
    refine G.sl [(.iconst 0, 1, 0, 0, 0, nI 0), (.istore_n 2, 1, 2, 0, 0, 0), (.iconst 0, 1, 0, 0, 0, nI 0), (.istore_n 3, 1, 3, 0, 0, 0)] [] (pc2 := 11) (ls2 := [some (.ref 0), some (.int x1), some (.int (nI 0)), some (.int (nI 0)), none]) (st2 := []) (M2 := M) (Ps := []) (by decide +kernel) rfl rfl trivial ?_
    refine lp_e_sound_0_11 z d M Q x1 nt hnt ht nf hnf hf ?_
    show G z mX11_sound (d + 7) 1 6 93 [none, none, some (.int (e_sound_11 (M.1 7) (M.1 38) nt x1 nf)), none, none] [] M Q
    refine G.sl [(.iload_n 2, 1, 2, 0, 0, 0)] [] (pc2 := 94) (ls2 := [none, none, some (.int (e_sound_11 (M.1 7) (M.1 38) nt x1 nf)), none, none]) (st2 := [.int (e_sound_11 (M.1 7) (M.1 38) nt x1 nf)]) (M2 := M) (Ps := []) (by decide +kernel) rfl rfl trivial ?_
    exact G.reti (by decide +kernel) rfl rfl (Nat.le_of_ble_eq_true rfl) (Nat.le_of_ble_eq_true rfl) ((by rw [hQ]; simp only [e_sound, if_pos c1, mrow_self]))
  · skip
    have t25 : GM z mX11_needWithin (d + 6) [.ref 0, .int x1, .int (nI 0), .int (nI 2)] M (fun rs => rs = .inr ("java/lang/IllegalArgumentException", mrow M 0 (upd (M.1 0) 16 ((M.1 0 16) + nI 1)))) := e_needWithin_b z d _ x1 (nI 0) (nI 2) c1
    refine G.callV (as := [.int x1, .int (nI 0), .int (nI 2)]) (rest := []) (a := 0) oX11_needWithin lk_EvenFinders_182 (by decide +kernel) rfl rfl ⟨rfl, rfl⟩ (Nat.le_of_ble_eq_true rfl) rfl ⟨Nat.le_of_ble_eq_true rfl, Nat.le_of_ble_eq_true rfl⟩ t25 (fun v9 N9 h9 => by cases h9) (fun E9 N9 h9 => ?_)
    cases h9
    rw [hQ]
    simp only [e_sound, if_neg c1]
set_option maxHeartbeats 4000000 in
set_option maxRecDepth 3000 in
theorem c_e_way_0 (z : Zp) (d : Nat) (M : Mem) (x1 : Int32) (x2 : Int32) (nt : Nat) (hnt : nt ≤ 10) (ht : M.1 3 2 = nI nt) (nf : Nat) (hnf : nf ≤ 6) (hf : M.1 3 3 = nI nf) (hk : e_way_ok M nt nf x1 x2) : GM z mX11_way (d + 8) [.ref 0, .int x1, .int x2] M (fun rs => rs = e_way M nt nf x1 x2) := by
  simp only [e_way_ok] at hk
  refine GM.of oX11_way.1 (Nat.le_of_ble_eq_true rfl) ?_
  show G z mX11_way (d + 8) 0 0 0 [some (.ref 0), some (.int x1), some (.int x2)] [] M _
  obtain ⟨Q, hQ⟩ : ∃ Q : Rs → Prop, Q = (fun rs => rs = e_way M nt nf x1 x2) := ⟨_, rfl⟩
  rw [← hQ]
  refine G.sl [(.aload_n 0, 1, 0, 0, 0, 0), (.iload_n 1, 1, 1, 0, 0, 0)] [] (pc2 := 2) (ls2 := [some (.ref 0), some (.int x1), some (.int x2)]) (st2 := [.int x1, .ref 0]) (M2 := M) (Ps := []) (by decide +kernel) rfl rfl trivial ?_
  by_cases c1 : ¬ x1 < 0 ∧ x1 < nI nf
  · skip
    rw [if_pos c1] at hk
    have t2 : GM z mX11_needFinder (d + 7) [.ref 0, .int x1] M (fun rs => rs = .inl (none, M)) := e_needFinder_g z d _ x1 nf hf c1
    refine G.callV (as := [.int x1]) (rest := []) (a := 0) oX11_needFinder lk_EvenFinders_249 (by decide +kernel) rfl rfl ⟨rfl, rfl⟩ (Nat.le_of_ble_eq_true rfl) rfl ⟨Nat.le_of_ble_eq_true rfl, Nat.le_of_ble_eq_true rfl⟩ t2 (fun v9 N9 h3 => ?_) (fun E9 N9 h3 => by cases h3)
    cases h3
    show G z mX11_way (d + 8) 1 6 5 [some (.ref 0), some (.int x1), some (.int x2)] [] M Q
    refine G.sl [(.aload_n 0, 1, 0, 0, 0, 0), (.iload_n 2, 1, 2, 0, 0, 0)] [] (pc2 := 7) (ls2 := [some (.ref 0), some (.int x1), some (.int x2)]) (st2 := [.int x2, .ref 0]) (M2 := M) (Ps := []) (by decide +kernel) rfl rfl trivial ?_
    by_cases c4 : ¬ x2 < 0 ∧ x2 < nI nt
    · skip
      rw [if_pos c4] at hk
      have t5 : GM z mX11_needThing (d + 7) [.ref 0, .int x2] M (fun rs => rs = .inl (none, M)) := e_needThing_g z d _ x2 nt ht c4
      refine G.callV (as := [.int x2]) (rest := []) (a := 0) oX11_needThing lk_EvenFinders_240 (by decide +kernel) rfl rfl ⟨rfl, rfl⟩ (Nat.le_of_ble_eq_true rfl) rfl ⟨Nat.le_of_ble_eq_true rfl, Nat.le_of_ble_eq_true rfl⟩ t5 (fun v9 N9 h6 => ?_) (fun E9 N9 h6 => by cases h6)
      cases h6
      show G z mX11_way (d + 8) 2 12 10 [some (.ref 0), some (.int x1), some (.int x2)] [] M Q
      refine G.sl [(.aload_n 0, 1, 0, 0, 0, 0), (.getfield 79, 3, 10, 11, 117, 0), (.iload_n 1, 1, 1, 0, 0, 0), (.iload_n 2, 1, 2, 0, 0, 0)] [] (pc2 := 16) (ls2 := [some (.ref 0), some (.int x1), some (.int x2)]) (st2 := [.int x2, .int x1, .ref 47]) (M2 := M) (Ps := []) (by decide +kernel) rfl rfl trivial ?_
      obtain ⟨k7, k8, k9, k10, hk⟩ := hk
      obtain ⟨k11, hk⟩ := hk
      refine G.eq (st' := [.int (nI (ix x2)), .int (nI (ix x1)), .ref 47]) ?_ rfl (by rw [← (show x1 = nI (ix x1) from (ixE k7)), ← (show x2 = nI (ix x2) from (ixE k9))]) rfl
      have t12 : GM z mX8_wayTo (d + 7) [.ref 47, .int (nI (ix x1)), .int (nI (ix x2))] M (fun rs => rs = .inl (some (.int (w_wayTo (M.1 11) (M.1 38) (ix x1) (ix x2))), M)) := by
        have q9 := c_w_wayTo_47 z (d + 6) M (ix x1) (ix x2) k8 k10 k11
        try simp only [mput, mrow_same, mrow_hit, mrow_miss, mrow_sw, idr_eq, ne_eq, Nat.reduceEqDiff, not_false_eq_true, Nat.reduceLT, reduceCtorEq] at q9
        exact q9
      refine G.callV (as := [.int (nI (ix x1)), .int (nI (ix x2))]) (rest := []) (a := 47) oX8_wayTo lk_EvenFinders_335 (by decide +kernel) rfl rfl ⟨rfl, rfl⟩ (Nat.le_of_ble_eq_true rfl) rfl ⟨Nat.le_of_ble_eq_true rfl, Nat.le_of_ble_eq_true rfl⟩ t12 (fun v9 N9 h13 => ?_) (fun E9 N9 h13 => by cases h13)
      cases h13
      show G z mX11_way (d + 8) 2 12 19 [some (.ref 0), some (.int x1), some (.int x2)] [.int (w_wayTo (M.1 11) (M.1 38) (ix x1) (ix x2))] M Q
      exact G.reti (by decide +kernel) rfl rfl (Nat.le_of_ble_eq_true rfl) (Nat.le_of_ble_eq_true rfl) ((by rw [hQ]; simp only [e_way, if_pos c1, if_pos c4, mrow_self]))
    · skip
      rw [if_neg c4] at hk
      have t14 : GM z mX11_needThing (d + 7) [.ref 0, .int x2] M (fun rs => rs = .inr ("java/util/NoSuchElementException", mrow M 0 (upd (M.1 0) 15 ((M.1 0 15) + nI 1)))) := e_needThing_b z d _ x2 nt ht c4
      refine G.callV (as := [.int x2]) (rest := []) (a := 0) oX11_needThing lk_EvenFinders_240 (by decide +kernel) rfl rfl ⟨rfl, rfl⟩ (Nat.le_of_ble_eq_true rfl) rfl ⟨Nat.le_of_ble_eq_true rfl, Nat.le_of_ble_eq_true rfl⟩ t14 (fun v9 N9 h9 => by cases h9) (fun E9 N9 h9 => ?_)
      cases h9
      rw [hQ]
      simp only [e_way, if_pos c1, if_neg c4]
  · skip
    rw [if_neg c1] at hk
    have t15 : GM z mX11_needFinder (d + 7) [.ref 0, .int x1] M (fun rs => rs = .inr ("java/util/NoSuchElementException", mrow M 0 (upd (M.1 0) 15 ((M.1 0 15) + nI 1)))) := e_needFinder_b z d _ x1 nf hf c1
    refine G.callV (as := [.int x1]) (rest := []) (a := 0) oX11_needFinder lk_EvenFinders_249 (by decide +kernel) rfl rfl ⟨rfl, rfl⟩ (Nat.le_of_ble_eq_true rfl) rfl ⟨Nat.le_of_ble_eq_true rfl, Nat.le_of_ble_eq_true rfl⟩ t15 (fun v9 N9 h9 => by cases h9) (fun E9 N9 h9 => ?_)
    cases h9
    rw [hQ]
    simp only [e_way, if_neg c1]
set_option maxHeartbeats 4000000 in
set_option maxRecDepth 3000 in
theorem lp_e_burden_0_11 (z : Zp) (d : Nat) (M : Mem) (Q : Rs → Prop) (x1 : Int32) (nf : Nat) (hnf : nf ≤ 6) (hf : M.1 3 3 = nI nf) (hX : G z mX11_burden (d + 7) 1 6 61 [none, none, some (.int (e_burden_11 (M.1 38) x1 nf)), none, none] [] M Q) : G z mX11_burden (d + 7) 1 6 11 [some (.ref 0), some (.int x1), some (.int (nI 0)), some (.int (nI 0)), none] [] M Q := by
  refine down (n := nf) (P := fun i3 => G z mX11_burden (d + 7) 1 6 11 [some (.ref 0), some (.int x1), some (.int (e_burden_11 (M.1 38) x1 i3)), some (.int (nI i3)), none] [] M Q) ?_ ?_ 0 (Nat.zero_le _)
  · skip
    refine G.sl [(.iload_n 3, 1, 3, 0, 0, 0), (.aload_n 0, 1, 0, 0, 0, 0), (.getfield 19, 3, 10, 1, 107, 0), (.getfield 189, 3, 6, 3, 33, 0)] [] (pc2 := 19) (ls2 := [some (.ref 0), some (.int x1), some (.int (e_burden_11 (M.1 38) x1 nf)), some (.int (nI nf)), none]) (st2 := [.int (M.1 3 3), .int (nI nf)]) (M2 := M) (Ps := []) (by decide +kernel) rfl rfl trivial ?_
    rw [hf]
    refine G.ic_ge (off := (42)) (tgt := 61) (by decide +kernel) rfl (fun _ => ?_) (fun h9 => absurd (nI_le (by omega) (by omega)) h9)
    refine G.loc (ls2 := [none, none, some (.int (e_burden_11 (M.1 38) x1 nf)), none, none]) (by simp [subL]) ?_
    exact hX
  · skip
    intro i3 hi ih
    show G z mX11_burden (d + 7) 1 6 11 [some (.ref 0), some (.int x1), some (.int (e_burden_11 (M.1 38) x1 i3)), some (.int (nI i3)), none] [] M Q
    refine G.sl [(.iload_n 3, 1, 3, 0, 0, 0), (.aload_n 0, 1, 0, 0, 0, 0), (.getfield 19, 3, 10, 1, 107, 0), (.getfield 189, 3, 6, 3, 33, 0)] [] (pc2 := 19) (ls2 := [some (.ref 0), some (.int x1), some (.int (e_burden_11 (M.1 38) x1 i3)), some (.int (nI i3)), none]) (st2 := [.int (M.1 3 3), .int (nI i3)]) (M2 := M) (Ps := []) (by decide +kernel) rfl rfl trivial ?_
    rw [hf]
    refine G.ic_ge (off := (42)) (tgt := 61) (by decide +kernel) rfl (fun h9 => absurd h9 (nI_ge (by omega) (by omega))) (fun _ => ?_)
    refine G.sl [(.aload_n 0, 1, 0, 0, 0, 0), (.getfield 60, 3, 10, 8, 114, 0), (.getfield 192, 3, 1, 0, 77, 0), (.bipush 7, 2, 0, 0, 0, nI 7), (.iload_n 3, 1, 3, 0, 0, 0), (.iadd, 1, 0, 0, 0, 0), (.iaload, 1, 0, 0, 0, 0), (.istore 4, 2, 4, 0, 0, 0), (.iload_n 2, 1, 2, 0, 0, 0), (.iconst 0, 1, 0, 0, 0, nI 0), (.iload_n 1, 1, 1, 0, 0, 0)] [7 + i3] (pc2 := 39) (ls2 := [some (.ref 0), some (.int x1), some (.int (e_burden_11 (M.1 38) x1 i3)), some (.int (nI i3)), some (.int (M.1 38 (7 + i3)))]) (st2 := [.int x1, .int (nI 0), .int (e_burden_11 (M.1 38) x1 i3)]) (M2 := M) (Ps := [((nI 7) + (nI i3)) = nI (7 + i3) ∧ (7 + i3) < 51]) (by decide +kernel) rfl rfl ⟨⟨(nI_add _ _), (by omega)⟩, trivial⟩ ?_
    refine G.if_ne (off := (8)) (tgt := 47) (by decide +kernel) rfl (fun c4 => ?_) (fun c4 => ?_)
    · skip
      refine G.sl [(.iload 4, 2, 4, 0, 0, 0), (.ineg, 1, 0, 0, 0, 0)] [] (pc2 := 50) (ls2 := [some (.ref 0), some (.int x1), some (.int (e_burden_11 (M.1 38) x1 i3)), some (.int (nI i3)), some (.int (M.1 38 (7 + i3)))]) (st2 := [.int (-(M.1 38 (7 + i3))), .int (nI 0), .int (e_burden_11 (M.1 38) x1 i3)]) (M2 := M) (Ps := []) (by decide +kernel) rfl rfl trivial ?_
      refine G.mmax lm_EvenFinders_338 (by decide +kernel) (Nat.le_of_ble_eq_true rfl) (Nat.le_of_ble_eq_true rfl) (Nat.le_of_ble_eq_true rfl) ?_
      refine G.sl [(.iadd, 1, 0, 0, 0, 0), (.istore_n 2, 1, 2, 0, 0, 0), (.iinc 3 1, 3, 3, 0, 0, nI 1), (.goto (-47), 3, 11, 0, 0, 0)] [] (pc2 := 11) (ls2 := [some (.ref 0), some (.int x1), some (.int ((e_burden_11 (M.1 38) x1 i3) + (if (nI 0) < (-(M.1 38 (7 + i3))) then (-(M.1 38 (7 + i3))) else (nI 0)))), some (.int ((nI i3) + nI 1)), some (.int (M.1 38 (7 + i3)))]) (st2 := []) (M2 := M) (Ps := []) (by decide +kernel) rfl rfl trivial ?_
      refine G.loc (ls2 := [some (.ref 0), some (.int x1), some (.int ((e_burden_11 (M.1 38) x1 i3) + (if (nI 0) < (-(M.1 38 (7 + i3))) then (-(M.1 38 (7 + i3))) else (nI 0)))), some (.int ((nI i3) + nI 1)), none]) (by simp [subL]) ?_
      rw [nI_add i3 1]
      simp only [e_burden_11, if_neg c4] at ih
      exact ih
    · skip
      refine G.sl [(.iload 4, 2, 4, 0, 0, 0), (.goto 6, 3, 50, 0, 0, 0)] [] (pc2 := 50) (ls2 := [some (.ref 0), some (.int x1), some (.int (e_burden_11 (M.1 38) x1 i3)), some (.int (nI i3)), some (.int (M.1 38 (7 + i3)))]) (st2 := [.int (M.1 38 (7 + i3)), .int (nI 0), .int (e_burden_11 (M.1 38) x1 i3)]) (M2 := M) (Ps := []) (by decide +kernel) rfl rfl trivial ?_
      refine G.mmax lm_EvenFinders_338 (by decide +kernel) (Nat.le_of_ble_eq_true rfl) (Nat.le_of_ble_eq_true rfl) (Nat.le_of_ble_eq_true rfl) ?_
      refine G.sl [(.iadd, 1, 0, 0, 0, 0), (.istore_n 2, 1, 2, 0, 0, 0), (.iinc 3 1, 3, 3, 0, 0, nI 1), (.goto (-47), 3, 11, 0, 0, 0)] [] (pc2 := 11) (ls2 := [some (.ref 0), some (.int x1), some (.int ((e_burden_11 (M.1 38) x1 i3) + (if (nI 0) < (M.1 38 (7 + i3)) then (M.1 38 (7 + i3)) else (nI 0)))), some (.int ((nI i3) + nI 1)), some (.int (M.1 38 (7 + i3)))]) (st2 := []) (M2 := M) (Ps := []) (by decide +kernel) rfl rfl trivial ?_
      refine G.loc (ls2 := [some (.ref 0), some (.int x1), some (.int ((e_burden_11 (M.1 38) x1 i3) + (if (nI 0) < (M.1 38 (7 + i3)) then (M.1 38 (7 + i3)) else (nI 0)))), some (.int ((nI i3) + nI 1)), none]) (by simp [subL]) ?_
      rw [nI_add i3 1]
      simp only [e_burden_11, if_pos c4] at ih
      exact ih
set_option maxHeartbeats 4000000 in
set_option maxRecDepth 3000 in
theorem c_e_burden_0 (z : Zp) (d : Nat) (M : Mem) (x1 : Int32) (nf : Nat) (hnf : nf ≤ 6) (hf : M.1 3 3 = nI nf) : GM z mX11_burden (d + 7) [.ref 0, .int x1] M (fun rs => rs = e_burden M nf x1) := by
  refine GM.of oX11_burden.1 (Nat.le_of_ble_eq_true rfl) ?_
  show G z mX11_burden (d + 7) 0 0 0 [some (.ref 0), some (.int x1), none, none, none] [] M _
  obtain ⟨Q, hQ⟩ : ∃ Q : Rs → Prop, Q = (fun rs => rs = e_burden M nf x1) := ⟨_, rfl⟩
  rw [← hQ]
  refine G.sl [(.aload_n 0, 1, 0, 0, 0, 0), (.iload_n 1, 1, 1, 0, 0, 0), (.iconst 0, 1, 0, 0, 0, nI 0), (.iconst 1, 1, 0, 0, 0, nI 1)] [] (pc2 := 4) (ls2 := [some (.ref 0), some (.int x1), none, none, none]) (st2 := [.int (nI 1), .int (nI 0), .int x1, .ref 0]) (M2 := M) (Ps := []) (by decide +kernel) rfl rfl trivial ?_
  by_cases c1 : ¬ x1 < (nI 0) ∧ x1 ≤ (nI 1)
  · skip
    have t2 : GM z mX11_needWithin (d + 6) [.ref 0, .int x1, .int (nI 0), .int (nI 1)] M (fun rs => rs = .inl (none, M)) := e_needWithin_g z d _ x1 (nI 0) (nI 1) c1
    refine G.callV (as := [.int x1, .int (nI 0), .int (nI 1)]) (rest := []) (a := 0) oX11_needWithin lk_EvenFinders_182 (by decide +kernel) rfl rfl ⟨rfl, rfl⟩ (Nat.le_of_ble_eq_true rfl) rfl ⟨Nat.le_of_ble_eq_true rfl, Nat.le_of_ble_eq_true rfl⟩ t2 (fun v9 N9 h3 => ?_) (fun E9 N9 h3 => by cases h3)
    cases h3
    show G z mX11_burden (d + 7) 1 6 7 [some (.ref 0), some (.int x1), none, none, none] [] M Q
    refine G.sl [(.iconst 0, 1, 0, 0, 0, nI 0), (.istore_n 2, 1, 2, 0, 0, 0), (.iconst 0, 1, 0, 0, 0, nI 0), (.istore_n 3, 1, 3, 0, 0, 0)] [] (pc2 := 11) (ls2 := [some (.ref 0), some (.int x1), some (.int (nI 0)), some (.int (nI 0)), none]) (st2 := []) (M2 := M) (Ps := []) (by decide +kernel) rfl rfl trivial ?_
    refine lp_e_burden_0_11 z d M Q x1 nf hnf hf ?_
    show G z mX11_burden (d + 7) 1 6 61 [none, none, some (.int (e_burden_11 (M.1 38) x1 nf)), none, none] [] M Q
    refine G.sl [(.iload_n 2, 1, 2, 0, 0, 0)] [] (pc2 := 62) (ls2 := [none, none, some (.int (e_burden_11 (M.1 38) x1 nf)), none, none]) (st2 := [.int (e_burden_11 (M.1 38) x1 nf)]) (M2 := M) (Ps := []) (by decide +kernel) rfl rfl trivial ?_
    exact G.reti (by decide +kernel) rfl rfl (Nat.le_of_ble_eq_true rfl) (Nat.le_of_ble_eq_true rfl) ((by rw [hQ]; simp only [e_burden, if_pos c1, mrow_self]))
  · skip
    have t6 : GM z mX11_needWithin (d + 6) [.ref 0, .int x1, .int (nI 0), .int (nI 1)] M (fun rs => rs = .inr ("java/lang/IllegalArgumentException", mrow M 0 (upd (M.1 0) 16 ((M.1 0 16) + nI 1)))) := e_needWithin_b z d _ x1 (nI 0) (nI 1) c1
    refine G.callV (as := [.int x1, .int (nI 0), .int (nI 1)]) (rest := []) (a := 0) oX11_needWithin lk_EvenFinders_182 (by decide +kernel) rfl rfl ⟨rfl, rfl⟩ (Nat.le_of_ble_eq_true rfl) rfl ⟨Nat.le_of_ble_eq_true rfl, Nat.le_of_ble_eq_true rfl⟩ t6 (fun v9 N9 h9 => by cases h9) (fun E9 N9 h9 => ?_)
    cases h9
    rw [hQ]
    simp only [e_burden, if_neg c1]
set_option maxHeartbeats 4000000 in
set_option maxRecDepth 3000 in
theorem c_e_near_0 (z : Zp) (d : Nat) (M : Mem) (x1 : Int32) (x2 : Int32) (nt : Nat) (hnt : nt ≤ 10) (ht : M.1 3 2 = nI nt) (nf : Nat) (hnf : nf ≤ 6) (hf : M.1 3 3 = nI nf) (hk : e_near_ok M nt nf x1 x2) : GM z mX11_near (d + 8) [.ref 0, .int x1, .int x2] M (fun rs => rs = e_near M nt nf x1 x2) := by
  simp only [e_near_ok] at hk
  refine GM.of oX11_near.1 (Nat.le_of_ble_eq_true rfl) ?_
  show G z mX11_near (d + 8) 0 0 0 [some (.ref 0), some (.int x1), some (.int x2), none] [] M _
  obtain ⟨Q, hQ⟩ : ∃ Q : Rs → Prop, Q = (fun rs => rs = e_near M nt nf x1 x2) := ⟨_, rfl⟩
  rw [← hQ]
  refine G.sl [(.aload_n 0, 1, 0, 0, 0, 0), (.iload_n 1, 1, 1, 0, 0, 0)] [] (pc2 := 2) (ls2 := [some (.ref 0), some (.int x1), some (.int x2), none]) (st2 := [.int x1, .ref 0]) (M2 := M) (Ps := []) (by decide +kernel) rfl rfl trivial ?_
  by_cases c1 : ¬ x1 < 0 ∧ x1 < nI nf
  · skip
    rw [if_pos c1] at hk
    have t2 : GM z mX11_needFinder (d + 7) [.ref 0, .int x1] M (fun rs => rs = .inl (none, M)) := e_needFinder_g z d _ x1 nf hf c1
    refine G.callV (as := [.int x1]) (rest := []) (a := 0) oX11_needFinder lk_EvenFinders_249 (by decide +kernel) rfl rfl ⟨rfl, rfl⟩ (Nat.le_of_ble_eq_true rfl) rfl ⟨Nat.le_of_ble_eq_true rfl, Nat.le_of_ble_eq_true rfl⟩ t2 (fun v9 N9 h3 => ?_) (fun E9 N9 h3 => by cases h3)
    cases h3
    show G z mX11_near (d + 8) 1 6 5 [some (.ref 0), some (.int x1), some (.int x2), none] [] M Q
    refine G.sl [(.aload_n 0, 1, 0, 0, 0, 0), (.iload_n 2, 1, 2, 0, 0, 0), (.iconst 0, 1, 0, 0, 0, nI 0), (.iconst 1, 1, 0, 0, 0, nI 1)] [] (pc2 := 9) (ls2 := [some (.ref 0), some (.int x1), some (.int x2), none]) (st2 := [.int (nI 1), .int (nI 0), .int x2, .ref 0]) (M2 := M) (Ps := []) (by decide +kernel) rfl rfl trivial ?_
    by_cases c4 : ¬ x2 < (nI 0) ∧ x2 ≤ (nI 1)
    · skip
      rw [if_pos c4] at hk
      have t5 : GM z mX11_needWithin (d + 7) [.ref 0, .int x2, .int (nI 0), .int (nI 1)] M (fun rs => rs = .inl (none, M)) := e_needWithin_g z (d + 1) _ x2 (nI 0) (nI 1) c4
      refine G.callV (as := [.int x2, .int (nI 0), .int (nI 1)]) (rest := []) (a := 0) oX11_needWithin lk_EvenFinders_182 (by decide +kernel) rfl rfl ⟨rfl, rfl⟩ (Nat.le_of_ble_eq_true rfl) rfl ⟨Nat.le_of_ble_eq_true rfl, Nat.le_of_ble_eq_true rfl⟩ t5 (fun v9 N9 h6 => ?_) (fun E9 N9 h6 => by cases h6)
      cases h6
      show G z mX11_near (d + 8) 2 12 12 [some (.ref 0), some (.int x1), some (.int x2), none] [] M Q
      refine G.sl [(.aload_n 0, 1, 0, 0, 0, 0), (.getfield 79, 3, 10, 11, 117, 0), (.iload_n 1, 1, 1, 0, 0, 0)] [] (pc2 := 17) (ls2 := [some (.ref 0), some (.int x1), some (.int x2), none]) (st2 := [.int x1, .ref 47]) (M2 := M) (Ps := []) (by decide +kernel) rfl rfl trivial ?_
      obtain ⟨k7, k8, hk⟩ := hk
      obtain ⟨k9, hk⟩ := hk
      refine G.eq (st' := [.int (nI (ix x1)), .ref 47]) ?_ rfl (by rw [← (show x1 = nI (ix x1) from (ixE k7))]) rfl
      have t10 : GM z mX8_nearestThing (d + 7) [.ref 47, .int (nI (ix x1))] M (fun rs => rs = .inl (some (.int (w_nearestThing (M.1 11) (M.1 38) nt (ix x1))), M)) := by
        have q9 := c_w_nearestThing_47 z (d + 5) M (ix x1) nt hnt ht k8 k9
        try simp only [mput, mrow_same, mrow_hit, mrow_miss, mrow_sw, idr_eq, ne_eq, Nat.reduceEqDiff, not_false_eq_true, Nat.reduceLT, reduceCtorEq] at q9
        exact q9
      refine G.callV (as := [.int (nI (ix x1))]) (rest := []) (a := 47) oX8_nearestThing lk_EvenFinders_343 (by decide +kernel) rfl rfl ⟨rfl, rfl⟩ (Nat.le_of_ble_eq_true rfl) rfl ⟨Nat.le_of_ble_eq_true rfl, Nat.le_of_ble_eq_true rfl⟩ t10 (fun v9 N9 h11 => ?_) (fun E9 N9 h11 => by cases h11)
      cases h11
      show G z mX11_near (d + 8) 2 12 20 [some (.ref 0), some (.int x1), some (.int x2), none] [.int (w_nearestThing (M.1 11) (M.1 38) nt (ix x1))] M Q
      refine G.sl [(.istore_n 3, 1, 3, 0, 0, 0), (.iload_n 2, 1, 2, 0, 0, 0)] [] (pc2 := 22) (ls2 := [some (.ref 0), some (.int x1), some (.int x2), some (.int (w_nearestThing (M.1 11) (M.1 38) nt (ix x1)))]) (st2 := [.int x2]) (M2 := M) (Ps := []) (by decide +kernel) rfl rfl trivial ?_
      refine G.if_eq (off := (8)) (tgt := 30) (by decide +kernel) rfl (fun c12 => ?_) (fun c12 => ?_)
      · skip
        rw [if_pos c12] at hk
        refine G.sl [(.iload_n 3, 1, 3, 0, 0, 0), (.goto 12, 3, 43, 0, 0, 0)] [] (pc2 := 43) (ls2 := [some (.ref 0), some (.int x1), some (.int x2), some (.int (w_nearestThing (M.1 11) (M.1 38) nt (ix x1)))]) (st2 := [.int (w_nearestThing (M.1 11) (M.1 38) nt (ix x1))]) (M2 := M) (Ps := []) (by decide +kernel) rfl rfl trivial ?_
        exact G.reti (by decide +kernel) rfl rfl (Nat.le_of_ble_eq_true rfl) (Nat.le_of_ble_eq_true rfl) ((by rw [hQ]; simp only [e_near, if_pos c1, if_pos c4, if_pos c12, mrow_self]))
      · skip
        rw [if_neg c12] at hk
        refine G.sl [(.iload_n 3, 1, 3, 0, 0, 0), (.iconst (-1), 1, 0, 0, 0, (-1))] [] (pc2 := 27) (ls2 := [some (.ref 0), some (.int x1), some (.int x2), some (.int (w_nearestThing (M.1 11) (M.1 38) nt (ix x1)))]) (st2 := [.int ((-1)), .int (w_nearestThing (M.1 11) (M.1 38) nt (ix x1))]) (M2 := M) (Ps := []) (by decide +kernel) rfl rfl trivial ?_
        refine G.ic_ne (off := (7)) (tgt := 34) (by decide +kernel) rfl (fun c13 => ?_) (fun c13 => ?_)
        · skip
          rw [if_neg c13] at hk
          refine G.sl [(.aload_n 0, 1, 0, 0, 0, 0), (.getfield 79, 3, 10, 11, 117, 0), (.iload_n 1, 1, 1, 0, 0, 0), (.iload_n 3, 1, 3, 0, 0, 0)] [] (pc2 := 40) (ls2 := [some (.ref 0), some (.int x1), some (.int x2), some (.int (w_nearestThing (M.1 11) (M.1 38) nt (ix x1)))]) (st2 := [.int (w_nearestThing (M.1 11) (M.1 38) nt (ix x1)), .int x1, .ref 47]) (M2 := M) (Ps := []) (by decide +kernel) rfl rfl trivial ?_
          obtain ⟨k14, k15, hk⟩ := hk
          obtain ⟨k16, hk⟩ := hk
          refine G.eq (st' := [.int (nI (ix (w_nearestThing (M.1 11) (M.1 38) nt (ix x1)))), .int (nI (ix x1)), .ref 47]) ?_ rfl (by rw [← (show x1 = nI (ix x1) from (ixE k7)), ← (show w_nearestThing (M.1 11) (M.1 38) nt (ix x1) = nI (ix (w_nearestThing (M.1 11) (M.1 38) nt (ix x1))) from (ixE k14))]) rfl
          have t17 : GM z mX8_wayTo (d + 7) [.ref 47, .int (nI (ix x1)), .int (nI (ix (w_nearestThing (M.1 11) (M.1 38) nt (ix x1))))] M (fun rs => rs = .inl (some (.int (w_wayTo (M.1 11) (M.1 38) (ix x1) (ix (w_nearestThing (M.1 11) (M.1 38) nt (ix x1))))), M)) := by
            have q9 := c_w_wayTo_47 z (d + 6) M (ix x1) (ix (w_nearestThing (M.1 11) (M.1 38) nt (ix x1))) k8 k15 k16
            try simp only [mput, mrow_same, mrow_hit, mrow_miss, mrow_sw, idr_eq, ne_eq, Nat.reduceEqDiff, not_false_eq_true, Nat.reduceLT, reduceCtorEq] at q9
            exact q9
          refine G.callV (as := [.int (nI (ix x1)), .int (nI (ix (w_nearestThing (M.1 11) (M.1 38) nt (ix x1))))]) (rest := []) (a := 47) oX8_wayTo lk_EvenFinders_335 (by decide +kernel) rfl rfl ⟨rfl, rfl⟩ (Nat.le_of_ble_eq_true rfl) rfl ⟨Nat.le_of_ble_eq_true rfl, Nat.le_of_ble_eq_true rfl⟩ t17 (fun v9 N9 h18 => ?_) (fun E9 N9 h18 => by cases h18)
          cases h18
          show G z mX11_near (d + 8) 2 12 43 [some (.ref 0), some (.int x1), some (.int x2), some (.int (w_nearestThing (M.1 11) (M.1 38) nt (ix x1)))] [.int (w_wayTo (M.1 11) (M.1 38) (ix x1) (ix (w_nearestThing (M.1 11) (M.1 38) nt (ix x1))))] M Q
          exact G.reti (by decide +kernel) rfl rfl (Nat.le_of_ble_eq_true rfl) (Nat.le_of_ble_eq_true rfl) ((by rw [hQ]; simp only [e_near, if_pos c1, if_pos c4, if_neg c12, if_neg c13, mrow_self]))
        · skip
          rw [if_pos c13] at hk
          refine G.sl [(.iload_n 3, 1, 3, 0, 0, 0), (.goto 12, 3, 43, 0, 0, 0)] [] (pc2 := 43) (ls2 := [some (.ref 0), some (.int x1), some (.int x2), some (.int (w_nearestThing (M.1 11) (M.1 38) nt (ix x1)))]) (st2 := [.int (w_nearestThing (M.1 11) (M.1 38) nt (ix x1))]) (M2 := M) (Ps := []) (by decide +kernel) rfl rfl trivial ?_
          exact G.reti (by decide +kernel) rfl rfl (Nat.le_of_ble_eq_true rfl) (Nat.le_of_ble_eq_true rfl) ((by rw [hQ]; simp only [e_near, if_pos c1, if_pos c4, if_neg c12, if_pos c13, mrow_self]))
    · skip
      rw [if_neg c4] at hk
      have t19 : GM z mX11_needWithin (d + 7) [.ref 0, .int x2, .int (nI 0), .int (nI 1)] M (fun rs => rs = .inr ("java/lang/IllegalArgumentException", mrow M 0 (upd (M.1 0) 16 ((M.1 0 16) + nI 1)))) := e_needWithin_b z (d + 1) _ x2 (nI 0) (nI 1) c4
      refine G.callV (as := [.int x2, .int (nI 0), .int (nI 1)]) (rest := []) (a := 0) oX11_needWithin lk_EvenFinders_182 (by decide +kernel) rfl rfl ⟨rfl, rfl⟩ (Nat.le_of_ble_eq_true rfl) rfl ⟨Nat.le_of_ble_eq_true rfl, Nat.le_of_ble_eq_true rfl⟩ t19 (fun v9 N9 h9 => by cases h9) (fun E9 N9 h9 => ?_)
      cases h9
      rw [hQ]
      simp only [e_near, if_pos c1, if_neg c4]
  · skip
    rw [if_neg c1] at hk
    have t20 : GM z mX11_needFinder (d + 7) [.ref 0, .int x1] M (fun rs => rs = .inr ("java/util/NoSuchElementException", mrow M 0 (upd (M.1 0) 15 ((M.1 0 15) + nI 1)))) := e_needFinder_b z d _ x1 nf hf c1
    refine G.callV (as := [.int x1]) (rest := []) (a := 0) oX11_needFinder lk_EvenFinders_249 (by decide +kernel) rfl rfl ⟨rfl, rfl⟩ (Nat.le_of_ble_eq_true rfl) rfl ⟨Nat.le_of_ble_eq_true rfl, Nat.le_of_ble_eq_true rfl⟩ t20 (fun v9 N9 h9 => by cases h9) (fun E9 N9 h9 => ?_)
    cases h9
    rw [hQ]
    simp only [e_near, if_neg c1]
set_option maxHeartbeats 4000000 in
set_option maxRecDepth 3000 in
theorem c_e_enough_0 (z : Zp) (d : Nat) (M : Mem) (x1 : Int32) (nt : Nat) (hnt : nt ≤ 10) (ht : M.1 3 2 = nI nt) (nf : Nat) (hnf : nf ≤ 6) (hf : M.1 3 3 = nI nf) (hk : e_enough_ok M nt nf x1) : GM z mX11_enough (d + 8) [.ref 0, .int x1] M (fun rs => rs = e_enough M nt nf x1) := by
  simp only [e_enough_ok] at hk
  refine GM.of oX11_enough.1 (Nat.le_of_ble_eq_true rfl) ?_
  show G z mX11_enough (d + 8) 0 0 0 [some (.ref 0), some (.int x1)] [] M _
  obtain ⟨Q, hQ⟩ : ∃ Q : Rs → Prop, Q = (fun rs => rs = e_enough M nt nf x1) := ⟨_, rfl⟩
  rw [← hQ]
  refine G.sl [(.aload_n 0, 1, 0, 0, 0, 0), (.iload_n 1, 1, 1, 0, 0, 0)] [] (pc2 := 2) (ls2 := [some (.ref 0), some (.int x1)]) (st2 := [.int x1, .ref 0]) (M2 := M) (Ps := []) (by decide +kernel) rfl rfl trivial ?_
  by_cases c1 : ¬ x1 < 0 ∧ x1 < nI nf
  · skip
    rw [if_pos c1] at hk
    have t2 : GM z mX11_needFinder (d + 7) [.ref 0, .int x1] M (fun rs => rs = .inl (none, M)) := e_needFinder_g z d _ x1 nf hf c1
    refine G.callV (as := [.int x1]) (rest := []) (a := 0) oX11_needFinder lk_EvenFinders_249 (by decide +kernel) rfl rfl ⟨rfl, rfl⟩ (Nat.le_of_ble_eq_true rfl) rfl ⟨Nat.le_of_ble_eq_true rfl, Nat.le_of_ble_eq_true rfl⟩ t2 (fun v9 N9 h3 => ?_) (fun E9 N9 h3 => by cases h3)
    cases h3
    show G z mX11_enough (d + 8) 1 6 5 [some (.ref 0), some (.int x1)] [] M Q
    refine G.sl [(.aload_n 0, 1, 0, 0, 0, 0), (.getfield 60, 3, 10, 8, 114, 0), (.iload_n 1, 1, 1, 0, 0, 0)] [] (pc2 := 10) (ls2 := [some (.ref 0), some (.int x1)]) (st2 := [.int x1, .ref 37]) (M2 := M) (Ps := []) (by decide +kernel) rfl rfl trivial ?_
    obtain ⟨k4, k5, hk⟩ := hk
    refine G.eq (st' := [.int (nI (ix x1)), .ref 37]) ?_ rfl (by rw [← (show x1 = nI (ix x1) from (ixE k4))]) rfl
    have t7 : GM z mX1_eachEnough (d + 7) [.ref 37, .int (nI (ix x1))] M (fun rs => rs = .inl (some (.int (d_eachEnough (M.1 7) (M.1 38) nt (ix x1))), M)) := by
      have q9 := c_d_eachEnough_37 z (d + 7) M (ix x1) nt hnt ht k5
      try simp only [mput, mrow_same, mrow_hit, mrow_miss, mrow_sw, idr_eq, ne_eq, Nat.reduceEqDiff, not_false_eq_true, Nat.reduceLT, reduceCtorEq] at q9
      exact q9
    refine G.callV (as := [.int (nI (ix x1))]) (rest := []) (a := 37) oX1_eachEnough lk_EvenFinders_346 (by decide +kernel) rfl rfl ⟨rfl, rfl⟩ (Nat.le_of_ble_eq_true rfl) rfl ⟨Nat.le_of_ble_eq_true rfl, Nat.le_of_ble_eq_true rfl⟩ t7 (fun v9 N9 h8 => ?_) (fun E9 N9 h8 => by cases h8)
    cases h8
    show G z mX11_enough (d + 8) 1 6 13 [some (.ref 0), some (.int x1)] [.int (d_eachEnough (M.1 7) (M.1 38) nt (ix x1))] M Q
    exact G.reti (by decide +kernel) rfl rfl (Nat.le_of_ble_eq_true rfl) (Nat.le_of_ble_eq_true rfl) ((by rw [hQ]; simp only [e_enough, if_pos c1, mrow_self]))
  · skip
    rw [if_neg c1] at hk
    have t9 : GM z mX11_needFinder (d + 7) [.ref 0, .int x1] M (fun rs => rs = .inr ("java/util/NoSuchElementException", mrow M 0 (upd (M.1 0) 15 ((M.1 0 15) + nI 1)))) := e_needFinder_b z d _ x1 nf hf c1
    refine G.callV (as := [.int x1]) (rest := []) (a := 0) oX11_needFinder lk_EvenFinders_249 (by decide +kernel) rfl rfl ⟨rfl, rfl⟩ (Nat.le_of_ble_eq_true rfl) rfl ⟨Nat.le_of_ble_eq_true rfl, Nat.le_of_ble_eq_true rfl⟩ t9 (fun v9 N9 h9 => by cases h9) (fun E9 N9 h9 => ?_)
    cases h9
    rw [hQ]
    simp only [e_enough, if_neg c1]
set_option maxHeartbeats 4000000 in
set_option maxRecDepth 3000 in
theorem lp_d_even_40_4 (z : Zp) (d : Nat) (M : Mem) (Q : Rs → Prop) (nf : Nat) (hnf : nf ≤ 6) (hf : M.1 3 3 = nI nf) (hX : G z mX1_even (d) 0 0 39 [none, some (.int (d_even_4 (M.1 41) nf)), none] [] M Q) : G z mX1_even (d) 0 0 4 [some (.ref 40), some (.int (nI 0)), some (.int (nI 0))] [] M Q := by
  refine down (n := nf) (P := fun i2 => G z mX1_even (d) 0 0 4 [some (.ref 40), some (.int (d_even_4 (M.1 41) i2)), some (.int (nI i2))] [] M Q) ?_ ?_ 0 (Nat.zero_le _)
  · skip
    refine G.sl [(.iload_n 2, 1, 2, 0, 0, 0), (.aload_n 0, 1, 0, 0, 0, 0), (.getfield 18, 3, 1, 2, 79, 0), (.getfield 78, 3, 6, 3, 34, 0)] [] (pc2 := 12) (ls2 := [some (.ref 40), some (.int (d_even_4 (M.1 41) nf)), some (.int (nI nf))]) (st2 := [.int (M.1 3 3), .int (nI nf)]) (M2 := M) (Ps := []) (by decide +kernel) rfl rfl trivial ?_
    rw [hf]
    refine G.ic_ge (off := (27)) (tgt := 39) (by decide +kernel) rfl (fun _ => ?_) (fun h9 => absurd (nI_le (by omega) (by omega)) h9)
    refine G.loc (ls2 := [none, some (.int (d_even_4 (M.1 41) nf)), none]) (by simp [subL]) ?_
    exact hX
  · skip
    intro i2 hi ih
    show G z mX1_even (d) 0 0 4 [some (.ref 40), some (.int (d_even_4 (M.1 41) i2)), some (.int (nI i2))] [] M Q
    refine G.sl [(.iload_n 2, 1, 2, 0, 0, 0), (.aload_n 0, 1, 0, 0, 0, 0), (.getfield 18, 3, 1, 2, 79, 0), (.getfield 78, 3, 6, 3, 34, 0)] [] (pc2 := 12) (ls2 := [some (.ref 40), some (.int (d_even_4 (M.1 41) i2)), some (.int (nI i2))]) (st2 := [.int (M.1 3 3), .int (nI i2)]) (M2 := M) (Ps := []) (by decide +kernel) rfl rfl trivial ?_
    rw [hf]
    refine G.ic_ge (off := (27)) (tgt := 39) (by decide +kernel) rfl (fun h9 => absurd h9 (nI_ge (by omega) (by omega))) (fun _ => ?_)
    refine G.sl [(.aload_n 0, 1, 0, 0, 0, 0), (.getfield 9, 3, 1, 0, 73, 0), (.bipush 7, 2, 0, 0, 0, nI 7), (.iload_n 2, 1, 2, 0, 0, 0), (.iadd, 1, 0, 0, 0, 0), (.iaload, 1, 0, 0, 0, 0)] [7 + i2] (pc2 := 24) (ls2 := [some (.ref 40), some (.int (d_even_4 (M.1 41) i2)), some (.int (nI i2))]) (st2 := [.int (M.1 41 (7 + i2))]) (M2 := M) (Ps := [((nI 7) + (nI i2)) = nI (7 + i2) ∧ (7 + i2) < 51]) (by decide +kernel) rfl rfl ⟨⟨(nI_add _ _), (by omega)⟩, trivial⟩ ?_
    refine G.if_ne (off := (9)) (tgt := 33) (by decide +kernel) rfl (fun c1 => ?_) (fun c1 => ?_)
    · skip
      refine G.sl [(.iinc 2 1, 3, 2, 0, 0, nI 1), (.goto (-32), 3, 4, 0, 0, 0)] [] (pc2 := 4) (ls2 := [some (.ref 40), some (.int (d_even_4 (M.1 41) i2)), some (.int ((nI i2) + nI 1))]) (st2 := []) (M2 := M) (Ps := []) (by decide +kernel) rfl rfl trivial ?_
      rw [nI_add i2 1]
      simp only [d_even_4, if_neg c1] at ih
      exact ih
    · skip
      refine G.sl [(.iload_n 1, 1, 1, 0, 0, 0), (.iconst 1, 1, 0, 0, 0, nI 1), (.iload_n 2, 1, 2, 0, 0, 0), (.ishl, 1, 0, 0, 0, 0), (.ior, 1, 0, 0, 0, 0), (.istore_n 1, 1, 1, 0, 0, 0), (.iinc 2 1, 3, 2, 0, 0, nI 1), (.goto (-32), 3, 4, 0, 0, 0)] [] (pc2 := 4) (ls2 := [some (.ref 40), some (.int ((d_even_4 (M.1 41) i2) ||| ((nI 1) <<< ((nI i2) &&& 31)))), some (.int ((nI i2) + nI 1))]) (st2 := []) (M2 := M) (Ps := []) (by decide +kernel) rfl rfl trivial ?_
      rw [nI_add i2 1]
      simp only [d_even_4, if_pos c1] at ih
      exact ih
set_option maxHeartbeats 4000000 in
set_option maxRecDepth 3000 in
theorem c_d_even_40 (z : Zp) (d : Nat) (M : Mem) (nf : Nat) (hnf : nf ≤ 6) (hf : M.1 3 3 = nI nf) : GM z mX1_even (d) [.ref 40] M (fun rs => rs = .inl (some (.int (d_even (M.1 41) nf)), M)) := by
  refine GM.of oX1_even.1 (Nat.le_of_ble_eq_true rfl) ?_
  show G z mX1_even (d) 0 0 0 [some (.ref 40), none, none] [] M _
  obtain ⟨Q, hQ⟩ : ∃ Q : Rs → Prop, Q = (fun rs => rs = .inl (some (.int (d_even (M.1 41) nf)), M)) := ⟨_, rfl⟩
  rw [← hQ]
  refine G.sl [(.iconst 0, 1, 0, 0, 0, nI 0), (.istore_n 1, 1, 1, 0, 0, 0), (.iconst 0, 1, 0, 0, 0, nI 0), (.istore_n 2, 1, 2, 0, 0, 0)] [] (pc2 := 4) (ls2 := [some (.ref 40), some (.int (nI 0)), some (.int (nI 0))]) (st2 := []) (M2 := M) (Ps := []) (by decide +kernel) rfl rfl trivial ?_
  refine lp_d_even_40_4 z d M Q nf hnf hf ?_
  show G z mX1_even (d) 0 0 39 [none, some (.int (d_even_4 (M.1 41) nf)), none] [] M Q
  refine G.sl [(.iload_n 1, 1, 1, 0, 0, 0)] [] (pc2 := 40) (ls2 := [none, some (.int (d_even_4 (M.1 41) nf)), none]) (st2 := [.int (d_even_4 (M.1 41) nf)]) (M2 := M) (Ps := []) (by decide +kernel) rfl rfl trivial ?_
  exact G.reti (by decide +kernel) rfl rfl (Nat.le_of_ble_eq_true rfl) (Nat.le_of_ble_eq_true rfl) ((by rw [hQ]; simp only [d_even, mrow_self]))
set_option maxHeartbeats 4000000 in
set_option maxRecDepth 3000 in
theorem c_e_year_0 (z : Zp) (d : Nat) (M : Mem) (x1 : Int32) (x2 : Int32) (x3 : Int32) (x4 : Int32) (nr : Nat) (hnr : nr ≤ 12) (hr : M.1 3 1 = nI nr) (nt : Nat) (hnt : nt ≤ 10) (ht : M.1 3 2 = nI nt) (nf : Nat) (hnf : nf ≤ 6) (hf : M.1 3 3 = nI nf) (hk : e_year_ok M nr nt nf x1 x2 x3 x4) : GM z mX11_year (d + 7) [.ref 0, .int x1, .int x2, .int x3, .int x4] M (fun rs => rs = e_year M nr nt nf x1 x2 x3 x4) := by
  simp only [e_year_ok] at hk
  refine GM.of oX11_year.1 (Nat.le_of_ble_eq_true rfl) ?_
  show G z mX11_year (d + 7) 0 0 0 [some (.ref 0), some (.int x1), some (.int x2), some (.int x3), some (.int x4)] [] M _
  obtain ⟨Q, hQ⟩ : ∃ Q : Rs → Prop, Q = (fun rs => rs = e_year M nr nt nf x1 x2 x3 x4) := ⟨_, rfl⟩
  rw [← hQ]
  refine G.sl [(.aload_n 0, 1, 0, 0, 0, 0), (.iload_n 2, 1, 2, 0, 0, 0), (.iconst 0, 1, 0, 0, 0, nI 0), (.bipush 16, 2, 0, 0, 0, nI 16)] [] (pc2 := 5) (ls2 := [some (.ref 0), some (.int x1), some (.int x2), some (.int x3), some (.int x4)]) (st2 := [.int (nI 16), .int (nI 0), .int x2, .ref 0]) (M2 := M) (Ps := []) (by decide +kernel) rfl rfl trivial ?_
  by_cases c1 : ¬ x2 < (nI 0) ∧ x2 ≤ (nI 16)
  · skip
    rw [if_pos c1] at hk
    have t2 : GM z mX11_needWithin (d + 6) [.ref 0, .int x2, .int (nI 0), .int (nI 16)] M (fun rs => rs = .inl (none, M)) := e_needWithin_g z d _ x2 (nI 0) (nI 16) c1
    refine G.callV (as := [.int x2, .int (nI 0), .int (nI 16)]) (rest := []) (a := 0) oX11_needWithin lk_EvenFinders_182 (by decide +kernel) rfl rfl ⟨rfl, rfl⟩ (Nat.le_of_ble_eq_true rfl) rfl ⟨Nat.le_of_ble_eq_true rfl, Nat.le_of_ble_eq_true rfl⟩ t2 (fun v9 N9 h3 => ?_) (fun E9 N9 h3 => by cases h3)
    cases h3
    show G z mX11_year (d + 7) 1 6 8 [some (.ref 0), some (.int x1), some (.int x2), some (.int x3), some (.int x4)] [] M Q
    refine G.sl [(.aload_n 0, 1, 0, 0, 0, 0), (.iload_n 3, 1, 3, 0, 0, 0), (.iconst 1, 1, 0, 0, 0, nI 1), (.bipush 96, 2, 0, 0, 0, nI 96)] [] (pc2 := 13) (ls2 := [some (.ref 0), some (.int x1), some (.int x2), some (.int x3), some (.int x4)]) (st2 := [.int (nI 96), .int (nI 1), .int x3, .ref 0]) (M2 := M) (Ps := []) (by decide +kernel) rfl rfl trivial ?_
    by_cases c4 : ¬ x3 < (nI 1) ∧ x3 ≤ (nI 96)
    · skip
      rw [if_pos c4] at hk
      have t5 : GM z mX11_needWithin (d + 6) [.ref 0, .int x3, .int (nI 1), .int (nI 96)] M (fun rs => rs = .inl (none, M)) := e_needWithin_g z d _ x3 (nI 1) (nI 96) c4
      refine G.callV (as := [.int x3, .int (nI 1), .int (nI 96)]) (rest := []) (a := 0) oX11_needWithin lk_EvenFinders_182 (by decide +kernel) rfl rfl ⟨rfl, rfl⟩ (Nat.le_of_ble_eq_true rfl) rfl ⟨Nat.le_of_ble_eq_true rfl, Nat.le_of_ble_eq_true rfl⟩ t5 (fun v9 N9 h6 => ?_) (fun E9 N9 h6 => by cases h6)
      cases h6
      show G z mX11_year (d + 7) 2 12 16 [some (.ref 0), some (.int x1), some (.int x2), some (.int x3), some (.int x4)] [] M Q
      refine G.sl [(.aload_n 0, 1, 0, 0, 0, 0), (.iload 4, 2, 4, 0, 0, 0), (.iconst 0, 1, 0, 0, 0, nI 0), (.iconst 3, 1, 0, 0, 0, nI 3)] [] (pc2 := 21) (ls2 := [some (.ref 0), some (.int x1), some (.int x2), some (.int x3), some (.int x4)]) (st2 := [.int (nI 3), .int (nI 0), .int x4, .ref 0]) (M2 := M) (Ps := []) (by decide +kernel) rfl rfl trivial ?_
      by_cases c7 : ¬ x4 < (nI 0) ∧ x4 ≤ (nI 3)
      · skip
        rw [if_pos c7] at hk
        have t8 : GM z mX11_needWithin (d + 6) [.ref 0, .int x4, .int (nI 0), .int (nI 3)] M (fun rs => rs = .inl (none, M)) := e_needWithin_g z d _ x4 (nI 0) (nI 3) c7
        refine G.callV (as := [.int x4, .int (nI 0), .int (nI 3)]) (rest := []) (a := 0) oX11_needWithin lk_EvenFinders_182 (by decide +kernel) rfl rfl ⟨rfl, rfl⟩ (Nat.le_of_ble_eq_true rfl) rfl ⟨Nat.le_of_ble_eq_true rfl, Nat.le_of_ble_eq_true rfl⟩ t8 (fun v9 N9 h9 => ?_) (fun E9 N9 h9 => by cases h9)
        cases h9
        show G z mX11_year (d + 7) 3 18 24 [some (.ref 0), some (.int x1), some (.int x2), some (.int x3), some (.int x4)] [] M Q
        refine G.sl [(.aload_n 0, 1, 0, 0, 0, 0), (.getfield 97, 3, 10, 13, 119, 0), (.iload_n 1, 1, 1, 0, 0, 0), (.iload_n 2, 1, 2, 0, 0, 0), (.iload_n 3, 1, 3, 0, 0, 0)] [] (pc2 := 31) (ls2 := [some (.ref 0), some (.int x1), some (.int x2), some (.int x3), some (.int x4)]) (st2 := [.int x3, .int x2, .int x1, .ref 53]) (M2 := M) (Ps := []) (by decide +kernel) rfl rfl trivial ?_
        obtain ⟨k10, hk⟩ := hk
        rcases g11 : y_goBy (M.1 4) (M.1 5) (M.1 6) (M.1 7) (M.1 21) (M.1 22) (M.1 23) (M.1 24) (M.1 38) (M.1 41) (M.1 53) nr nt nf x1 x2 x3 with ⟨u12, r13, r14, r15, r16⟩
        have t17 : GM z mX10_goBy (d + 6) [.ref 53, .int x1, .int x2, .int x3] M (fun rs => rs = .inl (none, mrow (mrow (mrow (mrow M 22 r13) 24 r14) 41 r15) 53 r16)) := by
          have q9 := c_y_goBy_53 z (d + 1) M x1 x2 x3 nr hnr hr nt hnt ht nf hnf hf k10
          try simp only [mput, mrow_same, mrow_hit, mrow_miss, mrow_sw, idr_eq, ne_eq, Nat.reduceEqDiff, not_false_eq_true, Nat.reduceLT, reduceCtorEq, g11] at q9
          exact q9
        refine G.callV (as := [.int x1, .int x2, .int x3]) (rest := []) (a := 53) oX10_goBy lk_EvenFinders_349 (by decide +kernel) rfl rfl ⟨rfl, rfl⟩ (Nat.le_of_ble_eq_true rfl) rfl ⟨Nat.le_of_ble_eq_true rfl, Nat.le_of_ble_eq_true rfl⟩ t17 (fun v9 N9 h18 => ?_) (fun E9 N9 h18 => by cases h18)
        cases h18
        show G z mX11_year (d + 7) 3 18 34 [some (.ref 0), some (.int x1), some (.int x2), some (.int x3), some (.int x4)] [] (mrow (mrow (mrow (mrow M 22 r13) 24 r14) 41 r15) 53 r16) Q
        refine G.sl [(.iload 4, 2, 4, 0, 0, 0)] [] (pc2 := 36) (ls2 := [some (.ref 0), some (.int x1), some (.int x2), some (.int x3), some (.int x4)]) (st2 := [.int x4]) (M2 := mrow (mrow (mrow (mrow M 22 r13) 24 r14) 41 r15) 53 r16) (Ps := []) (by decide +kernel) rfl rfl trivial ?_
        by_cases c19 : x4 = nI 0
        · skip
          refine G.tabIn (dflt := 60) (lo := 0) (hi := 2) (offs := #[28, 36, 44]) (len := 28) (off := 28) (tgt := 64) (by decide +kernel) (by rw [c19]; decide) (by rw [c19]; decide) (by rw [c19]; rfl) rfl ?_
          refine G.sl [(.aload_n 0, 1, 0, 0, 0, 0), (.getfield 97, 3, 10, 13, 119, 0), (.getfield 352, 3, 9, 0, 101, 0)] [] (pc2 := 71) (ls2 := [some (.ref 0), some (.int x1), some (.int x2), some (.int x3), some (.int x4)]) (st2 := [.int (r16 0)]) (M2 := mrow (mrow (mrow (mrow M 22 r13) 24 r14) 41 r15) 53 r16) (Ps := []) (by decide +kernel) rfl rfl trivial ?_
          exact G.reti (by decide +kernel) rfl rfl (Nat.le_of_ble_eq_true rfl) (Nat.le_of_ble_eq_true rfl) ((by rw [hQ]; simp only [e_year, if_pos c1, if_pos c4, if_pos c7, g11, if_pos c19, mrow_self]))
        · skip
          by_cases c20 : x4 = nI 1
          · skip
            refine G.tabIn (dflt := 60) (lo := 0) (hi := 2) (offs := #[28, 36, 44]) (len := 28) (off := 36) (tgt := 72) (by decide +kernel) (by rw [c20]; decide) (by rw [c20]; decide) (by rw [c20]; rfl) rfl ?_
            refine G.sl [(.aload_n 0, 1, 0, 0, 0, 0), (.getfield 64, 3, 10, 9, 115, 0)] [] (pc2 := 76) (ls2 := [some (.ref 0), some (.int x1), some (.int x2), some (.int x3), some (.int x4)]) (st2 := [.ref 40]) (M2 := mrow (mrow (mrow (mrow M 22 r13) 24 r14) 41 r15) 53 r16) (Ps := []) (by decide +kernel) rfl rfl trivial ?_
            have t22 : GM z mX1_heldByAll (d + 6) [.ref 40] (mrow (mrow (mrow (mrow M 22 r13) 24 r14) 41 r15) 53 r16) (fun rs => rs = .inl (some (.int (d_heldByAll r15 nt)), mrow (mrow (mrow (mrow M 22 r13) 24 r14) 41 r15) 53 r16)) := by
              have q9 := c_d_heldByAll_40 z (d + 5) (mrow (mrow (mrow (mrow M 22 r13) 24 r14) 41 r15) 53 r16) nt hnt ht
              try simp only [mput, mrow_same, mrow_hit, mrow_miss, mrow_sw, idr_eq, ne_eq, Nat.reduceEqDiff, not_false_eq_true, Nat.reduceLT, reduceCtorEq] at q9
              exact q9
            refine G.callV (as := []) (rest := []) (a := 40) oX1_heldByAll lk_EvenFinders_196 (by decide +kernel) rfl rfl ⟨rfl, rfl⟩ (Nat.le_of_ble_eq_true rfl) rfl ⟨Nat.le_of_ble_eq_true rfl, Nat.le_of_ble_eq_true rfl⟩ t22 (fun v9 N9 h23 => ?_) (fun E9 N9 h23 => by cases h23)
            cases h23
            show G z mX11_year (d + 7) 3 18 79 [some (.ref 0), some (.int x1), some (.int x2), some (.int x3), some (.int x4)] [.int (d_heldByAll r15 nt)] (mrow (mrow (mrow (mrow M 22 r13) 24 r14) 41 r15) 53 r16) Q
            exact G.reti (by decide +kernel) rfl rfl (Nat.le_of_ble_eq_true rfl) (Nat.le_of_ble_eq_true rfl) ((by rw [hQ]; simp only [e_year, if_pos c1, if_pos c4, if_pos c7, g11, if_neg c19, if_pos c20, mrow_self]))
          · skip
            by_cases c24 : x4 = nI 2
            · skip
              refine G.tabIn (dflt := 60) (lo := 0) (hi := 2) (offs := #[28, 36, 44]) (len := 28) (off := 44) (tgt := 80) (by decide +kernel) (by rw [c24]; decide) (by rw [c24]; decide) (by rw [c24]; rfl) rfl ?_
              refine G.sl [(.aload_n 0, 1, 0, 0, 0, 0), (.getfield 64, 3, 10, 9, 115, 0)] [] (pc2 := 84) (ls2 := [some (.ref 0), some (.int x1), some (.int x2), some (.int x3), some (.int x4)]) (st2 := [.ref 40]) (M2 := mrow (mrow (mrow (mrow M 22 r13) 24 r14) 41 r15) 53 r16) (Ps := []) (by decide +kernel) rfl rfl trivial ?_
              have t26 : GM z mX1_shames (d + 6) [.ref 40] (mrow (mrow (mrow (mrow M 22 r13) 24 r14) 41 r15) 53 r16) (fun rs => rs = .inl (some (.int (d_shames r15 nf)), mrow (mrow (mrow (mrow M 22 r13) 24 r14) 41 r15) 53 r16)) := by
                have q9 := c_d_shames_40 z (d + 6) (mrow (mrow (mrow (mrow M 22 r13) 24 r14) 41 r15) 53 r16) nf hnf hf
                try simp only [mput, mrow_same, mrow_hit, mrow_miss, mrow_sw, idr_eq, ne_eq, Nat.reduceEqDiff, not_false_eq_true, Nat.reduceLT, reduceCtorEq] at q9
                exact q9
              refine G.callV (as := []) (rest := []) (a := 40) oX1_shames lk_EvenFinders_209 (by decide +kernel) rfl rfl ⟨rfl, rfl⟩ (Nat.le_of_ble_eq_true rfl) rfl ⟨Nat.le_of_ble_eq_true rfl, Nat.le_of_ble_eq_true rfl⟩ t26 (fun v9 N9 h27 => ?_) (fun E9 N9 h27 => by cases h27)
              cases h27
              show G z mX11_year (d + 7) 3 18 87 [some (.ref 0), some (.int x1), some (.int x2), some (.int x3), some (.int x4)] [.int (d_shames r15 nf)] (mrow (mrow (mrow (mrow M 22 r13) 24 r14) 41 r15) 53 r16) Q
              refine G.sl [(.aload_n 0, 1, 0, 0, 0, 0), (.getfield 60, 3, 10, 8, 114, 0)] [] (pc2 := 91) (ls2 := [some (.ref 0), some (.int x1), some (.int x2), some (.int x3), some (.int x4)]) (st2 := [.ref 37, .int (d_shames r15 nf)]) (M2 := mrow (mrow (mrow (mrow M 22 r13) 24 r14) 41 r15) 53 r16) (Ps := []) (by decide +kernel) rfl rfl trivial ?_
              have t29 : GM z mX1_shames (d + 6) [.ref 37] (mrow (mrow (mrow (mrow M 22 r13) 24 r14) 41 r15) 53 r16) (fun rs => rs = .inl (some (.int (d_shames (M.1 38) nf)), mrow (mrow (mrow (mrow M 22 r13) 24 r14) 41 r15) 53 r16)) := by
                have q9 := c_d_shames_37 z (d + 6) (mrow (mrow (mrow (mrow M 22 r13) 24 r14) 41 r15) 53 r16) nf hnf hf
                try simp only [mput, mrow_same, mrow_hit, mrow_miss, mrow_sw, idr_eq, ne_eq, Nat.reduceEqDiff, not_false_eq_true, Nat.reduceLT, reduceCtorEq] at q9
                exact q9
              refine G.callV (as := []) (rest := [.int (d_shames r15 nf)]) (a := 37) oX1_shames lk_EvenFinders_209 (by decide +kernel) rfl rfl ⟨rfl, rfl⟩ (Nat.le_of_ble_eq_true rfl) rfl ⟨Nat.le_of_ble_eq_true rfl, Nat.le_of_ble_eq_true rfl⟩ t29 (fun v9 N9 h30 => ?_) (fun E9 N9 h30 => by cases h30)
              cases h30
              show G z mX11_year (d + 7) 3 18 94 [some (.ref 0), some (.int x1), some (.int x2), some (.int x3), some (.int x4)] [.int (d_shames (M.1 38) nf), .int (d_shames r15 nf)] (mrow (mrow (mrow (mrow M 22 r13) 24 r14) 41 r15) 53 r16) Q
              refine G.sl [(.isub, 1, 0, 0, 0, 0)] [] (pc2 := 95) (ls2 := [some (.ref 0), some (.int x1), some (.int x2), some (.int x3), some (.int x4)]) (st2 := [.int ((d_shames r15 nf) - (d_shames (M.1 38) nf))]) (M2 := mrow (mrow (mrow (mrow M 22 r13) 24 r14) 41 r15) 53 r16) (Ps := []) (by decide +kernel) rfl rfl trivial ?_
              exact G.reti (by decide +kernel) rfl rfl (Nat.le_of_ble_eq_true rfl) (Nat.le_of_ble_eq_true rfl) ((by rw [hQ]; simp only [e_year, if_pos c1, if_pos c4, if_pos c7, g11, if_neg c19, if_neg c20, if_pos c24, mrow_self]))
            · skip
              refine G.tabOut (dflt := 60) (lo := 0) (hi := 2) (offs := #[28, 36, 44]) (len := 28) (tgt := 96) (by decide +kernel) (by have q0 := toInt_ne c19; simp only [toInt_nI0] at q0; have q1 := toInt_ne c20; simp only [toInt_nI1] at q1; have q2 := toInt_ne c24; simp only [toInt_nI2] at q2; omega) rfl ?_
              refine G.sl [(.aload_n 0, 1, 0, 0, 0, 0), (.getfield 64, 3, 10, 9, 115, 0)] [] (pc2 := 100) (ls2 := [some (.ref 0), some (.int x1), some (.int x2), some (.int x3), some (.int x4)]) (st2 := [.ref 40]) (M2 := mrow (mrow (mrow (mrow M 22 r13) 24 r14) 41 r15) 53 r16) (Ps := []) (by decide +kernel) rfl rfl trivial ?_
              have t32 : GM z mX1_even (d + 6) [.ref 40] (mrow (mrow (mrow (mrow M 22 r13) 24 r14) 41 r15) 53 r16) (fun rs => rs = .inl (some (.int (d_even r15 nf)), mrow (mrow (mrow (mrow M 22 r13) 24 r14) 41 r15) 53 r16)) := by
                have q9 := c_d_even_40 z (d + 6) (mrow (mrow (mrow (mrow M 22 r13) 24 r14) 41 r15) 53 r16) nf hnf hf
                try simp only [mput, mrow_same, mrow_hit, mrow_miss, mrow_sw, idr_eq, ne_eq, Nat.reduceEqDiff, not_false_eq_true, Nat.reduceLT, reduceCtorEq] at q9
                exact q9
              refine G.callV (as := []) (rest := []) (a := 40) oX1_even lk_EvenFinders_200 (by decide +kernel) rfl rfl ⟨rfl, rfl⟩ (Nat.le_of_ble_eq_true rfl) rfl ⟨Nat.le_of_ble_eq_true rfl, Nat.le_of_ble_eq_true rfl⟩ t32 (fun v9 N9 h33 => ?_) (fun E9 N9 h33 => by cases h33)
              cases h33
              show G z mX11_year (d + 7) 3 18 103 [some (.ref 0), some (.int x1), some (.int x2), some (.int x3), some (.int x4)] [.int (d_even r15 nf)] (mrow (mrow (mrow (mrow M 22 r13) 24 r14) 41 r15) 53 r16) Q
              exact G.reti (by decide +kernel) rfl rfl (Nat.le_of_ble_eq_true rfl) (Nat.le_of_ble_eq_true rfl) ((by rw [hQ]; simp only [e_year, if_pos c1, if_pos c4, if_pos c7, g11, if_neg c19, if_neg c20, if_neg c24, mrow_self]))
      · skip
        rw [if_neg c7] at hk
        have t34 : GM z mX11_needWithin (d + 6) [.ref 0, .int x4, .int (nI 0), .int (nI 3)] M (fun rs => rs = .inr ("java/lang/IllegalArgumentException", mrow M 0 (upd (M.1 0) 16 ((M.1 0 16) + nI 1)))) := e_needWithin_b z d _ x4 (nI 0) (nI 3) c7
        refine G.callV (as := [.int x4, .int (nI 0), .int (nI 3)]) (rest := []) (a := 0) oX11_needWithin lk_EvenFinders_182 (by decide +kernel) rfl rfl ⟨rfl, rfl⟩ (Nat.le_of_ble_eq_true rfl) rfl ⟨Nat.le_of_ble_eq_true rfl, Nat.le_of_ble_eq_true rfl⟩ t34 (fun v9 N9 h9 => by cases h9) (fun E9 N9 h9 => ?_)
        cases h9
        rw [hQ]
        simp only [e_year, if_pos c1, if_pos c4, if_neg c7]
    · skip
      rw [if_neg c4] at hk
      have t35 : GM z mX11_needWithin (d + 6) [.ref 0, .int x3, .int (nI 1), .int (nI 96)] M (fun rs => rs = .inr ("java/lang/IllegalArgumentException", mrow M 0 (upd (M.1 0) 16 ((M.1 0 16) + nI 1)))) := e_needWithin_b z d _ x3 (nI 1) (nI 96) c4
      refine G.callV (as := [.int x3, .int (nI 1), .int (nI 96)]) (rest := []) (a := 0) oX11_needWithin lk_EvenFinders_182 (by decide +kernel) rfl rfl ⟨rfl, rfl⟩ (Nat.le_of_ble_eq_true rfl) rfl ⟨Nat.le_of_ble_eq_true rfl, Nat.le_of_ble_eq_true rfl⟩ t35 (fun v9 N9 h9 => by cases h9) (fun E9 N9 h9 => ?_)
      cases h9
      rw [hQ]
      simp only [e_year, if_pos c1, if_neg c4]
  · skip
    rw [if_neg c1] at hk
    have t36 : GM z mX11_needWithin (d + 6) [.ref 0, .int x2, .int (nI 0), .int (nI 16)] M (fun rs => rs = .inr ("java/lang/IllegalArgumentException", mrow M 0 (upd (M.1 0) 16 ((M.1 0 16) + nI 1)))) := e_needWithin_b z d _ x2 (nI 0) (nI 16) c1
    refine G.callV (as := [.int x2, .int (nI 0), .int (nI 16)]) (rest := []) (a := 0) oX11_needWithin lk_EvenFinders_182 (by decide +kernel) rfl rfl ⟨rfl, rfl⟩ (Nat.le_of_ble_eq_true rfl) rfl ⟨Nat.le_of_ble_eq_true rfl, Nat.le_of_ble_eq_true rfl⟩ t36 (fun v9 N9 h9 => by cases h9) (fun E9 N9 h9 => ?_)
    cases h9
    rw [hQ]
    simp only [e_year, if_neg c1]
set_option maxHeartbeats 4000000 in
set_option maxRecDepth 3000 in
theorem lp_e_span_0_63 (z : Zp) (d : Nat) (M : Mem) (Q : Rs → Prop) (x1 : Int32) (x2 : Int32) (x3 : Int32) (x4 : Int32) (x5 : Int32) (x6 : Int32) (nr : Nat) (hnr : nr ≤ 12) (hr : M.1 3 1 = nI nr) (nt : Nat) (hnt : nt ≤ 10) (ht : M.1 3 2 = nI nt) (nf : Nat) (hnf : nf ≤ 6) (hf : M.1 3 3 = nI nf) : ∀ (k0 : Nat) (s7 : Int32) (s8 : Int32) (s9 : Int32) (s10 : Int32) (q22 : (Nat → Int32)) (q24 : (Nat → Int32)) (q41 : (Nat → Int32)) (q53 : (Nat → Int32)), e_span_63_ok (M.1 4) (M.1 5) (M.1 6) (M.1 7) (M.1 21) (M.1 23) (M.1 38) nr nt nf x1 x2 x3 x4 x5 x6 k0 s7 s8 s9 s10 q22 q24 q41 q53 → (match e_span_63 (M.1 4) (M.1 5) (M.1 6) (M.1 7) (M.1 21) (M.1 23) (M.1 38) nr nt nf x1 x2 x3 x4 x5 x6 k0 s7 s8 s9 s10 q22 q24 q41 q53 with | (s7', s8', s9', s10', q22', q24', q41', q53') => G z mX11_span (d + 7) 5 30 136 [none, none, none, none, none, some (.int x5), none, some (.int (s7')), some (.int (s8')), some (.int (s9')), none] [] (mrow (mrow (mrow (mrow M 22 (q22')) 24 (q24')) 41 (q41')) 53 (q53')) Q) → G z mX11_span (d + 7) 5 30 63 [some (.ref 0), some (.int x1), some (.int x2), some (.int x3), some (.int x4), some (.int x5), some (.int x6), some (.int s7), some (.int s8), some (.int s9), some (.int s10)] [] (mrow (mrow (mrow (mrow M 22 q22) 24 q24) 41 q41) 53 q53) Q := by
  intro k0
  induction k0 with
  | zero =>
      intro s7 s8 s9 s10 q22 q24 q41 q53 hk hX
      exact (by simpa only [e_span_63_ok] using hk : False).elim
  | succ k0 ih =>
      intro s7 s8 s9 s10 q22 q24 q41 q53 hk hX
      simp only [e_span_63_ok] at hk
      refine G.sl [(.iload 10, 2, 10, 0, 0, 0), (.iload_n 2, 1, 2, 0, 0, 0)] [] (pc2 := 66) (ls2 := [some (.ref 0), some (.int x1), some (.int x2), some (.int x3), some (.int x4), some (.int x5), some (.int x6), some (.int s7), some (.int s8), some (.int s9), some (.int s10)]) (st2 := [.int x2, .int s10]) (M2 := mrow (mrow (mrow (mrow M 22 q22) 24 q24) 41 q41) 53 q53) (Ps := []) (by decide +kernel) rfl rfl trivial ?_
      refine G.ic_ge (off := (70)) (tgt := 136) (by decide +kernel) rfl (fun c16 => ?_) (fun c16 => ?_)
      · skip
        rw [if_pos c16] at hk
        refine G.loc (ls2 := [none, none, none, none, none, some (.int x5), none, some (.int s7), some (.int s8), some (.int s9), none]) (by simp [subL]) ?_
        simp only [e_span_63, if_pos c16] at hX
        exact hX
      · skip
        rw [if_neg c16] at hk
        refine G.sl [(.aload_n 0, 1, 0, 0, 0, 0), (.getfield 97, 3, 10, 13, 119, 0), (.iload_n 1, 1, 1, 0, 0, 0), (.iload 10, 2, 10, 0, 0, 0), (.iadd, 1, 0, 0, 0, 0), (.iload_n 3, 1, 3, 0, 0, 0), (.iload 4, 2, 4, 0, 0, 0)] [] (pc2 := 80) (ls2 := [some (.ref 0), some (.int x1), some (.int x2), some (.int x3), some (.int x4), some (.int x5), some (.int x6), some (.int s7), some (.int s8), some (.int s9), some (.int s10)]) (st2 := [.int x4, .int x3, .int (x1 + s10), .ref 53]) (M2 := mrow (mrow (mrow (mrow M 22 q22) 24 q24) 41 q41) 53 q53) (Ps := []) (by decide +kernel) rfl rfl trivial ?_
        obtain ⟨k17, hk⟩ := hk
        rcases g18 : y_goBy (M.1 4) (M.1 5) (M.1 6) (M.1 7) (M.1 21) q22 (M.1 23) q24 (M.1 38) q41 q53 nr nt nf (x1 + s10) x3 x4 with ⟨u19, r20, r21, r22, r23⟩
        try simp only [g18] at hk
        have t24 : GM z mX10_goBy (d + 6) [.ref 53, .int (x1 + s10), .int x3, .int x4] (mrow (mrow (mrow (mrow M 22 q22) 24 q24) 41 q41) 53 q53) (fun rs => rs = .inl (none, mrow (mrow (mrow (mrow M 22 r20) 24 r21) 41 r22) 53 r23)) := by
          have q9 := c_y_goBy_53 z (d + 1) (mrow (mrow (mrow (mrow M 22 q22) 24 q24) 41 q41) 53 q53) (x1 + s10) x3 x4 nr hnr hr nt hnt ht nf hnf hf k17
          try simp only [mput, mrow_same, mrow_hit, mrow_miss, mrow_sw, idr_eq, ne_eq, Nat.reduceEqDiff, not_false_eq_true, Nat.reduceLT, reduceCtorEq, g18] at q9
          exact q9
        refine G.callV (as := [.int (x1 + s10), .int x3, .int x4]) (rest := []) (a := 53) oX10_goBy lk_EvenFinders_349 (by decide +kernel) rfl rfl ⟨rfl, rfl⟩ (Nat.le_of_ble_eq_true rfl) rfl ⟨Nat.le_of_ble_eq_true rfl, Nat.le_of_ble_eq_true rfl⟩ t24 (fun v9 N9 h25 => ?_) (fun E9 N9 h25 => by cases h25)
        cases h25
        show G z mX11_span (d + 7) 5 30 83 [some (.ref 0), some (.int x1), some (.int x2), some (.int x3), some (.int x4), some (.int x5), some (.int x6), some (.int s7), some (.int s8), some (.int s9), some (.int s10)] [] (mrow (mrow (mrow (mrow M 22 r20) 24 r21) 41 r22) 53 r23) Q
        refine G.sl [(.iload 7, 2, 7, 0, 0, 0), (.aload_n 0, 1, 0, 0, 0, 0), (.getfield 97, 3, 10, 13, 119, 0), (.getfield 352, 3, 9, 0, 101, 0)] [] (pc2 := 92) (ls2 := [some (.ref 0), some (.int x1), some (.int x2), some (.int x3), some (.int x4), some (.int x5), some (.int x6), some (.int s7), some (.int s8), some (.int s9), some (.int s10)]) (st2 := [.int (r23 0), .int s7]) (M2 := mrow (mrow (mrow (mrow M 22 r20) 24 r21) 41 r22) 53 r23) (Ps := []) (by decide +kernel) rfl rfl trivial ?_
        refine G.mmin lm_EvenFinders_356 (by decide +kernel) (Nat.le_of_ble_eq_true rfl) (Nat.le_of_ble_eq_true rfl) (Nat.le_of_ble_eq_true rfl) ?_
        refine G.sl [(.istore 7, 2, 7, 0, 0, 0), (.iload 8, 2, 8, 0, 0, 0), (.aload_n 0, 1, 0, 0, 0, 0), (.getfield 97, 3, 10, 13, 119, 0), (.getfield 352, 3, 9, 0, 101, 0)] [] (pc2 := 106) (ls2 := [some (.ref 0), some (.int x1), some (.int x2), some (.int x3), some (.int x4), some (.int x5), some (.int x6), some (.int (if (r23 0) < s7 then (r23 0) else s7)), some (.int s8), some (.int s9), some (.int s10)]) (st2 := [.int (r23 0), .int s8]) (M2 := mrow (mrow (mrow (mrow M 22 r20) 24 r21) 41 r22) 53 r23) (Ps := []) (by decide +kernel) rfl rfl trivial ?_
        refine G.mmax lm_EvenFinders_338 (by decide +kernel) (Nat.le_of_ble_eq_true rfl) (Nat.le_of_ble_eq_true rfl) (Nat.le_of_ble_eq_true rfl) ?_
        obtain ⟨k26, k27, hk⟩ := hk
        refine G.sl [(.istore 8, 2, 8, 0, 0, 0), (.aload_n 0, 1, 0, 0, 0, 0), (.getfield 64, 3, 10, 9, 115, 0), (.getfield 192, 3, 1, 0, 77, 0), (.bipush 7, 2, 0, 0, 0, nI 7), (.iload 6, 2, 6, 0, 0, 0), (.iadd, 1, 0, 0, 0, 0), (.iaload, 1, 0, 0, 0, 0)] [7 + (ix x6)] (pc2 := 124) (ls2 := [some (.ref 0), some (.int x1), some (.int x2), some (.int x3), some (.int x4), some (.int x5), some (.int x6), some (.int (if (r23 0) < s7 then (r23 0) else s7)), some (.int (if s8 < (r23 0) then (r23 0) else s8)), some (.int s9), some (.int s10)]) (st2 := [.int (r22 (7 + (ix x6)))]) (M2 := mrow (mrow (mrow (mrow M 22 r20) 24 r21) 41 r22) 53 r23) (Ps := [((nI 7) + x6) = nI (7 + (ix x6)) ∧ (7 + (ix x6)) < 51]) (by decide +kernel) rfl rfl ⟨⟨(nAdd rfl (ixE k26)), k27⟩, trivial⟩ ?_
        refine G.if_ne (off := (6)) (tgt := 130) (by decide +kernel) rfl (fun c28 => ?_) (fun c28 => ?_)
        · skip
          rw [if_neg c28] at hk
          refine G.sl [(.iinc 10 1, 3, 10, 0, 0, nI 1), (.goto (-70), 3, 63, 0, 0, 0)] [] (pc2 := 63) (ls2 := [some (.ref 0), some (.int x1), some (.int x2), some (.int x3), some (.int x4), some (.int x5), some (.int x6), some (.int (if (r23 0) < s7 then (r23 0) else s7)), some (.int (if s8 < (r23 0) then (r23 0) else s8)), some (.int s9), some (.int (s10 + nI 1))]) (st2 := []) (M2 := mrow (mrow (mrow (mrow M 22 r20) 24 r21) 41 r22) 53 r23) (Ps := []) (by decide +kernel) rfl rfl trivial ?_
          simp only [e_span_63, if_neg c16, g18, if_neg c28] at hX
          exact ih (if (r23 0) < s7 then (r23 0) else s7) (if s8 < (r23 0) then (r23 0) else s8) s9 (s10 + nI 1) r20 r21 r22 r23 hk hX
        · skip
          rw [if_pos c28] at hk
          refine G.sl [(.iinc 9 1, 3, 9, 0, 0, nI 1), (.iinc 10 1, 3, 10, 0, 0, nI 1), (.goto (-70), 3, 63, 0, 0, 0)] [] (pc2 := 63) (ls2 := [some (.ref 0), some (.int x1), some (.int x2), some (.int x3), some (.int x4), some (.int x5), some (.int x6), some (.int (if (r23 0) < s7 then (r23 0) else s7)), some (.int (if s8 < (r23 0) then (r23 0) else s8)), some (.int (s9 + nI 1)), some (.int (s10 + nI 1))]) (st2 := []) (M2 := mrow (mrow (mrow (mrow M 22 r20) 24 r21) 41 r22) 53 r23) (Ps := []) (by decide +kernel) rfl rfl trivial ?_
          simp only [e_span_63, if_neg c16, g18, if_pos c28] at hX
          exact ih (if (r23 0) < s7 then (r23 0) else s7) (if s8 < (r23 0) then (r23 0) else s8) (s9 + nI 1) (s10 + nI 1) r20 r21 r22 r23 hk hX
