set_option maxHeartbeats 4000000 in
set_option maxRecDepth 3000 in
theorem c_k_draws_54 (z : Zp) (d : Nat) (M : Mem) (x1 : Int32) (hk : k_draws_ok (M.1 54) x1) : GM z mX12_draws (d) [.ref 54, .int x1] M (fun rs => rs = .inl (some (.int ((k_draws (M.1 54) x1).1)), mrow M 54 ((k_draws (M.1 54) x1).2))) := by
  simp only [k_draws_ok] at hk
  refine GM.of oX12_draws.1 (Nat.le_of_ble_eq_true rfl) ?_
  show G z mX12_draws (d) 0 0 0 [some (.ref 54), some (.int x1)] [] M _
  obtain ⟨Q, hQ⟩ : ∃ Q : Rs → Prop, Q = (fun rs => rs = .inl (some (.int ((k_draws (M.1 54) x1).1)), mrow M 54 ((k_draws (M.1 54) x1).2))) := ⟨_, rfl⟩
  rw [← hQ]
  obtain ⟨k1, hk⟩ := hk
  refine G.sl [(.aload_n 0, 1, 0, 0, 0, 0), (.aload_n 0, 1, 0, 0, 0, 0), (.getfield 432, 3, 11, 49, 172, 0), (.ldc_w 435, 3, 0, 0, 8, nI 1103515245), (.imul, 1, 0, 0, 0, 0), (.sipush 12345, 3, 0, 0, 0, nI 12345), (.iadd, 1, 0, 0, 0, 0), (.putfield 432, 3, 11, 49, 172, 0), (.aload_n 0, 1, 0, 0, 0, 0), (.getfield 432, 3, 11, 49, 172, 0), (.bipush 16, 2, 0, 0, 0, nI 16), (.ishr, 1, 0, 0, 0, 0), (.sipush 32767, 3, 0, 0, 0, nI 32767), (.iand, 1, 0, 0, 0, 0), (.iload_n 1, 1, 1, 0, 0, 0), (.irem, 1, 0, 0, 0, 0)] [] (pc2 := 29) (ls2 := [some (.ref 54), some (.int x1)]) (st2 := [.int ((((((M.1 54 49) * (nI 1103515245)) + (nI 12345)) >>> ((nI 16) &&& 31)) &&& (nI 32767)) - (((((M.1 54 49) * (nI 1103515245)) + (nI 12345)) >>> ((nI 16) &&& 31)) &&& (nI 32767)) / x1 * x1)]) (M2 := mput M 54 49 (((M.1 54 49) * (nI 1103515245)) + (nI 12345))) (Ps := [¬ x1 = 0]) (by decide +kernel) rfl rfl ⟨k1, trivial⟩ ?_
  refine G.mem (M' := mrow M 54 (upd (M.1 54) 49 (((M.1 54 49) * (nI 1103515245)) + (nI 12345)))) (by first | rfl | (simp only [mput, mrow_same, mrow_hit, mrow_miss, mrow_sw, idr_eq, ne_eq, Nat.reduceEqDiff, not_false_eq_true, Nat.reduceLT, reduceCtorEq]; done)) ?_
  exact G.reti (by decide +kernel) rfl rfl (Nat.le_of_ble_eq_true rfl) (Nat.le_of_ble_eq_true rfl) ((by rw [hQ]; simp only [k_draws, mrow_self]))
set_option maxHeartbeats 4000000 in
set_option maxRecDepth 3000 in
theorem lp_k_walks_54_121 (z : Zp) (d : Nat) (M : Mem) (Q : Rs → Prop) (n1 : Nat) (nt : Nat) (hnt : nt ≤ 10) (ct : M.1 54 22 = nI nt) (b1 : n1 < 6) (hX : G z mX12_walks (d) 0 0 168 [none, none, none, none, none, none, none] [] (mrow M 72 (k_walks_121 (M.1 72) n1 nt)) Q) : G z mX12_walks (d) 0 0 121 [some (.ref 54), some (.int (nI n1)), none, none, none, none, some (.int (nI 0))] [] M Q := by
  refine G.mem (M' := mrow M 72 (M.1 72)) (by simp only [mrow_self]) ?_
  refine down (n := nt) (P := fun i6 => G z mX12_walks (d) 0 0 121 [some (.ref 54), some (.int (nI n1)), none, none, none, none, some (.int (nI i6))] [] (mrow M 72 (k_walks_121 (M.1 72) n1 i6)) Q) ?_ ?_ 0 (Nat.zero_le _)
  · skip
    refine G.sl [(.iload 6, 2, 6, 0, 0, 0), (.aload_n 0, 1, 0, 0, 0, 0), (.getfield 162, 3, 11, 22, 145, 0)] [] (pc2 := 127) (ls2 := [some (.ref 54), some (.int (nI n1)), none, none, none, none, some (.int (nI nt))]) (st2 := [.int (M.1 54 22), .int (nI nt)]) (M2 := mrow M 72 (k_walks_121 (M.1 72) n1 nt)) (Ps := []) (by decide +kernel) rfl rfl trivial ?_
    rw [ct]
    refine G.ic_ge (off := (41)) (tgt := 168) (by decide +kernel) rfl (fun _ => ?_) (fun h9 => absurd (nI_le (by omega) (by omega)) h9)
    refine G.loc (ls2 := [none, none, none, none, none, none, none]) (by simp [subL]) ?_
    exact hX
  · skip
    intro i6 hi ih
    show G z mX12_walks (d) 0 0 121 [some (.ref 54), some (.int (nI n1)), none, none, none, none, some (.int (nI i6))] [] (mrow M 72 (k_walks_121 (M.1 72) n1 i6)) Q
    refine G.sl [(.iload 6, 2, 6, 0, 0, 0), (.aload_n 0, 1, 0, 0, 0, 0), (.getfield 162, 3, 11, 22, 145, 0)] [] (pc2 := 127) (ls2 := [some (.ref 54), some (.int (nI n1)), none, none, none, none, some (.int (nI i6))]) (st2 := [.int (M.1 54 22), .int (nI i6)]) (M2 := mrow M 72 (k_walks_121 (M.1 72) n1 i6)) (Ps := []) (by decide +kernel) rfl rfl trivial ?_
    rw [ct]
    refine G.ic_ge (off := (41)) (tgt := 168) (by decide +kernel) rfl (fun h9 => absurd h9 (nI_ge (by omega) (by omega))) (fun _ => ?_)
    refine G.sl [(.aload_n 0, 1, 0, 0, 0, 0), (.getfield 68, 3, 11, 41, 164, 0), (.bipush 10, 2, 0, 0, 0, nI 10), (.iload 6, 2, 6, 0, 0, 0), (.iadd, 1, 0, 0, 0, 0), (.iaload, 1, 0, 0, 0, 0), (.iload_n 1, 1, 1, 0, 0, 0)] [10 + i6] (pc2 := 141) (ls2 := [some (.ref 54), some (.int (nI n1)), none, none, none, none, some (.int (nI i6))]) (st2 := [.int (nI n1), .int ((k_walks_121 (M.1 72) n1 i6) (10 + i6))]) (M2 := mrow M 72 (k_walks_121 (M.1 72) n1 i6)) (Ps := [((nI 10) + (nI i6)) = nI (10 + i6) ∧ (10 + i6) < 51]) (by decide +kernel) rfl rfl ⟨⟨(nI_add _ _), (by omega)⟩, trivial⟩ ?_
    refine G.ic_ne (off := (21)) (tgt := 162) (by decide +kernel) rfl (fun c3 => ?_) (fun c3 => ?_)
    · skip
      refine G.sl [(.iinc 6 1, 3, 6, 0, 0, nI 1), (.goto (-44), 3, 121, 0, 0, 0)] [] (pc2 := 121) (ls2 := [some (.ref 54), some (.int (nI n1)), none, none, none, none, some (.int ((nI i6) + nI 1))]) (st2 := []) (M2 := mrow M 72 (k_walks_121 (M.1 72) n1 i6)) (Ps := []) (by decide +kernel) rfl rfl trivial ?_
      rw [nI_add i6 1]
      simp only [k_walks_121, if_neg c3] at ih
      exact ih
    · skip
      refine G.sl [(.aload_n 0, 1, 0, 0, 0, 0), (.getfield 68, 3, 11, 41, 164, 0), (.iconst 0, 1, 0, 0, 0, nI 0), (.iload 6, 2, 6, 0, 0, 0), (.iadd, 1, 0, 0, 0, 0), (.aload_n 0, 1, 0, 0, 0, 0), (.getfield 68, 3, 11, 41, 164, 0), (.bipush 20, 2, 0, 0, 0, nI 20), (.iload_n 1, 1, 1, 0, 0, 0), (.iadd, 1, 0, 0, 0, 0), (.iaload, 1, 0, 0, 0, 0), (.iastore, 1, 0, 0, 0, 0), (.iinc 6 1, 3, 6, 0, 0, nI 1), (.goto (-44), 3, 121, 0, 0, 0)] [20 + n1, 0 + i6] (pc2 := 121) (ls2 := [some (.ref 54), some (.int (nI n1)), none, none, none, none, some (.int ((nI i6) + nI 1))]) (st2 := []) (M2 := mput (mrow M 72 (k_walks_121 (M.1 72) n1 i6)) 72 (0 + i6) ((k_walks_121 (M.1 72) n1 i6) (20 + n1))) (Ps := [((nI 20) + (nI n1)) = nI (20 + n1) ∧ (20 + n1) < 51, ((nI 0) + (nI i6)) = nI (0 + i6) ∧ (0 + i6) < 51]) (by decide +kernel) rfl rfl ⟨⟨(nI_add _ _), (by omega)⟩, ⟨(nI_add _ _), (by omega)⟩, trivial⟩ ?_
      refine G.mem (M' := mrow M 72 (upd (k_walks_121 (M.1 72) n1 i6) (0 + i6) ((k_walks_121 (M.1 72) n1 i6) (20 + n1)))) (by first | rfl | (simp only [mput, mrow_same, mrow_hit, mrow_miss, mrow_sw, idr_eq, ne_eq, Nat.reduceEqDiff, not_false_eq_true, Nat.reduceLT, reduceCtorEq]; done)) ?_
      rw [nI_add i6 1]
      simp only [k_walks_121, if_pos c3] at ih
      exact ih
theorem k_walks_01 (Rroad Rs : Nat → Int32) (nt : Nat) (n1 : Nat) (n2 : Nat) : (k_walks Rroad Rs nt n1 n2).1 = 0 ∨ (k_walks Rroad Rs nt n1 n2).1 = 1 := by
  unfold k_walks
  repeat' split
  all_goals first | exact Or.inl rfl | exact Or.inr rfl
set_option maxHeartbeats 4000000 in
set_option maxRecDepth 3000 in
theorem c_k_walks_54 (z : Zp) (d : Nat) (M : Mem) (n1 : Nat) (n2 : Nat) (nt : Nat) (hnt : nt ≤ 10) (ct : M.1 54 22 = nI nt) (b1 : n1 < 6) (b2 : n2 < 12) : GM z mX12_walks (d) [.ref 54, .int (nI n1), .int (nI n2)] M (fun rs => rs = .inl (some (.int ((k_walks (M.1 60) (M.1 72) nt n1 n2).1)), mrow M 72 ((k_walks (M.1 60) (M.1 72) nt n1 n2).2))) := by
  refine GM.of oX12_walks.1 (Nat.le_of_ble_eq_true rfl) ?_
  show G z mX12_walks (d) 0 0 0 [some (.ref 54), some (.int (nI n1)), some (.int (nI n2)), none, none, none, none] [] M _
  obtain ⟨Q, hQ⟩ : ∃ Q : Rs → Prop, Q = (fun rs => rs = .inl (some (.int ((k_walks (M.1 60) (M.1 72) nt n1 n2).1)), mrow M 72 ((k_walks (M.1 60) (M.1 72) nt n1 n2).2))) := ⟨_, rfl⟩
  rw [← hQ]
  refine G.sl [(.aload_n 0, 1, 0, 0, 0, 0), (.getfield 32, 3, 11, 13, 136, 0), (.iconst 3, 1, 0, 0, 0, nI 3), (.iload_n 2, 1, 2, 0, 0, 0), (.imul, 1, 0, 0, 0, 0), (.iaload, 1, 0, 0, 0, 0), (.istore_n 3, 1, 3, 0, 0, 0), (.aload_n 0, 1, 0, 0, 0, 0), (.getfield 32, 3, 11, 13, 136, 0), (.iconst 3, 1, 0, 0, 0, nI 3), (.iload_n 2, 1, 2, 0, 0, 0), (.imul, 1, 0, 0, 0, 0), (.iconst 1, 1, 0, 0, 0, nI 1), (.iadd, 1, 0, 0, 0, 0), (.iaload, 1, 0, 0, 0, 0), (.istore 4, 2, 4, 0, 0, 0), (.aload_n 0, 1, 0, 0, 0, 0), (.getfield 68, 3, 11, 41, 164, 0), (.bipush 32, 2, 0, 0, 0, nI 32), (.iload_n 1, 1, 1, 0, 0, 0), (.iadd, 1, 0, 0, 0, 0), (.iaload, 1, 0, 0, 0, 0), (.aload_n 0, 1, 0, 0, 0, 0), (.getfield 32, 3, 11, 13, 136, 0), (.iconst 3, 1, 0, 0, 0, nI 3), (.iload_n 2, 1, 2, 0, 0, 0), (.imul, 1, 0, 0, 0, 0), (.iconst 2, 1, 0, 0, 0, nI 2), (.iadd, 1, 0, 0, 0, 0), (.iaload, 1, 0, 0, 0, 0), (.iadd, 1, 0, 0, 0, 0), (.istore 5, 2, 5, 0, 0, 0), (.aload_n 0, 1, 0, 0, 0, 0), (.getfield 68, 3, 11, 41, 164, 0), (.bipush 20, 2, 0, 0, 0, nI 20), (.iload_n 1, 1, 1, 0, 0, 0), (.iadd, 1, 0, 0, 0, 0), (.iaload, 1, 0, 0, 0, 0), (.iload_n 3, 1, 3, 0, 0, 0)] [3 * n2, (3 * n2) + 1, 32 + n1, (3 * n2) + 2, 20 + n1] (pc2 := 53) (ls2 := [some (.ref 54), some (.int (nI n1)), some (.int (nI n2)), some (.int (M.1 60 (3 * n2))), some (.int (M.1 60 ((3 * n2) + 1))), some (.int ((M.1 72 (32 + n1)) + (M.1 60 ((3 * n2) + 2)))), none]) (st2 := [.int (M.1 60 (3 * n2)), .int (M.1 72 (20 + n1))]) (M2 := M) (Ps := [((nI 3) * (nI n2)) = nI (3 * n2) ∧ (3 * n2) < 36, (((nI 3) * (nI n2)) + (nI 1)) = nI ((3 * n2) + 1) ∧ ((3 * n2) + 1) < 36, ((nI 32) + (nI n1)) = nI (32 + n1) ∧ (32 + n1) < 51, (((nI 3) * (nI n2)) + (nI 2)) = nI ((3 * n2) + 2) ∧ ((3 * n2) + 2) < 36, ((nI 20) + (nI n1)) = nI (20 + n1) ∧ (20 + n1) < 51]) (by decide +kernel) rfl rfl ⟨⟨(pk_mul _ _), (by omega)⟩, ⟨(nAdd (pk_mul _ _) rfl), (by omega)⟩, ⟨(nI_add _ _), (by omega)⟩, ⟨(nAdd (pk_mul _ _) rfl), (by omega)⟩, ⟨(nI_add _ _), (by omega)⟩, trivial⟩ ?_
  refine G.ic_eq (off := (17)) (tgt := 70) (by decide +kernel) rfl (fun c1 => ?_) (fun c1 => ?_)
  · skip
    refine G.sl [(.iload 5, 2, 5, 0, 0, 0), (.bipush 24, 2, 0, 0, 0, nI 24)] [] (pc2 := 74) (ls2 := [some (.ref 54), some (.int (nI n1)), some (.int (nI n2)), some (.int (M.1 60 (3 * n2))), some (.int (M.1 60 ((3 * n2) + 1))), some (.int ((M.1 72 (32 + n1)) + (M.1 60 ((3 * n2) + 2)))), none]) (st2 := [.int (nI 24), .int ((M.1 72 (32 + n1)) + (M.1 60 ((3 * n2) + 2)))]) (M2 := M) (Ps := []) (by decide +kernel) rfl rfl trivial ?_
    refine G.ic_le (off := (5)) (tgt := 79) (by decide +kernel) rfl (fun c2 => ?_) (fun c2 => ?_)
    · skip
      refine G.sl [(.aload_n 0, 1, 0, 0, 0, 0), (.getfield 68, 3, 11, 41, 164, 0), (.bipush 20, 2, 0, 0, 0, nI 20), (.iload_n 1, 1, 1, 0, 0, 0), (.iadd, 1, 0, 0, 0, 0), (.aload_n 0, 1, 0, 0, 0, 0), (.getfield 68, 3, 11, 41, 164, 0), (.bipush 20, 2, 0, 0, 0, nI 20), (.iload_n 1, 1, 1, 0, 0, 0), (.iadd, 1, 0, 0, 0, 0), (.iaload, 1, 0, 0, 0, 0), (.iload_n 3, 1, 3, 0, 0, 0)] [20 + n1] (pc2 := 97) (ls2 := [some (.ref 54), some (.int (nI n1)), some (.int (nI n2)), some (.int (M.1 60 (3 * n2))), some (.int (M.1 60 ((3 * n2) + 1))), some (.int ((M.1 72 (32 + n1)) + (M.1 60 ((3 * n2) + 2)))), none]) (st2 := [.int (M.1 60 (3 * n2)), .int (M.1 72 (20 + n1)), .int ((nI 20) + (nI n1)), .ref 72]) (M2 := M) (Ps := [((nI 20) + (nI n1)) = nI (20 + n1) ∧ (20 + n1) < 51]) (by decide +kernel) rfl rfl ⟨⟨(nI_add _ _), (by omega)⟩, trivial⟩ ?_
      refine G.ic_ne (off := (8)) (tgt := 105) (by decide +kernel) rfl (fun h9 => absurd c1 h9) (fun _ => ?_)
      refine G.sl [(.iload 4, 2, 4, 0, 0, 0), (.goto 4, 3, 106, 0, 0, 0), (.iastore, 1, 0, 0, 0, 0), (.aload_n 0, 1, 0, 0, 0, 0), (.getfield 68, 3, 11, 41, 164, 0), (.bipush 32, 2, 0, 0, 0, nI 32), (.iload_n 1, 1, 1, 0, 0, 0), (.iadd, 1, 0, 0, 0, 0), (.iload 5, 2, 5, 0, 0, 0), (.iastore, 1, 0, 0, 0, 0), (.iconst 0, 1, 0, 0, 0, nI 0), (.istore 6, 2, 6, 0, 0, 0)] [20 + n1, 32 + n1] (pc2 := 121) (ls2 := [some (.ref 54), some (.int (nI n1)), some (.int (nI n2)), some (.int (M.1 60 (3 * n2))), some (.int (M.1 60 ((3 * n2) + 1))), some (.int ((M.1 72 (32 + n1)) + (M.1 60 ((3 * n2) + 2)))), some (.int (nI 0))]) (st2 := []) (M2 := mput (mput M 72 (20 + n1) (M.1 60 ((3 * n2) + 1))) 72 (32 + n1) ((M.1 72 (32 + n1)) + (M.1 60 ((3 * n2) + 2)))) (Ps := [((nI 20) + (nI n1)) = nI (20 + n1) ∧ (20 + n1) < 51, ((nI 32) + (nI n1)) = nI (32 + n1) ∧ (32 + n1) < 51]) (by decide +kernel) rfl rfl ⟨⟨(nI_add _ _), (by omega)⟩, ⟨(nI_add _ _), (by omega)⟩, trivial⟩ ?_
      refine G.mem (M' := mrow M 72 (upd (upd (M.1 72) (20 + n1) (M.1 60 ((3 * n2) + 1))) (32 + n1) ((M.1 72 (32 + n1)) + (M.1 60 ((3 * n2) + 2))))) (by first | rfl | (simp only [mput, mrow_same, mrow_hit, mrow_miss, mrow_sw, idr_eq, ne_eq, Nat.reduceEqDiff, not_false_eq_true, Nat.reduceLT, reduceCtorEq]; done)) ?_
      refine G.loc (ls2 := [some (.ref 54), some (.int (nI n1)), none, none, none, none, some (.int (nI 0))]) (by simp [subL]) ?_
      refine lp_k_walks_54_121 z d (mrow M 72 (upd (upd (M.1 72) (20 + n1) (M.1 60 ((3 * n2) + 1))) (32 + n1) ((M.1 72 (32 + n1)) + (M.1 60 ((3 * n2) + 2))))) Q n1 nt hnt ct (by omega) ?_
      try simp only [mput, mrow_same, mrow_hit, mrow_miss, mrow_sw, idr_eq, ne_eq, Nat.reduceEqDiff, not_false_eq_true, Nat.reduceLT, reduceCtorEq]
      show G z mX12_walks (d) 0 0 168 [none, none, none, none, none, none, none] [] (mrow M 72 (k_walks_121 (upd (upd (M.1 72) (20 + n1) (M.1 60 ((3 * n2) + 1))) (32 + n1) ((M.1 72 (32 + n1)) + (M.1 60 ((3 * n2) + 2)))) n1 nt)) Q
      refine G.sl [(.iconst 1, 1, 0, 0, 0, nI 1)] [] (pc2 := 169) (ls2 := [none, none, none, none, none, none, none]) (st2 := [.int (nI 1)]) (M2 := mrow M 72 (k_walks_121 (upd (upd (M.1 72) (20 + n1) (M.1 60 ((3 * n2) + 1))) (32 + n1) ((M.1 72 (32 + n1)) + (M.1 60 ((3 * n2) + 2)))) n1 nt)) (Ps := []) (by decide +kernel) rfl rfl trivial ?_
      exact G.reti (by decide +kernel) rfl rfl (Nat.le_of_ble_eq_true rfl) (Nat.le_of_ble_eq_true rfl) ((by rw [hQ]; simp only [k_walks, if_pos c1, if_pos c2, mrow_self]))
    · skip
      refine G.sl [(.iconst 0, 1, 0, 0, 0, nI 0)] [] (pc2 := 78) (ls2 := [some (.ref 54), some (.int (nI n1)), some (.int (nI n2)), some (.int (M.1 60 (3 * n2))), some (.int (M.1 60 ((3 * n2) + 1))), some (.int ((M.1 72 (32 + n1)) + (M.1 60 ((3 * n2) + 2)))), none]) (st2 := [.int (nI 0)]) (M2 := M) (Ps := []) (by decide +kernel) rfl rfl trivial ?_
      refine G.mem (M' := mrow M 72 (M.1 72)) (((mrow_id (N := M) (c := 72) (f := M.1 72) (by first | rfl | (simp only [mput, mrow_same, mrow_hit, mrow_miss, mrow_sw, idr_eq, ne_eq, Nat.reduceEqDiff, not_false_eq_true, Nat.reduceLT, reduceCtorEq]; done))).symm).trans (by first | rfl | (simp only [mput, mrow_same, mrow_hit, mrow_miss, mrow_sw, idr_eq, ne_eq, Nat.reduceEqDiff, not_false_eq_true, Nat.reduceLT, reduceCtorEq]; done))) ?_
      exact G.reti (by decide +kernel) rfl rfl (Nat.le_of_ble_eq_true rfl) (Nat.le_of_ble_eq_true rfl) ((by rw [hQ]; simp only [k_walks, if_pos c1, if_neg c2, mrow_self]))
  · skip
    refine G.sl [(.aload_n 0, 1, 0, 0, 0, 0), (.getfield 68, 3, 11, 41, 164, 0), (.bipush 20, 2, 0, 0, 0, nI 20), (.iload_n 1, 1, 1, 0, 0, 0), (.iadd, 1, 0, 0, 0, 0), (.iaload, 1, 0, 0, 0, 0), (.iload 4, 2, 4, 0, 0, 0)] [20 + n1] (pc2 := 67) (ls2 := [some (.ref 54), some (.int (nI n1)), some (.int (nI n2)), some (.int (M.1 60 (3 * n2))), some (.int (M.1 60 ((3 * n2) + 1))), some (.int ((M.1 72 (32 + n1)) + (M.1 60 ((3 * n2) + 2)))), none]) (st2 := [.int (M.1 60 ((3 * n2) + 1)), .int (M.1 72 (20 + n1))]) (M2 := M) (Ps := [((nI 20) + (nI n1)) = nI (20 + n1) ∧ (20 + n1) < 51]) (by decide +kernel) rfl rfl ⟨⟨(nI_add _ _), (by omega)⟩, trivial⟩ ?_
    refine G.ic_ne (off := (10)) (tgt := 77) (by decide +kernel) rfl (fun c5 => ?_) (fun c5 => ?_)
    · skip
      refine G.sl [(.iconst 0, 1, 0, 0, 0, nI 0)] [] (pc2 := 78) (ls2 := [some (.ref 54), some (.int (nI n1)), some (.int (nI n2)), some (.int (M.1 60 (3 * n2))), some (.int (M.1 60 ((3 * n2) + 1))), some (.int ((M.1 72 (32 + n1)) + (M.1 60 ((3 * n2) + 2)))), none]) (st2 := [.int (nI 0)]) (M2 := M) (Ps := []) (by decide +kernel) rfl rfl trivial ?_
      refine G.mem (M' := mrow M 72 (M.1 72)) (((mrow_id (N := M) (c := 72) (f := M.1 72) (by first | rfl | (simp only [mput, mrow_same, mrow_hit, mrow_miss, mrow_sw, idr_eq, ne_eq, Nat.reduceEqDiff, not_false_eq_true, Nat.reduceLT, reduceCtorEq]; done))).symm).trans (by first | rfl | (simp only [mput, mrow_same, mrow_hit, mrow_miss, mrow_sw, idr_eq, ne_eq, Nat.reduceEqDiff, not_false_eq_true, Nat.reduceLT, reduceCtorEq]; done))) ?_
      exact G.reti (by decide +kernel) rfl rfl (Nat.le_of_ble_eq_true rfl) (Nat.le_of_ble_eq_true rfl) ((by rw [hQ]; simp only [k_walks, if_neg c1, if_neg c5, mrow_self]))
    · skip
      refine G.sl [(.iload 5, 2, 5, 0, 0, 0), (.bipush 24, 2, 0, 0, 0, nI 24)] [] (pc2 := 74) (ls2 := [some (.ref 54), some (.int (nI n1)), some (.int (nI n2)), some (.int (M.1 60 (3 * n2))), some (.int (M.1 60 ((3 * n2) + 1))), some (.int ((M.1 72 (32 + n1)) + (M.1 60 ((3 * n2) + 2)))), none]) (st2 := [.int (nI 24), .int ((M.1 72 (32 + n1)) + (M.1 60 ((3 * n2) + 2)))]) (M2 := M) (Ps := []) (by decide +kernel) rfl rfl trivial ?_
      refine G.ic_le (off := (5)) (tgt := 79) (by decide +kernel) rfl (fun c6 => ?_) (fun c6 => ?_)
      · skip
        refine G.sl [(.aload_n 0, 1, 0, 0, 0, 0), (.getfield 68, 3, 11, 41, 164, 0), (.bipush 20, 2, 0, 0, 0, nI 20), (.iload_n 1, 1, 1, 0, 0, 0), (.iadd, 1, 0, 0, 0, 0), (.aload_n 0, 1, 0, 0, 0, 0), (.getfield 68, 3, 11, 41, 164, 0), (.bipush 20, 2, 0, 0, 0, nI 20), (.iload_n 1, 1, 1, 0, 0, 0), (.iadd, 1, 0, 0, 0, 0), (.iaload, 1, 0, 0, 0, 0), (.iload_n 3, 1, 3, 0, 0, 0)] [20 + n1] (pc2 := 97) (ls2 := [some (.ref 54), some (.int (nI n1)), some (.int (nI n2)), some (.int (M.1 60 (3 * n2))), some (.int (M.1 60 ((3 * n2) + 1))), some (.int ((M.1 72 (32 + n1)) + (M.1 60 ((3 * n2) + 2)))), none]) (st2 := [.int (M.1 60 (3 * n2)), .int (M.1 72 (20 + n1)), .int ((nI 20) + (nI n1)), .ref 72]) (M2 := M) (Ps := [((nI 20) + (nI n1)) = nI (20 + n1) ∧ (20 + n1) < 51]) (by decide +kernel) rfl rfl ⟨⟨(nI_add _ _), (by omega)⟩, trivial⟩ ?_
        refine G.ic_ne (off := (8)) (tgt := 105) (by decide +kernel) rfl (fun _ => ?_) (fun h9 => absurd h9 c1)
        refine G.sl [(.iload_n 3, 1, 3, 0, 0, 0), (.iastore, 1, 0, 0, 0, 0), (.aload_n 0, 1, 0, 0, 0, 0), (.getfield 68, 3, 11, 41, 164, 0), (.bipush 32, 2, 0, 0, 0, nI 32), (.iload_n 1, 1, 1, 0, 0, 0), (.iadd, 1, 0, 0, 0, 0), (.iload 5, 2, 5, 0, 0, 0), (.iastore, 1, 0, 0, 0, 0), (.iconst 0, 1, 0, 0, 0, nI 0), (.istore 6, 2, 6, 0, 0, 0)] [20 + n1, 32 + n1] (pc2 := 121) (ls2 := [some (.ref 54), some (.int (nI n1)), some (.int (nI n2)), some (.int (M.1 60 (3 * n2))), some (.int (M.1 60 ((3 * n2) + 1))), some (.int ((M.1 72 (32 + n1)) + (M.1 60 ((3 * n2) + 2)))), some (.int (nI 0))]) (st2 := []) (M2 := mput (mput M 72 (20 + n1) (M.1 60 (3 * n2))) 72 (32 + n1) ((M.1 72 (32 + n1)) + (M.1 60 ((3 * n2) + 2)))) (Ps := [((nI 20) + (nI n1)) = nI (20 + n1) ∧ (20 + n1) < 51, ((nI 32) + (nI n1)) = nI (32 + n1) ∧ (32 + n1) < 51]) (by decide +kernel) rfl rfl ⟨⟨(nI_add _ _), (by omega)⟩, ⟨(nI_add _ _), (by omega)⟩, trivial⟩ ?_
        refine G.mem (M' := mrow M 72 (upd (upd (M.1 72) (20 + n1) (M.1 60 (3 * n2))) (32 + n1) ((M.1 72 (32 + n1)) + (M.1 60 ((3 * n2) + 2))))) (by first | rfl | (simp only [mput, mrow_same, mrow_hit, mrow_miss, mrow_sw, idr_eq, ne_eq, Nat.reduceEqDiff, not_false_eq_true, Nat.reduceLT, reduceCtorEq]; done)) ?_
        refine G.loc (ls2 := [some (.ref 54), some (.int (nI n1)), none, none, none, none, some (.int (nI 0))]) (by simp [subL]) ?_
        refine lp_k_walks_54_121 z d (mrow M 72 (upd (upd (M.1 72) (20 + n1) (M.1 60 (3 * n2))) (32 + n1) ((M.1 72 (32 + n1)) + (M.1 60 ((3 * n2) + 2))))) Q n1 nt hnt ct (by omega) ?_
        try simp only [mput, mrow_same, mrow_hit, mrow_miss, mrow_sw, idr_eq, ne_eq, Nat.reduceEqDiff, not_false_eq_true, Nat.reduceLT, reduceCtorEq]
        show G z mX12_walks (d) 0 0 168 [none, none, none, none, none, none, none] [] (mrow M 72 (k_walks_121 (upd (upd (M.1 72) (20 + n1) (M.1 60 (3 * n2))) (32 + n1) ((M.1 72 (32 + n1)) + (M.1 60 ((3 * n2) + 2)))) n1 nt)) Q
        refine G.sl [(.iconst 1, 1, 0, 0, 0, nI 1)] [] (pc2 := 169) (ls2 := [none, none, none, none, none, none, none]) (st2 := [.int (nI 1)]) (M2 := mrow M 72 (k_walks_121 (upd (upd (M.1 72) (20 + n1) (M.1 60 (3 * n2))) (32 + n1) ((M.1 72 (32 + n1)) + (M.1 60 ((3 * n2) + 2)))) n1 nt)) (Ps := []) (by decide +kernel) rfl rfl trivial ?_
        exact G.reti (by decide +kernel) rfl rfl (Nat.le_of_ble_eq_true rfl) (Nat.le_of_ble_eq_true rfl) ((by rw [hQ]; simp only [k_walks, if_neg c1, if_pos c5, if_pos c6, mrow_self]))
      · skip
        refine G.sl [(.iconst 0, 1, 0, 0, 0, nI 0)] [] (pc2 := 78) (ls2 := [some (.ref 54), some (.int (nI n1)), some (.int (nI n2)), some (.int (M.1 60 (3 * n2))), some (.int (M.1 60 ((3 * n2) + 1))), some (.int ((M.1 72 (32 + n1)) + (M.1 60 ((3 * n2) + 2)))), none]) (st2 := [.int (nI 0)]) (M2 := M) (Ps := []) (by decide +kernel) rfl rfl trivial ?_
        refine G.mem (M' := mrow M 72 (M.1 72)) (((mrow_id (N := M) (c := 72) (f := M.1 72) (by first | rfl | (simp only [mput, mrow_same, mrow_hit, mrow_miss, mrow_sw, idr_eq, ne_eq, Nat.reduceEqDiff, not_false_eq_true, Nat.reduceLT, reduceCtorEq]; done))).symm).trans (by first | rfl | (simp only [mput, mrow_same, mrow_hit, mrow_miss, mrow_sw, idr_eq, ne_eq, Nat.reduceEqDiff, not_false_eq_true, Nat.reduceLT, reduceCtorEq]; done))) ?_
        exact G.reti (by decide +kernel) rfl rfl (Nat.le_of_ble_eq_true rfl) (Nat.le_of_ble_eq_true rfl) ((by rw [hQ]; simp only [k_walks, if_neg c1, if_pos c5, if_neg c6, mrow_self]))
theorem k_finds_01 (Rmd Rthing Rcode RofCode Rstack Rfacts Rs : Nat → Int32) (nt : Nat) (n1 : Nat) (n2 : Nat) : (k_finds Rmd Rthing Rcode RofCode Rstack Rfacts Rs nt n1 n2).1 = 0 ∨ (k_finds Rmd Rthing Rcode RofCode Rstack Rfacts Rs nt n1 n2).1 = 1 := by
  unfold k_finds
  repeat' split
  all_goals first | exact Or.inl rfl | exact Or.inr rfl | exact k_canFind_01 _ _ _
set_option maxHeartbeats 4000000 in
set_option maxRecDepth 3000 in
theorem c_k_finds_54 (z : Zp) (d : Nat) (M : Mem) (n1 : Nat) (n2 : Nat) (nt : Nat) (hnt : nt ≤ 10) (ct : M.1 54 22 = nI nt) (b1 : n1 < 6) (b2 : n2 < 10) (hk : k_finds_ok (M.1 54) (M.1 61) (M.1 65) (M.1 66) (M.1 67) (M.1 68) (M.1 72) nt n1 n2) : GM z mX12_finds (d + 5) [.ref 54, .int (nI n1), .int (nI n2)] M (fun rs => rs = .inl (some (.int ((k_finds (M.1 54) (M.1 61) (M.1 65) (M.1 66) (M.1 67) (M.1 68) (M.1 72) nt n1 n2).1)), mrow (mrow (mrow M 67 ((k_finds (M.1 54) (M.1 61) (M.1 65) (M.1 66) (M.1 67) (M.1 68) (M.1 72) nt n1 n2).2.1)) 68 ((k_finds (M.1 54) (M.1 61) (M.1 65) (M.1 66) (M.1 67) (M.1 68) (M.1 72) nt n1 n2).2.2.1)) 72 ((k_finds (M.1 54) (M.1 61) (M.1 65) (M.1 66) (M.1 67) (M.1 68) (M.1 72) nt n1 n2).2.2.2))) := by
  simp only [k_finds_ok] at hk
  refine GM.of oX12_finds.1 (Nat.le_of_ble_eq_true rfl) ?_
  show G z mX12_finds (d + 5) 0 0 0 [some (.ref 54), some (.int (nI n1)), some (.int (nI n2)), none] [] M _
  obtain ⟨Q, hQ⟩ : ∃ Q : Rs → Prop, Q = (fun rs => rs = .inl (some (.int ((k_finds (M.1 54) (M.1 61) (M.1 65) (M.1 66) (M.1 67) (M.1 68) (M.1 72) nt n1 n2).1)), mrow (mrow (mrow M 67 ((k_finds (M.1 54) (M.1 61) (M.1 65) (M.1 66) (M.1 67) (M.1 68) (M.1 72) nt n1 n2).2.1)) 68 ((k_finds (M.1 54) (M.1 61) (M.1 65) (M.1 66) (M.1 67) (M.1 68) (M.1 72) nt n1 n2).2.2.1)) 72 ((k_finds (M.1 54) (M.1 61) (M.1 65) (M.1 66) (M.1 67) (M.1 68) (M.1 72) nt n1 n2).2.2.2))) := ⟨_, rfl⟩
  rw [← hQ]
  refine G.sl [(.aload_n 0, 1, 0, 0, 0, 0), (.iload_n 1, 1, 1, 0, 0, 0), (.iload_n 2, 1, 2, 0, 0, 0)] [] (pc2 := 3) (ls2 := [some (.ref 54), some (.int (nI n1)), some (.int (nI n2)), none]) (st2 := [.int (nI n2), .int (nI n1), .ref 54]) (M2 := M) (Ps := []) (by decide +kernel) rfl rfl trivial ?_
  obtain ⟨k1, hk⟩ := hk
  have t2 : GM z mX12_canFind (d + 4) [.ref 54, .int (nI n1), .int (nI n2)] M (fun rs => rs = .inl (some (.int (k_canFind (M.1 72) n1 n2)), M)) := by
    have q9 := c_k_canFind_54 z (d + 4) M n1 n2 (by omega) (by omega)
    try simp only [mput, mrow_same, mrow_hit, mrow_miss, mrow_sw, idr_eq, ne_eq, Nat.reduceEqDiff, not_false_eq_true, Nat.reduceLT, reduceCtorEq] at q9
    exact q9
  refine G.callV (as := [.int (nI n1), .int (nI n2)]) (rest := []) (a := 54) oX12_canFind lk_EvenFindersModel_355 (by decide +kernel) rfl rfl ⟨rfl, rfl⟩ (Nat.le_of_ble_eq_true rfl) rfl ⟨Nat.le_of_ble_eq_true rfl, Nat.le_of_ble_eq_true rfl⟩ t2 (fun v9 N9 h3 => ?_) (fun E9 N9 h3 => by cases h3)
  cases h3
  show G z mX12_finds (d + 5) 0 0 6 [some (.ref 54), some (.int (nI n1)), some (.int (nI n2)), none] [.int (k_canFind (M.1 72) n1 n2)] M Q
  refine G.if_ne (off := (5)) (tgt := 11) (by decide +kernel) rfl (fun c4 => ?_) (fun c4 => ?_)
  · skip
    rw [if_neg c4] at hk
    refine G.sl [(.aload_n 0, 1, 0, 0, 0, 0), (.iload_n 1, 1, 1, 0, 0, 0), (.iload_n 2, 1, 2, 0, 0, 0)] [] (pc2 := 14) (ls2 := [some (.ref 54), some (.int (nI n1)), some (.int (nI n2)), none]) (st2 := [.int (nI n2), .int (nI n1), .ref 54]) (M2 := M) (Ps := []) (by decide +kernel) rfl rfl trivial ?_
    obtain ⟨k5, hk⟩ := hk
    rcases g6 : k_dutyBy (M.1 54) (M.1 61) (M.1 65) (M.1 66) (M.1 67) (M.1 68) (M.1 72) nt n1 n2 with ⟨v7, r8, r9⟩
    have t10 : GM z mX12_dutyBy (d + 4) [.ref 54, .int (nI n1), .int (nI n2)] M (fun rs => rs = .inl (some (.int v7), mrow (mrow M 67 r8) 68 r9)) := by
      have q9 := c_k_dutyBy_54 z d M n1 n2 nt hnt ct (by omega) (by omega) k5
      try simp only [mput, mrow_same, mrow_hit, mrow_miss, mrow_sw, idr_eq, ne_eq, Nat.reduceEqDiff, not_false_eq_true, Nat.reduceLT, reduceCtorEq, g6] at q9
      exact q9
    refine G.callV (as := [.int (nI n1), .int (nI n2)]) (rest := []) (a := 54) oX12_dutyBy lk_EvenFindersModel_359 (by decide +kernel) rfl rfl ⟨rfl, rfl⟩ (Nat.le_of_ble_eq_true rfl) rfl ⟨Nat.le_of_ble_eq_true rfl, Nat.le_of_ble_eq_true rfl⟩ t10 (fun v9 N9 h11 => ?_) (fun E9 N9 h11 => by cases h11)
    cases h11
    show G z mX12_finds (d + 5) 0 0 17 [some (.ref 54), some (.int (nI n1)), some (.int (nI n2)), none] [.int v7] (mrow (mrow M 67 r8) 68 r9) Q
    refine G.sl [(.istore_n 3, 1, 3, 0, 0, 0), (.aload_n 0, 1, 0, 0, 0, 0), (.getfield 68, 3, 11, 41, 164, 0), (.bipush 10, 2, 0, 0, 0, nI 10), (.iload_n 2, 1, 2, 0, 0, 0), (.iadd, 1, 0, 0, 0, 0), (.iload_n 1, 1, 1, 0, 0, 0), (.iastore, 1, 0, 0, 0, 0), (.aload_n 0, 1, 0, 0, 0, 0), (.getfield 68, 3, 11, 41, 164, 0), (.bipush 26, 2, 0, 0, 0, nI 26), (.iload_n 1, 1, 1, 0, 0, 0), (.iadd, 1, 0, 0, 0, 0), (.dup2, 1, 0, 0, 0, 0), (.iaload, 1, 0, 0, 0, 0), (.iload_n 3, 1, 3, 0, 0, 0), (.iadd, 1, 0, 0, 0, 0), (.iastore, 1, 0, 0, 0, 0), (.aload_n 0, 1, 0, 0, 0, 0), (.getfield 68, 3, 11, 41, 164, 0), (.bipush 38, 2, 0, 0, 0, nI 38), (.iload_n 1, 1, 1, 0, 0, 0), (.iadd, 1, 0, 0, 0, 0), (.dup2, 1, 0, 0, 0, 0), (.iaload, 1, 0, 0, 0, 0), (.iconst 1, 1, 0, 0, 0, nI 1), (.iadd, 1, 0, 0, 0, 0), (.iastore, 1, 0, 0, 0, 0), (.iconst 1, 1, 0, 0, 0, nI 1)] [10 + n2, 26 + n1, 26 + n1, 38 + n1, 38 + n1] (pc2 := 55) (ls2 := [some (.ref 54), some (.int (nI n1)), some (.int (nI n2)), some (.int v7)]) (st2 := [.int (nI 1)]) (M2 := mput (mput (mput (mrow (mrow M 67 r8) 68 r9) 72 (10 + n2) (nI n1)) 72 (26 + n1) (((upd (M.1 72) (10 + n2) (nI n1)) (26 + n1)) + v7)) 72 (38 + n1) (((upd (upd (M.1 72) (10 + n2) (nI n1)) (26 + n1) (((upd (M.1 72) (10 + n2) (nI n1)) (26 + n1)) + v7)) (38 + n1)) + (nI 1))) (Ps := [((nI 10) + (nI n2)) = nI (10 + n2) ∧ (10 + n2) < 51, ((nI 26) + (nI n1)) = nI (26 + n1) ∧ (26 + n1) < 51, ((nI 26) + (nI n1)) = nI (26 + n1) ∧ (26 + n1) < 51, ((nI 38) + (nI n1)) = nI (38 + n1) ∧ (38 + n1) < 51, ((nI 38) + (nI n1)) = nI (38 + n1) ∧ (38 + n1) < 51]) (by decide +kernel) rfl rfl ⟨⟨(nI_add _ _), (by omega)⟩, ⟨(nI_add _ _), (by omega)⟩, ⟨(nI_add _ _), (by omega)⟩, ⟨(nI_add _ _), (by omega)⟩, ⟨(nI_add _ _), (by omega)⟩, trivial⟩ ?_
    refine G.mem (M' := mrow (mrow (mrow M 67 r8) 68 r9) 72 (upd (upd (upd (M.1 72) (10 + n2) (nI n1)) (26 + n1) (((upd (M.1 72) (10 + n2) (nI n1)) (26 + n1)) + v7)) (38 + n1) (((upd (upd (M.1 72) (10 + n2) (nI n1)) (26 + n1) (((upd (M.1 72) (10 + n2) (nI n1)) (26 + n1)) + v7)) (38 + n1)) + (nI 1)))) (by first | rfl | (simp only [mput, mrow_same, mrow_hit, mrow_miss, mrow_sw, idr_eq, ne_eq, Nat.reduceEqDiff, not_false_eq_true, Nat.reduceLT, reduceCtorEq]; done)) ?_
    exact G.reti (by decide +kernel) rfl rfl (Nat.le_of_ble_eq_true rfl) (Nat.le_of_ble_eq_true rfl) ((by rw [hQ]; simp only [k_finds, if_neg c4, g6, mrow_self]))
  · skip
    rw [if_pos c4] at hk
    refine G.sl [(.iconst 0, 1, 0, 0, 0, nI 0)] [] (pc2 := 10) (ls2 := [some (.ref 54), some (.int (nI n1)), some (.int (nI n2)), none]) (st2 := [.int (nI 0)]) (M2 := M) (Ps := []) (by decide +kernel) rfl rfl trivial ?_
    refine G.mem (M' := mrow (mrow (mrow M 67 (M.1 67)) 68 (M.1 68)) 72 (M.1 72)) (((((mrow_id (N := M) (c := 67) (f := M.1 67) (by first | rfl | (simp only [mput, mrow_same, mrow_hit, mrow_miss, mrow_sw, idr_eq, ne_eq, Nat.reduceEqDiff, not_false_eq_true, Nat.reduceLT, reduceCtorEq]; done))).symm).trans (mrow_id (N := mrow M 67 (M.1 67)) (c := 68) (f := M.1 68) (by first | rfl | (simp only [mput, mrow_same, mrow_hit, mrow_miss, mrow_sw, idr_eq, ne_eq, Nat.reduceEqDiff, not_false_eq_true, Nat.reduceLT, reduceCtorEq]; done))).symm).trans (mrow_id (N := mrow (mrow M 67 (M.1 67)) 68 (M.1 68)) (c := 72) (f := M.1 72) (by first | rfl | (simp only [mput, mrow_same, mrow_hit, mrow_miss, mrow_sw, idr_eq, ne_eq, Nat.reduceEqDiff, not_false_eq_true, Nat.reduceLT, reduceCtorEq]; done))).symm).trans (by first | rfl | (simp only [mput, mrow_same, mrow_hit, mrow_miss, mrow_sw, idr_eq, ne_eq, Nat.reduceEqDiff, not_false_eq_true, Nat.reduceLT, reduceCtorEq]; done))) ?_
    exact G.reti (by decide +kernel) rfl rfl (Nat.le_of_ble_eq_true rfl) (Nat.le_of_ble_eq_true rfl) ((by rw [hQ]; simp only [k_finds, if_pos c4, mrow_self]))
theorem k_letsLie_m99_01 (Rthing Rs : Nat → Int32) (n1 : Nat) (n2 : Nat) : (k_letsLie_m99 Rthing Rs n1 n2).1 = 0 ∨ (k_letsLie_m99 Rthing Rs n1 n2).1 = 1 := by
  unfold k_letsLie_m99
  repeat' split
  all_goals first | exact Or.inl rfl | exact Or.inr rfl
set_option maxHeartbeats 4000000 in
set_option maxRecDepth 3000 in
theorem c_k_letsLie_m99_54 (z : Zp) (d : Nat) (M : Mem) (n1 : Nat) (n2 : Nat) (b1 : n1 < 6) (b2 : n2 < 10) : GM z mX12_letsLie (d) [.ref 54, .int (nI n1), .int (nI n2), .int ((-99))] M (fun rs => rs = .inl (some (.int ((k_letsLie_m99 (M.1 61) (M.1 72) n1 n2).1)), mrow M 72 ((k_letsLie_m99 (M.1 61) (M.1 72) n1 n2).2))) := by
  refine GM.of oX12_letsLie.1 (Nat.le_of_ble_eq_true rfl) ?_
  show G z mX12_letsLie (d) 0 0 0 [some (.ref 54), some (.int (nI n1)), some (.int (nI n2)), some (.int ((-99)))] [] M _
  obtain ⟨Q, hQ⟩ : ∃ Q : Rs → Prop, Q = (fun rs => rs = .inl (some (.int ((k_letsLie_m99 (M.1 61) (M.1 72) n1 n2).1)), mrow M 72 ((k_letsLie_m99 (M.1 61) (M.1 72) n1 n2).2))) := ⟨_, rfl⟩
  rw [← hQ]
  refine G.sl [(.aload_n 0, 1, 0, 0, 0, 0), (.getfield 68, 3, 11, 41, 164, 0), (.bipush 10, 2, 0, 0, 0, nI 10), (.iload_n 2, 1, 2, 0, 0, 0), (.iadd, 1, 0, 0, 0, 0), (.iaload, 1, 0, 0, 0, 0), (.iload_n 1, 1, 1, 0, 0, 0)] [10 + n2] (pc2 := 10) (ls2 := [some (.ref 54), some (.int (nI n1)), some (.int (nI n2)), some (.int ((-99)))]) (st2 := [.int (nI n1), .int (M.1 72 (10 + n2))]) (M2 := M) (Ps := [((nI 10) + (nI n2)) = nI (10 + n2) ∧ (10 + n2) < 51]) (by decide +kernel) rfl rfl ⟨⟨(nI_add _ _), (by omega)⟩, trivial⟩ ?_
  refine G.ic_eq (off := (5)) (tgt := 15) (by decide +kernel) rfl (fun c1 => ?_) (fun c1 => ?_)
  · skip
    refine G.sl [(.aload_n 0, 1, 0, 0, 0, 0), (.getfield 68, 3, 11, 41, 164, 0), (.bipush 10, 2, 0, 0, 0, nI 10), (.iload_n 2, 1, 2, 0, 0, 0), (.iadd, 1, 0, 0, 0, 0), (.iconst (-1), 1, 0, 0, 0, (-1)), (.iastore, 1, 0, 0, 0, 0), (.aload_n 0, 1, 0, 0, 0, 0), (.getfield 68, 3, 11, 41, 164, 0), (.bipush 26, 2, 0, 0, 0, nI 26), (.iload_n 1, 1, 1, 0, 0, 0), (.iadd, 1, 0, 0, 0, 0), (.dup2, 1, 0, 0, 0, 0), (.iaload, 1, 0, 0, 0, 0), (.aload_n 0, 1, 0, 0, 0, 0), (.getfield 35, 3, 11, 14, 137, 0), (.iconst 3, 1, 0, 0, 0, nI 3), (.iload_n 2, 1, 2, 0, 0, 0), (.imul, 1, 0, 0, 0, 0), (.iconst 2, 1, 0, 0, 0, nI 2), (.iadd, 1, 0, 0, 0, 0), (.iaload, 1, 0, 0, 0, 0), (.isub, 1, 0, 0, 0, 0), (.iastore, 1, 0, 0, 0, 0), (.aload_n 0, 1, 0, 0, 0, 0), (.getfield 68, 3, 11, 41, 164, 0), (.bipush 26, 2, 0, 0, 0, nI 26), (.iload_n 1, 1, 1, 0, 0, 0), (.iadd, 1, 0, 0, 0, 0), (.aload_n 0, 1, 0, 0, 0, 0), (.getfield 68, 3, 11, 41, 164, 0), (.bipush 26, 2, 0, 0, 0, nI 26), (.iload_n 1, 1, 1, 0, 0, 0), (.iadd, 1, 0, 0, 0, 0), (.iaload, 1, 0, 0, 0, 0), (.iload_n 3, 1, 3, 0, 0, 0)] [10 + n2, 26 + n1, (3 * n2) + 2, 26 + n1, 26 + n1] (pc2 := 65) (ls2 := [some (.ref 54), some (.int (nI n1)), some (.int (nI n2)), some (.int ((-99)))]) (st2 := [.int ((-99)), .int ((upd (upd (M.1 72) (10 + n2) ((-1))) (26 + n1) (((upd (M.1 72) (10 + n2) ((-1))) (26 + n1)) - (M.1 61 ((3 * n2) + 2)))) (26 + n1)), .int ((nI 26) + (nI n1)), .ref 72]) (M2 := mput (mput M 72 (10 + n2) ((-1))) 72 (26 + n1) (((upd (M.1 72) (10 + n2) ((-1))) (26 + n1)) - (M.1 61 ((3 * n2) + 2)))) (Ps := [((nI 10) + (nI n2)) = nI (10 + n2) ∧ (10 + n2) < 51, ((nI 26) + (nI n1)) = nI (26 + n1) ∧ (26 + n1) < 51, (((nI 3) * (nI n2)) + (nI 2)) = nI ((3 * n2) + 2) ∧ ((3 * n2) + 2) < 30, ((nI 26) + (nI n1)) = nI (26 + n1) ∧ (26 + n1) < 51, ((nI 26) + (nI n1)) = nI (26 + n1) ∧ (26 + n1) < 51]) (by decide +kernel) rfl rfl ⟨⟨(nI_add _ _), (by omega)⟩, ⟨(nI_add _ _), (by omega)⟩, ⟨(nAdd (pk_mul _ _) rfl), (by omega)⟩, ⟨(nI_add _ _), (by omega)⟩, ⟨(nI_add _ _), (by omega)⟩, trivial⟩ ?_
    refine G.mem (M' := mrow M 72 (upd (upd (M.1 72) (10 + n2) ((-1))) (26 + n1) (((upd (M.1 72) (10 + n2) ((-1))) (26 + n1)) - (M.1 61 ((3 * n2) + 2))))) (by first | rfl | (simp only [mput, mrow_same, mrow_hit, mrow_miss, mrow_sw, idr_eq, ne_eq, Nat.reduceEqDiff, not_false_eq_true, Nat.reduceLT, reduceCtorEq]; done)) ?_
    refine G.ic_ge (off := (7)) (tgt := 72) (by decide +kernel) rfl (fun c2 => ?_) (fun c2 => ?_)
    · skip
      refine G.sl [(.aload_n 0, 1, 0, 0, 0, 0), (.getfield 68, 3, 11, 41, 164, 0), (.bipush 26, 2, 0, 0, 0, nI 26), (.iload_n 1, 1, 1, 0, 0, 0), (.iadd, 1, 0, 0, 0, 0), (.iaload, 1, 0, 0, 0, 0), (.iastore, 1, 0, 0, 0, 0), (.iconst 1, 1, 0, 0, 0, nI 1)] [26 + n1, 26 + n1] (pc2 := 83) (ls2 := [some (.ref 54), some (.int (nI n1)), some (.int (nI n2)), some (.int ((-99)))]) (st2 := [.int (nI 1)]) (M2 := mput (mrow M 72 (upd (upd (M.1 72) (10 + n2) ((-1))) (26 + n1) (((upd (M.1 72) (10 + n2) ((-1))) (26 + n1)) - (M.1 61 ((3 * n2) + 2))))) 72 (26 + n1) ((upd (upd (M.1 72) (10 + n2) ((-1))) (26 + n1) (((upd (M.1 72) (10 + n2) ((-1))) (26 + n1)) - (M.1 61 ((3 * n2) + 2)))) (26 + n1))) (Ps := [((nI 26) + (nI n1)) = nI (26 + n1) ∧ (26 + n1) < 51, ((nI 26) + (nI n1)) = nI (26 + n1) ∧ (26 + n1) < 51]) (by decide +kernel) rfl rfl ⟨⟨(nI_add _ _), (by omega)⟩, ⟨(nI_add _ _), (by omega)⟩, trivial⟩ ?_
      refine G.mem (M' := mrow M 72 (upd (upd (upd (M.1 72) (10 + n2) ((-1))) (26 + n1) (((upd (M.1 72) (10 + n2) ((-1))) (26 + n1)) - (M.1 61 ((3 * n2) + 2)))) (26 + n1) ((upd (upd (M.1 72) (10 + n2) ((-1))) (26 + n1) (((upd (M.1 72) (10 + n2) ((-1))) (26 + n1)) - (M.1 61 ((3 * n2) + 2)))) (26 + n1)))) (by first | rfl | (simp only [mput, mrow_same, mrow_hit, mrow_miss, mrow_sw, idr_eq, ne_eq, Nat.reduceEqDiff, not_false_eq_true, Nat.reduceLT, reduceCtorEq]; done)) ?_
      exact G.reti (by decide +kernel) rfl rfl (Nat.le_of_ble_eq_true rfl) (Nat.le_of_ble_eq_true rfl) ((by rw [hQ]; simp only [k_letsLie_m99, if_pos c1, if_pos c2, mrow_self]))
    · skip
      refine G.sl [(.iload_n 3, 1, 3, 0, 0, 0), (.goto 12, 3, 81, 0, 0, 0), (.iastore, 1, 0, 0, 0, 0), (.iconst 1, 1, 0, 0, 0, nI 1)] [26 + n1] (pc2 := 83) (ls2 := [some (.ref 54), some (.int (nI n1)), some (.int (nI n2)), some (.int ((-99)))]) (st2 := [.int (nI 1)]) (M2 := mput (mrow M 72 (upd (upd (M.1 72) (10 + n2) ((-1))) (26 + n1) (((upd (M.1 72) (10 + n2) ((-1))) (26 + n1)) - (M.1 61 ((3 * n2) + 2))))) 72 (26 + n1) ((-99))) (Ps := [((nI 26) + (nI n1)) = nI (26 + n1) ∧ (26 + n1) < 51]) (by decide +kernel) rfl rfl ⟨⟨(nI_add _ _), (by omega)⟩, trivial⟩ ?_
      refine G.mem (M' := mrow M 72 (upd (upd (upd (M.1 72) (10 + n2) ((-1))) (26 + n1) (((upd (M.1 72) (10 + n2) ((-1))) (26 + n1)) - (M.1 61 ((3 * n2) + 2)))) (26 + n1) ((-99)))) (by first | rfl | (simp only [mput, mrow_same, mrow_hit, mrow_miss, mrow_sw, idr_eq, ne_eq, Nat.reduceEqDiff, not_false_eq_true, Nat.reduceLT, reduceCtorEq]; done)) ?_
      exact G.reti (by decide +kernel) rfl rfl (Nat.le_of_ble_eq_true rfl) (Nat.le_of_ble_eq_true rfl) ((by rw [hQ]; simp only [k_letsLie_m99, if_pos c1, if_neg c2, mrow_self]))
  · skip
    refine G.sl [(.iconst 0, 1, 0, 0, 0, nI 0)] [] (pc2 := 14) (ls2 := [some (.ref 54), some (.int (nI n1)), some (.int (nI n2)), some (.int ((-99)))]) (st2 := [.int (nI 0)]) (M2 := M) (Ps := []) (by decide +kernel) rfl rfl trivial ?_
    refine G.mem (M' := mrow M 72 (M.1 72)) (((mrow_id (N := M) (c := 72) (f := M.1 72) (by first | rfl | (simp only [mput, mrow_same, mrow_hit, mrow_miss, mrow_sw, idr_eq, ne_eq, Nat.reduceEqDiff, not_false_eq_true, Nat.reduceLT, reduceCtorEq]; done))).symm).trans (by first | rfl | (simp only [mput, mrow_same, mrow_hit, mrow_miss, mrow_sw, idr_eq, ne_eq, Nat.reduceEqDiff, not_false_eq_true, Nat.reduceLT, reduceCtorEq]; done))) ?_
    exact G.reti (by decide +kernel) rfl rfl (Nat.le_of_ble_eq_true rfl) (Nat.le_of_ble_eq_true rfl) ((by rw [hQ]; simp only [k_letsLie_m99, if_neg c1, mrow_self]))
theorem k_letsLie_0_01 (Rthing Rs : Nat → Int32) (n1 : Nat) (n2 : Nat) : (k_letsLie_0 Rthing Rs n1 n2).1 = 0 ∨ (k_letsLie_0 Rthing Rs n1 n2).1 = 1 := by
  unfold k_letsLie_0
  repeat' split
  all_goals first | exact Or.inl rfl | exact Or.inr rfl
set_option maxHeartbeats 4000000 in
set_option maxRecDepth 3000 in
theorem c_k_letsLie_0_54 (z : Zp) (d : Nat) (M : Mem) (n1 : Nat) (n2 : Nat) (b1 : n1 < 6) (b2 : n2 < 10) : GM z mX12_letsLie (d) [.ref 54, .int (nI n1), .int (nI n2), .int (nI 0)] M (fun rs => rs = .inl (some (.int ((k_letsLie_0 (M.1 61) (M.1 72) n1 n2).1)), mrow M 72 ((k_letsLie_0 (M.1 61) (M.1 72) n1 n2).2))) := by
  refine GM.of oX12_letsLie.1 (Nat.le_of_ble_eq_true rfl) ?_
  show G z mX12_letsLie (d) 0 0 0 [some (.ref 54), some (.int (nI n1)), some (.int (nI n2)), some (.int (nI 0))] [] M _
  obtain ⟨Q, hQ⟩ : ∃ Q : Rs → Prop, Q = (fun rs => rs = .inl (some (.int ((k_letsLie_0 (M.1 61) (M.1 72) n1 n2).1)), mrow M 72 ((k_letsLie_0 (M.1 61) (M.1 72) n1 n2).2))) := ⟨_, rfl⟩
  rw [← hQ]
  refine G.sl [(.aload_n 0, 1, 0, 0, 0, 0), (.getfield 68, 3, 11, 41, 164, 0), (.bipush 10, 2, 0, 0, 0, nI 10), (.iload_n 2, 1, 2, 0, 0, 0), (.iadd, 1, 0, 0, 0, 0), (.iaload, 1, 0, 0, 0, 0), (.iload_n 1, 1, 1, 0, 0, 0)] [10 + n2] (pc2 := 10) (ls2 := [some (.ref 54), some (.int (nI n1)), some (.int (nI n2)), some (.int (nI 0))]) (st2 := [.int (nI n1), .int (M.1 72 (10 + n2))]) (M2 := M) (Ps := [((nI 10) + (nI n2)) = nI (10 + n2) ∧ (10 + n2) < 51]) (by decide +kernel) rfl rfl ⟨⟨(nI_add _ _), (by omega)⟩, trivial⟩ ?_
  refine G.ic_eq (off := (5)) (tgt := 15) (by decide +kernel) rfl (fun c1 => ?_) (fun c1 => ?_)
  · skip
    refine G.sl [(.aload_n 0, 1, 0, 0, 0, 0), (.getfield 68, 3, 11, 41, 164, 0), (.bipush 10, 2, 0, 0, 0, nI 10), (.iload_n 2, 1, 2, 0, 0, 0), (.iadd, 1, 0, 0, 0, 0), (.iconst (-1), 1, 0, 0, 0, (-1)), (.iastore, 1, 0, 0, 0, 0), (.aload_n 0, 1, 0, 0, 0, 0), (.getfield 68, 3, 11, 41, 164, 0), (.bipush 26, 2, 0, 0, 0, nI 26), (.iload_n 1, 1, 1, 0, 0, 0), (.iadd, 1, 0, 0, 0, 0), (.dup2, 1, 0, 0, 0, 0), (.iaload, 1, 0, 0, 0, 0), (.aload_n 0, 1, 0, 0, 0, 0), (.getfield 35, 3, 11, 14, 137, 0), (.iconst 3, 1, 0, 0, 0, nI 3), (.iload_n 2, 1, 2, 0, 0, 0), (.imul, 1, 0, 0, 0, 0), (.iconst 2, 1, 0, 0, 0, nI 2), (.iadd, 1, 0, 0, 0, 0), (.iaload, 1, 0, 0, 0, 0), (.isub, 1, 0, 0, 0, 0), (.iastore, 1, 0, 0, 0, 0), (.aload_n 0, 1, 0, 0, 0, 0), (.getfield 68, 3, 11, 41, 164, 0), (.bipush 26, 2, 0, 0, 0, nI 26), (.iload_n 1, 1, 1, 0, 0, 0), (.iadd, 1, 0, 0, 0, 0), (.aload_n 0, 1, 0, 0, 0, 0), (.getfield 68, 3, 11, 41, 164, 0), (.bipush 26, 2, 0, 0, 0, nI 26), (.iload_n 1, 1, 1, 0, 0, 0), (.iadd, 1, 0, 0, 0, 0), (.iaload, 1, 0, 0, 0, 0), (.iload_n 3, 1, 3, 0, 0, 0)] [10 + n2, 26 + n1, (3 * n2) + 2, 26 + n1, 26 + n1] (pc2 := 65) (ls2 := [some (.ref 54), some (.int (nI n1)), some (.int (nI n2)), some (.int (nI 0))]) (st2 := [.int (nI 0), .int ((upd (upd (M.1 72) (10 + n2) ((-1))) (26 + n1) (((upd (M.1 72) (10 + n2) ((-1))) (26 + n1)) - (M.1 61 ((3 * n2) + 2)))) (26 + n1)), .int ((nI 26) + (nI n1)), .ref 72]) (M2 := mput (mput M 72 (10 + n2) ((-1))) 72 (26 + n1) (((upd (M.1 72) (10 + n2) ((-1))) (26 + n1)) - (M.1 61 ((3 * n2) + 2)))) (Ps := [((nI 10) + (nI n2)) = nI (10 + n2) ∧ (10 + n2) < 51, ((nI 26) + (nI n1)) = nI (26 + n1) ∧ (26 + n1) < 51, (((nI 3) * (nI n2)) + (nI 2)) = nI ((3 * n2) + 2) ∧ ((3 * n2) + 2) < 30, ((nI 26) + (nI n1)) = nI (26 + n1) ∧ (26 + n1) < 51, ((nI 26) + (nI n1)) = nI (26 + n1) ∧ (26 + n1) < 51]) (by decide +kernel) rfl rfl ⟨⟨(nI_add _ _), (by omega)⟩, ⟨(nI_add _ _), (by omega)⟩, ⟨(nAdd (pk_mul _ _) rfl), (by omega)⟩, ⟨(nI_add _ _), (by omega)⟩, ⟨(nI_add _ _), (by omega)⟩, trivial⟩ ?_
    refine G.mem (M' := mrow M 72 (upd (upd (M.1 72) (10 + n2) ((-1))) (26 + n1) (((upd (M.1 72) (10 + n2) ((-1))) (26 + n1)) - (M.1 61 ((3 * n2) + 2))))) (by first | rfl | (simp only [mput, mrow_same, mrow_hit, mrow_miss, mrow_sw, idr_eq, ne_eq, Nat.reduceEqDiff, not_false_eq_true, Nat.reduceLT, reduceCtorEq]; done)) ?_
    refine G.ic_ge (off := (7)) (tgt := 72) (by decide +kernel) rfl (fun c2 => ?_) (fun c2 => ?_)
    · skip
      refine G.sl [(.aload_n 0, 1, 0, 0, 0, 0), (.getfield 68, 3, 11, 41, 164, 0), (.bipush 26, 2, 0, 0, 0, nI 26), (.iload_n 1, 1, 1, 0, 0, 0), (.iadd, 1, 0, 0, 0, 0), (.iaload, 1, 0, 0, 0, 0), (.iastore, 1, 0, 0, 0, 0), (.iconst 1, 1, 0, 0, 0, nI 1)] [26 + n1, 26 + n1] (pc2 := 83) (ls2 := [some (.ref 54), some (.int (nI n1)), some (.int (nI n2)), some (.int (nI 0))]) (st2 := [.int (nI 1)]) (M2 := mput (mrow M 72 (upd (upd (M.1 72) (10 + n2) ((-1))) (26 + n1) (((upd (M.1 72) (10 + n2) ((-1))) (26 + n1)) - (M.1 61 ((3 * n2) + 2))))) 72 (26 + n1) ((upd (upd (M.1 72) (10 + n2) ((-1))) (26 + n1) (((upd (M.1 72) (10 + n2) ((-1))) (26 + n1)) - (M.1 61 ((3 * n2) + 2)))) (26 + n1))) (Ps := [((nI 26) + (nI n1)) = nI (26 + n1) ∧ (26 + n1) < 51, ((nI 26) + (nI n1)) = nI (26 + n1) ∧ (26 + n1) < 51]) (by decide +kernel) rfl rfl ⟨⟨(nI_add _ _), (by omega)⟩, ⟨(nI_add _ _), (by omega)⟩, trivial⟩ ?_
      refine G.mem (M' := mrow M 72 (upd (upd (upd (M.1 72) (10 + n2) ((-1))) (26 + n1) (((upd (M.1 72) (10 + n2) ((-1))) (26 + n1)) - (M.1 61 ((3 * n2) + 2)))) (26 + n1) ((upd (upd (M.1 72) (10 + n2) ((-1))) (26 + n1) (((upd (M.1 72) (10 + n2) ((-1))) (26 + n1)) - (M.1 61 ((3 * n2) + 2)))) (26 + n1)))) (by first | rfl | (simp only [mput, mrow_same, mrow_hit, mrow_miss, mrow_sw, idr_eq, ne_eq, Nat.reduceEqDiff, not_false_eq_true, Nat.reduceLT, reduceCtorEq]; done)) ?_
      exact G.reti (by decide +kernel) rfl rfl (Nat.le_of_ble_eq_true rfl) (Nat.le_of_ble_eq_true rfl) ((by rw [hQ]; simp only [k_letsLie_0, if_pos c1, if_pos c2, mrow_self]))
    · skip
      refine G.sl [(.iload_n 3, 1, 3, 0, 0, 0), (.goto 12, 3, 81, 0, 0, 0), (.iastore, 1, 0, 0, 0, 0), (.iconst 1, 1, 0, 0, 0, nI 1)] [26 + n1] (pc2 := 83) (ls2 := [some (.ref 54), some (.int (nI n1)), some (.int (nI n2)), some (.int (nI 0))]) (st2 := [.int (nI 1)]) (M2 := mput (mrow M 72 (upd (upd (M.1 72) (10 + n2) ((-1))) (26 + n1) (((upd (M.1 72) (10 + n2) ((-1))) (26 + n1)) - (M.1 61 ((3 * n2) + 2))))) 72 (26 + n1) (nI 0)) (Ps := [((nI 26) + (nI n1)) = nI (26 + n1) ∧ (26 + n1) < 51]) (by decide +kernel) rfl rfl ⟨⟨(nI_add _ _), (by omega)⟩, trivial⟩ ?_
      refine G.mem (M' := mrow M 72 (upd (upd (upd (M.1 72) (10 + n2) ((-1))) (26 + n1) (((upd (M.1 72) (10 + n2) ((-1))) (26 + n1)) - (M.1 61 ((3 * n2) + 2)))) (26 + n1) (nI 0))) (by first | rfl | (simp only [mput, mrow_same, mrow_hit, mrow_miss, mrow_sw, idr_eq, ne_eq, Nat.reduceEqDiff, not_false_eq_true, Nat.reduceLT, reduceCtorEq]; done)) ?_
      exact G.reti (by decide +kernel) rfl rfl (Nat.le_of_ble_eq_true rfl) (Nat.le_of_ble_eq_true rfl) ((by rw [hQ]; simp only [k_letsLie_0, if_pos c1, if_neg c2, mrow_self]))
  · skip
    refine G.sl [(.iconst 0, 1, 0, 0, 0, nI 0)] [] (pc2 := 14) (ls2 := [some (.ref 54), some (.int (nI n1)), some (.int (nI n2)), some (.int (nI 0))]) (st2 := [.int (nI 0)]) (M2 := M) (Ps := []) (by decide +kernel) rfl rfl trivial ?_
    refine G.mem (M' := mrow M 72 (M.1 72)) (((mrow_id (N := M) (c := 72) (f := M.1 72) (by first | rfl | (simp only [mput, mrow_same, mrow_hit, mrow_miss, mrow_sw, idr_eq, ne_eq, Nat.reduceEqDiff, not_false_eq_true, Nat.reduceLT, reduceCtorEq]; done))).symm).trans (by first | rfl | (simp only [mput, mrow_same, mrow_hit, mrow_miss, mrow_sw, idr_eq, ne_eq, Nat.reduceEqDiff, not_false_eq_true, Nat.reduceLT, reduceCtorEq]; done))) ?_
    exact G.reti (by decide +kernel) rfl rfl (Nat.le_of_ble_eq_true rfl) (Nat.le_of_ble_eq_true rfl) ((by rw [hQ]; simp only [k_letsLie_0, if_neg c1, mrow_self]))
theorem k_loses_01 (Rthing Rs : Nat → Int32) (n1 : Nat) (n2 : Nat) : (k_loses Rthing Rs n1 n2).1 = 0 ∨ (k_loses Rthing Rs n1 n2).1 = 1 := by
  unfold k_loses
  repeat' split
  all_goals first | exact Or.inl rfl | exact Or.inr rfl | (rename_i h9; have q9 := k_letsLie_0_01 (Rthing) (Rs) n1 n2; rw [h9] at q9; exact q9)
set_option maxHeartbeats 4000000 in
set_option maxRecDepth 3000 in
theorem c_k_loses_54 (z : Zp) (d : Nat) (M : Mem) (n1 : Nat) (n2 : Nat) (b1 : n1 < 6) (b2 : n2 < 10) : GM z mX12_loses (d + 1) [.ref 54, .int (nI n1), .int (nI n2)] M (fun rs => rs = .inl (some (.int ((k_loses (M.1 61) (M.1 72) n1 n2).1)), mrow M 72 ((k_loses (M.1 61) (M.1 72) n1 n2).2))) := by
  refine GM.of oX12_loses.1 (Nat.le_of_ble_eq_true rfl) ?_
  show G z mX12_loses (d + 1) 0 0 0 [some (.ref 54), some (.int (nI n1)), some (.int (nI n2))] [] M _
  obtain ⟨Q, hQ⟩ : ∃ Q : Rs → Prop, Q = (fun rs => rs = .inl (some (.int ((k_loses (M.1 61) (M.1 72) n1 n2).1)), mrow M 72 ((k_loses (M.1 61) (M.1 72) n1 n2).2))) := ⟨_, rfl⟩
  rw [← hQ]
  refine G.sl [(.aload_n 0, 1, 0, 0, 0, 0), (.getfield 68, 3, 11, 41, 164, 0), (.bipush 26, 2, 0, 0, 0, nI 26), (.iload_n 1, 1, 1, 0, 0, 0), (.iadd, 1, 0, 0, 0, 0), (.iaload, 1, 0, 0, 0, 0)] [26 + n1] (pc2 := 9) (ls2 := [some (.ref 54), some (.int (nI n1)), some (.int (nI n2))]) (st2 := [.int (M.1 72 (26 + n1))]) (M2 := M) (Ps := [((nI 26) + (nI n1)) = nI (26 + n1) ∧ (26 + n1) < 51]) (by decide +kernel) rfl rfl ⟨⟨(nI_add _ _), (by omega)⟩, trivial⟩ ?_
  refine G.if_le (off := (17)) (tgt := 26) (by decide +kernel) rfl (fun c1 => ?_) (fun c1 => ?_)
  · skip
    refine G.sl [(.iconst 0, 1, 0, 0, 0, nI 0)] [] (pc2 := 27) (ls2 := [some (.ref 54), some (.int (nI n1)), some (.int (nI n2))]) (st2 := [.int (nI 0)]) (M2 := M) (Ps := []) (by decide +kernel) rfl rfl trivial ?_
    refine G.mem (M' := mrow M 72 (M.1 72)) (((mrow_id (N := M) (c := 72) (f := M.1 72) (by first | rfl | (simp only [mput, mrow_same, mrow_hit, mrow_miss, mrow_sw, idr_eq, ne_eq, Nat.reduceEqDiff, not_false_eq_true, Nat.reduceLT, reduceCtorEq]; done))).symm).trans (by first | rfl | (simp only [mput, mrow_same, mrow_hit, mrow_miss, mrow_sw, idr_eq, ne_eq, Nat.reduceEqDiff, not_false_eq_true, Nat.reduceLT, reduceCtorEq]; done))) ?_
    exact G.reti (by decide +kernel) rfl rfl (Nat.le_of_ble_eq_true rfl) (Nat.le_of_ble_eq_true rfl) ((by rw [hQ]; simp only [k_loses, if_pos c1, mrow_self]))
  · skip
    refine G.sl [(.aload_n 0, 1, 0, 0, 0, 0), (.iload_n 1, 1, 1, 0, 0, 0), (.iload_n 2, 1, 2, 0, 0, 0), (.iconst 0, 1, 0, 0, 0, nI 0)] [] (pc2 := 16) (ls2 := [some (.ref 54), some (.int (nI n1)), some (.int (nI n2))]) (st2 := [.int (nI 0), .int (nI n2), .int (nI n1), .ref 54]) (M2 := M) (Ps := []) (by decide +kernel) rfl rfl trivial ?_
    rcases g3 : k_letsLie_0 (M.1 61) (M.1 72) n1 n2 with ⟨v4, r5⟩
    have ev4 : v4 = 0 ∨ v4 = 1 := by
      have q9 := k_letsLie_0_01 (M.1 61) (M.1 72) n1 n2
      rw [g3] at q9
      exact q9
    have t6 : GM z mX12_letsLie (d) [.ref 54, .int (nI n1), .int (nI n2), .int (nI 0)] M (fun rs => rs = .inl (some (.int v4), mrow M 72 r5)) := by
      have q9 := c_k_letsLie_0_54 z d M n1 n2 (by omega) (by omega)
      try simp only [mput, mrow_same, mrow_hit, mrow_miss, mrow_sw, idr_eq, ne_eq, Nat.reduceEqDiff, not_false_eq_true, Nat.reduceLT, reduceCtorEq, g3] at q9
      exact q9
    refine G.callV (as := [.int (nI n1), .int (nI n2), .int (nI 0)]) (rest := []) (a := 54) oX12_letsLie lk_EvenFindersModel_362 (by decide +kernel) rfl rfl ⟨rfl, rfl⟩ (Nat.le_of_ble_eq_true rfl) rfl ⟨Nat.le_of_ble_eq_true rfl, Nat.le_of_ble_eq_true rfl⟩ t6 (fun v9 N9 h7 => ?_) (fun E9 N9 h7 => by cases h7)
    cases h7
    show G z mX12_loses (d + 1) 0 0 19 [some (.ref 54), some (.int (nI n1)), some (.int (nI n2))] [.int v4] (mrow M 72 r5) Q
    refine G.if_eq (off := (7)) (tgt := 26) (by decide +kernel) rfl (fun c8 => ?_) (fun c8 => ?_)
    · skip
      refine G.sl [(.iconst 0, 1, 0, 0, 0, nI 0)] [] (pc2 := 27) (ls2 := [some (.ref 54), some (.int (nI n1)), some (.int (nI n2))]) (st2 := [.int (nI 0)]) (M2 := mrow M 72 r5) (Ps := []) (by decide +kernel) rfl rfl trivial ?_
      exact G.reti (by decide +kernel) rfl rfl (Nat.le_of_ble_eq_true rfl) (Nat.le_of_ble_eq_true rfl) ((by rw [hQ]; simp only [k_loses, if_neg c1, g3, if_pos c8, mrow_self]))
    · skip
      refine G.sl [(.iconst 1, 1, 0, 0, 0, nI 1), (.goto 4, 3, 27, 0, 0, 0)] [] (pc2 := 27) (ls2 := [some (.ref 54), some (.int (nI n1)), some (.int (nI n2))]) (st2 := [.int (nI 1)]) (M2 := mrow M 72 r5) (Ps := []) (by decide +kernel) rfl rfl trivial ?_
      exact G.reti (by decide +kernel) rfl rfl (Nat.le_of_ble_eq_true rfl) (Nat.le_of_ble_eq_true rfl) ((by rw [hQ]; simp only [k_loses, if_neg c1, g3, if_neg c8, mrow_self]))
set_option maxHeartbeats 4000000 in
set_option maxRecDepth 3000 in
theorem lp_k_yearGoes_54_40d (z : Zp) (d : Nat) (M : Mem) (Q : Rs → Prop) (x2 : Int32) (x3 : Int32) : ∀ (k0 : Nat) (s5 : Int32) (q54 : (Nat → Int32)) (q67 : (Nat → Int32)) (q68 : (Nat → Int32)) (q72 : (Nat → Int32)), k_yearGoes_40d_ok (M.1 60) (M.1 61) (M.1 65) (M.1 66) x2 x3 k0 s5 q54 q67 q68 q72 → (match k_yearGoes_40d (M.1 60) (M.1 61) (M.1 65) (M.1 66) x2 x3 k0 s5 q54 q67 q68 q72 with | (s5', q54', q67', q68', q72') => G z mX12_yearGoes (d + 6) 0 0 147 [none, none, none, none, none, none, none, none] [] (mrow (mrow (mrow (mrow M 54 (q54')) 67 (q67')) 68 (q68')) 72 (q72')) Q) → G z mX12_yearGoes (d + 6) 0 0 40 [some (.ref 54), none, some (.int x2), some (.int x3), some (.int (nI 1)), some (.int s5), none, none] [] (mrow (mrow (mrow (mrow M 54 q54) 67 q67) 68 q68) 72 q72) Q := by
  intro k0
  induction k0 with
  | zero =>
      intro s5 q54 q67 q68 q72 hk hX
      exact (by simpa only [k_yearGoes_40d_ok] using hk : False).elim
  | succ k0 ih =>
      intro s5 q54 q67 q68 q72 hk hX
      simp only [k_yearGoes_40d_ok] at hk
      refine G.sl [(.iload 5, 2, 5, 0, 0, 0), (.iconst 3, 1, 0, 0, 0, nI 3), (.iload_n 3, 1, 3, 0, 0, 0), (.imul, 1, 0, 0, 0, 0)] [] (pc2 := 45) (ls2 := [some (.ref 54), none, some (.int x2), some (.int x3), some (.int (nI 1)), some (.int s5), none, none]) (st2 := [.int ((nI 3) * x3), .int s5]) (M2 := mrow (mrow (mrow (mrow M 54 q54) 67 q67) 68 q68) 72 q72) (Ps := []) (by decide +kernel) rfl rfl trivial ?_
      refine G.ic_ge (off := (102)) (tgt := 147) (by decide +kernel) rfl (fun c67 => ?_) (fun c67 => ?_)
      · skip
        rw [if_pos c67] at hk
        refine G.loc (ls2 := [none, none, none, none, none, none, none, none]) (by simp [subL]) ?_
        simp only [k_yearGoes_40d, if_pos c67] at hX
        exact hX
      · skip
        rw [if_neg c67] at hk
        refine G.sl [(.iload 4, 2, 4, 0, 0, 0)] [] (pc2 := 50) (ls2 := [some (.ref 54), none, some (.int x2), some (.int x3), some (.int (nI 1)), some (.int s5), none, none]) (st2 := [.int (nI 1)]) (M2 := mrow (mrow (mrow (mrow M 54 q54) 67 q67) 68 q68) 72 q72) (Ps := []) (by decide +kernel) rfl rfl trivial ?_
        refine G.if_eq (off := (79)) (tgt := 129) (by decide +kernel) rfl (fun h9 => absurd h9 (by decide)) (fun _ => ?_)
        refine G.sl [(.aload_n 0, 1, 0, 0, 0, 0), (.aload_n 0, 1, 0, 0, 0, 0), (.getfield 165, 3, 11, 23, 146, 0)] [] (pc2 := 58) (ls2 := [some (.ref 54), none, some (.int x2), some (.int x3), some (.int (nI 1)), some (.int s5), none, none]) (st2 := [.int (q54 23), .ref 54]) (M2 := mrow (mrow (mrow (mrow M 54 q54) 67 q67) 68 q68) 72 q72) (Ps := []) (by decide +kernel) rfl rfl trivial ?_
        obtain ⟨k68, hk⟩ := hk
        rcases g69 : k_draws q54 (q54 23) with ⟨v70, r71⟩
        try simp only [g69] at hk
        have t72 : GM z mX12_draws (d + 5) [.ref 54, .int (q54 23)] (mrow (mrow (mrow (mrow M 54 q54) 67 q67) 68 q68) 72 q72) (fun rs => rs = .inl (some (.int v70), mrow (mrow (mrow (mrow M 54 r71) 67 q67) 68 q68) 72 q72)) := by
          have q9 := c_k_draws_54 z (d + 5) (mrow (mrow (mrow (mrow M 54 q54) 67 q67) 68 q68) 72 q72) (q54 23) k68
          try simp only [mput, mrow_same, mrow_hit, mrow_miss, mrow_sw, idr_eq, ne_eq, Nat.reduceEqDiff, not_false_eq_true, Nat.reduceLT, reduceCtorEq, g69] at q9
          exact q9
        refine G.callV (as := [.int (q54 23)]) (rest := []) (a := 54) oX12_draws lk_EvenFindersModel_436 (by decide +kernel) rfl rfl ⟨rfl, rfl⟩ (Nat.le_of_ble_eq_true rfl) rfl ⟨Nat.le_of_ble_eq_true rfl, Nat.le_of_ble_eq_true rfl⟩ t72 (fun v9 N9 h73 => ?_) (fun E9 N9 h73 => by cases h73)
        cases h73
        show G z mX12_yearGoes (d + 6) 0 0 61 [some (.ref 54), none, some (.int x2), some (.int x3), some (.int (nI 1)), some (.int s5), none, none] [.int v70] (mrow (mrow (mrow (mrow M 54 r71) 67 q67) 68 q68) 72 q72) Q
        refine G.sl [(.istore 6, 2, 6, 0, 0, 0), (.aload_n 0, 1, 0, 0, 0, 0), (.iload 6, 2, 6, 0, 0, 0), (.aload_n 0, 1, 0, 0, 0, 0), (.aload_n 0, 1, 0, 0, 0, 0), (.getfield 159, 3, 11, 21, 144, 0)] [] (pc2 := 71) (ls2 := [some (.ref 54), none, some (.int x2), some (.int x3), some (.int (nI 1)), some (.int s5), some (.int v70), none]) (st2 := [.int (r71 21), .ref 54, .int v70, .ref 54]) (M2 := mrow (mrow (mrow (mrow M 54 r71) 67 q67) 68 q68) 72 q72) (Ps := []) (by decide +kernel) rfl rfl trivial ?_
        obtain ⟨k74, hk⟩ := hk
        rcases g75 : k_draws r71 (r71 21) with ⟨v76, r77⟩
        try simp only [g75] at hk
        have t78 : GM z mX12_draws (d + 5) [.ref 54, .int (r71 21)] (mrow (mrow (mrow (mrow M 54 r71) 67 q67) 68 q68) 72 q72) (fun rs => rs = .inl (some (.int v76), mrow (mrow (mrow (mrow M 54 r77) 67 q67) 68 q68) 72 q72)) := by
          have q9 := c_k_draws_54 z (d + 5) (mrow (mrow (mrow (mrow M 54 r71) 67 q67) 68 q68) 72 q72) (r71 21) k74
          try simp only [mput, mrow_same, mrow_hit, mrow_miss, mrow_sw, idr_eq, ne_eq, Nat.reduceEqDiff, not_false_eq_true, Nat.reduceLT, reduceCtorEq, g75] at q9
          exact q9
        refine G.callV (as := [.int (r71 21)]) (rest := [.int v70, .ref 54]) (a := 54) oX12_draws lk_EvenFindersModel_436 (by decide +kernel) rfl rfl ⟨rfl, rfl⟩ (Nat.le_of_ble_eq_true rfl) rfl ⟨Nat.le_of_ble_eq_true rfl, Nat.le_of_ble_eq_true rfl⟩ t78 (fun v9 N9 h79 => ?_) (fun E9 N9 h79 => by cases h79)
        cases h79
        show G z mX12_yearGoes (d + 6) 0 0 74 [some (.ref 54), none, some (.int x2), some (.int x3), some (.int (nI 1)), some (.int s5), some (.int v70), none] [.int v76, .int v70, .ref 54] (mrow (mrow (mrow (mrow M 54 r77) 67 q67) 68 q68) 72 q72) Q
        obtain ⟨k80, k81, k82, k83, k84, k85, hk⟩ := hk
        obtain ⟨k86, hk⟩ := hk
        refine G.eq (st' := [.int (nI (ix v76)), .int (nI (ix v70)), .ref 54]) ?_ rfl (by rw [← (show v70 = nI (ix v70) from (ixE k80)), ← (show v76 = nI (ix v76) from (ixE k82))]) rfl
        rcases g87 : k_walks (M.1 60) q72 (ix (r77 22)) (ix v70) (ix v76) with ⟨v88, r89⟩
        try simp only [g87] at hk
        have ev88 : v88 = 0 ∨ v88 = 1 := by
          have q9 := k_walks_01 (M.1 60) q72 (ix (r77 22)) (ix v70) (ix v76)
          rw [g87] at q9
          exact q9
        have t90 : GM z mX12_walks (d + 5) [.ref 54, .int (nI (ix v70)), .int (nI (ix v76))] (mrow (mrow (mrow (mrow M 54 r77) 67 q67) 68 q68) 72 q72) (fun rs => rs = .inl (some (.int v88), mrow (mrow (mrow (mrow M 54 r77) 67 q67) 68 q68) 72 r89)) := by
          have q9 := c_k_walks_54 z (d + 5) (mrow (mrow (mrow (mrow M 54 r77) 67 q67) 68 q68) 72 q72) (ix v70) (ix v76) (ix (r77 22)) k85 (ixE k84) k81 k83
          try simp only [mput, mrow_same, mrow_hit, mrow_miss, mrow_sw, idr_eq, ne_eq, Nat.reduceEqDiff, not_false_eq_true, Nat.reduceLT, reduceCtorEq, g87] at q9
          exact q9
        refine G.callV (as := [.int (nI (ix v70)), .int (nI (ix v76))]) (rest := []) (a := 54) oX12_walks lk_EvenFindersModel_365 (by decide +kernel) rfl rfl ⟨rfl, rfl⟩ (Nat.le_of_ble_eq_true rfl) rfl ⟨Nat.le_of_ble_eq_true rfl, Nat.le_of_ble_eq_true rfl⟩ t90 (fun v9 N9 h91 => ?_) (fun E9 N9 h91 => by cases h91)
        cases h91
        show G z mX12_yearGoes (d + 6) 0 0 77 [some (.ref 54), none, some (.int x2), some (.int x3), some (.int (nI 1)), some (.int s5), some (.int v70), none] [.int v88] (mrow (mrow (mrow (mrow M 54 r77) 67 q67) 68 q68) 72 r89) Q
        refine G.sl [(.pop, 1, 0, 0, 0, 0), (.aload_n 0, 1, 0, 0, 0, 0), (.aload_n 0, 1, 0, 0, 0, 0), (.getfield 162, 3, 11, 22, 145, 0)] [] (pc2 := 83) (ls2 := [some (.ref 54), none, some (.int x2), some (.int x3), some (.int (nI 1)), some (.int s5), some (.int v70), none]) (st2 := [.int (r77 22), .ref 54]) (M2 := mrow (mrow (mrow (mrow M 54 r77) 67 q67) 68 q68) 72 r89) (Ps := []) (by decide +kernel) rfl rfl trivial ?_
        obtain ⟨k92, hk⟩ := hk
        rcases g93 : k_draws r77 (r77 22) with ⟨v94, r95⟩
        try simp only [g93] at hk
        have t96 : GM z mX12_draws (d + 5) [.ref 54, .int (r77 22)] (mrow (mrow (mrow (mrow M 54 r77) 67 q67) 68 q68) 72 r89) (fun rs => rs = .inl (some (.int v94), mrow (mrow (mrow (mrow M 54 r95) 67 q67) 68 q68) 72 r89)) := by
          have q9 := c_k_draws_54 z (d + 5) (mrow (mrow (mrow (mrow M 54 r77) 67 q67) 68 q68) 72 r89) (r77 22) k92
          try simp only [mput, mrow_same, mrow_hit, mrow_miss, mrow_sw, idr_eq, ne_eq, Nat.reduceEqDiff, not_false_eq_true, Nat.reduceLT, reduceCtorEq, g93] at q9
          exact q9
        refine G.callV (as := [.int (r77 22)]) (rest := []) (a := 54) oX12_draws lk_EvenFindersModel_436 (by decide +kernel) rfl rfl ⟨rfl, rfl⟩ (Nat.le_of_ble_eq_true rfl) rfl ⟨Nat.le_of_ble_eq_true rfl, Nat.le_of_ble_eq_true rfl⟩ t96 (fun v9 N9 h97 => ?_) (fun E9 N9 h97 => by cases h97)
        cases h97
        show G z mX12_yearGoes (d + 6) 0 0 86 [some (.ref 54), none, some (.int x2), some (.int x3), some (.int (nI 1)), some (.int s5), some (.int v70), none] [.int v94] (mrow (mrow (mrow (mrow M 54 r95) 67 q67) 68 q68) 72 r89) Q
        refine G.sl [(.istore 7, 2, 7, 0, 0, 0), (.aload_n 0, 1, 0, 0, 0, 0), (.iload 6, 2, 6, 0, 0, 0), (.iload 7, 2, 7, 0, 0, 0)] [] (pc2 := 93) (ls2 := [some (.ref 54), none, some (.int x2), some (.int x3), some (.int (nI 1)), some (.int s5), some (.int v70), some (.int v94)]) (st2 := [.int v94, .int v70, .ref 54]) (M2 := mrow (mrow (mrow (mrow M 54 r95) 67 q67) 68 q68) 72 r89) (Ps := []) (by decide +kernel) rfl rfl trivial ?_
        obtain ⟨k98, k99, k100, k101, hk⟩ := hk
        obtain ⟨k102, hk⟩ := hk
        refine G.eq (st' := [.int (nI (ix v94)), .int (nI (ix v70)), .ref 54]) ?_ rfl (by rw [← (show v70 = nI (ix v70) from (ixE k80)), ← (show v94 = nI (ix v94) from (ixE k98))]) rfl
        rcases g103 : k_finds r95 (M.1 61) (M.1 65) (M.1 66) q67 q68 r89 (ix (r95 22)) (ix v70) (ix v94) with ⟨v104, r105, r106, r107⟩
        try simp only [g103] at hk
        have ev104 : v104 = 0 ∨ v104 = 1 := by
          have q9 := k_finds_01 r95 (M.1 61) (M.1 65) (M.1 66) q67 q68 r89 (ix (r95 22)) (ix v70) (ix v94)
          rw [g103] at q9
          exact q9
        have t108 : GM z mX12_finds (d + 5) [.ref 54, .int (nI (ix v70)), .int (nI (ix v94))] (mrow (mrow (mrow (mrow M 54 r95) 67 q67) 68 q68) 72 r89) (fun rs => rs = .inl (some (.int v104), mrow (mrow (mrow (mrow M 54 r95) 67 r105) 68 r106) 72 r107)) := by
          have q9 := c_k_finds_54 z d (mrow (mrow (mrow (mrow M 54 r95) 67 q67) 68 q68) 72 r89) (ix v70) (ix v94) (ix (r95 22)) k101 (ixE k100) k81 k99 k102
          try simp only [mput, mrow_same, mrow_hit, mrow_miss, mrow_sw, idr_eq, ne_eq, Nat.reduceEqDiff, not_false_eq_true, Nat.reduceLT, reduceCtorEq, g103] at q9
          exact q9
        refine G.callV (as := [.int (nI (ix v70)), .int (nI (ix v94))]) (rest := []) (a := 54) oX12_finds lk_EvenFindersModel_368 (by decide +kernel) rfl rfl ⟨rfl, rfl⟩ (Nat.le_of_ble_eq_true rfl) rfl ⟨Nat.le_of_ble_eq_true rfl, Nat.le_of_ble_eq_true rfl⟩ t108 (fun v9 N9 h109 => ?_) (fun E9 N9 h109 => by cases h109)
        cases h109
        show G z mX12_yearGoes (d + 6) 0 0 96 [some (.ref 54), none, some (.int x2), some (.int x3), some (.int (nI 1)), some (.int s5), some (.int v70), some (.int v94)] [.int v104] (mrow (mrow (mrow (mrow M 54 r95) 67 r105) 68 r106) 72 r107) Q
        refine G.if_ne (off := (12)) (tgt := 108) (by decide +kernel) rfl (fun c110 => ?_) (fun c110 => ?_)
        · skip
          rw [if_neg c110] at hk
          refine G.sl [(.aload_n 0, 1, 0, 0, 0, 0), (.bipush 16, 2, 0, 0, 0, nI 16)] [] (pc2 := 111) (ls2 := [some (.ref 54), none, some (.int x2), some (.int x3), some (.int (nI 1)), some (.int s5), some (.int v70), some (.int v94)]) (st2 := [.int (nI 16), .ref 54]) (M2 := mrow (mrow (mrow (mrow M 54 r95) 67 r105) 68 r106) 72 r107) (Ps := []) (by decide +kernel) rfl rfl trivial ?_
          obtain ⟨k111, hk⟩ := hk
          rcases g112 : k_draws r95 (nI 16) with ⟨v113, r114⟩
          try simp only [g112] at hk
          have t115 : GM z mX12_draws (d + 5) [.ref 54, .int (nI 16)] (mrow (mrow (mrow (mrow M 54 r95) 67 r105) 68 r106) 72 r107) (fun rs => rs = .inl (some (.int v113), mrow (mrow (mrow (mrow M 54 r114) 67 r105) 68 r106) 72 r107)) := by
            have q9 := c_k_draws_54 z (d + 5) (mrow (mrow (mrow (mrow M 54 r95) 67 r105) 68 r106) 72 r107) (nI 16) k111
            try simp only [mput, mrow_same, mrow_hit, mrow_miss, mrow_sw, idr_eq, ne_eq, Nat.reduceEqDiff, not_false_eq_true, Nat.reduceLT, reduceCtorEq, g112] at q9
            exact q9
          refine G.callV (as := [.int (nI 16)]) (rest := []) (a := 54) oX12_draws lk_EvenFindersModel_436 (by decide +kernel) rfl rfl ⟨rfl, rfl⟩ (Nat.le_of_ble_eq_true rfl) rfl ⟨Nat.le_of_ble_eq_true rfl, Nat.le_of_ble_eq_true rfl⟩ t115 (fun v9 N9 h116 => ?_) (fun E9 N9 h116 => by cases h116)
          cases h116
          show G z mX12_yearGoes (d + 6) 0 0 114 [some (.ref 54), none, some (.int x2), some (.int x3), some (.int (nI 1)), some (.int s5), some (.int v70), some (.int v94)] [.int v113] (mrow (mrow (mrow (mrow M 54 r114) 67 r105) 68 r106) 72 r107) Q
          refine G.sl [(.iload_n 2, 1, 2, 0, 0, 0)] [] (pc2 := 115) (ls2 := [some (.ref 54), none, some (.int x2), some (.int x3), some (.int (nI 1)), some (.int s5), some (.int v70), some (.int v94)]) (st2 := [.int x2, .int v113]) (M2 := mrow (mrow (mrow (mrow M 54 r114) 67 r105) 68 r106) 72 r107) (Ps := []) (by decide +kernel) rfl rfl trivial ?_
          refine G.ic_ge (off := (14)) (tgt := 129) (by decide +kernel) rfl (fun c117 => ?_) (fun c117 => ?_)
          · skip
            rw [if_pos c117] at hk
            refine G.sl [(.iload 5, 2, 5, 0, 0, 0), (.iconst 3, 1, 0, 0, 0, nI 3), (.irem, 1, 0, 0, 0, 0), (.iconst 2, 1, 0, 0, 0, nI 2)] [] (pc2 := 134) (ls2 := [some (.ref 54), none, some (.int x2), some (.int x3), some (.int (nI 1)), some (.int s5), some (.int v70), some (.int v94)]) (st2 := [.int (nI 2), .int (s5 - s5 / (nI 3) * (nI 3))]) (M2 := mrow (mrow (mrow (mrow M 54 r114) 67 r105) 68 r106) 72 r107) (Ps := [¬ (nI 3) = 0]) (by decide +kernel) rfl rfl ⟨(by decide), trivial⟩ ?_
            refine G.ic_ne (off := (7)) (tgt := 141) (by decide +kernel) rfl (fun c118 => ?_) (fun c118 => ?_)
            · skip
              rw [if_neg c118] at hk
              refine G.sl [(.iinc 5 1, 3, 5, 0, 0, nI 1), (.goto (-104), 3, 40, 0, 0, 0)] [] (pc2 := 40) (ls2 := [some (.ref 54), none, some (.int x2), some (.int x3), some (.int (nI 1)), some (.int (s5 + nI 1)), some (.int v70), some (.int v94)]) (st2 := []) (M2 := mrow (mrow (mrow (mrow M 54 r114) 67 r105) 68 r106) 72 r107) (Ps := []) (by decide +kernel) rfl rfl trivial ?_
              refine G.loc (ls2 := [some (.ref 54), none, some (.int x2), some (.int x3), some (.int (nI 1)), some (.int (s5 + nI 1)), none, none]) (by simp [subL]) ?_
              simp only [k_yearGoes_40d, if_neg c67, g69, g75, g87, g93, g103, if_neg c110, g112, if_pos c117, if_neg c118] at hX
              exact ih (s5 + nI 1) r114 r105 r106 r107 hk hX
            · skip
              rw [if_pos c118] at hk
              refine G.sl [(.aload_n 0, 1, 0, 0, 0, 0)] [] (pc2 := 138) (ls2 := [some (.ref 54), none, some (.int x2), some (.int x3), some (.int (nI 1)), some (.int s5), some (.int v70), some (.int v94)]) (st2 := [.ref 54]) (M2 := mrow (mrow (mrow (mrow M 54 r114) 67 r105) 68 r106) 72 r107) (Ps := []) (by decide +kernel) rfl rfl trivial ?_
              obtain ⟨k119, k120, k121, k122, hk⟩ := hk
              obtain ⟨k123, hk⟩ := hk
              rcases g124 : k_passes (M.1 61) r107 (ix (r114 22)) (ix (r114 23)) with ⟨u125, r126⟩
              try simp only [g124] at hk
              have t127 : GM z mX12_passes (d + 5) [.ref 54] (mrow (mrow (mrow (mrow M 54 r114) 67 r105) 68 r106) 72 r107) (fun rs => rs = .inl (none, mrow (mrow (mrow (mrow M 54 r114) 67 r105) 68 r106) 72 r126)) := by
                have q9 := c_k_passes_54 z (d + 5) (mrow (mrow (mrow (mrow M 54 r114) 67 r105) 68 r106) 72 r107) (ix (r114 22)) k120 (ixE k119) (ix (r114 23)) k122 (ixE k121) k123
                try simp only [mput, mrow_same, mrow_hit, mrow_miss, mrow_sw, idr_eq, ne_eq, Nat.reduceEqDiff, not_false_eq_true, Nat.reduceLT, reduceCtorEq, g124] at q9
                exact q9
              refine G.callV (as := []) (rest := []) (a := 54) oX12_passes lk_EvenFindersModel_373 (by decide +kernel) rfl rfl ⟨rfl, rfl⟩ (Nat.le_of_ble_eq_true rfl) rfl ⟨Nat.le_of_ble_eq_true rfl, Nat.le_of_ble_eq_true rfl⟩ t127 (fun v9 N9 h128 => ?_) (fun E9 N9 h128 => by cases h128)
              cases h128
              show G z mX12_yearGoes (d + 6) 0 0 141 [some (.ref 54), none, some (.int x2), some (.int x3), some (.int (nI 1)), some (.int s5), some (.int v70), some (.int v94)] [] (mrow (mrow (mrow (mrow M 54 r114) 67 r105) 68 r106) 72 r126) Q
              refine G.sl [(.iinc 5 1, 3, 5, 0, 0, nI 1), (.goto (-104), 3, 40, 0, 0, 0)] [] (pc2 := 40) (ls2 := [some (.ref 54), none, some (.int x2), some (.int x3), some (.int (nI 1)), some (.int (s5 + nI 1)), some (.int v70), some (.int v94)]) (st2 := []) (M2 := mrow (mrow (mrow (mrow M 54 r114) 67 r105) 68 r106) 72 r126) (Ps := []) (by decide +kernel) rfl rfl trivial ?_
              refine G.loc (ls2 := [some (.ref 54), none, some (.int x2), some (.int x3), some (.int (nI 1)), some (.int (s5 + nI 1)), none, none]) (by simp [subL]) ?_
              simp only [k_yearGoes_40d, if_neg c67, g69, g75, g87, g93, g103, if_neg c110, g112, if_pos c117, if_pos c118, g124] at hX
              exact ih (s5 + nI 1) r114 r105 r106 r126 hk hX
          · skip
            rw [if_neg c117] at hk
            refine G.sl [(.aload_n 0, 1, 0, 0, 0, 0), (.iload 6, 2, 6, 0, 0, 0), (.iload 7, 2, 7, 0, 0, 0), (.bipush (-99), 2, 0, 0, 0, (-99))] [] (pc2 := 125) (ls2 := [some (.ref 54), none, some (.int x2), some (.int x3), some (.int (nI 1)), some (.int s5), some (.int v70), some (.int v94)]) (st2 := [.int ((-99)), .int v94, .int v70, .ref 54]) (M2 := mrow (mrow (mrow (mrow M 54 r114) 67 r105) 68 r106) 72 r107) (Ps := []) (by decide +kernel) rfl rfl trivial ?_
            obtain ⟨k129, hk⟩ := hk
            refine G.eq (st' := [.int ((-99)), .int (nI (ix v94)), .int (nI (ix v70)), .ref 54]) ?_ rfl (by rw [← (show v70 = nI (ix v70) from (ixE k80)), ← (show v94 = nI (ix v94) from (ixE k98))]) rfl
            rcases g130 : k_letsLie_m99 (M.1 61) r107 (ix v70) (ix v94) with ⟨v131, r132⟩
            try simp only [g130] at hk
            have ev131 : v131 = 0 ∨ v131 = 1 := by
              have q9 := k_letsLie_m99_01 (M.1 61) r107 (ix v70) (ix v94)
              rw [g130] at q9
              exact q9
            have t133 : GM z mX12_letsLie (d + 5) [.ref 54, .int (nI (ix v70)), .int (nI (ix v94)), .int ((-99))] (mrow (mrow (mrow (mrow M 54 r114) 67 r105) 68 r106) 72 r107) (fun rs => rs = .inl (some (.int v131), mrow (mrow (mrow (mrow M 54 r114) 67 r105) 68 r106) 72 r132)) := by
              have q9 := c_k_letsLie_m99_54 z (d + 5) (mrow (mrow (mrow (mrow M 54 r114) 67 r105) 68 r106) 72 r107) (ix v70) (ix v94) k81 k99
              try simp only [mput, mrow_same, mrow_hit, mrow_miss, mrow_sw, idr_eq, ne_eq, Nat.reduceEqDiff, not_false_eq_true, Nat.reduceLT, reduceCtorEq, g130] at q9
              exact q9
            refine G.callV (as := [.int (nI (ix v70)), .int (nI (ix v94)), .int ((-99))]) (rest := []) (a := 54) oX12_letsLie lk_EvenFindersModel_362 (by decide +kernel) rfl rfl ⟨rfl, rfl⟩ (Nat.le_of_ble_eq_true rfl) rfl ⟨Nat.le_of_ble_eq_true rfl, Nat.le_of_ble_eq_true rfl⟩ t133 (fun v9 N9 h134 => ?_) (fun E9 N9 h134 => by cases h134)
            cases h134
            show G z mX12_yearGoes (d + 6) 0 0 128 [some (.ref 54), none, some (.int x2), some (.int x3), some (.int (nI 1)), some (.int s5), some (.int v70), some (.int v94)] [.int v131] (mrow (mrow (mrow (mrow M 54 r114) 67 r105) 68 r106) 72 r132) Q
            refine G.sl [(.pop, 1, 0, 0, 0, 0), (.iload 5, 2, 5, 0, 0, 0), (.iconst 3, 1, 0, 0, 0, nI 3), (.irem, 1, 0, 0, 0, 0), (.iconst 2, 1, 0, 0, 0, nI 2)] [] (pc2 := 134) (ls2 := [some (.ref 54), none, some (.int x2), some (.int x3), some (.int (nI 1)), some (.int s5), some (.int v70), some (.int v94)]) (st2 := [.int (nI 2), .int (s5 - s5 / (nI 3) * (nI 3))]) (M2 := mrow (mrow (mrow (mrow M 54 r114) 67 r105) 68 r106) 72 r132) (Ps := [¬ (nI 3) = 0]) (by decide +kernel) rfl rfl ⟨(by decide), trivial⟩ ?_
            refine G.ic_ne (off := (7)) (tgt := 141) (by decide +kernel) rfl (fun c135 => ?_) (fun c135 => ?_)
            · skip
              rw [if_neg c135] at hk
              refine G.sl [(.iinc 5 1, 3, 5, 0, 0, nI 1), (.goto (-104), 3, 40, 0, 0, 0)] [] (pc2 := 40) (ls2 := [some (.ref 54), none, some (.int x2), some (.int x3), some (.int (nI 1)), some (.int (s5 + nI 1)), some (.int v70), some (.int v94)]) (st2 := []) (M2 := mrow (mrow (mrow (mrow M 54 r114) 67 r105) 68 r106) 72 r132) (Ps := []) (by decide +kernel) rfl rfl trivial ?_
              refine G.loc (ls2 := [some (.ref 54), none, some (.int x2), some (.int x3), some (.int (nI 1)), some (.int (s5 + nI 1)), none, none]) (by simp [subL]) ?_
              simp only [k_yearGoes_40d, if_neg c67, g69, g75, g87, g93, g103, if_neg c110, g112, if_neg c117, g130, if_neg c135] at hX
              exact ih (s5 + nI 1) r114 r105 r106 r132 hk hX
            · skip
              rw [if_pos c135] at hk
              refine G.sl [(.aload_n 0, 1, 0, 0, 0, 0)] [] (pc2 := 138) (ls2 := [some (.ref 54), none, some (.int x2), some (.int x3), some (.int (nI 1)), some (.int s5), some (.int v70), some (.int v94)]) (st2 := [.ref 54]) (M2 := mrow (mrow (mrow (mrow M 54 r114) 67 r105) 68 r106) 72 r132) (Ps := []) (by decide +kernel) rfl rfl trivial ?_
              obtain ⟨k136, k137, k138, k139, hk⟩ := hk
              obtain ⟨k140, hk⟩ := hk
              rcases g141 : k_passes (M.1 61) r132 (ix (r114 22)) (ix (r114 23)) with ⟨u142, r143⟩
              try simp only [g141] at hk
              have t144 : GM z mX12_passes (d + 5) [.ref 54] (mrow (mrow (mrow (mrow M 54 r114) 67 r105) 68 r106) 72 r132) (fun rs => rs = .inl (none, mrow (mrow (mrow (mrow M 54 r114) 67 r105) 68 r106) 72 r143)) := by
                have q9 := c_k_passes_54 z (d + 5) (mrow (mrow (mrow (mrow M 54 r114) 67 r105) 68 r106) 72 r132) (ix (r114 22)) k137 (ixE k136) (ix (r114 23)) k139 (ixE k138) k140
                try simp only [mput, mrow_same, mrow_hit, mrow_miss, mrow_sw, idr_eq, ne_eq, Nat.reduceEqDiff, not_false_eq_true, Nat.reduceLT, reduceCtorEq, g141] at q9
                exact q9
              refine G.callV (as := []) (rest := []) (a := 54) oX12_passes lk_EvenFindersModel_373 (by decide +kernel) rfl rfl ⟨rfl, rfl⟩ (Nat.le_of_ble_eq_true rfl) rfl ⟨Nat.le_of_ble_eq_true rfl, Nat.le_of_ble_eq_true rfl⟩ t144 (fun v9 N9 h145 => ?_) (fun E9 N9 h145 => by cases h145)
              cases h145
              show G z mX12_yearGoes (d + 6) 0 0 141 [some (.ref 54), none, some (.int x2), some (.int x3), some (.int (nI 1)), some (.int s5), some (.int v70), some (.int v94)] [] (mrow (mrow (mrow (mrow M 54 r114) 67 r105) 68 r106) 72 r143) Q
              refine G.sl [(.iinc 5 1, 3, 5, 0, 0, nI 1), (.goto (-104), 3, 40, 0, 0, 0)] [] (pc2 := 40) (ls2 := [some (.ref 54), none, some (.int x2), some (.int x3), some (.int (nI 1)), some (.int (s5 + nI 1)), some (.int v70), some (.int v94)]) (st2 := []) (M2 := mrow (mrow (mrow (mrow M 54 r114) 67 r105) 68 r106) 72 r143) (Ps := []) (by decide +kernel) rfl rfl trivial ?_
              refine G.loc (ls2 := [some (.ref 54), none, some (.int x2), some (.int x3), some (.int (nI 1)), some (.int (s5 + nI 1)), none, none]) (by simp [subL]) ?_
              simp only [k_yearGoes_40d, if_neg c67, g69, g75, g87, g93, g103, if_neg c110, g112, if_neg c117, g130, if_pos c135, g141] at hX
              exact ih (s5 + nI 1) r114 r105 r106 r143 hk hX
        · skip
          rw [if_pos c110] at hk
          refine G.sl [(.aload_n 0, 1, 0, 0, 0, 0), (.iload 6, 2, 6, 0, 0, 0), (.iload 7, 2, 7, 0, 0, 0)] [] (pc2 := 104) (ls2 := [some (.ref 54), none, some (.int x2), some (.int x3), some (.int (nI 1)), some (.int s5), some (.int v70), some (.int v94)]) (st2 := [.int v94, .int v70, .ref 54]) (M2 := mrow (mrow (mrow (mrow M 54 r95) 67 r105) 68 r106) 72 r107) (Ps := []) (by decide +kernel) rfl rfl trivial ?_
          obtain ⟨k146, hk⟩ := hk
          refine G.eq (st' := [.int (nI (ix v94)), .int (nI (ix v70)), .ref 54]) ?_ rfl (by rw [← (show v70 = nI (ix v70) from (ixE k80)), ← (show v94 = nI (ix v94) from (ixE k98))]) rfl
          rcases g147 : k_loses (M.1 61) r107 (ix v70) (ix v94) with ⟨v148, r149⟩
          try simp only [g147] at hk
          have ev148 : v148 = 0 ∨ v148 = 1 := by
            have q9 := k_loses_01 (M.1 61) r107 (ix v70) (ix v94)
            rw [g147] at q9
            exact q9
          have t150 : GM z mX12_loses (d + 5) [.ref 54, .int (nI (ix v70)), .int (nI (ix v94))] (mrow (mrow (mrow (mrow M 54 r95) 67 r105) 68 r106) 72 r107) (fun rs => rs = .inl (some (.int v148), mrow (mrow (mrow (mrow M 54 r95) 67 r105) 68 r106) 72 r149)) := by
            have q9 := c_k_loses_54 z (d + 4) (mrow (mrow (mrow (mrow M 54 r95) 67 r105) 68 r106) 72 r107) (ix v70) (ix v94) k81 k99
            try simp only [mput, mrow_same, mrow_hit, mrow_miss, mrow_sw, idr_eq, ne_eq, Nat.reduceEqDiff, not_false_eq_true, Nat.reduceLT, reduceCtorEq, g147] at q9
            exact q9
          refine G.callV (as := [.int (nI (ix v70)), .int (nI (ix v94))]) (rest := []) (a := 54) oX12_loses lk_EvenFindersModel_370 (by decide +kernel) rfl rfl ⟨rfl, rfl⟩ (Nat.le_of_ble_eq_true rfl) rfl ⟨Nat.le_of_ble_eq_true rfl, Nat.le_of_ble_eq_true rfl⟩ t150 (fun v9 N9 h151 => ?_) (fun E9 N9 h151 => by cases h151)
          cases h151
          show G z mX12_yearGoes (d + 6) 0 0 107 [some (.ref 54), none, some (.int x2), some (.int x3), some (.int (nI 1)), some (.int s5), some (.int v70), some (.int v94)] [.int v148] (mrow (mrow (mrow (mrow M 54 r95) 67 r105) 68 r106) 72 r149) Q
          refine G.sl [(.pop, 1, 0, 0, 0, 0), (.aload_n 0, 1, 0, 0, 0, 0), (.bipush 16, 2, 0, 0, 0, nI 16)] [] (pc2 := 111) (ls2 := [some (.ref 54), none, some (.int x2), some (.int x3), some (.int (nI 1)), some (.int s5), some (.int v70), some (.int v94)]) (st2 := [.int (nI 16), .ref 54]) (M2 := mrow (mrow (mrow (mrow M 54 r95) 67 r105) 68 r106) 72 r149) (Ps := []) (by decide +kernel) rfl rfl trivial ?_
          obtain ⟨k152, hk⟩ := hk
          rcases g153 : k_draws r95 (nI 16) with ⟨v154, r155⟩
          try simp only [g153] at hk
          have t156 : GM z mX12_draws (d + 5) [.ref 54, .int (nI 16)] (mrow (mrow (mrow (mrow M 54 r95) 67 r105) 68 r106) 72 r149) (fun rs => rs = .inl (some (.int v154), mrow (mrow (mrow (mrow M 54 r155) 67 r105) 68 r106) 72 r149)) := by
            have q9 := c_k_draws_54 z (d + 5) (mrow (mrow (mrow (mrow M 54 r95) 67 r105) 68 r106) 72 r149) (nI 16) k152
            try simp only [mput, mrow_same, mrow_hit, mrow_miss, mrow_sw, idr_eq, ne_eq, Nat.reduceEqDiff, not_false_eq_true, Nat.reduceLT, reduceCtorEq, g153] at q9
            exact q9
          refine G.callV (as := [.int (nI 16)]) (rest := []) (a := 54) oX12_draws lk_EvenFindersModel_436 (by decide +kernel) rfl rfl ⟨rfl, rfl⟩ (Nat.le_of_ble_eq_true rfl) rfl ⟨Nat.le_of_ble_eq_true rfl, Nat.le_of_ble_eq_true rfl⟩ t156 (fun v9 N9 h157 => ?_) (fun E9 N9 h157 => by cases h157)
          cases h157
          show G z mX12_yearGoes (d + 6) 0 0 114 [some (.ref 54), none, some (.int x2), some (.int x3), some (.int (nI 1)), some (.int s5), some (.int v70), some (.int v94)] [.int v154] (mrow (mrow (mrow (mrow M 54 r155) 67 r105) 68 r106) 72 r149) Q
          refine G.sl [(.iload_n 2, 1, 2, 0, 0, 0)] [] (pc2 := 115) (ls2 := [some (.ref 54), none, some (.int x2), some (.int x3), some (.int (nI 1)), some (.int s5), some (.int v70), some (.int v94)]) (st2 := [.int x2, .int v154]) (M2 := mrow (mrow (mrow (mrow M 54 r155) 67 r105) 68 r106) 72 r149) (Ps := []) (by decide +kernel) rfl rfl trivial ?_
          refine G.ic_ge (off := (14)) (tgt := 129) (by decide +kernel) rfl (fun c158 => ?_) (fun c158 => ?_)
          · skip
            rw [if_pos c158] at hk
            refine G.sl [(.iload 5, 2, 5, 0, 0, 0), (.iconst 3, 1, 0, 0, 0, nI 3), (.irem, 1, 0, 0, 0, 0), (.iconst 2, 1, 0, 0, 0, nI 2)] [] (pc2 := 134) (ls2 := [some (.ref 54), none, some (.int x2), some (.int x3), some (.int (nI 1)), some (.int s5), some (.int v70), some (.int v94)]) (st2 := [.int (nI 2), .int (s5 - s5 / (nI 3) * (nI 3))]) (M2 := mrow (mrow (mrow (mrow M 54 r155) 67 r105) 68 r106) 72 r149) (Ps := [¬ (nI 3) = 0]) (by decide +kernel) rfl rfl ⟨(by decide), trivial⟩ ?_
            refine G.ic_ne (off := (7)) (tgt := 141) (by decide +kernel) rfl (fun c159 => ?_) (fun c159 => ?_)
            · skip
              rw [if_neg c159] at hk
              refine G.sl [(.iinc 5 1, 3, 5, 0, 0, nI 1), (.goto (-104), 3, 40, 0, 0, 0)] [] (pc2 := 40) (ls2 := [some (.ref 54), none, some (.int x2), some (.int x3), some (.int (nI 1)), some (.int (s5 + nI 1)), some (.int v70), some (.int v94)]) (st2 := []) (M2 := mrow (mrow (mrow (mrow M 54 r155) 67 r105) 68 r106) 72 r149) (Ps := []) (by decide +kernel) rfl rfl trivial ?_
              refine G.loc (ls2 := [some (.ref 54), none, some (.int x2), some (.int x3), some (.int (nI 1)), some (.int (s5 + nI 1)), none, none]) (by simp [subL]) ?_
              simp only [k_yearGoes_40d, if_neg c67, g69, g75, g87, g93, g103, if_pos c110, g147, g153, if_pos c158, if_neg c159] at hX
              exact ih (s5 + nI 1) r155 r105 r106 r149 hk hX
            · skip
              rw [if_pos c159] at hk
              refine G.sl [(.aload_n 0, 1, 0, 0, 0, 0)] [] (pc2 := 138) (ls2 := [some (.ref 54), none, some (.int x2), some (.int x3), some (.int (nI 1)), some (.int s5), some (.int v70), some (.int v94)]) (st2 := [.ref 54]) (M2 := mrow (mrow (mrow (mrow M 54 r155) 67 r105) 68 r106) 72 r149) (Ps := []) (by decide +kernel) rfl rfl trivial ?_
              obtain ⟨k160, k161, k162, k163, hk⟩ := hk
              obtain ⟨k164, hk⟩ := hk
              rcases g165 : k_passes (M.1 61) r149 (ix (r155 22)) (ix (r155 23)) with ⟨u166, r167⟩
              try simp only [g165] at hk
              have t168 : GM z mX12_passes (d + 5) [.ref 54] (mrow (mrow (mrow (mrow M 54 r155) 67 r105) 68 r106) 72 r149) (fun rs => rs = .inl (none, mrow (mrow (mrow (mrow M 54 r155) 67 r105) 68 r106) 72 r167)) := by
                have q9 := c_k_passes_54 z (d + 5) (mrow (mrow (mrow (mrow M 54 r155) 67 r105) 68 r106) 72 r149) (ix (r155 22)) k161 (ixE k160) (ix (r155 23)) k163 (ixE k162) k164
                try simp only [mput, mrow_same, mrow_hit, mrow_miss, mrow_sw, idr_eq, ne_eq, Nat.reduceEqDiff, not_false_eq_true, Nat.reduceLT, reduceCtorEq, g165] at q9
                exact q9
              refine G.callV (as := []) (rest := []) (a := 54) oX12_passes lk_EvenFindersModel_373 (by decide +kernel) rfl rfl ⟨rfl, rfl⟩ (Nat.le_of_ble_eq_true rfl) rfl ⟨Nat.le_of_ble_eq_true rfl, Nat.le_of_ble_eq_true rfl⟩ t168 (fun v9 N9 h169 => ?_) (fun E9 N9 h169 => by cases h169)
              cases h169
              show G z mX12_yearGoes (d + 6) 0 0 141 [some (.ref 54), none, some (.int x2), some (.int x3), some (.int (nI 1)), some (.int s5), some (.int v70), some (.int v94)] [] (mrow (mrow (mrow (mrow M 54 r155) 67 r105) 68 r106) 72 r167) Q
              refine G.sl [(.iinc 5 1, 3, 5, 0, 0, nI 1), (.goto (-104), 3, 40, 0, 0, 0)] [] (pc2 := 40) (ls2 := [some (.ref 54), none, some (.int x2), some (.int x3), some (.int (nI 1)), some (.int (s5 + nI 1)), some (.int v70), some (.int v94)]) (st2 := []) (M2 := mrow (mrow (mrow (mrow M 54 r155) 67 r105) 68 r106) 72 r167) (Ps := []) (by decide +kernel) rfl rfl trivial ?_
              refine G.loc (ls2 := [some (.ref 54), none, some (.int x2), some (.int x3), some (.int (nI 1)), some (.int (s5 + nI 1)), none, none]) (by simp [subL]) ?_
              simp only [k_yearGoes_40d, if_neg c67, g69, g75, g87, g93, g103, if_pos c110, g147, g153, if_pos c158, if_pos c159, g165] at hX
              exact ih (s5 + nI 1) r155 r105 r106 r167 hk hX
          · skip
            rw [if_neg c158] at hk
            refine G.sl [(.aload_n 0, 1, 0, 0, 0, 0), (.iload 6, 2, 6, 0, 0, 0), (.iload 7, 2, 7, 0, 0, 0), (.bipush (-99), 2, 0, 0, 0, (-99))] [] (pc2 := 125) (ls2 := [some (.ref 54), none, some (.int x2), some (.int x3), some (.int (nI 1)), some (.int s5), some (.int v70), some (.int v94)]) (st2 := [.int ((-99)), .int v94, .int v70, .ref 54]) (M2 := mrow (mrow (mrow (mrow M 54 r155) 67 r105) 68 r106) 72 r149) (Ps := []) (by decide +kernel) rfl rfl trivial ?_
            obtain ⟨k170, hk⟩ := hk
            refine G.eq (st' := [.int ((-99)), .int (nI (ix v94)), .int (nI (ix v70)), .ref 54]) ?_ rfl (by rw [← (show v70 = nI (ix v70) from (ixE k80)), ← (show v94 = nI (ix v94) from (ixE k98))]) rfl
            rcases g171 : k_letsLie_m99 (M.1 61) r149 (ix v70) (ix v94) with ⟨v172, r173⟩
            try simp only [g171] at hk
            have ev172 : v172 = 0 ∨ v172 = 1 := by
              have q9 := k_letsLie_m99_01 (M.1 61) r149 (ix v70) (ix v94)
              rw [g171] at q9
              exact q9
            have t174 : GM z mX12_letsLie (d + 5) [.ref 54, .int (nI (ix v70)), .int (nI (ix v94)), .int ((-99))] (mrow (mrow (mrow (mrow M 54 r155) 67 r105) 68 r106) 72 r149) (fun rs => rs = .inl (some (.int v172), mrow (mrow (mrow (mrow M 54 r155) 67 r105) 68 r106) 72 r173)) := by
              have q9 := c_k_letsLie_m99_54 z (d + 5) (mrow (mrow (mrow (mrow M 54 r155) 67 r105) 68 r106) 72 r149) (ix v70) (ix v94) k81 k99
              try simp only [mput, mrow_same, mrow_hit, mrow_miss, mrow_sw, idr_eq, ne_eq, Nat.reduceEqDiff, not_false_eq_true, Nat.reduceLT, reduceCtorEq, g171] at q9
              exact q9
            refine G.callV (as := [.int (nI (ix v70)), .int (nI (ix v94)), .int ((-99))]) (rest := []) (a := 54) oX12_letsLie lk_EvenFindersModel_362 (by decide +kernel) rfl rfl ⟨rfl, rfl⟩ (Nat.le_of_ble_eq_true rfl) rfl ⟨Nat.le_of_ble_eq_true rfl, Nat.le_of_ble_eq_true rfl⟩ t174 (fun v9 N9 h175 => ?_) (fun E9 N9 h175 => by cases h175)
            cases h175
            show G z mX12_yearGoes (d + 6) 0 0 128 [some (.ref 54), none, some (.int x2), some (.int x3), some (.int (nI 1)), some (.int s5), some (.int v70), some (.int v94)] [.int v172] (mrow (mrow (mrow (mrow M 54 r155) 67 r105) 68 r106) 72 r173) Q
            refine G.sl [(.pop, 1, 0, 0, 0, 0), (.iload 5, 2, 5, 0, 0, 0), (.iconst 3, 1, 0, 0, 0, nI 3), (.irem, 1, 0, 0, 0, 0), (.iconst 2, 1, 0, 0, 0, nI 2)] [] (pc2 := 134) (ls2 := [some (.ref 54), none, some (.int x2), some (.int x3), some (.int (nI 1)), some (.int s5), some (.int v70), some (.int v94)]) (st2 := [.int (nI 2), .int (s5 - s5 / (nI 3) * (nI 3))]) (M2 := mrow (mrow (mrow (mrow M 54 r155) 67 r105) 68 r106) 72 r173) (Ps := [¬ (nI 3) = 0]) (by decide +kernel) rfl rfl ⟨(by decide), trivial⟩ ?_
            refine G.ic_ne (off := (7)) (tgt := 141) (by decide +kernel) rfl (fun c176 => ?_) (fun c176 => ?_)
            · skip
              rw [if_neg c176] at hk
              refine G.sl [(.iinc 5 1, 3, 5, 0, 0, nI 1), (.goto (-104), 3, 40, 0, 0, 0)] [] (pc2 := 40) (ls2 := [some (.ref 54), none, some (.int x2), some (.int x3), some (.int (nI 1)), some (.int (s5 + nI 1)), some (.int v70), some (.int v94)]) (st2 := []) (M2 := mrow (mrow (mrow (mrow M 54 r155) 67 r105) 68 r106) 72 r173) (Ps := []) (by decide +kernel) rfl rfl trivial ?_
              refine G.loc (ls2 := [some (.ref 54), none, some (.int x2), some (.int x3), some (.int (nI 1)), some (.int (s5 + nI 1)), none, none]) (by simp [subL]) ?_
              simp only [k_yearGoes_40d, if_neg c67, g69, g75, g87, g93, g103, if_pos c110, g147, g153, if_neg c158, g171, if_neg c176] at hX
              exact ih (s5 + nI 1) r155 r105 r106 r173 hk hX
            · skip
              rw [if_pos c176] at hk
              refine G.sl [(.aload_n 0, 1, 0, 0, 0, 0)] [] (pc2 := 138) (ls2 := [some (.ref 54), none, some (.int x2), some (.int x3), some (.int (nI 1)), some (.int s5), some (.int v70), some (.int v94)]) (st2 := [.ref 54]) (M2 := mrow (mrow (mrow (mrow M 54 r155) 67 r105) 68 r106) 72 r173) (Ps := []) (by decide +kernel) rfl rfl trivial ?_
              obtain ⟨k177, k178, k179, k180, hk⟩ := hk
              obtain ⟨k181, hk⟩ := hk
              rcases g182 : k_passes (M.1 61) r173 (ix (r155 22)) (ix (r155 23)) with ⟨u183, r184⟩
              try simp only [g182] at hk
              have t185 : GM z mX12_passes (d + 5) [.ref 54] (mrow (mrow (mrow (mrow M 54 r155) 67 r105) 68 r106) 72 r173) (fun rs => rs = .inl (none, mrow (mrow (mrow (mrow M 54 r155) 67 r105) 68 r106) 72 r184)) := by
                have q9 := c_k_passes_54 z (d + 5) (mrow (mrow (mrow (mrow M 54 r155) 67 r105) 68 r106) 72 r173) (ix (r155 22)) k178 (ixE k177) (ix (r155 23)) k180 (ixE k179) k181
                try simp only [mput, mrow_same, mrow_hit, mrow_miss, mrow_sw, idr_eq, ne_eq, Nat.reduceEqDiff, not_false_eq_true, Nat.reduceLT, reduceCtorEq, g182] at q9
                exact q9
              refine G.callV (as := []) (rest := []) (a := 54) oX12_passes lk_EvenFindersModel_373 (by decide +kernel) rfl rfl ⟨rfl, rfl⟩ (Nat.le_of_ble_eq_true rfl) rfl ⟨Nat.le_of_ble_eq_true rfl, Nat.le_of_ble_eq_true rfl⟩ t185 (fun v9 N9 h186 => ?_) (fun E9 N9 h186 => by cases h186)
              cases h186
              show G z mX12_yearGoes (d + 6) 0 0 141 [some (.ref 54), none, some (.int x2), some (.int x3), some (.int (nI 1)), some (.int s5), some (.int v70), some (.int v94)] [] (mrow (mrow (mrow (mrow M 54 r155) 67 r105) 68 r106) 72 r184) Q
              refine G.sl [(.iinc 5 1, 3, 5, 0, 0, nI 1), (.goto (-104), 3, 40, 0, 0, 0)] [] (pc2 := 40) (ls2 := [some (.ref 54), none, some (.int x2), some (.int x3), some (.int (nI 1)), some (.int (s5 + nI 1)), some (.int v70), some (.int v94)]) (st2 := []) (M2 := mrow (mrow (mrow (mrow M 54 r155) 67 r105) 68 r106) 72 r184) (Ps := []) (by decide +kernel) rfl rfl trivial ?_
              refine G.loc (ls2 := [some (.ref 54), none, some (.int x2), some (.int x3), some (.int (nI 1)), some (.int (s5 + nI 1)), none, none]) (by simp [subL]) ?_
              simp only [k_yearGoes_40d, if_neg c67, g69, g75, g87, g93, g103, if_pos c110, g147, g153, if_neg c158, g171, if_pos c176, g182] at hX
              exact ih (s5 + nI 1) r155 r105 r106 r184 hk hX
set_option maxHeartbeats 4000000 in
set_option maxRecDepth 3000 in
theorem c_k_yearGoes_54 (z : Zp) (d : Nat) (M : Mem) (x1 : Int32) (x2 : Int32) (x3 : Int32) (nr : Nat) (hnr : nr ≤ 12) (cr : M.1 54 21 = nI nr) (nt : Nat) (hnt : nt ≤ 10) (ct : M.1 54 22 = nI nt) (nf : Nat) (hnf : nf ≤ 6) (cf : M.1 54 23 = nI nf) (hk : k_yearGoes_ok (M.1 54) (M.1 60) (M.1 61) (M.1 65) (M.1 66) (M.1 67) (M.1 68) (M.1 71) (M.1 72) nr nt nf x1 x2 x3) : GM z mX12_yearGoes (d + 6) [.ref 54, .int x1, .int x2, .int x3] M (fun rs => rs = .inl (none, mrow (mrow (mrow (mrow M 54 ((k_yearGoes (M.1 54) (M.1 60) (M.1 61) (M.1 65) (M.1 66) (M.1 67) (M.1 68) (M.1 71) (M.1 72) nr nt nf x1 x2 x3).2.1)) 67 ((k_yearGoes (M.1 54) (M.1 60) (M.1 61) (M.1 65) (M.1 66) (M.1 67) (M.1 68) (M.1 71) (M.1 72) nr nt nf x1 x2 x3).2.2.1)) 68 ((k_yearGoes (M.1 54) (M.1 60) (M.1 61) (M.1 65) (M.1 66) (M.1 67) (M.1 68) (M.1 71) (M.1 72) nr nt nf x1 x2 x3).2.2.2.1)) 72 ((k_yearGoes (M.1 54) (M.1 60) (M.1 61) (M.1 65) (M.1 66) (M.1 67) (M.1 68) (M.1 71) (M.1 72) nr nt nf x1 x2 x3).2.2.2.2))) := by
  simp only [k_yearGoes_ok] at hk
  refine GM.of oX12_yearGoes.1 (Nat.le_of_ble_eq_true rfl) ?_
  show G z mX12_yearGoes (d + 6) 0 0 0 [some (.ref 54), some (.int x1), some (.int x2), some (.int x3), none, none, none, none] [] M _
  obtain ⟨Q, hQ⟩ : ∃ Q : Rs → Prop, Q = (fun rs => rs = .inl (none, mrow (mrow (mrow (mrow M 54 ((k_yearGoes (M.1 54) (M.1 60) (M.1 61) (M.1 65) (M.1 66) (M.1 67) (M.1 68) (M.1 71) (M.1 72) nr nt nf x1 x2 x3).2.1)) 67 ((k_yearGoes (M.1 54) (M.1 60) (M.1 61) (M.1 65) (M.1 66) (M.1 67) (M.1 68) (M.1 71) (M.1 72) nr nt nf x1 x2 x3).2.2.1)) 68 ((k_yearGoes (M.1 54) (M.1 60) (M.1 61) (M.1 65) (M.1 66) (M.1 67) (M.1 68) (M.1 71) (M.1 72) nr nt nf x1 x2 x3).2.2.2.1)) 72 ((k_yearGoes (M.1 54) (M.1 60) (M.1 61) (M.1 65) (M.1 66) (M.1 67) (M.1 68) (M.1 71) (M.1 72) nr nt nf x1 x2 x3).2.2.2.2))) := ⟨_, rfl⟩
  rw [← hQ]
  refine G.sl [(.aload_n 0, 1, 0, 0, 0, 0)] [] (pc2 := 1) (ls2 := [some (.ref 54), some (.int x1), some (.int x2), some (.int x3), none, none, none, none]) (st2 := [.ref 54]) (M2 := M) (Ps := []) (by decide +kernel) rfl rfl trivial ?_
  obtain ⟨k1, hk⟩ := hk
  rcases g2 : k_take (M.1 71) (M.1 72) with ⟨u3, r4⟩
  try simp only [g2] at hk
  have t5 : GM z mX12_take (d + 5) [.ref 54] M (fun rs => rs = .inl (none, mrow M 72 r4)) := by
    have q9 := c_k_take_54 z (d + 4) M k1
    try simp only [mput, mrow_same, mrow_hit, mrow_miss, mrow_sw, idr_eq, ne_eq, Nat.reduceEqDiff, not_false_eq_true, Nat.reduceLT, reduceCtorEq, g2] at q9
    exact q9
  refine G.callV (as := []) (rest := []) (a := 54) oX12_take lk_EvenFindersModel_320 (by decide +kernel) rfl rfl ⟨rfl, rfl⟩ (Nat.le_of_ble_eq_true rfl) rfl ⟨Nat.le_of_ble_eq_true rfl, Nat.le_of_ble_eq_true rfl⟩ t5 (fun v9 N9 h6 => ?_) (fun E9 N9 h6 => by cases h6)
  cases h6
  show G z mX12_yearGoes (d + 6) 0 0 4 [some (.ref 54), some (.int x1), some (.int x2), some (.int x3), none, none, none, none] [] (mrow M 72 r4) Q
  refine G.sl [(.aload_n 0, 1, 0, 0, 0, 0), (.iload_n 1, 1, 1, 0, 0, 0), (.putfield 432, 3, 11, 49, 172, 0), (.aload_n 0, 1, 0, 0, 0, 0), (.getfield 165, 3, 11, 23, 146, 0)] [] (pc2 := 13) (ls2 := [some (.ref 54), some (.int x1), some (.int x2), some (.int x3), none, none, none, none]) (st2 := [.int (M.1 54 23)]) (M2 := mput (mrow M 72 r4) 54 49 x1) (Ps := []) (by decide +kernel) rfl rfl trivial ?_
  refine G.mem (M' := mrow (mrow M 54 (upd (M.1 54) 49 x1)) 72 r4) (by first | rfl | (simp only [mput, mrow_same, mrow_hit, mrow_miss, mrow_sw, idr_eq, ne_eq, Nat.reduceEqDiff, not_false_eq_true, Nat.reduceLT, reduceCtorEq]; done)) ?_
  rw [cf]
  refine G.if_le (off := (21)) (tgt := 34) (by decide +kernel) rfl (fun c7 => ?_) (fun c7 => ?_)
  · skip
    rw [if_pos c7] at hk
    refine G.sl [(.iconst 0, 1, 0, 0, 0, nI 0), (.istore 4, 2, 4, 0, 0, 0), (.iconst 0, 1, 0, 0, 0, nI 0), (.istore 5, 2, 5, 0, 0, 0)] [] (pc2 := 40) (ls2 := [some (.ref 54), some (.int x1), some (.int x2), some (.int x3), some (.int (nI 0)), some (.int (nI 0)), none, none]) (st2 := []) (M2 := mrow (mrow M 54 (upd (M.1 54) 49 x1)) 72 r4) (Ps := []) (by decide +kernel) rfl rfl trivial ?_
    refine G.loc (ls2 := [some (.ref 54), none, some (.int x2), some (.int x3), some (.int (nI 0)), some (.int (nI 0)), none, none]) (by simp [subL]) ?_
    obtain ⟨k20, hk⟩ := hk
    refine G.mem (M' := mrow (mrow (mrow (mrow (mrow (mrow M 54 (upd (M.1 54) 49 x1)) 72 r4) 54 ((mrow (mrow M 54 (upd (M.1 54) 49 x1)) 72 r4).1 54)) 67 ((mrow (mrow M 54 (upd (M.1 54) 49 x1)) 72 r4).1 67)) 68 ((mrow (mrow M 54 (upd (M.1 54) 49 x1)) 72 r4).1 68)) 72 ((mrow (mrow M 54 (upd (M.1 54) 49 x1)) 72 r4).1 72)) (by simp only [mrow_self]) ?_
    refine lp_k_yearGoes_54_40 z d (mrow (mrow M 54 (upd (M.1 54) 49 x1)) 72 r4) Q x2 x3 FU (nI 0) ((mrow (mrow M 54 (upd (M.1 54) 49 x1)) 72 r4).1 54) ((mrow (mrow M 54 (upd (M.1 54) 49 x1)) 72 r4).1 67) ((mrow (mrow M 54 (upd (M.1 54) 49 x1)) 72 r4).1 68) ((mrow (mrow M 54 (upd (M.1 54) 49 x1)) 72 r4).1 72) (by first | (simp only [mput, mrow_same, mrow_hit, mrow_miss, mrow_sw, idr_eq, ne_eq, Nat.reduceEqDiff, not_false_eq_true, Nat.reduceLT, reduceCtorEq]; exact k20) | exact k20) ?_
    try simp only [mput, mrow_same, mrow_hit, mrow_miss, mrow_sw, idr_eq, ne_eq, Nat.reduceEqDiff, not_false_eq_true, Nat.reduceLT, reduceCtorEq]
    rcases g21 : k_yearGoes_40 (M.1 61) x2 x3 FU (nI 0) (upd (M.1 54) 49 x1) (M.1 67) (M.1 68) r4 with ⟨v22, r23, r24, r25, r26⟩
    show G z mX12_yearGoes (d + 6) 0 0 147 [none, none, none, none, none, none, none, none] [] (mrow (mrow (mrow (mrow M 54 r23) 67 r24) 68 r25) 72 r26) Q
    exact G.retv (by decide +kernel) rfl (Nat.le_of_ble_eq_true rfl) (Nat.le_of_ble_eq_true rfl) ((by rw [hQ]; simp only [k_yearGoes, g2, if_pos c7, g21, mrow_self]))
  · skip
    rw [if_neg c7] at hk
    refine G.sl [(.aload_n 0, 1, 0, 0, 0, 0), (.getfield 159, 3, 11, 21, 144, 0)] [] (pc2 := 20) (ls2 := [some (.ref 54), some (.int x1), some (.int x2), some (.int x3), none, none, none, none]) (st2 := [.int (M.1 54 21)]) (M2 := mrow (mrow M 54 (upd (M.1 54) 49 x1)) 72 r4) (Ps := []) (by decide +kernel) rfl rfl trivial ?_
    rw [cr]
    refine G.if_le (off := (14)) (tgt := 34) (by decide +kernel) rfl (fun c27 => ?_) (fun c27 => ?_)
    · skip
      rw [if_pos c27] at hk
      refine G.sl [(.iconst 0, 1, 0, 0, 0, nI 0), (.istore 4, 2, 4, 0, 0, 0), (.iconst 0, 1, 0, 0, 0, nI 0), (.istore 5, 2, 5, 0, 0, 0)] [] (pc2 := 40) (ls2 := [some (.ref 54), some (.int x1), some (.int x2), some (.int x3), some (.int (nI 0)), some (.int (nI 0)), none, none]) (st2 := []) (M2 := mrow (mrow M 54 (upd (M.1 54) 49 x1)) 72 r4) (Ps := []) (by decide +kernel) rfl rfl trivial ?_
      refine G.loc (ls2 := [some (.ref 54), none, some (.int x2), some (.int x3), some (.int (nI 0)), some (.int (nI 0)), none, none]) (by simp [subL]) ?_
      obtain ⟨k40, hk⟩ := hk
      refine G.mem (M' := mrow (mrow (mrow (mrow (mrow (mrow M 54 (upd (M.1 54) 49 x1)) 72 r4) 54 ((mrow (mrow M 54 (upd (M.1 54) 49 x1)) 72 r4).1 54)) 67 ((mrow (mrow M 54 (upd (M.1 54) 49 x1)) 72 r4).1 67)) 68 ((mrow (mrow M 54 (upd (M.1 54) 49 x1)) 72 r4).1 68)) 72 ((mrow (mrow M 54 (upd (M.1 54) 49 x1)) 72 r4).1 72)) (by simp only [mrow_self]) ?_
      refine lp_k_yearGoes_54_40 z d (mrow (mrow M 54 (upd (M.1 54) 49 x1)) 72 r4) Q x2 x3 FU (nI 0) ((mrow (mrow M 54 (upd (M.1 54) 49 x1)) 72 r4).1 54) ((mrow (mrow M 54 (upd (M.1 54) 49 x1)) 72 r4).1 67) ((mrow (mrow M 54 (upd (M.1 54) 49 x1)) 72 r4).1 68) ((mrow (mrow M 54 (upd (M.1 54) 49 x1)) 72 r4).1 72) (by first | (simp only [mput, mrow_same, mrow_hit, mrow_miss, mrow_sw, idr_eq, ne_eq, Nat.reduceEqDiff, not_false_eq_true, Nat.reduceLT, reduceCtorEq]; exact k40) | exact k40) ?_
      try simp only [mput, mrow_same, mrow_hit, mrow_miss, mrow_sw, idr_eq, ne_eq, Nat.reduceEqDiff, not_false_eq_true, Nat.reduceLT, reduceCtorEq]
      rcases g41 : k_yearGoes_40 (M.1 61) x2 x3 FU (nI 0) (upd (M.1 54) 49 x1) (M.1 67) (M.1 68) r4 with ⟨v42, r43, r44, r45, r46⟩
      show G z mX12_yearGoes (d + 6) 0 0 147 [none, none, none, none, none, none, none, none] [] (mrow (mrow (mrow (mrow M 54 r43) 67 r44) 68 r45) 72 r46) Q
      exact G.retv (by decide +kernel) rfl (Nat.le_of_ble_eq_true rfl) (Nat.le_of_ble_eq_true rfl) ((by rw [hQ]; simp only [k_yearGoes, g2, if_neg c7, if_pos c27, g41, mrow_self]))
    · skip
      rw [if_neg c27] at hk
      refine G.sl [(.aload_n 0, 1, 0, 0, 0, 0), (.getfield 162, 3, 11, 22, 145, 0)] [] (pc2 := 27) (ls2 := [some (.ref 54), some (.int x1), some (.int x2), some (.int x3), none, none, none, none]) (st2 := [.int (M.1 54 22)]) (M2 := mrow (mrow M 54 (upd (M.1 54) 49 x1)) 72 r4) (Ps := []) (by decide +kernel) rfl rfl trivial ?_
      rw [ct]
      refine G.if_le (off := (7)) (tgt := 34) (by decide +kernel) rfl (fun c47 => ?_) (fun c47 => ?_)
      · skip
        rw [if_pos c47] at hk
        refine G.sl [(.iconst 0, 1, 0, 0, 0, nI 0), (.istore 4, 2, 4, 0, 0, 0), (.iconst 0, 1, 0, 0, 0, nI 0), (.istore 5, 2, 5, 0, 0, 0)] [] (pc2 := 40) (ls2 := [some (.ref 54), some (.int x1), some (.int x2), some (.int x3), some (.int (nI 0)), some (.int (nI 0)), none, none]) (st2 := []) (M2 := mrow (mrow M 54 (upd (M.1 54) 49 x1)) 72 r4) (Ps := []) (by decide +kernel) rfl rfl trivial ?_
        refine G.loc (ls2 := [some (.ref 54), none, some (.int x2), some (.int x3), some (.int (nI 0)), some (.int (nI 0)), none, none]) (by simp [subL]) ?_
        obtain ⟨k60, hk⟩ := hk
        refine G.mem (M' := mrow (mrow (mrow (mrow (mrow (mrow M 54 (upd (M.1 54) 49 x1)) 72 r4) 54 ((mrow (mrow M 54 (upd (M.1 54) 49 x1)) 72 r4).1 54)) 67 ((mrow (mrow M 54 (upd (M.1 54) 49 x1)) 72 r4).1 67)) 68 ((mrow (mrow M 54 (upd (M.1 54) 49 x1)) 72 r4).1 68)) 72 ((mrow (mrow M 54 (upd (M.1 54) 49 x1)) 72 r4).1 72)) (by simp only [mrow_self]) ?_
        refine lp_k_yearGoes_54_40 z d (mrow (mrow M 54 (upd (M.1 54) 49 x1)) 72 r4) Q x2 x3 FU (nI 0) ((mrow (mrow M 54 (upd (M.1 54) 49 x1)) 72 r4).1 54) ((mrow (mrow M 54 (upd (M.1 54) 49 x1)) 72 r4).1 67) ((mrow (mrow M 54 (upd (M.1 54) 49 x1)) 72 r4).1 68) ((mrow (mrow M 54 (upd (M.1 54) 49 x1)) 72 r4).1 72) (by first | (simp only [mput, mrow_same, mrow_hit, mrow_miss, mrow_sw, idr_eq, ne_eq, Nat.reduceEqDiff, not_false_eq_true, Nat.reduceLT, reduceCtorEq]; exact k60) | exact k60) ?_
        try simp only [mput, mrow_same, mrow_hit, mrow_miss, mrow_sw, idr_eq, ne_eq, Nat.reduceEqDiff, not_false_eq_true, Nat.reduceLT, reduceCtorEq]
        rcases g61 : k_yearGoes_40 (M.1 61) x2 x3 FU (nI 0) (upd (M.1 54) 49 x1) (M.1 67) (M.1 68) r4 with ⟨v62, r63, r64, r65, r66⟩
        show G z mX12_yearGoes (d + 6) 0 0 147 [none, none, none, none, none, none, none, none] [] (mrow (mrow (mrow (mrow M 54 r63) 67 r64) 68 r65) 72 r66) Q
        exact G.retv (by decide +kernel) rfl (Nat.le_of_ble_eq_true rfl) (Nat.le_of_ble_eq_true rfl) ((by rw [hQ]; simp only [k_yearGoes, g2, if_neg c7, if_neg c27, if_pos c47, g61, mrow_self]))
      · skip
        rw [if_neg c47] at hk
        refine G.sl [(.iconst 1, 1, 0, 0, 0, nI 1), (.goto 4, 3, 35, 0, 0, 0), (.istore 4, 2, 4, 0, 0, 0), (.iconst 0, 1, 0, 0, 0, nI 0), (.istore 5, 2, 5, 0, 0, 0)] [] (pc2 := 40) (ls2 := [some (.ref 54), some (.int x1), some (.int x2), some (.int x3), some (.int (nI 1)), some (.int (nI 0)), none, none]) (st2 := []) (M2 := mrow (mrow M 54 (upd (M.1 54) 49 x1)) 72 r4) (Ps := []) (by decide +kernel) rfl rfl trivial ?_
        refine G.loc (ls2 := [some (.ref 54), none, some (.int x2), some (.int x3), some (.int (nI 1)), some (.int (nI 0)), none, none]) (by simp [subL]) ?_
        obtain ⟨k187, hk⟩ := hk
        refine G.mem (M' := mrow (mrow (mrow (mrow (mrow (mrow M 54 (upd (M.1 54) 49 x1)) 72 r4) 54 ((mrow (mrow M 54 (upd (M.1 54) 49 x1)) 72 r4).1 54)) 67 ((mrow (mrow M 54 (upd (M.1 54) 49 x1)) 72 r4).1 67)) 68 ((mrow (mrow M 54 (upd (M.1 54) 49 x1)) 72 r4).1 68)) 72 ((mrow (mrow M 54 (upd (M.1 54) 49 x1)) 72 r4).1 72)) (by simp only [mrow_self]) ?_
        refine lp_k_yearGoes_54_40d z d (mrow (mrow M 54 (upd (M.1 54) 49 x1)) 72 r4) Q x2 x3 FU (nI 0) ((mrow (mrow M 54 (upd (M.1 54) 49 x1)) 72 r4).1 54) ((mrow (mrow M 54 (upd (M.1 54) 49 x1)) 72 r4).1 67) ((mrow (mrow M 54 (upd (M.1 54) 49 x1)) 72 r4).1 68) ((mrow (mrow M 54 (upd (M.1 54) 49 x1)) 72 r4).1 72) (by first | (simp only [mput, mrow_same, mrow_hit, mrow_miss, mrow_sw, idr_eq, ne_eq, Nat.reduceEqDiff, not_false_eq_true, Nat.reduceLT, reduceCtorEq]; exact k187) | exact k187) ?_
        try simp only [mput, mrow_same, mrow_hit, mrow_miss, mrow_sw, idr_eq, ne_eq, Nat.reduceEqDiff, not_false_eq_true, Nat.reduceLT, reduceCtorEq]
        rcases g188 : k_yearGoes_40d (M.1 60) (M.1 61) (M.1 65) (M.1 66) x2 x3 FU (nI 0) (upd (M.1 54) 49 x1) (M.1 67) (M.1 68) r4 with ⟨v189, r190, r191, r192, r193⟩
        show G z mX12_yearGoes (d + 6) 0 0 147 [none, none, none, none, none, none, none, none] [] (mrow (mrow (mrow (mrow M 54 r190) 67 r191) 68 r192) 72 r193) Q
        exact G.retv (by decide +kernel) rfl (Nat.le_of_ble_eq_true rfl) (Nat.le_of_ble_eq_true rfl) ((by rw [hQ]; simp only [k_yearGoes, g2, if_neg c7, if_neg c27, if_neg c47, g188, mrow_self]))
