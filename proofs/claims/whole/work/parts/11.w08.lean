set_option maxHeartbeats 4000000 in
set_option maxRecDepth 3000 in
theorem lp_k_feed_54_23 (z : Zp) (d : Nat) (M : Mem) (Q : Rs → Prop) (nn : Nat) (x1 : Int32) (x2 : Int32) (x3 : Int32) (x4 : Int32) (x5 : Int32) (hnn : nn = 20) (hk : ∀ i6, i6 < nn → k_feed_23_ok (M.1 54) (M.1 56) x1 x2 x3 x4 x5 i6) (hX : G z mX12_feed (d) 0 0 120 [some (.ref 54), none, none, none, none, none, none, none] [] (mrow (mrow M 54 ((k_feed_23 (M.1 54) (M.1 56) x1 x2 x3 x4 x5 nn).1)) 56 ((k_feed_23 (M.1 54) (M.1 56) x1 x2 x3 x4 x5 nn).2)) Q) : G z mX12_feed (d) 0 0 23 [some (.ref 54), some (.int x1), some (.int x2), some (.int x3), some (.int x4), some (.int x5), some (.int (nI 0)), none] [] M Q := by
  refine G.mem (M' := mrow (mrow M 54 (M.1 54)) 56 (M.1 56)) (by simp only [mrow_self]) ?_
  refine down (n := nn) (P := fun i6 => G z mX12_feed (d) 0 0 23 [some (.ref 54), some (.int x1), some (.int x2), some (.int x3), some (.int x4), some (.int x5), some (.int (nI i6)), none] [] (mrow (mrow M 54 ((k_feed_23 (M.1 54) (M.1 56) x1 x2 x3 x4 x5 i6).1)) 56 ((k_feed_23 (M.1 54) (M.1 56) x1 x2 x3 x4 x5 i6).2)) Q) ?_ ?_ 0 (Nat.zero_le _)
  · skip
    refine G.sl [(.iload 6, 2, 6, 0, 0, 0), (.bipush 20, 2, 0, 0, 0, nI 20)] [] (pc2 := 27) (ls2 := [some (.ref 54), some (.int x1), some (.int x2), some (.int x3), some (.int x4), some (.int x5), some (.int (nI nn)), none]) (st2 := [.int (nI 20), .int (nI nn)]) (M2 := mrow (mrow M 54 ((k_feed_23 (M.1 54) (M.1 56) x1 x2 x3 x4 x5 nn).1)) 56 ((k_feed_23 (M.1 54) (M.1 56) x1 x2 x3 x4 x5 nn).2)) (Ps := []) (by decide +kernel) rfl rfl trivial ?_
    refine G.ic_ge (off := (93)) (tgt := 120) (by decide +kernel) rfl (fun _ => ?_) (fun h9 => absurd (nI_le (by omega) (by omega)) h9)
    refine G.loc (ls2 := [some (.ref 54), none, none, none, none, none, none, none]) (by simp [subL]) ?_
    exact hX
  · skip
    intro i6 hi ih
    have hk := hk i6 hi
    simp only [k_feed_23_ok] at hk
    rcases g2 : k_feed_23 (M.1 54) (M.1 56) x1 x2 x3 x4 x5 i6 with ⟨q54, q56⟩
    try simp only [g2] at hk
    try simp only [g2]
    show G z mX12_feed (d) 0 0 23 [some (.ref 54), some (.int x1), some (.int x2), some (.int x3), some (.int x4), some (.int x5), some (.int (nI i6)), none] [] (mrow (mrow M 54 q54) 56 q56) Q
    refine G.sl [(.iload 6, 2, 6, 0, 0, 0), (.bipush 20, 2, 0, 0, 0, nI 20)] [] (pc2 := 27) (ls2 := [some (.ref 54), some (.int x1), some (.int x2), some (.int x3), some (.int x4), some (.int x5), some (.int (nI i6)), none]) (st2 := [.int (nI 20), .int (nI i6)]) (M2 := mrow (mrow M 54 q54) 56 q56) (Ps := []) (by decide +kernel) rfl rfl trivial ?_
    refine G.ic_ge (off := (93)) (tgt := 120) (by decide +kernel) rfl (fun h9 => absurd h9 (nI_ge (by omega) (by omega))) (fun _ => ?_)
    refine G.sl [(.iload 6, 2, 6, 0, 0, 0), (.iconst 4, 1, 0, 0, 0, nI 4)] [] (pc2 := 33) (ls2 := [some (.ref 54), some (.int x1), some (.int x2), some (.int x3), some (.int x4), some (.int x5), some (.int (nI i6)), none]) (st2 := [.int (nI 4), .int (nI i6)]) (M2 := mrow (mrow M 54 q54) 56 q56) (Ps := []) (by decide +kernel) rfl rfl trivial ?_
    refine G.ic_ge (off := (7)) (tgt := 40) (by decide +kernel) rfl (fun c3 => ?_) (fun c3 => ?_)
    · skip
      rw [if_pos c3] at hk
      refine G.sl [(.iload 6, 2, 6, 0, 0, 0), (.bipush 8, 2, 0, 0, 0, nI 8)] [] (pc2 := 44) (ls2 := [some (.ref 54), some (.int x1), some (.int x2), some (.int x3), some (.int x4), some (.int x5), some (.int (nI i6)), none]) (st2 := [.int (nI 8), .int (nI i6)]) (M2 := mrow (mrow M 54 q54) 56 q56) (Ps := []) (by decide +kernel) rfl rfl trivial ?_
      refine G.ic_ge (off := (7)) (tgt := 51) (by decide +kernel) rfl (fun c4 => ?_) (fun c4 => ?_)
      · skip
        rw [if_pos c4] at hk
        refine G.sl [(.iload 6, 2, 6, 0, 0, 0), (.bipush 12, 2, 0, 0, 0, nI 12)] [] (pc2 := 55) (ls2 := [some (.ref 54), some (.int x1), some (.int x2), some (.int x3), some (.int x4), some (.int x5), some (.int (nI i6)), none]) (st2 := [.int (nI 12), .int (nI i6)]) (M2 := mrow (mrow M 54 q54) 56 q56) (Ps := []) (by decide +kernel) rfl rfl trivial ?_
        refine G.ic_ge (off := (7)) (tgt := 62) (by decide +kernel) rfl (fun c5 => ?_) (fun c5 => ?_)
        · skip
          rw [if_pos c5] at hk
          refine G.sl [(.iload 6, 2, 6, 0, 0, 0), (.bipush 16, 2, 0, 0, 0, nI 16)] [] (pc2 := 66) (ls2 := [some (.ref 54), some (.int x1), some (.int x2), some (.int x3), some (.int x4), some (.int x5), some (.int (nI i6)), none]) (st2 := [.int (nI 16), .int (nI i6)]) (M2 := mrow (mrow M 54 q54) 56 q56) (Ps := []) (by decide +kernel) rfl rfl trivial ?_
          refine G.ic_ge (off := (8)) (tgt := 74) (by decide +kernel) rfl (fun c6 => ?_) (fun c6 => ?_)
          · skip
            rw [if_pos c6] at hk
            obtain ⟨k7, k8, hk⟩ := hk
            refine G.sl [(.iload 5, 2, 5, 0, 0, 0), (.istore 7, 2, 7, 0, 0, 0), (.aload_n 0, 1, 0, 0, 0, 0), (.getfield 20, 3, 11, 9, 132, 0), (.aload_n 0, 1, 0, 0, 0, 0), (.getfield 98, 3, 11, 2, 125, 0), (.iload 7, 2, 7, 0, 0, 0), (.bipush 24, 2, 0, 0, 0, nI 24), (.bipush 8, 2, 0, 0, 0, nI 8), (.iload 6, 2, 6, 0, 0, 0), (.iconst 4, 1, 0, 0, 0, nI 4), (.irem, 1, 0, 0, 0, 0), (.imul, 1, 0, 0, 0, 0), (.isub, 1, 0, 0, 0, 0), (.ishr, 1, 0, 0, 0, 0), (.sipush 255, 3, 0, 0, 0, nI 255), (.iand, 1, 0, 0, 0, 0), (.iastore, 1, 0, 0, 0, 0), (.aload_n 0, 1, 0, 0, 0, 0), (.dup, 1, 0, 0, 0, 0), (.getfield 98, 3, 11, 2, 125, 0), (.iconst 1, 1, 0, 0, 0, nI 1), (.iadd, 1, 0, 0, 0, 0), (.putfield 98, 3, 11, 2, 125, 0), (.iinc 6 1, 3, 6, 0, 0, nI 1), (.goto (-94), 3, 23, 0, 0, 0)] [ix (q54 2)] (pc2 := 23) (ls2 := [some (.ref 54), some (.int x1), some (.int x2), some (.int x3), some (.int x4), some (.int x5), some (.int ((nI i6) + nI 1)), some (.int x5)]) (st2 := []) (M2 := mput (mput (mrow (mrow M 54 q54) 56 q56) 56 (ix (q54 2)) ((x5 >>> (((nI 24) - ((nI 8) * ((nI i6) - (nI i6) / (nI 4) * (nI 4)))) &&& 31)) &&& (nI 255))) 54 2 ((q54 2) + (nI 1))) (Ps := [¬ (nI 4) = 0, (q54 2) = nI (ix (q54 2)) ∧ (ix (q54 2)) < 600]) (by decide +kernel) rfl rfl ⟨(by decide), ⟨(ixE k7), k8⟩, trivial⟩ ?_
            refine G.mem (M' := mrow (mrow M 54 (upd q54 2 ((q54 2) + (nI 1)))) 56 (upd q56 (ix (q54 2)) ((x5 >>> (((nI 24) - ((nI 8) * ((nI i6) - (nI i6) / (nI 4) * (nI 4)))) &&& 31)) &&& (nI 255)))) (by first | rfl | (simp only [mput, mrow_same, mrow_hit, mrow_miss, mrow_sw, idr_eq, ne_eq, Nat.reduceEqDiff, not_false_eq_true, Nat.reduceLT, reduceCtorEq]; done)) ?_
            refine G.loc (ls2 := [some (.ref 54), some (.int x1), some (.int x2), some (.int x3), some (.int x4), some (.int x5), some (.int ((nI i6) + nI 1)), none]) (by simp [subL]) ?_
            rw [nI_add i6 1]
            simp only [k_feed_23, g2, if_pos c3, if_pos c4, if_pos c5, if_pos c6] at ih
            exact ih
          · skip
            rw [if_neg c6] at hk
            obtain ⟨k9, k10, hk⟩ := hk
            refine G.sl [(.iload 4, 2, 4, 0, 0, 0), (.goto 5, 3, 76, 0, 0, 0), (.istore 7, 2, 7, 0, 0, 0), (.aload_n 0, 1, 0, 0, 0, 0), (.getfield 20, 3, 11, 9, 132, 0), (.aload_n 0, 1, 0, 0, 0, 0), (.getfield 98, 3, 11, 2, 125, 0), (.iload 7, 2, 7, 0, 0, 0), (.bipush 24, 2, 0, 0, 0, nI 24), (.bipush 8, 2, 0, 0, 0, nI 8), (.iload 6, 2, 6, 0, 0, 0), (.iconst 4, 1, 0, 0, 0, nI 4), (.irem, 1, 0, 0, 0, 0), (.imul, 1, 0, 0, 0, 0), (.isub, 1, 0, 0, 0, 0), (.ishr, 1, 0, 0, 0, 0), (.sipush 255, 3, 0, 0, 0, nI 255), (.iand, 1, 0, 0, 0, 0), (.iastore, 1, 0, 0, 0, 0), (.aload_n 0, 1, 0, 0, 0, 0), (.dup, 1, 0, 0, 0, 0), (.getfield 98, 3, 11, 2, 125, 0), (.iconst 1, 1, 0, 0, 0, nI 1), (.iadd, 1, 0, 0, 0, 0), (.putfield 98, 3, 11, 2, 125, 0), (.iinc 6 1, 3, 6, 0, 0, nI 1), (.goto (-94), 3, 23, 0, 0, 0)] [ix (q54 2)] (pc2 := 23) (ls2 := [some (.ref 54), some (.int x1), some (.int x2), some (.int x3), some (.int x4), some (.int x5), some (.int ((nI i6) + nI 1)), some (.int x4)]) (st2 := []) (M2 := mput (mput (mrow (mrow M 54 q54) 56 q56) 56 (ix (q54 2)) ((x4 >>> (((nI 24) - ((nI 8) * ((nI i6) - (nI i6) / (nI 4) * (nI 4)))) &&& 31)) &&& (nI 255))) 54 2 ((q54 2) + (nI 1))) (Ps := [¬ (nI 4) = 0, (q54 2) = nI (ix (q54 2)) ∧ (ix (q54 2)) < 600]) (by decide +kernel) rfl rfl ⟨(by decide), ⟨(ixE k9), k10⟩, trivial⟩ ?_
            refine G.mem (M' := mrow (mrow M 54 (upd q54 2 ((q54 2) + (nI 1)))) 56 (upd q56 (ix (q54 2)) ((x4 >>> (((nI 24) - ((nI 8) * ((nI i6) - (nI i6) / (nI 4) * (nI 4)))) &&& 31)) &&& (nI 255)))) (by first | rfl | (simp only [mput, mrow_same, mrow_hit, mrow_miss, mrow_sw, idr_eq, ne_eq, Nat.reduceEqDiff, not_false_eq_true, Nat.reduceLT, reduceCtorEq]; done)) ?_
            refine G.loc (ls2 := [some (.ref 54), some (.int x1), some (.int x2), some (.int x3), some (.int x4), some (.int x5), some (.int ((nI i6) + nI 1)), none]) (by simp [subL]) ?_
            rw [nI_add i6 1]
            simp only [k_feed_23, g2, if_pos c3, if_pos c4, if_pos c5, if_neg c6] at ih
            exact ih
        · skip
          rw [if_neg c5] at hk
          obtain ⟨k11, k12, hk⟩ := hk
          refine G.sl [(.iload_n 3, 1, 3, 0, 0, 0), (.goto 17, 3, 76, 0, 0, 0), (.istore 7, 2, 7, 0, 0, 0), (.aload_n 0, 1, 0, 0, 0, 0), (.getfield 20, 3, 11, 9, 132, 0), (.aload_n 0, 1, 0, 0, 0, 0), (.getfield 98, 3, 11, 2, 125, 0), (.iload 7, 2, 7, 0, 0, 0), (.bipush 24, 2, 0, 0, 0, nI 24), (.bipush 8, 2, 0, 0, 0, nI 8), (.iload 6, 2, 6, 0, 0, 0), (.iconst 4, 1, 0, 0, 0, nI 4), (.irem, 1, 0, 0, 0, 0), (.imul, 1, 0, 0, 0, 0), (.isub, 1, 0, 0, 0, 0), (.ishr, 1, 0, 0, 0, 0), (.sipush 255, 3, 0, 0, 0, nI 255), (.iand, 1, 0, 0, 0, 0), (.iastore, 1, 0, 0, 0, 0), (.aload_n 0, 1, 0, 0, 0, 0), (.dup, 1, 0, 0, 0, 0), (.getfield 98, 3, 11, 2, 125, 0), (.iconst 1, 1, 0, 0, 0, nI 1), (.iadd, 1, 0, 0, 0, 0), (.putfield 98, 3, 11, 2, 125, 0), (.iinc 6 1, 3, 6, 0, 0, nI 1), (.goto (-94), 3, 23, 0, 0, 0)] [ix (q54 2)] (pc2 := 23) (ls2 := [some (.ref 54), some (.int x1), some (.int x2), some (.int x3), some (.int x4), some (.int x5), some (.int ((nI i6) + nI 1)), some (.int x3)]) (st2 := []) (M2 := mput (mput (mrow (mrow M 54 q54) 56 q56) 56 (ix (q54 2)) ((x3 >>> (((nI 24) - ((nI 8) * ((nI i6) - (nI i6) / (nI 4) * (nI 4)))) &&& 31)) &&& (nI 255))) 54 2 ((q54 2) + (nI 1))) (Ps := [¬ (nI 4) = 0, (q54 2) = nI (ix (q54 2)) ∧ (ix (q54 2)) < 600]) (by decide +kernel) rfl rfl ⟨(by decide), ⟨(ixE k11), k12⟩, trivial⟩ ?_
          refine G.mem (M' := mrow (mrow M 54 (upd q54 2 ((q54 2) + (nI 1)))) 56 (upd q56 (ix (q54 2)) ((x3 >>> (((nI 24) - ((nI 8) * ((nI i6) - (nI i6) / (nI 4) * (nI 4)))) &&& 31)) &&& (nI 255)))) (by first | rfl | (simp only [mput, mrow_same, mrow_hit, mrow_miss, mrow_sw, idr_eq, ne_eq, Nat.reduceEqDiff, not_false_eq_true, Nat.reduceLT, reduceCtorEq]; done)) ?_
          refine G.loc (ls2 := [some (.ref 54), some (.int x1), some (.int x2), some (.int x3), some (.int x4), some (.int x5), some (.int ((nI i6) + nI 1)), none]) (by simp [subL]) ?_
          rw [nI_add i6 1]
          simp only [k_feed_23, g2, if_pos c3, if_pos c4, if_neg c5] at ih
          exact ih
      · skip
        rw [if_neg c4] at hk
        obtain ⟨k13, k14, hk⟩ := hk
        refine G.sl [(.iload_n 2, 1, 2, 0, 0, 0), (.goto 28, 3, 76, 0, 0, 0), (.istore 7, 2, 7, 0, 0, 0), (.aload_n 0, 1, 0, 0, 0, 0), (.getfield 20, 3, 11, 9, 132, 0), (.aload_n 0, 1, 0, 0, 0, 0), (.getfield 98, 3, 11, 2, 125, 0), (.iload 7, 2, 7, 0, 0, 0), (.bipush 24, 2, 0, 0, 0, nI 24), (.bipush 8, 2, 0, 0, 0, nI 8), (.iload 6, 2, 6, 0, 0, 0), (.iconst 4, 1, 0, 0, 0, nI 4), (.irem, 1, 0, 0, 0, 0), (.imul, 1, 0, 0, 0, 0), (.isub, 1, 0, 0, 0, 0), (.ishr, 1, 0, 0, 0, 0), (.sipush 255, 3, 0, 0, 0, nI 255), (.iand, 1, 0, 0, 0, 0), (.iastore, 1, 0, 0, 0, 0), (.aload_n 0, 1, 0, 0, 0, 0), (.dup, 1, 0, 0, 0, 0), (.getfield 98, 3, 11, 2, 125, 0), (.iconst 1, 1, 0, 0, 0, nI 1), (.iadd, 1, 0, 0, 0, 0), (.putfield 98, 3, 11, 2, 125, 0), (.iinc 6 1, 3, 6, 0, 0, nI 1), (.goto (-94), 3, 23, 0, 0, 0)] [ix (q54 2)] (pc2 := 23) (ls2 := [some (.ref 54), some (.int x1), some (.int x2), some (.int x3), some (.int x4), some (.int x5), some (.int ((nI i6) + nI 1)), some (.int x2)]) (st2 := []) (M2 := mput (mput (mrow (mrow M 54 q54) 56 q56) 56 (ix (q54 2)) ((x2 >>> (((nI 24) - ((nI 8) * ((nI i6) - (nI i6) / (nI 4) * (nI 4)))) &&& 31)) &&& (nI 255))) 54 2 ((q54 2) + (nI 1))) (Ps := [¬ (nI 4) = 0, (q54 2) = nI (ix (q54 2)) ∧ (ix (q54 2)) < 600]) (by decide +kernel) rfl rfl ⟨(by decide), ⟨(ixE k13), k14⟩, trivial⟩ ?_
        refine G.mem (M' := mrow (mrow M 54 (upd q54 2 ((q54 2) + (nI 1)))) 56 (upd q56 (ix (q54 2)) ((x2 >>> (((nI 24) - ((nI 8) * ((nI i6) - (nI i6) / (nI 4) * (nI 4)))) &&& 31)) &&& (nI 255)))) (by first | rfl | (simp only [mput, mrow_same, mrow_hit, mrow_miss, mrow_sw, idr_eq, ne_eq, Nat.reduceEqDiff, not_false_eq_true, Nat.reduceLT, reduceCtorEq]; done)) ?_
        refine G.loc (ls2 := [some (.ref 54), some (.int x1), some (.int x2), some (.int x3), some (.int x4), some (.int x5), some (.int ((nI i6) + nI 1)), none]) (by simp [subL]) ?_
        rw [nI_add i6 1]
        simp only [k_feed_23, g2, if_pos c3, if_neg c4] at ih
        exact ih
    · skip
      rw [if_neg c3] at hk
      obtain ⟨k15, k16, hk⟩ := hk
      refine G.sl [(.iload_n 1, 1, 1, 0, 0, 0), (.goto 39, 3, 76, 0, 0, 0), (.istore 7, 2, 7, 0, 0, 0), (.aload_n 0, 1, 0, 0, 0, 0), (.getfield 20, 3, 11, 9, 132, 0), (.aload_n 0, 1, 0, 0, 0, 0), (.getfield 98, 3, 11, 2, 125, 0), (.iload 7, 2, 7, 0, 0, 0), (.bipush 24, 2, 0, 0, 0, nI 24), (.bipush 8, 2, 0, 0, 0, nI 8), (.iload 6, 2, 6, 0, 0, 0), (.iconst 4, 1, 0, 0, 0, nI 4), (.irem, 1, 0, 0, 0, 0), (.imul, 1, 0, 0, 0, 0), (.isub, 1, 0, 0, 0, 0), (.ishr, 1, 0, 0, 0, 0), (.sipush 255, 3, 0, 0, 0, nI 255), (.iand, 1, 0, 0, 0, 0), (.iastore, 1, 0, 0, 0, 0), (.aload_n 0, 1, 0, 0, 0, 0), (.dup, 1, 0, 0, 0, 0), (.getfield 98, 3, 11, 2, 125, 0), (.iconst 1, 1, 0, 0, 0, nI 1), (.iadd, 1, 0, 0, 0, 0), (.putfield 98, 3, 11, 2, 125, 0), (.iinc 6 1, 3, 6, 0, 0, nI 1), (.goto (-94), 3, 23, 0, 0, 0)] [ix (q54 2)] (pc2 := 23) (ls2 := [some (.ref 54), some (.int x1), some (.int x2), some (.int x3), some (.int x4), some (.int x5), some (.int ((nI i6) + nI 1)), some (.int x1)]) (st2 := []) (M2 := mput (mput (mrow (mrow M 54 q54) 56 q56) 56 (ix (q54 2)) ((x1 >>> (((nI 24) - ((nI 8) * ((nI i6) - (nI i6) / (nI 4) * (nI 4)))) &&& 31)) &&& (nI 255))) 54 2 ((q54 2) + (nI 1))) (Ps := [¬ (nI 4) = 0, (q54 2) = nI (ix (q54 2)) ∧ (ix (q54 2)) < 600]) (by decide +kernel) rfl rfl ⟨(by decide), ⟨(ixE k15), k16⟩, trivial⟩ ?_
      refine G.mem (M' := mrow (mrow M 54 (upd q54 2 ((q54 2) + (nI 1)))) 56 (upd q56 (ix (q54 2)) ((x1 >>> (((nI 24) - ((nI 8) * ((nI i6) - (nI i6) / (nI 4) * (nI 4)))) &&& 31)) &&& (nI 255)))) (by first | rfl | (simp only [mput, mrow_same, mrow_hit, mrow_miss, mrow_sw, idr_eq, ne_eq, Nat.reduceEqDiff, not_false_eq_true, Nat.reduceLT, reduceCtorEq]; done)) ?_
      refine G.loc (ls2 := [some (.ref 54), some (.int x1), some (.int x2), some (.int x3), some (.int x4), some (.int x5), some (.int ((nI i6) + nI 1)), none]) (by simp [subL]) ?_
      rw [nI_add i6 1]
      simp only [k_feed_23, g2, if_neg c3] at ih
      exact ih
set_option maxHeartbeats 4000000 in
set_option maxRecDepth 3000 in
theorem c_k_feed_54 (z : Zp) (d : Nat) (M : Mem) (x1 : Int32) (x2 : Int32) (x3 : Int32) (x4 : Int32) (x5 : Int32) (hk : k_feed_ok (M.1 54) (M.1 56) x1 x2 x3 x4 x5) : GM z mX12_feed (d) [.ref 54, .int x1, .int x2, .int x3, .int x4, .int x5] M (fun rs => rs = .inl (some (.int ((k_feed (M.1 54) (M.1 56) x1 x2 x3 x4 x5).1)), mrow (mrow M 54 ((k_feed (M.1 54) (M.1 56) x1 x2 x3 x4 x5).2.1)) 56 ((k_feed (M.1 54) (M.1 56) x1 x2 x3 x4 x5).2.2))) := by
  simp only [k_feed_ok] at hk
  refine GM.of oX12_feed.1 (Nat.le_of_ble_eq_true rfl) ?_
  show G z mX12_feed (d) 0 0 0 [some (.ref 54), some (.int x1), some (.int x2), some (.int x3), some (.int x4), some (.int x5), none, none] [] M _
  obtain ⟨Q, hQ⟩ : ∃ Q : Rs → Prop, Q = (fun rs => rs = .inl (some (.int ((k_feed (M.1 54) (M.1 56) x1 x2 x3 x4 x5).1)), mrow (mrow M 54 ((k_feed (M.1 54) (M.1 56) x1 x2 x3 x4 x5).2.1)) 56 ((k_feed (M.1 54) (M.1 56) x1 x2 x3 x4 x5).2.2))) := ⟨_, rfl⟩
  rw [← hQ]
  refine G.sl [(.aload_n 0, 1, 0, 0, 0, 0), (.iconst 0, 1, 0, 0, 0, nI 0), (.putfield 3, 3, 11, 0, 123, 0), (.aload_n 0, 1, 0, 0, 0, 0), (.getfield 98, 3, 11, 2, 125, 0), (.bipush 20, 2, 0, 0, 0, nI 20), (.iadd, 1, 0, 0, 0, 0), (.sipush 600, 3, 0, 0, 0, nI 600)] [] (pc2 := 15) (ls2 := [some (.ref 54), some (.int x1), some (.int x2), some (.int x3), some (.int x4), some (.int x5), none, none]) (st2 := [.int (nI 600), .int ((M.1 54 2) + (nI 20))]) (M2 := mput M 54 0 (nI 0)) (Ps := []) (by decide +kernel) rfl rfl trivial ?_
  refine G.mem (M' := mrow M 54 (upd (M.1 54) 0 (nI 0))) (by first | rfl | (simp only [mput, mrow_same, mrow_hit, mrow_miss, mrow_sw, idr_eq, ne_eq, Nat.reduceEqDiff, not_false_eq_true, Nat.reduceLT, reduceCtorEq]; done)) ?_
  refine G.ic_le (off := (5)) (tgt := 20) (by decide +kernel) rfl (fun c1 => ?_) (fun c1 => ?_)
  · skip
    rw [if_pos c1] at hk
    refine G.sl [(.iconst 0, 1, 0, 0, 0, nI 0), (.istore 6, 2, 6, 0, 0, 0)] [] (pc2 := 23) (ls2 := [some (.ref 54), some (.int x1), some (.int x2), some (.int x3), some (.int x4), some (.int x5), some (.int (nI 0)), none]) (st2 := []) (M2 := mrow M 54 (upd (M.1 54) 0 (nI 0))) (Ps := []) (by decide +kernel) rfl rfl trivial ?_
    obtain ⟨k17, hk⟩ := hk
    refine lp_k_feed_54_23 z d (mrow M 54 (upd (M.1 54) 0 (nI 0))) Q (cN 20) x1 x2 x3 x4 x5 (cN_eq 20) (by first | (simp only [mput, mrow_same, mrow_hit, mrow_miss, mrow_sw, idr_eq, ne_eq, Nat.reduceEqDiff, not_false_eq_true, Nat.reduceLT, reduceCtorEq]; exact k17) | exact k17) ?_
    try simp only [mput, mrow_same, mrow_hit, mrow_miss, mrow_sw, idr_eq, ne_eq, Nat.reduceEqDiff, not_false_eq_true, Nat.reduceLT, reduceCtorEq]
    rcases g18 : k_feed_23 (upd (M.1 54) 0 (nI 0)) (M.1 56) x1 x2 x3 x4 x5 (cN 20) with ⟨r19, r20⟩
    show G z mX12_feed (d) 0 0 120 [some (.ref 54), none, none, none, none, none, none, none] [] (mrow (mrow M 54 r19) 56 r20) Q
    refine G.sl [(.aload_n 0, 1, 0, 0, 0, 0), (.getfield 98, 3, 11, 2, 125, 0)] [] (pc2 := 124) (ls2 := [some (.ref 54), none, none, none, none, none, none, none]) (st2 := [.int (r19 2)]) (M2 := mrow (mrow M 54 r19) 56 r20) (Ps := []) (by decide +kernel) rfl rfl trivial ?_
    exact G.reti (by decide +kernel) rfl rfl (Nat.le_of_ble_eq_true rfl) (Nat.le_of_ble_eq_true rfl) ((by rw [hQ]; simp only [k_feed, if_pos c1, g18, mrow_self]))
  · skip
    rw [if_neg c1] at hk
    refine G.sl [(.iconst (-1), 1, 0, 0, 0, (-1))] [] (pc2 := 19) (ls2 := [some (.ref 54), some (.int x1), some (.int x2), some (.int x3), some (.int x4), some (.int x5), none, none]) (st2 := [.int ((-1))]) (M2 := mrow M 54 (upd (M.1 54) 0 (nI 0))) (Ps := []) (by decide +kernel) rfl rfl trivial ?_
    refine G.mem (M' := mrow (mrow M 54 (upd (M.1 54) 0 (nI 0))) 56 (M.1 56)) (((mrow_id (N := mrow M 54 (upd (M.1 54) 0 (nI 0))) (c := 56) (f := M.1 56) (by first | rfl | (simp only [mput, mrow_same, mrow_hit, mrow_miss, mrow_sw, idr_eq, ne_eq, Nat.reduceEqDiff, not_false_eq_true, Nat.reduceLT, reduceCtorEq]; done))).symm).trans (by first | rfl | (simp only [mput, mrow_same, mrow_hit, mrow_miss, mrow_sw, idr_eq, ne_eq, Nat.reduceEqDiff, not_false_eq_true, Nat.reduceLT, reduceCtorEq]; done))) ?_
    exact G.reti (by decide +kernel) rfl rfl (Nat.le_of_ble_eq_true rfl) (Nat.le_of_ble_eq_true rfl) ((by rw [hQ]; simp only [k_feed, if_neg c1, mrow_self]))
set_option maxHeartbeats 4000000 in
set_option maxRecDepth 3000 in
theorem c_k_fault_54 (z : Zp) (d : Nat) (M : Mem) : GM z mX12_fault (d) [.ref 54] M (fun rs => rs = .inl (some (.int ((k_fault (M.1 54)).1)), mrow M 54 ((k_fault (M.1 54)).2))) := by
  refine GM.of oX12_fault.1 (Nat.le_of_ble_eq_true rfl) ?_
  show G z mX12_fault (d) 0 0 0 [some (.ref 54)] [] M _
  obtain ⟨Q, hQ⟩ : ∃ Q : Rs → Prop, Q = (fun rs => rs = .inl (some (.int ((k_fault (M.1 54)).1)), mrow M 54 ((k_fault (M.1 54)).2))) := ⟨_, rfl⟩
  rw [← hQ]
  refine G.sl [(.aload_n 0, 1, 0, 0, 0, 0), (.iconst 0, 1, 0, 0, 0, nI 0), (.putfield 3, 3, 11, 0, 123, 0), (.aload_n 0, 1, 0, 0, 0, 0), (.getfield 17, 3, 11, 8, 131, 0)] [] (pc2 := 9) (ls2 := [some (.ref 54)]) (st2 := [.int (M.1 54 8)]) (M2 := mput M 54 0 (nI 0)) (Ps := []) (by decide +kernel) rfl rfl trivial ?_
  refine G.mem (M' := mrow M 54 (upd (M.1 54) 0 (nI 0))) (by first | rfl | (simp only [mput, mrow_same, mrow_hit, mrow_miss, mrow_sw, idr_eq, ne_eq, Nat.reduceEqDiff, not_false_eq_true, Nat.reduceLT, reduceCtorEq]; done)) ?_
  exact G.reti (by decide +kernel) rfl rfl (Nat.le_of_ble_eq_true rfl) (Nat.le_of_ble_eq_true rfl) ((by rw [hQ]; simp only [k_fault, mrow_self]))
theorem k_may_1_01 (Rmd Rrefused : Nat → Int32) (x1 : Int32) (x2 : Int32) : (k_may_1 Rmd Rrefused x1 x2).1 = 0 ∨ (k_may_1 Rmd Rrefused x1 x2).1 = 1 := by
  unfold k_may_1
  repeat' split
  all_goals first | exact Or.inl rfl | exact Or.inr rfl
set_option maxHeartbeats 4000000 in
set_option maxRecDepth 3000 in
theorem c_k_may_1_54 (z : Zp) (d : Nat) (M : Mem) (x1 : Int32) (x2 : Int32) : GM z mX12_may (d) [.ref 54, .int x1, .int x2, .int (nI 1)] M (fun rs => rs = .inl (some (.int ((k_may_1 (M.1 54) (M.1 55) x1 x2).1)), mrow (mrow M 54 ((k_may_1 (M.1 54) (M.1 55) x1 x2).2.1)) 55 ((k_may_1 (M.1 54) (M.1 55) x1 x2).2.2))) := by
  refine GM.of oX12_may.1 (Nat.le_of_ble_eq_true rfl) ?_
  show G z mX12_may (d) 0 0 0 [some (.ref 54), some (.int x1), some (.int x2), some (.int (nI 1))] [] M _
  obtain ⟨Q, hQ⟩ : ∃ Q : Rs → Prop, Q = (fun rs => rs = .inl (some (.int ((k_may_1 (M.1 54) (M.1 55) x1 x2).1)), mrow (mrow M 54 ((k_may_1 (M.1 54) (M.1 55) x1 x2).2.1)) 55 ((k_may_1 (M.1 54) (M.1 55) x1 x2).2.2))) := ⟨_, rfl⟩
  rw [← hQ]
  refine G.sl [(.iload_n 1, 1, 1, 0, 0, 0)] [] (pc2 := 1) (ls2 := [some (.ref 54), some (.int x1), some (.int x2), some (.int (nI 1))]) (st2 := [.int x1]) (M2 := M) (Ps := []) (by decide +kernel) rfl rfl trivial ?_
  refine G.if_ne (off := (25)) (tgt := 26) (by decide +kernel) rfl (fun c1 => ?_) (fun c1 => ?_)
  · skip
    refine G.sl [(.aload_n 0, 1, 0, 0, 0, 0), (.getfield 3, 3, 11, 0, 123, 0)] [] (pc2 := 30) (ls2 := [some (.ref 54), some (.int x1), some (.int x2), some (.int (nI 1))]) (st2 := [.int (M.1 54 0)]) (M2 := M) (Ps := []) (by decide +kernel) rfl rfl trivial ?_
    refine G.if_ne (off := (7)) (tgt := 37) (by decide +kernel) rfl (fun c2 => ?_) (fun c2 => ?_)
    · skip
      refine G.sl [(.iconst 0, 1, 0, 0, 0, nI 0)] [] (pc2 := 38) (ls2 := [some (.ref 54), some (.int x1), some (.int x2), some (.int (nI 1))]) (st2 := [.int (nI 0)]) (M2 := M) (Ps := []) (by decide +kernel) rfl rfl trivial ?_
      refine G.mem (M' := mrow (mrow M 54 (M.1 54)) 55 (M.1 55)) ((((mrow_id (N := M) (c := 54) (f := M.1 54) (by first | rfl | (simp only [mput, mrow_same, mrow_hit, mrow_miss, mrow_sw, idr_eq, ne_eq, Nat.reduceEqDiff, not_false_eq_true, Nat.reduceLT, reduceCtorEq]; done))).symm).trans (mrow_id (N := mrow M 54 (M.1 54)) (c := 55) (f := M.1 55) (by first | rfl | (simp only [mput, mrow_same, mrow_hit, mrow_miss, mrow_sw, idr_eq, ne_eq, Nat.reduceEqDiff, not_false_eq_true, Nat.reduceLT, reduceCtorEq]; done))).symm).trans (by first | rfl | (simp only [mput, mrow_same, mrow_hit, mrow_miss, mrow_sw, idr_eq, ne_eq, Nat.reduceEqDiff, not_false_eq_true, Nat.reduceLT, reduceCtorEq]; done))) ?_
      exact G.reti (by decide +kernel) rfl rfl (Nat.le_of_ble_eq_true rfl) (Nat.le_of_ble_eq_true rfl) ((by rw [hQ]; simp only [k_may_1, if_neg c1, if_neg c2, mrow_self]))
    · skip
      refine G.sl [(.iconst 1, 1, 0, 0, 0, nI 1), (.goto 4, 3, 38, 0, 0, 0)] [] (pc2 := 38) (ls2 := [some (.ref 54), some (.int x1), some (.int x2), some (.int (nI 1))]) (st2 := [.int (nI 1)]) (M2 := M) (Ps := []) (by decide +kernel) rfl rfl trivial ?_
      refine G.mem (M' := mrow (mrow M 54 (M.1 54)) 55 (M.1 55)) ((((mrow_id (N := M) (c := 54) (f := M.1 54) (by first | rfl | (simp only [mput, mrow_same, mrow_hit, mrow_miss, mrow_sw, idr_eq, ne_eq, Nat.reduceEqDiff, not_false_eq_true, Nat.reduceLT, reduceCtorEq]; done))).symm).trans (mrow_id (N := mrow M 54 (M.1 54)) (c := 55) (f := M.1 55) (by first | rfl | (simp only [mput, mrow_same, mrow_hit, mrow_miss, mrow_sw, idr_eq, ne_eq, Nat.reduceEqDiff, not_false_eq_true, Nat.reduceLT, reduceCtorEq]; done))).symm).trans (by first | rfl | (simp only [mput, mrow_same, mrow_hit, mrow_miss, mrow_sw, idr_eq, ne_eq, Nat.reduceEqDiff, not_false_eq_true, Nat.reduceLT, reduceCtorEq]; done))) ?_
      exact G.reti (by decide +kernel) rfl rfl (Nat.le_of_ble_eq_true rfl) (Nat.le_of_ble_eq_true rfl) ((by rw [hQ]; simp only [k_may_1, if_neg c1, if_pos c2, mrow_self]))
  · skip
    refine G.sl [(.aload_n 0, 1, 0, 0, 0, 0), (.getfield 3, 3, 11, 0, 123, 0)] [] (pc2 := 8) (ls2 := [some (.ref 54), some (.int x1), some (.int x2), some (.int (nI 1))]) (st2 := [.int (M.1 54 0)]) (M2 := M) (Ps := []) (by decide +kernel) rfl rfl trivial ?_
    refine G.if_ne (off := (18)) (tgt := 26) (by decide +kernel) rfl (fun c3 => ?_) (fun c3 => ?_)
    · skip
      refine G.sl [(.aload_n 0, 1, 0, 0, 0, 0), (.getfield 3, 3, 11, 0, 123, 0)] [] (pc2 := 30) (ls2 := [some (.ref 54), some (.int x1), some (.int x2), some (.int (nI 1))]) (st2 := [.int (M.1 54 0)]) (M2 := M) (Ps := []) (by decide +kernel) rfl rfl trivial ?_
      refine G.if_ne (off := (7)) (tgt := 37) (by decide +kernel) rfl (fun _ => ?_) (fun h9 => absurd h9 c3)
      refine G.sl [(.iconst 0, 1, 0, 0, 0, nI 0)] [] (pc2 := 38) (ls2 := [some (.ref 54), some (.int x1), some (.int x2), some (.int (nI 1))]) (st2 := [.int (nI 0)]) (M2 := M) (Ps := []) (by decide +kernel) rfl rfl trivial ?_
      refine G.mem (M' := mrow (mrow M 54 (M.1 54)) 55 (M.1 55)) ((((mrow_id (N := M) (c := 54) (f := M.1 54) (by first | rfl | (simp only [mput, mrow_same, mrow_hit, mrow_miss, mrow_sw, idr_eq, ne_eq, Nat.reduceEqDiff, not_false_eq_true, Nat.reduceLT, reduceCtorEq]; done))).symm).trans (mrow_id (N := mrow M 54 (M.1 54)) (c := 55) (f := M.1 55) (by first | rfl | (simp only [mput, mrow_same, mrow_hit, mrow_miss, mrow_sw, idr_eq, ne_eq, Nat.reduceEqDiff, not_false_eq_true, Nat.reduceLT, reduceCtorEq]; done))).symm).trans (by first | rfl | (simp only [mput, mrow_same, mrow_hit, mrow_miss, mrow_sw, idr_eq, ne_eq, Nat.reduceEqDiff, not_false_eq_true, Nat.reduceLT, reduceCtorEq]; done))) ?_
      exact G.reti (by decide +kernel) rfl rfl (Nat.le_of_ble_eq_true rfl) (Nat.le_of_ble_eq_true rfl) ((by rw [hQ]; simp only [k_may_1, if_pos c1, if_neg c3, mrow_self]))
    · skip
      refine G.sl [(.aload_n 0, 1, 0, 0, 0, 0), (.iload_n 2, 1, 2, 0, 0, 0), (.putfield 3, 3, 11, 0, 123, 0), (.aload_n 0, 1, 0, 0, 0, 0), (.getfield 7, 3, 11, 1, 124, 0), (.iload_n 3, 1, 3, 0, 0, 0), (.dup2, 1, 0, 0, 0, 0), (.iaload, 1, 0, 0, 0, 0), (.iconst 1, 1, 0, 0, 0, nI 1), (.iadd, 1, 0, 0, 0, 0), (.iastore, 1, 0, 0, 0, 0), (.aload_n 0, 1, 0, 0, 0, 0), (.getfield 3, 3, 11, 0, 123, 0)] [1, 1] (pc2 := 30) (ls2 := [some (.ref 54), some (.int x1), some (.int x2), some (.int (nI 1))]) (st2 := [.int x2]) (M2 := mput (mput M 54 0 x2) 55 1 ((M.1 55 1) + (nI 1))) (Ps := [(nI 1) = nI 1 ∧ 1 < 2, (nI 1) = nI 1 ∧ 1 < 2]) (by decide +kernel) rfl rfl ⟨⟨rfl, (by omega)⟩, ⟨rfl, (by omega)⟩, trivial⟩ ?_
      refine G.mem (M' := mrow (mrow M 54 (upd (M.1 54) 0 x2)) 55 (upd (M.1 55) 1 ((M.1 55 1) + (nI 1)))) (by first | rfl | (simp only [mput, mrow_same, mrow_hit, mrow_miss, mrow_sw, idr_eq, ne_eq, Nat.reduceEqDiff, not_false_eq_true, Nat.reduceLT, reduceCtorEq]; done)) ?_
      refine G.if_ne (off := (7)) (tgt := 37) (by decide +kernel) rfl (fun c4 => ?_) (fun c4 => ?_)
      · skip
        refine G.sl [(.iconst 0, 1, 0, 0, 0, nI 0)] [] (pc2 := 38) (ls2 := [some (.ref 54), some (.int x1), some (.int x2), some (.int (nI 1))]) (st2 := [.int (nI 0)]) (M2 := mrow (mrow M 54 (upd (M.1 54) 0 x2)) 55 (upd (M.1 55) 1 ((M.1 55 1) + (nI 1)))) (Ps := []) (by decide +kernel) rfl rfl trivial ?_
        exact G.reti (by decide +kernel) rfl rfl (Nat.le_of_ble_eq_true rfl) (Nat.le_of_ble_eq_true rfl) ((by rw [hQ]; simp only [k_may_1, if_pos c1, if_pos c3, if_neg c4, mrow_self]))
      · skip
        refine G.sl [(.iconst 1, 1, 0, 0, 0, nI 1), (.goto 4, 3, 38, 0, 0, 0)] [] (pc2 := 38) (ls2 := [some (.ref 54), some (.int x1), some (.int x2), some (.int (nI 1))]) (st2 := [.int (nI 1)]) (M2 := mrow (mrow M 54 (upd (M.1 54) 0 x2)) 55 (upd (M.1 55) 1 ((M.1 55 1) + (nI 1)))) (Ps := []) (by decide +kernel) rfl rfl trivial ?_
        exact G.reti (by decide +kernel) rfl rfl (Nat.le_of_ble_eq_true rfl) (Nat.le_of_ble_eq_true rfl) ((by rw [hQ]; simp only [k_may_1, if_pos c1, if_pos c3, if_pos c4, mrow_self]))
theorem m_may_1_t (z : Zp) (d : Nat) (M : Mem) (x2 : Int32) (h : M.1 54 0 = nI 0) : GM z mX12_may d [.ref 54, .int (nI 1), .int x2, .int (nI 1)] M (fun rs => rs = .inl (some (.int (nI 1)), M)) := by
  have q := c_k_may_1_54 z d M (nI 1) x2
  have e : k_may_1 (M.1 54) (M.1 55) (nI 1) x2 = (nI 1, M.1 54, M.1 55) := by
    simp only [k_may_1, h, if_neg n10, if_pos n00]
  rw [e] at q
  simp only [mrow_self] at q
  exact q
theorem m_may_1_f (z : Zp) (d : Nat) (M : Mem) (x2 : Int32) (h : M.1 54 0 = nI 0) (hc : ¬ x2 = 0) : GM z mX12_may d [.ref 54, .int (nI 0), .int x2, .int (nI 1)] M (fun rs => rs = .inl (some (.int (nI 0)), mrow (mrow M 54 (upd (M.1 54) 0 x2)) 55 (upd (M.1 55) 1 ((M.1 55 1) + nI 1)))) := by
  have q := c_k_may_1_54 z d M (nI 0) x2
  have e : k_may_1 (M.1 54) (M.1 55) (nI 0) x2 = (nI 0, upd (M.1 54) 0 x2, upd (M.1 55) 1 ((M.1 55 1) + nI 1)) := by
    simp only [k_may_1, h, if_neg hc, if_pos n00]
  rw [e] at q
  exact q
set_option maxHeartbeats 4000000 in
set_option maxRecDepth 3000 in
theorem c_k_begins_54 (z : Zp) (d : Nat) (M : Mem) (x1 : Int32) : GM z mX12_begins (d) [.ref 54, .int x1] M (fun rs => rs = .inl (none, mrow M 54 ((k_begins (M.1 54) x1).2))) := by
  refine GM.of oX12_begins.1 (Nat.le_of_ble_eq_true rfl) ?_
  show G z mX12_begins (d) 0 0 0 [some (.ref 54), some (.int x1)] [] M _
  obtain ⟨Q, hQ⟩ : ∃ Q : Rs → Prop, Q = (fun rs => rs = .inl (none, mrow M 54 ((k_begins (M.1 54) x1).2))) := ⟨_, rfl⟩
  rw [← hQ]
  refine G.sl [(.aload_n 0, 1, 0, 0, 0, 0), (.iconst 0, 1, 0, 0, 0, nI 0), (.putfield 98, 3, 11, 2, 125, 0), (.aload_n 0, 1, 0, 0, 0, 0), (.iconst (-1), 1, 0, 0, 0, (-1)), (.putfield 17, 3, 11, 8, 131, 0), (.aload_n 0, 1, 0, 0, 0, 0), (.iload_n 1, 1, 1, 0, 0, 0), (.putfield 110, 3, 11, 3, 126, 0), (.aload_n 0, 1, 0, 0, 0, 0), (.iconst 0, 1, 0, 0, 0, nI 0), (.putfield 107, 3, 11, 4, 127, 0), (.aload_n 0, 1, 0, 0, 0, 0), (.iconst (-1), 1, 0, 0, 0, (-1)), (.putfield 101, 3, 11, 5, 128, 0), (.aload_n 0, 1, 0, 0, 0, 0), (.iconst 0, 1, 0, 0, 0, nI 0), (.putfield 141, 3, 11, 7, 130, 0)] [] (pc2 := 30) (ls2 := [some (.ref 54), some (.int x1)]) (st2 := []) (M2 := mput (mput (mput (mput (mput (mput M 54 2 (nI 0)) 54 8 ((-1))) 54 3 x1) 54 4 (nI 0)) 54 5 ((-1))) 54 7 (nI 0)) (Ps := []) (by decide +kernel) rfl rfl trivial ?_
  refine G.mem (M' := mrow M 54 (upd (upd (upd (upd (upd (upd (M.1 54) 2 (nI 0)) 8 ((-1))) 3 x1) 4 (nI 0)) 5 ((-1))) 7 (nI 0))) (by first | rfl | (simp only [mput, mrow_same, mrow_hit, mrow_miss, mrow_sw, idr_eq, ne_eq, Nat.reduceEqDiff, not_false_eq_true, Nat.reduceLT, reduceCtorEq]; done)) ?_
  exact G.retv (by decide +kernel) rfl (Nat.le_of_ble_eq_true rfl) (Nat.le_of_ble_eq_true rfl) ((by rw [hQ]; simp only [k_begins, mrow_self]))
set_option maxHeartbeats 4000000 in
set_option maxRecDepth 3000 in
theorem lp_k_book_54_46 (z : Zp) (d : Nat) (M : Mem) (Q : Rs → Prop) (nn : Nat) (hnn : nn = 8) (hX : G z mX12_book (d + 2) 0 0 65 [some (.ref 54), none, none, none, none, none] [] (mrow M 74 (k_book_46 (M.1 74) nn)) Q) : G z mX12_book (d + 2) 0 0 46 [some (.ref 54), none, some (.int (nI 0)), none, none, none] [] M Q := by
  refine G.mem (M' := mrow M 74 (M.1 74)) (by simp only [mrow_self]) ?_
  refine down (n := nn) (P := fun i2 => G z mX12_book (d + 2) 0 0 46 [some (.ref 54), none, some (.int (nI i2)), none, none, none] [] (mrow M 74 (k_book_46 (M.1 74) i2)) Q) ?_ ?_ 0 (Nat.zero_le _)
  · skip
    refine G.sl [(.iload_n 2, 1, 2, 0, 0, 0), (.bipush 8, 2, 0, 0, 0, nI 8)] [] (pc2 := 49) (ls2 := [some (.ref 54), none, some (.int (nI nn)), none, none, none]) (st2 := [.int (nI 8), .int (nI nn)]) (M2 := mrow M 74 (k_book_46 (M.1 74) nn)) (Ps := []) (by decide +kernel) rfl rfl trivial ?_
    refine G.ic_ge (off := (16)) (tgt := 65) (by decide +kernel) rfl (fun _ => ?_) (fun h9 => absurd (nI_le (by omega) (by omega)) h9)
    refine G.loc (ls2 := [some (.ref 54), none, none, none, none, none]) (by simp [subL]) ?_
    exact hX
  · skip
    intro i2 hi ih
    show G z mX12_book (d + 2) 0 0 46 [some (.ref 54), none, some (.int (nI i2)), none, none, none] [] (mrow M 74 (k_book_46 (M.1 74) i2)) Q
    refine G.sl [(.iload_n 2, 1, 2, 0, 0, 0), (.bipush 8, 2, 0, 0, 0, nI 8)] [] (pc2 := 49) (ls2 := [some (.ref 54), none, some (.int (nI i2)), none, none, none]) (st2 := [.int (nI 8), .int (nI i2)]) (M2 := mrow M 74 (k_book_46 (M.1 74) i2)) (Ps := []) (by decide +kernel) rfl rfl trivial ?_
    refine G.ic_ge (off := (16)) (tgt := 65) (by decide +kernel) rfl (fun h9 => absurd h9 (nI_ge (by omega) (by omega))) (fun _ => ?_)
    refine G.sl [(.aload_n 0, 1, 0, 0, 0, 0), (.getfield 74, 3, 11, 43, 166, 0), (.iload_n 2, 1, 2, 0, 0, 0), (.iconst (-1), 1, 0, 0, 0, (-1)), (.iastore, 1, 0, 0, 0, 0), (.iinc 2 1, 3, 2, 0, 0, nI 1), (.goto (-16), 3, 46, 0, 0, 0)] [i2] (pc2 := 46) (ls2 := [some (.ref 54), none, some (.int ((nI i2) + nI 1)), none, none, none]) (st2 := []) (M2 := mput (mrow M 74 (k_book_46 (M.1 74) i2)) 74 i2 ((-1))) (Ps := [(nI i2) = nI i2 ∧ i2 < 8]) (by decide +kernel) rfl rfl ⟨⟨rfl, (by omega)⟩, trivial⟩ ?_
    refine G.mem (M' := mrow M 74 (upd (k_book_46 (M.1 74) i2) i2 ((-1)))) (by first | rfl | (simp only [mput, mrow_same, mrow_hit, mrow_miss, mrow_sw, idr_eq, ne_eq, Nat.reduceEqDiff, not_false_eq_true, Nat.reduceLT, reduceCtorEq]; done)) ?_
    rw [nI_add i2 1]
    simp only [k_book_46] at ih
    exact ih
theorem k_fine_01 (Rmd : Nat → Int32) : k_fine Rmd = 0 ∨ k_fine Rmd = 1 := by
  unfold k_fine
  repeat' split
  all_goals first | exact Or.inl rfl | exact Or.inr rfl
set_option maxHeartbeats 4000000 in
set_option maxRecDepth 3000 in
theorem c_k_fine_54 (z : Zp) (d : Nat) (M : Mem) : GM z mX12_fine (d) [.ref 54] M (fun rs => rs = .inl (some (.int (k_fine (M.1 54))), M)) := by
  refine GM.of oX12_fine.1 (Nat.le_of_ble_eq_true rfl) ?_
  show G z mX12_fine (d) 0 0 0 [some (.ref 54)] [] M _
  obtain ⟨Q, hQ⟩ : ∃ Q : Rs → Prop, Q = (fun rs => rs = .inl (some (.int (k_fine (M.1 54))), M)) := ⟨_, rfl⟩
  rw [← hQ]
  refine G.sl [(.aload_n 0, 1, 0, 0, 0, 0), (.getfield 101, 3, 11, 5, 128, 0), (.iconst (-1), 1, 0, 0, 0, (-1))] [] (pc2 := 5) (ls2 := [some (.ref 54)]) (st2 := [.int ((-1)), .int (M.1 54 5)]) (M2 := M) (Ps := []) (by decide +kernel) rfl rfl trivial ?_
  refine G.ic_ne (off := (7)) (tgt := 12) (by decide +kernel) rfl (fun c1 => ?_) (fun c1 => ?_)
  · skip
    refine G.sl [(.iconst 0, 1, 0, 0, 0, nI 0)] [] (pc2 := 13) (ls2 := [some (.ref 54)]) (st2 := [.int (nI 0)]) (M2 := M) (Ps := []) (by decide +kernel) rfl rfl trivial ?_
    exact G.reti (by decide +kernel) rfl rfl (Nat.le_of_ble_eq_true rfl) (Nat.le_of_ble_eq_true rfl) ((by rw [hQ]; simp only [k_fine, if_neg c1, mrow_self]))
  · skip
    refine G.sl [(.iconst 1, 1, 0, 0, 0, nI 1), (.goto 4, 3, 13, 0, 0, 0)] [] (pc2 := 13) (ls2 := [some (.ref 54)]) (st2 := [.int (nI 1)]) (M2 := M) (Ps := []) (by decide +kernel) rfl rfl trivial ?_
    exact G.reti (by decide +kernel) rfl rfl (Nat.le_of_ble_eq_true rfl) (Nat.le_of_ble_eq_true rfl) ((by rw [hQ]; simp only [k_fine, if_pos c1, mrow_self]))
set_option maxHeartbeats 4000000 in
set_option maxRecDepth 3000 in
theorem lp_k_here_54_0 (z : Zp) (d : Nat) (M : Mem) (Q : Rs → Prop) : ∀ (k0 : Nat) (q54 : (Nat → Int32)), k_here_0_ok (M.1 56) k0 q54 → (match k_here_0 (M.1 56) k0 q54 with | q54' => G z mX12_here (d) 0 0 38 [some (.ref 54)] [] (mrow M 54 (q54')) Q) → G z mX12_here (d) 0 0 0 [some (.ref 54)] [] (mrow M 54 q54) Q := by
  intro k0
  induction k0 with
  | zero =>
      intro q54 hk hX
      exact (by simpa only [k_here_0_ok] using hk : False).elim
  | succ k0 ih =>
      intro q54 hk hX
      simp only [k_here_0_ok] at hk
      refine G.sl [(.aload_n 0, 1, 0, 0, 0, 0), (.getfield 107, 3, 11, 4, 127, 0), (.aload_n 0, 1, 0, 0, 0, 0), (.getfield 110, 3, 11, 3, 126, 0)] [] (pc2 := 8) (ls2 := [some (.ref 54)]) (st2 := [.int (q54 3), .int (q54 4)]) (M2 := mrow M 54 q54) (Ps := []) (by decide +kernel) rfl rfl trivial ?_
      refine G.ic_ge (off := (30)) (tgt := 38) (by decide +kernel) rfl (fun c1 => ?_) (fun c1 => ?_)
      · skip
        rw [if_pos c1] at hk
        simp only [k_here_0, if_pos c1] at hX
        exact hX
      · skip
        rw [if_neg c1] at hk
        obtain ⟨k2, k3, hk⟩ := hk
        refine G.sl [(.aload_n 0, 1, 0, 0, 0, 0), (.getfield 20, 3, 11, 9, 132, 0), (.aload_n 0, 1, 0, 0, 0, 0), (.getfield 107, 3, 11, 4, 127, 0), (.iaload, 1, 0, 0, 0, 0), (.bipush 32, 2, 0, 0, 0, nI 32)] [ix (q54 4)] (pc2 := 22) (ls2 := [some (.ref 54)]) (st2 := [.int (nI 32), .int (M.1 56 (ix (q54 4)))]) (M2 := mrow M 54 q54) (Ps := [(q54 4) = nI (ix (q54 4)) ∧ (ix (q54 4)) < 600]) (by decide +kernel) rfl rfl ⟨⟨(ixE k2), k3⟩, trivial⟩ ?_
        refine G.ic_ne (off := (16)) (tgt := 38) (by decide +kernel) rfl (fun c4 => ?_) (fun c4 => ?_)
        · skip
          rw [if_neg c4] at hk
          simp only [k_here_0, if_neg c1, if_neg c4] at hX
          exact hX
        · skip
          rw [if_pos c4] at hk
          refine G.sl [(.aload_n 0, 1, 0, 0, 0, 0), (.dup, 1, 0, 0, 0, 0), (.getfield 107, 3, 11, 4, 127, 0), (.iconst 1, 1, 0, 0, 0, nI 1), (.iadd, 1, 0, 0, 0, 0), (.putfield 107, 3, 11, 4, 127, 0), (.goto (-35), 3, 0, 0, 0, 0)] [] (pc2 := 0) (ls2 := [some (.ref 54)]) (st2 := []) (M2 := mput (mrow M 54 q54) 54 4 ((q54 4) + (nI 1))) (Ps := []) (by decide +kernel) rfl rfl trivial ?_
          refine G.mem (M' := mrow M 54 (upd q54 4 ((q54 4) + (nI 1)))) (by first | rfl | (simp only [mput, mrow_same, mrow_hit, mrow_miss, mrow_sw, idr_eq, ne_eq, Nat.reduceEqDiff, not_false_eq_true, Nat.reduceLT, reduceCtorEq]; done)) ?_
          simp only [k_here_0, if_neg c1, if_pos c4] at hX
          exact ih (upd q54 4 ((q54 4) + (nI 1))) hk hX
set_option maxHeartbeats 4000000 in
set_option maxRecDepth 3000 in
theorem c_k_here_54 (z : Zp) (d : Nat) (M : Mem) (hk : k_here_ok (M.1 54) (M.1 56)) : GM z mX12_here (d) [.ref 54] M (fun rs => rs = .inl (some (.int ((k_here (M.1 54) (M.1 56)).1)), mrow M 54 ((k_here (M.1 54) (M.1 56)).2))) := by
  simp only [k_here_ok] at hk
  refine GM.of oX12_here.1 (Nat.le_of_ble_eq_true rfl) ?_
  show G z mX12_here (d) 0 0 0 [some (.ref 54)] [] M _
  obtain ⟨Q, hQ⟩ : ∃ Q : Rs → Prop, Q = (fun rs => rs = .inl (some (.int ((k_here (M.1 54) (M.1 56)).1)), mrow M 54 ((k_here (M.1 54) (M.1 56)).2))) := ⟨_, rfl⟩
  rw [← hQ]
  obtain ⟨k5, hk⟩ := hk
  refine G.mem (M' := mrow M 54 (M.1 54)) (by simp only [mrow_self]) ?_
  refine lp_k_here_54_0 z d M Q FU (M.1 54) (by first | (simp only [mput, mrow_same, mrow_hit, mrow_miss, mrow_sw, idr_eq, ne_eq, Nat.reduceEqDiff, not_false_eq_true, Nat.reduceLT, reduceCtorEq]; exact k5) | exact k5) ?_
  try simp only [mput, mrow_same, mrow_hit, mrow_miss, mrow_sw, idr_eq, ne_eq, Nat.reduceEqDiff, not_false_eq_true, Nat.reduceLT, reduceCtorEq]
  show G z mX12_here (d) 0 0 38 [some (.ref 54)] [] (mrow M 54 (k_here_0 (M.1 56) FU (M.1 54))) Q
  refine G.sl [(.aload_n 0, 1, 0, 0, 0, 0), (.getfield 107, 3, 11, 4, 127, 0), (.aload_n 0, 1, 0, 0, 0, 0), (.getfield 110, 3, 11, 3, 126, 0)] [] (pc2 := 46) (ls2 := [some (.ref 54)]) (st2 := [.int ((k_here_0 (M.1 56) FU (M.1 54)) 3), .int ((k_here_0 (M.1 56) FU (M.1 54)) 4)]) (M2 := mrow M 54 (k_here_0 (M.1 56) FU (M.1 54))) (Ps := []) (by decide +kernel) rfl rfl trivial ?_
  refine G.ic_ge (off := (15)) (tgt := 61) (by decide +kernel) rfl (fun c6 => ?_) (fun c6 => ?_)
  · skip
    rw [if_pos c6] at hk
    refine G.sl [(.iconst 0, 1, 0, 0, 0, nI 0)] [] (pc2 := 62) (ls2 := [some (.ref 54)]) (st2 := [.int (nI 0)]) (M2 := mrow M 54 (k_here_0 (M.1 56) FU (M.1 54))) (Ps := []) (by decide +kernel) rfl rfl trivial ?_
    exact G.reti (by decide +kernel) rfl rfl (Nat.le_of_ble_eq_true rfl) (Nat.le_of_ble_eq_true rfl) ((by rw [hQ]; simp only [k_here, if_pos c6, mrow_self]))
  · skip
    rw [if_neg c6] at hk
    obtain ⟨k7, k8, hk⟩ := hk
    refine G.sl [(.aload_n 0, 1, 0, 0, 0, 0), (.getfield 20, 3, 11, 9, 132, 0), (.aload_n 0, 1, 0, 0, 0, 0), (.getfield 107, 3, 11, 4, 127, 0), (.iaload, 1, 0, 0, 0, 0), (.goto 4, 3, 62, 0, 0, 0)] [ix ((k_here_0 (M.1 56) FU (M.1 54)) 4)] (pc2 := 62) (ls2 := [some (.ref 54)]) (st2 := [.int (M.1 56 (ix ((k_here_0 (M.1 56) FU (M.1 54)) 4)))]) (M2 := mrow M 54 (k_here_0 (M.1 56) FU (M.1 54))) (Ps := [((k_here_0 (M.1 56) FU (M.1 54)) 4) = nI (ix ((k_here_0 (M.1 56) FU (M.1 54)) 4)) ∧ (ix ((k_here_0 (M.1 56) FU (M.1 54)) 4)) < 600]) (by decide +kernel) rfl rfl ⟨⟨(ixE k7), k8⟩, trivial⟩ ?_
    exact G.reti (by decide +kernel) rfl rfl (Nat.le_of_ble_eq_true rfl) (Nat.le_of_ble_eq_true rfl) ((by rw [hQ]; simp only [k_here, if_neg c6, mrow_self]))
theorem k_isMore_01 (Rmd Rtape : Nat → Int32) : (k_isMore Rmd Rtape).1 = 0 ∨ (k_isMore Rmd Rtape).1 = 1 := by
  unfold k_isMore
  repeat' split
  all_goals first | exact Or.inl rfl | exact Or.inr rfl
set_option maxHeartbeats 4000000 in
set_option maxRecDepth 3000 in
theorem c_k_isMore_54 (z : Zp) (d : Nat) (M : Mem) (hk : k_isMore_ok (M.1 54) (M.1 56)) : GM z mX12_isMore (d + 1) [.ref 54] M (fun rs => rs = .inl (some (.int ((k_isMore (M.1 54) (M.1 56)).1)), mrow M 54 ((k_isMore (M.1 54) (M.1 56)).2))) := by
  simp only [k_isMore_ok] at hk
  refine GM.of oX12_isMore.1 (Nat.le_of_ble_eq_true rfl) ?_
  show G z mX12_isMore (d + 1) 0 0 0 [some (.ref 54)] [] M _
  obtain ⟨Q, hQ⟩ : ∃ Q : Rs → Prop, Q = (fun rs => rs = .inl (some (.int ((k_isMore (M.1 54) (M.1 56)).1)), mrow M 54 ((k_isMore (M.1 54) (M.1 56)).2))) := ⟨_, rfl⟩
  rw [← hQ]
  refine G.sl [(.aload_n 0, 1, 0, 0, 0, 0)] [] (pc2 := 1) (ls2 := [some (.ref 54)]) (st2 := [.ref 54]) (M2 := M) (Ps := []) (by decide +kernel) rfl rfl trivial ?_
  obtain ⟨k1, hk⟩ := hk
  rcases g2 : k_here (M.1 54) (M.1 56) with ⟨v3, r4⟩
  have t5 : GM z mX12_here (d) [.ref 54] M (fun rs => rs = .inl (some (.int v3), mrow M 54 r4)) := by
    have q9 := c_k_here_54 z d M k1
    try simp only [mput, mrow_same, mrow_hit, mrow_miss, mrow_sw, idr_eq, ne_eq, Nat.reduceEqDiff, not_false_eq_true, Nat.reduceLT, reduceCtorEq, g2] at q9
    exact q9
  refine G.callV (as := []) (rest := []) (a := 54) oX12_here lk_EvenFindersModel_113 (by decide +kernel) rfl rfl ⟨rfl, rfl⟩ (Nat.le_of_ble_eq_true rfl) rfl ⟨Nat.le_of_ble_eq_true rfl, Nat.le_of_ble_eq_true rfl⟩ t5 (fun v9 N9 h6 => ?_) (fun E9 N9 h6 => by cases h6)
  cases h6
  show G z mX12_isMore (d + 1) 0 0 4 [some (.ref 54)] [.int v3] (mrow M 54 r4) Q
  refine G.sl [(.pop, 1, 0, 0, 0, 0), (.aload_n 0, 1, 0, 0, 0, 0), (.getfield 107, 3, 11, 4, 127, 0), (.aload_n 0, 1, 0, 0, 0, 0), (.getfield 110, 3, 11, 3, 126, 0)] [] (pc2 := 13) (ls2 := [some (.ref 54)]) (st2 := [.int (r4 3), .int (r4 4)]) (M2 := mrow M 54 r4) (Ps := []) (by decide +kernel) rfl rfl trivial ?_
  refine G.ic_ge (off := (7)) (tgt := 20) (by decide +kernel) rfl (fun c7 => ?_) (fun c7 => ?_)
  · skip
    refine G.sl [(.iconst 0, 1, 0, 0, 0, nI 0)] [] (pc2 := 21) (ls2 := [some (.ref 54)]) (st2 := [.int (nI 0)]) (M2 := mrow M 54 r4) (Ps := []) (by decide +kernel) rfl rfl trivial ?_
    exact G.reti (by decide +kernel) rfl rfl (Nat.le_of_ble_eq_true rfl) (Nat.le_of_ble_eq_true rfl) ((by rw [hQ]; simp only [k_isMore, g2, if_pos c7, mrow_self]))
  · skip
    refine G.sl [(.iconst 1, 1, 0, 0, 0, nI 1), (.goto 4, 3, 21, 0, 0, 0)] [] (pc2 := 21) (ls2 := [some (.ref 54)]) (st2 := [.int (nI 1)]) (M2 := mrow M 54 r4) (Ps := []) (by decide +kernel) rfl rfl trivial ?_
    exact G.reti (by decide +kernel) rfl rfl (Nat.le_of_ble_eq_true rfl) (Nat.le_of_ble_eq_true rfl) ((by rw [hQ]; simp only [k_isMore, g2, if_neg c7, mrow_self]))
theorem k_isDigit_01 (x0 : Int32) : k_isDigit x0 = 0 ∨ k_isDigit x0 = 1 := by
  unfold k_isDigit
  repeat' split
  all_goals first | exact Or.inl rfl | exact Or.inr rfl
set_option maxHeartbeats 4000000 in
set_option maxRecDepth 3000 in
theorem c_k_isDigit (z : Zp) (d : Nat) (M : Mem) (x0 : Int32) : GM z mX12_isDigit (d) [.int x0] M (fun rs => rs = .inl (some (.int (k_isDigit x0)), M)) := by
  refine GM.of oX12_isDigit.1 (Nat.le_of_ble_eq_true rfl) ?_
  show G z mX12_isDigit (d) 0 0 0 [some (.int x0)] [] M _
  obtain ⟨Q, hQ⟩ : ∃ Q : Rs → Prop, Q = (fun rs => rs = .inl (some (.int (k_isDigit x0)), M)) := ⟨_, rfl⟩
  rw [← hQ]
  refine G.sl [(.iload_n 0, 1, 0, 0, 0, 0), (.bipush 48, 2, 0, 0, 0, nI 48)] [] (pc2 := 3) (ls2 := [some (.int x0)]) (st2 := [.int (nI 48), .int x0]) (M2 := M) (Ps := []) (by decide +kernel) rfl rfl trivial ?_
  refine G.ic_lt (off := (13)) (tgt := 16) (by decide +kernel) rfl (fun c1 => ?_) (fun c1 => ?_)
  · skip
    refine G.sl [(.iconst 0, 1, 0, 0, 0, nI 0)] [] (pc2 := 17) (ls2 := [some (.int x0)]) (st2 := [.int (nI 0)]) (M2 := M) (Ps := []) (by decide +kernel) rfl rfl trivial ?_
    exact G.reti (by decide +kernel) rfl rfl (Nat.le_of_ble_eq_true rfl) (Nat.le_of_ble_eq_true rfl) ((by rw [hQ]; simp only [k_isDigit, if_pos c1, mrow_self]))
  · skip
    refine G.sl [(.iload_n 0, 1, 0, 0, 0, 0), (.bipush 57, 2, 0, 0, 0, nI 57)] [] (pc2 := 9) (ls2 := [some (.int x0)]) (st2 := [.int (nI 57), .int x0]) (M2 := M) (Ps := []) (by decide +kernel) rfl rfl trivial ?_
    refine G.ic_gt (off := (7)) (tgt := 16) (by decide +kernel) rfl (fun c2 => ?_) (fun c2 => ?_)
    · skip
      refine G.sl [(.iconst 0, 1, 0, 0, 0, nI 0)] [] (pc2 := 17) (ls2 := [some (.int x0)]) (st2 := [.int (nI 0)]) (M2 := M) (Ps := []) (by decide +kernel) rfl rfl trivial ?_
      exact G.reti (by decide +kernel) rfl rfl (Nat.le_of_ble_eq_true rfl) (Nat.le_of_ble_eq_true rfl) ((by rw [hQ]; simp only [k_isDigit, if_neg c1, if_pos c2, mrow_self]))
    · skip
      refine G.sl [(.iconst 1, 1, 0, 0, 0, nI 1), (.goto 4, 3, 17, 0, 0, 0)] [] (pc2 := 17) (ls2 := [some (.int x0)]) (st2 := [.int (nI 1)]) (M2 := M) (Ps := []) (by decide +kernel) rfl rfl trivial ?_
      exact G.reti (by decide +kernel) rfl rfl (Nat.le_of_ble_eq_true rfl) (Nat.le_of_ble_eq_true rfl) ((by rw [hQ]; simp only [k_isDigit, if_neg c1, if_neg c2, mrow_self]))
set_option maxHeartbeats 4000000 in
set_option maxRecDepth 3000 in
theorem lp_k_readNumber_54_41 (z : Zp) (d : Nat) (M : Mem) (Q : Rs → Prop) (x1 : Int32) (x2 : Int32) (x4 : Int32) : ∀ (k0 : Nat) (s5 : Int32) (q54 : (Nat → Int32)), k_readNumber_41_ok (M.1 56) x1 x2 x4 k0 s5 q54 → (match k_readNumber_41 (M.1 56) x1 x2 x4 k0 s5 q54 with | (s5', q54') => G z mX12_readNumber (d + 1) 0 0 114 [some (.ref 54), some (.int x1), some (.int x2), none, some (.int x4), some (.int (s5'))] [] (mrow M 54 (q54')) Q) → G z mX12_readNumber (d + 1) 0 0 41 [some (.ref 54), some (.int x1), some (.int x2), none, some (.int x4), some (.int s5)] [] (mrow M 54 q54) Q := by
  intro k0
  induction k0 with
  | zero =>
      intro s5 q54 hk hX
      exact (by simpa only [k_readNumber_41_ok] using hk : False).elim
  | succ k0 ih =>
      intro s5 q54 hk hX
      simp only [k_readNumber_41_ok] at hk
      refine G.sl [(.aload_n 0, 1, 0, 0, 0, 0), (.getfield 107, 3, 11, 4, 127, 0), (.aload_n 0, 1, 0, 0, 0, 0), (.getfield 110, 3, 11, 3, 126, 0)] [] (pc2 := 49) (ls2 := [some (.ref 54), some (.int x1), some (.int x2), none, some (.int x4), some (.int s5)]) (st2 := [.int (q54 3), .int (q54 4)]) (M2 := mrow M 54 q54) (Ps := []) (by decide +kernel) rfl rfl trivial ?_
      refine G.ic_ge (off := (65)) (tgt := 114) (by decide +kernel) rfl (fun c15 => ?_) (fun c15 => ?_)
      · skip
        rw [if_pos c15] at hk
        simp only [k_readNumber_41, if_pos c15] at hX
        exact hX
      · skip
        rw [if_neg c15] at hk
        obtain ⟨k16, k17, hk⟩ := hk
        refine G.sl [(.aload_n 0, 1, 0, 0, 0, 0), (.getfield 20, 3, 11, 9, 132, 0), (.aload_n 0, 1, 0, 0, 0, 0), (.getfield 107, 3, 11, 4, 127, 0), (.iaload, 1, 0, 0, 0, 0)] [ix (q54 4)] (pc2 := 61) (ls2 := [some (.ref 54), some (.int x1), some (.int x2), none, some (.int x4), some (.int s5)]) (st2 := [.int (M.1 56 (ix (q54 4)))]) (M2 := mrow M 54 q54) (Ps := [(q54 4) = nI (ix (q54 4)) ∧ (ix (q54 4)) < 600]) (by decide +kernel) rfl rfl ⟨⟨(ixE k16), k17⟩, trivial⟩ ?_
        obtain ⟨k18, hk⟩ := hk
        have t19 : GM z mX12_isDigit (d) [.int (M.1 56 (ix (q54 4)))] (mrow M 54 q54) (fun rs => rs = .inl (some (.int (k_isDigit (M.1 56 (ix (q54 4))))), mrow M 54 q54)) := by
          have q9 := c_k_isDigit z d (mrow M 54 q54) (M.1 56 (ix (q54 4)))
          try simp only [mput, mrow_same, mrow_hit, mrow_miss, mrow_sw, idr_eq, ne_eq, Nat.reduceEqDiff, not_false_eq_true, Nat.reduceLT, reduceCtorEq] at q9
          exact q9
        refine G.callS (as := [.int (M.1 56 (ix (q54 4)))]) (rest := []) oX12_isDigit lk_EvenFindersModel_134 (by decide +kernel) rfl (Nat.le_of_ble_eq_true rfl) rfl ⟨Nat.le_of_ble_eq_true rfl, Nat.le_of_ble_eq_true rfl⟩ t19 (fun v9 N9 h20 => ?_) (fun E9 N9 h20 => by cases h20)
        cases h20
        show G z mX12_readNumber (d + 1) 0 0 64 [some (.ref 54), some (.int x1), some (.int x2), none, some (.int x4), some (.int s5)] [.int (k_isDigit (M.1 56 (ix (q54 4))))] (mrow M 54 q54) Q
        refine G.if_eq (off := (50)) (tgt := 114) (by decide +kernel) rfl (fun c21 => ?_) (fun c21 => ?_)
        · skip
          rw [if_pos c21] at hk
          simp only [k_readNumber_41, if_neg c15, if_pos c21] at hX
          exact hX
        · skip
          rw [if_neg c21] at hk
          refine G.sl [(.iload 5, 2, 5, 0, 0, 0), (.sipush 9999, 3, 0, 0, 0, nI 9999)] [] (pc2 := 72) (ls2 := [some (.ref 54), some (.int x1), some (.int x2), none, some (.int x4), some (.int s5)]) (st2 := [.int (nI 9999), .int s5]) (M2 := mrow M 54 q54) (Ps := []) (by decide +kernel) rfl rfl trivial ?_
          refine G.ic_le (off := (9)) (tgt := 81) (by decide +kernel) rfl (fun c22 => ?_) (fun c22 => ?_)
          · skip
            rw [if_pos c22] at hk
            refine G.sl [(.bipush 10, 2, 0, 0, 0, nI 10), (.iload 5, 2, 5, 0, 0, 0), (.imul, 1, 0, 0, 0, 0), (.aload_n 0, 1, 0, 0, 0, 0), (.getfield 20, 3, 11, 9, 132, 0), (.aload_n 0, 1, 0, 0, 0, 0), (.getfield 107, 3, 11, 4, 127, 0), (.iaload, 1, 0, 0, 0, 0), (.iadd, 1, 0, 0, 0, 0), (.bipush 48, 2, 0, 0, 0, nI 48), (.isub, 1, 0, 0, 0, 0), (.istore 5, 2, 5, 0, 0, 0), (.aload_n 0, 1, 0, 0, 0, 0), (.dup, 1, 0, 0, 0, 0), (.getfield 107, 3, 11, 4, 127, 0), (.iconst 1, 1, 0, 0, 0, nI 1), (.iadd, 1, 0, 0, 0, 0), (.putfield 107, 3, 11, 4, 127, 0), (.goto (-70), 3, 41, 0, 0, 0)] [ix (q54 4)] (pc2 := 41) (ls2 := [some (.ref 54), some (.int x1), some (.int x2), none, some (.int x4), some (.int ((((nI 10) * s5) + (M.1 56 (ix (q54 4)))) - (nI 48)))]) (st2 := []) (M2 := mput (mrow M 54 q54) 54 4 ((q54 4) + (nI 1))) (Ps := [(q54 4) = nI (ix (q54 4)) ∧ (ix (q54 4)) < 600]) (by decide +kernel) rfl rfl ⟨⟨(ixE k16), k17⟩, trivial⟩ ?_
            refine G.mem (M' := mrow M 54 (upd q54 4 ((q54 4) + (nI 1)))) (by first | rfl | (simp only [mput, mrow_same, mrow_hit, mrow_miss, mrow_sw, idr_eq, ne_eq, Nat.reduceEqDiff, not_false_eq_true, Nat.reduceLT, reduceCtorEq]; done)) ?_
            simp only [k_readNumber_41, if_neg c15, if_neg c21, if_pos c22] at hX
            exact ih ((((nI 10) * s5) + (M.1 56 (ix (q54 4)))) - (nI 48)) (upd q54 4 ((q54 4) + (nI 1))) hk hX
          · skip
            rw [if_neg c22] at hk
            refine G.sl [(.sipush 10000, 3, 0, 0, 0, nI 10000), (.goto 21, 3, 99, 0, 0, 0), (.istore 5, 2, 5, 0, 0, 0), (.aload_n 0, 1, 0, 0, 0, 0), (.dup, 1, 0, 0, 0, 0), (.getfield 107, 3, 11, 4, 127, 0), (.iconst 1, 1, 0, 0, 0, nI 1), (.iadd, 1, 0, 0, 0, 0), (.putfield 107, 3, 11, 4, 127, 0), (.goto (-70), 3, 41, 0, 0, 0)] [] (pc2 := 41) (ls2 := [some (.ref 54), some (.int x1), some (.int x2), none, some (.int x4), some (.int (nI 10000))]) (st2 := []) (M2 := mput (mrow M 54 q54) 54 4 ((q54 4) + (nI 1))) (Ps := []) (by decide +kernel) rfl rfl trivial ?_
            refine G.mem (M' := mrow M 54 (upd q54 4 ((q54 4) + (nI 1)))) (by first | rfl | (simp only [mput, mrow_same, mrow_hit, mrow_miss, mrow_sw, idr_eq, ne_eq, Nat.reduceEqDiff, not_false_eq_true, Nat.reduceLT, reduceCtorEq]; done)) ?_
            simp only [k_readNumber_41, if_neg c15, if_neg c21, if_neg c22] at hX
            exact ih (nI 10000) (upd q54 4 ((q54 4) + (nI 1))) hk hX
set_option maxHeartbeats 4000000 in
set_option maxRecDepth 3000 in
theorem c_k_wrong_54 (z : Zp) (d : Nat) (M : Mem) (x1 : Int32) (x2 : Int32) : GM z mX12_wrong (d) [.ref 54, .int x1, .int x2] M (fun rs => rs = .inl (none, mrow M 54 ((k_wrong (M.1 54) x1 x2).2))) := by
  refine GM.of oX12_wrong.1 (Nat.le_of_ble_eq_true rfl) ?_
  show G z mX12_wrong (d) 0 0 0 [some (.ref 54), some (.int x1), some (.int x2)] [] M _
  obtain ⟨Q, hQ⟩ : ∃ Q : Rs → Prop, Q = (fun rs => rs = .inl (none, mrow M 54 ((k_wrong (M.1 54) x1 x2).2))) := ⟨_, rfl⟩
  rw [← hQ]
  refine G.sl [(.aload_n 0, 1, 0, 0, 0, 0), (.getfield 101, 3, 11, 5, 128, 0), (.iconst (-1), 1, 0, 0, 0, (-1))] [] (pc2 := 5) (ls2 := [some (.ref 54), some (.int x1), some (.int x2)]) (st2 := [.int ((-1)), .int (M.1 54 5)]) (M2 := M) (Ps := []) (by decide +kernel) rfl rfl trivial ?_
  refine G.ic_eq (off := (4)) (tgt := 9) (by decide +kernel) rfl (fun c1 => ?_) (fun c1 => ?_)
  · skip
    refine G.sl [(.aload_n 0, 1, 0, 0, 0, 0), (.iload_n 2, 1, 2, 0, 0, 0), (.putfield 101, 3, 11, 5, 128, 0), (.aload_n 0, 1, 0, 0, 0, 0), (.iload_n 1, 1, 1, 0, 0, 0), (.putfield 104, 3, 11, 6, 129, 0)] [] (pc2 := 19) (ls2 := [some (.ref 54), some (.int x1), some (.int x2)]) (st2 := []) (M2 := mput (mput M 54 5 x2) 54 6 x1) (Ps := []) (by decide +kernel) rfl rfl trivial ?_
    refine G.mem (M' := mrow M 54 (upd (upd (M.1 54) 5 x2) 6 x1)) (by first | rfl | (simp only [mput, mrow_same, mrow_hit, mrow_miss, mrow_sw, idr_eq, ne_eq, Nat.reduceEqDiff, not_false_eq_true, Nat.reduceLT, reduceCtorEq]; done)) ?_
    exact G.retv (by decide +kernel) rfl (Nat.le_of_ble_eq_true rfl) (Nat.le_of_ble_eq_true rfl) ((by rw [hQ]; simp only [k_wrong, if_pos c1, mrow_self]))
  · skip
    refine G.mem (M' := mrow M 54 (M.1 54)) (((mrow_id (N := M) (c := 54) (f := M.1 54) (by first | rfl | (simp only [mput, mrow_same, mrow_hit, mrow_miss, mrow_sw, idr_eq, ne_eq, Nat.reduceEqDiff, not_false_eq_true, Nat.reduceLT, reduceCtorEq]; done))).symm).trans (by first | rfl | (simp only [mput, mrow_same, mrow_hit, mrow_miss, mrow_sw, idr_eq, ne_eq, Nat.reduceEqDiff, not_false_eq_true, Nat.reduceLT, reduceCtorEq]; done))) ?_
    exact G.retv (by decide +kernel) rfl (Nat.le_of_ble_eq_true rfl) (Nat.le_of_ble_eq_true rfl) ((by rw [hQ]; simp only [k_wrong, if_neg c1, mrow_self]))
set_option maxHeartbeats 4000000 in
set_option maxRecDepth 3000 in
theorem c_k_readNumber_54 (z : Zp) (d : Nat) (M : Mem) (x1 : Int32) (x2 : Int32) (hk : k_readNumber_ok (M.1 54) (M.1 56) x1 x2) : GM z mX12_readNumber (d + 1) [.ref 54, .int x1, .int x2] M (fun rs => rs = .inl (some (.int ((k_readNumber (M.1 54) (M.1 56) x1 x2).1)), mrow M 54 ((k_readNumber (M.1 54) (M.1 56) x1 x2).2))) := by
  simp only [k_readNumber_ok] at hk
  refine GM.of oX12_readNumber.1 (Nat.le_of_ble_eq_true rfl) ?_
  show G z mX12_readNumber (d + 1) 0 0 0 [some (.ref 54), some (.int x1), some (.int x2), none, none, none] [] M _
  obtain ⟨Q, hQ⟩ : ∃ Q : Rs → Prop, Q = (fun rs => rs = .inl (some (.int ((k_readNumber (M.1 54) (M.1 56) x1 x2).1)), mrow M 54 ((k_readNumber (M.1 54) (M.1 56) x1 x2).2))) := ⟨_, rfl⟩
  rw [← hQ]
  refine G.sl [(.aload_n 0, 1, 0, 0, 0, 0)] [] (pc2 := 1) (ls2 := [some (.ref 54), some (.int x1), some (.int x2), none, none, none]) (st2 := [.ref 54]) (M2 := M) (Ps := []) (by decide +kernel) rfl rfl trivial ?_
  obtain ⟨k1, hk⟩ := hk
  have t2 : GM z mX12_fine (d) [.ref 54] M (fun rs => rs = .inl (some (.int (k_fine (M.1 54))), M)) := by
    have q9 := c_k_fine_54 z d M 
    try simp only [mput, mrow_same, mrow_hit, mrow_miss, mrow_sw, idr_eq, ne_eq, Nat.reduceEqDiff, not_false_eq_true, Nat.reduceLT, reduceCtorEq] at q9
    exact q9
  refine G.callV (as := []) (rest := []) (a := 54) oX12_fine lk_EvenFindersModel_130 (by decide +kernel) rfl rfl ⟨rfl, rfl⟩ (Nat.le_of_ble_eq_true rfl) rfl ⟨Nat.le_of_ble_eq_true rfl, Nat.le_of_ble_eq_true rfl⟩ t2 (fun v9 N9 h3 => ?_) (fun E9 N9 h3 => by cases h3)
  cases h3
  show G z mX12_readNumber (d + 1) 0 0 4 [some (.ref 54), some (.int x1), some (.int x2), none, none, none] [.int (k_fine (M.1 54))] M Q
  refine G.if_ne (off := (5)) (tgt := 9) (by decide +kernel) rfl (fun c4 => ?_) (fun c4 => ?_)
  · skip
    rw [if_neg c4] at hk
    refine G.sl [(.aload_n 0, 1, 0, 0, 0, 0)] [] (pc2 := 10) (ls2 := [some (.ref 54), some (.int x1), some (.int x2), none, none, none]) (st2 := [.ref 54]) (M2 := M) (Ps := []) (by decide +kernel) rfl rfl trivial ?_
    obtain ⟨k5, hk⟩ := hk
    rcases g6 : k_here (M.1 54) (M.1 56) with ⟨v7, r8⟩
    try simp only [g6] at hk
    have t9 : GM z mX12_here (d) [.ref 54] M (fun rs => rs = .inl (some (.int v7), mrow M 54 r8)) := by
      have q9 := c_k_here_54 z d M k5
      try simp only [mput, mrow_same, mrow_hit, mrow_miss, mrow_sw, idr_eq, ne_eq, Nat.reduceEqDiff, not_false_eq_true, Nat.reduceLT, reduceCtorEq, g6] at q9
      exact q9
    refine G.callV (as := []) (rest := []) (a := 54) oX12_here lk_EvenFindersModel_113 (by decide +kernel) rfl rfl ⟨rfl, rfl⟩ (Nat.le_of_ble_eq_true rfl) rfl ⟨Nat.le_of_ble_eq_true rfl, Nat.le_of_ble_eq_true rfl⟩ t9 (fun v9 N9 h10 => ?_) (fun E9 N9 h10 => by cases h10)
    cases h10
    show G z mX12_readNumber (d + 1) 0 0 13 [some (.ref 54), some (.int x1), some (.int x2), none, none, none] [.int v7] (mrow M 54 r8) Q
    refine G.sl [(.istore_n 3, 1, 3, 0, 0, 0), (.aload_n 0, 1, 0, 0, 0, 0), (.getfield 107, 3, 11, 4, 127, 0), (.istore 4, 2, 4, 0, 0, 0), (.iconst 0, 1, 0, 0, 0, nI 0), (.istore 5, 2, 5, 0, 0, 0), (.iload_n 3, 1, 3, 0, 0, 0)] [] (pc2 := 24) (ls2 := [some (.ref 54), some (.int x1), some (.int x2), some (.int v7), some (.int (r8 4)), some (.int (nI 0))]) (st2 := [.int v7]) (M2 := mrow M 54 r8) (Ps := []) (by decide +kernel) rfl rfl trivial ?_
    obtain ⟨k11, hk⟩ := hk
    have t12 : GM z mX12_isDigit (d) [.int v7] (mrow M 54 r8) (fun rs => rs = .inl (some (.int (k_isDigit v7)), mrow M 54 r8)) := by
      have q9 := c_k_isDigit z d (mrow M 54 r8) v7
      try simp only [mput, mrow_same, mrow_hit, mrow_miss, mrow_sw, idr_eq, ne_eq, Nat.reduceEqDiff, not_false_eq_true, Nat.reduceLT, reduceCtorEq] at q9
      exact q9
    refine G.callS (as := [.int v7]) (rest := []) oX12_isDigit lk_EvenFindersModel_134 (by decide +kernel) rfl (Nat.le_of_ble_eq_true rfl) rfl ⟨Nat.le_of_ble_eq_true rfl, Nat.le_of_ble_eq_true rfl⟩ t12 (fun v9 N9 h13 => ?_) (fun E9 N9 h13 => by cases h13)
    cases h13
    show G z mX12_readNumber (d + 1) 0 0 27 [some (.ref 54), some (.int x1), some (.int x2), some (.int v7), some (.int (r8 4)), some (.int (nI 0))] [.int (k_isDigit v7)] (mrow M 54 r8) Q
    refine G.if_ne (off := (14)) (tgt := 41) (by decide +kernel) rfl (fun c14 => ?_) (fun c14 => ?_)
    · skip
      rw [if_neg c14] at hk
      refine G.loc (ls2 := [some (.ref 54), some (.int x1), some (.int x2), none, some (.int (r8 4)), some (.int (nI 0))]) (by simp [subL]) ?_
      obtain ⟨k23, hk⟩ := hk
      refine G.mem (M' := mrow (mrow M 54 r8) 54 ((mrow M 54 r8).1 54)) (by simp only [mrow_self]) ?_
      refine lp_k_readNumber_54_41 z d (mrow M 54 r8) Q x1 x2 (r8 4) FU (nI 0) ((mrow M 54 r8).1 54) (by first | (simp only [mput, mrow_same, mrow_hit, mrow_miss, mrow_sw, idr_eq, ne_eq, Nat.reduceEqDiff, not_false_eq_true, Nat.reduceLT, reduceCtorEq]; exact k23) | exact k23) ?_
      try simp only [mput, mrow_same, mrow_hit, mrow_miss, mrow_sw, idr_eq, ne_eq, Nat.reduceEqDiff, not_false_eq_true, Nat.reduceLT, reduceCtorEq]
      rcases g24 : k_readNumber_41 (M.1 56) x1 x2 (r8 4) FU (nI 0) r8 with ⟨v25, r26⟩
      show G z mX12_readNumber (d + 1) 0 0 114 [some (.ref 54), some (.int x1), some (.int x2), none, some (.int (r8 4)), some (.int v25)] [] (mrow M 54 r26) Q
      refine G.sl [(.iload 5, 2, 5, 0, 0, 0), (.iload_n 1, 1, 1, 0, 0, 0)] [] (pc2 := 117) (ls2 := [some (.ref 54), some (.int x1), some (.int x2), none, some (.int (r8 4)), some (.int v25)]) (st2 := [.int x1, .int v25]) (M2 := mrow M 54 r26) (Ps := []) (by decide +kernel) rfl rfl trivial ?_
      refine G.ic_lt (off := (9)) (tgt := 126) (by decide +kernel) rfl (fun c27 => ?_) (fun c27 => ?_)
      · skip
        refine G.sl [(.aload_n 0, 1, 0, 0, 0, 0), (.iconst 2, 1, 0, 0, 0, nI 2), (.iload 4, 2, 4, 0, 0, 0)] [] (pc2 := 130) (ls2 := [some (.ref 54), some (.int x1), some (.int x2), none, some (.int (r8 4)), some (.int v25)]) (st2 := [.int (r8 4), .int (nI 2), .ref 54]) (M2 := mrow M 54 r26) (Ps := []) (by decide +kernel) rfl rfl trivial ?_
        rcases g29 : k_wrong r26 (nI 2) (r8 4) with ⟨u30, r31⟩
        have t32 : GM z mX12_wrong (d) [.ref 54, .int (nI 2), .int (r8 4)] (mrow M 54 r26) (fun rs => rs = .inl (none, mrow M 54 r31)) := by
          have q9 := c_k_wrong_54 z d (mrow M 54 r26) (nI 2) (r8 4)
          try simp only [mput, mrow_same, mrow_hit, mrow_miss, mrow_sw, idr_eq, ne_eq, Nat.reduceEqDiff, not_false_eq_true, Nat.reduceLT, reduceCtorEq, g29] at q9
          exact q9
        refine G.callV (as := [.int (nI 2), .int (r8 4)]) (rest := []) (a := 54) oX12_wrong lk_EvenFindersModel_137 (by decide +kernel) rfl rfl ⟨rfl, rfl⟩ (Nat.le_of_ble_eq_true rfl) rfl ⟨Nat.le_of_ble_eq_true rfl, Nat.le_of_ble_eq_true rfl⟩ t32 (fun v9 N9 h33 => ?_) (fun E9 N9 h33 => by cases h33)
        cases h33
        show G z mX12_readNumber (d + 1) 0 0 133 [some (.ref 54), some (.int x1), some (.int x2), none, some (.int (r8 4)), some (.int v25)] [] (mrow M 54 r31) Q
        refine G.sl [(.iconst 0, 1, 0, 0, 0, nI 0)] [] (pc2 := 134) (ls2 := [some (.ref 54), some (.int x1), some (.int x2), none, some (.int (r8 4)), some (.int v25)]) (st2 := [.int (nI 0)]) (M2 := mrow M 54 r31) (Ps := []) (by decide +kernel) rfl rfl trivial ?_
        exact G.reti (by decide +kernel) rfl rfl (Nat.le_of_ble_eq_true rfl) (Nat.le_of_ble_eq_true rfl) ((by rw [hQ]; simp only [k_readNumber, if_neg c4, g6, if_neg c14, g24, if_pos c27, g29, mrow_self]))
      · skip
        refine G.sl [(.iload 5, 2, 5, 0, 0, 0), (.iload_n 2, 1, 2, 0, 0, 0)] [] (pc2 := 123) (ls2 := [some (.ref 54), some (.int x1), some (.int x2), none, some (.int (r8 4)), some (.int v25)]) (st2 := [.int x2, .int v25]) (M2 := mrow M 54 r26) (Ps := []) (by decide +kernel) rfl rfl trivial ?_
        refine G.ic_le (off := (12)) (tgt := 135) (by decide +kernel) rfl (fun c34 => ?_) (fun c34 => ?_)
        · skip
          refine G.sl [(.iload 5, 2, 5, 0, 0, 0)] [] (pc2 := 137) (ls2 := [some (.ref 54), some (.int x1), some (.int x2), none, some (.int (r8 4)), some (.int v25)]) (st2 := [.int v25]) (M2 := mrow M 54 r26) (Ps := []) (by decide +kernel) rfl rfl trivial ?_
          exact G.reti (by decide +kernel) rfl rfl (Nat.le_of_ble_eq_true rfl) (Nat.le_of_ble_eq_true rfl) ((by rw [hQ]; simp only [k_readNumber, if_neg c4, g6, if_neg c14, g24, if_neg c27, if_pos c34, mrow_self]))
        · skip
          refine G.sl [(.aload_n 0, 1, 0, 0, 0, 0), (.iconst 2, 1, 0, 0, 0, nI 2), (.iload 4, 2, 4, 0, 0, 0)] [] (pc2 := 130) (ls2 := [some (.ref 54), some (.int x1), some (.int x2), none, some (.int (r8 4)), some (.int v25)]) (st2 := [.int (r8 4), .int (nI 2), .ref 54]) (M2 := mrow M 54 r26) (Ps := []) (by decide +kernel) rfl rfl trivial ?_
          rcases g36 : k_wrong r26 (nI 2) (r8 4) with ⟨u37, r38⟩
          have t39 : GM z mX12_wrong (d) [.ref 54, .int (nI 2), .int (r8 4)] (mrow M 54 r26) (fun rs => rs = .inl (none, mrow M 54 r38)) := by
            have q9 := c_k_wrong_54 z d (mrow M 54 r26) (nI 2) (r8 4)
            try simp only [mput, mrow_same, mrow_hit, mrow_miss, mrow_sw, idr_eq, ne_eq, Nat.reduceEqDiff, not_false_eq_true, Nat.reduceLT, reduceCtorEq, g36] at q9
            exact q9
          refine G.callV (as := [.int (nI 2), .int (r8 4)]) (rest := []) (a := 54) oX12_wrong lk_EvenFindersModel_137 (by decide +kernel) rfl rfl ⟨rfl, rfl⟩ (Nat.le_of_ble_eq_true rfl) rfl ⟨Nat.le_of_ble_eq_true rfl, Nat.le_of_ble_eq_true rfl⟩ t39 (fun v9 N9 h40 => ?_) (fun E9 N9 h40 => by cases h40)
          cases h40
          show G z mX12_readNumber (d + 1) 0 0 133 [some (.ref 54), some (.int x1), some (.int x2), none, some (.int (r8 4)), some (.int v25)] [] (mrow M 54 r38) Q
          refine G.sl [(.iconst 0, 1, 0, 0, 0, nI 0)] [] (pc2 := 134) (ls2 := [some (.ref 54), some (.int x1), some (.int x2), none, some (.int (r8 4)), some (.int v25)]) (st2 := [.int (nI 0)]) (M2 := mrow M 54 r38) (Ps := []) (by decide +kernel) rfl rfl trivial ?_
          exact G.reti (by decide +kernel) rfl rfl (Nat.le_of_ble_eq_true rfl) (Nat.le_of_ble_eq_true rfl) ((by rw [hQ]; simp only [k_readNumber, if_neg c4, g6, if_neg c14, g24, if_neg c27, if_neg c34, g36, mrow_self]))
    · skip
      rw [if_pos c14] at hk
      refine G.sl [(.aload_n 0, 1, 0, 0, 0, 0), (.iconst 1, 1, 0, 0, 0, nI 1), (.aload_n 0, 1, 0, 0, 0, 0), (.getfield 107, 3, 11, 4, 127, 0)] [] (pc2 := 36) (ls2 := [some (.ref 54), some (.int x1), some (.int x2), some (.int v7), some (.int (r8 4)), some (.int (nI 0))]) (st2 := [.int (r8 4), .int (nI 1), .ref 54]) (M2 := mrow M 54 r8) (Ps := []) (by decide +kernel) rfl rfl trivial ?_
      rcases g42 : k_wrong r8 (nI 1) (r8 4) with ⟨u43, r44⟩
      have t45 : GM z mX12_wrong (d) [.ref 54, .int (nI 1), .int (r8 4)] (mrow M 54 r8) (fun rs => rs = .inl (none, mrow M 54 r44)) := by
        have q9 := c_k_wrong_54 z d (mrow M 54 r8) (nI 1) (r8 4)
        try simp only [mput, mrow_same, mrow_hit, mrow_miss, mrow_sw, idr_eq, ne_eq, Nat.reduceEqDiff, not_false_eq_true, Nat.reduceLT, reduceCtorEq, g42] at q9
        exact q9
      refine G.callV (as := [.int (nI 1), .int (r8 4)]) (rest := []) (a := 54) oX12_wrong lk_EvenFindersModel_137 (by decide +kernel) rfl rfl ⟨rfl, rfl⟩ (Nat.le_of_ble_eq_true rfl) rfl ⟨Nat.le_of_ble_eq_true rfl, Nat.le_of_ble_eq_true rfl⟩ t45 (fun v9 N9 h46 => ?_) (fun E9 N9 h46 => by cases h46)
      cases h46
      show G z mX12_readNumber (d + 1) 0 0 39 [some (.ref 54), some (.int x1), some (.int x2), some (.int v7), some (.int (r8 4)), some (.int (nI 0))] [] (mrow M 54 r44) Q
      refine G.sl [(.iconst 0, 1, 0, 0, 0, nI 0)] [] (pc2 := 40) (ls2 := [some (.ref 54), some (.int x1), some (.int x2), some (.int v7), some (.int (r8 4)), some (.int (nI 0))]) (st2 := [.int (nI 0)]) (M2 := mrow M 54 r44) (Ps := []) (by decide +kernel) rfl rfl trivial ?_
      exact G.reti (by decide +kernel) rfl rfl (Nat.le_of_ble_eq_true rfl) (Nat.le_of_ble_eq_true rfl) ((by rw [hQ]; simp only [k_readNumber, if_neg c4, g6, if_pos c14, g42, mrow_self]))
  · skip
    rw [if_pos c4] at hk
    refine G.sl [(.iconst 0, 1, 0, 0, 0, nI 0)] [] (pc2 := 8) (ls2 := [some (.ref 54), some (.int x1), some (.int x2), none, none, none]) (st2 := [.int (nI 0)]) (M2 := M) (Ps := []) (by decide +kernel) rfl rfl trivial ?_
    refine G.mem (M' := mrow M 54 (M.1 54)) (((mrow_id (N := M) (c := 54) (f := M.1 54) (by first | rfl | (simp only [mput, mrow_same, mrow_hit, mrow_miss, mrow_sw, idr_eq, ne_eq, Nat.reduceEqDiff, not_false_eq_true, Nat.reduceLT, reduceCtorEq]; done))).symm).trans (by first | rfl | (simp only [mput, mrow_same, mrow_hit, mrow_miss, mrow_sw, idr_eq, ne_eq, Nat.reduceEqDiff, not_false_eq_true, Nat.reduceLT, reduceCtorEq]; done))) ?_
    exact G.reti (by decide +kernel) rfl rfl (Nat.le_of_ble_eq_true rfl) (Nat.le_of_ble_eq_true rfl) ((by rw [hQ]; simp only [k_readNumber, if_pos c4, mrow_self]))
set_option maxHeartbeats 4000000 in
set_option maxRecDepth 3000 in
theorem c_k_sign_54 (z : Zp) (d : Nat) (M : Mem) (x1 : Int32) (hk : k_sign_ok (M.1 54) (M.1 56) x1) : GM z mX12_sign (d + 1) [.ref 54, .int x1] M (fun rs => rs = .inl (none, mrow M 54 ((k_sign (M.1 54) (M.1 56) x1).2))) := by
  simp only [k_sign_ok] at hk
  refine GM.of oX12_sign.1 (Nat.le_of_ble_eq_true rfl) ?_
  show G z mX12_sign (d + 1) 0 0 0 [some (.ref 54), some (.int x1)] [] M _
  obtain ⟨Q, hQ⟩ : ∃ Q : Rs → Prop, Q = (fun rs => rs = .inl (none, mrow M 54 ((k_sign (M.1 54) (M.1 56) x1).2))) := ⟨_, rfl⟩
  rw [← hQ]
  refine G.sl [(.aload_n 0, 1, 0, 0, 0, 0)] [] (pc2 := 1) (ls2 := [some (.ref 54), some (.int x1)]) (st2 := [.ref 54]) (M2 := M) (Ps := []) (by decide +kernel) rfl rfl trivial ?_
  obtain ⟨k1, hk⟩ := hk
  have t2 : GM z mX12_fine (d) [.ref 54] M (fun rs => rs = .inl (some (.int (k_fine (M.1 54))), M)) := by
    have q9 := c_k_fine_54 z d M 
    try simp only [mput, mrow_same, mrow_hit, mrow_miss, mrow_sw, idr_eq, ne_eq, Nat.reduceEqDiff, not_false_eq_true, Nat.reduceLT, reduceCtorEq] at q9
    exact q9
  refine G.callV (as := []) (rest := []) (a := 54) oX12_fine lk_EvenFindersModel_130 (by decide +kernel) rfl rfl ⟨rfl, rfl⟩ (Nat.le_of_ble_eq_true rfl) rfl ⟨Nat.le_of_ble_eq_true rfl, Nat.le_of_ble_eq_true rfl⟩ t2 (fun v9 N9 h3 => ?_) (fun E9 N9 h3 => by cases h3)
  cases h3
  show G z mX12_sign (d + 1) 0 0 4 [some (.ref 54), some (.int x1)] [.int (k_fine (M.1 54))] M Q
  refine G.if_eq (off := (20)) (tgt := 24) (by decide +kernel) rfl (fun c4 => ?_) (fun c4 => ?_)
  · skip
    rw [if_pos c4] at hk
    refine G.sl [(.aload_n 0, 1, 0, 0, 0, 0)] [] (pc2 := 25) (ls2 := [some (.ref 54), some (.int x1)]) (st2 := [.ref 54]) (M2 := M) (Ps := []) (by decide +kernel) rfl rfl trivial ?_
    have t6 : GM z mX12_fine (d) [.ref 54] M (fun rs => rs = .inl (some (.int (k_fine (M.1 54))), M)) := by
      have q9 := c_k_fine_54 z d M 
      try simp only [mput, mrow_same, mrow_hit, mrow_miss, mrow_sw, idr_eq, ne_eq, Nat.reduceEqDiff, not_false_eq_true, Nat.reduceLT, reduceCtorEq] at q9
      exact q9
    refine G.callV (as := []) (rest := []) (a := 54) oX12_fine lk_EvenFindersModel_130 (by decide +kernel) rfl rfl ⟨rfl, rfl⟩ (Nat.le_of_ble_eq_true rfl) rfl ⟨Nat.le_of_ble_eq_true rfl, Nat.le_of_ble_eq_true rfl⟩ t6 (fun v9 N9 h7 => ?_) (fun E9 N9 h7 => by cases h7)
    cases h7
    show G z mX12_sign (d + 1) 0 0 28 [some (.ref 54), some (.int x1)] [.int (k_fine (M.1 54))] M Q
    refine G.if_eq (off := (13)) (tgt := 41) (by decide +kernel) rfl (fun _ => ?_) (fun h9 => absurd c4 h9)
    refine G.mem (M' := mrow M 54 (M.1 54)) (((mrow_id (N := M) (c := 54) (f := M.1 54) (by first | rfl | (simp only [mput, mrow_same, mrow_hit, mrow_miss, mrow_sw, idr_eq, ne_eq, Nat.reduceEqDiff, not_false_eq_true, Nat.reduceLT, reduceCtorEq]; done))).symm).trans (by first | rfl | (simp only [mput, mrow_same, mrow_hit, mrow_miss, mrow_sw, idr_eq, ne_eq, Nat.reduceEqDiff, not_false_eq_true, Nat.reduceLT, reduceCtorEq]; done))) ?_
    exact G.retv (by decide +kernel) rfl (Nat.le_of_ble_eq_true rfl) (Nat.le_of_ble_eq_true rfl) ((by rw [hQ]; simp only [k_sign, if_pos c4, mrow_self]))
  · skip
    rw [if_neg c4] at hk
    refine G.sl [(.aload_n 0, 1, 0, 0, 0, 0)] [] (pc2 := 8) (ls2 := [some (.ref 54), some (.int x1)]) (st2 := [.ref 54]) (M2 := M) (Ps := []) (by decide +kernel) rfl rfl trivial ?_
    obtain ⟨k8, hk⟩ := hk
    rcases g9 : k_here (M.1 54) (M.1 56) with ⟨v10, r11⟩
    have t12 : GM z mX12_here (d) [.ref 54] M (fun rs => rs = .inl (some (.int v10), mrow M 54 r11)) := by
      have q9 := c_k_here_54 z d M k8
      try simp only [mput, mrow_same, mrow_hit, mrow_miss, mrow_sw, idr_eq, ne_eq, Nat.reduceEqDiff, not_false_eq_true, Nat.reduceLT, reduceCtorEq, g9] at q9
      exact q9
    refine G.callV (as := []) (rest := []) (a := 54) oX12_here lk_EvenFindersModel_113 (by decide +kernel) rfl rfl ⟨rfl, rfl⟩ (Nat.le_of_ble_eq_true rfl) rfl ⟨Nat.le_of_ble_eq_true rfl, Nat.le_of_ble_eq_true rfl⟩ t12 (fun v9 N9 h13 => ?_) (fun E9 N9 h13 => by cases h13)
    cases h13
    show G z mX12_sign (d + 1) 0 0 11 [some (.ref 54), some (.int x1)] [.int v10] (mrow M 54 r11) Q
    refine G.sl [(.iload_n 1, 1, 1, 0, 0, 0)] [] (pc2 := 12) (ls2 := [some (.ref 54), some (.int x1)]) (st2 := [.int x1, .int v10]) (M2 := mrow M 54 r11) (Ps := []) (by decide +kernel) rfl rfl trivial ?_
    refine G.ic_eq (off := (12)) (tgt := 24) (by decide +kernel) rfl (fun c14 => ?_) (fun c14 => ?_)
    · skip
      refine G.sl [(.aload_n 0, 1, 0, 0, 0, 0)] [] (pc2 := 25) (ls2 := [some (.ref 54), some (.int x1)]) (st2 := [.ref 54]) (M2 := mrow M 54 r11) (Ps := []) (by decide +kernel) rfl rfl trivial ?_
      have t16 : GM z mX12_fine (d) [.ref 54] (mrow M 54 r11) (fun rs => rs = .inl (some (.int (k_fine r11)), mrow M 54 r11)) := by
        have q9 := c_k_fine_54 z d (mrow M 54 r11) 
        try simp only [mput, mrow_same, mrow_hit, mrow_miss, mrow_sw, idr_eq, ne_eq, Nat.reduceEqDiff, not_false_eq_true, Nat.reduceLT, reduceCtorEq] at q9
        exact q9
      refine G.callV (as := []) (rest := []) (a := 54) oX12_fine lk_EvenFindersModel_130 (by decide +kernel) rfl rfl ⟨rfl, rfl⟩ (Nat.le_of_ble_eq_true rfl) rfl ⟨Nat.le_of_ble_eq_true rfl, Nat.le_of_ble_eq_true rfl⟩ t16 (fun v9 N9 h17 => ?_) (fun E9 N9 h17 => by cases h17)
      cases h17
      show G z mX12_sign (d + 1) 0 0 28 [some (.ref 54), some (.int x1)] [.int (k_fine r11)] (mrow M 54 r11) Q
      refine G.if_eq (off := (13)) (tgt := 41) (by decide +kernel) rfl (fun c18 => ?_) (fun c18 => ?_)
      · skip
        exact G.retv (by decide +kernel) rfl (Nat.le_of_ble_eq_true rfl) (Nat.le_of_ble_eq_true rfl) ((by rw [hQ]; simp only [k_sign, if_neg c4, g9, if_pos c14, if_pos c18, mrow_self]))
      · skip
        refine G.sl [(.aload_n 0, 1, 0, 0, 0, 0), (.dup, 1, 0, 0, 0, 0), (.getfield 107, 3, 11, 4, 127, 0), (.iconst 1, 1, 0, 0, 0, nI 1), (.iadd, 1, 0, 0, 0, 0), (.putfield 107, 3, 11, 4, 127, 0)] [] (pc2 := 41) (ls2 := [some (.ref 54), some (.int x1)]) (st2 := []) (M2 := mput (mrow M 54 r11) 54 4 ((r11 4) + (nI 1))) (Ps := []) (by decide +kernel) rfl rfl trivial ?_
        refine G.mem (M' := mrow M 54 (upd r11 4 ((r11 4) + (nI 1)))) (by first | rfl | (simp only [mput, mrow_same, mrow_hit, mrow_miss, mrow_sw, idr_eq, ne_eq, Nat.reduceEqDiff, not_false_eq_true, Nat.reduceLT, reduceCtorEq]; done)) ?_
        exact G.retv (by decide +kernel) rfl (Nat.le_of_ble_eq_true rfl) (Nat.le_of_ble_eq_true rfl) ((by rw [hQ]; simp only [k_sign, if_neg c4, g9, if_pos c14, if_neg c18, mrow_self]))
    · skip
      refine G.sl [(.aload_n 0, 1, 0, 0, 0, 0), (.iconst 1, 1, 0, 0, 0, nI 1), (.aload_n 0, 1, 0, 0, 0, 0), (.getfield 107, 3, 11, 4, 127, 0)] [] (pc2 := 21) (ls2 := [some (.ref 54), some (.int x1)]) (st2 := [.int (r11 4), .int (nI 1), .ref 54]) (M2 := mrow M 54 r11) (Ps := []) (by decide +kernel) rfl rfl trivial ?_
      rcases g20 : k_wrong r11 (nI 1) (r11 4) with ⟨u21, r22⟩
      have t23 : GM z mX12_wrong (d) [.ref 54, .int (nI 1), .int (r11 4)] (mrow M 54 r11) (fun rs => rs = .inl (none, mrow M 54 r22)) := by
        have q9 := c_k_wrong_54 z d (mrow M 54 r11) (nI 1) (r11 4)
        try simp only [mput, mrow_same, mrow_hit, mrow_miss, mrow_sw, idr_eq, ne_eq, Nat.reduceEqDiff, not_false_eq_true, Nat.reduceLT, reduceCtorEq, g20] at q9
        exact q9
      refine G.callV (as := [.int (nI 1), .int (r11 4)]) (rest := []) (a := 54) oX12_wrong lk_EvenFindersModel_137 (by decide +kernel) rfl rfl ⟨rfl, rfl⟩ (Nat.le_of_ble_eq_true rfl) rfl ⟨Nat.le_of_ble_eq_true rfl, Nat.le_of_ble_eq_true rfl⟩ t23 (fun v9 N9 h24 => ?_) (fun E9 N9 h24 => by cases h24)
      cases h24
      show G z mX12_sign (d + 1) 0 0 24 [some (.ref 54), some (.int x1)] [] (mrow M 54 r22) Q
      refine G.sl [(.aload_n 0, 1, 0, 0, 0, 0)] [] (pc2 := 25) (ls2 := [some (.ref 54), some (.int x1)]) (st2 := [.ref 54]) (M2 := mrow M 54 r22) (Ps := []) (by decide +kernel) rfl rfl trivial ?_
      have t26 : GM z mX12_fine (d) [.ref 54] (mrow M 54 r22) (fun rs => rs = .inl (some (.int (k_fine r22)), mrow M 54 r22)) := by
        have q9 := c_k_fine_54 z d (mrow M 54 r22) 
        try simp only [mput, mrow_same, mrow_hit, mrow_miss, mrow_sw, idr_eq, ne_eq, Nat.reduceEqDiff, not_false_eq_true, Nat.reduceLT, reduceCtorEq] at q9
        exact q9
      refine G.callV (as := []) (rest := []) (a := 54) oX12_fine lk_EvenFindersModel_130 (by decide +kernel) rfl rfl ⟨rfl, rfl⟩ (Nat.le_of_ble_eq_true rfl) rfl ⟨Nat.le_of_ble_eq_true rfl, Nat.le_of_ble_eq_true rfl⟩ t26 (fun v9 N9 h27 => ?_) (fun E9 N9 h27 => by cases h27)
      cases h27
      show G z mX12_sign (d + 1) 0 0 28 [some (.ref 54), some (.int x1)] [.int (k_fine r22)] (mrow M 54 r22) Q
      refine G.if_eq (off := (13)) (tgt := 41) (by decide +kernel) rfl (fun c28 => ?_) (fun c28 => ?_)
      · skip
        exact G.retv (by decide +kernel) rfl (Nat.le_of_ble_eq_true rfl) (Nat.le_of_ble_eq_true rfl) ((by rw [hQ]; simp only [k_sign, if_neg c4, g9, if_neg c14, g20, if_pos c28, mrow_self]))
      · skip
        refine G.sl [(.aload_n 0, 1, 0, 0, 0, 0), (.dup, 1, 0, 0, 0, 0), (.getfield 107, 3, 11, 4, 127, 0), (.iconst 1, 1, 0, 0, 0, nI 1), (.iadd, 1, 0, 0, 0, 0), (.putfield 107, 3, 11, 4, 127, 0)] [] (pc2 := 41) (ls2 := [some (.ref 54), some (.int x1)]) (st2 := []) (M2 := mput (mrow M 54 r22) 54 4 ((r22 4) + (nI 1))) (Ps := []) (by decide +kernel) rfl rfl trivial ?_
        refine G.mem (M' := mrow M 54 (upd r22 4 ((r22 4) + (nI 1)))) (by first | rfl | (simp only [mput, mrow_same, mrow_hit, mrow_miss, mrow_sw, idr_eq, ne_eq, Nat.reduceEqDiff, not_false_eq_true, Nat.reduceLT, reduceCtorEq]; done)) ?_
        exact G.retv (by decide +kernel) rfl (Nat.le_of_ble_eq_true rfl) (Nat.le_of_ble_eq_true rfl) ((by rw [hQ]; simp only [k_sign, if_neg c4, g9, if_neg c14, g20, if_neg c28, mrow_self]))
set_option maxHeartbeats 4000000 in
set_option maxRecDepth 3000 in
theorem lp_k_book_54_67 (z : Zp) (d : Nat) (M : Mem) (Q : Rs → Prop) : ∀ (k0 : Nat) (s2 : Int32) (q54 : (Nat → Int32)) (q74 : (Nat → Int32)), k_book_67_ok (M.1 56) k0 s2 q54 q74 → (match k_book_67 (M.1 56) k0 s2 q54 q74 with | (s2', q54', q74') => G z mX12_book (d + 2) 0 0 169 [some (.ref 54), none, some (.int (s2')), none, none, none] [] (mrow (mrow M 54 (q54')) 74 (q74')) Q) → G z mX12_book (d + 2) 0 0 67 [some (.ref 54), none, some (.int s2), none, none, none] [] (mrow (mrow M 54 q54) 74 q74) Q := by
  intro k0
  induction k0 with
  | zero =>
      intro s2 q54 q74 hk hX
      exact (by simpa only [k_book_67_ok] using hk : False).elim
  | succ k0 ih =>
      intro s2 q54 q74 hk hX
      simp only [k_book_67_ok] at hk
      refine G.sl [(.aload_n 0, 1, 0, 0, 0, 0)] [] (pc2 := 68) (ls2 := [some (.ref 54), none, some (.int s2), none, none, none]) (st2 := [.ref 54]) (M2 := mrow (mrow M 54 q54) 74 q74) (Ps := []) (by decide +kernel) rfl rfl trivial ?_
      obtain ⟨k19, hk⟩ := hk
      have t20 : GM z mX12_fine (d + 1) [.ref 54] (mrow (mrow M 54 q54) 74 q74) (fun rs => rs = .inl (some (.int (k_fine q54)), mrow (mrow M 54 q54) 74 q74)) := by
        have q9 := c_k_fine_54 z (d + 1) (mrow (mrow M 54 q54) 74 q74) 
        try simp only [mput, mrow_same, mrow_hit, mrow_miss, mrow_sw, idr_eq, ne_eq, Nat.reduceEqDiff, not_false_eq_true, Nat.reduceLT, reduceCtorEq] at q9
        exact q9
      refine G.callV (as := []) (rest := []) (a := 54) oX12_fine lk_EvenFindersModel_130 (by decide +kernel) rfl rfl ⟨rfl, rfl⟩ (Nat.le_of_ble_eq_true rfl) rfl ⟨Nat.le_of_ble_eq_true rfl, Nat.le_of_ble_eq_true rfl⟩ t20 (fun v9 N9 h21 => ?_) (fun E9 N9 h21 => by cases h21)
      cases h21
      show G z mX12_book (d + 2) 0 0 71 [some (.ref 54), none, some (.int s2), none, none, none] [.int (k_fine q54)] (mrow (mrow M 54 q54) 74 q74) Q
      refine G.if_eq (off := (98)) (tgt := 169) (by decide +kernel) rfl (fun c22 => ?_) (fun c22 => ?_)
      · skip
        rw [if_pos c22] at hk
        simp only [k_book_67, if_pos c22] at hX
        exact hX
      · skip
        rw [if_neg c22] at hk
        refine G.sl [(.aload_n 0, 1, 0, 0, 0, 0)] [] (pc2 := 75) (ls2 := [some (.ref 54), none, some (.int s2), none, none, none]) (st2 := [.ref 54]) (M2 := mrow (mrow M 54 q54) 74 q74) (Ps := []) (by decide +kernel) rfl rfl trivial ?_
        obtain ⟨k23, hk⟩ := hk
        rcases g24 : k_isMore q54 (M.1 56) with ⟨v25, r26⟩
        try simp only [g24] at hk
        have ev25 : v25 = 0 ∨ v25 = 1 := by
          have q9 := k_isMore_01 q54 (M.1 56)
          rw [g24] at q9
          exact q9
        have t27 : GM z mX12_isMore (d + 1) [.ref 54] (mrow (mrow M 54 q54) 74 q74) (fun rs => rs = .inl (some (.int v25), mrow (mrow M 54 r26) 74 q74)) := by
          have q9 := c_k_isMore_54 z d (mrow (mrow M 54 q54) 74 q74) k23
          try simp only [mput, mrow_same, mrow_hit, mrow_miss, mrow_sw, idr_eq, ne_eq, Nat.reduceEqDiff, not_false_eq_true, Nat.reduceLT, reduceCtorEq, g24] at q9
          exact q9
        refine G.callV (as := []) (rest := []) (a := 54) oX12_isMore lk_EvenFindersModel_221 (by decide +kernel) rfl rfl ⟨rfl, rfl⟩ (Nat.le_of_ble_eq_true rfl) rfl ⟨Nat.le_of_ble_eq_true rfl, Nat.le_of_ble_eq_true rfl⟩ t27 (fun v9 N9 h28 => ?_) (fun E9 N9 h28 => by cases h28)
        cases h28
        show G z mX12_book (d + 2) 0 0 78 [some (.ref 54), none, some (.int s2), none, none, none] [.int v25] (mrow (mrow M 54 r26) 74 q74) Q
        refine G.if_eq (off := (91)) (tgt := 169) (by decide +kernel) rfl (fun c29 => ?_) (fun c29 => ?_)
        · skip
          rw [if_pos c29] at hk
          simp only [k_book_67, if_neg c22, g24, if_pos c29] at hX
          exact hX
        · skip
          rw [if_neg c29] at hk
          refine G.sl [(.aload_n 0, 1, 0, 0, 0, 0)] [] (pc2 := 82) (ls2 := [some (.ref 54), none, some (.int s2), none, none, none]) (st2 := [.ref 54]) (M2 := mrow (mrow M 54 r26) 74 q74) (Ps := []) (by decide +kernel) rfl rfl trivial ?_
          obtain ⟨k30, hk⟩ := hk
          rcases g31 : k_here r26 (M.1 56) with ⟨v32, r33⟩
          try simp only [g31] at hk
          have t34 : GM z mX12_here (d + 1) [.ref 54] (mrow (mrow M 54 r26) 74 q74) (fun rs => rs = .inl (some (.int v32), mrow (mrow M 54 r33) 74 q74)) := by
            have q9 := c_k_here_54 z (d + 1) (mrow (mrow M 54 r26) 74 q74) k30
            try simp only [mput, mrow_same, mrow_hit, mrow_miss, mrow_sw, idr_eq, ne_eq, Nat.reduceEqDiff, not_false_eq_true, Nat.reduceLT, reduceCtorEq, g31] at q9
            exact q9
          refine G.callV (as := []) (rest := []) (a := 54) oX12_here lk_EvenFindersModel_113 (by decide +kernel) rfl rfl ⟨rfl, rfl⟩ (Nat.le_of_ble_eq_true rfl) rfl ⟨Nat.le_of_ble_eq_true rfl, Nat.le_of_ble_eq_true rfl⟩ t34 (fun v9 N9 h35 => ?_) (fun E9 N9 h35 => by cases h35)
          cases h35
          show G z mX12_book (d + 2) 0 0 85 [some (.ref 54), none, some (.int s2), none, none, none] [.int v32] (mrow (mrow M 54 r33) 74 q74) Q
          refine G.sl [(.pop, 1, 0, 0, 0, 0), (.aload_n 0, 1, 0, 0, 0, 0), (.getfield 107, 3, 11, 4, 127, 0), (.istore_n 3, 1, 3, 0, 0, 0), (.aload_n 0, 1, 0, 0, 0, 0), (.iconst 0, 1, 0, 0, 0, nI 0), (.aload_n 0, 1, 0, 0, 0, 0), (.getfield 156, 3, 11, 20, 143, 0), (.iconst 1, 1, 0, 0, 0, nI 1), (.isub, 1, 0, 0, 0, 0)] [] (pc2 := 99) (ls2 := [some (.ref 54), none, some (.int s2), some (.int (r33 4)), none, none]) (st2 := [.int ((r33 20) - (nI 1)), .int (nI 0), .ref 54]) (M2 := mrow (mrow M 54 r33) 74 q74) (Ps := []) (by decide +kernel) rfl rfl trivial ?_
          obtain ⟨k36, hk⟩ := hk
          rcases g37 : k_readNumber r33 (M.1 56) (nI 0) ((r33 20) - (nI 1)) with ⟨v38, r39⟩
          try simp only [g37] at hk
          have t40 : GM z mX12_readNumber (d + 1) [.ref 54, .int (nI 0), .int ((r33 20) - (nI 1))] (mrow (mrow M 54 r33) 74 q74) (fun rs => rs = .inl (some (.int v38), mrow (mrow M 54 r39) 74 q74)) := by
            have q9 := c_k_readNumber_54 z d (mrow (mrow M 54 r33) 74 q74) (nI 0) ((r33 20) - (nI 1)) k36
            try simp only [mput, mrow_same, mrow_hit, mrow_miss, mrow_sw, idr_eq, ne_eq, Nat.reduceEqDiff, not_false_eq_true, Nat.reduceLT, reduceCtorEq, g37] at q9
            exact q9
          refine G.callV (as := [.int (nI 0), .int ((r33 20) - (nI 1))]) (rest := []) (a := 54) oX12_readNumber lk_EvenFindersModel_190 (by decide +kernel) rfl rfl ⟨rfl, rfl⟩ (Nat.le_of_ble_eq_true rfl) rfl ⟨Nat.le_of_ble_eq_true rfl, Nat.le_of_ble_eq_true rfl⟩ t40 (fun v9 N9 h41 => ?_) (fun E9 N9 h41 => by cases h41)
          cases h41
          show G z mX12_book (d + 2) 0 0 102 [some (.ref 54), none, some (.int s2), some (.int (r33 4)), none, none] [.int v38] (mrow (mrow M 54 r39) 74 q74) Q
          refine G.sl [(.istore 4, 2, 4, 0, 0, 0), (.aload_n 0, 1, 0, 0, 0, 0)] [] (pc2 := 105) (ls2 := [some (.ref 54), none, some (.int s2), some (.int (r33 4)), some (.int v38), none]) (st2 := [.ref 54]) (M2 := mrow (mrow M 54 r39) 74 q74) (Ps := []) (by decide +kernel) rfl rfl trivial ?_
          obtain ⟨k42, hk⟩ := hk
          have t43 : GM z mX12_fine (d + 1) [.ref 54] (mrow (mrow M 54 r39) 74 q74) (fun rs => rs = .inl (some (.int (k_fine r39)), mrow (mrow M 54 r39) 74 q74)) := by
            have q9 := c_k_fine_54 z (d + 1) (mrow (mrow M 54 r39) 74 q74) 
            try simp only [mput, mrow_same, mrow_hit, mrow_miss, mrow_sw, idr_eq, ne_eq, Nat.reduceEqDiff, not_false_eq_true, Nat.reduceLT, reduceCtorEq] at q9
            exact q9
          refine G.callV (as := []) (rest := []) (a := 54) oX12_fine lk_EvenFindersModel_130 (by decide +kernel) rfl rfl ⟨rfl, rfl⟩ (Nat.le_of_ble_eq_true rfl) rfl ⟨Nat.le_of_ble_eq_true rfl, Nat.le_of_ble_eq_true rfl⟩ t43 (fun v9 N9 h44 => ?_) (fun E9 N9 h44 => by cases h44)
          cases h44
          show G z mX12_book (d + 2) 0 0 108 [some (.ref 54), none, some (.int s2), some (.int (r33 4)), some (.int v38), none] [.int (k_fine r39)] (mrow (mrow M 54 r39) 74 q74) Q
          refine G.if_eq (off := (20)) (tgt := 128) (by decide +kernel) rfl (fun c45 => ?_) (fun c45 => ?_)
          · skip
            rw [if_pos c45] at hk
            refine G.sl [(.aload_n 0, 1, 0, 0, 0, 0), (.iconst 0, 1, 0, 0, 0, nI 0), (.sipush 600, 3, 0, 0, 0, nI 600)] [] (pc2 := 133) (ls2 := [some (.ref 54), none, some (.int s2), some (.int (r33 4)), some (.int v38), none]) (st2 := [.int (nI 600), .int (nI 0), .ref 54]) (M2 := mrow (mrow M 54 r39) 74 q74) (Ps := []) (by decide +kernel) rfl rfl trivial ?_
            obtain ⟨k46, hk⟩ := hk
            rcases g47 : k_readNumber r39 (M.1 56) (nI 0) (nI 600) with ⟨v48, r49⟩
            try simp only [g47] at hk
            have t50 : GM z mX12_readNumber (d + 1) [.ref 54, .int (nI 0), .int (nI 600)] (mrow (mrow M 54 r39) 74 q74) (fun rs => rs = .inl (some (.int v48), mrow (mrow M 54 r49) 74 q74)) := by
              have q9 := c_k_readNumber_54 z d (mrow (mrow M 54 r39) 74 q74) (nI 0) (nI 600) k46
              try simp only [mput, mrow_same, mrow_hit, mrow_miss, mrow_sw, idr_eq, ne_eq, Nat.reduceEqDiff, not_false_eq_true, Nat.reduceLT, reduceCtorEq, g47] at q9
              exact q9
            refine G.callV (as := [.int (nI 0), .int (nI 600)]) (rest := []) (a := 54) oX12_readNumber lk_EvenFindersModel_190 (by decide +kernel) rfl rfl ⟨rfl, rfl⟩ (Nat.le_of_ble_eq_true rfl) rfl ⟨Nat.le_of_ble_eq_true rfl, Nat.le_of_ble_eq_true rfl⟩ t50 (fun v9 N9 h51 => ?_) (fun E9 N9 h51 => by cases h51)
            cases h51
            show G z mX12_book (d + 2) 0 0 136 [some (.ref 54), none, some (.int s2), some (.int (r33 4)), some (.int v38), none] [.int v48] (mrow (mrow M 54 r49) 74 q74) Q
            refine G.sl [(.istore 5, 2, 5, 0, 0, 0), (.aload_n 0, 1, 0, 0, 0, 0), (.bipush 59, 2, 0, 0, 0, nI 59)] [] (pc2 := 141) (ls2 := [some (.ref 54), none, some (.int s2), some (.int (r33 4)), some (.int v38), some (.int v48)]) (st2 := [.int (nI 59), .ref 54]) (M2 := mrow (mrow M 54 r49) 74 q74) (Ps := []) (by decide +kernel) rfl rfl trivial ?_
            obtain ⟨k52, hk⟩ := hk
            rcases g53 : k_sign r49 (M.1 56) (nI 59) with ⟨u54, r55⟩
            try simp only [g53] at hk
            have t56 : GM z mX12_sign (d + 1) [.ref 54, .int (nI 59)] (mrow (mrow M 54 r49) 74 q74) (fun rs => rs = .inl (none, mrow (mrow M 54 r55) 74 q74)) := by
              have q9 := c_k_sign_54 z d (mrow (mrow M 54 r49) 74 q74) (nI 59) k52
              try simp only [mput, mrow_same, mrow_hit, mrow_miss, mrow_sw, idr_eq, ne_eq, Nat.reduceEqDiff, not_false_eq_true, Nat.reduceLT, reduceCtorEq, g53] at q9
              exact q9
            refine G.callV (as := [.int (nI 59)]) (rest := []) (a := 54) oX12_sign lk_EvenFindersModel_239 (by decide +kernel) rfl rfl ⟨rfl, rfl⟩ (Nat.le_of_ble_eq_true rfl) rfl ⟨Nat.le_of_ble_eq_true rfl, Nat.le_of_ble_eq_true rfl⟩ t56 (fun v9 N9 h57 => ?_) (fun E9 N9 h57 => by cases h57)
            cases h57
            show G z mX12_book (d + 2) 0 0 144 [some (.ref 54), none, some (.int s2), some (.int (r33 4)), some (.int v38), some (.int v48)] [] (mrow (mrow M 54 r55) 74 q74) Q
            refine G.sl [(.aload_n 0, 1, 0, 0, 0, 0)] [] (pc2 := 145) (ls2 := [some (.ref 54), none, some (.int s2), some (.int (r33 4)), some (.int v38), some (.int v48)]) (st2 := [.ref 54]) (M2 := mrow (mrow M 54 r55) 74 q74) (Ps := []) (by decide +kernel) rfl rfl trivial ?_
            obtain ⟨k58, hk⟩ := hk
            have t59 : GM z mX12_fine (d + 1) [.ref 54] (mrow (mrow M 54 r55) 74 q74) (fun rs => rs = .inl (some (.int (k_fine r55)), mrow (mrow M 54 r55) 74 q74)) := by
              have q9 := c_k_fine_54 z (d + 1) (mrow (mrow M 54 r55) 74 q74) 
              try simp only [mput, mrow_same, mrow_hit, mrow_miss, mrow_sw, idr_eq, ne_eq, Nat.reduceEqDiff, not_false_eq_true, Nat.reduceLT, reduceCtorEq] at q9
              exact q9
            refine G.callV (as := []) (rest := []) (a := 54) oX12_fine lk_EvenFindersModel_130 (by decide +kernel) rfl rfl ⟨rfl, rfl⟩ (Nat.le_of_ble_eq_true rfl) rfl ⟨Nat.le_of_ble_eq_true rfl, Nat.le_of_ble_eq_true rfl⟩ t59 (fun v9 N9 h60 => ?_) (fun E9 N9 h60 => by cases h60)
            cases h60
            show G z mX12_book (d + 2) 0 0 148 [some (.ref 54), none, some (.int s2), some (.int (r33 4)), some (.int v38), some (.int v48)] [.int (k_fine r55)] (mrow (mrow M 54 r55) 74 q74) Q
            refine G.if_ne (off := (6)) (tgt := 154) (by decide +kernel) rfl (fun c61 => ?_) (fun c61 => ?_)
            · skip
              rw [if_neg c61] at hk
              obtain ⟨k62, k63, hk⟩ := hk
              refine G.sl [(.aload_n 0, 1, 0, 0, 0, 0), (.getfield 74, 3, 11, 43, 166, 0), (.iload 4, 2, 4, 0, 0, 0), (.iload 5, 2, 5, 0, 0, 0), (.iastore, 1, 0, 0, 0, 0), (.iinc 2 1, 3, 2, 0, 0, nI 1), (.goto (-99), 3, 67, 0, 0, 0)] [ix v38] (pc2 := 67) (ls2 := [some (.ref 54), none, some (.int (s2 + nI 1)), some (.int (r33 4)), some (.int v38), some (.int v48)]) (st2 := []) (M2 := mput (mrow (mrow M 54 r55) 74 q74) 74 (ix v38) v48) (Ps := [v38 = nI (ix v38) ∧ (ix v38) < 8]) (by decide +kernel) rfl rfl ⟨⟨(ixE k62), k63⟩, trivial⟩ ?_
              refine G.mem (M' := mrow (mrow M 54 r55) 74 (upd q74 (ix v38) v48)) (by first | rfl | (simp only [mput, mrow_same, mrow_hit, mrow_miss, mrow_sw, idr_eq, ne_eq, Nat.reduceEqDiff, not_false_eq_true, Nat.reduceLT, reduceCtorEq]; done)) ?_
              refine G.loc (ls2 := [some (.ref 54), none, some (.int (s2 + nI 1)), none, none, none]) (by simp [subL]) ?_
              simp only [k_book_67, if_neg c22, g24, if_neg c29, g31, g37, if_pos c45, g47, g53, if_neg c61] at hX
              exact ih (s2 + nI 1) r55 (upd q74 (ix v38) v48) hk hX
            · skip
              rw [if_pos c61] at hk
              refine G.sl [(.goto 18, 3, 169, 0, 0, 0)] [] (pc2 := 169) (ls2 := [some (.ref 54), none, some (.int s2), some (.int (r33 4)), some (.int v38), some (.int v48)]) (st2 := []) (M2 := mrow (mrow M 54 r55) 74 q74) (Ps := []) (by decide +kernel) rfl rfl trivial ?_
              refine G.loc (ls2 := [some (.ref 54), none, some (.int s2), none, none, none]) (by simp [subL]) ?_
              simp only [k_book_67, if_neg c22, g24, if_neg c29, g31, g37, if_pos c45, g47, g53, if_pos c61] at hX
              exact hX
          · skip
            rw [if_neg c45] at hk
            obtain ⟨k64, k65, hk⟩ := hk
            refine G.sl [(.aload_n 0, 1, 0, 0, 0, 0), (.getfield 74, 3, 11, 43, 166, 0), (.iload 4, 2, 4, 0, 0, 0), (.iaload, 1, 0, 0, 0, 0), (.iconst (-1), 1, 0, 0, 0, (-1))] [ix v38] (pc2 := 119) (ls2 := [some (.ref 54), none, some (.int s2), some (.int (r33 4)), some (.int v38), none]) (st2 := [.int ((-1)), .int (q74 (ix v38))]) (M2 := mrow (mrow M 54 r39) 74 q74) (Ps := [v38 = nI (ix v38) ∧ (ix v38) < 8]) (by decide +kernel) rfl rfl ⟨⟨(ixE k64), k65⟩, trivial⟩ ?_
            refine G.ic_eq (off := (9)) (tgt := 128) (by decide +kernel) rfl (fun c66 => ?_) (fun c66 => ?_)
            · skip
              rw [if_pos c66] at hk
              refine G.sl [(.aload_n 0, 1, 0, 0, 0, 0), (.iconst 0, 1, 0, 0, 0, nI 0), (.sipush 600, 3, 0, 0, 0, nI 600)] [] (pc2 := 133) (ls2 := [some (.ref 54), none, some (.int s2), some (.int (r33 4)), some (.int v38), none]) (st2 := [.int (nI 600), .int (nI 0), .ref 54]) (M2 := mrow (mrow M 54 r39) 74 q74) (Ps := []) (by decide +kernel) rfl rfl trivial ?_
              obtain ⟨k67, hk⟩ := hk
              rcases g68 : k_readNumber r39 (M.1 56) (nI 0) (nI 600) with ⟨v69, r70⟩
              try simp only [g68] at hk
              have t71 : GM z mX12_readNumber (d + 1) [.ref 54, .int (nI 0), .int (nI 600)] (mrow (mrow M 54 r39) 74 q74) (fun rs => rs = .inl (some (.int v69), mrow (mrow M 54 r70) 74 q74)) := by
                have q9 := c_k_readNumber_54 z d (mrow (mrow M 54 r39) 74 q74) (nI 0) (nI 600) k67
                try simp only [mput, mrow_same, mrow_hit, mrow_miss, mrow_sw, idr_eq, ne_eq, Nat.reduceEqDiff, not_false_eq_true, Nat.reduceLT, reduceCtorEq, g68] at q9
                exact q9
              refine G.callV (as := [.int (nI 0), .int (nI 600)]) (rest := []) (a := 54) oX12_readNumber lk_EvenFindersModel_190 (by decide +kernel) rfl rfl ⟨rfl, rfl⟩ (Nat.le_of_ble_eq_true rfl) rfl ⟨Nat.le_of_ble_eq_true rfl, Nat.le_of_ble_eq_true rfl⟩ t71 (fun v9 N9 h72 => ?_) (fun E9 N9 h72 => by cases h72)
              cases h72
              show G z mX12_book (d + 2) 0 0 136 [some (.ref 54), none, some (.int s2), some (.int (r33 4)), some (.int v38), none] [.int v69] (mrow (mrow M 54 r70) 74 q74) Q
              refine G.sl [(.istore 5, 2, 5, 0, 0, 0), (.aload_n 0, 1, 0, 0, 0, 0), (.bipush 59, 2, 0, 0, 0, nI 59)] [] (pc2 := 141) (ls2 := [some (.ref 54), none, some (.int s2), some (.int (r33 4)), some (.int v38), some (.int v69)]) (st2 := [.int (nI 59), .ref 54]) (M2 := mrow (mrow M 54 r70) 74 q74) (Ps := []) (by decide +kernel) rfl rfl trivial ?_
              obtain ⟨k73, hk⟩ := hk
              rcases g74 : k_sign r70 (M.1 56) (nI 59) with ⟨u75, r76⟩
              try simp only [g74] at hk
              have t77 : GM z mX12_sign (d + 1) [.ref 54, .int (nI 59)] (mrow (mrow M 54 r70) 74 q74) (fun rs => rs = .inl (none, mrow (mrow M 54 r76) 74 q74)) := by
                have q9 := c_k_sign_54 z d (mrow (mrow M 54 r70) 74 q74) (nI 59) k73
                try simp only [mput, mrow_same, mrow_hit, mrow_miss, mrow_sw, idr_eq, ne_eq, Nat.reduceEqDiff, not_false_eq_true, Nat.reduceLT, reduceCtorEq, g74] at q9
                exact q9
              refine G.callV (as := [.int (nI 59)]) (rest := []) (a := 54) oX12_sign lk_EvenFindersModel_239 (by decide +kernel) rfl rfl ⟨rfl, rfl⟩ (Nat.le_of_ble_eq_true rfl) rfl ⟨Nat.le_of_ble_eq_true rfl, Nat.le_of_ble_eq_true rfl⟩ t77 (fun v9 N9 h78 => ?_) (fun E9 N9 h78 => by cases h78)
              cases h78
              show G z mX12_book (d + 2) 0 0 144 [some (.ref 54), none, some (.int s2), some (.int (r33 4)), some (.int v38), some (.int v69)] [] (mrow (mrow M 54 r76) 74 q74) Q
              refine G.sl [(.aload_n 0, 1, 0, 0, 0, 0)] [] (pc2 := 145) (ls2 := [some (.ref 54), none, some (.int s2), some (.int (r33 4)), some (.int v38), some (.int v69)]) (st2 := [.ref 54]) (M2 := mrow (mrow M 54 r76) 74 q74) (Ps := []) (by decide +kernel) rfl rfl trivial ?_
              obtain ⟨k79, hk⟩ := hk
              have t80 : GM z mX12_fine (d + 1) [.ref 54] (mrow (mrow M 54 r76) 74 q74) (fun rs => rs = .inl (some (.int (k_fine r76)), mrow (mrow M 54 r76) 74 q74)) := by
                have q9 := c_k_fine_54 z (d + 1) (mrow (mrow M 54 r76) 74 q74) 
                try simp only [mput, mrow_same, mrow_hit, mrow_miss, mrow_sw, idr_eq, ne_eq, Nat.reduceEqDiff, not_false_eq_true, Nat.reduceLT, reduceCtorEq] at q9
                exact q9
              refine G.callV (as := []) (rest := []) (a := 54) oX12_fine lk_EvenFindersModel_130 (by decide +kernel) rfl rfl ⟨rfl, rfl⟩ (Nat.le_of_ble_eq_true rfl) rfl ⟨Nat.le_of_ble_eq_true rfl, Nat.le_of_ble_eq_true rfl⟩ t80 (fun v9 N9 h81 => ?_) (fun E9 N9 h81 => by cases h81)
              cases h81
              show G z mX12_book (d + 2) 0 0 148 [some (.ref 54), none, some (.int s2), some (.int (r33 4)), some (.int v38), some (.int v69)] [.int (k_fine r76)] (mrow (mrow M 54 r76) 74 q74) Q
              refine G.if_ne (off := (6)) (tgt := 154) (by decide +kernel) rfl (fun c82 => ?_) (fun c82 => ?_)
              · skip
                rw [if_neg c82] at hk
                refine G.sl [(.aload_n 0, 1, 0, 0, 0, 0), (.getfield 74, 3, 11, 43, 166, 0), (.iload 4, 2, 4, 0, 0, 0), (.iload 5, 2, 5, 0, 0, 0), (.iastore, 1, 0, 0, 0, 0), (.iinc 2 1, 3, 2, 0, 0, nI 1), (.goto (-99), 3, 67, 0, 0, 0)] [ix v38] (pc2 := 67) (ls2 := [some (.ref 54), none, some (.int (s2 + nI 1)), some (.int (r33 4)), some (.int v38), some (.int v69)]) (st2 := []) (M2 := mput (mrow (mrow M 54 r76) 74 q74) 74 (ix v38) v69) (Ps := [v38 = nI (ix v38) ∧ (ix v38) < 8]) (by decide +kernel) rfl rfl ⟨⟨(ixE k64), k65⟩, trivial⟩ ?_
                refine G.mem (M' := mrow (mrow M 54 r76) 74 (upd q74 (ix v38) v69)) (by first | rfl | (simp only [mput, mrow_same, mrow_hit, mrow_miss, mrow_sw, idr_eq, ne_eq, Nat.reduceEqDiff, not_false_eq_true, Nat.reduceLT, reduceCtorEq]; done)) ?_
                refine G.loc (ls2 := [some (.ref 54), none, some (.int (s2 + nI 1)), none, none, none]) (by simp [subL]) ?_
                simp only [k_book_67, if_neg c22, g24, if_neg c29, g31, g37, if_neg c45, if_pos c66, g68, g74, if_neg c82] at hX
                exact ih (s2 + nI 1) r76 (upd q74 (ix v38) v69) hk hX
              · skip
                rw [if_pos c82] at hk
                refine G.sl [(.goto 18, 3, 169, 0, 0, 0)] [] (pc2 := 169) (ls2 := [some (.ref 54), none, some (.int s2), some (.int (r33 4)), some (.int v38), some (.int v69)]) (st2 := []) (M2 := mrow (mrow M 54 r76) 74 q74) (Ps := []) (by decide +kernel) rfl rfl trivial ?_
                refine G.loc (ls2 := [some (.ref 54), none, some (.int s2), none, none, none]) (by simp [subL]) ?_
                simp only [k_book_67, if_neg c22, g24, if_neg c29, g31, g37, if_neg c45, if_pos c66, g68, g74, if_pos c82] at hX
                exact hX
            · skip
              rw [if_neg c66] at hk
              refine G.sl [(.aload_n 0, 1, 0, 0, 0, 0), (.iconst 2, 1, 0, 0, 0, nI 2), (.iload_n 3, 1, 3, 0, 0, 0)] [] (pc2 := 125) (ls2 := [some (.ref 54), none, some (.int s2), some (.int (r33 4)), some (.int v38), none]) (st2 := [.int (r33 4), .int (nI 2), .ref 54]) (M2 := mrow (mrow M 54 r39) 74 q74) (Ps := []) (by decide +kernel) rfl rfl trivial ?_
              obtain ⟨k83, hk⟩ := hk
              rcases g84 : k_wrong r39 (nI 2) (r33 4) with ⟨u85, r86⟩
              try simp only [g84] at hk
              have t87 : GM z mX12_wrong (d + 1) [.ref 54, .int (nI 2), .int (r33 4)] (mrow (mrow M 54 r39) 74 q74) (fun rs => rs = .inl (none, mrow (mrow M 54 r86) 74 q74)) := by
                have q9 := c_k_wrong_54 z (d + 1) (mrow (mrow M 54 r39) 74 q74) (nI 2) (r33 4)
                try simp only [mput, mrow_same, mrow_hit, mrow_miss, mrow_sw, idr_eq, ne_eq, Nat.reduceEqDiff, not_false_eq_true, Nat.reduceLT, reduceCtorEq, g84] at q9
                exact q9
              refine G.callV (as := [.int (nI 2), .int (r33 4)]) (rest := []) (a := 54) oX12_wrong lk_EvenFindersModel_137 (by decide +kernel) rfl rfl ⟨rfl, rfl⟩ (Nat.le_of_ble_eq_true rfl) rfl ⟨Nat.le_of_ble_eq_true rfl, Nat.le_of_ble_eq_true rfl⟩ t87 (fun v9 N9 h88 => ?_) (fun E9 N9 h88 => by cases h88)
              cases h88
              show G z mX12_book (d + 2) 0 0 128 [some (.ref 54), none, some (.int s2), some (.int (r33 4)), some (.int v38), none] [] (mrow (mrow M 54 r86) 74 q74) Q
              refine G.sl [(.aload_n 0, 1, 0, 0, 0, 0), (.iconst 0, 1, 0, 0, 0, nI 0), (.sipush 600, 3, 0, 0, 0, nI 600)] [] (pc2 := 133) (ls2 := [some (.ref 54), none, some (.int s2), some (.int (r33 4)), some (.int v38), none]) (st2 := [.int (nI 600), .int (nI 0), .ref 54]) (M2 := mrow (mrow M 54 r86) 74 q74) (Ps := []) (by decide +kernel) rfl rfl trivial ?_
              obtain ⟨k89, hk⟩ := hk
              rcases g90 : k_readNumber r86 (M.1 56) (nI 0) (nI 600) with ⟨v91, r92⟩
              try simp only [g90] at hk
              have t93 : GM z mX12_readNumber (d + 1) [.ref 54, .int (nI 0), .int (nI 600)] (mrow (mrow M 54 r86) 74 q74) (fun rs => rs = .inl (some (.int v91), mrow (mrow M 54 r92) 74 q74)) := by
                have q9 := c_k_readNumber_54 z d (mrow (mrow M 54 r86) 74 q74) (nI 0) (nI 600) k89
                try simp only [mput, mrow_same, mrow_hit, mrow_miss, mrow_sw, idr_eq, ne_eq, Nat.reduceEqDiff, not_false_eq_true, Nat.reduceLT, reduceCtorEq, g90] at q9
                exact q9
              refine G.callV (as := [.int (nI 0), .int (nI 600)]) (rest := []) (a := 54) oX12_readNumber lk_EvenFindersModel_190 (by decide +kernel) rfl rfl ⟨rfl, rfl⟩ (Nat.le_of_ble_eq_true rfl) rfl ⟨Nat.le_of_ble_eq_true rfl, Nat.le_of_ble_eq_true rfl⟩ t93 (fun v9 N9 h94 => ?_) (fun E9 N9 h94 => by cases h94)
              cases h94
              show G z mX12_book (d + 2) 0 0 136 [some (.ref 54), none, some (.int s2), some (.int (r33 4)), some (.int v38), none] [.int v91] (mrow (mrow M 54 r92) 74 q74) Q
              refine G.sl [(.istore 5, 2, 5, 0, 0, 0), (.aload_n 0, 1, 0, 0, 0, 0), (.bipush 59, 2, 0, 0, 0, nI 59)] [] (pc2 := 141) (ls2 := [some (.ref 54), none, some (.int s2), some (.int (r33 4)), some (.int v38), some (.int v91)]) (st2 := [.int (nI 59), .ref 54]) (M2 := mrow (mrow M 54 r92) 74 q74) (Ps := []) (by decide +kernel) rfl rfl trivial ?_
              obtain ⟨k95, hk⟩ := hk
              rcases g96 : k_sign r92 (M.1 56) (nI 59) with ⟨u97, r98⟩
              try simp only [g96] at hk
              have t99 : GM z mX12_sign (d + 1) [.ref 54, .int (nI 59)] (mrow (mrow M 54 r92) 74 q74) (fun rs => rs = .inl (none, mrow (mrow M 54 r98) 74 q74)) := by
                have q9 := c_k_sign_54 z d (mrow (mrow M 54 r92) 74 q74) (nI 59) k95
                try simp only [mput, mrow_same, mrow_hit, mrow_miss, mrow_sw, idr_eq, ne_eq, Nat.reduceEqDiff, not_false_eq_true, Nat.reduceLT, reduceCtorEq, g96] at q9
                exact q9
              refine G.callV (as := [.int (nI 59)]) (rest := []) (a := 54) oX12_sign lk_EvenFindersModel_239 (by decide +kernel) rfl rfl ⟨rfl, rfl⟩ (Nat.le_of_ble_eq_true rfl) rfl ⟨Nat.le_of_ble_eq_true rfl, Nat.le_of_ble_eq_true rfl⟩ t99 (fun v9 N9 h100 => ?_) (fun E9 N9 h100 => by cases h100)
              cases h100
              show G z mX12_book (d + 2) 0 0 144 [some (.ref 54), none, some (.int s2), some (.int (r33 4)), some (.int v38), some (.int v91)] [] (mrow (mrow M 54 r98) 74 q74) Q
              refine G.sl [(.aload_n 0, 1, 0, 0, 0, 0)] [] (pc2 := 145) (ls2 := [some (.ref 54), none, some (.int s2), some (.int (r33 4)), some (.int v38), some (.int v91)]) (st2 := [.ref 54]) (M2 := mrow (mrow M 54 r98) 74 q74) (Ps := []) (by decide +kernel) rfl rfl trivial ?_
              obtain ⟨k101, hk⟩ := hk
              have t102 : GM z mX12_fine (d + 1) [.ref 54] (mrow (mrow M 54 r98) 74 q74) (fun rs => rs = .inl (some (.int (k_fine r98)), mrow (mrow M 54 r98) 74 q74)) := by
                have q9 := c_k_fine_54 z (d + 1) (mrow (mrow M 54 r98) 74 q74) 
                try simp only [mput, mrow_same, mrow_hit, mrow_miss, mrow_sw, idr_eq, ne_eq, Nat.reduceEqDiff, not_false_eq_true, Nat.reduceLT, reduceCtorEq] at q9
                exact q9
              refine G.callV (as := []) (rest := []) (a := 54) oX12_fine lk_EvenFindersModel_130 (by decide +kernel) rfl rfl ⟨rfl, rfl⟩ (Nat.le_of_ble_eq_true rfl) rfl ⟨Nat.le_of_ble_eq_true rfl, Nat.le_of_ble_eq_true rfl⟩ t102 (fun v9 N9 h103 => ?_) (fun E9 N9 h103 => by cases h103)
              cases h103
              show G z mX12_book (d + 2) 0 0 148 [some (.ref 54), none, some (.int s2), some (.int (r33 4)), some (.int v38), some (.int v91)] [.int (k_fine r98)] (mrow (mrow M 54 r98) 74 q74) Q
              refine G.if_ne (off := (6)) (tgt := 154) (by decide +kernel) rfl (fun c104 => ?_) (fun c104 => ?_)
              · skip
                rw [if_neg c104] at hk
                refine G.sl [(.aload_n 0, 1, 0, 0, 0, 0), (.getfield 74, 3, 11, 43, 166, 0), (.iload 4, 2, 4, 0, 0, 0), (.iload 5, 2, 5, 0, 0, 0), (.iastore, 1, 0, 0, 0, 0), (.iinc 2 1, 3, 2, 0, 0, nI 1), (.goto (-99), 3, 67, 0, 0, 0)] [ix v38] (pc2 := 67) (ls2 := [some (.ref 54), none, some (.int (s2 + nI 1)), some (.int (r33 4)), some (.int v38), some (.int v91)]) (st2 := []) (M2 := mput (mrow (mrow M 54 r98) 74 q74) 74 (ix v38) v91) (Ps := [v38 = nI (ix v38) ∧ (ix v38) < 8]) (by decide +kernel) rfl rfl ⟨⟨(ixE k64), k65⟩, trivial⟩ ?_
                refine G.mem (M' := mrow (mrow M 54 r98) 74 (upd q74 (ix v38) v91)) (by first | rfl | (simp only [mput, mrow_same, mrow_hit, mrow_miss, mrow_sw, idr_eq, ne_eq, Nat.reduceEqDiff, not_false_eq_true, Nat.reduceLT, reduceCtorEq]; done)) ?_
                refine G.loc (ls2 := [some (.ref 54), none, some (.int (s2 + nI 1)), none, none, none]) (by simp [subL]) ?_
                simp only [k_book_67, if_neg c22, g24, if_neg c29, g31, g37, if_neg c45, if_neg c66, g84, g90, g96, if_neg c104] at hX
                exact ih (s2 + nI 1) r98 (upd q74 (ix v38) v91) hk hX
              · skip
                rw [if_pos c104] at hk
                refine G.sl [(.goto 18, 3, 169, 0, 0, 0)] [] (pc2 := 169) (ls2 := [some (.ref 54), none, some (.int s2), some (.int (r33 4)), some (.int v38), some (.int v91)]) (st2 := []) (M2 := mrow (mrow M 54 r98) 74 q74) (Ps := []) (by decide +kernel) rfl rfl trivial ?_
                refine G.loc (ls2 := [some (.ref 54), none, some (.int s2), none, none, none]) (by simp [subL]) ?_
                simp only [k_book_67, if_neg c22, g24, if_neg c29, g31, g37, if_neg c45, if_neg c66, g84, g90, g96, if_pos c104] at hX
                exact hX
