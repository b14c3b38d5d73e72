set_option maxHeartbeats 4000000 in
set_option maxRecDepth 3000 in
theorem c_v_readFrom_12_1 (z : Zp) (d : Nat) (M : Mem) (hk : v_readFrom_ok (M.1 1) (M.1 2) (M.1 12) (M.1 13) (M.1 14) (M.1 15) (M.1 16) (M.1 17) (M.1 18) (M.1 19)) : GM z mX7_readFrom (d + 6) [.ref 12, .ref 1] M (fun rs => rs = .inl (none, mrow (mrow (mrow (mrow (mrow (mrow (mrow (mrow (mrow M 1 ((v_readFrom (M.1 1) (M.1 2) (M.1 12) (M.1 13) (M.1 14) (M.1 15) (M.1 16) (M.1 17) (M.1 18) (M.1 19)).2.1)) 12 ((v_readFrom (M.1 1) (M.1 2) (M.1 12) (M.1 13) (M.1 14) (M.1 15) (M.1 16) (M.1 17) (M.1 18) (M.1 19)).2.2.1)) 13 ((v_readFrom (M.1 1) (M.1 2) (M.1 12) (M.1 13) (M.1 14) (M.1 15) (M.1 16) (M.1 17) (M.1 18) (M.1 19)).2.2.2.1)) 14 ((v_readFrom (M.1 1) (M.1 2) (M.1 12) (M.1 13) (M.1 14) (M.1 15) (M.1 16) (M.1 17) (M.1 18) (M.1 19)).2.2.2.2.1)) 15 ((v_readFrom (M.1 1) (M.1 2) (M.1 12) (M.1 13) (M.1 14) (M.1 15) (M.1 16) (M.1 17) (M.1 18) (M.1 19)).2.2.2.2.2.1)) 16 ((v_readFrom (M.1 1) (M.1 2) (M.1 12) (M.1 13) (M.1 14) (M.1 15) (M.1 16) (M.1 17) (M.1 18) (M.1 19)).2.2.2.2.2.2.1)) 17 ((v_readFrom (M.1 1) (M.1 2) (M.1 12) (M.1 13) (M.1 14) (M.1 15) (M.1 16) (M.1 17) (M.1 18) (M.1 19)).2.2.2.2.2.2.2.1)) 18 ((v_readFrom (M.1 1) (M.1 2) (M.1 12) (M.1 13) (M.1 14) (M.1 15) (M.1 16) (M.1 17) (M.1 18) (M.1 19)).2.2.2.2.2.2.2.2.1)) 19 ((v_readFrom (M.1 1) (M.1 2) (M.1 12) (M.1 13) (M.1 14) (M.1 15) (M.1 16) (M.1 17) (M.1 18) (M.1 19)).2.2.2.2.2.2.2.2.2))) := by
  simp only [v_readFrom_ok] at hk
  refine GM.of oX7_readFrom.1 (Nat.le_of_ble_eq_true rfl) ?_
  show G z mX7_readFrom (d + 6) 0 0 0 [some (.ref 12), some (.ref 1), none, none] [] M _
  obtain ⟨Q, hQ⟩ : ∃ Q : Rs → Prop, Q = (fun rs => rs = .inl (none, mrow (mrow (mrow (mrow (mrow (mrow (mrow (mrow (mrow M 1 ((v_readFrom (M.1 1) (M.1 2) (M.1 12) (M.1 13) (M.1 14) (M.1 15) (M.1 16) (M.1 17) (M.1 18) (M.1 19)).2.1)) 12 ((v_readFrom (M.1 1) (M.1 2) (M.1 12) (M.1 13) (M.1 14) (M.1 15) (M.1 16) (M.1 17) (M.1 18) (M.1 19)).2.2.1)) 13 ((v_readFrom (M.1 1) (M.1 2) (M.1 12) (M.1 13) (M.1 14) (M.1 15) (M.1 16) (M.1 17) (M.1 18) (M.1 19)).2.2.2.1)) 14 ((v_readFrom (M.1 1) (M.1 2) (M.1 12) (M.1 13) (M.1 14) (M.1 15) (M.1 16) (M.1 17) (M.1 18) (M.1 19)).2.2.2.2.1)) 15 ((v_readFrom (M.1 1) (M.1 2) (M.1 12) (M.1 13) (M.1 14) (M.1 15) (M.1 16) (M.1 17) (M.1 18) (M.1 19)).2.2.2.2.2.1)) 16 ((v_readFrom (M.1 1) (M.1 2) (M.1 12) (M.1 13) (M.1 14) (M.1 15) (M.1 16) (M.1 17) (M.1 18) (M.1 19)).2.2.2.2.2.2.1)) 17 ((v_readFrom (M.1 1) (M.1 2) (M.1 12) (M.1 13) (M.1 14) (M.1 15) (M.1 16) (M.1 17) (M.1 18) (M.1 19)).2.2.2.2.2.2.2.1)) 18 ((v_readFrom (M.1 1) (M.1 2) (M.1 12) (M.1 13) (M.1 14) (M.1 15) (M.1 16) (M.1 17) (M.1 18) (M.1 19)).2.2.2.2.2.2.2.2.1)) 19 ((v_readFrom (M.1 1) (M.1 2) (M.1 12) (M.1 13) (M.1 14) (M.1 15) (M.1 16) (M.1 17) (M.1 18) (M.1 19)).2.2.2.2.2.2.2.2.2))) := ⟨_, rfl⟩
  rw [← hQ]
  refine G.sl [(.aload_n 0, 1, 0, 0, 0, 0), (.iconst 0, 1, 0, 0, 0, nI 0), (.putfield 36, 3, 6, 0, 14, 0), (.aload_n 0, 1, 0, 0, 0, 0), (.iconst 0, 1, 0, 0, 0, nI 0), (.putfield 40, 3, 6, 1, 18, 0), (.aload_n 0, 1, 0, 0, 0, 0), (.iconst 0, 1, 0, 0, 0, nI 0), (.putfield 43, 3, 6, 2, 22, 0), (.aload_n 0, 1, 0, 0, 0, 0), (.iconst 0, 1, 0, 0, 0, nI 0), (.putfield 46, 3, 6, 3, 30, 0), (.iconst 0, 1, 0, 0, 0, nI 0), (.istore_n 2, 1, 2, 0, 0, 0)] [] (pc2 := 22) (ls2 := [some (.ref 12), some (.ref 1), some (.int (nI 0)), none]) (st2 := []) (M2 := mput (mput (mput (mput M 12 0 (nI 0)) 12 1 (nI 0)) 12 2 (nI 0)) 12 3 (nI 0)) (Ps := []) (by decide +kernel) rfl rfl trivial ?_
  refine G.mem (M' := mrow M 12 (upd (upd (upd (upd (M.1 12) 0 (nI 0)) 1 (nI 0)) 2 (nI 0)) 3 (nI 0))) (by first | rfl | (simp only [mput, mrow_same, mrow_hit, mrow_miss, mrow_sw, idr_eq, ne_eq, Nat.reduceEqDiff, not_false_eq_true, Nat.reduceLT, reduceCtorEq]; done)) ?_
  obtain ⟨k112, hk⟩ := hk
  refine G.mem (M' := mrow (mrow (mrow (mrow (mrow (mrow (mrow (mrow (mrow (mrow M 12 (upd (upd (upd (upd (M.1 12) 0 (nI 0)) 1 (nI 0)) 2 (nI 0)) 3 (nI 0))) 1 ((mrow M 12 (upd (upd (upd (upd (M.1 12) 0 (nI 0)) 1 (nI 0)) 2 (nI 0)) 3 (nI 0))).1 1)) 12 ((mrow M 12 (upd (upd (upd (upd (M.1 12) 0 (nI 0)) 1 (nI 0)) 2 (nI 0)) 3 (nI 0))).1 12)) 13 ((mrow M 12 (upd (upd (upd (upd (M.1 12) 0 (nI 0)) 1 (nI 0)) 2 (nI 0)) 3 (nI 0))).1 13)) 14 ((mrow M 12 (upd (upd (upd (upd (M.1 12) 0 (nI 0)) 1 (nI 0)) 2 (nI 0)) 3 (nI 0))).1 14)) 15 ((mrow M 12 (upd (upd (upd (upd (M.1 12) 0 (nI 0)) 1 (nI 0)) 2 (nI 0)) 3 (nI 0))).1 15)) 16 ((mrow M 12 (upd (upd (upd (upd (M.1 12) 0 (nI 0)) 1 (nI 0)) 2 (nI 0)) 3 (nI 0))).1 16)) 17 ((mrow M 12 (upd (upd (upd (upd (M.1 12) 0 (nI 0)) 1 (nI 0)) 2 (nI 0)) 3 (nI 0))).1 17)) 18 ((mrow M 12 (upd (upd (upd (upd (M.1 12) 0 (nI 0)) 1 (nI 0)) 2 (nI 0)) 3 (nI 0))).1 18)) 19 ((mrow M 12 (upd (upd (upd (upd (M.1 12) 0 (nI 0)) 1 (nI 0)) 2 (nI 0)) 3 (nI 0))).1 19)) (by simp only [mrow_self]) ?_
  refine lp_v_readFrom_12_1_22 z d (mrow M 12 (upd (upd (upd (upd (M.1 12) 0 (nI 0)) 1 (nI 0)) 2 (nI 0)) 3 (nI 0))) Q (cN 61) (cN_eq 61) (cN 61) 0 ((mrow M 12 (upd (upd (upd (upd (M.1 12) 0 (nI 0)) 1 (nI 0)) 2 (nI 0)) 3 (nI 0))).1 1) ((mrow M 12 (upd (upd (upd (upd (M.1 12) 0 (nI 0)) 1 (nI 0)) 2 (nI 0)) 3 (nI 0))).1 12) ((mrow M 12 (upd (upd (upd (upd (M.1 12) 0 (nI 0)) 1 (nI 0)) 2 (nI 0)) 3 (nI 0))).1 13) ((mrow M 12 (upd (upd (upd (upd (M.1 12) 0 (nI 0)) 1 (nI 0)) 2 (nI 0)) 3 (nI 0))).1 14) ((mrow M 12 (upd (upd (upd (upd (M.1 12) 0 (nI 0)) 1 (nI 0)) 2 (nI 0)) 3 (nI 0))).1 15) ((mrow M 12 (upd (upd (upd (upd (M.1 12) 0 (nI 0)) 1 (nI 0)) 2 (nI 0)) 3 (nI 0))).1 16) ((mrow M 12 (upd (upd (upd (upd (M.1 12) 0 (nI 0)) 1 (nI 0)) 2 (nI 0)) 3 (nI 0))).1 17) ((mrow M 12 (upd (upd (upd (upd (M.1 12) 0 (nI 0)) 1 (nI 0)) 2 (nI 0)) 3 (nI 0))).1 18) ((mrow M 12 (upd (upd (upd (upd (M.1 12) 0 (nI 0)) 1 (nI 0)) 2 (nI 0)) 3 (nI 0))).1 19) (Nat.zero_add _) (by first | (simp only [mput, mrow_same, mrow_hit, mrow_miss, mrow_sw, idr_eq, ne_eq, Nat.reduceEqDiff, not_false_eq_true, Nat.reduceLT, reduceCtorEq]; exact k112) | exact k112) ?_
  try simp only [mput, mrow_same, mrow_hit, mrow_miss, mrow_sw, idr_eq, ne_eq, Nat.reduceEqDiff, not_false_eq_true, Nat.reduceLT, reduceCtorEq]
  rcases g113 : v_readFrom_22 (M.1 2) (cN 61) 0 (M.1 1) (upd (upd (upd (upd (M.1 12) 0 (nI 0)) 1 (nI 0)) 2 (nI 0)) 3 (nI 0)) (M.1 13) (M.1 14) (M.1 15) (M.1 16) (M.1 17) (M.1 18) (M.1 19) with ⟨r114, r115, r116, r117, r118, r119, r120, r121, r122⟩
  show G z mX7_readFrom (d + 6) 0 0 89 [none, none, none, none] [] (mrow (mrow (mrow (mrow (mrow (mrow (mrow (mrow (mrow M 1 r114) 12 r115) 13 r116) 14 r117) 15 r118) 16 r119) 17 r120) 18 r121) 19 r122) Q
  exact G.retv (by decide +kernel) rfl (Nat.le_of_ble_eq_true rfl) (Nat.le_of_ble_eq_true rfl) ((by rw [hQ]; simp only [v_readFrom, g113, mrow_self]))
set_option maxHeartbeats 4000000 in
set_option maxRecDepth 3000 in
theorem lp_t_word_s2_1_19 (z : Zp) (d : Nat) (M : Mem) (Q : Rs → Prop) : ∀ (k0 : Nat) (s2 : Int32), t_word_s2_19_ok (M.1 1) (M.1 2) k0 s2 → (match t_word_s2_19 (M.1 1) (M.1 2) k0 s2 with | s2' => G z mX6_word (d + 5) 0 0 55 [some (.ref 1), some (.ref 1002), some (.int (s2')), none] [] M Q) → G z mX6_word (d + 5) 0 0 19 [some (.ref 1), some (.ref 1002), some (.int s2), none] [] M Q := by
  intro k0
  induction k0 with
  | zero =>
      intro s2 hk hX
      exact (by simpa only [t_word_s2_19_ok] using hk : False).elim
  | succ k0 ih =>
      intro s2 hk hX
      simp only [t_word_s2_19_ok] at hk
      refine G.sl [(.iload_n 2, 1, 2, 0, 0, 0), (.aload_n 0, 1, 0, 0, 0, 0), (.getfield 31, 3, 5, 5, 12, 0)] [] (pc2 := 24) (ls2 := [some (.ref 1), some (.ref 1002), some (.int s2), none]) (st2 := [.int (M.1 1 5), .int s2]) (M2 := M) (Ps := []) (by decide +kernel) rfl rfl trivial ?_
      refine G.ic_ge (off := (31)) (tgt := 55) (by decide +kernel) rfl (fun c8 => ?_) (fun c8 => ?_)
      · skip
        rw [if_pos c8] at hk
        simp only [t_word_s2_19, if_pos c8] at hX
        exact hX
      · skip
        rw [if_neg c8] at hk
        obtain ⟨k9, k10, hk⟩ := hk
        refine G.sl [(.aload_n 0, 1, 0, 0, 0, 0), (.getfield 9, 3, 5, 0, 0, 0), (.iload_n 2, 1, 2, 0, 0, 0), (.iaload, 1, 0, 0, 0, 0), (.bipush 97, 2, 0, 0, 0, nI 97)] [ix s2] (pc2 := 35) (ls2 := [some (.ref 1), some (.ref 1002), some (.int s2), none]) (st2 := [.int (nI 97), .int (M.1 2 (ix s2))]) (M2 := M) (Ps := [s2 = nI (ix s2) ∧ (ix s2) < 600]) (by decide +kernel) rfl rfl ⟨⟨(ixE k9), k10⟩, trivial⟩ ?_
        refine G.ic_lt (off := (20)) (tgt := 55) (by decide +kernel) rfl (fun c11 => ?_) (fun c11 => ?_)
        · skip
          rw [if_pos c11] at hk
          simp only [t_word_s2_19, if_neg c8, if_pos c11] at hX
          exact hX
        · skip
          rw [if_neg c11] at hk
          refine G.sl [(.aload_n 0, 1, 0, 0, 0, 0), (.getfield 9, 3, 5, 0, 0, 0), (.iload_n 2, 1, 2, 0, 0, 0), (.iaload, 1, 0, 0, 0, 0), (.bipush 122, 2, 0, 0, 0, nI 122)] [ix s2] (pc2 := 46) (ls2 := [some (.ref 1), some (.ref 1002), some (.int s2), none]) (st2 := [.int (nI 122), .int (M.1 2 (ix s2))]) (M2 := M) (Ps := [s2 = nI (ix s2) ∧ (ix s2) < 600]) (by decide +kernel) rfl rfl ⟨⟨(ixE k9), k10⟩, trivial⟩ ?_
          refine G.ic_gt (off := (9)) (tgt := 55) (by decide +kernel) rfl (fun c12 => ?_) (fun c12 => ?_)
          · skip
            rw [if_pos c12] at hk
            simp only [t_word_s2_19, if_neg c8, if_neg c11, if_pos c12] at hX
            exact hX
          · skip
            rw [if_neg c12] at hk
            refine G.sl [(.iinc 2 1, 3, 2, 0, 0, nI 1), (.goto (-33), 3, 19, 0, 0, 0)] [] (pc2 := 19) (ls2 := [some (.ref 1), some (.ref 1002), some (.int (s2 + nI 1)), none]) (st2 := []) (M2 := M) (Ps := []) (by decide +kernel) rfl rfl trivial ?_
            simp only [t_word_s2_19, if_neg c8, if_neg c11, if_neg c12] at hX
            exact ih (s2 + nI 1) hk hX
set_option maxHeartbeats 4000000 in
set_option maxRecDepth 3000 in
theorem lp_t_indexIn_s2_1_14 (z : Zp) (d : Nat) (M : Mem) (Q : Rs → Prop) (nn : Nat) (x2 : Int32) (hnn : nn = 55) : ∀ (k0 : Nat) (i6 : Nat) (s3 : Int32) (s4 : Int32) (s5 : Int32), i6 + k0 = nn → t_indexIn_s2_14_ok (M.1 1) (M.1 2) x2 k0 i6 s3 s4 s5 → (match t_indexIn_s2_14 (M.1 1) (M.1 2) x2 k0 i6 s3 s4 s5 with | .inl v' => Q (.inl (some (.int v'), M)) | .inr (s3', s4', s5') => G z mX6_indexIn (d + 4) 0 0 105 [none, none, some (.int x2), some (.int (s3')), some (.int (s4')), some (.int (s5')), none, none] [] M Q) → G z mX6_indexIn (d + 4) 0 0 14 [some (.ref 1), some (.ref 1002), some (.int x2), some (.int s3), some (.int s4), some (.int s5), some (.int (nI i6)), none] [] M Q := by
  intro k0
  induction k0 with
  | zero =>
      intro i6 s3 s4 s5 hn hk hX
      refine G.sl [(.iload 6, 2, 6, 0, 0, 0), (.aload_n 1, 1, 1, 0, 0, 0)] [] (pc2 := 17) (ls2 := [some (.ref 1), some (.ref 1002), some (.int x2), some (.int s3), some (.int s4), some (.int s5), some (.int (nI i6)), none]) (st2 := [.ref 1002, .int (nI i6)]) (M2 := M) (Ps := []) (by decide +kernel) rfl rfl trivial ?_
      have t13 : GM z mJ0_length_8abf5 (d + 3) [.ref 1002] M (fun rs => rs = .inl (some (.int (nI 55)), M)) := c_slen z _ _ 2 (by decide)
      refine G.callT (as := []) (rest := [.int (nI i6)]) (i := 2) oJ0_length_8abf5 lk_EvenFinders_Tape_59 (by decide +kernel) rfl (by decide) rfl (Nat.le_of_ble_eq_true rfl) rfl ⟨Nat.le_of_ble_eq_true rfl, Nat.le_of_ble_eq_true rfl⟩ t13 (fun v9 N9 h14 => ?_) (fun E9 N9 h14 => by cases h14)
      cases h14
      show G z mX6_indexIn (d + 4) 0 0 20 [some (.ref 1), some (.ref 1002), some (.int x2), some (.int s3), some (.int s4), some (.int s5), some (.int (nI i6)), none] [.int (nI 55), .int (nI i6)] M Q
      refine G.ic_ge (off := (85)) (tgt := 105) (by decide +kernel) rfl (fun _ => ?_) (fun h9 => absurd (nI_le (by omega) (by omega)) h9)
      refine G.loc (ls2 := [none, none, some (.int x2), some (.int s3), some (.int s4), some (.int s5), none, none]) (by simp [subL]) ?_
      simp only [t_indexIn_s2_14] at hX
      exact hX
  | succ k0 ih =>
      intro i6 s3 s4 s5 hn hk hX
      simp only [t_indexIn_s2_14_ok] at hk
      refine G.sl [(.iload 6, 2, 6, 0, 0, 0), (.aload_n 1, 1, 1, 0, 0, 0)] [] (pc2 := 17) (ls2 := [some (.ref 1), some (.ref 1002), some (.int x2), some (.int s3), some (.int s4), some (.int s5), some (.int (nI i6)), none]) (st2 := [.ref 1002, .int (nI i6)]) (M2 := M) (Ps := []) (by decide +kernel) rfl rfl trivial ?_
      have t1 : GM z mJ0_length_8abf5 (d + 3) [.ref 1002] M (fun rs => rs = .inl (some (.int (nI 55)), M)) := c_slen z _ _ 2 (by decide)
      refine G.callT (as := []) (rest := [.int (nI i6)]) (i := 2) oJ0_length_8abf5 lk_EvenFinders_Tape_59 (by decide +kernel) rfl (by decide) rfl (Nat.le_of_ble_eq_true rfl) rfl ⟨Nat.le_of_ble_eq_true rfl, Nat.le_of_ble_eq_true rfl⟩ t1 (fun v9 N9 h2 => ?_) (fun E9 N9 h2 => by cases h2)
      cases h2
      show G z mX6_indexIn (d + 4) 0 0 20 [some (.ref 1), some (.ref 1002), some (.int x2), some (.int s3), some (.int s4), some (.int s5), some (.int (nI i6)), none] [.int (nI 55), .int (nI i6)] M Q
      refine G.ic_ge (off := (85)) (tgt := 105) (by decide +kernel) rfl (fun h9 => absurd h9 (nI_ge (by omega) (by omega))) (fun _ => ?_)
      refine G.sl [(.aload_n 1, 1, 1, 0, 0, 0), (.iload 6, 2, 6, 0, 0, 0)] [] (pc2 := 26) (ls2 := [some (.ref 1), some (.ref 1002), some (.int x2), some (.int s3), some (.int s4), some (.int s5), some (.int (nI i6)), none]) (st2 := [.int (nI i6), .ref 1002]) (M2 := M) (Ps := []) (by decide +kernel) rfl rfl trivial ?_
      have t3 : GM z mJ0_charAt_5068e (d + 3) [.ref 1002, .int (nI i6)] M (fun rs => rs = .inl (some (.int (sby 2 i6)), M)) := c_charAt z _ _ 2 i6 (by decide) (show i6 < 55 from (by omega))
      refine G.callT (as := [.int (nI i6)]) (rest := []) (i := 2) oJ0_charAt_5068e lk_EvenFinders_Tape_63 (by decide +kernel) rfl (by decide) rfl (Nat.le_of_ble_eq_true rfl) rfl ⟨Nat.le_of_ble_eq_true rfl, Nat.le_of_ble_eq_true rfl⟩ t3 (fun v9 N9 h4 => ?_) (fun E9 N9 h4 => by cases h4)
      cases h4
      show G z mX6_indexIn (d + 4) 0 0 29 [some (.ref 1), some (.ref 1002), some (.int x2), some (.int s3), some (.int s4), some (.int s5), some (.int (nI i6)), none] [.int (sby 2 i6)] M Q
      refine G.sl [(.istore 7, 2, 7, 0, 0, 0), (.iload 7, 2, 7, 0, 0, 0), (.bipush 32, 2, 0, 0, 0, nI 32)] [] (pc2 := 35) (ls2 := [some (.ref 1), some (.ref 1002), some (.int x2), some (.int s3), some (.int s4), some (.int s5), some (.int (nI i6)), some (.int (sby 2 i6))]) (st2 := [.int (nI 32), .int (sby 2 i6)]) (M2 := M) (Ps := []) (by decide +kernel) rfl rfl trivial ?_
      refine G.ic_eq (off := (39)) (tgt := 74) (by decide +kernel) rfl (fun c5 => ?_) (fun c5 => ?_)
      · skip
        rw [if_pos c5] at hk
        refine G.sl [(.iload 5, 2, 5, 0, 0, 0)] [] (pc2 := 76) (ls2 := [some (.ref 1), some (.ref 1002), some (.int x2), some (.int s3), some (.int s4), some (.int s5), some (.int (nI i6)), some (.int (sby 2 i6))]) (st2 := [.int s5]) (M2 := M) (Ps := []) (by decide +kernel) rfl rfl trivial ?_
        refine G.if_eq (off := (11)) (tgt := 87) (by decide +kernel) rfl (fun c6 => ?_) (fun c6 => ?_)
        · skip
          rw [if_pos c6] at hk
          refine G.sl [(.iinc 3 1, 3, 3, 0, 0, nI 1), (.aload_n 0, 1, 0, 0, 0, 0), (.getfield 34, 3, 5, 6, 13, 0), (.istore 4, 2, 4, 0, 0, 0), (.iconst 1, 1, 0, 0, 0, nI 1), (.istore 5, 2, 5, 0, 0, 0), (.iinc 6 1, 3, 6, 0, 0, nI 1), (.goto (-88), 3, 14, 0, 0, 0)] [] (pc2 := 14) (ls2 := [some (.ref 1), some (.ref 1002), some (.int x2), some (.int (s3 + nI 1)), some (.int (M.1 1 6)), some (.int (nI 1)), some (.int ((nI i6) + nI 1)), some (.int (sby 2 i6))]) (st2 := []) (M2 := M) (Ps := []) (by decide +kernel) rfl rfl trivial ?_
          refine G.loc (ls2 := [some (.ref 1), some (.ref 1002), some (.int x2), some (.int (s3 + nI 1)), some (.int (M.1 1 6)), some (.int (nI 1)), some (.int ((nI i6) + nI 1)), none]) (by simp [subL]) ?_
          rw [nI_add i6 1]
          simp only [t_indexIn_s2_14, if_pos c5, if_pos c6] at hX
          exact ih (i6 + 1) (s3 + nI 1) (M.1 1 6) (nI 1) (by omega) hk hX
        · skip
          rw [if_neg c6] at hk
          refine G.sl [(.iload 4, 2, 4, 0, 0, 0), (.iload_n 2, 1, 2, 0, 0, 0)] [] (pc2 := 82) (ls2 := [some (.ref 1), some (.ref 1002), some (.int x2), some (.int s3), some (.int s4), some (.int s5), some (.int (nI i6)), some (.int (sby 2 i6))]) (st2 := [.int x2, .int s4]) (M2 := M) (Ps := []) (by decide +kernel) rfl rfl trivial ?_
          refine G.ic_ne (off := (5)) (tgt := 87) (by decide +kernel) rfl (fun c7 => ?_) (fun c7 => ?_)
          · skip
            rw [if_neg c7] at hk
            refine G.sl [(.iinc 3 1, 3, 3, 0, 0, nI 1), (.aload_n 0, 1, 0, 0, 0, 0), (.getfield 34, 3, 5, 6, 13, 0), (.istore 4, 2, 4, 0, 0, 0), (.iconst 1, 1, 0, 0, 0, nI 1), (.istore 5, 2, 5, 0, 0, 0), (.iinc 6 1, 3, 6, 0, 0, nI 1), (.goto (-88), 3, 14, 0, 0, 0)] [] (pc2 := 14) (ls2 := [some (.ref 1), some (.ref 1002), some (.int x2), some (.int (s3 + nI 1)), some (.int (M.1 1 6)), some (.int (nI 1)), some (.int ((nI i6) + nI 1)), some (.int (sby 2 i6))]) (st2 := []) (M2 := M) (Ps := []) (by decide +kernel) rfl rfl trivial ?_
            refine G.loc (ls2 := [some (.ref 1), some (.ref 1002), some (.int x2), some (.int (s3 + nI 1)), some (.int (M.1 1 6)), some (.int (nI 1)), some (.int ((nI i6) + nI 1)), none]) (by simp [subL]) ?_
            rw [nI_add i6 1]
            simp only [t_indexIn_s2_14, if_pos c5, if_neg c6, if_neg c7] at hX
            exact ih (i6 + 1) (s3 + nI 1) (M.1 1 6) (nI 1) (by omega) hk hX
          · skip
            rw [if_pos c7] at hk
            refine G.sl [(.iload_n 3, 1, 3, 0, 0, 0)] [] (pc2 := 86) (ls2 := [some (.ref 1), some (.ref 1002), some (.int x2), some (.int s3), some (.int s4), some (.int s5), some (.int (nI i6)), some (.int (sby 2 i6))]) (st2 := [.int s3]) (M2 := M) (Ps := []) (by decide +kernel) rfl rfl trivial ?_
            exact G.reti (by decide +kernel) rfl rfl (Nat.le_of_ble_eq_true rfl) (Nat.le_of_ble_eq_true rfl) ((by simp only [t_indexIn_s2_14, if_pos c5, if_neg c6, if_pos c7] at hX; exact hX))
      · skip
        rw [if_neg c5] at hk
        refine G.sl [(.iload 5, 2, 5, 0, 0, 0)] [] (pc2 := 40) (ls2 := [some (.ref 1), some (.ref 1002), some (.int x2), some (.int s3), some (.int s4), some (.int s5), some (.int (nI i6)), some (.int (sby 2 i6))]) (st2 := [.int s5]) (M2 := M) (Ps := []) (by decide +kernel) rfl rfl trivial ?_
        refine G.if_eq (off := (25)) (tgt := 65) (by decide +kernel) rfl (fun c8 => ?_) (fun c8 => ?_)
        · skip
          rw [if_pos c8] at hk
          refine G.sl [(.iconst 0, 1, 0, 0, 0, nI 0), (.istore 5, 2, 5, 0, 0, 0), (.iinc 4 1, 3, 4, 0, 0, nI 1), (.goto 28, 3, 99, 0, 0, 0), (.iinc 6 1, 3, 6, 0, 0, nI 1), (.goto (-88), 3, 14, 0, 0, 0)] [] (pc2 := 14) (ls2 := [some (.ref 1), some (.ref 1002), some (.int x2), some (.int s3), some (.int (s4 + nI 1)), some (.int (nI 0)), some (.int ((nI i6) + nI 1)), some (.int (sby 2 i6))]) (st2 := []) (M2 := M) (Ps := []) (by decide +kernel) rfl rfl trivial ?_
          refine G.loc (ls2 := [some (.ref 1), some (.ref 1002), some (.int x2), some (.int s3), some (.int (s4 + nI 1)), some (.int (nI 0)), some (.int ((nI i6) + nI 1)), none]) (by simp [subL]) ?_
          rw [nI_add i6 1]
          simp only [t_indexIn_s2_14, if_neg c5, if_pos c8] at hX
          exact ih (i6 + 1) s3 (s4 + nI 1) (nI 0) (by omega) hk hX
        · skip
          rw [if_neg c8] at hk
          refine G.sl [(.iload 4, 2, 4, 0, 0, 0), (.iload_n 2, 1, 2, 0, 0, 0)] [] (pc2 := 46) (ls2 := [some (.ref 1), some (.ref 1002), some (.int x2), some (.int s3), some (.int s4), some (.int s5), some (.int (nI i6)), some (.int (sby 2 i6))]) (st2 := [.int x2, .int s4]) (M2 := M) (Ps := []) (by decide +kernel) rfl rfl trivial ?_
          refine G.ic_ge (off := (19)) (tgt := 65) (by decide +kernel) rfl (fun c9 => ?_) (fun c9 => ?_)
          · skip
            rw [if_pos c9] at hk
            refine G.sl [(.iconst 0, 1, 0, 0, 0, nI 0), (.istore 5, 2, 5, 0, 0, 0), (.iinc 4 1, 3, 4, 0, 0, nI 1), (.goto 28, 3, 99, 0, 0, 0), (.iinc 6 1, 3, 6, 0, 0, nI 1), (.goto (-88), 3, 14, 0, 0, 0)] [] (pc2 := 14) (ls2 := [some (.ref 1), some (.ref 1002), some (.int x2), some (.int s3), some (.int (s4 + nI 1)), some (.int (nI 0)), some (.int ((nI i6) + nI 1)), some (.int (sby 2 i6))]) (st2 := []) (M2 := M) (Ps := []) (by decide +kernel) rfl rfl trivial ?_
            refine G.loc (ls2 := [some (.ref 1), some (.ref 1002), some (.int x2), some (.int s3), some (.int (s4 + nI 1)), some (.int (nI 0)), some (.int ((nI i6) + nI 1)), none]) (by simp [subL]) ?_
            rw [nI_add i6 1]
            simp only [t_indexIn_s2_14, if_neg c5, if_neg c8, if_pos c9] at hX
            exact ih (i6 + 1) s3 (s4 + nI 1) (nI 0) (by omega) hk hX
          · skip
            rw [if_neg c9] at hk
            obtain ⟨k10, k11, hk⟩ := hk
            refine G.sl [(.aload_n 0, 1, 0, 0, 0, 0), (.getfield 9, 3, 5, 0, 0, 0), (.iload 4, 2, 4, 0, 0, 0), (.iaload, 1, 0, 0, 0, 0), (.iload 7, 2, 7, 0, 0, 0)] [ix s4] (pc2 := 58) (ls2 := [some (.ref 1), some (.ref 1002), some (.int x2), some (.int s3), some (.int s4), some (.int s5), some (.int (nI i6)), some (.int (sby 2 i6))]) (st2 := [.int (sby 2 i6), .int (M.1 2 (ix s4))]) (M2 := M) (Ps := [s4 = nI (ix s4) ∧ (ix s4) < 600]) (by decide +kernel) rfl rfl ⟨⟨(ixE k10), k11⟩, trivial⟩ ?_
            refine G.ic_ne (off := (7)) (tgt := 65) (by decide +kernel) rfl (fun c12 => ?_) (fun c12 => ?_)
            · skip
              rw [if_neg c12] at hk
              refine G.sl [(.iconst 0, 1, 0, 0, 0, nI 0), (.istore 5, 2, 5, 0, 0, 0), (.iinc 4 1, 3, 4, 0, 0, nI 1), (.goto 28, 3, 99, 0, 0, 0), (.iinc 6 1, 3, 6, 0, 0, nI 1), (.goto (-88), 3, 14, 0, 0, 0)] [] (pc2 := 14) (ls2 := [some (.ref 1), some (.ref 1002), some (.int x2), some (.int s3), some (.int (s4 + nI 1)), some (.int (nI 0)), some (.int ((nI i6) + nI 1)), some (.int (sby 2 i6))]) (st2 := []) (M2 := M) (Ps := []) (by decide +kernel) rfl rfl trivial ?_
              refine G.loc (ls2 := [some (.ref 1), some (.ref 1002), some (.int x2), some (.int s3), some (.int (s4 + nI 1)), some (.int (nI 0)), some (.int ((nI i6) + nI 1)), none]) (by simp [subL]) ?_
              rw [nI_add i6 1]
              simp only [t_indexIn_s2_14, if_neg c5, if_neg c8, if_neg c9, if_neg c12] at hX
              exact ih (i6 + 1) s3 (s4 + nI 1) (nI 0) (by omega) hk hX
            · skip
              rw [if_pos c12] at hk
              refine G.sl [(.iconst 1, 1, 0, 0, 0, nI 1), (.goto 4, 3, 66, 0, 0, 0), (.istore 5, 2, 5, 0, 0, 0), (.iinc 4 1, 3, 4, 0, 0, nI 1), (.goto 28, 3, 99, 0, 0, 0), (.iinc 6 1, 3, 6, 0, 0, nI 1), (.goto (-88), 3, 14, 0, 0, 0)] [] (pc2 := 14) (ls2 := [some (.ref 1), some (.ref 1002), some (.int x2), some (.int s3), some (.int (s4 + nI 1)), some (.int (nI 1)), some (.int ((nI i6) + nI 1)), some (.int (sby 2 i6))]) (st2 := []) (M2 := M) (Ps := []) (by decide +kernel) rfl rfl trivial ?_
              refine G.loc (ls2 := [some (.ref 1), some (.ref 1002), some (.int x2), some (.int s3), some (.int (s4 + nI 1)), some (.int (nI 1)), some (.int ((nI i6) + nI 1)), none]) (by simp [subL]) ?_
              rw [nI_add i6 1]
              simp only [t_indexIn_s2_14, if_neg c5, if_neg c8, if_neg c9, if_pos c12] at hX
              exact ih (i6 + 1) s3 (s4 + nI 1) (nI 1) (by omega) hk hX
set_option maxHeartbeats 4000000 in
set_option maxRecDepth 3000 in
theorem c_t_indexIn_s2_1 (z : Zp) (d : Nat) (M : Mem) (x2 : Int32) (hk : t_indexIn_s2_ok (M.1 1) (M.1 2) x2) : GM z mX6_indexIn (d + 4) [.ref 1, .ref 1002, .int x2] M (fun rs => rs = .inl (some (.int (t_indexIn_s2 (M.1 1) (M.1 2) x2)), M)) := by
  simp only [t_indexIn_s2_ok] at hk
  refine GM.of oX6_indexIn.1 (Nat.le_of_ble_eq_true rfl) ?_
  show G z mX6_indexIn (d + 4) 0 0 0 [some (.ref 1), some (.ref 1002), some (.int x2), none, none, none, none, none] [] M _
  obtain ⟨Q, hQ⟩ : ∃ Q : Rs → Prop, Q = (fun rs => rs = .inl (some (.int (t_indexIn_s2 (M.1 1) (M.1 2) x2)), M)) := ⟨_, rfl⟩
  rw [← hQ]
  refine G.sl [(.iconst 0, 1, 0, 0, 0, nI 0), (.istore_n 3, 1, 3, 0, 0, 0), (.aload_n 0, 1, 0, 0, 0, 0), (.getfield 34, 3, 5, 6, 13, 0), (.istore 4, 2, 4, 0, 0, 0), (.iconst 1, 1, 0, 0, 0, nI 1), (.istore 5, 2, 5, 0, 0, 0), (.iconst 0, 1, 0, 0, 0, nI 0), (.istore 6, 2, 6, 0, 0, 0)] [] (pc2 := 14) (ls2 := [some (.ref 1), some (.ref 1002), some (.int x2), some (.int (nI 0)), some (.int (M.1 1 6)), some (.int (nI 1)), some (.int (nI 0)), none]) (st2 := []) (M2 := M) (Ps := []) (by decide +kernel) rfl rfl trivial ?_
  obtain ⟨k15, hk⟩ := hk
  refine lp_t_indexIn_s2_1_14 z d M Q (cN 55) x2 (cN_eq 55) (cN 55) 0 (nI 0) (M.1 1 6) (nI 1) (Nat.zero_add _) (by first | (simp only [mput, mrow_same, mrow_hit, mrow_miss, mrow_sw, idr_eq, ne_eq, Nat.reduceEqDiff, not_false_eq_true, Nat.reduceLT, reduceCtorEq]; exact k15) | exact k15) ?_
  try simp only [mput, mrow_same, mrow_hit, mrow_miss, mrow_sw, idr_eq, ne_eq, Nat.reduceEqDiff, not_false_eq_true, Nat.reduceLT, reduceCtorEq]
  rcases g16 : t_indexIn_s2_14 (M.1 1) (M.1 2) x2 (cN 55) 0 (nI 0) (M.1 1 6) (nI 1) with v20 | ⟨v17, v18, v19⟩
  · skip
    show Q (.inl (some (.int v20), M))
    rw [hQ]
    simp only [t_indexIn_s2, g16, mrow_self]
  · skip
    show G z mX6_indexIn (d + 4) 0 0 105 [none, none, some (.int x2), some (.int v17), some (.int v18), some (.int v19), none, none] [] M Q
    refine G.sl [(.iload 5, 2, 5, 0, 0, 0)] [] (pc2 := 107) (ls2 := [none, none, some (.int x2), some (.int v17), some (.int v18), some (.int v19), none, none]) (st2 := [.int v19]) (M2 := M) (Ps := []) (by decide +kernel) rfl rfl trivial ?_
    refine G.if_eq (off := (13)) (tgt := 120) (by decide +kernel) rfl (fun c21 => ?_) (fun c21 => ?_)
    · skip
      refine G.sl [(.iconst (-1), 1, 0, 0, 0, (-1))] [] (pc2 := 121) (ls2 := [none, none, some (.int x2), some (.int v17), some (.int v18), some (.int v19), none, none]) (st2 := [.int ((-1))]) (M2 := M) (Ps := []) (by decide +kernel) rfl rfl trivial ?_
      exact G.reti (by decide +kernel) rfl rfl (Nat.le_of_ble_eq_true rfl) (Nat.le_of_ble_eq_true rfl) ((by rw [hQ]; simp only [t_indexIn_s2, g16, if_pos c21, mrow_self]))
    · skip
      refine G.sl [(.iload 4, 2, 4, 0, 0, 0), (.iload_n 2, 1, 2, 0, 0, 0)] [] (pc2 := 113) (ls2 := [none, none, some (.int x2), some (.int v17), some (.int v18), some (.int v19), none, none]) (st2 := [.int x2, .int v18]) (M2 := M) (Ps := []) (by decide +kernel) rfl rfl trivial ?_
      refine G.ic_ne (off := (7)) (tgt := 120) (by decide +kernel) rfl (fun c22 => ?_) (fun c22 => ?_)
      · skip
        refine G.sl [(.iconst (-1), 1, 0, 0, 0, (-1))] [] (pc2 := 121) (ls2 := [none, none, some (.int x2), some (.int v17), some (.int v18), some (.int v19), none, none]) (st2 := [.int ((-1))]) (M2 := M) (Ps := []) (by decide +kernel) rfl rfl trivial ?_
        exact G.reti (by decide +kernel) rfl rfl (Nat.le_of_ble_eq_true rfl) (Nat.le_of_ble_eq_true rfl) ((by rw [hQ]; simp only [t_indexIn_s2, g16, if_neg c21, if_neg c22, mrow_self]))
      · skip
        refine G.sl [(.iload_n 3, 1, 3, 0, 0, 0), (.goto 4, 3, 121, 0, 0, 0)] [] (pc2 := 121) (ls2 := [none, none, some (.int x2), some (.int v17), some (.int v18), some (.int v19), none, none]) (st2 := [.int v17]) (M2 := M) (Ps := []) (by decide +kernel) rfl rfl trivial ?_
        exact G.reti (by decide +kernel) rfl rfl (Nat.le_of_ble_eq_true rfl) (Nat.le_of_ble_eq_true rfl) ((by rw [hQ]; simp only [t_indexIn_s2, g16, if_neg c21, if_pos c22, mrow_self]))
set_option maxHeartbeats 4000000 in
set_option maxRecDepth 3000 in
theorem c_t_word_s2_1 (z : Zp) (d : Nat) (M : Mem) (hk : t_word_s2_ok (M.1 1) (M.1 2)) : GM z mX6_word (d + 5) [.ref 1, .ref 1002] M (fun rs => rs = .inl (some (.int ((t_word_s2 (M.1 1) (M.1 2)).1)), mrow M 1 ((t_word_s2 (M.1 1) (M.1 2)).2))) := by
  simp only [t_word_s2_ok] at hk
  refine GM.of oX6_word.1 (Nat.le_of_ble_eq_true rfl) ?_
  show G z mX6_word (d + 5) 0 0 0 [some (.ref 1), some (.ref 1002), none, none] [] M _
  obtain ⟨Q, hQ⟩ : ∃ Q : Rs → Prop, Q = (fun rs => rs = .inl (some (.int ((t_word_s2 (M.1 1) (M.1 2)).1)), mrow M 1 ((t_word_s2 (M.1 1) (M.1 2)).2))) := ⟨_, rfl⟩
  rw [← hQ]
  refine G.sl [(.aload_n 0, 1, 0, 0, 0, 0)] [] (pc2 := 1) (ls2 := [some (.ref 1), some (.ref 1002), none, none]) (st2 := [.ref 1]) (M2 := M) (Ps := []) (by decide +kernel) rfl rfl trivial ?_
  obtain ⟨k1, hk⟩ := hk
  rcases g2 : t_next (M.1 1) (M.1 2) with ⟨v3, r4⟩
  try simp only [g2] at hk
  have t5 : GM z mX6_next (d + 4) [.ref 1] M (fun rs => rs = .inl (some (.int v3), mrow M 1 r4)) := by
    have q9 := c_t_next_1 z (d + 4) M k1
    try simp only [mput, mrow_same, mrow_hit, mrow_miss, mrow_sw, idr_eq, ne_eq, Nat.reduceEqDiff, not_false_eq_true, Nat.reduceLT, reduceCtorEq, g2] at q9
    exact q9
  refine G.callV (as := []) (rest := []) (a := 1) oX6_next lk_EvenFinders_Tape_43 (by decide +kernel) rfl rfl ⟨rfl, rfl⟩ (Nat.le_of_ble_eq_true rfl) rfl ⟨Nat.le_of_ble_eq_true rfl, Nat.le_of_ble_eq_true rfl⟩ t5 (fun v9 N9 h6 => ?_) (fun E9 N9 h6 => by cases h6)
  cases h6
  show G z mX6_word (d + 5) 0 0 4 [some (.ref 1), some (.ref 1002), none, none] [.int v3] (mrow M 1 r4) Q
  refine G.sl [(.pop, 1, 0, 0, 0, 0), (.aload_n 0, 1, 0, 0, 0, 0), (.getfield 37, 3, 5, 2, 3, 0)] [] (pc2 := 9) (ls2 := [some (.ref 1), some (.ref 1002), none, none]) (st2 := [.int (r4 2)]) (M2 := mrow M 1 r4) (Ps := []) (by decide +kernel) rfl rfl trivial ?_
  refine G.if_eq (off := (5)) (tgt := 14) (by decide +kernel) rfl (fun c7 => ?_) (fun c7 => ?_)
  · skip
    rw [if_pos c7] at hk
    refine G.sl [(.aload_n 0, 1, 0, 0, 0, 0), (.getfield 34, 3, 5, 6, 13, 0), (.istore_n 2, 1, 2, 0, 0, 0)] [] (pc2 := 19) (ls2 := [some (.ref 1), some (.ref 1002), some (.int (r4 6)), none]) (st2 := []) (M2 := mrow M 1 r4) (Ps := []) (by decide +kernel) rfl rfl trivial ?_
    obtain ⟨k13, hk⟩ := hk
    refine lp_t_word_s2_1_19 z d (mrow M 1 r4) Q FU (r4 6) (by first | (simp only [mput, mrow_same, mrow_hit, mrow_miss, mrow_sw, idr_eq, ne_eq, Nat.reduceEqDiff, not_false_eq_true, Nat.reduceLT, reduceCtorEq]; exact k13) | exact k13) ?_
    try simp only [mput, mrow_same, mrow_hit, mrow_miss, mrow_sw, idr_eq, ne_eq, Nat.reduceEqDiff, not_false_eq_true, Nat.reduceLT, reduceCtorEq]
    show G z mX6_word (d + 5) 0 0 55 [some (.ref 1), some (.ref 1002), some (.int (t_word_s2_19 r4 (M.1 2) FU (r4 6))), none] [] (mrow M 1 r4) Q
    refine G.sl [(.aload_n 0, 1, 0, 0, 0, 0), (.aload_n 1, 1, 1, 0, 0, 0), (.iload_n 2, 1, 2, 0, 0, 0)] [] (pc2 := 58) (ls2 := [some (.ref 1), some (.ref 1002), some (.int (t_word_s2_19 r4 (M.1 2) FU (r4 6))), none]) (st2 := [.int (t_word_s2_19 r4 (M.1 2) FU (r4 6)), .ref 1002, .ref 1]) (M2 := mrow M 1 r4) (Ps := []) (by decide +kernel) rfl rfl trivial ?_
    obtain ⟨k14, hk⟩ := hk
    have t15 : GM z mX6_indexIn (d + 4) [.ref 1, .ref 1002, .int (t_word_s2_19 r4 (M.1 2) FU (r4 6))] (mrow M 1 r4) (fun rs => rs = .inl (some (.int (t_indexIn_s2 r4 (M.1 2) (t_word_s2_19 r4 (M.1 2) FU (r4 6)))), mrow M 1 r4)) := by
      have q9 := c_t_indexIn_s2_1 z d (mrow M 1 r4) (t_word_s2_19 r4 (M.1 2) FU (r4 6)) k14
      try simp only [mput, mrow_same, mrow_hit, mrow_miss, mrow_sw, idr_eq, ne_eq, Nat.reduceEqDiff, not_false_eq_true, Nat.reduceLT, reduceCtorEq] at q9
      exact q9
    refine G.callV (as := [.ref 1002, .int (t_word_s2_19 r4 (M.1 2) FU (r4 6))]) (rest := []) (a := 1) oX6_indexIn lk_EvenFinders_Tape_55 (by decide +kernel) rfl rfl ⟨rfl, rfl⟩ (Nat.le_of_ble_eq_true rfl) rfl ⟨Nat.le_of_ble_eq_true rfl, Nat.le_of_ble_eq_true rfl⟩ t15 (fun v9 N9 h16 => ?_) (fun E9 N9 h16 => by cases h16)
    cases h16
    show G z mX6_word (d + 5) 0 0 61 [some (.ref 1), some (.ref 1002), some (.int (t_word_s2_19 r4 (M.1 2) FU (r4 6))), none] [.int (t_indexIn_s2 r4 (M.1 2) (t_word_s2_19 r4 (M.1 2) FU (r4 6)))] (mrow M 1 r4) Q
    refine G.sl [(.istore_n 3, 1, 3, 0, 0, 0), (.iload_n 3, 1, 3, 0, 0, 0), (.iconst (-1), 1, 0, 0, 0, (-1))] [] (pc2 := 64) (ls2 := [some (.ref 1), some (.ref 1002), some (.int (t_word_s2_19 r4 (M.1 2) FU (r4 6))), some (.int (t_indexIn_s2 r4 (M.1 2) (t_word_s2_19 r4 (M.1 2) FU (r4 6))))]) (st2 := [.int ((-1)), .int (t_indexIn_s2 r4 (M.1 2) (t_word_s2_19 r4 (M.1 2) FU (r4 6)))]) (M2 := mrow M 1 r4) (Ps := []) (by decide +kernel) rfl rfl trivial ?_
    refine G.ic_ne (off := (15)) (tgt := 79) (by decide +kernel) rfl (fun c17 => ?_) (fun c17 => ?_)
    · skip
      refine G.sl [(.aload_n 0, 1, 0, 0, 0, 0), (.iload_n 2, 1, 2, 0, 0, 0), (.putfield 34, 3, 5, 6, 13, 0), (.iload_n 3, 1, 3, 0, 0, 0)] [] (pc2 := 85) (ls2 := [some (.ref 1), some (.ref 1002), some (.int (t_word_s2_19 r4 (M.1 2) FU (r4 6))), some (.int (t_indexIn_s2 r4 (M.1 2) (t_word_s2_19 r4 (M.1 2) FU (r4 6))))]) (st2 := [.int (t_indexIn_s2 r4 (M.1 2) (t_word_s2_19 r4 (M.1 2) FU (r4 6)))]) (M2 := mput (mrow M 1 r4) 1 6 (t_word_s2_19 r4 (M.1 2) FU (r4 6))) (Ps := []) (by decide +kernel) rfl rfl trivial ?_
      refine G.mem (M' := mrow M 1 (upd r4 6 (t_word_s2_19 r4 (M.1 2) FU (r4 6)))) (by first | rfl | (simp only [mput, mrow_same, mrow_hit, mrow_miss, mrow_sw, idr_eq, ne_eq, Nat.reduceEqDiff, not_false_eq_true, Nat.reduceLT, reduceCtorEq]; done)) ?_
      exact G.reti (by decide +kernel) rfl rfl (Nat.le_of_ble_eq_true rfl) (Nat.le_of_ble_eq_true rfl) ((by rw [hQ]; simp only [t_word_s2, g2, if_pos c7, if_neg c17, mrow_self]))
    · skip
      refine G.sl [(.aload_n 0, 1, 0, 0, 0, 0), (.iconst 1, 1, 0, 0, 0, nI 1), (.aload_n 0, 1, 0, 0, 0, 0), (.getfield 40, 3, 5, 4, 7, 0)] [] (pc2 := 73) (ls2 := [some (.ref 1), some (.ref 1002), some (.int (t_word_s2_19 r4 (M.1 2) FU (r4 6))), some (.int (t_indexIn_s2 r4 (M.1 2) (t_word_s2_19 r4 (M.1 2) FU (r4 6))))]) (st2 := [.int (r4 4), .int (nI 1), .ref 1]) (M2 := mrow M 1 r4) (Ps := []) (by decide +kernel) rfl rfl trivial ?_
      rcases g19 : t_fail r4 (nI 1) (r4 4) with ⟨u20, r21⟩
      have t22 : GM z mX6_fail (d + 4) [.ref 1, .int (nI 1), .int (r4 4)] (mrow M 1 r4) (fun rs => rs = .inl (none, mrow M 1 r21)) := by
        have q9 := c_t_fail_1 z (d + 4) (mrow M 1 r4) (nI 1) (r4 4)
        try simp only [mput, mrow_same, mrow_hit, mrow_miss, mrow_sw, idr_eq, ne_eq, Nat.reduceEqDiff, not_false_eq_true, Nat.reduceLT, reduceCtorEq, g19] at q9
        exact q9
      refine G.callV (as := [.int (nI 1), .int (r4 4)]) (rest := []) (a := 1) oX6_fail lk_EvenFinders_Tape_47 (by decide +kernel) rfl rfl ⟨rfl, rfl⟩ (Nat.le_of_ble_eq_true rfl) rfl ⟨Nat.le_of_ble_eq_true rfl, Nat.le_of_ble_eq_true rfl⟩ t22 (fun v9 N9 h23 => ?_) (fun E9 N9 h23 => by cases h23)
      cases h23
      show G z mX6_word (d + 5) 0 0 76 [some (.ref 1), some (.ref 1002), some (.int (t_word_s2_19 r4 (M.1 2) FU (r4 6))), some (.int (t_indexIn_s2 r4 (M.1 2) (t_word_s2_19 r4 (M.1 2) FU (r4 6))))] [] (mrow M 1 r21) Q
      refine G.sl [(.goto 8, 3, 84, 0, 0, 0), (.iload_n 3, 1, 3, 0, 0, 0)] [] (pc2 := 85) (ls2 := [some (.ref 1), some (.ref 1002), some (.int (t_word_s2_19 r4 (M.1 2) FU (r4 6))), some (.int (t_indexIn_s2 r4 (M.1 2) (t_word_s2_19 r4 (M.1 2) FU (r4 6))))]) (st2 := [.int (t_indexIn_s2 r4 (M.1 2) (t_word_s2_19 r4 (M.1 2) FU (r4 6)))]) (M2 := mrow M 1 r21) (Ps := []) (by decide +kernel) rfl rfl trivial ?_
      exact G.reti (by decide +kernel) rfl rfl (Nat.le_of_ble_eq_true rfl) (Nat.le_of_ble_eq_true rfl) ((by rw [hQ]; simp only [t_word_s2, g2, if_pos c7, if_pos c17, g19, mrow_self]))
  · skip
    rw [if_neg c7] at hk
    refine G.sl [(.iconst (-1), 1, 0, 0, 0, (-1))] [] (pc2 := 13) (ls2 := [some (.ref 1), some (.ref 1002), none, none]) (st2 := [.int ((-1))]) (M2 := mrow M 1 r4) (Ps := []) (by decide +kernel) rfl rfl trivial ?_
    exact G.reti (by decide +kernel) rfl rfl (Nat.le_of_ble_eq_true rfl) (Nat.le_of_ble_eq_true rfl) ((by rw [hQ]; simp only [t_word_s2, g2, if_neg c7, mrow_self]))
set_option maxHeartbeats 4000000 in
set_option maxRecDepth 3000 in
theorem c_l_readPair_25_1 (z : Zp) (d : Nat) (M : Mem) (x2 : Int32) (x3 : Int32) (fz : (Nat → Int32) → (Nat → Int32) → (Nat → Int32) → (Nat → Int32) → Int32 → Int32 × (Nat → Int32) × (Nat → Int32) × (Nat → Int32)) (gz : (Nat → Int32) → (Nat → Int32) → (Nat → Int32) → (Nat → Int32) → Int32 → Prop) (Hz : ∀ (j : Nat) (M : Mem) (x2 : Int32), gz (M.1 1) (M.1 2) (M.1 25) (M.1 27) x2 → GM z mX3_readSum (d + j) [.ref 25, .ref 1, .int x2] M (fun rs => rs = .inl (none, mrow (mrow (mrow M 1 ((fz (M.1 1) (M.1 2) (M.1 25) (M.1 27) x2).2.1)) 25 ((fz (M.1 1) (M.1 2) (M.1 25) (M.1 27) x2).2.2.1)) 27 ((fz (M.1 1) (M.1 2) (M.1 25) (M.1 27) x2).2.2.2)))) (hk : l_readPair_ok fz gz (M.1 1) (M.1 2) (M.1 25) (M.1 27) x2 x3) : GM z mX3_readPair (d + 2) [.ref 25, .ref 1, .int x2, .int x3] M (fun rs => rs = .inl (none, mrow (mrow (mrow M 1 ((l_readPair fz (M.1 1) (M.1 2) (M.1 25) (M.1 27) x2 x3).2.1)) 25 ((l_readPair fz (M.1 1) (M.1 2) (M.1 25) (M.1 27) x2 x3).2.2.1)) 27 ((l_readPair fz (M.1 1) (M.1 2) (M.1 25) (M.1 27) x2 x3).2.2.2))) := by
  simp only [l_readPair_ok] at hk
  refine GM.of oX3_readPair.1 (Nat.le_of_ble_eq_true rfl) ?_
  show G z mX3_readPair (d + 2) 0 0 0 [some (.ref 25), some (.ref 1), some (.int x2), some (.int x3)] [] M _
  obtain ⟨Q, hQ⟩ : ∃ Q : Rs → Prop, Q = (fun rs => rs = .inl (none, mrow (mrow (mrow M 1 ((l_readPair fz (M.1 1) (M.1 2) (M.1 25) (M.1 27) x2 x3).2.1)) 25 ((l_readPair fz (M.1 1) (M.1 2) (M.1 25) (M.1 27) x2 x3).2.2.1)) 27 ((l_readPair fz (M.1 1) (M.1 2) (M.1 25) (M.1 27) x2 x3).2.2.2))) := ⟨_, rfl⟩
  rw [← hQ]
  refine G.sl [(.iload_n 2, 1, 2, 0, 0, 0), (.bipush 6, 2, 0, 0, 0, nI 6)] [] (pc2 := 3) (ls2 := [some (.ref 25), some (.ref 1), some (.int x2), some (.int x3)]) (st2 := [.int (nI 6), .int x2]) (M2 := M) (Ps := []) (by decide +kernel) rfl rfl trivial ?_
  refine G.ic_lt (off := (13)) (tgt := 16) (by decide +kernel) rfl (fun c1 => ?_) (fun c1 => ?_)
  · skip
    rw [if_pos c1] at hk
    refine G.sl [(.aload_n 1, 1, 1, 0, 0, 0), (.bipush 91, 2, 0, 0, 0, nI 91)] [] (pc2 := 19) (ls2 := [some (.ref 25), some (.ref 1), some (.int x2), some (.int x3)]) (st2 := [.int (nI 91), .ref 1]) (M2 := M) (Ps := []) (by decide +kernel) rfl rfl trivial ?_
    obtain ⟨k2, hk⟩ := hk
    rcases g3 : t_needSign (M.1 1) (M.1 2) (nI 91) with ⟨u4, r5⟩
    try simp only [g3] at hk
    have t6 : GM z mX6_needSign (d + 1) [.ref 1, .int (nI 91)] M (fun rs => rs = .inl (none, mrow M 1 r5)) := by
      have q9 := c_t_needSign_1 z d M (nI 91) k2
      try simp only [mput, mrow_same, mrow_hit, mrow_miss, mrow_sw, idr_eq, ne_eq, Nat.reduceEqDiff, not_false_eq_true, Nat.reduceLT, reduceCtorEq, g3] at q9
      exact q9
    refine G.callV (as := [.int (nI 91)]) (rest := []) (a := 1) oX6_needSign lk_EvenFinders_Law_51 (by decide +kernel) rfl rfl ⟨rfl, rfl⟩ (Nat.le_of_ble_eq_true rfl) rfl ⟨Nat.le_of_ble_eq_true rfl, Nat.le_of_ble_eq_true rfl⟩ t6 (fun v9 N9 h7 => ?_) (fun E9 N9 h7 => by cases h7)
    cases h7
    show G z mX3_readPair (d + 2) 0 0 22 [some (.ref 25), some (.ref 1), some (.int x2), some (.int x3)] [] (mrow M 1 r5) Q
    refine G.sl [(.aload_n 0, 1, 0, 0, 0, 0), (.aload_n 1, 1, 1, 0, 0, 0), (.iload_n 2, 1, 2, 0, 0, 0), (.iconst 1, 1, 0, 0, 0, nI 1), (.iadd, 1, 0, 0, 0, 0)] [] (pc2 := 27) (ls2 := [some (.ref 25), some (.ref 1), some (.int x2), some (.int x3)]) (st2 := [.int (x2 + (nI 1)), .ref 1, .ref 25]) (M2 := mrow M 1 r5) (Ps := []) (by decide +kernel) rfl rfl trivial ?_
    obtain ⟨k8, hk⟩ := hk
    rcases g9 : fz r5 (M.1 2) (M.1 25) (M.1 27) (x2 + (nI 1)) with ⟨u10, r11, r12, r13⟩
    try simp only [g9] at hk
    have t14 : GM z mX3_readSum (d + 1) [.ref 25, .ref 1, .int (x2 + (nI 1))] (mrow M 1 r5) (fun rs => rs = .inl (none, mrow (mrow (mrow M 1 r11) 25 r12) 27 r13)) := by
      have q9 := Hz 1 (mrow M 1 r5) (x2 + (nI 1))
      try simp only [mput, mrow_same, mrow_hit, mrow_miss, mrow_sw, idr_eq, ne_eq, Nat.reduceEqDiff, not_false_eq_true, Nat.reduceLT, reduceCtorEq, g9] at q9
      exact q9 (by first | exact k8 | (simp only [mput, mrow_same, mrow_hit, mrow_miss, mrow_sw, idr_eq, ne_eq, Nat.reduceEqDiff, not_false_eq_true, Nat.reduceLT, reduceCtorEq]; exact k8))
    refine G.callV (as := [.ref 1, .int (x2 + (nI 1))]) (rest := []) (a := 25) oX3_readSum lk_EvenFinders_Law_31 (by decide +kernel) rfl rfl ⟨rfl, rfl⟩ (Nat.le_of_ble_eq_true rfl) rfl ⟨Nat.le_of_ble_eq_true rfl, Nat.le_of_ble_eq_true rfl⟩ t14 (fun v9 N9 h15 => ?_) (fun E9 N9 h15 => by cases h15)
    cases h15
    show G z mX3_readPair (d + 2) 0 0 30 [some (.ref 25), some (.ref 1), some (.int x2), some (.int x3)] [] (mrow (mrow (mrow M 1 r11) 25 r12) 27 r13) Q
    refine G.sl [(.aload_n 1, 1, 1, 0, 0, 0), (.bipush 44, 2, 0, 0, 0, nI 44)] [] (pc2 := 33) (ls2 := [some (.ref 25), some (.ref 1), some (.int x2), some (.int x3)]) (st2 := [.int (nI 44), .ref 1]) (M2 := mrow (mrow (mrow M 1 r11) 25 r12) 27 r13) (Ps := []) (by decide +kernel) rfl rfl trivial ?_
    obtain ⟨k16, hk⟩ := hk
    rcases g17 : t_needSign r11 (M.1 2) (nI 44) with ⟨u18, r19⟩
    try simp only [g17] at hk
    have t20 : GM z mX6_needSign (d + 1) [.ref 1, .int (nI 44)] (mrow (mrow (mrow M 1 r11) 25 r12) 27 r13) (fun rs => rs = .inl (none, mrow (mrow (mrow M 1 r19) 25 r12) 27 r13)) := by
      have q9 := c_t_needSign_1 z d (mrow (mrow (mrow M 1 r11) 25 r12) 27 r13) (nI 44) k16
      try simp only [mput, mrow_same, mrow_hit, mrow_miss, mrow_sw, idr_eq, ne_eq, Nat.reduceEqDiff, not_false_eq_true, Nat.reduceLT, reduceCtorEq, g17] at q9
      exact q9
    refine G.callV (as := [.int (nI 44)]) (rest := []) (a := 1) oX6_needSign lk_EvenFinders_Law_51 (by decide +kernel) rfl rfl ⟨rfl, rfl⟩ (Nat.le_of_ble_eq_true rfl) rfl ⟨Nat.le_of_ble_eq_true rfl, Nat.le_of_ble_eq_true rfl⟩ t20 (fun v9 N9 h21 => ?_) (fun E9 N9 h21 => by cases h21)
    cases h21
    show G z mX3_readPair (d + 2) 0 0 36 [some (.ref 25), some (.ref 1), some (.int x2), some (.int x3)] [] (mrow (mrow (mrow M 1 r19) 25 r12) 27 r13) Q
    refine G.sl [(.aload_n 0, 1, 0, 0, 0, 0), (.aload_n 1, 1, 1, 0, 0, 0), (.iload_n 2, 1, 2, 0, 0, 0), (.iconst 1, 1, 0, 0, 0, nI 1), (.iadd, 1, 0, 0, 0, 0)] [] (pc2 := 41) (ls2 := [some (.ref 25), some (.ref 1), some (.int x2), some (.int x3)]) (st2 := [.int (x2 + (nI 1)), .ref 1, .ref 25]) (M2 := mrow (mrow (mrow M 1 r19) 25 r12) 27 r13) (Ps := []) (by decide +kernel) rfl rfl trivial ?_
    obtain ⟨k22, hk⟩ := hk
    rcases g23 : fz r19 (M.1 2) r12 r13 (x2 + (nI 1)) with ⟨u24, r25, r26, r27⟩
    try simp only [g23] at hk
    have t28 : GM z mX3_readSum (d + 1) [.ref 25, .ref 1, .int (x2 + (nI 1))] (mrow (mrow (mrow M 1 r19) 25 r12) 27 r13) (fun rs => rs = .inl (none, mrow (mrow (mrow M 1 r25) 25 r26) 27 r27)) := by
      have q9 := Hz 1 (mrow (mrow (mrow M 1 r19) 25 r12) 27 r13) (x2 + (nI 1))
      try simp only [mput, mrow_same, mrow_hit, mrow_miss, mrow_sw, idr_eq, ne_eq, Nat.reduceEqDiff, not_false_eq_true, Nat.reduceLT, reduceCtorEq, g23] at q9
      exact q9 (by first | exact k22 | (simp only [mput, mrow_same, mrow_hit, mrow_miss, mrow_sw, idr_eq, ne_eq, Nat.reduceEqDiff, not_false_eq_true, Nat.reduceLT, reduceCtorEq]; exact k22))
    refine G.callV (as := [.ref 1, .int (x2 + (nI 1))]) (rest := []) (a := 25) oX3_readSum lk_EvenFinders_Law_31 (by decide +kernel) rfl rfl ⟨rfl, rfl⟩ (Nat.le_of_ble_eq_true rfl) rfl ⟨Nat.le_of_ble_eq_true rfl, Nat.le_of_ble_eq_true rfl⟩ t28 (fun v9 N9 h29 => ?_) (fun E9 N9 h29 => by cases h29)
    cases h29
    show G z mX3_readPair (d + 2) 0 0 44 [some (.ref 25), some (.ref 1), some (.int x2), some (.int x3)] [] (mrow (mrow (mrow M 1 r25) 25 r26) 27 r27) Q
    refine G.sl [(.aload_n 1, 1, 1, 0, 0, 0), (.bipush 93, 2, 0, 0, 0, nI 93)] [] (pc2 := 47) (ls2 := [some (.ref 25), some (.ref 1), some (.int x2), some (.int x3)]) (st2 := [.int (nI 93), .ref 1]) (M2 := mrow (mrow (mrow M 1 r25) 25 r26) 27 r27) (Ps := []) (by decide +kernel) rfl rfl trivial ?_
    obtain ⟨k30, hk⟩ := hk
    rcases g31 : t_needSign r25 (M.1 2) (nI 93) with ⟨u32, r33⟩
    try simp only [g31] at hk
    have t34 : GM z mX6_needSign (d + 1) [.ref 1, .int (nI 93)] (mrow (mrow (mrow M 1 r25) 25 r26) 27 r27) (fun rs => rs = .inl (none, mrow (mrow (mrow M 1 r33) 25 r26) 27 r27)) := by
      have q9 := c_t_needSign_1 z d (mrow (mrow (mrow M 1 r25) 25 r26) 27 r27) (nI 93) k30
      try simp only [mput, mrow_same, mrow_hit, mrow_miss, mrow_sw, idr_eq, ne_eq, Nat.reduceEqDiff, not_false_eq_true, Nat.reduceLT, reduceCtorEq, g31] at q9
      exact q9
    refine G.callV (as := [.int (nI 93)]) (rest := []) (a := 1) oX6_needSign lk_EvenFinders_Law_51 (by decide +kernel) rfl rfl ⟨rfl, rfl⟩ (Nat.le_of_ble_eq_true rfl) rfl ⟨Nat.le_of_ble_eq_true rfl, Nat.le_of_ble_eq_true rfl⟩ t34 (fun v9 N9 h35 => ?_) (fun E9 N9 h35 => by cases h35)
    cases h35
    show G z mX3_readPair (d + 2) 0 0 50 [some (.ref 25), some (.ref 1), some (.int x2), some (.int x3)] [] (mrow (mrow (mrow M 1 r33) 25 r26) 27 r27) Q
    refine G.sl [(.aload_n 0, 1, 0, 0, 0, 0), (.sipush 2000, 3, 0, 0, 0, nI 2000), (.iload_n 3, 1, 3, 0, 0, 0), (.iadd, 1, 0, 0, 0, 0)] [] (pc2 := 56) (ls2 := [some (.ref 25), some (.ref 1), some (.int x2), some (.int x3)]) (st2 := [.int ((nI 2000) + x3), .ref 25]) (M2 := mrow (mrow (mrow M 1 r33) 25 r26) 27 r27) (Ps := []) (by decide +kernel) rfl rfl trivial ?_
    obtain ⟨k36, hk⟩ := hk
    rcases g37 : l_put r26 r27 ((nI 2000) + x3) with ⟨u38, r39, r40⟩
    have t41 : GM z mX3_put (d + 1) [.ref 25, .int ((nI 2000) + x3)] (mrow (mrow (mrow M 1 r33) 25 r26) 27 r27) (fun rs => rs = .inl (none, mrow (mrow (mrow M 1 r33) 25 r39) 27 r40)) := by
      have q9 := c_l_put_25 z (d + 1) (mrow (mrow (mrow M 1 r33) 25 r26) 27 r27) ((nI 2000) + x3) k36
      try simp only [mput, mrow_same, mrow_hit, mrow_miss, mrow_sw, idr_eq, ne_eq, Nat.reduceEqDiff, not_false_eq_true, Nat.reduceLT, reduceCtorEq, g37] at q9
      exact q9
    refine G.callV (as := [.int ((nI 2000) + x3)]) (rest := []) (a := 25) oX3_put lk_EvenFinders_Law_55 (by decide +kernel) rfl rfl ⟨rfl, rfl⟩ (Nat.le_of_ble_eq_true rfl) rfl ⟨Nat.le_of_ble_eq_true rfl, Nat.le_of_ble_eq_true rfl⟩ t41 (fun v9 N9 h42 => ?_) (fun E9 N9 h42 => by cases h42)
    cases h42
    show G z mX3_readPair (d + 2) 0 0 59 [some (.ref 25), some (.ref 1), some (.int x2), some (.int x3)] [] (mrow (mrow (mrow M 1 r33) 25 r39) 27 r40) Q
    exact G.retv (by decide +kernel) rfl (Nat.le_of_ble_eq_true rfl) (Nat.le_of_ble_eq_true rfl) ((by rw [hQ]; simp only [l_readPair, if_pos c1, g3, g9, g17, g23, g31, g37, mrow_self]))
  · skip
    rw [if_neg c1] at hk
    refine G.sl [(.aload_n 1, 1, 1, 0, 0, 0), (.iconst 3, 1, 0, 0, 0, nI 3), (.aload_n 1, 1, 1, 0, 0, 0), (.getfield 41, 3, 5, 4, 10, 0)] [] (pc2 := 12) (ls2 := [some (.ref 25), some (.ref 1), some (.int x2), some (.int x3)]) (st2 := [.int (M.1 1 4), .int (nI 3), .ref 1]) (M2 := M) (Ps := []) (by decide +kernel) rfl rfl trivial ?_
    rcases g44 : t_fail (M.1 1) (nI 3) (M.1 1 4) with ⟨u45, r46⟩
    have t47 : GM z mX6_fail (d + 1) [.ref 1, .int (nI 3), .int (M.1 1 4)] M (fun rs => rs = .inl (none, mrow M 1 r46)) := by
      have q9 := c_t_fail_1 z (d + 1) M (nI 3) (M.1 1 4)
      try simp only [mput, mrow_same, mrow_hit, mrow_miss, mrow_sw, idr_eq, ne_eq, Nat.reduceEqDiff, not_false_eq_true, Nat.reduceLT, reduceCtorEq, g44] at q9
      exact q9
    refine G.callV (as := [.int (nI 3), .int (M.1 1 4)]) (rest := []) (a := 1) oX6_fail lk_EvenFinders_Law_44 (by decide +kernel) rfl rfl ⟨rfl, rfl⟩ (Nat.le_of_ble_eq_true rfl) rfl ⟨Nat.le_of_ble_eq_true rfl, Nat.le_of_ble_eq_true rfl⟩ t47 (fun v9 N9 h48 => ?_) (fun E9 N9 h48 => by cases h48)
    cases h48
    show G z mX3_readPair (d + 2) 0 0 15 [some (.ref 25), some (.ref 1), some (.int x2), some (.int x3)] [] (mrow M 1 r46) Q
    refine G.mem (M' := mrow (mrow (mrow M 1 r46) 25 (M.1 25)) 27 (M.1 27)) ((((mrow_id (N := mrow M 1 r46) (c := 25) (f := M.1 25) (by first | rfl | (simp only [mput, mrow_same, mrow_hit, mrow_miss, mrow_sw, idr_eq, ne_eq, Nat.reduceEqDiff, not_false_eq_true, Nat.reduceLT, reduceCtorEq]; done))).symm).trans (mrow_id (N := mrow (mrow M 1 r46) 25 (M.1 25)) (c := 27) (f := M.1 27) (by first | rfl | (simp only [mput, mrow_same, mrow_hit, mrow_miss, mrow_sw, idr_eq, ne_eq, Nat.reduceEqDiff, not_false_eq_true, Nat.reduceLT, reduceCtorEq]; done))).symm).trans (by first | rfl | (simp only [mput, mrow_same, mrow_hit, mrow_miss, mrow_sw, idr_eq, ne_eq, Nat.reduceEqDiff, not_false_eq_true, Nat.reduceLT, reduceCtorEq]; done))) ?_
    exact G.retv (by decide +kernel) rfl (Nat.le_of_ble_eq_true rfl) (Nat.le_of_ble_eq_true rfl) ((by rw [hQ]; simp only [l_readPair, if_neg c1, g44, mrow_self]))
set_option maxHeartbeats 4000000 in
set_option maxRecDepth 3000 in
theorem c_l_readBracket_25_1 (z : Zp) (d : Nat) (M : Mem) (x2 : Int32) (fz : (Nat → Int32) → (Nat → Int32) → (Nat → Int32) → (Nat → Int32) → Int32 → Int32 × (Nat → Int32) × (Nat → Int32) × (Nat → Int32)) (gz : (Nat → Int32) → (Nat → Int32) → (Nat → Int32) → (Nat → Int32) → Int32 → Prop) (Hz : ∀ (j : Nat) (M : Mem) (x2 : Int32), gz (M.1 1) (M.1 2) (M.1 25) (M.1 27) x2 → GM z mX3_readSum (d + j) [.ref 25, .ref 1, .int x2] M (fun rs => rs = .inl (none, mrow (mrow (mrow M 1 ((fz (M.1 1) (M.1 2) (M.1 25) (M.1 27) x2).2.1)) 25 ((fz (M.1 1) (M.1 2) (M.1 25) (M.1 27) x2).2.2.1)) 27 ((fz (M.1 1) (M.1 2) (M.1 25) (M.1 27) x2).2.2.2)))) (hk : l_readBracket_ok fz gz (M.1 1) (M.1 2) (M.1 25) (M.1 27) x2) : GM z mX3_readBracket (d + 2) [.ref 25, .ref 1, .int x2] M (fun rs => rs = .inl (none, mrow (mrow (mrow M 1 ((l_readBracket fz (M.1 1) (M.1 2) (M.1 25) (M.1 27) x2).2.1)) 25 ((l_readBracket fz (M.1 1) (M.1 2) (M.1 25) (M.1 27) x2).2.2.1)) 27 ((l_readBracket fz (M.1 1) (M.1 2) (M.1 25) (M.1 27) x2).2.2.2))) := by
  simp only [l_readBracket_ok] at hk
  refine GM.of oX3_readBracket.1 (Nat.le_of_ble_eq_true rfl) ?_
  show G z mX3_readBracket (d + 2) 0 0 0 [some (.ref 25), some (.ref 1), some (.int x2)] [] M _
  obtain ⟨Q, hQ⟩ : ∃ Q : Rs → Prop, Q = (fun rs => rs = .inl (none, mrow (mrow (mrow M 1 ((l_readBracket fz (M.1 1) (M.1 2) (M.1 25) (M.1 27) x2).2.1)) 25 ((l_readBracket fz (M.1 1) (M.1 2) (M.1 25) (M.1 27) x2).2.2.1)) 27 ((l_readBracket fz (M.1 1) (M.1 2) (M.1 25) (M.1 27) x2).2.2.2))) := ⟨_, rfl⟩
  rw [← hQ]
  refine G.sl [(.iload_n 2, 1, 2, 0, 0, 0), (.bipush 6, 2, 0, 0, 0, nI 6)] [] (pc2 := 3) (ls2 := [some (.ref 25), some (.ref 1), some (.int x2)]) (st2 := [.int (nI 6), .int x2]) (M2 := M) (Ps := []) (by decide +kernel) rfl rfl trivial ?_
  refine G.ic_lt (off := (13)) (tgt := 16) (by decide +kernel) rfl (fun c1 => ?_) (fun c1 => ?_)
  · skip
    rw [if_pos c1] at hk
    refine G.sl [(.aload_n 1, 1, 1, 0, 0, 0), (.bipush 40, 2, 0, 0, 0, nI 40)] [] (pc2 := 19) (ls2 := [some (.ref 25), some (.ref 1), some (.int x2)]) (st2 := [.int (nI 40), .ref 1]) (M2 := M) (Ps := []) (by decide +kernel) rfl rfl trivial ?_
    obtain ⟨k2, hk⟩ := hk
    rcases g3 : t_needSign (M.1 1) (M.1 2) (nI 40) with ⟨u4, r5⟩
    try simp only [g3] at hk
    have t6 : GM z mX6_needSign (d + 1) [.ref 1, .int (nI 40)] M (fun rs => rs = .inl (none, mrow M 1 r5)) := by
      have q9 := c_t_needSign_1 z d M (nI 40) k2
      try simp only [mput, mrow_same, mrow_hit, mrow_miss, mrow_sw, idr_eq, ne_eq, Nat.reduceEqDiff, not_false_eq_true, Nat.reduceLT, reduceCtorEq, g3] at q9
      exact q9
    refine G.callV (as := [.int (nI 40)]) (rest := []) (a := 1) oX6_needSign lk_EvenFinders_Law_51 (by decide +kernel) rfl rfl ⟨rfl, rfl⟩ (Nat.le_of_ble_eq_true rfl) rfl ⟨Nat.le_of_ble_eq_true rfl, Nat.le_of_ble_eq_true rfl⟩ t6 (fun v9 N9 h7 => ?_) (fun E9 N9 h7 => by cases h7)
    cases h7
    show G z mX3_readBracket (d + 2) 0 0 22 [some (.ref 25), some (.ref 1), some (.int x2)] [] (mrow M 1 r5) Q
    refine G.sl [(.aload_n 0, 1, 0, 0, 0, 0), (.aload_n 1, 1, 1, 0, 0, 0), (.iload_n 2, 1, 2, 0, 0, 0), (.iconst 1, 1, 0, 0, 0, nI 1), (.iadd, 1, 0, 0, 0, 0)] [] (pc2 := 27) (ls2 := [some (.ref 25), some (.ref 1), some (.int x2)]) (st2 := [.int (x2 + (nI 1)), .ref 1, .ref 25]) (M2 := mrow M 1 r5) (Ps := []) (by decide +kernel) rfl rfl trivial ?_
    obtain ⟨k8, hk⟩ := hk
    rcases g9 : fz r5 (M.1 2) (M.1 25) (M.1 27) (x2 + (nI 1)) with ⟨u10, r11, r12, r13⟩
    try simp only [g9] at hk
    have t14 : GM z mX3_readSum (d + 1) [.ref 25, .ref 1, .int (x2 + (nI 1))] (mrow M 1 r5) (fun rs => rs = .inl (none, mrow (mrow (mrow M 1 r11) 25 r12) 27 r13)) := by
      have q9 := Hz 1 (mrow M 1 r5) (x2 + (nI 1))
      try simp only [mput, mrow_same, mrow_hit, mrow_miss, mrow_sw, idr_eq, ne_eq, Nat.reduceEqDiff, not_false_eq_true, Nat.reduceLT, reduceCtorEq, g9] at q9
      exact q9 (by first | exact k8 | (simp only [mput, mrow_same, mrow_hit, mrow_miss, mrow_sw, idr_eq, ne_eq, Nat.reduceEqDiff, not_false_eq_true, Nat.reduceLT, reduceCtorEq]; exact k8))
    refine G.callV (as := [.ref 1, .int (x2 + (nI 1))]) (rest := []) (a := 25) oX3_readSum lk_EvenFinders_Law_31 (by decide +kernel) rfl rfl ⟨rfl, rfl⟩ (Nat.le_of_ble_eq_true rfl) rfl ⟨Nat.le_of_ble_eq_true rfl, Nat.le_of_ble_eq_true rfl⟩ t14 (fun v9 N9 h15 => ?_) (fun E9 N9 h15 => by cases h15)
    cases h15
    show G z mX3_readBracket (d + 2) 0 0 30 [some (.ref 25), some (.ref 1), some (.int x2)] [] (mrow (mrow (mrow M 1 r11) 25 r12) 27 r13) Q
    refine G.sl [(.aload_n 1, 1, 1, 0, 0, 0), (.bipush 41, 2, 0, 0, 0, nI 41)] [] (pc2 := 33) (ls2 := [some (.ref 25), some (.ref 1), some (.int x2)]) (st2 := [.int (nI 41), .ref 1]) (M2 := mrow (mrow (mrow M 1 r11) 25 r12) 27 r13) (Ps := []) (by decide +kernel) rfl rfl trivial ?_
    obtain ⟨k16, hk⟩ := hk
    rcases g17 : t_needSign r11 (M.1 2) (nI 41) with ⟨u18, r19⟩
    have t20 : GM z mX6_needSign (d + 1) [.ref 1, .int (nI 41)] (mrow (mrow (mrow M 1 r11) 25 r12) 27 r13) (fun rs => rs = .inl (none, mrow (mrow (mrow M 1 r19) 25 r12) 27 r13)) := by
      have q9 := c_t_needSign_1 z d (mrow (mrow (mrow M 1 r11) 25 r12) 27 r13) (nI 41) k16
      try simp only [mput, mrow_same, mrow_hit, mrow_miss, mrow_sw, idr_eq, ne_eq, Nat.reduceEqDiff, not_false_eq_true, Nat.reduceLT, reduceCtorEq, g17] at q9
      exact q9
    refine G.callV (as := [.int (nI 41)]) (rest := []) (a := 1) oX6_needSign lk_EvenFinders_Law_51 (by decide +kernel) rfl rfl ⟨rfl, rfl⟩ (Nat.le_of_ble_eq_true rfl) rfl ⟨Nat.le_of_ble_eq_true rfl, Nat.le_of_ble_eq_true rfl⟩ t20 (fun v9 N9 h21 => ?_) (fun E9 N9 h21 => by cases h21)
    cases h21
    show G z mX3_readBracket (d + 2) 0 0 36 [some (.ref 25), some (.ref 1), some (.int x2)] [] (mrow (mrow (mrow M 1 r19) 25 r12) 27 r13) Q
    exact G.retv (by decide +kernel) rfl (Nat.le_of_ble_eq_true rfl) (Nat.le_of_ble_eq_true rfl) ((by rw [hQ]; simp only [l_readBracket, if_pos c1, g3, g9, g17, mrow_self]))
  · skip
    rw [if_neg c1] at hk
    refine G.sl [(.aload_n 1, 1, 1, 0, 0, 0), (.iconst 3, 1, 0, 0, 0, nI 3), (.aload_n 1, 1, 1, 0, 0, 0), (.getfield 41, 3, 5, 4, 10, 0)] [] (pc2 := 12) (ls2 := [some (.ref 25), some (.ref 1), some (.int x2)]) (st2 := [.int (M.1 1 4), .int (nI 3), .ref 1]) (M2 := M) (Ps := []) (by decide +kernel) rfl rfl trivial ?_
    rcases g23 : t_fail (M.1 1) (nI 3) (M.1 1 4) with ⟨u24, r25⟩
    have t26 : GM z mX6_fail (d + 1) [.ref 1, .int (nI 3), .int (M.1 1 4)] M (fun rs => rs = .inl (none, mrow M 1 r25)) := by
      have q9 := c_t_fail_1 z (d + 1) M (nI 3) (M.1 1 4)
      try simp only [mput, mrow_same, mrow_hit, mrow_miss, mrow_sw, idr_eq, ne_eq, Nat.reduceEqDiff, not_false_eq_true, Nat.reduceLT, reduceCtorEq, g23] at q9
      exact q9
    refine G.callV (as := [.int (nI 3), .int (M.1 1 4)]) (rest := []) (a := 1) oX6_fail lk_EvenFinders_Law_44 (by decide +kernel) rfl rfl ⟨rfl, rfl⟩ (Nat.le_of_ble_eq_true rfl) rfl ⟨Nat.le_of_ble_eq_true rfl, Nat.le_of_ble_eq_true rfl⟩ t26 (fun v9 N9 h27 => ?_) (fun E9 N9 h27 => by cases h27)
    cases h27
    show G z mX3_readBracket (d + 2) 0 0 15 [some (.ref 25), some (.ref 1), some (.int x2)] [] (mrow M 1 r25) Q
    refine G.mem (M' := mrow (mrow (mrow M 1 r25) 25 (M.1 25)) 27 (M.1 27)) ((((mrow_id (N := mrow M 1 r25) (c := 25) (f := M.1 25) (by first | rfl | (simp only [mput, mrow_same, mrow_hit, mrow_miss, mrow_sw, idr_eq, ne_eq, Nat.reduceEqDiff, not_false_eq_true, Nat.reduceLT, reduceCtorEq]; done))).symm).trans (mrow_id (N := mrow (mrow M 1 r25) 25 (M.1 25)) (c := 27) (f := M.1 27) (by first | rfl | (simp only [mput, mrow_same, mrow_hit, mrow_miss, mrow_sw, idr_eq, ne_eq, Nat.reduceEqDiff, not_false_eq_true, Nat.reduceLT, reduceCtorEq]; done))).symm).trans (by first | rfl | (simp only [mput, mrow_same, mrow_hit, mrow_miss, mrow_sw, idr_eq, ne_eq, Nat.reduceEqDiff, not_false_eq_true, Nat.reduceLT, reduceCtorEq]; done))) ?_
    exact G.retv (by decide +kernel) rfl (Nat.le_of_ble_eq_true rfl) (Nat.le_of_ble_eq_true rfl) ((by rw [hQ]; simp only [l_readBracket, if_neg c1, g23, mrow_self]))
set_option maxHeartbeats 4000000 in
set_option maxRecDepth 3000 in
theorem c_l_readUnit_25_1 (z : Zp) (d : Nat) (M : Mem) (x2 : Int32) (fz : (Nat → Int32) → (Nat → Int32) → (Nat → Int32) → (Nat → Int32) → Int32 → Int32 × (Nat → Int32) × (Nat → Int32) × (Nat → Int32)) (gz : (Nat → Int32) → (Nat → Int32) → (Nat → Int32) → (Nat → Int32) → Int32 → Prop) (Hz : ∀ (j : Nat) (M : Mem) (x2 : Int32), gz (M.1 1) (M.1 2) (M.1 25) (M.1 27) x2 → GM z mX3_readSum (d + j) [.ref 25, .ref 1, .int x2] M (fun rs => rs = .inl (none, mrow (mrow (mrow M 1 ((fz (M.1 1) (M.1 2) (M.1 25) (M.1 27) x2).2.1)) 25 ((fz (M.1 1) (M.1 2) (M.1 25) (M.1 27) x2).2.2.1)) 27 ((fz (M.1 1) (M.1 2) (M.1 25) (M.1 27) x2).2.2.2)))) (hk : l_readUnit_ok fz gz (M.1 1) (M.1 2) (M.1 25) (M.1 27) x2) : GM z mX3_readUnit (d + 6) [.ref 25, .ref 1, .int x2] M (fun rs => rs = .inl (none, mrow (mrow (mrow M 1 ((l_readUnit fz (M.1 1) (M.1 2) (M.1 25) (M.1 27) x2).2.1)) 25 ((l_readUnit fz (M.1 1) (M.1 2) (M.1 25) (M.1 27) x2).2.2.1)) 27 ((l_readUnit fz (M.1 1) (M.1 2) (M.1 25) (M.1 27) x2).2.2.2))) := by
  simp only [l_readUnit_ok] at hk
  refine GM.of oX3_readUnit.1 (Nat.le_of_ble_eq_true rfl) ?_
  show G z mX3_readUnit (d + 6) 0 0 0 [some (.ref 25), some (.ref 1), some (.int x2), none, none] [] M _
  obtain ⟨Q, hQ⟩ : ∃ Q : Rs → Prop, Q = (fun rs => rs = .inl (none, mrow (mrow (mrow M 1 ((l_readUnit fz (M.1 1) (M.1 2) (M.1 25) (M.1 27) x2).2.1)) 25 ((l_readUnit fz (M.1 1) (M.1 2) (M.1 25) (M.1 27) x2).2.2.1)) 27 ((l_readUnit fz (M.1 1) (M.1 2) (M.1 25) (M.1 27) x2).2.2.2))) := ⟨_, rfl⟩
  rw [← hQ]
  refine G.sl [(.aload_n 1, 1, 1, 0, 0, 0)] [] (pc2 := 1) (ls2 := [some (.ref 25), some (.ref 1), some (.int x2), none, none]) (st2 := [.ref 1]) (M2 := M) (Ps := []) (by decide +kernel) rfl rfl trivial ?_
  obtain ⟨k1, hk⟩ := hk
  rcases g2 : t_next (M.1 1) (M.1 2) with ⟨v3, r4⟩
  try simp only [g2] at hk
  have t5 : GM z mX6_next (d + 5) [.ref 1] M (fun rs => rs = .inl (some (.int v3), mrow M 1 r4)) := by
    have q9 := c_t_next_1 z (d + 5) M k1
    try simp only [mput, mrow_same, mrow_hit, mrow_miss, mrow_sw, idr_eq, ne_eq, Nat.reduceEqDiff, not_false_eq_true, Nat.reduceLT, reduceCtorEq, g2] at q9
    exact q9
  refine G.callV (as := []) (rest := []) (a := 1) oX6_next lk_EvenFinders_Law_35 (by decide +kernel) rfl rfl ⟨rfl, rfl⟩ (Nat.le_of_ble_eq_true rfl) rfl ⟨Nat.le_of_ble_eq_true rfl, Nat.le_of_ble_eq_true rfl⟩ t5 (fun v9 N9 h6 => ?_) (fun E9 N9 h6 => by cases h6)
  cases h6
  show G z mX3_readUnit (d + 6) 0 0 4 [some (.ref 25), some (.ref 1), some (.int x2), none, none] [.int v3] (mrow M 1 r4) Q
  refine G.sl [(.istore_n 3, 1, 3, 0, 0, 0), (.iload_n 3, 1, 3, 0, 0, 0), (.bipush 40, 2, 0, 0, 0, nI 40)] [] (pc2 := 8) (ls2 := [some (.ref 25), some (.ref 1), some (.int x2), some (.int v3), none]) (st2 := [.int (nI 40), .int v3]) (M2 := mrow M 1 r4) (Ps := []) (by decide +kernel) rfl rfl trivial ?_
  refine G.ic_ne (off := (12)) (tgt := 20) (by decide +kernel) rfl (fun c7 => ?_) (fun c7 => ?_)
  · skip
    rw [if_neg c7] at hk
    refine G.sl [(.iload_n 3, 1, 3, 0, 0, 0)] [] (pc2 := 21) (ls2 := [some (.ref 25), some (.ref 1), some (.int x2), some (.int v3), none]) (st2 := [.int v3]) (M2 := mrow M 1 r4) (Ps := []) (by decide +kernel) rfl rfl trivial ?_
    obtain ⟨k8, hk⟩ := hk
    have t9 : GM z mX6_isDigit (d + 5) [.int v3] (mrow M 1 r4) (fun rs => rs = .inl (some (.int (t_isDigit v3)), mrow M 1 r4)) := by
      have q9 := c_t_isDigit z (d + 5) (mrow M 1 r4) v3
      try simp only [mput, mrow_same, mrow_hit, mrow_miss, mrow_sw, idr_eq, ne_eq, Nat.reduceEqDiff, not_false_eq_true, Nat.reduceLT, reduceCtorEq] at q9
      exact q9
    refine G.callS (as := [.int v3]) (rest := []) oX6_isDigit lk_EvenFinders_Law_65 (by decide +kernel) rfl (Nat.le_of_ble_eq_true rfl) rfl ⟨Nat.le_of_ble_eq_true rfl, Nat.le_of_ble_eq_true rfl⟩ t9 (fun v9 N9 h10 => ?_) (fun E9 N9 h10 => by cases h10)
    cases h10
    show G z mX3_readUnit (d + 6) 0 0 24 [some (.ref 25), some (.ref 1), some (.int x2), some (.int v3), none] [.int (t_isDigit v3)] (mrow M 1 r4) Q
    refine G.if_eq (off := (18)) (tgt := 42) (by decide +kernel) rfl (fun c11 => ?_) (fun c11 => ?_)
    · skip
      rw [if_pos c11] at hk
      refine G.sl [(.aload_n 1, 1, 1, 0, 0, 0), (.ldc 73, 2, 1, 2, 0, 0)] [] (pc2 := 45) (ls2 := [some (.ref 25), some (.ref 1), some (.int x2), some (.int v3), none]) (st2 := [.ref 1002, .ref 1]) (M2 := mrow M 1 r4) (Ps := []) (by decide +kernel) rfl rfl trivial ?_
      obtain ⟨k12, hk⟩ := hk
      rcases g13 : t_word_s2 r4 (M.1 2) with ⟨v14, r15⟩
      try simp only [g13] at hk
      have t16 : GM z mX6_word (d + 5) [.ref 1, .ref 1002] (mrow M 1 r4) (fun rs => rs = .inl (some (.int v14), mrow M 1 r15)) := by
        have q9 := c_t_word_s2_1 z d (mrow M 1 r4) k12
        try simp only [mput, mrow_same, mrow_hit, mrow_miss, mrow_sw, idr_eq, ne_eq, Nat.reduceEqDiff, not_false_eq_true, Nat.reduceLT, reduceCtorEq, g13] at q9
        exact q9
      refine G.callV (as := [.ref 1002]) (rest := []) (a := 1) oX6_word lk_EvenFinders_Law_75 (by decide +kernel) rfl rfl ⟨rfl, rfl⟩ (Nat.le_of_ble_eq_true rfl) rfl ⟨Nat.le_of_ble_eq_true rfl, Nat.le_of_ble_eq_true rfl⟩ t16 (fun v9 N9 h17 => ?_) (fun E9 N9 h17 => by cases h17)
      cases h17
      show G z mX3_readUnit (d + 6) 0 0 48 [some (.ref 25), some (.ref 1), some (.int x2), some (.int v3), none] [.int v14] (mrow M 1 r15) Q
      refine G.sl [(.istore 4, 2, 4, 0, 0, 0), (.iload 4, 2, 4, 0, 0, 0), (.bipush 8, 2, 0, 0, 0, nI 8)] [] (pc2 := 54) (ls2 := [some (.ref 25), some (.ref 1), some (.int x2), some (.int v3), some (.int v14)]) (st2 := [.int (nI 8), .int v14]) (M2 := mrow M 1 r15) (Ps := []) (by decide +kernel) rfl rfl trivial ?_
      refine G.ic_lt (off := (26)) (tgt := 80) (by decide +kernel) rfl (fun c18 => ?_) (fun c18 => ?_)
      · skip
        rw [if_pos c18] at hk
        refine G.sl [(.iload 4, 2, 4, 0, 0, 0), (.iconst (-1), 1, 0, 0, 0, (-1))] [] (pc2 := 83) (ls2 := [some (.ref 25), some (.ref 1), some (.int x2), some (.int v3), some (.int v14)]) (st2 := [.int ((-1)), .int v14]) (M2 := mrow M 1 r15) (Ps := []) (by decide +kernel) rfl rfl trivial ?_
        refine G.ic_eq (off := (13)) (tgt := 96) (by decide +kernel) rfl (fun c19 => ?_) (fun c19 => ?_)
        · skip
          rw [if_pos c19] at hk
          refine G.mem (M' := mrow (mrow (mrow M 1 r15) 25 (M.1 25)) 27 (M.1 27)) ((((mrow_id (N := mrow M 1 r15) (c := 25) (f := M.1 25) (by first | rfl | (simp only [mput, mrow_same, mrow_hit, mrow_miss, mrow_sw, idr_eq, ne_eq, Nat.reduceEqDiff, not_false_eq_true, Nat.reduceLT, reduceCtorEq]; done))).symm).trans (mrow_id (N := mrow (mrow M 1 r15) 25 (M.1 25)) (c := 27) (f := M.1 27) (by first | rfl | (simp only [mput, mrow_same, mrow_hit, mrow_miss, mrow_sw, idr_eq, ne_eq, Nat.reduceEqDiff, not_false_eq_true, Nat.reduceLT, reduceCtorEq]; done))).symm).trans (by first | rfl | (simp only [mput, mrow_same, mrow_hit, mrow_miss, mrow_sw, idr_eq, ne_eq, Nat.reduceEqDiff, not_false_eq_true, Nat.reduceLT, reduceCtorEq]; done))) ?_
          exact G.retv (by decide +kernel) rfl (Nat.le_of_ble_eq_true rfl) (Nat.le_of_ble_eq_true rfl) ((by rw [hQ]; simp only [l_readUnit, g2, if_neg c7, if_pos c11, g13, if_pos c18, if_pos c19, mrow_self]))
        · skip
          rw [if_neg c19] at hk
          refine G.sl [(.aload_n 0, 1, 0, 0, 0, 0), (.sipush 1000, 3, 0, 0, 0, nI 1000), (.iload 4, 2, 4, 0, 0, 0), (.iadd, 1, 0, 0, 0, 0)] [] (pc2 := 93) (ls2 := [some (.ref 25), some (.ref 1), some (.int x2), some (.int v3), some (.int v14)]) (st2 := [.int ((nI 1000) + v14), .ref 25]) (M2 := mrow M 1 r15) (Ps := []) (by decide +kernel) rfl rfl trivial ?_
          obtain ⟨k20, hk⟩ := hk
          rcases g21 : l_put (M.1 25) (M.1 27) ((nI 1000) + v14) with ⟨u22, r23, r24⟩
          have t25 : GM z mX3_put (d + 5) [.ref 25, .int ((nI 1000) + v14)] (mrow M 1 r15) (fun rs => rs = .inl (none, mrow (mrow (mrow M 1 r15) 25 r23) 27 r24)) := by
            have q9 := c_l_put_25 z (d + 5) (mrow M 1 r15) ((nI 1000) + v14) k20
            try simp only [mput, mrow_same, mrow_hit, mrow_miss, mrow_sw, idr_eq, ne_eq, Nat.reduceEqDiff, not_false_eq_true, Nat.reduceLT, reduceCtorEq, g21] at q9
            exact q9
          refine G.callV (as := [.int ((nI 1000) + v14)]) (rest := []) (a := 25) oX3_put lk_EvenFinders_Law_55 (by decide +kernel) rfl rfl ⟨rfl, rfl⟩ (Nat.le_of_ble_eq_true rfl) rfl ⟨Nat.le_of_ble_eq_true rfl, Nat.le_of_ble_eq_true rfl⟩ t25 (fun v9 N9 h26 => ?_) (fun E9 N9 h26 => by cases h26)
          cases h26
          show G z mX3_readUnit (d + 6) 0 0 96 [some (.ref 25), some (.ref 1), some (.int x2), some (.int v3), some (.int v14)] [] (mrow (mrow (mrow M 1 r15) 25 r23) 27 r24) Q
          exact G.retv (by decide +kernel) rfl (Nat.le_of_ble_eq_true rfl) (Nat.le_of_ble_eq_true rfl) ((by rw [hQ]; simp only [l_readUnit, g2, if_neg c7, if_pos c11, g13, if_pos c18, if_neg c19, g21, mrow_self]))
      · skip
        rw [if_neg c18] at hk
        refine G.sl [(.aload_n 0, 1, 0, 0, 0, 0), (.aload_n 1, 1, 1, 0, 0, 0), (.iload_n 2, 1, 2, 0, 0, 0), (.iload 4, 2, 4, 0, 0, 0), (.bipush 8, 2, 0, 0, 0, nI 8)] [] (pc2 := 64) (ls2 := [some (.ref 25), some (.ref 1), some (.int x2), some (.int v3), some (.int v14)]) (st2 := [.int (nI 8), .int v14, .int x2, .ref 1, .ref 25]) (M2 := mrow M 1 r15) (Ps := []) (by decide +kernel) rfl rfl trivial ?_
        refine G.ic_ne (off := (8)) (tgt := 72) (by decide +kernel) rfl (fun c27 => ?_) (fun c27 => ?_)
        · skip
          rw [if_neg c27] at hk
          refine G.sl [(.bipush 62, 2, 0, 0, 0, nI 62)] [] (pc2 := 74) (ls2 := [some (.ref 25), some (.ref 1), some (.int x2), some (.int v3), some (.int v14)]) (st2 := [.int (nI 62), .int x2, .ref 1, .ref 25]) (M2 := mrow M 1 r15) (Ps := []) (by decide +kernel) rfl rfl trivial ?_
          obtain ⟨k28, hk⟩ := hk
          rcases g29 : l_readPair fz r15 (M.1 2) (M.1 25) (M.1 27) x2 (nI 62) with ⟨u30, r31, r32, r33⟩
          have t34 : GM z mX3_readPair (d + 5) [.ref 25, .ref 1, .int x2, .int (nI 62)] (mrow M 1 r15) (fun rs => rs = .inl (none, mrow (mrow (mrow M 1 r31) 25 r32) 27 r33)) := by
            have q9 := c_l_readPair_25_1 z (d + 3) (mrow M 1 r15) x2 (nI 62) fz gz (fun j M x2  hk => by have q9 := Hz (3 + j) M x2  hk; rw [show d + (3 + j) = d + 3 + j by omega] at q9; exact q9) k28
            try simp only [mput, mrow_same, mrow_hit, mrow_miss, mrow_sw, idr_eq, ne_eq, Nat.reduceEqDiff, not_false_eq_true, Nat.reduceLT, reduceCtorEq, g29] at q9
            exact q9
          refine G.callV (as := [.ref 1, .int x2, .int (nI 62)]) (rest := []) (a := 25) oX3_readPair lk_EvenFinders_Law_79 (by decide +kernel) rfl rfl ⟨rfl, rfl⟩ (Nat.le_of_ble_eq_true rfl) rfl ⟨Nat.le_of_ble_eq_true rfl, Nat.le_of_ble_eq_true rfl⟩ t34 (fun v9 N9 h35 => ?_) (fun E9 N9 h35 => by cases h35)
          cases h35
          show G z mX3_readUnit (d + 6) 0 0 77 [some (.ref 25), some (.ref 1), some (.int x2), some (.int v3), some (.int v14)] [] (mrow (mrow (mrow M 1 r31) 25 r32) 27 r33) Q
          refine G.sl [(.goto 19, 3, 96, 0, 0, 0)] [] (pc2 := 96) (ls2 := [some (.ref 25), some (.ref 1), some (.int x2), some (.int v3), some (.int v14)]) (st2 := []) (M2 := mrow (mrow (mrow M 1 r31) 25 r32) 27 r33) (Ps := []) (by decide +kernel) rfl rfl trivial ?_
          exact G.retv (by decide +kernel) rfl (Nat.le_of_ble_eq_true rfl) (Nat.le_of_ble_eq_true rfl) ((by rw [hQ]; simp only [l_readUnit, g2, if_neg c7, if_pos c11, g13, if_neg c18, if_neg c27, g29, mrow_self]))
        · skip
          rw [if_pos c27] at hk
          refine G.sl [(.bipush 60, 2, 0, 0, 0, nI 60), (.goto 5, 3, 74, 0, 0, 0)] [] (pc2 := 74) (ls2 := [some (.ref 25), some (.ref 1), some (.int x2), some (.int v3), some (.int v14)]) (st2 := [.int (nI 60), .int x2, .ref 1, .ref 25]) (M2 := mrow M 1 r15) (Ps := []) (by decide +kernel) rfl rfl trivial ?_
          obtain ⟨k36, hk⟩ := hk
          rcases g37 : l_readPair fz r15 (M.1 2) (M.1 25) (M.1 27) x2 (nI 60) with ⟨u38, r39, r40, r41⟩
          have t42 : GM z mX3_readPair (d + 5) [.ref 25, .ref 1, .int x2, .int (nI 60)] (mrow M 1 r15) (fun rs => rs = .inl (none, mrow (mrow (mrow M 1 r39) 25 r40) 27 r41)) := by
            have q9 := c_l_readPair_25_1 z (d + 3) (mrow M 1 r15) x2 (nI 60) fz gz (fun j M x2  hk => by have q9 := Hz (3 + j) M x2  hk; rw [show d + (3 + j) = d + 3 + j by omega] at q9; exact q9) k36
            try simp only [mput, mrow_same, mrow_hit, mrow_miss, mrow_sw, idr_eq, ne_eq, Nat.reduceEqDiff, not_false_eq_true, Nat.reduceLT, reduceCtorEq, g37] at q9
            exact q9
          refine G.callV (as := [.ref 1, .int x2, .int (nI 60)]) (rest := []) (a := 25) oX3_readPair lk_EvenFinders_Law_79 (by decide +kernel) rfl rfl ⟨rfl, rfl⟩ (Nat.le_of_ble_eq_true rfl) rfl ⟨Nat.le_of_ble_eq_true rfl, Nat.le_of_ble_eq_true rfl⟩ t42 (fun v9 N9 h43 => ?_) (fun E9 N9 h43 => by cases h43)
          cases h43
          show G z mX3_readUnit (d + 6) 0 0 77 [some (.ref 25), some (.ref 1), some (.int x2), some (.int v3), some (.int v14)] [] (mrow (mrow (mrow M 1 r39) 25 r40) 27 r41) Q
          refine G.sl [(.goto 19, 3, 96, 0, 0, 0)] [] (pc2 := 96) (ls2 := [some (.ref 25), some (.ref 1), some (.int x2), some (.int v3), some (.int v14)]) (st2 := []) (M2 := mrow (mrow (mrow M 1 r39) 25 r40) 27 r41) (Ps := []) (by decide +kernel) rfl rfl trivial ?_
          exact G.retv (by decide +kernel) rfl (Nat.le_of_ble_eq_true rfl) (Nat.le_of_ble_eq_true rfl) ((by rw [hQ]; simp only [l_readUnit, g2, if_neg c7, if_pos c11, g13, if_neg c18, if_pos c27, g37, mrow_self]))
    · skip
      rw [if_neg c11] at hk
      refine G.sl [(.aload_n 0, 1, 0, 0, 0, 0), (.aload_n 1, 1, 1, 0, 0, 0), (.iconst 0, 1, 0, 0, 0, nI 0), (.sipush 999, 3, 0, 0, 0, nI 999)] [] (pc2 := 33) (ls2 := [some (.ref 25), some (.ref 1), some (.int x2), some (.int v3), none]) (st2 := [.int (nI 999), .int (nI 0), .ref 1, .ref 25]) (M2 := mrow M 1 r4) (Ps := []) (by decide +kernel) rfl rfl trivial ?_
      obtain ⟨k44, hk⟩ := hk
      rcases g45 : t_number r4 (M.1 2) (nI 0) (nI 999) with ⟨v46, r47⟩
      try simp only [g45] at hk
      have t48 : GM z mX6_number (d + 5) [.ref 1, .int (nI 0), .int (nI 999)] (mrow M 1 r4) (fun rs => rs = .inl (some (.int v46), mrow M 1 r47)) := by
        have q9 := c_t_number_1 z (d + 4) (mrow M 1 r4) (nI 0) (nI 999) k44
        try simp only [mput, mrow_same, mrow_hit, mrow_miss, mrow_sw, idr_eq, ne_eq, Nat.reduceEqDiff, not_false_eq_true, Nat.reduceLT, reduceCtorEq, g45] at q9
        exact q9
      refine G.callV (as := [.int (nI 0), .int (nI 999)]) (rest := [.ref 25]) (a := 1) oX6_number lk_EvenFinders_Law_69 (by decide +kernel) rfl rfl ⟨rfl, rfl⟩ (Nat.le_of_ble_eq_true rfl) rfl ⟨Nat.le_of_ble_eq_true rfl, Nat.le_of_ble_eq_true rfl⟩ t48 (fun v9 N9 h49 => ?_) (fun E9 N9 h49 => by cases h49)
      cases h49
      show G z mX3_readUnit (d + 6) 0 0 36 [some (.ref 25), some (.ref 1), some (.int x2), some (.int v3), none] [.int v46, .ref 25] (mrow M 1 r47) Q
      obtain ⟨k50, hk⟩ := hk
      rcases g51 : l_put (M.1 25) (M.1 27) v46 with ⟨u52, r53, r54⟩
      have t55 : GM z mX3_put (d + 5) [.ref 25, .int v46] (mrow M 1 r47) (fun rs => rs = .inl (none, mrow (mrow (mrow M 1 r47) 25 r53) 27 r54)) := by
        have q9 := c_l_put_25 z (d + 5) (mrow M 1 r47) v46 k50
        try simp only [mput, mrow_same, mrow_hit, mrow_miss, mrow_sw, idr_eq, ne_eq, Nat.reduceEqDiff, not_false_eq_true, Nat.reduceLT, reduceCtorEq, g51] at q9
        exact q9
      refine G.callV (as := [.int v46]) (rest := []) (a := 25) oX3_put lk_EvenFinders_Law_55 (by decide +kernel) rfl rfl ⟨rfl, rfl⟩ (Nat.le_of_ble_eq_true rfl) rfl ⟨Nat.le_of_ble_eq_true rfl, Nat.le_of_ble_eq_true rfl⟩ t55 (fun v9 N9 h56 => ?_) (fun E9 N9 h56 => by cases h56)
      cases h56
      show G z mX3_readUnit (d + 6) 0 0 39 [some (.ref 25), some (.ref 1), some (.int x2), some (.int v3), none] [] (mrow (mrow (mrow M 1 r47) 25 r53) 27 r54) Q
      refine G.sl [(.goto 57, 3, 96, 0, 0, 0)] [] (pc2 := 96) (ls2 := [some (.ref 25), some (.ref 1), some (.int x2), some (.int v3), none]) (st2 := []) (M2 := mrow (mrow (mrow M 1 r47) 25 r53) 27 r54) (Ps := []) (by decide +kernel) rfl rfl trivial ?_
      exact G.retv (by decide +kernel) rfl (Nat.le_of_ble_eq_true rfl) (Nat.le_of_ble_eq_true rfl) ((by rw [hQ]; simp only [l_readUnit, g2, if_neg c7, if_neg c11, g45, g51, mrow_self]))
  · skip
    rw [if_pos c7] at hk
    refine G.sl [(.aload_n 0, 1, 0, 0, 0, 0), (.aload_n 1, 1, 1, 0, 0, 0), (.iload_n 2, 1, 2, 0, 0, 0)] [] (pc2 := 14) (ls2 := [some (.ref 25), some (.ref 1), some (.int x2), some (.int v3), none]) (st2 := [.int x2, .ref 1, .ref 25]) (M2 := mrow M 1 r4) (Ps := []) (by decide +kernel) rfl rfl trivial ?_
    obtain ⟨k57, hk⟩ := hk
    rcases g58 : l_readBracket fz r4 (M.1 2) (M.1 25) (M.1 27) x2 with ⟨u59, r60, r61, r62⟩
    have t63 : GM z mX3_readBracket (d + 5) [.ref 25, .ref 1, .int x2] (mrow M 1 r4) (fun rs => rs = .inl (none, mrow (mrow (mrow M 1 r60) 25 r61) 27 r62)) := by
      have q9 := c_l_readBracket_25_1 z (d + 3) (mrow M 1 r4) x2 fz gz (fun j M x2  hk => by have q9 := Hz (3 + j) M x2  hk; rw [show d + (3 + j) = d + 3 + j by omega] at q9; exact q9) k57
      try simp only [mput, mrow_same, mrow_hit, mrow_miss, mrow_sw, idr_eq, ne_eq, Nat.reduceEqDiff, not_false_eq_true, Nat.reduceLT, reduceCtorEq, g58] at q9
      exact q9
    refine G.callV (as := [.ref 1, .int x2]) (rest := []) (a := 25) oX3_readBracket lk_EvenFinders_Law_62 (by decide +kernel) rfl rfl ⟨rfl, rfl⟩ (Nat.le_of_ble_eq_true rfl) rfl ⟨Nat.le_of_ble_eq_true rfl, Nat.le_of_ble_eq_true rfl⟩ t63 (fun v9 N9 h64 => ?_) (fun E9 N9 h64 => by cases h64)
    cases h64
    show G z mX3_readUnit (d + 6) 0 0 17 [some (.ref 25), some (.ref 1), some (.int x2), some (.int v3), none] [] (mrow (mrow (mrow M 1 r60) 25 r61) 27 r62) Q
    refine G.sl [(.goto 79, 3, 96, 0, 0, 0)] [] (pc2 := 96) (ls2 := [some (.ref 25), some (.ref 1), some (.int x2), some (.int v3), none]) (st2 := []) (M2 := mrow (mrow (mrow M 1 r60) 25 r61) 27 r62) (Ps := []) (by decide +kernel) rfl rfl trivial ?_
    exact G.retv (by decide +kernel) rfl (Nat.le_of_ble_eq_true rfl) (Nat.le_of_ble_eq_true rfl) ((by rw [hQ]; simp only [l_readUnit, g2, if_pos c7, g58, mrow_self]))
set_option maxHeartbeats 4000000 in
set_option maxRecDepth 3000 in
theorem lp_l_readProduct_25_1_8 (z : Zp) (d : Nat) (M : Mem) (Q : Rs → Prop) (nn : Nat) (x2 : Int32) (fz : (Nat → Int32) → (Nat → Int32) → (Nat → Int32) → (Nat → Int32) → Int32 → Int32 × (Nat → Int32) × (Nat → Int32) × (Nat → Int32)) (gz : (Nat → Int32) → (Nat → Int32) → (Nat → Int32) → (Nat → Int32) → Int32 → Prop) (Hz : ∀ (j : Nat) (M : Mem) (x2 : Int32), gz (M.1 1) (M.1 2) (M.1 25) (M.1 27) x2 → GM z mX3_readSum (d + j) [.ref 25, .ref 1, .int x2] M (fun rs => rs = .inl (none, mrow (mrow (mrow M 1 ((fz (M.1 1) (M.1 2) (M.1 25) (M.1 27) x2).2.1)) 25 ((fz (M.1 1) (M.1 2) (M.1 25) (M.1 27) x2).2.2.1)) 27 ((fz (M.1 1) (M.1 2) (M.1 25) (M.1 27) x2).2.2.2)))) (hnn : nn = 150) : ∀ (k0 : Nat) (i3 : Nat) (q1 : (Nat → Int32)) (q25 : (Nat → Int32)) (q27 : (Nat → Int32)), i3 + k0 = nn → l_readProduct_8_ok fz gz (M.1 2) x2 k0 i3 q1 q25 q27 → (match l_readProduct_8 fz (M.1 2) x2 k0 i3 q1 q25 q27 with | .inl (v', q1', q25', q27') => Q (.inl (none, mrow (mrow (mrow M 1 (q1')) 25 (q25')) 27 (q27'))) | .inr (q1', q25', q27') => G z mX3_readProduct (d + 7) 0 0 72 [none, none, none, none, none] [] (mrow (mrow (mrow M 1 (q1')) 25 (q25')) 27 (q27')) Q) → G z mX3_readProduct (d + 7) 0 0 8 [some (.ref 25), some (.ref 1), some (.int x2), some (.int (nI i3)), none] [] (mrow (mrow (mrow M 1 q1) 25 q25) 27 q27) Q := by
  intro k0
  induction k0 with
  | zero =>
      intro i3 q1 q25 q27 hn hk hX
      refine G.sl [(.iload_n 3, 1, 3, 0, 0, 0), (.sipush 150, 3, 0, 0, 0, nI 150)] [] (pc2 := 12) (ls2 := [some (.ref 25), some (.ref 1), some (.int x2), some (.int (nI i3)), none]) (st2 := [.int (nI 150), .int (nI i3)]) (M2 := mrow (mrow (mrow M 1 q1) 25 q25) 27 q27) (Ps := []) (by decide +kernel) rfl rfl trivial ?_
      refine G.ic_ge (off := (60)) (tgt := 72) (by decide +kernel) rfl (fun _ => ?_) (fun h9 => absurd (nI_le (by omega) (by omega)) h9)
      refine G.loc (ls2 := [none, none, none, none, none]) (by simp [subL]) ?_
      simp only [l_readProduct_8] at hX
      exact hX
  | succ k0 ih =>
      intro i3 q1 q25 q27 hn hk hX
      simp only [l_readProduct_8_ok] at hk
      refine G.sl [(.iload_n 3, 1, 3, 0, 0, 0), (.sipush 150, 3, 0, 0, 0, nI 150)] [] (pc2 := 12) (ls2 := [some (.ref 25), some (.ref 1), some (.int x2), some (.int (nI i3)), none]) (st2 := [.int (nI 150), .int (nI i3)]) (M2 := mrow (mrow (mrow M 1 q1) 25 q25) 27 q27) (Ps := []) (by decide +kernel) rfl rfl trivial ?_
      refine G.ic_ge (off := (60)) (tgt := 72) (by decide +kernel) rfl (fun h9 => absurd h9 (nI_ge (by omega) (by omega))) (fun _ => ?_)
      refine G.sl [(.aload_n 1, 1, 1, 0, 0, 0)] [] (pc2 := 16) (ls2 := [some (.ref 25), some (.ref 1), some (.int x2), some (.int (nI i3)), none]) (st2 := [.ref 1]) (M2 := mrow (mrow (mrow M 1 q1) 25 q25) 27 q27) (Ps := []) (by decide +kernel) rfl rfl trivial ?_
      obtain ⟨k9, hk⟩ := hk
      rcases g10 : t_next q1 (M.1 2) with ⟨v11, r12⟩
      try simp only [g10] at hk
      have t13 : GM z mX6_next (d + 6) [.ref 1] (mrow (mrow (mrow M 1 q1) 25 q25) 27 q27) (fun rs => rs = .inl (some (.int v11), mrow (mrow (mrow M 1 r12) 25 q25) 27 q27)) := by
        have q9 := c_t_next_1 z (d + 6) (mrow (mrow (mrow M 1 q1) 25 q25) 27 q27) k9
        try simp only [mput, mrow_same, mrow_hit, mrow_miss, mrow_sw, idr_eq, ne_eq, Nat.reduceEqDiff, not_false_eq_true, Nat.reduceLT, reduceCtorEq, g10] at q9
        exact q9
      refine G.callV (as := []) (rest := []) (a := 1) oX6_next lk_EvenFinders_Law_35 (by decide +kernel) rfl rfl ⟨rfl, rfl⟩ (Nat.le_of_ble_eq_true rfl) rfl ⟨Nat.le_of_ble_eq_true rfl, Nat.le_of_ble_eq_true rfl⟩ t13 (fun v9 N9 h14 => ?_) (fun E9 N9 h14 => by cases h14)
      cases h14
      show G z mX3_readProduct (d + 7) 0 0 19 [some (.ref 25), some (.ref 1), some (.int x2), some (.int (nI i3)), none] [.int v11] (mrow (mrow (mrow M 1 r12) 25 q25) 27 q27) Q
      refine G.sl [(.istore 4, 2, 4, 0, 0, 0), (.iload 4, 2, 4, 0, 0, 0), (.bipush 42, 2, 0, 0, 0, nI 42)] [] (pc2 := 25) (ls2 := [some (.ref 25), some (.ref 1), some (.int x2), some (.int (nI i3)), some (.int v11)]) (st2 := [.int (nI 42), .int v11]) (M2 := mrow (mrow (mrow M 1 r12) 25 q25) 27 q27) (Ps := []) (by decide +kernel) rfl rfl trivial ?_
      refine G.ic_eq (off := (18)) (tgt := 43) (by decide +kernel) rfl (fun c15 => ?_) (fun c15 => ?_)
      · skip
        rw [if_pos c15] at hk
        refine G.sl [(.aload_n 1, 1, 1, 0, 0, 0), (.iload 4, 2, 4, 0, 0, 0), (.i2c, 1, 0, 0, 0, 0)] [] (pc2 := 47) (ls2 := [some (.ref 25), some (.ref 1), some (.int x2), some (.int (nI i3)), some (.int v11)]) (st2 := [.int ((v11.toUInt32 % 65536).toInt32), .ref 1]) (M2 := mrow (mrow (mrow M 1 r12) 25 q25) 27 q27) (Ps := []) (by decide +kernel) rfl rfl trivial ?_
        obtain ⟨k16, hk⟩ := hk
        rcases g17 : t_needSign r12 (M.1 2) ((v11.toUInt32 % 65536).toInt32) with ⟨u18, r19⟩
        try simp only [g17] at hk
        have t20 : GM z mX6_needSign (d + 6) [.ref 1, .int ((v11.toUInt32 % 65536).toInt32)] (mrow (mrow (mrow M 1 r12) 25 q25) 27 q27) (fun rs => rs = .inl (none, mrow (mrow (mrow M 1 r19) 25 q25) 27 q27)) := by
          have q9 := c_t_needSign_1 z (d + 5) (mrow (mrow (mrow M 1 r12) 25 q25) 27 q27) ((v11.toUInt32 % 65536).toInt32) k16
          try simp only [mput, mrow_same, mrow_hit, mrow_miss, mrow_sw, idr_eq, ne_eq, Nat.reduceEqDiff, not_false_eq_true, Nat.reduceLT, reduceCtorEq, g17] at q9
          exact q9
        refine G.callV (as := [.int ((v11.toUInt32 % 65536).toInt32)]) (rest := []) (a := 1) oX6_needSign lk_EvenFinders_Law_51 (by decide +kernel) rfl rfl ⟨rfl, rfl⟩ (Nat.le_of_ble_eq_true rfl) rfl ⟨Nat.le_of_ble_eq_true rfl, Nat.le_of_ble_eq_true rfl⟩ t20 (fun v9 N9 h21 => ?_) (fun E9 N9 h21 => by cases h21)
        cases h21
        show G z mX3_readProduct (d + 7) 0 0 50 [some (.ref 25), some (.ref 1), some (.int x2), some (.int (nI i3)), some (.int v11)] [] (mrow (mrow (mrow M 1 r19) 25 q25) 27 q27) Q
        refine G.sl [(.aload_n 0, 1, 0, 0, 0, 0), (.aload_n 1, 1, 1, 0, 0, 0), (.iload_n 2, 1, 2, 0, 0, 0)] [] (pc2 := 53) (ls2 := [some (.ref 25), some (.ref 1), some (.int x2), some (.int (nI i3)), some (.int v11)]) (st2 := [.int x2, .ref 1, .ref 25]) (M2 := mrow (mrow (mrow M 1 r19) 25 q25) 27 q27) (Ps := []) (by decide +kernel) rfl rfl trivial ?_
        obtain ⟨k22, hk⟩ := hk
        rcases g23 : l_readUnit fz r19 (M.1 2) q25 q27 x2 with ⟨u24, r25, r26, r27⟩
        try simp only [g23] at hk
        have t28 : GM z mX3_readUnit (d + 6) [.ref 25, .ref 1, .int x2] (mrow (mrow (mrow M 1 r19) 25 q25) 27 q27) (fun rs => rs = .inl (none, mrow (mrow (mrow M 1 r25) 25 r26) 27 r27)) := by
          have q9 := c_l_readUnit_25_1 z d (mrow (mrow (mrow M 1 r19) 25 q25) 27 q27) x2 fz gz Hz k22
          try simp only [mput, mrow_same, mrow_hit, mrow_miss, mrow_sw, idr_eq, ne_eq, Nat.reduceEqDiff, not_false_eq_true, Nat.reduceLT, reduceCtorEq, g23] at q9
          exact q9
        refine G.callV (as := [.ref 1, .int x2]) (rest := []) (a := 25) oX3_readUnit lk_EvenFinders_Law_59 (by decide +kernel) rfl rfl ⟨rfl, rfl⟩ (Nat.le_of_ble_eq_true rfl) rfl ⟨Nat.le_of_ble_eq_true rfl, Nat.le_of_ble_eq_true rfl⟩ t28 (fun v9 N9 h29 => ?_) (fun E9 N9 h29 => by cases h29)
        cases h29
        show G z mX3_readProduct (d + 7) 0 0 56 [some (.ref 25), some (.ref 1), some (.int x2), some (.int (nI i3)), some (.int v11)] [] (mrow (mrow (mrow M 1 r25) 25 r26) 27 r27) Q
        refine G.sl [(.aload_n 0, 1, 0, 0, 0, 0), (.sipush 2000, 3, 0, 0, 0, nI 2000), (.iload 4, 2, 4, 0, 0, 0), (.iadd, 1, 0, 0, 0, 0)] [] (pc2 := 63) (ls2 := [some (.ref 25), some (.ref 1), some (.int x2), some (.int (nI i3)), some (.int v11)]) (st2 := [.int ((nI 2000) + v11), .ref 25]) (M2 := mrow (mrow (mrow M 1 r25) 25 r26) 27 r27) (Ps := []) (by decide +kernel) rfl rfl trivial ?_
        obtain ⟨k30, hk⟩ := hk
        rcases g31 : l_put r26 r27 ((nI 2000) + v11) with ⟨u32, r33, r34⟩
        try simp only [g31] at hk
        have t35 : GM z mX3_put (d + 6) [.ref 25, .int ((nI 2000) + v11)] (mrow (mrow (mrow M 1 r25) 25 r26) 27 r27) (fun rs => rs = .inl (none, mrow (mrow (mrow M 1 r25) 25 r33) 27 r34)) := by
          have q9 := c_l_put_25 z (d + 6) (mrow (mrow (mrow M 1 r25) 25 r26) 27 r27) ((nI 2000) + v11) k30
          try simp only [mput, mrow_same, mrow_hit, mrow_miss, mrow_sw, idr_eq, ne_eq, Nat.reduceEqDiff, not_false_eq_true, Nat.reduceLT, reduceCtorEq, g31] at q9
          exact q9
        refine G.callV (as := [.int ((nI 2000) + v11)]) (rest := []) (a := 25) oX3_put lk_EvenFinders_Law_55 (by decide +kernel) rfl rfl ⟨rfl, rfl⟩ (Nat.le_of_ble_eq_true rfl) rfl ⟨Nat.le_of_ble_eq_true rfl, Nat.le_of_ble_eq_true rfl⟩ t35 (fun v9 N9 h36 => ?_) (fun E9 N9 h36 => by cases h36)
        cases h36
        show G z mX3_readProduct (d + 7) 0 0 66 [some (.ref 25), some (.ref 1), some (.int x2), some (.int (nI i3)), some (.int v11)] [] (mrow (mrow (mrow M 1 r25) 25 r33) 27 r34) Q
        refine G.sl [(.iinc 3 1, 3, 3, 0, 0, nI 1), (.goto (-61), 3, 8, 0, 0, 0)] [] (pc2 := 8) (ls2 := [some (.ref 25), some (.ref 1), some (.int x2), some (.int ((nI i3) + nI 1)), some (.int v11)]) (st2 := []) (M2 := mrow (mrow (mrow M 1 r25) 25 r33) 27 r34) (Ps := []) (by decide +kernel) rfl rfl trivial ?_
        refine G.loc (ls2 := [some (.ref 25), some (.ref 1), some (.int x2), some (.int ((nI i3) + nI 1)), none]) (by simp [subL]) ?_
        rw [nI_add i3 1]
        simp only [l_readProduct_8, g10, if_pos c15, g17, g23, g31] at hX
        exact ih (i3 + 1) r25 r33 r34 (by omega) hk hX
      · skip
        rw [if_neg c15] at hk
        refine G.sl [(.iload 4, 2, 4, 0, 0, 0), (.bipush 47, 2, 0, 0, 0, nI 47)] [] (pc2 := 32) (ls2 := [some (.ref 25), some (.ref 1), some (.int x2), some (.int (nI i3)), some (.int v11)]) (st2 := [.int (nI 47), .int v11]) (M2 := mrow (mrow (mrow M 1 r12) 25 q25) 27 q27) (Ps := []) (by decide +kernel) rfl rfl trivial ?_
        refine G.ic_eq (off := (11)) (tgt := 43) (by decide +kernel) rfl (fun c37 => ?_) (fun c37 => ?_)
        · skip
          rw [if_pos c37] at hk
          refine G.sl [(.aload_n 1, 1, 1, 0, 0, 0), (.iload 4, 2, 4, 0, 0, 0), (.i2c, 1, 0, 0, 0, 0)] [] (pc2 := 47) (ls2 := [some (.ref 25), some (.ref 1), some (.int x2), some (.int (nI i3)), some (.int v11)]) (st2 := [.int ((v11.toUInt32 % 65536).toInt32), .ref 1]) (M2 := mrow (mrow (mrow M 1 r12) 25 q25) 27 q27) (Ps := []) (by decide +kernel) rfl rfl trivial ?_
          obtain ⟨k38, hk⟩ := hk
          rcases g39 : t_needSign r12 (M.1 2) ((v11.toUInt32 % 65536).toInt32) with ⟨u40, r41⟩
          try simp only [g39] at hk
          have t42 : GM z mX6_needSign (d + 6) [.ref 1, .int ((v11.toUInt32 % 65536).toInt32)] (mrow (mrow (mrow M 1 r12) 25 q25) 27 q27) (fun rs => rs = .inl (none, mrow (mrow (mrow M 1 r41) 25 q25) 27 q27)) := by
            have q9 := c_t_needSign_1 z (d + 5) (mrow (mrow (mrow M 1 r12) 25 q25) 27 q27) ((v11.toUInt32 % 65536).toInt32) k38
            try simp only [mput, mrow_same, mrow_hit, mrow_miss, mrow_sw, idr_eq, ne_eq, Nat.reduceEqDiff, not_false_eq_true, Nat.reduceLT, reduceCtorEq, g39] at q9
            exact q9
          refine G.callV (as := [.int ((v11.toUInt32 % 65536).toInt32)]) (rest := []) (a := 1) oX6_needSign lk_EvenFinders_Law_51 (by decide +kernel) rfl rfl ⟨rfl, rfl⟩ (Nat.le_of_ble_eq_true rfl) rfl ⟨Nat.le_of_ble_eq_true rfl, Nat.le_of_ble_eq_true rfl⟩ t42 (fun v9 N9 h43 => ?_) (fun E9 N9 h43 => by cases h43)
          cases h43
          show G z mX3_readProduct (d + 7) 0 0 50 [some (.ref 25), some (.ref 1), some (.int x2), some (.int (nI i3)), some (.int v11)] [] (mrow (mrow (mrow M 1 r41) 25 q25) 27 q27) Q
          refine G.sl [(.aload_n 0, 1, 0, 0, 0, 0), (.aload_n 1, 1, 1, 0, 0, 0), (.iload_n 2, 1, 2, 0, 0, 0)] [] (pc2 := 53) (ls2 := [some (.ref 25), some (.ref 1), some (.int x2), some (.int (nI i3)), some (.int v11)]) (st2 := [.int x2, .ref 1, .ref 25]) (M2 := mrow (mrow (mrow M 1 r41) 25 q25) 27 q27) (Ps := []) (by decide +kernel) rfl rfl trivial ?_
          obtain ⟨k44, hk⟩ := hk
          rcases g45 : l_readUnit fz r41 (M.1 2) q25 q27 x2 with ⟨u46, r47, r48, r49⟩
          try simp only [g45] at hk
          have t50 : GM z mX3_readUnit (d + 6) [.ref 25, .ref 1, .int x2] (mrow (mrow (mrow M 1 r41) 25 q25) 27 q27) (fun rs => rs = .inl (none, mrow (mrow (mrow M 1 r47) 25 r48) 27 r49)) := by
            have q9 := c_l_readUnit_25_1 z d (mrow (mrow (mrow M 1 r41) 25 q25) 27 q27) x2 fz gz Hz k44
            try simp only [mput, mrow_same, mrow_hit, mrow_miss, mrow_sw, idr_eq, ne_eq, Nat.reduceEqDiff, not_false_eq_true, Nat.reduceLT, reduceCtorEq, g45] at q9
            exact q9
          refine G.callV (as := [.ref 1, .int x2]) (rest := []) (a := 25) oX3_readUnit lk_EvenFinders_Law_59 (by decide +kernel) rfl rfl ⟨rfl, rfl⟩ (Nat.le_of_ble_eq_true rfl) rfl ⟨Nat.le_of_ble_eq_true rfl, Nat.le_of_ble_eq_true rfl⟩ t50 (fun v9 N9 h51 => ?_) (fun E9 N9 h51 => by cases h51)
          cases h51
          show G z mX3_readProduct (d + 7) 0 0 56 [some (.ref 25), some (.ref 1), some (.int x2), some (.int (nI i3)), some (.int v11)] [] (mrow (mrow (mrow M 1 r47) 25 r48) 27 r49) Q
          refine G.sl [(.aload_n 0, 1, 0, 0, 0, 0), (.sipush 2000, 3, 0, 0, 0, nI 2000), (.iload 4, 2, 4, 0, 0, 0), (.iadd, 1, 0, 0, 0, 0)] [] (pc2 := 63) (ls2 := [some (.ref 25), some (.ref 1), some (.int x2), some (.int (nI i3)), some (.int v11)]) (st2 := [.int ((nI 2000) + v11), .ref 25]) (M2 := mrow (mrow (mrow M 1 r47) 25 r48) 27 r49) (Ps := []) (by decide +kernel) rfl rfl trivial ?_
          obtain ⟨k52, hk⟩ := hk
          rcases g53 : l_put r48 r49 ((nI 2000) + v11) with ⟨u54, r55, r56⟩
          try simp only [g53] at hk
          have t57 : GM z mX3_put (d + 6) [.ref 25, .int ((nI 2000) + v11)] (mrow (mrow (mrow M 1 r47) 25 r48) 27 r49) (fun rs => rs = .inl (none, mrow (mrow (mrow M 1 r47) 25 r55) 27 r56)) := by
            have q9 := c_l_put_25 z (d + 6) (mrow (mrow (mrow M 1 r47) 25 r48) 27 r49) ((nI 2000) + v11) k52
            try simp only [mput, mrow_same, mrow_hit, mrow_miss, mrow_sw, idr_eq, ne_eq, Nat.reduceEqDiff, not_false_eq_true, Nat.reduceLT, reduceCtorEq, g53] at q9
            exact q9
          refine G.callV (as := [.int ((nI 2000) + v11)]) (rest := []) (a := 25) oX3_put lk_EvenFinders_Law_55 (by decide +kernel) rfl rfl ⟨rfl, rfl⟩ (Nat.le_of_ble_eq_true rfl) rfl ⟨Nat.le_of_ble_eq_true rfl, Nat.le_of_ble_eq_true rfl⟩ t57 (fun v9 N9 h58 => ?_) (fun E9 N9 h58 => by cases h58)
          cases h58
          show G z mX3_readProduct (d + 7) 0 0 66 [some (.ref 25), some (.ref 1), some (.int x2), some (.int (nI i3)), some (.int v11)] [] (mrow (mrow (mrow M 1 r47) 25 r55) 27 r56) Q
          refine G.sl [(.iinc 3 1, 3, 3, 0, 0, nI 1), (.goto (-61), 3, 8, 0, 0, 0)] [] (pc2 := 8) (ls2 := [some (.ref 25), some (.ref 1), some (.int x2), some (.int ((nI i3) + nI 1)), some (.int v11)]) (st2 := []) (M2 := mrow (mrow (mrow M 1 r47) 25 r55) 27 r56) (Ps := []) (by decide +kernel) rfl rfl trivial ?_
          refine G.loc (ls2 := [some (.ref 25), some (.ref 1), some (.int x2), some (.int ((nI i3) + nI 1)), none]) (by simp [subL]) ?_
          rw [nI_add i3 1]
          simp only [l_readProduct_8, g10, if_neg c15, if_pos c37, g39, g45, g53] at hX
          exact ih (i3 + 1) r47 r55 r56 (by omega) hk hX
        · skip
          rw [if_neg c37] at hk
          refine G.sl [(.iload 4, 2, 4, 0, 0, 0), (.bipush 37, 2, 0, 0, 0, nI 37)] [] (pc2 := 39) (ls2 := [some (.ref 25), some (.ref 1), some (.int x2), some (.int (nI i3)), some (.int v11)]) (st2 := [.int (nI 37), .int v11]) (M2 := mrow (mrow (mrow M 1 r12) 25 q25) 27 q27) (Ps := []) (by decide +kernel) rfl rfl trivial ?_
          refine G.ic_eq (off := (4)) (tgt := 43) (by decide +kernel) rfl (fun c59 => ?_) (fun c59 => ?_)
          · skip
            rw [if_pos c59] at hk
            refine G.sl [(.aload_n 1, 1, 1, 0, 0, 0), (.iload 4, 2, 4, 0, 0, 0), (.i2c, 1, 0, 0, 0, 0)] [] (pc2 := 47) (ls2 := [some (.ref 25), some (.ref 1), some (.int x2), some (.int (nI i3)), some (.int v11)]) (st2 := [.int ((v11.toUInt32 % 65536).toInt32), .ref 1]) (M2 := mrow (mrow (mrow M 1 r12) 25 q25) 27 q27) (Ps := []) (by decide +kernel) rfl rfl trivial ?_
            obtain ⟨k60, hk⟩ := hk
            rcases g61 : t_needSign r12 (M.1 2) ((v11.toUInt32 % 65536).toInt32) with ⟨u62, r63⟩
            try simp only [g61] at hk
            have t64 : GM z mX6_needSign (d + 6) [.ref 1, .int ((v11.toUInt32 % 65536).toInt32)] (mrow (mrow (mrow M 1 r12) 25 q25) 27 q27) (fun rs => rs = .inl (none, mrow (mrow (mrow M 1 r63) 25 q25) 27 q27)) := by
              have q9 := c_t_needSign_1 z (d + 5) (mrow (mrow (mrow M 1 r12) 25 q25) 27 q27) ((v11.toUInt32 % 65536).toInt32) k60
              try simp only [mput, mrow_same, mrow_hit, mrow_miss, mrow_sw, idr_eq, ne_eq, Nat.reduceEqDiff, not_false_eq_true, Nat.reduceLT, reduceCtorEq, g61] at q9
              exact q9
            refine G.callV (as := [.int ((v11.toUInt32 % 65536).toInt32)]) (rest := []) (a := 1) oX6_needSign lk_EvenFinders_Law_51 (by decide +kernel) rfl rfl ⟨rfl, rfl⟩ (Nat.le_of_ble_eq_true rfl) rfl ⟨Nat.le_of_ble_eq_true rfl, Nat.le_of_ble_eq_true rfl⟩ t64 (fun v9 N9 h65 => ?_) (fun E9 N9 h65 => by cases h65)
            cases h65
            show G z mX3_readProduct (d + 7) 0 0 50 [some (.ref 25), some (.ref 1), some (.int x2), some (.int (nI i3)), some (.int v11)] [] (mrow (mrow (mrow M 1 r63) 25 q25) 27 q27) Q
            refine G.sl [(.aload_n 0, 1, 0, 0, 0, 0), (.aload_n 1, 1, 1, 0, 0, 0), (.iload_n 2, 1, 2, 0, 0, 0)] [] (pc2 := 53) (ls2 := [some (.ref 25), some (.ref 1), some (.int x2), some (.int (nI i3)), some (.int v11)]) (st2 := [.int x2, .ref 1, .ref 25]) (M2 := mrow (mrow (mrow M 1 r63) 25 q25) 27 q27) (Ps := []) (by decide +kernel) rfl rfl trivial ?_
            obtain ⟨k66, hk⟩ := hk
            rcases g67 : l_readUnit fz r63 (M.1 2) q25 q27 x2 with ⟨u68, r69, r70, r71⟩
            try simp only [g67] at hk
            have t72 : GM z mX3_readUnit (d + 6) [.ref 25, .ref 1, .int x2] (mrow (mrow (mrow M 1 r63) 25 q25) 27 q27) (fun rs => rs = .inl (none, mrow (mrow (mrow M 1 r69) 25 r70) 27 r71)) := by
              have q9 := c_l_readUnit_25_1 z d (mrow (mrow (mrow M 1 r63) 25 q25) 27 q27) x2 fz gz Hz k66
              try simp only [mput, mrow_same, mrow_hit, mrow_miss, mrow_sw, idr_eq, ne_eq, Nat.reduceEqDiff, not_false_eq_true, Nat.reduceLT, reduceCtorEq, g67] at q9
              exact q9
            refine G.callV (as := [.ref 1, .int x2]) (rest := []) (a := 25) oX3_readUnit lk_EvenFinders_Law_59 (by decide +kernel) rfl rfl ⟨rfl, rfl⟩ (Nat.le_of_ble_eq_true rfl) rfl ⟨Nat.le_of_ble_eq_true rfl, Nat.le_of_ble_eq_true rfl⟩ t72 (fun v9 N9 h73 => ?_) (fun E9 N9 h73 => by cases h73)
            cases h73
            show G z mX3_readProduct (d + 7) 0 0 56 [some (.ref 25), some (.ref 1), some (.int x2), some (.int (nI i3)), some (.int v11)] [] (mrow (mrow (mrow M 1 r69) 25 r70) 27 r71) Q
            refine G.sl [(.aload_n 0, 1, 0, 0, 0, 0), (.sipush 2000, 3, 0, 0, 0, nI 2000), (.iload 4, 2, 4, 0, 0, 0), (.iadd, 1, 0, 0, 0, 0)] [] (pc2 := 63) (ls2 := [some (.ref 25), some (.ref 1), some (.int x2), some (.int (nI i3)), some (.int v11)]) (st2 := [.int ((nI 2000) + v11), .ref 25]) (M2 := mrow (mrow (mrow M 1 r69) 25 r70) 27 r71) (Ps := []) (by decide +kernel) rfl rfl trivial ?_
            obtain ⟨k74, hk⟩ := hk
            rcases g75 : l_put r70 r71 ((nI 2000) + v11) with ⟨u76, r77, r78⟩
            try simp only [g75] at hk
            have t79 : GM z mX3_put (d + 6) [.ref 25, .int ((nI 2000) + v11)] (mrow (mrow (mrow M 1 r69) 25 r70) 27 r71) (fun rs => rs = .inl (none, mrow (mrow (mrow M 1 r69) 25 r77) 27 r78)) := by
              have q9 := c_l_put_25 z (d + 6) (mrow (mrow (mrow M 1 r69) 25 r70) 27 r71) ((nI 2000) + v11) k74
              try simp only [mput, mrow_same, mrow_hit, mrow_miss, mrow_sw, idr_eq, ne_eq, Nat.reduceEqDiff, not_false_eq_true, Nat.reduceLT, reduceCtorEq, g75] at q9
              exact q9
            refine G.callV (as := [.int ((nI 2000) + v11)]) (rest := []) (a := 25) oX3_put lk_EvenFinders_Law_55 (by decide +kernel) rfl rfl ⟨rfl, rfl⟩ (Nat.le_of_ble_eq_true rfl) rfl ⟨Nat.le_of_ble_eq_true rfl, Nat.le_of_ble_eq_true rfl⟩ t79 (fun v9 N9 h80 => ?_) (fun E9 N9 h80 => by cases h80)
            cases h80
            show G z mX3_readProduct (d + 7) 0 0 66 [some (.ref 25), some (.ref 1), some (.int x2), some (.int (nI i3)), some (.int v11)] [] (mrow (mrow (mrow M 1 r69) 25 r77) 27 r78) Q
            refine G.sl [(.iinc 3 1, 3, 3, 0, 0, nI 1), (.goto (-61), 3, 8, 0, 0, 0)] [] (pc2 := 8) (ls2 := [some (.ref 25), some (.ref 1), some (.int x2), some (.int ((nI i3) + nI 1)), some (.int v11)]) (st2 := []) (M2 := mrow (mrow (mrow M 1 r69) 25 r77) 27 r78) (Ps := []) (by decide +kernel) rfl rfl trivial ?_
            refine G.loc (ls2 := [some (.ref 25), some (.ref 1), some (.int x2), some (.int ((nI i3) + nI 1)), none]) (by simp [subL]) ?_
            rw [nI_add i3 1]
            simp only [l_readProduct_8, g10, if_neg c15, if_neg c37, if_pos c59, g61, g67, g75] at hX
            exact ih (i3 + 1) r69 r77 r78 (by omega) hk hX
          · skip
            rw [if_neg c59] at hk
            exact G.retv (by decide +kernel) rfl (Nat.le_of_ble_eq_true rfl) (Nat.le_of_ble_eq_true rfl) ((by simp only [l_readProduct_8, g10, if_neg c15, if_neg c37, if_neg c59] at hX; exact hX))
set_option maxHeartbeats 4000000 in
set_option maxRecDepth 3000 in
theorem c_l_readProduct_25_1 (z : Zp) (d : Nat) (M : Mem) (x2 : Int32) (fz : (Nat → Int32) → (Nat → Int32) → (Nat → Int32) → (Nat → Int32) → Int32 → Int32 × (Nat → Int32) × (Nat → Int32) × (Nat → Int32)) (gz : (Nat → Int32) → (Nat → Int32) → (Nat → Int32) → (Nat → Int32) → Int32 → Prop) (Hz : ∀ (j : Nat) (M : Mem) (x2 : Int32), gz (M.1 1) (M.1 2) (M.1 25) (M.1 27) x2 → GM z mX3_readSum (d + j) [.ref 25, .ref 1, .int x2] M (fun rs => rs = .inl (none, mrow (mrow (mrow M 1 ((fz (M.1 1) (M.1 2) (M.1 25) (M.1 27) x2).2.1)) 25 ((fz (M.1 1) (M.1 2) (M.1 25) (M.1 27) x2).2.2.1)) 27 ((fz (M.1 1) (M.1 2) (M.1 25) (M.1 27) x2).2.2.2)))) (hk : l_readProduct_ok fz gz (M.1 1) (M.1 2) (M.1 25) (M.1 27) x2) : GM z mX3_readProduct (d + 7) [.ref 25, .ref 1, .int x2] M (fun rs => rs = .inl (none, mrow (mrow (mrow M 1 ((l_readProduct fz (M.1 1) (M.1 2) (M.1 25) (M.1 27) x2).2.1)) 25 ((l_readProduct fz (M.1 1) (M.1 2) (M.1 25) (M.1 27) x2).2.2.1)) 27 ((l_readProduct fz (M.1 1) (M.1 2) (M.1 25) (M.1 27) x2).2.2.2))) := by
  simp only [l_readProduct_ok] at hk
  refine GM.of oX3_readProduct.1 (Nat.le_of_ble_eq_true rfl) ?_
  show G z mX3_readProduct (d + 7) 0 0 0 [some (.ref 25), some (.ref 1), some (.int x2), none, none] [] M _
  obtain ⟨Q, hQ⟩ : ∃ Q : Rs → Prop, Q = (fun rs => rs = .inl (none, mrow (mrow (mrow M 1 ((l_readProduct fz (M.1 1) (M.1 2) (M.1 25) (M.1 27) x2).2.1)) 25 ((l_readProduct fz (M.1 1) (M.1 2) (M.1 25) (M.1 27) x2).2.2.1)) 27 ((l_readProduct fz (M.1 1) (M.1 2) (M.1 25) (M.1 27) x2).2.2.2))) := ⟨_, rfl⟩
  rw [← hQ]
  refine G.sl [(.aload_n 0, 1, 0, 0, 0, 0), (.aload_n 1, 1, 1, 0, 0, 0), (.iload_n 2, 1, 2, 0, 0, 0)] [] (pc2 := 3) (ls2 := [some (.ref 25), some (.ref 1), some (.int x2), none, none]) (st2 := [.int x2, .ref 1, .ref 25]) (M2 := M) (Ps := []) (by decide +kernel) rfl rfl trivial ?_
  obtain ⟨k1, hk⟩ := hk
  rcases g2 : l_readUnit fz (M.1 1) (M.1 2) (M.1 25) (M.1 27) x2 with ⟨u3, r4, r5, r6⟩
  try simp only [g2] at hk
  have t7 : GM z mX3_readUnit (d + 6) [.ref 25, .ref 1, .int x2] M (fun rs => rs = .inl (none, mrow (mrow (mrow M 1 r4) 25 r5) 27 r6)) := by
    have q9 := c_l_readUnit_25_1 z d M x2 fz gz Hz k1
    try simp only [mput, mrow_same, mrow_hit, mrow_miss, mrow_sw, idr_eq, ne_eq, Nat.reduceEqDiff, not_false_eq_true, Nat.reduceLT, reduceCtorEq, g2] at q9
    exact q9
  refine G.callV (as := [.ref 1, .int x2]) (rest := []) (a := 25) oX3_readUnit lk_EvenFinders_Law_59 (by decide +kernel) rfl rfl ⟨rfl, rfl⟩ (Nat.le_of_ble_eq_true rfl) rfl ⟨Nat.le_of_ble_eq_true rfl, Nat.le_of_ble_eq_true rfl⟩ t7 (fun v9 N9 h8 => ?_) (fun E9 N9 h8 => by cases h8)
  cases h8
  show G z mX3_readProduct (d + 7) 0 0 6 [some (.ref 25), some (.ref 1), some (.int x2), none, none] [] (mrow (mrow (mrow M 1 r4) 25 r5) 27 r6) Q
  refine G.sl [(.iconst 0, 1, 0, 0, 0, nI 0), (.istore_n 3, 1, 3, 0, 0, 0)] [] (pc2 := 8) (ls2 := [some (.ref 25), some (.ref 1), some (.int x2), some (.int (nI 0)), none]) (st2 := []) (M2 := mrow (mrow (mrow M 1 r4) 25 r5) 27 r6) (Ps := []) (by decide +kernel) rfl rfl trivial ?_
  obtain ⟨k81, hk⟩ := hk
  refine G.mem (M' := mrow (mrow (mrow (mrow (mrow (mrow M 1 r4) 25 r5) 27 r6) 1 ((mrow (mrow (mrow M 1 r4) 25 r5) 27 r6).1 1)) 25 ((mrow (mrow (mrow M 1 r4) 25 r5) 27 r6).1 25)) 27 ((mrow (mrow (mrow M 1 r4) 25 r5) 27 r6).1 27)) (by simp only [mrow_self]) ?_
  refine lp_l_readProduct_25_1_8 z d (mrow (mrow (mrow M 1 r4) 25 r5) 27 r6) Q (cN 150) x2 fz gz Hz (cN_eq 150) (cN 150) 0 ((mrow (mrow (mrow M 1 r4) 25 r5) 27 r6).1 1) ((mrow (mrow (mrow M 1 r4) 25 r5) 27 r6).1 25) ((mrow (mrow (mrow M 1 r4) 25 r5) 27 r6).1 27) (Nat.zero_add _) (by first | (simp only [mput, mrow_same, mrow_hit, mrow_miss, mrow_sw, idr_eq, ne_eq, Nat.reduceEqDiff, not_false_eq_true, Nat.reduceLT, reduceCtorEq]; exact k81) | exact k81) ?_
  try simp only [mput, mrow_same, mrow_hit, mrow_miss, mrow_sw, idr_eq, ne_eq, Nat.reduceEqDiff, not_false_eq_true, Nat.reduceLT, reduceCtorEq]
  rcases g82 : l_readProduct_8 fz (M.1 2) x2 (cN 150) 0 r4 r5 r6 with ⟨v86, r87, r88, r89⟩ | ⟨r83, r84, r85⟩
  · skip
    show Q (.inl (none, mrow (mrow (mrow M 1 r87) 25 r88) 27 r89))
    rw [hQ]
    simp only [l_readProduct, g2, g82, mrow_self]
  · skip
    show G z mX3_readProduct (d + 7) 0 0 72 [none, none, none, none, none] [] (mrow (mrow (mrow M 1 r83) 25 r84) 27 r85) Q
    exact G.retv (by decide +kernel) rfl (Nat.le_of_ble_eq_true rfl) (Nat.le_of_ble_eq_true rfl) ((by rw [hQ]; simp only [l_readProduct, g2, g82, mrow_self]))
