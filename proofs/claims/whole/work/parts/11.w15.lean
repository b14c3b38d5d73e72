noncomputable def t_word_s3_19 (Rtape Rbytes : Nat → Int32) : Nat → Int32 → Int32
  | 0, s2 => s2
  | k0 + 1, s2 => (if (Rtape 5) ≤ s2 then s2 else (if (Rbytes (ix s2)) < (nI 97) then s2 else (if (nI 122) < (Rbytes (ix s2)) then s2 else t_word_s3_19 Rtape Rbytes k0 (s2 + nI 1))))
noncomputable def t_word_s3_19_ok (Rtape Rbytes : Nat → Int32) : Nat → Int32 → Prop
  | 0, _ => False
  | k0 + 1, s2 => (if (Rtape 5) ≤ s2 then True else ((isN s2) ∧ (ix s2 < 600) ∧ (if (Rbytes (ix s2)) < (nI 97) then True else (if (nI 122) < (Rbytes (ix s2)) then True else t_word_s3_19_ok Rtape Rbytes k0 (s2 + nI 1)))))
set_option maxHeartbeats 4000000 in
set_option maxRecDepth 3000 in
theorem lp_t_word_s3_1_19 (z : Zp) (d : Nat) (M : Mem) (Q : Rs → Prop) : ∀ (k0 : Nat) (s2 : Int32), t_word_s3_19_ok (M.1 1) (M.1 2) k0 s2 → (match t_word_s3_19 (M.1 1) (M.1 2) k0 s2 with | s2' => G z mX6_word (d + 5) 0 0 55 [some (.ref 1), some (.ref 1003), some (.int (s2')), none] [] M Q) → G z mX6_word (d + 5) 0 0 19 [some (.ref 1), some (.ref 1003), some (.int s2), none] [] M Q := by
  intro k0
  induction k0 with
  | zero =>
      intro s2 hk hX
      exact (by simpa only [t_word_s3_19_ok] using hk : False).elim
  | succ k0 ih =>
      intro s2 hk hX
      simp only [t_word_s3_19_ok] at hk
      refine G.sl [(.iload_n 2, 1, 2, 0, 0, 0), (.aload_n 0, 1, 0, 0, 0, 0), (.getfield 31, 3, 5, 5, 12, 0)] [] (pc2 := 24) (ls2 := [some (.ref 1), some (.ref 1003), some (.int s2), none]) (st2 := [.int (M.1 1 5), .int s2]) (M2 := M) (Ps := []) (by decide +kernel) rfl rfl trivial ?_
      refine G.ic_ge (off := (31)) (tgt := 55) (by decide +kernel) rfl (fun c8 => ?_) (fun c8 => ?_)
      · skip
        rw [if_pos c8] at hk
        simp only [t_word_s3_19, if_pos c8] at hX
        exact hX
      · skip
        rw [if_neg c8] at hk
        obtain ⟨k9, k10, hk⟩ := hk
        refine G.sl [(.aload_n 0, 1, 0, 0, 0, 0), (.getfield 9, 3, 5, 0, 0, 0), (.iload_n 2, 1, 2, 0, 0, 0), (.iaload, 1, 0, 0, 0, 0), (.bipush 97, 2, 0, 0, 0, nI 97)] [ix s2] (pc2 := 35) (ls2 := [some (.ref 1), some (.ref 1003), some (.int s2), none]) (st2 := [.int (nI 97), .int (M.1 2 (ix s2))]) (M2 := M) (Ps := [s2 = nI (ix s2) ∧ (ix s2) < 600]) (by decide +kernel) rfl rfl ⟨⟨(ixE k9), k10⟩, trivial⟩ ?_
        refine G.ic_lt (off := (20)) (tgt := 55) (by decide +kernel) rfl (fun c11 => ?_) (fun c11 => ?_)
        · skip
          rw [if_pos c11] at hk
          simp only [t_word_s3_19, if_neg c8, if_pos c11] at hX
          exact hX
        · skip
          rw [if_neg c11] at hk
          refine G.sl [(.aload_n 0, 1, 0, 0, 0, 0), (.getfield 9, 3, 5, 0, 0, 0), (.iload_n 2, 1, 2, 0, 0, 0), (.iaload, 1, 0, 0, 0, 0), (.bipush 122, 2, 0, 0, 0, nI 122)] [ix s2] (pc2 := 46) (ls2 := [some (.ref 1), some (.ref 1003), some (.int s2), none]) (st2 := [.int (nI 122), .int (M.1 2 (ix s2))]) (M2 := M) (Ps := [s2 = nI (ix s2) ∧ (ix s2) < 600]) (by decide +kernel) rfl rfl ⟨⟨(ixE k9), k10⟩, trivial⟩ ?_
          refine G.ic_gt (off := (9)) (tgt := 55) (by decide +kernel) rfl (fun c12 => ?_) (fun c12 => ?_)
          · skip
            rw [if_pos c12] at hk
            simp only [t_word_s3_19, if_neg c8, if_neg c11, if_pos c12] at hX
            exact hX
          · skip
            rw [if_neg c12] at hk
            refine G.sl [(.iinc 2 1, 3, 2, 0, 0, nI 1), (.goto (-33), 3, 19, 0, 0, 0)] [] (pc2 := 19) (ls2 := [some (.ref 1), some (.ref 1003), some (.int (s2 + nI 1)), none]) (st2 := []) (M2 := M) (Ps := []) (by decide +kernel) rfl rfl trivial ?_
            simp only [t_word_s3_19, if_neg c8, if_neg c11, if_neg c12] at hX
            exact ih (s2 + nI 1) hk hX
noncomputable def t_indexIn_s3_14 (Rtape Rbytes : Nat → Int32) (x2 : Int32) : Nat → Nat → Int32 → Int32 → Int32 → (Int32) ⊕ (Int32 × Int32 × Int32)
  | 0, _, s3, s4, s5 => .inr (s3, s4, s5)
  | k0 + 1, i6, s3, s4, s5 => (if (sby 3 i6) = (nI 32) then (if s5 = 0 then t_indexIn_s3_14 Rtape Rbytes x2 k0 (i6 + 1) (s3 + nI 1) (Rtape 6) (nI 1) else (if s4 = x2 then .inl s3 else t_indexIn_s3_14 Rtape Rbytes x2 k0 (i6 + 1) (s3 + nI 1) (Rtape 6) (nI 1))) else (if s5 = 0 then t_indexIn_s3_14 Rtape Rbytes x2 k0 (i6 + 1) s3 (s4 + nI 1) (nI 0) else (if x2 ≤ s4 then t_indexIn_s3_14 Rtape Rbytes x2 k0 (i6 + 1) s3 (s4 + nI 1) (nI 0) else (if (Rbytes (ix s4)) = (sby 3 i6) then t_indexIn_s3_14 Rtape Rbytes x2 k0 (i6 + 1) s3 (s4 + nI 1) (nI 1) else t_indexIn_s3_14 Rtape Rbytes x2 k0 (i6 + 1) s3 (s4 + nI 1) (nI 0)))))
noncomputable def t_indexIn_s3_14_ok (Rtape Rbytes : Nat → Int32) (x2 : Int32) : Nat → Nat → Int32 → Int32 → Int32 → Prop
  | 0, _, _, _, _ => True
  | k0 + 1, i6, s3, s4, s5 => (if (sby 3 i6) = (nI 32) then (if s5 = 0 then t_indexIn_s3_14_ok Rtape Rbytes x2 k0 (i6 + 1) (s3 + nI 1) (Rtape 6) (nI 1) else (if s4 = x2 then True else t_indexIn_s3_14_ok Rtape Rbytes x2 k0 (i6 + 1) (s3 + nI 1) (Rtape 6) (nI 1))) else (if s5 = 0 then t_indexIn_s3_14_ok Rtape Rbytes x2 k0 (i6 + 1) s3 (s4 + nI 1) (nI 0) else (if x2 ≤ s4 then t_indexIn_s3_14_ok Rtape Rbytes x2 k0 (i6 + 1) s3 (s4 + nI 1) (nI 0) else ((isN s4) ∧ (ix s4 < 600) ∧ (if (Rbytes (ix s4)) = (sby 3 i6) then t_indexIn_s3_14_ok Rtape Rbytes x2 k0 (i6 + 1) s3 (s4 + nI 1) (nI 1) else t_indexIn_s3_14_ok Rtape Rbytes x2 k0 (i6 + 1) s3 (s4 + nI 1) (nI 0))))))
set_option maxHeartbeats 4000000 in
set_option maxRecDepth 3000 in
theorem lp_t_indexIn_s3_1_14 (z : Zp) (d : Nat) (M : Mem) (Q : Rs → Prop) (nn : Nat) (x2 : Int32) (hnn : nn = 31) : ∀ (k0 : Nat) (i6 : Nat) (s3 : Int32) (s4 : Int32) (s5 : Int32), i6 + k0 = nn → t_indexIn_s3_14_ok (M.1 1) (M.1 2) x2 k0 i6 s3 s4 s5 → (match t_indexIn_s3_14 (M.1 1) (M.1 2) x2 k0 i6 s3 s4 s5 with | .inl v' => Q (.inl (some (.int v'), M)) | .inr (s3', s4', s5') => G z mX6_indexIn (d + 4) 0 0 105 [none, none, some (.int x2), some (.int (s3')), some (.int (s4')), some (.int (s5')), none, none] [] M Q) → G z mX6_indexIn (d + 4) 0 0 14 [some (.ref 1), some (.ref 1003), some (.int x2), some (.int s3), some (.int s4), some (.int s5), some (.int (nI i6)), none] [] M Q := by
  intro k0
  induction k0 with
  | zero =>
      intro i6 s3 s4 s5 hn hk hX
      refine G.sl [(.iload 6, 2, 6, 0, 0, 0), (.aload_n 1, 1, 1, 0, 0, 0)] [] (pc2 := 17) (ls2 := [some (.ref 1), some (.ref 1003), some (.int x2), some (.int s3), some (.int s4), some (.int s5), some (.int (nI i6)), none]) (st2 := [.ref 1003, .int (nI i6)]) (M2 := M) (Ps := []) (by decide +kernel) rfl rfl trivial ?_
      have t13 : GM z mJ0_length_8abf5 (d + 3) [.ref 1003] M (fun rs => rs = .inl (some (.int (nI 31)), M)) := c_slen z _ _ 3 (by decide)
      refine G.callT (as := []) (rest := [.int (nI i6)]) (i := 3) oJ0_length_8abf5 lk_EvenFinders_Tape_63 (by decide +kernel) rfl (by decide) rfl (Nat.le_of_ble_eq_true rfl) rfl ⟨Nat.le_of_ble_eq_true rfl, Nat.le_of_ble_eq_true rfl⟩ t13 (fun v9 N9 h14 => ?_) (fun E9 N9 h14 => by cases h14)
      cases h14
      show G z mX6_indexIn (d + 4) 0 0 20 [some (.ref 1), some (.ref 1003), some (.int x2), some (.int s3), some (.int s4), some (.int s5), some (.int (nI i6)), none] [.int (nI 31), .int (nI i6)] M Q
      refine G.ic_ge (off := (85)) (tgt := 105) (by decide +kernel) rfl (fun _ => ?_) (fun h9 => absurd (nI_le (by omega) (by omega)) h9)
      refine G.loc (ls2 := [none, none, some (.int x2), some (.int s3), some (.int s4), some (.int s5), none, none]) (by simp [subL]) ?_
      simp only [t_indexIn_s3_14] at hX
      exact hX
  | succ k0 ih =>
      intro i6 s3 s4 s5 hn hk hX
      simp only [t_indexIn_s3_14_ok] at hk
      refine G.sl [(.iload 6, 2, 6, 0, 0, 0), (.aload_n 1, 1, 1, 0, 0, 0)] [] (pc2 := 17) (ls2 := [some (.ref 1), some (.ref 1003), some (.int x2), some (.int s3), some (.int s4), some (.int s5), some (.int (nI i6)), none]) (st2 := [.ref 1003, .int (nI i6)]) (M2 := M) (Ps := []) (by decide +kernel) rfl rfl trivial ?_
      have t1 : GM z mJ0_length_8abf5 (d + 3) [.ref 1003] M (fun rs => rs = .inl (some (.int (nI 31)), M)) := c_slen z _ _ 3 (by decide)
      refine G.callT (as := []) (rest := [.int (nI i6)]) (i := 3) oJ0_length_8abf5 lk_EvenFinders_Tape_63 (by decide +kernel) rfl (by decide) rfl (Nat.le_of_ble_eq_true rfl) rfl ⟨Nat.le_of_ble_eq_true rfl, Nat.le_of_ble_eq_true rfl⟩ t1 (fun v9 N9 h2 => ?_) (fun E9 N9 h2 => by cases h2)
      cases h2
      show G z mX6_indexIn (d + 4) 0 0 20 [some (.ref 1), some (.ref 1003), some (.int x2), some (.int s3), some (.int s4), some (.int s5), some (.int (nI i6)), none] [.int (nI 31), .int (nI i6)] M Q
      refine G.ic_ge (off := (85)) (tgt := 105) (by decide +kernel) rfl (fun h9 => absurd h9 (nI_ge (by omega) (by omega))) (fun _ => ?_)
      refine G.sl [(.aload_n 1, 1, 1, 0, 0, 0), (.iload 6, 2, 6, 0, 0, 0)] [] (pc2 := 26) (ls2 := [some (.ref 1), some (.ref 1003), some (.int x2), some (.int s3), some (.int s4), some (.int s5), some (.int (nI i6)), none]) (st2 := [.int (nI i6), .ref 1003]) (M2 := M) (Ps := []) (by decide +kernel) rfl rfl trivial ?_
      have t3 : GM z mJ0_charAt_5068e (d + 3) [.ref 1003, .int (nI i6)] M (fun rs => rs = .inl (some (.int (sby 3 i6)), M)) := c_charAt z _ _ 3 i6 (by decide) (show i6 < 31 from (by omega))
      refine G.callT (as := [.int (nI i6)]) (rest := []) (i := 3) oJ0_charAt_5068e lk_EvenFinders_Tape_67 (by decide +kernel) rfl (by decide) rfl (Nat.le_of_ble_eq_true rfl) rfl ⟨Nat.le_of_ble_eq_true rfl, Nat.le_of_ble_eq_true rfl⟩ t3 (fun v9 N9 h4 => ?_) (fun E9 N9 h4 => by cases h4)
      cases h4
      show G z mX6_indexIn (d + 4) 0 0 29 [some (.ref 1), some (.ref 1003), some (.int x2), some (.int s3), some (.int s4), some (.int s5), some (.int (nI i6)), none] [.int (sby 3 i6)] M Q
      refine G.sl [(.istore 7, 2, 7, 0, 0, 0), (.iload 7, 2, 7, 0, 0, 0), (.bipush 32, 2, 0, 0, 0, nI 32)] [] (pc2 := 35) (ls2 := [some (.ref 1), some (.ref 1003), some (.int x2), some (.int s3), some (.int s4), some (.int s5), some (.int (nI i6)), some (.int (sby 3 i6))]) (st2 := [.int (nI 32), .int (sby 3 i6)]) (M2 := M) (Ps := []) (by decide +kernel) rfl rfl trivial ?_
      refine G.ic_eq (off := (39)) (tgt := 74) (by decide +kernel) rfl (fun c5 => ?_) (fun c5 => ?_)
      · skip
        rw [if_pos c5] at hk
        refine G.sl [(.iload 5, 2, 5, 0, 0, 0)] [] (pc2 := 76) (ls2 := [some (.ref 1), some (.ref 1003), some (.int x2), some (.int s3), some (.int s4), some (.int s5), some (.int (nI i6)), some (.int (sby 3 i6))]) (st2 := [.int s5]) (M2 := M) (Ps := []) (by decide +kernel) rfl rfl trivial ?_
        refine G.if_eq (off := (11)) (tgt := 87) (by decide +kernel) rfl (fun c6 => ?_) (fun c6 => ?_)
        · skip
          rw [if_pos c6] at hk
          refine G.sl [(.iinc 3 1, 3, 3, 0, 0, nI 1), (.aload_n 0, 1, 0, 0, 0, 0), (.getfield 34, 3, 5, 6, 13, 0), (.istore 4, 2, 4, 0, 0, 0), (.iconst 1, 1, 0, 0, 0, nI 1), (.istore 5, 2, 5, 0, 0, 0), (.iinc 6 1, 3, 6, 0, 0, nI 1), (.goto (-88), 3, 14, 0, 0, 0)] [] (pc2 := 14) (ls2 := [some (.ref 1), some (.ref 1003), some (.int x2), some (.int (s3 + nI 1)), some (.int (M.1 1 6)), some (.int (nI 1)), some (.int ((nI i6) + nI 1)), some (.int (sby 3 i6))]) (st2 := []) (M2 := M) (Ps := []) (by decide +kernel) rfl rfl trivial ?_
          refine G.loc (ls2 := [some (.ref 1), some (.ref 1003), some (.int x2), some (.int (s3 + nI 1)), some (.int (M.1 1 6)), some (.int (nI 1)), some (.int ((nI i6) + nI 1)), none]) (by simp [subL]) ?_
          rw [nI_add i6 1]
          simp only [t_indexIn_s3_14, if_pos c5, if_pos c6] at hX
          exact ih (i6 + 1) (s3 + nI 1) (M.1 1 6) (nI 1) (by omega) hk hX
        · skip
          rw [if_neg c6] at hk
          refine G.sl [(.iload 4, 2, 4, 0, 0, 0), (.iload_n 2, 1, 2, 0, 0, 0)] [] (pc2 := 82) (ls2 := [some (.ref 1), some (.ref 1003), some (.int x2), some (.int s3), some (.int s4), some (.int s5), some (.int (nI i6)), some (.int (sby 3 i6))]) (st2 := [.int x2, .int s4]) (M2 := M) (Ps := []) (by decide +kernel) rfl rfl trivial ?_
          refine G.ic_ne (off := (5)) (tgt := 87) (by decide +kernel) rfl (fun c7 => ?_) (fun c7 => ?_)
          · skip
            rw [if_neg c7] at hk
            refine G.sl [(.iinc 3 1, 3, 3, 0, 0, nI 1), (.aload_n 0, 1, 0, 0, 0, 0), (.getfield 34, 3, 5, 6, 13, 0), (.istore 4, 2, 4, 0, 0, 0), (.iconst 1, 1, 0, 0, 0, nI 1), (.istore 5, 2, 5, 0, 0, 0), (.iinc 6 1, 3, 6, 0, 0, nI 1), (.goto (-88), 3, 14, 0, 0, 0)] [] (pc2 := 14) (ls2 := [some (.ref 1), some (.ref 1003), some (.int x2), some (.int (s3 + nI 1)), some (.int (M.1 1 6)), some (.int (nI 1)), some (.int ((nI i6) + nI 1)), some (.int (sby 3 i6))]) (st2 := []) (M2 := M) (Ps := []) (by decide +kernel) rfl rfl trivial ?_
            refine G.loc (ls2 := [some (.ref 1), some (.ref 1003), some (.int x2), some (.int (s3 + nI 1)), some (.int (M.1 1 6)), some (.int (nI 1)), some (.int ((nI i6) + nI 1)), none]) (by simp [subL]) ?_
            rw [nI_add i6 1]
            simp only [t_indexIn_s3_14, if_pos c5, if_neg c6, if_neg c7] at hX
            exact ih (i6 + 1) (s3 + nI 1) (M.1 1 6) (nI 1) (by omega) hk hX
          · skip
            rw [if_pos c7] at hk
            refine G.sl [(.iload_n 3, 1, 3, 0, 0, 0)] [] (pc2 := 86) (ls2 := [some (.ref 1), some (.ref 1003), some (.int x2), some (.int s3), some (.int s4), some (.int s5), some (.int (nI i6)), some (.int (sby 3 i6))]) (st2 := [.int s3]) (M2 := M) (Ps := []) (by decide +kernel) rfl rfl trivial ?_
            exact G.reti (by decide +kernel) rfl rfl (Nat.le_of_ble_eq_true rfl) (Nat.le_of_ble_eq_true rfl) ((by simp only [t_indexIn_s3_14, if_pos c5, if_neg c6, if_pos c7] at hX; exact hX))
      · skip
        rw [if_neg c5] at hk
        refine G.sl [(.iload 5, 2, 5, 0, 0, 0)] [] (pc2 := 40) (ls2 := [some (.ref 1), some (.ref 1003), some (.int x2), some (.int s3), some (.int s4), some (.int s5), some (.int (nI i6)), some (.int (sby 3 i6))]) (st2 := [.int s5]) (M2 := M) (Ps := []) (by decide +kernel) rfl rfl trivial ?_
        refine G.if_eq (off := (25)) (tgt := 65) (by decide +kernel) rfl (fun c8 => ?_) (fun c8 => ?_)
        · skip
          rw [if_pos c8] at hk
          refine G.sl [(.iconst 0, 1, 0, 0, 0, nI 0), (.istore 5, 2, 5, 0, 0, 0), (.iinc 4 1, 3, 4, 0, 0, nI 1), (.goto 28, 3, 99, 0, 0, 0), (.iinc 6 1, 3, 6, 0, 0, nI 1), (.goto (-88), 3, 14, 0, 0, 0)] [] (pc2 := 14) (ls2 := [some (.ref 1), some (.ref 1003), some (.int x2), some (.int s3), some (.int (s4 + nI 1)), some (.int (nI 0)), some (.int ((nI i6) + nI 1)), some (.int (sby 3 i6))]) (st2 := []) (M2 := M) (Ps := []) (by decide +kernel) rfl rfl trivial ?_
          refine G.loc (ls2 := [some (.ref 1), some (.ref 1003), some (.int x2), some (.int s3), some (.int (s4 + nI 1)), some (.int (nI 0)), some (.int ((nI i6) + nI 1)), none]) (by simp [subL]) ?_
          rw [nI_add i6 1]
          simp only [t_indexIn_s3_14, if_neg c5, if_pos c8] at hX
          exact ih (i6 + 1) s3 (s4 + nI 1) (nI 0) (by omega) hk hX
        · skip
          rw [if_neg c8] at hk
          refine G.sl [(.iload 4, 2, 4, 0, 0, 0), (.iload_n 2, 1, 2, 0, 0, 0)] [] (pc2 := 46) (ls2 := [some (.ref 1), some (.ref 1003), some (.int x2), some (.int s3), some (.int s4), some (.int s5), some (.int (nI i6)), some (.int (sby 3 i6))]) (st2 := [.int x2, .int s4]) (M2 := M) (Ps := []) (by decide +kernel) rfl rfl trivial ?_
          refine G.ic_ge (off := (19)) (tgt := 65) (by decide +kernel) rfl (fun c9 => ?_) (fun c9 => ?_)
          · skip
            rw [if_pos c9] at hk
            refine G.sl [(.iconst 0, 1, 0, 0, 0, nI 0), (.istore 5, 2, 5, 0, 0, 0), (.iinc 4 1, 3, 4, 0, 0, nI 1), (.goto 28, 3, 99, 0, 0, 0), (.iinc 6 1, 3, 6, 0, 0, nI 1), (.goto (-88), 3, 14, 0, 0, 0)] [] (pc2 := 14) (ls2 := [some (.ref 1), some (.ref 1003), some (.int x2), some (.int s3), some (.int (s4 + nI 1)), some (.int (nI 0)), some (.int ((nI i6) + nI 1)), some (.int (sby 3 i6))]) (st2 := []) (M2 := M) (Ps := []) (by decide +kernel) rfl rfl trivial ?_
            refine G.loc (ls2 := [some (.ref 1), some (.ref 1003), some (.int x2), some (.int s3), some (.int (s4 + nI 1)), some (.int (nI 0)), some (.int ((nI i6) + nI 1)), none]) (by simp [subL]) ?_
            rw [nI_add i6 1]
            simp only [t_indexIn_s3_14, if_neg c5, if_neg c8, if_pos c9] at hX
            exact ih (i6 + 1) s3 (s4 + nI 1) (nI 0) (by omega) hk hX
          · skip
            rw [if_neg c9] at hk
            obtain ⟨k10, k11, hk⟩ := hk
            refine G.sl [(.aload_n 0, 1, 0, 0, 0, 0), (.getfield 9, 3, 5, 0, 0, 0), (.iload 4, 2, 4, 0, 0, 0), (.iaload, 1, 0, 0, 0, 0), (.iload 7, 2, 7, 0, 0, 0)] [ix s4] (pc2 := 58) (ls2 := [some (.ref 1), some (.ref 1003), some (.int x2), some (.int s3), some (.int s4), some (.int s5), some (.int (nI i6)), some (.int (sby 3 i6))]) (st2 := [.int (sby 3 i6), .int (M.1 2 (ix s4))]) (M2 := M) (Ps := [s4 = nI (ix s4) ∧ (ix s4) < 600]) (by decide +kernel) rfl rfl ⟨⟨(ixE k10), k11⟩, trivial⟩ ?_
            refine G.ic_ne (off := (7)) (tgt := 65) (by decide +kernel) rfl (fun c12 => ?_) (fun c12 => ?_)
            · skip
              rw [if_neg c12] at hk
              refine G.sl [(.iconst 0, 1, 0, 0, 0, nI 0), (.istore 5, 2, 5, 0, 0, 0), (.iinc 4 1, 3, 4, 0, 0, nI 1), (.goto 28, 3, 99, 0, 0, 0), (.iinc 6 1, 3, 6, 0, 0, nI 1), (.goto (-88), 3, 14, 0, 0, 0)] [] (pc2 := 14) (ls2 := [some (.ref 1), some (.ref 1003), some (.int x2), some (.int s3), some (.int (s4 + nI 1)), some (.int (nI 0)), some (.int ((nI i6) + nI 1)), some (.int (sby 3 i6))]) (st2 := []) (M2 := M) (Ps := []) (by decide +kernel) rfl rfl trivial ?_
              refine G.loc (ls2 := [some (.ref 1), some (.ref 1003), some (.int x2), some (.int s3), some (.int (s4 + nI 1)), some (.int (nI 0)), some (.int ((nI i6) + nI 1)), none]) (by simp [subL]) ?_
              rw [nI_add i6 1]
              simp only [t_indexIn_s3_14, if_neg c5, if_neg c8, if_neg c9, if_neg c12] at hX
              exact ih (i6 + 1) s3 (s4 + nI 1) (nI 0) (by omega) hk hX
            · skip
              rw [if_pos c12] at hk
              refine G.sl [(.iconst 1, 1, 0, 0, 0, nI 1), (.goto 4, 3, 66, 0, 0, 0), (.istore 5, 2, 5, 0, 0, 0), (.iinc 4 1, 3, 4, 0, 0, nI 1), (.goto 28, 3, 99, 0, 0, 0), (.iinc 6 1, 3, 6, 0, 0, nI 1), (.goto (-88), 3, 14, 0, 0, 0)] [] (pc2 := 14) (ls2 := [some (.ref 1), some (.ref 1003), some (.int x2), some (.int s3), some (.int (s4 + nI 1)), some (.int (nI 1)), some (.int ((nI i6) + nI 1)), some (.int (sby 3 i6))]) (st2 := []) (M2 := M) (Ps := []) (by decide +kernel) rfl rfl trivial ?_
              refine G.loc (ls2 := [some (.ref 1), some (.ref 1003), some (.int x2), some (.int s3), some (.int (s4 + nI 1)), some (.int (nI 1)), some (.int ((nI i6) + nI 1)), none]) (by simp [subL]) ?_
              rw [nI_add i6 1]
              simp only [t_indexIn_s3_14, if_neg c5, if_neg c8, if_neg c9, if_pos c12] at hX
              exact ih (i6 + 1) s3 (s4 + nI 1) (nI 1) (by omega) hk hX
noncomputable def t_indexIn_s3 (Rtape Rbytes : Nat → Int32) (x2 : Int32) : Int32 := (match t_indexIn_s3_14 (Rtape) (Rbytes) x2 (cN 31) 0 (nI 0) (Rtape 6) (nI 1) with | .inl v20 => v20 | .inr (v17, v18, v19) => (if v19 = 0 then (-1) else (if v18 = x2 then v17 else (-1))))
noncomputable def t_indexIn_s3_ok (Rtape Rbytes : Nat → Int32) (x2 : Int32) : Prop := (t_indexIn_s3_14_ok (Rtape) (Rbytes) x2 (cN 31) 0 (nI 0) (Rtape 6) (nI 1) ∧ (match t_indexIn_s3_14 (Rtape) (Rbytes) x2 (cN 31) 0 (nI 0) (Rtape 6) (nI 1) with | .inl v20 => True | .inr (v17, v18, v19) => True))
set_option maxHeartbeats 4000000 in
set_option maxRecDepth 3000 in
theorem c_t_indexIn_s3_1 (z : Zp) (d : Nat) (M : Mem) (x2 : Int32) (hk : t_indexIn_s3_ok (M.1 1) (M.1 2) x2) : GM z mX6_indexIn (d + 4) [.ref 1, .ref 1003, .int x2] M (fun rs => rs = .inl (some (.int (t_indexIn_s3 (M.1 1) (M.1 2) x2)), M)) := by
  simp only [t_indexIn_s3_ok] at hk
  refine GM.of oX6_indexIn.1 (Nat.le_of_ble_eq_true rfl) ?_
  show G z mX6_indexIn (d + 4) 0 0 0 [some (.ref 1), some (.ref 1003), some (.int x2), none, none, none, none, none] [] M _
  obtain ⟨Q, hQ⟩ : ∃ Q : Rs → Prop, Q = (fun rs => rs = .inl (some (.int (t_indexIn_s3 (M.1 1) (M.1 2) x2)), M)) := ⟨_, rfl⟩
  rw [← hQ]
  refine G.sl [(.iconst 0, 1, 0, 0, 0, nI 0), (.istore_n 3, 1, 3, 0, 0, 0), (.aload_n 0, 1, 0, 0, 0, 0), (.getfield 34, 3, 5, 6, 13, 0), (.istore 4, 2, 4, 0, 0, 0), (.iconst 1, 1, 0, 0, 0, nI 1), (.istore 5, 2, 5, 0, 0, 0), (.iconst 0, 1, 0, 0, 0, nI 0), (.istore 6, 2, 6, 0, 0, 0)] [] (pc2 := 14) (ls2 := [some (.ref 1), some (.ref 1003), some (.int x2), some (.int (nI 0)), some (.int (M.1 1 6)), some (.int (nI 1)), some (.int (nI 0)), none]) (st2 := []) (M2 := M) (Ps := []) (by decide +kernel) rfl rfl trivial ?_
  obtain ⟨k15, hk⟩ := hk
  refine lp_t_indexIn_s3_1_14 z d M Q (cN 31) x2 (cN_eq 31) (cN 31) 0 (nI 0) (M.1 1 6) (nI 1) (Nat.zero_add _) (by first | (simp only [mput, mrow_same, mrow_hit, mrow_miss, mrow_sw, idr_eq, ne_eq, Nat.reduceEqDiff, not_false_eq_true, Nat.reduceLT, reduceCtorEq]; exact k15) | exact k15) ?_
  try simp only [mput, mrow_same, mrow_hit, mrow_miss, mrow_sw, idr_eq, ne_eq, Nat.reduceEqDiff, not_false_eq_true, Nat.reduceLT, reduceCtorEq]
  rcases g16 : t_indexIn_s3_14 (M.1 1) (M.1 2) x2 (cN 31) 0 (nI 0) (M.1 1 6) (nI 1) with v20 | ⟨v17, v18, v19⟩
  · skip
    show Q (.inl (some (.int v20), M))
    rw [hQ]
    simp only [t_indexIn_s3, g16, mrow_self]
  · skip
    show G z mX6_indexIn (d + 4) 0 0 105 [none, none, some (.int x2), some (.int v17), some (.int v18), some (.int v19), none, none] [] M Q
    refine G.sl [(.iload 5, 2, 5, 0, 0, 0)] [] (pc2 := 107) (ls2 := [none, none, some (.int x2), some (.int v17), some (.int v18), some (.int v19), none, none]) (st2 := [.int v19]) (M2 := M) (Ps := []) (by decide +kernel) rfl rfl trivial ?_
    refine G.if_eq (off := (13)) (tgt := 120) (by decide +kernel) rfl (fun c21 => ?_) (fun c21 => ?_)
    · skip
      refine G.sl [(.iconst (-1), 1, 0, 0, 0, (-1))] [] (pc2 := 121) (ls2 := [none, none, some (.int x2), some (.int v17), some (.int v18), some (.int v19), none, none]) (st2 := [.int ((-1))]) (M2 := M) (Ps := []) (by decide +kernel) rfl rfl trivial ?_
      exact G.reti (by decide +kernel) rfl rfl (Nat.le_of_ble_eq_true rfl) (Nat.le_of_ble_eq_true rfl) ((by rw [hQ]; simp only [t_indexIn_s3, g16, if_pos c21, mrow_self]))
    · skip
      refine G.sl [(.iload 4, 2, 4, 0, 0, 0), (.iload_n 2, 1, 2, 0, 0, 0)] [] (pc2 := 113) (ls2 := [none, none, some (.int x2), some (.int v17), some (.int v18), some (.int v19), none, none]) (st2 := [.int x2, .int v18]) (M2 := M) (Ps := []) (by decide +kernel) rfl rfl trivial ?_
      refine G.ic_ne (off := (7)) (tgt := 120) (by decide +kernel) rfl (fun c22 => ?_) (fun c22 => ?_)
      · skip
        refine G.sl [(.iconst (-1), 1, 0, 0, 0, (-1))] [] (pc2 := 121) (ls2 := [none, none, some (.int x2), some (.int v17), some (.int v18), some (.int v19), none, none]) (st2 := [.int ((-1))]) (M2 := M) (Ps := []) (by decide +kernel) rfl rfl trivial ?_
        exact G.reti (by decide +kernel) rfl rfl (Nat.le_of_ble_eq_true rfl) (Nat.le_of_ble_eq_true rfl) ((by rw [hQ]; simp only [t_indexIn_s3, g16, if_neg c21, if_neg c22, mrow_self]))
      · skip
        refine G.sl [(.iload_n 3, 1, 3, 0, 0, 0), (.goto 4, 3, 121, 0, 0, 0)] [] (pc2 := 121) (ls2 := [none, none, some (.int x2), some (.int v17), some (.int v18), some (.int v19), none, none]) (st2 := [.int v17]) (M2 := M) (Ps := []) (by decide +kernel) rfl rfl trivial ?_
        exact G.reti (by decide +kernel) rfl rfl (Nat.le_of_ble_eq_true rfl) (Nat.le_of_ble_eq_true rfl) ((by rw [hQ]; simp only [t_indexIn_s3, g16, if_neg c21, if_pos c22, mrow_self]))
noncomputable def t_word_s3 (Rtape Rbytes : Nat → Int32) : Int32 × (Nat → Int32) := (match t_next (Rtape) (Rbytes) with | (v3, r4) => (if (r4 2) = 0 then (if (t_indexIn_s3 r4 (Rbytes) (t_word_s3_19 r4 (Rbytes) FU (r4 6))) = ((-1)) then (match t_fail r4 (nI 1) (r4 4) with | (u20, r21) => (t_indexIn_s3 r4 (Rbytes) (t_word_s3_19 r4 (Rbytes) FU (r4 6)), r21)) else (t_indexIn_s3 r4 (Rbytes) (t_word_s3_19 r4 (Rbytes) FU (r4 6)), upd r4 6 (t_word_s3_19 r4 (Rbytes) FU (r4 6)))) else ((-1), r4)))
noncomputable def t_word_s3_ok (Rtape Rbytes : Nat → Int32) : Prop := (t_next_ok (Rtape) (Rbytes) ∧ (match t_next (Rtape) (Rbytes) with | (v3, r4) => (if (r4 2) = 0 then (t_word_s3_19_ok r4 (Rbytes) FU (r4 6) ∧ (t_indexIn_s3_ok r4 (Rbytes) (t_word_s3_19 r4 (Rbytes) FU (r4 6)) ∧ True)) else True)))
set_option maxHeartbeats 4000000 in
set_option maxRecDepth 3000 in
theorem c_t_word_s3_1 (z : Zp) (d : Nat) (M : Mem) (hk : t_word_s3_ok (M.1 1) (M.1 2)) : GM z mX6_word (d + 5) [.ref 1, .ref 1003] M (fun rs => rs = .inl (some (.int ((t_word_s3 (M.1 1) (M.1 2)).1)), mrow M 1 ((t_word_s3 (M.1 1) (M.1 2)).2))) := by
  simp only [t_word_s3_ok] at hk
  refine GM.of oX6_word.1 (Nat.le_of_ble_eq_true rfl) ?_
  show G z mX6_word (d + 5) 0 0 0 [some (.ref 1), some (.ref 1003), none, none] [] M _
  obtain ⟨Q, hQ⟩ : ∃ Q : Rs → Prop, Q = (fun rs => rs = .inl (some (.int ((t_word_s3 (M.1 1) (M.1 2)).1)), mrow M 1 ((t_word_s3 (M.1 1) (M.1 2)).2))) := ⟨_, rfl⟩
  rw [← hQ]
  refine G.sl [(.aload_n 0, 1, 0, 0, 0, 0)] [] (pc2 := 1) (ls2 := [some (.ref 1), some (.ref 1003), none, none]) (st2 := [.ref 1]) (M2 := M) (Ps := []) (by decide +kernel) rfl rfl trivial ?_
  obtain ⟨k1, hk⟩ := hk
  rcases g2 : t_next (M.1 1) (M.1 2) with ⟨v3, r4⟩
  try simp only [g2] at hk
  have t5 : GM z mX6_next (d + 4) [.ref 1] M (fun rs => rs = .inl (some (.int v3), mrow M 1 r4)) := by
    have q9 := c_t_next_1 z (d + 4) M k1
    try simp only [mput, mrow_same, mrow_hit, mrow_miss, mrow_sw, idr_eq, ne_eq, Nat.reduceEqDiff, not_false_eq_true, Nat.reduceLT, reduceCtorEq, g2] at q9
    exact q9
  refine G.callV (as := []) (rest := []) (a := 1) oX6_next lk_EvenFinders_Tape_43 (by decide +kernel) rfl rfl ⟨rfl, rfl⟩ (Nat.le_of_ble_eq_true rfl) rfl ⟨Nat.le_of_ble_eq_true rfl, Nat.le_of_ble_eq_true rfl⟩ t5 (fun v9 N9 h6 => ?_) (fun E9 N9 h6 => by cases h6)
  cases h6
  show G z mX6_word (d + 5) 0 0 4 [some (.ref 1), some (.ref 1003), none, none] [.int v3] (mrow M 1 r4) Q
  refine G.sl [(.pop, 1, 0, 0, 0, 0), (.aload_n 0, 1, 0, 0, 0, 0), (.getfield 37, 3, 5, 2, 3, 0)] [] (pc2 := 9) (ls2 := [some (.ref 1), some (.ref 1003), none, none]) (st2 := [.int (r4 2)]) (M2 := mrow M 1 r4) (Ps := []) (by decide +kernel) rfl rfl trivial ?_
  refine G.if_eq (off := (5)) (tgt := 14) (by decide +kernel) rfl (fun c7 => ?_) (fun c7 => ?_)
  · skip
    rw [if_pos c7] at hk
    refine G.sl [(.aload_n 0, 1, 0, 0, 0, 0), (.getfield 34, 3, 5, 6, 13, 0), (.istore_n 2, 1, 2, 0, 0, 0)] [] (pc2 := 19) (ls2 := [some (.ref 1), some (.ref 1003), some (.int (r4 6)), none]) (st2 := []) (M2 := mrow M 1 r4) (Ps := []) (by decide +kernel) rfl rfl trivial ?_
    obtain ⟨k13, hk⟩ := hk
    refine lp_t_word_s3_1_19 z d (mrow M 1 r4) Q FU (r4 6) (by first | (simp only [mput, mrow_same, mrow_hit, mrow_miss, mrow_sw, idr_eq, ne_eq, Nat.reduceEqDiff, not_false_eq_true, Nat.reduceLT, reduceCtorEq]; exact k13) | exact k13) ?_
    try simp only [mput, mrow_same, mrow_hit, mrow_miss, mrow_sw, idr_eq, ne_eq, Nat.reduceEqDiff, not_false_eq_true, Nat.reduceLT, reduceCtorEq]
    show G z mX6_word (d + 5) 0 0 55 [some (.ref 1), some (.ref 1003), some (.int (t_word_s3_19 r4 (M.1 2) FU (r4 6))), none] [] (mrow M 1 r4) Q
    refine G.sl [(.aload_n 0, 1, 0, 0, 0, 0), (.aload_n 1, 1, 1, 0, 0, 0), (.iload_n 2, 1, 2, 0, 0, 0)] [] (pc2 := 58) (ls2 := [some (.ref 1), some (.ref 1003), some (.int (t_word_s3_19 r4 (M.1 2) FU (r4 6))), none]) (st2 := [.int (t_word_s3_19 r4 (M.1 2) FU (r4 6)), .ref 1003, .ref 1]) (M2 := mrow M 1 r4) (Ps := []) (by decide +kernel) rfl rfl trivial ?_
    obtain ⟨k14, hk⟩ := hk
    have t15 : GM z mX6_indexIn (d + 4) [.ref 1, .ref 1003, .int (t_word_s3_19 r4 (M.1 2) FU (r4 6))] (mrow M 1 r4) (fun rs => rs = .inl (some (.int (t_indexIn_s3 r4 (M.1 2) (t_word_s3_19 r4 (M.1 2) FU (r4 6)))), mrow M 1 r4)) := by
      have q9 := c_t_indexIn_s3_1 z d (mrow M 1 r4) (t_word_s3_19 r4 (M.1 2) FU (r4 6)) k14
      try simp only [mput, mrow_same, mrow_hit, mrow_miss, mrow_sw, idr_eq, ne_eq, Nat.reduceEqDiff, not_false_eq_true, Nat.reduceLT, reduceCtorEq] at q9
      exact q9
    refine G.callV (as := [.ref 1003, .int (t_word_s3_19 r4 (M.1 2) FU (r4 6))]) (rest := []) (a := 1) oX6_indexIn lk_EvenFinders_Tape_59 (by decide +kernel) rfl rfl ⟨rfl, rfl⟩ (Nat.le_of_ble_eq_true rfl) rfl ⟨Nat.le_of_ble_eq_true rfl, Nat.le_of_ble_eq_true rfl⟩ t15 (fun v9 N9 h16 => ?_) (fun E9 N9 h16 => by cases h16)
    cases h16
    show G z mX6_word (d + 5) 0 0 61 [some (.ref 1), some (.ref 1003), some (.int (t_word_s3_19 r4 (M.1 2) FU (r4 6))), none] [.int (t_indexIn_s3 r4 (M.1 2) (t_word_s3_19 r4 (M.1 2) FU (r4 6)))] (mrow M 1 r4) Q
    refine G.sl [(.istore_n 3, 1, 3, 0, 0, 0), (.iload_n 3, 1, 3, 0, 0, 0), (.iconst (-1), 1, 0, 0, 0, (-1))] [] (pc2 := 64) (ls2 := [some (.ref 1), some (.ref 1003), some (.int (t_word_s3_19 r4 (M.1 2) FU (r4 6))), some (.int (t_indexIn_s3 r4 (M.1 2) (t_word_s3_19 r4 (M.1 2) FU (r4 6))))]) (st2 := [.int ((-1)), .int (t_indexIn_s3 r4 (M.1 2) (t_word_s3_19 r4 (M.1 2) FU (r4 6)))]) (M2 := mrow M 1 r4) (Ps := []) (by decide +kernel) rfl rfl trivial ?_
    refine G.ic_ne (off := (15)) (tgt := 79) (by decide +kernel) rfl (fun c17 => ?_) (fun c17 => ?_)
    · skip
      refine G.sl [(.aload_n 0, 1, 0, 0, 0, 0), (.iload_n 2, 1, 2, 0, 0, 0), (.putfield 34, 3, 5, 6, 13, 0), (.iload_n 3, 1, 3, 0, 0, 0)] [] (pc2 := 85) (ls2 := [some (.ref 1), some (.ref 1003), some (.int (t_word_s3_19 r4 (M.1 2) FU (r4 6))), some (.int (t_indexIn_s3 r4 (M.1 2) (t_word_s3_19 r4 (M.1 2) FU (r4 6))))]) (st2 := [.int (t_indexIn_s3 r4 (M.1 2) (t_word_s3_19 r4 (M.1 2) FU (r4 6)))]) (M2 := mput (mrow M 1 r4) 1 6 (t_word_s3_19 r4 (M.1 2) FU (r4 6))) (Ps := []) (by decide +kernel) rfl rfl trivial ?_
      refine G.mem (M' := mrow M 1 (upd r4 6 (t_word_s3_19 r4 (M.1 2) FU (r4 6)))) (by first | rfl | (simp only [mput, mrow_same, mrow_hit, mrow_miss, mrow_sw, idr_eq, ne_eq, Nat.reduceEqDiff, not_false_eq_true, Nat.reduceLT, reduceCtorEq]; done)) ?_
      exact G.reti (by decide +kernel) rfl rfl (Nat.le_of_ble_eq_true rfl) (Nat.le_of_ble_eq_true rfl) ((by rw [hQ]; simp only [t_word_s3, g2, if_pos c7, if_neg c17, mrow_self]))
    · skip
      refine G.sl [(.aload_n 0, 1, 0, 0, 0, 0), (.iconst 1, 1, 0, 0, 0, nI 1), (.aload_n 0, 1, 0, 0, 0, 0), (.getfield 40, 3, 5, 4, 7, 0)] [] (pc2 := 73) (ls2 := [some (.ref 1), some (.ref 1003), some (.int (t_word_s3_19 r4 (M.1 2) FU (r4 6))), some (.int (t_indexIn_s3 r4 (M.1 2) (t_word_s3_19 r4 (M.1 2) FU (r4 6))))]) (st2 := [.int (r4 4), .int (nI 1), .ref 1]) (M2 := mrow M 1 r4) (Ps := []) (by decide +kernel) rfl rfl trivial ?_
      rcases g19 : t_fail r4 (nI 1) (r4 4) with ⟨u20, r21⟩
      have t22 : GM z mX6_fail (d + 4) [.ref 1, .int (nI 1), .int (r4 4)] (mrow M 1 r4) (fun rs => rs = .inl (none, mrow M 1 r21)) := by
        have q9 := c_t_fail_1 z (d + 4) (mrow M 1 r4) (nI 1) (r4 4)
        try simp only [mput, mrow_same, mrow_hit, mrow_miss, mrow_sw, idr_eq, ne_eq, Nat.reduceEqDiff, not_false_eq_true, Nat.reduceLT, reduceCtorEq, g19] at q9
        exact q9
      refine G.callV (as := [.int (nI 1), .int (r4 4)]) (rest := []) (a := 1) oX6_fail lk_EvenFinders_Tape_51 (by decide +kernel) rfl rfl ⟨rfl, rfl⟩ (Nat.le_of_ble_eq_true rfl) rfl ⟨Nat.le_of_ble_eq_true rfl, Nat.le_of_ble_eq_true rfl⟩ t22 (fun v9 N9 h23 => ?_) (fun E9 N9 h23 => by cases h23)
      cases h23
      show G z mX6_word (d + 5) 0 0 76 [some (.ref 1), some (.ref 1003), some (.int (t_word_s3_19 r4 (M.1 2) FU (r4 6))), some (.int (t_indexIn_s3 r4 (M.1 2) (t_word_s3_19 r4 (M.1 2) FU (r4 6))))] [] (mrow M 1 r21) Q
      refine G.sl [(.goto 8, 3, 84, 0, 0, 0), (.iload_n 3, 1, 3, 0, 0, 0)] [] (pc2 := 85) (ls2 := [some (.ref 1), some (.ref 1003), some (.int (t_word_s3_19 r4 (M.1 2) FU (r4 6))), some (.int (t_indexIn_s3 r4 (M.1 2) (t_word_s3_19 r4 (M.1 2) FU (r4 6))))]) (st2 := [.int (t_indexIn_s3 r4 (M.1 2) (t_word_s3_19 r4 (M.1 2) FU (r4 6)))]) (M2 := mrow M 1 r21) (Ps := []) (by decide +kernel) rfl rfl trivial ?_
      exact G.reti (by decide +kernel) rfl rfl (Nat.le_of_ble_eq_true rfl) (Nat.le_of_ble_eq_true rfl) ((by rw [hQ]; simp only [t_word_s3, g2, if_pos c7, if_pos c17, g19, mrow_self]))
  · skip
    rw [if_neg c7] at hk
    refine G.sl [(.iconst (-1), 1, 0, 0, 0, (-1))] [] (pc2 := 13) (ls2 := [some (.ref 1), some (.ref 1003), none, none]) (st2 := [.int ((-1))]) (M2 := mrow M 1 r4) (Ps := []) (by decide +kernel) rfl rfl trivial ?_
    exact G.reti (by decide +kernel) rfl rfl (Nat.le_of_ble_eq_true rfl) (Nat.le_of_ble_eq_true rfl) ((by rw [hQ]; simp only [t_word_s3, g2, if_neg c7, mrow_self]))
noncomputable def x_readAgain_43 (fz : (Nat → Int32) → (Nat → Int32) → (Nat → Int32) → (Nat → Int32) → (Nat → Int32) → (Nat → Int32) → Int32 → Int32 × (Nat → Int32) × (Nat → Int32) × (Nat → Int32) × (Nat → Int32) × (Nat → Int32)) (gz : (Nat → Int32) → (Nat → Int32) → (Nat → Int32) → (Nat → Int32) → (Nat → Int32) → (Nat → Int32) → Int32 → Prop) (Rbytes : Nat → Int32) (x2 : Int32) (x3 : Int32) : Nat → Nat → (Nat → Int32) → (Nat → Int32) → (Nat → Int32) → (Nat → Int32) → (Nat → Int32) → (Nat → Int32) × (Nat → Int32) × (Nat → Int32) × (Nat → Int32) × (Nat → Int32)
  | 0, _, q1, q33, q34, q35, q36 => (q1, q33, q34, q35, q36)
  | k0 + 1, i4, q1, q33, q34, q35, q36 => (match t_next q1 (Rbytes) with | (v25, r26) => (if v25 = ((-1)) then (r26, q33, q34, q35, q36) else (match t_next r26 (Rbytes) with | (v32, r33) => (if v32 = (nI 93) then (r33, q33, q34, q35, q36) else (match fz r33 (Rbytes) q33 q34 q35 q36 (x2 + (nI 1)) with | (u39, r40, r41, r42, r43, r44) => x_readAgain_43 fz gz Rbytes x2 x3 k0 (i4 + 1) r40 r41 r42 r43 r44)))))
noncomputable def x_readAgain_43_ok (fz : (Nat → Int32) → (Nat → Int32) → (Nat → Int32) → (Nat → Int32) → (Nat → Int32) → (Nat → Int32) → Int32 → Int32 × (Nat → Int32) × (Nat → Int32) × (Nat → Int32) × (Nat → Int32) × (Nat → Int32)) (gz : (Nat → Int32) → (Nat → Int32) → (Nat → Int32) → (Nat → Int32) → (Nat → Int32) → (Nat → Int32) → Int32 → Prop) (Rbytes : Nat → Int32) (x2 : Int32) (x3 : Int32) : Nat → Nat → (Nat → Int32) → (Nat → Int32) → (Nat → Int32) → (Nat → Int32) → (Nat → Int32) → Prop
  | 0, _, _, _, _, _, _ => True
  | k0 + 1, i4, q1, q33, q34, q35, q36 => (t_next_ok q1 (Rbytes) ∧ (match t_next q1 (Rbytes) with | (v25, r26) => (if v25 = ((-1)) then True else (t_next_ok r26 (Rbytes) ∧ (match t_next r26 (Rbytes) with | (v32, r33) => (if v32 = (nI 93) then True else (gz r33 (Rbytes) q33 q34 q35 q36 (x2 + (nI 1)) ∧ (match fz r33 (Rbytes) q33 q34 q35 q36 (x2 + (nI 1)) with | (u39, r40, r41, r42, r43, r44) => x_readAgain_43_ok fz gz Rbytes x2 x3 k0 (i4 + 1) r40 r41 r42 r43 r44))))))))
set_option maxHeartbeats 4000000 in
set_option maxRecDepth 3000 in
theorem lp_x_readAgain_33_1_43 (z : Zp) (d : Nat) (M : Mem) (Q : Rs → Prop) (nn : Nat) (x2 : Int32) (x3 : Int32) (nr : Nat) (hnr : nr ≤ 12) (hr : M.1 3 1 = nI nr) (nt : Nat) (hnt : nt ≤ 10) (ht : M.1 3 2 = nI nt) (nf : Nat) (hnf : nf ≤ 6) (hf : M.1 3 3 = nI nf) (fz : (Nat → Int32) → (Nat → Int32) → (Nat → Int32) → (Nat → Int32) → (Nat → Int32) → (Nat → Int32) → Int32 → Int32 × (Nat → Int32) × (Nat → Int32) × (Nat → Int32) × (Nat → Int32) × (Nat → Int32)) (gz : (Nat → Int32) → (Nat → Int32) → (Nat → Int32) → (Nat → Int32) → (Nat → Int32) → (Nat → Int32) → Int32 → Prop) (Hz : ∀ (j : Nat) (M : Mem) (x2 : Int32), M.1 3 1 = nI nr → M.1 3 2 = nI nt → M.1 3 3 = nI nf → gz (M.1 1) (M.1 2) (M.1 33) (M.1 34) (M.1 35) (M.1 36) x2 → GM z mX9_readStep (d + j) [.ref 33, .ref 1, .int x2] M (fun rs => rs = .inl (none, mrow (mrow (mrow (mrow (mrow M 1 ((fz (M.1 1) (M.1 2) (M.1 33) (M.1 34) (M.1 35) (M.1 36) x2).2.1)) 33 ((fz (M.1 1) (M.1 2) (M.1 33) (M.1 34) (M.1 35) (M.1 36) x2).2.2.1)) 34 ((fz (M.1 1) (M.1 2) (M.1 33) (M.1 34) (M.1 35) (M.1 36) x2).2.2.2.1)) 35 ((fz (M.1 1) (M.1 2) (M.1 33) (M.1 34) (M.1 35) (M.1 36) x2).2.2.2.2.1)) 36 ((fz (M.1 1) (M.1 2) (M.1 33) (M.1 34) (M.1 35) (M.1 36) x2).2.2.2.2.2)))) (hnn : nn = 150) : ∀ (k0 : Nat) (i4 : Nat) (q1 : (Nat → Int32)) (q33 : (Nat → Int32)) (q34 : (Nat → Int32)) (q35 : (Nat → Int32)) (q36 : (Nat → Int32)), i4 + k0 = nn → x_readAgain_43_ok fz gz (M.1 2) x2 x3 k0 i4 q1 q33 q34 q35 q36 → (match x_readAgain_43 fz gz (M.1 2) x2 x3 k0 i4 q1 q33 q34 q35 q36 with | (q1', q33', q34', q35', q36') => G z mX9_readAgain (d + 3) 0 0 82 [some (.ref 33), some (.ref 1), none, some (.int x3), none] [] (mrow (mrow (mrow (mrow (mrow M 1 (q1')) 33 (q33')) 34 (q34')) 35 (q35')) 36 (q36')) Q) → G z mX9_readAgain (d + 3) 0 0 43 [some (.ref 33), some (.ref 1), some (.int x2), some (.int x3), some (.int (nI i4))] [] (mrow (mrow (mrow (mrow (mrow M 1 q1) 33 q33) 34 q34) 35 q35) 36 q36) Q := by
  intro k0
  induction k0 with
  | zero =>
      intro i4 q1 q33 q34 q35 q36 hn hk hX
      refine G.sl [(.iload 4, 2, 4, 0, 0, 0), (.sipush 150, 3, 0, 0, 0, nI 150)] [] (pc2 := 48) (ls2 := [some (.ref 33), some (.ref 1), some (.int x2), some (.int x3), some (.int (nI i4))]) (st2 := [.int (nI 150), .int (nI i4)]) (M2 := mrow (mrow (mrow (mrow (mrow M 1 q1) 33 q33) 34 q34) 35 q35) 36 q36) (Ps := []) (by decide +kernel) rfl rfl trivial ?_
      refine G.ic_ge (off := (34)) (tgt := 82) (by decide +kernel) rfl (fun _ => ?_) (fun h9 => absurd (nI_le (by omega) (by omega)) h9)
      refine G.loc (ls2 := [some (.ref 33), some (.ref 1), none, some (.int x3), none]) (by simp [subL]) ?_
      simp only [x_readAgain_43] at hX
      exact hX
  | succ k0 ih =>
      intro i4 q1 q33 q34 q35 q36 hn hk hX
      simp only [x_readAgain_43_ok] at hk
      refine G.sl [(.iload 4, 2, 4, 0, 0, 0), (.sipush 150, 3, 0, 0, 0, nI 150)] [] (pc2 := 48) (ls2 := [some (.ref 33), some (.ref 1), some (.int x2), some (.int x3), some (.int (nI i4))]) (st2 := [.int (nI 150), .int (nI i4)]) (M2 := mrow (mrow (mrow (mrow (mrow M 1 q1) 33 q33) 34 q34) 35 q35) 36 q36) (Ps := []) (by decide +kernel) rfl rfl trivial ?_
      refine G.ic_ge (off := (34)) (tgt := 82) (by decide +kernel) rfl (fun h9 => absurd h9 (nI_ge (by omega) (by omega))) (fun _ => ?_)
      refine G.sl [(.aload_n 1, 1, 1, 0, 0, 0)] [] (pc2 := 52) (ls2 := [some (.ref 33), some (.ref 1), some (.int x2), some (.int x3), some (.int (nI i4))]) (st2 := [.ref 1]) (M2 := mrow (mrow (mrow (mrow (mrow M 1 q1) 33 q33) 34 q34) 35 q35) 36 q36) (Ps := []) (by decide +kernel) rfl rfl trivial ?_
      obtain ⟨k23, hk⟩ := hk
      rcases g24 : t_next q1 (M.1 2) with ⟨v25, r26⟩
      try simp only [g24] at hk
      have t27 : GM z mX6_next (d + 2) [.ref 1] (mrow (mrow (mrow (mrow (mrow M 1 q1) 33 q33) 34 q34) 35 q35) 36 q36) (fun rs => rs = .inl (some (.int v25), mrow (mrow (mrow (mrow (mrow M 1 r26) 33 q33) 34 q34) 35 q35) 36 q36)) := by
        have q9 := c_t_next_1 z (d + 2) (mrow (mrow (mrow (mrow (mrow M 1 q1) 33 q33) 34 q34) 35 q35) 36 q36) k23
        try simp only [mput, mrow_same, mrow_hit, mrow_miss, mrow_sw, idr_eq, ne_eq, Nat.reduceEqDiff, not_false_eq_true, Nat.reduceLT, reduceCtorEq, g24] at q9
        exact q9
      refine G.callV (as := []) (rest := []) (a := 1) oX6_next lk_EvenFinders_Work_29 (by decide +kernel) rfl rfl ⟨rfl, rfl⟩ (Nat.le_of_ble_eq_true rfl) rfl ⟨Nat.le_of_ble_eq_true rfl, Nat.le_of_ble_eq_true rfl⟩ t27 (fun v9 N9 h28 => ?_) (fun E9 N9 h28 => by cases h28)
      cases h28
      show G z mX9_readAgain (d + 3) 0 0 55 [some (.ref 33), some (.ref 1), some (.int x2), some (.int x3), some (.int (nI i4))] [.int v25] (mrow (mrow (mrow (mrow (mrow M 1 r26) 33 q33) 34 q34) 35 q35) 36 q36) Q
      refine G.sl [(.iconst (-1), 1, 0, 0, 0, (-1))] [] (pc2 := 56) (ls2 := [some (.ref 33), some (.ref 1), some (.int x2), some (.int x3), some (.int (nI i4))]) (st2 := [.int ((-1)), .int v25]) (M2 := mrow (mrow (mrow (mrow (mrow M 1 r26) 33 q33) 34 q34) 35 q35) 36 q36) (Ps := []) (by decide +kernel) rfl rfl trivial ?_
      refine G.ic_eq (off := (26)) (tgt := 82) (by decide +kernel) rfl (fun c29 => ?_) (fun c29 => ?_)
      · skip
        rw [if_pos c29] at hk
        refine G.loc (ls2 := [some (.ref 33), some (.ref 1), none, some (.int x3), none]) (by simp [subL]) ?_
        simp only [x_readAgain_43, g24, if_pos c29] at hX
        exact hX
      · skip
        rw [if_neg c29] at hk
        refine G.sl [(.aload_n 1, 1, 1, 0, 0, 0)] [] (pc2 := 60) (ls2 := [some (.ref 33), some (.ref 1), some (.int x2), some (.int x3), some (.int (nI i4))]) (st2 := [.ref 1]) (M2 := mrow (mrow (mrow (mrow (mrow M 1 r26) 33 q33) 34 q34) 35 q35) 36 q36) (Ps := []) (by decide +kernel) rfl rfl trivial ?_
        obtain ⟨k30, hk⟩ := hk
        rcases g31 : t_next r26 (M.1 2) with ⟨v32, r33⟩
        try simp only [g31] at hk
        have t34 : GM z mX6_next (d + 2) [.ref 1] (mrow (mrow (mrow (mrow (mrow M 1 r26) 33 q33) 34 q34) 35 q35) 36 q36) (fun rs => rs = .inl (some (.int v32), mrow (mrow (mrow (mrow (mrow M 1 r33) 33 q33) 34 q34) 35 q35) 36 q36)) := by
          have q9 := c_t_next_1 z (d + 2) (mrow (mrow (mrow (mrow (mrow M 1 r26) 33 q33) 34 q34) 35 q35) 36 q36) k30
          try simp only [mput, mrow_same, mrow_hit, mrow_miss, mrow_sw, idr_eq, ne_eq, Nat.reduceEqDiff, not_false_eq_true, Nat.reduceLT, reduceCtorEq, g31] at q9
          exact q9
        refine G.callV (as := []) (rest := []) (a := 1) oX6_next lk_EvenFinders_Work_29 (by decide +kernel) rfl rfl ⟨rfl, rfl⟩ (Nat.le_of_ble_eq_true rfl) rfl ⟨Nat.le_of_ble_eq_true rfl, Nat.le_of_ble_eq_true rfl⟩ t34 (fun v9 N9 h35 => ?_) (fun E9 N9 h35 => by cases h35)
        cases h35
        show G z mX9_readAgain (d + 3) 0 0 63 [some (.ref 33), some (.ref 1), some (.int x2), some (.int x3), some (.int (nI i4))] [.int v32] (mrow (mrow (mrow (mrow (mrow M 1 r33) 33 q33) 34 q34) 35 q35) 36 q36) Q
        refine G.sl [(.bipush 93, 2, 0, 0, 0, nI 93)] [] (pc2 := 65) (ls2 := [some (.ref 33), some (.ref 1), some (.int x2), some (.int x3), some (.int (nI i4))]) (st2 := [.int (nI 93), .int v32]) (M2 := mrow (mrow (mrow (mrow (mrow M 1 r33) 33 q33) 34 q34) 35 q35) 36 q36) (Ps := []) (by decide +kernel) rfl rfl trivial ?_
        refine G.ic_eq (off := (17)) (tgt := 82) (by decide +kernel) rfl (fun c36 => ?_) (fun c36 => ?_)
        · skip
          rw [if_pos c36] at hk
          refine G.loc (ls2 := [some (.ref 33), some (.ref 1), none, some (.int x3), none]) (by simp [subL]) ?_
          simp only [x_readAgain_43, g24, if_neg c29, g31, if_pos c36] at hX
          exact hX
        · skip
          rw [if_neg c36] at hk
          refine G.sl [(.aload_n 0, 1, 0, 0, 0, 0), (.aload_n 1, 1, 1, 0, 0, 0), (.iload_n 2, 1, 2, 0, 0, 0), (.iconst 1, 1, 0, 0, 0, nI 1), (.iadd, 1, 0, 0, 0, 0)] [] (pc2 := 73) (ls2 := [some (.ref 33), some (.ref 1), some (.int x2), some (.int x3), some (.int (nI i4))]) (st2 := [.int (x2 + (nI 1)), .ref 1, .ref 33]) (M2 := mrow (mrow (mrow (mrow (mrow M 1 r33) 33 q33) 34 q34) 35 q35) 36 q36) (Ps := []) (by decide +kernel) rfl rfl trivial ?_
          obtain ⟨k37, hk⟩ := hk
          rcases g38 : fz r33 (M.1 2) q33 q34 q35 q36 (x2 + (nI 1)) with ⟨u39, r40, r41, r42, r43, r44⟩
          try simp only [g38] at hk
          have t45 : GM z mX9_readStep (d + 2) [.ref 33, .ref 1, .int (x2 + (nI 1))] (mrow (mrow (mrow (mrow (mrow M 1 r33) 33 q33) 34 q34) 35 q35) 36 q36) (fun rs => rs = .inl (none, mrow (mrow (mrow (mrow (mrow M 1 r40) 33 r41) 34 r42) 35 r43) 36 r44)) := by
            have q9 := Hz 2 (mrow (mrow (mrow (mrow (mrow M 1 r33) 33 q33) 34 q34) 35 q35) 36 q36) (x2 + (nI 1)) hr ht hf
            try simp only [mput, mrow_same, mrow_hit, mrow_miss, mrow_sw, idr_eq, ne_eq, Nat.reduceEqDiff, not_false_eq_true, Nat.reduceLT, reduceCtorEq, g38] at q9
            exact q9 (by first | exact k37 | (simp only [mput, mrow_same, mrow_hit, mrow_miss, mrow_sw, idr_eq, ne_eq, Nat.reduceEqDiff, not_false_eq_true, Nat.reduceLT, reduceCtorEq]; exact k37))
          refine G.callV (as := [.ref 1, .int (x2 + (nI 1))]) (rest := []) (a := 33) oX9_readStep lk_EvenFinders_Work_35 (by decide +kernel) rfl rfl ⟨rfl, rfl⟩ (Nat.le_of_ble_eq_true rfl) rfl ⟨Nat.le_of_ble_eq_true rfl, Nat.le_of_ble_eq_true rfl⟩ t45 (fun v9 N9 h46 => ?_) (fun E9 N9 h46 => by cases h46)
          cases h46
          show G z mX9_readAgain (d + 3) 0 0 76 [some (.ref 33), some (.ref 1), some (.int x2), some (.int x3), some (.int (nI i4))] [] (mrow (mrow (mrow (mrow (mrow M 1 r40) 33 r41) 34 r42) 35 r43) 36 r44) Q
          refine G.sl [(.iinc 4 1, 3, 4, 0, 0, nI 1), (.goto (-36), 3, 43, 0, 0, 0)] [] (pc2 := 43) (ls2 := [some (.ref 33), some (.ref 1), some (.int x2), some (.int x3), some (.int ((nI i4) + nI 1))]) (st2 := []) (M2 := mrow (mrow (mrow (mrow (mrow M 1 r40) 33 r41) 34 r42) 35 r43) 36 r44) (Ps := []) (by decide +kernel) rfl rfl trivial ?_
          rw [nI_add i4 1]
          simp only [x_readAgain_43, g24, if_neg c29, g31, if_neg c36, g38] at hX
          exact ih (i4 + 1) r40 r41 r42 r43 r44 (by omega) hk hX
noncomputable def x_readAgain (fz : (Nat → Int32) → (Nat → Int32) → (Nat → Int32) → (Nat → Int32) → (Nat → Int32) → (Nat → Int32) → Int32 → Int32 × (Nat → Int32) × (Nat → Int32) × (Nat → Int32) × (Nat → Int32) × (Nat → Int32)) (Rtape Rbytes Rwork Rkind Rfirst Rsecond : Nat → Int32) (x2 : Int32) : Int32 × (Nat → Int32) × (Nat → Int32) × (Nat → Int32) × (Nat → Int32) × (Nat → Int32) := (if x2 < (nI 6) then (match t_number (Rtape) (Rbytes) (nI 0) (nI 30) with | (v4, r5) => (match x_put (Rwork) (Rkind) (Rfirst) (Rsecond) (nI 5) v4 (nI 0) with | (u10, r11, r12, r13, r14) => (match t_needSign r5 (Rbytes) (nI 91) with | (u19, r20) => (match x_readAgain_43 fz gz (Rbytes) x2 (Rwork 3) (cN 150) 0 r20 r11 r12 r13 r14 with | (r49, r50, r51, r52, r53) => (match t_needSign r49 (Rbytes) (nI 93) with | (u56, r57) => (if (nI 150) ≤ (Rwork 3) then (0, r57, r50, r51, r52, r53) else (0, r57, r50, r51, r52, upd r53 (ix (Rwork 3)) (r50 3)))))))) else (match t_fail (Rtape) (nI 3) (Rtape 4) with | (u65, r66) => (0, r66, Rwork, Rkind, Rfirst, Rsecond)))
noncomputable def x_readAgain_ok (fz : (Nat → Int32) → (Nat → Int32) → (Nat → Int32) → (Nat → Int32) → (Nat → Int32) → (Nat → Int32) → Int32 → Int32 × (Nat → Int32) × (Nat → Int32) × (Nat → Int32) × (Nat → Int32) × (Nat → Int32)) (gz : (Nat → Int32) → (Nat → Int32) → (Nat → Int32) → (Nat → Int32) → (Nat → Int32) → (Nat → Int32) → Int32 → Prop) (Rtape Rbytes Rwork Rkind Rfirst Rsecond : Nat → Int32) (x2 : Int32) : Prop := (if x2 < (nI 6) then (t_number_ok (Rtape) (Rbytes) (nI 0) (nI 30) ∧ (match t_number (Rtape) (Rbytes) (nI 0) (nI 30) with | (v4, r5) => (x_put_ok (Rwork) (Rkind) (Rfirst) (Rsecond) (nI 5) v4 (nI 0) ∧ (match x_put (Rwork) (Rkind) (Rfirst) (Rsecond) (nI 5) v4 (nI 0) with | (u10, r11, r12, r13, r14) => (t_needSign_ok r5 (Rbytes) (nI 91) ∧ (match t_needSign r5 (Rbytes) (nI 91) with | (u19, r20) => (x_readAgain_43_ok fz gz (Rbytes) x2 (Rwork 3) (cN 150) 0 r20 r11 r12 r13 r14 ∧ (match x_readAgain_43 fz gz (Rbytes) x2 (Rwork 3) (cN 150) 0 r20 r11 r12 r13 r14 with | (r49, r50, r51, r52, r53) => (t_needSign_ok r49 (Rbytes) (nI 93) ∧ (match t_needSign r49 (Rbytes) (nI 93) with | (u56, r57) => (if (nI 150) ≤ (Rwork 3) then True else ((isN (Rwork 3)) ∧ (ix (Rwork 3) < 150) ∧ True)))))))))))) else True)
set_option maxHeartbeats 4000000 in
set_option maxRecDepth 3000 in
theorem c_x_readAgain_33_1 (z : Zp) (d : Nat) (M : Mem) (x2 : Int32) (nr : Nat) (hnr : nr ≤ 12) (hr : M.1 3 1 = nI nr) (nt : Nat) (hnt : nt ≤ 10) (ht : M.1 3 2 = nI nt) (nf : Nat) (hnf : nf ≤ 6) (hf : M.1 3 3 = nI nf) (fz : (Nat → Int32) → (Nat → Int32) → (Nat → Int32) → (Nat → Int32) → (Nat → Int32) → (Nat → Int32) → Int32 → Int32 × (Nat → Int32) × (Nat → Int32) × (Nat → Int32) × (Nat → Int32) × (Nat → Int32)) (gz : (Nat → Int32) → (Nat → Int32) → (Nat → Int32) → (Nat → Int32) → (Nat → Int32) → (Nat → Int32) → Int32 → Prop) (Hz : ∀ (j : Nat) (M : Mem) (x2 : Int32), M.1 3 1 = nI nr → M.1 3 2 = nI nt → M.1 3 3 = nI nf → gz (M.1 1) (M.1 2) (M.1 33) (M.1 34) (M.1 35) (M.1 36) x2 → GM z mX9_readStep (d + j) [.ref 33, .ref 1, .int x2] M (fun rs => rs = .inl (none, mrow (mrow (mrow (mrow (mrow M 1 ((fz (M.1 1) (M.1 2) (M.1 33) (M.1 34) (M.1 35) (M.1 36) x2).2.1)) 33 ((fz (M.1 1) (M.1 2) (M.1 33) (M.1 34) (M.1 35) (M.1 36) x2).2.2.1)) 34 ((fz (M.1 1) (M.1 2) (M.1 33) (M.1 34) (M.1 35) (M.1 36) x2).2.2.2.1)) 35 ((fz (M.1 1) (M.1 2) (M.1 33) (M.1 34) (M.1 35) (M.1 36) x2).2.2.2.2.1)) 36 ((fz (M.1 1) (M.1 2) (M.1 33) (M.1 34) (M.1 35) (M.1 36) x2).2.2.2.2.2)))) (hk : x_readAgain_ok fz gz (M.1 1) (M.1 2) (M.1 33) (M.1 34) (M.1 35) (M.1 36) x2) : GM z mX9_readAgain (d + 3) [.ref 33, .ref 1, .int x2] M (fun rs => rs = .inl (none, mrow (mrow (mrow (mrow (mrow M 1 ((x_readAgain fz (M.1 1) (M.1 2) (M.1 33) (M.1 34) (M.1 35) (M.1 36) x2).2.1)) 33 ((x_readAgain fz (M.1 1) (M.1 2) (M.1 33) (M.1 34) (M.1 35) (M.1 36) x2).2.2.1)) 34 ((x_readAgain fz (M.1 1) (M.1 2) (M.1 33) (M.1 34) (M.1 35) (M.1 36) x2).2.2.2.1)) 35 ((x_readAgain fz (M.1 1) (M.1 2) (M.1 33) (M.1 34) (M.1 35) (M.1 36) x2).2.2.2.2.1)) 36 ((x_readAgain fz (M.1 1) (M.1 2) (M.1 33) (M.1 34) (M.1 35) (M.1 36) x2).2.2.2.2.2))) := by
  simp only [x_readAgain_ok] at hk
  refine GM.of oX9_readAgain.1 (Nat.le_of_ble_eq_true rfl) ?_
  show G z mX9_readAgain (d + 3) 0 0 0 [some (.ref 33), some (.ref 1), some (.int x2), none, none] [] M _
  obtain ⟨Q, hQ⟩ : ∃ Q : Rs → Prop, Q = (fun rs => rs = .inl (none, mrow (mrow (mrow (mrow (mrow M 1 ((x_readAgain fz (M.1 1) (M.1 2) (M.1 33) (M.1 34) (M.1 35) (M.1 36) x2).2.1)) 33 ((x_readAgain fz (M.1 1) (M.1 2) (M.1 33) (M.1 34) (M.1 35) (M.1 36) x2).2.2.1)) 34 ((x_readAgain fz (M.1 1) (M.1 2) (M.1 33) (M.1 34) (M.1 35) (M.1 36) x2).2.2.2.1)) 35 ((x_readAgain fz (M.1 1) (M.1 2) (M.1 33) (M.1 34) (M.1 35) (M.1 36) x2).2.2.2.2.1)) 36 ((x_readAgain fz (M.1 1) (M.1 2) (M.1 33) (M.1 34) (M.1 35) (M.1 36) x2).2.2.2.2.2))) := ⟨_, rfl⟩
  rw [← hQ]
  refine G.sl [(.iload_n 2, 1, 2, 0, 0, 0), (.bipush 6, 2, 0, 0, 0, nI 6)] [] (pc2 := 3) (ls2 := [some (.ref 33), some (.ref 1), some (.int x2), none, none]) (st2 := [.int (nI 6), .int x2]) (M2 := M) (Ps := []) (by decide +kernel) rfl rfl trivial ?_
  refine G.ic_lt (off := (13)) (tgt := 16) (by decide +kernel) rfl (fun c1 => ?_) (fun c1 => ?_)
  · skip
    rw [if_pos c1] at hk
    refine G.sl [(.aload_n 0, 1, 0, 0, 0, 0), (.getfield 25, 3, 8, 3, 68, 0), (.istore_n 3, 1, 3, 0, 0, 0), (.aload_n 0, 1, 0, 0, 0, 0), (.iconst 5, 1, 0, 0, 0, nI 5), (.aload_n 1, 1, 1, 0, 0, 0), (.iconst 0, 1, 0, 0, 0, nI 0), (.bipush 30, 2, 0, 0, 0, nI 30)] [] (pc2 := 27) (ls2 := [some (.ref 33), some (.ref 1), some (.int x2), some (.int (M.1 33 3)), none]) (st2 := [.int (nI 30), .int (nI 0), .ref 1, .int (nI 5), .ref 33]) (M2 := M) (Ps := []) (by decide +kernel) rfl rfl trivial ?_
    obtain ⟨k2, hk⟩ := hk
    rcases g3 : t_number (M.1 1) (M.1 2) (nI 0) (nI 30) with ⟨v4, r5⟩
    try simp only [g3] at hk
    have t6 : GM z mX6_number (d + 2) [.ref 1, .int (nI 0), .int (nI 30)] M (fun rs => rs = .inl (some (.int v4), mrow M 1 r5)) := by
      have q9 := c_t_number_1 z (d + 1) M (nI 0) (nI 30) k2
      try simp only [mput, mrow_same, mrow_hit, mrow_miss, mrow_sw, idr_eq, ne_eq, Nat.reduceEqDiff, not_false_eq_true, Nat.reduceLT, reduceCtorEq, g3] at q9
      exact q9
    refine G.callV (as := [.int (nI 0), .int (nI 30)]) (rest := [.int (nI 5), .ref 33]) (a := 1) oX6_number lk_EvenFinders_Work_57 (by decide +kernel) rfl rfl ⟨rfl, rfl⟩ (Nat.le_of_ble_eq_true rfl) rfl ⟨Nat.le_of_ble_eq_true rfl, Nat.le_of_ble_eq_true rfl⟩ t6 (fun v9 N9 h7 => ?_) (fun E9 N9 h7 => by cases h7)
    cases h7
    show G z mX9_readAgain (d + 3) 0 0 30 [some (.ref 33), some (.ref 1), some (.int x2), some (.int (M.1 33 3)), none] [.int v4, .int (nI 5), .ref 33] (mrow M 1 r5) Q
    refine G.sl [(.iconst 0, 1, 0, 0, 0, nI 0)] [] (pc2 := 31) (ls2 := [some (.ref 33), some (.ref 1), some (.int x2), some (.int (M.1 33 3)), none]) (st2 := [.int (nI 0), .int v4, .int (nI 5), .ref 33]) (M2 := mrow M 1 r5) (Ps := []) (by decide +kernel) rfl rfl trivial ?_
    obtain ⟨k8, hk⟩ := hk
    rcases g9 : x_put (M.1 33) (M.1 34) (M.1 35) (M.1 36) (nI 5) v4 (nI 0) with ⟨u10, r11, r12, r13, r14⟩
    try simp only [g9] at hk
    have t15 : GM z mX9_put (d + 2) [.ref 33, .int (nI 5), .int v4, .int (nI 0)] (mrow M 1 r5) (fun rs => rs = .inl (none, mrow (mrow (mrow (mrow (mrow M 1 r5) 33 r11) 34 r12) 35 r13) 36 r14)) := by
      have q9 := c_x_put_33 z (d + 2) (mrow M 1 r5) (nI 5) v4 (nI 0) k8
      try simp only [mput, mrow_same, mrow_hit, mrow_miss, mrow_sw, idr_eq, ne_eq, Nat.reduceEqDiff, not_false_eq_true, Nat.reduceLT, reduceCtorEq, g9] at q9
      exact q9
    refine G.callV (as := [.int (nI 5), .int v4, .int (nI 0)]) (rest := []) (a := 33) oX9_put lk_EvenFinders_Work_48 (by decide +kernel) rfl rfl ⟨rfl, rfl⟩ (Nat.le_of_ble_eq_true rfl) rfl ⟨Nat.le_of_ble_eq_true rfl, Nat.le_of_ble_eq_true rfl⟩ t15 (fun v9 N9 h16 => ?_) (fun E9 N9 h16 => by cases h16)
    cases h16
    show G z mX9_readAgain (d + 3) 0 0 34 [some (.ref 33), some (.ref 1), some (.int x2), some (.int (M.1 33 3)), none] [] (mrow (mrow (mrow (mrow (mrow M 1 r5) 33 r11) 34 r12) 35 r13) 36 r14) Q
    refine G.sl [(.aload_n 1, 1, 1, 0, 0, 0), (.bipush 91, 2, 0, 0, 0, nI 91)] [] (pc2 := 37) (ls2 := [some (.ref 33), some (.ref 1), some (.int x2), some (.int (M.1 33 3)), none]) (st2 := [.int (nI 91), .ref 1]) (M2 := mrow (mrow (mrow (mrow (mrow M 1 r5) 33 r11) 34 r12) 35 r13) 36 r14) (Ps := []) (by decide +kernel) rfl rfl trivial ?_
    obtain ⟨k17, hk⟩ := hk
    rcases g18 : t_needSign r5 (M.1 2) (nI 91) with ⟨u19, r20⟩
    try simp only [g18] at hk
    have t21 : GM z mX6_needSign (d + 2) [.ref 1, .int (nI 91)] (mrow (mrow (mrow (mrow (mrow M 1 r5) 33 r11) 34 r12) 35 r13) 36 r14) (fun rs => rs = .inl (none, mrow (mrow (mrow (mrow (mrow M 1 r20) 33 r11) 34 r12) 35 r13) 36 r14)) := by
      have q9 := c_t_needSign_1 z d (mrow (mrow (mrow (mrow (mrow M 1 r5) 33 r11) 34 r12) 35 r13) 36 r14) (nI 91) k17
      try simp only [mput, mrow_same, mrow_hit, mrow_miss, mrow_sw, idr_eq, ne_eq, Nat.reduceEqDiff, not_false_eq_true, Nat.reduceLT, reduceCtorEq, g18] at q9
      exact q9
    refine G.callV (as := [.int (nI 91)]) (rest := []) (a := 1) oX6_needSign lk_EvenFinders_Work_67 (by decide +kernel) rfl rfl ⟨rfl, rfl⟩ (Nat.le_of_ble_eq_true rfl) rfl ⟨Nat.le_of_ble_eq_true rfl, Nat.le_of_ble_eq_true rfl⟩ t21 (fun v9 N9 h22 => ?_) (fun E9 N9 h22 => by cases h22)
    cases h22
    show G z mX9_readAgain (d + 3) 0 0 40 [some (.ref 33), some (.ref 1), some (.int x2), some (.int (M.1 33 3)), none] [] (mrow (mrow (mrow (mrow (mrow M 1 r20) 33 r11) 34 r12) 35 r13) 36 r14) Q
    refine G.sl [(.iconst 0, 1, 0, 0, 0, nI 0), (.istore 4, 2, 4, 0, 0, 0)] [] (pc2 := 43) (ls2 := [some (.ref 33), some (.ref 1), some (.int x2), some (.int (M.1 33 3)), some (.int (nI 0))]) (st2 := []) (M2 := mrow (mrow (mrow (mrow (mrow M 1 r20) 33 r11) 34 r12) 35 r13) 36 r14) (Ps := []) (by decide +kernel) rfl rfl trivial ?_
    obtain ⟨k47, hk⟩ := hk
    refine G.mem (M' := mrow (mrow (mrow (mrow (mrow (mrow (mrow (mrow (mrow (mrow M 1 r20) 33 r11) 34 r12) 35 r13) 36 r14) 1 ((mrow (mrow (mrow (mrow (mrow M 1 r20) 33 r11) 34 r12) 35 r13) 36 r14).1 1)) 33 ((mrow (mrow (mrow (mrow (mrow M 1 r20) 33 r11) 34 r12) 35 r13) 36 r14).1 33)) 34 ((mrow (mrow (mrow (mrow (mrow M 1 r20) 33 r11) 34 r12) 35 r13) 36 r14).1 34)) 35 ((mrow (mrow (mrow (mrow (mrow M 1 r20) 33 r11) 34 r12) 35 r13) 36 r14).1 35)) 36 ((mrow (mrow (mrow (mrow (mrow M 1 r20) 33 r11) 34 r12) 35 r13) 36 r14).1 36)) (by simp only [mrow_self]) ?_
    refine lp_x_readAgain_33_1_43 z d (mrow (mrow (mrow (mrow (mrow M 1 r20) 33 r11) 34 r12) 35 r13) 36 r14) Q (cN 150) x2 (M.1 33 3) nr hnr hr nt hnt ht nf hnf hf fz gz Hz (cN_eq 150) (cN 150) 0 ((mrow (mrow (mrow (mrow (mrow M 1 r20) 33 r11) 34 r12) 35 r13) 36 r14).1 1) ((mrow (mrow (mrow (mrow (mrow M 1 r20) 33 r11) 34 r12) 35 r13) 36 r14).1 33) ((mrow (mrow (mrow (mrow (mrow M 1 r20) 33 r11) 34 r12) 35 r13) 36 r14).1 34) ((mrow (mrow (mrow (mrow (mrow M 1 r20) 33 r11) 34 r12) 35 r13) 36 r14).1 35) ((mrow (mrow (mrow (mrow (mrow M 1 r20) 33 r11) 34 r12) 35 r13) 36 r14).1 36) (Nat.zero_add _) (by first | (simp only [mput, mrow_same, mrow_hit, mrow_miss, mrow_sw, idr_eq, ne_eq, Nat.reduceEqDiff, not_false_eq_true, Nat.reduceLT, reduceCtorEq]; exact k47) | exact k47) ?_
    try simp only [mput, mrow_same, mrow_hit, mrow_miss, mrow_sw, idr_eq, ne_eq, Nat.reduceEqDiff, not_false_eq_true, Nat.reduceLT, reduceCtorEq]
    rcases g48 : x_readAgain_43 fz gz (M.1 2) x2 (M.1 33 3) (cN 150) 0 r20 r11 r12 r13 r14 with ⟨r49, r50, r51, r52, r53⟩
    try simp only [g48] at hk
    show G z mX9_readAgain (d + 3) 0 0 82 [some (.ref 33), some (.ref 1), none, some (.int (M.1 33 3)), none] [] (mrow (mrow (mrow (mrow (mrow M 1 r49) 33 r50) 34 r51) 35 r52) 36 r53) Q
    refine G.sl [(.aload_n 1, 1, 1, 0, 0, 0), (.bipush 93, 2, 0, 0, 0, nI 93)] [] (pc2 := 85) (ls2 := [some (.ref 33), some (.ref 1), none, some (.int (M.1 33 3)), none]) (st2 := [.int (nI 93), .ref 1]) (M2 := mrow (mrow (mrow (mrow (mrow M 1 r49) 33 r50) 34 r51) 35 r52) 36 r53) (Ps := []) (by decide +kernel) rfl rfl trivial ?_
    obtain ⟨k54, hk⟩ := hk
    rcases g55 : t_needSign r49 (M.1 2) (nI 93) with ⟨u56, r57⟩
    try simp only [g55] at hk
    have t58 : GM z mX6_needSign (d + 2) [.ref 1, .int (nI 93)] (mrow (mrow (mrow (mrow (mrow M 1 r49) 33 r50) 34 r51) 35 r52) 36 r53) (fun rs => rs = .inl (none, mrow (mrow (mrow (mrow (mrow M 1 r57) 33 r50) 34 r51) 35 r52) 36 r53)) := by
      have q9 := c_t_needSign_1 z d (mrow (mrow (mrow (mrow (mrow M 1 r49) 33 r50) 34 r51) 35 r52) 36 r53) (nI 93) k54
      try simp only [mput, mrow_same, mrow_hit, mrow_miss, mrow_sw, idr_eq, ne_eq, Nat.reduceEqDiff, not_false_eq_true, Nat.reduceLT, reduceCtorEq, g55] at q9
      exact q9
    refine G.callV (as := [.int (nI 93)]) (rest := []) (a := 1) oX6_needSign lk_EvenFinders_Work_67 (by decide +kernel) rfl rfl ⟨rfl, rfl⟩ (Nat.le_of_ble_eq_true rfl) rfl ⟨Nat.le_of_ble_eq_true rfl, Nat.le_of_ble_eq_true rfl⟩ t58 (fun v9 N9 h59 => ?_) (fun E9 N9 h59 => by cases h59)
    cases h59
    show G z mX9_readAgain (d + 3) 0 0 88 [some (.ref 33), some (.ref 1), none, some (.int (M.1 33 3)), none] [] (mrow (mrow (mrow (mrow (mrow M 1 r57) 33 r50) 34 r51) 35 r52) 36 r53) Q
    refine G.sl [(.iload_n 3, 1, 3, 0, 0, 0), (.aload_n 0, 1, 0, 0, 0, 0), (.getfield 18, 3, 8, 7, 72, 0), (.arraylength, 1, 0, 0, 0, 0)] [] (pc2 := 94) (ls2 := [some (.ref 33), some (.ref 1), none, some (.int (M.1 33 3)), none]) (st2 := [.int (nI 150), .int (M.1 33 3)]) (M2 := mrow (mrow (mrow (mrow (mrow M 1 r57) 33 r50) 34 r51) 35 r52) 36 r53) (Ps := []) (by decide +kernel) rfl rfl trivial ?_
    refine G.ic_ge (off := (13)) (tgt := 107) (by decide +kernel) rfl (fun c60 => ?_) (fun c60 => ?_)
    · skip
      rw [if_pos c60] at hk
      exact G.retv (by decide +kernel) rfl (Nat.le_of_ble_eq_true rfl) (Nat.le_of_ble_eq_true rfl) ((by rw [hQ]; simp only [x_readAgain, if_pos c1, g3, g9, g18, g48, g55, if_pos c60, mrow_self]))
    · skip
      rw [if_neg c60] at hk
      obtain ⟨k61, k62, hk⟩ := hk
      refine G.sl [(.aload_n 0, 1, 0, 0, 0, 0), (.getfield 18, 3, 8, 7, 72, 0), (.iload_n 3, 1, 3, 0, 0, 0), (.aload_n 0, 1, 0, 0, 0, 0), (.getfield 25, 3, 8, 3, 68, 0), (.iastore, 1, 0, 0, 0, 0)] [ix (M.1 33 3)] (pc2 := 107) (ls2 := [some (.ref 33), some (.ref 1), none, some (.int (M.1 33 3)), none]) (st2 := []) (M2 := mput (mrow (mrow (mrow (mrow (mrow M 1 r57) 33 r50) 34 r51) 35 r52) 36 r53) 36 (ix (M.1 33 3)) (r50 3)) (Ps := [(M.1 33 3) = nI (ix (M.1 33 3)) ∧ (ix (M.1 33 3)) < 150]) (by decide +kernel) rfl rfl ⟨⟨(ixE k61), k62⟩, trivial⟩ ?_
      refine G.mem (M' := mrow (mrow (mrow (mrow (mrow M 1 r57) 33 r50) 34 r51) 35 r52) 36 (upd r53 (ix (M.1 33 3)) (r50 3))) (by first | rfl | (simp only [mput, mrow_same, mrow_hit, mrow_miss, mrow_sw, idr_eq, ne_eq, Nat.reduceEqDiff, not_false_eq_true, Nat.reduceLT, reduceCtorEq]; done)) ?_
      exact G.retv (by decide +kernel) rfl (Nat.le_of_ble_eq_true rfl) (Nat.le_of_ble_eq_true rfl) ((by rw [hQ]; simp only [x_readAgain, if_pos c1, g3, g9, g18, g48, g55, if_neg c60, mrow_self]))
  · skip
    rw [if_neg c1] at hk
    refine G.sl [(.aload_n 1, 1, 1, 0, 0, 0), (.iconst 3, 1, 0, 0, 0, nI 3), (.aload_n 1, 1, 1, 0, 0, 0), (.getfield 71, 3, 5, 4, 9, 0)] [] (pc2 := 12) (ls2 := [some (.ref 33), some (.ref 1), some (.int x2), none, none]) (st2 := [.int (M.1 1 4), .int (nI 3), .ref 1]) (M2 := M) (Ps := []) (by decide +kernel) rfl rfl trivial ?_
    rcases g64 : t_fail (M.1 1) (nI 3) (M.1 1 4) with ⟨u65, r66⟩
    have t67 : GM z mX6_fail (d + 2) [.ref 1, .int (nI 3), .int (M.1 1 4)] M (fun rs => rs = .inl (none, mrow M 1 r66)) := by
      have q9 := c_t_fail_1 z (d + 2) M (nI 3) (M.1 1 4)
      try simp only [mput, mrow_same, mrow_hit, mrow_miss, mrow_sw, idr_eq, ne_eq, Nat.reduceEqDiff, not_false_eq_true, Nat.reduceLT, reduceCtorEq, g64] at q9
      exact q9
    refine G.callV (as := [.int (nI 3), .int (M.1 1 4)]) (rest := []) (a := 1) oX6_fail lk_EvenFinders_Work_74 (by decide +kernel) rfl rfl ⟨rfl, rfl⟩ (Nat.le_of_ble_eq_true rfl) rfl ⟨Nat.le_of_ble_eq_true rfl, Nat.le_of_ble_eq_true rfl⟩ t67 (fun v9 N9 h68 => ?_) (fun E9 N9 h68 => by cases h68)
    cases h68
    show G z mX9_readAgain (d + 3) 0 0 15 [some (.ref 33), some (.ref 1), some (.int x2), none, none] [] (mrow M 1 r66) Q
    refine G.mem (M' := mrow (mrow (mrow (mrow (mrow M 1 r66) 33 (M.1 33)) 34 (M.1 34)) 35 (M.1 35)) 36 (M.1 36)) ((((((mrow_id (N := mrow M 1 r66) (c := 33) (f := M.1 33) (by first | rfl | (simp only [mput, mrow_same, mrow_hit, mrow_miss, mrow_sw, idr_eq, ne_eq, Nat.reduceEqDiff, not_false_eq_true, Nat.reduceLT, reduceCtorEq]; done))).symm).trans (mrow_id (N := mrow (mrow M 1 r66) 33 (M.1 33)) (c := 34) (f := M.1 34) (by first | rfl | (simp only [mput, mrow_same, mrow_hit, mrow_miss, mrow_sw, idr_eq, ne_eq, Nat.reduceEqDiff, not_false_eq_true, Nat.reduceLT, reduceCtorEq]; done))).symm).trans (mrow_id (N := mrow (mrow (mrow M 1 r66) 33 (M.1 33)) 34 (M.1 34)) (c := 35) (f := M.1 35) (by first | rfl | (simp only [mput, mrow_same, mrow_hit, mrow_miss, mrow_sw, idr_eq, ne_eq, Nat.reduceEqDiff, not_false_eq_true, Nat.reduceLT, reduceCtorEq]; done))).symm).trans (mrow_id (N := mrow (mrow (mrow (mrow M 1 r66) 33 (M.1 33)) 34 (M.1 34)) 35 (M.1 35)) (c := 36) (f := M.1 36) (by first | rfl | (simp only [mput, mrow_same, mrow_hit, mrow_miss, mrow_sw, idr_eq, ne_eq, Nat.reduceEqDiff, not_false_eq_true, Nat.reduceLT, reduceCtorEq]; done))).symm).trans (by first | rfl | (simp only [mput, mrow_same, mrow_hit, mrow_miss, mrow_sw, idr_eq, ne_eq, Nat.reduceEqDiff, not_false_eq_true, Nat.reduceLT, reduceCtorEq]; done))) ?_
    exact G.retv (by decide +kernel) rfl (Nat.le_of_ble_eq_true rfl) (Nat.le_of_ble_eq_true rfl) ((by rw [hQ]; simp only [x_readAgain, if_neg c1, g64, mrow_self]))
noncomputable def x_readStep_st (fz : (Nat → Int32) → (Nat → Int32) → (Nat → Int32) → (Nat → Int32) → (Nat → Int32) → (Nat → Int32) → Int32 → Int32 × (Nat → Int32) × (Nat → Int32) × (Nat → Int32) × (Nat → Int32) × (Nat → Int32)) (Rtape Rbytes Rwork Rkind Rfirst Rsecond : Nat → Int32) (nr nt nf : Nat) (x2 : Int32) : Int32 × (Nat → Int32) × (Nat → Int32) × (Nat → Int32) × (Nat → Int32) × (Nat → Int32) := (match t_word_s3 (Rtape) (Rbytes) with | (v3, r4) => (if v3 = (nI 5) then (match x_readAgain fz r4 (Rbytes) (Rwork) (Rkind) (Rfirst) (Rsecond) x2 with | (u82, r83, r84, r85, r86, r87) => (match t_needSign r83 (Rbytes) (nI 59) with | (u92, r93) => (0, r93, r84, r85, r86, r87))) else (if v3 = (nI 4) then (match x_put (Rwork) (Rkind) (Rfirst) (Rsecond) (nI 4) (nI 0) (nI 0) with | (u67, r68, r69, r70, r71) => (match t_needSign r4 (Rbytes) (nI 59) with | (u76, r77) => (0, r77, r68, r69, r70, r71))) else (if v3 = ((-1)) then (match t_needSign r4 (Rbytes) (nI 59) with | (u12, r13) => (0, r13, Rwork, Rkind, Rfirst, Rsecond)) else (match t_number r4 (Rbytes) (nI 0) ((nI nf) - (nI 1)) with | (v18, r19) => (if v3 = 0 then (match t_number r19 (Rbytes) (nI 0) ((nI nr) - (nI 1)) with | (v46, r47) => (match x_put (Rwork) (Rkind) (Rfirst) (Rsecond) v3 v18 v46 with | (u52, r53, r54, r55, r56) => (match t_needSign r47 (Rbytes) (nI 59) with | (u61, r62) => (0, r62, r53, r54, r55, r56)))) else (match t_number r19 (Rbytes) (nI 0) ((nI nt) - (nI 1)) with | (v25, r26) => (match x_put (Rwork) (Rkind) (Rfirst) (Rsecond) v3 v18 v25 with | (u31, r32, r33, r34, r35) => (match t_needSign r26 (Rbytes) (nI 59) with | (u40, r41) => (0, r41, r32, r33, r34, r35))))))))))
noncomputable def x_readStep_st_ok (fz : (Nat → Int32) → (Nat → Int32) → (Nat → Int32) → (Nat → Int32) → (Nat → Int32) → (Nat → Int32) → Int32 → Int32 × (Nat → Int32) × (Nat → Int32) × (Nat → Int32) × (Nat → Int32) × (Nat → Int32)) (gz : (Nat → Int32) → (Nat → Int32) → (Nat → Int32) → (Nat → Int32) → (Nat → Int32) → (Nat → Int32) → Int32 → Prop) (Rtape Rbytes Rwork Rkind Rfirst Rsecond : Nat → Int32) (nr nt nf : Nat) (x2 : Int32) : Prop := (t_word_s3_ok (Rtape) (Rbytes) ∧ (match t_word_s3 (Rtape) (Rbytes) with | (v3, r4) => (if v3 = (nI 5) then (x_readAgain_ok fz gz r4 (Rbytes) (Rwork) (Rkind) (Rfirst) (Rsecond) x2 ∧ (match x_readAgain fz r4 (Rbytes) (Rwork) (Rkind) (Rfirst) (Rsecond) x2 with | (u82, r83, r84, r85, r86, r87) => (t_needSign_ok r83 (Rbytes) (nI 59) ∧ True))) else (if v3 = (nI 4) then (x_put_ok (Rwork) (Rkind) (Rfirst) (Rsecond) (nI 4) (nI 0) (nI 0) ∧ (match x_put (Rwork) (Rkind) (Rfirst) (Rsecond) (nI 4) (nI 0) (nI 0) with | (u67, r68, r69, r70, r71) => (t_needSign_ok r4 (Rbytes) (nI 59) ∧ True))) else (if v3 = ((-1)) then (t_needSign_ok r4 (Rbytes) (nI 59) ∧ True) else (t_number_ok r4 (Rbytes) (nI 0) ((nI nf) - (nI 1)) ∧ (match t_number r4 (Rbytes) (nI 0) ((nI nf) - (nI 1)) with | (v18, r19) => (if v3 = 0 then (t_number_ok r19 (Rbytes) (nI 0) ((nI nr) - (nI 1)) ∧ (match t_number r19 (Rbytes) (nI 0) ((nI nr) - (nI 1)) with | (v46, r47) => (x_put_ok (Rwork) (Rkind) (Rfirst) (Rsecond) v3 v18 v46 ∧ (match x_put (Rwork) (Rkind) (Rfirst) (Rsecond) v3 v18 v46 with | (u52, r53, r54, r55, r56) => (t_needSign_ok r47 (Rbytes) (nI 59) ∧ True))))) else (t_number_ok r19 (Rbytes) (nI 0) ((nI nt) - (nI 1)) ∧ (match t_number r19 (Rbytes) (nI 0) ((nI nt) - (nI 1)) with | (v25, r26) => (x_put_ok (Rwork) (Rkind) (Rfirst) (Rsecond) v3 v18 v25 ∧ (match x_put (Rwork) (Rkind) (Rfirst) (Rsecond) v3 v18 v25 with | (u31, r32, r33, r34, r35) => (t_needSign_ok r26 (Rbytes) (nI 59) ∧ True)))))))))))))
set_option maxHeartbeats 4000000 in
set_option maxRecDepth 3000 in
theorem c_x_readStep_33_1_st (z : Zp) (d : Nat) (M : Mem) (x2 : Int32) (nr : Nat) (hnr : nr ≤ 12) (hr : M.1 3 1 = nI nr) (nt : Nat) (hnt : nt ≤ 10) (ht : M.1 3 2 = nI nt) (nf : Nat) (hnf : nf ≤ 6) (hf : M.1 3 3 = nI nf) (fz : (Nat → Int32) → (Nat → Int32) → (Nat → Int32) → (Nat → Int32) → (Nat → Int32) → (Nat → Int32) → Int32 → Int32 × (Nat → Int32) × (Nat → Int32) × (Nat → Int32) × (Nat → Int32) × (Nat → Int32)) (gz : (Nat → Int32) → (Nat → Int32) → (Nat → Int32) → (Nat → Int32) → (Nat → Int32) → (Nat → Int32) → Int32 → Prop) (Hz : ∀ (j : Nat) (M : Mem) (x2 : Int32), M.1 3 1 = nI nr → M.1 3 2 = nI nt → M.1 3 3 = nI nf → gz (M.1 1) (M.1 2) (M.1 33) (M.1 34) (M.1 35) (M.1 36) x2 → GM z mX9_readStep (d + j) [.ref 33, .ref 1, .int x2] M (fun rs => rs = .inl (none, mrow (mrow (mrow (mrow (mrow M 1 ((fz (M.1 1) (M.1 2) (M.1 33) (M.1 34) (M.1 35) (M.1 36) x2).2.1)) 33 ((fz (M.1 1) (M.1 2) (M.1 33) (M.1 34) (M.1 35) (M.1 36) x2).2.2.1)) 34 ((fz (M.1 1) (M.1 2) (M.1 33) (M.1 34) (M.1 35) (M.1 36) x2).2.2.2.1)) 35 ((fz (M.1 1) (M.1 2) (M.1 33) (M.1 34) (M.1 35) (M.1 36) x2).2.2.2.2.1)) 36 ((fz (M.1 1) (M.1 2) (M.1 33) (M.1 34) (M.1 35) (M.1 36) x2).2.2.2.2.2)))) (hk : x_readStep_st_ok fz gz (M.1 1) (M.1 2) (M.1 33) (M.1 34) (M.1 35) (M.1 36) nr nt nf x2) : GM z mX9_readStep (d + 6) [.ref 33, .ref 1, .int x2] M (fun rs => rs = .inl (none, mrow (mrow (mrow (mrow (mrow M 1 ((x_readStep_st fz (M.1 1) (M.1 2) (M.1 33) (M.1 34) (M.1 35) (M.1 36) nr nt nf x2).2.1)) 33 ((x_readStep_st fz (M.1 1) (M.1 2) (M.1 33) (M.1 34) (M.1 35) (M.1 36) nr nt nf x2).2.2.1)) 34 ((x_readStep_st fz (M.1 1) (M.1 2) (M.1 33) (M.1 34) (M.1 35) (M.1 36) nr nt nf x2).2.2.2.1)) 35 ((x_readStep_st fz (M.1 1) (M.1 2) (M.1 33) (M.1 34) (M.1 35) (M.1 36) nr nt nf x2).2.2.2.2.1)) 36 ((x_readStep_st fz (M.1 1) (M.1 2) (M.1 33) (M.1 34) (M.1 35) (M.1 36) nr nt nf x2).2.2.2.2.2))) := by
  simp only [x_readStep_st_ok] at hk
  refine GM.of oX9_readStep.1 (Nat.le_of_ble_eq_true rfl) ?_
  show G z mX9_readStep (d + 6) 0 0 0 [some (.ref 33), some (.ref 1), some (.int x2), none, none] [] M _
  obtain ⟨Q, hQ⟩ : ∃ Q : Rs → Prop, Q = (fun rs => rs = .inl (none, mrow (mrow (mrow (mrow (mrow M 1 ((x_readStep_st fz (M.1 1) (M.1 2) (M.1 33) (M.1 34) (M.1 35) (M.1 36) nr nt nf x2).2.1)) 33 ((x_readStep_st fz (M.1 1) (M.1 2) (M.1 33) (M.1 34) (M.1 35) (M.1 36) nr nt nf x2).2.2.1)) 34 ((x_readStep_st fz (M.1 1) (M.1 2) (M.1 33) (M.1 34) (M.1 35) (M.1 36) nr nt nf x2).2.2.2.1)) 35 ((x_readStep_st fz (M.1 1) (M.1 2) (M.1 33) (M.1 34) (M.1 35) (M.1 36) nr nt nf x2).2.2.2.2.1)) 36 ((x_readStep_st fz (M.1 1) (M.1 2) (M.1 33) (M.1 34) (M.1 35) (M.1 36) nr nt nf x2).2.2.2.2.2))) := ⟨_, rfl⟩
  rw [← hQ]
  refine G.sl [(.aload_n 1, 1, 1, 0, 0, 0), (.ldc 39, 2, 1, 3, 0, 0)] [] (pc2 := 3) (ls2 := [some (.ref 33), some (.ref 1), some (.int x2), none, none]) (st2 := [.ref 1003, .ref 1]) (M2 := M) (Ps := []) (by decide +kernel) rfl rfl trivial ?_
  obtain ⟨k1, hk⟩ := hk
  rcases g2 : t_word_s3 (M.1 1) (M.1 2) with ⟨v3, r4⟩
  try simp only [g2] at hk
  have t5 : GM z mX6_word (d + 5) [.ref 1, .ref 1003] M (fun rs => rs = .inl (some (.int v3), mrow M 1 r4)) := by
    have q9 := c_t_word_s3_1 z d M k1
    try simp only [mput, mrow_same, mrow_hit, mrow_miss, mrow_sw, idr_eq, ne_eq, Nat.reduceEqDiff, not_false_eq_true, Nat.reduceLT, reduceCtorEq, g2] at q9
    exact q9
  refine G.callV (as := [.ref 1003]) (rest := []) (a := 1) oX6_word lk_EvenFinders_Work_41 (by decide +kernel) rfl rfl ⟨rfl, rfl⟩ (Nat.le_of_ble_eq_true rfl) rfl ⟨Nat.le_of_ble_eq_true rfl, Nat.le_of_ble_eq_true rfl⟩ t5 (fun v9 N9 h6 => ?_) (fun E9 N9 h6 => by cases h6)
  cases h6
  show G z mX9_readStep (d + 6) 0 0 6 [some (.ref 33), some (.ref 1), some (.int x2), none, none] [.int v3] (mrow M 1 r4) Q
  refine G.sl [(.istore_n 3, 1, 3, 0, 0, 0), (.iload_n 3, 1, 3, 0, 0, 0), (.iconst 5, 1, 0, 0, 0, nI 5)] [] (pc2 := 9) (ls2 := [some (.ref 33), some (.ref 1), some (.int x2), some (.int v3), none]) (st2 := [.int (nI 5), .int v3]) (M2 := mrow M 1 r4) (Ps := []) (by decide +kernel) rfl rfl trivial ?_
  refine G.ic_ne (off := (12)) (tgt := 21) (by decide +kernel) rfl (fun c7 => ?_) (fun c7 => ?_)
  · skip
    rw [if_neg c7] at hk
    refine G.sl [(.iload_n 3, 1, 3, 0, 0, 0), (.iconst 4, 1, 0, 0, 0, nI 4)] [] (pc2 := 23) (ls2 := [some (.ref 33), some (.ref 1), some (.int x2), some (.int v3), none]) (st2 := [.int (nI 4), .int v3]) (M2 := mrow M 1 r4) (Ps := []) (by decide +kernel) rfl rfl trivial ?_
    refine G.ic_ne (off := (13)) (tgt := 36) (by decide +kernel) rfl (fun c8 => ?_) (fun c8 => ?_)
    · skip
      rw [if_neg c8] at hk
      refine G.sl [(.iload_n 3, 1, 3, 0, 0, 0), (.iconst (-1), 1, 0, 0, 0, (-1))] [] (pc2 := 38) (ls2 := [some (.ref 33), some (.ref 1), some (.int x2), some (.int v3), none]) (st2 := [.int ((-1)), .int v3]) (M2 := mrow M 1 r4) (Ps := []) (by decide +kernel) rfl rfl trivial ?_
      refine G.ic_eq (off := (54)) (tgt := 92) (by decide +kernel) rfl (fun c9 => ?_) (fun c9 => ?_)
      · skip
        rw [if_pos c9] at hk
        refine G.sl [(.aload_n 1, 1, 1, 0, 0, 0), (.bipush 59, 2, 0, 0, 0, nI 59)] [] (pc2 := 95) (ls2 := [some (.ref 33), some (.ref 1), some (.int x2), some (.int v3), none]) (st2 := [.int (nI 59), .ref 1]) (M2 := mrow M 1 r4) (Ps := []) (by decide +kernel) rfl rfl trivial ?_
        obtain ⟨k10, hk⟩ := hk
        rcases g11 : t_needSign r4 (M.1 2) (nI 59) with ⟨u12, r13⟩
        have t14 : GM z mX6_needSign (d + 5) [.ref 1, .int (nI 59)] (mrow M 1 r4) (fun rs => rs = .inl (none, mrow M 1 r13)) := by
          have q9 := c_t_needSign_1 z (d + 3) (mrow M 1 r4) (nI 59) k10
          try simp only [mput, mrow_same, mrow_hit, mrow_miss, mrow_sw, idr_eq, ne_eq, Nat.reduceEqDiff, not_false_eq_true, Nat.reduceLT, reduceCtorEq, g11] at q9
          exact q9
        refine G.callV (as := [.int (nI 59)]) (rest := []) (a := 1) oX6_needSign lk_EvenFinders_Work_67 (by decide +kernel) rfl rfl ⟨rfl, rfl⟩ (Nat.le_of_ble_eq_true rfl) rfl ⟨Nat.le_of_ble_eq_true rfl, Nat.le_of_ble_eq_true rfl⟩ t14 (fun v9 N9 h15 => ?_) (fun E9 N9 h15 => by cases h15)
        cases h15
        show G z mX9_readStep (d + 6) 0 0 98 [some (.ref 33), some (.ref 1), some (.int x2), some (.int v3), none] [] (mrow M 1 r13) Q
        refine G.mem (M' := mrow (mrow (mrow (mrow (mrow M 1 r13) 33 (M.1 33)) 34 (M.1 34)) 35 (M.1 35)) 36 (M.1 36)) ((((((mrow_id (N := mrow M 1 r13) (c := 33) (f := M.1 33) (by first | rfl | (simp only [mput, mrow_same, mrow_hit, mrow_miss, mrow_sw, idr_eq, ne_eq, Nat.reduceEqDiff, not_false_eq_true, Nat.reduceLT, reduceCtorEq]; done))).symm).trans (mrow_id (N := mrow (mrow M 1 r13) 33 (M.1 33)) (c := 34) (f := M.1 34) (by first | rfl | (simp only [mput, mrow_same, mrow_hit, mrow_miss, mrow_sw, idr_eq, ne_eq, Nat.reduceEqDiff, not_false_eq_true, Nat.reduceLT, reduceCtorEq]; done))).symm).trans (mrow_id (N := mrow (mrow (mrow M 1 r13) 33 (M.1 33)) 34 (M.1 34)) (c := 35) (f := M.1 35) (by first | rfl | (simp only [mput, mrow_same, mrow_hit, mrow_miss, mrow_sw, idr_eq, ne_eq, Nat.reduceEqDiff, not_false_eq_true, Nat.reduceLT, reduceCtorEq]; done))).symm).trans (mrow_id (N := mrow (mrow (mrow (mrow M 1 r13) 33 (M.1 33)) 34 (M.1 34)) 35 (M.1 35)) (c := 36) (f := M.1 36) (by first | rfl | (simp only [mput, mrow_same, mrow_hit, mrow_miss, mrow_sw, idr_eq, ne_eq, Nat.reduceEqDiff, not_false_eq_true, Nat.reduceLT, reduceCtorEq]; done))).symm).trans (by first | rfl | (simp only [mput, mrow_same, mrow_hit, mrow_miss, mrow_sw, idr_eq, ne_eq, Nat.reduceEqDiff, not_false_eq_true, Nat.reduceLT, reduceCtorEq]; done))) ?_
        exact G.retv (by decide +kernel) rfl (Nat.le_of_ble_eq_true rfl) (Nat.le_of_ble_eq_true rfl) ((by rw [hQ]; simp only [x_readStep_st, g2, if_neg c7, if_neg c8, if_pos c9, g11, mrow_self]))
      · skip
        rw [if_neg c9] at hk
        refine G.sl [(.aload_n 1, 1, 1, 0, 0, 0), (.iconst 0, 1, 0, 0, 0, nI 0), (.aload_n 0, 1, 0, 0, 0, 0), (.getfield 21, 3, 8, 4, 69, 0), (.getfield 52, 3, 6, 3, 31, 0), (.iconst 1, 1, 0, 0, 0, nI 1), (.isub, 1, 0, 0, 0, 0)] [] (pc2 := 52) (ls2 := [some (.ref 33), some (.ref 1), some (.int x2), some (.int v3), none]) (st2 := [.int ((M.1 3 3) - (nI 1)), .int (nI 0), .ref 1]) (M2 := mrow M 1 r4) (Ps := []) (by decide +kernel) rfl rfl trivial ?_
        rw [hf]
        obtain ⟨k16, hk⟩ := hk
        rcases g17 : t_number r4 (M.1 2) (nI 0) ((nI nf) - (nI 1)) with ⟨v18, r19⟩
        try simp only [g17] at hk
        have t20 : GM z mX6_number (d + 5) [.ref 1, .int (nI 0), .int ((nI nf) - (nI 1))] (mrow M 1 r4) (fun rs => rs = .inl (some (.int v18), mrow M 1 r19)) := by
          have q9 := c_t_number_1 z (d + 4) (mrow M 1 r4) (nI 0) ((nI nf) - (nI 1)) k16
          try simp only [mput, mrow_same, mrow_hit, mrow_miss, mrow_sw, idr_eq, ne_eq, Nat.reduceEqDiff, not_false_eq_true, Nat.reduceLT, reduceCtorEq, g17] at q9
          exact q9
        refine G.callV (as := [.int (nI 0), .int ((nI nf) - (nI 1))]) (rest := []) (a := 1) oX6_number lk_EvenFinders_Work_57 (by decide +kernel) rfl rfl ⟨rfl, rfl⟩ (Nat.le_of_ble_eq_true rfl) rfl ⟨Nat.le_of_ble_eq_true rfl, Nat.le_of_ble_eq_true rfl⟩ t20 (fun v9 N9 h21 => ?_) (fun E9 N9 h21 => by cases h21)
        cases h21
        show G z mX9_readStep (d + 6) 0 0 55 [some (.ref 33), some (.ref 1), some (.int x2), some (.int v3), none] [.int v18] (mrow M 1 r19) Q
        refine G.sl [(.istore 4, 2, 4, 0, 0, 0), (.aload_n 0, 1, 0, 0, 0, 0), (.iload_n 3, 1, 3, 0, 0, 0), (.iload 4, 2, 4, 0, 0, 0), (.aload_n 1, 1, 1, 0, 0, 0), (.iconst 0, 1, 0, 0, 0, nI 0), (.iload_n 3, 1, 3, 0, 0, 0)] [] (pc2 := 64) (ls2 := [some (.ref 33), some (.ref 1), some (.int x2), some (.int v3), some (.int v18)]) (st2 := [.int v3, .int (nI 0), .ref 1, .int v18, .int v3, .ref 33]) (M2 := mrow M 1 r19) (Ps := []) (by decide +kernel) rfl rfl trivial ?_
        refine G.if_ne (off := (13)) (tgt := 77) (by decide +kernel) rfl (fun c22 => ?_) (fun c22 => ?_)
        · skip
          rw [if_neg c22] at hk
          refine G.sl [(.aload_n 0, 1, 0, 0, 0, 0), (.getfield 21, 3, 8, 4, 69, 0), (.getfield 64, 3, 6, 2, 26, 0), (.iconst 1, 1, 0, 0, 0, nI 1), (.isub, 1, 0, 0, 0, 0)] [] (pc2 := 86) (ls2 := [some (.ref 33), some (.ref 1), some (.int x2), some (.int v3), some (.int v18)]) (st2 := [.int ((M.1 3 2) - (nI 1)), .int (nI 0), .ref 1, .int v18, .int v3, .ref 33]) (M2 := mrow M 1 r19) (Ps := []) (by decide +kernel) rfl rfl trivial ?_
          rw [ht]
          obtain ⟨k23, hk⟩ := hk
          rcases g24 : t_number r19 (M.1 2) (nI 0) ((nI nt) - (nI 1)) with ⟨v25, r26⟩
          try simp only [g24] at hk
          have t27 : GM z mX6_number (d + 5) [.ref 1, .int (nI 0), .int ((nI nt) - (nI 1))] (mrow M 1 r19) (fun rs => rs = .inl (some (.int v25), mrow M 1 r26)) := by
            have q9 := c_t_number_1 z (d + 4) (mrow M 1 r19) (nI 0) ((nI nt) - (nI 1)) k23
            try simp only [mput, mrow_same, mrow_hit, mrow_miss, mrow_sw, idr_eq, ne_eq, Nat.reduceEqDiff, not_false_eq_true, Nat.reduceLT, reduceCtorEq, g24] at q9
            exact q9
          refine G.callV (as := [.int (nI 0), .int ((nI nt) - (nI 1))]) (rest := [.int v18, .int v3, .ref 33]) (a := 1) oX6_number lk_EvenFinders_Work_57 (by decide +kernel) rfl rfl ⟨rfl, rfl⟩ (Nat.le_of_ble_eq_true rfl) rfl ⟨Nat.le_of_ble_eq_true rfl, Nat.le_of_ble_eq_true rfl⟩ t27 (fun v9 N9 h28 => ?_) (fun E9 N9 h28 => by cases h28)
          cases h28
          show G z mX9_readStep (d + 6) 0 0 89 [some (.ref 33), some (.ref 1), some (.int x2), some (.int v3), some (.int v18)] [.int v25, .int v18, .int v3, .ref 33] (mrow M 1 r26) Q
          obtain ⟨k29, hk⟩ := hk
          rcases g30 : x_put (M.1 33) (M.1 34) (M.1 35) (M.1 36) v3 v18 v25 with ⟨u31, r32, r33, r34, r35⟩
          try simp only [g30] at hk
          have t36 : GM z mX9_put (d + 5) [.ref 33, .int v3, .int v18, .int v25] (mrow M 1 r26) (fun rs => rs = .inl (none, mrow (mrow (mrow (mrow (mrow M 1 r26) 33 r32) 34 r33) 35 r34) 36 r35)) := by
            have q9 := c_x_put_33 z (d + 5) (mrow M 1 r26) v3 v18 v25 k29
            try simp only [mput, mrow_same, mrow_hit, mrow_miss, mrow_sw, idr_eq, ne_eq, Nat.reduceEqDiff, not_false_eq_true, Nat.reduceLT, reduceCtorEq, g30] at q9
            exact q9
          refine G.callV (as := [.int v3, .int v18, .int v25]) (rest := []) (a := 33) oX9_put lk_EvenFinders_Work_48 (by decide +kernel) rfl rfl ⟨rfl, rfl⟩ (Nat.le_of_ble_eq_true rfl) rfl ⟨Nat.le_of_ble_eq_true rfl, Nat.le_of_ble_eq_true rfl⟩ t36 (fun v9 N9 h37 => ?_) (fun E9 N9 h37 => by cases h37)
          cases h37
          show G z mX9_readStep (d + 6) 0 0 92 [some (.ref 33), some (.ref 1), some (.int x2), some (.int v3), some (.int v18)] [] (mrow (mrow (mrow (mrow (mrow M 1 r26) 33 r32) 34 r33) 35 r34) 36 r35) Q
          refine G.sl [(.aload_n 1, 1, 1, 0, 0, 0), (.bipush 59, 2, 0, 0, 0, nI 59)] [] (pc2 := 95) (ls2 := [some (.ref 33), some (.ref 1), some (.int x2), some (.int v3), some (.int v18)]) (st2 := [.int (nI 59), .ref 1]) (M2 := mrow (mrow (mrow (mrow (mrow M 1 r26) 33 r32) 34 r33) 35 r34) 36 r35) (Ps := []) (by decide +kernel) rfl rfl trivial ?_
          obtain ⟨k38, hk⟩ := hk
          rcases g39 : t_needSign r26 (M.1 2) (nI 59) with ⟨u40, r41⟩
          have t42 : GM z mX6_needSign (d + 5) [.ref 1, .int (nI 59)] (mrow (mrow (mrow (mrow (mrow M 1 r26) 33 r32) 34 r33) 35 r34) 36 r35) (fun rs => rs = .inl (none, mrow (mrow (mrow (mrow (mrow M 1 r41) 33 r32) 34 r33) 35 r34) 36 r35)) := by
            have q9 := c_t_needSign_1 z (d + 3) (mrow (mrow (mrow (mrow (mrow M 1 r26) 33 r32) 34 r33) 35 r34) 36 r35) (nI 59) k38
            try simp only [mput, mrow_same, mrow_hit, mrow_miss, mrow_sw, idr_eq, ne_eq, Nat.reduceEqDiff, not_false_eq_true, Nat.reduceLT, reduceCtorEq, g39] at q9
            exact q9
          refine G.callV (as := [.int (nI 59)]) (rest := []) (a := 1) oX6_needSign lk_EvenFinders_Work_67 (by decide +kernel) rfl rfl ⟨rfl, rfl⟩ (Nat.le_of_ble_eq_true rfl) rfl ⟨Nat.le_of_ble_eq_true rfl, Nat.le_of_ble_eq_true rfl⟩ t42 (fun v9 N9 h43 => ?_) (fun E9 N9 h43 => by cases h43)
          cases h43
          show G z mX9_readStep (d + 6) 0 0 98 [some (.ref 33), some (.ref 1), some (.int x2), some (.int v3), some (.int v18)] [] (mrow (mrow (mrow (mrow (mrow M 1 r41) 33 r32) 34 r33) 35 r34) 36 r35) Q
          exact G.retv (by decide +kernel) rfl (Nat.le_of_ble_eq_true rfl) (Nat.le_of_ble_eq_true rfl) ((by rw [hQ]; simp only [x_readStep_st, g2, if_neg c7, if_neg c8, if_neg c9, g17, if_neg c22, g24, g30, g39, mrow_self]))
        · skip
          rw [if_pos c22] at hk
          refine G.sl [(.aload_n 0, 1, 0, 0, 0, 0), (.getfield 21, 3, 8, 4, 69, 0), (.getfield 61, 3, 6, 1, 20, 0), (.goto 10, 3, 84, 0, 0, 0), (.iconst 1, 1, 0, 0, 0, nI 1), (.isub, 1, 0, 0, 0, 0)] [] (pc2 := 86) (ls2 := [some (.ref 33), some (.ref 1), some (.int x2), some (.int v3), some (.int v18)]) (st2 := [.int ((M.1 3 1) - (nI 1)), .int (nI 0), .ref 1, .int v18, .int v3, .ref 33]) (M2 := mrow M 1 r19) (Ps := []) (by decide +kernel) rfl rfl trivial ?_
          rw [hr]
          obtain ⟨k44, hk⟩ := hk
          rcases g45 : t_number r19 (M.1 2) (nI 0) ((nI nr) - (nI 1)) with ⟨v46, r47⟩
          try simp only [g45] at hk
          have t48 : GM z mX6_number (d + 5) [.ref 1, .int (nI 0), .int ((nI nr) - (nI 1))] (mrow M 1 r19) (fun rs => rs = .inl (some (.int v46), mrow M 1 r47)) := by
            have q9 := c_t_number_1 z (d + 4) (mrow M 1 r19) (nI 0) ((nI nr) - (nI 1)) k44
            try simp only [mput, mrow_same, mrow_hit, mrow_miss, mrow_sw, idr_eq, ne_eq, Nat.reduceEqDiff, not_false_eq_true, Nat.reduceLT, reduceCtorEq, g45] at q9
            exact q9
          refine G.callV (as := [.int (nI 0), .int ((nI nr) - (nI 1))]) (rest := [.int v18, .int v3, .ref 33]) (a := 1) oX6_number lk_EvenFinders_Work_57 (by decide +kernel) rfl rfl ⟨rfl, rfl⟩ (Nat.le_of_ble_eq_true rfl) rfl ⟨Nat.le_of_ble_eq_true rfl, Nat.le_of_ble_eq_true rfl⟩ t48 (fun v9 N9 h49 => ?_) (fun E9 N9 h49 => by cases h49)
          cases h49
          show G z mX9_readStep (d + 6) 0 0 89 [some (.ref 33), some (.ref 1), some (.int x2), some (.int v3), some (.int v18)] [.int v46, .int v18, .int v3, .ref 33] (mrow M 1 r47) Q
          obtain ⟨k50, hk⟩ := hk
          rcases g51 : x_put (M.1 33) (M.1 34) (M.1 35) (M.1 36) v3 v18 v46 with ⟨u52, r53, r54, r55, r56⟩
          try simp only [g51] at hk
          have t57 : GM z mX9_put (d + 5) [.ref 33, .int v3, .int v18, .int v46] (mrow M 1 r47) (fun rs => rs = .inl (none, mrow (mrow (mrow (mrow (mrow M 1 r47) 33 r53) 34 r54) 35 r55) 36 r56)) := by
            have q9 := c_x_put_33 z (d + 5) (mrow M 1 r47) v3 v18 v46 k50
            try simp only [mput, mrow_same, mrow_hit, mrow_miss, mrow_sw, idr_eq, ne_eq, Nat.reduceEqDiff, not_false_eq_true, Nat.reduceLT, reduceCtorEq, g51] at q9
            exact q9
          refine G.callV (as := [.int v3, .int v18, .int v46]) (rest := []) (a := 33) oX9_put lk_EvenFinders_Work_48 (by decide +kernel) rfl rfl ⟨rfl, rfl⟩ (Nat.le_of_ble_eq_true rfl) rfl ⟨Nat.le_of_ble_eq_true rfl, Nat.le_of_ble_eq_true rfl⟩ t57 (fun v9 N9 h58 => ?_) (fun E9 N9 h58 => by cases h58)
          cases h58
          show G z mX9_readStep (d + 6) 0 0 92 [some (.ref 33), some (.ref 1), some (.int x2), some (.int v3), some (.int v18)] [] (mrow (mrow (mrow (mrow (mrow M 1 r47) 33 r53) 34 r54) 35 r55) 36 r56) Q
          refine G.sl [(.aload_n 1, 1, 1, 0, 0, 0), (.bipush 59, 2, 0, 0, 0, nI 59)] [] (pc2 := 95) (ls2 := [some (.ref 33), some (.ref 1), some (.int x2), some (.int v3), some (.int v18)]) (st2 := [.int (nI 59), .ref 1]) (M2 := mrow (mrow (mrow (mrow (mrow M 1 r47) 33 r53) 34 r54) 35 r55) 36 r56) (Ps := []) (by decide +kernel) rfl rfl trivial ?_
          obtain ⟨k59, hk⟩ := hk
          rcases g60 : t_needSign r47 (M.1 2) (nI 59) with ⟨u61, r62⟩
          have t63 : GM z mX6_needSign (d + 5) [.ref 1, .int (nI 59)] (mrow (mrow (mrow (mrow (mrow M 1 r47) 33 r53) 34 r54) 35 r55) 36 r56) (fun rs => rs = .inl (none, mrow (mrow (mrow (mrow (mrow M 1 r62) 33 r53) 34 r54) 35 r55) 36 r56)) := by
            have q9 := c_t_needSign_1 z (d + 3) (mrow (mrow (mrow (mrow (mrow M 1 r47) 33 r53) 34 r54) 35 r55) 36 r56) (nI 59) k59
            try simp only [mput, mrow_same, mrow_hit, mrow_miss, mrow_sw, idr_eq, ne_eq, Nat.reduceEqDiff, not_false_eq_true, Nat.reduceLT, reduceCtorEq, g60] at q9
            exact q9
          refine G.callV (as := [.int (nI 59)]) (rest := []) (a := 1) oX6_needSign lk_EvenFinders_Work_67 (by decide +kernel) rfl rfl ⟨rfl, rfl⟩ (Nat.le_of_ble_eq_true rfl) rfl ⟨Nat.le_of_ble_eq_true rfl, Nat.le_of_ble_eq_true rfl⟩ t63 (fun v9 N9 h64 => ?_) (fun E9 N9 h64 => by cases h64)
          cases h64
          show G z mX9_readStep (d + 6) 0 0 98 [some (.ref 33), some (.ref 1), some (.int x2), some (.int v3), some (.int v18)] [] (mrow (mrow (mrow (mrow (mrow M 1 r62) 33 r53) 34 r54) 35 r55) 36 r56) Q
          exact G.retv (by decide +kernel) rfl (Nat.le_of_ble_eq_true rfl) (Nat.le_of_ble_eq_true rfl) ((by rw [hQ]; simp only [x_readStep_st, g2, if_neg c7, if_neg c8, if_neg c9, g17, if_pos c22, g45, g51, g60, mrow_self]))
    · skip
      rw [if_pos c8] at hk
      refine G.sl [(.aload_n 0, 1, 0, 0, 0, 0), (.iconst 4, 1, 0, 0, 0, nI 4), (.iconst 0, 1, 0, 0, 0, nI 0), (.iconst 0, 1, 0, 0, 0, nI 0)] [] (pc2 := 30) (ls2 := [some (.ref 33), some (.ref 1), some (.int x2), some (.int v3), none]) (st2 := [.int (nI 0), .int (nI 0), .int (nI 4), .ref 33]) (M2 := mrow M 1 r4) (Ps := []) (by decide +kernel) rfl rfl trivial ?_
      obtain ⟨k65, hk⟩ := hk
      rcases g66 : x_put (M.1 33) (M.1 34) (M.1 35) (M.1 36) (nI 4) (nI 0) (nI 0) with ⟨u67, r68, r69, r70, r71⟩
      try simp only [g66] at hk
      have t72 : GM z mX9_put (d + 5) [.ref 33, .int (nI 4), .int (nI 0), .int (nI 0)] (mrow M 1 r4) (fun rs => rs = .inl (none, mrow (mrow (mrow (mrow (mrow M 1 r4) 33 r68) 34 r69) 35 r70) 36 r71)) := by
        have q9 := c_x_put_33 z (d + 5) (mrow M 1 r4) (nI 4) (nI 0) (nI 0) k65
        try simp only [mput, mrow_same, mrow_hit, mrow_miss, mrow_sw, idr_eq, ne_eq, Nat.reduceEqDiff, not_false_eq_true, Nat.reduceLT, reduceCtorEq, g66] at q9
        exact q9
      refine G.callV (as := [.int (nI 4), .int (nI 0), .int (nI 0)]) (rest := []) (a := 33) oX9_put lk_EvenFinders_Work_48 (by decide +kernel) rfl rfl ⟨rfl, rfl⟩ (Nat.le_of_ble_eq_true rfl) rfl ⟨Nat.le_of_ble_eq_true rfl, Nat.le_of_ble_eq_true rfl⟩ t72 (fun v9 N9 h73 => ?_) (fun E9 N9 h73 => by cases h73)
      cases h73
      show G z mX9_readStep (d + 6) 0 0 33 [some (.ref 33), some (.ref 1), some (.int x2), some (.int v3), none] [] (mrow (mrow (mrow (mrow (mrow M 1 r4) 33 r68) 34 r69) 35 r70) 36 r71) Q
      refine G.sl [(.goto 59, 3, 92, 0, 0, 0), (.aload_n 1, 1, 1, 0, 0, 0), (.bipush 59, 2, 0, 0, 0, nI 59)] [] (pc2 := 95) (ls2 := [some (.ref 33), some (.ref 1), some (.int x2), some (.int v3), none]) (st2 := [.int (nI 59), .ref 1]) (M2 := mrow (mrow (mrow (mrow (mrow M 1 r4) 33 r68) 34 r69) 35 r70) 36 r71) (Ps := []) (by decide +kernel) rfl rfl trivial ?_
      obtain ⟨k74, hk⟩ := hk
      rcases g75 : t_needSign r4 (M.1 2) (nI 59) with ⟨u76, r77⟩
      have t78 : GM z mX6_needSign (d + 5) [.ref 1, .int (nI 59)] (mrow (mrow (mrow (mrow (mrow M 1 r4) 33 r68) 34 r69) 35 r70) 36 r71) (fun rs => rs = .inl (none, mrow (mrow (mrow (mrow (mrow M 1 r77) 33 r68) 34 r69) 35 r70) 36 r71)) := by
        have q9 := c_t_needSign_1 z (d + 3) (mrow (mrow (mrow (mrow (mrow M 1 r4) 33 r68) 34 r69) 35 r70) 36 r71) (nI 59) k74
        try simp only [mput, mrow_same, mrow_hit, mrow_miss, mrow_sw, idr_eq, ne_eq, Nat.reduceEqDiff, not_false_eq_true, Nat.reduceLT, reduceCtorEq, g75] at q9
        exact q9
      refine G.callV (as := [.int (nI 59)]) (rest := []) (a := 1) oX6_needSign lk_EvenFinders_Work_67 (by decide +kernel) rfl rfl ⟨rfl, rfl⟩ (Nat.le_of_ble_eq_true rfl) rfl ⟨Nat.le_of_ble_eq_true rfl, Nat.le_of_ble_eq_true rfl⟩ t78 (fun v9 N9 h79 => ?_) (fun E9 N9 h79 => by cases h79)
      cases h79
      show G z mX9_readStep (d + 6) 0 0 98 [some (.ref 33), some (.ref 1), some (.int x2), some (.int v3), none] [] (mrow (mrow (mrow (mrow (mrow M 1 r77) 33 r68) 34 r69) 35 r70) 36 r71) Q
      exact G.retv (by decide +kernel) rfl (Nat.le_of_ble_eq_true rfl) (Nat.le_of_ble_eq_true rfl) ((by rw [hQ]; simp only [x_readStep_st, g2, if_neg c7, if_pos c8, g66, g75, mrow_self]))
  · skip
    rw [if_pos c7] at hk
    refine G.sl [(.aload_n 0, 1, 0, 0, 0, 0), (.aload_n 1, 1, 1, 0, 0, 0), (.iload_n 2, 1, 2, 0, 0, 0)] [] (pc2 := 15) (ls2 := [some (.ref 33), some (.ref 1), some (.int x2), some (.int v3), none]) (st2 := [.int x2, .ref 1, .ref 33]) (M2 := mrow M 1 r4) (Ps := []) (by decide +kernel) rfl rfl trivial ?_
    obtain ⟨k80, hk⟩ := hk
    rcases g81 : x_readAgain fz r4 (M.1 2) (M.1 33) (M.1 34) (M.1 35) (M.1 36) x2 with ⟨u82, r83, r84, r85, r86, r87⟩
    try simp only [g81] at hk
    have t88 : GM z mX9_readAgain (d + 5) [.ref 33, .ref 1, .int x2] (mrow M 1 r4) (fun rs => rs = .inl (none, mrow (mrow (mrow (mrow (mrow M 1 r83) 33 r84) 34 r85) 35 r86) 36 r87)) := by
      have q9 := c_x_readAgain_33_1 z (d + 2) (mrow M 1 r4) x2 nr hnr hr nt hnt ht nf hnf hf fz gz Hz k80
      try simp only [mput, mrow_same, mrow_hit, mrow_miss, mrow_sw, idr_eq, ne_eq, Nat.reduceEqDiff, not_false_eq_true, Nat.reduceLT, reduceCtorEq, g81] at q9
      exact q9
    refine G.callV (as := [.ref 1, .int x2]) (rest := []) (a := 33) oX9_readAgain lk_EvenFinders_Work_45 (by decide +kernel) rfl rfl ⟨rfl, rfl⟩ (Nat.le_of_ble_eq_true rfl) rfl ⟨Nat.le_of_ble_eq_true rfl, Nat.le_of_ble_eq_true rfl⟩ t88 (fun v9 N9 h89 => ?_) (fun E9 N9 h89 => by cases h89)
    cases h89
    show G z mX9_readStep (d + 6) 0 0 18 [some (.ref 33), some (.ref 1), some (.int x2), some (.int v3), none] [] (mrow (mrow (mrow (mrow (mrow M 1 r83) 33 r84) 34 r85) 35 r86) 36 r87) Q
    refine G.sl [(.goto 74, 3, 92, 0, 0, 0), (.aload_n 1, 1, 1, 0, 0, 0), (.bipush 59, 2, 0, 0, 0, nI 59)] [] (pc2 := 95) (ls2 := [some (.ref 33), some (.ref 1), some (.int x2), some (.int v3), none]) (st2 := [.int (nI 59), .ref 1]) (M2 := mrow (mrow (mrow (mrow (mrow M 1 r83) 33 r84) 34 r85) 35 r86) 36 r87) (Ps := []) (by decide +kernel) rfl rfl trivial ?_
    obtain ⟨k90, hk⟩ := hk
    rcases g91 : t_needSign r83 (M.1 2) (nI 59) with ⟨u92, r93⟩
    have t94 : GM z mX6_needSign (d + 5) [.ref 1, .int (nI 59)] (mrow (mrow (mrow (mrow (mrow M 1 r83) 33 r84) 34 r85) 35 r86) 36 r87) (fun rs => rs = .inl (none, mrow (mrow (mrow (mrow (mrow M 1 r93) 33 r84) 34 r85) 35 r86) 36 r87)) := by
      have q9 := c_t_needSign_1 z (d + 3) (mrow (mrow (mrow (mrow (mrow M 1 r83) 33 r84) 34 r85) 35 r86) 36 r87) (nI 59) k90
      try simp only [mput, mrow_same, mrow_hit, mrow_miss, mrow_sw, idr_eq, ne_eq, Nat.reduceEqDiff, not_false_eq_true, Nat.reduceLT, reduceCtorEq, g91] at q9
      exact q9
    refine G.callV (as := [.int (nI 59)]) (rest := []) (a := 1) oX6_needSign lk_EvenFinders_Work_67 (by decide +kernel) rfl rfl ⟨rfl, rfl⟩ (Nat.le_of_ble_eq_true rfl) rfl ⟨Nat.le_of_ble_eq_true rfl, Nat.le_of_ble_eq_true rfl⟩ t94 (fun v9 N9 h95 => ?_) (fun E9 N9 h95 => by cases h95)
    cases h95
    show G z mX9_readStep (d + 6) 0 0 98 [some (.ref 33), some (.ref 1), some (.int x2), some (.int v3), none] [] (mrow (mrow (mrow (mrow (mrow M 1 r93) 33 r84) 34 r85) 35 r86) 36 r87) Q
    exact G.retv (by decide +kernel) rfl (Nat.le_of_ble_eq_true rfl) (Nat.le_of_ble_eq_true rfl) ((by rw [hQ]; simp only [x_readStep_st, g2, if_pos c7, g81, g91, mrow_self]))
noncomputable def x_readStep_rec (nr nt nf : Nat) : Nat → (Nat → Int32) → (Nat → Int32) → (Nat → Int32) → (Nat → Int32) → (Nat → Int32) → (Nat → Int32) → Int32 → Int32 × (Nat → Int32) × (Nat → Int32) × (Nat → Int32) × (Nat → Int32) × (Nat → Int32)
  | 0, Rtape, Rbytes, Rwork, Rkind, Rfirst, Rsecond, x2 => (0, Rtape, Rwork, Rkind, Rfirst, Rsecond)
  | k0 + 1, Rtape, Rbytes, Rwork, Rkind, Rfirst, Rsecond, x2 => x_readStep_st (x_readStep_rec nr nt nf k0) Rtape Rbytes Rwork Rkind Rfirst Rsecond nr nt nf x2
noncomputable def x_readStep_rec_ok (nr nt nf : Nat) : Nat → (Nat → Int32) → (Nat → Int32) → (Nat → Int32) → (Nat → Int32) → (Nat → Int32) → (Nat → Int32) → Int32 → Prop
  | 0, _, _, _, _, _, _, _ => False
  | k0 + 1, Rtape, Rbytes, Rwork, Rkind, Rfirst, Rsecond, x2 => x_readStep_st_ok (x_readStep_rec nr nt nf k0) (x_readStep_rec_ok nr nt nf k0) Rtape Rbytes Rwork Rkind Rfirst Rsecond nr nt nf x2
noncomputable def x_readStep (Rtape Rbytes Rwork Rkind Rfirst Rsecond : Nat → Int32) (nr nt nf : Nat) (x2 : Int32) : Int32 × (Nat → Int32) × (Nat → Int32) × (Nat → Int32) × (Nat → Int32) × (Nat → Int32) := x_readStep_rec nr nt nf 10 Rtape Rbytes Rwork Rkind Rfirst Rsecond x2
noncomputable def x_readStep_ok (Rtape Rbytes Rwork Rkind Rfirst Rsecond : Nat → Int32) (nr nt nf : Nat) (x2 : Int32) : Prop := x_readStep_rec_ok nr nt nf 10 Rtape Rbytes Rwork Rkind Rfirst Rsecond x2
theorem c_x_readStep_33_1_rec (z : Zp) (nr : Nat) (hnr : nr ≤ 12) (nt : Nat) (hnt : nt ≤ 10) (nf : Nat) (hnf : nf ≤ 6) : ∀ (k0 d : Nat) (M : Mem) (x2 : Int32), M.1 3 1 = nI nr → M.1 3 2 = nI nt → M.1 3 3 = nI nf → x_readStep_rec_ok nr nt nf k0 (M.1 1) (M.1 2) (M.1 33) (M.1 34) (M.1 35) (M.1 36) x2 → GM z mX9_readStep (d + 6 * k0) [.ref 33, .ref 1, .int x2] M (fun rs => rs = .inl (none, mrow (mrow (mrow (mrow (mrow M 1 ((x_readStep_rec nr nt nf k0 (M.1 1) (M.1 2) (M.1 33) (M.1 34) (M.1 35) (M.1 36) x2).2.1)) 33 ((x_readStep_rec nr nt nf k0 (M.1 1) (M.1 2) (M.1 33) (M.1 34) (M.1 35) (M.1 36) x2).2.2.1)) 34 ((x_readStep_rec nr nt nf k0 (M.1 1) (M.1 2) (M.1 33) (M.1 34) (M.1 35) (M.1 36) x2).2.2.2.1)) 35 ((x_readStep_rec nr nt nf k0 (M.1 1) (M.1 2) (M.1 33) (M.1 34) (M.1 35) (M.1 36) x2).2.2.2.2.1)) 36 ((x_readStep_rec nr nt nf k0 (M.1 1) (M.1 2) (M.1 33) (M.1 34) (M.1 35) (M.1 36) x2).2.2.2.2.2))) := by
  intro k0
  induction k0 with
  | zero =>
    intro d M x2 hr ht hf hk
    exact (by simpa only [x_readStep_rec_ok] using hk : False).elim
  | succ k0 ih =>
    intro d M x2 hr ht hf hk
    have e9 : d + 6 * (k0 + 1) = (d + 6 * k0) + 6 := by omega
    rw [e9]
    simp only [x_readStep_rec_ok] at hk
    have q9 := c_x_readStep_33_1_st z (d + 6 * k0) M x2 nr hnr hr nt hnt ht nf hnf hf (x_readStep_rec nr nt nf k0) (x_readStep_rec_ok nr nt nf k0) (fun j M x2 hr ht hf hk => by
      have q9 := ih (d + j) M x2 hr ht hf hk
      rw [show d + j + 6 * k0 = d + 6 * k0 + j by omega] at q9
      exact q9)  hk
    simp only [x_readStep_rec]
    exact q9
theorem c_x_readStep_33_1 (z : Zp) (d : Nat) (M : Mem) (x2 : Int32) (nr : Nat) (hnr : nr ≤ 12) (hr : M.1 3 1 = nI nr) (nt : Nat) (hnt : nt ≤ 10) (ht : M.1 3 2 = nI nt) (nf : Nat) (hnf : nf ≤ 6) (hf : M.1 3 3 = nI nf) (hk : x_readStep_ok (M.1 1) (M.1 2) (M.1 33) (M.1 34) (M.1 35) (M.1 36) nr nt nf x2) : GM z mX9_readStep (d + 60) [.ref 33, .ref 1, .int x2] M (fun rs => rs = .inl (none, mrow (mrow (mrow (mrow (mrow M 1 ((x_readStep (M.1 1) (M.1 2) (M.1 33) (M.1 34) (M.1 35) (M.1 36) nr nt nf x2).2.1)) 33 ((x_readStep (M.1 1) (M.1 2) (M.1 33) (M.1 34) (M.1 35) (M.1 36) nr nt nf x2).2.2.1)) 34 ((x_readStep (M.1 1) (M.1 2) (M.1 33) (M.1 34) (M.1 35) (M.1 36) nr nt nf x2).2.2.2.1)) 35 ((x_readStep (M.1 1) (M.1 2) (M.1 33) (M.1 34) (M.1 35) (M.1 36) nr nt nf x2).2.2.2.2.1)) 36 ((x_readStep (M.1 1) (M.1 2) (M.1 33) (M.1 34) (M.1 35) (M.1 36) nr nt nf x2).2.2.2.2.2))) := by
  have q9 := c_x_readStep_33_1_rec z nr hnr nt hnt nf hnf 10 d M x2 hr ht hf hk
  exact q9
noncomputable def x_readFrom_7 (Rbytes : Nat → Int32) (nr nt nf : Nat) : Nat → Nat → (Nat → Int32) → (Nat → Int32) → (Nat → Int32) → (Nat → Int32) → (Nat → Int32) → (Nat → Int32) × (Nat → Int32) × (Nat → Int32) × (Nat → Int32) × (Nat → Int32)
  | 0, _, q1, q33, q34, q35, q36 => (q1, q33, q34, q35, q36)
  | k0 + 1, i2, q1, q33, q34, q35, q36 => (match t_next q1 (Rbytes) with | (v3, r4) => (if v3 = ((-1)) then (r4, q33, q34, q35, q36) else (match x_readStep r4 (Rbytes) q33 q34 q35 q36 nr nt nf (nI 0) with | (u10, r11, r12, r13, r14, r15) => x_readFrom_7 Rbytes nr nt nf k0 (i2 + 1) r11 r12 r13 r14 r15)))
noncomputable def x_readFrom_7_ok (Rbytes : Nat → Int32) (nr nt nf : Nat) : Nat → Nat → (Nat → Int32) → (Nat → Int32) → (Nat → Int32) → (Nat → Int32) → (Nat → Int32) → Prop
  | 0, _, _, _, _, _, _ => True
  | k0 + 1, i2, q1, q33, q34, q35, q36 => (t_next_ok q1 (Rbytes) ∧ (match t_next q1 (Rbytes) with | (v3, r4) => (if v3 = ((-1)) then True else (x_readStep_ok r4 (Rbytes) q33 q34 q35 q36 nr nt nf (nI 0) ∧ (match x_readStep r4 (Rbytes) q33 q34 q35 q36 nr nt nf (nI 0) with | (u10, r11, r12, r13, r14, r15) => x_readFrom_7_ok Rbytes nr nt nf k0 (i2 + 1) r11 r12 r13 r14 r15)))))
set_option maxHeartbeats 4000000 in
set_option maxRecDepth 3000 in
theorem lp_x_readFrom_33_1_7 (z : Zp) (d : Nat) (M : Mem) (Q : Rs → Prop) (nn : Nat) (nr : Nat) (hnr : nr ≤ 12) (hr : M.1 3 1 = nI nr) (nt : Nat) (hnt : nt ≤ 10) (ht : M.1 3 2 = nI nt) (nf : Nat) (hnf : nf ≤ 6) (hf : M.1 3 3 = nI nf) (hnn : nn = 150) : ∀ (k0 : Nat) (i2 : Nat) (q1 : (Nat → Int32)) (q33 : (Nat → Int32)) (q34 : (Nat → Int32)) (q35 : (Nat → Int32)) (q36 : (Nat → Int32)), i2 + k0 = nn → x_readFrom_7_ok (M.1 2) nr nt nf k0 i2 q1 q33 q34 q35 q36 → (match x_readFrom_7 (M.1 2) nr nt nf k0 i2 q1 q33 q34 q35 q36 with | (q1', q33', q34', q35', q36') => G z mX9_readFrom (d + 61) 0 0 34 [none, none, none] [] (mrow (mrow (mrow (mrow (mrow M 1 (q1')) 33 (q33')) 34 (q34')) 35 (q35')) 36 (q36')) Q) → G z mX9_readFrom (d + 61) 0 0 7 [some (.ref 33), some (.ref 1), some (.int (nI i2))] [] (mrow (mrow (mrow (mrow (mrow M 1 q1) 33 q33) 34 q34) 35 q35) 36 q36) Q := by
  intro k0
  induction k0 with
  | zero =>
      intro i2 q1 q33 q34 q35 q36 hn hk hX
      refine G.sl [(.iload_n 2, 1, 2, 0, 0, 0), (.sipush 150, 3, 0, 0, 0, nI 150)] [] (pc2 := 11) (ls2 := [some (.ref 33), some (.ref 1), some (.int (nI i2))]) (st2 := [.int (nI 150), .int (nI i2)]) (M2 := mrow (mrow (mrow (mrow (mrow M 1 q1) 33 q33) 34 q34) 35 q35) 36 q36) (Ps := []) (by decide +kernel) rfl rfl trivial ?_
      refine G.ic_ge (off := (23)) (tgt := 34) (by decide +kernel) rfl (fun _ => ?_) (fun h9 => absurd (nI_le (by omega) (by omega)) h9)
      refine G.loc (ls2 := [none, none, none]) (by simp [subL]) ?_
      simp only [x_readFrom_7] at hX
      exact hX
  | succ k0 ih =>
      intro i2 q1 q33 q34 q35 q36 hn hk hX
      simp only [x_readFrom_7_ok] at hk
      refine G.sl [(.iload_n 2, 1, 2, 0, 0, 0), (.sipush 150, 3, 0, 0, 0, nI 150)] [] (pc2 := 11) (ls2 := [some (.ref 33), some (.ref 1), some (.int (nI i2))]) (st2 := [.int (nI 150), .int (nI i2)]) (M2 := mrow (mrow (mrow (mrow (mrow M 1 q1) 33 q33) 34 q34) 35 q35) 36 q36) (Ps := []) (by decide +kernel) rfl rfl trivial ?_
      refine G.ic_ge (off := (23)) (tgt := 34) (by decide +kernel) rfl (fun h9 => absurd h9 (nI_ge (by omega) (by omega))) (fun _ => ?_)
      refine G.sl [(.aload_n 1, 1, 1, 0, 0, 0)] [] (pc2 := 15) (ls2 := [some (.ref 33), some (.ref 1), some (.int (nI i2))]) (st2 := [.ref 1]) (M2 := mrow (mrow (mrow (mrow (mrow M 1 q1) 33 q33) 34 q34) 35 q35) 36 q36) (Ps := []) (by decide +kernel) rfl rfl trivial ?_
      obtain ⟨k1, hk⟩ := hk
      rcases g2 : t_next q1 (M.1 2) with ⟨v3, r4⟩
      try simp only [g2] at hk
      have t5 : GM z mX6_next (d + 60) [.ref 1] (mrow (mrow (mrow (mrow (mrow M 1 q1) 33 q33) 34 q34) 35 q35) 36 q36) (fun rs => rs = .inl (some (.int v3), mrow (mrow (mrow (mrow (mrow M 1 r4) 33 q33) 34 q34) 35 q35) 36 q36)) := by
        have q9 := c_t_next_1 z (d + 60) (mrow (mrow (mrow (mrow (mrow M 1 q1) 33 q33) 34 q34) 35 q35) 36 q36) k1
        try simp only [mput, mrow_same, mrow_hit, mrow_miss, mrow_sw, idr_eq, ne_eq, Nat.reduceEqDiff, not_false_eq_true, Nat.reduceLT, reduceCtorEq, g2] at q9
        exact q9
      refine G.callV (as := []) (rest := []) (a := 1) oX6_next lk_EvenFinders_Work_29 (by decide +kernel) rfl rfl ⟨rfl, rfl⟩ (Nat.le_of_ble_eq_true rfl) rfl ⟨Nat.le_of_ble_eq_true rfl, Nat.le_of_ble_eq_true rfl⟩ t5 (fun v9 N9 h6 => ?_) (fun E9 N9 h6 => by cases h6)
      cases h6
      show G z mX9_readFrom (d + 61) 0 0 18 [some (.ref 33), some (.ref 1), some (.int (nI i2))] [.int v3] (mrow (mrow (mrow (mrow (mrow M 1 r4) 33 q33) 34 q34) 35 q35) 36 q36) Q
      refine G.sl [(.iconst (-1), 1, 0, 0, 0, (-1))] [] (pc2 := 19) (ls2 := [some (.ref 33), some (.ref 1), some (.int (nI i2))]) (st2 := [.int ((-1)), .int v3]) (M2 := mrow (mrow (mrow (mrow (mrow M 1 r4) 33 q33) 34 q34) 35 q35) 36 q36) (Ps := []) (by decide +kernel) rfl rfl trivial ?_
      refine G.ic_eq (off := (15)) (tgt := 34) (by decide +kernel) rfl (fun c7 => ?_) (fun c7 => ?_)
      · skip
        rw [if_pos c7] at hk
        refine G.loc (ls2 := [none, none, none]) (by simp [subL]) ?_
        simp only [x_readFrom_7, g2, if_pos c7] at hX
        exact hX
      · skip
        rw [if_neg c7] at hk
        refine G.sl [(.aload_n 0, 1, 0, 0, 0, 0), (.aload_n 1, 1, 1, 0, 0, 0), (.iconst 0, 1, 0, 0, 0, nI 0)] [] (pc2 := 25) (ls2 := [some (.ref 33), some (.ref 1), some (.int (nI i2))]) (st2 := [.int (nI 0), .ref 1, .ref 33]) (M2 := mrow (mrow (mrow (mrow (mrow M 1 r4) 33 q33) 34 q34) 35 q35) 36 q36) (Ps := []) (by decide +kernel) rfl rfl trivial ?_
        obtain ⟨k8, hk⟩ := hk
        rcases g9 : x_readStep r4 (M.1 2) q33 q34 q35 q36 nr nt nf (nI 0) with ⟨u10, r11, r12, r13, r14, r15⟩
        try simp only [g9] at hk
        have t16 : GM z mX9_readStep (d + 60) [.ref 33, .ref 1, .int (nI 0)] (mrow (mrow (mrow (mrow (mrow M 1 r4) 33 q33) 34 q34) 35 q35) 36 q36) (fun rs => rs = .inl (none, mrow (mrow (mrow (mrow (mrow M 1 r11) 33 r12) 34 r13) 35 r14) 36 r15)) := by
          have q9 := c_x_readStep_33_1 z d (mrow (mrow (mrow (mrow (mrow M 1 r4) 33 q33) 34 q34) 35 q35) 36 q36) (nI 0) nr hnr hr nt hnt ht nf hnf hf k8
          try simp only [mput, mrow_same, mrow_hit, mrow_miss, mrow_sw, idr_eq, ne_eq, Nat.reduceEqDiff, not_false_eq_true, Nat.reduceLT, reduceCtorEq, g9] at q9
          exact q9
        refine G.callV (as := [.ref 1, .int (nI 0)]) (rest := []) (a := 33) oX9_readStep lk_EvenFinders_Work_35 (by decide +kernel) rfl rfl ⟨rfl, rfl⟩ (Nat.le_of_ble_eq_true rfl) rfl ⟨Nat.le_of_ble_eq_true rfl, Nat.le_of_ble_eq_true rfl⟩ t16 (fun v9 N9 h17 => ?_) (fun E9 N9 h17 => by cases h17)
        cases h17
        show G z mX9_readFrom (d + 61) 0 0 28 [some (.ref 33), some (.ref 1), some (.int (nI i2))] [] (mrow (mrow (mrow (mrow (mrow M 1 r11) 33 r12) 34 r13) 35 r14) 36 r15) Q
        refine G.sl [(.iinc 2 1, 3, 2, 0, 0, nI 1), (.goto (-24), 3, 7, 0, 0, 0)] [] (pc2 := 7) (ls2 := [some (.ref 33), some (.ref 1), some (.int ((nI i2) + nI 1))]) (st2 := []) (M2 := mrow (mrow (mrow (mrow (mrow M 1 r11) 33 r12) 34 r13) 35 r14) 36 r15) (Ps := []) (by decide +kernel) rfl rfl trivial ?_
        rw [nI_add i2 1]
        simp only [x_readFrom_7, g2, if_neg c7, g9] at hX
        exact ih (i2 + 1) r11 r12 r13 r14 r15 (by omega) hk hX
noncomputable def x_readFrom (Rtape Rbytes Rwork Rkind Rfirst Rsecond : Nat → Int32) (nr nt nf : Nat) : Int32 × (Nat → Int32) × (Nat → Int32) × (Nat → Int32) × (Nat → Int32) × (Nat → Int32) := (match x_readFrom_7 (Rbytes) nr nt nf (cN 150) 0 (Rtape) (upd (Rwork) 3 (nI 0)) (Rkind) (Rfirst) (Rsecond) with | (r20, r21, r22, r23, r24) => (0, r20, r21, r22, r23, r24))
noncomputable def x_readFrom_ok (Rtape Rbytes Rwork Rkind Rfirst Rsecond : Nat → Int32) (nr nt nf : Nat) : Prop := (x_readFrom_7_ok (Rbytes) nr nt nf (cN 150) 0 (Rtape) (upd (Rwork) 3 (nI 0)) (Rkind) (Rfirst) (Rsecond) ∧ True)
set_option maxHeartbeats 4000000 in
set_option maxRecDepth 3000 in
theorem c_x_readFrom_33_1 (z : Zp) (d : Nat) (M : Mem) (nr : Nat) (hnr : nr ≤ 12) (hr : M.1 3 1 = nI nr) (nt : Nat) (hnt : nt ≤ 10) (ht : M.1 3 2 = nI nt) (nf : Nat) (hnf : nf ≤ 6) (hf : M.1 3 3 = nI nf) (hk : x_readFrom_ok (M.1 1) (M.1 2) (M.1 33) (M.1 34) (M.1 35) (M.1 36) nr nt nf) : GM z mX9_readFrom (d + 61) [.ref 33, .ref 1] M (fun rs => rs = .inl (none, mrow (mrow (mrow (mrow (mrow M 1 ((x_readFrom (M.1 1) (M.1 2) (M.1 33) (M.1 34) (M.1 35) (M.1 36) nr nt nf).2.1)) 33 ((x_readFrom (M.1 1) (M.1 2) (M.1 33) (M.1 34) (M.1 35) (M.1 36) nr nt nf).2.2.1)) 34 ((x_readFrom (M.1 1) (M.1 2) (M.1 33) (M.1 34) (M.1 35) (M.1 36) nr nt nf).2.2.2.1)) 35 ((x_readFrom (M.1 1) (M.1 2) (M.1 33) (M.1 34) (M.1 35) (M.1 36) nr nt nf).2.2.2.2.1)) 36 ((x_readFrom (M.1 1) (M.1 2) (M.1 33) (M.1 34) (M.1 35) (M.1 36) nr nt nf).2.2.2.2.2))) := by
  simp only [x_readFrom_ok] at hk
  refine GM.of oX9_readFrom.1 (Nat.le_of_ble_eq_true rfl) ?_
  show G z mX9_readFrom (d + 61) 0 0 0 [some (.ref 33), some (.ref 1), none] [] M _
  obtain ⟨Q, hQ⟩ : ∃ Q : Rs → Prop, Q = (fun rs => rs = .inl (none, mrow (mrow (mrow (mrow (mrow M 1 ((x_readFrom (M.1 1) (M.1 2) (M.1 33) (M.1 34) (M.1 35) (M.1 36) nr nt nf).2.1)) 33 ((x_readFrom (M.1 1) (M.1 2) (M.1 33) (M.1 34) (M.1 35) (M.1 36) nr nt nf).2.2.1)) 34 ((x_readFrom (M.1 1) (M.1 2) (M.1 33) (M.1 34) (M.1 35) (M.1 36) nr nt nf).2.2.2.1)) 35 ((x_readFrom (M.1 1) (M.1 2) (M.1 33) (M.1 34) (M.1 35) (M.1 36) nr nt nf).2.2.2.2.1)) 36 ((x_readFrom (M.1 1) (M.1 2) (M.1 33) (M.1 34) (M.1 35) (M.1 36) nr nt nf).2.2.2.2.2))) := ⟨_, rfl⟩
  rw [← hQ]
  refine G.sl [(.aload_n 0, 1, 0, 0, 0, 0), (.iconst 0, 1, 0, 0, 0, nI 0), (.putfield 25, 3, 8, 3, 68, 0), (.iconst 0, 1, 0, 0, 0, nI 0), (.istore_n 2, 1, 2, 0, 0, 0)] [] (pc2 := 7) (ls2 := [some (.ref 33), some (.ref 1), some (.int (nI 0))]) (st2 := []) (M2 := mput M 33 3 (nI 0)) (Ps := []) (by decide +kernel) rfl rfl trivial ?_
  refine G.mem (M' := mrow M 33 (upd (M.1 33) 3 (nI 0))) (by first | rfl | (simp only [mput, mrow_same, mrow_hit, mrow_miss, mrow_sw, idr_eq, ne_eq, Nat.reduceEqDiff, not_false_eq_true, Nat.reduceLT, reduceCtorEq]; done)) ?_
  obtain ⟨k18, hk⟩ := hk
  refine G.mem (M' := mrow (mrow (mrow (mrow (mrow (mrow M 33 (upd (M.1 33) 3 (nI 0))) 1 ((mrow M 33 (upd (M.1 33) 3 (nI 0))).1 1)) 33 ((mrow M 33 (upd (M.1 33) 3 (nI 0))).1 33)) 34 ((mrow M 33 (upd (M.1 33) 3 (nI 0))).1 34)) 35 ((mrow M 33 (upd (M.1 33) 3 (nI 0))).1 35)) 36 ((mrow M 33 (upd (M.1 33) 3 (nI 0))).1 36)) (by simp only [mrow_self]) ?_
  refine lp_x_readFrom_33_1_7 z d (mrow M 33 (upd (M.1 33) 3 (nI 0))) Q (cN 150) nr hnr hr nt hnt ht nf hnf hf (cN_eq 150) (cN 150) 0 ((mrow M 33 (upd (M.1 33) 3 (nI 0))).1 1) ((mrow M 33 (upd (M.1 33) 3 (nI 0))).1 33) ((mrow M 33 (upd (M.1 33) 3 (nI 0))).1 34) ((mrow M 33 (upd (M.1 33) 3 (nI 0))).1 35) ((mrow M 33 (upd (M.1 33) 3 (nI 0))).1 36) (Nat.zero_add _) (by first | (simp only [mput, mrow_same, mrow_hit, mrow_miss, mrow_sw, idr_eq, ne_eq, Nat.reduceEqDiff, not_false_eq_true, Nat.reduceLT, reduceCtorEq]; exact k18) | exact k18) ?_
  try simp only [mput, mrow_same, mrow_hit, mrow_miss, mrow_sw, idr_eq, ne_eq, Nat.reduceEqDiff, not_false_eq_true, Nat.reduceLT, reduceCtorEq]
  rcases g19 : x_readFrom_7 (M.1 2) nr nt nf (cN 150) 0 (M.1 1) (upd (M.1 33) 3 (nI 0)) (M.1 34) (M.1 35) (M.1 36) with ⟨r20, r21, r22, r23, r24⟩
  show G z mX9_readFrom (d + 61) 0 0 34 [none, none, none] [] (mrow (mrow (mrow (mrow (mrow M 1 r20) 33 r21) 34 r22) 35 r23) 36 r24) Q
  exact G.retv (by decide +kernel) rfl (Nat.le_of_ble_eq_true rfl) (Nat.le_of_ble_eq_true rfl) ((by rw [hQ]; simp only [x_readFrom, g19, mrow_self]))
noncomputable def x_doSteps_st_58 (fz : (Nat → Int32) → (Nat → Int32) → (Nat → Int32) → (Nat → Int32) → (Nat → Int32) → (Nat → Int32) → (Nat → Int32) → (Nat → Int32) → (Nat → Int32) → (Nat → Int32) → (Nat → Int32) → (Nat → Int32) → (Nat → Int32) → Int32 → Int32 → Int32 → Int32 × (Nat → Int32) × (Nat → Int32) × (Nat → Int32) × (Nat → Int32)) (gz : (Nat → Int32) → (Nat → Int32) → (Nat → Int32) → (Nat → Int32) → (Nat → Int32) → (Nat → Int32) → (Nat → Int32) → (Nat → Int32) → (Nat → Int32) → (Nat → Int32) → (Nat → Int32) → (Nat → Int32) → (Nat → Int32) → Int32 → Int32 → Int32 → Prop) (Rwork Rfirst Rsecond : Nat → Int32) (x3 : Int32) (x4 : Int32) (x5 : Int32) (x6 : Int32) : Nat → Int32 → Int32
  | 0, s7 => s7
  | k0 + 1, s7 => (if (Rfirst (ix x6)) ≤ s7 then s7 else (if (nI 200) ≤ (Rwork 2) then s7 else (match fz (M.1 4) (M.1 5) (M.1 6) (M.1 7) (M.1 21) (M.1 22) (M.1 23) (M.1 24) (Rwork) (M.1 34) (Rfirst) (Rsecond) (M.1 38) (x6 + (nI 1)) (Rsecond (ix x6)) (x4 + (nI 1)) with | (u22, r23, r24, r25, r26) => x_doSteps_st_58 fz gz Rwork Rfirst Rsecond x3 x4 x5 x6 k0 (s7 + nI 1))))
noncomputable def x_doSteps_st_58_ok (fz : (Nat → Int32) → (Nat → Int32) → (Nat → Int32) → (Nat → Int32) → (Nat → Int32) → (Nat → Int32) → (Nat → Int32) → (Nat → Int32) → (Nat → Int32) → (Nat → Int32) → (Nat → Int32) → (Nat → Int32) → (Nat → Int32) → Int32 → Int32 → Int32 → Int32 × (Nat → Int32) × (Nat → Int32) × (Nat → Int32) × (Nat → Int32)) (gz : (Nat → Int32) → (Nat → Int32) → (Nat → Int32) → (Nat → Int32) → (Nat → Int32) → (Nat → Int32) → (Nat → Int32) → (Nat → Int32) → (Nat → Int32) → (Nat → Int32) → (Nat → Int32) → (Nat → Int32) → (Nat → Int32) → Int32 → Int32 → Int32 → Prop) (Rwork Rfirst Rsecond : Nat → Int32) (x3 : Int32) (x4 : Int32) (x5 : Int32) (x6 : Int32) : Nat → Int32 → Prop
  | 0, _ => False
  | k0 + 1, s7 => ((isN x6) ∧ (ix x6 < 150) ∧ (if (Rfirst (ix x6)) ≤ s7 then True else (if (nI 200) ≤ (Rwork 2) then True else (gz (M.1 4) (M.1 5) (M.1 6) (M.1 7) (M.1 21) (M.1 22) (M.1 23) (M.1 24) (Rwork) (M.1 34) (Rfirst) (Rsecond) (M.1 38) (x6 + (nI 1)) (Rsecond (ix x6)) (x4 + (nI 1)) ∧ (match fz (M.1 4) (M.1 5) (M.1 6) (M.1 7) (M.1 21) (M.1 22) (M.1 23) (M.1 24) (Rwork) (M.1 34) (Rfirst) (Rsecond) (M.1 38) (x6 + (nI 1)) (Rsecond (ix x6)) (x4 + (nI 1)) with | (u22, r23, r24, r25, r26) => x_doSteps_st_58_ok fz gz Rwork Rfirst Rsecond x3 x4 x5 x6 k0 (s7 + nI 1))))))
set_option maxHeartbeats 4000000 in
set_option maxRecDepth 3000 in
theorem lp_x_doSteps_33_37_st_58 (z : Zp) (d : Nat) (M : Mem) (Q : Rs → Prop) (x3 : Int32) (x4 : Int32) (x5 : Int32) (x6 : Int32) (nt : Nat) (hnt : nt ≤ 10) (ht : M.1 3 2 = nI nt) (nf : Nat) (hnf : nf ≤ 6) (hf : M.1 3 3 = nI nf) (fz : (Nat → Int32) → (Nat → Int32) → (Nat → Int32) → (Nat → Int32) → (Nat → Int32) → (Nat → Int32) → (Nat → Int32) → (Nat → Int32) → (Nat → Int32) → (Nat → Int32) → (Nat → Int32) → (Nat → Int32) → (Nat → Int32) → Int32 → Int32 → Int32 → Int32 × (Nat → Int32) × (Nat → Int32) × (Nat → Int32) × (Nat → Int32)) (gz : (Nat → Int32) → (Nat → Int32) → (Nat → Int32) → (Nat → Int32) → (Nat → Int32) → (Nat → Int32) → (Nat → Int32) → (Nat → Int32) → (Nat → Int32) → (Nat → Int32) → (Nat → Int32) → (Nat → Int32) → (Nat → Int32) → Int32 → Int32 → Int32 → Prop) (Hz : ∀ (j : Nat) (M : Mem) (x2 : Int32) (x3 : Int32) (x4 : Int32), M.1 3 2 = nI nt → M.1 3 3 = nI nf → gz (M.1 4) (M.1 5) (M.1 6) (M.1 7) (M.1 21) (M.1 22) (M.1 23) (M.1 24) (M.1 33) (M.1 34) (M.1 35) (M.1 36) (M.1 38) x2 x3 x4 → GM z mX9_doSteps (d + j) [.ref 33, .ref 37, .int x2, .int x3, .int x4] M (fun rs => rs = .inl (none, mrow (mrow (mrow (mrow M 22 ((fz (M.1 4) (M.1 5) (M.1 6) (M.1 7) (M.1 21) (M.1 22) (M.1 23) (M.1 24) (M.1 33) (M.1 34) (M.1 35) (M.1 36) (M.1 38) x2 x3 x4).2.1)) 24 ((fz (M.1 4) (M.1 5) (M.1 6) (M.1 7) (M.1 21) (M.1 22) (M.1 23) (M.1 24) (M.1 33) (M.1 34) (M.1 35) (M.1 36) (M.1 38) x2 x3 x4).2.2.1)) 33 ((fz (M.1 4) (M.1 5) (M.1 6) (M.1 7) (M.1 21) (M.1 22) (M.1 23) (M.1 24) (M.1 33) (M.1 34) (M.1 35) (M.1 36) (M.1 38) x2 x3 x4).2.2.2.1)) 38 ((fz (M.1 4) (M.1 5) (M.1 6) (M.1 7) (M.1 21) (M.1 22) (M.1 23) (M.1 24) (M.1 33) (M.1 34) (M.1 35) (M.1 36) (M.1 38) x2 x3 x4).2.2.2.2)))) : ∀ (k0 : Nat) (s7 : Int32), x_doSteps_st_58_ok fz gz (M.1 33) (M.1 35) (M.1 36) x3 x4 x5 x6 k0 s7 → (match x_doSteps_st_58 fz gz (M.1 33) (M.1 35) (M.1 36) x3 x4 x5 x6 k0 s7 with | s7' => G z mX9_doSteps (d + 6) 0 0 106 [some (.ref 33), some (.ref 37), none, some (.int x3), some (.int x4), some (.int x5), some (.int x6), none] [] M Q) → G z mX9_doSteps (d + 6) 0 0 58 [some (.ref 33), some (.ref 37), none, some (.int x3), some (.int x4), some (.int x5), some (.int x6), some (.int s7)] [] M Q := by
  intro k0
  induction k0 with
  | zero =>
      intro s7 hk hX
      exact (by simpa only [x_doSteps_st_58_ok] using hk : False).elim
  | succ k0 ih =>
      intro s7 hk hX
      simp only [x_doSteps_st_58_ok] at hk
      obtain ⟨k16, k17, hk⟩ := hk
      refine G.sl [(.iload 7, 2, 7, 0, 0, 0), (.aload_n 0, 1, 0, 0, 0, 0), (.getfield 15, 3, 8, 6, 71, 0), (.iload 6, 2, 6, 0, 0, 0), (.iaload, 1, 0, 0, 0, 0)] [ix x6] (pc2 := 67) (ls2 := [some (.ref 33), some (.ref 37), none, some (.int x3), some (.int x4), some (.int x5), some (.int x6), some (.int s7)]) (st2 := [.int (M.1 35 (ix x6)), .int s7]) (M2 := M) (Ps := [x6 = nI (ix x6) ∧ (ix x6) < 150]) (by decide +kernel) rfl rfl ⟨⟨(ixE k16), k17⟩, trivial⟩ ?_
      refine G.ic_ge (off := (39)) (tgt := 106) (by decide +kernel) rfl (fun c18 => ?_) (fun c18 => ?_)
      · skip
        rw [if_pos c18] at hk
        refine G.loc (ls2 := [some (.ref 33), some (.ref 37), none, some (.int x3), some (.int x4), some (.int x5), some (.int x6), none]) (by simp [subL]) ?_
        simp only [x_doSteps_st_58, if_pos c18] at hX
        exact hX
      · skip
        rw [if_neg c18] at hk
        refine G.sl [(.aload_n 0, 1, 0, 0, 0, 0), (.getfield 78, 3, 8, 2, 67, 0), (.sipush 200, 3, 0, 0, 0, nI 200)] [] (pc2 := 77) (ls2 := [some (.ref 33), some (.ref 37), none, some (.int x3), some (.int x4), some (.int x5), some (.int x6), some (.int s7)]) (st2 := [.int (nI 200), .int (M.1 33 2)]) (M2 := M) (Ps := []) (by decide +kernel) rfl rfl trivial ?_
        refine G.ic_ge (off := (29)) (tgt := 106) (by decide +kernel) rfl (fun c19 => ?_) (fun c19 => ?_)
        · skip
          rw [if_pos c19] at hk
          refine G.loc (ls2 := [some (.ref 33), some (.ref 37), none, some (.int x3), some (.int x4), some (.int x5), some (.int x6), none]) (by simp [subL]) ?_
          simp only [x_doSteps_st_58, if_neg c18, if_pos c19] at hX
          exact hX
        · skip
          rw [if_neg c19] at hk
          refine G.sl [(.aload_n 0, 1, 0, 0, 0, 0), (.aload_n 1, 1, 1, 0, 0, 0), (.iload 6, 2, 6, 0, 0, 0), (.iconst 1, 1, 0, 0, 0, nI 1), (.iadd, 1, 0, 0, 0, 0), (.aload_n 0, 1, 0, 0, 0, 0), (.getfield 18, 3, 8, 7, 72, 0), (.iload 6, 2, 6, 0, 0, 0), (.iaload, 1, 0, 0, 0, 0), (.iload 4, 2, 4, 0, 0, 0), (.iconst 1, 1, 0, 0, 0, nI 1), (.iadd, 1, 0, 0, 0, 0)] [ix x6] (pc2 := 97) (ls2 := [some (.ref 33), some (.ref 37), none, some (.int x3), some (.int x4), some (.int x5), some (.int x6), some (.int s7)]) (st2 := [.int (x4 + (nI 1)), .int (M.1 36 (ix x6)), .int (x6 + (nI 1)), .ref 37, .ref 33]) (M2 := M) (Ps := [x6 = nI (ix x6) ∧ (ix x6) < 150]) (by decide +kernel) rfl rfl ⟨⟨(ixE k16), k17⟩, trivial⟩ ?_
          obtain ⟨k20, hk⟩ := hk
          rcases g21 : fz (M.1 4) (M.1 5) (M.1 6) (M.1 7) (M.1 21) (M.1 22) (M.1 23) (M.1 24) (M.1 33) (M.1 34) (M.1 35) (M.1 36) (M.1 38) (x6 + (nI 1)) (M.1 36 (ix x6)) (x4 + (nI 1)) with ⟨u22, r23, r24, r25, r26⟩
          try simp only [g21] at hk
          have t27 : GM z mX9_doSteps (d + 5) [.ref 33, .ref 37, .int (x6 + (nI 1)), .int (M.1 36 (ix x6)), .int (x4 + (nI 1))] M (fun rs => rs = .inl (none, mrow (mrow (mrow (mrow M 22 r23) 24 r24) 33 r25) 38 r26)) := by
            have q9 := Hz 5 M (x6 + (nI 1)) (M.1 36 (ix x6)) (x4 + (nI 1)) ht hf
            try simp only [mput, mrow_same, mrow_hit, mrow_miss, mrow_sw, idr_eq, ne_eq, Nat.reduceEqDiff, not_false_eq_true, Nat.reduceLT, reduceCtorEq, g21] at q9
            exact q9 (by first | exact k20 | (simp only [mput, mrow_same, mrow_hit, mrow_miss, mrow_sw, idr_eq, ne_eq, Nat.reduceEqDiff, not_false_eq_true, Nat.reduceLT, reduceCtorEq]; exact k20))
          refine G.callV (as := [.ref 37, .int (x6 + (nI 1)), .int (M.1 36 (ix x6)), .int (x4 + (nI 1))]) (rest := []) (a := 33) oX9_doSteps lk_EvenFinders_Work_87 (by decide +kernel) rfl rfl ⟨rfl, rfl⟩ (Nat.le_of_ble_eq_true rfl) rfl ⟨Nat.le_of_ble_eq_true rfl, Nat.le_of_ble_eq_true rfl⟩ t27 (fun v9 N9 h28 => ?_) (fun E9 N9 h28 => by cases h28)
          cases h28
          show G z mX9_doSteps (d + 6) 0 0 100 [some (.ref 33), some (.ref 37), none, some (.int x3), some (.int x4), some (.int x5), some (.int x6), some (.int s7)] [] (mrow (mrow (mrow (mrow M 22 r23) 24 r24) 33 r25) 38 r26) Q
          refine G.sl [(.iinc 7 1, 3, 7, 0, 0, nI 1), (.goto (-45), 3, 58, 0, 0, 0)] [] (pc2 := 58) (ls2 := [some (.ref 33), some (.ref 37), none, some (.int x3), some (.int x4), some (.int x5), some (.int x6), some (.int (s7 + nI 1))]) (st2 := []) (M2 := mrow (mrow (mrow (mrow M 22 r23) 24 r24) 33 r25) 38 r26) (Ps := []) (by decide +kernel) rfl rfl trivial ?_
          simp only [x_doSteps_st_58, if_neg c18, if_neg c19, g21] at hX
          exact ih (s7 + nI 1) hk hX
noncomputable def x_doSteps_st_11 (fz : (Nat → Int32) → (Nat → Int32) → (Nat → Int32) → (Nat → Int32) → (Nat → Int32) → (Nat → Int32) → (Nat → Int32) → (Nat → Int32) → (Nat → Int32) → (Nat → Int32) → (Nat → Int32) → (Nat → Int32) → (Nat → Int32) → Int32 → Int32 → Int32 → Int32 × (Nat → Int32) × (Nat → Int32) × (Nat → Int32) × (Nat → Int32)) (gz : (Nat → Int32) → (Nat → Int32) → (Nat → Int32) → (Nat → Int32) → (Nat → Int32) → (Nat → Int32) → (Nat → Int32) → (Nat → Int32) → (Nat → Int32) → (Nat → Int32) → (Nat → Int32) → (Nat → Int32) → (Nat → Int32) → Int32 → Int32 → Int32 → Prop) (RroadA RroadB RroadLength Rworth Rlaw Rcodes Rkind Rfirst Rsecond : Nat → Int32) (nt nf : Nat) (x3 : Int32) (x4 : Int32) : Nat → Int32 → (Nat → Int32) → (Nat → Int32) → (Nat → Int32) → (Nat → Int32) → Int32 × (Nat → Int32) × (Nat → Int32) × (Nat → Int32) × (Nat → Int32)
  | 0, s5, q22, q24, q33, q38 => (s5, q22, q24, q33, q38)
  | k0 + 1, s5, q22, q24, q33, q38 => (if x3 ≤ s5 then (s5, q22, q24, q33, q38) else (if (nI 200) ≤ (q33 2) then (s5, q22, q24, q33, q38) else (if (Rkind (ix s5)) = (nI 5) then x_doSteps_st_11 fz gz RroadA RroadB RroadLength Rworth Rlaw Rcodes Rkind Rfirst Rsecond nt nf x3 x4 k0 (if (s5 + nI 1) < (Rsecond (ix s5)) then (Rsecond (ix s5)) else (s5 + nI 1)) q22 q24 (upd q33 2 ((q33 2) + (nI 1))) q38 else (match x_isDone (RroadA) (RroadB) (RroadLength) (Rworth) (Rlaw) q22 (Rcodes) q24 q38 nt nf (Rkind (ix s5)) (Rfirst (ix s5)) (Rsecond (ix s5)) with | (v9, r10, r11, r12) => (if v9 = 0 then x_doSteps_st_11 fz gz RroadA RroadB RroadLength Rworth Rlaw Rcodes Rkind Rfirst Rsecond nt nf x3 x4 k0 (s5 + nI 1) r10 r11 (upd (upd q33 2 ((q33 2) + (nI 1))) 1 ((q33 1) + (nI 1))) r12 else x_doSteps_st_11 fz gz RroadA RroadB RroadLength Rworth Rlaw Rcodes Rkind Rfirst Rsecond nt nf x3 x4 k0 (s5 + nI 1) r10 r11 (upd (upd q33 2 ((q33 2) + (nI 1))) 0 ((q33 0) + (nI 1))) r12)))))
noncomputable def x_doSteps_st_11_ok (fz : (Nat → Int32) → (Nat → Int32) → (Nat → Int32) → (Nat → Int32) → (Nat → Int32) → (Nat → Int32) → (Nat → Int32) → (Nat → Int32) → (Nat → Int32) → (Nat → Int32) → (Nat → Int32) → (Nat → Int32) → (Nat → Int32) → Int32 → Int32 → Int32 → Int32 × (Nat → Int32) × (Nat → Int32) × (Nat → Int32) × (Nat → Int32)) (gz : (Nat → Int32) → (Nat → Int32) → (Nat → Int32) → (Nat → Int32) → (Nat → Int32) → (Nat → Int32) → (Nat → Int32) → (Nat → Int32) → (Nat → Int32) → (Nat → Int32) → (Nat → Int32) → (Nat → Int32) → (Nat → Int32) → Int32 → Int32 → Int32 → Prop) (RroadA RroadB RroadLength Rworth Rlaw Rcodes Rkind Rfirst Rsecond : Nat → Int32) (nt nf : Nat) (x3 : Int32) (x4 : Int32) : Nat → Int32 → (Nat → Int32) → (Nat → Int32) → (Nat → Int32) → (Nat → Int32) → Prop
  | 0, _, _, _, _, _ => False
  | k0 + 1, s5, q22, q24, q33, q38 => (if x3 ≤ s5 then True else (if (nI 200) ≤ (q33 2) then True else ((isN s5) ∧ (ix s5 < 150) ∧ (if (Rkind (ix s5)) = (nI 5) then (x_doSteps_st_58_ok fz gz (upd q33 2 ((q33 2) + (nI 1))) (Rfirst) (Rsecond) x3 x4 (s5 + nI 1) s5 FU (nI 0) ∧ x_doSteps_st_11_ok fz gz RroadA RroadB RroadLength Rworth Rlaw Rcodes Rkind Rfirst Rsecond nt nf x3 x4 k0 (if (s5 + nI 1) < (Rsecond (ix s5)) then (Rsecond (ix s5)) else (s5 + nI 1)) q22 q24 (upd q33 2 ((q33 2) + (nI 1))) q38) else (x_isDone_ok (RroadA) (RroadB) (RroadLength) (Rworth) (Rlaw) q22 (Rcodes) q24 q38 nt nf (Rkind (ix s5)) (Rfirst (ix s5)) (Rsecond (ix s5)) ∧ (match x_isDone (RroadA) (RroadB) (RroadLength) (Rworth) (Rlaw) q22 (Rcodes) q24 q38 nt nf (Rkind (ix s5)) (Rfirst (ix s5)) (Rsecond (ix s5)) with | (v9, r10, r11, r12) => (if v9 = 0 then x_doSteps_st_11_ok fz gz RroadA RroadB RroadLength Rworth Rlaw Rcodes Rkind Rfirst Rsecond nt nf x3 x4 k0 (s5 + nI 1) r10 r11 (upd (upd q33 2 ((q33 2) + (nI 1))) 1 ((q33 1) + (nI 1))) r12 else x_doSteps_st_11_ok fz gz RroadA RroadB RroadLength Rworth Rlaw Rcodes Rkind Rfirst Rsecond nt nf x3 x4 k0 (s5 + nI 1) r10 r11 (upd (upd q33 2 ((q33 2) + (nI 1))) 0 ((q33 0) + (nI 1))) r12)))))))
set_option maxHeartbeats 4000000 in
set_option maxRecDepth 3000 in
theorem lp_x_doSteps_33_37_st_11 (z : Zp) (d : Nat) (M : Mem) (Q : Rs → Prop) (x3 : Int32) (x4 : Int32) (nt : Nat) (hnt : nt ≤ 10) (ht : M.1 3 2 = nI nt) (nf : Nat) (hnf : nf ≤ 6) (hf : M.1 3 3 = nI nf) (fz : (Nat → Int32) → (Nat → Int32) → (Nat → Int32) → (Nat → Int32) → (Nat → Int32) → (Nat → Int32) → (Nat → Int32) → (Nat → Int32) → (Nat → Int32) → (Nat → Int32) → (Nat → Int32) → (Nat → Int32) → (Nat → Int32) → Int32 → Int32 → Int32 → Int32 × (Nat → Int32) × (Nat → Int32) × (Nat → Int32) × (Nat → Int32)) (gz : (Nat → Int32) → (Nat → Int32) → (Nat → Int32) → (Nat → Int32) → (Nat → Int32) → (Nat → Int32) → (Nat → Int32) → (Nat → Int32) → (Nat → Int32) → (Nat → Int32) → (Nat → Int32) → (Nat → Int32) → (Nat → Int32) → Int32 → Int32 → Int32 → Prop) (Hz : ∀ (j : Nat) (M : Mem) (x2 : Int32) (x3 : Int32) (x4 : Int32), M.1 3 2 = nI nt → M.1 3 3 = nI nf → gz (M.1 4) (M.1 5) (M.1 6) (M.1 7) (M.1 21) (M.1 22) (M.1 23) (M.1 24) (M.1 33) (M.1 34) (M.1 35) (M.1 36) (M.1 38) x2 x3 x4 → GM z mX9_doSteps (d + j) [.ref 33, .ref 37, .int x2, .int x3, .int x4] M (fun rs => rs = .inl (none, mrow (mrow (mrow (mrow M 22 ((fz (M.1 4) (M.1 5) (M.1 6) (M.1 7) (M.1 21) (M.1 22) (M.1 23) (M.1 24) (M.1 33) (M.1 34) (M.1 35) (M.1 36) (M.1 38) x2 x3 x4).2.1)) 24 ((fz (M.1 4) (M.1 5) (M.1 6) (M.1 7) (M.1 21) (M.1 22) (M.1 23) (M.1 24) (M.1 33) (M.1 34) (M.1 35) (M.1 36) (M.1 38) x2 x3 x4).2.2.1)) 33 ((fz (M.1 4) (M.1 5) (M.1 6) (M.1 7) (M.1 21) (M.1 22) (M.1 23) (M.1 24) (M.1 33) (M.1 34) (M.1 35) (M.1 36) (M.1 38) x2 x3 x4).2.2.2.1)) 38 ((fz (M.1 4) (M.1 5) (M.1 6) (M.1 7) (M.1 21) (M.1 22) (M.1 23) (M.1 24) (M.1 33) (M.1 34) (M.1 35) (M.1 36) (M.1 38) x2 x3 x4).2.2.2.2)))) : ∀ (k0 : Nat) (s5 : Int32) (q22 : (Nat → Int32)) (q24 : (Nat → Int32)) (q33 : (Nat → Int32)) (q38 : (Nat → Int32)), x_doSteps_st_11_ok fz gz (M.1 4) (M.1 5) (M.1 6) (M.1 7) (M.1 21) (M.1 23) (M.1 34) (M.1 35) (M.1 36) nt nf x3 x4 k0 s5 q22 q24 q33 q38 → (match x_doSteps_st_11 fz gz (M.1 4) (M.1 5) (M.1 6) (M.1 7) (M.1 21) (M.1 23) (M.1 34) (M.1 35) (M.1 36) nt nf x3 x4 k0 s5 q22 q24 q33 q38 with | (s5', q22', q24', q33', q38') => G z mX9_doSteps (d + 6) 0 0 177 [none, none, none, none, none, none, none, none] [] (mrow (mrow (mrow (mrow M 22 (q22')) 24 (q24')) 33 (q33')) 38 (q38')) Q) → G z mX9_doSteps (d + 6) 0 0 11 [some (.ref 33), some (.ref 37), none, some (.int x3), some (.int x4), some (.int s5), none, none] [] (mrow (mrow (mrow (mrow M 22 q22) 24 q24) 33 q33) 38 q38) Q := by
  intro k0
  induction k0 with
  | zero =>
      intro s5 q22 q24 q33 q38 hk hX
      exact (by simpa only [x_doSteps_st_11_ok] using hk : False).elim
  | succ k0 ih =>
      intro s5 q22 q24 q33 q38 hk hX
      simp only [x_doSteps_st_11_ok] at hk
      refine G.sl [(.iload 5, 2, 5, 0, 0, 0), (.iload_n 3, 1, 3, 0, 0, 0)] [] (pc2 := 14) (ls2 := [some (.ref 33), some (.ref 37), none, some (.int x3), some (.int x4), some (.int s5), none, none]) (st2 := [.int x3, .int s5]) (M2 := mrow (mrow (mrow (mrow M 22 q22) 24 q24) 33 q33) 38 q38) (Ps := []) (by decide +kernel) rfl rfl trivial ?_
      refine G.ic_ge (off := (163)) (tgt := 177) (by decide +kernel) rfl (fun c2 => ?_) (fun c2 => ?_)
      · skip
        rw [if_pos c2] at hk
        refine G.loc (ls2 := [none, none, none, none, none, none, none, none]) (by simp [subL]) ?_
        simp only [x_doSteps_st_11, if_pos c2] at hX
        exact hX
      · skip
        rw [if_neg c2] at hk
        refine G.sl [(.aload_n 0, 1, 0, 0, 0, 0), (.getfield 78, 3, 8, 2, 67, 0), (.sipush 200, 3, 0, 0, 0, nI 200)] [] (pc2 := 24) (ls2 := [some (.ref 33), some (.ref 37), none, some (.int x3), some (.int x4), some (.int s5), none, none]) (st2 := [.int (nI 200), .int (q33 2)]) (M2 := mrow (mrow (mrow (mrow M 22 q22) 24 q24) 33 q33) 38 q38) (Ps := []) (by decide +kernel) rfl rfl trivial ?_
        refine G.ic_ge (off := (153)) (tgt := 177) (by decide +kernel) rfl (fun c3 => ?_) (fun c3 => ?_)
        · skip
          rw [if_pos c3] at hk
          refine G.loc (ls2 := [none, none, none, none, none, none, none, none]) (by simp [subL]) ?_
          simp only [x_doSteps_st_11, if_neg c2, if_pos c3] at hX
          exact hX
        · skip
          rw [if_neg c3] at hk
          obtain ⟨k4, k5, hk⟩ := hk
          refine G.sl [(.aload_n 0, 1, 0, 0, 0, 0), (.dup, 1, 0, 0, 0, 0), (.getfield 78, 3, 8, 2, 67, 0), (.iconst 1, 1, 0, 0, 0, nI 1), (.iadd, 1, 0, 0, 0, 0), (.putfield 78, 3, 8, 2, 67, 0), (.iload 5, 2, 5, 0, 0, 0), (.istore 6, 2, 6, 0, 0, 0), (.iinc 5 1, 3, 5, 0, 0, nI 1), (.aload_n 0, 1, 0, 0, 0, 0), (.getfield 9, 3, 8, 5, 70, 0), (.iload 6, 2, 6, 0, 0, 0), (.iaload, 1, 0, 0, 0, 0), (.iconst 5, 1, 0, 0, 0, nI 5)] [ix s5] (pc2 := 52) (ls2 := [some (.ref 33), some (.ref 37), none, some (.int x3), some (.int x4), some (.int (s5 + nI 1)), some (.int s5), none]) (st2 := [.int (nI 5), .int (M.1 34 (ix s5))]) (M2 := mput (mrow (mrow (mrow (mrow M 22 q22) 24 q24) 33 q33) 38 q38) 33 2 ((q33 2) + (nI 1))) (Ps := [s5 = nI (ix s5) ∧ (ix s5) < 150]) (by decide +kernel) rfl rfl ⟨⟨(ixE k4), k5⟩, trivial⟩ ?_
          refine G.mem (M' := mrow (mrow (mrow (mrow M 22 q22) 24 q24) 33 (upd q33 2 ((q33 2) + (nI 1)))) 38 q38) (by first | rfl | (simp only [mput, mrow_same, mrow_hit, mrow_miss, mrow_sw, idr_eq, ne_eq, Nat.reduceEqDiff, not_false_eq_true, Nat.reduceLT, reduceCtorEq]; done)) ?_
          refine G.ic_ne (off := (71)) (tgt := 123) (by decide +kernel) rfl (fun c6 => ?_) (fun c6 => ?_)
          · skip
            rw [if_neg c6] at hk
            refine G.sl [(.aload_n 1, 1, 1, 0, 0, 0), (.aload_n 0, 1, 0, 0, 0, 0), (.getfield 9, 3, 8, 5, 70, 0), (.iload 6, 2, 6, 0, 0, 0), (.iaload, 1, 0, 0, 0, 0), (.aload_n 0, 1, 0, 0, 0, 0), (.getfield 15, 3, 8, 6, 71, 0), (.iload 6, 2, 6, 0, 0, 0), (.iaload, 1, 0, 0, 0, 0), (.aload_n 0, 1, 0, 0, 0, 0), (.getfield 18, 3, 8, 7, 72, 0), (.iload 6, 2, 6, 0, 0, 0), (.iaload, 1, 0, 0, 0, 0)] [ix s5, ix s5, ix s5] (pc2 := 145) (ls2 := [some (.ref 33), some (.ref 37), none, some (.int x3), some (.int x4), some (.int (s5 + nI 1)), some (.int s5), none]) (st2 := [.int (M.1 36 (ix s5)), .int (M.1 35 (ix s5)), .int (M.1 34 (ix s5)), .ref 37]) (M2 := mrow (mrow (mrow (mrow M 22 q22) 24 q24) 33 (upd q33 2 ((q33 2) + (nI 1)))) 38 q38) (Ps := [s5 = nI (ix s5) ∧ (ix s5) < 150, s5 = nI (ix s5) ∧ (ix s5) < 150, s5 = nI (ix s5) ∧ (ix s5) < 150]) (by decide +kernel) rfl rfl ⟨⟨(ixE k4), k5⟩, ⟨(ixE k4), k5⟩, ⟨(ixE k4), k5⟩, trivial⟩ ?_
            obtain ⟨k7, hk⟩ := hk
            rcases g8 : x_isDone (M.1 4) (M.1 5) (M.1 6) (M.1 7) (M.1 21) q22 (M.1 23) q24 q38 nt nf (M.1 34 (ix s5)) (M.1 35 (ix s5)) (M.1 36 (ix s5)) with ⟨v9, r10, r11, r12⟩
            try simp only [g8] at hk
            have ev9 : v9 = 0 ∨ v9 = 1 := by
              have q9 := x_isDone_01 (M.1 4) (M.1 5) (M.1 6) (M.1 7) (M.1 21) q22 (M.1 23) q24 q38 nt nf (M.1 34 (ix s5)) (M.1 35 (ix s5)) (M.1 36 (ix s5))
              rw [g8] at q9
              exact q9
            have t13 : GM z mX9_isDone (d + 5) [.ref 37, .int (M.1 34 (ix s5)), .int (M.1 35 (ix s5)), .int (M.1 36 (ix s5))] (mrow (mrow (mrow (mrow M 22 q22) 24 q24) 33 (upd q33 2 ((q33 2) + (nI 1)))) 38 q38) (fun rs => rs = .inl (some (.int v9), mrow (mrow (mrow (mrow M 22 r10) 24 r11) 33 (upd q33 2 ((q33 2) + (nI 1)))) 38 r12)) := by
              have q9 := c_x_isDone_37 z d (mrow (mrow (mrow (mrow M 22 q22) 24 q24) 33 (upd q33 2 ((q33 2) + (nI 1)))) 38 q38) (M.1 34 (ix s5)) (M.1 35 (ix s5)) (M.1 36 (ix s5)) nt hnt ht nf hnf hf k7
              try simp only [mput, mrow_same, mrow_hit, mrow_miss, mrow_sw, idr_eq, ne_eq, Nat.reduceEqDiff, not_false_eq_true, Nat.reduceLT, reduceCtorEq, g8] at q9
              exact q9
            refine G.callS (as := [.ref 37, .int (M.1 34 (ix s5)), .int (M.1 35 (ix s5)), .int (M.1 36 (ix s5))]) (rest := []) oX9_isDone lk_EvenFinders_Work_96 (by decide +kernel) rfl (Nat.le_of_ble_eq_true rfl) rfl ⟨Nat.le_of_ble_eq_true rfl, Nat.le_of_ble_eq_true rfl⟩ t13 (fun v9 N9 h14 => ?_) (fun E9 N9 h14 => by cases h14)
            cases h14
            show G z mX9_doSteps (d + 6) 0 0 148 [some (.ref 33), some (.ref 37), none, some (.int x3), some (.int x4), some (.int (s5 + nI 1)), some (.int s5), none] [.int v9] (mrow (mrow (mrow (mrow M 22 r10) 24 r11) 33 (upd q33 2 ((q33 2) + (nI 1)))) 38 r12) Q
            refine G.if_eq (off := (16)) (tgt := 164) (by decide +kernel) rfl (fun c15 => ?_) (fun c15 => ?_)
            · skip
              rw [if_pos c15] at hk
              refine G.sl [(.aload_n 0, 1, 0, 0, 0, 0), (.dup, 1, 0, 0, 0, 0), (.getfield 84, 3, 8, 1, 66, 0), (.iconst 1, 1, 0, 0, 0, nI 1), (.iadd, 1, 0, 0, 0, 0), (.putfield 84, 3, 8, 1, 66, 0), (.goto (-163), 3, 11, 0, 0, 0)] [] (pc2 := 11) (ls2 := [some (.ref 33), some (.ref 37), none, some (.int x3), some (.int x4), some (.int (s5 + nI 1)), some (.int s5), none]) (st2 := []) (M2 := mput (mrow (mrow (mrow (mrow M 22 r10) 24 r11) 33 (upd q33 2 ((q33 2) + (nI 1)))) 38 r12) 33 1 ((q33 1) + (nI 1))) (Ps := []) (by decide +kernel) rfl rfl trivial ?_
              refine G.mem (M' := mrow (mrow (mrow (mrow M 22 r10) 24 r11) 33 (upd (upd q33 2 ((q33 2) + (nI 1))) 1 ((q33 1) + (nI 1)))) 38 r12) (by first | rfl | (simp only [mput, mrow_same, mrow_hit, mrow_miss, mrow_sw, idr_eq, ne_eq, Nat.reduceEqDiff, not_false_eq_true, Nat.reduceLT, reduceCtorEq]; done)) ?_
              refine G.loc (ls2 := [some (.ref 33), some (.ref 37), none, some (.int x3), some (.int x4), some (.int (s5 + nI 1)), none, none]) (by simp [subL]) ?_
              simp only [x_doSteps_st_11, if_neg c2, if_neg c3, if_neg c6, g8, if_pos c15] at hX
              exact ih (s5 + nI 1) r10 r11 (upd (upd q33 2 ((q33 2) + (nI 1))) 1 ((q33 1) + (nI 1))) r12 hk hX
            · skip
              rw [if_neg c15] at hk
              refine G.sl [(.aload_n 0, 1, 0, 0, 0, 0), (.dup, 1, 0, 0, 0, 0), (.getfield 81, 3, 8, 0, 64, 0), (.iconst 1, 1, 0, 0, 0, nI 1), (.iadd, 1, 0, 0, 0, 0), (.putfield 81, 3, 8, 0, 64, 0), (.goto 13, 3, 174, 0, 0, 0), (.goto (-163), 3, 11, 0, 0, 0)] [] (pc2 := 11) (ls2 := [some (.ref 33), some (.ref 37), none, some (.int x3), some (.int x4), some (.int (s5 + nI 1)), some (.int s5), none]) (st2 := []) (M2 := mput (mrow (mrow (mrow (mrow M 22 r10) 24 r11) 33 (upd q33 2 ((q33 2) + (nI 1)))) 38 r12) 33 0 ((q33 0) + (nI 1))) (Ps := []) (by decide +kernel) rfl rfl trivial ?_
              refine G.mem (M' := mrow (mrow (mrow (mrow M 22 r10) 24 r11) 33 (upd (upd q33 2 ((q33 2) + (nI 1))) 0 ((q33 0) + (nI 1)))) 38 r12) (by first | rfl | (simp only [mput, mrow_same, mrow_hit, mrow_miss, mrow_sw, idr_eq, ne_eq, Nat.reduceEqDiff, not_false_eq_true, Nat.reduceLT, reduceCtorEq]; done)) ?_
              refine G.loc (ls2 := [some (.ref 33), some (.ref 37), none, some (.int x3), some (.int x4), some (.int (s5 + nI 1)), none, none]) (by simp [subL]) ?_
              simp only [x_doSteps_st_11, if_neg c2, if_neg c3, if_neg c6, g8, if_neg c15] at hX
              exact ih (s5 + nI 1) r10 r11 (upd (upd q33 2 ((q33 2) + (nI 1))) 0 ((q33 0) + (nI 1))) r12 hk hX
          · skip
            rw [if_pos c6] at hk
            refine G.sl [(.iconst 0, 1, 0, 0, 0, nI 0), (.istore 7, 2, 7, 0, 0, 0)] [] (pc2 := 58) (ls2 := [some (.ref 33), some (.ref 37), none, some (.int x3), some (.int x4), some (.int (s5 + nI 1)), some (.int s5), some (.int (nI 0))]) (st2 := []) (M2 := mrow (mrow (mrow (mrow M 22 q22) 24 q24) 33 (upd q33 2 ((q33 2) + (nI 1)))) 38 q38) (Ps := []) (by decide +kernel) rfl rfl trivial ?_
            obtain ⟨k29, hk⟩ := hk
            refine lp_x_doSteps_33_37_st_58 z d (mrow (mrow (mrow (mrow M 22 q22) 24 q24) 33 (upd q33 2 ((q33 2) + (nI 1)))) 38 q38) Q x3 x4 (s5 + nI 1) s5 nt hnt ht nf hnf hf fz gz Hz FU (nI 0) (by first | (simp only [mput, mrow_same, mrow_hit, mrow_miss, mrow_sw, idr_eq, ne_eq, Nat.reduceEqDiff, not_false_eq_true, Nat.reduceLT, reduceCtorEq]; exact k29) | exact k29) ?_
            try simp only [mput, mrow_same, mrow_hit, mrow_miss, mrow_sw, idr_eq, ne_eq, Nat.reduceEqDiff, not_false_eq_true, Nat.reduceLT, reduceCtorEq]
            show G z mX9_doSteps (d + 6) 0 0 106 [some (.ref 33), some (.ref 37), none, some (.int x3), some (.int x4), some (.int (s5 + nI 1)), some (.int s5), none] [] (mrow (mrow (mrow (mrow M 22 q22) 24 q24) 33 (upd q33 2 ((q33 2) + (nI 1)))) 38 q38) Q
            refine G.sl [(.iload 5, 2, 5, 0, 0, 0), (.aload_n 0, 1, 0, 0, 0, 0), (.getfield 18, 3, 8, 7, 72, 0), (.iload 6, 2, 6, 0, 0, 0), (.iaload, 1, 0, 0, 0, 0)] [ix s5] (pc2 := 115) (ls2 := [some (.ref 33), some (.ref 37), none, some (.int x3), some (.int x4), some (.int (s5 + nI 1)), some (.int s5), none]) (st2 := [.int (M.1 36 (ix s5)), .int (s5 + nI 1)]) (M2 := mrow (mrow (mrow (mrow M 22 q22) 24 q24) 33 (upd q33 2 ((q33 2) + (nI 1)))) 38 q38) (Ps := [s5 = nI (ix s5) ∧ (ix s5) < 150]) (by decide +kernel) rfl rfl ⟨⟨(ixE k4), k5⟩, trivial⟩ ?_
            refine G.mmax lm_EvenFinders_Work_91 (by decide +kernel) (Nat.le_of_ble_eq_true rfl) (Nat.le_of_ble_eq_true rfl) (Nat.le_of_ble_eq_true rfl) ?_
            refine G.sl [(.istore 5, 2, 5, 0, 0, 0), (.goto 54, 3, 174, 0, 0, 0), (.goto (-163), 3, 11, 0, 0, 0)] [] (pc2 := 11) (ls2 := [some (.ref 33), some (.ref 37), none, some (.int x3), some (.int x4), some (.int (if (s5 + nI 1) < (M.1 36 (ix s5)) then (M.1 36 (ix s5)) else (s5 + nI 1))), some (.int s5), none]) (st2 := []) (M2 := mrow (mrow (mrow (mrow M 22 q22) 24 q24) 33 (upd q33 2 ((q33 2) + (nI 1)))) 38 q38) (Ps := []) (by decide +kernel) rfl rfl trivial ?_
            refine G.loc (ls2 := [some (.ref 33), some (.ref 37), none, some (.int x3), some (.int x4), some (.int (if (s5 + nI 1) < (M.1 36 (ix s5)) then (M.1 36 (ix s5)) else (s5 + nI 1))), none, none]) (by simp [subL]) ?_
            simp only [x_doSteps_st_11, if_neg c2, if_neg c3, if_pos c6] at hX
            exact ih (if (s5 + nI 1) < (M.1 36 (ix s5)) then (M.1 36 (ix s5)) else (s5 + nI 1)) q22 q24 (upd q33 2 ((q33 2) + (nI 1))) q38 hk hX
noncomputable def x_doSteps_st (fz : (Nat → Int32) → (Nat → Int32) → (Nat → Int32) → (Nat → Int32) → (Nat → Int32) → (Nat → Int32) → (Nat → Int32) → (Nat → Int32) → (Nat → Int32) → (Nat → Int32) → (Nat → Int32) → (Nat → Int32) → (Nat → Int32) → Int32 → Int32 → Int32 → Int32 × (Nat → Int32) × (Nat → Int32) × (Nat → Int32) × (Nat → Int32)) (RroadA RroadB RroadLength Rworth Rlaw Rgiven Rcodes Rvalues Rwork Rkind Rfirst Rsecond Rrow : Nat → Int32) (nt nf : Nat) (x2 : Int32) (x3 : Int32) (x4 : Int32) : Int32 × (Nat → Int32) × (Nat → Int32) × (Nat → Int32) × (Nat → Int32) := (if x4 ≤ (nI 6) then (match x_doSteps_st_11 fz gz (RroadA) (RroadB) (RroadLength) (Rworth) (Rlaw) (Rcodes) (Rkind) (Rfirst) (Rsecond) nt nf x3 x4 FU x2 (Rgiven) (Rvalues) (Rwork) (Rrow) with | (v32, r33, r34, r35, r36) => (0, r33, r34, r35, r36)) else (0, Rgiven, Rvalues, Rwork, Rrow))
noncomputable def x_doSteps_st_ok (fz : (Nat → Int32) → (Nat → Int32) → (Nat → Int32) → (Nat → Int32) → (Nat → Int32) → (Nat → Int32) → (Nat → Int32) → (Nat → Int32) → (Nat → Int32) → (Nat → Int32) → (Nat → Int32) → (Nat → Int32) → (Nat → Int32) → Int32 → Int32 → Int32 → Int32 × (Nat → Int32) × (Nat → Int32) × (Nat → Int32) × (Nat → Int32)) (gz : (Nat → Int32) → (Nat → Int32) → (Nat → Int32) → (Nat → Int32) → (Nat → Int32) → (Nat → Int32) → (Nat → Int32) → (Nat → Int32) → (Nat → Int32) → (Nat → Int32) → (Nat → Int32) → (Nat → Int32) → (Nat → Int32) → Int32 → Int32 → Int32 → Prop) (RroadA RroadB RroadLength Rworth Rlaw Rgiven Rcodes Rvalues Rwork Rkind Rfirst Rsecond Rrow : Nat → Int32) (nt nf : Nat) (x2 : Int32) (x3 : Int32) (x4 : Int32) : Prop := (if x4 ≤ (nI 6) then (x_doSteps_st_11_ok fz gz (RroadA) (RroadB) (RroadLength) (Rworth) (Rlaw) (Rcodes) (Rkind) (Rfirst) (Rsecond) nt nf x3 x4 FU x2 (Rgiven) (Rvalues) (Rwork) (Rrow) ∧ True) else True)
set_option maxHeartbeats 4000000 in
set_option maxRecDepth 3000 in
theorem c_x_doSteps_33_37_st (z : Zp) (d : Nat) (M : Mem) (x2 : Int32) (x3 : Int32) (x4 : Int32) (nt : Nat) (hnt : nt ≤ 10) (ht : M.1 3 2 = nI nt) (nf : Nat) (hnf : nf ≤ 6) (hf : M.1 3 3 = nI nf) (fz : (Nat → Int32) → (Nat → Int32) → (Nat → Int32) → (Nat → Int32) → (Nat → Int32) → (Nat → Int32) → (Nat → Int32) → (Nat → Int32) → (Nat → Int32) → (Nat → Int32) → (Nat → Int32) → (Nat → Int32) → (Nat → Int32) → Int32 → Int32 → Int32 → Int32 × (Nat → Int32) × (Nat → Int32) × (Nat → Int32) × (Nat → Int32)) (gz : (Nat → Int32) → (Nat → Int32) → (Nat → Int32) → (Nat → Int32) → (Nat → Int32) → (Nat → Int32) → (Nat → Int32) → (Nat → Int32) → (Nat → Int32) → (Nat → Int32) → (Nat → Int32) → (Nat → Int32) → (Nat → Int32) → Int32 → Int32 → Int32 → Prop) (Hz : ∀ (j : Nat) (M : Mem) (x2 : Int32) (x3 : Int32) (x4 : Int32), M.1 3 2 = nI nt → M.1 3 3 = nI nf → gz (M.1 4) (M.1 5) (M.1 6) (M.1 7) (M.1 21) (M.1 22) (M.1 23) (M.1 24) (M.1 33) (M.1 34) (M.1 35) (M.1 36) (M.1 38) x2 x3 x4 → GM z mX9_doSteps (d + j) [.ref 33, .ref 37, .int x2, .int x3, .int x4] M (fun rs => rs = .inl (none, mrow (mrow (mrow (mrow M 22 ((fz (M.1 4) (M.1 5) (M.1 6) (M.1 7) (M.1 21) (M.1 22) (M.1 23) (M.1 24) (M.1 33) (M.1 34) (M.1 35) (M.1 36) (M.1 38) x2 x3 x4).2.1)) 24 ((fz (M.1 4) (M.1 5) (M.1 6) (M.1 7) (M.1 21) (M.1 22) (M.1 23) (M.1 24) (M.1 33) (M.1 34) (M.1 35) (M.1 36) (M.1 38) x2 x3 x4).2.2.1)) 33 ((fz (M.1 4) (M.1 5) (M.1 6) (M.1 7) (M.1 21) (M.1 22) (M.1 23) (M.1 24) (M.1 33) (M.1 34) (M.1 35) (M.1 36) (M.1 38) x2 x3 x4).2.2.2.1)) 38 ((fz (M.1 4) (M.1 5) (M.1 6) (M.1 7) (M.1 21) (M.1 22) (M.1 23) (M.1 24) (M.1 33) (M.1 34) (M.1 35) (M.1 36) (M.1 38) x2 x3 x4).2.2.2.2)))) (hk : x_doSteps_st_ok fz gz (M.1 4) (M.1 5) (M.1 6) (M.1 7) (M.1 21) (M.1 22) (M.1 23) (M.1 24) (M.1 33) (M.1 34) (M.1 35) (M.1 36) (M.1 38) nt nf x2 x3 x4) : GM z mX9_doSteps (d + 6) [.ref 33, .ref 37, .int x2, .int x3, .int x4] M (fun rs => rs = .inl (none, mrow (mrow (mrow (mrow M 22 ((x_doSteps_st fz (M.1 4) (M.1 5) (M.1 6) (M.1 7) (M.1 21) (M.1 22) (M.1 23) (M.1 24) (M.1 33) (M.1 34) (M.1 35) (M.1 36) (M.1 38) nt nf x2 x3 x4).2.1)) 24 ((x_doSteps_st fz (M.1 4) (M.1 5) (M.1 6) (M.1 7) (M.1 21) (M.1 22) (M.1 23) (M.1 24) (M.1 33) (M.1 34) (M.1 35) (M.1 36) (M.1 38) nt nf x2 x3 x4).2.2.1)) 33 ((x_doSteps_st fz (M.1 4) (M.1 5) (M.1 6) (M.1 7) (M.1 21) (M.1 22) (M.1 23) (M.1 24) (M.1 33) (M.1 34) (M.1 35) (M.1 36) (M.1 38) nt nf x2 x3 x4).2.2.2.1)) 38 ((x_doSteps_st fz (M.1 4) (M.1 5) (M.1 6) (M.1 7) (M.1 21) (M.1 22) (M.1 23) (M.1 24) (M.1 33) (M.1 34) (M.1 35) (M.1 36) (M.1 38) nt nf x2 x3 x4).2.2.2.2))) := by
  simp only [x_doSteps_st_ok] at hk
  refine GM.of oX9_doSteps.1 (Nat.le_of_ble_eq_true rfl) ?_
  show G z mX9_doSteps (d + 6) 0 0 0 [some (.ref 33), some (.ref 37), some (.int x2), some (.int x3), some (.int x4), none, none, none] [] M _
  obtain ⟨Q, hQ⟩ : ∃ Q : Rs → Prop, Q = (fun rs => rs = .inl (none, mrow (mrow (mrow (mrow M 22 ((x_doSteps_st fz (M.1 4) (M.1 5) (M.1 6) (M.1 7) (M.1 21) (M.1 22) (M.1 23) (M.1 24) (M.1 33) (M.1 34) (M.1 35) (M.1 36) (M.1 38) nt nf x2 x3 x4).2.1)) 24 ((x_doSteps_st fz (M.1 4) (M.1 5) (M.1 6) (M.1 7) (M.1 21) (M.1 22) (M.1 23) (M.1 24) (M.1 33) (M.1 34) (M.1 35) (M.1 36) (M.1 38) nt nf x2 x3 x4).2.2.1)) 33 ((x_doSteps_st fz (M.1 4) (M.1 5) (M.1 6) (M.1 7) (M.1 21) (M.1 22) (M.1 23) (M.1 24) (M.1 33) (M.1 34) (M.1 35) (M.1 36) (M.1 38) nt nf x2 x3 x4).2.2.2.1)) 38 ((x_doSteps_st fz (M.1 4) (M.1 5) (M.1 6) (M.1 7) (M.1 21) (M.1 22) (M.1 23) (M.1 24) (M.1 33) (M.1 34) (M.1 35) (M.1 36) (M.1 38) nt nf x2 x3 x4).2.2.2.2))) := ⟨_, rfl⟩
  rw [← hQ]
  refine G.sl [(.iload 4, 2, 4, 0, 0, 0), (.bipush 6, 2, 0, 0, 0, nI 6)] [] (pc2 := 4) (ls2 := [some (.ref 33), some (.ref 37), some (.int x2), some (.int x3), some (.int x4), none, none, none]) (st2 := [.int (nI 6), .int x4]) (M2 := M) (Ps := []) (by decide +kernel) rfl rfl trivial ?_
  refine G.ic_le (off := (4)) (tgt := 8) (by decide +kernel) rfl (fun c1 => ?_) (fun c1 => ?_)
  · skip
    rw [if_pos c1] at hk
    refine G.sl [(.iload_n 2, 1, 2, 0, 0, 0), (.istore 5, 2, 5, 0, 0, 0)] [] (pc2 := 11) (ls2 := [some (.ref 33), some (.ref 37), some (.int x2), some (.int x3), some (.int x4), some (.int x2), none, none]) (st2 := []) (M2 := M) (Ps := []) (by decide +kernel) rfl rfl trivial ?_
    refine G.loc (ls2 := [some (.ref 33), some (.ref 37), none, some (.int x3), some (.int x4), some (.int x2), none, none]) (by simp [subL]) ?_
    obtain ⟨k30, hk⟩ := hk
    refine G.mem (M' := mrow (mrow (mrow (mrow M 22 (M.1 22)) 24 (M.1 24)) 33 (M.1 33)) 38 (M.1 38)) (by simp only [mrow_self]) ?_
    refine lp_x_doSteps_33_37_st_11 z d M Q x3 x4 nt hnt ht nf hnf hf fz gz Hz FU x2 (M.1 22) (M.1 24) (M.1 33) (M.1 38) (by first | (simp only [mput, mrow_same, mrow_hit, mrow_miss, mrow_sw, idr_eq, ne_eq, Nat.reduceEqDiff, not_false_eq_true, Nat.reduceLT, reduceCtorEq]; exact k30) | exact k30) ?_
    try simp only [mput, mrow_same, mrow_hit, mrow_miss, mrow_sw, idr_eq, ne_eq, Nat.reduceEqDiff, not_false_eq_true, Nat.reduceLT, reduceCtorEq]
    rcases g31 : x_doSteps_st_11 fz gz (M.1 4) (M.1 5) (M.1 6) (M.1 7) (M.1 21) (M.1 23) (M.1 34) (M.1 35) (M.1 36) nt nf x3 x4 FU x2 (M.1 22) (M.1 24) (M.1 33) (M.1 38) with ⟨v32, r33, r34, r35, r36⟩
    show G z mX9_doSteps (d + 6) 0 0 177 [none, none, none, none, none, none, none, none] [] (mrow (mrow (mrow (mrow M 22 r33) 24 r34) 33 r35) 38 r36) Q
    exact G.retv (by decide +kernel) rfl (Nat.le_of_ble_eq_true rfl) (Nat.le_of_ble_eq_true rfl) ((by rw [hQ]; simp only [x_doSteps_st, if_pos c1, g31, mrow_self]))
  · skip
    rw [if_neg c1] at hk
    refine G.mem (M' := mrow (mrow (mrow (mrow M 22 (M.1 22)) 24 (M.1 24)) 33 (M.1 33)) 38 (M.1 38)) ((((((mrow_id (N := M) (c := 22) (f := M.1 22) (by first | rfl | (simp only [mput, mrow_same, mrow_hit, mrow_miss, mrow_sw, idr_eq, ne_eq, Nat.reduceEqDiff, not_false_eq_true, Nat.reduceLT, reduceCtorEq]; done))).symm).trans (mrow_id (N := mrow M 22 (M.1 22)) (c := 24) (f := M.1 24) (by first | rfl | (simp only [mput, mrow_same, mrow_hit, mrow_miss, mrow_sw, idr_eq, ne_eq, Nat.reduceEqDiff, not_false_eq_true, Nat.reduceLT, reduceCtorEq]; done))).symm).trans (mrow_id (N := mrow (mrow M 22 (M.1 22)) 24 (M.1 24)) (c := 33) (f := M.1 33) (by first | rfl | (simp only [mput, mrow_same, mrow_hit, mrow_miss, mrow_sw, idr_eq, ne_eq, Nat.reduceEqDiff, not_false_eq_true, Nat.reduceLT, reduceCtorEq]; done))).symm).trans (mrow_id (N := mrow (mrow (mrow M 22 (M.1 22)) 24 (M.1 24)) 33 (M.1 33)) (c := 38) (f := M.1 38) (by first | rfl | (simp only [mput, mrow_same, mrow_hit, mrow_miss, mrow_sw, idr_eq, ne_eq, Nat.reduceEqDiff, not_false_eq_true, Nat.reduceLT, reduceCtorEq]; done))).symm).trans (by first | rfl | (simp only [mput, mrow_same, mrow_hit, mrow_miss, mrow_sw, idr_eq, ne_eq, Nat.reduceEqDiff, not_false_eq_true, Nat.reduceLT, reduceCtorEq]; done))) ?_
    exact G.retv (by decide +kernel) rfl (Nat.le_of_ble_eq_true rfl) (Nat.le_of_ble_eq_true rfl) ((by rw [hQ]; simp only [x_doSteps_st, if_neg c1, mrow_self]))
noncomputable def x_doSteps_rec (nt nf : Nat) : Nat → (Nat → Int32) → (Nat → Int32) → (Nat → Int32) → (Nat → Int32) → (Nat → Int32) → (Nat → Int32) → (Nat → Int32) → (Nat → Int32) → (Nat → Int32) → (Nat → Int32) → (Nat → Int32) → (Nat → Int32) → (Nat → Int32) → Int32 → Int32 → Int32 → Int32 × (Nat → Int32) × (Nat → Int32) × (Nat → Int32) × (Nat → Int32)
  | 0, RroadA, RroadB, RroadLength, Rworth, Rlaw, Rgiven, Rcodes, Rvalues, Rwork, Rkind, Rfirst, Rsecond, Rrow, x2, x3, x4 => (0, Rgiven, Rvalues, Rwork, Rrow)
  | k0 + 1, RroadA, RroadB, RroadLength, Rworth, Rlaw, Rgiven, Rcodes, Rvalues, Rwork, Rkind, Rfirst, Rsecond, Rrow, x2, x3, x4 => x_doSteps_st (x_doSteps_rec nt nf k0) RroadA RroadB RroadLength Rworth Rlaw Rgiven Rcodes Rvalues Rwork Rkind Rfirst Rsecond Rrow nt nf x2 x3 x4
noncomputable def x_doSteps_rec_ok (nt nf : Nat) : Nat → (Nat → Int32) → (Nat → Int32) → (Nat → Int32) → (Nat → Int32) → (Nat → Int32) → (Nat → Int32) → (Nat → Int32) → (Nat → Int32) → (Nat → Int32) → (Nat → Int32) → (Nat → Int32) → (Nat → Int32) → (Nat → Int32) → Int32 → Int32 → Int32 → Prop
  | 0, _, _, _, _, _, _, _, _, _, _, _, _, _, _, _, _ => False
  | k0 + 1, RroadA, RroadB, RroadLength, Rworth, Rlaw, Rgiven, Rcodes, Rvalues, Rwork, Rkind, Rfirst, Rsecond, Rrow, x2, x3, x4 => x_doSteps_st_ok (x_doSteps_rec nt nf k0) (x_doSteps_rec_ok nt nf k0) RroadA RroadB RroadLength Rworth Rlaw Rgiven Rcodes Rvalues Rwork Rkind Rfirst Rsecond Rrow nt nf x2 x3 x4
noncomputable def x_doSteps (RroadA RroadB RroadLength Rworth Rlaw Rgiven Rcodes Rvalues Rwork Rkind Rfirst Rsecond Rrow : Nat → Int32) (nt nf : Nat) (x2 : Int32) (x3 : Int32) (x4 : Int32) : Int32 × (Nat → Int32) × (Nat → Int32) × (Nat → Int32) × (Nat → Int32) := x_doSteps_rec nt nf 10 RroadA RroadB RroadLength Rworth Rlaw Rgiven Rcodes Rvalues Rwork Rkind Rfirst Rsecond Rrow x2 x3 x4
noncomputable def x_doSteps_ok (RroadA RroadB RroadLength Rworth Rlaw Rgiven Rcodes Rvalues Rwork Rkind Rfirst Rsecond Rrow : Nat → Int32) (nt nf : Nat) (x2 : Int32) (x3 : Int32) (x4 : Int32) : Prop := x_doSteps_rec_ok nt nf 10 RroadA RroadB RroadLength Rworth Rlaw Rgiven Rcodes Rvalues Rwork Rkind Rfirst Rsecond Rrow x2 x3 x4
theorem c_x_doSteps_33_37_rec (z : Zp) (nt : Nat) (hnt : nt ≤ 10) (nf : Nat) (hnf : nf ≤ 6) : ∀ (k0 d : Nat) (M : Mem) (x2 : Int32) (x3 : Int32) (x4 : Int32), M.1 3 2 = nI nt → M.1 3 3 = nI nf → x_doSteps_rec_ok nt nf k0 (M.1 4) (M.1 5) (M.1 6) (M.1 7) (M.1 21) (M.1 22) (M.1 23) (M.1 24) (M.1 33) (M.1 34) (M.1 35) (M.1 36) (M.1 38) x2 x3 x4 → GM z mX9_doSteps (d + 6 * k0) [.ref 33, .ref 37, .int x2, .int x3, .int x4] M (fun rs => rs = .inl (none, mrow (mrow (mrow (mrow M 22 ((x_doSteps_rec nt nf k0 (M.1 4) (M.1 5) (M.1 6) (M.1 7) (M.1 21) (M.1 22) (M.1 23) (M.1 24) (M.1 33) (M.1 34) (M.1 35) (M.1 36) (M.1 38) x2 x3 x4).2.1)) 24 ((x_doSteps_rec nt nf k0 (M.1 4) (M.1 5) (M.1 6) (M.1 7) (M.1 21) (M.1 22) (M.1 23) (M.1 24) (M.1 33) (M.1 34) (M.1 35) (M.1 36) (M.1 38) x2 x3 x4).2.2.1)) 33 ((x_doSteps_rec nt nf k0 (M.1 4) (M.1 5) (M.1 6) (M.1 7) (M.1 21) (M.1 22) (M.1 23) (M.1 24) (M.1 33) (M.1 34) (M.1 35) (M.1 36) (M.1 38) x2 x3 x4).2.2.2.1)) 38 ((x_doSteps_rec nt nf k0 (M.1 4) (M.1 5) (M.1 6) (M.1 7) (M.1 21) (M.1 22) (M.1 23) (M.1 24) (M.1 33) (M.1 34) (M.1 35) (M.1 36) (M.1 38) x2 x3 x4).2.2.2.2))) := by
  intro k0
  induction k0 with
  | zero =>
    intro d M x2 x3 x4 ht hf hk
    exact (by simpa only [x_doSteps_rec_ok] using hk : False).elim
  | succ k0 ih =>
    intro d M x2 x3 x4 ht hf hk
    have e9 : d + 6 * (k0 + 1) = (d + 6 * k0) + 6 := by omega
    rw [e9]
    simp only [x_doSteps_rec_ok] at hk
    have q9 := c_x_doSteps_33_37_st z (d + 6 * k0) M x2 x3 x4 nt hnt ht nf hnf hf (x_doSteps_rec nt nf k0) (x_doSteps_rec_ok nt nf k0) (fun j M x2 x3 x4 ht hf hk => by
      have q9 := ih (d + j) M x2 x3 x4 ht hf hk
      rw [show d + j + 6 * k0 = d + 6 * k0 + j by omega] at q9
      exact q9)  hk
    simp only [x_doSteps_rec]
    exact q9
theorem c_x_doSteps_33_37 (z : Zp) (d : Nat) (M : Mem) (x2 : Int32) (x3 : Int32) (x4 : Int32) (nt : Nat) (hnt : nt ≤ 10) (ht : M.1 3 2 = nI nt) (nf : Nat) (hnf : nf ≤ 6) (hf : M.1 3 3 = nI nf) (hk : x_doSteps_ok (M.1 4) (M.1 5) (M.1 6) (M.1 7) (M.1 21) (M.1 22) (M.1 23) (M.1 24) (M.1 33) (M.1 34) (M.1 35) (M.1 36) (M.1 38) nt nf x2 x3 x4) : GM z mX9_doSteps (d + 60) [.ref 33, .ref 37, .int x2, .int x3, .int x4] M (fun rs => rs = .inl (none, mrow (mrow (mrow (mrow M 22 ((x_doSteps (M.1 4) (M.1 5) (M.1 6) (M.1 7) (M.1 21) (M.1 22) (M.1 23) (M.1 24) (M.1 33) (M.1 34) (M.1 35) (M.1 36) (M.1 38) nt nf x2 x3 x4).2.1)) 24 ((x_doSteps (M.1 4) (M.1 5) (M.1 6) (M.1 7) (M.1 21) (M.1 22) (M.1 23) (M.1 24) (M.1 33) (M.1 34) (M.1 35) (M.1 36) (M.1 38) nt nf x2 x3 x4).2.2.1)) 33 ((x_doSteps (M.1 4) (M.1 5) (M.1 6) (M.1 7) (M.1 21) (M.1 22) (M.1 23) (M.1 24) (M.1 33) (M.1 34) (M.1 35) (M.1 36) (M.1 38) nt nf x2 x3 x4).2.2.2.1)) 38 ((x_doSteps (M.1 4) (M.1 5) (M.1 6) (M.1 7) (M.1 21) (M.1 22) (M.1 23) (M.1 24) (M.1 33) (M.1 34) (M.1 35) (M.1 36) (M.1 38) nt nf x2 x3 x4).2.2.2.2))) := by
  have q9 := c_x_doSteps_33_37_rec z nt hnt nf hnf 10 d M x2 x3 x4 ht hf hk
  exact q9
noncomputable def x_doneBy (RroadA RroadB RroadLength Rworth Rlaw Rgiven Rcodes Rvalues Rwork Rkind Rfirst Rsecond Rrow : Nat → Int32) (nt nf : Nat) : Int32 × (Nat → Int32) × (Nat → Int32) × (Nat → Int32) × (Nat → Int32) := (match x_doSteps (RroadA) (RroadB) (RroadLength) (Rworth) (Rlaw) (Rgiven) (Rcodes) (Rvalues) (upd (upd (upd (Rwork) 2 (nI 0)) 0 (nI 0)) 1 (nI 0)) (Rkind) (Rfirst) (Rsecond) (Rrow) nt nf (nI 0) (Rwork 3) (nI 0) with | (u3, r4, r5, r6, r7) => (0, r4, r5, r6, r7))
noncomputable def x_doneBy_ok (RroadA RroadB RroadLength Rworth Rlaw Rgiven Rcodes Rvalues Rwork Rkind Rfirst Rsecond Rrow : Nat → Int32) (nt nf : Nat) : Prop := (x_doSteps_ok (RroadA) (RroadB) (RroadLength) (Rworth) (Rlaw) (Rgiven) (Rcodes) (Rvalues) (upd (upd (upd (Rwork) 2 (nI 0)) 0 (nI 0)) 1 (nI 0)) (Rkind) (Rfirst) (Rsecond) (Rrow) nt nf (nI 0) (Rwork 3) (nI 0) ∧ True)
set_option maxHeartbeats 4000000 in
set_option maxRecDepth 3000 in
theorem c_x_doneBy_33_37 (z : Zp) (d : Nat) (M : Mem) (nt : Nat) (hnt : nt ≤ 10) (ht : M.1 3 2 = nI nt) (nf : Nat) (hnf : nf ≤ 6) (hf : M.1 3 3 = nI nf) (hk : x_doneBy_ok (M.1 4) (M.1 5) (M.1 6) (M.1 7) (M.1 21) (M.1 22) (M.1 23) (M.1 24) (M.1 33) (M.1 34) (M.1 35) (M.1 36) (M.1 38) nt nf) : GM z mX9_doneBy (d + 61) [.ref 33, .ref 37] M (fun rs => rs = .inl (none, mrow (mrow (mrow (mrow M 22 ((x_doneBy (M.1 4) (M.1 5) (M.1 6) (M.1 7) (M.1 21) (M.1 22) (M.1 23) (M.1 24) (M.1 33) (M.1 34) (M.1 35) (M.1 36) (M.1 38) nt nf).2.1)) 24 ((x_doneBy (M.1 4) (M.1 5) (M.1 6) (M.1 7) (M.1 21) (M.1 22) (M.1 23) (M.1 24) (M.1 33) (M.1 34) (M.1 35) (M.1 36) (M.1 38) nt nf).2.2.1)) 33 ((x_doneBy (M.1 4) (M.1 5) (M.1 6) (M.1 7) (M.1 21) (M.1 22) (M.1 23) (M.1 24) (M.1 33) (M.1 34) (M.1 35) (M.1 36) (M.1 38) nt nf).2.2.2.1)) 38 ((x_doneBy (M.1 4) (M.1 5) (M.1 6) (M.1 7) (M.1 21) (M.1 22) (M.1 23) (M.1 24) (M.1 33) (M.1 34) (M.1 35) (M.1 36) (M.1 38) nt nf).2.2.2.2))) := by
  simp only [x_doneBy_ok] at hk
  refine GM.of oX9_doneBy.1 (Nat.le_of_ble_eq_true rfl) ?_
  show G z mX9_doneBy (d + 61) 0 0 0 [some (.ref 33), some (.ref 37)] [] M _
  obtain ⟨Q, hQ⟩ : ∃ Q : Rs → Prop, Q = (fun rs => rs = .inl (none, mrow (mrow (mrow (mrow M 22 ((x_doneBy (M.1 4) (M.1 5) (M.1 6) (M.1 7) (M.1 21) (M.1 22) (M.1 23) (M.1 24) (M.1 33) (M.1 34) (M.1 35) (M.1 36) (M.1 38) nt nf).2.1)) 24 ((x_doneBy (M.1 4) (M.1 5) (M.1 6) (M.1 7) (M.1 21) (M.1 22) (M.1 23) (M.1 24) (M.1 33) (M.1 34) (M.1 35) (M.1 36) (M.1 38) nt nf).2.2.1)) 33 ((x_doneBy (M.1 4) (M.1 5) (M.1 6) (M.1 7) (M.1 21) (M.1 22) (M.1 23) (M.1 24) (M.1 33) (M.1 34) (M.1 35) (M.1 36) (M.1 38) nt nf).2.2.2.1)) 38 ((x_doneBy (M.1 4) (M.1 5) (M.1 6) (M.1 7) (M.1 21) (M.1 22) (M.1 23) (M.1 24) (M.1 33) (M.1 34) (M.1 35) (M.1 36) (M.1 38) nt nf).2.2.2.2))) := ⟨_, rfl⟩
  rw [← hQ]
  refine G.sl [(.aload_n 0, 1, 0, 0, 0, 0), (.iconst 0, 1, 0, 0, 0, nI 0), (.putfield 78, 3, 8, 2, 67, 0), (.aload_n 0, 1, 0, 0, 0, 0), (.iconst 0, 1, 0, 0, 0, nI 0), (.putfield 81, 3, 8, 0, 64, 0), (.aload_n 0, 1, 0, 0, 0, 0), (.iconst 0, 1, 0, 0, 0, nI 0), (.putfield 84, 3, 8, 1, 66, 0), (.aload_n 0, 1, 0, 0, 0, 0), (.aload_n 1, 1, 1, 0, 0, 0), (.iconst 0, 1, 0, 0, 0, nI 0), (.aload_n 0, 1, 0, 0, 0, 0), (.getfield 25, 3, 8, 3, 68, 0), (.iconst 0, 1, 0, 0, 0, nI 0)] [] (pc2 := 23) (ls2 := [some (.ref 33), some (.ref 37)]) (st2 := [.int (nI 0), .int (M.1 33 3), .int (nI 0), .ref 37, .ref 33]) (M2 := mput (mput (mput M 33 2 (nI 0)) 33 0 (nI 0)) 33 1 (nI 0)) (Ps := []) (by decide +kernel) rfl rfl trivial ?_
  refine G.mem (M' := mrow M 33 (upd (upd (upd (M.1 33) 2 (nI 0)) 0 (nI 0)) 1 (nI 0))) (by first | rfl | (simp only [mput, mrow_same, mrow_hit, mrow_miss, mrow_sw, idr_eq, ne_eq, Nat.reduceEqDiff, not_false_eq_true, Nat.reduceLT, reduceCtorEq]; done)) ?_
  obtain ⟨k1, hk⟩ := hk
  rcases g2 : x_doSteps (M.1 4) (M.1 5) (M.1 6) (M.1 7) (M.1 21) (M.1 22) (M.1 23) (M.1 24) (upd (upd (upd (M.1 33) 2 (nI 0)) 0 (nI 0)) 1 (nI 0)) (M.1 34) (M.1 35) (M.1 36) (M.1 38) nt nf (nI 0) (M.1 33 3) (nI 0) with ⟨u3, r4, r5, r6, r7⟩
  have t8 : GM z mX9_doSteps (d + 60) [.ref 33, .ref 37, .int (nI 0), .int (M.1 33 3), .int (nI 0)] (mrow M 33 (upd (upd (upd (M.1 33) 2 (nI 0)) 0 (nI 0)) 1 (nI 0))) (fun rs => rs = .inl (none, mrow (mrow (mrow (mrow M 22 r4) 24 r5) 33 r6) 38 r7)) := by
    have q9 := c_x_doSteps_33_37 z d (mrow M 33 (upd (upd (upd (M.1 33) 2 (nI 0)) 0 (nI 0)) 1 (nI 0))) (nI 0) (M.1 33 3) (nI 0) nt hnt ht nf hnf hf k1
    try simp only [mput, mrow_same, mrow_hit, mrow_miss, mrow_sw, idr_eq, ne_eq, Nat.reduceEqDiff, not_false_eq_true, Nat.reduceLT, reduceCtorEq, g2] at q9
    exact q9
  refine G.callV (as := [.ref 37, .int (nI 0), .int (M.1 33 3), .int (nI 0)]) (rest := []) (a := 33) oX9_doSteps lk_EvenFinders_Work_87 (by decide +kernel) rfl rfl ⟨rfl, rfl⟩ (Nat.le_of_ble_eq_true rfl) rfl ⟨Nat.le_of_ble_eq_true rfl, Nat.le_of_ble_eq_true rfl⟩ t8 (fun v9 N9 h9 => ?_) (fun E9 N9 h9 => by cases h9)
  cases h9
  show G z mX9_doneBy (d + 61) 0 0 26 [some (.ref 33), some (.ref 37)] [] (mrow (mrow (mrow (mrow M 22 r4) 24 r5) 33 r6) 38 r7) Q
  exact G.retv (by decide +kernel) rfl (Nat.le_of_ble_eq_true rfl) (Nat.le_of_ble_eq_true rfl) ((by rw [hQ]; simp only [x_doneBy, g2, mrow_self]))
