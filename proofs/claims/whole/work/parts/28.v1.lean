/-! feeding the tape -/
theorem op_feed {np nr nt nf : Nat} {M : Mem} (h : IV np nr nt nf M) (x1 x2 x3 x4 x5 : Int32) : EO_feed M x1 x2 x3 x4 x5 ∧ Ag 0 0 (e_feed M x1 x2 x3 x4 x5) (fun N => KO_feed N x1 x2 x3 x4 x5) (fun N => K_feed N x1 x2 x3 x4 x5) := by
  obtain ⟨⟨z1, z2, z3, z4⟩, hs, hcc, ht, hL, hD, hH, hI, hTP, ⟨b1, b2, b3, b4, b5⟩, hBK⟩ := id h
  obtain ⟨n, n1, n2, n3, n4⟩ := id hTP
  have hc20 : cN 20 = 20 := cN_eq 20
  by_cases c : n ≤ 580
  · have f : nI n ≤ nI 580 := (pu_lei (by omega) (by omega)).mpr c
    have g : nI n + nI 20 ≤ nI 600 := by rw [nI_add]; exact (pu_lei (by omega) (by omega)).mpr (by omega)
    obtain ⟨o1, P1, Q1, e1, p1, r1, s1⟩ := tp4 x1 n (by omega) (M.1 1) (M.1 2) n2
    obtain ⟨o2, P2, Q2, e2, p2, r2, s2⟩ := tp4 x2 (n + 4) (by omega) P1 Q1 p1
    obtain ⟨o3, P3, Q3, e3, p3, r3, s3⟩ := tp4 x3 (n + 4 + 4) (by omega) P2 Q2 p2
    obtain ⟨o4, P4, Q4, e4, p4, r4, s4⟩ := tp4 x4 (n + 4 + 4 + 4) (by omega) P3 Q3 p3
    obtain ⟨o5, P5, Q5, e5, p5, r5, s5⟩ := tp4 x5 (n + 4 + 4 + 4 + 4) (by omega) P4 Q4 p4
    have e20 : (upd (M.1 54) 0 (nI 0)) 2 = nI n := by rw [pk_un (by decide)]; exact n3
    obtain ⟨w1, w2, w3⟩ := fd23 (upd (M.1 54) 0 (nI 0)) (M.1 56) x1 x2 x3 x4 x5 (n := n) (by omega) e20 20 (by omega)
    rcases x : k_feed_23 (upd (M.1 54) 0 (nI 0)) (M.1 56) x1 x2 x3 x4 x5 20 with ⟨A, B⟩
    simp only [x] at w1 w2 w3
    have hq : ∀ j, j < 600 → B j = Q5 j ∧ ∃ b, b < 256 ∧ Q5 j = nI b := by
      intro j hj
      obtain ⟨t1, t2⟩ := n4 j hj
      rw [w3 j, s5 j, s4 j, s3 j, s2 j, s1 j]
      by_cases d5 : n + 4 + 4 + 4 + 4 ≤ j ∧ j < n + 4 + 4 + 4 + 4 + 4
      · rw [if_pos d5, if_pos (show n ≤ j ∧ j < n + 20 by omega), show (j - n) % 4 = j - (n + 4 + 4 + 4 + 4) by omega, sel5, if_pos (show 4 ≤ j - n by omega), if_pos (show 8 ≤ j - n by omega), if_pos (show 12 ≤ j - n by omega), if_pos (show 16 ≤ j - n by omega)]
        exact ⟨rfl, by8_n _ _⟩
      rw [if_neg d5]
      by_cases d4 : n + 4 + 4 + 4 ≤ j ∧ j < n + 4 + 4 + 4 + 4
      · rw [if_pos d4, if_pos (show n ≤ j ∧ j < n + 20 by omega), show (j - n) % 4 = j - (n + 4 + 4 + 4) by omega, sel5, if_pos (show 4 ≤ j - n by omega), if_pos (show 8 ≤ j - n by omega), if_pos (show 12 ≤ j - n by omega), if_neg (show ¬ 16 ≤ j - n by omega)]
        exact ⟨rfl, by8_n _ _⟩
      rw [if_neg d4]
      by_cases d3 : n + 4 + 4 ≤ j ∧ j < n + 4 + 4 + 4
      · rw [if_pos d3, if_pos (show n ≤ j ∧ j < n + 20 by omega), show (j - n) % 4 = j - (n + 4 + 4) by omega, sel5, if_pos (show 4 ≤ j - n by omega), if_pos (show 8 ≤ j - n by omega), if_neg (show ¬ 12 ≤ j - n by omega)]
        exact ⟨rfl, by8_n _ _⟩
      rw [if_neg d3]
      by_cases d2 : n + 4 ≤ j ∧ j < n + 4 + 4
      · rw [if_pos d2, if_pos (show n ≤ j ∧ j < n + 20 by omega), show (j - n) % 4 = j - (n + 4) by omega, sel5, if_pos (show 4 ≤ j - n by omega), if_neg (show ¬ 8 ≤ j - n by omega)]
        exact ⟨rfl, by8_n _ _⟩
      rw [if_neg d2]
      by_cases d1 : n ≤ j ∧ j < n + 4
      · rw [if_pos d1, if_pos (show n ≤ j ∧ j < n + 20 by omega), show (j - n) % 4 = j - n by omega, sel5, if_neg (show ¬ 4 ≤ j - n by omega)]
        exact ⟨rfl, by8_n _ _⟩
      rw [if_neg d1, if_neg (show ¬ (n ≤ j ∧ j < n + 20) by omega)]
      exact ⟨t1, t2⟩
    have p5' : P5 1 = nI (n + 20) := p5
    refine ⟨?_, Or.inl ⟨nI (n + 20), mrow (mrow M 1 P5) 2 Q5, ?_, ?_, ?_, ?_, np, nr, nt, nf, ?_⟩⟩
    · simp only [EO_feed, e_feed_ok, n2, if_pos f, o1, e1, o2, e2, o3, e3, o4, e4, o5, and_self]
    · simp only [e_feed, n2, if_pos f, e1, e2, e3, e4, e5, p5']
    · simp only [KO_feed, k_feed_ok, mrow_hit, mrow_miss, ne_eq, Nat.reduceEqDiff, not_false_eq_true, reduceCtorEq, n3, if_pos g, hc20]
      exact ⟨fun i hi => fd_ok _ _ _ _ _ _ _ (by omega) e20 hi, trivial⟩
    · simp only [K_feed, k_feed, mrow_hit, mrow_miss, ne_eq, Nat.reduceEqDiff, not_false_eq_true, reduceCtorEq, n3, if_pos g, hc20, x, w1]
    · simp only [K_feed, k_feed, mrow_hit, mrow_miss, ne_eq, Nat.reduceEqDiff, not_false_eq_true, reduceCtorEq, n3, if_pos g, hc20, x]
      rw [w2 0 (by decide), pk_us]
    · have hA : ∀ j, j ≠ 2 → j ≠ 0 → A j = M.1 54 j := fun j h1 h2 => by rw [w2 j h1, pk_un h2]
      refine h.put (N := _) (fun c hc => ?_) (fun j hj => ?_) ?_ ?_ ?_ ?_ ?_ ?_
      · simp only [K_feed]
        rw [mrow_miss _ _ (tw_ne hc rfl), mrow_miss _ _ (tw_ne hc rfl), mrow_miss _ _ (tw_ne hc rfl), mrow_miss _ _ (tw_ne hc rfl)]
      all_goals simp only [K_feed, k_feed, mrow_hit, mrow_miss, ne_eq, Nat.reduceEqDiff, not_false_eq_true, reduceCtorEq, n3, if_pos g, hc20, x]
      · exact hA j (t54_ne hj rfl) (t54_ne hj rfl)
      · exact hD
      · rw [hA 35 (by decide) (by decide)]; exact hH
      · rw [hA 51 (by decide) (by decide)]; exact hI
      · exact ⟨n + 20, by omega, p5', w1, hq⟩
      · rw [hA 8 (by decide) (by decide), hA 45 (by decide) (by decide), hA 36 (by decide) (by decide), r5 3 (by decide), r4 3 (by decide), r3 3 (by decide), r2 3 (by decide), r1 3 (by decide)]
        exact ⟨b1, b2, b3, b4, b5⟩
      · exact hBK
  · have f : ¬ nI n ≤ nI 580 := fun z => c ((pu_lei (by omega) (by omega)).mp z)
    have g : ¬ nI n + nI 20 ≤ nI 600 := fun z => c (by rw [nI_add] at z; have := (pu_lei (by omega) (by omega)).mp z; omega)
    refine ⟨?_, Or.inl ⟨-1, M, ?_, ?_, ?_, ?_, np, nr, nt, nf, ?_⟩⟩
    · simp only [EO_feed, e_feed_ok, n2, if_neg f]
    · simp only [e_feed, n2, if_neg f]
    · simp only [KO_feed, k_feed_ok, n3, if_neg g]
    · simp only [K_feed, k_feed, n3, if_neg g]
    · simp only [K_feed, k_feed, n3, if_neg g, mrow_hit, mrow_miss, ne_eq, Nat.reduceEqDiff, not_false_eq_true, reduceCtorEq, pk_us]
    · refine h.put (N := _) (fun c hc => ?_) (fun j hj => ?_) ?_ ?_ ?_ ?_ ?_ ?_
      · simp only [K_feed]
        rw [mrow_miss _ _ (tw_ne hc rfl), mrow_miss _ _ (tw_ne hc rfl)]
      · simp only [K_feed, k_feed, mrow_hit, mrow_miss, ne_eq, Nat.reduceEqDiff, not_false_eq_true, reduceCtorEq, n3, if_neg g]
        rw [pk_un (t54_ne hj rfl)]
      all_goals simp only [K_feed, k_feed, mrow_hit, mrow_miss, ne_eq, Nat.reduceEqDiff, not_false_eq_true, reduceCtorEq, n3, if_neg g, pk_un]
      · exact hD
      · exact hH
      · exact hI
      · rw [n3] at hTP; exact hTP
      · exact ⟨b1, b2, b3, b4, b5⟩
      · exact hBK
