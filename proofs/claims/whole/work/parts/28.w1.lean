/-! the book -/
theorem bg_ts {q : Nat → Int32} {f n : Nat} (e : q 1 = nI f) (hf : f ≤ 600) (hn : n ≤ f) : TS (t_begin q (nI n)).2 n 0 := by
  have h1 : ¬ nI f < nI n := fun z => by
    have := (pu_lti (by omega) (by omega)).mp z
    omega
  have h2 : (if nI 0 < nI n then nI n else nI 0) = nI n := by
    by_cases c : n = 0
    · rw [c]; exact ite_self _
    · exact if_pos ((pu_lti (by omega) (by omega)).mpr (by omega))
  simp only [TS, t_begin, e, if_neg h1, h2, pk_us, pk_un, ne_eq, Nat.reduceEqDiff, not_false_eq_true, reduceCtorEq]
  exact ⟨trivial, nI_0, trivial, trivial, trivial, Nat.zero_le _⟩
theorem bg_ms {m : Nat → Int32} {n : Nat} : MS (k_begins m (nI n)).2 n 0 ∧ (k_begins m (nI n)).2 2 = nI 0 ∧ (k_begins m (nI n)).2 7 = nI 0 ∧ ∀ j, j ≠ 2 → j ≠ 8 → j ≠ 3 → j ≠ 4 → j ≠ 5 → j ≠ 7 → (k_begins m (nI n)).2 j = m j := by
  refine ⟨?_, ?_, ?_, ?_⟩
  · simp only [MS, k_begins, pk_us, pk_un, ne_eq, Nat.reduceEqDiff, not_false_eq_true, reduceCtorEq]
    exact ⟨trivial, trivial, trivial, Nat.zero_le _⟩
  · simp only [k_begins, pk_us, pk_un, ne_eq, Nat.reduceEqDiff, not_false_eq_true, reduceCtorEq]
  · simp only [k_begins, pk_us]
  · intro j h2 h8 h3 h4 h5 h7
    simp only [k_begins]
    rw [pk_un h7, pk_un h5, pk_un h4, pk_un h3, pk_un h8, pk_un h2]
theorem fl8 (F : Nat → Int32) (x : Int32) : ∀ n j, j < n → J7_fill_53178_L8_5 F x n j = x
  | 0, j, h => by omega
  | n + 1, j, h => by
    simp only [J7_fill_53178_L8_5]
    by_cases c : j = n
    · rw [c, pk_us]
    · rw [pk_un c]; exact fl8 F x n j (by omega)
theorem fk8 (F : Nat → Int32) : ∀ n j, j < n → k_book_46 F n j = -1
  | 0, j, h => by omega
  | n + 1, j, h => by
    simp only [k_book_46]
    by_cases c : j = n
    · rw [c, pk_us]
    · rw [pk_un c]; exact fk8 F n j (by omega)
theorem cp8 (A Z : Nat → Int32) (m : Nat) : ∀ n j, j < n → k_copies_L8_L8_3 A Z m n j = A j
  | 0, j, h => by omega
  | n + 1, j, h => by
    simp only [k_copies_L8_L8_3]
    by_cases c : j = n
    · rw [c, pk_us]
    · rw [pk_un c]; exact cp8 A Z m n j (by omega)
theorem op_book {np nr nt nf : Nat} {M : Mem} (h : IV np nr nt nf M) (x1 : Int32) : EO_book M np x1 ∧ Ag 1 0 (e_book M np x1) (fun N => KO_book N x1) (fun N => K_book N x1) := by
  obtain ⟨⟨z1, z2, z3, z4⟩, ⟨s1, s2, s3, s4⟩, ⟨c1, c2, c3, c4⟩, ht, hL, hD, hH, hI, hTP, ⟨b1, b2, b3, b4, b5⟩, hBK⟩ := id h
  obtain ⟨fd, f1, f2, f3, f4⟩ := id hTP
  have hB : BY (M.1 2) (M.1 56) := f4
  by_cases hx : ¬ x1 < nI 0 ∧ x1 ≤ (if (M.1 1 1) < (nI 60) then M.1 1 1 else (nI 60))
  · obtain ⟨u, hu, hu2, hu3⟩ : ∃ u, u ≤ 60 ∧ u ≤ fd ∧ x1 ≤ nI u := by
      obtain ⟨-, e⟩ := id hx
      rw [f2] at e
      by_cases c : fd < 60
      · rw [if_pos ((pu_lti (by omega) (by omega)).mpr c)] at e
        exact ⟨fd, by omega, by omega, e⟩
      · rw [if_neg (fun z => c ((pu_lti (by omega) (by omega)).mp z))] at e
        exact ⟨60, by omega, by omega, e⟩
    obtain ⟨n, hn, en⟩ := pu_le2 (n := u) (by omega) (by rw [← nI_0]; exact hx.1) hu3
    have k1 : ¬ x1 < 0 := by rw [← nI_0]; exact hx.1
    have k2 : ¬ M.1 54 2 < x1 := by
      rw [f3, en]; intro z
      have := (pu_lti (by omega) (by omega)).mp z
      omega
    have k3 : ¬ nI 60 < x1 := by
      rw [en]; intro z
      have := (pu_lti (by omega) (by omega)).mp z
      omega
    have tq := bg_ts (n := n) f2 f1 (by omega)
    obtain ⟨tm, tm2, -, tmf⟩ := bg_ms (m := upd (M.1 54) 0 (nI 0)) (n := n)
    rw [← en] at tq tm tm2 tmf
    rcases y1 : k_begins (upd (M.1 54) 0 (nI 0)) x1 with ⟨u14, r15⟩
    rw [y1] at tm tm2 tmf
    simp only at tm tm2 tmf
    have h20 : r15 20 = nI np := by rw [tmf 20 (by decide) (by decide) (by decide) (by decide) (by decide) (by decide), pk_un (by decide)]; exact c1
    have hWZ : WZ (J7_fill_53178_L8_5 (M.1 32) (-1) (cN 8)) (k_book_46 (M.1 74) (cN 8)) := by
      intro p hp
      rw [fl8 _ _ _ p (by rw [cN_eq]; exact hp), fk8 _ _ p (by rw [cN_eq]; exact hp)]
      exact ⟨rfl, Or.inl rfl⟩
    obtain ⟨o1, o2, q', bk', W', c', m', Z', o3, o4, o5, o6⟩ := bk_lp (T := M.1 56) (show n ≤ 600 by omega) hB z1 (cN 60) 0 FU 0 0 (t_begin (M.1 1) x1).2 r15 (upd (M.1 31) 0 (nI 0)) (J7_fill_53178_L8_5 (M.1 32) (-1) (cN 8)) (k_book_46 (M.1 74) (cN 8)) (by rw [cN_eq]; omega) (by rw [FU_eq]; omega) tq tm h20 pk_us hWZ
    have fr : ∀ j, j ≠ 0 → j ≠ 2 → j ≠ 8 → j ≠ 3 → j ≠ 4 → j ≠ 5 → j ≠ 6 → j ≠ 7 → m' j = M.1 54 j := fun j g0 g2 g8 g3 g4 g5 g6 g7 => by
      rw [o5 j g4 g5 g6, tmf j g2 g8 g3 g4 g5 g7, pk_un g0]
    have m0 : m' 0 = nI 0 := by rw [o5 0 (by decide) (by decide) (by decide), tmf 0 (by decide) (by decide) (by decide) (by decide) (by decide) (by decide), pk_us]
    have m2 : m' 2 = nI 0 := by rw [o5 2 (by decide) (by decide) (by decide)]; exact tm2
    have f20 : ∀ j, t54 j = true → m' j = M.1 54 j := fun j hj => fr j (t54_ne hj rfl) (t54_ne hj rfl) (t54_ne hj rfl) (t54_ne hj rfl) (t54_ne hj rfl) (t54_ne hj rfl) (t54_ne hj rfl) (t54_ne hj rfl)
    have m35 := fr 35 (by decide) (by decide) (by decide) (by decide) (by decide) (by decide) (by decide) (by decide)
    have m51 := fr 51 (by decide) (by decide) (by decide) (by decide) (by decide) (by decide) (by decide) (by decide)
    have m36 := fr 36 (by decide) (by decide) (by decide) (by decide) (by decide) (by decide) (by decide) (by decide)
    have m45 := fr 45 (by decide) (by decide) (by decide) (by decide) (by decide) (by decide) (by decide) (by decide)
    have heo : EO_book M np x1 := by
      refine ⟨z1, s1, ?_⟩
      simp only [e_book_ok, if_pos hx, b_readFrom_ok, b_clear, J7_fill_53178_L8, o1, and_self]
    have hrd : b_readFrom ((t_begin (M.1 1) x1).2) (M.1 2) (M.1 31) (M.1 32) (nI np) = (0, q', bk', W') := by
      simp only [b_readFrom, b_clear, J7_fill_53178_L8, o3]
    refine ⟨heo, ?_⟩
    rcases o6 with ⟨a', g1, g2, g3, g4⟩ | hbd
    · have e85 : m' 5 = -1 := g2.2.2.1
      have hres : k_result m' (nI c') = (nI c', upd m' 8 (m' 5)) := by
        simp only [k_result, k_fine, pk_un, ne_eq, Nat.reduceEqDiff, not_false_eq_true, e85, ↓reduceIte, if_neg pu_n10]
      have e5 : upd m' 8 (m' 5) 5 = -1 := by rw [pk_un (by decide)]; exact e85
      have kb : k_book (M.1 54) (M.1 55) (M.1 56) (M.1 74) (M.1 75) x1 = (nI c', upd (upd m' 8 (m' 5)) 45 (nI c'), M.1 55, Z', k_copies_L8_L8_3 Z' (M.1 75) 8 8) := by
        simp only [k_book, if_neg k1, if_neg k2, if_neg k3, y1, o4, hres, if_pos e5, k_copies_L8_L8]
      have kbo : k_book_ok (M.1 54) (M.1 55) (M.1 56) (M.1 74) (M.1 75) x1 := by
        simp only [k_book_ok, if_neg k1, if_neg k2, if_neg k3, y1, o2, o4, hres, if_pos e5, true_and, and_true]
        exact ⟨fun i hi => ⟨hi, trivial⟩, trivial⟩
      refine Or.inl ⟨nI c', mrow (mrow (mrow (mrow (mrow M 1 q') 29 (upd (M.1 29) 0 (bk' 0))) 30 (va_cpy W' (M.1 30) 0 0 8)) 31 bk') 32 W', ?_, ?_, ?_, ?_, np, nr, nt, nf, ?_⟩
      · simp only [e_book, if_pos hx, hrd, if_pos g1.nf, b_take, pk_us, g3]
      · simp only [KO_book, mrow_hit, mrow_miss, ne_eq, Nat.reduceEqDiff, not_false_eq_true, reduceCtorEq, kbo]
      · simp only [K_book, mrow_hit, mrow_miss, ne_eq, Nat.reduceEqDiff, not_false_eq_true, reduceCtorEq, kb]
      · simp only [K_book, mrow_hit, mrow_miss, ne_eq, Nat.reduceEqDiff, not_false_eq_true, reduceCtorEq, kb]
        rw [pk_un (by decide), pk_un (by decide)]; exact m0
      · refine h.put (N := _) (fun c hc => ?_) (fun j hj => ?_) ?_ ?_ ?_ ?_ ?_ ?_
        · simp only [K_book]
          rw [mrow_miss _ _ (tw_ne hc rfl), mrow_miss _ _ (tw_ne hc rfl), mrow_miss _ _ (tw_ne hc rfl), mrow_miss _ _ (tw_ne hc rfl), mrow_miss _ _ (tw_ne hc rfl), mrow_miss _ _ (tw_ne hc rfl), mrow_miss _ _ (tw_ne hc rfl), mrow_miss _ _ (tw_ne hc rfl), mrow_miss _ _ (tw_ne hc rfl)]
        all_goals simp only [K_book, mrow_hit, mrow_miss, ne_eq, Nat.reduceEqDiff, not_false_eq_true, reduceCtorEq, kb]
        · rw [pk_un (t54_ne hj rfl), pk_un (t54_ne hj rfl)]; exact f20 j hj
        · exact hD
        · rw [pk_un (by decide), pk_un (by decide), m35]; exact hH
        · rw [pk_un (by decide), pk_un (by decide), m51]; exact hI
        · rw [pk_un (by decide), pk_un (by decide), m2, g1.1]; exact ⟨0, by omega, rfl, rfl, f4⟩
        · refine ⟨?_, ?_, ?_, b4, b5⟩
          · rw [pk_un (by decide), pk_us, e85]; exact g1.2.2.1
          · rw [pk_us, pk_us]; exact g3
          · rw [pk_un (by decide), pk_un (by decide), m36]; exact b3
        · intro p hp
          obtain ⟨w1, w2⟩ := g4 p (by omega)
          rw [cp8 _ _ _ 8 p (by omega), pk_cpy_in (show 0 ≤ p by omega) (show p < 0 + 8 by omega), show 0 + (p - 0) = p by omega]
          exact ⟨w1, w2⟩
    · obtain ⟨kd, pl, t1, t2⟩ := id hbd
      have e85 : m' 5 = nI pl := t2.2.1
      have npl : ¬ nI pl = -1 := pu_nm (by have := t2.2.2.2.1; omega)
      have hres : k_result m' (nI c') = (nI kd - nI 10, upd m' 8 (m' 5)) := by
        simp only [k_result, k_fine, pk_un, ne_eq, Nat.reduceEqDiff, not_false_eq_true, e85, if_neg npl, if_pos pu_n01, t2.2.2.1]
      have e5 : ¬ upd m' 8 (m' 5) 5 = -1 := by rw [pk_un (by decide), e85]; exact npl
      have kb : k_book (M.1 54) (M.1 55) (M.1 56) (M.1 74) (M.1 75) x1 = (nI kd - nI 10, upd m' 8 (m' 5), M.1 55, Z', M.1 75) := by
        simp only [k_book, if_neg k1, if_neg k2, if_neg k3, y1, o4, hres, if_neg e5]
      have kbo : k_book_ok (M.1 54) (M.1 55) (M.1 56) (M.1 74) (M.1 75) x1 := by
        simp only [k_book_ok, if_neg k1, if_neg k2, if_neg k3, y1, o2, o4, hres, if_neg e5, true_and, and_true]
      refine Or.inl ⟨nI kd - nI 10, mrow (mrow (mrow M 1 q') 31 bk') 32 W', ?_, ?_, ?_, ?_, np, nr, nt, nf, ?_⟩
      · simp only [e_book, if_pos hx, hrd, if_neg hbd.is, t1.2.1.1]
      · simp only [KO_book, mrow_hit, mrow_miss, ne_eq, Nat.reduceEqDiff, not_false_eq_true, reduceCtorEq, kbo]
      · simp only [K_book, mrow_hit, mrow_miss, ne_eq, Nat.reduceEqDiff, not_false_eq_true, reduceCtorEq, kb]
      · simp only [K_book, mrow_hit, mrow_miss, ne_eq, Nat.reduceEqDiff, not_false_eq_true, reduceCtorEq, kb]
        rw [pk_un (by decide)]; exact m0
      · refine h.put (N := _) (fun c hc => ?_) (fun j hj => ?_) ?_ ?_ ?_ ?_ ?_ ?_
        · simp only [K_book]
          rw [mrow_miss _ _ (tw_ne hc rfl), mrow_miss _ _ (tw_ne hc rfl), mrow_miss _ _ (tw_ne hc rfl), mrow_miss _ _ (tw_ne hc rfl), mrow_miss _ _ (tw_ne hc rfl), mrow_miss _ _ (tw_ne hc rfl), mrow_miss _ _ (tw_ne hc rfl)]
        all_goals simp only [K_book, mrow_hit, mrow_miss, ne_eq, Nat.reduceEqDiff, not_false_eq_true, reduceCtorEq, kb]
        · rw [pk_un (t54_ne hj rfl)]; exact f20 j hj
        · exact hD
        · rw [pk_un (by decide), m35]; exact hH
        · rw [pk_un (by decide), m51]; exact hI
        · rw [pk_un (by decide), m2, t1.1]; exact ⟨0, by omega, rfl, rfl, f4⟩
        · refine ⟨?_, ?_, ?_, b4, b5⟩
          · rw [pk_us, e85]; exact t1.2.2.1
          · rw [pk_un (by decide), m45]; exact b2
          · rw [pk_un (by decide), m36]; exact b3
        · exact hBK
  · have hc : x1 < 0 ∨ M.1 54 2 < x1 ∨ nI 60 < x1 := by
      by_cases g1 : x1 < 0
      · exact Or.inl g1
      · by_cases g2 : M.1 54 2 < x1
        · exact Or.inr (Or.inl g2)
        · by_cases g3 : nI 60 < x1
          · exact Or.inr (Or.inr g3)
          · refine absurd ⟨by rw [nI_0]; exact g1, ?_⟩ hx
            rw [f2, ← f3]
            split
            · rw [pu_le]; rw [pu_lt] at g2; omega
            · rw [pu_le]; rw [pu_lt] at g3; omega
    have kb : k_book (M.1 54) (M.1 55) (M.1 56) (M.1 74) (M.1 75) x1 = (nI 0, upd (upd (M.1 54) 0 (nI 0)) 0 (nI 1), upd (M.1 55) 1 (M.1 55 1 + nI 1), M.1 74, M.1 75) ∧ k_book_ok (M.1 54) (M.1 55) (M.1 56) (M.1 74) (M.1 75) x1 := by
      by_cases g1 : x1 < 0
      · simp only [k_book, k_book_ok, if_pos g1, and_self]
      · by_cases g2 : M.1 54 2 < x1
        · simp only [k_book, k_book_ok, if_neg g1, if_pos g2, and_self]
        · by_cases g3 : nI 60 < x1
          · simp only [k_book, k_book_ok, if_neg g1, if_neg g2, if_pos g3, and_self]
          · rcases hc with r | r | r
            · exact absurd r g1
            · exact absurd r g2
            · exact absurd r g3
    refine ⟨⟨z1, s1, by simp only [e_book_ok, if_neg hx]⟩, ?_⟩
    refine Ag.bad1 h (by decide) _ (by simp only [e_book, if_neg hx]) ?_ ?_ ?_ ?_ ?_
    · simp only [KO_book, mrow_hit, mrow_miss, ne_eq, Nat.reduceEqDiff, not_false_eq_true, reduceCtorEq, kb.2]
    · simp only [K_book, mrow_hit, mrow_miss, ne_eq, Nat.reduceEqDiff, not_false_eq_true, reduceCtorEq, kb.1]
    · simp only [K_book, mrow_hit, mrow_miss, ne_eq, Nat.reduceEqDiff, not_false_eq_true, reduceCtorEq, kb.1]
    · simp only [K_book, mrow_hit, mrow_miss, ne_eq, Nat.reduceEqDiff, not_false_eq_true, reduceCtorEq]
    · intro c hc
      by_cases g1 : c = 75
      · subst g1
        simp only [K_book, mrow_hit, mrow_miss, ne_eq, Nat.reduceEqDiff, not_false_eq_true, reduceCtorEq, kb.1]
      · by_cases g2 : c = 74
        · subst g2
          simp only [K_book, mrow_hit, mrow_miss, ne_eq, Nat.reduceEqDiff, not_false_eq_true, reduceCtorEq, kb.1]
        · simp only [K_book]
          rw [mrow_miss _ _ g1, mrow_miss _ _ g2, mrow_miss _ _ (scr_ne hc rfl), mrow_miss _ _ (scr_ne hc rfl), mrow_miss _ _ (scr_ne hc rfl)]
