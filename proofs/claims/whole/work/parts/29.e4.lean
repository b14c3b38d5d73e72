/-! the shortest round -/
theorem gl_eq (R : Nat → Int32) (nt : Nat) {st : Nat} (hst : st < 8) : ∀ n, n ≤ 8 → w_goalsFrom_4 R nt (nI st) n = nI (bsc (fun i => ¬ d_lyingAt R nt (nI i) = 0 ∧ i ≠ st) n)
  | 0, _ => rfl
  | n + 1, hn => by
    have ih := gl_eq R nt hst n (by omega)
    simp only [w_goalsFrom_4, ih]
    by_cases c : n = st
    · rw [if_pos (by rw [c]), bsc_f (fun h => h.2 c)]
    · rw [if_neg (fun z => c (pu_inj (by omega) (by omega) z))]
      by_cases d : d_lyingAt R nt (nI n) = 0
      · rw [if_pos d, bsc_f (fun h => h.1 d)]
      · have hb : bsc (fun i => ¬ d_lyingAt R nt (nI i) = 0 ∧ i ≠ st) (n + 1) = bsc (fun i => ¬ d_lyingAt R nt (nI i) = 0 ∧ i ≠ st) n + 2 ^ n := bsc_t ⟨d, c⟩
        rw [if_neg d, hb]
        exact pu_orb (by omega) (bsc_lt _ n)
theorem r24_eq (S : Nat → Int32) (nt : Nat) (x : Int32) : ∀ n, n ≤ 8 → k_round_24 S nt x n = nI (bsc (fun i => ¬ k_lyingAt S nt (nI i) = 0) n)
  | 0, _ => rfl
  | n + 1, hn => by
    have ih := r24_eq S nt x n (by omega)
    simp only [k_round_24, ih]
    by_cases d : k_lyingAt S nt (nI n) = 0
    · rw [if_pos d, pu_or0, bsc_f (fun h => h d)]
    · have hb : bsc (fun i => ¬ k_lyingAt S nt (nI i) = 0) (n + 1) = bsc (fun i => ¬ k_lyingAt S nt (nI i) = 0) n + 2 ^ n := bsc_t d
      rw [if_neg d, hb]
      exact pu_orb (by omega) (bsc_lt _ n)
theorem op_round {np nr nt nf : Nat} {M : Mem} (h : IV np nr nt nf M) (x1 : Int32) : EO_round M np nt nf x1 ∧ Ag 0 1 (e_round M np nt nf x1) (fun N => KO_round N nf x1) (fun N => K_round N nf x1) := by
  obtain ⟨⟨z1, z2, z3, z4⟩, ⟨s1, s2, s3, s4⟩, ⟨c1, c2, c3, c4⟩, ⟨t1, t2, t3⟩, hL, hDd, hH, hI, hTP, ⟨b1, b2, b3, b4, b5⟩, hBK⟩ := id h
  obtain ⟨hD, -⟩ := id hDd
  have hd := DR_take (s := M.1 72) hD z3 z4
  have q20 : upd (M.1 54) 0 (nI 0) 20 = nI np := by rw [pk_un (by decide)]; exact c1
  have q22 : upd (M.1 54) 0 (nI 0) 22 = nI nt := by rw [pk_un (by decide)]; exact c3
  have i20 : ix (nI np) = np := pu_ix (by omega)
  have i22 : ix (nI nt) = nt := pu_ix (by omega)
  have n20 : isN (nI np) := pu_isN (by omega)
  have n22 : isN (nI nt) := pu_isN (by omega)
  by_cases hx1 : ¬ x1 < 0 ∧ x1 < nI nf
  · have e1 : k_isFinder (upd (M.1 54) 0 (nI 0)) (M.1 55) nf x1 (nI 1) = (nI 1, upd (M.1 54) 0 (nI 0), M.1 55) := isF_t (show nf ≤ 100 by omega) (t0 _) hx1
    obtain ⟨a, ha, ea⟩ := pu_in (n := nf) (by omega) hx1.1 hx1.2
    have ia : ix x1 = a := by rw [ea]; exact pu_ix (by omega)
    have ya : isN x1 := by rw [ea]; exact pu_isN (by omega)
    obtain ⟨st, hst, est⟩ := hD.2.2.1 a ha
    obtain ⟨D, hF⟩ := FD_of t3
    obtain ⟨g, hgd⟩ : ∃ g, g = bsc (fun i => ¬ d_lyingAt (M.1 38) nt (nI i) = 0 ∧ i ≠ st) np := ⟨_, rfl⟩
    have hp2 : (2 : Nat) ^ np ≤ 2 ^ 8 := Nat.pow_le_pow_right (by omega) z1
    have hg : g < 256 := by
      rw [hgd]
      exact Nat.lt_of_lt_of_le (bsc_lt _ np) hp2
    have eg : w_goalsFrom (M.1 38) np nt (nI st) = nI g := by
      rw [hgd]
      exact gl_eq (M.1 38) nt (by omega) np z1
    obtain ⟨l1, l2⟩ := lr_eq (nt := nt) (T := M.1 48) hF z1 hst hg est eg
    have sst : (k_take (M.1 71) (M.1 72)).2 (20 + a) = nI st := by rw [(hd.2.1 a ha).1]; exact est
    have wg : (k_round_24 (k_take (M.1 71) (M.1 72)).2 nt x1 np) &&& (((nI 1) <<< ((nI st) &&& 31)) ^^^ (-1)) = nI g := by
      rw [r24_eq _ nt x1 np z1, bsc_clI z1 hst, hgd]
      congr 1
      refine bsc_congr np (fun i hi => ?_)
      have e : k_lyingAt (k_take (M.1 71) (M.1 72)).2 nt (nI i) = d_lyingAt (M.1 38) nt (nI i) := la_eq hd (by omega) z4 nt (Nat.le_refl _)
      rw [e]
    obtain ⟨r1, r2⟩ := r74 hF z1 hg x1 FU 0 (M.1 77) (by omega) (by rw [FU_eq]; omega) (fun m q hm _ => by omega)
    have r3 := r2 g st (by omega) hst
    rcases y6 : k_take (M.1 71) (M.1 72) with ⟨u6, r6⟩
    rw [y6] at sst wg
    simp only at sst wg
    rcases y7 : k_round_74 (M.1 76) np x1 (nI g) FU (nI 0) (M.1 77) with ⟨v45, r46⟩
    rw [y7] at r3
    simp only at r3
    have si := sh8 st (by omega) g hg
    have ixi : ix (nI (st * 256 + g)) = st * 256 + g := pu_ix (by omega)
    have yi : isN (nI (st * 256 + g)) := pu_isN (by omega)
    have kg : k_round (M.1 54) (M.1 55) (M.1 71) (M.1 72) (M.1 76) (M.1 77) nf x1 = (k_orNone (r46 (st * 256 + g)), upd (M.1 54) 0 (nI 0), M.1 55, r6, r46) := by
      simp only [k_round, e1, if_neg pu_n10, y6, q20, q22, i20, i22, ia, sst, wg, y7, si, ixi]
    have kgo : k_round_ok (M.1 54) (M.1 55) (M.1 71) (M.1 72) (M.1 76) (M.1 77) nf x1 := by
      simp only [k_round_ok, e1, if_neg pu_n10, take_ok, y6, q20, q22, i20, i22, n20, n22, z1, z3, ia, ya, sst, wg, r1, y7, si, ixi, yi, show 20 + a < 51 by omega, show st * 256 + g < 2048 by omega, and_self]
    rcases y8 : w_leastRound (M.1 11) (M.1 38) (M.1 48) np nt a with ⟨v8, r9⟩
    rw [y8] at l2
    simp only at l2
    have hv : v8 = k_orNone (r46 (st * 256 + g)) := by
      refine FB_eq z1 hst hg l2 ?_
      rcases r3 with ⟨e, f⟩ | ⟨k, d, f1, f2, f3⟩
      · refine Or.inl ⟨?_, f⟩
        rw [e, k_orNone, if_neg (fun z => by have := (pu_lti (by omega) (by omega)).mp z; omega)]
      · have := f1.bd z1 hg
        refine Or.inr ⟨k, d, f1, ?_, f3⟩
        rw [f2, k_orNone, if_pos ((pu_lti (by omega) (by omega)).mpr (by omega))]
    refine ⟨⟨z1, s1, z3, s3, z4, s4, ?_⟩, Ag.good h _ (mrow M 48 r9) v8 ?_ ?_ ?_ ?_ ?_ ?_ ?_⟩
    · simp only [e_round_ok, if_pos hx1, ya, ia, show a < 6 by omega, l1, and_self]
    · simp only [e_round, if_pos hx1, ia, y8]
    · simp only [KO_round, mrow_hit, mrow_miss, ne_eq, Nat.reduceEqDiff, not_false_eq_true, reduceCtorEq, kgo, z4, c4, and_self]
    · simp only [K_round, mrow_hit, mrow_miss, ne_eq, Nat.reduceEqDiff, not_false_eq_true, reduceCtorEq, kg]
      exact hv.symm
    · simp only [K_round, mrow_hit, mrow_miss, ne_eq, Nat.reduceEqDiff, not_false_eq_true, reduceCtorEq, kg]
    · simp only [K_round, mrow_hit, mrow_miss, ne_eq, Nat.reduceEqDiff, not_false_eq_true, reduceCtorEq, kg]
    · simp only [K_round, mrow_hit, mrow_miss, ne_eq, Nat.reduceEqDiff, not_false_eq_true, reduceCtorEq]
    · intro c hc
      simp only [K_round]
      rw [mrow_miss _ _ (scr_ne hc rfl), mrow_miss _ _ (scr_ne hc rfl), mrow_miss _ _ (scr_ne hc rfl), mrow_miss _ _ (scr_ne hc rfl), mrow_miss _ _ (scr_ne hc rfl)]
  · have e1 : k_isFinder (upd (M.1 54) 0 (nI 0)) (M.1 55) nf x1 (nI 1) = (nI 0, upd (upd (M.1 54) 0 (nI 0)) 0 (nI 1), upd (M.1 55) 0 (M.1 55 0 + nI 1)) := isF_f (show nf ≤ 100 by omega) (t0 _) pu_n10 hx1
    refine ⟨⟨z1, s1, z3, s3, z4, s4, by simp only [e_round_ok, if_neg hx1]⟩, Ag.bad0 h (by decide) _ (by simp only [e_round, if_neg hx1]) ?_ ?_ ?_ ?_ ?_⟩
    · simp only [KO_round, k_round_ok, mrow_hit, mrow_miss, ne_eq, Nat.reduceEqDiff, not_false_eq_true, reduceCtorEq, e1, if_pos pu_n01, z4, c4, and_self]
    · simp only [K_round, k_round, mrow_hit, mrow_miss, ne_eq, Nat.reduceEqDiff, not_false_eq_true, reduceCtorEq, e1, if_pos pu_n01]
    · simp only [K_round, k_round, mrow_hit, mrow_miss, ne_eq, Nat.reduceEqDiff, not_false_eq_true, reduceCtorEq, e1, if_pos pu_n01]
    · simp only [K_round, mrow_hit, mrow_miss, ne_eq, Nat.reduceEqDiff, not_false_eq_true, reduceCtorEq]
    · intro c hc
      simp only [K_round]
      rw [mrow_miss _ _ (scr_ne hc rfl), mrow_miss _ _ (scr_ne hc rfl), mrow_miss _ _ (scr_ne hc rfl), mrow_miss _ _ (scr_ne hc rfl), mrow_miss _ _ (scr_ne hc rfl)]
