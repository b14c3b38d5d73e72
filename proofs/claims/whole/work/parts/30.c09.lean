/-! the law, case 9 -/
theorem lt_road {z : Zp} (hw : oW z = true) (d : Nat) {np nr nt nf : Nat} {N1 : Mem} {i kn cells slots : Nat} (hi : i + 9 ≤ z.2.1) (hL : z.2.1 ≤ 4608) (hc : cells + 8 ≤ 601024) (hs : slots + 48 ≤ 7293033) {Q : Rs → Prop} (hKO : KO_road N1 nr (z.2.2 (i + 1)) (z.2.2 (i + 2))) (ht : (K_road N1 nr (z.2.2 (i + 1)) (z.2.2 (i + 2))).2.1 54 0 = nI kn) (hI : InvM (K_road N1 nr (z.2.2 (i + 1)) (z.2.2 (i + 2))).2) (hv : nI kn = 0 → N1.2 = (K_road N1 nr (z.2.2 (i + 1)) (z.2.2 (i + 2))).1.toInt64) (k : ∀ M2, InvM M2 → G z mLaw (d + 90) (cells + 2) (slots + 12) 2683 (lls i none none) [] M2 Q) : G z mLaw (d + 90) (cells + 2) (slots + 12) 688 (lls i none none) [.int (nI kn)] N1 Q := by
  refine G.sl [(.istore 5, 2, 5, 0, 0, 0), (.aload_n 2, 1, 2, 0, 0, 0), (.aload_n 0, 1, 0, 0, 0, 0), (.iload 4, 2, 4, 0, 0, 0), (.iconst 1, 1, 0, 0, 0, nI 1), (.iadd, 1, 0, 0, 0, 0), (.iaload, 1, 0, 0, 0, 0), (.aload_n 0, 1, 0, 0, 0, 0), (.iload 4, 2, 4, 0, 0, 0), (.iconst 2, 1, 0, 0, 0, nI 2), (.iadd, 1, 0, 0, 0, 0), (.iaload, 1, 0, 0, 0, 0)] [i + 1, i + 2] (pc2 := 703) (ls2 := (lls i (some (.int (nI kn))) none)) (st2 := [.int (z.2.2 (i + 2)), .int (z.2.2 (i + 1)), .ref 54]) (M2 := N1) (Ps := [nI i + nI 1 = nI (i + 1) ∧ i + 1 < z.2.1 ∧ i + 1 < 2 ^ 31, nI i + nI 2 = nI (i + 2) ∧ i + 2 < z.2.1 ∧ i + 2 < 2 ^ 31]) (by decide +kernel) rfl rfl ⟨⟨nI_add i 1, by omega, by omega⟩, ⟨nI_add i 2, by omega, by omega⟩, trivial⟩ ?_
  refine G.callV (as := [.int (z.2.2 (i + 1)), .int (z.2.2 (i + 2))]) (rest := []) (a := 54) oX12_road lk_EvenFindersLaw_165 (by decide +kernel) rfl rfl ⟨rfl, rfl⟩ (Nat.le_of_ble_eq_true rfl) rfl ⟨by show cells + 2 + 0 ≤ 601024; omega, by show slots + 12 + 0 ≤ 7293033; omega⟩ (g_k_road z (d + 88) N1 nr (z.2.2 (i + 1)) (z.2.2 (i + 2)) hKO) (fun v9 N9 h9 => ?_) (fun E9 N9 h9 => by cases h9)
  cases h9
  have hmem : (K_road N1 nr (z.2.2 (i + 1)) (z.2.2 (i + 2))).2.2 = N1.2 := rfl
  generalize hKg : K_road N1 nr (z.2.2 (i + 1)) (z.2.2 (i + 2)) = KK at ht hI hv hmem ⊢
  obtain ⟨bb, N2⟩ := KK
  simp only at ht hI hv hmem ⊢
  show G z mLaw (d + 90) (cells + 2) (slots + 12) 706 (lls i (some (.int (nI kn))) none) [.int bb] N2 Q
  refine G.sl [(.istore 6, 2, 6, 0, 0, 0), (.aload_n 2, 1, 2, 0, 0, 0)] [] (pc2 := 709) (ls2 := (lls i (some (.int (nI kn))) (some (.int bb)))) (st2 := [.ref 54]) (M2 := N2) (Ps := []) (by decide +kernel) rfl rfl trivial ?_
  refine G.callV (as := []) (rest := []) (a := 54) oX12_thrown lk_EvenFindersLaw_135 (by decide +kernel) rfl rfl ⟨rfl, rfl⟩ (Nat.le_of_ble_eq_true rfl) rfl ⟨by show cells + 2 + 0 ≤ 601024; omega, by show slots + 12 + 0 ≤ 7293033; omega⟩ (c_k_thrown_54 z (d + 89) N2) (fun v9 N9 h9 => ?_) (fun E9 N9 h9 => by cases h9)
  cases h9
  have ht2 : k_thrown (N2.1 54) = nI kn := ht
  rw [ht2]
  show G z mLaw (d + 90) (cells + 2) (slots + 12) 712 (lls i (some (.int (nI kn))) (some (.int bb))) [.int (nI kn)] N2 Q
  refine G.sl [(.iload 5, 2, 5, 0, 0, 0)] [] (pc2 := 714) (ls2 := (lls i (some (.int (nI kn))) (some (.int bb)))) (st2 := [.int (nI kn), .int (nI kn)]) (M2 := N2) (Ps := []) (by decide +kernel) rfl rfl trivial ?_
  refine G.ic_eq (off := 5) (tgt := 719) (by decide +kernel) rfl (fun _ => ?_) (fun h => absurd rfl h)
  refine G.sl [(.iload 5, 2, 5, 0, 0, 0)] [] (pc2 := 721) (ls2 := (lls i (some (.int (nI kn))) (some (.int bb)))) (st2 := [.int (nI kn)]) (M2 := N2) (Ps := []) (by decide +kernel) rfl rfl trivial ?_
  have fin : G z mLaw (d + 90) (cells + 2) (slots + 12) 736 (lls i (some (.int (nI kn))) (some (.int bb))) [] N2 Q := by
    refine G.sl [(.goto 1947, 3, 2683, 0, 0, 0)] [] (pc2 := 2683) (ls2 := (lls i (some (.int (nI kn))) (some (.int bb)))) (st2 := []) (M2 := N2) (Ps := []) (by decide +kernel) rfl rfl trivial ?_
    exact G.loc (ls2 := lls i none none) (show subL (lls i none none) (lls i (some (.int (nI kn))) (some (.int bb))) from ⟨Or.inr rfl, Or.inr rfl, Or.inr rfl, Or.inr rfl, Or.inr rfl, Or.inl rfl, Or.inl rfl, Or.inr rfl, trivial⟩) (k N2 hI)
  refine G.if_ne (off := 15) (tgt := 736) (by decide +kernel) rfl (fun _ => fin) (fun h0 => ?_)
  have hv2 : N2.2 = _ := hmem.trans (hv h0)
  refine G.sl [(.aload_n 3, 1, 3, 0, 0, 0), (.iconst 0, 1, 0, 0, 0, nI 0), (.laload, 1, 0, 0, 0, 0), (.iload 6, 2, 6, 0, 0, 0), (.i2l, 1, 0, 0, 0, 0), (.lcmp, 1, 0, 0, 0, 0)] [] (pc2 := 731) (ls2 := (lls i (some (.int (nI kn))) (some (.int bb)))) (st2 := [.int (lg_cmp N2.2 bb.toInt64)]) (M2 := N2) (Ps := [(nI 0) = 0 ∧ oW z = true]) (by decide +kernel) rfl rfl ⟨⟨by decide, hw⟩, trivial⟩ ?_
  rw [hv2, lg_eq]
  exact G.if_eq (off := 5) (tgt := 736) (by decide +kernel) rfl (fun _ => fin) (fun h => absurd rfl h)
theorem lc_road {z : Zp} (hw : oW z = true) (d : Nat) {np nr nt nf : Nat} {M : Mem} (h : IV np nr nt nf M) {i cells slots : Nat} (hi : i + 9 ≤ z.2.1) (hL : z.2.1 ≤ 4608) (hc : cells + 8 ≤ 601024) (hs : slots + 48 ≤ 7293033) {Q : Rs → Prop} (k : ∀ M2, InvM M2 → G z mLaw (d + 90) (cells + 8) (slots + 48) 2683 (lls i none none) [] M2 Q) : G z mLaw (d + 90) cells slots 671 (lls i none none) [] M Q := by
  have k2 : ∀ M2, InvM M2 → G z mLaw (d + 90) (cells + 2) (slots + 12) 2683 (lls i none none) [] M2 Q := fun M2 h2 => G.widen (by omega) (by omega) (k M2 h2)
  obtain ⟨hE, hA⟩ := op_road h (z.2.2 (i + 1)) (z.2.2 (i + 2))
  have hM := g_e_road z (d + 81) M nr (z.2.2 (i + 1)) (z.2.2 (i + 2)) hE
  refine G.sl [(.aload_n 1, 1, 1, 0, 0, 0), (.aload_n 0, 1, 0, 0, 0, 0), (.iload 4, 2, 4, 0, 0, 0), (.iconst 1, 1, 0, 0, 0, nI 1), (.iadd, 1, 0, 0, 0, 0), (.iaload, 1, 0, 0, 0, 0), (.aload_n 0, 1, 0, 0, 0, 0), (.iload 4, 2, 4, 0, 0, 0), (.iconst 2, 1, 0, 0, 0, nI 2), (.iadd, 1, 0, 0, 0, 0), (.iaload, 1, 0, 0, 0, 0), (.aload_n 3, 1, 3, 0, 0, 0)] [i + 1, i + 2] (pc2 := 685) (ls2 := (lls i none none)) (st2 := [.ref 80, .int (z.2.2 (i + 2)), .int (z.2.2 (i + 1)), .ref 0]) (M2 := M) (Ps := [nI i + nI 1 = nI (i + 1) ∧ i + 1 < z.2.1 ∧ i + 1 < 2 ^ 31, nI i + nI 2 = nI (i + 2) ∧ i + 2 < z.2.1 ∧ i + 2 < 2 ^ 31]) (by decide +kernel) rfl rfl ⟨⟨nI_add i 1, by omega, by omega⟩, ⟨nI_add i 2, by omega, by omega⟩, trivial⟩ ?_
  rcases hA with ⟨v, M1, e1, hKO, hv, ht, hI⟩ | ⟨M1, e1, hne, hKO, ht, hI⟩ | ⟨M1, e1, hne, hKO, ht, hI⟩
  · rw [e1] at hM
    refine G.callSH (as := [.ref 0, .int (z.2.2 (i + 1)), .int (z.2.2 (i + 2)), .ref 80]) (rest := []) oL_road lk_EvenFindersLaw_163 (by decide +kernel) rfl (Nat.le_of_ble_eq_true rfl) rfl ⟨by show cells + 2 ≤ 601024; omega, by show slots + 12 ≤ 7293033; omega⟩ (h_road_r z hw (d + 88) M M1 (z.2.2 (i + 1)) (z.2.2 (i + 2)) v hM) (fun v9 N9 h9 => ?_) (fun E9 N9 h9 => by cases h9)
    cases h9
    have eK : K_road (mout M1 v.toInt64) nr (z.2.2 (i + 1)) (z.2.2 (i + 2)) = ((K_road M1 nr (z.2.2 (i + 1)) (z.2.2 (i + 2))).1, mout (K_road M1 nr (z.2.2 (i + 1)) (z.2.2 (i + 2))).2 v.toInt64) := rfl
    have eO : KO_road (mout M1 v.toInt64) nr (z.2.2 (i + 1)) (z.2.2 (i + 2)) = KO_road M1 nr (z.2.2 (i + 1)) (z.2.2 (i + 2)) := rfl
    refine lt_road (N1 := mout M1 v.toInt64) (np := np) (nr := nr) (nt := nt) (nf := nf) hw d hi hL hc hs (by rw [eO]; exact hKO) ?_ ?_ (fun _ => ?_) k2
    · rw [eK]; exact ht
    · rw [eK]; exact InvM.out hI
    · rw [eK]; exact congrArg Int32.toInt64 hv.symm
  · rw [e1] at hM
    refine G.callSH (as := [.ref 0, .int (z.2.2 (i + 1)), .int (z.2.2 (i + 2)), .ref 80]) (rest := []) oL_road lk_EvenFindersLaw_163 (by decide +kernel) rfl (Nat.le_of_ble_eq_true rfl) rfl ⟨by show cells + 2 ≤ 601024; omega, by show slots + 12 ≤ 7293033; omega⟩ (h_road_i z hw (d + 88) M M1 (z.2.2 (i + 1)) (z.2.2 (i + 2)) hM) (fun v9 N9 h9 => ?_) (fun E9 N9 h9 => by cases h9)
    cases h9
    exact lt_road (N1 := M1) (np := np) (nr := nr) (nt := nt) (nf := nf) hw d hi hL hc hs hKO ht hI (fun h0 => absurd h0 (by decide)) k2
  · rw [e1] at hM
    refine G.callSH (as := [.ref 0, .int (z.2.2 (i + 1)), .int (z.2.2 (i + 2)), .ref 80]) (rest := []) oL_road lk_EvenFindersLaw_163 (by decide +kernel) rfl (Nat.le_of_ble_eq_true rfl) rfl ⟨by show cells + 2 ≤ 601024; omega, by show slots + 12 ≤ 7293033; omega⟩ (h_road_n z hw (d + 88) M M1 (z.2.2 (i + 1)) (z.2.2 (i + 2)) hM) (fun v9 N9 h9 => ?_) (fun E9 N9 h9 => by cases h9)
    cases h9
    exact lt_road (N1 := M1) (np := np) (nr := nr) (nt := nt) (nf := nf) hw d hi hL hc hs hKO ht hI (fun h0 => absurd h0 (by decide)) k2
