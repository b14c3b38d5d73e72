/-! the law, case 41 -/
theorem lc_count {z : Zp} (d : Nat) {np nr nt nf : Nat} {M : Mem} (h : IV np nr nt nf M) {i cells slots : Nat} (hi : i + 9 ≤ z.2.1) (hL : z.2.1 ≤ 4608) (hc : cells + 8 ≤ 601024) (hs : slots + 48 ≤ 7293033) {Q : Rs → Prop} (k : ∀ M2, InvM M2 → G z mLaw (d + 90) (cells + 8) (slots + 48) 2683 (lls i none none) [] M2 Q) : G z mLaw (d + 90) cells slots 2658 (lls i none none) [] M Q := by
  obtain ⟨hE, hA⟩ := op_count h (z.2.2 (i + 1))
  have hM := g_e_count z (d + 89) M (z.2.2 (i + 1)) hE
  rcases hA with ⟨v, M1, e1, hKO, hv, ht, hI⟩ | ⟨M1, e1, hne, hKO, ht, hI⟩ | ⟨M1, e1, hne, hKO, ht, hI⟩
  · rw [e1] at hM
    refine G.sl [(.aload_n 1, 1, 1, 0, 0, 0), (.aload_n 0, 1, 0, 0, 0, 0), (.iload 4, 2, 4, 0, 0, 0), (.iconst 1, 1, 0, 0, 0, nI 1), (.iadd, 1, 0, 0, 0, 0), (.iaload, 1, 0, 0, 0, 0)] [i + 1] (pc2 := 2665) (ls2 := (lls i none none)) (st2 := [.int (z.2.2 (i + 1)), .ref 0]) (M2 := M) (Ps := [nI i + nI 1 = nI (i + 1) ∧ i + 1 < z.2.1 ∧ i + 1 < 2 ^ 31]) (by decide +kernel) rfl rfl ⟨⟨nI_add i 1, by omega, by omega⟩, trivial⟩ ?_
    refine G.callV (as := [.int (z.2.2 (i + 1))]) (rest := []) (a := 0) oX11_count lk_EvenFindersLaw_268 (by decide +kernel) rfl rfl ⟨rfl, rfl⟩ (Nat.le_of_ble_eq_true rfl) rfl ⟨by show cells + 0 ≤ 601024; omega, by show slots + 0 ≤ 7293033; omega⟩ hM (fun v9 N9 h9 => ?_) (fun E9 N9 h9 => by cases h9)
    cases h9
    refine G.sl [(.aload_n 2, 1, 2, 0, 0, 0), (.aload_n 0, 1, 0, 0, 0, 0), (.iload 4, 2, 4, 0, 0, 0), (.iconst 1, 1, 0, 0, 0, nI 1), (.iadd, 1, 0, 0, 0, 0), (.iaload, 1, 0, 0, 0, 0)] [i + 1] (pc2 := 2675) (ls2 := (lls i none none)) (st2 := [.int (z.2.2 (i + 1)), .ref 54, .int v]) (M2 := M1) (Ps := [nI i + nI 1 = nI (i + 1) ∧ i + 1 < z.2.1 ∧ i + 1 < 2 ^ 31]) (by decide +kernel) rfl rfl ⟨⟨nI_add i 1, by omega, by omega⟩, trivial⟩ ?_
    refine G.callV (as := [.int (z.2.2 (i + 1))]) (rest := [.int v]) (a := 54) oX12_count lk_EvenFindersLaw_271 (by decide +kernel) rfl rfl ⟨rfl, rfl⟩ (Nat.le_of_ble_eq_true rfl) rfl ⟨by show cells + 0 + 0 ≤ 601024; omega, by show slots + 0 + 0 ≤ 7293033; omega⟩ (g_k_count z (d + 89) M1 (z.2.2 (i + 1)) hKO) (fun v9 N9 h9 => ?_) (fun E9 N9 h9 => by cases h9)
    cases h9
    rw [hv]
    refine G.ic_eq (off := 5) (tgt := 2683) (by decide +kernel) rfl (fun _ => ?_) (fun h => absurd rfl h)
    exact G.widen (show cells + 0 + 0 ≤ cells + 8 by omega) (show slots + 0 + 0 ≤ slots + 48 by omega) (k _ hI)
  · exact absurd rfl hne
  · exact absurd rfl hne
