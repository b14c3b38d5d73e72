/-! the law, case 39 -/
theorem lc_restore {z : Zp} (d : Nat) {np nr nt nf : Nat} {M : Mem} (h : IV np nr nt nf M) {i cells slots : Nat} (hi : i + 9 ≤ z.2.1) (hL : z.2.1 ≤ 4608) (hc : cells + 8 ≤ 601024) (hs : slots + 48 ≤ 7293033) {Q : Rs → Prop} (k : ∀ M2, InvM M2 → G z mLaw (d + 90) (cells + 8) (slots + 48) 2683 (lls i none none) [] M2 Q) : G z mLaw (d + 90) cells slots 2620 (lls i none none) [] M Q := by
  obtain ⟨hE, hA⟩ := op_restore h 
  have hM := g_e_restore z (d + 87) M  hE
  rcases hA with ⟨v, M1, e1, hKO, hv, ht, hI⟩ | ⟨M1, e1, hne, hKO, ht, hI⟩ | ⟨M1, e1, hne, hKO, ht, hI⟩
  · rw [e1] at hM
    refine G.sl [(.aload_n 1, 1, 1, 0, 0, 0)] [] (pc2 := 2621) (ls2 := (lls i none none)) (st2 := [.ref 0]) (M2 := M) (Ps := []) (by decide +kernel) rfl rfl trivial ?_
    refine G.callV (as := []) (rest := []) (a := 0) oX11_restore lk_EvenFindersLaw_260 (by decide +kernel) rfl rfl ⟨rfl, rfl⟩ (Nat.le_of_ble_eq_true rfl) rfl ⟨by show cells + 0 ≤ 601024; omega, by show slots + 0 ≤ 7293033; omega⟩ hM (fun v9 N9 h9 => ?_) (fun E9 N9 h9 => by cases h9)
    cases h9
    refine G.sl [(.aload_n 2, 1, 2, 0, 0, 0)] [] (pc2 := 2625) (ls2 := (lls i none none)) (st2 := [.ref 54, .int v]) (M2 := M1) (Ps := []) (by decide +kernel) rfl rfl trivial ?_
    refine G.callV (as := []) (rest := [.int v]) (a := 54) oX12_restore lk_EvenFindersLaw_263 (by decide +kernel) rfl rfl ⟨rfl, rfl⟩ (Nat.le_of_ble_eq_true rfl) rfl ⟨by show cells + 0 + 0 ≤ 601024; omega, by show slots + 0 + 0 ≤ 7293033; omega⟩ (g_k_restore z (d + 87) M1  hKO) (fun v9 N9 h9 => ?_) (fun E9 N9 h9 => by cases h9)
    cases h9
    rw [hv]
    refine G.ic_eq (off := 55) (tgt := 2683) (by decide +kernel) rfl (fun _ => ?_) (fun h => absurd rfl h)
    exact G.widen (show cells + 0 + 0 ≤ cells + 8 by omega) (show slots + 0 + 0 ≤ slots + 48 by omega) (k _ hI)
  · exact absurd rfl hne
  · exact absurd rfl hne
