/-! years by seeds, one after the other -/
theorem sp_lp {np nr nt nf D n a : Nat} {A B L RO W TH Lw C O V now N m0 : Nat → Int32} (hT : TRo np nr A B L RO) (hW : TW nt W TH) (hz : SZ np nr nt nf) (hD : DR np nt nf now N) (hD9 : D ≤ 96) (hn : n ≤ 20) (ha : a < nf) (m21 : m0 21 = nI nr) (m22 : m0 22 = nI nt) (m23 : m0 23 = nI nf) (hL0 : LWr Lw C m0 O V) (x1 x3 x5 : Int32) : ∀ (k i : Nat) (s7 t7 s8 s9 : Int32) (G Vs lat Y md St Fa s : Nat → Int32), i ≤ n → n < i + k → (∀ j, j ≠ 49 → md j = m0 j) → ((s7 = nI 1000000 ∧ t7 = -1 ∧ i = 0) ∨ (∃ m, m ≤ 15000 ∧ s7 = nI m ∧ t7 = nI m)) →
    e_span_63_ok A B L W Lw C now nr nt nf x1 (nI n) x3 (nI D) x5 (nI a) k s7 s8 s9 (nI i) G Vs lat Y ∧ k_span_77_ok RO TH O V N x1 (nI n) x3 (nI D) x5 (nI a) k t7 s8 s9 (nI i) md St Fa s ∧ ∃ v7 v7' v8 v9 v10 G' Vs' R' Y' v10' md' St' Fa' S', e_span_63 A B L W Lw C now nr nt nf x1 (nI n) x3 (nI D) x5 (nI a) k s7 s8 s9 (nI i) G Vs lat Y = (v7, v8, v9, v10, G', Vs', R', Y') ∧ k_span_77 RO TH O V N x1 (nI n) x3 (nI D) x5 (nI a) k t7 s8 s9 (nI i) md St Fa s = (v7', v8, v9, v10', md', St', Fa', S') ∧ (0 < n → v7' = v7) ∧ ∀ j, j ≠ 49 → md' j = m0 j
  | 0, i, s7, t7, s8, s9, G, Vs, lat, Y, md, St, Fa, s, h1, h2, hm, hr => by omega
  | k + 1, i, s7, t7, s8, s9, G, Vs, lat, Y, md, St, Fa, s, h1, h2, hm, hr => by
    by_cases c : i = n
    · have f : nI n ≤ nI i := (pu_lei (by omega) (by omega)).mpr (by omega)
      refine ⟨by simp only [e_span_63_ok, if_pos f], by simp only [k_span_77_ok, if_pos f], s7, t7, s8, s9, nI i, G, Vs, lat, Y, nI i, md, St, Fa, s, by simp only [e_span_63, if_pos f], by simp only [k_span_77, if_pos f], fun hn0 => ?_, hm⟩
      rcases hr with ⟨-, -, r3⟩ | ⟨m, -, r2, r3⟩
      · omega
      · rw [r2, r3]
    · have f : ¬ nI n ≤ nI i := fun z => by
        have := (pu_lei (by omega) (by omega)).mp z
        omega
      obtain ⟨z1, z2, z3, z4⟩ := id hz
      have e21 : md 21 = nI nr := by rw [hm 21 (by decide)]; exact m21
      have e22 : md 22 = nI nt := by rw [hm 22 (by decide)]; exact m22
      have e23 : md 23 = nI nf := by rw [hm 23 (by decide)]; exact m23
      obtain ⟨g1, g2, G', Vs', R', Y', md', St', Fa', S', g3, g4, g5, g6, g7, mv, hmv, g8⟩ := yg_eq hT hW hz (LWr_cg hL0 (hm 30 (by decide))) hD hD9 e21 e22 e23 (x1 + nI i) x3 G Vs lat Y St Fa s
      have m23' : md' 23 = nI nf := by rw [g6 23 (by decide)]; exact e23
      have hm' : ∀ j, j ≠ 49 → md' j = m0 j := fun j hj => by rw [g6 j hj]; exact hm j hj
      have i21 : ix (nI nr) = nr := pu_ix (by omega)
      have i22 : ix (nI nt) = nt := pu_ix (by omega)
      have i23 : ix (nI nf) = nf := pu_ix (by omega)
      have n21 : isN (nI nr) := pu_isN (by omega)
      have n22 : isN (nI nt) := pu_isN (by omega)
      have n23 : isN (nI nf) := pu_isN (by omega)
      have ia : ix (nI a) = a := pu_ix (by omega)
      have ya : isN (nI a) := pu_isN (by omega)
      have fv : k_foundMore N S' nf = nI mv := by rw [← g8]; exact g7.symm
      have so : S' (26 + a) = R' (7 + a) := (g5.2.1 a ha).2.1
      have l1 : 7 + a < 51 := by omega
      have l2 : 26 + a < 51 := by omega
      generalize ht' : (if t7 = -1 then nI mv else if t7 ≤ nI mv then t7 else nI mv) = t7'
      generalize hs' : (if nI mv < s7 then nI mv else s7) = s7'
      generalize h8' : (if nI mv ≤ s8 then s8 else nI mv) = s8'
      generalize h9' : (if R' (7 + a) = 0 then s9 + nI 1 else s9) = s9'
      have hr' : ∃ m, m ≤ 15000 ∧ s7' = nI m ∧ t7' = nI m := by
        rw [← ht', ← hs']
        rcases hr with ⟨r1, r2, -⟩ | ⟨m, r1, r2, r3⟩
        · refine ⟨mv, hmv, ?_, ?_⟩
          · rw [r1, if_pos ((pu_lti (by omega) (by omega)).mpr (by omega))]
          · rw [if_pos r2]
        · rw [r2, r3, if_neg (pu_nm (by omega))]
          by_cases d : mv < m
          · refine ⟨mv, hmv, ?_, ?_⟩
            · rw [if_pos ((pu_lti (by omega) (by omega)).mpr d)]
            · rw [if_neg (fun z => by have := (pu_lei (by omega) (by omega)).mp z; omega)]
          · refine ⟨m, r1, ?_, ?_⟩
            · rw [if_neg (fun z => d ((pu_lti (by omega) (by omega)).mp z))]
            · rw [if_pos ((pu_lei (by omega) (by omega)).mpr (by omega))]
      have h8e : (if s8 < nI mv then nI mv else s8) = s8' := by rw [← h8']; exact mx_eq s8 (nI mv)
      obtain ⟨j1, j2, v7, v7', v8, v9, v10, G9, V9, R9, Y9, v10', md9, St9, Fa9, S9, j3, j4, j5, j6⟩ := sp_lp hT hW hz hD hD9 hn ha m21 m22 m23 hL0 x1 x3 x5 k (i + 1) s7' t7' s8' s9' G' Vs' R' Y' md' St' Fa' S' (by omega) (by omega) hm' (Or.inr hr')
      rw [← nI_add i 1] at j1 j2 j3 j4
      refine ⟨?_, ?_, v7, v7', v8, v9, v10, G9, V9, R9, Y9, v10', md9, St9, Fa9, S9, ?_, ?_, j5, j6⟩
      · rcases Classical.propComplete (R' (7 + a) = 0) with q | q
        · rw [if_pos (of_eq_true q)] at h9'
          simp only [e_span_63_ok, if_neg f, g1, g3, ya, ia, l1, q, if_true, g8, hs', h8e, h9', j1, and_self]
        · rw [if_neg (of_eq_false q)] at h9'
          simp only [e_span_63_ok, if_neg f, g1, g3, ya, ia, l1, q, if_false, g8, hs', h8e, h9', j1, and_self]
      · have h9k : (if S' (26 + a) = 0 then s9 + nI 1 else s9 + nI 0) = s9' := by rw [pu_add0, so]; exact h9'
        clear j1 j3 h9'
        subst ht' h8' h9k
        rcases Classical.propComplete (t7 = -1) with q1 | q1 <;> rcases Classical.propComplete (t7 ≤ nI mv) with q2 | q2 <;> rcases Classical.propComplete (nI mv ≤ s8) with q3 | q3 <;> rcases Classical.propComplete (S' (26 + a) = 0) with q4 | q4 <;> simp only [q1, q2, q3, q4, if_true, if_false] at j2 <;> simp only [k_span_77_ok, if_neg f, e21, e22, e23, i21, i22, i23, n21, n22, n23, z2, z3, z4, g2, g4, m23', ya, ia, l2, fv, q1, q2, q3, q4, if_true, if_false, j2, and_self]
      · rcases Classical.propComplete (R' (7 + a) = 0) with q | q
        · rw [if_pos (of_eq_true q)] at h9'
          simp only [e_span_63, if_neg f, g3, ia, q, if_true, g8, hs', h8e, h9', j3]
        · rw [if_neg (of_eq_false q)] at h9'
          simp only [e_span_63, if_neg f, g3, ia, q, if_false, g8, hs', h8e, h9', j3]
      · have h9k : (if S' (26 + a) = 0 then s9 + nI 1 else s9 + nI 0) = s9' := by rw [pu_add0, so]; exact h9'
        clear j1 j2 j3 h9'
        subst ht' h8' h9k
        rcases Classical.propComplete (t7 = -1) with q1 | q1 <;> rcases Classical.propComplete (t7 ≤ nI mv) with q2 | q2 <;> rcases Classical.propComplete (nI mv ≤ s8) with q3 | q3 <;> rcases Classical.propComplete (S' (26 + a) = 0) with q4 | q4 <;> simp only [q1, q2, q3, q4, if_true, if_false] at j4 <;> simp only [k_span_77, if_neg f, e21, e22, e23, i21, i22, i23, g4, m23', ia, fv, q1, q2, q3, q4, if_true, if_false, j4]
