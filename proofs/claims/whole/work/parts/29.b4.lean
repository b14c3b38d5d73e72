/-! a year where nothing goes but the nights -/
theorem yn_lp {np nr nt nf D : Nat} {W TH : Nat → Int32} (hW : TW nt W TH) (hz : SZ np nr nt nf) (hD9 : D ≤ 96) (x2 : Int32) : ∀ (k K d : Nat) (G Vs R Y md St Fa S : Nat → Int32), d ≤ D → D < d + k → 3 * D < 3 * d + K → DR np nt nf R S → md 22 = nI nt → md 23 = nI nf →
    y_goBy_61_ok W nt nf x2 (nI D) k (nI d) G Vs R Y ∧ k_yearGoes_40_ok TH x2 (nI D) K (nI (3 * d)) md St Fa S ∧ ∃ v R' v' S', y_goBy_61 W nt nf x2 (nI D) k (nI d) G Vs R Y = (v, G, Vs, R', Y) ∧ k_yearGoes_40 TH x2 (nI D) K (nI (3 * d)) md St Fa S = (v', md, St, Fa, S') ∧ DR np nt nf R' S' ∧ ∀ b, b < nf → S' (38 + b) = S (38 + b)
  | 0, K, d, G, Vs, R, Y, md, St, Fa, S, h1, h2, h3, hD, _, _ => by omega
  | k + 1, K, d, G, Vs, R, Y, md, St, Fa, S, h1, h2, h3, hD, m22, m23 => by
    obtain ⟨z1, z2, z3, z4⟩ := id hz
    have e3 : nI 3 * nI D = nI (3 * D) := pk_mul 3 D
    by_cases c : d = D
    · have f : nI D ≤ nI d := (pu_lei (by omega) (by omega)).mpr (by omega)
      have g : nI (3 * D) ≤ nI (3 * d) := (pu_lei (by omega) (by omega)).mpr (by omega)
      obtain ⟨K, rfl⟩ : ∃ K', K = K' + 1 := ⟨K - 1, by omega⟩
      exact ⟨by simp only [y_goBy_61_ok, if_pos f], by simp only [k_yearGoes_40_ok, e3, if_pos g], nI d, R, nI (3 * d), S, by simp only [y_goBy_61, if_pos f], by simp only [k_yearGoes_40, e3, if_pos g], hD, fun _ _ => rfl⟩
    · have f : ¬ nI D ≤ nI d := fun z => by
        have := (pu_lei (by omega) (by omega)).mp z
        omega
      obtain ⟨K, rfl⟩ : ∃ K', K = K' + 1 + 1 + 1 := ⟨K - 3, by omega⟩
      have gs : ∀ i, i < 3 → ¬ nI (3 * D) ≤ nI (3 * d + i) := fun i hi z => by
        have := (pu_lei (by omega) (by omega)).mp z
        omega
      have ms : ∀ i, i < 3 → nI (3 * d + i) - nI (3 * d + i) / nI 3 * nI 3 = nI i := fun i hi => by
        rw [pk_rem (show 3 * d + i < 2 ^ 31 by omega) (show 0 < 3 by omega) (show 3 < 2 ^ 31 by omega), show (3 * d + i) % 3 = i by omega]
      have n02 : ¬ nI 0 = nI 2 := by decide
      have n12 : ¬ nI 1 = nI 2 := by decide
      have g0 : ¬ nI (3 * D) ≤ nI (3 * d) := gs 0 (by omega)
      have g1 := gs 1 (by omega)
      have g2 := gs 2 (by omega)
      have m0' : nI (3 * d) - nI (3 * d) / nI 3 * nI 3 = nI 0 := ms 0 (by omega)
      have m1' := ms 1 (by omega)
      have m2' := ms 2 (by omega)
      have i22 : ix (nI nt) = nt := pu_ix (by omega)
      have i23 : ix (nI nf) = nf := pu_ix (by omega)
      have y22 : isN (nI nt) := pu_isN (by omega)
      have y23 : isN (nI nf) := pu_isN (by omega)
      obtain ⟨t1, t2, t3, -, t5⟩ := sm_night hD hW hz
      have hc3 : cN 3 = 3 := cN_eq 3
      have n70 : y_goBy_70 x2 (nI D) (nI d) 3 0 G Vs R Y = (G, Vs, R, Y) := by simp only [y_goBy_70]
      rcases w9 : d_nightFalls W R nt nf with ⟨u9, R9⟩
      rcases w8 : k_passes TH S nt nf with ⟨u8, S9⟩
      rw [w8] at t3 t5
      rw [w9] at t3
      simp only at t3 t5
      obtain ⟨j1, j2, v, R', v', S', j3, j4, j5, j6⟩ := yn_lp hW hz hD9 x2 k K (d + 1) G Vs R9 Y md St Fa S9 (by omega) (by omega) (by omega) t3 m22 m23
      have j2' : k_yearGoes_40_ok TH x2 (nI D) K (nI (3 * d + 2 + 1)) md St Fa S9 := j2
      have j4' : k_yearGoes_40 TH x2 (nI D) K (nI (3 * d + 2 + 1)) md St Fa S9 = (v', md, St, Fa, S') := j4
      refine ⟨?_, ?_, v, R', v', S', ?_, ?_, j5, fun b hb => by rw [j6 b hb]; exact t5 b hb⟩
      · simp only [y_goBy_61_ok, if_neg f, hc3, n70, t1, w9, nI_add, j1, and_self]
      · simp only [k_yearGoes_40_ok, e3, if_neg g0, m0', if_neg n02, nI_add, if_neg g1, m1', if_neg n12]
        rw [show 3 * d + 1 + 1 = 3 * d + 2 from rfl, if_neg g2, m2', if_pos rfl, m22, m23, i22, i23, w8]
        exact ⟨y22, z3, y23, z4, t2, j2'⟩
      · simp only [y_goBy_61, if_neg f, hc3, n70, w9, nI_add, j3]
      · simp only [k_yearGoes_40, e3, if_neg g0, m0', if_neg n02, nI_add, if_neg g1, m1', if_neg n12]
        rw [show 3 * d + 1 + 1 = 3 * d + 2 from rfl, if_neg g2, m2', if_pos rfl, m22, m23, i22, i23, w8]
        exact j4'
