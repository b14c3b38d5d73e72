/-! a year: the days -/
def YS (np nr nt nf : Nat) (Lw C O V NN m0 R Y md S : Nat → Int32) : Prop := DR np nt nf R S ∧ Y 1 = md 49 ∧ (md 21 = nI nr ∧ md 22 = nI nt ∧ md 23 = nI nf) ∧ LWr Lw C md O V ∧ Y 0 = k_foundMore_4 NN S nf ∧ ∀ j, j ≠ 49 → md j = m0 j
theorem YS.go {np nr nt nf : Nat} {Lw C O V NN m0 R Y md S R' Y' md' S' : Nat → Int32} (h : YS np nr nt nf Lw C O V NN m0 R Y md S) (hD : DR np nt nf R' S') (hY : Y' 1 = md' 49) (hm : ∀ j, j ≠ 49 → md' j = md j) (hx : ∃ x, Y' 0 = Y 0 + x ∧ k_foundMore_4 NN S' nf = k_foundMore_4 NN S nf + x) : YS np nr nt nf Lw C O V NN m0 R' Y' md' S' := by
  obtain ⟨-, -, ⟨a1, a2, a3⟩, a4, a5, a6⟩ := h
  obtain ⟨x, x1, x2⟩ := hx
  exact ⟨hD, hY, ⟨by rw [hm 21 (by decide)]; exact a1, by rw [hm 22 (by decide)]; exact a2, by rw [hm 23 (by decide)]; exact a3⟩, LWr_cg a4 (hm 30 (by decide)), by rw [x1, x2, a5], fun j hj => by rw [hm j hj]; exact a6 j hj⟩
theorem yr_lp {np nr nt nf D : Nat} {A B L RO W TH Lw C O V NN m0 : Nat → Int32} (hT : TRo np nr A B L RO) (hW : TW nt W TH) (hz : SZ np nr nt nf) (n1 : 1 ≤ nf) (n2 : 1 ≤ nr) (n3 : 1 ≤ nt) (hD9 : D ≤ 96) (x2 : Int32) : ∀ (k K d : Nat) (G Vs R Y md St Fa S : Nat → Int32), d ≤ D → D < d + k → 3 * D < 3 * d + K → YS np nr nt nf Lw C O V NN m0 R Y md S →
    y_goBy_61d_ok A B L W Lw C nr nt nf x2 (nI D) k (nI d) G Vs R Y ∧ k_yearGoes_40d_ok RO TH O V x2 (nI D) K (nI (3 * d)) md St Fa S ∧ ∃ v G' Vs' R' Y' v' md' St' Fa' S', y_goBy_61d A B L W Lw C nr nt nf x2 (nI D) k (nI d) G Vs R Y = (v, G', Vs', R', Y') ∧ k_yearGoes_40d RO TH O V x2 (nI D) K (nI (3 * d)) md St Fa S = (v', md', St', Fa', S') ∧ YS np nr nt nf Lw C O V NN m0 R' Y' md' S'
  | 0, K, d, G, Vs, R, Y, md, St, Fa, S, h1, h2, h3, hS => by omega
  | k + 1, K, d, G, Vs, R, Y, md, St, Fa, S, h1, h2, h3, hS => by
    have e3 : nI 3 * nI D = nI (3 * D) := (Int32.ofNat_mul 3 D).symm
    by_cases c : d = D
    · have f : nI D ≤ nI d := (pu_lei (by omega) (by omega)).mpr (by omega)
      have g : nI (3 * D) ≤ nI (3 * d) := (pu_lei (by omega) (by omega)).mpr (by omega)
      obtain ⟨K, rfl⟩ : ∃ K', K = K' + 1 := ⟨K - 1, by omega⟩
      refine ⟨by simp only [y_goBy_61d_ok, if_pos f], by simp only [k_yearGoes_40d_ok, e3, if_pos g], nI d, G, Vs, R, Y, nI (3 * d), md, St, Fa, S, by simp only [y_goBy_61d, if_pos f], by simp only [k_yearGoes_40d, e3, if_pos g], hS⟩
    · have f : ¬ nI D ≤ nI d := fun z => by
        have := (pu_lei (by omega) (by omega)).mp z
        omega
      obtain ⟨K, rfl⟩ : ∃ K', K = K' + 1 + 1 + 1 := ⟨K - 3, by omega⟩
      have gs : ∀ i, i < 3 → ¬ nI 3 * nI D ≤ nI (3 * d + i) := fun i hi z => by
        rw [e3] at z
        have := (pu_lei (by omega) (by omega)).mp z
        omega
      have ms : ∀ i, i < 3 → nI (3 * d + i) - nI (3 * d + i) / nI 3 * nI 3 = nI i := fun i hi => by
        rw [pk_rem (show 3 * d + i < 2 ^ 31 by omega) (show 0 < 3 by omega) (show 3 < 2 ^ 31 by omega), show (3 * d + i) % 3 = i by omega]
      have n02 : ¬ nI 0 = nI 2 := by decide
      have n12 : ¬ nI 1 = nI 2 := by decide
      obtain ⟨p1, G1, V1, R1, Y1, md1, St1, Fa1, S1, p2, p3, p4, p5, p6, p7⟩ := ot_eq (St := St) (Fa := Fa) (G := G) (Vs := Vs) hT hW hz hS.2.2.2.1 hS.1 n1 n2 n3 hS.2.1 hS.2.2.1.1 hS.2.2.1.2.1 hS.2.2.1.2.2 x2 NN
      have hS1 := hS.go p3 p4 p5 p6
      obtain ⟨q1, G2, V2, R2, Y2, md2, St2, Fa2, S2, q2, q3, q4, q5, q6, q7⟩ := ot_eq (St := St1) (Fa := Fa1) (G := G1) (Vs := V1) hT hW hz hS1.2.2.2.1 hS1.1 n1 n2 n3 hS1.2.1 hS1.2.2.1.1 hS1.2.2.1.2.1 hS1.2.2.1.2.2 x2 NN
      have hS2 := hS1.go q3 q4 q5 q6
      obtain ⟨r1, G3, V3, R3, Y3, md3, St3, Fa3, S3, r2, r3, r4, r5, r6, r7⟩ := ot_eq (St := St2) (Fa := Fa2) (G := G2) (Vs := V2) hT hW hz hS2.2.2.2.1 hS2.1 n1 n2 n3 hS2.2.1 hS2.2.2.1.1 hS2.2.2.1.2.1 hS2.2.2.1.2.2 x2 NN
      have hS3 := hS2.go r3 r4 r5 r6
      obtain ⟨t1, t2, t3, -, t5⟩ := sm_night hS3.1 hW hz
      have hS4 : YS np nr nt nf Lw C O V NN m0 (d_nightFalls W R3 nt nf).2 Y3 md3 (k_passes TH S3 nt nf).2 := hS3.go t3 hS3.2.1 (fun _ _ => rfl) ⟨nI 0, by rw [nI_0, Int32.add_zero], by
        rw [fm_up NN S3 (k_passes TH S3 nt nf).2 (a := nf) (nI 0) nf (fun b hb => by rw [t5 b hb, ite_self, nI_0, Int32.add_zero]), ite_self]⟩
      obtain ⟨j1, j2, v, G', Vs', R', Y', v', md', St', Fa', S', j3, j4, j5⟩ := yr_lp hT hW hz n1 n2 n3 hD9 x2 k K (d + 1) G3 V3 (d_nightFalls W R3 nt nf).2 Y3 md3 St3 Fa3 (k_passes TH S3 nt nf).2 (by omega) (by omega) (by omega) hS4
      obtain ⟨p8, p9⟩ := p7 (K + 1 + 1) (nI (3 * d)) (nI D) (gs 0 (by omega))
      obtain ⟨q8, q9⟩ := q7 (K + 1) (nI (3 * d + 1)) (nI D) (gs 1 (by omega))
      obtain ⟨r8, r9⟩ := r7 K (nI (3 * d + 2)) (nI D) (gs 2 (by omega))
      have m0' := ms 0 (by omega)
      rw [Nat.add_zero] at m0'
      rw [m0', if_neg n02, nI_add] at p8
      rw [m0', if_neg n02, nI_add] at p9
      rw [ms 1 (by omega), if_neg n12, nI_add] at q8
      rw [ms 1 (by omega), if_neg n12, nI_add] at q9
      rw [ms 2 (by omega), if_pos rfl, nI_add] at r8
      rw [ms 2 (by omega), if_pos rfl, nI_add] at r9
      have hc3 : cN 3 = 3 := cN_eq 3
      have n70 : y_goBy_70d A B L W Lw C nr nt nf x2 (nI D) (nI d) 3 0 G Vs R Y = (G3, V3, R3, Y3) := by simp only [y_goBy_70d, p2, q2, r2]
      have n71 : y_goBy_70d_ok A B L W Lw C nr nt nf x2 (nI D) (nI d) 3 0 G Vs R Y := by simp only [y_goBy_70d_ok, p1, p2, q1, q2, r1, r2, and_self]
      rcases w9 : d_nightFalls W R3 nt nf with ⟨u9, R9⟩
      rw [w9] at j1 j3
      refine ⟨?_, p9 (q9 (r9 ⟨t2, j2⟩)), v, G', Vs', R', Y', v', md', St', Fa', S', ?_, ?_, j5⟩
      · simp only [y_goBy_61d_ok, if_neg f, hc3, n71, n70, t1, w9, nI_add, j1, and_self]
      · simp only [y_goBy_61d, if_neg f, hc3, n70, w9, nI_add, j3]
      · rw [p8, q8, r8]; exact j4
