/-! a year: one time -/
theorem ot_eq {np nr nt nf : Nat} {A B L RO W TH Lw G C Vs R S md O V St Fa Y : Nat → Int32} (hT : TRo np nr A B L RO) (hW : TW nt W TH) (hz : SZ np nr nt nf) (hL : LWr Lw C md O V) (hD : DR np nt nf R S) (n1 : 1 ≤ nf) (n2 : 1 ≤ nr) (n3 : 1 ≤ nt) (hY : Y 1 = md 49) (m21 : md 21 = nI nr) (m22 : md 22 = nI nt) (m23 : md 23 = nI nf) (x2 : Int32) (NN : Nat → Int32) :
    y_goOneTime_ok A B L W Lw G C Vs R Y nr nt nf x2 ∧ ∃ G' Vs' R' Y' md' St' Fa' S', y_goOneTime A B L W Lw G C Vs R Y nr nt nf x2 = (0, G', Vs', R', Y') ∧ DR np nt nf R' S' ∧ Y' 1 = md' 49 ∧ (∀ j, j ≠ 49 → md' j = md j) ∧ (∃ x, Y' 0 = Y 0 + x ∧ k_foundMore_4 NN S' nf = k_foundMore_4 NN S nf + x) ∧
      ∀ (k : Nat) (s x3 : Int32), (¬ (nI 3 * x3) ≤ s) →
        k_yearGoes_40d RO TH O V x2 x3 (k + 1) s md St Fa S = (if (s - s / nI 3 * nI 3) = nI 2 then k_yearGoes_40d RO TH O V x2 x3 k (s + nI 1) md' St' Fa' (k_passes TH S' nt nf).2 else k_yearGoes_40d RO TH O V x2 x3 k (s + nI 1) md' St' Fa' S') ∧
        ((if (s - s / nI 3 * nI 3) = nI 2 then (k_passes_ok TH S' nt nf ∧ k_yearGoes_40d_ok RO TH O V x2 x3 k (s + nI 1) md' St' Fa' (k_passes TH S' nt nf).2) else k_yearGoes_40d_ok RO TH O V x2 x3 k (s + nI 1) md' St' Fa' S') → k_yearGoes_40d_ok RO TH O V x2 x3 (k + 1) s md St Fa S) := by
  obtain ⟨z1, z2, z3, z4⟩ := id hz
  obtain ⟨a1, a2, a, s1, ha, a3, a4⟩ := dr_eq hY n1 (show nf ≤ 100 by omega)
  obtain ⟨b1, b2, r, s2, hr, b3, b4⟩ := dr_eq (Y := upd Y 1 s1) (md := upd md 49 s1) (by rw [pk_us, pk_us]) n2 (show nr ≤ 100 by omega)
  obtain ⟨d1, d2, t, s3, ht, d3, d4⟩ := dr_eq (Y := upd (upd Y 1 s1) 1 s2) (md := upd (upd md 49 s1) 49 s2) (by rw [pk_us, pk_us]) n3 (show nt ≤ 100 by omega)
  have ia : ix (nI a) = a := pu_ix (by omega)
  have ir : ix (nI r) = r := pu_ix (by omega)
  have it : ix (nI t) = t := pu_ix (by omega)
  have i22 : ix (nI nt) = nt := pu_ix (by omega)
  have i23 : ix (nI nf) = nf := pu_ix (by omega)
  have ya : isN (nI a) := pu_isN (by omega)
  have yr : isN (nI r) := pu_isN (by omega)
  have yt : isN (nI t) := pu_isN (by omega)
  have y22 : isN (nI nt) := pu_isN (by omega)
  have y23 : isN (nI nf) := pu_isN (by omega)
  have e21 : upd md 49 s1 21 = nI nr := by rw [pk_un (by decide)]; exact m21
  have e22 : upd (upd md 49 s1) 49 s2 22 = nI nt := by rw [pk_un (by decide), pk_un (by decide)]; exact m22
  have f22 : upd (upd (upd md 49 s1) 49 s2) 49 s3 22 = nI nt := by rw [pk_un (by decide)]; exact e22
  obtain ⟨-, D1⟩ := sm_walks hD hT hz ha hr
  have k19 : ∀ b, b < nf → (d_walks A B L R a r).2 (19 + b) = R (19 + b) := fun b hb => fd_w A B L R (by omega) (by omega)
  rcases w1 : d_walks A B L R a r with ⟨v25, r26⟩
  rcases w2 : k_walks RO S nt a r with ⟨v88, r89⟩
  rw [w1, w2] at D1
  rw [w1] at k19
  simp only at D1 k19
  have hL3 : LWr Lw C (upd (upd (upd md 49 s1) 49 s2) 49 s3) O V := LWr_cg hL (by rw [pk_un (by decide), pk_un (by decide), pk_un (by decide)])
  obtain ⟨g1, g2, g3, g4, g5, g6⟩ := sm_finds (G := G) (Vs := Vs) (St := St) (F := Fa) D1 hW hz hL3 ha ht
  rcases w3 : d_finds W Lw G C Vs r26 nt a t with ⟨v33, r34, r35, r36⟩
  rcases w4 : k_finds (upd (upd (upd md 49 s1) 49 s2) 49 s3) TH O V St Fa r89 nt a t with ⟨v104, r105, r106, r107⟩
  rw [w3, w4] at g3 g4 g6
  rw [w3] at g5
  simp only at g3 g4 g5 g6
  rw [g3] at w4
  have f107 : ∀ b, b < nf → r107 (38 + b) = S (38 + b) + (if b = a then v33 else nI 0) := fun b hb => by
    rw [g6 b hb, (D1.2.1 b hb).2.2.2.1, k19 b hb, (hD.2.1 b hb).2.2.2.1]
  have more : ∀ (R9 S9 : Nat → Int32), DR np nt nf R9 S9 → (∀ b, b < nf → R9 (19 + b) = r36 (19 + b)) → k_foundMore_4 NN S9 nf = k_foundMore_4 NN S nf + v33 := fun R9 S9 h9 hk => by
    rw [fm_up NN S S9 (a := a) v33 nf (fun b hb => by rw [(h9.2.1 b hb).2.2.2.1, hk b hb, ← (g4.2.1 b hb).2.2.2.1]; exact f107 b hb), if_pos ha]
  rcases g5 with e5 | e5
  · rw [e5] at w3 w4 more
    obtain ⟨-, D2⟩ := sm_loses g4 hW hz ha ht
    have l19 : ∀ b, b < nf → (d_loses W r36 a t).2 (19 + b) = r36 (19 + b) := fun b hb => fd_l W r36 (by omega) (by omega)
    rcases w5 : d_loses W r36 a t with ⟨v42, r43⟩
    rcases w6 : k_loses TH r107 a t with ⟨v148, r149⟩
    rw [w5, w6] at D2
    rw [w5] at l19
    simp only at D2 l19
    obtain ⟨q1, q2, u, s4, hu, q3, q4⟩ := dr_eq (Y := upd (upd (upd Y 1 s1) 1 s2) 1 s3) (md := upd (upd (upd md 49 s1) 49 s2) 49 s3) (by rw [pk_us, pk_us]) (m := 16) (by omega) (by omega)
    have h22 : upd (upd (upd (upd md 49 s1) 49 s2) 49 s3) 49 s4 22 = nI nt := by rw [pk_un (by decide)]; exact f22
    have h23 : upd (upd (upd (upd md 49 s1) 49 s2) 49 s3) 49 s4 23 = nI nf := by rw [pk_un (by decide), pk_un (by decide), pk_un (by decide), pk_un (by decide)]; exact m23
    refine ⟨?_, ?_⟩
    · simp only [y_goOneTime_ok, a1, a3, b1, b3, d1, d3, ya, yr, yt, ia, ir, it, show a < 6 by omega, show r < 12 by omega, show t < 10 by omega, w1, g1, w3, if_pos pu_n01, w5, q1, and_self]
    by_cases cx : x2 ≤ nI u
    · refine ⟨r34, r35, r43, (upd (upd (upd (upd Y 1 s1) 1 s2) 1 s3) 1 s4), upd (upd (upd (upd md 49 s1) 49 s2) 49 s3) 49 s4, r105, r106, r149, ?_, D2, ?_, ?_, ⟨nI 0, ?_, more _ _ D2 l19⟩, ?_⟩
      · simp only [y_goOneTime, a3, b3, d3, ia, ir, it, w1, w3, if_pos pu_n01, w5, q3, if_pos cx]
      · rw [pk_us, pk_us]
      · intro j hj; rw [pk_un hj, pk_un hj, pk_un hj, pk_un hj]
      · rw [pk_un (by decide), pk_un (by decide), pk_un (by decide), pk_un (by decide), nI_0, Int32.add_zero]
      · intro k s x3 hs
        rcases w9 : k_passes TH r149 nt nf with ⟨u9, r9⟩
        simp only [k_yearGoes_40d, k_yearGoes_40d_ok, if_neg hs, m23, a2, a4, e21, b2, b4, e22, d2, d4, f22, ia, ir, it, i22, i23, ya, yr, yt, y22, y23, z3, z4, show a < 6 by omega, show r < 12 by omega, show t < 10 by omega, w2, g2, w4, if_pos pu_n01, w6, q2, q4, if_pos cx, h22, h23, w9, true_and]
        exact fun z => z
    · obtain ⟨-, D3⟩ := sm_slips D2 hW hz ha ht
      have j19 : ∀ b, b < nf → (d_slips W r43 a t).2 (19 + b) = r36 (19 + b) := fun b hb => by rw [fd_s W r43 (by omega) (by omega)]; exact l19 b hb
      rcases w7 : d_slips W r43 a t with ⟨v55, r56⟩
      rcases w8 : k_letsLie_m99 TH r149 a t with ⟨v172, r173⟩
      rw [w7, w8] at D3
      rw [w7] at j19
      simp only at D3 j19
      refine ⟨r34, r35, r56, (upd (upd (upd (upd Y 1 s1) 1 s2) 1 s3) 1 s4), upd (upd (upd (upd md 49 s1) 49 s2) 49 s3) 49 s4, r105, r106, r173, ?_, D3, ?_, ?_, ⟨nI 0, ?_, more _ _ D3 j19⟩, ?_⟩
      · simp only [y_goOneTime, a3, b3, d3, ia, ir, it, w1, w3, if_pos pu_n01, w5, q3, if_neg cx, w7]
      · rw [pk_us, pk_us]
      · intro j hj; rw [pk_un hj, pk_un hj, pk_un hj, pk_un hj]
      · rw [pk_un (by decide), pk_un (by decide), pk_un (by decide), pk_un (by decide), nI_0, Int32.add_zero]
      · intro k s x3 hs
        rcases w9 : k_passes TH r173 nt nf with ⟨u9, r9⟩
        simp only [k_yearGoes_40d, k_yearGoes_40d_ok, if_neg hs, m23, a2, a4, e21, b2, b4, e22, d2, d4, f22, ia, ir, it, i22, i23, ya, yr, yt, y22, y23, z3, z4, show a < 6 by omega, show r < 12 by omega, show t < 10 by omega, w2, g2, w4, if_pos pu_n01, w6, q2, q4, if_neg cx, w8, h22, h23, w9, true_and]
        exact fun z => z
  · rw [e5] at w3 w4 more
    obtain ⟨q1, q2, u, s4, hu, q3, q4⟩ := dr_eq (Y := upd (upd (upd (upd Y 1 s1) 1 s2) 1 s3) 0 (upd (upd (upd Y 1 s1) 1 s2) 1 s3 0 + nI 1)) (md := upd (upd (upd md 49 s1) 49 s2) 49 s3) (by rw [pk_un (by decide), pk_us, pk_us]) (m := 16) (by omega) (by omega)
    have h22 : upd (upd (upd (upd md 49 s1) 49 s2) 49 s3) 49 s4 22 = nI nt := by rw [pk_un (by decide)]; exact f22
    have h23 : upd (upd (upd (upd md 49 s1) 49 s2) 49 s3) 49 s4 23 = nI nf := by rw [pk_un (by decide), pk_un (by decide), pk_un (by decide), pk_un (by decide)]; exact m23
    refine ⟨?_, ?_⟩
    · simp only [y_goOneTime_ok, a1, a3, b1, b3, d1, d3, ya, yr, yt, ia, ir, it, show a < 6 by omega, show r < 12 by omega, show t < 10 by omega, w1, g1, w3, if_neg pu_n10, q1, and_self]
    by_cases cx : x2 ≤ nI u
    · refine ⟨r34, r35, r36, (upd (upd (upd (upd (upd Y 1 s1) 1 s2) 1 s3) 0 (upd (upd (upd Y 1 s1) 1 s2) 1 s3 0 + nI 1)) 1 s4), upd (upd (upd (upd md 49 s1) 49 s2) 49 s3) 49 s4, r105, r106, r107, ?_, g4, ?_, ?_, ⟨nI 1, ?_, more _ _ g4 (fun _ _ => rfl)⟩, ?_⟩
      · simp only [y_goOneTime, a3, b3, d3, ia, ir, it, w1, w3, if_neg pu_n10, q3, if_pos cx]
      · rw [pk_us, pk_us]
      · intro j hj; rw [pk_un hj, pk_un hj, pk_un hj, pk_un hj]
      · rw [pk_un (by decide), pk_us, pk_un (by decide), pk_un (by decide), pk_un (by decide)]
      · intro k s x3 hs
        rcases w9 : k_passes TH r107 nt nf with ⟨u9, r9⟩
        simp only [k_yearGoes_40d, k_yearGoes_40d_ok, if_neg hs, m23, a2, a4, e21, b2, b4, e22, d2, d4, f22, ia, ir, it, i22, i23, ya, yr, yt, y22, y23, z3, z4, show a < 6 by omega, show r < 12 by omega, show t < 10 by omega, w2, g2, w4, if_neg pu_n10, q2, q4, if_pos cx, h22, h23, w9, true_and]
        exact fun z => z
    · obtain ⟨-, D3⟩ := sm_slips g4 hW hz ha ht
      have j19 : ∀ b, b < nf → (d_slips W r36 a t).2 (19 + b) = r36 (19 + b) := fun b hb => fd_s W r36 (by omega) (by omega)
      rcases w7 : d_slips W r36 a t with ⟨v68, r69⟩
      rcases w8 : k_letsLie_m99 TH r107 a t with ⟨v131, r132⟩
      rw [w7, w8] at D3
      rw [w7] at j19
      simp only at D3 j19
      refine ⟨r34, r35, r69, (upd (upd (upd (upd (upd Y 1 s1) 1 s2) 1 s3) 0 (upd (upd (upd Y 1 s1) 1 s2) 1 s3 0 + nI 1)) 1 s4), upd (upd (upd (upd md 49 s1) 49 s2) 49 s3) 49 s4, r105, r106, r132, ?_, D3, ?_, ?_, ⟨nI 1, ?_, more _ _ D3 j19⟩, ?_⟩
      · simp only [y_goOneTime, a3, b3, d3, ia, ir, it, w1, w3, if_neg pu_n10, q3, if_neg cx, w7]
      · rw [pk_us, pk_us]
      · intro j hj; rw [pk_un hj, pk_un hj, pk_un hj, pk_un hj]
      · rw [pk_un (by decide), pk_us, pk_un (by decide), pk_un (by decide), pk_un (by decide)]
      · intro k s x3 hs
        rcases w9 : k_passes TH r132 nt nf with ⟨u9, r9⟩
        simp only [k_yearGoes_40d, k_yearGoes_40d_ok, if_neg hs, m23, a2, a4, e21, b2, b4, e22, d2, d4, f22, ia, ir, it, i22, i23, ya, yr, yt, y22, y23, z3, z4, show a < 6 by omega, show r < 12 by omega, show t < 10 by omega, w2, g2, w4, if_neg pu_n10, q2, q4, if_neg cx, w8, h22, h23, w9, true_and]
        exact fun z => z
