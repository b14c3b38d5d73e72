/-! a whole year: how many finds, and both systems -/
theorem yd_0 (Y : Nat → Int32) (x : Int32) : (y_draw Y x).2 0 = Y 0 := by
  simp only [y_draw]
  split
  · show upd Y 1 (Y 1 * nI 1103515245 + nI 12345) 0 = Y 0
    exact pk_un (by decide)
  · show upd Y 1 (Y 1 * nI 1103515245 + nI 12345) 0 = Y 0
    exact pk_un (by decide)
theorem yt_0 (A B L W Lw G C Vs R Y : Nat → Int32) (nr nt nf : Nat) (x : Int32) : (y_goOneTime A B L W Lw G C Vs R Y nr nt nf x).2.2.2.2 0 = Y 0 ∨ (y_goOneTime A B L W Lw G C Vs R Y nr nt nf x).2.2.2.2 0 = Y 0 + nI 1 := by
  have d1 := yd_0 Y (nI nf)
  rcases w1 : y_draw Y (nI nf) with ⟨v3, r4⟩
  rw [w1] at d1
  simp only at d1
  have d2 := yd_0 r4 (nI nr)
  rcases w2 : y_draw r4 (nI nr) with ⟨v9, r10⟩
  rw [w2] at d2
  simp only at d2
  have d3 := yd_0 r10 (nI nt)
  rcases w3 : y_draw r10 (nI nt) with ⟨v15, r16⟩
  rw [w3] at d3
  simp only at d3
  rcases w4 : d_walks A B L R (ix v3) (ix v9) with ⟨v25, r26⟩
  rcases w5 : d_finds W Lw G C Vs r26 nt (ix v3) (ix v15) with ⟨v33, r34, r35, r36⟩
  by_cases c : v33 = 0
  · rcases w6 : d_loses W r36 (ix v3) (ix v15) with ⟨v42, r43⟩
    have d4 := yd_0 r16 (nI 16)
    rcases w7 : y_draw r16 (nI 16) with ⟨v48, r49⟩
    rw [w7] at d4
    simp only at d4
    left
    by_cases cx : x ≤ v48
    · simp only [y_goOneTime, w1, w2, w3, w4, w5, if_pos c, w6, w7, if_pos cx]
      rw [d4, d3, d2, d1]
    · rcases w8 : d_slips W r43 (ix v3) (ix v15) with ⟨v55, r56⟩
      simp only [y_goOneTime, w1, w2, w3, w4, w5, if_pos c, w6, w7, if_neg cx, w8]
      rw [d4, d3, d2, d1]
  · have d4 := yd_0 (upd r16 0 (r16 0 + nI 1)) (nI 16)
    rcases w7 : y_draw (upd r16 0 (r16 0 + nI 1)) (nI 16) with ⟨v61, r62⟩
    rw [w7] at d4
    simp only at d4
    rw [pk_us] at d4
    right
    by_cases cx : x ≤ v61
    · simp only [y_goOneTime, w1, w2, w3, w4, w5, if_neg c, w7, if_pos cx]
      rw [d4, d3, d2, d1]
    · rcases w8 : d_slips W r36 (ix v3) (ix v15) with ⟨v68, r69⟩
      simp only [y_goOneTime, w1, w2, w3, w4, w5, if_neg c, w7, if_neg cx, w8]
      rw [d4, d3, d2, d1]
theorem yc_70 (A B L W Lw C : Nat → Int32) (nr nt nf : Nat) (x2 x3 x5 : Int32) : ∀ (k i n : Nat) (G Vs R Y : Nat → Int32), Y 0 = nI n → ∃ m, m ≤ n + k ∧ (y_goBy_70d A B L W Lw C nr nt nf x2 x3 x5 k i G Vs R Y).2.2.2 0 = nI m
  | 0, i, n, G, Vs, R, Y, h => ⟨n, by omega, by simp only [y_goBy_70d]; exact h⟩
  | k + 1, i, n, G, Vs, R, Y, h => by
    have t := yt_0 A B L W Lw G C Vs R Y nr nt nf x2
    rcases w : y_goOneTime A B L W Lw G C Vs R Y nr nt nf x2 with ⟨u, r74, r75, r76, r77⟩
    rw [w] at t
    simp only at t
    simp only [y_goBy_70d, w]
    rcases t with t | t
    · obtain ⟨m, hm, e⟩ := yc_70 A B L W Lw C nr nt nf x2 x3 x5 k (i + 1) n r74 r75 r76 r77 (by rw [t]; exact h)
      exact ⟨m, by omega, e⟩
    · obtain ⟨m, hm, e⟩ := yc_70 A B L W Lw C nr nt nf x2 x3 x5 k (i + 1) (n + 1) r74 r75 r76 r77 (by rw [t, h, nI_add])
      exact ⟨m, by omega, e⟩
theorem yc_61 (A B L W Lw C : Nat → Int32) (nr nt nf : Nat) (x2 x3 : Int32) : ∀ (k n : Nat) (s : Int32) (G Vs R Y : Nat → Int32), Y 0 = nI n → ∃ m, m ≤ n + 3 * k ∧ (y_goBy_61d A B L W Lw C nr nt nf x2 x3 k s G Vs R Y).2.2.2.2 0 = nI m
  | 0, n, s, G, Vs, R, Y, h => ⟨n, by omega, by simp only [y_goBy_61d]; exact h⟩
  | k + 1, n, s, G, Vs, R, Y, h => by
    by_cases c : x3 ≤ s
    · exact ⟨n, by omega, by simp only [y_goBy_61d, if_pos c]; exact h⟩
    · have hc3 : cN 3 = 3 := cN_eq 3
      obtain ⟨m, hm, e⟩ := yc_70 A B L W Lw C nr nt nf x2 x3 s 3 0 n G Vs R Y h
      rcases w : y_goBy_70d A B L W Lw C nr nt nf x2 x3 s 3 0 G Vs R Y with ⟨r82, r83, r84, r85⟩
      rw [w] at e
      simp only at e
      rcases w2 : d_nightFalls W r84 nt nf with ⟨u88, r89⟩
      obtain ⟨m', hm', e'⟩ := yc_61 A B L W Lw C nr nt nf x2 x3 k m (s + nI 1) r82 r83 r89 r85 e
      exact ⟨m', by omega, by simp only [y_goBy_61d, if_neg c, hc3, w, w2]; exact e'⟩
theorem fm_0 {N S : Nat → Int32} : ∀ n, (∀ b, b < n → S (38 + b) = N (38 + b)) → k_foundMore_4 N S n = nI 0
  | 0, _ => rfl
  | n + 1, h => by
    simp only [k_foundMore_4]
    rw [fm_0 n (fun b hb => h b (by omega)), h n (by omega), Int32.sub_self, Int32.add_zero]
theorem le0 {n : Nat} (hn : n < 100) : nI n ≤ 0 ↔ n = 0 := by
  have h : nI n ≤ nI 0 ↔ n ≤ 0 := pu_lei (by omega) (by omega)
  rw [nI_0] at h
  rw [h]
  omega
theorem yg_eq {np nr nt nf D : Nat} {A B L RO W TH Lw C O V now N md : Nat → Int32} (hT : TRo np nr A B L RO) (hW : TW nt W TH) (hz : SZ np nr nt nf) (hL : LWr Lw C md O V) (hD : DR np nt nf now N) (hD9 : D ≤ 96) (m21 : md 21 = nI nr) (m22 : md 22 = nI nt) (m23 : md 23 = nI nf) (x1 x2 : Int32) (G Vs lat Y St Fa s : Nat → Int32) :
    y_goBy_ok A B L W Lw G C Vs now lat Y nr nt nf x1 x2 (nI D) ∧ k_yearGoes_ok md RO TH O V St Fa N s nr nt nf x1 x2 (nI D) ∧ ∃ G' Vs' R' Y' md' St' Fa' S', y_goBy A B L W Lw G C Vs now lat Y nr nt nf x1 x2 (nI D) = (0, G', Vs', R', Y') ∧ k_yearGoes md RO TH O V St Fa N s nr nt nf x1 x2 (nI D) = (0, md', St', Fa', S') ∧ DR np nt nf R' S' ∧ (∀ j, j ≠ 49 → md' j = md j) ∧ Y' 0 = k_foundMore_4 N S' nf ∧ ∃ m, m ≤ 15000 ∧ Y' 0 = nI m := by
  obtain ⟨z1, z2, z3, z4⟩ := id hz
  have hd2 : DR np nt nf (d_take now lat).2 (k_take N s).2 := DR_cg hD z3 z4 (fun j hj => (pk_cpy_in (f := now) (g := lat) (sp := 0) (dp := 0) (n := 51) (j := j) (by omega) (by omega)).trans (by rw [Nat.zero_add, Nat.sub_zero])) (fun j hj => take_at _ _ hj)
  have f0 : ∀ b, b < nf → (k_take N s).2 (38 + b) = N (38 + b) := fun b hb => take_at _ _ (by omega)
  have tok := take_ok N s
  rcases y1 : d_take now lat with ⟨u1, r1⟩
  rcases y2 : k_take N s with ⟨u2, r2⟩
  rw [y1, y2] at hd2
  rw [y2] at f0
  simp only at hd2 f0
  have e22 : upd md 49 x1 22 = nI nt := by rw [pk_un (by decide)]; exact m22
  have e23 : upd md 49 x1 23 = nI nf := by rw [pk_un (by decide)]; exact m23
  have y0 : upd (upd Y 1 x1) 0 (nI 0) 0 = nI 0 := by rw [pk_us]
  by_cases c : 1 ≤ nf ∧ 1 ≤ nr ∧ 1 ≤ nt
  · obtain ⟨n1, n2, n3⟩ := c
    have g1 : ¬ nI nf ≤ 0 := fun z => by have := (le0 (by omega)).mp z; omega
    have g2 : ¬ nI nr ≤ 0 := fun z => by have := (le0 (by omega)).mp z; omega
    have g3 : ¬ nI nt ≤ 0 := fun z => by have := (le0 (by omega)).mp z; omega
    obtain ⟨j1, j2, v, G', Vs', R', Y', v', md', St', Fa', S', j3, j4, j5⟩ := yr_lp (NN := N) (m0 := upd md 49 x1) (Lw := Lw) (C := C) (O := O) (V := V) hT hW hz n1 n2 n3 hD9 x2 FU FU 0 G Vs r1 (upd (upd Y 1 x1) 0 (nI 0)) (upd md 49 x1) St Fa r2 (by omega) (by rw [FU_eq]; omega) (by rw [FU_eq]; omega) ⟨hd2, by rw [pk_un (by decide), pk_us, pk_us], ⟨by rw [pk_un (by decide)]; exact m21, e22, e23⟩, LWr_cg hL (pk_un (by decide)), by rw [y0, fm_0 nf f0], fun _ _ => rfl⟩
    rw [Nat.mul_zero] at j2 j4
    obtain ⟨m, hm, em⟩ := yc_61 A B L W Lw C nr nt nf x2 (nI D) FU 0 (nI 0) G Vs r1 (upd (upd Y 1 x1) 0 (nI 0)) y0
    rw [j3] at em
    rw [FU_eq] at hm
    simp only at em
    refine ⟨?_, ?_, G', Vs', R', Y', md', St', Fa', S', ?_, ?_, j5.1, fun j hj => ?_, j5.2.2.2.2.1, m, by omega, em⟩
    · simp only [y_goBy_ok, y1, if_neg g1, if_neg g2, if_neg g3, j1, and_self]
    · simp only [k_yearGoes_ok, y2, tok, if_neg g1, if_neg g2, if_neg g3, j2, and_self]
    · simp only [y_goBy, y1, if_neg g1, if_neg g2, if_neg g3, j3]
    · simp only [k_yearGoes, y2, if_neg g1, if_neg g2, if_neg g3, j4]
    · rw [j5.2.2.2.2.2 j hj, pk_un hj]
  · obtain ⟨j1, j2, v, R', v', S', j3, j4, j5, j6⟩ := yn_lp hW hz hD9 x2 FU FU 0 G Vs r1 (upd (upd Y 1 x1) 0 (nI 0)) (upd md 49 x1) St Fa r2 (by omega) (by rw [FU_eq]; omega) (by rw [FU_eq]; omega) hd2 e22 e23
    rw [Nat.mul_zero] at j2 j4
    have hh : nf = 0 ∨ (¬ nf = 0 ∧ nr = 0) ∨ (¬ nf = 0 ∧ ¬ nr = 0 ∧ nt = 0) := by omega
    have last : upd (upd Y 1 x1) 0 (nI 0) 0 = k_foundMore_4 N S' nf := by rw [y0, fm_0 nf (fun b hb => by rw [j6 b hb]; exact f0 b hb)]
    refine ⟨?_, ?_, G, Vs, R', upd (upd Y 1 x1) 0 (nI 0), upd md 49 x1, St, Fa, S', ?_, ?_, j5, fun j hj => pk_un hj, last, 0, by omega, y0⟩
    · rcases hh with e | ⟨e, e'⟩ | ⟨e, e', e''⟩
      · simp only [y_goBy_ok, y1, if_pos ((le0 (show nf < 100 by omega)).mpr e), j1, and_self]
      · simp only [y_goBy_ok, y1, if_neg (fun z => e ((le0 (show nf < 100 by omega)).mp z)), if_pos ((le0 (show nr < 100 by omega)).mpr e'), j1, and_self]
      · simp only [y_goBy_ok, y1, if_neg (fun z => e ((le0 (show nf < 100 by omega)).mp z)), if_neg (fun z => e' ((le0 (show nr < 100 by omega)).mp z)), if_pos ((le0 (show nt < 100 by omega)).mpr e''), j1, and_self]
    · rcases hh with e | ⟨e, e'⟩ | ⟨e, e', e''⟩
      · simp only [k_yearGoes_ok, y2, tok, if_pos ((le0 (show nf < 100 by omega)).mpr e), j2, and_self]
      · simp only [k_yearGoes_ok, y2, tok, if_neg (fun z => e ((le0 (show nf < 100 by omega)).mp z)), if_pos ((le0 (show nr < 100 by omega)).mpr e'), j2, and_self]
      · simp only [k_yearGoes_ok, y2, tok, if_neg (fun z => e ((le0 (show nf < 100 by omega)).mp z)), if_neg (fun z => e' ((le0 (show nr < 100 by omega)).mp z)), if_pos ((le0 (show nt < 100 by omega)).mpr e''), j2, and_self]
    · rcases hh with e | ⟨e, e'⟩ | ⟨e, e', e''⟩
      · simp only [y_goBy, y1, if_pos ((le0 (show nf < 100 by omega)).mpr e), j3]
      · simp only [y_goBy, y1, if_neg (fun z => e ((le0 (show nf < 100 by omega)).mp z)), if_pos ((le0 (show nr < 100 by omega)).mpr e'), j3]
      · simp only [y_goBy, y1, if_neg (fun z => e ((le0 (show nf < 100 by omega)).mp z)), if_neg (fun z => e' ((le0 (show nr < 100 by omega)).mp z)), if_pos ((le0 (show nt < 100 by omega)).mpr e''), j3]
    · rcases hh with e | ⟨e, e'⟩ | ⟨e, e', e''⟩
      · simp only [k_yearGoes, y2, if_pos ((le0 (show nf < 100 by omega)).mpr e), j4]
      · simp only [k_yearGoes, y2, if_neg (fun z => e ((le0 (show nf < 100 by omega)).mp z)), if_pos ((le0 (show nr < 100 by omega)).mpr e'), j4]
      · simp only [k_yearGoes, y2, if_neg (fun z => e ((le0 (show nf < 100 by omega)).mp z)), if_neg (fun z => e' ((le0 (show nr < 100 by omega)).mp z)), if_pos ((le0 (show nt < 100 by omega)).mpr e''), j4]
/-- the limits of a year -/
theorem iy_t {x y : Int32} (h1 : ¬ x < nI 0 ∧ x ≤ nI 16) (h2 : ¬ y < nI 1 ∧ y ≤ nI 96) : k_isYear x y = nI 1 := by
  have a1 : ¬ x < 0 := by rw [← nI_0]; exact h1.1
  have a2 : ¬ nI 16 < x := by have := h1.2; rw [pu_le] at this; rw [pu_lt]; omega
  have a3 : ¬ nI 96 < y := by have := h2.2; rw [pu_le] at this; rw [pu_lt]; omega
  simp only [k_isYear, if_neg a1, if_neg a2, if_neg h2.1, if_neg a3]
theorem iy_f {x y : Int32} (h : ¬ ((¬ x < nI 0 ∧ x ≤ nI 16) ∧ ¬ y < nI 1 ∧ y ≤ nI 96)) : k_isYear x y = nI 0 := by
  by_cases a1 : x < 0
  · simp only [k_isYear, if_pos a1]
  · by_cases a2 : nI 16 < x
    · simp only [k_isYear, if_neg a1, if_pos a2]
    · by_cases a3 : y < nI 1
      · simp only [k_isYear, if_neg a1, if_neg a2, if_pos a3]
      · by_cases a4 : nI 96 < y
        · simp only [k_isYear, if_neg a1, if_neg a2, if_neg a3, if_pos a4]
        · exact absurd ⟨⟨by rw [nI_0]; exact a1, by rw [pu_lt] at a2; rw [pu_le]; omega⟩, a3, by rw [pu_lt] at a4; rw [pu_le]; omega⟩ h
theorem y83_eq {np nt nf : Nat} {R N : Nat → Int32} (hD : DR np nt nf R N) (x : Int32) : ∀ n, n ≤ nf → k_year_83 N x n = d_shames_4 R n
  | 0, _ => rfl
  | n + 1, h => by
    simp only [k_year_83, d_shames_4]
    rw [y83_eq hD x n (by omega), (hD.2.1 n (by omega)).2.2.2.2]
