/-! the reading of a town -/
theorem row_full {tw A Bb L W FL FH FS m NR NH NF : Nat → Int32} {np nr nt nf k : Nat} (hN : NW np nr nt nf tw A Bb L W FL FH FS m NR NH NF) (hk : k < 5) :
    (v_isFull tw (nI k) = 0 ∧ k_isFull m (oc_s1 k) = 0 ∧ (k = 1 → nr < 12) ∧ (k = 2 → nt < 10) ∧ (k = 3 → nf < 6) ∧ (k = 4 → nt < 10)) ∨ (¬ v_isFull tw (nI k) = 0 ∧ ¬ k_isFull m (oc_s1 k) = 0) := by
  obtain ⟨hz, ⟨t0, t1, t2, t3⟩, ⟨m0, m1, m2, m3⟩, -⟩ := hN
  have ⟨z1, z2, z3, z4⟩ := hz
  have hc : k = 0 ∨ k = 1 ∨ k = 2 ∨ k = 3 ∨ k = 4 := by omega
  rcases hc with rfl | rfl | rfl | rfl | rfl
  · left
    refine ⟨?_, ?_, by omega, by omega, by omega, by omega⟩
    · simp only [v_isFull, ↓reduceIte]; exact nI_0
    · simp only [k_isFull, oc_s1, if_neg (fun e => of_n6_5 (Eq.symm e)), if_neg (fun e => of_n8_5 (Eq.symm e)), ↓reduceIte]; exact nI_0
  · have e1 : v_isFull tw (nI 1) = if nr < 12 then nI 0 else nI 1 := by
      simp (disch := omega) only [v_isFull, pu_eqi, pu_lti, t1, Nat.reduceEqDiff, ↓reduceIte]
    have e2 : k_isFull m (oc_s1 1) = if nr = 12 then nI 1 else nI 0 := by
      simp (disch := omega) only [k_isFull, oc_s1, pu_eqi, m1, ↓reduceIte]
    by_cases h : nr < 12
    · left; rw [e1, e2, if_pos h, if_neg (by omega)]; exact ⟨nI_0, nI_0, by omega, by omega, by omega, by omega⟩
    · right; rw [e1, e2, if_neg h, if_pos (by omega)]; exact ⟨pu_n10, pu_n10⟩
  · have e1 : v_isFull tw (nI 2) = if nt < 10 then nI 0 else nI 1 := by
      simp (disch := omega) only [v_isFull, pu_eqi, pu_lti, t2, Nat.reduceEqDiff, ↓reduceIte]
    have e2 : k_isFull m (oc_s1 2) = if nt = 10 then nI 1 else nI 0 := by
      simp (disch := omega) only [k_isFull, oc_s1, pu_eqi, m2, if_neg of_n7_6, if_neg of_n7_8, if_neg of_n7_5]
    by_cases h : nt < 10
    · left; rw [e1, e2, if_pos h, if_neg (by omega)]; exact ⟨nI_0, nI_0, by omega, by omega, by omega, by omega⟩
    · right; rw [e1, e2, if_neg h, if_pos (by omega)]; exact ⟨pu_n10, pu_n10⟩
  · have e1 : v_isFull tw (nI 3) = if nf < 6 then nI 0 else nI 1 := by
      simp (disch := omega) only [v_isFull, pu_eqi, pu_lti, t3, Nat.reduceEqDiff, ↓reduceIte]
    have e2 : k_isFull m (oc_s1 3) = if nf = 6 then nI 1 else nI 0 := by
      simp (disch := omega) only [k_isFull, oc_s1, pu_eqi, m3, if_neg of_n8_6, ↓reduceIte]
    by_cases h : nf < 6
    · left; rw [e1, e2, if_pos h, if_neg (by omega)]; exact ⟨nI_0, nI_0, by omega, by omega, by omega, by omega⟩
    · right; rw [e1, e2, if_neg h, if_pos (by omega)]; exact ⟨pu_n10, pu_n10⟩
  · have e1 : v_isFull tw (nI 4) = if nt < 10 then nI 0 else nI 1 := by
      simp (disch := omega) only [v_isFull, pu_eqi, pu_lti, t2, Nat.reduceEqDiff, ↓reduceIte]
    have e2 : k_isFull m (oc_s1 4) = if nt = 10 then nI 1 else nI 0 := by
      simp (disch := omega) only [k_isFull, oc_s1, pu_eqi, m2, if_neg of_n9_6, if_neg of_n9_8, if_neg of_n9_5]
    by_cases h : nt < 10
    · left; rw [e1, e2, if_pos h, if_neg (by omega)]; exact ⟨nI_0, nI_0, by omega, by omega, by omega, by omega⟩
    · right; rw [e1, e2, if_neg h, if_pos (by omega)]; exact ⟨pu_n10, pu_n10⟩
theorem oc_row {k : Nat} (hk : k < 5) : ¬ k_isRow (oc_s1 k) = 0 := by
  have hc : k = 0 ∨ k = 1 ∨ k = 2 ∨ k = 3 ∨ k = 4 := by omega
  rcases hc with rfl | rfl | rfl | rfl | rfl
  · simp only [k_isRow, oc_s1, ↓reduceIte]; exact pu_n10
  · simp only [k_isRow, oc_s1, if_neg of_n6_5, ↓reduceIte]; exact pu_n10
  · simp only [k_isRow, oc_s1, if_neg of_n7_5, if_neg of_n7_6, ↓reduceIte]; exact pu_n10
  · simp only [k_isRow, oc_s1, if_neg of_n8_5, if_neg of_n8_6, if_neg (fun e => of_n7_8 (Eq.symm e)), ↓reduceIte]; exact pu_n10
  · simp only [k_isRow, oc_s1, if_neg of_n9_5, if_neg of_n9_6, if_neg of_n9_7, if_neg of_n9_8, ↓reduceIte]; exact pu_n10
theorem oc_norow {w : Int32} (h : ∀ k, k < 5 → ¬ w = oc_s1 k) : k_isRow w = nI 0 := by
  have h0 : ¬ w = k_of_s5 := h 0 (by omega)
  have h1 : ¬ w = k_of_s6 := h 1 (by omega)
  have h2 : ¬ w = k_of_s7 := h 2 (by omega)
  have h3 : ¬ w = k_of_s8 := h 3 (by omega)
  have h4 : ¬ w = k_of_s9 := h 4 (by omega)
  simp only [k_isRow, if_neg h0, if_neg h1, if_neg h2, if_neg h3, if_neg h4]
theorem row_eq {B T q m tw A Bb L W FL FH FS NR NH NF : Nat → Int32} {n a np nr nt nf k : Nat} (hn : n ≤ 600) (hB : BY B T) (hq : TS q n a) (hm : MS m n a) (hN : NW np nr nt nf tw A Bb L W FL FH FS m NR NH NF) (hk : k < 5)
    (g1 : k = 1 → nr < 12) (g2 : k = 2 → nt < 10) (g3 : k = 3 → nf < 6) (g4 : k = 4 → nt < 10) :
    v_readClause_ok q B tw A Bb L W FL FH FS (nI k) ∧ k_readRow_ok m T NR NH NF (oc_s1 k) ∧ ∃ q' tw' A' Bb' L' W' FL' FH' FS' m' NR' NH' NF', v_readClause q B tw A Bb L W FL FH FS (nI k) = (0, q', tw', A', Bb', L', W', FL', FH', FS') ∧ k_readRow m T NR NH NF (oc_s1 k) = (0, m', NR', NH', NF') ∧ Ft m m' ∧
      ((∃ a' np' nr' nt' nf', a < a' ∧ TS q' n a' ∧ MS m' n a' ∧ NW np' nr' nt' nf' tw' A' Bb' L' W' FL' FH' FS' m' NR' NH' NF') ∨ Bd q' m' n) := by
  have hc : k = 0 ∨ k = 1 ∨ k = 2 ∨ k = 3 ∨ k = 4 := by omega
  rcases hc with rfl | rfl | rfl | rfl | rfl
  · obtain ⟨h1, h2, h3, h4⟩ := cl_places hn hB hq hm hN
    simp only [v_readClause_ok, v_readClause, k_readRow_ok, k_readRow, oc_s1, hq.nf, ↓reduceIte, h1, h2, true_and]
    rcases x1 : v_readPlaces q B tw with ⟨u, q', tw'⟩
    rcases x2 : k_readPlaces m T with ⟨u2, m'⟩
    simp only [x1, x2] at h3 h4
    refine ⟨q', tw', A, Bb, L, W, FL, FH, FS, m', NR, NH, NF, rfl, rfl, h3, ?_⟩
    rcases h4 with ⟨a', np', h5, h6, h7, h8⟩ | h4
    · exact Or.inl ⟨a', np', nr, nt, nf, h5, h6, h7, h8⟩
    · exact Or.inr h4
  · obtain ⟨h1, h2, h3, h4⟩ := cl_road hn hB hq hm hN (g1 rfl)
    simp (disch := omega) only [v_readClause_ok, v_readClause, k_readRow_ok, k_readRow, oc_s1, hq.nf, pu_eqi, Nat.reduceEqDiff, ↓reduceIte, if_neg of_n6_5, h1, h2, true_and]
    rcases x1 : v_readRoad q B tw A Bb L with ⟨u, q', tw', A', Bb', L'⟩
    rcases x2 : k_readRoad m T NR with ⟨u2, m', NR'⟩
    simp only [x1, x2] at h3 h4
    refine ⟨q', tw', A', Bb', L', W, FL, FH, FS, m', NR', NH, NF, rfl, rfl, h3, ?_⟩
    rcases h4 with ⟨a', nr', h5, h6, h7, h8⟩ | h4
    · exact Or.inl ⟨a', np, nr', nt, nf, h5, h6, h7, h8⟩
    · exact Or.inr h4
  · obtain ⟨h1, h2, h3, h4⟩ := cl_thing hn hB hq hm hN (g2 rfl)
    simp (disch := omega) only [v_readClause_ok, v_readClause, oc_s1, hq.nf, pu_eqi, Nat.reduceEqDiff, ↓reduceIte, h1.1, h2, true_and]
    have h12 := h1.2
    rcases x0 : t_number q B (nI 0) (tw 0 - nI 1) with ⟨v0, q0⟩
    simp only [x0] at h12 h4
    rcases x1 : v_addThing q0 B tw W FL FH v0 (-1) with ⟨u, q', tw', W', FL', FH'⟩
    rcases x2 : k_readRow m T NR NH NF k_of_s7 with ⟨u2, m', NR', NH', NF'⟩
    simp only [x1, x2] at h3 h4
    have u0 : u2 = 0 := by
      have e := congrArg Prod.fst x2
      simp only [k_readRow, if_neg of_n7_5, if_neg of_n7_6, if_neg of_n7_8, ↓reduceIte] at e
      exact e.symm
    subst u0
    refine ⟨⟨h12, trivial⟩, q', tw', A, Bb, L, W', FL', FH', FS, m', NR', NH', NF', rfl, rfl, h3, ?_⟩
    rcases h4 with ⟨a', nt', h5, h6, h7, h8⟩ | h4
    · exact Or.inl ⟨a', np, nr, nt', nf, h5, h6, h7, h8⟩
    · exact Or.inr h4
  · obtain ⟨h1, h2, h3, h4⟩ := cl_finder hn hB hq hm hN (g3 rfl)
    simp (disch := omega) only [v_readClause_ok, v_readClause, k_readRow_ok, k_readRow, oc_s1, hq.nf, pu_eqi, Nat.reduceEqDiff, ↓reduceIte, if_neg of_n8_5, if_neg of_n8_6, h1, h2, true_and]
    rcases x1 : v_readFinder q B tw FS with ⟨u, q', tw', FS'⟩
    rcases x2 : k_readPlace m T with ⟨w, m'⟩
    simp only [x1, x2] at h3 h4
    refine ⟨q', tw', A, Bb, L, W, FL, FH, FS', upd m' 19 (m' 19 + nI 1), NR, NH, upd NF (ix (m 19)) w, rfl, rfl, h3, ?_⟩
    rcases h4 with ⟨a', nf', h5, h6, h7, h8⟩ | h4
    · exact Or.inl ⟨a', np, nr, nt, nf', h5, h6, h7, h8⟩
    · exact Or.inr h4
  · obtain ⟨h1, h2, h3, h4⟩ := cl_own hn hB hq hm hN (g4 rfl)
    simp (disch := omega) only [v_readClause_ok, v_readClause, oc_s1, hq.nf, pu_eqi, Nat.reduceEqDiff, ↓reduceIte, h1.1, h2, true_and]
    have h12 := h1.2
    rcases x0 : t_number q B (nI 0) (tw 3 - nI 1) with ⟨v0, q0⟩
    simp only [x0] at h12 h4
    rcases x1 : v_addThing q0 B tw W FL FH (-1) v0 with ⟨u, q', tw', W', FL', FH'⟩
    rcases x2 : k_readRow m T NR NH NF k_of_s9 with ⟨u2, m', NR', NH', NF'⟩
    simp only [x1, x2] at h3 h4
    have u0 : u2 = 0 := by
      have e := congrArg Prod.fst x2
      simp only [k_readRow, if_neg of_n9_5, if_neg of_n9_6, if_neg of_n9_8, if_neg of_n9_7] at e
      rw [← e]
      rcases k_readNumber m T (nI 0) (m 19 - nI 1) with ⟨y1, y2⟩
      simp only
      split <;> rfl
    subst u0
    refine ⟨⟨h12, trivial⟩, q', tw', A, Bb, L, W', FL', FH', FS, m', NR', NH', NF', rfl, rfl, h3, ?_⟩
    rcases h4 with ⟨a', nt', h5, h6, h7, h8⟩ | h4
    · exact Or.inl ⟨a', np, nr, nt', nf, h5, h6, h7, h8⟩
    · exact Or.inr h4
theorem vc_bad {B q m tw A Bb L W FL FH FS : Nat → Int32} {n : Nat} (h : Bd q m n) (x : Int32) : v_readClause_ok q B tw A Bb L W FL FH FS x ∧ v_readClause q B tw A Bb L W FL FH FS x = (0, q, tw, A, Bb, L, W, FL, FH, FS) := by
  simp only [v_readClause_ok, v_readClause, if_neg h.is, and_self]
theorem vr_bad {B m : Nat → Int32} {n : Nat} (hn : n ≤ 600) : ∀ (k i : Nat) (q tw A Bb L W FL FH FS : Nat → Int32), Bd q m n → v_readFrom_22_ok B k i q tw A Bb L W FL FH FS ∧ ∃ q', v_readFrom_22 B k i q tw A Bb L W FL FH FS = (q', tw, A, Bb, L, W, FL, FH, FS) ∧ Bd q' m n
  | 0, i, q, tw, A, Bb, L, W, FL, FH, FS, h => ⟨trivial, q, rfl, h⟩
  | k + 1, i, q, tw, A, Bb, L, W, FL, FH, FS, h => by
    obtain ⟨kd, pl, h1, h2⟩ := h
    obtain ⟨a1, a2, a3⟩ := h1.nx (B := B) hn
    rcases x1 : t_next q B with ⟨v, q'⟩
    rw [x1] at a2 a3
    simp only at a2 a3
    subst a2
    simp only [v_readFrom_22_ok, v_readFrom_22, a1, x1, ↓reduceIte, true_and]
    exact ⟨q', rfl, kd, pl, a3, h2⟩
theorem kt_bad {T q m : Nat → Int32} {n : Nat} (h : Bd q m n) (K : Nat) (c : Int32) (NR NH NF : Nat → Int32) : k_town_44_ok T (K + 1) c m NR NH NF ∧ k_town_44 T (K + 1) c m NR NH NF = (c, m, NR, NH, NF) := by
  simp only [k_town_44_ok, k_town_44, h.fi, if_pos pu_n01, true_and, and_self]
/-- behind a fault -/
theorem tn_end {B T q m tw A Bb L W FL FH FS : Nat → Int32} {n k i : Nat} (hn : n ≤ 600) (h : Bd q m n) :
    v_readFrom_22_ok B k i (t_needSign q B (nI 59)).2 tw A Bb L W FL FH FS ∧ t_needSign_ok q B (nI 59) ∧ ∃ q', v_readFrom_22 B k i (t_needSign q B (nI 59)).2 tw A Bb L W FL FH FS = (q', tw, A, Bb, L, W, FL, FH, FS) ∧ Bd q' m n := by
  obtain ⟨a1, a2, a3, a4⟩ := h.sg (B := B) (T := T) hn (c := nI 59) (by decide)
  rw [a4] at a3
  obtain ⟨b1, q', b2, b3⟩ := vr_bad (B := B) hn k i _ tw A Bb L W FL FH FS a3
  exact ⟨b1, a1, q', b2, b3⟩
theorem town_lp {B T : Nat → Int32} {n : Nat} (hn : n ≤ 600) (hB : BY B T) : ∀ (k i K a np nr nt nf : Nat) (q tw A Bb L W FL FH FS m NR NH NF : Nat → Int32), i + k = 61 → 1 ≤ k → k < K → TS q n a → MS m n a → NW np nr nt nf tw A Bb L W FL FH FS m NR NH NF →
    v_readFrom_22_ok B k i q tw A Bb L W FL FH FS ∧ k_town_44_ok T K (nI i) m NR NH NF ∧ ∃ q' tw' A' Bb' L' W' FL' FH' FS' c' m' NR' NH' NF', v_readFrom_22 B k i q tw A Bb L W FL FH FS = (q', tw', A', Bb', L', W', FL', FH', FS') ∧ k_town_44 T K (nI i) m NR NH NF = (c', m', NR', NH', NF') ∧ Ft m m' ∧
      ((∃ a' np' nr' nt' nf', TS q' n a' ∧ MS m' n a' ∧ NW np' nr' nt' nf' tw' A' Bb' L' W' FL' FH' FS' m' NR' NH' NF') ∨ Bd q' m' n)
  | 0, i, K, a, np, nr, nt, nf, q, tw, A, Bb, L, W, FL, FH, FS, m, NR, NH, NF, _, h, _, _, _, _ => by omega
  | k + 1, i, 0, a, np, nr, nt, nf, q, tw, A, Bb, L, W, FL, FH, FS, m, NR, NH, NF, _, _, h, _, _, _ => by omega
  | k + 1, i, K + 1, a, np, nr, nt, nf, q, tw, A, Bb, L, W, FL, FH, FS, m, NR, NH, NF, hik, _, hK, hq, hm, hN => by
    obtain ⟨r1, r2⟩ := tnx (B := B) hn hq.2.2.2.1 hq.2.2.2.2.1 hq.2.2.2.2.2
    obtain ⟨s1, s2⟩ := khr hn hB hm.1 hm.2.1 hm.2.2.2
    have hs := sk_le (B := B) hq.2.2.2.2.2
    have hss := sk_sk B n a
    have Q1 : TS (upd (upd q 6 (nI (sk B n a))) 4 (nI (sk B n a))) n (sk B n a) := by
      obtain ⟨h1, h2, h3, h5, h6, ha⟩ := hq
      refine ⟨?_, ?_, ?_, ?_, ?_, hs⟩ <;> simp (disch := decide) only [pk_us, pk_un, h1, h2, h3, h5]
    have M1 := hm.u4 (s := sk B n a) hs
    have F1 : Ft m (upd m 4 (nI (sk B n a))) := Ft.u4 _ _
    have N1 : NW np nr nt nf tw A Bb L W FL FH FS (upd m 4 (nI (sk B n a))) NR NH NF := by
      obtain ⟨hz, ht, ⟨m0, m1, m2, m3⟩, hr⟩ := hN
      exact ⟨hz, ht, ⟨by rw [pk_un (by decide)]; exact m0, by rw [pk_un (by decide)]; exact m1, by rw [pk_un (by decide)]; exact m2, by rw [pk_un (by decide)]; exact m3⟩, hr⟩
    have m13 : upd m 4 (nI (sk B n a)) 3 = nI n := M1.1
    have m14 : upd m 4 (nI (sk B n a)) 4 = nI (sk B n a) := pk_us
    simp only [v_readFrom_22_ok, v_readFrom_22, k_town_44_ok, k_town_44, k_isMore_ok, k_isMore, hm.fi, if_neg pu_n10, r1, r2, s1, s2, m13, m14, hq.2.1, and_true, true_and]
    clear r1 r2 s1 s2 m13 m14
    generalize upd (upd q 6 (nI (sk B n a))) 4 (nI (sk B n a)) = q1 at *
    generalize upd m 4 (nI (sk B n a)) = m1 at *
    generalize sk B n a = s at *
    by_cases hl : s < n
    · have f1 : ¬ nI n ≤ nI s := fun h => by have := (pu_lei (by omega) (by omega)).mp h; omega
      obtain ⟨b, hb, eb⟩ := (hB s (by omega)).2
      have f2 : ¬ B s = -1 := by rw [eb]; exact pu_nm (by omega)
      obtain ⟨w1, w2, w3⟩ := rd_s1 hn hB Q1 M1
      obtain ⟨y1, y2, -⟩ := kword hn hB M1
      rw [hss] at w2 w3 y2
      rw [show upd m1 4 (nI s) = m1 from by rw [← M1.2.1]; exact upd_self m1 4] at y2
      simp only [if_neg f1, if_neg pu_n10, if_pos hl, if_neg f2, w1, y1, true_and]
      rcases x1 : t_word_s1 q1 B with ⟨v10, q2⟩
      rcases x2 : k_word m1 T with ⟨w, m2⟩
      simp only [x1, x2] at w2 w3 y2
      have y3 := y2.symm
      subst y3
      rcases w3 with ⟨k0, hk0, e1, e2, T2, he⟩ | ⟨e1, e2, T2⟩
      · subst e1 e2
        have fk : ¬ nI k0 = -1 := pu_nm (by omega)
        have hbad : ∀ q9 m9, t_fail q2 (nI 3) (nI s) = (0, q9) → k_wrong m1 (nI 3) (nI s) = (0, m9) → Bd q9 m9 n ∧ Fm m1 m9 := by
          intro q9 m9 h9 h8
          have g1 := (TF.of (kd := 3) (s := s) T2.1 T2.2.1 T2.2.2.2.1 T2.2.2.2.2.1 T2.2.2.2.2.2 ⟨by omega, by omega⟩).1
          obtain ⟨g2, g3⟩ := MF.of (kd := 3) (s := s) M1.1 M1.2.1 M1.2.2.1 M1.2.2.2 (by omega)
          rw [h9] at g1
          rw [h8] at g2 g3
          exact ⟨⟨3, s, g1, g2⟩, g3⟩
        have hfl : ∃ q9, t_fail q2 (nI 3) (nI s) = (0, q9) := by
          simp only [t_fail]; split <;> exact ⟨_, rfl⟩
        have hwr : ∃ m9, k_wrong m1 (nI 3) (nI s) = (0, m9) := by
          simp only [k_wrong]; split <;> exact ⟨_, rfl⟩
        obtain ⟨q9, h9⟩ := hfl
        obtain ⟨m9, h8⟩ := hwr
        obtain ⟨hb9, fm9⟩ := hbad q9 m9 h9 h8
        obtain ⟨v1, v2⟩ := vc_bad (B := B) (tw := tw) (A := A) (Bb := Bb) (L := L) (W := W) (FL := FL) (FH := FH) (FS := FS) hb9 (nI k0)
        obtain ⟨u1, u2, q', u3, u4⟩ := tn_end (B := B) (T := T) (tw := tw) (A := A) (Bb := Bb) (L := L) (W := W) (FL := FL) (FH := FH) (FS := FS) (k := k) (i := i + 1) hn hb9
        simp only [if_neg fk, if_neg (oc_row hk0), w2, M1.2.1]
        by_cases hi : i = 60
        · subst hi
          simp only [↓reduceIte, h9, h8, v1, v2, u1, u2, u3, hb9.fi, if_pos pu_n01, true_and, and_true]
          exact ⟨q', tw, A, Bb, L, W, FL, FH, FS, _, m9, NR, NH, NF, rfl, rfl, F1.tr (Ft.of fm9), Or.inr u4⟩
        · have hi' : ¬ nI i = nI 60 := fun e => hi (pu_inj (by omega) (by omega) e)
          rcases row_full N1 hk0 with ⟨c1, c2, c3, c4, c5, c6⟩ | ⟨c1, c2⟩
          · obtain ⟨p1, p2⟩ := kpass hn hB FU s m1 M1.1 M1.2.1 hs (by rw [FU_eq]; omega)
            have hle := le_le (B := B) hs
            have M2 := M1.u4 (s := le' B n s) hle
            have N2 : NW np nr nt nf tw A Bb L W FL FH FS (upd m1 4 (nI (le' B n s))) NR NH NF := by
              obtain ⟨hz, ht, ⟨m0, m1, m2, m3⟩, hr⟩ := N1
              exact ⟨hz, ht, ⟨by rw [pk_un (by decide)]; exact m0, by rw [pk_un (by decide)]; exact m1, by rw [pk_un (by decide)]; exact m2, by rw [pk_un (by decide)]; exact m3⟩, hr⟩
            obtain ⟨d1, d2, q3, tw', A', Bb', L', W', FL', FH', FS', m3, NR', NH', NF', d3, d4, d5, d6⟩ := row_eq hn hB T2 M2 N2 hk0 c3 c4 c5 c6
            simp only [if_neg hi', if_pos c1, if_pos c2, M1.fi, if_neg pu_n10, k_pass_ok, k_pass, p1, p2, d1, d2, d3, d4, true_and, and_true]
            have F3 : Ft m m3 := (F1.tr (Ft.u4 _ _)).tr d5
            rcases d6 with ⟨a', np', nr', nt', nf', d7, T3, M3, N3⟩ | hb3
            · obtain ⟨g1, g2, g3, g4⟩ := gd_sign (c := nI 59) hn hB T3 M3 (by decide) (by decide)
              rcases x3 : t_needSign q3 B (nI 59) with ⟨z1, q4⟩
              rcases x4 : k_sign m3 T (nI 59) with ⟨z2, m4⟩
              simp only [x3, x4] at g3 g4
              have N4 : NW np' nr' nt' nf' tw' A' Bb' L' W' FL' FH' FS' m4 NR' NH' NF' := by
                obtain ⟨hz, ht, ⟨m0, m1, m2, m3⟩, hr⟩ := N3
                exact ⟨hz, ht, ⟨by rw [g3 _ (by decide) (by decide) (by decide)]; exact m0, by rw [g3 _ (by decide) (by decide) (by decide)]; exact m1, by rw [g3 _ (by decide) (by decide) (by decide)]; exact m2, by rw [g3 _ (by decide) (by decide) (by decide)]; exact m3⟩, hr⟩
              simp only [g1, g2, true_and, pu_p1]
              rcases g4 with ⟨g5, g6, T4, M4⟩ | hb4
              · obtain ⟨j1, j2, q5, tw5, A5, Bb5, L5, W5, FL5, FH5, FS5, c5', m5, NR5, NH5, NF5, j3, j4, j5, j6⟩ := town_lp hn hB k (i + 1) K (sk B n a' + 1) np' nr' nt' nf' q4 tw' A' Bb' L' W' FL' FH' FS' m4 NR' NH' NF' (by omega) (by omega) (by omega) T4 M4 N4
                exact ⟨j1, j2, q5, tw5, A5, Bb5, L5, W5, FL5, FH5, FS5, c5', m5, NR5, NH5, NF5, j3, j4, (F3.tr (Ft.of g3)).tr j5, j6⟩
              · obtain ⟨j1, q5, j2, j3⟩ := vr_bad (B := B) hn k (i + 1) q4 tw' A' Bb' L' W' FL' FH' FS' hb4
                obtain ⟨K', rfl⟩ : ∃ K', K = K' + 1 := ⟨K - 1, by omega⟩
                obtain ⟨j4, j5⟩ := kt_bad (T := T) hb4 K' (nI (i + 1)) NR' NH' NF'
                exact ⟨j1, j4, q5, tw', A', Bb', L', W', FL', FH', FS', _, m4, NR', NH', NF', j2, j5, F3.tr (Ft.of g3), Or.inr j3⟩
            · obtain ⟨g1, g2, g3, g4⟩ := hb3.sg (B := B) (T := T) hn (c := nI 59) (by decide)
              rcases x3 : t_needSign q3 B (nI 59) with ⟨z1, q4⟩
              rcases x4 : k_sign m3 T (nI 59) with ⟨z2, m4⟩
              simp only [x3, x4] at g3 g4
              subst g4
              simp only [g1, g2, true_and, pu_p1]
              obtain ⟨j1, q5, j2, j3⟩ := vr_bad (B := B) hn k (i + 1) q4 tw' A' Bb' L' W' FL' FH' FS' g3
              obtain ⟨K', rfl⟩ : ∃ K', K = K' + 1 := ⟨K - 1, by omega⟩
              obtain ⟨j4, j5⟩ := kt_bad (T := T) g3 K' (nI (i + 1)) NR' NH' NF'
              exact ⟨j1, j4, q5, tw', A', Bb', L', W', FL', FH', FS', _, m4, NR', NH', NF', j2, j5, F3, Or.inr j3⟩
          · simp only [if_neg hi', if_neg c1, if_neg c2, h9, h8, v1, v2, u1, u2, u3, hb9.fi, if_pos pu_n01, true_and, and_true]
            exact ⟨q', tw, A, Bb, L, W, FL, FH, FS, _, m9, NR, NH, NF, rfl, rfl, F1.tr (Ft.of fm9), Or.inr u4⟩
      · subst e1
        obtain ⟨g2, g3⟩ := MF.of (kd := 1) (s := s) M1.1 M1.2.1 M1.2.2.1 M1.2.2.2 (by omega)
        rcases h8 : k_wrong m1 (nI 1) (nI s) with ⟨z2, m9⟩
        rw [h8] at g2 g3
        simp only at g2 g3
        have hb9 : Bd q2 m9 n := ⟨1, s, T2, g2⟩
        obtain ⟨v1, v2⟩ := vc_bad (B := B) (tw := tw) (A := A) (Bb := Bb) (L := L) (W := W) (FL := FL) (FH := FH) (FS := FS) hb9 (-1)
        obtain ⟨u1, u2, q', u3, u4⟩ := tn_end (B := B) (T := T) (tw := tw) (A := A) (Bb := Bb) (L := L) (W := W) (FL := FL) (FH := FH) (FS := FS) (k := k) (i := i + 1) hn hb9
        simp only [↓reduceIte, oc_norow e2, if_pos pu_n01, M1.2.1, h8, v1, v2, u1, u2, u3, hb9.fi, true_and, and_true]
        exact ⟨q', tw, A, Bb, L, W, FL, FH, FS, _, m9, NR, NH, NF, rfl, rfl, F1.tr (Ft.of g3), Or.inr u4⟩
    · have f1 : nI n ≤ nI s := (pu_lei (by omega) (by omega)).mpr (by omega)
      simp only [if_pos f1, if_pos pu_n01, if_neg hl, ↓reduceIte, true_and]
      exact ⟨q1, tw, A, Bb, L, W, FL, FH, FS, _, m1, NR, NH, NF, rfl, rfl, F1, Or.inl ⟨s, np, nr, nt, nf, Q1, M1, N1⟩⟩
