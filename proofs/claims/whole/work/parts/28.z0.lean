/-! a new town -/
theorem cq36 (A Z : Nat → Int32) (m : Nat) : ∀ n j, j < n → k_copies_L36_L36_3 A Z m n j = A j
  | 0, j, h => by omega
  | n + 1, j, h => by
    simp only [k_copies_L36_L36_3]
    by_cases c : j = n
    · rw [c, pk_us]
    · rw [pk_un c]; exact cq36 A Z m n j (by omega)
theorem cq30 (A Z : Nat → Int32) (m : Nat) : ∀ n j, j < n → k_copies_L30_L30_3 A Z m n j = A j
  | 0, j, h => by omega
  | n + 1, j, h => by
    simp only [k_copies_L30_L30_3]
    by_cases c : j = n
    · rw [c, pk_us]
    · rw [pk_un c]; exact cq30 A Z m n j (by omega)
theorem cq6 (A Z : Nat → Int32) (m : Nat) : ∀ n j, j < n → k_copies_L6_L6_3 A Z m n j = A j
  | 0, j, h => by omega
  | n + 1, j, h => by
    simp only [k_copies_L6_L6_3]
    by_cases c : j = n
    · rw [c, pk_us]
    · rw [pk_un c]; exact cq6 A Z m n j (by omega)
theorem fl51 (F : Nat → Int32) (x : Int32) : ∀ n j, j < n → J7_fill_53178_L51_5 F x n j = x
  | 0, j, h => by omega
  | n + 1, j, h => by
    simp only [J7_fill_53178_L51_5]
    by_cases c : j = n
    · rw [c, pk_us]
    · rw [pk_un c]; exact fl51 F x n j (by omega)
theorem s122 (F : Nat → Int32) : ∀ n j, j < n → k_sets_122 F n j = nI 0
  | 0, j, h => by omega
  | n + 1, j, h => by
    simp only [k_sets_122]
    by_cases c : j = n
    · rw [c, pk_us]
    · rw [pk_un c]; exact s122 F n j (by omega)
theorem s101 (F : Nat → Int32) : ∀ n j, j < n → k_sets_101 F n j = -1
  | 0, j, h => by omega
  | n + 1, j, h => by
    simp only [k_sets_101]
    by_cases c : j = n
    · rw [c, pk_us]
    · rw [pk_un c]; exact s101 F n j (by omega)
theorem s216 (F N : Nat → Int32) : ∀ n j, k_sets_216 F N n j = if 20 ≤ j ∧ j < 20 + n then F (j - 20) else N j
  | 0, j => by rw [if_neg (show ¬ (20 ≤ j ∧ j < 20 + 0) by omega)]; rfl
  | n + 1, j => by
    simp only [k_sets_216]
    by_cases c : j = 20 + n
    · rw [c, pk_us, if_pos (show 20 ≤ 20 + n ∧ 20 + n < 20 + (n + 1) by omega), show 20 + n - 20 = n by omega]
    · rw [pk_un c, s216 F N n j]
      by_cases d : 20 ≤ j ∧ j < 20 + n
      · rw [if_pos d, if_pos (show 20 ≤ j ∧ j < 20 + (n + 1) by omega)]
      · rw [if_neg d, if_neg (show ¬ (20 ≤ j ∧ j < 20 + (n + 1)) by omega)]
theorem s143 (H N : Nat → Int32) {nt : Nat} (hnt : nt ≤ 10) : ∀ n, n ≤ 10 → (∀ t, t < n → t < nt → k_sets_143 H N nt n t = H (3 * t) ∧ k_sets_143 H N nt n (10 + t) = H (3 * t + 1)) ∧ ∀ j, 20 ≤ j → k_sets_143 H N nt n j = N j
  | 0, _ => ⟨fun t h => by omega, fun _ _ => rfl⟩
  | n + 1, hn => by
    obtain ⟨h1, h2⟩ := s143 H N hnt n (by omega)
    simp only [k_sets_143]
    by_cases c : nt ≤ n
    · have f : nI nt ≤ nI n := (pu_lei (by omega) (by omega)).mpr c
      simp only [if_pos f]
      refine ⟨fun t h3 h4 => ?_, fun j hj => ?_⟩
      · rw [pk_un (show t ≠ 10 + n by omega), pk_un (show t ≠ 0 + n by omega), pk_un (show 10 + t ≠ 10 + n by omega), pk_un (show 10 + t ≠ 0 + n by omega)]
        exact h1 t (by omega) h4
      · rw [pk_un (show j ≠ 10 + n by omega), pk_un (show j ≠ 0 + n by omega)]; exact h2 j hj
    · have f : ¬ nI nt ≤ nI n := fun z => c ((pu_lei (by omega) (by omega)).mp z)
      simp only [if_neg f]
      refine ⟨fun t h3 h4 => ?_, fun j hj => ?_⟩
      · by_cases d : t = n
        · rw [d, pk_un (show n ≠ 10 + n by omega), pk_us, Nat.zero_add, pk_us]
          exact ⟨rfl, rfl⟩
        · rw [pk_un (show t ≠ 10 + n by omega), pk_un (show t ≠ 0 + n by omega), pk_un (show 10 + t ≠ 10 + n by omega), pk_un (show 10 + t ≠ 0 + n by omega)]
          exact h1 t (by omega) h4
      · rw [pk_un (show j ≠ 10 + n by omega), pk_un (show j ≠ 0 + n by omega)]; exact h2 j hj
theorem cpy0 {f g : Nat → Int32} {n j : Nat} (h : j < n) : va_cpy f g 0 0 n j = f j := by
  rw [pk_cpy_in (show 0 ≤ j by omega) (show j < 0 + n by omega), show 0 + (j - 0) = j by omega]
theorem dbg (FL FH FS row : Nat → Int32) : (∀ t, t < 10 → (d_begin FL FH FS row).2 (41 + t) = FH t) ∧ (∀ t, t < 10 → (d_begin FL FH FS row).2 (31 + t) = FL t) ∧ (∀ a, a < 6 → (d_begin FL FH FS row).2 (1 + a) = FS a) ∧ ∀ j, j = 0 ∨ (7 ≤ j ∧ j < 31) → (d_begin FL FH FS row).2 j = nI 0 := by
  simp only [d_begin, J7_fill_53178_L51]
  refine ⟨fun t ht => ?_, fun t ht => ?_, fun t ht => ?_, fun j hj => ?_⟩
  · rw [pk_cpy_in (show 41 ≤ 41 + t by omega) (show 41 + t < 41 + 10 by omega), show 0 + (41 + t - 41) = t by omega]
  · rw [pk_cpy_out (show 31 + t < 41 ∨ 41 + 10 ≤ 31 + t by omega), pk_cpy_in (show 31 ≤ 31 + t by omega) (show 31 + t < 31 + 10 by omega), show 0 + (31 + t - 31) = t by omega]
  · rw [pk_cpy_out (show 1 + t < 41 ∨ 41 + 10 ≤ 1 + t by omega), pk_cpy_out (show 1 + t < 31 ∨ 31 + 10 ≤ 1 + t by omega), pk_cpy_in (show 1 ≤ 1 + t by omega) (show 1 + t < 1 + 6 by omega), show 0 + (1 + t - 1) = t by omega]
  · rw [pk_cpy_out (show j < 41 ∨ 41 + 10 ≤ j by omega), pk_cpy_out (show j < 31 ∨ 31 + 10 ≤ j by omega), pk_cpy_out (show j < 1 ∨ 1 + 6 ≤ j by omega)]
    exact fl51 _ _ _ j (by rw [cN_eq]; omega)
theorem new_DR {np nr nt nf : Nat} {FL FH FS H F row nw : Nat → Int32} (hz : SZ np nr nt nf) (hl : TLi np nt nf FL FH FS H) (hf : ∀ a, a < nf → ∃ p, p < np ∧ FS a = nI p ∧ F a = nI p) : DRd np nt nf (d_begin FL FH FS row).2 (k_sets_216 F (k_sets_143 H (k_sets_122 nw (cN 51)) nt (cN 10)) nf) := by
  obtain ⟨z1, z2, z3, z4⟩ := hz
  obtain ⟨d1, d2, d3, d4⟩ := dbg FL FH FS row
  have hc10 : cN 10 = 10 := cN_eq 10
  obtain ⟨u1, u2⟩ := s143 H (k_sets_122 nw (cN 51)) z3 10 (by omega)
  rw [hc10]
  have lo : ∀ j, j < 20 → k_sets_216 F (k_sets_143 H (k_sets_122 nw (cN 51)) nt 10) nf j = k_sets_143 H (k_sets_122 nw (cN 51)) nt 10 j := fun j hj => by
    rw [s216, if_neg (show ¬ (20 ≤ j ∧ j < 20 + nf) by omega)]
  have hi : ∀ j, 26 ≤ j → j < 51 → k_sets_216 F (k_sets_143 H (k_sets_122 nw (cN 51)) nt 10) nf j = nI 0 := fun j hj hj2 => by
    rw [s216, if_neg (show ¬ (20 ≤ j ∧ j < 20 + nf) by omega), u2 j (by omega)]
    exact s122 _ _ j (by rw [cN_eq]; omega)
  refine ⟨⟨?_, fun a ha => ⟨?_, ?_, ?_, ?_, ?_⟩, fun a ha => ?_, fun t ht => ?_, fun t ht => ?_, fun a ha => ?_⟩, 0, by omega, d4 0 (by omega)⟩
  · rw [hi 50 (by omega) (by omega), d4 0 (by omega)]
  · obtain ⟨p, -, e1, e2⟩ := hf a ha
    rw [s216, if_pos (show 20 ≤ 20 + a ∧ 20 + a < 20 + nf by omega), show 20 + a - 20 = a by omega, d3 a (by omega), e1, e2]
  · rw [hi _ (by omega) (by omega), d4 _ (by omega)]
  · rw [hi _ (by omega) (by omega), d4 _ (by omega)]
  · rw [hi _ (by omega) (by omega), d4 _ (by omega)]
  · rw [hi _ (by omega) (by omega), d4 _ (by omega)]
  · obtain ⟨p, hp, e1, -⟩ := hf a ha
    exact ⟨p, hp, by rw [d3 a (by omega)]; exact e1⟩
  · rw [lo _ (by omega), (u1 t (by omega) ht).2, d1 t (by omega)]
    rcases hl t ht with ⟨p, -, -, e2, -, e4⟩ | ⟨a, -, -, e2, e3, -⟩
    · rw [e2, e4]
    · rw [e2, e3]
  · rw [lo _ (by omega), (u1 t (by omega) ht).1, d1 t (by omega), d2 t (by omega)]
    rcases hl t ht with ⟨p, hp, e1, e2, e3, -⟩ | ⟨a, ha, e1, e2, -, e4⟩
    · exact Or.inl ⟨e2, by rw [e3, e1], p, hp, e1⟩
    · exact Or.inr ⟨a, ha, e2, e1, by rw [e4, d3 a (by omega)]⟩
  · rw [d4 (7 + a) (by omega), d4 (13 + a) (by omega)]
    exact ⟨by decide, by decide, 0, by omega, rfl⟩
theorem new_FR {np nr : Nat} {A B L RO : Nat → Int32} (F Fo : Nat → Int32) (h8 : np ≤ 8) (h12 : nr ≤ 12) (hT : TRo np nr A B L RO) : FR np (v_measure A B L F np nr).2 (k_layFar RO Fo np nr).2 ∧ v_measure_ok A B L F np nr ∧ k_layFar_ok RO Fo np nr := by
  have key : ∀ r, r < nr → ∃ a b l, a < np ∧ b < np ∧ a ≠ b ∧ 1 ≤ l ∧ l ≤ 9 ∧ A r = nI a ∧ B r = nI b ∧ L r = nI l ∧ ix (A r) = a ∧ ix (B r) = b ∧ ix (L r) = l := fun r hr => by
    obtain ⟨-, -, -, a, b, l, h1, h2, h3, h4, h5, h6, h7, h8'⟩ := hT r hr
    exact ⟨a, b, l, h1, h2, h3, h4, h5, h6, h7, h8', by rw [h6]; exact pu_ix (by omega), by rw [h7]; exact pu_ix (by omega), by rw [h8']; exact pu_ix (by omega)⟩
  refine ⟨?_, ?_, ?_⟩
  · refine far_eq (a := fun r => ix (A r)) (b := fun r => ix (B r)) (l := fun r => ix (L r)) h8 (fun r hr => ?_) (fun r hr => ?_)
    · obtain ⟨e1, e2, e3, -⟩ := hT r hr
      obtain ⟨a, b, l, h1, h2, h3, h4, h5, h6, h7, h8', i1, i2, i3⟩ := key r hr
      show RO (3 * r) = nI (ix (A r)) ∧ RO (3 * r + 1) = nI (ix (B r)) ∧ RO (3 * r + 2) = nI (ix (L r)) ∧ ix (A r) < np ∧ ix (B r) < np ∧ ix (A r) ≠ ix (B r) ∧ 1 ≤ ix (L r) ∧ ix (L r) ≤ 9
      rw [i1, i2, i3, e1, e2, e3]
      exact ⟨h6, h7, h8', h1, h2, h3, h4, h5⟩
    · obtain ⟨a, b, l, h1, h2, h3, h4, h5, h6, h7, h8', i1, i2, i3⟩ := key r hr
      show A r = nI (ix (A r)) ∧ B r = nI (ix (B r)) ∧ L r = nI (ix (L r))
      rw [i1, i2, i3]
      exact ⟨h6, h7, h8'⟩
  · refine ⟨trivial, trivial, fun i hi => ?_, trivial⟩
    obtain ⟨a, b, l, h1, h2, h3, h4, h5, h6, h7, h8', i1, i2, i3⟩ := key i hi
    simp only [v_measure_40_ok, i1, i2]
    exact ⟨by rw [h6]; exact pu_isN (by omega), by omega, by rw [h7]; exact pu_isN (by omega), by omega, trivial⟩
  · refine ⟨trivial, fun i hi => ⟨fun j hj => ⟨fun k hk => ?_, trivial⟩, trivial⟩, trivial⟩
    obtain ⟨e1, e2, e3, -⟩ := hT j hj
    obtain ⟨a, b, l, h1, h2, h3, h4, h5, h6, h7, h8', i1, i2, i3⟩ := key j hj
    simp only [k_layFar_80_ok, e1, e2, i1, i2]
    exact ⟨by rw [h6]; exact pu_isN (by omega), by omega, by rw [h7]; exact pu_isN (by omega), by omega, trivial⟩
