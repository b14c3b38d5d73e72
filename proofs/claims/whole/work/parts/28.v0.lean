/-! feeding the tape -/
theorem lit255 : ∀ i, i < 32 → (¬ i < 8 → (255#32).getLsbD i = false) := by decide +kernel
theorem sh_bv (x : BitVec 32) {s : Nat} (hs : s ≤ 24) : (x >>> s) &&& 255#32 = x.sshiftRight s &&& 255#32 := by
  apply BitVec.eq_of_getLsbD_eq
  intro i hi
  rw [BitVec.getLsbD_and, BitVec.getLsbD_and, BitVec.getLsbD_ushiftRight, BitVec.getLsbD_sshiftRight]
  by_cases c : i < 8
  · rw [if_pos (show s + i < 32 by omega), decide_eq_false (show ¬ 32 ≤ i by omega), Bool.not_false, Bool.true_and]
  · rw [lit255 i hi c, Bool.and_false, Bool.and_false]
noncomputable def by8 (x : Int32) (s : Nat) : Int32 := (x >>> (nI s &&& 31)) &&& nI 255
noncomputable def by8c (x s : Int32) : Int32 := ((x.toUInt32 >>> (s.toUInt32 &&& Int32.toUInt32 31)).toInt32) &&& nI 255
theorem by8_n (x : Int32) (s : Nat) : ∃ b, b < 256 ∧ by8 x s = nI b := pk_andE _ 8 (by decide)
theorem by8_c (x : Int32) (s : Nat) (h : ((nI s).toUInt32 &&& Int32.toUInt32 31).toBitVec % 32 = BitVec.ofNat 32 s) (h' : ((nI s &&& 31).toBitVec.smod 32) = BitVec.ofNat 32 s) (hs : s ≤ 24) : by8c x (nI s) = by8 x s := by
  apply Int32.toBitVec_inj.mp
  have e : (BitVec.ofNat 32 s).toNat = s := by rw [BitVec.toNat_ofNat]; omega
  have e1 : (by8c x (nI s)).toBitVec = (x.toBitVec >>> s) &&& 255#32 := by
    show (x.toBitVec >>> (((nI s).toUInt32 &&& Int32.toUInt32 31).toBitVec % 32).toNat) &&& 255#32 = _
    rw [h, e]
  have e2 : (by8 x s).toBitVec = x.toBitVec.sshiftRight s &&& 255#32 := by
    show (x.toBitVec.sshiftRight ((nI s &&& 31).toBitVec.smod 32).toNat) &&& 255#32 = _
    rw [h', e]
  rw [e1, e2, sh_bv _ hs]
theorem by24 (x : Int32) : by8c x (nI 24) = by8 x 24 := by8_c x 24 (by decide +kernel) (by decide +kernel) (by omega)
theorem by16 (x : Int32) : by8c x (nI 16) = by8 x 16 := by8_c x 16 (by decide +kernel) (by decide +kernel) (by omega)
theorem by08 (x : Int32) : by8c x (nI 8) = by8 x 8 := by8_c x 8 (by decide +kernel) (by decide +kernel) (by omega)
theorem by00 (x : Int32) : by8c x (nI 0) = by8 x 0 := by8_c x 0 (by decide +kernel) (by decide +kernel) (by omega)
theorem pst (x : Int32) (K s n : Nat) (hs : s ≤ 24) (hn : n < 600) (q1 q2 : Nat → Int32) (e : q1 1 = nI n) : t_push_3 x (K + 1) (nI s) q1 q2 = t_push_3 x K (nI s + (-8)) (upd q1 1 (nI (n + 1))) (upd q2 n (by8c x (nI s))) ∧ (t_push_3_ok x (K + 1) (nI s) q1 q2 ↔ t_push_3_ok x K (nI s + (-8)) (upd q1 1 (nI (n + 1))) (upd q2 n (by8c x (nI s)))) := by
  have f : ¬ nI s < 0 := by
    rw [← nI_0]; intro z
    have := (pu_lti (by omega) (by omega)).mp z
    omega
  have g : ¬ nI 600 ≤ nI n := fun z => by
    have := (pu_lei (by omega) (by omega)).mp z
    omega
  have i1 : ix (nI n) = n := pu_ix (by omega)
  have i2 : isN (nI n) := pu_isN (by omega)
  simp only [t_push_3, t_push_3_ok, if_neg f, e, if_neg g, i1, i2, hn, true_and, nI_add, by8c]
theorem tp4 (x : Int32) (n : Nat) (hn : n + 4 ≤ 600) (q1 q2 : Nat → Int32) (e : q1 1 = nI n) : t_push_ok q1 q2 x ∧ ∃ P Q, t_push q1 q2 x = (0, P, Q) ∧ P 1 = nI (n + 4) ∧ (∀ j, j ≠ 1 → P j = q1 j) ∧ ∀ j, Q j = if n ≤ j ∧ j < n + 4 then by8 x (24 - 8 * (j - n)) else q2 j := by
  obtain ⟨K, hK⟩ : ∃ K, FU = K + 1 + 1 + 1 + 1 + 1 := ⟨4995, by rw [FU_eq]⟩
  obtain ⟨a1, a2⟩ := pst x (K + 1 + 1 + 1 + 1) 24 n (by omega) (by omega) q1 q2 e
  obtain ⟨b1, b2⟩ := pst x (K + 1 + 1 + 1) 16 (n + 1) (by omega) (by omega) (upd q1 1 (nI (n + 1))) (upd q2 n (by8c x (nI 24))) pk_us
  obtain ⟨c1, c2⟩ := pst x (K + 1 + 1) 8 (n + 1 + 1) (by omega) (by omega) (upd (upd q1 1 (nI (n + 1))) 1 (nI (n + 1 + 1))) (upd (upd q2 n (by8c x (nI 24))) (n + 1) (by8c x (nI 16))) pk_us
  obtain ⟨d1, d2⟩ := pst x (K + 1) 0 (n + 1 + 1 + 1) (by omega) (by omega) (upd (upd (upd q1 1 (nI (n + 1))) 1 (nI (n + 1 + 1))) 1 (nI (n + 1 + 1 + 1))) (upd (upd (upd q2 n (by8c x (nI 24))) (n + 1) (by8c x (nI 16))) (n + 1 + 1) (by8c x (nI 8))) pk_us
  have s1 : nI 24 + (-8) = nI 16 := by decide +kernel
  have s2 : nI 16 + (-8) = nI 8 := by decide +kernel
  have s3 : nI 8 + (-8) = nI 0 := by decide +kernel
  have s4 : nI 0 + (-8) = -8 := by decide +kernel
  have s5 : (-8 : Int32) < 0 := by decide +kernel
  rw [s1] at a1 a2
  rw [s2] at b1 b2
  rw [s3] at c1 c2
  rw [s4] at d1 d2
  refine ⟨⟨?_, trivial⟩, upd (upd (upd (upd q1 1 (nI (n + 1))) 1 (nI (n + 1 + 1))) 1 (nI (n + 1 + 1 + 1))) 1 (nI (n + 1 + 1 + 1 + 1)), upd (upd (upd (upd q2 n (by8c x (nI 24))) (n + 1) (by8c x (nI 16))) (n + 1 + 1) (by8c x (nI 8))) (n + 1 + 1 + 1) (by8c x (nI 0)), ?_, pk_us, ?_, ?_⟩
  · rw [hK, a2, b2, c2, d2]
    simp only [t_push_3_ok, if_pos s5]
  · simp only [t_push, hK, a1, b1, c1, d1]
    simp only [t_push_3, if_pos s5]
  · intro j hj
    rw [pk_un hj, pk_un hj, pk_un hj, pk_un hj]
  · intro j
    rw [by24, by16, by08, by00]
    by_cases c : n ≤ j ∧ j < n + 4
    · rw [if_pos c]
      have : j = n ∨ j = n + 1 ∨ j = n + 1 + 1 ∨ j = n + 1 + 1 + 1 := by omega
      rcases this with r | r | r | r
      · rw [r, pk_un (show n ≠ n + 1 + 1 + 1 by omega), pk_un (show n ≠ n + 1 + 1 by omega), pk_un (show n ≠ n + 1 by omega), pk_us, show 24 - 8 * (n - n) = 24 by omega]
      · rw [r, pk_un (show n + 1 ≠ n + 1 + 1 + 1 by omega), pk_un (show n + 1 ≠ n + 1 + 1 by omega), pk_us, show 24 - 8 * (n + 1 - n) = 16 by omega]
      · rw [r, pk_un (show n + 1 + 1 ≠ n + 1 + 1 + 1 by omega), pk_us, show 24 - 8 * (n + 1 + 1 - n) = 8 by omega]
      · rw [r, pk_us, show 24 - 8 * (n + 1 + 1 + 1 - n) = 0 by omega]
    · rw [if_neg c, pk_un (show j ≠ n + 1 + 1 + 1 by omega), pk_un (show j ≠ n + 1 + 1 by omega), pk_un (show j ≠ n + 1 by omega), pk_un (show j ≠ n by omega)]
noncomputable def sel5 (x1 x2 x3 x4 x5 : Int32) (c : Nat) : Int32 := if 4 ≤ c then (if 8 ≤ c then (if 12 ≤ c then (if 16 ≤ c then x5 else x4) else x3) else x2) else x1
theorem sh20 : ∀ i, i < 20 → nI 24 - nI 8 * (nI i - nI i / nI 4 * nI 4) = nI (24 - 8 * (i % 4)) := by decide +kernel
theorem fd23 (md tp : Nat → Int32) (x1 x2 x3 x4 x5 : Int32) {n : Nat} (hn : n + 20 ≤ 600) (e : md 2 = nI n) : ∀ i, i ≤ 20 → (k_feed_23 md tp x1 x2 x3 x4 x5 i).1 2 = nI (n + i) ∧ (∀ j, j ≠ 2 → (k_feed_23 md tp x1 x2 x3 x4 x5 i).1 j = md j) ∧ ∀ j, (k_feed_23 md tp x1 x2 x3 x4 x5 i).2 j = if n ≤ j ∧ j < n + i then by8 (sel5 x1 x2 x3 x4 x5 (j - n)) (24 - 8 * ((j - n) % 4)) else tp j
  | 0, _ => ⟨e, fun _ _ => rfl, fun j => by rw [if_neg (show ¬ (n ≤ j ∧ j < n + 0) by omega)]; rfl⟩
  | i + 1, hi => by
    obtain ⟨h1, h2, h3⟩ := fd23 md tp x1 x2 x3 x4 x5 hn e i (by omega)
    rcases x : k_feed_23 md tp x1 x2 x3 x4 x5 i with ⟨a, b⟩
    simp only [x] at h1 h2 h3
    have i1 : ix (nI (n + i)) = n + i := pu_ix (by omega)
    have o : ∀ {c : Nat}, c ≤ 20 → (nI c ≤ nI i) = (c ≤ i) := fun hc => propext (pu_lei (by omega) (by omega))
    have key : k_feed_23 md tp x1 x2 x3 x4 x5 (i + 1) = (upd a 2 (nI (n + i + 1)), upd b (n + i) (by8 (sel5 x1 x2 x3 x4 x5 i) (24 - 8 * (i % 4)))) := by
      simp (disch := omega) only [k_feed_23, x, h1, i1, nI_add, sh20, o, by8, sel5]
      by_cases g1 : 4 ≤ i
      · by_cases g2 : 8 ≤ i
        · by_cases g3 : 12 ≤ i
          · by_cases g4 : 16 ≤ i
            · simp only [if_pos g1, if_pos g2, if_pos g3, if_pos g4]
            · simp only [if_pos g1, if_pos g2, if_pos g3, if_neg g4]
          · simp only [if_pos g1, if_pos g2, if_neg g3]
        · simp only [if_pos g1, if_neg g2]
      · simp only [if_neg g1]
    rw [key]
    refine ⟨by rw [← Nat.add_assoc]; show upd a 2 _ 2 = _; exact pk_us, fun j hj => by show upd a 2 _ j = _; rw [pk_un hj]; exact h2 j hj, fun j => ?_⟩
    show upd b (n + i) _ j = _
    by_cases c : j = n + i
    · rw [c, pk_us, if_pos (show n ≤ n + i ∧ n + i < n + (i + 1) by omega), show n + i - n = i by omega]
    · rw [pk_un c, h3]
      by_cases d : n ≤ j ∧ j < n + i
      · rw [if_pos d, if_pos (show n ≤ j ∧ j < n + (i + 1) by omega)]
      · rw [if_neg d, if_neg (show ¬ (n ≤ j ∧ j < n + (i + 1)) by omega)]
theorem fd_ok (md tp : Nat → Int32) (x1 x2 x3 x4 x5 : Int32) {n : Nat} (hn : n + 20 ≤ 600) (e : md 2 = nI n) {i : Nat} (hi : i < 20) : k_feed_23_ok md tp x1 x2 x3 x4 x5 i := by
  obtain ⟨h1, -, -⟩ := fd23 md tp x1 x2 x3 x4 x5 hn e i (by omega)
  rcases x : k_feed_23 md tp x1 x2 x3 x4 x5 i with ⟨a, b⟩
  simp only [x] at h1
  have i1 : ix (nI (n + i)) = n + i := pu_ix (by omega)
  have i2 : isN (nI (n + i)) := pu_isN (by omega)
  simp only [k_feed_23_ok, x, h1, i1, i2, show n + i < 600 by omega, and_self, ite_self]
