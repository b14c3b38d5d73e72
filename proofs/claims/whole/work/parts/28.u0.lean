/-! the state goes on -/
def tw (c : Nat) : Bool := c == 3 || c == 4 || c == 5 || c == 6 || c == 7 || c == 60 || c == 61 || c == 11 || c == 76 || c == 21 || c == 23 || c == 65 || c == 66
def t54 (j : Nat) : Bool := j == 20 || j == 21 || j == 22 || j == 23 || j == 30
theorem tw_ne {c k : Nat} (h : tw c = true) (hk : tw k = false) : c ≠ k := fun e => by rw [e, hk] at h; cases h
theorem t54_ne {c k : Nat} (h : t54 c = true) (hk : t54 k = false) : c ≠ k := fun e => by rw [e, hk] at h; cases h
theorem IV.put {np nr nt nf : Nat} {M N : Mem} (h : IV np nr nt nf M) (hc : ∀ c, tw c = true → N.1 c = M.1 c) (h54 : ∀ j, t54 j = true → N.1 54 j = M.1 54 j)
    (hD : DRd np nt nf (N.1 38) (N.1 71)) (hH : HI np nt nf (N.1 43 0) (N.1 44) (N.1 54 35) (N.1 73)) (hI : IMG np nt nf (N.1 43 1) (N.1 45) (N.1 46) (N.1 54 51) (N.1 79)) (hT : TP (N.1 1 1) (N.1 2) (N.1 54 2) (N.1 56))
    (hb : N.1 1 3 = N.1 54 8 ∧ N.1 29 0 = N.1 54 45 ∧ N.1 0 14 = N.1 54 36 ∧ N.1 0 15 = N.1 55 0 ∧ N.1 0 16 = N.1 55 1) (hB : BK np (N.1 30) (N.1 75)) : IV np nr nt nf N := by
  obtain ⟨a1, a2, a3, a4, a5, -⟩ := id h
  unfold IV
  rw [hc 3 rfl, hc 7 rfl, hc 61 rfl, hc 4 rfl, hc 5 rfl, hc 6 rfl, hc 60 rfl, hc 11 rfl, hc 76 rfl, hc 21 rfl, hc 23 rfl, hc 65 rfl, hc 66 rfl, h54 20 rfl, h54 21 rfl, h54 22 rfl, h54 23 rfl]
  exact ⟨a1, a2, a3, a4, LWr_cg a5 (h54 30 rfl), hD, hH, hI, hT, hb, hB⟩
theorem DRd_cg {np nt nf : Nat} {R S R' S' : Nat → Int32} (h : DRd np nt nf R S) (ht : nt ≤ 10) (hf : nf ≤ 6) (hR : ∀ j, j < 51 → R' j = R j) (hS : ∀ j, j < 51 → S' j = S j) : DRd np nt nf R' S' := by
  obtain ⟨h1, d, h2, h3⟩ := h
  exact ⟨DR_cg h1 ht hf hR hS, d, h2, by rw [hR 0 (by omega)]; exact h3⟩
theorem un26 (md nw ps : Nat → Int32) : ∀ k j, j < k → k_undo_26 md nw ps k j = ps (51 * ix (md 35) + j)
  | 0, j, h => by omega
  | k + 1, j, h => by
    simp only [k_undo_26]
    by_cases c : j = k
    · rw [c, pk_us]
    · rw [pk_un c]; exact un26 md nw ps k j (by omega)
theorem kr1_51 (A Z : Nat → Int32) (n m : Nat) : ∀ k, (k_keepsRow_1_L51_3 A Z n m k).1 = A ∧ ∀ j, (k_keepsRow_1_L51_3 A Z n m k).2 j = if n ≤ j ∧ j < n + k then A (j - n) else Z j
  | 0 => ⟨rfl, fun j => by rw [if_neg (show ¬ (n ≤ j ∧ j < n + 0) by omega)]; rfl⟩
  | k + 1 => by
    obtain ⟨h1, h2⟩ := kr1_51 A Z n m k
    rcases x : k_keepsRow_1_L51_3 A Z n m k with ⟨a, z⟩
    simp only [x] at h1 h2
    simp only [k_keepsRow_1_L51_3, x]
    refine ⟨h1, fun j => ?_⟩
    by_cases c : j = n + k
    · rw [c, pk_us, h1, if_pos (show n ≤ n + k ∧ n + k < n + (k + 1) by omega), show n + k - n = k by omega]
    · rw [pk_un c, h2]
      by_cases e : n ≤ j ∧ j < n + k
      · rw [if_pos e, if_pos (show n ≤ j ∧ j < n + (k + 1) by omega)]
      · rw [if_neg e, if_neg (show ¬ (n ≤ j ∧ j < n + (k + 1)) by omega)]
theorem kr0_51 (A Z : Nat → Int32) (n m : Nat) : ∀ k, (k_keepsRow_0_L51_3 A Z n m k).2 = Z ∧ ∀ j, (k_keepsRow_0_L51_3 A Z n m k).1 j = if j < k then Z (n + j) else A j
  | 0 => ⟨rfl, fun j => by rw [if_neg (show ¬ j < 0 by omega)]; rfl⟩
  | k + 1 => by
    obtain ⟨h1, h2⟩ := kr0_51 A Z n m k
    rcases x : k_keepsRow_0_L51_3 A Z n m k with ⟨a, z⟩
    simp only [x] at h1 h2
    simp only [k_keepsRow_0_L51_3, x]
    refine ⟨h1, fun j => ?_⟩
    by_cases c : j = k
    · rw [c, pk_us, h1, if_pos (show k < k + 1 by omega)]
    · rw [pk_un c, h2]
      by_cases e : j < k
      · rw [if_pos e, if_pos (show j < k + 1 by omega)]
      · rw [if_neg e, if_neg (show ¬ j < k + 1 by omega)]
theorem kr1_816 (A Z : Nat → Int32) (n m : Nat) : ∀ k, (k_keepsRow_1_L816_3 A Z n m k).1 = A ∧ ∀ j, (k_keepsRow_1_L816_3 A Z n m k).2 j = if n ≤ j ∧ j < n + k then A (j - n) else Z j
  | 0 => ⟨rfl, fun j => by rw [if_neg (show ¬ (n ≤ j ∧ j < n + 0) by omega)]; rfl⟩
  | k + 1 => by
    obtain ⟨h1, h2⟩ := kr1_816 A Z n m k
    rcases x : k_keepsRow_1_L816_3 A Z n m k with ⟨a, z⟩
    simp only [x] at h1 h2
    simp only [k_keepsRow_1_L816_3, x]
    refine ⟨h1, fun j => ?_⟩
    by_cases c : j = n + k
    · rw [c, pk_us, h1, if_pos (show n ≤ n + k ∧ n + k < n + (k + 1) by omega), show n + k - n = k by omega]
    · rw [pk_un c, h2]
      by_cases e : n ≤ j ∧ j < n + k
      · rw [if_pos e, if_pos (show n ≤ j ∧ j < n + (k + 1) by omega)]
      · rw [if_neg e, if_neg (show ¬ (n ≤ j ∧ j < n + (k + 1)) by omega)]
theorem kr0_816 (A Z : Nat → Int32) (n m : Nat) : ∀ k, (k_keepsRow_0_L816_3 A Z n m k).2 = Z ∧ ∀ j, (k_keepsRow_0_L816_3 A Z n m k).1 j = if j < k then Z (n + j) else A j
  | 0 => ⟨rfl, fun j => by rw [if_neg (show ¬ j < 0 by omega)]; rfl⟩
  | k + 1 => by
    obtain ⟨h1, h2⟩ := kr0_816 A Z n m k
    rcases x : k_keepsRow_0_L816_3 A Z n m k with ⟨a, z⟩
    simp only [x] at h1 h2
    simp only [k_keepsRow_0_L816_3, x]
    refine ⟨h1, fun j => ?_⟩
    by_cases c : j = k
    · rw [c, pk_us, h1, if_pos (show k < k + 1 by omega)]
    · rw [pk_un c, h2]
      by_cases e : j < k
      · rw [if_pos e, if_pos (show j < k + 1 by omega)]
      · rw [if_neg e, if_neg (show ¬ j < k + 1 by omega)]
theorem ka1 (md nw ps im : Nat → Int32) {k : Nat} (hk : k < 3) : k_keepsAll_1_ok md nw ps im k ∧ ∃ Z, k_keepsAll_1 md nw ps im k = (0, md, nw, ps, Z) ∧ (∀ j, j < 51 → Z (868 * k + j) = nw j) ∧ (∀ j, j < 816 → Z (868 * k + 51 + j) = ps j) ∧ Z (868 * k + 867) = md 35 ∧ ∀ j, (j < 868 * k ∨ 868 * k + 868 ≤ j) → Z j = im j := by
  have hc5 : cN 51 = 51 := cN_eq 51
  have hc8 : cN 816 = 816 := cN_eq 816
  obtain ⟨u1, u2⟩ := kr1_51 nw im (868 * k) (cN 51) (cN 51)
  rcases x1 : k_keepsRow_1_L51_3 nw im (868 * k) (cN 51) (cN 51) with ⟨a1, z1⟩
  simp only [x1] at u1 u2
  have v3 : nI (868 * k) + nI (cN 51) = nI (868 * k + 51) := by rw [nI_add, hc5]
  have w3 : ix (nI (868 * k + 51)) = 868 * k + 51 := pu_ix (by omega)
  obtain ⟨t1, t2⟩ := kr1_816 ps z1 (868 * k + 51) (cN 816) (cN 816)
  rcases x2 : k_keepsRow_1_L816_3 ps z1 (868 * k + 51) (cN 816) (cN 816) with ⟨a2, z2⟩
  simp only [x2] at t1 t2
  have v12 : nI (868 * k + 51) + nI (cN 816) = nI (868 * k + 867) := by rw [nI_add, hc8]
  have w12 : ix (nI (868 * k + 867)) = 868 * k + 867 := pu_ix (by omega)
  rw [hc5] at u2
  rw [hc8] at t2
  refine ⟨?_, upd z2 (868 * k + 867) (md 35), ?_, ?_, ?_, pk_us, ?_⟩
  · simp only [k_keepsAll_1_ok, k_keepsRow_1_L51_ok, k_keepsRow_1_L51, x1, v3, w3, k_keepsRow_1_L816_ok, k_keepsRow_1_L816, x2, v12, w12]
    refine ⟨⟨fun i hi => ?_, trivial⟩, pu_isN (by omega), by omega, ⟨fun i hi => ?_, trivial⟩, pu_isN (by omega), by omega, trivial⟩
    · rw [hc5] at hi
      unfold k_keepsRow_1_L51_3_ok
      split
      exact ⟨by omega, by omega, trivial⟩
    · rw [hc8] at hi
      unfold k_keepsRow_1_L816_3_ok
      split
      exact ⟨by omega, by omega, trivial⟩
  · simp only [k_keepsAll_1, k_keepsRow_1_L51, x1, v3, w3, k_keepsRow_1_L816, x2, v12, w12, u1, t1]
  · intro j hj
    rw [pk_un (show 868 * k + j ≠ 868 * k + 867 by omega), t2, if_neg (show ¬ (868 * k + 51 ≤ 868 * k + j ∧ 868 * k + j < 868 * k + 51 + 816) by omega), u2, if_pos (show 868 * k ≤ 868 * k + j ∧ 868 * k + j < 868 * k + 51 by omega), show 868 * k + j - 868 * k = j by omega]
  · intro j hj
    rw [pk_un (show 868 * k + 51 + j ≠ 868 * k + 867 by omega), t2, if_pos (show 868 * k + 51 ≤ 868 * k + 51 + j ∧ 868 * k + 51 + j < 868 * k + 51 + 816 by omega), show 868 * k + 51 + j - (868 * k + 51) = j by omega]
  · intro j hj
    rw [pk_un (show j ≠ 868 * k + 867 by omega), t2, if_neg (show ¬ (868 * k + 51 ≤ j ∧ j < 868 * k + 51 + 816) by omega), u2, if_neg (show ¬ (868 * k ≤ j ∧ j < 868 * k + 51) by omega)]
theorem ka0 (md nw ps im : Nat → Int32) {k : Nat} (hk : k < 3) : k_keepsAll_0_ok md nw ps im k ∧ ∃ N P, k_keepsAll_0 md nw ps im k = (0, upd md 35 (im (868 * k + 867)), N, P, im) ∧ (∀ j, j < 51 → N j = im (868 * k + j)) ∧ (∀ j, j < 816 → P j = im (868 * k + 51 + j)) := by
  have hc5 : cN 51 = 51 := cN_eq 51
  have hc8 : cN 816 = 816 := cN_eq 816
  obtain ⟨u1, u2⟩ := kr0_51 nw im (868 * k) (cN 51) (cN 51)
  rcases x1 : k_keepsRow_0_L51_3 nw im (868 * k) (cN 51) (cN 51) with ⟨a1, z1⟩
  simp only [x1] at u1 u2
  rw [u1] at x1
  have v3 : nI (868 * k) + nI (cN 51) = nI (868 * k + 51) := by rw [nI_add, hc5]
  have w3 : ix (nI (868 * k + 51)) = 868 * k + 51 := pu_ix (by omega)
  obtain ⟨t1, t2⟩ := kr0_816 ps im (868 * k + 51) (cN 816) (cN 816)
  rcases x2 : k_keepsRow_0_L816_3 ps im (868 * k + 51) (cN 816) (cN 816) with ⟨a2, z2⟩
  simp only [x2] at t1 t2
  rw [t1] at x2
  have v12 : nI (868 * k + 51) + nI (cN 816) = nI (868 * k + 867) := by rw [nI_add, hc8]
  have w12 : ix (nI (868 * k + 867)) = 868 * k + 867 := pu_ix (by omega)
  rw [hc5] at u2
  rw [hc8] at t2
  refine ⟨?_, a1, a2, ?_, ?_, ?_⟩
  · simp only [k_keepsAll_0_ok, k_keepsRow_0_L51_ok, k_keepsRow_0_L51, x1, v3, w3, k_keepsRow_0_L816_ok, k_keepsRow_0_L816, x2, v12, w12]
    refine ⟨⟨fun i hi => ?_, trivial⟩, pu_isN (by omega), by omega, ⟨fun i hi => ?_, trivial⟩, pu_isN (by omega), by omega, trivial⟩
    · rw [hc5] at hi
      unfold k_keepsRow_0_L51_3_ok
      split
      exact ⟨by omega, by omega, trivial⟩
    · rw [hc8] at hi
      unfold k_keepsRow_0_L816_3_ok
      split
      exact ⟨by omega, by omega, trivial⟩
  · simp only [k_keepsAll_0, k_keepsRow_0_L51, x1, v3, w3, k_keepsRow_0_L816, x2, v12, w12]
  · intro j hj
    rw [u2, if_pos hj]
  · intro j hj
    rw [t2, if_pos hj]
