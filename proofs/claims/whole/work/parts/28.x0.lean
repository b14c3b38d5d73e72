/-! reading a law -/
def tv (c : Nat) : Bool := c == 3 || c == 4 || c == 5 || c == 6 || c == 7 || c == 60 || c == 61 || c == 11 || c == 76
def t5v (j : Nat) : Bool := j == 20 || j == 21 || j == 22 || j == 23
theorem tv_ne {c k : Nat} (h : tv c = true) (hk : tv k = false) : c ≠ k := fun e => by rw [e, hk] at h; cases h
theorem t5v_ne {c k : Nat} (h : t5v c = true) (hk : t5v k = false) : c ≠ k := fun e => by rw [e, hk] at h; cases h
theorem IV.rd {np nr nt nf : Nat} {M N : Mem} (h : IV np nr nt nf M) (hc : ∀ c, tv c = true → N.1 c = M.1 c) (h54 : ∀ j, t5v j = true → N.1 54 j = M.1 54 j) (hL : LWr (N.1 21) (N.1 23) (N.1 54) (N.1 65) (N.1 66))
    (hD : DRd np nt nf (N.1 38) (N.1 71)) (hH : HI np nt nf (N.1 43 0) (N.1 44) (N.1 54 35) (N.1 73)) (hI : IMG np nt nf (N.1 43 1) (N.1 45) (N.1 46) (N.1 54 51) (N.1 79)) (hT : TP (N.1 1 1) (N.1 2) (N.1 54 2) (N.1 56))
    (hb : N.1 1 3 = N.1 54 8 ∧ N.1 29 0 = N.1 54 45 ∧ N.1 0 14 = N.1 54 36 ∧ N.1 0 15 = N.1 55 0 ∧ N.1 0 16 = N.1 55 1) (hB : BK np (N.1 30) (N.1 75)) : IV np nr nt nf N := by
  obtain ⟨a1, a2, a3, a4, -⟩ := id h
  unfold IV
  rw [hc 3 rfl, hc 7 rfl, hc 61 rfl, hc 4 rfl, hc 5 rfl, hc 6 rfl, hc 60 rfl, hc 11 rfl, hc 76 rfl, h54 20 rfl, h54 21 rfl, h54 22 rfl, h54 23 rfl]
  exact ⟨a1, a2, a3, a4, hL, hD, hH, hI, hT, hb, hB⟩
theorem tx_in {fd L : Nat} {x f : Int32} (hL : L ≤ 1000) (hf : fd ≤ 600) (ef : f = nI fd) (hx : ¬ x < nI 0 ∧ x ≤ (if f < nI L then f else nI L)) : ∃ n, n ≤ L ∧ n ≤ fd ∧ x = nI n := by
  obtain ⟨e0, e⟩ := hx
  rw [ef] at e
  rw [nI_0] at e0
  by_cases c : fd < L
  · rw [if_pos ((pu_lti (by omega) (by omega)).mpr c)] at e
    obtain ⟨n, hn, en⟩ := pu_le2 (n := fd) (by omega) e0 e
    exact ⟨n, by omega, hn, en⟩
  · rw [if_neg (fun z => c ((pu_lti (by omega) (by omega)).mp z))] at e
    obtain ⟨n, hn, en⟩ := pu_le2 (n := L) (by omega) e0 e
    exact ⟨n, hn, by omega, en⟩
theorem tx_no {L : Nat} {x f g : Int32} (e : g = f) (hx : ¬ (¬ x < nI 0 ∧ x ≤ (if f < nI L then f else nI L))) (g1 : ¬ x < 0) (g2 : ¬ g < x) (g3 : ¬ nI L < x) : False := by
  refine hx ⟨by rw [nI_0]; exact g1, ?_⟩
  rw [← e]
  split
  · rw [pu_le]; rw [pu_lt] at g2; omega
  · rw [pu_le]; rw [pu_lt] at g3; omega
theorem res_bad {q m : Nat → Int32} {n : Nat} (h : Bd q m n) (x : Int32) : ∃ kd, q 2 = nI kd ∧ k_result m x = (nI kd - nI 10, upd m 8 (m 5)) ∧ (¬ upd m 8 (m 5) 5 = -1) ∧ q 1 = nI 0 ∧ q 3 = m 5 := by
  obtain ⟨kd, pl, t1, t2⟩ := id h
  have e85 : m 5 = nI pl := t2.2.1
  have npl : ¬ nI pl = -1 := pu_nm (by have := t2.2.2.2.1; omega)
  refine ⟨kd, t1.2.1.1, ?_, ?_, t1.1, ?_⟩
  · simp only [k_result, k_fine, pk_un, ne_eq, Nat.reduceEqDiff, not_false_eq_true, e85, if_neg npl, if_pos pu_n01, t2.2.2.1]
  · rw [pk_un (by decide), e85]; exact npl
  · rw [e85]; exact t1.2.2.1
theorem res_good {m : Nat → Int32} {n a : Nat} (h : MS m n a) (x : Int32) : k_result m x = (x, upd m 8 (m 5)) ∧ upd m 8 (m 5) 5 = -1 ∧ m 5 = -1 := by
  have e85 : m 5 = -1 := h.2.2.1
  refine ⟨?_, ?_, e85⟩
  · simp only [k_result, k_fine, pk_un, ne_eq, Nat.reduceEqDiff, not_false_eq_true, e85, ↓reduceIte, if_neg pu_n10]
  · rw [pk_un (by decide)]; exact e85
theorem cp150 (A Z : Nat → Int32) (m : Nat) : ∀ n j, j < n → k_copies_L150_L150_3 A Z m n j = A j
  | 0, j, h => by omega
  | n + 1, j, h => by
    simp only [k_copies_L150_L150_3]
    by_cases c : j = n
    · rw [c, pk_us]
    · rw [pk_un c]; exact cp150 A Z m n j (by omega)
theorem mo_eq {B T q m : Nat → Int32} {n a : Nat} (hn : n ≤ 600) (hB : BY B T) (hq : TS q n a) (hm : MS m n a) : t_next_ok q B ∧ k_isMore_ok m T ∧ ∃ s q', s ≤ n ∧ a ≤ s ∧ TS q' n s ∧ q' 4 = nI s ∧ MS (upd m 4 (nI s)) n s ∧ ((s < n ∧ (∃ b, ¬ b = -1 ∧ t_next q B = (b, q')) ∧ k_isMore m T = (nI 1, upd m 4 (nI s))) ∨ (s = n ∧ t_next q B = (-1, q') ∧ k_isMore m T = (nI 0, upd m 4 (nI s)))) := by
  obtain ⟨p1, p2, p3, p5, p6, pa⟩ := id hq
  obtain ⟨g3, g4, g5, -⟩ := id hm
  obtain ⟨r1, r2⟩ := tnx (B := B) hn p5 p6 pa
  obtain ⟨s1, s2⟩ := khr hn hB g3 g4 pa
  have hs := sk_le (B := B) pa
  have hsa := sk_ge B n a
  generalize sk B n a = s at r2 s2 hs hsa
  have hm2 : MS (upd m 4 (nI s)) n s := hm.u4 hs
  have hq2 : TS (upd (upd q 6 (nI s)) 4 (nI s)) n s := ⟨by rw [pk_un (by decide), pk_un (by decide)]; exact p1, by rw [pk_un (by decide), pk_un (by decide)]; exact p2, by rw [pk_un (by decide), pk_un (by decide)]; exact p3, by rw [pk_un (by decide), pk_un (by decide)]; exact p5, by rw [pk_un (by decide), pk_us], hs⟩
  have e3 : upd m 4 (nI s) 3 = nI n := hm2.1
  have e4 : upd m 4 (nI s) 4 = nI s := pk_us
  refine ⟨r1, ⟨s1, trivial⟩, s, _, hs, hsa, hq2, pk_us, hm2, ?_⟩
  by_cases hl : s < n
  · left
    obtain ⟨-, b, hb2, eb⟩ := hB s (by omega)
    have hle : ¬ nI n ≤ nI s := fun z => by
      have := (pu_lei (by omega) (by omega)).mp z
      omega
    refine ⟨hl, ⟨nI b, pu_nm (by omega), by rw [r2, if_pos ⟨hl, p2⟩, eb]⟩, ?_⟩
    simp only [k_isMore, s2, e3, e4, if_neg hle]
  · right
    have hle : nI n ≤ nI s := (pu_lei (by omega) (by omega)).mpr (by omega)
    refine ⟨by omega, by rw [r2, if_neg (fun z => hl z.1)], ?_⟩
    simp only [k_isMore, s2, e3, e4, if_pos hle]
