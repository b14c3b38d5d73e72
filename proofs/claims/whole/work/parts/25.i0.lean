/-! what holds between two calls -/
def DRd (np nt nf : Nat) (R S : Nat → Int32) : Prop := DR np nt nf R S ∧ ∃ d, d ≤ 400 ∧ R 0 = nI d
def FR (np : Nat) (Fa Fo : Nat → Int32) : Prop := ∀ p q, p < np → q < np → (∃ d, d < 1000 ∧ Fa (p * 8 + q) = nI d ∧ Fo (8 * p + q) = nI d) ∨ (Fa (p * 8 + q) = nI 1000 ∧ Fo (8 * p + q) = nI 9999)
def HI (np nt nf : Nat) (h : Int32) (R : Nat → Int32) (h' : Int32) (S : Nat → Int32) : Prop := ∃ n, n ≤ 16 ∧ h = nI n ∧ h' = nI n ∧ ∀ w, w < n → DRd np nt nf (fun j => R (w * 51 + j)) (fun j => S (51 * w + j))
def IMG (np nt nf : Nat) (i : Int32) (A W : Nat → Int32) (i' : Int32) (Z : Nat → Int32) : Prop := ∃ n, n ≤ 3 ∧ i = nI n ∧ i' = nI n ∧ ∀ k, k < n → DRd np nt nf (fun j => A (k * 867 + j)) (fun j => Z (868 * k + j)) ∧ ∃ h, h ≤ 16 ∧ W k = nI h ∧ Z (868 * k + 867) = nI h ∧ ∀ w, w < h → DRd np nt nf (fun j => A (k * 867 + 51 + (w * 51 + j))) (fun j => Z (868 * k + 51 + (51 * w + j)))
def TP (f : Int32) (B : Nat → Int32) (f' : Int32) (T : Nat → Int32) : Prop := ∃ n, n ≤ 600 ∧ f = nI n ∧ f' = nI n ∧ ∀ i, i < 600 → T i = B i ∧ ∃ b, b < 256 ∧ B i = nI b
def BK (np : Nat) (A Z : Nat → Int32) : Prop := ∀ p, p < np → Z p = A p ∧ (A p = -1 ∨ ∃ w, w ≤ 600 ∧ A p = nI w)
def IV (np nr nt nf : Nat) (M : Mem) : Prop :=
  SZ np nr nt nf ∧
  (M.1 3 0 = nI np ∧ M.1 3 1 = nI nr ∧ M.1 3 2 = nI nt ∧ M.1 3 3 = nI nf) ∧
  (M.1 54 20 = nI np ∧ M.1 54 21 = nI nr ∧ M.1 54 22 = nI nt ∧ M.1 54 23 = nI nf) ∧
  (TW nt (M.1 7) (M.1 61) ∧ TRo np nr (M.1 4) (M.1 5) (M.1 6) (M.1 60) ∧ FR np (M.1 11) (M.1 76)) ∧
  LWr (M.1 21) (M.1 23) (M.1 54) (M.1 65) (M.1 66) ∧
  DRd np nt nf (M.1 38) (M.1 71) ∧
  HI np nt nf (M.1 43 0) (M.1 44) (M.1 54 35) (M.1 73) ∧
  IMG np nt nf (M.1 43 1) (M.1 45) (M.1 46) (M.1 54 51) (M.1 79) ∧
  TP (M.1 1 1) (M.1 2) (M.1 54 2) (M.1 56) ∧
  (M.1 1 3 = M.1 54 8 ∧ M.1 29 0 = M.1 54 45 ∧ M.1 0 14 = M.1 54 36 ∧ M.1 0 15 = M.1 55 0 ∧ M.1 0 16 = M.1 55 1) ∧
  BK np (M.1 30) (M.1 75)
theorem LWr_cg {L C m m' O V : Nat → Int32} (h : LWr L C m O V) (e : m' 30 = m 30) : LWr L C m' O V := by
  rcases h with ⟨h1, h2, h3⟩ | ⟨c, h1, h2, h3, h4, h5⟩
  · exact Or.inl ⟨h1, h2, by rw [e]; exact h3⟩
  · exact Or.inr ⟨c, h1, h2, h3, by rw [e]; exact h4, h5⟩
/-- rows that a question may write -/
def scr (c : Nat) : Bool := c == 0 || c == 22 || c == 24 || c == 39 || c == 41 || c == 42 || c == 48 || c == 49 || c == 50 || c == 51 || c == 52 || c == 53 || c == 54 || c == 55 || c == 67 || c == 68 || c == 72 || c == 77 || c == 78
theorem IV.keep {np nr nt nf : Nat} {M N : Mem} (h : IV np nr nt nf M) (hc : ∀ c, scr c = false → N.1 c = M.1 c) (h54 : ∀ j, j ≠ 0 → j ≠ 49 → N.1 54 j = M.1 54 j) (h0 : N.1 0 14 = M.1 0 14) (h15 : N.1 0 15 = N.1 55 0) (h16 : N.1 0 16 = N.1 55 1) : IV np nr nt nf N := by
  obtain ⟨a1, a2, a3, a4, a5, a6, a7, a8, a9, ⟨b1, b2, b3, b4, b5⟩, a11⟩ := h
  unfold IV
  rw [hc 3 rfl, hc 7 rfl, hc 61 rfl, hc 4 rfl, hc 5 rfl, hc 6 rfl, hc 60 rfl, hc 11 rfl, hc 76 rfl, hc 21 rfl, hc 23 rfl, hc 65 rfl, hc 66 rfl, hc 38 rfl, hc 71 rfl, hc 43 rfl, hc 44 rfl, hc 73 rfl, hc 45 rfl, hc 46 rfl, hc 79 rfl, hc 1 rfl, hc 2 rfl, hc 56 rfl, hc 29 rfl, hc 30 rfl, hc 75 rfl, h0, h54 20 (by decide) (by decide), h54 21 (by decide) (by decide), h54 22 (by decide) (by decide), h54 23 (by decide) (by decide), h54 35 (by decide) (by decide), h54 51 (by decide) (by decide), h54 2 (by decide) (by decide), h54 8 (by decide) (by decide), h54 45 (by decide) (by decide), h54 36 (by decide) (by decide)]
  exact ⟨a1, a2, a3, a4, LWr_cg a5 (h54 30 (by decide) (by decide)), a6, a7, a8, a9, ⟨b1, b2, b3, h15, h16⟩, a11⟩
def InvM (M : Mem) : Prop := ∃ np nr nt nf, IV np nr nt nf M
abbrev nseN : String := "java/util/NoSuchElementException"
/-- class and reference agree on a call -/
def Ag (ci cn : Nat) (r : Rs) (KO : Mem → Prop) (K : Mem → Int32 × Mem) : Prop :=
  (∃ v M1, r = .inl (some (.int v), M1) ∧ KO M1 ∧ (K M1).1 = v ∧ (K M1).2.1 54 0 = nI 0 ∧ InvM (K M1).2) ∨
  (∃ M1, r = .inr (iaeN, M1) ∧ ci ≠ 0 ∧ KO M1 ∧ (K M1).2.1 54 0 = nI ci ∧ InvM (K M1).2) ∨
  (∃ M1, r = .inr (nseN, M1) ∧ cn ≠ 0 ∧ KO M1 ∧ (K M1).2.1 54 0 = nI cn ∧ InvM (K M1).2)
theorem pu_n20 : ¬ nI 2 = 0 := by decide
theorem t0 (f : Nat → Int32) : upd f 0 (nI 0) 0 = 0 := by rw [pk_us]; exact nI_0
theorem IV.bad1 {np nr nt nf : Nat} {M N : Mem} (h : IV np nr nt nf M) {c : Int32} (hc : ∀ k, scr k = false → N.1 k = M.1 k) (e54 : N.1 54 = upd (upd (M.1 54) 0 (nI 0)) 0 c) (e55 : N.1 55 = upd (M.1 55) 1 (M.1 55 1 + nI 1)) (e0 : N.1 0 = upd (M.1 0) 16 (M.1 0 16 + nI 1)) : IV np nr nt nf N := by
  refine h.keep hc (fun j h0 _ => ?_) ?_ ?_ ?_
  · rw [e54, pk_un h0, pk_un h0]
  · rw [e0, pk_un (by decide)]
  · rw [e0, e55, pk_un (by decide), pk_un (by decide)]; exact h.2.2.2.2.2.2.2.2.2.1.2.2.2.1
  · rw [e0, e55, pk_us, pk_us, h.2.2.2.2.2.2.2.2.2.1.2.2.2.2]
theorem IV.bad0 {np nr nt nf : Nat} {M N : Mem} (h : IV np nr nt nf M) {c : Int32} (hc : ∀ k, scr k = false → N.1 k = M.1 k) (e54 : N.1 54 = upd (upd (M.1 54) 0 (nI 0)) 0 c) (e55 : N.1 55 = upd (M.1 55) 0 (M.1 55 0 + nI 1)) (e0 : N.1 0 = upd (M.1 0) 15 (M.1 0 15 + nI 1)) : IV np nr nt nf N := by
  refine h.keep hc (fun j h0 _ => ?_) ?_ ?_ ?_
  · rw [e54, pk_un h0, pk_un h0]
  · rw [e0, pk_un (by decide)]
  · rw [e0, e55, pk_us, pk_us, h.2.2.2.2.2.2.2.2.2.1.2.2.2.1]
  · rw [e0, e55, pk_un (by decide), pk_un (by decide)]; exact h.2.2.2.2.2.2.2.2.2.1.2.2.2.2
theorem IV.good {np nr nt nf : Nat} {M N : Mem} (h : IV np nr nt nf M) (hc : ∀ k, scr k = false → N.1 k = M.1 k) (e54 : N.1 54 = upd (M.1 54) 0 (nI 0)) (e55 : N.1 55 = M.1 55) (e0 : N.1 0 = M.1 0) : IV np nr nt nf N := by
  refine h.keep hc (fun j h0 _ => ?_) ?_ ?_ ?_
  · rw [e54, pk_un h0]
  · rw [e0]
  · rw [e0, e55]; exact h.2.2.2.2.2.2.2.2.2.1.2.2.2.1
  · rw [e0, e55]; exact h.2.2.2.2.2.2.2.2.2.1.2.2.2.2
theorem scr_ne {c k : Nat} (h : scr c = false) (hk : scr k = true) : c ≠ k := fun e => by rw [e, hk] at h; cases h
/-- a call that throws for a wrong number, in both systems -/
theorem Ag.bad1 {np nr nt nf ci cn : Nat} {M : Mem} {KO : Mem → Prop} {K : Mem → Int32 × Mem} (h : IV np nr nt nf M) (hci : ci ≠ 0) (r : Rs) (hr : r = .inr (iaeN, mrow M 0 (upd (M.1 0) 16 (M.1 0 16 + nI 1)))) (hk : KO (mrow M 0 (upd (M.1 0) 16 (M.1 0 16 + nI 1))))
    (h1 : (K (mrow M 0 (upd (M.1 0) 16 (M.1 0 16 + nI 1)))).2.1 54 = upd (upd (M.1 54) 0 (nI 0)) 0 (nI ci)) (h2 : (K (mrow M 0 (upd (M.1 0) 16 (M.1 0 16 + nI 1)))).2.1 55 = upd (M.1 55) 1 (M.1 55 1 + nI 1)) (h3 : (K (mrow M 0 (upd (M.1 0) 16 (M.1 0 16 + nI 1)))).2.1 0 = upd (M.1 0) 16 (M.1 0 16 + nI 1)) (h4 : ∀ k, scr k = false → (K (mrow M 0 (upd (M.1 0) 16 (M.1 0 16 + nI 1)))).2.1 k = M.1 k) : Ag ci cn r KO K :=
  Or.inr (Or.inl ⟨_, hr, hci, hk, by rw [h1, pk_us], np, nr, nt, nf, h.bad1 h4 h1 h2 h3⟩)
theorem Ag.bad0 {np nr nt nf ci cn : Nat} {M : Mem} {KO : Mem → Prop} {K : Mem → Int32 × Mem} (h : IV np nr nt nf M) (hcn : cn ≠ 0) (r : Rs) (hr : r = .inr (nseN, mrow M 0 (upd (M.1 0) 15 (M.1 0 15 + nI 1)))) (hk : KO (mrow M 0 (upd (M.1 0) 15 (M.1 0 15 + nI 1))))
    (h1 : (K (mrow M 0 (upd (M.1 0) 15 (M.1 0 15 + nI 1)))).2.1 54 = upd (upd (M.1 54) 0 (nI 0)) 0 (nI cn)) (h2 : (K (mrow M 0 (upd (M.1 0) 15 (M.1 0 15 + nI 1)))).2.1 55 = upd (M.1 55) 0 (M.1 55 0 + nI 1)) (h3 : (K (mrow M 0 (upd (M.1 0) 15 (M.1 0 15 + nI 1)))).2.1 0 = upd (M.1 0) 15 (M.1 0 15 + nI 1)) (h4 : ∀ k, scr k = false → (K (mrow M 0 (upd (M.1 0) 15 (M.1 0 15 + nI 1)))).2.1 k = M.1 k) : Ag ci cn r KO K :=
  Or.inr (Or.inr ⟨_, hr, hcn, hk, by rw [h1, pk_us], np, nr, nt, nf, h.bad0 h4 h1 h2 h3⟩)
theorem Ag.good {np nr nt nf ci cn : Nat} {M : Mem} {KO : Mem → Prop} {K : Mem → Int32 × Mem} (h : IV np nr nt nf M) (r : Rs) (M1 : Mem) (v : Int32) (hr : r = .inl (some (.int v), M1)) (hk : KO M1) (hv : (K M1).1 = v)
    (h1 : (K M1).2.1 54 = upd (M.1 54) 0 (nI 0)) (h2 : (K M1).2.1 55 = M.1 55) (h3 : (K M1).2.1 0 = M.1 0) (h4 : ∀ k, scr k = false → (K M1).2.1 k = M.1 k) : Ag ci cn r KO K :=
  Or.inl ⟨v, M1, hr, hk, hv, by rw [h1, pk_us], np, nr, nt, nf, h.good h4 h1 h2 h3⟩
