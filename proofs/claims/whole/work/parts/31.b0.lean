/-! from making to the loop -/
theorem EV.cg {l : Launch} {L : Nat} {xs ys : Nat → Int32} {ad adV : Nat → Nat} {A : Nat → Prop} {U : State} {H : Heap} (e : ∀ j, j < L → ys j = xs j) (h : EV (l, L, xs) ad adV A U H) : EV (l, L, ys) ad adV A U H := by
  obtain ⟨h1, h2, h3, h4, h5, h6, ⟨⟨scr, g1, g2, g3, g4, g5⟩, h8, h9⟩, h10, h11, h12⟩ := h
  exact ⟨h1, h2, h3, h4, h5, h6, ⟨⟨scr, g1, g2, g3, g4, fun j hj => (g5 j hj).trans (congrArg (fun x => some (Value.int x)) (e j hj).symm)⟩, h8, h9⟩, h10, h11, h12⟩
theorem GC.toL (l : Launch) {L : Nat} {xs ys : Nat → Int32} {d cells slots pc : Nat} {D : va_G} {cI cL : ClassId} {lv : List (Nat × Value)} {ad a adV : Nat → Nat} {M : Mem} {ls : Lo} {st : List Value} {Q : Rs → Prop} (e0 : ∀ j, j < L → ys j = xs j) (how : oW (l, L, ys) = true) (hQ : ∀ r, Q r → ∃ N, r = .inl (some (.int (nI 1)), N)) (hext : ∀ n, 1000 ≤ n → a n = ad n) (hLR : ∀ la, lv_has la mLaw.ml lv → LR a mLaw.ml ls la) (hG : G (l, L, ys) mLaw d cells slots pc ls st M Q) : GCF (EX (l, L, xs) ad adV) l mLaw d D cI cL lv cells slots pc (st.map (rv a)) (wld true a cI cL M) FinL := by
  intro p e R s m args below meth c H locs A la C hP hD hS hl
  obtain ⟨c1, c2, c3, c4, c5, c6, c7, c8, c9, c10, c11, c12, c13, c14, c15⟩ := C
  have hE : EV (l, L, ys) a adV A s s.heap := EV.ext hext (EV.cg e0 c14)
  have hP2 : va_P D vwCl (wld (oW (l, L, ys)) a cI cL M) H := by rw [how]; exact hP
  have hD2 : va_D A (wld (oW (l, L, ys)) a cI cL M) := by rw [how]; exact hD
  have w := hG p e R s m args below meth c H locs A a adV cI cL D la ⟨c1, c2, c3, c4, c5, c6, c7, c13, c9, c10, hE, c11, c15⟩ hP2 hD2 hS (hLR la hl)
  intro T hT X9
  obtain ⟨t, a1, o, b1, b2, b3⟩ := w T hT X9
  refine ⟨t, a1, fun hA => ?_⟩
  rcases b3 with ⟨⟨v, N, q1, q2, q3, q4⟩, L9, ⟨f1, f2, f3⟩, hL⟩ | ⟨q, e1, E, ce, L9, ⟨N, x1, x2⟩, rest⟩
  · obtain ⟨N2, e2⟩ := hQ _ q2
    cases e2
    exact ⟨o, b1, b2, q1, f1, f2, State.sameButNew.weaken f3 (fun y hy hlt => absurd hlt (Nat.not_lt.mpr (hA _ (hL y hy)))) (Nat.le_refl _) (Nat.le_refl _)⟩
  · obtain ⟨N2, e2⟩ := hQ _ x1
    cases e2
