/-! the law's own loop -/
def mLaw : MI := (x, code, 8, ret, 601024, 7293033, [])
def lls (i : Nat) (a b : Option Value) : Lo := [some (.ref 3000), some (.ref 0), some (.ref 54), some (.ref 80), some (.int (nI i)), a, b, none]
theorem G.widen {z : Zp} {μ : MI} {d cells slots cells2 slots2 pc : Nat} {ls : Lo} {st : List Value} {M : Mem} {Q : Rs → Prop} (h1 : cells ≤ cells2) (h2 : slots ≤ slots2) (k : G z μ d cells2 slots2 pc ls st M Q) : G z μ d cells slots pc ls st M Q := by
  intro p e R s m args below meth c H locs A ad adV cI cL D la C hP hD hS hL
  exact W.widen h1 h2 (k p e R s m args below meth c H locs A ad adV cI cL D la C hP hD hS hL)
theorem InvM.out {M : Mem} {x : Int64} (h : InvM M) : InvM (mout M x) := h
theorem lg_eq (a : Int64) : lg_cmp a a = 0 := by
  unfold lg_cmp
  simp
