noncomputable def cN (n : Nat) : Nat := Classical.choose (⟨n, rfl⟩ : ∃ m : Nat, m = n)
theorem cN_eq (n : Nat) : cN n = n := Classical.choose_spec (⟨n, rfl⟩ : ∃ m : Nat, m = n)
noncomputable def FU : Nat := cN 5000
theorem FU_eq : FU = 5000 := cN_eq 5000
theorem mrow_id {N : Mem} {c : Nat} {f : Nat → Int32} (h : N.1 c = f) : mrow N c f = N := by
  subst h
  exact mrow_self N c
def idr (f : Nat → Int32) : Nat → Int32 := f
theorem idr_eq (f : Nat → Int32) : idr f = f := rfl
theorem mrow_sw (M : Mem) {a b : Nat} (f g : Nat → Int32) (h : a < b) : mrow (mrow M b f) a g = mrow (mrow M a g) b (idr f) := mrow_swap M f g h
def ix (x : Int32) : Nat := x.toNatClampNeg
def isN (x : Int32) : Prop := ∃ k : Nat, k < 2 ^ 31 ∧ x = nI k
theorem ix_nI {k : Nat} (h : k < 2 ^ 31) : ix (nI k) = k := nI_clamp h
theorem ixE {x : Int32} (h : isN x) : x = nI (ix x) := by
  obtain ⟨k, hk, rfl⟩ := h
  rw [ix_nI hk]
theorem isN_nI {k : Nat} (h : k < 2 ^ 31) : isN (nI k) := ⟨k, h, rfl⟩
theorem nAdd {a b : Int32} {x y : Nat} (h : a = nI x) (g : b = nI y) : a + b = nI (x + y) := by rw [h, g, nI_add]
theorem nMul {a b : Int32} {x y : Nat} (h : a = nI x) (g : b = nI y) : a * b = nI (x * y) := by rw [h, g, pk_mul]
theorem n00 : nI 0 = 0 := nI_0
theorem n10 : ¬ nI 1 = 0 := by decide
def HX (P : Prop) : Prop := ∀ _ : True, P
def R01 {β : Type} (x : Int32 ⊕ β) : Prop := match x with
  | .inl v => v = 0 ∨ v = 1
  | .inr _ => True
theorem R01_ite {β : Type} {c : Prop} [Decidable c] {a b : Int32 ⊕ β} (ha : R01 a) (hb : R01 b) : R01 (if c then a else b) := by
  split
  · exact ha
  · exact hb
theorem nar01 {v : Int32} (h : v = 0 ∨ v = 1) : narrow .boolean (.int v) = .int v := by
  rcases h with rfl | rfl <;> rfl
