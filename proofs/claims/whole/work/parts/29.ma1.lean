/-! a row is filled -/
theorem GC.iload {X : (Nat → Prop) → State → Prop} {l : Launch} {μ : MI} {d cells slots pc : Nat} {D : va_G} {cI cL : ClassId} {lv : List (Nat × Value)} {st : List Value} {ws : va_W} {Fi : FinT} {k0 : Fin 4} (j : Nat) {x : Int32} (hd : decode μ.b pc = .ok (.iload_n k0, 1)) (hj : lv[j]? = some ((k0 : Nat), .int x)) (k : GCF X l μ d D cI cL lv cells slots (pc + 1) (.int x :: st) ws Fi) : GCF X l μ d D cI cL lv cells slots pc st ws Fi := by
  intro p e R s m args below meth c H locs A la C hP hD hS hl
  exact lv_iload_n C.1 C.2.1 hd rfl (lv_at hl j hj) (k p e R s m args below meth c H locs A la C hP hD hS hl)
theorem GC.istore {X : (Nat → Prop) → State → Prop} {l : Launch} {μ : MI} {d cells slots pc : Nat} {D : va_G} {cI cL : ClassId} {lv lv' : List (Nat × Value)} {st : List Value} {ws : va_W} {Fi : FinT} {k0 : Fin 4} {x : Int32} (hd : decode μ.b pc = .ok (.istore_n k0, 1)) (hn : (k0 : Nat) < μ.ml) (hl9 : ((k0 : Nat), Value.int x) :: lv.filter (fun q => !(q.1 == (k0 : Nat)) && !(q.1 + 1 == (k0 : Nat) && q.2.category == 2)) = lv') (k : GCF X l μ d D cI cL lv' cells slots (pc + 1) st ws Fi) : GCF X l μ d D cI cL lv cells slots pc (.int x :: st) ws Fi := by
  intro p e R s m args below meth c H locs A la C hP hD hS hl
  exact lv_istore_n C.1 C.2.1 hd rfl hl hn hl9 (fun la2 h2 => k p e R s m args below meth c H locs A la2 C hP hD hS h2)
theorem GC.iinc {X : (Nat → Prop) → State → Prop} {l : Launch} {μ : MI} {d cells slots pc i : Nat} {D : va_G} {cI cL : ClassId} {lv lv' : List (Nat × Value)} {st : List Value} {ws : va_W} {Fi : FinT} {n : Int} (j : Nat) {x v : Int32} (hd : decode μ.b pc = .ok (.iinc i n, 3)) (hj : lv[j]? = some (i, .int x)) (hv : x + Int32.ofInt n = v) (hn : i < μ.ml) (hl9 : (i, Value.int v) :: lv.filter (fun q => !(q.1 == i) && !(q.1 + 1 == i && q.2.category == 2)) = lv') (k : GCF X l μ d D cI cL lv' cells slots (pc + 3) st ws Fi) : GCF X l μ d D cI cL lv cells slots pc st ws Fi := by
  intro p e R s m args below meth c H locs A la C hP hD hS hl
  exact lv_iinc C.1 C.2.1 hd hl hj hv hn hl9 (fun la2 h2 => k p e R s m args below meth c H locs A la2 C hP hD hS h2)
theorem GC.sub {X : (Nat → Prop) → State → Prop} {l : Launch} {μ : MI} {d cells slots pc : Nat} {D : va_G} {cI cL : ClassId} {lv lv' : List (Nat × Value)} {st : List Value} {ws : va_W} {Fi : FinT} (ks : List Nat) (hk : lv_pick lv ks = lv') (k : GCF X l μ d D cI cL lv' cells slots pc st ws Fi) : GCF X l μ d D cI cL lv cells slots pc st ws Fi := by
  intro p e R s m args below meth c H locs A la C hP hD hS hl
  exact k p e R s m args below meth c H locs A la C hP hD hS (lv_sub hl ks hk)
theorem GC.goto {X : (Nat → Prop) → State → Prop} {l : Launch} {μ : MI} {d cells slots pc tgt : Nat} {D : va_G} {cI cL : ClassId} {lv : List (Nat × Value)} {st : List Value} {ws : va_W} {Fi : FinT} {off : Int} (hd : decode μ.b pc = .ok (.goto off, 3)) (ht : (pc : Int) + off = (tgt : Int)) (k : GCF X l μ d D cI cL lv cells slots tgt st ws Fi) : GCF X l μ d D cI cL lv cells slots pc st ws Fi := by
  intro p e R s m args below meth c H locs A la C hP hD hS hl
  exact lv_goto C.1 C.2.1 hd ht (k p e R s m args below meth c H locs A la C hP hD hS hl)
theorem GC.icge {X : (Nat → Prop) → State → Prop} {l : Launch} {μ : MI} {d cells slots pc tgt : Nat} {D : va_G} {cI cL : ClassId} {lv : List (Nat × Value)} {st : List Value} {ws : va_W} {Fi : FinT} {off : Int} {x y : Int32} (hd : decode μ.b pc = .ok (.if_icmp .ge off, 3)) (ht : (pc : Int) + off = (tgt : Int)) (kt : y ≤ x → GCF X l μ d D cI cL lv cells slots tgt st ws Fi) (kf : ¬ y ≤ x → GCF X l μ d D cI cL lv cells slots (pc + 3) st ws Fi) : GCF X l μ d D cI cL lv cells slots pc (.int y :: .int x :: st) ws Fi := by
  intro p e R s m args below meth c H locs A la C hP hD hS hl
  exact lv_icmp_ge C.1 C.2.1 hd ht (fun h => kt h p e R s m args below meth c H locs A la C hP hD hS hl) (fun h => kf h p e R s m args below meth c H locs A la C hP hD hS hl)
theorem GC.alen {X : (Nat → Prop) → State → Prop} {l : Launch} {μ : MI} {d cells slots pc : Nat} {D : va_G} {cI cL : ClassId} {lv : List (Nat × Value)} {st : List Value} {ws : va_W} {Fi : FinT} {a n : Nat} (q0 : Nat) {f : Nat → Int32} (he : ws[q0]? = some (a, .inl (cI, n, .inl f))) (hd : decode μ.b pc = .ok (.arraylength, 1)) (k : GCF X l μ d D cI cL lv cells slots (pc + 1) (.int (nI n) :: st) ws Fi) : GCF X l μ d D cI cL lv cells slots pc (.ref a :: st) ws Fi := by
  intro p e R s m args below meth c H locs A la C hP hD hS hl
  exact va_alen C.1 C.2.1 C.2.2.2.2.2.2.2.2.1 hP q0 0 he rfl rfl hd (k p e R s m args below meth c H locs A la C hP hD hS hl)
theorem fill_lp (X : (Nat → Prop) → State → Prop) (l : Launch) (d : Nat) (D : va_G) (cI cL : ClassId) (a : Nat) (x : Int32) : ∀ (n i : Nat) (f : Nat → Int32), i + n = 8 → GC X l mJ7_fill_53178 d D cI cL [(3, .int (nI 8)), (2, .int (nI i)), (0, .ref a), (1, .int x)] 0 0 5 [] [(a, .inl (cI, 8, .inl f))] (fun w => ∃ f9 : Nat → Int32, w = [(a, .inl (cI, 8, .inl f9))]) := by
  intro n
  induction n with
  | zero =>
    intro i f hi
    have e : i = 8 := by omega
    subst e
    refine GC.iload (k0 := 2) 1 (by decide +kernel) rfl ?_
    refine GC.iload (k0 := 3) 0 (by decide +kernel) rfl ?_
    refine GC.icge (off := 13) (tgt := 20) (by decide +kernel) rfl (fun _ => ?_) (fun h => absurd (Int32.le_refl _) h)
    exact GC.ret (by decide +kernel) rfl (Nat.le_of_ble_eq_true rfl) (Nat.le_of_ble_eq_true rfl) ⟨f, rfl⟩
  | succ n ih =>
    intro i f hi
    refine GC.iload (k0 := 2) 1 (by decide +kernel) rfl ?_
    refine GC.iload (k0 := 3) 0 (by decide +kernel) rfl ?_
    refine GC.icge (off := 13) (tgt := 20) (by decide +kernel) rfl (fun h => ?_) (fun _ => ?_)
    · have := (pu_lei (by omega) (by omega)).mp h
      omega
    · refine GC.aload (k0 := 0) 2 (by decide +kernel) rfl ?_
      refine GC.iload (k0 := 2) 1 (by decide +kernel) rfl ?_
      refine GC.iload (k0 := 1) 3 (by decide +kernel) rfl ?_
      refine GC.iast 0 (n := 8) (f := f) rfl (pk_in i 8 (by omega)) (by decide +kernel) ?_
      refine GC.iinc (i := 2) (n := 1) (x := nI i) (v := nI (i + 1)) (lv' := [(2, .int (nI (i + 1))), (3, .int (nI 8)), (0, .ref a), (1, .int x)]) 1 (by decide +kernel) rfl (nI_add i 1) (by decide) rfl ?_
      refine GC.goto (off := -12) (tgt := 5) (by decide +kernel) rfl ?_
      exact GC.sub (lv' := [(3, .int (nI 8)), (2, .int (nI (i + 1))), (0, .ref a), (1, .int x)]) [1, 0, 2, 3] rfl (ih (i + 1) _ (by omega))
theorem mk_fill (l : Launch) (d : Nat) (D : va_G) (cI cL : ClassId) (a : Nat) (x : Int32) (f : Nat → Int32) : Mk l mJ7_fill_53178 d D cI cL [.ref a, .int x] [(a, .inl (cI, 8, .inl f))] (fun w => ∃ f9 : Nat → Int32, w = [(a, .inl (cI, 8, .inl f9))]) := by
  refine Mk.of oJ7_fill_53178.1 (Nat.le_of_ble_eq_true rfl) ?_
  refine GC.iconst (n := 0) (nI 0) (by decide +kernel) (by decide) ?_
  refine GC.istore (k0 := 2) (lv' := [(2, .int (nI 0)), (0, .ref a), (1, .int x)]) (by decide +kernel) (by decide) rfl ?_
  refine GC.aload (k0 := 0) 1 (by decide +kernel) rfl ?_
  refine GC.alen 0 (n := 8) (f := f) rfl (by decide +kernel) ?_
  refine GC.istore (k0 := 3) (lv' := [(3, .int (nI 8)), (2, .int (nI 0)), (0, .ref a), (1, .int x)]) (by decide +kernel) (by decide) rfl ?_
  exact fill_lp _ l d D cI cL a x 8 0 f rfl
