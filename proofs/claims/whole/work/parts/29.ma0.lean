/-! making objects: frames that make, contracts of constructors -/
def nw1 : Cond := .methodLinkNest "EvenFinders" 11 yX6_init "EvenFinders"
def nw2 : Cond := .methodLinkNest "EvenFinders" 18 yX7_init "EvenFinders"
def nw3 : Cond := .methodLinkNest "EvenFinders" 69 yX2_init "EvenFinders"
def NWq (U : State) : Prop := va_Nw nw1 U ∧ va_Nw nw2 U ∧ va_Nw nw3 U
theorem NWq.warm {s U : State} (hW : s.WarmedH U.vm) (h : NWq s) : NWq U := ⟨va_Nw.warmM hW h.1, va_Nw.warmM hW h.2.1, va_Nw.warmM hW h.2.2⟩
theorem NWq.same {u U : State} (hv : U.vm = u.vm) (h : NWq u) : NWq U := ⟨va_Nw.same rfl hv.symm h.1, va_Nw.same rfl hv.symm h.2.1, va_Nw.same rfl hv.symm h.2.2⟩
def Cn (X : (Nat → Prop) → State → Prop) (μ : MI) (d : Nat) (p : Program) (R : Room) (s : State) (m : MethodId) (args : Array Value) (meth : Method) (c : Code) (A : Nat → Prop) (cI cL : ClassId) (D : va_G) : Prop :=
  p.tables.exec = Jvm.exec ∧ c.code = μ.b ∧ meth.sig.returnType = μ.ret ∧ c.maxLocals = μ.ml ∧ s.vm.findClass μ.y.cls = some m.cls ∧ (∀ w ∈ gt, w.before args s = true) ∧ meth.locks = false ∧ meth.name = μ.y.name ∧
  va_K D vwCl [(cI, .int), (cL, .long)] s ∧ (∀ q, s.heap.size ≤ q → A q) ∧ (d ≤ R.frames ∧ 64 * d ≤ R.locals ∧ μ.mc ≤ R.cells ∧ μ.ms ≤ R.slots) ∧ NWq s ∧ c.exceptionTable.toList = [] ∧ X A s
def MkPre (D : va_G) (cI cL : ClassId) (sz : Nat) (ws : va_W) (U : State) : Prop := U.heap.size = sz ∧ va_P D vwCl ws U.heap ∧ va_K D vwCl [(cI, .int), (cL, .long)] U ∧ va_D (fun _ => True) ws ∧ NWq U
def Mk (l : Launch) (μ : MI) (d : Nat) (D : va_G) (cI cL : ClassId) (as : List Value) (ws : va_W) (Post : va_W → Prop) : Prop :=
  ∀ sz : Nat, Met l μ.y (wsM μ) (rmM μ d) (va_Pc as (MkPre D cI cL sz ws)) (va_Qv Post (fun w t => va_P D vwCl w t.heap ∧ va_D (va_A ws sz) w) (va_A ws sz)) μ.mc μ.ms (va_A ws sz)
abbrev FinT : Type := List Frame → Array Value → State → (Nat → Prop) → State → Prop
def GCF (X : (Nat → Prop) → State → Prop) (l : Launch) (μ : MI) (d : Nat) (D : va_G) (cI cL : ClassId) (lv : List (Nat × Value)) (cells slots pc : Nat) (st : List Value) (ws : va_W) (Fi : FinT) : Prop :=
  ∀ (p : Program) (e : Env) (R : Room) (s : State) (m : MethodId) (args : Array Value) (below : List Frame) (meth : Method) (c : Code) (H : Heap) (locs : List Loc) (A : Nat → Prop) (la : Array Slot),
    Cn X μ d p R s m args meth c A cI cL D → va_P D vwCl ws H → va_D A ws → va_S A s.heap H locs → lv_has la μ.ml lv →
    W p l e R s m args below meth c H locs cells slots (Fi below args s A) (F0 m pc la st)
def FinV (D : va_G) (μ : MI) (Post : va_W → Prop) : FinT := fun below args s A => MQ below (va_Qv Post (fun w t => va_P D vwCl w t.heap ∧ va_D A w) A) args s μ.mc μ.ms A
abbrev GC (X : (Nat → Prop) → State → Prop) (l : Launch) (μ : MI) (d : Nat) (D : va_G) (cI cL : ClassId) (lv : List (Nat × Value)) (cells slots pc : Nat) (st : List Value) (ws : va_W) (Post : va_W → Prop) : Prop := GCF X l μ d D cI cL lv cells slots pc st ws (FinV D μ Post)
theorem noEx {l : Launch} {p : Program} {y : MethodName} {S : Spec} {cc bytes : ByteArray} {maxL maxL' : Nat} {ret ret' : Option FieldType} {e : Env} {s s₁ : State} {m : MethodId} {args : Array Value} {below : List Frame} {meth : Method} {c : Code}
    (B : BodyLoose p l y S cc maxL ret e s m args below meth c s₁) (h : (Cond.code y bytes maxL' ret').before args s = true) : c.exceptionTable.toList = [] := by
  obtain ⟨meth9, c9, h1, h2, -, -, -, -, h7, -⟩ := Cond.code_spec B.named h
  cases Option.some.inj (h1.symm.trans B.method)
  cases Option.some.inj (h2.symm.trans (Stand.of_body B).code)
  rw [Array.isEmpty_iff.mp h7]
theorem Mk.of {l : Launch} {μ : MI} {n d : Nat} {D : va_G} {cI cL : ClassId} {as : List Value} {ws : va_W} {Post : va_W → Prop} (ho : MOK μ n) (hl : (lg_sl as).length ≤ μ.ml) (h : GC (fun _ _ => True) l μ d D cI cL (lv_args 0 as) 0 0 0 [] ws Post) : Mk l μ d D cI cL as ws Post := by
  intro sz
  refine Met.ofW (cc := μ.b) (maxL := μ.ml) (ret := μ.ret) ho.2.2.2.1 rfl ?_
  intro p e s m args below meth c s₁ B hml hv
  obtain ⟨rfl, hsz, hP, hK, hD0, hN⟩ := hv
  subst hsz
  have hts := atoms_spec (ws := wsM μ) B.pre
  have hown : s.vm.findClass μ.y.cls = some m.cls := findClass_of_methodNamed B.named
  have hx9 := noEx B (hts _ List.mem_cons_self)
  rw [lg_entry_eq]
  exact h p e _ s m _ below meth c s.heap [] (va_A ws s.heap.size) _ ⟨B.exec, B.bytes, B.returns, hml, hown, fun w hw => hts w (List.mem_cons_of_mem _ hw), B.notSynchronized, (name_of_methodNamed B.named B.method).1, hK, fun q hq => Or.inr hq, ⟨Nat.le_refl _, Nat.le_refl _, Nat.le_refl _, Nat.le_refl _⟩, hN, hx9, trivial⟩ hP hD0.self va_S.rf (lv_entry as hl)
theorem GC.aload {X : (Nat → Prop) → State → Prop} {l : Launch} {μ : MI} {d cells slots pc : Nat} {D : va_G} {cI cL : ClassId} {lv : List (Nat × Value)} {st : List Value} {ws : va_W} {Fi : FinT} {k0 : Fin 4} (j : Nat) {x : Nat} (hd : decode μ.b pc = .ok (.aload_n k0, 1)) (hj : lv[j]? = some ((k0 : Nat), .ref x)) (k : GCF X l μ d D cI cL lv cells slots (pc + 1) (.ref x :: st) ws Fi) : GCF X l μ d D cI cL lv cells slots pc st ws Fi := by
  intro p e R s m args below meth c H locs A la C hP hD hS hl
  exact lv_aload_n C.1 C.2.1 hd rfl (lv_at hl j hj) (k p e R s m args below meth c H locs A la C hP hD hS hl)
theorem GC.iconst {X : (Nat → Prop) → State → Prop} {l : Launch} {μ : MI} {d cells slots pc : Nat} {D : va_G} {cI cL : ClassId} {lv : List (Nat × Value)} {st : List Value} {ws : va_W} {Fi : FinT} {n : Int} (v : Int32) (hd : decode μ.b pc = .ok (.iconst n, 1)) (hv : Int32.ofInt n = v) (k : GCF X l μ d D cI cL lv cells slots (pc + 1) (.int v :: st) ws Fi) : GCF X l μ d D cI cL lv cells slots pc st ws Fi := by
  intro p e R s m args below meth c H locs A la C hP hD hS hl
  exact lv_iconst C.1 C.2.1 hd hv (k p e R s m args below meth c H locs A la C hP hD hS hl)
theorem GC.bipush {X : (Nat → Prop) → State → Prop} {l : Launch} {μ : MI} {d cells slots pc : Nat} {D : va_G} {cI cL : ClassId} {lv : List (Nat × Value)} {st : List Value} {ws : va_W} {Fi : FinT} {n : Int} (v : Int32) (hd : decode μ.b pc = .ok (.bipush n, 2)) (hv : (Int8.ofInt n).toInt32 = v) (k : GCF X l μ d D cI cL lv cells slots (pc + 2) (.int v :: st) ws Fi) : GCF X l μ d D cI cL lv cells slots pc st ws Fi := by
  intro p e R s m args below meth c H locs A la C hP hD hS hl
  exact lv_bipush C.1 C.2.1 hd hv (k p e R s m args below meth c H locs A la C hP hD hS hl)
theorem GC.sipush {X : (Nat → Prop) → State → Prop} {l : Launch} {μ : MI} {d cells slots pc : Nat} {D : va_G} {cI cL : ClassId} {lv : List (Nat × Value)} {st : List Value} {ws : va_W} {Fi : FinT} {n : Int} (v : Int32) (hd : decode μ.b pc = .ok (.sipush n, 3)) (hv : (Int16.ofInt n).toInt32 = v) (k : GCF X l μ d D cI cL lv cells slots (pc + 3) (.int v :: st) ws Fi) : GCF X l μ d D cI cL lv cells slots pc st ws Fi := by
  intro p e R s m args below meth c H locs A la C hP hD hS hl
  exact lv_sipush C.1 C.2.1 hd hv (k p e R s m args below meth c H locs A la C hP hD hS hl)
theorem GC.dup {X : (Nat → Prop) → State → Prop} {l : Launch} {μ : MI} {d cells slots pc : Nat} {D : va_G} {cI cL : ClassId} {lv : List (Nat × Value)} {st : List Value} {ws : va_W} {Fi : FinT} {q : Nat} (hd : decode μ.b pc = .ok (.dup, 1)) (k : GCF X l μ d D cI cL lv cells slots (pc + 1) (.ref q :: .ref q :: st) ws Fi) : GCF X l μ d D cI cL lv cells slots pc (.ref q :: st) ws Fi := by
  intro p e R s m args below meth c H locs A la C hP hD hS hl
  exact lv_dup C.1 C.2.1 hd rfl (k p e R s m args below meth c H locs A la C hP hD hS hl)
theorem ob_i : Cond.instanceMethod objectInit ∈ gt := mg (k := 1) (i := 33) (by decide +kernel) rfl
theorem ob_c : Cond.code objectInit ⟨#[0xb1]⟩ 1 none ∈ gt := mg (k := 1) (i := 34) rfl rfl
theorem GC.obj {X : (Nat → Prop) → State → Prop} {l : Launch} {μ : MI} {d cells slots pc idx : Nat} {D : va_G} {cI cL : ClassId} {lv : List (Nat × Value)} {ws : va_W} {Fi : FinT} {q : Nat} (hl0 : Cond.methodLink μ.y.cls idx objectInit ∈ gt) (hd : decode μ.b pc = .ok (.invokespecial idx, 3)) (k : GCF X l μ (d + 1) D cI cL lv cells slots (pc + 3) [] ws Fi) : GCF X l μ (d + 1) D cI cL lv cells slots pc [.ref q] ws Fi := by
  intro p e R s m args below meth c H locs A la C hP hD hS hl
  have hts := C.2.2.2.2.2.1
  obtain ⟨r1, r2, -, -⟩ := C.2.2.2.2.2.2.2.2.2.2.1
  refine W.objInit C.1 C.2.1 C.2.2.2.2.1 (hts _ hl0) (hts _ ob_i) (hts _ ob_c) rfl (by rw [C.2.2.2.1]; exact hl.1) rfl hd (by omega) ?_ ?_
  · show 2 * 0 + 0 + 12 ≤ R.locals
    omega
  · exact k p e R s m args below meth c H locs A la C hP hD hS hl
theorem arI : Cond.arrayClass .int ∈ gt := mg (k := 1) (i := 70) (by decide +kernel) rfl
theorem GC.newi {X : (Nat → Prop) → State → Prop} {l : Launch} {μ : MI} {d cells slots pc : Nat} {D : va_G} {cI cL : ClassId} {lv : List (Nat × Value)} {st : List Value} {ws : va_W} {Fi : FinT} {n : Int32} (N : Nat) (hn : n = nI N) (hN : N < 10000) (hd : decode μ.b pc = .ok (.newarray .int, 2)) (hc : cells + 1 ≤ μ.mc) (hs : slots + N ≤ μ.ms) (k : ∀ q : Nat, GCF X l μ d D cI cL lv (cells + 1) (slots + N) (pc + 2) (.ref q :: st) (ws ++ [(q, .inl (cI, N, .inl (fun _ => 0)))]) Fi) : GCF X l μ d D cI cL lv cells slots pc (.int n :: st) ws Fi := by
  intro p e R s m args below meth c H locs A la C hP hD hS hl
  have hts := C.2.2.2.2.2.1
  have hK := C.2.2.2.2.2.2.2.2.1
  obtain ⟨-, -, r3, r4⟩ := C.2.2.2.2.2.2.2.2.2.2.1
  subst hn
  have h0 : ¬ nI N < 0 := fun z => by
    rw [← nI_0] at z
    have := (pu_lti (by omega) (by omega)).mp z
    omega
  refine va_newa (atype := .int) (ty := .int) (a0 := (N, .inl (fun _ => 0))) (N' := N) C.1 C.2.1 (hts _ arI) rfl hK hP hD hS C.2.2.2.2.2.2.2.2.2.1 (fun cA => rfl) h0 (ix_nI (by omega)) ?_ (by omega) (by omega) hd (fun q cA H1 hK1 hP1 hD1 hS1 => ?_)
  · show N * 4 ≤ 536870912
    omega
  · have e1 : va_RA s cA .int := (hK1.2 2 (cA, .int) rfl).2
    have e2 : va_RA s cI .int := (hK.2 0 (cI, .int) rfl).2
    have e3 : cA = cI := Option.some.inj (e1.symm.trans e2)
    subst e3
    exact k q p e R s m args below meth c H1 locs A la C hP1 hD1 hS1 hl
theorem GC.put {X : (Nat → Prop) → State → Prop} {l : Launch} {μ : MI} {d cells slots pc : Nat} {D : va_G} {cI cL : ClassId} {lv : List (Nat × Value)} {st : List Value} {ws : va_W} {Fi : FinT} {ci kf idx a : Nat} (q0 : Nat) {fs : List Value} {v : Value} (hci : ci < 12) (hf : fok μ.y.cls idx ci kf) (he : ws[q0]? = some (a, .inr (ci, fs))) (hin : μ.y.name = "<init>") (hown : ((clT ci).2.1 kf).1 = μ.y.cls) (hn : narrow (tyT.getD ci tyX0 kf) v = v) (hfit : fits (tyT.getD ci tyX0 kf) v = true) (hl9 : kf < fs.length) (hd : decode μ.b pc = .ok (.putfield idx, 3)) (k : GCF X l μ d D cI cL lv cells slots (pc + 3) st (ws.set q0 (a, .inr (ci, fs.set kf v))) Fi) : GCF X l μ d D cI cL lv cells slots pc (v :: .ref a :: st) ws Fi := by
  intro p e R s m args below meth c H locs A la C hP hD hS hl
  have hts := C.2.2.2.2.2.1
  have hK := C.2.2.2.2.2.2.2.2.1
  have hw := cl_lt ci hci
  cases hfin : ((clT ci).2.1 kf).2.2.2 with
  | true => exact va_putF (D := D) (ci := ci) (v := v) (ty := tyT.getD ci tyX0 kf) (C := (clT ci).1) (T := (clT ci).2.1) (N := (clT ci).2.2) C.1 C.2.1 hts hf.2.2.2 (tyT.getD ci tyX0) hw.2.2.1 hw.2.2.2 C.2.2.2.2.1 hK hP hD hS q0 he hf.1 kf hf.2.1 (hts _ hf.2.2.1) (fun _ h9 => h9) hfin (C.2.2.2.2.2.2.2.1.trans hin) hown (hw.2.2.1 kf hf.2.1) hn hfit hl9 hd (fun H1 locs1 hP1 hD1 hS1 => k p e R s m args below meth c H1 locs1 A la C hP1 hD1 hS1 hl)
  | false => exact va_put (D := D) (ci := ci) (v := v) (ty := tyT.getD ci tyX0 kf) (C := (clT ci).1) (T := (clT ci).2.1) (N := (clT ci).2.2) C.1 C.2.1 hts hf.2.2.2 (tyT.getD ci tyX0) hw.2.2.1 hw.2.2.2 C.2.2.2.2.1 hK hP hD hS q0 he hf.1 kf hf.2.1 (hts _ hf.2.2.1) (fun _ h9 => h9) hfin (hw.2.2.1 kf hf.2.1) hn hfit hl9 hd (fun H1 locs1 hP1 hD1 hS1 => k p e R s m args below meth c H1 locs1 A la C hP1 hD1 hS1 hl)
theorem GC.get {X : (Nat → Prop) → State → Prop} {l : Launch} {μ : MI} {d cells slots pc : Nat} {D : va_G} {cI cL : ClassId} {lv : List (Nat × Value)} {st : List Value} {ws : va_W} {Fi : FinT} {ci kf idx a : Nat} (q0 : Nat) {fs : List Value} {v : Value} (hf : fok μ.y.cls idx ci kf) (he : ws[q0]? = some (a, .inr (ci, fs))) (hv : fs[kf]? = some v) (hd : decode μ.b pc = .ok (.getfield idx, 3)) (k : GCF X l μ d D cI cL lv cells slots (pc + 3) (v :: st) ws Fi) : GCF X l μ d D cI cL lv cells slots pc (.ref a :: st) ws Fi := by
  intro p e R s m args below meth c H locs A la C hP hD hS hl
  exact va_get (D := D) (ci := ci) (v := v) (C := (clT ci).1) (T := (clT ci).2.1) (N := (clT ci).2.2) C.1 C.2.1 C.2.2.2.2.2.1 hf.2.2.2 C.2.2.2.2.1 C.2.2.2.2.2.2.2.2.1 hP q0 he hf.1 kf hf.2.1 (C.2.2.2.2.2.1 _ hf.2.2.1) (fun _ h9 => h9) hv hd (k p e R s m args below meth c H locs A la C hP hD hS hl)
theorem GC.iast {X : (Nat → Prop) → State → Prop} {l : Launch} {μ : MI} {d cells slots pc : Nat} {D : va_G} {cI cL : ClassId} {lv : List (Nat × Value)} {st : List Value} {ws : va_W} {Fi : FinT} {a n : Nat} (q0 : Nat) {f : Nat → Int32} {i x : Int32} (he : ws[q0]? = some (a, .inl (cI, n, .inl f))) (hi : vp_in i n) (hd : decode μ.b pc = .ok (.iastore, 1)) (k : GCF X l μ d D cI cL lv cells slots (pc + 1) st (ws.set q0 (a, .inl (cI, n, .inl (upd f i.toNatClampNeg x)))) Fi) : GCF X l μ d D cI cL lv cells slots pc (.int x :: .int i :: .ref a :: st) ws Fi := by
  intro p e R s m args below meth c H locs A la C hP hD hS hl
  exact va_iast C.1 C.2.1 C.2.2.2.2.2.2.2.2.1 hP hD hS q0 0 he rfl hi hd (fun H1 locs1 hP1 hD1 hS1 => k p e R s m args below meth c H1 locs1 A la C hP1 hD1 hS1 hl)
theorem GC.new {X : (Nat → Prop) → State → Prop} {l : Launch} {μ : MI} {d cells slots pc idx ci : Nat} {D : va_G} {cI cL : ClassId} {lv : List (Nat × Value)} {st : List Value} {ws : va_W} {Fi : FinT} (fs : List Value) (hci : ci < 12) (hcl : Cond.classLink μ.y.cls idx (clT ci).1 ∈ gt) (hinst : Cond.instantiable (clT ci).1 (clT ci).2.2 ∈ gt) (hini : Cond.initialized (clT ci).1 ∈ gt) (hfs : ∀ j, j < (clT ci).2.2 → defaultValue (tyT.getD ci tyX0 j) = vp_V fs j) (hd : decode μ.b pc = .ok (.new idx, 3)) (hc : cells + 1 ≤ μ.mc) (hs : slots + (clT ci).2.2 ≤ μ.ms) (k : ∀ q : Nat, GCF X l μ d D cI cL lv (cells + 1) (slots + (clT ci).2.2) (pc + 3) (.ref q :: st) (ws ++ [(q, .inr (ci, fs))]) Fi) : GCF X l μ d D cI cL lv cells slots pc st ws Fi := by
  intro p e R s m args below meth c H locs A la C hP hD hS hl
  have hts := C.2.2.2.2.2.1
  have hw := cl_lt ci hci
  obtain ⟨-, -, r3, r4⟩ := C.2.2.2.2.2.2.2.2.2.2.1
  exact va_new (D := D) (ci := ci) (fs := fs) (C := (clT ci).1) (T := (clT ci).2.1) (N := (clT ci).2.2) C.1 C.2.1 hts hw.2.1 (tyT.getD ci tyX0) hw.2.2.1 C.2.2.2.2.1 (hts _ hcl) (hts _ hinst) (hts _ hini) C.2.2.2.2.2.2.2.2.1 hP hD hS C.2.2.2.2.2.2.2.2.2.1 hw.1 hfs (by omega) (by omega) hd (fun q H1 hP1 hD1 hS1 => k q p e R s m args below meth c H1 locs A la C hP1 hD1 hS1 hl)
theorem GC.ret {X : (Nat → Prop) → State → Prop} {l : Launch} {μ : MI} {d cells slots pc : Nat} {D : va_G} {cI cL : ClassId} {lv : List (Nat × Value)} {ws : va_W} {Post : va_W → Prop} (hd : decode μ.b pc = .ok (.return_, 1)) (hr : μ.ret = none) (hc : cells ≤ μ.mc) (hs : slots ≤ μ.ms) (hp : Post ws) : GC X l μ d D cI cL lv cells slots pc [] ws Post := by
  intro p e R s m args below meth c H locs A la C hP hD hS hl
  refine W.widen hc hs ?_
  exact W.vret C.1 C.2.1 (C.2.2.1.trans hr) (fun t ht hW => ⟨⟨ws, rfl, hp, by rw [ht]; exact hP, hD⟩, hS.F ht⟩) hS.2.2 hd C.2.2.2.2.2.2.1
/-! calls: the callee's cells are the last ones -/
theorem ap_l {wr wc : va_W} {k : Nat} {q : Nat × va_E} (h : wr[k]? = some q) : (wr ++ wc)[k]? = some q := by
  rw [List.getElem?_append_left (List.getElem?_eq_some_iff.mp h).1]
  exact h
theorem ap_r {wr wc : va_W} {k : Nat} {q : Nat × va_E} (h : wc[k]? = some q) : (wr ++ wc)[wr.length + k]? = some q := by
  rw [List.getElem?_append_right (Nat.le_add_right _ _), Nat.add_sub_cancel_left]
  exact h
theorem joinL {A0 : Nat → Prop} {D : va_G} {cl : List vw_C} {wr wc w1 : va_W} {H H1 : Heap} (hP : va_P D cl (wr ++ wc) H) (hD : va_D A0 (wr ++ wc)) (hk : ∀ q : Nat, q < H.size → ¬ va_A wc H.size q → H1[q]? = H[q]?) (hF : ∀ q, va_A wc H.size q → A0 q) (hP1 : va_P D cl w1 H1) (hD1 : va_D (va_A wc H.size) w1) : va_P D cl (wr ++ w1) H1 ∧ va_D A0 (wr ++ w1) := by
  have apart : ∀ (k : Nat) (q : Nat × va_E), wr[k]? = some q → q.1 < H.size ∧ ¬ va_A wc H.size q.1 := by
    intro k q hq
    have hl := (hP k q (ap_l hq)).lt
    refine ⟨hl, fun h => ?_⟩
    rcases h with ⟨k2, e, h⟩ | h
    · have hij := hD.1 k (wr.length + k2) q (q.1, e) (ap_l hq) (ap_r h) rfl
      have := (List.getElem?_eq_some_iff.mp hq).1
      omega
    · omega
  refine ⟨va_P.app (fun k q hq => ?_) hP1, va_D.app ⟨fun i j x y hx hy e => hD.1 i j x y (ap_l hx) (ap_l hy) e, fun k q hq => hD.2 k q (ap_l hq)⟩ (hD1.weaken (fun k q _ h => hF q.1 h)) (fun i j x y hx hy hxy => ?_)⟩
  · obtain ⟨g1, g2⟩ := apart k q hq
    exact (hP k q (ap_l hq)).kept (hk q.1 g1 g2)
  · exact (apart i x hx).2 (by rw [hxy]; exact hD1.2 j y hy)
theorem MkPre.blind {D : va_G} {cI cL : ClassId} {sz : Nat} {as : List Value} {ws : va_W} : FrameBlind (va_Pc as (MkPre D cI cL sz ws)) := by
  intro a U g mk q
  obtain ⟨q0, q1, qP, qK, qD, qN⟩ := q
  exact ⟨q0, q1, qP, va_K.moved (u := U) (U := U.calling g mk a) (Vm.Alike.refl U.vm) qK, qD, NWq.same (u := U) (U := U.calling g mk a) rfl qN⟩
theorem MkPre.here {X : (Nat → Prop) → State → Prop} {μ : MI} {d : Nat} {p : Program} {R : Room} {s : State} {m : MethodId} {args : Array Value} {meth : Method} {c : Code} {A : Nat → Prop} {cI cL : ClassId} {D : va_G} {H : Heap} {wr wc : va_W} {as : List Value} (C : Cn X μ d p R s m args meth c A cI cL D) (hP : va_P D vwCl (wr ++ wc) H) (hD : va_D A (wr ++ wc)) : ∀ U : State, U.heap = H → s.WarmedH U.vm → va_Pc as (MkPre D cI cL H.size wc) as.toArray U := by
  intro U hU hW
  refine ⟨rfl, by rw [hU], by rw [hU]; exact fun k q hq => hP _ q (ap_r hq), va_K.moved hW.alike C.2.2.2.2.2.2.2.2.1, ⟨fun i j x y hx hy e => ?_, fun _ _ _ => trivial⟩, NWq.warm hW C.2.2.2.2.2.2.2.2.2.2.2.1⟩
  have := hD.1 _ _ x y (ap_r hx) (ap_r hy) e
  omega
theorem Cn.free {X : (Nat → Prop) → State → Prop} {μ : MI} {d : Nat} {p : Program} {R : Room} {s : State} {m : MethodId} {args : Array Value} {meth : Method} {c : Code} {A : Nat → Prop} {cI cL : ClassId} {D : va_G} {H : Heap} {locs : List Loc} {wr wc : va_W} (C : Cn X μ d p R s m args meth c A cI cL D) (hD : va_D A (wr ++ wc)) (hS : va_S A s.heap H locs) : ∀ q, va_A wc H.size q → A q := by
  intro q hq
  rcases hq with ⟨k, e, h⟩ | h
  · exact hD.2 _ _ (ap_r h)
  · exact C.2.2.2.2.2.2.2.2.2.1 q (Nat.le_trans hS.1 h)
/-- a constructor is called -/
theorem GC.call {X : (Nat → Prop) → State → Prop} {l : Launch} {μ μ' : MI} {d cells slots pc n idx h : Nat} {D : va_G} {cI cL : ClassId} {lv : List (Nat × Value)} {as st : List Value} {wr wc : va_W} {Fi : FinT} {P' : va_W → Prop} (ho : MOK μ' n) (hi : Cond.instanceMethod μ'.y ∈ gt) (hnm : μ'.y.name = "<init>") (hret : μ'.ret = none) (hl : Cond.methodLink μ.y.cls idx μ'.y ∈ gt ∨ ∃ host, ∀ U, NWq U → va_Nw (.methodLinkNest μ.y.cls idx μ'.y host) U) (hd : decode μ.b pc = .ok (.invokespecial idx, 3)) (hn : as.length = n) (hcat : (st.map fun v => v.category).sum ≤ 8) (hroom : cells + μ'.mc ≤ μ.mc ∧ slots + μ'.ms ≤ μ.ms) (hM : Mk l μ' d D cI cL (.ref h :: as) wc P') (k : ∀ w, P' w → GCF X l μ (d + 1) D cI cL lv (cells + μ'.mc) (slots + μ'.ms) (pc + 3) st (wr ++ w) Fi) : GCF X l μ (d + 1) D cI cL lv cells slots pc (as.reverse ++ .ref h :: st) (wr ++ wc) Fi := by
  intro p e R s m args below meth c H locs A la C hP hD hS hlv
  have hts := C.2.2.2.2.2.1
  obtain ⟨r1, r2, r3, r4⟩ := C.2.2.2.2.2.2.2.2.2.2.1
  have hF := C.free hD hS
  have hw : wsM μ' = Cond.code μ'.y μ'.b μ'.ml none :: gt := by unfold wsM; rw [hret]
  have hR : (rmM μ' d).frames + 1 ≤ R.frames ∧ 8 + (μ'.ml + 11) + (rmM μ' d).locals ≤ R.locals := by
    have := ho.2.2.2.2.1
    refine ⟨r1, ?_⟩
    show 8 + (μ'.ml + 11) + 64 * d ≤ R.locals
    omega
  have hrun : va_Run p l e R s m args below meth c H locs cells slots μ'.mc μ'.ms (F0 m pc la (as.reverse ++ .ref h :: st)) st (va_Qv P' (fun w t => va_P D vwCl w t.heap ∧ va_D (va_A wc H.size) w) (va_A wc H.size) (Value.ref h :: as).toArray) (va_A wc H.size) := by
    rcases hl with hl | ⟨host, hl⟩
    · exact va_runI (As := as) (rest := st) ⟨C.1, C.2.1, C.2.2.2.1, C.2.2.2.2.1, hts⟩ (hM H.size) (cwI n hts (GoodM ho) hw rfl rfl (hts _ ho.2.1) (hts _ hl) (hts _ hi) hnm ho.2.2.1 hR) ⟨MkPre.blind, MkPre.here C hP hD⟩ rfl hn hlv.1 rfl (lv_room hcat) hd ⟨Nat.le_trans hroom.1 r3, Nat.le_trans hroom.2 r4⟩
    · exact va_runIN (As := as) (rest := st) ⟨C.1, C.2.1, C.2.2.2.1, C.2.2.2.2.1, hts⟩ (hM H.size) ⟨va_cnB n hts (GoodM ho) hw rfl rfl (hl s C.2.2.2.2.2.2.2.2.2.2.2.1) (hts _ ho.2.1) ho.2.2.1 hR, hnm, hts _ hi⟩ ⟨MkPre.blind, MkPre.here C hP hD⟩ rfl hn hlv.1 rfl (lv_room hcat) hd ⟨Nat.le_trans hroom.1 r3, Nat.le_trans hroom.2 r4⟩
  refine va_callv hrun hS (fun q _ h => hF q h) hF (fun w t H1 locs1 ht hvm hw2 hB hz1 hk1 hS1 => ?_)
  obtain ⟨hP1, hD1⟩ := hB
  rw [ht] at hP1
  obtain ⟨hP2, hD2⟩ := joinL hP hD hk1 hF hP1 hD1
  exact k w hw2 p e R s m args below meth c H1 locs1 A la C hP2 hD2 hS1 hlv
/-- a static method is called -/
theorem GC.callS {X : (Nat → Prop) → State → Prop} {l : Launch} {μ μ' : MI} {d cells slots pc n idx : Nat} {D : va_G} {cI cL : ClassId} {lv : List (Nat × Value)} {as st : List Value} {wr wc : va_W} {Fi : FinT} {P' : va_W → Prop} (ho : MOS μ' n) (hl : Cond.methodLink μ.y.cls idx μ'.y ∈ gt) (hd : decode μ.b pc = .ok (.invokestatic idx, 3)) (hn : as.length = n) (hcat : (st.map fun v => v.category).sum ≤ 8) (hroom : cells + μ'.mc ≤ μ.mc ∧ slots + μ'.ms ≤ μ.ms) (hM : Mk l μ' d D cI cL as wc P') (k : ∀ w, P' w → GCF X l μ (d + 1) D cI cL lv (cells + μ'.mc) (slots + μ'.ms) (pc + 3) st (wr ++ w) Fi) : GCF X l μ (d + 1) D cI cL lv cells slots pc (as.reverse ++ st) (wr ++ wc) Fi := by
  intro p e R s m args below meth c H locs A la C hP hD hS hlv
  have hts := C.2.2.2.2.2.1
  obtain ⟨r1, r2, r3, r4⟩ := C.2.2.2.2.2.2.2.2.2.2.1
  have hF := C.free hD hS
  have hcb : CallB R s args μ.y.cls idx μ'.y μ'.b μ'.ml μ'.ret (wsM μ') (rmM μ' d) μ'.mc μ'.ms n := by
    obtain ⟨h1, h2, ⟨h3, h4, h5⟩, h6, h7, h8⟩ := id ho.1
    refine ⟨rfl, rfl, r1, ?_, pay_in hts (GoodM ho.1), List.mem_cons_self, hts _ h1, hts _ h2, ⟨h3, h4⟩, fun sig h => ?_, hts _ hl⟩
    · show 8 + (μ'.ml + 11) + 64 * d ≤ R.locals
      omega
    · rw [h] at h5
      exact (Option.some.inj h5).symm
  refine va_callv (va_runS (As := as) (rest := st) ⟨C.1, C.2.1, C.2.2.2.1, C.2.2.2.2.1, hts⟩ (hM H.size) ⟨hcb, hts _ ho.2⟩ ⟨MkPre.blind, MkPre.here C hP hD⟩ rfl hn hlv.1 rfl (lv_room hcat) hd ⟨Nat.le_trans hroom.1 r3, Nat.le_trans hroom.2 r4⟩) hS (fun q _ h => hF q h) hF (fun w t H1 locs1 ht hvm hw2 hB hz1 hk1 hS1 => ?_)
  obtain ⟨hP1, hD1⟩ := hB
  rw [ht] at hP1
  obtain ⟨hP2, hD2⟩ := joinL hP hD hk1 hF hP1 hD1
  exact k w hw2 p e R s m args below meth c H1 locs1 A la C hP2 hD2 hS1 hlv
