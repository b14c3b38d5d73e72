/-! the law itself: what it owes at its end; rules -/
def R_law : String := "EvenFindersLaw"
def lw_P (b : Addr) (xs : List Int32) (args : Array Value) (s : State) : Prop := args = #[.ref b] ∧ s.IntsAt b xs ∧ xs.length ≤ 4608 ∧ (Jvm.Cond.and given_1 narrow_1).before args s = true
def lw_Q (_ : Array Value) (s : State) (o : Outcome) (t : State) : Prop := o = .returned (some (.int 1)) ∧ Framed s o t [] 601024 7293033
def lw_Z (below : List Frame) (a : Array Value) (s : State) : State → Prop := fun t => ∃ o, t.status = .running ∧ Ended t below o ∧ lw_Q a s o t
theorem GC.astore {X : (Nat → Prop) → State → Prop} {l : Launch} {μ : MI} {d cells slots pc : Nat} {D : va_G} {cI cL : ClassId} {lv lv' : List (Nat × Value)} {st : List Value} {ws : va_W} {Fi : FinT} {k0 : Fin 4} {x : Nat} (hd : decode μ.b pc = .ok (.astore_n k0, 1)) (hn : (k0 : Nat) < μ.ml) (hl : ((k0 : Nat), Value.ref x) :: lv.filter (fun q => !(q.1 == (k0 : Nat)) && !(q.1 + 1 == (k0 : Nat) && q.2.category == 2)) = lv') (k : GCF X l μ d D cI cL lv' cells slots (pc + 1) st ws Fi) : GCF X l μ d D cI cL lv cells slots pc (.ref x :: st) ws Fi := by
  intro p e R s m args below meth c H locs A la C hP hD hS hl9
  exact lv_astore_n C.1 C.2.1 hd rfl hl9 hn hl (fun ls' h' => k p e R s m args below meth c H locs A ls' C hP hD hS h')
theorem GC.istoreW {X : (Nat → Prop) → State → Prop} {l : Launch} {μ : MI} {d cells slots pc : Nat} {D : va_G} {cI cL : ClassId} {lv lv' : List (Nat × Value)} {st : List Value} {ws : va_W} {Fi : FinT} {i : Nat} {x : Int32} (hd : decode μ.b pc = .ok (.istore i, 2)) (hn : i < μ.ml) (hl : (i, Value.int x) :: lv.filter (fun q => !(q.1 == i) && !(q.1 + 1 == i && q.2.category == 2)) = lv') (k : GCF X l μ d D cI cL lv' cells slots (pc + 2) st ws Fi) : GCF X l μ d D cI cL lv cells slots pc (.int x :: st) ws Fi := by
  intro p e R s m args below meth c H locs A la C hP hD hS hl9
  exact lv_istore C.1 C.2.1 hd hl9 hn hl (fun ls' h' => k p e R s m args below meth c H locs A ls' C hP hD hS h')
theorem arL : Cond.arrayClass .long ∈ gt := mg (k := 9) (i := 11) (by decide +kernel) rfl
theorem lcell (cA : ClassId) : vp_cell cA (1, .inr (.inl (fun j => if j = 0 then 0 else 0))) = arrV cA 1 (fun _ => defaultValue .long) := by
  show arrV cA 1 (fun j => .long (if j = 0 then 0 else 0)) = arrV cA 1 (fun _ => .long 0)
  congr 1
  funext j
  split <;> rfl
theorem GC.newl {X : (Nat → Prop) → State → Prop} {l : Launch} {μ : MI} {d cells slots pc : Nat} {D : va_G} {cI cL : ClassId} {lv : List (Nat × Value)} {st : List Value} {ws : va_W} {Fi : FinT} (hd : decode μ.b pc = .ok (.newarray .long, 2)) (hc : cells + 1 ≤ μ.mc) (hs : slots + 1 ≤ μ.ms) (k : ∀ q : Nat, GCF X l μ d D cI cL lv (cells + 1) (slots + 1) (pc + 2) (.ref q :: st) (ws ++ [(q, .inl (cL, 1, .inr (.inl (fun j => if j = 0 then 0 else 0))))]) Fi) : GCF X l μ d D cI cL lv cells slots pc (.int (nI 1) :: st) ws Fi := by
  intro p e R s m args below meth c H locs A la C hP hD hS hl
  have hts := C.2.2.2.2.2.1
  have hK := C.2.2.2.2.2.2.2.2.1
  obtain ⟨-, -, r3, r4⟩ := C.2.2.2.2.2.2.2.2.2.2.1
  have h0 : ¬ nI 1 < 0 := by decide
  refine va_newa (atype := .long) (ty := .long) (a0 := (1, .inr (.inl (fun j => if j = 0 then 0 else 0)))) (N' := 1) C.1 C.2.1 (hts _ arL) rfl hK hP hD hS C.2.2.2.2.2.2.2.2.2.1 lcell h0 (ix_nI (by omega)) ?_ (by omega) (by omega) hd (fun q cA H1 hK1 hP1 hD1 hS1 => ?_)
  · decide
  · have e1 : va_RA s cA .long := (hK1.2 2 (cA, .long) rfl).2
    have e2 : va_RA s cL .long := (hK.2 1 (cL, .long) rfl).2
    have e3 : cA = cL := Option.some.inj (e1.symm.trans e2)
    subst e3
    exact k q p e R s m args below meth c H1 locs A la C hP1 hD1 hS1 hl
/-! a constructor that needs the environment -/
def MkPreE (z : Zp) (ad adV : Nat → Nat) (D : va_G) (cI cL : ClassId) (sz : Nat) (ws : va_W) (U : State) : Prop := MkPre D cI cL sz ws U ∧ EV z ad adV (va_A ws sz) U U.heap
def MkE (z : Zp) (μ : MI) (d : Nat) (ad adV : Nat → Nat) (D : va_G) (cI cL : ClassId) (as : List Value) (ws : va_W) (Post : va_W → Prop) : Prop :=
  ∀ sz : Nat, Met z.1 μ.y (wsM μ) (rmM μ d) (va_Pc as (MkPreE z ad adV D cI cL sz ws)) (va_Qv Post (fun w t => va_P D vwCl w t.heap ∧ va_D (va_A ws sz) w) (va_A ws sz)) μ.mc μ.ms (va_A ws sz)
theorem MkE.of {z : Zp} {μ : MI} {n d : Nat} {ad adV : Nat → Nat} {D : va_G} {cI cL : ClassId} {as : List Value} {ws : va_W} {Post : va_W → Prop} (hst : z.1.stackTraces = false) (ho : MOK μ n) (hl : (lg_sl as).length ≤ μ.ml) (h : GC (EX z ad adV) z.1 μ d D cI cL (lv_args 0 as) 0 0 0 [] ws Post) : MkE z μ d ad adV D cI cL as ws Post := by
  intro sz
  refine Met.ofW (cc := μ.b) (maxL := μ.ml) (ret := μ.ret) ho.2.2.2.1 rfl ?_
  intro p e s m args below meth c s₁ B hml hv
  obtain ⟨rfl, ⟨hsz, hP, hK, hD0, hN⟩, hE⟩ := hv
  subst hsz
  have hts := atoms_spec (ws := wsM μ) B.pre
  have hown : s.vm.findClass μ.y.cls = some m.cls := findClass_of_methodNamed B.named
  have hx9 := noEx B (hts _ List.mem_cons_self)
  rw [lg_entry_eq]
  exact h p e _ s m _ below meth c s.heap [] (va_A ws s.heap.size) _ ⟨B.exec, B.bytes, B.returns, hml, hown, fun w hw => hts w (List.mem_cons_of_mem _ hw), B.notSynchronized, (name_of_methodNamed B.named B.method).1, hK, fun q hq => Or.inr hq, ⟨Nat.le_refl _, Nat.le_refl _, Nat.le_refl _, Nat.le_refl _⟩, hN, hx9, hE, hst⟩ hP hD0.self va_S.rf (lv_entry as hl)
theorem MkPreE.blind {z : Zp} {ad adV : Nat → Nat} {D : va_G} {cI cL : ClassId} {sz : Nat} {as : List Value} {ws : va_W} : FrameBlind (va_Pc as (MkPreE z ad adV D cI cL sz ws)) := by
  intro a U g mk q
  obtain ⟨q0, ⟨q1, qP, qK, qD, qN⟩, qE⟩ := q
  exact ⟨q0, ⟨q1, qP, va_K.moved (u := U) (U := U.calling g mk a) (Vm.Alike.refl U.vm) qK, qD, NWq.same (u := U) (U := U.calling g mk a) rfl qN⟩, EV.same (u := U) (U := U.calling g mk a) rfl qE⟩
theorem MkPreE.here {z : Zp} {ad adV : Nat → Nat} {μ : MI} {d : Nat} {p : Program} {R : Room} {s : State} {m : MethodId} {args : Array Value} {meth : Method} {c : Code} {A : Nat → Prop} {cI cL : ClassId} {D : va_G} {H : Heap} {locs : List Loc} {wr wc : va_W} {as : List Value} (C : Cn (EX z ad adV) μ d p R s m args meth c A cI cL D) (hP : va_P D vwCl (wr ++ wc) H) (hD : va_D A (wr ++ wc)) (hS : va_S A s.heap H locs) : ∀ U : State, U.heap = H → s.WarmedH U.vm → va_Pc as (MkPreE z ad adV D cI cL H.size wc) as.toArray U := by
  intro U hU hW
  obtain ⟨g1, g2⟩ := MkPre.here (as := as) C hP hD U hU hW
  refine ⟨g1, g2, ?_⟩
  rw [hU]
  have hE : EV z ad adV A s s.heap := C.2.2.2.2.2.2.2.2.2.2.2.2.2.1
  exact EV.warm hW ((hE.kept hS.2.1 hS.1).narrow (C.free hD hS))
theorem GC.callE {z : Zp} {ad adV : Nat → Nat} {μ μ' : MI} {d cells slots pc n idx h : Nat} {D : va_G} {cI cL : ClassId} {lv : List (Nat × Value)} {as st : List Value} {wr wc : va_W} {Fi : FinT} {P' : va_W → Prop} (ho : MOK μ' n) (hi : Cond.instanceMethod μ'.y ∈ gt) (hnm : μ'.y.name = "<init>") (hret : μ'.ret = none) (hl : Cond.methodLink μ.y.cls idx μ'.y ∈ gt) (hd : decode μ.b pc = .ok (.invokespecial idx, 3)) (hn : as.length = n) (hcat : (st.map fun v => v.category).sum ≤ 8) (hroom : cells + μ'.mc ≤ μ.mc ∧ slots + μ'.ms ≤ μ.ms) (hM : MkE z μ' d ad adV D cI cL (.ref h :: as) wc P') (k : ∀ w, P' w → GCF (EX z ad adV) z.1 μ (d + 1) D cI cL lv (cells + μ'.mc) (slots + μ'.ms) (pc + 3) st (wr ++ w) Fi) : GCF (EX z ad adV) z.1 μ (d + 1) D cI cL lv cells slots pc (as.reverse ++ .ref h :: st) (wr ++ wc) Fi := by
  intro p e R s m args below meth c H locs A la C hP hD hS hlv
  have hts := C.2.2.2.2.2.1
  obtain ⟨r1, r2, r3, r4⟩ := C.2.2.2.2.2.2.2.2.2.2.1
  have hF := C.free hD hS
  have hw : wsM μ' = Cond.code μ'.y μ'.b μ'.ml none :: gt := by unfold wsM; rw [hret]
  have hR : (rmM μ' d).frames + 1 ≤ R.frames ∧ 8 + (μ'.ml + 11) + (rmM μ' d).locals ≤ R.locals := by
    have := ho.2.2.2.2.1
    refine ⟨r1, ?_⟩
    show 8 + (μ'.ml + 11) + 64 * d ≤ R.locals
    omega
  have hrun : va_Run p z.1 e R s m args below meth c H locs cells slots μ'.mc μ'.ms (F0 m pc la (as.reverse ++ .ref h :: st)) st (va_Qv P' (fun w t => va_P D vwCl w t.heap ∧ va_D (va_A wc H.size) w) (va_A wc H.size) (Value.ref h :: as).toArray) (va_A wc H.size) :=
    va_runI (As := as) (rest := st) ⟨C.1, C.2.1, C.2.2.2.1, C.2.2.2.2.1, hts⟩ (hM H.size) (cwI n hts (GoodM ho) hw rfl rfl (hts _ ho.2.1) (hts _ hl) (hts _ hi) hnm ho.2.2.1 hR) ⟨MkPreE.blind, MkPreE.here C hP hD hS⟩ rfl hn hlv.1 rfl (lv_room hcat) hd ⟨Nat.le_trans hroom.1 r3, Nat.le_trans hroom.2 r4⟩
  refine va_callv hrun hS (fun q _ h => hF q h) hF (fun w t H1 locs1 ht hvm hw2 hB hz1 hk1 hS1 => ?_)
  obtain ⟨hP1, hD1⟩ := hB
  rw [ht] at hP1
  obtain ⟨hP2, hD2⟩ := joinL hP hD hk1 hF hP1 hD1
  exact k w hw2 p e R s m args below meth c H1 locs1 A la C hP2 hD2 hS1 hlv
/-! from making to the loop -/
def FinL : FinT := fun below args s A t => (∀ q, A q → s.heap.size ≤ q) → lw_Z below args s t
