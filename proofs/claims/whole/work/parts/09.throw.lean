/-! a throw of the method's own; a callee's throw that the caller catches (its table's rows name classes; the tables warm on the way) -/
theorem cx_ask {e : Env} {f : JFrame} {a : Addr} {Q : Handler → Pre} {E : CtlPost} {d : Bool} {acts : List Action} {S : State} {x : ExceptionTableEntry} {t : List ExceptionTableEntry} {k : ClassId} {cell : Cell} (hx : covers x f.pc = true) (h0 : x.catchType ≠ 0)
    (hl : S.vm.ClassLinks e.platform f.method.cls x.catchType k) (hc : S.heap[a]? = some cell) (ho : ∀ i, cell.vm ≠ .statics i) (hk : ∃ q, S.vm.classes[cell.cls]? = some q) (ht : ∃ q, S.vm.classes[k]? = some q) (b : Bool) (hb : S.vm.assignable cell.cls k = b) :
    wp (findHandler.go f a (x :: t)) Q E e d acts S ↔ (if b = true then Q (.found x.handlerPc) d acts (S.setVm (S.vm.noted f.method.cls x.catchType (.cls k))) else wp (findHandler.go f a t) Q E e d acts (S.setVm (S.vm.noted f.method.cls x.catchType (.cls k)))) := by
  simp only [covers] at hx
  obtain ⟨q1, q2⟩ := (resolveClass_links e.toSetting hl).op (op := VmOp.resolveClass f.method.cls x.catchType) rfl
  have al : S.vm.Alike (S.vm.noted f.method.cls x.catchType (.cls k)) := (Vm.Alike.refl S.vm).noted _ _ _
  obtain ⟨_, k1⟩ := hk
  obtain ⟨_, k2⟩ := ht
  obtain ⟨_, k1', -⟩ := al.2.2 _ _ k1
  obtain ⟨_, k2', -⟩ := al.2.2 _ _ k2
  have hb' : (S.vm.noted f.method.cls x.catchType (.cls k)).assignable cell.cls k = b := by rw [al.assignable]; exact hb
  cases b <;> simp [findHandler.go, hx, h0, q1, q2, hc, ho, k1', k2', hb', VmOp.dirties, VmOp.acts]
/-- how the rows go: each covers the pc and names a linked class; all but the last don't take the object, the last does -/
def cx_way (e : Env) (s : State) (dc : ClassId) (pc : Nat) (th : ClassId) : List ExceptionTableEntry → Nat → Prop
  | [], _ => False
  | x :: t, h => covers x pc = true ∧ x.catchType ≠ 0 ∧ ∃ k, s.vm.ClassLinks e.platform dc x.catchType k ∧ ((s.vm.assignable th k = true ∧ h = x.handlerPc) ∨ (s.vm.assignable th k = false ∧ cx_way e s dc pc th t h))
theorem cx_find {e : Env} {s : State} {f : JFrame} {a : Addr} {cell : Cell} {h : Nat} (ho : ∀ i, cell.vm ≠ .statics i) (hk : ∃ q, s.vm.classes[cell.cls]? = some q) : ∀ (t : List ExceptionTableEntry) (S : State), cx_way e s f.method.cls f.pc cell.cls t h → s.WarmedH S.vm → S.heap[a]? = some cell →
    ∃ v, s.WarmedH v ∧ ∀ (Q : Handler → Pre) (E : CtlPost) (d : Bool) (acts : List Action), wp (findHandler.go f a t) Q E e d acts S ↔ Q (.found h) d acts (S.setVm v)
  | [], S, hw, _, _ => hw.elim
  | x :: t, S, ⟨h1, h2, k, h3, h4⟩, hW, hc => by
    obtain ⟨q0, hq0⟩ := hk
    obtain ⟨_, hq0', -⟩ := hW.alike.2.2 _ _ hq0
    obtain ⟨dk, _, _, kt, hd, _, _, _, _, hkt, _, hopen⟩ := h3.here
    obtain ⟨_, hkt', -⟩ := hW.alike.2.2 _ _ hkt
    have hW' := hW.noted hd hopen (State.rightAt_cls h3)
    rcases h4 with ⟨h5, h6⟩ | ⟨h5, h6⟩
    · refine ⟨_, hW', fun Q E d acts => ?_⟩
      rw [cx_ask h1 h2 (hW.classLinks h3) hc ho ⟨_, hq0'⟩ ⟨_, hkt'⟩ true (by rw [hW.alike.assignable]; exact h5), if_pos rfl, h6]
    · obtain ⟨v, hv, hq⟩ := cx_find ho ⟨q0, hq0⟩ t (S.setVm (S.vm.noted f.method.cls x.catchType (.cls k))) h6 hW' hc
      refine ⟨v, hv, fun Q E d acts => ?_⟩
      rw [cx_ask h1 h2 (hW.classLinks h3) hc ho ⟨_, hq0'⟩ ⟨_, hkt'⟩ false (by rw [hW.alike.assignable]; exact h5), if_neg (by decide)]
      exact hq Q E d acts
theorem cx_step {tb : Tables} {e : Env} {s target : State} {g : JFrame} {c : Code} {below : List Frame} {a : Addr} {pc : Nat} {v : Vm} (h : At s g.method c below)
    (hf : ∀ (Q : Handler → Pre) (E : CtlPost) (d : Bool) (acts : List Action), wp (findHandler g a) Q E e d acts ((s.setTop g).pushFrame (.throwing a)) ↔ Q (.found pc) d acts (((s.setTop g).pushFrame (.throwing a)).setVm v))
    (hr : Steps tb e below ((s.setVm v).setTop { g with pc := pc, stack := [.ref a] }) target) : Steps tb e below ((s.setTop g).pushFrame (.throwing a)) target := by
  obtain ⟨hgo, hw⟩ := h.throwing a
  refine Steps.head hgo hw ?_
  obtain ⟨g₀, hg⟩ := Option.isSome_iff_exists.mp h.top
  obtain ⟨r, hr0⟩ := State.topJava?_eq_some.mp hg
  have hr1 : (s.setVm v).frames = .java g₀ :: r := hr0
  have key : ∀ (S : State) (rr : List Frame), (∀ (Q : Handler → Pre) (E : CtlPost) (d : Bool) (acts : List Action), wp (findHandler g a) Q E e d acts S ↔ Q (.found pc) d acts (S.setVm v)) → (stepThrowing e S a (.java g :: rr)).Is ((S.setVm v).setFrames (.java { g with pc := pc, stack := [.ref a] } :: rr)) [] := by
    intro S rr hS
    simp only [stepThrowing, searchFrame, vmDo]
    generalize hres : Sem.go _ e false [] S = res
    obtain ⟨as, rfl, ha⟩ := Sem.eq_ok_of hres (a := Handler.found pc) (s' := S.setVm v) (acts' := []) (by simp [hS _ _ _ _])
    exact ⟨rfl, ha⟩
  rw [stepThread_throwing (frames_entered h.top _), (key _ _ hf).1]
  rw [State.setTop_of_frames _ hr1] at hr
  have e1 : (((s.setTop g).pushFrame (.throwing a)).setVm v).setFrames (.java { g with pc := pc, stack := [.ref a] } :: s.frames.tail) = (s.setVm v).setFrames (.java { g with pc := pc, stack := [.ref a] } :: r) := by
    rw [hr0, List.tail_cons, State.pushFrame, State.setTop_of_frames _ hr0, State.setFrames_setFrames]
    have e2 : ∀ F, (s.setFrames F).setVm v = (s.setVm v).setFrames F := fun _ => rfl
    rw [e2, State.setFrames_setFrames]
  rw [e1]
  exact hr
/-- a callee's throw is caught -/
theorem cx_catch {p : Program} {l : Launch} {e : Env} {R : Room} {s : State} {m : MethodId} {args : Array Value} {below : List Frame} {meth : Method} {c : Code} {H : Heap} {locs : List Loc} {cells slots pc h : Nat} {Q : State → Prop} {ls : Array Slot} {rest : List Value} {E : String} {ce : Cell} {q : Addr}
    (hway : ∀ e : Env, l.admits e → cx_way e s m.cls pc ce.cls c.exceptionTable.toList h) (hcell : H[q]? = some ce) (hv : ce.vm = .none) (hcl : s.vm.findClass E = some ce.cls) (kk : W p l e R s m args below meth c H locs cells slots Q (F0 m h ls [.ref q])) : vx_W p l e R s m args below meth c H locs cells slots Q (F0 m pc ls rest) q := by
  intro T hT X
  have hk : ∃ k, s.vm.classes[ce.cls]? = some k := by obtain ⟨k9, h9, -⟩ := Vm.findClass_spec hcl; exact ⟨k9, h9⟩
  obtain ⟨v, hW, hq⟩ := cx_find (e := e) (s := s) (f := F0 m pc ls rest) (a := q) (cell := ce) (h := h) (by rw [hv]; intro i; exact fun x => by cases x) hk c.exceptionTable.toList ((T.setTop (F0 m pc ls rest)).pushFrame (.throwing q)) (hway e X.admits) X.warmed (by show T.heap[q]? = some ce; rw [hT]; exact hcell)
  obtain ⟨t, a1, b1⟩ := kk (T.setVm v) hT (X.noted hW)
  refine ⟨t, cx_step (g := F0 m pc ls rest) (v := v) X.here (fun Q9 E9 d9 acts9 => ?_) a1, b1⟩
  rw [W.findHandler_eq (meth := meth) (code := c) X.method' X.code]
  exact hq Q9 E9 d9 acts9
/-- 'throw new E("text")' of a method without a table -/
theorem G.throwSW {z : Zp} {μ : MI} {d cells slots pc ik is ic q : Nat} {ls : Lo} {M : Mem} {Q : Rs → Prop} {cls : String} {names : List String} (hcls : Bundle.fit cls = true) (hnames : ∀ n ∈ names, Bundle.fit n = true) (hk : Cond.classLink μ.y.cls ik cls ∈ gt) (hini : Cond.initialized cls ∈ gt)
    (hq : q < 25) (hso : sOwn.getD q "" = μ.y.cls) (hsi : sIdx.getD q 0 = is) (hat : ∀ w ∈ vx_atS μ.y.cls ic cls names, w ∈ gt ∨ w ∈ xw) (hgood : ∀ w ∈ Cond.classLink μ.y.cls ik cls :: Cond.initialized cls :: vx_atS μ.y.cls ic cls names, vx_ot w = true)
    (d0 : decode μ.b pc = .ok (.new ik, 3)) (d3 : decode μ.b (pc + 3) = .ok (.dup, 1)) (d4 : decode μ.b (pc + 4) = .ok (.ldc_w is, 3)) (d7 : decode μ.b (pc + 7) = .ok (.invokespecial ic, 3)) (d10 : decode μ.b (pc + 10) = .ok (.athrow, 1)) (hh : μ.hh = []) (hd : names.length + 4 ≤ d) (hc : cells + 1 ≤ μ.mc) (hs : slots + 6 ≤ μ.ms) (hQ : Q (.inr (cls, M))) : G z μ d cells slots pc ls [] M Q := by
  intro p e R s m args below meth c H locs A ad adV cI cL D la C hP hD hS hL
  obtain ⟨hx, hb, hr, hml, hown, hts, hlk, htb, hK, hA, hE, ⟨r1, r2, r3, r4⟩, hz⟩ := id C
  have hstr := hE.2.2.1 q hq
  rw [hso, hsi] at hstr
  exact vx_throwSW hx hb hz hown hcls hnames (hts _ hk) (hts _ hini) hstr (fun w hw => by rcases hat w hw with h | h; exact hts _ h; exact va_Nw.use (xw_ok w h).1 (hE.2.2.2.2.2.2.2.2.2 w h)) hgood hE.1 hE.2.1 hS (hL.2.1.trans hml.symm) d0 d3 d4 d7 d10 (fun x hx9 => by rw [htb, hh] at hx9; cases hx9) (by omega) (by simp only [List.map_nil, List.sum_nil]; omega) (by omega) (by omega) hlk
    (fun t _ hsz hkp => ⟨M, hQ, hP.kept (fun k q9 hq9 => hkp q9.1 (hP k q9 hq9).lt), ⟨Nat.le_trans hS.1 hsz, fun q9 h1 h2 => by rw [hkp q9 (Nat.lt_of_lt_of_le h1 hS.1)]; exact hS.2.1 q9 h1 h2⟩⟩) hS.2.2 hc hs
