theorem cl_13 : Cond.classLink "EvenFindersLaw" 13 "java/lang/IllegalArgumentException" ∈ gt := mg (k := 2) (i := 207) (by decide +kernel) rfl
theorem cl_31 : Cond.classLink "EvenFindersLaw" 31 "java/util/NoSuchElementException" ∈ gt := mg (k := 4) (i := 175) (by decide +kernel) rfl
/-! methods with a table of handlers: the law's helpers -/
def wsH (μ : MI) : List Cond := .codeWith μ.y μ.b μ.ml μ.ret μ.hh :: gt
def GH (z : Zp) (μ : MI) (d : Nat) (as : List Value) (M : Mem) (Q : Rs → Prop) : Prop :=
  z.1.stackTraces = false → ∀ (ad adV : Nat → Nat) (cI cL : ClassId) (D : va_G) (sz : Nat), vx_Met z.1 μ.y (wsH μ) (rmM μ d) (va_Pc (as.map (rv ad)) (PreW z ad adV cI cL D sz M)) (QcW (oW z) ad cI cL D (va_A (wld (oW z) ad cI cL M) sz) Q) (XcW (oW z) ad cI cL D (va_A (wld (oW z) ad cI cL M) sz) Q) μ.mc μ.ms (va_A (wld (oW z) ad cI cL M) sz)
def MOH (μ : MI) (n : Nat) : Prop := Cond.codeWith μ.y μ.b μ.ml μ.ret μ.hh ∈ gt ∧ Cond.initialized μ.y.cls ∈ gt ∧ (μ.y.cls ≠ "java/lang/invoke/MethodHandle" ∧ μ.y.cls ≠ "java/lang/invoke/VarHandle" ∧ (parseMethodDescriptor μ.y.desc).map (fun d => d.parameters.length) = some n) ∧ plainName μ.y.cls = true ∧ μ.ml ≤ 40 ∧ Cond.static μ.y ∈ gt
theorem GH.of {z : Zp} {μ : MI} {n d : Nat} {as : List Value} {M : Mem} {Q : Rs → Prop} (ho : MOH μ n) (hl : (lg_sl as).length ≤ μ.ml) (h : G z μ d 0 0 0 (ent as μ.ml) [] M Q) : GH z μ d as M Q := by
  intro hz ad adV cI cL D sz
  refine vx_ofWH (cc := μ.b) (maxL := μ.ml) (ret := μ.ret) (hh := μ.hh) ho.2.2.2.1 rfl ?_
  intro p e s m args below meth c s₁ B hml hv
  obtain ⟨rfl, hsz, hP, hK, hD0, hE⟩ := hv
  subst hsz
  have hts := atoms_spec (ws := wsH μ) B.pre
  have hown : s.vm.findClass μ.y.cls = some m.cls := findClass_of_methodNamed B.named
  rw [lg_entry_eq]
  exact h p e _ s m _ below meth c s.heap [] (va_A (wld (oW z) ad cI cL M) s.heap.size) ad adV cI cL D _ ⟨B.exec, B.bytes, B.returns, hml, hown, fun w hw => hts w (List.mem_cons_of_mem _ hw), B.notSynchronized, vx_table (x := μ.y) B (hts _ List.mem_cons_self), hK, fun q hq => Or.inr hq, hE, ⟨Nat.le_refl _, Nat.le_refl _, Nat.le_refl _, Nat.le_refl _⟩, hz⟩ hP hD0.self va_S.rf (LR.entry ad as μ.ml hl)
theorem LR.keep {ad : Nat → Nat} {n i : Nat} {ls : Lo} {a a' : Array Slot} {v : Value} (h : LR ad n ls a) (hn : lget ls i = none) (hc : cut2 ls i = ls) (g : lv_has a' n ((i, v) :: (lA ad ls).filter (fun q => !(q.1 == i) && !(q.1 + 1 == i && q.2.category == 2)))) : LR ad n ls a' := by
  refine ⟨h.1, g.1, g.2.1, fun j w hj => ?_⟩
  have e : ¬ j = i := by
    intro e
    rw [e, hn] at hj
    cases hj
  have h0 : lget (cut2 ls i) j = some w := by rw [hc]; exact hj
  obtain ⟨h1, h2⟩ := lget_cut h0
  refine g.2.2 (j, rv ad w) (List.mem_cons_of_mem _ (List.mem_filter.mpr ⟨lA_mem h1, ?_⟩))
  simp only [rv_cat, Bool.and_eq_true, Bool.not_eq_true', beq_eq_false_iff_ne, ne_eq, Bool.and_eq_false_iff]
  refine ⟨e, ?_⟩
  by_cases q : j + 1 = i
  · exact Or.inr (fun c => h2 ⟨q, c⟩)
  · exact Or.inl q
abbrev iaeN : String := "java/lang/IllegalArgumentException"
/-- which handler takes E at pc -/
def HW (μ : MI) (pc : Nat) (E : String) (h : Nat) : Prop :=
  (E = iaeN ∧ ∃ a b, μ.hh = [(a, b, h, 13)] ∧ a ≤ pc ∧ pc < b) ∨ (E = nsN ∧ ∃ a b t, μ.hh = (a, b, h, 31) :: t ∧ a ≤ pc ∧ pc < b) ∨ (E = iaeN ∧ ∃ a b a' b' h', μ.hh = [(a, b, h', 31), (a', b', h, 13)] ∧ a ≤ pc ∧ pc < b ∧ a' ≤ pc ∧ pc < b')
theorem cx_cast {E : String} {e : Env} {l : Launch} {s : State} {m : MethodId} {own : String} {ct : Nat} {ce : Cell} {args : Array Value} (hown : s.vm.findClass own = some m.cls) (he : l.admits e) (hlink : (Cond.classLink own ct E).before args s = true) (hcast : va_Nw (.castable E E) s) (hcl : s.vm.findClass E = some ce.cls) : ∃ k, s.vm.ClassLinks e.platform m.cls ct k ∧ s.vm.assignable ce.cls k = true := by
  have hpl : e.platform.magicAccessors = ({} : Platform).magicAccessors := by rw [he.platform]
  obtain ⟨c3, c4, hc3, hc4, hasg⟩ := Cond.castable_spec (va_Nw.use (A := args) rfl hcast)
  obtain ⟨c5, hc5, hcl5⟩ := Cond.classLink_spec hown hlink e.platform hpl
  cases Option.some.inj (hc3.symm.trans hcl)
  cases Option.some.inj (hc4.symm.trans hc5)
  exact ⟨_, hcl5, hasg⟩
theorem cx_pass {E T : String} {e : Env} {l : Launch} {s : State} {m : MethodId} {own : String} {ct : Nat} {ce : Cell} {args : Array Value} (hown : s.vm.findClass own = some m.cls) (he : l.admits e) (hlink : (Cond.classLink own ct T).before args s = true) (hn : va_Nc E T s) (hcl : s.vm.findClass E = some ce.cls) : ∃ k, s.vm.ClassLinks e.platform m.cls ct k ∧ s.vm.assignable ce.cls k = false := by
  have hpl : e.platform.magicAccessors = ({} : Platform).magicAccessors := by rw [he.platform]
  obtain ⟨c5, hc5, hcl5⟩ := Cond.classLink_spec hown hlink e.platform hpl
  obtain ⟨a8, b8, h1, h2, h3⟩ := hn
  cases Option.some.inj (h1.symm.trans hcl)
  cases Option.some.inj (h2.symm.trans hc5)
  exact ⟨_, hcl5, h3⟩
theorem covers_of {a b h ct pc : Nat} (h1 : a ≤ pc) (h2 : pc < b) : covers (⟨a, b, h, ct⟩ : ExceptionTableEntry) pc = true := by
  simp [covers, h1, h2]
theorem HW.way {z : Zp} {μ : MI} {d pc h : Nat} {E : String} {p : Program} {R : Room} {s : State} {m : MethodId} {args : Array Value} {meth : Method} {c : Code} {A : Nat → Prop} {ad adV : Nat → Nat} {cI cL : ClassId} {D : va_G} {ce : Cell} (C : Cx z μ d p R s m args meth c A ad adV cI cL D) (ho : μ.y.cls = "EvenFindersLaw") (hw : HW μ pc E h) (hcl : s.vm.findClass E = some ce.cls) :
    ∀ e : Env, z.1.admits e → cx_way e s m.cls pc ce.cls c.exceptionTable.toList h := by
  intro e he
  obtain ⟨-, -, -, -, hown, hts, -, htab, -, -, hE, -, -⟩ := C
  rw [htab]
  rw [ho] at hown
  have l13 := hts _ cl_13
  have l31 := hts _ cl_31
  have nc := hE.2.2.2.2.2.2.2.2.1
  have cw := hE.2.2.2.2.2.2.2.2.2
  have c1 : va_Nw (.castable iaeN iaeN) s := cw _ (by simp [xw])
  have c2 : va_Nw (.castable nsN nsN) s := cw _ (by simp [xw, nsN])
  rcases hw with ⟨rfl, a, b, hh, h1, h2⟩ | ⟨rfl, a, b, t, hh, h1, h2⟩ | ⟨rfl, a, b, a', b', h', hh, h1, h2, h3, h4⟩
  · rw [hh]
    obtain ⟨k, k1, k2⟩ := cx_cast hown he l13 c1 hcl
    exact ⟨covers_of h1 h2, by show (13 : Nat) ≠ 0; decide, k, k1, Or.inl ⟨k2, rfl⟩⟩
  · rw [hh]
    obtain ⟨k, k1, k2⟩ := cx_cast hown he l31 c2 hcl
    exact ⟨covers_of h1 h2, by show (31 : Nat) ≠ 0; decide, k, k1, Or.inl ⟨k2, rfl⟩⟩
  · rw [hh]
    obtain ⟨k, k1, k2⟩ := cx_pass hown he l31 nc hcl
    obtain ⟨k', k1', k2'⟩ := cx_cast hown he l13 c1 hcl
    exact ⟨covers_of h1 h2, by show (31 : Nat) ≠ 0; decide, k, k1, Or.inr ⟨k2, covers_of h3 h4, by show (13 : Nat) ≠ 0; decide, k', k1', Or.inl ⟨k2', rfl⟩⟩⟩
/-- a call inside a helper: comes back, or its throw is caught and put away -/
theorem G.callC {z : Zp} {μ μ' : MI} {d cells slots pc n idx a ci : Nat} {fs : List (Option Nat)} {ls : Lo} {as rest : List Value} {M : Mem} {Q Q' : Rs → Prop} (hlaw : μ.y.cls = "EvenFindersLaw") (ho : MOV μ' n) (hl : Cond.methodLink μ.y.cls idx μ'.y ∈ gt) (hd : decode μ.b pc = .ok (.invokevirtual idx, 3)) (hn : as.length = n) (ha : shp[a]? = some (.inr (ci, fs))) (hc : vwCl[ci]? = some (clT ci) ∧ (clT ci).1 = μ'.y.cls) (hcat : (rest.map fun v => v.category).sum ≤ 8) (hroom : cells + μ'.mc ≤ μ.mc ∧ slots + μ'.ms ≤ μ.ms) (hM : GM z μ' d (.ref a :: as) M Q')
    (kr : ∀ (v : Option Value) (N : Mem), Q' (.inl (v, N)) → G z μ (d + 1) (cells + μ'.mc) (slots + μ'.ms) (pc + 3) ls (v.toList ++ rest) N Q)
    (kx : ∀ (E : String) (N : Mem), Q' (.inr (E, N)) → ∃ h i ln : Nat, HW μ pc E h ∧ ((∃ k0 : Fin 4, decode μ.b h = .ok (.astore_n k0, 1) ∧ (k0 : Nat) = i ∧ ln = 1) ∨ (decode μ.b h = .ok (.astore i, 2) ∧ ln = 2)) ∧ i < μ.ml ∧ lget ls i = none ∧ cut2 ls i = ls ∧ G z μ (d + 1) (cells + μ'.mc) (slots + μ'.ms) (h + ln) ls [] N Q) : G z μ (d + 1) cells slots pc ls (as.reverse ++ .ref a :: rest) M Q := by
  intro p e R s m args below meth c H locs A ad adV cI cL D la C hP hD hS hL
  have hcb := callB C ho.1 hl
  have hts := C.2.2.2.2.2.1
  have hrecv := va_recv (s := s) C.2.2.2.2.2.2.2.2.1 hP hc.1 (wld_get (shq_o ha))
  rw [hc.2] at hrecv
  have hr := vx_runV (p := p) (e := e) (below := below) (meth := meth) (locs := locs) (cells := cells) (slots := slots) (g := F0 m pc la ((as.reverse ++ .ref a :: rest).map (rv ad))) (rest := rest.map (rv ad)) ⟨C.1, C.2.1, C.2.2.2.1, C.2.2.2.2.1, hts⟩ (hM C.2.2.2.2.2.2.2.2.2.2.2.2 ad adV cI cL D H.size) ⟨hcb, hts _ ho.2.1, hts _ ho.2.2⟩ ⟨PreW_calls, hrecv, PreW_at C hP hD hS (.ref a :: as)⟩ rfl (by rw [List.length_map]; exact hn) hL.2.1 (by simp [rv]) (lv_room (by simpa [Function.comp_def, rv_cat] using hcat)) hd ⟨Nat.le_trans hroom.1 C.2.2.2.2.2.2.2.2.2.2.2.1.2.2.1, Nat.le_trans hroom.2 C.2.2.2.2.2.2.2.2.2.2.2.1.2.2.2⟩
  intro T hT X
  have hA : ∀ q, va_A (wld (oW z) ad cI cL M) H.size q → A q := fun q hq => wld_A hD (fun q h => C.2.2.2.2.2.2.2.2.2.1 q (Nat.le_trans hS.1 h)) hq
  rcases hr T hT X with ⟨v, st₀, t, T', L, h0, X', hLo, e1, e2, ⟨v', N, hv, hq, hP', hF⟩, go⟩ | ⟨q, st₀, t, T', L, E, ce, h0, X', hLo, e1, e2, ⟨N, hq, hP', hF⟩, hce, hcv, hcl, go⟩
  · cases hv
    obtain ⟨k1, k2, k3⟩ := vx_keep (free := va_A (wld (oW z) ad cI cL M) H.size) h0 e1 hS (fun q _ h => hA q h) hA hLo hF
    obtain ⟨t2, a1, b1⟩ := kr v' N hq p e R s m args below meth c T'.heap (locs ++ L) A ad adV cI cL D la C (by rw [e1]; exact hP') (wld_D hD) k3 hL T' rfl X'
    refine ⟨t2, go t2 ?_, b1⟩
    have e9 : (v'.map (rv ad)).toList ++ rest.map (rv ad) = (v'.toList ++ rest).map (rv ad) := by cases v' <;> simp
    rw [e9]
    exact a1
  · obtain ⟨k1, k2, k3⟩ := vx_keep (free := va_A (wld (oW z) ad cI cL M) H.size) h0 e1 hS (fun q _ h => hA q h) hA hLo hF
    obtain ⟨h, i, ln, hw, hst, him, hgi, hcut, hG⟩ := kx E N hq
    have kk : W p z.1 e R s m args below meth c T'.heap (locs ++ L) (cells + μ'.mc) (slots + μ'.ms) (vx_MQ below (QcW (oW z) ad cI cL D A Q) (XcW (oW z) ad cI cL D A Q) args s μ.mc μ.ms A) (F0 m h la [.ref q]) := by
      rcases hst with ⟨k0, hd0, hk0, rfl⟩ | ⟨hd0, rfl⟩
      · exact lv_astore_n C.1 C.2.1 hd0 hk0 hL.has him rfl (fun la2 h2 => hG p e R s m args below meth c T'.heap (locs ++ L) A ad adV cI cL D la2 C (by rw [e1]; exact hP') (wld_D hD) k3 (LR.keep hL hgi hcut h2))
      · exact lv_astore C.1 C.2.1 hd0 hL.has him rfl (fun la2 h2 => hG p e R s m args below meth c T'.heap (locs ++ L) A ad adV cI cL D la2 C (by rw [e1]; exact hP') (wld_D hD) k3 (LR.keep hL hgi hcut h2))
    obtain ⟨t2, a1, b1⟩ := cx_catch (ls := la) (rest := rest.map (rv ad)) (pc := pc) (HW.way C hlaw hw hcl) (by rw [e1]; exact hce) hcv hcl kk T' rfl X'
    exact ⟨t2, go.trans a1, b1⟩
/-- a call of a helper -/
theorem G.callSH {z : Zp} {μ μ' : MI} {d cells slots pc n idx : Nat} {ls : Lo} {as rest : List Value} {M : Mem} {Q Q' : Rs → Prop} (ho : MOH μ' n) (hl : Cond.methodLink μ.y.cls idx μ'.y ∈ gt) (hd : decode μ.b pc = .ok (.invokestatic idx, 3)) (hn : as.length = n) (hcat : (rest.map fun v => v.category).sum ≤ 8) (hh : μ.hh = []) (hroom : cells + μ'.mc ≤ μ.mc ∧ slots + μ'.ms ≤ μ.ms) (hM : GH z μ' d as M Q')
    (kr : ∀ (v : Option Value) (N : Mem), Q' (.inl (v, N)) → G z μ (d + 1) (cells + μ'.mc) (slots + μ'.ms) (pc + 3) ls (v.toList ++ rest) N Q) (kx : ∀ (E : String) (N : Mem), Q' (.inr (E, N)) → Q (.inr (E, N))) : G z μ (d + 1) cells slots pc ls (as.reverse ++ rest) M Q := by
  intro p e R s m args below meth c H locs A ad adV cI cL D la C hP hD hS hL
  have hts := C.2.2.2.2.2.1
  have hcb : vx_CSW R s args μ.y.cls idx μ'.y μ'.b μ'.ml μ'.ret μ'.hh (wsH μ') (rmM μ' d) μ'.mc μ'.ms n := by
    obtain ⟨r1, r2, r3, r4⟩ := C.2.2.2.2.2.2.2.2.2.2.2.1
    obtain ⟨h1, h2, ⟨h3, h4, h5⟩, h6, h7, h8⟩ := id ho
    refine ⟨⟨rfl, rfl, r1, ?_, pay_in hts (fun w hw => ?_), List.mem_cons_self⟩, hts _ h1, hts _ h2, ⟨h3, h4⟩, fun sig h => ?_, hts _ hl, hts _ h8⟩
    · show 8 + (μ'.ml + 11) + 64 * d ≤ R.locals
      omega
    · rcases List.mem_cons.mp hw with h | h
      · rw [h]; exact ⟨h1, gt_good _ h1⟩
      · exact ⟨h, gt_good _ h⟩
    · rw [h] at h5
      exact (Option.some.inj h5).symm
  refine G.back (a := (as.map (rv ad)).toArray) C hP hD hS hL hh hroom (vx_runSX (hh := μ'.hh) ⟨C.1, C.2.1, C.2.2.2.1, C.2.2.2.2.1, hts⟩ (hM C.2.2.2.2.2.2.2.2.2.2.2.2 ad adV cI cL D H.size) hcb ⟨PreW_calls, PreW_at C hP hD hS as⟩ rfl (by rw [List.length_map]; exact hn) hL.2.1 ?_ (lv_room (by simpa [Function.comp_def, rv_cat] using hcat)) hd ⟨Nat.le_trans hroom.1 C.2.2.2.2.2.2.2.2.2.2.2.1.2.2.1, Nat.le_trans hroom.2 C.2.2.2.2.2.2.2.2.2.2.2.1.2.2.2⟩) kr kx
  simp

theorem oL_town : MOH mL_town 3 := ⟨mg (k := 2) (i := 206) rfl rfl, mg (k := 1) (i := 0) (by decide +kernel) rfl, ⟨by decide +kernel, by decide +kernel, by decide +kernel⟩, by decide +kernel, by decide, mg (k := 2) (i := 205) (by decide +kernel) rfl⟩
theorem oL_law : MOH mL_law 3 := ⟨mg (k := 3) (i := 204) rfl rfl, mg (k := 1) (i := 0) (by decide +kernel) rfl, ⟨by decide +kernel, by decide +kernel, by decide +kernel⟩, by decide +kernel, by decide, mg (k := 3) (i := 203) (by decide +kernel) rfl⟩
theorem oL_work : MOH mL_work 3 := ⟨mg (k := 4) (i := 11) rfl rfl, mg (k := 1) (i := 0) (by decide +kernel) rfl, ⟨by decide +kernel, by decide +kernel, by decide +kernel⟩, by decide +kernel, by decide, mg (k := 4) (i := 10) (by decide +kernel) rfl⟩
theorem oL_book : MOH mL_book 3 := ⟨mg (k := 4) (i := 121) rfl rfl, mg (k := 1) (i := 0) (by decide +kernel) rfl, ⟨by decide +kernel, by decide +kernel, by decide +kernel⟩, by decide +kernel, by decide, mg (k := 4) (i := 120) (by decide +kernel) rfl⟩
theorem oL_told : MOH mL_told 3 := ⟨mg (k := 4) (i := 143) rfl rfl, mg (k := 1) (i := 0) (by decide +kernel) rfl, ⟨by decide +kernel, by decide +kernel, by decide +kernel⟩, by decide +kernel, by decide, mg (k := 4) (i := 142) (by decide +kernel) rfl⟩
theorem oL_place : MOH mL_place 4 := ⟨mg (k := 4) (i := 174) rfl rfl, mg (k := 1) (i := 0) (by decide +kernel) rfl, ⟨by decide +kernel, by decide +kernel, by decide +kernel⟩, by decide +kernel, by decide, mg (k := 4) (i := 173) (by decide +kernel) rfl⟩
theorem oL_road : MOH mL_road 4 := ⟨mg (k := 4) (i := 212) rfl rfl, mg (k := 1) (i := 0) (by decide +kernel) rfl, ⟨by decide +kernel, by decide +kernel, by decide +kernel⟩, by decide +kernel, by decide, mg (k := 4) (i := 211) (by decide +kernel) rfl⟩
theorem oL_thing : MOH mL_thing 4 := ⟨mg (k := 4) (i := 219) rfl rfl, mg (k := 1) (i := 0) (by decide +kernel) rfl, ⟨by decide +kernel, by decide +kernel, by decide +kernel⟩, by decide +kernel, by decide, mg (k := 4) (i := 218) (by decide +kernel) rfl⟩
theorem oL_finder : MOH mL_finder 4 := ⟨mg (k := 4) (i := 234) rfl rfl, mg (k := 1) (i := 0) (by decide +kernel) rfl, ⟨by decide +kernel, by decide +kernel, by decide +kernel⟩, by decide +kernel, by decide, mg (k := 4) (i := 233) (by decide +kernel) rfl⟩
theorem oL_duty : MOH mL_duty 4 := ⟨mg (k := 5) (i := 6) rfl rfl, mg (k := 1) (i := 0) (by decide +kernel) rfl, ⟨by decide +kernel, by decide +kernel, by decide +kernel⟩, by decide +kernel, by decide, mg (k := 5) (i := 5) (by decide +kernel) rfl⟩
theorem oL_would : MOH mL_would 10 := ⟨mg (k := 5) (i := 14) rfl rfl, mg (k := 1) (i := 0) (by decide +kernel) rfl, ⟨by decide +kernel, by decide +kernel, by decide +kernel⟩, by decide +kernel, by decide, mg (k := 5) (i := 13) (by decide +kernel) rfl⟩
theorem oL_can : MOH mL_can 4 := ⟨mg (k := 5) (i := 22) rfl rfl, mg (k := 1) (i := 0) (by decide +kernel) rfl, ⟨by decide +kernel, by decide +kernel, by decide +kernel⟩, by decide +kernel, by decide, mg (k := 5) (i := 21) (by decide +kernel) rfl⟩
theorem oL_ahead : MOH mL_ahead 4 := ⟨mg (k := 5) (i := 30) rfl rfl, mg (k := 1) (i := 0) (by decide +kernel) rfl, ⟨by decide +kernel, by decide +kernel, by decide +kernel⟩, by decide +kernel, by decide, mg (k := 5) (i := 29) (by decide +kernel) rfl⟩
theorem oL_far : MOH mL_far 4 := ⟨mg (k := 5) (i := 42) rfl rfl, mg (k := 1) (i := 0) (by decide +kernel) rfl, ⟨by decide +kernel, by decide +kernel, by decide +kernel⟩, by decide +kernel, by decide, mg (k := 5) (i := 41) (by decide +kernel) rfl⟩
theorem oL_round : MOH mL_round 3 := ⟨mg (k := 5) (i := 53) rfl rfl, mg (k := 1) (i := 0) (by decide +kernel) rfl, ⟨by decide +kernel, by decide +kernel, by decide +kernel⟩, by decide +kernel, by decide, mg (k := 5) (i := 52) (by decide +kernel) rfl⟩
theorem oL_meet : MOH mL_meet 3 := ⟨mg (k := 5) (i := 77) rfl rfl, mg (k := 1) (i := 0) (by decide +kernel) rfl, ⟨by decide +kernel, by decide +kernel, by decide +kernel⟩, by decide +kernel, by decide, mg (k := 5) (i := 76) (by decide +kernel) rfl⟩
theorem oL_reach : MOH mL_reach 3 := ⟨mg (k := 5) (i := 93) rfl rfl, mg (k := 1) (i := 0) (by decide +kernel) rfl, ⟨by decide +kernel, by decide +kernel, by decide +kernel⟩, by decide +kernel, by decide, mg (k := 5) (i := 92) (by decide +kernel) rfl⟩
theorem oL_settle : MOH mL_settle 3 := ⟨mg (k := 5) (i := 108) rfl rfl, mg (k := 1) (i := 0) (by decide +kernel) rfl, ⟨by decide +kernel, by decide +kernel, by decide +kernel⟩, by decide +kernel, by decide, mg (k := 5) (i := 107) (by decide +kernel) rfl⟩
theorem oL_parts : MOH mL_parts 4 := ⟨mg (k := 5) (i := 120) rfl rfl, mg (k := 1) (i := 0) (by decide +kernel) rfl, ⟨by decide +kernel, by decide +kernel, by decide +kernel⟩, by decide +kernel, by decide, mg (k := 5) (i := 119) (by decide +kernel) rfl⟩
theorem oL_fits : MOH mL_fits 3 := ⟨mg (k := 5) (i := 131) rfl rfl, mg (k := 1) (i := 0) (by decide +kernel) rfl, ⟨by decide +kernel, by decide +kernel, by decide +kernel⟩, by decide +kernel, by decide, mg (k := 5) (i := 130) (by decide +kernel) rfl⟩
theorem oL_look : MOH mL_look 3 := ⟨mg (k := 5) (i := 152) rfl rfl, mg (k := 1) (i := 0) (by decide +kernel) rfl, ⟨by decide +kernel, by decide +kernel, by decide +kernel⟩, by decide +kernel, by decide, mg (k := 5) (i := 151) (by decide +kernel) rfl⟩
theorem oL_pins : MOH mL_pins 6 := ⟨mg (k := 5) (i := 171) rfl rfl, mg (k := 1) (i := 0) (by decide +kernel) rfl, ⟨by decide +kernel, by decide +kernel, by decide +kernel⟩, by decide +kernel, by decide, mg (k := 5) (i := 170) (by decide +kernel) rfl⟩
theorem oL_takes : MOH mL_takes 5 := ⟨mg (k := 5) (i := 187) rfl rfl, mg (k := 1) (i := 0) (by decide +kernel) rfl, ⟨by decide +kernel, by decide +kernel, by decide +kernel⟩, by decide +kernel, by decide, mg (k := 5) (i := 186) (by decide +kernel) rfl⟩
theorem oL_sixpence : MOH mL_sixpence 5 := ⟨mg (k := 5) (i := 211) rfl rfl, mg (k := 1) (i := 0) (by decide +kernel) rfl, ⟨by decide +kernel, by decide +kernel, by decide +kernel⟩, by decide +kernel, by decide, mg (k := 5) (i := 210) (by decide +kernel) rfl⟩
theorem oL_greatest : MOH mL_greatest 3 := ⟨mg (k := 5) (i := 227) rfl rfl, mg (k := 1) (i := 0) (by decide +kernel) rfl, ⟨by decide +kernel, by decide +kernel, by decide +kernel⟩, by decide +kernel, by decide, mg (k := 5) (i := 226) (by decide +kernel) rfl⟩
theorem oL_deepest : MOH mL_deepest 3 := ⟨mg (k := 5) (i := 238) rfl rfl, mg (k := 1) (i := 0) (by decide +kernel) rfl, ⟨by decide +kernel, by decide +kernel, by decide +kernel⟩, by decide +kernel, by decide, mg (k := 5) (i := 237) (by decide +kernel) rfl⟩
theorem oL_sound : MOH mL_sound 3 := ⟨mg (k := 6) (i := 9) rfl rfl, mg (k := 1) (i := 0) (by decide +kernel) rfl, ⟨by decide +kernel, by decide +kernel, by decide +kernel⟩, by decide +kernel, by decide, mg (k := 6) (i := 8) (by decide +kernel) rfl⟩
theorem oL_way : MOH mL_way 4 := ⟨mg (k := 6) (i := 16) rfl rfl, mg (k := 1) (i := 0) (by decide +kernel) rfl, ⟨by decide +kernel, by decide +kernel, by decide +kernel⟩, by decide +kernel, by decide, mg (k := 6) (i := 15) (by decide +kernel) rfl⟩
theorem oL_burden : MOH mL_burden 3 := ⟨mg (k := 6) (i := 24) rfl rfl, mg (k := 1) (i := 0) (by decide +kernel) rfl, ⟨by decide +kernel, by decide +kernel, by decide +kernel⟩, by decide +kernel, by decide, mg (k := 6) (i := 23) (by decide +kernel) rfl⟩
theorem oL_near : MOH mL_near 4 := ⟨mg (k := 6) (i := 32) rfl rfl, mg (k := 1) (i := 0) (by decide +kernel) rfl, ⟨by decide +kernel, by decide +kernel, by decide +kernel⟩, by decide +kernel, by decide, mg (k := 6) (i := 31) (by decide +kernel) rfl⟩
theorem oL_enough : MOH mL_enough 3 := ⟨mg (k := 6) (i := 43) rfl rfl, mg (k := 1) (i := 0) (by decide +kernel) rfl, ⟨by decide +kernel, by decide +kernel, by decide +kernel⟩, by decide +kernel, by decide, mg (k := 6) (i := 42) (by decide +kernel) rfl⟩
theorem oL_year : MOH mL_year 6 := ⟨mg (k := 6) (i := 54) rfl rfl, mg (k := 1) (i := 0) (by decide +kernel) rfl, ⟨by decide +kernel, by decide +kernel, by decide +kernel⟩, by decide +kernel, by decide, mg (k := 6) (i := 53) (by decide +kernel) rfl⟩
theorem oL_span : MOH mL_span 8 := ⟨mg (k := 6) (i := 80) rfl rfl, mg (k := 1) (i := 0) (by decide +kernel) rfl, ⟨by decide +kernel, by decide +kernel, by decide +kernel⟩, by decide +kernel, by decide, mg (k := 6) (i := 79) (by decide +kernel) rfl⟩
