/-! the reference is made -/
theorem GC.newiL {X : (Nat → Prop) → State → Prop} {l : Launch} {μ : MI} {d cells slots pc : Nat} {D : va_G} {cI cL : ClassId} {lv : List (Nat × Value)} {st : List Value} {we ws : va_W} {Fi : FinT} {n : Int32} (N : Nat) (hn : n = nI N) (hN : N < 10000) (hd : decode μ.b pc = .ok (.newarray .int, 2)) (hc : cells + 1 ≤ μ.mc) (hs : slots + N ≤ μ.ms) (k : ∀ q : Nat, GCF X l μ d D cI cL lv (cells + 1) (slots + N) (pc + 2) (.ref q :: st) (we ++ (ws ++ [(q, .inl (cI, N, .inl (fun _ => 0)))])) Fi) : GCF X l μ d D cI cL lv cells slots pc (.int n :: st) (we ++ ws) Fi := by
  refine GC.newi N hn hN hd hc hs (fun q => ?_)
  rw [List.append_assoc]
  exact k q
theorem GC.putL {X : (Nat → Prop) → State → Prop} {l : Launch} {μ : MI} {d cells slots pc : Nat} {D : va_G} {cI cL : ClassId} {lv : List (Nat × Value)} {st : List Value} {we ws : va_W} {Fi : FinT} {ci kf idx a : Nat} (q0 : Nat) {fs : List Value} {v : Value} (hci : ci < 12) (hf : fok μ.y.cls idx ci kf) (he : ws[q0]? = some (a, .inr (ci, fs))) (hin : μ.y.name = "<init>") (hown : ((clT ci).2.1 kf).1 = μ.y.cls) (hn : narrow (tyT.getD ci tyX0 kf) v = v) (hfit : fits (tyT.getD ci tyX0 kf) v = true) (hl9 : kf < fs.length) (hd : decode μ.b pc = .ok (.putfield idx, 3)) (k : GCF X l μ d D cI cL lv cells slots (pc + 3) st (we ++ ws.set q0 (a, .inr (ci, fs.set kf v))) Fi) : GCF X l μ d D cI cL lv cells slots pc (v :: .ref a :: st) (we ++ ws) Fi := by
  refine GC.put (we.length + q0) hci hf (ap_r he) hin hown hn hfit hl9 hd ?_
  rw [List.set_append_right _ _ (Nat.le_add_right _ _), Nat.add_sub_cancel_left]
  exact k
theorem EV.ext {z : Zp} {ad a adV : Nat → Nat} {A : Nat → Prop} {U : State} {H : Heap} (h : ∀ n, 1000 ≤ n → a n = ad n) (hE : EV z ad adV A U H) : EV z a adV A U H := by
  have e1 : (fun i => a (1000 + i)) = fun i => ad (1000 + i) := funext fun i => h _ (by omega)
  obtain ⟨h1, h2, h3, h4, h5, h6, ⟨h7, h8, h9⟩, ⟨h10, h13, h14⟩, h11, h12⟩ := hE
  refine ⟨h1, h2, fun i hi => ?_, ?_, ?_, ?_, ⟨?_, ?_, ?_⟩, ⟨h10, fun i hi => ?_, ?_⟩, h11, h12⟩
  · rw [h _ (by omega)]; exact h3 i hi
  · rw [e1]; exact h4
  · rw [h 2000 (by omega)]; exact h5
  · rw [h 2000 (by omega)]; exact h6
  · rw [h 3000 (by omega)]; exact h7
  · rw [h 3000 (by omega)]; exact h8
  · rw [h 3000 (by omega)]; exact h9
  · rw [h13 i hi, h _ (by omega)]
  · rw [h 5000 (by omega)]; exact h14
def EX (z : Zp) (ad adV : Nat → Nat) (A : Nat → Prop) (s : State) : Prop := EV z ad adV A s s.heap ∧ z.1.stackTraces = false
theorem GC.toG (z : Zp) {μ : MI} {d cells slots pc : Nat} {D : va_G} {cI cL : ClassId} {lv : List (Nat × Value)} {ad a adV : Nat → Nat} {M : Mem} {ls : Lo} {st : List Value} {Post : va_W → Prop} {Q : Rs → Prop} (hh : μ.hh = []) (hoz : oW z = false) (hQ : ∀ r, Q r → ∃ N, r = .inl (none, N) ∧ Post (wld false a cI cL N)) (hext : ∀ n, 1000 ≤ n → a n = ad n) (hLR : ∀ la, lv_has la μ.ml lv → LR a μ.ml ls la) (hG : G z μ d cells slots pc ls st M Q) : GC (EX z ad adV) z.1 μ d D cI cL lv cells slots pc (st.map (rv a)) (wld false a cI cL M) Post := by
  intro p e R s m args below meth c H locs A la C hP hD hS hl
  obtain ⟨c1, c2, c3, c4, c5, c6, c7, c8, c9, c10, c11, c12, c13, c14, c15⟩ := C
  have hE : EV z a adV A s s.heap := EV.ext hext c14
  have hP2 : va_P D vwCl (wld (oW z) a cI cL M) H := by rw [hoz]; exact hP
  have hD2 : va_D A (wld (oW z) a cI cL M) := by rw [hoz]; exact hD
  have w := hG p e R s m args below meth c H locs A a adV cI cL D la ⟨c1, c2, c3, c4, c5, c6, c7, by rw [hh]; exact c13, c9, c10, hE, c11, c15⟩ hP2 hD2 hS (hLR la hl)
  intro T hT X9
  obtain ⟨t, a1, o, b1, b2, b3⟩ := w T hT X9
  rcases b3 with ⟨⟨v, N, q1, q2, q3, q4⟩, L⟩ | ⟨q, e1, E, ce, L, ⟨N, x1, x2⟩, rest⟩
  · obtain ⟨N2, e2, hp⟩ := hQ _ q2
    cases e2
    rw [hoz] at q3
    exact ⟨t, a1, o, b1, b2, ⟨⟨wld false a cI cL N, q1, hp, q3, wld_D hD⟩, q4⟩, L⟩
  · obtain ⟨N2, e2, hp⟩ := hQ _ x1
    cases e2
def mX12_init : MI := (yX12_init, cX12_init, 1, none, 25, 8055, [])
theorem oX12_init : MOK mX12_init 0 := ⟨mg (k := 6) (i := 94) rfl rfl, mg (k := 1) (i := 13) (by decide +kernel) rfl, ⟨by decide +kernel, by decide +kernel, by decide +kernel⟩, by decide +kernel, by decide, rfl⟩
theorem iX12_init : Cond.instanceMethod yX12_init ∈ gt := mg (k := 6) (i := 93) (by decide +kernel) rfl
noncomputable def setM (M : Mem) : Mem := mrow (mrow (mrow (mrow (mrow (mrow (mrow M 54 ((k_sets (M.1 54) (M.1 57) (M.1 58) (M.1 59) (M.1 60) (M.1 61) (M.1 62) (M.1 71) (M.1 75) (M.1 76)).2.1)) 60 ((k_sets (M.1 54) (M.1 57) (M.1 58) (M.1 59) (M.1 60) (M.1 61) (M.1 62) (M.1 71) (M.1 75) (M.1 76)).2.2.1)) 61 ((k_sets (M.1 54) (M.1 57) (M.1 58) (M.1 59) (M.1 60) (M.1 61) (M.1 62) (M.1 71) (M.1 75) (M.1 76)).2.2.2.1)) 62 ((k_sets (M.1 54) (M.1 57) (M.1 58) (M.1 59) (M.1 60) (M.1 61) (M.1 62) (M.1 71) (M.1 75) (M.1 76)).2.2.2.2.1)) 71 ((k_sets (M.1 54) (M.1 57) (M.1 58) (M.1 59) (M.1 60) (M.1 61) (M.1 62) (M.1 71) (M.1 75) (M.1 76)).2.2.2.2.2.1)) 75 ((k_sets (M.1 54) (M.1 57) (M.1 58) (M.1 59) (M.1 60) (M.1 61) (M.1 62) (M.1 71) (M.1 75) (M.1 76)).2.2.2.2.2.2.1)) 76 ((k_sets (M.1 54) (M.1 57) (M.1 58) (M.1 59) (M.1 60) (M.1 61) (M.1 62) (M.1 71) (M.1 75) (M.1 76)).2.2.2.2.2.2.2)
noncomputable def clrM (M : Mem) : Mem := mrow M 54 ((k_clears (M.1 54)).2)
noncomputable def memF (f30 f32 : Nat → Int32) : Mem := setM (clrM (mem0 f30 f32))
theorem cl54 (f30 f32 : Nat → Int32) : (clrM (mem0 f30 f32)).1 54 = upd (upd (upd (upd (upd (fun _ => 0) 8 (-1)) 16 (nI 0)) 17 (nI 0)) 18 (nI 0)) 19 (nI 0) := by
  unfold clrM
  rw [mrow_hit]
  rfl
theorem set_ok (f30 f32 : Nat → Int32) : k_sets_ok ((clrM (mem0 f30 f32)).1 54) ((clrM (mem0 f30 f32)).1 57) ((clrM (mem0 f30 f32)).1 58) ((clrM (mem0 f30 f32)).1 59) ((clrM (mem0 f30 f32)).1 60) ((clrM (mem0 f30 f32)).1 61) ((clrM (mem0 f30 f32)).1 62) ((clrM (mem0 f30 f32)).1 71) ((clrM (mem0 f30 f32)).1 75) ((clrM (mem0 f30 f32)).1 76) := by
  generalize (clrM (mem0 f30 f32)).1 57 = a57
  generalize (clrM (mem0 f30 f32)).1 58 = a58
  generalize (clrM (mem0 f30 f32)).1 59 = a59
  generalize (clrM (mem0 f30 f32)).1 60 = a60
  generalize (clrM (mem0 f30 f32)).1 61 = a61
  generalize (clrM (mem0 f30 f32)).1 62 = a62
  generalize (clrM (mem0 f30 f32)).1 71 = a71
  generalize (clrM (mem0 f30 f32)).1 75 = a75
  generalize (clrM (mem0 f30 f32)).1 76 = a76
  rw [cl54]
  obtain ⟨m, hm⟩ : ∃ m : Nat → Int32, m = upd (upd (upd (upd (upd (fun _ => 0) 8 (-1)) 16 (nI 0)) 17 (nI 0)) 18 (nI 0)) 19 (nI 0) := ⟨_, rfl⟩
  rw [← hm]
  have q16 : m 16 = nI 0 := by rw [hm, pk_un (by decide), pk_un (by decide), pk_un (by decide), pk_us]
  have q17 : m 17 = nI 0 := by rw [hm, pk_un (by decide), pk_un (by decide), pk_us]
  have q18 : m 18 = nI 0 := by rw [hm, pk_un (by decide), pk_us]
  have q19 : m 19 = nI 0 := by rw [hm, pk_us]
  have i0 : ix (nI 0) = 0 := pu_ix (by omega)
  have j0 : isN (nI 0) := pu_isN (by omega)
  have y1 : ∀ i, i < cN 36 → i < 36 := fun i hi => by rw [cN_eq] at hi; exact hi
  have y2 : ∀ i, i < cN 30 → i < 30 := fun i hi => by rw [cN_eq] at hi; exact hi
  have fr := (new_FR (np := 0) (nr := 0) (A := a57) (B := a57) (L := a57) (RO := k_copies_L36_L36_3 a57 a60 (cN 36) (cN 36)) a57 a76 (by omega) (by omega) (fun r hr => absurd hr (Nat.not_lt_zero r))).2.2
  simp only [k_sets_ok, k_copies_L36_L36, k_copies_L30_L30, k_copies_L6_L6, k_copies_L36_L36_ok, k_copies_L30_L30_ok, k_copies_L6_L6_ok, k_copies_L36_L36_3_ok, k_copies_L30_L30_3_ok, k_copies_L6_L6_3_ok, q16, q17, q18, q19, i0, j0, fr, Nat.zero_le, and_true, true_and]
  refine ⟨?_, ?_, ?_⟩
  all_goals intro i hi
  all_goals first | (have := y1 i hi; simp only [this, and_self]; done) | (have := y2 i hi; simp only [this, and_self]; done) | (simp only [hi, and_self]; done) | (have := y1 i hi; exact ⟨this, this⟩) | (have := y2 i hi; exact ⟨this, this⟩) | exact ⟨hi, hi⟩
