/-! the law from its entry -/
def insW : List (Nat × Nat) := [(1, 163), (1, 214), (1, 237), (1, 142), (2, 37), (1, 36), (1, 72), (2, 21), (1, 181), (2, 67), (1, 28), (6, 91)]
theorem ins_ok : (List.range 12).all (fun c => decide ((tb (insW.getD c (0, 0)).1)[(insW.getD c (0, 0)).2]? = some (Cond.instantiable (clT c).1 (clT c).2.2)) && goodWord (Cond.instantiable (clT c).1 (clT c).2.2)) = true := by decide +kernel
theorem dD {s : State} {args : Array Value} (hts : ∀ w ∈ gt, w.before args s = true) : ∃ (D : va_G) (cI cL : ClassId), va_K D vwCl [(cI, .int), (cL, .long)] s := by
  have h0 : ∀ c : Nat, ∃ q : ClassId × (Nat → Nat), ∀ r : vw_C, vwCl[c]? = some r → u_Kn s r.1 r.2.1 r.2.2 q.1 q.2 := by
    intro c
    by_cases hc : c < 12
    · have hw := cl_lt c hc
      obtain ⟨i1, i2⟩ := (Bool.and_eq_true _ _).mp (List.all_eq_true.mp ins_ok c (List.mem_range.mpr hc))
      obtain ⟨cC, iS, h⟩ := u_known hts hw.2.1 (hts _ (mg (of_decide_eq_true i1) i2))
      refine ⟨(cC, iS), fun r hr => ?_⟩
      rw [hw.1] at hr
      cases hr
      exact h
    · refine ⟨(0, fun _ => 0), fun r hr => ?_⟩
      have := (List.getElem?_eq_some_iff.mp hr).1
      exact absurd this hc
  obtain ⟨f, hf⟩ := Classical.axiomOfChoice h0
  obtain ⟨cI, kI, mI, i1, i2, i3⟩ := Cond.arrayClass_spec (hts _ arI)
  obtain ⟨cL, kL, mL, l1, l2, l3⟩ := Cond.arrayClass_spec (hts _ arL)
  refine ⟨(fun c => (f c).1, fun c => (f c).2), cI, cL, fun c r hr => hf c r hr, fun k q hq => ?_⟩
  match k, hq with
  | 0, hq => cases hq; exact ⟨fun n z => ⟨fun k h => (by cases h), kI, i2, mI, i3⟩, i1⟩
  | 1, hq => cases hq; exact ⟨fun n z => ⟨fun k h => (by cases h), kL, l2, mL, l3⟩, l1⟩
  | k + 2, hq => cases hq
set_option maxRecDepth 20000 in
set_option maxHeartbeats 4000000 in
theorem law_gc (l : Launch) {L : Nat} (hL : L ≤ 4608) {xs ys : Nat → Int32} (e0 : ∀ j, j < L → ys j = xs j) (hx : oW (l, L, xs) = false) (hy : oW (l, L, ys) = true) (hst : l.stackTraces = false) (ad adV : Nat → Nat) (D : va_G) (cI cL : ClassId) (b : Nat) (hb : ad 3000 = b) : GCF (EX (l, L, xs) ad adV) l mLaw 100 D cI cL [(0, .ref b)] 0 0 0 [] [] FinL := by
  refine GC.new (idx := 8) (ci := 10) [.null, .null, .null, .null, .null, .null, .null, .null, .null, .null, .null, .null, .null, .null, .int 0, .int 0, .int 0] (by decide) (mg (k := 1) (i := 27) (by decide +kernel) rfl) (mg (k := 1) (i := 28) (by decide +kernel) rfl) (mg (k := 1) (i := 1) (by decide +kernel) rfl) (by decide +kernel) (by decide +kernel) (Nat.le_of_ble_eq_true rfl) (Nat.le_of_ble_eq_true rfl) (fun q0 => ?_)
  refine GC.dup (by decide +kernel) ?_
  refine GC.call (d := 99) (idx := 120) (as := []) (st := [.ref q0]) (wr := []) (wc := [(q0, .inr (10, [.null, .null, .null, .null, .null, .null, .null, .null, .null, .null, .null, .null, .null, .null, .int 0, .int 0, .int 0]))]) oX11_init iX11_init rfl rfl (Or.inl (mg (k := 1) (i := 29) (by decide +kernel) rfl)) (by decide +kernel) rfl (Nat.le_of_ble_eq_true rfl) ⟨Nat.le_of_ble_eq_true rfl, Nat.le_of_ble_eq_true rfl⟩ (mkEF l 96 D cI cL q0) (fun w hw => ?_)
  obtain ⟨a, f30, f32, ha, rfl⟩ := hw
  refine GC.astore (k0 := 1) (lv' := [(1, .ref q0), (0, .ref b)]) (by decide +kernel) (by decide) rfl ?_
  show GCF _ _ _ _ D cI cL _ _ _ _ [] (wldF a cI cL (mem0 f30 f32) 0 (shp.take 54)) _
  refine GC.new (idx := 121) (ci := 11) [.int 0, .null, .int 0, .int 0, .int 0, .int 0, .int 0, .int 0, .int 0, .null, .null, .null, .null, .null, .null, .null, .int 0, .int 0, .int 0, .int 0, .int 0, .int 0, .int 0, .int 0, .null, .null, .null, .null, .null, .int 0, .int 0, .null, .null, .null, .int 0, .int 0, .int 0, .int 0, .int 0, .int 0, .null, .null, .null, .null, .null, .int 0, .null, .null, .null, .int 0, .null, .int 0] (by decide) (mg (k := 6) (i := 90) (by decide +kernel) rfl) (mg (k := 6) (i := 91) (by decide +kernel) rfl) (mg (k := 1) (i := 13) (by decide +kernel) rfl) (by decide +kernel) (by decide +kernel) (Nat.le_of_ble_eq_true rfl) (Nat.le_of_ble_eq_true rfl) (fun q1 => ?_)
  refine GC.dup (by decide +kernel) ?_
  show GCF _ _ mLaw _ D cI cL _ _ _ _ _ ([] ++ (wldF a cI cL (mem0 f30 f32) 0 (shp.take 54) ++ [(q1, .inr (11, [.int 0, .null, .int 0, .int 0, .int 0, .int 0, .int 0, .int 0, .int 0, .null, .null, .null, .null, .null, .null, .null, .int 0, .int 0, .int 0, .int 0, .int 0, .int 0, .int 0, .int 0, .null, .null, .null, .null, .null, .int 0, .int 0, .null, .null, .null, .int 0, .int 0, .int 0, .int 0, .int 0, .int 0, .null, .null, .null, .null, .null, .int 0, .null, .null, .null, .int 0, .null, .int 0]))])) _
  refine GC.callE (μ := mLaw) (pc := 12) (cells := 55) (slots := 8373) (z := (l, L, xs)) (d := 99) (idx := 123) (as := []) (st := [.ref q1]) (wr := []) (wc := wldF a cI cL (mem0 f30 f32) 0 (shp.take 54) ++ [(q1, .inr (11, [.int 0, .null, .int 0, .int 0, .int 0, .int 0, .int 0, .int 0, .int 0, .null, .null, .null, .null, .null, .null, .null, .int 0, .int 0, .int 0, .int 0, .int 0, .int 0, .int 0, .int 0, .null, .null, .null, .null, .null, .int 0, .int 0, .null, .null, .null, .int 0, .int 0, .int 0, .int 0, .int 0, .int 0, .null, .null, .null, .null, .null, .int 0, .null, .null, .null, .int 0, .null, .int 0]))]) oX12_init iX12_init rfl rfl (mg (k := 6) (i := 92) (by decide +kernel) rfl) (by decide +kernel) rfl (Nat.le_of_ble_eq_true rfl) ⟨Nat.le_of_ble_eq_true rfl, Nat.le_of_ble_eq_true rfl⟩ (MkE.of hst oX12_init (Nat.le_of_ble_eq_true rfl) (mod_gc (l, L, xs) hx 95 ad adV D cI cL q1 a f30 f32)) (fun w hw => ?_)
  obtain ⟨c, hc1, hc2, hc3, rfl⟩ := hw
  refine GC.astore (k0 := 2) (lv' := [(2, .ref q1), (1, .ref q0), (0, .ref b)]) (by decide +kernel) (by decide) rfl ?_
  refine GC.iconst (n := 1) (nI 1) (by decide +kernel) (by decide) ?_
  refine GC.newl (by decide +kernel) (Nat.le_of_ble_eq_true rfl) (Nat.le_of_ble_eq_true rfl) (fun q2 => ?_)
  refine GC.astore (k0 := 3) (lv' := [(3, .ref q2), (2, .ref q1), (1, .ref q0), (0, .ref b)]) (by decide +kernel) (by decide) rfl ?_
  refine GC.iconst (n := 0) (nI 0) (by decide +kernel) (by decide) ?_
  refine GC.istoreW (i := 4) (lv' := [(4, .int (nI 0)), (3, .ref q2), (2, .ref q1), (1, .ref q0), (0, .ref b)]) (by decide +kernel) (by decide) rfl ?_
  have hws : ([] ++ wld false c cI cL (memF f30 f32)) ++ [(q2, .inl (cL, 1, .inr (.inl (fun j => if j = 0 then 0 else 0))))] = wld true (fun n => if n = 80 then q2 else c n) cI cL (memF f30 f32) := rfl
  rw [hws]
  have hc0 : c 0 = q0 := hc2.trans ha
  have hc9 : c 3000 = b := (hc1 3000 (by decide)).trans hb
  generalize hM : memF f30 f32 = M
  have hI : InvM M := by rw [← hM]; exact inv0 f30 f32
  clear hM hws
  have hG : G (l, L, ys) mLaw 100 81 16429 23 (lls 0 none none) [] M (fun r => ∃ N, r = .inl (some (.int (nI 1)), N)) := law_loop hy 10 hL (fun N => ⟨N, rfl⟩) 81 16429 (by decide) (by decide) (L + 1) 0 M (Nat.zero_le _) (by show L < 9 * 0 + 9 * (L + 1); omega) hI
  refine GC.toL l (a := fun n => if n = 80 then q2 else c n) (ls := lls 0 none none) (st := []) e0 hy (fun r h => h) (fun n hn => ?_) (fun la hl => ⟨rfl, hl.1, hl.2.1, fun i v hv => ?_⟩) hG
  · show (if n = 80 then q2 else c n) = ad n
    rw [if_neg (by omega)]
    exact hc1 n hn
  · match i, hv with
    | 0, hv =>
      cases hv
      show la[0]? = some (.val (.ref (if 3000 = 80 then q2 else c 3000)))
      rw [if_neg (by decide), hc9]
      exact lv_at hl 4 rfl
    | 1, hv =>
      cases hv
      show la[1]? = some (.val (.ref (if 0 = 80 then q2 else c 0)))
      rw [if_neg (by decide), hc0]
      exact lv_at hl 3 rfl
    | 2, hv =>
      cases hv
      show la[2]? = some (.val (.ref (if 54 = 80 then q2 else c 54)))
      rw [if_neg (by decide), hc3]
      exact lv_at hl 2 rfl
    | 3, hv =>
      cases hv
      exact lv_at hl 1 rfl
    | 4, hv =>
      cases hv
      exact lv_at hl 0 rfl
    | 5, hv => cases hv
    | 6, hv => cases hv
    | 7, hv => cases hv
    | i + 8, hv => cases hv
