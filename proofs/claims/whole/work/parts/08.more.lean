theorem G.mmax {z : Zp} {μ : MI} {d cells slots pc idx : Nat} {ls : Lo} {r : List Value} {M : Mem} {Q : Rs → Prop} {x y : Int32} (hl : Cond.methodLink μ.y.cls idx Lib.Math.max.name ∈ gt) (hd : decode μ.b pc = .ok (.invokestatic idx, 3)) (hcat : (r.map fun v => v.category).sum ≤ 8) (hc : cells ≤ μ.mc) (hs : slots ≤ μ.ms) (k : G z μ (d + 1) cells slots (pc + 3) ls (.int (if x < y then y else x) :: r) M Q) : G z μ (d + 1) cells slots pc ls (.int y :: .int x :: r) M Q := by
  intro p e R s m args below meth c H locs A ad adV cI cL D la C hP hD hS hL
  obtain ⟨-, -, -, -, -, hts, -, -, -, -, -, ⟨r1, r2, r3, r4⟩, -⟩ := id C
  have hc8 : ((r.map (rv ad)).map fun v => v.category).sum ≤ 8 := by simpa [Function.comp_def, rv_cat] using hcat
  exact va_mmax C.1 C.2.1 (C.2.2.2.1.trans hL.2.1.symm) C.2.2.2.2.1 (hts _ hl) (hts _ (mg (k := 3) (i := 56) (by decide +kernel) rfl)) (hts _ (mg (k := 1) (i := 14) (by decide +kernel) rfl)) (hts _ (mg (k := 3) (i := 57) (by decide +kernel) rfl)) (by omega) (by omega) (by omega) (by omega) hd (k p e R s m args below meth c H locs A ad adV cI cL D la C hP hD hS hL)
theorem G.mmin {z : Zp} {μ : MI} {d cells slots pc idx : Nat} {ls : Lo} {r : List Value} {M : Mem} {Q : Rs → Prop} {x y : Int32} (hl : Cond.methodLink μ.y.cls idx Lib.Math.min.name ∈ gt) (hd : decode μ.b pc = .ok (.invokestatic idx, 3)) (hcat : (r.map fun v => v.category).sum ≤ 8) (hc : cells ≤ μ.mc) (hs : slots ≤ μ.ms) (k : G z μ (d + 1) cells slots (pc + 3) ls (.int (if y < x then y else x) :: r) M Q) : G z μ (d + 1) cells slots pc ls (.int y :: .int x :: r) M Q := by
  intro p e R s m args below meth c H locs A ad adV cI cL D la C hP hD hS hL
  obtain ⟨-, -, -, -, -, hts, -, -, -, -, -, ⟨r1, r2, r3, r4⟩, -⟩ := id C
  have hc8 : ((r.map (rv ad)).map fun v => v.category).sum ≤ 8 := by simpa [Function.comp_def, rv_cat] using hcat
  exact va_mmin C.1 C.2.1 (C.2.2.2.1.trans hL.2.1.symm) C.2.2.2.2.1 (hts _ hl) (hts _ (mg (k := 2) (i := 217) (by decide +kernel) rfl)) (hts _ (mg (k := 1) (i := 14) (by decide +kernel) rfl)) (hts _ (mg (k := 2) (i := 218) (by decide +kernel) rfl)) (by omega) (by omega) (by omega) (by omega) hd (k p e R s m args below meth c H locs A ad adV cI cL D la C hP hD hS hL)
theorem lm_EvenFinders_356 : Cond.methodLink "EvenFinders" 356 Lib.Math.min.name ∈ gt := mg (k := 2) (i := 216) (by decide +kernel) rfl
theorem lm_EvenFinders_Tape_22 : Cond.methodLink "EvenFinders$Tape" 22 Lib.Math.min.name ∈ gt := mg (k := 3) (i := 54) (by decide +kernel) rfl
theorem lm_EvenFinders_Tape_28 : Cond.methodLink "EvenFinders$Tape" 28 Lib.Math.max.name ∈ gt := mg (k := 3) (i := 55) (by decide +kernel) rfl
theorem lm_EvenFinders_Town_121 : Cond.methodLink "EvenFinders$Town" 121 Lib.Math.min.name ∈ gt := mg (k := 3) (i := 183) (by decide +kernel) rfl
theorem lm_EvenFinders_Work_91 : Cond.methodLink "EvenFinders$Work" 91 Lib.Math.max.name ∈ gt := mg (k := 4) (i := 50) (by decide +kernel) rfl
theorem lm_EvenFinders_Law_87 : Cond.methodLink "EvenFinders$Law" 87 Lib.Math.min.name ∈ gt := mg (k := 4) (i := 92) (by decide +kernel) rfl
theorem lm_EvenFinders_Law_92 : Cond.methodLink "EvenFinders$Law" 92 Lib.Math.max.name ∈ gt := mg (k := 4) (i := 93) (by decide +kernel) rfl
theorem lm_EvenFinders_Days_66 : Cond.methodLink "EvenFinders$Days" 66 Lib.Math.max.name ∈ gt := mg (k := 4) (i := 98) (by decide +kernel) rfl
theorem lm_EvenFinders_Ways_65 : Cond.methodLink "EvenFinders$Ways" 65 Lib.Math.min.name ∈ gt := mg (k := 5) (i := 74) (by decide +kernel) rfl
theorem lm_EvenFinders_Search_83 : Cond.methodLink "EvenFinders$Search" 83 Lib.Math.max.name ∈ gt := mg (k := 5) (i := 167) (by decide +kernel) rfl
theorem lm_EvenFinders_Days_116 : Cond.methodLink "EvenFinders$Days" 116 Lib.Math.min.name ∈ gt := mg (k := 5) (i := 224) (by decide +kernel) rfl
theorem lm_EvenFinders_338 : Cond.methodLink "EvenFinders" 338 Lib.Math.max.name ∈ gt := mg (k := 6) (i := 29) (by decide +kernel) rfl
theorem down {P : Nat → Prop} {n : Nat} (h0 : P n) (hs : ∀ i, i < n → P (i + 1) → P i) : ∀ i, i ≤ n → P i := by
  intro i hi
  obtain ⟨k, hk⟩ : ∃ k, k = n - i := ⟨_, rfl⟩
  induction k generalizing i with
  | zero => obtain rfl : i = n := by omega
            exact h0
  | succ k ih => exact hs i (by omega) (ih (i + 1) (by omega) (by omega))
theorem mrow_self (M : Mem) (a : Nat) : mrow M a (M.1 a) = M := by
  unfold mrow
  refine Prod.ext ?_ rfl
  funext b j
  by_cases h : b = a <;> simp [h]
theorem nI_nm {b : Nat} (h : b < 2 ^ 31) : ¬ nI b = -1 := by
  intro e
  have h1 := nI_toInt h
  rw [e] at h1
  have h2 : ((-1 : Int32)).toInt = -1 := by decide
  omega
theorem toInt_ne {x k : Int32} (h : ¬ x = k) : x.toInt ≠ k.toInt := fun e => h (Int32.toInt_inj.mp e)
theorem toInt_nI0 : (nI 0).toInt = 0 := by decide
theorem toInt_nI1 : (nI 1).toInt = 1 := by decide
theorem toInt_nI2 : (nI 2).toInt = 2 := by decide
theorem toInt_nI3 : (nI 3).toInt = 3 := by decide
theorem toInt_nI4 : (nI 4).toInt = 4 := by decide
theorem toInt_nI5 : (nI 5).toInt = 5 := by decide
theorem toInt_nI6 : (nI 6).toInt = 6 := by decide
theorem toInt_nI7 : (nI 7).toInt = 7 := by decide
theorem toInt_nI8 : (nI 8).toInt = 8 := by decide
theorem toInt_nI9 : (nI 9).toInt = 9 := by decide
theorem toInt_nI10 : (nI 10).toInt = 10 := by decide
theorem toInt_nI11 : (nI 11).toInt = 11 := by decide
/-- none is -1 -/
def en : Option Nat → Int32
  | none => -1
  | some k => nI k
theorem G.copy {z : Zp} {μ : MI} {d cells slots pc idx a0 a1 n0 n1 s0 p0 n : Nat} {ls : Lo} {r : List Value} {M : Mem} {Q : Rs → Prop} {sp dp x : Int32} (hl : Cond.methodLink μ.y.cls idx arraycopyName ∈ gt) (hd : decode μ.b pc = .ok (.invokestatic idx, 3)) (ha0 : shp[a0]? = some (.inl (false, n0))) (ha1 : shp[a1]? = some (.inl (false, n1))) (hsp : sp = nI s0) (hdp : dp = nI p0) (hx : x = nI n) (h1 : s0 + n ≤ n0) (h2 : p0 + n ≤ n1) (hcat : (r.map fun v => v.category).sum ≤ 8) (k : G z μ (d + 1) cells slots (pc + 3) ls r (mrow M a1 (va_cpy (M.1 a0) (M.1 a1) s0 p0 n)) Q) : G z μ (d + 1) cells slots pc ls (.int x :: .int dp :: .ref a1 :: .int sp :: .ref a0 :: r) M Q := by
  intro p e R s m args below meth c H locs A ad adV cI cL D la C hP hD hS hL
  obtain ⟨-, -, -, -, -, hts, -, -, hK, -, -, ⟨r1, r2, r3, r4⟩, -⟩ := id C
  have hc8 : ((r.map (rv ad)).map fun v => v.category).sum ≤ 8 := by simpa [Function.comp_def, rv_cat] using hcat
  have hw : nativeFrameWords "java/lang/System" "arraycopy" 5 + 11 ≤ 40 := by decide +kernel
  have b0 := shp_small ha0
  have b1 := shp_small ha1
  subst hsp hdp hx
  have e1 : (nI s0).toNatClampNeg = s0 := nI_clamp (by omega)
  have e2 : (nI p0).toNatClampNeg = p0 := nI_clamp (by omega)
  have e3 : (nI n).toNatClampNeg = n := nI_clamp (by omega)
  refine va_copyi C.1 C.2.1 (C.2.2.2.1.trans hL.2.1.symm) C.2.2.2.2.1 (hts _ hl) (hts _ (mg (k := 2) (i := 163) (by decide +kernel) rfl)) (hts _ (mg (k := 2) (i := 162) (by decide +kernel) rfl)) (hts _ (mg (k := 1) (i := 23) (by decide +kernel) rfl)) hK hP hD hS a0 a1 0 0 (wld_get (shq_i ha0)) (wld_get (shq_i ha1)) rfl rfl rfl (nI_pos (by omega)) (nI_pos (by omega)) (nI_pos (by omega)) (by rw [e1, e3]; exact h1) (by rw [e2, e3]; exact h2) (fun _ _ => rfl) (by omega) (by omega) hd (fun H1 locs1 hP1 hD1 hS1 => ?_)
  rw [e1, e2, e3, wld_copy (shq_i ha1)] at hP1 hD1
  exact k p e R s m args below meth c H1 locs1 A ad adV cI cL D la C hP1 hD1 hS1 hL
theorem la_EvenFinders_History_33 : Cond.methodLink "EvenFinders$History" 33 arraycopyName ∈ gt := mg (k := 2) (i := 161) (by decide +kernel) rfl
theorem la_EvenFinders_Town_49 : Cond.methodLink "EvenFinders$Town" 49 arraycopyName ∈ gt := mg (k := 3) (i := 173) (by decide +kernel) rfl
theorem la_EvenFinders_Days_37 : Cond.methodLink "EvenFinders$Days" 37 arraycopyName ∈ gt := mg (k := 3) (i := 201) (by decide +kernel) rfl
theorem la_EvenFinders_Law_25 : Cond.methodLink "EvenFinders$Law" 25 arraycopyName ∈ gt := mg (k := 4) (i := 8) (by decide +kernel) rfl
theorem la_EvenFinders_Book_25 : Cond.methodLink "EvenFinders$Book" 25 arraycopyName ∈ gt := mg (k := 4) (i := 140) (by decide +kernel) rfl
