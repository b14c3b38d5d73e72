/-! the constructors -/
def mX0_init : MI := (yX0_init, cX0_init, 1, none, 1, 8, [])
theorem oX0_init : MOK mX0_init 0 := ⟨mg (k := 1) (i := 166) rfl rfl, mg (k := 1) (i := 5) (by decide +kernel) rfl, ⟨by decide +kernel, by decide +kernel, by decide +kernel⟩, by decide +kernel, by decide, rfl⟩
theorem iX0_init : Cond.instanceMethod yX0_init ∈ gt := mg (k := 1) (i := 165) (by decide +kernel) rfl
def postBook (cI : ClassId) (h : Nat) (w : va_W) : Prop := ∃ (q1 : Nat) (f9 : Nat → Int32), w = [(h, .inr (0, [.int 0, .ref q1])), (q1, .inl (cI, 8, .inl f9))]
theorem mkBook (l : Launch) (d : Nat) (D : va_G) (cI cL : ClassId) (h : Nat) : Mk l mX0_init (d + 2) D cI cL [.ref h] [(h, .inr (0, [.int 0, .null]))] (postBook cI h) := by
  refine Mk.of oX0_init (Nat.le_of_ble_eq_true rfl) ?_
  refine GC.aload (k0 := 0) 0 (by decide +kernel) rfl ?_
  refine GC.obj (idx := 3) (mg (k := 1) (i := 167) (by decide +kernel) rfl) (by decide +kernel) ?_
  refine GC.aload (k0 := 0) 0 (by decide +kernel) rfl ?_
  refine GC.bipush (n := 8) (nI 8) (by decide +kernel) (by decide) ?_
  refine GC.newi 8 rfl (Nat.le_of_ble_eq_true rfl) (by decide +kernel) (Nat.le_of_ble_eq_true rfl) (Nat.le_of_ble_eq_true rfl) (fun q1 => ?_)
  refine GC.put 0 (ci := 0) (kf := 1) (idx := 9) (by decide) (fok_in (a3 := 61) (by decide +kernel)) rfl rfl rfl rfl rfl (Nat.le_of_ble_eq_true rfl) (by decide +kernel) ?_
  refine GC.aload (k0 := 0) 0 (by decide +kernel) rfl ?_
  refine GC.get 0 (ci := 0) (kf := 1) (idx := 9) (fok_in (a3 := 61) (by decide +kernel)) rfl rfl (by decide +kernel) ?_
  refine GC.iconst (n := -1) (-1) (by decide +kernel) (by decide) ?_
  show GC _ l mX0_init (d + 1 + 1) D cI cL _ _ _ _ [.int (-1), .ref q1] ([(h, .inr (0, [.int 0, .ref q1]))] ++ [(q1, .inl (cI, 8, .inl (fun _ => 0)))]) _
  refine GC.callS (idx := 15) (as := [.ref q1, .int (-1)]) (st := []) oJ7_fill_53178 (mg (k := 1) (i := 168) (by decide +kernel) rfl) (by decide +kernel) rfl (Nat.le_of_ble_eq_true rfl) ⟨Nat.le_of_ble_eq_true rfl, Nat.le_of_ble_eq_true rfl⟩ (mk_fill l (d + 1) D cI cL q1 (-1) (fun _ => 0)) (fun w hw => ?_)
  obtain ⟨f9, rfl⟩ := hw
  exact GC.ret (by decide +kernel) rfl (Nat.le_of_ble_eq_true rfl) (Nat.le_of_ble_eq_true rfl) ⟨q1, f9, rfl⟩
def mX1_init : MI := (yX1_init, cX1_init, 3, none, 2, 57, [])
theorem oX1_init : MOK mX1_init 2 := ⟨mg (k := 1) (i := 217) rfl rfl, mg (k := 1) (i := 8) (by decide +kernel) rfl, ⟨by decide +kernel, by decide +kernel, by decide +kernel⟩, by decide +kernel, by decide, rfl⟩
theorem iX1_init : Cond.instanceMethod yX1_init ∈ gt := mg (k := 1) (i := 216) (by decide +kernel) rfl
def postDays (cI : ClassId) (h r1 r2 : Nat) (w : va_W) : Prop := ∃ (q1 q2 : Nat), w = [(h, .inr (1, [.ref q1, .ref q2, .ref r1, .ref r2])), (q1, .inl (cI, 51, .inl (fun _ => 0))), (q2, .inl (cI, 6, .inl (fun _ => 0)))]
theorem mkDays (l : Launch) (d : Nat) (D : va_G) (cI cL : ClassId) (h r1 r2 : Nat) : Mk l mX1_init (d + 2) D cI cL [.ref h, .ref r1, .ref r2] [(h, .inr (1, [.null, .null, .null, .null]))] (postDays cI h r1 r2) := by
  refine Mk.of oX1_init (Nat.le_of_ble_eq_true rfl) ?_
  refine GC.aload (k0 := 0) 0 (by decide +kernel) rfl ?_
  refine GC.obj (idx := 3) (mg (k := 1) (i := 218) (by decide +kernel) rfl) (by decide +kernel) ?_
  refine GC.aload (k0 := 0) 0 (by decide +kernel) rfl ?_
  refine GC.bipush (n := 51) (nI 51) (by decide +kernel) (by decide) ?_
  refine GC.newi 51 rfl (Nat.le_of_ble_eq_true rfl) (by decide +kernel) (Nat.le_of_ble_eq_true rfl) (Nat.le_of_ble_eq_true rfl) (fun q1 => ?_)
  refine GC.put 0 (ci := 1) (kf := 0) (idx := 9) (by decide) (fok_in (a3 := 73) (by decide +kernel)) rfl rfl rfl rfl rfl (Nat.le_of_ble_eq_true rfl) (by decide +kernel) ?_
  refine GC.aload (k0 := 0) 0 (by decide +kernel) rfl ?_
  refine GC.bipush (n := 6) (nI 6) (by decide +kernel) (by decide) ?_
  refine GC.newi 6 rfl (Nat.le_of_ble_eq_true rfl) (by decide +kernel) (Nat.le_of_ble_eq_true rfl) (Nat.le_of_ble_eq_true rfl) (fun q2 => ?_)
  refine GC.put 0 (ci := 1) (kf := 1) (idx := 15) (by decide) (fok_in (a3 := 78) (by decide +kernel)) rfl rfl rfl rfl rfl (Nat.le_of_ble_eq_true rfl) (by decide +kernel) ?_
  refine GC.aload (k0 := 0) 0 (by decide +kernel) rfl ?_
  refine GC.aload (k0 := 1) 1 (by decide +kernel) rfl ?_
  refine GC.put 0 (ci := 1) (kf := 2) (idx := 18) (by decide) (fok_in (a3 := 79) (by decide +kernel)) rfl rfl rfl rfl rfl (Nat.le_of_ble_eq_true rfl) (by decide +kernel) ?_
  refine GC.aload (k0 := 0) 0 (by decide +kernel) rfl ?_
  refine GC.aload (k0 := 2) 2 (by decide +kernel) rfl ?_
  refine GC.put 0 (ci := 1) (kf := 3) (idx := 22) (by decide) (fok_in (a3 := 80) (by decide +kernel)) rfl rfl rfl rfl rfl (Nat.le_of_ble_eq_true rfl) (by decide +kernel) ?_
  exact GC.ret (by decide +kernel) rfl (Nat.le_of_ble_eq_true rfl) (Nat.le_of_ble_eq_true rfl) ⟨q1, q2, rfl⟩
def mX2_init : MI := (yX2_init, cX2_init, 1, none, 3, 3420, [])
theorem oX2_init : MOK mX2_init 0 := ⟨mg (k := 2) (i := 0) rfl rfl, mg (k := 1) (i := 9) (by decide +kernel) rfl, ⟨by decide +kernel, by decide +kernel, by decide +kernel⟩, by decide +kernel, by decide, rfl⟩
theorem iX2_init : Cond.instanceMethod yX2_init ∈ gt := mg (k := 1) (i := 239) (by decide +kernel) rfl
def postHistory (cI : ClassId) (h : Nat) (w : va_W) : Prop := ∃ (q1 q2 q3 : Nat), w = [(h, .inr (2, [.int 0, .int 0, .ref q1, .ref q2, .ref q3])), (q1, .inl (cI, 816, .inl (fun _ => 0))), (q2, .inl (cI, 2601, .inl (fun _ => 0))), (q3, .inl (cI, 3, .inl (fun _ => 0)))]
theorem mkHistory (l : Launch) (d : Nat) (D : va_G) (cI cL : ClassId) (h : Nat) : Mk l mX2_init (d + 2) D cI cL [.ref h] [(h, .inr (2, [.int 0, .int 0, .null, .null, .null]))] (postHistory cI h) := by
  refine Mk.of oX2_init (Nat.le_of_ble_eq_true rfl) ?_
  refine GC.aload (k0 := 0) 0 (by decide +kernel) rfl ?_
  refine GC.obj (idx := 3) (mg (k := 2) (i := 1) (by decide +kernel) rfl) (by decide +kernel) ?_
  refine GC.aload (k0 := 0) 0 (by decide +kernel) rfl ?_
  refine GC.sipush (n := 816) (nI 816) (by decide +kernel) (by decide) ?_
  refine GC.newi 816 rfl (Nat.le_of_ble_eq_true rfl) (by decide +kernel) (Nat.le_of_ble_eq_true rfl) (Nat.le_of_ble_eq_true rfl) (fun q1 => ?_)
  refine GC.put 0 (ci := 2) (kf := 2) (idx := 9) (by decide) (fok_in (a3 := 85) (by decide +kernel)) rfl rfl rfl rfl rfl (Nat.le_of_ble_eq_true rfl) (by decide +kernel) ?_
  refine GC.aload (k0 := 0) 0 (by decide +kernel) rfl ?_
  refine GC.sipush (n := 2601) (nI 2601) (by decide +kernel) (by decide) ?_
  refine GC.newi 2601 rfl (Nat.le_of_ble_eq_true rfl) (by decide +kernel) (Nat.le_of_ble_eq_true rfl) (Nat.le_of_ble_eq_true rfl) (fun q2 => ?_)
  refine GC.put 0 (ci := 2) (kf := 3) (idx := 15) (by decide) (fok_in (a3 := 86) (by decide +kernel)) rfl rfl rfl rfl rfl (Nat.le_of_ble_eq_true rfl) (by decide +kernel) ?_
  refine GC.aload (k0 := 0) 0 (by decide +kernel) rfl ?_
  refine GC.iconst (n := 3) (nI 3) (by decide +kernel) (by decide) ?_
  refine GC.newi 3 rfl (Nat.le_of_ble_eq_true rfl) (by decide +kernel) (Nat.le_of_ble_eq_true rfl) (Nat.le_of_ble_eq_true rfl) (fun q3 => ?_)
  refine GC.put 0 (ci := 2) (kf := 4) (idx := 18) (by decide) (fok_in (a3 := 87) (by decide +kernel)) rfl rfl rfl rfl rfl (Nat.le_of_ble_eq_true rfl) (by decide +kernel) ?_
  exact GC.ret (by decide +kernel) rfl (Nat.le_of_ble_eq_true rfl) (Nat.le_of_ble_eq_true rfl) ⟨q1, q2, q3, rfl⟩
def mX3_init : MI := (yX3_init, cX3_init, 1, none, 3, 308, [])
theorem oX3_init : MOK mX3_init 0 := ⟨mg (k := 1) (i := 145) rfl rfl, mg (k := 1) (i := 4) (by decide +kernel) rfl, ⟨by decide +kernel, by decide +kernel, by decide +kernel⟩, by decide +kernel, by decide, rfl⟩
theorem iX3_init : Cond.instanceMethod yX3_init ∈ gt := mg (k := 1) (i := 144) (by decide +kernel) rfl
def postLaw (cI : ClassId) (h : Nat) (w : va_W) : Prop := ∃ (q1 q2 q3 : Nat), w = [(h, .inr (3, [.ref q1, .ref q2, .ref q3, .int (nI 1)])), (q1, .inl (cI, 8, .inl (fun _ => 0))), (q2, .inl (cI, 150, .inl (upd (fun _ => 0) (nI 0).toNatClampNeg (nI 1000)))), (q3, .inl (cI, 150, .inl (fun _ => 0)))]
theorem mkLaw (l : Launch) (d : Nat) (D : va_G) (cI cL : ClassId) (h : Nat) : Mk l mX3_init (d + 2) D cI cL [.ref h] [(h, .inr (3, [.null, .null, .null, .int 0]))] (postLaw cI h) := by
  refine Mk.of oX3_init (Nat.le_of_ble_eq_true rfl) ?_
  refine GC.aload (k0 := 0) 0 (by decide +kernel) rfl ?_
  refine GC.obj (idx := 3) (mg (k := 1) (i := 146) (by decide +kernel) rfl) (by decide +kernel) ?_
  refine GC.aload (k0 := 0) 0 (by decide +kernel) rfl ?_
  refine GC.bipush (n := 8) (nI 8) (by decide +kernel) (by decide) ?_
  refine GC.newi 8 rfl (Nat.le_of_ble_eq_true rfl) (by decide +kernel) (Nat.le_of_ble_eq_true rfl) (Nat.le_of_ble_eq_true rfl) (fun q1 => ?_)
  refine GC.put 0 (ci := 3) (kf := 0) (idx := 11) (by decide) (fok_in (a3 := 53) (by decide +kernel)) rfl rfl rfl rfl rfl (Nat.le_of_ble_eq_true rfl) (by decide +kernel) ?_
  refine GC.aload (k0 := 0) 0 (by decide +kernel) rfl ?_
  refine GC.sipush (n := 150) (nI 150) (by decide +kernel) (by decide) ?_
  refine GC.newi 150 rfl (Nat.le_of_ble_eq_true rfl) (by decide +kernel) (Nat.le_of_ble_eq_true rfl) (Nat.le_of_ble_eq_true rfl) (fun q2 => ?_)
  refine GC.put 0 (ci := 3) (kf := 1) (idx := 15) (by decide) (fok_in (a3 := 56) (by decide +kernel)) rfl rfl rfl rfl rfl (Nat.le_of_ble_eq_true rfl) (by decide +kernel) ?_
  refine GC.aload (k0 := 0) 0 (by decide +kernel) rfl ?_
  refine GC.sipush (n := 150) (nI 150) (by decide +kernel) (by decide) ?_
  refine GC.newi 150 rfl (Nat.le_of_ble_eq_true rfl) (by decide +kernel) (Nat.le_of_ble_eq_true rfl) (Nat.le_of_ble_eq_true rfl) (fun q3 => ?_)
  refine GC.put 0 (ci := 3) (kf := 2) (idx := 18) (by decide) (fok_in (a3 := 57) (by decide +kernel)) rfl rfl rfl rfl rfl (Nat.le_of_ble_eq_true rfl) (by decide +kernel) ?_
  refine GC.aload (k0 := 0) 0 (by decide +kernel) rfl ?_
  refine GC.get 0 (ci := 3) (kf := 1) (idx := 15) (fok_in (a3 := 56) (by decide +kernel)) rfl rfl (by decide +kernel) ?_
  refine GC.iconst (n := 0) (nI 0) (by decide +kernel) (by decide) ?_
  refine GC.sipush (n := 1000) (nI 1000) (by decide +kernel) (by decide) ?_
  refine GC.iast 2 (n := 150) (f := fun _ => 0) rfl (pk_in 0 150 (by omega)) (by decide +kernel) ?_
  refine GC.aload (k0 := 0) 0 (by decide +kernel) rfl ?_
  refine GC.iconst (n := 1) (nI 1) (by decide +kernel) (by decide) ?_
  refine GC.put 0 (ci := 3) (kf := 3) (idx := 21) (by decide) (fok_in (a3 := 58) (by decide +kernel)) rfl rfl rfl rfl rfl (Nat.le_of_ble_eq_true rfl) (by decide +kernel) ?_
  exact GC.ret (by decide +kernel) rfl (Nat.le_of_ble_eq_true rfl) (Nat.le_of_ble_eq_true rfl) ⟨q1, q2, q3, rfl⟩
def mX5_init : MI := (yX5_init, cX5_init, 4, none, 3, 689, [])
theorem oX5_init : MOK mX5_init 3 := ⟨mg (k := 2) (i := 40) rfl rfl, mg (k := 1) (i := 11) (by decide +kernel) rfl, ⟨by decide +kernel, by decide +kernel, by decide +kernel⟩, by decide +kernel, by decide, rfl⟩
theorem iX5_init : Cond.instanceMethod yX5_init ∈ gt := mg (k := 2) (i := 39) (by decide +kernel) rfl
def postSearch (cI : ClassId) (h r1 r2 r3 : Nat) (w : va_W) : Prop := ∃ (q1 q2 q3 : Nat), w = [(h, .inr (4, [.int 0, .ref q1, .ref r1, .ref r2, .ref r3, .ref q2, .ref q3])), (q1, .inl (cI, 80, .inl (fun _ => 0))), (q2, .inl (cI, 8, .inl (fun _ => 0))), (q3, .inl (cI, 601, .inl (fun _ => 0)))]
theorem mkSearch (l : Launch) (d : Nat) (D : va_G) (cI cL : ClassId) (h r1 r2 r3 : Nat) : Mk l mX5_init (d + 2) D cI cL [.ref h, .ref r1, .ref r2, .ref r3] [(h, .inr (4, [.int 0, .null, .null, .null, .null, .null, .null]))] (postSearch cI h r1 r2 r3) := by
  refine Mk.of oX5_init (Nat.le_of_ble_eq_true rfl) ?_
  refine GC.aload (k0 := 0) 0 (by decide +kernel) rfl ?_
  refine GC.obj (idx := 3) (mg (k := 2) (i := 41) (by decide +kernel) rfl) (by decide +kernel) ?_
  refine GC.aload (k0 := 0) 0 (by decide +kernel) rfl ?_
  refine GC.bipush (n := 80) (nI 80) (by decide +kernel) (by decide) ?_
  refine GC.newi 80 rfl (Nat.le_of_ble_eq_true rfl) (by decide +kernel) (Nat.le_of_ble_eq_true rfl) (Nat.le_of_ble_eq_true rfl) (fun q1 => ?_)
  refine GC.put 0 (ci := 4) (kf := 1) (idx := 9) (by decide) (fok_in (a3 := 93) (by decide +kernel)) rfl rfl rfl rfl rfl (Nat.le_of_ble_eq_true rfl) (by decide +kernel) ?_
  refine GC.aload (k0 := 0) 0 (by decide +kernel) rfl ?_
  refine GC.bipush (n := 8) (nI 8) (by decide +kernel) (by decide) ?_
  refine GC.newi 8 rfl (Nat.le_of_ble_eq_true rfl) (by decide +kernel) (Nat.le_of_ble_eq_true rfl) (Nat.le_of_ble_eq_true rfl) (fun q2 => ?_)
  refine GC.put 0 (ci := 4) (kf := 5) (idx := 15) (by decide) (fok_in (a3 := 98) (by decide +kernel)) rfl rfl rfl rfl rfl (Nat.le_of_ble_eq_true rfl) (by decide +kernel) ?_
  refine GC.aload (k0 := 0) 0 (by decide +kernel) rfl ?_
  refine GC.sipush (n := 601) (nI 601) (by decide +kernel) (by decide) ?_
  refine GC.newi 601 rfl (Nat.le_of_ble_eq_true rfl) (by decide +kernel) (Nat.le_of_ble_eq_true rfl) (Nat.le_of_ble_eq_true rfl) (fun q3 => ?_)
  refine GC.put 0 (ci := 4) (kf := 6) (idx := 18) (by decide) (fok_in (a3 := 99) (by decide +kernel)) rfl rfl rfl rfl rfl (Nat.le_of_ble_eq_true rfl) (by decide +kernel) ?_
  refine GC.aload (k0 := 0) 0 (by decide +kernel) rfl ?_
  refine GC.aload (k0 := 1) 1 (by decide +kernel) rfl ?_
  refine GC.put 0 (ci := 4) (kf := 2) (idx := 21) (by decide) (fok_in (a3 := 95) (by decide +kernel)) rfl rfl rfl rfl rfl (Nat.le_of_ble_eq_true rfl) (by decide +kernel) ?_
  refine GC.aload (k0 := 0) 0 (by decide +kernel) rfl ?_
  refine GC.aload (k0 := 2) 2 (by decide +kernel) rfl ?_
  refine GC.put 0 (ci := 4) (kf := 3) (idx := 25) (by decide) (fok_in (a3 := 96) (by decide +kernel)) rfl rfl rfl rfl rfl (Nat.le_of_ble_eq_true rfl) (by decide +kernel) ?_
  refine GC.aload (k0 := 0) 0 (by decide +kernel) rfl ?_
  refine GC.aload (k0 := 3) 3 (by decide +kernel) rfl ?_
  refine GC.put 0 (ci := 4) (kf := 4) (idx := 29) (by decide) (fok_in (a3 := 97) (by decide +kernel)) rfl rfl rfl rfl rfl (Nat.le_of_ble_eq_true rfl) (by decide +kernel) ?_
  exact GC.ret (by decide +kernel) rfl (Nat.le_of_ble_eq_true rfl) (Nat.le_of_ble_eq_true rfl) ⟨q1, q2, q3, rfl⟩
def mX6_init : MI := (yX6_init, cX6_init, 1, none, 1, 600, [])
theorem oX6_init : MOK mX6_init 0 := ⟨mg (k := 1) (i := 39) rfl rfl, mg (k := 1) (i := 2) (by decide +kernel) rfl, ⟨by decide +kernel, by decide +kernel, by decide +kernel⟩, by decide +kernel, by decide, rfl⟩
theorem iX6_init : Cond.instanceMethod yX6_init ∈ gt := mg (k := 1) (i := 38) (by decide +kernel) rfl
def postTape (cI : ClassId) (h : Nat) (w : va_W) : Prop := ∃ (q1 : Nat), w = [(h, .inr (5, [.ref q1, .int 0, .int 0, .int (-1), .int 0, .int 0, .int 0])), (q1, .inl (cI, 600, .inl (fun _ => 0)))]
theorem mkTape (l : Launch) (d : Nat) (D : va_G) (cI cL : ClassId) (h : Nat) : Mk l mX6_init (d + 2) D cI cL [.ref h] [(h, .inr (5, [.null, .int 0, .int 0, .int 0, .int 0, .int 0, .int 0]))] (postTape cI h) := by
  refine Mk.of oX6_init (Nat.le_of_ble_eq_true rfl) ?_
  refine GC.aload (k0 := 0) 0 (by decide +kernel) rfl ?_
  refine GC.obj (idx := 3) (mg (k := 1) (i := 40) (by decide +kernel) rfl) (by decide +kernel) ?_
  refine GC.aload (k0 := 0) 0 (by decide +kernel) rfl ?_
  refine GC.sipush (n := 600) (nI 600) (by decide +kernel) (by decide) ?_
  refine GC.newi 600 rfl (Nat.le_of_ble_eq_true rfl) (by decide +kernel) (Nat.le_of_ble_eq_true rfl) (Nat.le_of_ble_eq_true rfl) (fun q1 => ?_)
  refine GC.put 0 (ci := 5) (kf := 0) (idx := 9) (by decide) (fok_in (a3 := 0) (by decide +kernel)) rfl rfl rfl rfl rfl (Nat.le_of_ble_eq_true rfl) (by decide +kernel) ?_
  refine GC.aload (k0 := 0) 0 (by decide +kernel) rfl ?_
  refine GC.iconst (n := -1) (-1) (by decide +kernel) (by decide) ?_
  refine GC.put 0 (ci := 5) (kf := 3) (idx := 15) (by decide) (fok_in (a3 := 5) (by decide +kernel)) rfl rfl rfl rfl rfl (Nat.le_of_ble_eq_true rfl) (by decide +kernel) ?_
  exact GC.ret (by decide +kernel) rfl (Nat.le_of_ble_eq_true rfl) (Nat.le_of_ble_eq_true rfl) ⟨q1, rfl⟩
def mX7_init : MI := (yX7_init, cX7_init, 1, none, 8, 136, [])
theorem oX7_init : MOK mX7_init 0 := ⟨mg (k := 1) (i := 75) rfl rfl, mg (k := 1) (i := 3) (by decide +kernel) rfl, ⟨by decide +kernel, by decide +kernel, by decide +kernel⟩, by decide +kernel, by decide, rfl⟩
theorem iX7_init : Cond.instanceMethod yX7_init ∈ gt := mg (k := 1) (i := 74) (by decide +kernel) rfl
def postTown (cI : ClassId) (h : Nat) (w : va_W) : Prop := ∃ (q1 q2 q3 q4 q5 q6 q7 q8 : Nat), w = [(h, .inr (6, [.int 0, .int 0, .int 0, .int 0, .ref q1, .ref q2, .ref q3, .ref q4, .ref q5, .ref q6, .ref q7, .ref q8])), (q1, .inl (cI, 12, .inl (fun _ => 0))), (q2, .inl (cI, 12, .inl (fun _ => 0))), (q3, .inl (cI, 12, .inl (fun _ => 0))), (q4, .inl (cI, 10, .inl (fun _ => 0))), (q5, .inl (cI, 10, .inl (fun _ => 0))), (q6, .inl (cI, 10, .inl (fun _ => 0))), (q7, .inl (cI, 6, .inl (fun _ => 0))), (q8, .inl (cI, 64, .inl (fun _ => 0)))]
theorem mkTown (l : Launch) (d : Nat) (D : va_G) (cI cL : ClassId) (h : Nat) : Mk l mX7_init (d + 2) D cI cL [.ref h] [(h, .inr (6, [.int 0, .int 0, .int 0, .int 0, .null, .null, .null, .null, .null, .null, .null, .null]))] (postTown cI h) := by
  refine Mk.of oX7_init (Nat.le_of_ble_eq_true rfl) ?_
  refine GC.aload (k0 := 0) 0 (by decide +kernel) rfl ?_
  refine GC.obj (idx := 3) (mg (k := 1) (i := 76) (by decide +kernel) rfl) (by decide +kernel) ?_
  refine GC.aload (k0 := 0) 0 (by decide +kernel) rfl ?_
  refine GC.bipush (n := 12) (nI 12) (by decide +kernel) (by decide) ?_
  refine GC.newi 12 rfl (Nat.le_of_ble_eq_true rfl) (by decide +kernel) (Nat.le_of_ble_eq_true rfl) (Nat.le_of_ble_eq_true rfl) (fun q1 => ?_)
  refine GC.put 0 (ci := 6) (kf := 4) (idx := 9) (by decide) (fok_in (a3 := 35) (by decide +kernel)) rfl rfl rfl rfl rfl (Nat.le_of_ble_eq_true rfl) (by decide +kernel) ?_
  refine GC.aload (k0 := 0) 0 (by decide +kernel) rfl ?_
  refine GC.bipush (n := 12) (nI 12) (by decide +kernel) (by decide) ?_
  refine GC.newi 12 rfl (Nat.le_of_ble_eq_true rfl) (by decide +kernel) (Nat.le_of_ble_eq_true rfl) (Nat.le_of_ble_eq_true rfl) (fun q2 => ?_)
  refine GC.put 0 (ci := 6) (kf := 5) (idx := 15) (by decide) (fok_in (a3 := 37) (by decide +kernel)) rfl rfl rfl rfl rfl (Nat.le_of_ble_eq_true rfl) (by decide +kernel) ?_
  refine GC.aload (k0 := 0) 0 (by decide +kernel) rfl ?_
  refine GC.bipush (n := 12) (nI 12) (by decide +kernel) (by decide) ?_
  refine GC.newi 12 rfl (Nat.le_of_ble_eq_true rfl) (by decide +kernel) (Nat.le_of_ble_eq_true rfl) (Nat.le_of_ble_eq_true rfl) (fun q3 => ?_)
  refine GC.put 0 (ci := 6) (kf := 6) (idx := 18) (by decide) (fok_in (a3 := 39) (by decide +kernel)) rfl rfl rfl rfl rfl (Nat.le_of_ble_eq_true rfl) (by decide +kernel) ?_
  refine GC.aload (k0 := 0) 0 (by decide +kernel) rfl ?_
  refine GC.bipush (n := 10) (nI 10) (by decide +kernel) (by decide) ?_
  refine GC.newi 10 rfl (Nat.le_of_ble_eq_true rfl) (by decide +kernel) (Nat.le_of_ble_eq_true rfl) (Nat.le_of_ble_eq_true rfl) (fun q4 => ?_)
  refine GC.put 0 (ci := 6) (kf := 7) (idx := 21) (by decide) (fok_in (a3 := 42) (by decide +kernel)) rfl rfl rfl rfl rfl (Nat.le_of_ble_eq_true rfl) (by decide +kernel) ?_
  refine GC.aload (k0 := 0) 0 (by decide +kernel) rfl ?_
  refine GC.bipush (n := 10) (nI 10) (by decide +kernel) (by decide) ?_
  refine GC.newi 10 rfl (Nat.le_of_ble_eq_true rfl) (by decide +kernel) (Nat.le_of_ble_eq_true rfl) (Nat.le_of_ble_eq_true rfl) (fun q5 => ?_)
  refine GC.put 0 (ci := 6) (kf := 8) (idx := 24) (by decide) (fok_in (a3 := 46) (by decide +kernel)) rfl rfl rfl rfl rfl (Nat.le_of_ble_eq_true rfl) (by decide +kernel) ?_
  refine GC.aload (k0 := 0) 0 (by decide +kernel) rfl ?_
  refine GC.bipush (n := 10) (nI 10) (by decide +kernel) (by decide) ?_
  refine GC.newi 10 rfl (Nat.le_of_ble_eq_true rfl) (by decide +kernel) (Nat.le_of_ble_eq_true rfl) (Nat.le_of_ble_eq_true rfl) (fun q6 => ?_)
  refine GC.put 0 (ci := 6) (kf := 9) (idx := 27) (by decide) (fok_in (a3 := 48) (by decide +kernel)) rfl rfl rfl rfl rfl (Nat.le_of_ble_eq_true rfl) (by decide +kernel) ?_
  refine GC.aload (k0 := 0) 0 (by decide +kernel) rfl ?_
  refine GC.bipush (n := 6) (nI 6) (by decide +kernel) (by decide) ?_
  refine GC.newi 6 rfl (Nat.le_of_ble_eq_true rfl) (by decide +kernel) (Nat.le_of_ble_eq_true rfl) (Nat.le_of_ble_eq_true rfl) (fun q7 => ?_)
  refine GC.put 0 (ci := 6) (kf := 10) (idx := 30) (by decide) (fok_in (a3 := 50) (by decide +kernel)) rfl rfl rfl rfl rfl (Nat.le_of_ble_eq_true rfl) (by decide +kernel) ?_
  refine GC.aload (k0 := 0) 0 (by decide +kernel) rfl ?_
  refine GC.bipush (n := 64) (nI 64) (by decide +kernel) (by decide) ?_
  refine GC.newi 64 rfl (Nat.le_of_ble_eq_true rfl) (by decide +kernel) (Nat.le_of_ble_eq_true rfl) (Nat.le_of_ble_eq_true rfl) (fun q8 => ?_)
  refine GC.put 0 (ci := 6) (kf := 11) (idx := 33) (by decide) (fok_in (a3 := 52) (by decide +kernel)) rfl rfl rfl rfl rfl (Nat.le_of_ble_eq_true rfl) (by decide +kernel) ?_
  exact GC.ret (by decide +kernel) rfl (Nat.le_of_ble_eq_true rfl) (Nat.le_of_ble_eq_true rfl) ⟨q1, q2, q3, q4, q5, q6, q7, q8, rfl⟩
def mX8_init : MI := (yX8_init, cX8_init, 3, none, 1, 2048, [])
theorem oX8_init : MOK mX8_init 2 := ⟨mg (k := 2) (i := 24) rfl rfl, mg (k := 1) (i := 10) (by decide +kernel) rfl, ⟨by decide +kernel, by decide +kernel, by decide +kernel⟩, by decide +kernel, by decide, rfl⟩
theorem iX8_init : Cond.instanceMethod yX8_init ∈ gt := mg (k := 2) (i := 23) (by decide +kernel) rfl
def postWays (cI : ClassId) (h r1 r2 : Nat) (w : va_W) : Prop := ∃ (q1 : Nat), w = [(h, .inr (7, [.ref r1, .ref r2, .ref q1])), (q1, .inl (cI, 2048, .inl (fun _ => 0)))]
theorem mkWays (l : Launch) (d : Nat) (D : va_G) (cI cL : ClassId) (h r1 r2 : Nat) : Mk l mX8_init (d + 2) D cI cL [.ref h, .ref r1, .ref r2] [(h, .inr (7, [.null, .null, .null]))] (postWays cI h r1 r2) := by
  refine Mk.of oX8_init (Nat.le_of_ble_eq_true rfl) ?_
  refine GC.aload (k0 := 0) 0 (by decide +kernel) rfl ?_
  refine GC.obj (idx := 3) (mg (k := 2) (i := 25) (by decide +kernel) rfl) (by decide +kernel) ?_
  refine GC.aload (k0 := 0) 0 (by decide +kernel) rfl ?_
  refine GC.sipush (n := 2048) (nI 2048) (by decide +kernel) (by decide) ?_
  refine GC.newi 2048 rfl (Nat.le_of_ble_eq_true rfl) (by decide +kernel) (Nat.le_of_ble_eq_true rfl) (Nat.le_of_ble_eq_true rfl) (fun q1 => ?_)
  refine GC.put 0 (ci := 7) (kf := 2) (idx := 9) (by decide) (fok_in (a3 := 90) (by decide +kernel)) rfl rfl rfl rfl rfl (Nat.le_of_ble_eq_true rfl) (by decide +kernel) ?_
  refine GC.aload (k0 := 0) 0 (by decide +kernel) rfl ?_
  refine GC.aload (k0 := 1) 1 (by decide +kernel) rfl ?_
  refine GC.put 0 (ci := 7) (kf := 0) (idx := 15) (by decide) (fok_in (a3 := 88) (by decide +kernel)) rfl rfl rfl rfl rfl (Nat.le_of_ble_eq_true rfl) (by decide +kernel) ?_
  refine GC.aload (k0 := 0) 0 (by decide +kernel) rfl ?_
  refine GC.aload (k0 := 2) 2 (by decide +kernel) rfl ?_
  refine GC.put 0 (ci := 7) (kf := 1) (idx := 19) (by decide) (fok_in (a3 := 89) (by decide +kernel)) rfl rfl rfl rfl rfl (Nat.le_of_ble_eq_true rfl) (by decide +kernel) ?_
  exact GC.ret (by decide +kernel) rfl (Nat.le_of_ble_eq_true rfl) (Nat.le_of_ble_eq_true rfl) ⟨q1, rfl⟩
def mX9_init : MI := (yX9_init, cX9_init, 2, none, 3, 450, [])
theorem oX9_init : MOK mX9_init 1 := ⟨mg (k := 1) (i := 184) rfl rfl, mg (k := 1) (i := 7) (by decide +kernel) rfl, ⟨by decide +kernel, by decide +kernel, by decide +kernel⟩, by decide +kernel, by decide, rfl⟩
theorem iX9_init : Cond.instanceMethod yX9_init ∈ gt := mg (k := 1) (i := 183) (by decide +kernel) rfl
def postWork (cI : ClassId) (h r1 : Nat) (w : va_W) : Prop := ∃ (q1 q2 q3 : Nat), w = [(h, .inr (8, [.int 0, .int 0, .int 0, .int 0, .ref r1, .ref q1, .ref q2, .ref q3])), (q1, .inl (cI, 150, .inl (fun _ => 0))), (q2, .inl (cI, 150, .inl (fun _ => 0))), (q3, .inl (cI, 150, .inl (fun _ => 0)))]
theorem mkWork (l : Launch) (d : Nat) (D : va_G) (cI cL : ClassId) (h r1 : Nat) : Mk l mX9_init (d + 2) D cI cL [.ref h, .ref r1] [(h, .inr (8, [.int 0, .int 0, .int 0, .int 0, .null, .null, .null, .null]))] (postWork cI h r1) := by
  refine Mk.of oX9_init (Nat.le_of_ble_eq_true rfl) ?_
  refine GC.aload (k0 := 0) 0 (by decide +kernel) rfl ?_
  refine GC.obj (idx := 3) (mg (k := 1) (i := 185) (by decide +kernel) rfl) (by decide +kernel) ?_
  refine GC.aload (k0 := 0) 0 (by decide +kernel) rfl ?_
  refine GC.sipush (n := 150) (nI 150) (by decide +kernel) (by decide) ?_
  refine GC.newi 150 rfl (Nat.le_of_ble_eq_true rfl) (by decide +kernel) (Nat.le_of_ble_eq_true rfl) (Nat.le_of_ble_eq_true rfl) (fun q1 => ?_)
  refine GC.put 0 (ci := 8) (kf := 5) (idx := 9) (by decide) (fok_in (a3 := 70) (by decide +kernel)) rfl rfl rfl rfl rfl (Nat.le_of_ble_eq_true rfl) (by decide +kernel) ?_
  refine GC.aload (k0 := 0) 0 (by decide +kernel) rfl ?_
  refine GC.sipush (n := 150) (nI 150) (by decide +kernel) (by decide) ?_
  refine GC.newi 150 rfl (Nat.le_of_ble_eq_true rfl) (by decide +kernel) (Nat.le_of_ble_eq_true rfl) (Nat.le_of_ble_eq_true rfl) (fun q2 => ?_)
  refine GC.put 0 (ci := 8) (kf := 6) (idx := 15) (by decide) (fok_in (a3 := 71) (by decide +kernel)) rfl rfl rfl rfl rfl (Nat.le_of_ble_eq_true rfl) (by decide +kernel) ?_
  refine GC.aload (k0 := 0) 0 (by decide +kernel) rfl ?_
  refine GC.sipush (n := 150) (nI 150) (by decide +kernel) (by decide) ?_
  refine GC.newi 150 rfl (Nat.le_of_ble_eq_true rfl) (by decide +kernel) (Nat.le_of_ble_eq_true rfl) (Nat.le_of_ble_eq_true rfl) (fun q3 => ?_)
  refine GC.put 0 (ci := 8) (kf := 7) (idx := 18) (by decide) (fok_in (a3 := 72) (by decide +kernel)) rfl rfl rfl rfl rfl (Nat.le_of_ble_eq_true rfl) (by decide +kernel) ?_
  refine GC.aload (k0 := 0) 0 (by decide +kernel) rfl ?_
  refine GC.aload (k0 := 1) 1 (by decide +kernel) rfl ?_
  refine GC.put 0 (ci := 8) (kf := 4) (idx := 21) (by decide) (fok_in (a3 := 69) (by decide +kernel)) rfl rfl rfl rfl rfl (Nat.le_of_ble_eq_true rfl) (by decide +kernel) ?_
  exact GC.ret (by decide +kernel) rfl (Nat.le_of_ble_eq_true rfl) (Nat.le_of_ble_eq_true rfl) ⟨q1, q2, q3, rfl⟩
def mX10_init : MI := (yX10_init, cX10_init, 4, none, 0, 0, [])
theorem oX10_init : MOK mX10_init 3 := ⟨mg (k := 2) (i := 70) rfl rfl, mg (k := 1) (i := 12) (by decide +kernel) rfl, ⟨by decide +kernel, by decide +kernel, by decide +kernel⟩, by decide +kernel, by decide, rfl⟩
theorem iX10_init : Cond.instanceMethod yX10_init ∈ gt := mg (k := 2) (i := 69) (by decide +kernel) rfl
def postYears (cI : ClassId) (h r1 r2 r3 : Nat) (w : va_W) : Prop := w = [(h, .inr (9, [.int 0, .int 0, .ref r1, .ref r2, .ref r3]))]
theorem mkYears (l : Launch) (d : Nat) (D : va_G) (cI cL : ClassId) (h r1 r2 r3 : Nat) : Mk l mX10_init (d + 2) D cI cL [.ref h, .ref r1, .ref r2, .ref r3] [(h, .inr (9, [.int 0, .int 0, .null, .null, .null]))] (postYears cI h r1 r2 r3) := by
  refine Mk.of oX10_init (Nat.le_of_ble_eq_true rfl) ?_
  refine GC.aload (k0 := 0) 0 (by decide +kernel) rfl ?_
  refine GC.obj (idx := 1) (mg (k := 2) (i := 71) (by decide +kernel) rfl) (by decide +kernel) ?_
  refine GC.aload (k0 := 0) 0 (by decide +kernel) rfl ?_
  refine GC.aload (k0 := 1) 1 (by decide +kernel) rfl ?_
  refine GC.put 0 (ci := 9) (kf := 2) (idx := 7) (by decide) (fok_in (a3 := 103) (by decide +kernel)) rfl rfl rfl rfl rfl (Nat.le_of_ble_eq_true rfl) (by decide +kernel) ?_
  refine GC.aload (k0 := 0) 0 (by decide +kernel) rfl ?_
  refine GC.aload (k0 := 2) 2 (by decide +kernel) rfl ?_
  refine GC.put 0 (ci := 9) (kf := 3) (idx := 13) (by decide) (fok_in (a3 := 104) (by decide +kernel)) rfl rfl rfl rfl rfl (Nat.le_of_ble_eq_true rfl) (by decide +kernel) ?_
  refine GC.aload (k0 := 0) 0 (by decide +kernel) rfl ?_
  refine GC.aload (k0 := 3) 3 (by decide +kernel) rfl ?_
  refine GC.put 0 (ci := 9) (kf := 4) (idx := 17) (by decide) (fok_in (a3 := 105) (by decide +kernel)) rfl rfl rfl rfl rfl (Nat.le_of_ble_eq_true rfl) (by decide +kernel) ?_
  exact GC.ret (by decide +kernel) rfl (Nat.le_of_ble_eq_true rfl) (Nat.le_of_ble_eq_true rfl) rfl
