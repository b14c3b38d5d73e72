theorem G.iadd {z : Zp} {μ : MI} {d cells slots pc : Nat} {ls : Lo} {r : List Value} {M : Mem} {Q : Rs → Prop} {x y : Int32} (hd : decode μ.b pc = .ok (.iadd, 1)) (k : G z μ d cells slots (pc + 1) ls (.int (x + y) :: r) M Q) : G z μ d cells slots pc ls (.int y :: .int x :: r) M Q := by
  intro p e R s m args below meth c H locs A ad adV cI cL D la C hP hD hS hL
  exact lv_iadd C.1 C.2.1 hd (k p e R s m args below meth c H locs A ad adV cI cL D la C hP hD hS hL)
theorem G.isub {z : Zp} {μ : MI} {d cells slots pc : Nat} {ls : Lo} {r : List Value} {M : Mem} {Q : Rs → Prop} {x y : Int32} (hd : decode μ.b pc = .ok (.isub, 1)) (k : G z μ d cells slots (pc + 1) ls (.int (x - y) :: r) M Q) : G z μ d cells slots pc ls (.int y :: .int x :: r) M Q := by
  intro p e R s m args below meth c H locs A ad adV cI cL D la C hP hD hS hL
  exact lv_isub C.1 C.2.1 hd (k p e R s m args below meth c H locs A ad adV cI cL D la C hP hD hS hL)
theorem G.imul {z : Zp} {μ : MI} {d cells slots pc : Nat} {ls : Lo} {r : List Value} {M : Mem} {Q : Rs → Prop} {x y : Int32} (hd : decode μ.b pc = .ok (.imul, 1)) (k : G z μ d cells slots (pc + 1) ls (.int (x * y) :: r) M Q) : G z μ d cells slots pc ls (.int y :: .int x :: r) M Q := by
  intro p e R s m args below meth c H locs A ad adV cI cL D la C hP hD hS hL
  exact lv_imul C.1 C.2.1 hd (k p e R s m args below meth c H locs A ad adV cI cL D la C hP hD hS hL)
theorem G.iand {z : Zp} {μ : MI} {d cells slots pc : Nat} {ls : Lo} {r : List Value} {M : Mem} {Q : Rs → Prop} {x y : Int32} (hd : decode μ.b pc = .ok (.iand, 1)) (k : G z μ d cells slots (pc + 1) ls (.int (x &&& y) :: r) M Q) : G z μ d cells slots pc ls (.int y :: .int x :: r) M Q := by
  intro p e R s m args below meth c H locs A ad adV cI cL D la C hP hD hS hL
  exact lv_iand C.1 C.2.1 hd (k p e R s m args below meth c H locs A ad adV cI cL D la C hP hD hS hL)
theorem G.ior {z : Zp} {μ : MI} {d cells slots pc : Nat} {ls : Lo} {r : List Value} {M : Mem} {Q : Rs → Prop} {x y : Int32} (hd : decode μ.b pc = .ok (.ior, 1)) (k : G z μ d cells slots (pc + 1) ls (.int (x ||| y) :: r) M Q) : G z μ d cells slots pc ls (.int y :: .int x :: r) M Q := by
  intro p e R s m args below meth c H locs A ad adV cI cL D la C hP hD hS hL
  exact lv_ior C.1 C.2.1 hd (k p e R s m args below meth c H locs A ad adV cI cL D la C hP hD hS hL)
theorem G.ixor {z : Zp} {μ : MI} {d cells slots pc : Nat} {ls : Lo} {r : List Value} {M : Mem} {Q : Rs → Prop} {x y : Int32} (hd : decode μ.b pc = .ok (.ixor, 1)) (k : G z μ d cells slots (pc + 1) ls (.int (x ^^^ y) :: r) M Q) : G z μ d cells slots pc ls (.int y :: .int x :: r) M Q := by
  intro p e R s m args below meth c H locs A ad adV cI cL D la C hP hD hS hL
  exact lv_ixor C.1 C.2.1 hd (k p e R s m args below meth c H locs A ad adV cI cL D la C hP hD hS hL)
theorem G.ishl {z : Zp} {μ : MI} {d cells slots pc : Nat} {ls : Lo} {r : List Value} {M : Mem} {Q : Rs → Prop} {x y : Int32} (hd : decode μ.b pc = .ok (.ishl, 1)) (k : G z μ d cells slots (pc + 1) ls (.int (x <<< (y &&& 31)) :: r) M Q) : G z μ d cells slots pc ls (.int y :: .int x :: r) M Q := by
  intro p e R s m args below meth c H locs A ad adV cI cL D la C hP hD hS hL
  exact lv_ishl C.1 C.2.1 hd (k p e R s m args below meth c H locs A ad adV cI cL D la C hP hD hS hL)
theorem G.ishr {z : Zp} {μ : MI} {d cells slots pc : Nat} {ls : Lo} {r : List Value} {M : Mem} {Q : Rs → Prop} {x y : Int32} (hd : decode μ.b pc = .ok (.ishr, 1)) (k : G z μ d cells slots (pc + 1) ls (.int (x >>> (y &&& 31)) :: r) M Q) : G z μ d cells slots pc ls (.int y :: .int x :: r) M Q := by
  intro p e R s m args below meth c H locs A ad adV cI cL D la C hP hD hS hL
  exact lv_ishr C.1 C.2.1 hd (k p e R s m args below meth c H locs A ad adV cI cL D la C hP hD hS hL)
theorem G.iushr {z : Zp} {μ : MI} {d cells slots pc : Nat} {ls : Lo} {r : List Value} {M : Mem} {Q : Rs → Prop} {x y : Int32} (hd : decode μ.b pc = .ok (.iushr, 1)) (k : G z μ d cells slots (pc + 1) ls (.int ((x.toUInt32 >>> (y.toUInt32 &&& Int32.toUInt32 31)).toInt32) :: r) M Q) : G z μ d cells slots pc ls (.int y :: .int x :: r) M Q := by
  intro p e R s m args below meth c H locs A ad adV cI cL D la C hP hD hS hL
  exact lv_iushr C.1 C.2.1 hd rfl (k p e R s m args below meth c H locs A ad adV cI cL D la C hP hD hS hL)
theorem G.idiv {z : Zp} {μ : MI} {d cells slots pc : Nat} {ls : Lo} {r : List Value} {M : Mem} {Q : Rs → Prop} {x y : Int32} (hd : decode μ.b pc = .ok (.idiv, 1)) (hne : ¬ y = 0) (k : G z μ d cells slots (pc + 1) ls (.int (x / y) :: r) M Q) : G z μ d cells slots pc ls (.int y :: .int x :: r) M Q := by
  intro p e R s m args below meth c H locs A ad adV cI cL D la C hP hD hS hL
  exact lv_idiv C.1 C.2.1 hd hne (k p e R s m args below meth c H locs A ad adV cI cL D la C hP hD hS hL)
theorem G.irem {z : Zp} {μ : MI} {d cells slots pc : Nat} {ls : Lo} {r : List Value} {M : Mem} {Q : Rs → Prop} {x y : Int32} (hd : decode μ.b pc = .ok (.irem, 1)) (hne : ¬ y = 0) (k : G z μ d cells slots (pc + 1) ls (.int (x - x / y * y) :: r) M Q) : G z μ d cells slots pc ls (.int y :: .int x :: r) M Q := by
  intro p e R s m args below meth c H locs A ad adV cI cL D la C hP hD hS hL
  exact lv_irem C.1 C.2.1 hd hne (k p e R s m args below meth c H locs A ad adV cI cL D la C hP hD hS hL)
theorem G.ineg {z : Zp} {μ : MI} {d cells slots pc : Nat} {ls : Lo} {r : List Value} {M : Mem} {Q : Rs → Prop} {x : Int32} (hd : decode μ.b pc = .ok (.ineg, 1)) (k : G z μ d cells slots (pc + 1) ls (.int (-x) :: r) M Q) : G z μ d cells slots pc ls (.int x :: r) M Q := by
  intro p e R s m args below meth c H locs A ad adV cI cL D la C hP hD hS hL
  exact lv_ineg C.1 C.2.1 hd (k p e R s m args below meth c H locs A ad adV cI cL D la C hP hD hS hL)
theorem G.ladd {z : Zp} {μ : MI} {d cells slots pc : Nat} {ls : Lo} {r : List Value} {M : Mem} {Q : Rs → Prop} {x y : Int64} (hd : decode μ.b pc = .ok (.ladd, 1)) (k : G z μ d cells slots (pc + 1) ls (.long (x + y) :: r) M Q) : G z μ d cells slots pc ls (.long y :: .long x :: r) M Q := by
  intro p e R s m args below meth c H locs A ad adV cI cL D la C hP hD hS hL
  exact lv_ladd C.1 C.2.1 hd (k p e R s m args below meth c H locs A ad adV cI cL D la C hP hD hS hL)
theorem G.lsub {z : Zp} {μ : MI} {d cells slots pc : Nat} {ls : Lo} {r : List Value} {M : Mem} {Q : Rs → Prop} {x y : Int64} (hd : decode μ.b pc = .ok (.lsub, 1)) (k : G z μ d cells slots (pc + 1) ls (.long (x - y) :: r) M Q) : G z μ d cells slots pc ls (.long y :: .long x :: r) M Q := by
  intro p e R s m args below meth c H locs A ad adV cI cL D la C hP hD hS hL
  exact lv_lsub C.1 C.2.1 hd (k p e R s m args below meth c H locs A ad adV cI cL D la C hP hD hS hL)
theorem G.lmul {z : Zp} {μ : MI} {d cells slots pc : Nat} {ls : Lo} {r : List Value} {M : Mem} {Q : Rs → Prop} {x y : Int64} (hd : decode μ.b pc = .ok (.lmul, 1)) (k : G z μ d cells slots (pc + 1) ls (.long (x * y) :: r) M Q) : G z μ d cells slots pc ls (.long y :: .long x :: r) M Q := by
  intro p e R s m args below meth c H locs A ad adV cI cL D la C hP hD hS hL
  exact lv_lmul C.1 C.2.1 hd (k p e R s m args below meth c H locs A ad adV cI cL D la C hP hD hS hL)
theorem G.ldiv {z : Zp} {μ : MI} {d cells slots pc : Nat} {ls : Lo} {r : List Value} {M : Mem} {Q : Rs → Prop} {x y : Int64} (hd : decode μ.b pc = .ok (.ldiv, 1)) (hne : ¬ y = 0) (k : G z μ d cells slots (pc + 1) ls (.long (x / y) :: r) M Q) : G z μ d cells slots pc ls (.long y :: .long x :: r) M Q := by
  intro p e R s m args below meth c H locs A ad adV cI cL D la C hP hD hS hL
  exact lv_ldiv C.1 C.2.1 hd hne (k p e R s m args below meth c H locs A ad adV cI cL D la C hP hD hS hL)
theorem G.lrem {z : Zp} {μ : MI} {d cells slots pc : Nat} {ls : Lo} {r : List Value} {M : Mem} {Q : Rs → Prop} {x y : Int64} (hd : decode μ.b pc = .ok (.lrem, 1)) (hne : ¬ y = 0) (k : G z μ d cells slots (pc + 1) ls (.long (x - x / y * y) :: r) M Q) : G z μ d cells slots pc ls (.long y :: .long x :: r) M Q := by
  intro p e R s m args below meth c H locs A ad adV cI cL D la C hP hD hS hL
  exact lv_lrem C.1 C.2.1 hd hne (k p e R s m args below meth c H locs A ad adV cI cL D la C hP hD hS hL)
theorem G.i2l {z : Zp} {μ : MI} {d cells slots pc : Nat} {ls : Lo} {r : List Value} {M : Mem} {Q : Rs → Prop} {x : Int32} (hd : decode μ.b pc = .ok (.i2l, 1)) (k : G z μ d cells slots (pc + 1) ls (.long x.toInt64 :: r) M Q) : G z μ d cells slots pc ls (.int x :: r) M Q := by
  intro p e R s m args below meth c H locs A ad adV cI cL D la C hP hD hS hL
  exact lv_i2l C.1 C.2.1 hd rfl (k p e R s m args below meth c H locs A ad adV cI cL D la C hP hD hS hL)
theorem G.i2c {z : Zp} {μ : MI} {d cells slots pc : Nat} {ls : Lo} {r : List Value} {M : Mem} {Q : Rs → Prop} {x : Int32} (hd : decode μ.b pc = .ok (.i2c, 1)) (k : G z μ d cells slots (pc + 1) ls (.int (x.toUInt32 % 65536).toInt32 :: r) M Q) : G z μ d cells slots pc ls (.int x :: r) M Q := by
  intro p e R s m args below meth c H locs A ad adV cI cL D la C hP hD hS hL
  exact lv_i2c C.1 C.2.1 hd rfl (k p e R s m args below meth c H locs A ad adV cI cL D la C hP hD hS hL)
theorem G.lcmp {z : Zp} {μ : MI} {d cells slots pc : Nat} {ls : Lo} {r : List Value} {M : Mem} {Q : Rs → Prop} {x y : Int64} (hd : decode μ.b pc = .ok (.lcmp, 1)) (k : G z μ d cells slots (pc + 1) ls (.int (lg_cmp x y) :: r) M Q) : G z μ d cells slots pc ls (.long y :: .long x :: r) M Q := by
  intro p e R s m args below meth c H locs A ad adV cI cL D la C hP hD hS hL
  exact W.lcmp C.1 C.2.1 hd (k p e R s m args below meth c H locs A ad adV cI cL D la C hP hD hS hL)
theorem G.dup {z : Zp} {μ : MI} {d cells slots pc : Nat} {ls : Lo} {r : List Value} {M : Mem} {Q : Rs → Prop} {v : Value} (hd : decode μ.b pc = .ok (.dup, 1)) (hv : v.category = 1) (k : G z μ d cells slots (pc + 1) ls (v :: v :: r) M Q) : G z μ d cells slots pc ls (v :: r) M Q := by
  intro p e R s m args below meth c H locs A ad adV cI cL D la C hP hD hS hL
  exact lv_dup C.1 C.2.1 hd ((rv_cat ad v).trans hv) (k p e R s m args below meth c H locs A ad adV cI cL D la C hP hD hS hL)
theorem G.pop {z : Zp} {μ : MI} {d cells slots pc : Nat} {ls : Lo} {r : List Value} {M : Mem} {Q : Rs → Prop} {v : Value} (hd : decode μ.b pc = .ok (.pop, 1)) (hv : v.category = 1) (k : G z μ d cells slots (pc + 1) ls r M Q) : G z μ d cells slots pc ls (v :: r) M Q := by
  intro p e R s m args below meth c H locs A ad adV cI cL D la C hP hD hS hL
  exact lv_pop C.1 C.2.1 hd ((rv_cat ad v).trans hv) (k p e R s m args below meth c H locs A ad adV cI cL D la C hP hD hS hL)
theorem G.dup2 {z : Zp} {μ : MI} {d cells slots pc : Nat} {ls : Lo} {r : List Value} {M : Mem} {Q : Rs → Prop} {v w : Value} (hd : decode μ.b pc = .ok (.dup2, 1)) (hv : v.category = 1) (hw : w.category = 1) (k : G z μ d cells slots (pc + 1) ls (v :: w :: v :: w :: r) M Q) : G z μ d cells slots pc ls (v :: w :: r) M Q := by
  intro p e R s m args below meth c H locs A ad adV cI cL D la C hP hD hS hL
  exact lv_dup2_11 C.1 C.2.1 hd ((rv_cat ad v).trans hv) ((rv_cat ad w).trans hw) (k p e R s m args below meth c H locs A ad adV cI cL D la C hP hD hS hL)
theorem G.iconst {z : Zp} {μ : MI} {d cells slots pc : Nat} {ls : Lo} {r : List Value} {M : Mem} {Q : Rs → Prop} {n : Int} {v : Int32} (hd : decode μ.b pc = .ok (.iconst n, 1)) (hv : Int32.ofInt n = v) (k : G z μ d cells slots (pc + 1) ls (.int v :: r) M Q) : G z μ d cells slots pc ls r M Q := by
  intro p e R s m args below meth c H locs A ad adV cI cL D la C hP hD hS hL
  exact lv_iconst C.1 C.2.1 hd hv (k p e R s m args below meth c H locs A ad adV cI cL D la C hP hD hS hL)
theorem G.bipush {z : Zp} {μ : MI} {d cells slots pc : Nat} {ls : Lo} {r : List Value} {M : Mem} {Q : Rs → Prop} {n : Int} {v : Int32} (hd : decode μ.b pc = .ok (.bipush n, 2)) (hv : (Int8.ofInt n).toInt32 = v) (k : G z μ d cells slots (pc + 2) ls (.int v :: r) M Q) : G z μ d cells slots pc ls r M Q := by
  intro p e R s m args below meth c H locs A ad adV cI cL D la C hP hD hS hL
  exact lv_bipush C.1 C.2.1 hd hv (k p e R s m args below meth c H locs A ad adV cI cL D la C hP hD hS hL)
theorem G.sipush {z : Zp} {μ : MI} {d cells slots pc : Nat} {ls : Lo} {r : List Value} {M : Mem} {Q : Rs → Prop} {n : Int} {v : Int32} (hd : decode μ.b pc = .ok (.sipush n, 3)) (hv : (Int16.ofInt n).toInt32 = v) (k : G z μ d cells slots (pc + 3) ls (.int v :: r) M Q) : G z μ d cells slots pc ls r M Q := by
  intro p e R s m args below meth c H locs A ad adV cI cL D la C hP hD hS hL
  exact lv_sipush C.1 C.2.1 hd hv (k p e R s m args below meth c H locs A ad adV cI cL D la C hP hD hS hL)
theorem G.lconst {z : Zp} {μ : MI} {d cells slots pc : Nat} {ls : Lo} {r : List Value} {M : Mem} {Q : Rs → Prop} {n : Fin 2} {v : Int64} (hd : decode μ.b pc = .ok (.lconst n, 1)) (hv : Int64.ofNat (n : Nat) = v) (k : G z μ d cells slots (pc + 1) ls (.long v :: r) M Q) : G z μ d cells slots pc ls r M Q := by
  intro p e R s m args below meth c H locs A ad adV cI cL D la C hP hD hS hL
  exact lv_lconst C.1 C.2.1 hd hv (k p e R s m args below meth c H locs A ad adV cI cL D la C hP hD hS hL)
theorem G.iload_n {z : Zp} {μ : MI} {d cells slots pc : Nat} {ls : Lo} {r : List Value} {M : Mem} {Q : Rs → Prop} {k0 : Fin 4} {i : Nat} {x : Int32} (hd : decode μ.b pc = .ok (.iload_n k0, 1)) (hi : (k0 : Nat) = i) (hg : lget ls i = some (.int x)) (k : G z μ d cells slots (pc + 1) ls (.int x :: r) M Q) : G z μ d cells slots pc ls r M Q := by
  intro p e R s m args below meth c H locs A ad adV cI cL D la C hP hD hS hL
  exact lv_iload_n C.1 C.2.1 hd hi (hL.2.2.2 i _ hg) (k p e R s m args below meth c H locs A ad adV cI cL D la C hP hD hS hL)
theorem G.iload {z : Zp} {μ : MI} {d cells slots pc : Nat} {ls : Lo} {r : List Value} {M : Mem} {Q : Rs → Prop} {i : Nat} {x : Int32} (hd : decode μ.b pc = .ok (.iload i, 2)) (hg : lget ls i = some (.int x)) (k : G z μ d cells slots (pc + 2) ls (.int x :: r) M Q) : G z μ d cells slots pc ls r M Q := by
  intro p e R s m args below meth c H locs A ad adV cI cL D la C hP hD hS hL
  exact lv_iload C.1 C.2.1 hd (hL.2.2.2 i _ hg) (k p e R s m args below meth c H locs A ad adV cI cL D la C hP hD hS hL)
theorem G.istore_n {z : Zp} {μ : MI} {d cells slots pc : Nat} {ls : Lo} {r : List Value} {M : Mem} {Q : Rs → Prop} {k0 : Fin 4} {i : Nat} {x : Int32} (hd : decode μ.b pc = .ok (.istore_n k0, 1)) (hi : (k0 : Nat) = i) (hb : i < μ.ml) (k : G z μ d cells slots (pc + 1) (set1 ls i (.int x)) r M Q) : G z μ d cells slots pc ls (.int x :: r) M Q := by
  intro p e R s m args below meth c H locs A ad adV cI cL D la C hP hD hS hL
  exact lv_istore_n C.1 C.2.1 hd hi hL.has hb rfl (fun la2 h2 => k p e R s m args below meth c H locs A ad adV cI cL D la2 C hP hD hS (LR.st1 (v := .int x) hL hb h2))
theorem G.istore {z : Zp} {μ : MI} {d cells slots pc : Nat} {ls : Lo} {r : List Value} {M : Mem} {Q : Rs → Prop} {i : Nat} {x : Int32} (hd : decode μ.b pc = .ok (.istore i, 2)) (hb : i < μ.ml) (k : G z μ d cells slots (pc + 2) (set1 ls i (.int x)) r M Q) : G z μ d cells slots pc ls (.int x :: r) M Q := by
  intro p e R s m args below meth c H locs A ad adV cI cL D la C hP hD hS hL
  exact lv_istore C.1 C.2.1 hd hL.has hb rfl (fun la2 h2 => k p e R s m args below meth c H locs A ad adV cI cL D la2 C hP hD hS (LR.st1 (v := .int x) hL hb h2))
theorem G.lload_n {z : Zp} {μ : MI} {d cells slots pc : Nat} {ls : Lo} {r : List Value} {M : Mem} {Q : Rs → Prop} {k0 : Fin 4} {i : Nat} {x : Int64} (hd : decode μ.b pc = .ok (.lload_n k0, 1)) (hi : (k0 : Nat) = i) (hg : lget ls i = some (.long x)) (k : G z μ d cells slots (pc + 1) ls (.long x :: r) M Q) : G z μ d cells slots pc ls r M Q := by
  intro p e R s m args below meth c H locs A ad adV cI cL D la C hP hD hS hL
  exact lv_lload_n C.1 C.2.1 hd hi (hL.2.2.2 i _ hg) (k p e R s m args below meth c H locs A ad adV cI cL D la C hP hD hS hL)
theorem G.lload {z : Zp} {μ : MI} {d cells slots pc : Nat} {ls : Lo} {r : List Value} {M : Mem} {Q : Rs → Prop} {i : Nat} {x : Int64} (hd : decode μ.b pc = .ok (.lload i, 2)) (hg : lget ls i = some (.long x)) (k : G z μ d cells slots (pc + 2) ls (.long x :: r) M Q) : G z μ d cells slots pc ls r M Q := by
  intro p e R s m args below meth c H locs A ad adV cI cL D la C hP hD hS hL
  exact lv_lload C.1 C.2.1 hd (hL.2.2.2 i _ hg) (k p e R s m args below meth c H locs A ad adV cI cL D la C hP hD hS hL)
theorem G.lstore_n {z : Zp} {μ : MI} {d cells slots pc : Nat} {ls : Lo} {r : List Value} {M : Mem} {Q : Rs → Prop} {k0 : Fin 4} {i : Nat} {x : Int64} (hd : decode μ.b pc = .ok (.lstore_n k0, 1)) (hi : (k0 : Nat) = i) (hb : i + 1 < μ.ml) (k : G z μ d cells slots (pc + 1) (set2 ls i (.long x)) r M Q) : G z μ d cells slots pc ls (.long x :: r) M Q := by
  intro p e R s m args below meth c H locs A ad adV cI cL D la C hP hD hS hL
  exact lv_lstore_n C.1 C.2.1 hd hi hL.has hb rfl (fun la2 h2 => k p e R s m args below meth c H locs A ad adV cI cL D la2 C hP hD hS (LR.st2 (v := .long x) hL hb h2))
theorem G.lstore {z : Zp} {μ : MI} {d cells slots pc : Nat} {ls : Lo} {r : List Value} {M : Mem} {Q : Rs → Prop} {i : Nat} {x : Int64} (hd : decode μ.b pc = .ok (.lstore i, 2)) (hb : i + 1 < μ.ml) (k : G z μ d cells slots (pc + 2) (set2 ls i (.long x)) r M Q) : G z μ d cells slots pc ls (.long x :: r) M Q := by
  intro p e R s m args below meth c H locs A ad adV cI cL D la C hP hD hS hL
  exact lv_lstore C.1 C.2.1 hd hL.has hb rfl (fun la2 h2 => k p e R s m args below meth c H locs A ad adV cI cL D la2 C hP hD hS (LR.st2 (v := .long x) hL hb h2))
theorem G.aload_n {z : Zp} {μ : MI} {d cells slots pc : Nat} {ls : Lo} {r : List Value} {M : Mem} {Q : Rs → Prop} {k0 : Fin 4} {i : Nat} {x : Nat} (hd : decode μ.b pc = .ok (.aload_n k0, 1)) (hi : (k0 : Nat) = i) (hg : lget ls i = some (.ref x)) (k : G z μ d cells slots (pc + 1) ls (.ref x :: r) M Q) : G z μ d cells slots pc ls r M Q := by
  intro p e R s m args below meth c H locs A ad adV cI cL D la C hP hD hS hL
  exact lv_aload_n C.1 C.2.1 hd hi (hL.2.2.2 i _ hg) (k p e R s m args below meth c H locs A ad adV cI cL D la C hP hD hS hL)
theorem G.aload {z : Zp} {μ : MI} {d cells slots pc : Nat} {ls : Lo} {r : List Value} {M : Mem} {Q : Rs → Prop} {i : Nat} {x : Nat} (hd : decode μ.b pc = .ok (.aload i, 2)) (hg : lget ls i = some (.ref x)) (k : G z μ d cells slots (pc + 2) ls (.ref x :: r) M Q) : G z μ d cells slots pc ls r M Q := by
  intro p e R s m args below meth c H locs A ad adV cI cL D la C hP hD hS hL
  exact lv_aload C.1 C.2.1 hd (hL.2.2.2 i _ hg) (k p e R s m args below meth c H locs A ad adV cI cL D la C hP hD hS hL)
theorem G.astore_n {z : Zp} {μ : MI} {d cells slots pc : Nat} {ls : Lo} {r : List Value} {M : Mem} {Q : Rs → Prop} {k0 : Fin 4} {i : Nat} {x : Nat} (hd : decode μ.b pc = .ok (.astore_n k0, 1)) (hi : (k0 : Nat) = i) (hb : i < μ.ml) (k : G z μ d cells slots (pc + 1) (set1 ls i (.ref x)) r M Q) : G z μ d cells slots pc ls (.ref x :: r) M Q := by
  intro p e R s m args below meth c H locs A ad adV cI cL D la C hP hD hS hL
  exact lv_astore_n C.1 C.2.1 hd hi hL.has hb rfl (fun la2 h2 => k p e R s m args below meth c H locs A ad adV cI cL D la2 C hP hD hS (LR.st1 (v := .ref x) hL hb h2))
theorem G.astore {z : Zp} {μ : MI} {d cells slots pc : Nat} {ls : Lo} {r : List Value} {M : Mem} {Q : Rs → Prop} {i : Nat} {x : Nat} (hd : decode μ.b pc = .ok (.astore i, 2)) (hb : i < μ.ml) (k : G z μ d cells slots (pc + 2) (set1 ls i (.ref x)) r M Q) : G z μ d cells slots pc ls (.ref x :: r) M Q := by
  intro p e R s m args below meth c H locs A ad adV cI cL D la C hP hD hS hL
  exact lv_astore C.1 C.2.1 hd hL.has hb rfl (fun la2 h2 => k p e R s m args below meth c H locs A ad adV cI cL D la2 C hP hD hS (LR.st1 (v := .ref x) hL hb h2))
theorem G.iinc {z : Zp} {μ : MI} {d cells slots pc : Nat} {ls : Lo} {r : List Value} {M : Mem} {Q : Rs → Prop} {i : Nat} {n : Int} {x v w : Int32} (hd : decode μ.b pc = .ok (.iinc i n, 3)) (hg : lget ls i = some (.int x)) (hv : Int32.ofInt n = v) (hw : x + v = w) (hb : i < μ.ml) (k : G z μ d cells slots (pc + 3) (set1 ls i (.int w)) r M Q) : G z μ d cells slots pc ls r M Q := by
  intro p e R s m args below meth c H locs A ad adV cI cL D la C hP hD hS hL
  obtain ⟨k9, hk9⟩ := List.getElem?_of_mem (lA_mem (ad := ad) hg)
  exact lv_iinc C.1 C.2.1 hd hL.has hk9 (by rw [hv]; exact hw) hb rfl (fun la2 h2 => k p e R s m args below meth c H locs A ad adV cI cL D la2 C hP hD hS (LR.st1 (v := .int w) hL hb h2))
theorem G.goto {z : Zp} {μ : MI} {d cells slots pc : Nat} {ls : Lo} {r : List Value} {M : Mem} {Q : Rs → Prop} {off : Int} {tgt : Nat} (hd : decode μ.b pc = .ok (.goto off, 3)) (ht : (pc : Int) + off = (tgt : Int)) (k : G z μ d cells slots tgt ls r M Q) : G z μ d cells slots pc ls r M Q := by
  intro p e R s m args below meth c H locs A ad adV cI cL D la C hP hD hS hL
  exact lv_goto C.1 C.2.1 hd ht (k p e R s m args below meth c H locs A ad adV cI cL D la C hP hD hS hL)
theorem G.ldci {z : Zp} {μ : MI} {d cells slots pc : Nat} {ls : Lo} {r : List Value} {M : Mem} {Q : Rs → Prop} {i : Nat} {v : Int32} (hc : Cond.constant μ.y.cls i v ∈ gt) (hd : decode μ.b pc = .ok (.ldc i, 2)) (k : G z μ d cells slots (pc + 2) ls (.int v :: r) M Q) : G z μ d cells slots pc ls r M Q := by
  intro p e R s m args below meth c H locs A ad adV cI cL D la C hP hD hS hL
  exact lv_ldc C.1 C.2.1 C.2.2.2.2.1 (C.2.2.2.2.2.1 _ hc) hd (k p e R s m args below meth c H locs A ad adV cI cL D la C hP hD hS hL)
theorem G.ldciw {z : Zp} {μ : MI} {d cells slots pc : Nat} {ls : Lo} {r : List Value} {M : Mem} {Q : Rs → Prop} {i : Nat} {v : Int32} (hc : Cond.constant μ.y.cls i v ∈ gt) (hd : decode μ.b pc = .ok (.ldc_w i, 3)) (k : G z μ d cells slots (pc + 3) ls (.int v :: r) M Q) : G z μ d cells slots pc ls r M Q := by
  intro p e R s m args below meth c H locs A ad adV cI cL D la C hP hD hS hL
  exact lv_ldcw C.1 C.2.1 C.2.2.2.2.1 (C.2.2.2.2.2.1 _ hc) hd (k p e R s m args below meth c H locs A ad adV cI cL D la C hP hD hS hL)
theorem G.ldcs {z : Zp} {μ : MI} {d cells slots pc : Nat} {ls : Lo} {r : List Value} {M : Mem} {Q : Rs → Prop} {i q : Nat} (hq : q < 25) (ho : sOwn.getD q "" = μ.y.cls) (hi : sIdx.getD q 0 = i) (hd : decode μ.b pc = .ok (.ldc i, 2)) (k : G z μ d cells slots (pc + 2) ls (.ref (1000 + q) :: r) M Q) : G z μ d cells slots pc ls r M Q := by
  intro p e R s m args below meth c H locs A ad adV cI cL D la C hP hD hS hL
  have hZ := C.2.2.2.2.2.2.2.2.2.2.1.2.2.1 q hq
  rw [ho, hi] at hZ
  intro T hT X
  obtain ⟨t, a1, b1⟩ := k p e R s m args below meth c H locs A ad adV cI cL D la C hP hD hS hL T hT X
  exact ⟨t, X.ldcString C.1 C.2.2.2.2.1 (text := sTx.getD q "") (a := ad (1000 + q)) hZ.1 hZ.2 (g := F0 m pc la (r.map (rv ad))) rfl (by rw [C.2.1]; exact hd) t a1, b1⟩
theorem G.ldcsw {z : Zp} {μ : MI} {d cells slots pc : Nat} {ls : Lo} {r : List Value} {M : Mem} {Q : Rs → Prop} {i q : Nat} (hq : q < 25) (ho : sOwn.getD q "" = μ.y.cls) (hi : sIdx.getD q 0 = i) (hd : decode μ.b pc = .ok (.ldc_w i, 3)) (k : G z μ d cells slots (pc + 3) ls (.ref (1000 + q) :: r) M Q) : G z μ d cells slots pc ls r M Q := by
  intro p e R s m args below meth c H locs A ad adV cI cL D la C hP hD hS hL
  have hZ := C.2.2.2.2.2.2.2.2.2.2.1.2.2.1 q hq
  rw [ho, hi] at hZ
  intro T hT X
  obtain ⟨t, a1, b1⟩ := k p e R s m args below meth c H locs A ad adV cI cL D la C hP hD hS hL T hT X
  exact ⟨t, X.ldcStringW C.1 C.2.2.2.2.1 (text := sTx.getD q "") (a := ad (1000 + q)) hZ.1 hZ.2 (g := F0 m pc la (r.map (rv ad))) rfl (by rw [C.2.1]; exact hd) t a1, b1⟩
theorem G.iaload {z : Zp} {μ : MI} {d cells slots pc : Nat} {ls : Lo} {r : List Value} {M : Mem} {Q : Rs → Prop} {a n : Nat} {i : Int32} (ha : shp[a]? = some (.inl (false, n))) (hi : vp_in i n) (hd : decode μ.b pc = .ok (.iaload, 1)) (k : G z μ d cells slots (pc + 1) ls (.int (M.1 a i.toNatClampNeg) :: r) M Q) : G z μ d cells slots pc ls (.int i :: .ref a :: r) M Q := by
  intro p e R s m args below meth c H locs A ad adV cI cL D la C hP hD hS hL
  exact va_iald C.1 C.2.1 C.2.2.2.2.2.2.2.2.1 hP a 0 (wld_get (shq_i ha)) rfl hi hd (k p e R s m args below meth c H locs A ad adV cI cL D la C hP hD hS hL)
theorem G.iaload_s {z : Zp} {μ : MI} {d cells slots pc : Nat} {ls : Lo} {r : List Value} {M : Mem} {Q : Rs → Prop} {i : Int32} (hi : vp_in i z.2.1) (hd : decode μ.b pc = .ok (.iaload, 1)) (k : G z μ d cells slots (pc + 1) ls (.int (z.2.2 i.toNatClampNeg) :: r) M Q) : G z μ d cells slots pc ls (.int i :: .ref 3000 :: r) M Q := by
  intro p e R s m args below meth c H locs A ad adV cI cL D la C hP hD hS hL
  have hE := C.2.2.2.2.2.2.2.2.2.2.1.2.2.2.2.2.2.1
  exact va_sld C.1 C.2.1 hE.1 hE.2.2 hE.2.1 hS hi hd (k p e R s m args below meth c H locs A ad adV cI cL D la C hP hD hS hL)
theorem G.iaload_d {z : Zp} {μ : MI} {d cells slots pc : Nat} {ls : Lo} {r : List Value} {M : Mem} {Q : Rs → Prop} {i : Int32} (hi : vp_in i 4) (hd : decode μ.b pc = .ok (.iaload, 1)) (k : G z μ d cells slots (pc + 1) ls (.int (dds i.toNatClampNeg) :: r) M Q) : G z μ d cells slots pc ls (.int i :: .ref 2000 :: r) M Q := by
  intro p e R s m args below meth c H locs A ad adV cI cL D la C hP hD hS hL
  have hE := C.2.2.2.2.2.2.2.2.2.2.1.2.2.2.2.2.1
  exact va_ti C.1 C.2.1 hE hS hi rfl hd (k p e R s m args below meth c H locs A ad adV cI cL D la C hP hD hS hL)
theorem G.iastore {z : Zp} {μ : MI} {d cells slots pc : Nat} {ls : Lo} {r : List Value} {M : Mem} {Q : Rs → Prop} {a n : Nat} {i x : Int32} (ha : shp[a]? = some (.inl (false, n))) (hi : vp_in i n) (hd : decode μ.b pc = .ok (.iastore, 1)) (k : G z μ d cells slots (pc + 1) ls r (mput M a i.toNatClampNeg x) Q) : G z μ d cells slots pc ls (.int x :: .int i :: .ref a :: r) M Q := by
  intro p e R s m args below meth c H locs A ad adV cI cL D la C hP hD hS hL
  refine va_iast C.1 C.2.1 C.2.2.2.2.2.2.2.2.1 hP hD hS a 0 (wld_get (shq_i ha)) rfl hi hd (fun H1 locs1 hP1 hD1 hS1 => ?_)
  rw [wld_put (shq_i ha)] at hP1 hD1
  exact k p e R s m args below meth c H1 locs1 A ad adV cI cL D la C hP1 hD1 hS1 hL
theorem out_one : ∀ (j : Nat) (s : Sh), shp[j]? = some s → j ≠ 80 → ∀ n, s ≠ .inl (true, n) := by
  have key : ((List.range 81).all (fun j => match shp[j]? with | some (.inl (true, _)) => j == 80 | _ => true)) = true := by decide +kernel
  intro j s hs hj n e
  subst e
  have hl : j < 81 := (List.getElem?_eq_some_iff.mp hs).1
  have := List.all_eq_true.mp key j (List.mem_range.mpr hl)
  rw [hs] at this
  exact hj (by simpa using this)
theorem out_at : shp[80]? = some (.inl (true, 1)) := rfl
theorem z_in1 : vp_in 0 1 := by unfold vp_in; decide
theorem G.laload {z : Zp} {μ : MI} {d cells slots pc : Nat} {ls : Lo} {r : List Value} {M : Mem} {Q : Rs → Prop} {i : Int32} (hw : oW z = true) (hi : i = 0) (hd : decode μ.b pc = .ok (.laload, 1)) (k : G z μ d cells slots (pc + 1) ls (.long M.2 :: r) M Q) : G z μ d cells slots pc ls (.int i :: .ref 80 :: r) M Q := by
  intro p e R s m args below meth c H locs A ad adV cI cL D la C hP hD hS hL
  subst hi
  exact va_lald C.1 C.2.1 C.2.2.2.2.2.2.2.2.1 hP 80 1 (wld_get (shq_t hw out_at)) rfl z_in1 hd (k p e R s m args below meth c H locs A ad adV cI cL D la C hP hD hS hL)
theorem G.lastore {z : Zp} {μ : MI} {d cells slots pc : Nat} {ls : Lo} {r : List Value} {M : Mem} {Q : Rs → Prop} {i : Int32} {x : Int64} (hw : oW z = true) (hi : i = 0) (hd : decode μ.b pc = .ok (.lastore, 1)) (k : G z μ d cells slots (pc + 1) ls r (mout M x) Q) : G z μ d cells slots pc ls (.long x :: .int i :: .ref 80 :: r) M Q := by
  intro p e R s m args below meth c H locs A ad adV cI cL D la C hP hD hS hL
  subst hi
  refine va_last C.1 C.2.1 C.2.2.2.2.2.2.2.2.1 hP hD hS 80 1 (wld_get (shq_t hw out_at)) rfl z_in1 hd (fun H1 locs1 hP1 hD1 hS1 => ?_)
  have e0 : (0 : Int32).toNatClampNeg = 0 := rfl
  rw [e0, wld_out (shq_t hw out_at) (fun j s9 h9 => out_one j s9 (shq_un h9))] at hP1 hD1
  exact k p e R s m args below meth c H1 locs1 A ad adV cI cL D la C hP1 hD1 hS1 hL
theorem G.alen {z : Zp} {μ : MI} {d cells slots pc : Nat} {ls : Lo} {r : List Value} {M : Mem} {Q : Rs → Prop} {a n : Nat} (ha : shp[a]? = some (.inl (false, n))) (hd : decode μ.b pc = .ok (.arraylength, 1)) (k : G z μ d cells slots (pc + 1) ls (.int (Int32.ofNat n) :: r) M Q) : G z μ d cells slots pc ls (.ref a :: r) M Q := by
  intro p e R s m args below meth c H locs A ad adV cI cL D la C hP hD hS hL
  exact va_alen C.1 C.2.1 C.2.2.2.2.2.2.2.2.1 hP a 0 (wld_get (shq_i ha)) rfl rfl hd (k p e R s m args below meth c H locs A ad adV cI cL D la C hP hD hS hL)
theorem G.alen_s {z : Zp} {μ : MI} {d cells slots pc : Nat} {ls : Lo} {r : List Value} {M : Mem} {Q : Rs → Prop} (hd : decode μ.b pc = .ok (.arraylength, 1)) (k : G z μ d cells slots (pc + 1) ls (.int (Int32.ofNat z.2.1) :: r) M Q) : G z μ d cells slots pc ls (.ref 3000 :: r) M Q := by
  intro p e R s m args below meth c H locs A ad adV cI cL D la C hP hD hS hL
  have hE := C.2.2.2.2.2.2.2.2.2.2.1.2.2.2.2.2.2.1
  exact va_slen C.1 C.2.1 hE.1 hE.2.2 hE.2.1 hS hd (k p e R s m args below meth c H locs A ad adV cI cL D la C hP hD hS hL)
theorem G.alen_d {z : Zp} {μ : MI} {d cells slots pc : Nat} {ls : Lo} {r : List Value} {M : Mem} {Q : Rs → Prop} (hd : decode μ.b pc = .ok (.arraylength, 1)) (k : G z μ d cells slots (pc + 1) ls (.int 4 :: r) M Q) : G z μ d cells slots pc ls (.ref 2000 :: r) M Q := by
  intro p e R s m args below meth c H locs A ad adV cI cL D la C hP hD hS hL
  have hE := C.2.2.2.2.2.2.2.2.2.2.1.2.2.2.2.2.1
  exact va_tlen C.1 C.2.1 hE hS rfl hd (k p e R s m args below meth c H locs A ad adV cI cL D la C hP hD hS hL)
def fok (own : String) (idx ci k : Nat) : Prop := vwCl[ci]? = some (clT ci) ∧ k < (clT ci).2.2 ∧ Cond.fieldLink own idx ((clT ci).2.1 k).1 ((clT ci).2.1 k).2.1 ((clT ci).2.1 k).2.2.1 ∈ gt ∧ (∀ w ∈ u_ws (clT ci).1 (clT ci).2.1 (clT ci).2.2, w ∈ gt)
def tyT : List (Nat → FieldType) := [tyX0, tyX1, tyX2, tyX3, tyX5, tyX6, tyX7, tyX8, tyX9, tyX10, tyX11, tyX12]
theorem cl_lt : ∀ ci, ci < 12 → vwCl[ci]? = some (clT ci) ∧ (∀ w ∈ u_ws (clT ci).1 (clT ci).2.1 (clT ci).2.2, w ∈ gt) ∧ (∀ k, k < (clT ci).2.2 → parseFieldDescriptor ((clT ci).2.1 k).2.2.1 = some (tyT.getD ci tyX0 k)) ∧ ∀ a, a < (clT ci).2.2 → ∀ b, b < (clT ci).2.2 → a ≠ b → ((clT ci).2.1 a).2.1 ≠ ((clT ci).2.1 b).2.1
  | 0, _ => ⟨rfl, hi_0, tyX0_ok, nmX0⟩
  | 1, _ => ⟨rfl, hi_1, tyX1_ok, nmX1⟩
  | 2, _ => ⟨rfl, hi_2, tyX2_ok, nmX2⟩
  | 3, _ => ⟨rfl, hi_3, tyX3_ok, nmX3⟩
  | 4, _ => ⟨rfl, hi_4, tyX5_ok, nmX5⟩
  | 5, _ => ⟨rfl, hi_5, tyX6_ok, nmX6⟩
  | 6, _ => ⟨rfl, hi_6, tyX7_ok, nmX7⟩
  | 7, _ => ⟨rfl, hi_7, tyX8_ok, nmX8⟩
  | 8, _ => ⟨rfl, hi_8, tyX9_ok, nmX9⟩
  | 9, _ => ⟨rfl, hi_9, tyX10_ok, nmX10⟩
  | 10, _ => ⟨rfl, hi_10, tyX11_ok, nmX11⟩
  | 11, _ => ⟨rfl, hi_11, tyX12_ok, nmX12⟩
  | n + 12, h => absurd h (by omega)
theorem fok_of {own : String} {idx ci k p p2 : Nat} (h : (own, idx, ci, k, p, p2) ∈ flk) : fok own idx ci k := by
  have h1 := flk_ok _ h
  simp only [okf, Bool.and_eq_true, decide_eq_true_eq] at h1
  obtain ⟨⟨h1, h2⟩, h3⟩ := h1
  exact ⟨(cl_lt ci h3).1, h2, mg h1 rfl, (cl_lt ci h3).2.1⟩
theorem G.getf {z : Zp} {μ : MI} {d cells slots pc : Nat} {ls : Lo} {r : List Value} {M : Mem} {Q : Rs → Prop} {a ci kf idx : Nat} {fs : List (Option Nat)} {v : Value} (ha : shp[a]? = some (.inr (ci, fs))) (hf : fok μ.y.cls idx ci kf) (hv : fs[kf]?.map (fun o => match o with | none => Value.int (M.1 a kf) | some b => Value.ref b) = some v) (hd : decode μ.b pc = .ok (.getfield idx, 3)) (k : G z μ d cells slots (pc + 3) ls (v :: r) M Q) : G z μ d cells slots pc ls (.ref a :: r) M Q := by
  intro p e R s m args below meth c H locs A ad adV cI cL D la C hP hD hS hL
  refine va_get (D := D) (ci := ci) (v := rv ad v) (C := (clT ci).1) (T := (clT ci).2.1) (N := (clT ci).2.2) C.1 C.2.1 C.2.2.2.2.2.1 hf.2.2.2 C.2.2.2.2.1 C.2.2.2.2.2.2.2.2.1 hP a (wld_get (shq_o ha)) hf.1 kf hf.2.1 (C.2.2.2.2.2.1 _ hf.2.2.1) (fun _ h9 => h9) ?_ hd (k p e R s m args below meth c H locs A ad adV cI cL D la C hP hD hS hL)
  rw [wfs_get]
  cases ho : fs[kf]? with
  | none => rw [ho] at hv; cases hv
  | some o =>
    rw [ho] at hv
    cases o with
    | none => cases hv; simp [rv]
    | some b => cases hv; simp [rv]
theorem G.putf {z : Zp} {μ : MI} {d cells slots pc : Nat} {ls : Lo} {r : List Value} {M : Mem} {Q : Rs → Prop} {a ci kf idx : Nat} {fs : List (Option Nat)} {x : Int32} (hci : ci < 12) (ha : shp[a]? = some (.inr (ci, fs))) (hf : fok μ.y.cls idx ci kf) (hv : fs[kf]? = some none) (hfin : ((clT ci).2.1 kf).2.2.2 = false) (hty : parseFieldDescriptor ((clT ci).2.1 kf).2.2.1 = some .int) (hd : decode μ.b pc = .ok (.putfield idx, 3)) (k : G z μ d cells slots (pc + 3) ls r (mput M a kf x) Q) : G z μ d cells slots pc ls (.int x :: .ref a :: r) M Q := by
  intro p e R s m args below meth c H locs A ad adV cI cL D la C hP hD hS hL
  have hw := cl_lt ci hci
  refine va_put (D := D) (ci := ci) (v := .int x) (ty := .int) (C := (clT ci).1) (T := (clT ci).2.1) (N := (clT ci).2.2) C.1 C.2.1 C.2.2.2.2.2.1 hf.2.2.2 (tyT.getD ci tyX0) hw.2.2.1 hw.2.2.2 C.2.2.2.2.1 C.2.2.2.2.2.2.2.2.1 hP hD hS a (wld_get (shq_o ha)) hf.1 kf hf.2.1 (C.2.2.2.2.2.1 _ hf.2.2.1) (fun _ h9 => h9) hfin hty rfl rfl (by rw [wfs_len]; exact (List.getElem?_eq_some_iff.mp hv).1) hd (fun H1 locs1 hP1 hD1 hS1 => ?_)
  rw [wld_putf (shq_o ha) hv] at hP1 hD1
  exact k p e R s m args below meth c H1 locs1 A ad adV cI cL D la C hP1 hD1 hS1 hL
theorem G.gets {z : Zp} {μ : MI} {d cells slots pc : Nat} {ls : Lo} {r : List Value} {M : Mem} {Q : Rs → Prop} (ho : μ.y.cls = "EvenFinders$Odds") (hd : decode μ.b pc = .ok (.getstatic ddIdx, 3)) (k : G z μ d cells slots (pc + 3) ls (.ref 2000 :: r) M Q) : G z μ d cells slots pc ls r M Q := by
  intro p e R s m args below meth c H locs A ad adV cI cL D la C hP hD hS hL
  have hE := C.2.2.2.2.2.2.2.2.2.2.1.2.2.2.2.1
  exact va_gets C.1 C.2.1 hE hS C.2.2.2.2.1 (by rw [ho]; exact C.2.2.2.2.2.1 _ dd_ok) (fun _ h9 => h9) hd (k p e R s m args below meth c H locs A ad adV cI cL D la C hP hD hS hL)
theorem G.if_eq {z : Zp} {μ : MI} {d cells slots pc : Nat} {ls : Lo} {r : List Value} {M : Mem} {Q : Rs → Prop} {x : Int32} {off : Int} {tgt : Nat} (hd : decode μ.b pc = .ok (.ifCond .eq off, 3)) (ht : (pc : Int) + off = (tgt : Int)) (kt : x = 0 → G z μ d cells slots tgt ls r M Q) (kf : ¬ x = 0 → G z μ d cells slots (pc + 3) ls r M Q) : G z μ d cells slots pc ls (.int x :: r) M Q := by
  intro p e R s m args below meth c H locs A ad adV cI cL D la C hP hD hS hL
  exact lv_if_eq C.1 C.2.1 hd ht (fun h => kt h p e R s m args below meth c H locs A ad adV cI cL D la C hP hD hS hL) (fun h => kf h p e R s m args below meth c H locs A ad adV cI cL D la C hP hD hS hL)
theorem G.if_ne {z : Zp} {μ : MI} {d cells slots pc : Nat} {ls : Lo} {r : List Value} {M : Mem} {Q : Rs → Prop} {x : Int32} {off : Int} {tgt : Nat} (hd : decode μ.b pc = .ok (.ifCond .ne off, 3)) (ht : (pc : Int) + off = (tgt : Int)) (kt : ¬ x = 0 → G z μ d cells slots tgt ls r M Q) (kf : x = 0 → G z μ d cells slots (pc + 3) ls r M Q) : G z μ d cells slots pc ls (.int x :: r) M Q := by
  intro p e R s m args below meth c H locs A ad adV cI cL D la C hP hD hS hL
  exact lv_if_ne C.1 C.2.1 hd ht (fun h => kt h p e R s m args below meth c H locs A ad adV cI cL D la C hP hD hS hL) (fun h => kf h p e R s m args below meth c H locs A ad adV cI cL D la C hP hD hS hL)
theorem G.if_lt {z : Zp} {μ : MI} {d cells slots pc : Nat} {ls : Lo} {r : List Value} {M : Mem} {Q : Rs → Prop} {x : Int32} {off : Int} {tgt : Nat} (hd : decode μ.b pc = .ok (.ifCond .lt off, 3)) (ht : (pc : Int) + off = (tgt : Int)) (kt : x < 0 → G z μ d cells slots tgt ls r M Q) (kf : ¬ x < 0 → G z μ d cells slots (pc + 3) ls r M Q) : G z μ d cells slots pc ls (.int x :: r) M Q := by
  intro p e R s m args below meth c H locs A ad adV cI cL D la C hP hD hS hL
  exact lv_if_lt C.1 C.2.1 hd ht (fun h => kt h p e R s m args below meth c H locs A ad adV cI cL D la C hP hD hS hL) (fun h => kf h p e R s m args below meth c H locs A ad adV cI cL D la C hP hD hS hL)
theorem G.if_ge {z : Zp} {μ : MI} {d cells slots pc : Nat} {ls : Lo} {r : List Value} {M : Mem} {Q : Rs → Prop} {x : Int32} {off : Int} {tgt : Nat} (hd : decode μ.b pc = .ok (.ifCond .ge off, 3)) (ht : (pc : Int) + off = (tgt : Int)) (kt : 0 ≤ x → G z μ d cells slots tgt ls r M Q) (kf : ¬ 0 ≤ x → G z μ d cells slots (pc + 3) ls r M Q) : G z μ d cells slots pc ls (.int x :: r) M Q := by
  intro p e R s m args below meth c H locs A ad adV cI cL D la C hP hD hS hL
  exact lv_if_ge C.1 C.2.1 hd ht (fun h => kt h p e R s m args below meth c H locs A ad adV cI cL D la C hP hD hS hL) (fun h => kf h p e R s m args below meth c H locs A ad adV cI cL D la C hP hD hS hL)
theorem G.if_gt {z : Zp} {μ : MI} {d cells slots pc : Nat} {ls : Lo} {r : List Value} {M : Mem} {Q : Rs → Prop} {x : Int32} {off : Int} {tgt : Nat} (hd : decode μ.b pc = .ok (.ifCond .gt off, 3)) (ht : (pc : Int) + off = (tgt : Int)) (kt : 0 < x → G z μ d cells slots tgt ls r M Q) (kf : ¬ 0 < x → G z μ d cells slots (pc + 3) ls r M Q) : G z μ d cells slots pc ls (.int x :: r) M Q := by
  intro p e R s m args below meth c H locs A ad adV cI cL D la C hP hD hS hL
  exact lv_if_gt C.1 C.2.1 hd ht (fun h => kt h p e R s m args below meth c H locs A ad adV cI cL D la C hP hD hS hL) (fun h => kf h p e R s m args below meth c H locs A ad adV cI cL D la C hP hD hS hL)
theorem G.if_le {z : Zp} {μ : MI} {d cells slots pc : Nat} {ls : Lo} {r : List Value} {M : Mem} {Q : Rs → Prop} {x : Int32} {off : Int} {tgt : Nat} (hd : decode μ.b pc = .ok (.ifCond .le off, 3)) (ht : (pc : Int) + off = (tgt : Int)) (kt : x ≤ 0 → G z μ d cells slots tgt ls r M Q) (kf : ¬ x ≤ 0 → G z μ d cells slots (pc + 3) ls r M Q) : G z μ d cells slots pc ls (.int x :: r) M Q := by
  intro p e R s m args below meth c H locs A ad adV cI cL D la C hP hD hS hL
  exact lv_if_le C.1 C.2.1 hd ht (fun h => kt h p e R s m args below meth c H locs A ad adV cI cL D la C hP hD hS hL) (fun h => kf h p e R s m args below meth c H locs A ad adV cI cL D la C hP hD hS hL)
theorem G.ic_eq {z : Zp} {μ : MI} {d cells slots pc : Nat} {ls : Lo} {r : List Value} {M : Mem} {Q : Rs → Prop} {x y : Int32} {off : Int} {tgt : Nat} (hd : decode μ.b pc = .ok (.if_icmp .eq off, 3)) (ht : (pc : Int) + off = (tgt : Int)) (kt : x = y → G z μ d cells slots tgt ls r M Q) (kf : ¬ x = y → G z μ d cells slots (pc + 3) ls r M Q) : G z μ d cells slots pc ls (.int y :: .int x :: r) M Q := by
  intro p e R s m args below meth c H locs A ad adV cI cL D la C hP hD hS hL
  exact lv_icmp_eq C.1 C.2.1 hd ht (fun h => kt h p e R s m args below meth c H locs A ad adV cI cL D la C hP hD hS hL) (fun h => kf h p e R s m args below meth c H locs A ad adV cI cL D la C hP hD hS hL)
theorem G.ic_ne {z : Zp} {μ : MI} {d cells slots pc : Nat} {ls : Lo} {r : List Value} {M : Mem} {Q : Rs → Prop} {x y : Int32} {off : Int} {tgt : Nat} (hd : decode μ.b pc = .ok (.if_icmp .ne off, 3)) (ht : (pc : Int) + off = (tgt : Int)) (kt : ¬ x = y → G z μ d cells slots tgt ls r M Q) (kf : x = y → G z μ d cells slots (pc + 3) ls r M Q) : G z μ d cells slots pc ls (.int y :: .int x :: r) M Q := by
  intro p e R s m args below meth c H locs A ad adV cI cL D la C hP hD hS hL
  exact lv_icmp_ne C.1 C.2.1 hd ht (fun h => kt h p e R s m args below meth c H locs A ad adV cI cL D la C hP hD hS hL) (fun h => kf h p e R s m args below meth c H locs A ad adV cI cL D la C hP hD hS hL)
theorem G.ic_lt {z : Zp} {μ : MI} {d cells slots pc : Nat} {ls : Lo} {r : List Value} {M : Mem} {Q : Rs → Prop} {x y : Int32} {off : Int} {tgt : Nat} (hd : decode μ.b pc = .ok (.if_icmp .lt off, 3)) (ht : (pc : Int) + off = (tgt : Int)) (kt : x < y → G z μ d cells slots tgt ls r M Q) (kf : ¬ x < y → G z μ d cells slots (pc + 3) ls r M Q) : G z μ d cells slots pc ls (.int y :: .int x :: r) M Q := by
  intro p e R s m args below meth c H locs A ad adV cI cL D la C hP hD hS hL
  exact lv_icmp_lt C.1 C.2.1 hd ht (fun h => kt h p e R s m args below meth c H locs A ad adV cI cL D la C hP hD hS hL) (fun h => kf h p e R s m args below meth c H locs A ad adV cI cL D la C hP hD hS hL)
theorem G.ic_ge {z : Zp} {μ : MI} {d cells slots pc : Nat} {ls : Lo} {r : List Value} {M : Mem} {Q : Rs → Prop} {x y : Int32} {off : Int} {tgt : Nat} (hd : decode μ.b pc = .ok (.if_icmp .ge off, 3)) (ht : (pc : Int) + off = (tgt : Int)) (kt : y ≤ x → G z μ d cells slots tgt ls r M Q) (kf : ¬ y ≤ x → G z μ d cells slots (pc + 3) ls r M Q) : G z μ d cells slots pc ls (.int y :: .int x :: r) M Q := by
  intro p e R s m args below meth c H locs A ad adV cI cL D la C hP hD hS hL
  exact lv_icmp_ge C.1 C.2.1 hd ht (fun h => kt h p e R s m args below meth c H locs A ad adV cI cL D la C hP hD hS hL) (fun h => kf h p e R s m args below meth c H locs A ad adV cI cL D la C hP hD hS hL)
theorem G.ic_gt {z : Zp} {μ : MI} {d cells slots pc : Nat} {ls : Lo} {r : List Value} {M : Mem} {Q : Rs → Prop} {x y : Int32} {off : Int} {tgt : Nat} (hd : decode μ.b pc = .ok (.if_icmp .gt off, 3)) (ht : (pc : Int) + off = (tgt : Int)) (kt : y < x → G z μ d cells slots tgt ls r M Q) (kf : ¬ y < x → G z μ d cells slots (pc + 3) ls r M Q) : G z μ d cells slots pc ls (.int y :: .int x :: r) M Q := by
  intro p e R s m args below meth c H locs A ad adV cI cL D la C hP hD hS hL
  exact lv_icmp_gt C.1 C.2.1 hd ht (fun h => kt h p e R s m args below meth c H locs A ad adV cI cL D la C hP hD hS hL) (fun h => kf h p e R s m args below meth c H locs A ad adV cI cL D la C hP hD hS hL)
theorem G.ic_le {z : Zp} {μ : MI} {d cells slots pc : Nat} {ls : Lo} {r : List Value} {M : Mem} {Q : Rs → Prop} {x y : Int32} {off : Int} {tgt : Nat} (hd : decode μ.b pc = .ok (.if_icmp .le off, 3)) (ht : (pc : Int) + off = (tgt : Int)) (kt : x ≤ y → G z μ d cells slots tgt ls r M Q) (kf : ¬ x ≤ y → G z μ d cells slots (pc + 3) ls r M Q) : G z μ d cells slots pc ls (.int y :: .int x :: r) M Q := by
  intro p e R s m args below meth c H locs A ad adV cI cL D la C hP hD hS hL
  exact lv_icmp_le C.1 C.2.1 hd ht (fun h => kt h p e R s m args below meth c H locs A ad adV cI cL D la C hP hD hS hL) (fun h => kf h p e R s m args below meth c H locs A ad adV cI cL D la C hP hD hS hL)
theorem G.tabIn {z : Zp} {μ : MI} {d cells slots pc : Nat} {ls : Lo} {r : List Value} {M : Mem} {Q : Rs → Prop} {dflt lo hi : Int} {offs : Array Int} {len : Nat} {x : Int32} {off : Int} {tgt : Nat} (hd : decode μ.b pc = .ok (.tableswitch dflt lo hi offs, len)) (h1 : ¬ x.toInt < lo) (h2 : ¬ hi < x.toInt) (ho : offs[(x.toInt - lo).toNat]? = some off) (ht : (pc : Int) + off = (tgt : Int)) (k : G z μ d cells slots tgt ls r M Q) : G z μ d cells slots pc ls (.int x :: r) M Q := by
  intro p e R s m args below meth c H locs A ad adV cI cL D la C hP hD hS hL
  exact lv_tableIn C.1 C.2.1 hd h1 h2 ho ht (k p e R s m args below meth c H locs A ad adV cI cL D la C hP hD hS hL)
theorem G.tabOut {z : Zp} {μ : MI} {d cells slots pc : Nat} {ls : Lo} {r : List Value} {M : Mem} {Q : Rs → Prop} {dflt lo hi : Int} {offs : Array Int} {len : Nat} {x : Int32} {tgt : Nat} (hd : decode μ.b pc = .ok (.tableswitch dflt lo hi offs, len)) (h : x.toInt < lo ∨ hi < x.toInt) (ht : (pc : Int) + dflt = (tgt : Int)) (k : G z μ d cells slots tgt ls r M Q) : G z μ d cells slots pc ls (.int x :: r) M Q := by
  intro p e R s m args below meth c H locs A ad adV cI cL D la C hP hD hS hL
  exact lv_tableOut C.1 C.2.1 hd h ht (k p e R s m args below meth c H locs A ad adV cI cL D la C hP hD hS hL)
theorem G.look {z : Zp} {μ : MI} {d cells slots pc : Nat} {ls : Lo} {r : List Value} {M : Mem} {Q : Rs → Prop} {dflt : Int} {ps : Array (Int × Int)} {len : Nat} {x : Int32} {off : Int} {tgt : Nat} (hd : decode μ.b pc = .ok (.lookupswitch dflt ps, len)) (hp : (ps.toList.zip (ps.toList.drop 1)).all (fun (a, next) => a.1 < next.1) = true) (ho : Op.lookupswitch.offset ps.toList dflt x.toInt = off) (ht : (pc : Int) + off = (tgt : Int)) (k : G z μ d cells slots tgt ls r M Q) : G z μ d cells slots pc ls (.int x :: r) M Q := by
  intro p e R s m args below meth c H locs A ad adV cI cL D la C hP hD hS hL
  exact lv_lookup C.1 C.2.1 hd hp ho ht (k p e R s m args below meth c H locs A ad adV cI cL D la C hP hD hS hL)
