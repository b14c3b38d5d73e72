/-! the class itself is made -/
def mX11_init : MI := (yX11_init, cX11_init, 1, none, 53, 8304, [])
theorem oX11_init : MOK mX11_init 0 := ⟨mg (k := 1) (i := 31) rfl rfl, mg (k := 1) (i := 1) (by decide +kernel) rfl, ⟨by decide +kernel, by decide +kernel, by decide +kernel⟩, by decide +kernel, by decide, rfl⟩
theorem iX11_init : Cond.instanceMethod yX11_init ∈ gt := mg (k := 1) (i := 30) (by decide +kernel) rfl
/-- what the rows hold at first -/
def rw0 (f30 f32 : Nat → Int32) (i : Nat) : Nat → Int32 := if i = 1 then upd (fun _ => 0) 3 (-1) else if i = 21 then upd (fun _ => 0) 3 (nI 1) else if i = 25 then upd (fun _ => 0) 3 (nI 1) else if i = 23 then upd (fun _ => 0) (nI 0).toNatClampNeg (nI 1000) else if i = 27 then upd (fun _ => 0) (nI 0).toNatClampNeg (nI 1000) else if i = 30 then f30 else if i = 32 then f32 else if i = 54 then upd (fun _ => 0) 8 (-1) else fun _ => 0
def mem0 (f30 f32 : Nat → Int32) : Mem := (rw0 f30 f32, 0)
def postEF (cI cL : ClassId) (h : Nat) (w : va_W) : Prop := ∃ (a : Nat → Nat) (f30 f32 : Nat → Int32), a 0 = h ∧ w = wldF a cI cL (mem0 f30 f32) 0 (shp.take 54)
set_option maxRecDepth 20000 in
set_option maxHeartbeats 4000000 in
theorem mkEF (l : Launch) (d : Nat) (D : va_G) (cI cL : ClassId) (h : Nat) : Mk l mX11_init (d + 3) D cI cL [.ref h] [(h, .inr (10, [.null, .null, .null, .null, .null, .null, .null, .null, .null, .null, .null, .null, .null, .null, .int 0, .int 0, .int 0]))] (postEF cI cL h) := by
  refine Mk.of oX11_init (Nat.le_of_ble_eq_true rfl) ?_
  refine GC.aload (k0 := 0) 0 (by decide +kernel) rfl ?_
  refine GC.obj (idx := 3) (mg (k := 1) (i := 32) (by decide +kernel) rfl) (by decide +kernel) ?_
  refine GC.aload (k0 := 0) 0 (by decide +kernel) rfl ?_
  refine GC.new (idx := 9) (ci := 5) [.null, .int 0, .int 0, .int 0, .int 0, .int 0, .int 0] (by decide) (mg (k := 1) (i := 35) (by decide +kernel) rfl) (mg (k := 1) (i := 36) (by decide +kernel) rfl) (mg (k := 1) (i := 2) (by decide +kernel) rfl) (by decide +kernel) (by decide +kernel) (Nat.le_of_ble_eq_true rfl) (Nat.le_of_ble_eq_true rfl) (fun o1 => ?_)
  refine GC.dup (by decide +kernel) ?_
  refine GC.call (as := []) (st := [.ref o1, .ref h]) (wc := [(o1, .inr (5, [.null, .int 0, .int 0, .int 0, .int 0, .int 0, .int 0]))]) oX6_init iX6_init rfl rfl (Or.inr ⟨"EvenFinders", fun U h9 => h9.1⟩) (by decide +kernel) rfl (Nat.le_of_ble_eq_true rfl) ⟨Nat.le_of_ble_eq_true rfl, Nat.le_of_ble_eq_true rfl⟩ (mkTape l d D cI cL o1) (fun w hw => ?_)
  obtain ⟨o1a1, rfl⟩ := hw
  refine GC.put 0 (ci := 10) (kf := 0) (idx := 12) (by decide) (fok_in (a3 := 106) (by decide +kernel)) rfl rfl rfl rfl rfl (Nat.le_of_ble_eq_true rfl) (by decide +kernel) ?_
  refine GC.aload (k0 := 0) 0 (by decide +kernel) rfl ?_
  refine GC.new (idx := 16) (ci := 6) [.int 0, .int 0, .int 0, .int 0, .null, .null, .null, .null, .null, .null, .null, .null] (by decide) (mg (k := 1) (i := 71) (by decide +kernel) rfl) (mg (k := 1) (i := 72) (by decide +kernel) rfl) (mg (k := 1) (i := 3) (by decide +kernel) rfl) (by decide +kernel) (by decide +kernel) (Nat.le_of_ble_eq_true rfl) (Nat.le_of_ble_eq_true rfl) (fun o2 => ?_)
  refine GC.dup (by decide +kernel) ?_
  refine GC.call (as := []) (st := [.ref o2, .ref h]) (wc := [(o2, .inr (6, [.int 0, .int 0, .int 0, .int 0, .null, .null, .null, .null, .null, .null, .null, .null]))]) oX7_init iX7_init rfl rfl (Or.inr ⟨"EvenFinders", fun U h9 => h9.2.1⟩) (by decide +kernel) rfl (Nat.le_of_ble_eq_true rfl) ⟨Nat.le_of_ble_eq_true rfl, Nat.le_of_ble_eq_true rfl⟩ (mkTown l d D cI cL o2) (fun w hw => ?_)
  obtain ⟨o2a1, o2a2, o2a3, o2a4, o2a5, o2a6, o2a7, o2a8, rfl⟩ := hw
  refine GC.put 0 (ci := 10) (kf := 1) (idx := 19) (by decide) (fok_in (a3 := 107) (by decide +kernel)) rfl rfl rfl rfl rfl (Nat.le_of_ble_eq_true rfl) (by decide +kernel) ?_
  refine GC.aload (k0 := 0) 0 (by decide +kernel) rfl ?_
  refine GC.new (idx := 16) (ci := 6) [.int 0, .int 0, .int 0, .int 0, .null, .null, .null, .null, .null, .null, .null, .null] (by decide) (mg (k := 1) (i := 71) (by decide +kernel) rfl) (mg (k := 1) (i := 72) (by decide +kernel) rfl) (mg (k := 1) (i := 3) (by decide +kernel) rfl) (by decide +kernel) (by decide +kernel) (Nat.le_of_ble_eq_true rfl) (Nat.le_of_ble_eq_true rfl) (fun o3 => ?_)
  refine GC.dup (by decide +kernel) ?_
  refine GC.call (as := []) (st := [.ref o3, .ref h]) (wc := [(o3, .inr (6, [.int 0, .int 0, .int 0, .int 0, .null, .null, .null, .null, .null, .null, .null, .null]))]) oX7_init iX7_init rfl rfl (Or.inr ⟨"EvenFinders", fun U h9 => h9.2.1⟩) (by decide +kernel) rfl (Nat.le_of_ble_eq_true rfl) ⟨Nat.le_of_ble_eq_true rfl, Nat.le_of_ble_eq_true rfl⟩ (mkTown l d D cI cL o3) (fun w hw => ?_)
  obtain ⟨o3a1, o3a2, o3a3, o3a4, o3a5, o3a6, o3a7, o3a8, rfl⟩ := hw
  refine GC.put 0 (ci := 10) (kf := 2) (idx := 23) (by decide) (fok_in (a3 := 108) (by decide +kernel)) rfl rfl rfl rfl rfl (Nat.le_of_ble_eq_true rfl) (by decide +kernel) ?_
  refine GC.aload (k0 := 0) 0 (by decide +kernel) rfl ?_
  refine GC.new (idx := 26) (ci := 3) [.null, .null, .null, .int 0] (by decide) (mg (k := 1) (i := 141) (by decide +kernel) rfl) (mg (k := 1) (i := 142) (by decide +kernel) rfl) (mg (k := 1) (i := 4) (by decide +kernel) rfl) (by decide +kernel) (by decide +kernel) (Nat.le_of_ble_eq_true rfl) (Nat.le_of_ble_eq_true rfl) (fun o4 => ?_)
  refine GC.dup (by decide +kernel) ?_
  refine GC.call (as := []) (st := [.ref o4, .ref h]) (wc := [(o4, .inr (3, [.null, .null, .null, .int 0]))]) oX3_init iX3_init rfl rfl (Or.inl (mg (k := 1) (i := 143) (by decide +kernel) rfl)) (by decide +kernel) rfl (Nat.le_of_ble_eq_true rfl) ⟨Nat.le_of_ble_eq_true rfl, Nat.le_of_ble_eq_true rfl⟩ (mkLaw l d D cI cL o4) (fun w hw => ?_)
  obtain ⟨o4a1, o4a2, o4a3, rfl⟩ := hw
  refine GC.put 0 (ci := 10) (kf := 3) (idx := 29) (by decide) (fok_in (a3 := 109) (by decide +kernel)) rfl rfl rfl rfl rfl (Nat.le_of_ble_eq_true rfl) (by decide +kernel) ?_
  refine GC.aload (k0 := 0) 0 (by decide +kernel) rfl ?_
  refine GC.new (idx := 26) (ci := 3) [.null, .null, .null, .int 0] (by decide) (mg (k := 1) (i := 141) (by decide +kernel) rfl) (mg (k := 1) (i := 142) (by decide +kernel) rfl) (mg (k := 1) (i := 4) (by decide +kernel) rfl) (by decide +kernel) (by decide +kernel) (Nat.le_of_ble_eq_true rfl) (Nat.le_of_ble_eq_true rfl) (fun o5 => ?_)
  refine GC.dup (by decide +kernel) ?_
  refine GC.call (as := []) (st := [.ref o5, .ref h]) (wc := [(o5, .inr (3, [.null, .null, .null, .int 0]))]) oX3_init iX3_init rfl rfl (Or.inl (mg (k := 1) (i := 143) (by decide +kernel) rfl)) (by decide +kernel) rfl (Nat.le_of_ble_eq_true rfl) ⟨Nat.le_of_ble_eq_true rfl, Nat.le_of_ble_eq_true rfl⟩ (mkLaw l d D cI cL o5) (fun w hw => ?_)
  obtain ⟨o5a1, o5a2, o5a3, rfl⟩ := hw
  refine GC.put 0 (ci := 10) (kf := 4) (idx := 33) (by decide) (fok_in (a3 := 110) (by decide +kernel)) rfl rfl rfl rfl rfl (Nat.le_of_ble_eq_true rfl) (by decide +kernel) ?_
  refine GC.aload (k0 := 0) 0 (by decide +kernel) rfl ?_
  refine GC.new (idx := 36) (ci := 0) [.int 0, .null] (by decide) (mg (k := 1) (i := 162) (by decide +kernel) rfl) (mg (k := 1) (i := 163) (by decide +kernel) rfl) (mg (k := 1) (i := 5) (by decide +kernel) rfl) (by decide +kernel) (by decide +kernel) (Nat.le_of_ble_eq_true rfl) (Nat.le_of_ble_eq_true rfl) (fun o6 => ?_)
  refine GC.dup (by decide +kernel) ?_
  refine GC.call (as := []) (st := [.ref o6, .ref h]) (wc := [(o6, .inr (0, [.int 0, .null]))]) oX0_init iX0_init rfl rfl (Or.inl (mg (k := 1) (i := 164) (by decide +kernel) rfl)) (by decide +kernel) rfl (Nat.le_of_ble_eq_true rfl) ⟨Nat.le_of_ble_eq_true rfl, Nat.le_of_ble_eq_true rfl⟩ (mkBook l d D cI cL o6) (fun w hw => ?_)
  obtain ⟨o6a1, o6f, rfl⟩ := hw
  refine GC.put 0 (ci := 10) (kf := 5) (idx := 39) (by decide) (fok_in (a3 := 111) (by decide +kernel)) rfl rfl rfl rfl rfl (Nat.le_of_ble_eq_true rfl) (by decide +kernel) ?_
  refine GC.aload (k0 := 0) 0 (by decide +kernel) rfl ?_
  refine GC.new (idx := 36) (ci := 0) [.int 0, .null] (by decide) (mg (k := 1) (i := 162) (by decide +kernel) rfl) (mg (k := 1) (i := 163) (by decide +kernel) rfl) (mg (k := 1) (i := 5) (by decide +kernel) rfl) (by decide +kernel) (by decide +kernel) (Nat.le_of_ble_eq_true rfl) (Nat.le_of_ble_eq_true rfl) (fun o7 => ?_)
  refine GC.dup (by decide +kernel) ?_
  refine GC.call (as := []) (st := [.ref o7, .ref h]) (wc := [(o7, .inr (0, [.int 0, .null]))]) oX0_init iX0_init rfl rfl (Or.inl (mg (k := 1) (i := 164) (by decide +kernel) rfl)) (by decide +kernel) rfl (Nat.le_of_ble_eq_true rfl) ⟨Nat.le_of_ble_eq_true rfl, Nat.le_of_ble_eq_true rfl⟩ (mkBook l d D cI cL o7) (fun w hw => ?_)
  obtain ⟨o7a1, o7f, rfl⟩ := hw
  refine GC.put 0 (ci := 10) (kf := 6) (idx := 43) (by decide) (fok_in (a3 := 112) (by decide +kernel)) rfl rfl rfl rfl rfl (Nat.le_of_ble_eq_true rfl) (by decide +kernel) ?_
  refine GC.aload (k0 := 0) 0 (by decide +kernel) rfl ?_
  refine GC.new (idx := 46) (ci := 8) [.int 0, .int 0, .int 0, .int 0, .null, .null, .null, .null] (by decide) (mg (k := 1) (i := 180) (by decide +kernel) rfl) (mg (k := 1) (i := 181) (by decide +kernel) rfl) (mg (k := 1) (i := 7) (by decide +kernel) rfl) (by decide +kernel) (by decide +kernel) (Nat.le_of_ble_eq_true rfl) (Nat.le_of_ble_eq_true rfl) (fun o8 => ?_)
  refine GC.dup (by decide +kernel) ?_
  refine GC.aload (k0 := 0) 0 (by decide +kernel) rfl ?_
  refine GC.get 0 (ci := 10) (kf := 1) (idx := 19) (fok_in (a3 := 107) (by decide +kernel)) rfl rfl (by decide +kernel) ?_
  refine GC.call (as := [.ref o2]) (st := [.ref o8, .ref h]) (wc := [(o8, .inr (8, [.int 0, .int 0, .int 0, .int 0, .null, .null, .null, .null]))]) oX9_init iX9_init rfl rfl (Or.inl (mg (k := 1) (i := 182) (by decide +kernel) rfl)) (by decide +kernel) rfl (Nat.le_of_ble_eq_true rfl) ⟨Nat.le_of_ble_eq_true rfl, Nat.le_of_ble_eq_true rfl⟩ (mkWork l d D cI cL o8 o2) (fun w hw => ?_)
  obtain ⟨o8a1, o8a2, o8a3, rfl⟩ := hw
  refine GC.put 0 (ci := 10) (kf := 7) (idx := 51) (by decide) (fok_in (a3 := 113) (by decide +kernel)) rfl rfl rfl rfl rfl (Nat.le_of_ble_eq_true rfl) (by decide +kernel) ?_
  refine GC.aload (k0 := 0) 0 (by decide +kernel) rfl ?_
  refine GC.new (idx := 55) (ci := 1) [.null, .null, .null, .null] (by decide) (mg (k := 1) (i := 213) (by decide +kernel) rfl) (mg (k := 1) (i := 214) (by decide +kernel) rfl) (mg (k := 1) (i := 8) (by decide +kernel) rfl) (by decide +kernel) (by decide +kernel) (Nat.le_of_ble_eq_true rfl) (Nat.le_of_ble_eq_true rfl) (fun o9 => ?_)
  refine GC.dup (by decide +kernel) ?_
  refine GC.aload (k0 := 0) 0 (by decide +kernel) rfl ?_
  refine GC.get 0 (ci := 10) (kf := 1) (idx := 19) (fok_in (a3 := 107) (by decide +kernel)) rfl rfl (by decide +kernel) ?_
  refine GC.aload (k0 := 0) 0 (by decide +kernel) rfl ?_
  refine GC.get 0 (ci := 10) (kf := 3) (idx := 29) (fok_in (a3 := 109) (by decide +kernel)) rfl rfl (by decide +kernel) ?_
  refine GC.call (as := [.ref o2, .ref o4]) (st := [.ref o9, .ref h]) (wc := [(o9, .inr (1, [.null, .null, .null, .null]))]) oX1_init iX1_init rfl rfl (Or.inl (mg (k := 1) (i := 215) (by decide +kernel) rfl)) (by decide +kernel) rfl (Nat.le_of_ble_eq_true rfl) ⟨Nat.le_of_ble_eq_true rfl, Nat.le_of_ble_eq_true rfl⟩ (mkDays l d D cI cL o9 o2 o4) (fun w hw => ?_)
  obtain ⟨o9a1, o9a2, rfl⟩ := hw
  refine GC.put 0 (ci := 10) (kf := 8) (idx := 60) (by decide) (fok_in (a3 := 114) (by decide +kernel)) rfl rfl rfl rfl rfl (Nat.le_of_ble_eq_true rfl) (by decide +kernel) ?_
  refine GC.aload (k0 := 0) 0 (by decide +kernel) rfl ?_
  refine GC.new (idx := 55) (ci := 1) [.null, .null, .null, .null] (by decide) (mg (k := 1) (i := 213) (by decide +kernel) rfl) (mg (k := 1) (i := 214) (by decide +kernel) rfl) (mg (k := 1) (i := 8) (by decide +kernel) rfl) (by decide +kernel) (by decide +kernel) (Nat.le_of_ble_eq_true rfl) (Nat.le_of_ble_eq_true rfl) (fun o10 => ?_)
  refine GC.dup (by decide +kernel) ?_
  refine GC.aload (k0 := 0) 0 (by decide +kernel) rfl ?_
  refine GC.get 0 (ci := 10) (kf := 1) (idx := 19) (fok_in (a3 := 107) (by decide +kernel)) rfl rfl (by decide +kernel) ?_
  refine GC.aload (k0 := 0) 0 (by decide +kernel) rfl ?_
  refine GC.get 0 (ci := 10) (kf := 3) (idx := 29) (fok_in (a3 := 109) (by decide +kernel)) rfl rfl (by decide +kernel) ?_
  refine GC.call (as := [.ref o2, .ref o4]) (st := [.ref o10, .ref h]) (wc := [(o10, .inr (1, [.null, .null, .null, .null]))]) oX1_init iX1_init rfl rfl (Or.inl (mg (k := 1) (i := 215) (by decide +kernel) rfl)) (by decide +kernel) rfl (Nat.le_of_ble_eq_true rfl) ⟨Nat.le_of_ble_eq_true rfl, Nat.le_of_ble_eq_true rfl⟩ (mkDays l d D cI cL o10 o2 o4) (fun w hw => ?_)
  obtain ⟨o10a1, o10a2, rfl⟩ := hw
  refine GC.put 0 (ci := 10) (kf := 9) (idx := 64) (by decide) (fok_in (a3 := 115) (by decide +kernel)) rfl rfl rfl rfl rfl (Nat.le_of_ble_eq_true rfl) (by decide +kernel) ?_
  refine GC.aload (k0 := 0) 0 (by decide +kernel) rfl ?_
  refine GC.new (idx := 67) (ci := 2) [.int 0, .int 0, .null, .null, .null] (by decide) (mg (k := 1) (i := 236) (by decide +kernel) rfl) (mg (k := 1) (i := 237) (by decide +kernel) rfl) (mg (k := 1) (i := 9) (by decide +kernel) rfl) (by decide +kernel) (by decide +kernel) (Nat.le_of_ble_eq_true rfl) (Nat.le_of_ble_eq_true rfl) (fun o11 => ?_)
  refine GC.dup (by decide +kernel) ?_
  refine GC.call (as := []) (st := [.ref o11, .ref h]) (wc := [(o11, .inr (2, [.int 0, .int 0, .null, .null, .null]))]) oX2_init iX2_init rfl rfl (Or.inr ⟨"EvenFinders", fun U h9 => h9.2.2⟩) (by decide +kernel) rfl (Nat.le_of_ble_eq_true rfl) ⟨Nat.le_of_ble_eq_true rfl, Nat.le_of_ble_eq_true rfl⟩ (mkHistory l d D cI cL o11) (fun w hw => ?_)
  obtain ⟨o11a1, o11a2, o11a3, rfl⟩ := hw
  refine GC.put 0 (ci := 10) (kf := 10) (idx := 70) (by decide) (fok_in (a3 := 116) (by decide +kernel)) rfl rfl rfl rfl rfl (Nat.le_of_ble_eq_true rfl) (by decide +kernel) ?_
  refine GC.aload (k0 := 0) 0 (by decide +kernel) rfl ?_
  refine GC.new (idx := 74) (ci := 7) [.null, .null, .null] (by decide) (mg (k := 2) (i := 20) (by decide +kernel) rfl) (mg (k := 2) (i := 21) (by decide +kernel) rfl) (mg (k := 1) (i := 10) (by decide +kernel) rfl) (by decide +kernel) (by decide +kernel) (Nat.le_of_ble_eq_true rfl) (Nat.le_of_ble_eq_true rfl) (fun o12 => ?_)
  refine GC.dup (by decide +kernel) ?_
  refine GC.aload (k0 := 0) 0 (by decide +kernel) rfl ?_
  refine GC.get 0 (ci := 10) (kf := 1) (idx := 19) (fok_in (a3 := 107) (by decide +kernel)) rfl rfl (by decide +kernel) ?_
  refine GC.aload (k0 := 0) 0 (by decide +kernel) rfl ?_
  refine GC.get 0 (ci := 10) (kf := 8) (idx := 60) (fok_in (a3 := 114) (by decide +kernel)) rfl rfl (by decide +kernel) ?_
  refine GC.call (as := [.ref o2, .ref o9]) (st := [.ref o12, .ref h]) (wc := [(o12, .inr (7, [.null, .null, .null]))]) oX8_init iX8_init rfl rfl (Or.inl (mg (k := 2) (i := 22) (by decide +kernel) rfl)) (by decide +kernel) rfl (Nat.le_of_ble_eq_true rfl) ⟨Nat.le_of_ble_eq_true rfl, Nat.le_of_ble_eq_true rfl⟩ (mkWays l d D cI cL o12 o2 o9) (fun w hw => ?_)
  obtain ⟨o12a1, rfl⟩ := hw
  refine GC.put 0 (ci := 10) (kf := 11) (idx := 79) (by decide) (fok_in (a3 := 117) (by decide +kernel)) rfl rfl rfl rfl rfl (Nat.le_of_ble_eq_true rfl) (by decide +kernel) ?_
  refine GC.aload (k0 := 0) 0 (by decide +kernel) rfl ?_
  refine GC.new (idx := 83) (ci := 4) [.int 0, .null, .null, .null, .null, .null, .null] (by decide) (mg (k := 2) (i := 36) (by decide +kernel) rfl) (mg (k := 2) (i := 37) (by decide +kernel) rfl) (mg (k := 1) (i := 11) (by decide +kernel) rfl) (by decide +kernel) (by decide +kernel) (Nat.le_of_ble_eq_true rfl) (Nat.le_of_ble_eq_true rfl) (fun o13 => ?_)
  refine GC.dup (by decide +kernel) ?_
  refine GC.aload (k0 := 0) 0 (by decide +kernel) rfl ?_
  refine GC.get 0 (ci := 10) (kf := 1) (idx := 19) (fok_in (a3 := 107) (by decide +kernel)) rfl rfl (by decide +kernel) ?_
  refine GC.aload (k0 := 0) 0 (by decide +kernel) rfl ?_
  refine GC.get 0 (ci := 10) (kf := 8) (idx := 60) (fok_in (a3 := 114) (by decide +kernel)) rfl rfl (by decide +kernel) ?_
  refine GC.aload (k0 := 0) 0 (by decide +kernel) rfl ?_
  refine GC.get 0 (ci := 10) (kf := 5) (idx := 39) (fok_in (a3 := 111) (by decide +kernel)) rfl rfl (by decide +kernel) ?_
  refine GC.call (as := [.ref o2, .ref o9, .ref o6]) (st := [.ref o13, .ref h]) (wc := [(o13, .inr (4, [.int 0, .null, .null, .null, .null, .null, .null]))]) oX5_init iX5_init rfl rfl (Or.inl (mg (k := 2) (i := 38) (by decide +kernel) rfl)) (by decide +kernel) rfl (Nat.le_of_ble_eq_true rfl) ⟨Nat.le_of_ble_eq_true rfl, Nat.le_of_ble_eq_true rfl⟩ (mkSearch l d D cI cL o13 o2 o9 o6) (fun w hw => ?_)
  obtain ⟨o13a1, o13a2, o13a3, rfl⟩ := hw
  refine GC.put 0 (ci := 10) (kf := 12) (idx := 88) (by decide) (fok_in (a3 := 118) (by decide +kernel)) rfl rfl rfl rfl rfl (Nat.le_of_ble_eq_true rfl) (by decide +kernel) ?_
  refine GC.aload (k0 := 0) 0 (by decide +kernel) rfl ?_
  refine GC.new (idx := 92) (ci := 9) [.int 0, .int 0, .null, .null, .null] (by decide) (mg (k := 2) (i := 66) (by decide +kernel) rfl) (mg (k := 2) (i := 67) (by decide +kernel) rfl) (mg (k := 1) (i := 12) (by decide +kernel) rfl) (by decide +kernel) (by decide +kernel) (Nat.le_of_ble_eq_true rfl) (Nat.le_of_ble_eq_true rfl) (fun o14 => ?_)
  refine GC.dup (by decide +kernel) ?_
  refine GC.aload (k0 := 0) 0 (by decide +kernel) rfl ?_
  refine GC.get 0 (ci := 10) (kf := 1) (idx := 19) (fok_in (a3 := 107) (by decide +kernel)) rfl rfl (by decide +kernel) ?_
  refine GC.aload (k0 := 0) 0 (by decide +kernel) rfl ?_
  refine GC.get 0 (ci := 10) (kf := 8) (idx := 60) (fok_in (a3 := 114) (by decide +kernel)) rfl rfl (by decide +kernel) ?_
  refine GC.aload (k0 := 0) 0 (by decide +kernel) rfl ?_
  refine GC.get 0 (ci := 10) (kf := 9) (idx := 64) (fok_in (a3 := 115) (by decide +kernel)) rfl rfl (by decide +kernel) ?_
  refine GC.call (as := [.ref o2, .ref o9, .ref o10]) (st := [.ref o14, .ref h]) (wc := [(o14, .inr (9, [.int 0, .int 0, .null, .null, .null]))]) oX10_init iX10_init rfl rfl (Or.inl (mg (k := 2) (i := 68) (by decide +kernel) rfl)) (by decide +kernel) rfl (Nat.le_of_ble_eq_true rfl) ⟨Nat.le_of_ble_eq_true rfl, Nat.le_of_ble_eq_true rfl⟩ (mkYears l d D cI cL o14 o2 o9 o10) (fun w hw => ?_)
  obtain rfl := hw
  refine GC.put 0 (ci := 10) (kf := 13) (idx := 97) (by decide) (fok_in (a3 := 119) (by decide +kernel)) rfl rfl rfl rfl rfl (Nat.le_of_ble_eq_true rfl) (by decide +kernel) ?_
  exact GC.ret (by decide +kernel) rfl (Nat.le_of_ble_eq_true rfl) (Nat.le_of_ble_eq_true rfl) ⟨fun n => [h, o1, o1a1, o2, o2a1, o2a2, o2a3, o2a4, o2a5, o2a6, o2a7, o2a8, o3, o3a1, o3a2, o3a3, o3a4, o3a5, o3a6, o3a7, o3a8, o4, o4a1, o4a2, o4a3, o5, o5a1, o5a2, o5a3, o6, o6a1, o7, o7a1, o8, o8a1, o8a2, o8a3, o9, o9a1, o9a2, o10, o10a1, o10a2, o11, o11a1, o11a2, o11a3, o12, o12a1, o13, o13a1, o13a2, o13a3, o14].getD n 0, o6f, o7f, rfl, rfl⟩
