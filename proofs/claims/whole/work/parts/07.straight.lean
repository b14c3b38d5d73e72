abbrev En : Type := Instr × Nat × Nat × Nat × Nat × Int32
abbrev Sta : Type := Lo × List Value × Mem
abbrev Ou : Type := Option (List Prop × Sta)
def AllP : List Prop → Prop
  | [] => True
  | p :: t => p ∧ AllP t
def op2 (f : Int32 → Int32 → Int32) (ls : Lo) (st : List Value) (M : Mem) : Ou := match st with
  | .int y :: .int x :: r => some ([], ls, .int (f x y) :: r, M)
  | _ => none
def opd (f : Int32 → Int32 → Int32) (ls : Lo) (st : List Value) (M : Mem) : Ou := match st with
  | .int y :: .int x :: r => some ([¬ y = 0], ls, .int (f x y) :: r, M)
  | _ => none
def op1 (f : Int32 → Value) (ls : Lo) (st : List Value) (M : Mem) : Ou := match st with
  | .int x :: r => some ([], ls, f x :: r, M)
  | _ => none
def ol2 (f : Int64 → Int64 → Value) (ls : Lo) (st : List Value) (M : Mem) : Ou := match st with
  | .long y :: .long x :: r => some ([], ls, f x y :: r, M)
  | _ => none
def old (f : Int64 → Int64 → Value) (ls : Lo) (st : List Value) (M : Mem) : Ou := match st with
  | .long y :: .long x :: r => some ([¬ y = 0], ls, f x y :: r, M)
  | _ => none
def ldI (i : Nat) (ls : Lo) (st : List Value) (M : Mem) : Ou := match lget ls i with
  | some (.int x) => some ([], ls, .int x :: st, M)
  | _ => none
def ldL (i : Nat) (ls : Lo) (st : List Value) (M : Mem) : Ou := match lget ls i with
  | some (.long x) => some ([], ls, .long x :: st, M)
  | _ => none
def ldA (i : Nat) (ls : Lo) (st : List Value) (M : Mem) : Ou := match lget ls i with
  | some (.ref x) => some ([], ls, .ref x :: st, M)
  | _ => none
def stI (i : Nat) (ls : Lo) (st : List Value) (M : Mem) : Ou := match st with
  | .int x :: r => some ([], set1 ls i (.int x), r, M)
  | _ => none
def stL (i : Nat) (ls : Lo) (st : List Value) (M : Mem) : Ou := match st with
  | .long x :: r => some ([], set2 ls i (.long x), r, M)
  | _ => none
def stA (i : Nat) (ls : Lo) (st : List Value) (M : Mem) : Ou := match st with
  | .ref x :: r => some ([], set1 ls i (.ref x), r, M)
  | _ => none
def inc (i : Nat) (v : Int32) (ls : Lo) (st : List Value) (M : Mem) : Ou := match lget ls i with
  | some (.int x) => some ([], set1 ls i (.int (x + v)), st, M)
  | _ => none
def is1 : Value → Bool
  | .int _ => true
  | .ref _ => true
  | _ => false
def dp1 (ls : Lo) (st : List Value) (M : Mem) : Ou := match st with
  | v :: r => match is1 v with
    | true => some ([], ls, v :: v :: r, M)
    | false => none
  | _ => none
def pp1 (ls : Lo) (st : List Value) (M : Mem) : Ou := match st with
  | v :: r => match is1 v with
    | true => some ([], ls, r, M)
    | false => none
  | _ => none
def dp2 (ls : Lo) (st : List Value) (M : Mem) : Ou := match st with
  | v :: w :: r => match is1 v, is1 w with
    | true, true => some ([], ls, v :: w :: v :: w :: r, M)
    | _, _ => none
  | _ => none
def ald (z : Zp) (n : Nat) (ls : Lo) (st : List Value) (M : Mem) : Ou := match st with
  | .int i :: .ref a :: r => match shp[a]? with
    | some (.inl (false, m)) => some ([i = nI n ∧ n < m], ls, .int (M.1 a n) :: r, M)
    | some _ => none
    | none => match a == 3000 with
      | true => some ([i = nI n ∧ n < z.2.1 ∧ n < 2 ^ 31], ls, .int (z.2.2 n) :: r, M)
      | false => match a == 2000 with
        | true => some ([i = nI n ∧ n < 4], ls, .int (dds n) :: r, M)
        | false => none
  | _ => none
def ast (n : Nat) (ls : Lo) (st : List Value) (M : Mem) : Ou := match st with
  | .int x :: .int i :: .ref a :: r => match shp[a]? with
    | some (.inl (false, m)) => some ([i = nI n ∧ n < m], ls, r, mput M a n x)
    | _ => none
  | _ => none
def lld (z : Zp) (ls : Lo) (st : List Value) (M : Mem) : Ou := match st with
  | .int i :: .ref a :: r => match a == 80 with
    | true => some ([i = 0 ∧ oW z = true], ls, .long M.2 :: r, M)
    | false => none
  | _ => none
def lst (z : Zp) (ls : Lo) (st : List Value) (M : Mem) : Ou := match st with
  | .long x :: .int i :: .ref a :: r => match a == 80 with
    | true => some ([i = 0 ∧ oW z = true], ls, r, mout M x)
    | false => none
  | _ => none
def aln (z : Zp) (ls : Lo) (st : List Value) (M : Mem) : Ou := match st with
  | .ref a :: r => match shp[a]? with
    | some (.inl (false, m)) => some ([], ls, .int (Int32.ofNat m) :: r, M)
    | some _ => none
    | none => match a == 3000 with
      | true => some ([], ls, .int (Int32.ofNat z.2.1) :: r, M)
      | false => match a == 2000 with
        | true => some ([], ls, .int 4 :: r, M)
        | false => none
  | _ => none
def gtf (ci k : Nat) (ls : Lo) (st : List Value) (M : Mem) : Ou := match st with
  | .ref a :: r => match shp[a]? with
    | some (.inr (c, fs)) => match c == ci with
      | true => match fs[k]? with
        | some none => some ([], ls, .int (M.1 a k) :: r, M)
        | some (some b) => some ([], ls, .ref b :: r, M)
        | none => none
      | false => none
    | _ => none
  | _ => none
def ptf (ci k : Nat) (ls : Lo) (st : List Value) (M : Mem) : Ou := match st with
  | .int x :: .ref a :: r => match shp[a]? with
    | some (.inr (c, fs)) => match c == ci with
      | true => match fs[k]? with
        | some none => some ([], ls, r, mput M a k x)
        | _ => none
      | false => none
    | _ => none
  | _ => none

def okE (own : String) (ml pc : Nat) : En → Bool
  | (ins, ln, a1, a2, a3, v) => match ins with
    | .iadd => ln == 1
    | .isub => ln == 1
    | .imul => ln == 1
    | .iand => ln == 1
    | .ior => ln == 1
    | .ixor => ln == 1
    | .ishl => ln == 1
    | .ishr => ln == 1
    | .iushr => ln == 1
    | .idiv => ln == 1
    | .irem => ln == 1
    | .ineg => ln == 1
    | .i2l => ln == 1
    | .i2c => ln == 1
    | .ladd => ln == 1
    | .lsub => ln == 1
    | .lmul => ln == 1
    | .lcmp => ln == 1
    | .ldiv => ln == 1
    | .lrem => ln == 1
    | .iconst n => ln == 1 && decide (Int32.ofInt n = v)
    | .bipush n => ln == 2 && decide ((Int8.ofInt n).toInt32 = v)
    | .sipush n => ln == 3 && decide ((Int16.ofInt n).toInt32 = v)
    | .lconst n => ln == 1 && decide (a1 = (n : Nat))
    | .ldc i => ln == 2 && (match a1 with | 0 => decide (cst[a3]?.map (fun q => (q.1, q.2.1, q.2.2.1)) = some (own, i, v)) | _ => decide (a2 < 25) && decide (sOwn.getD a2 "" = own) && decide (sIdx.getD a2 0 = i))
    | .ldc_w i => ln == 3 && (match a1 with | 0 => decide (cst[a3]?.map (fun q => (q.1, q.2.1, q.2.2.1)) = some (own, i, v)) | _ => decide (a2 < 25) && decide (sOwn.getD a2 "" = own) && decide (sIdx.getD a2 0 = i))
    | .iload_n k0 => ln == 1 && decide ((k0 : Nat) = a1)
    | .iload i => ln == 2 && decide (i = a1)
    | .istore_n k0 => ln == 1 && decide ((k0 : Nat) = a1) && decide (a1 < ml)
    | .istore i => ln == 2 && decide (i = a1) && decide (a1 < ml)
    | .lload_n k0 => ln == 1 && decide ((k0 : Nat) = a1)
    | .lload i => ln == 2 && decide (i = a1)
    | .lstore_n k0 => ln == 1 && decide ((k0 : Nat) = a1) && decide (a1 + 1 < ml)
    | .lstore i => ln == 2 && decide (i = a1) && decide (a1 + 1 < ml)
    | .aload_n k0 => ln == 1 && decide ((k0 : Nat) = a1)
    | .aload i => ln == 2 && decide (i = a1)
    | .astore_n k0 => ln == 1 && decide ((k0 : Nat) = a1) && decide (a1 < ml)
    | .astore i => ln == 2 && decide (i = a1) && decide (a1 < ml)
    | .iinc i n => ln == 3 && decide (i = a1) && decide (a1 < ml) && decide (Int32.ofInt n = v)
    | .dup => ln == 1
    | .pop => ln == 1
    | .dup2 => ln == 1
    | .iaload => ln == 1
    | .iastore => ln == 1
    | .laload => ln == 1
    | .lastore => ln == 1
    | .arraylength => ln == 1
    | .getfield i => ln == 3 && decide ((flk[a3]?).map (fun q => (q.1, q.2.1, q.2.2.1, q.2.2.2.1)) = some (own, i, a1, a2))
    | .putfield i => ln == 3 && decide ((flk[a3]?).map (fun q => (q.1, q.2.1, q.2.2.1, q.2.2.2.1)) = some (own, i, a1, a2)) && decide (a1 < 12) && decide (((clT a1).2.1 a2).2.2.2 = false) && decide (parseFieldDescriptor ((clT a1).2.1 a2).2.2.1 = some .int)
    | .getstatic i => ln == 3 && decide (i = ddIdx) && decide (own = "EvenFinders$Odds")
    | .goto off => ln == 3 && decide ((pc : Int) + off = (a1 : Int))
    | _ => false
def stp (z : Zp) (hn : Nat) : En → Sta → Ou
  | (ins, ln, a1, a2, a3, v), (ls, st, M) => match ins with
    | .iadd => op2 (fun x y => x + y) ls st M
    | .isub => op2 (fun x y => x - y) ls st M
    | .imul => op2 (fun x y => x * y) ls st M
    | .iand => op2 (fun x y => x &&& y) ls st M
    | .ior => op2 (fun x y => x ||| y) ls st M
    | .ixor => op2 (fun x y => x ^^^ y) ls st M
    | .ishl => op2 (fun x y => x <<< (y &&& 31)) ls st M
    | .ishr => op2 (fun x y => x >>> (y &&& 31)) ls st M
    | .iushr => op2 (fun x y => (x.toUInt32 >>> (y.toUInt32 &&& Int32.toUInt32 31)).toInt32) ls st M
    | .idiv => opd (fun x y => x / y) ls st M
    | .irem => opd (fun x y => x - x / y * y) ls st M
    | .ineg => op1 (fun x => .int (-x)) ls st M
    | .i2l => op1 (fun x => .long x.toInt64) ls st M
    | .i2c => op1 (fun x => .int (x.toUInt32 % 65536).toInt32) ls st M
    | .ladd => ol2 (fun x y => .long (x + y)) ls st M
    | .lsub => ol2 (fun x y => .long (x - y)) ls st M
    | .lmul => ol2 (fun x y => .long (x * y)) ls st M
    | .lcmp => ol2 (fun x y => .int (lg_cmp x y)) ls st M
    | .ldiv => old (fun x y => .long (x / y)) ls st M
    | .lrem => old (fun x y => .long (x - x / y * y)) ls st M
    | .iconst _ => some ([], ls, .int v :: st, M)
    | .bipush _ => some ([], ls, .int v :: st, M)
    | .sipush _ => some ([], ls, .int v :: st, M)
    | .lconst _ => match a1 with | 0 => some ([], ls, .long 0 :: st, M) | _ => some ([], ls, .long 1 :: st, M)
    | .ldc _ => match a1 with | 0 => some ([], ls, .int v :: st, M) | _ => some ([], ls, .ref (1000 + a2) :: st, M)
    | .ldc_w _ => match a1 with | 0 => some ([], ls, .int v :: st, M) | _ => some ([], ls, .ref (1000 + a2) :: st, M)
    | .iload_n _ => ldI a1 ls st M
    | .iload _ => ldI a1 ls st M
    | .istore_n _ => stI a1 ls st M
    | .istore _ => stI a1 ls st M
    | .lload_n _ => ldL a1 ls st M
    | .lload _ => ldL a1 ls st M
    | .lstore_n _ => stL a1 ls st M
    | .lstore _ => stL a1 ls st M
    | .aload_n _ => ldA a1 ls st M
    | .aload _ => ldA a1 ls st M
    | .astore_n _ => stA a1 ls st M
    | .astore _ => stA a1 ls st M
    | .iinc _ _ => inc a1 v ls st M
    | .dup => dp1 ls st M
    | .pop => pp1 ls st M
    | .dup2 => dp2 ls st M
    | .iaload => ald z hn ls st M
    | .iastore => ast hn ls st M
    | .laload => lld z ls st M
    | .lastore => lst z ls st M
    | .arraylength => aln z ls st M
    | .getfield _ => gtf a1 a2 ls st M
    | .putfield _ => ptf a1 a2 ls st M
    | .getstatic _ => some ([], ls, .ref 2000 :: st, M)
    | .goto _ => some ([], ls, st, M)
    | _ => none
theorem op2_inv {f : Int32 → Int32 → Int32} {ls : Lo} {st : List Value} {M : Mem} {q : List Prop × Sta} (h : op2 f ls st M = some q) : ∃ x y r, st = .int y :: .int x :: r ∧ q = ([], ls, .int (f x y) :: r, M) := by
  unfold op2 at h
  split at h
  · exact ⟨_, _, _, rfl, (Option.some.inj h).symm⟩
  · cases h
theorem opd_inv {f : Int32 → Int32 → Int32} {ls : Lo} {st : List Value} {M : Mem} {q : List Prop × Sta} (h : opd f ls st M = some q) : ∃ x y r, st = .int y :: .int x :: r ∧ q = ([¬ y = 0], ls, .int (f x y) :: r, M) := by
  unfold opd at h
  split at h
  · exact ⟨_, _, _, rfl, (Option.some.inj h).symm⟩
  · cases h
theorem op1_inv {f : Int32 → Value} {ls : Lo} {st : List Value} {M : Mem} {q : List Prop × Sta} (h : op1 f ls st M = some q) : ∃ x r, st = .int x :: r ∧ q = ([], ls, f x :: r, M) := by
  unfold op1 at h
  split at h
  · exact ⟨_, _, rfl, (Option.some.inj h).symm⟩
  · cases h
theorem ol2_inv {f : Int64 → Int64 → Value} {ls : Lo} {st : List Value} {M : Mem} {q : List Prop × Sta} (h : ol2 f ls st M = some q) : ∃ x y r, st = .long y :: .long x :: r ∧ q = ([], ls, f x y :: r, M) := by
  unfold ol2 at h
  split at h
  · exact ⟨_, _, _, rfl, (Option.some.inj h).symm⟩
  · cases h
theorem old_inv {f : Int64 → Int64 → Value} {ls : Lo} {st : List Value} {M : Mem} {q : List Prop × Sta} (h : old f ls st M = some q) : ∃ x y r, st = .long y :: .long x :: r ∧ q = ([¬ y = 0], ls, f x y :: r, M) := by
  unfold old at h
  split at h
  · exact ⟨_, _, _, rfl, (Option.some.inj h).symm⟩
  · cases h
theorem ldI_inv {i : Nat} {ls : Lo} {st : List Value} {M : Mem} {q : List Prop × Sta} (h : ldI i ls st M = some q) : ∃ x, lget ls i = some (.int x) ∧ q = ([], ls, .int x :: st, M) := by
  unfold ldI at h
  split at h
  · next hx => exact ⟨_, hx, (Option.some.inj h).symm⟩
  · cases h
theorem stI_inv {i : Nat} {ls : Lo} {st : List Value} {M : Mem} {q : List Prop × Sta} (h : stI i ls st M = some q) : ∃ x r, st = .int x :: r ∧ q = ([], set1 ls i (.int x), r, M) := by
  unfold stI at h
  split at h
  · exact ⟨_, _, rfl, (Option.some.inj h).symm⟩
  · cases h
theorem ldL_inv {i : Nat} {ls : Lo} {st : List Value} {M : Mem} {q : List Prop × Sta} (h : ldL i ls st M = some q) : ∃ x, lget ls i = some (.long x) ∧ q = ([], ls, .long x :: st, M) := by
  unfold ldL at h
  split at h
  · next hx => exact ⟨_, hx, (Option.some.inj h).symm⟩
  · cases h
theorem stL_inv {i : Nat} {ls : Lo} {st : List Value} {M : Mem} {q : List Prop × Sta} (h : stL i ls st M = some q) : ∃ x r, st = .long x :: r ∧ q = ([], set2 ls i (.long x), r, M) := by
  unfold stL at h
  split at h
  · exact ⟨_, _, rfl, (Option.some.inj h).symm⟩
  · cases h
theorem ldA_inv {i : Nat} {ls : Lo} {st : List Value} {M : Mem} {q : List Prop × Sta} (h : ldA i ls st M = some q) : ∃ x, lget ls i = some (.ref x) ∧ q = ([], ls, .ref x :: st, M) := by
  unfold ldA at h
  split at h
  · next hx => exact ⟨_, hx, (Option.some.inj h).symm⟩
  · cases h
theorem stA_inv {i : Nat} {ls : Lo} {st : List Value} {M : Mem} {q : List Prop × Sta} (h : stA i ls st M = some q) : ∃ x r, st = .ref x :: r ∧ q = ([], set1 ls i (.ref x), r, M) := by
  unfold stA at h
  split at h
  · exact ⟨_, _, rfl, (Option.some.inj h).symm⟩
  · cases h
theorem is1_cat {v : Value} (h : is1 v = true) : v.category = 1 := by cases v <;> first | rfl | cases h
theorem bq {a b : Nat} (h : (a == b) = true) : a = b := by simpa using h
theorem shp_all : shp.all (fun s => match s with | .inl q => decide (q.2 < 4000) | .inr _ => true) = true := by decide +kernel
theorem shp_small {a m : Nat} (h : shp[a]? = some (.inl (false, m))) : m < 2 ^ 31 := by
  have h1 := List.all_eq_true.mp shp_all _ (List.mem_of_getElem? h)
  have h2 : m < 4000 := by simpa using h1
  omega
theorem vp_in_of_lt {n N : Nat} (h : n < N) (h9 : n < 2 ^ 31) : vp_in (nI n) N := by
  unfold vp_in
  rw [nI_clamp h9]
  rintro (q | q)
  · exact nI_pos h9 q
  · omega
theorem cst_in {own : String} {i a3 : Nat} {v : Int32} (h : cst[a3]?.map (fun q => (q.1, q.2.1, q.2.2.1)) = some (own, i, v)) : Cond.constant own i v ∈ gt := by
  cases hc : cst[a3]? with
  | none => rw [hc] at h; cases h
  | some q =>
    obtain ⟨q1, q2, q3, q4, q5⟩ := q
    rw [hc] at h
    cases h
    have := List.all_eq_true.mp cst_ok _ (List.mem_of_getElem? hc)
    exact mg (by simpa using this) rfl
theorem fok_in {own : String} {i a1 a2 a3 : Nat} (h : (flk[a3]?).map (fun q => (q.1, q.2.1, q.2.2.1, q.2.2.2.1)) = some (own, i, a1, a2)) : fok own i a1 a2 := by
  cases hc : flk[a3]? with
  | none => rw [hc] at h; cases h
  | some q =>
    obtain ⟨q1, q2, q3, q4, q5, q6⟩ := q
    rw [hc] at h
    cases h
    exact fok_of (List.mem_of_getElem? hc)
def nxt (pc : Nat) (e : En) : Nat := match e.1 with
  | .goto _ => e.2.2.1
  | _ => pc + e.2.1
set_option maxHeartbeats 2000000 in
theorem stp_ok {z : Zp} {μ : MI} {d cells slots pc : Nat} {ls ls2 : Lo} {st st2 : List Value} {M M2 : Mem} {Q : Rs → Prop} {Ps : List Prop} {e : En} {hn : Nat} (hd : decode μ.b pc = .ok (e.1, e.2.1)) (hok : okE μ.y.cls μ.ml pc e = true) (hs : stp z hn e (ls, st, M) = some (Ps, ls2, st2, M2)) (hp : AllP Ps) (k : G z μ d cells slots (nxt pc e) ls2 st2 M2 Q) : G z μ d cells slots pc ls st M Q := by
  obtain ⟨ins, ln, a1, a2, a3, v⟩ := e
  have hd : decode μ.b pc = .ok (ins, ln) := hd
  cases ins with
  | iadd => 
    obtain rfl : ln = 1 := bq hok
    obtain ⟨x, y, r, rfl, hq⟩ := op2_inv hs
    cases hq
    exact G.iadd hd k
  | isub => 
    obtain rfl : ln = 1 := bq hok
    obtain ⟨x, y, r, rfl, hq⟩ := op2_inv hs
    cases hq
    exact G.isub hd k
  | imul => 
    obtain rfl : ln = 1 := bq hok
    obtain ⟨x, y, r, rfl, hq⟩ := op2_inv hs
    cases hq
    exact G.imul hd k
  | iand => 
    obtain rfl : ln = 1 := bq hok
    obtain ⟨x, y, r, rfl, hq⟩ := op2_inv hs
    cases hq
    exact G.iand hd k
  | ior => 
    obtain rfl : ln = 1 := bq hok
    obtain ⟨x, y, r, rfl, hq⟩ := op2_inv hs
    cases hq
    exact G.ior hd k
  | ixor => 
    obtain rfl : ln = 1 := bq hok
    obtain ⟨x, y, r, rfl, hq⟩ := op2_inv hs
    cases hq
    exact G.ixor hd k
  | ishl => 
    obtain rfl : ln = 1 := bq hok
    obtain ⟨x, y, r, rfl, hq⟩ := op2_inv hs
    cases hq
    exact G.ishl hd k
  | ishr => 
    obtain rfl : ln = 1 := bq hok
    obtain ⟨x, y, r, rfl, hq⟩ := op2_inv hs
    cases hq
    exact G.ishr hd k
  | iushr => 
    obtain rfl : ln = 1 := bq hok
    obtain ⟨x, y, r, rfl, hq⟩ := op2_inv hs
    cases hq
    exact G.iushr hd k
  | idiv => 
    obtain rfl : ln = 1 := bq hok
    obtain ⟨x, y, r, rfl, hq⟩ := opd_inv hs
    cases hq
    exact G.idiv hd hp.1 k
  | irem => 
    obtain rfl : ln = 1 := bq hok
    obtain ⟨x, y, r, rfl, hq⟩ := opd_inv hs
    cases hq
    exact G.irem hd hp.1 k
  | ineg => 
    obtain rfl : ln = 1 := bq hok
    obtain ⟨x, r, rfl, hq⟩ := op1_inv hs
    cases hq
    exact G.ineg hd k
  | i2l => 
    obtain rfl : ln = 1 := bq hok
    obtain ⟨x, r, rfl, hq⟩ := op1_inv hs
    cases hq
    exact G.i2l hd k
  | i2c => 
    obtain rfl : ln = 1 := bq hok
    obtain ⟨x, r, rfl, hq⟩ := op1_inv hs
    cases hq
    exact G.i2c hd k
  | ladd => 
    obtain rfl : ln = 1 := bq hok
    obtain ⟨x, y, r, rfl, hq⟩ := ol2_inv hs
    cases hq
    exact G.ladd hd k
  | lsub => 
    obtain rfl : ln = 1 := bq hok
    obtain ⟨x, y, r, rfl, hq⟩ := ol2_inv hs
    cases hq
    exact G.lsub hd k
  | lmul => 
    obtain rfl : ln = 1 := bq hok
    obtain ⟨x, y, r, rfl, hq⟩ := ol2_inv hs
    cases hq
    exact G.lmul hd k
  | lcmp => 
    obtain rfl : ln = 1 := bq hok
    obtain ⟨x, y, r, rfl, hq⟩ := ol2_inv hs
    cases hq
    exact G.lcmp hd k
  | ldiv => 
    obtain rfl : ln = 1 := bq hok
    obtain ⟨x, y, r, rfl, hq⟩ := old_inv hs
    cases hq
    exact G.ldiv hd hp.1 k
  | lrem => 
    obtain rfl : ln = 1 := bq hok
    obtain ⟨x, y, r, rfl, hq⟩ := old_inv hs
    cases hq
    exact G.lrem hd hp.1 k
  | iconst n => 
    have hok := hok; simp only [okE, Bool.and_eq_true, beq_iff_eq, decide_eq_true_eq] at hok
    obtain ⟨rfl, hv⟩ := hok
    cases hs
    exact G.iconst hd hv k
  | bipush n => 
    have hok := hok; simp only [okE, Bool.and_eq_true, beq_iff_eq, decide_eq_true_eq] at hok
    obtain ⟨rfl, hv⟩ := hok
    cases hs
    exact G.bipush hd hv k
  | sipush n => 
    have hok := hok; simp only [okE, Bool.and_eq_true, beq_iff_eq, decide_eq_true_eq] at hok
    obtain ⟨rfl, hv⟩ := hok
    cases hs
    exact G.sipush hd hv k
  | lconst n => 
    cases a1 with
    | zero =>
      simp only [okE, Bool.and_eq_true, beq_iff_eq, decide_eq_true_eq] at hok
      obtain ⟨rfl, hv⟩ := hok
      cases hs
      exact G.lconst hd (v := 0) (by rw [← hv]; rfl) k
    | succ j =>
      simp only [okE, Bool.and_eq_true, beq_iff_eq, decide_eq_true_eq] at hok
      obtain ⟨rfl, hv⟩ := hok
      cases hs
      have e9 : (n : Nat) = 1 := by have := n.isLt; omega
      exact G.lconst hd (v := 1) (by rw [e9]; rfl) k
  | ldc i => 
    cases a1 with
    | zero =>
      simp only [okE, Bool.and_eq_true, beq_iff_eq, decide_eq_true_eq] at hok
      obtain ⟨rfl, hc⟩ := hok
      cases hs
      exact G.ldci (cst_in hc) hd k
    | succ j =>
      simp only [okE, Bool.and_eq_true, beq_iff_eq, decide_eq_true_eq] at hok
      obtain ⟨rfl, ⟨h1, h2⟩, h3⟩ := hok
      cases hs
      exact G.ldcs h1 h2 h3 hd k
  | ldc_w i => 
    cases a1 with
    | zero =>
      simp only [okE, Bool.and_eq_true, beq_iff_eq, decide_eq_true_eq] at hok
      obtain ⟨rfl, hc⟩ := hok
      cases hs
      exact G.ldciw (cst_in hc) hd k
    | succ j =>
      simp only [okE, Bool.and_eq_true, beq_iff_eq, decide_eq_true_eq] at hok
      obtain ⟨rfl, ⟨h1, h2⟩, h3⟩ := hok
      cases hs
      exact G.ldcsw h1 h2 h3 hd k
  | iload_n k0 => 
    have hok := hok; simp only [okE, Bool.and_eq_true, beq_iff_eq, decide_eq_true_eq] at hok
    obtain ⟨rfl, rfl⟩ := hok
    obtain ⟨x, hx, hq⟩ := ldI_inv hs
    cases hq
    exact G.iload_n hd rfl hx k
  | iload i => 
    have hok := hok; simp only [okE, Bool.and_eq_true, beq_iff_eq, decide_eq_true_eq] at hok
    obtain ⟨rfl, rfl⟩ := hok
    obtain ⟨x, hx, hq⟩ := ldI_inv hs
    cases hq
    exact G.iload hd hx k
  | istore_n k0 => 
    have hok := hok; simp only [okE, Bool.and_eq_true, beq_iff_eq, decide_eq_true_eq] at hok
    obtain ⟨⟨rfl, rfl⟩, hb⟩ := hok
    obtain ⟨x, r, rfl, hq⟩ := stI_inv hs
    cases hq
    exact G.istore_n hd rfl hb k
  | istore i => 
    have hok := hok; simp only [okE, Bool.and_eq_true, beq_iff_eq, decide_eq_true_eq] at hok
    obtain ⟨⟨rfl, rfl⟩, hb⟩ := hok
    obtain ⟨x, r, rfl, hq⟩ := stI_inv hs
    cases hq
    exact G.istore hd hb k
  | lload_n k0 => 
    have hok := hok; simp only [okE, Bool.and_eq_true, beq_iff_eq, decide_eq_true_eq] at hok
    obtain ⟨rfl, rfl⟩ := hok
    obtain ⟨x, hx, hq⟩ := ldL_inv hs
    cases hq
    exact G.lload_n hd rfl hx k
  | lload i => 
    have hok := hok; simp only [okE, Bool.and_eq_true, beq_iff_eq, decide_eq_true_eq] at hok
    obtain ⟨rfl, rfl⟩ := hok
    obtain ⟨x, hx, hq⟩ := ldL_inv hs
    cases hq
    exact G.lload hd hx k
  | lstore_n k0 => 
    have hok := hok; simp only [okE, Bool.and_eq_true, beq_iff_eq, decide_eq_true_eq] at hok
    obtain ⟨⟨rfl, rfl⟩, hb⟩ := hok
    obtain ⟨x, r, rfl, hq⟩ := stL_inv hs
    cases hq
    exact G.lstore_n hd rfl hb k
  | lstore i => 
    have hok := hok; simp only [okE, Bool.and_eq_true, beq_iff_eq, decide_eq_true_eq] at hok
    obtain ⟨⟨rfl, rfl⟩, hb⟩ := hok
    obtain ⟨x, r, rfl, hq⟩ := stL_inv hs
    cases hq
    exact G.lstore hd hb k
  | aload_n k0 => 
    have hok := hok; simp only [okE, Bool.and_eq_true, beq_iff_eq, decide_eq_true_eq] at hok
    obtain ⟨rfl, rfl⟩ := hok
    obtain ⟨x, hx, hq⟩ := ldA_inv hs
    cases hq
    exact G.aload_n hd rfl hx k
  | aload i => 
    have hok := hok; simp only [okE, Bool.and_eq_true, beq_iff_eq, decide_eq_true_eq] at hok
    obtain ⟨rfl, rfl⟩ := hok
    obtain ⟨x, hx, hq⟩ := ldA_inv hs
    cases hq
    exact G.aload hd hx k
  | astore_n k0 => 
    have hok := hok; simp only [okE, Bool.and_eq_true, beq_iff_eq, decide_eq_true_eq] at hok
    obtain ⟨⟨rfl, rfl⟩, hb⟩ := hok
    obtain ⟨x, r, rfl, hq⟩ := stA_inv hs
    cases hq
    exact G.astore_n hd rfl hb k
  | astore i => 
    have hok := hok; simp only [okE, Bool.and_eq_true, beq_iff_eq, decide_eq_true_eq] at hok
    obtain ⟨⟨rfl, rfl⟩, hb⟩ := hok
    obtain ⟨x, r, rfl, hq⟩ := stA_inv hs
    cases hq
    exact G.astore hd hb k
  | iinc i n => 
    have hok := hok; simp only [okE, Bool.and_eq_true, beq_iff_eq, decide_eq_true_eq] at hok
    obtain ⟨⟨⟨rfl, rfl⟩, hb⟩, hv⟩ := hok
    have hs : inc i v ls st M = some (Ps, ls2, st2, M2) := hs
    unfold inc at hs
    split at hs
    · next x hx => cases hs; exact G.iinc hd hx hv rfl hb k
    · cases hs
  | dup => 
    obtain rfl : ln = 1 := bq hok
    have hs : dp1 ls st M = some (Ps, ls2, st2, M2) := hs
    unfold dp1 at hs
    split at hs
    · next w r =>
      split at hs
      · next hw => cases hs; exact G.dup hd (is1_cat hw) k
      · cases hs
    · cases hs
  | pop => 
    obtain rfl : ln = 1 := bq hok
    have hs : pp1 ls st M = some (Ps, ls2, st2, M2) := hs
    unfold pp1 at hs
    split at hs
    · next w r =>
      split at hs
      · next hw => cases hs; exact G.pop hd (is1_cat hw) k
      · cases hs
    · cases hs
  | dup2 => 
    obtain rfl : ln = 1 := bq hok
    have hs : dp2 ls st M = some (Ps, ls2, st2, M2) := hs
    unfold dp2 at hs
    split at hs
    · next w u r =>
      split at hs
      · next hw hu => cases hs; exact G.dup2 hd (is1_cat hw) (is1_cat hu) k
      · cases hs
    · cases hs
  | iaload => 
    obtain rfl : ln = 1 := bq hok
    have hs : ald z hn ls st M = some (Ps, ls2, st2, M2) := hs
    unfold ald at hs
    split at hs
    · next i a r =>
      split at hs
      · next m hm => cases hs; obtain ⟨⟨rfl, h9⟩, -⟩ := hp; exact G.iaload hm (vp_in_nI h9 (shp_small hm)) hd (by rw [nI_clamp (Nat.lt_trans h9 (shp_small hm))]; exact k)
      · cases hs
      · split at hs
        · next e9 => obtain rfl := bq e9; cases hs; obtain ⟨⟨rfl, h8, h9⟩, -⟩ := hp; exact G.iaload_s (vp_in_of_lt h8 h9) hd (by rw [nI_clamp h9]; exact k)
        · split at hs
          · next e9 => obtain rfl := bq e9; cases hs; obtain ⟨⟨rfl, h9⟩, -⟩ := hp; exact G.iaload_d (vp_in_nI h9 (by decide)) hd (by rw [nI_clamp (by omega)]; exact k)
          · cases hs
    · cases hs
  | iastore => 
    obtain rfl : ln = 1 := bq hok
    have hs : ast hn ls st M = some (Ps, ls2, st2, M2) := hs
    unfold ast at hs
    split at hs
    · next x i a r =>
      split at hs
      · next m hm => cases hs; obtain ⟨⟨rfl, h9⟩, -⟩ := hp; exact G.iastore hm (vp_in_nI h9 (shp_small hm)) hd (by rw [nI_clamp (Nat.lt_trans h9 (shp_small hm))]; exact k)
      · cases hs
    · cases hs
  | laload => 
    obtain rfl : ln = 1 := bq hok
    have hs : lld z ls st M = some (Ps, ls2, st2, M2) := hs
    unfold lld at hs
    split at hs
    · next i a r =>
      split at hs
      · next e9 => obtain rfl := bq e9; cases hs; exact G.laload hp.1.2 hp.1.1 hd k
      · cases hs
    · cases hs
  | lastore => 
    obtain rfl : ln = 1 := bq hok
    have hs : lst z ls st M = some (Ps, ls2, st2, M2) := hs
    unfold lst at hs
    split at hs
    · next x i a r =>
      split at hs
      · next e9 => obtain rfl := bq e9; cases hs; exact G.lastore hp.1.2 hp.1.1 hd k
      · cases hs
    · cases hs
  | arraylength => 
    obtain rfl : ln = 1 := bq hok
    have hs : aln z ls st M = some (Ps, ls2, st2, M2) := hs
    unfold aln at hs
    split at hs
    · next a r =>
      split at hs
      · next m hm => cases hs; exact G.alen hm hd k
      · cases hs
      · split at hs
        · next e9 => obtain rfl := bq e9; cases hs; exact G.alen_s hd k
        · split at hs
          · next e9 => obtain rfl := bq e9; cases hs; exact G.alen_d hd k
          · cases hs
    · cases hs
  | getfield i => 
    have hok := hok; simp only [okE, Bool.and_eq_true, beq_iff_eq, decide_eq_true_eq] at hok
    obtain ⟨rfl, hf⟩ := hok
    have hs : gtf a1 a2 ls st M = some (Ps, ls2, st2, M2) := hs
    unfold gtf at hs
    split at hs
    · next a r =>
      split at hs
      · next c9 fs hm =>
        split at hs
        · next e9 =>
          obtain rfl := bq e9
          split at hs
          · next h9 => cases hs; exact G.getf hm (fok_in hf) (by rw [h9]; rfl) hd k
          · next b h9 => cases hs; exact G.getf hm (fok_in hf) (by rw [h9]; rfl) hd k
          · cases hs
        · cases hs
      · cases hs
    · cases hs
  | putfield i => 
    have hok := hok; simp only [okE, Bool.and_eq_true, beq_iff_eq, decide_eq_true_eq] at hok
    obtain ⟨⟨⟨⟨rfl, hf⟩, h12⟩, hfin⟩, hty⟩ := hok
    have hs : ptf a1 a2 ls st M = some (Ps, ls2, st2, M2) := hs
    unfold ptf at hs
    split at hs
    · next x a r =>
      split at hs
      · next c9 fs hm =>
        split at hs
        · next e9 =>
          obtain rfl := bq e9
          split at hs
          · next h9 => cases hs; exact G.putf h12 hm (fok_in hf) h9 hfin hty hd k
          · cases hs
        · cases hs
      · cases hs
    · cases hs
  | getstatic i => 
    have hok := hok; simp only [okE, Bool.and_eq_true, beq_iff_eq, decide_eq_true_eq] at hok
    obtain ⟨⟨rfl, rfl⟩, ho⟩ := hok
    cases hs
    exact G.gets ho hd k
  | goto off => 
    have hok := hok; simp only [okE, Bool.and_eq_true, beq_iff_eq, decide_eq_true_eq] at hok
    obtain ⟨rfl, ht⟩ := hok
    cases hs
    exact G.goto hd ht k
  | _ => cases hok
def uses (e : En) : Bool := match e.1 with
  | .iaload => true
  | .iastore => true
  | _ => false
def rn (z : Zp) : List En → List Nat → Sta → Ou
  | [], _, s => some ([], s)
  | e :: es, h, s => match stp z (h.headD 0) e s with
    | none => none
    | some (P1, s1) => match rn z es (match uses e with | true => h.tail | false => h) s1 with
      | none => none
      | some (P2, s2) => some (P1 ++ P2, s2)
def chk (own : String) (ml : Nat) (b : ByteArray) : Nat → List En → Bool
  | _, [] => true
  | pc, e :: es => decide (decode b pc = .ok (e.1, e.2.1)) && okE own ml pc e && chk own ml b (nxt pc e) es
theorem AllP_app : ∀ {a b : List Prop}, AllP (a ++ b) → AllP a ∧ AllP b
  | [], b, h => ⟨trivial, h⟩
  | p :: t, b, ⟨h1, h2⟩ => ⟨⟨h1, (AllP_app h2).1⟩, (AllP_app h2).2⟩
def fin : Nat → List En → Nat
  | pc, [] => pc
  | pc, e :: es => fin (nxt pc e) es
/-- A STRAIGHT PIECE -/
theorem G.sl {z : Zp} {μ : MI} {d cells slots : Nat} {Q : Rs → Prop} : ∀ (es : List En) (hs : List Nat) {pc pc2 : Nat} {ls ls2 : Lo} {st st2 : List Value} {M M2 : Mem} {Ps : List Prop}, chk μ.y.cls μ.ml μ.b pc es = true → fin pc es = pc2 → rn z es hs (ls, st, M) = some (Ps, ls2, st2, M2) → AllP Ps → G z μ d cells slots pc2 ls2 st2 M2 Q → G z μ d cells slots pc ls st M Q
  | [], hs, pc, pc2, ls, ls2, st, st2, M, M2, Ps, _, hf, hr, _, k => by cases hr; cases hf; exact k
  | e :: es, h, pc, pc2, ls, ls2, st, st2, M, M2, Ps, hc, hf, hr, hp, k => by
    simp only [chk, Bool.and_eq_true, decide_eq_true_eq] at hc
    obtain ⟨⟨h1, h2⟩, h3⟩ := hc
    simp only [rn] at hr
    cases hs : stp z (h.headD 0) e (ls, st, M) with
    | none => rw [hs] at hr; cases hr
    | some q =>
      obtain ⟨P1, ls1, st1, M1⟩ := q
      rw [hs] at hr
      cases hr2 : rn z es (match uses e with | true => h.tail | false => h) (ls1, st1, M1) with
      | none => simp only [hr2] at hr; cases hr
      | some q2 =>
        obtain ⟨P2, ls3, st3, M3⟩ := q2
        simp only [hr2] at hr
        cases hr
        obtain ⟨p1, p2⟩ := AllP_app hp
        exact stp_ok h1 h2 hs p1 (G.sl es _ h3 hf hr2 p2 k)
