/-! cells: ef=0, tape=1, tape.bytes=2, town=3, town.roadA=4, town.roadB=5, town.roadLength=6, town.worth=7, town.firstLies=8, town.firstHolder=9, town.firstSpot=10, town.far=11, newTown=12, newTown.roadA=13, newTown.roadB=14, newTown.roadLength=15, newTown.worth=16, newTown.firstLies=17, newTown.firstHolder=18, newTown.firstSpot=19, newTown.far=20, law=21, law.given=22, law.codes=23, law.values=24, newLaw=25, newLaw.given=26, newLaw.codes=27, newLaw.values=28, book=29, book.worthAt=30, newBook=31, newBook.worthAt=32, work=33, work.kind=34, work.first=35, work.second=36, now=37, now.row=38, now.purses=39, later=40, later.row=41, later.purses=42, history=43, history.workRows=44, history.imageRows=45, history.imageWorks=46, ways=47, ways.shortest=48, search=49, search.pairs=50, search.lying=51, search.tally=52, years=53, md=54, md.refused=55, md.tape=56, md.newRoad=57, md.newThing=58, md.newFinder=59, md.road=60, md.thing=61, md.finder=62, md.newCode=63, md.newOf=64, md.code=65, md.ofCode=66, md.stack=67, md.facts=68, md.newStep=69, md.step=70, md.now=71, md.s=72, md.past=73, md.newBook=74, md.book=75, md.farOf=76, md.roundOn=77, md.leftBy=78, md.image=79, out=80 -/
abbrev Mem : Type := (Nat → Nat → Int32) × Int64
abbrev Sh : Type := (Bool × Nat) ⊕ (Nat × List (Option Nat))
def shp : List Sh := [.inr (10, [some 1, some 3, some 12, some 21, some 25, some 29, some 31, some 33, some 37, some 40, some 43, some 47, some 49, some 53, none, none, none]), .inr (5, [some 2, none, none, none, none, none, none]), .inl (false, 600), .inr (6, [none, none, none, none, some 4, some 5, some 6, some 7, some 8, some 9, some 10, some 11]), .inl (false, 12), .inl (false, 12), .inl (false, 12), .inl (false, 10), .inl (false, 10), .inl (false, 10), .inl (false, 6), .inl (false, 64), .inr (6, [none, none, none, none, some 13, some 14, some 15, some 16, some 17, some 18, some 19, some 20]), .inl (false, 12), .inl (false, 12), .inl (false, 12), .inl (false, 10), .inl (false, 10), .inl (false, 10), .inl (false, 6), .inl (false, 64), .inr (3, [some 22, some 23, some 24, none]), .inl (false, 8), .inl (false, 150), .inl (false, 150), .inr (3, [some 26, some 27, some 28, none]), .inl (false, 8), .inl (false, 150), .inl (false, 150), .inr (0, [none, some 30]), .inl (false, 8), .inr (0, [none, some 32]), .inl (false, 8), .inr (8, [none, none, none, none, some 3, some 34, some 35, some 36]), .inl (false, 150), .inl (false, 150), .inl (false, 150), .inr (1, [some 38, some 39, some 3, some 21]), .inl (false, 51), .inl (false, 6), .inr (1, [some 41, some 42, some 3, some 21]), .inl (false, 51), .inl (false, 6), .inr (2, [none, none, some 44, some 45, some 46]), .inl (false, 816), .inl (false, 2601), .inl (false, 3), .inr (7, [some 3, some 37, some 48]), .inl (false, 2048), .inr (4, [none, some 50, some 3, some 37, some 29, some 51, some 52]), .inl (false, 80), .inl (false, 8), .inl (false, 601), .inr (9, [none, none, some 3, some 37, some 40]), .inr (11, [none, some 55, none, none, none, none, none, none, none, some 56, some 57, some 58, some 59, some 60, some 61, some 62, none, none, none, none, none, none, none, none, some 63, some 64, some 65, some 66, some 67, none, none, some 68, some 69, some 70, none, none, none, none, none, none, some 71, some 72, some 73, some 74, some 75, none, some 76, some 77, some 78, none, some 79, none]), .inl (false, 2), .inl (false, 600), .inl (false, 36), .inl (false, 30), .inl (false, 6), .inl (false, 36), .inl (false, 30), .inl (false, 6), .inl (false, 150), .inl (false, 150), .inl (false, 150), .inl (false, 150), .inl (false, 150), .inl (false, 8), .inl (false, 150), .inl (false, 150), .inl (false, 51), .inl (false, 51), .inl (false, 816), .inl (false, 8), .inl (false, 8), .inl (false, 64), .inl (false, 2048), .inl (false, 601), .inl (false, 2604), .inl (true, 1)]
def sOwn : List String := ["EvenFinders", "EvenFinders$Town", "EvenFinders$Law", "EvenFinders$Work", "EvenFinders", "EvenFindersModel", "EvenFindersModel", "EvenFindersModel", "EvenFindersModel", "EvenFindersModel", "EvenFindersModel", "EvenFindersModel", "EvenFindersModel", "EvenFindersModel", "EvenFindersModel", "EvenFindersModel", "EvenFindersModel", "EvenFindersModel", "EvenFindersModel", "EvenFindersModel", "EvenFindersModel", "EvenFindersModel", "EvenFindersModel", "EvenFindersModel", "EvenFindersModel"]
def sIdx : List Nat := [380, 64, 73, 39, 387, 197, 202, 203, 204, 205, 278, 283, 264, 266, 268, 270, 272, 274, 276, 298, 300, 302, 304, 306, 308]
def sTx : List String := ["a number is out of its range", "places road thing finder own", "worth owes held finds lying day shame finder least most", "walk find lose slip night again", "there is none of this number", "places", "road", "thing", "finder", "own", "least", "most", "worth", "owes", "held", "finds", "lying", "day", "shame", "walk", "find", "lose", "slip", "night", "again"]
def sLen : List Nat := [28, 28, 55, 31, 28, 6, 4, 5, 6, 3, 5, 4, 5, 4, 4, 5, 5, 3, 5, 4, 4, 4, 4, 5, 5]
def sByt : List (List Int32) := [[97, 32, 110, 117, 109, 98, 101, 114, 32, 105, 115, 32, 111, 117, 116, 32, 111, 102, 32, 105, 116, 115, 32, 114, 97, 110, 103, 101], [112, 108, 97, 99, 101, 115, 32, 114, 111, 97, 100, 32, 116, 104, 105, 110, 103, 32, 102, 105, 110, 100, 101, 114, 32, 111, 119, 110], [119, 111, 114, 116, 104, 32, 111, 119, 101, 115, 32, 104, 101, 108, 100, 32, 102, 105, 110, 100, 115, 32, 108, 121, 105, 110, 103, 32, 100, 97, 121, 32, 115, 104, 97, 109, 101, 32, 102, 105, 110, 100, 101, 114, 32, 108, 101, 97, 115, 116, 32, 109, 111, 115, 116], [119, 97, 108, 107, 32, 102, 105, 110, 100, 32, 108, 111, 115, 101, 32, 115, 108, 105, 112, 32, 110, 105, 103, 104, 116, 32, 97, 103, 97, 105, 110], [116, 104, 101, 114, 101, 32, 105, 115, 32, 110, 111, 110, 101, 32, 111, 102, 32, 116, 104, 105, 115, 32, 110, 117, 109, 98, 101, 114], [112, 108, 97, 99, 101, 115], [114, 111, 97, 100], [116, 104, 105, 110, 103], [102, 105, 110, 100, 101, 114], [111, 119, 110], [108, 101, 97, 115, 116], [109, 111, 115, 116], [119, 111, 114, 116, 104], [111, 119, 101, 115], [104, 101, 108, 100], [102, 105, 110, 100, 115], [108, 121, 105, 110, 103], [100, 97, 121], [115, 104, 97, 109, 101], [119, 97, 108, 107], [102, 105, 110, 100], [108, 111, 115, 101], [115, 108, 105, 112], [110, 105, 103, 104, 116], [97, 103, 97, 105, 110]]
def cst : List (String × Nat × Int32 × Nat) := [("java/lang/Integer", 265, 1431655765, 902), ("java/lang/Integer", 266, 858993459, 903), ("java/lang/Integer", 267, 252645135, 904), ("EvenFinders$Ways", 34, 1000000, 1128), ("EvenFinders$Days", 112, 2147483647, 1178), ("EvenFinders$Search", 75, 2147483647, 1222), ("EvenFinders$Years", 67, 1103515245, 1373), ("EvenFinders", 357, 2147483647, 1386), ("EvenFindersModel", 435, 1103515245, 1999)]
theorem cst_ok : cst.all (fun q => decide (lw_tbl[q.2.2.2]? = some (Cond.constant q.1 q.2.1 q.2.2.1))) = true := by decide +kernel
theorem dd_ok : Cond.fieldLink "EvenFinders$Odds" 23 "EvenFinders$Odds" "DEEDS" "[I" ∈ gt := mg (i := 1256) (by decide +kernel) rfl
def ddIdx : Nat := 23
def dds (j : Nat) : Int32 := match j with | 0 => 0 | 1 => 1 | 2 => 10 | _ => 11
def mput (M : Mem) (a k : Nat) (v : Int32) : Mem := (fun b j => if b = a ∧ j = k then v else M.1 b j, M.2)
def mout (M : Mem) (x : Int64) : Mem := (M.1, x)
/-- the row a of M, as a whole -/
def mrow (M : Mem) (a : Nat) (f : Nat → Int32) : Mem := (fun b j => if b = a then f j else M.1 b j, M.2)
def rv (ad : Nat → Nat) : Value → Value
  | .ref a => .ref (ad a)
  | v => v
theorem rv_cat (ad : Nat → Nat) (v : Value) : (rv ad v).category = v.category := by cases v <;> rfl
def wfs (ad : Nat → Nat) (f : Nat → Int32) : Nat → List (Option Nat) → List Value
  | _, [] => []
  | k, none :: t => .int (f k) :: wfs ad f (k + 1) t
  | k, some b :: t => .ref (ad b) :: wfs ad f (k + 1) t
def wcell (ad : Nat → Nat) (cI cL : ClassId) (M : Mem) (i : Nat) : Sh → va_E
  | .inl (false, n) => .inl (cI, n, .inl (M.1 i))
  | .inl (true, n) => .inl (cL, n, .inr (.inl (fun j => if j = 0 then M.2 else 0)))
  | .inr (ci, fs) => .inr (ci, wfs ad (M.1 i) 0 fs)
def wldF (ad : Nat → Nat) (cI cL : ClassId) (M : Mem) : Nat → List Sh → va_W
  | _, [] => []
  | i, s :: t => (ad i, wcell ad cI cL M i s) :: wldF ad cI cL M (i + 1) t
def wld (ad : Nat → Nat) (cI cL : ClassId) (M : Mem) : va_W := wldF ad cI cL M 0 shp
theorem wldF_get (ad : Nat → Nat) (cI cL : ClassId) (M : Mem) : ∀ (t : List Sh) (i k : Nat), (wldF ad cI cL M i t)[k]? = (t[k]?).map (fun s => (ad (i + k), wcell ad cI cL M (i + k) s))
  | [], i, k => by simp [wldF]
  | s :: t, i, 0 => by simp [wldF]
  | s :: t, i, k + 1 => by
    simp only [wldF, List.getElem?_cons_succ]
    rw [wldF_get ad cI cL M t (i + 1) k, show i + 1 + k = i + (k + 1) by omega]
theorem wld_get {ad : Nat → Nat} {cI cL : ClassId} {M : Mem} {q : Nat} {s : Sh} (h : shp[q]? = some s) : (wld ad cI cL M)[q]? = some (ad q, wcell ad cI cL M q s) := by
  unfold wld
  rw [wldF_get, h, Nat.zero_add]
  rfl
theorem wld_len (ad : Nat → Nat) (cI cL : ClassId) (M : Mem) (k : Nat) : (wld ad cI cL M)[k]? = (shp[k]?).map (fun s => (ad k, wcell ad cI cL M k s)) := by
  unfold wld
  rw [wldF_get, Nat.zero_add]
theorem wcell_congr {ad : Nat → Nat} {cI cL : ClassId} {M N : Mem} {i : Nat} (h1 : M.1 i = N.1 i) (h2 : M.2 = N.2) (s : Sh) : wcell ad cI cL M i s = wcell ad cI cL N i s := by
  rcases s with ⟨b, n⟩ | ⟨ci, fs⟩
  · cases b
    · simp only [wcell, h1]
    · simp only [wcell, h2]
  · simp only [wcell, h1]
/-- one cell of the world is laid anew -/
theorem wld_set {ad : Nat → Nat} {cI cL : ClassId} {M N : Mem} {q : Nat} {s : Sh} {e : va_E} (h : shp[q]? = some s) (he : e = wcell ad cI cL N q s) (ho : ∀ j s', shp[j]? = some s' → j ≠ q → wcell ad cI cL M j s' = wcell ad cI cL N j s') : (wld ad cI cL M).set q (ad q, e) = wld ad cI cL N := by
  apply List.ext_getElem?
  intro j
  rw [List.getElem?_set, wld_len, wld_len]
  by_cases hj : q = j
  · subst hj
    have hl : q < (wld ad cI cL M).length := by
      have := wld_get (ad := ad) (cI := cI) (cL := cL) (M := M) h
      exact (List.getElem?_eq_some_iff.mp this).1
    simp [hl, h, he]
  · simp only [if_neg hj]
    cases hs : shp[j]? with
    | none => rfl
    | some s' => simp only [Option.map_some, ho j s' hs (fun x => hj x.symm)]
theorem mput_row {M : Mem} {q k : Nat} {x : Int32} : (mput M q k x).1 q = upd (M.1 q) k x := by
  funext j
  simp [mput, upd]
theorem mput_off {M : Mem} {q j k : Nat} {x : Int32} (h : j ≠ q) : (mput M q k x).1 j = M.1 j := by
  funext i
  simp [mput, h]
theorem wld_put {ad : Nat → Nat} {cI cL : ClassId} {M : Mem} {q n k : Nat} {x : Int32} (h : shp[q]? = some (.inl (false, n))) : (wld ad cI cL M).set q (ad q, .inl (cI, n, .inl (upd (M.1 q) k x))) = wld ad cI cL (mput M q k x) :=
  wld_set h (by simp only [wcell, mput_row]) (fun j s' _ hj => wcell_congr (mput_off hj).symm rfl s')
theorem wfs_get {ad : Nat → Nat} {f : Nat → Int32} : ∀ (fs : List (Option Nat)) (i k : Nat), (wfs ad f i fs)[k]? = (fs[k]?).map (fun o => match o with | none => .int (f (i + k)) | some b => .ref (ad b))
  | [], i, k => by simp [wfs]
  | none :: t, i, 0 => by simp [wfs]
  | some b :: t, i, 0 => by simp [wfs]
  | none :: t, i, k + 1 => by
    simp only [wfs, List.getElem?_cons_succ]
    rw [wfs_get t (i + 1) k, show i + 1 + k = i + (k + 1) by omega]
  | some b :: t, i, k + 1 => by
    simp only [wfs, List.getElem?_cons_succ]
    rw [wfs_get t (i + 1) k, show i + 1 + k = i + (k + 1) by omega]
theorem wfs_len {ad : Nat → Nat} {f : Nat → Int32} : ∀ (fs : List (Option Nat)) (i : Nat), (wfs ad f i fs).length = fs.length
  | [], i => rfl
  | none :: t, i => by simp [wfs, wfs_len t (i + 1)]
  | some b :: t, i => by simp [wfs, wfs_len t (i + 1)]
theorem wfs_set {ad : Nat → Nat} {f : Nat → Int32} {fs : List (Option Nat)} {k : Nat} {x : Int32} (h : fs[k]? = some none) : (wfs ad f 0 fs).set k (.int x) = wfs ad (upd f k x) 0 fs := by
  apply List.ext_getElem?
  intro j
  rw [List.getElem?_set, wfs_get, wfs_get, wfs_len]
  have hl : k < fs.length := (List.getElem?_eq_some_iff.mp h).1
  by_cases hj : k = j
  · subst hj
    simp [hl, h, upd]
  · simp only [if_neg hj, Nat.zero_add]
    cases fs[j]? with
    | none => rfl
    | some o =>
      cases o with
      | none => simp [upd, fun x => hj (Eq.symm x)]
      | some b => rfl
theorem wld_putf {ad : Nat → Nat} {cI cL : ClassId} {M : Mem} {q ci k : Nat} {fs : List (Option Nat)} {x : Int32} (h : shp[q]? = some (.inr (ci, fs))) (hk : fs[k]? = some none) : (wld ad cI cL M).set q (ad q, .inr (ci, (wfs ad (M.1 q) 0 fs).set k (.int x))) = wld ad cI cL (mput M q k x) :=
  wld_set h (by simp only [wcell, mput_row, wfs_set hk]) (fun j s' _ hj => wcell_congr (mput_off hj).symm rfl s')
theorem wld_out {ad : Nat → Nat} {cI cL : ClassId} {M : Mem} {q n : Nat} {x : Int64} (h : shp[q]? = some (.inl (true, n))) (hu : ∀ j s', shp[j]? = some s' → j ≠ q → ∀ m, s' ≠ .inl (true, m)) : (wld ad cI cL M).set q (ad q, .inl (cL, n, .inr (.inl (vp_updL (fun j => if j = 0 then M.2 else 0) 0 x)))) = wld ad cI cL (mout M x) := by
  refine wld_set h ?_ ?_
  · simp only [wcell, mout]
    congr 4
    funext j
    by_cases hj : j = 0 <;> simp [vp_updL, hj]
  · intro j s' hs hj
    rcases s' with ⟨b, m⟩ | ⟨ci, fs⟩
    · cases b
      · rfl
      · exact absurd rfl (hu j _ hs hj m)
    · rfl
theorem wld_copy {ad : Nat → Nat} {cI cL : ClassId} {M : Mem} {q n : Nat} {f : Nat → Int32} (h : shp[q]? = some (.inl (false, n))) : (wld ad cI cL M).set q (ad q, .inl (cI, n, .inl f)) = wld ad cI cL (mrow M q f) := by
  refine wld_set h ?_ (fun j s' _ hj => wcell_congr ?_ rfl s')
  · simp only [wcell, mrow]
    congr 3
    funext j
    simp
  · funext i
    simp [mrow, hj]
/-- the addresses of a world don't hang on what it holds -/
theorem wld_D {ad : Nat → Nat} {cI cL : ClassId} {M N : Mem} {A : Nat → Prop} (h : va_D A (wld ad cI cL M)) : va_D A (wld ad cI cL N) := by
  have key : ∀ (k : Nat) (q : Nat × va_E), (wld ad cI cL N)[k]? = some q → ∃ e, (wld ad cI cL M)[k]? = some (q.1, e) := by
    intro k q hq
    rw [wld_len] at hq ⊢
    cases hs : shp[k]? with
    | none => rw [hs] at hq; cases hq
    | some s =>
      rw [hs] at hq
      cases hq
      exact ⟨_, rfl⟩
  refine ⟨fun i j x y hx hy e => ?_, fun k q hq => ?_⟩
  · obtain ⟨e1, h1⟩ := key i x hx
    obtain ⟨e2, h2⟩ := key j y hy
    exact h.1 i j _ _ h1 h2 e
  · obtain ⟨e1, h1⟩ := key k q hq
    exact h.2 k _ h1
theorem wld_A {ad : Nat → Nat} {cI cL : ClassId} {M : Mem} {A : Nat → Prop} {sz q : Nat} (h : va_D A (wld ad cI cL M)) (hA : ∀ q, sz ≤ q → A q) (hq : va_A (wld ad cI cL M) sz q) : A q := by
  rcases hq with ⟨k, e, hk⟩ | hq
  · exact h.2 k _ hk
  · exact hA q hq

