/-! cells: ef=0, tape=1, tape.bytes=2, town=3, town.roadA=4, town.roadB=5, town.roadLength=6, town.worth=7, town.firstLies=8, town.firstHolder=9, town.firstSpot=10, town.far=11, newTown=12, newTown.roadA=13, newTown.roadB=14, newTown.roadLength=15, newTown.worth=16, newTown.firstLies=17, newTown.firstHolder=18, newTown.firstSpot=19, newTown.far=20, law=21, law.given=22, law.codes=23, law.values=24, newLaw=25, newLaw.given=26, newLaw.codes=27, newLaw.values=28, book=29, book.worthAt=30, newBook=31, newBook.worthAt=32, work=33, work.kind=34, work.first=35, work.second=36, now=37, now.row=38, now.purses=39, later=40, later.row=41, later.purses=42, history=43, history.workRows=44, history.imageRows=45, history.imageWorks=46, ways=47, ways.shortest=48, search=49, search.pairs=50, search.lying=51, search.tally=52, years=53, md=54, md.refused=55, md.tape=56, md.newRoad=57, md.newThing=58, md.newFinder=59, md.road=60, md.thing=61, md.finder=62, md.newCode=63, md.newOf=64, md.code=65, md.ofCode=66, md.stack=67, md.facts=68, md.newStep=69, md.step=70, md.now=71, md.s=72, md.past=73, md.newBook=74, md.book=75, md.farOf=76, md.roundOn=77, md.leftBy=78, md.image=79, out=80 -/
abbrev Mem : Type := (Nat → Nat → Int32) × Int64
abbrev Sh : Type := (Bool × Nat) ⊕ (Nat × List (Option Nat))
def shp : List Sh := [.inr (10, [some 1, some 3, some 12, some 21, some 25, some 29, some 31, some 33, some 37, some 40, some 43, some 47, some 49, some 53, none, none, none]), .inr (5, [some 2, none, none, none, none, none, none]), .inl (false, 600), .inr (6, [none, none, none, none, some 4, some 5, some 6, some 7, some 8, some 9, some 10, some 11]), .inl (false, 12), .inl (false, 12), .inl (false, 12), .inl (false, 10), .inl (false, 10), .inl (false, 10), .inl (false, 6), .inl (false, 64), .inr (6, [none, none, none, none, some 13, some 14, some 15, some 16, some 17, some 18, some 19, some 20]), .inl (false, 12), .inl (false, 12), .inl (false, 12), .inl (false, 10), .inl (false, 10), .inl (false, 10), .inl (false, 6), .inl (false, 64), .inr (3, [some 22, some 23, some 24, none]), .inl (false, 8), .inl (false, 150), .inl (false, 150), .inr (3, [some 26, some 27, some 28, none]), .inl (false, 8), .inl (false, 150), .inl (false, 150), .inr (0, [none, some 30]), .inl (false, 8), .inr (0, [none, some 32]), .inl (false, 8), .inr (8, [none, none, none, none, some 3, some 34, some 35, some 36]), .inl (false, 150), .inl (false, 150), .inl (false, 150), .inr (1, [some 38, some 39, some 3, some 21]), .inl (false, 51), .inl (false, 6), .inr (1, [some 41, some 42, some 3, some 21]), .inl (false, 51), .inl (false, 6), .inr (2, [none, none, some 44, some 45, some 46]), .inl (false, 816), .inl (false, 2601), .inl (false, 3), .inr (7, [some 3, some 37, some 48]), .inl (false, 2048), .inr (4, [none, some 50, some 3, some 37, some 29, some 51, some 52]), .inl (false, 80), .inl (false, 8), .inl (false, 601), .inr (9, [none, none, some 3, some 37, some 40]), .inr (11, [none, some 55, none, none, none, none, none, none, none, some 56, some 57, some 58, some 59, some 60, some 61, some 62, none, none, none, none, none, none, none, none, some 63, some 64, some 65, some 66, some 67, none, none, some 68, some 69, some 70, none, none, none, none, none, none, some 71, some 72, some 73, some 74, some 75, none, some 76, some 77, some 78, none, some 79, none]), .inl (false, 2), .inl (false, 600), .inl (false, 36), .inl (false, 30), .inl (false, 6), .inl (false, 36), .inl (false, 30), .inl (false, 6), .inl (false, 150), .inl (false, 150), .inl (false, 150), .inl (false, 150), .inl (false, 150), .inl (false, 8), .inl (false, 150), .inl (false, 150), .inl (false, 51), .inl (false, 51), .inl (false, 816), .inl (false, 8), .inl (false, 8), .inl (false, 64), .inl (false, 2048), .inl (false, 601), .inl (false, 2604), .inl (true, 1)]
def sOwn : List String := ["EvenFinders", "EvenFinders$Town", "EvenFinders$Law", "EvenFinders$Work", "EvenFinders", "EvenFindersModel", "EvenFindersModel", "EvenFindersModel", "EvenFindersModel", "EvenFindersModel", "EvenFindersModel", "EvenFindersModel", "EvenFindersModel", "EvenFindersModel", "EvenFindersModel", "EvenFindersModel", "EvenFindersModel", "EvenFindersModel", "EvenFindersModel", "EvenFindersModel", "EvenFindersModel", "EvenFindersModel", "EvenFindersModel", "EvenFindersModel", "EvenFindersModel"]
def sIdx : List Nat := [378, 64, 73, 39, 385, 197, 202, 203, 204, 205, 278, 283, 264, 266, 268, 270, 272, 274, 276, 298, 300, 302, 304, 306, 308]
def sTx : List String := ["a number is out of its range", "places road thing finder own", "worth owes held finds lying day shame finder least most", "walk find lose slip night again", "there is none of this number", "places", "road", "thing", "finder", "own", "least", "most", "worth", "owes", "held", "finds", "lying", "day", "shame", "walk", "find", "lose", "slip", "night", "again"]
def sLen : List Nat := [28, 28, 55, 31, 28, 6, 4, 5, 6, 3, 5, 4, 5, 4, 4, 5, 5, 3, 5, 4, 4, 4, 4, 5, 5]
def sByt : List (List Int32) := [[97, 32, 110, 117, 109, 98, 101, 114, 32, 105, 115, 32, 111, 117, 116, 32, 111, 102, 32, 105, 116, 115, 32, 114, 97, 110, 103, 101], [112, 108, 97, 99, 101, 115, 32, 114, 111, 97, 100, 32, 116, 104, 105, 110, 103, 32, 102, 105, 110, 100, 101, 114, 32, 111, 119, 110], [119, 111, 114, 116, 104, 32, 111, 119, 101, 115, 32, 104, 101, 108, 100, 32, 102, 105, 110, 100, 115, 32, 108, 121, 105, 110, 103, 32, 100, 97, 121, 32, 115, 104, 97, 109, 101, 32, 102, 105, 110, 100, 101, 114, 32, 108, 101, 97, 115, 116, 32, 109, 111, 115, 116], [119, 97, 108, 107, 32, 102, 105, 110, 100, 32, 108, 111, 115, 101, 32, 115, 108, 105, 112, 32, 110, 105, 103, 104, 116, 32, 97, 103, 97, 105, 110], [116, 104, 101, 114, 101, 32, 105, 115, 32, 110, 111, 110, 101, 32, 111, 102, 32, 116, 104, 105, 115, 32, 110, 117, 109, 98, 101, 114], [112, 108, 97, 99, 101, 115], [114, 111, 97, 100], [116, 104, 105, 110, 103], [102, 105, 110, 100, 101, 114], [111, 119, 110], [108, 101, 97, 115, 116], [109, 111, 115, 116], [119, 111, 114, 116, 104], [111, 119, 101, 115], [104, 101, 108, 100], [102, 105, 110, 100, 115], [108, 121, 105, 110, 103], [100, 97, 121], [115, 104, 97, 109, 101], [119, 97, 108, 107], [102, 105, 110, 100], [108, 111, 115, 101], [115, 108, 105, 112], [110, 105, 103, 104, 116], [97, 103, 97, 105, 110]]
def cst : List (String × Nat × Int32 × Nat × Nat) := [("java/lang/Integer", 265, 1431655765, 4, 81), ("java/lang/Integer", 266, 858993459, 4, 82), ("java/lang/Integer", 267, 252645135, 4, 83), ("EvenFinders$Ways", 34, 1000000, 5, 67), ("EvenFinders$Days", 112, 1000000, 5, 117), ("EvenFinders$Search", 73, 1000000, 5, 161), ("EvenFinders$Years", 67, 1103515245, 6, 72), ("EvenFinders", 355, 1000000, 6, 85), ("EvenFindersModel", 435, 1103515245, 8, 218)]
theorem cst_ok : cst.all (fun q => decide ((tb q.2.2.2.1)[q.2.2.2.2]? = some (Cond.constant q.1 q.2.1 q.2.2.1))) = true := by decide +kernel
theorem dd_ok : Cond.fieldLink "EvenFinders$Odds" 23 "EvenFinders$Odds" "DEEDS" "[I" ∈ gt := mg (k := 5) (i := 195) (by decide +kernel) rfl
def ddIdx : Nat := 23
def dds (j : Nat) : Int32 := match j with | 0 => 0 | 1 => 1 | 2 => 10 | _ => 11
def mout (M : Mem) (x : Int64) : Mem := (M.1, x)
/-- the row a of M, as a whole -/
def mrow (M : Mem) (a : Nat) (f : Nat → Int32) : Mem := (fun b j => if b = a then f j else M.1 b j, M.2)
abbrev mput (M : Mem) (a k : Nat) (v : Int32) : Mem := mrow M a (upd (M.1 a) k v)
theorem mrow_hit (M : Mem) (a : Nat) (f : Nat → Int32) : (mrow M a f).1 a = f := by
  funext j
  simp [mrow]
theorem mrow_miss (M : Mem) {a b : Nat} (f : Nat → Int32) (h : b ≠ a) : (mrow M a f).1 b = M.1 b := by
  funext j
  simp [mrow, h]
theorem mrow_same (M : Mem) (a : Nat) (f g : Nat → Int32) : mrow (mrow M a f) a g = mrow M a g := by
  unfold mrow
  refine Prod.ext ?_ rfl
  funext b j
  by_cases h : b = a <;> simp [h]
theorem mrow_swap (M : Mem) {a b : Nat} (f g : Nat → Int32) (h : a < b) : mrow (mrow M b f) a g = mrow (mrow M a g) b f := by
  unfold mrow
  refine Prod.ext ?_ rfl
  funext c j
  by_cases h1 : c = a
  · by_cases h2 : c = b
    · omega
    · have : ¬ a = b := by omega
      simp [h1, this]
  · simp [h1]
theorem mout_row (M : Mem) (a : Nat) (f : Nat → Int32) (x : Int64) : mout (mrow M a f) x = mrow (mout M x) a f := rfl
def rv (ad : Nat → Nat) : Value → Value
  | .ref a => .ref (ad a)
  | v => v
theorem rv_cat (ad : Nat → Nat) (v : Value) : (rv ad v).category = v.category := by cases v <;> rfl
def wfs (ad : Nat → Nat) (f : Nat → Int32) : Nat → List (Option Nat) → List Value
  | _, [] => []
  | k, none :: t => .int (f k) :: wfs ad f (k + 1) t
  | k, some b :: t => .ref (ad b) :: wfs ad f (k + 1) t
def wcell (ad : Nat → Nat) (cI cL : ClassId) (M : Mem) (i : Nat) : Sh → va_E
  | .inl (false, n) => .inl (cI, n, .inl (M.1 i))
  | .inl (true, n) => .inl (cL, n, .inr (.inl (fun j => if j = 0 then M.2 else 0)))
  | .inr (ci, fs) => .inr (ci, wfs ad (M.1 i) 0 fs)
def wldF (ad : Nat → Nat) (cI cL : ClassId) (M : Mem) : Nat → List Sh → va_W
  | _, [] => []
  | i, s :: t => (ad i, wcell ad cI cL M i s) :: wldF ad cI cL M (i + 1) t
/-- all cells, or all but the last (the long array isn't made yet) -/
def shq (b : Bool) : List Sh := if b then shp else shp.take 80
theorem shq_lt {q : Nat} {s : Sh} {b : Bool} (h : shp[q]? = some s) (hq : q < 80) : (shq b)[q]? = some s := by
  unfold shq
  split
  · exact h
  · rw [List.getElem?_take_of_lt hq]; exact h
theorem shp_80 : ∀ (q : Nat) (s : Sh), shp[q]? = some s → (∀ n, s ≠ .inl (true, n)) → q < 80 := by
  intro q s h hs
  have hl : q < shp.length := (List.getElem?_eq_some_iff.mp h).1
  have h81 : shp.length = 81 := rfl
  have h8 : shp[80]? = some (.inl (true, 1)) := rfl
  by_cases e : q = 80
  · subst e
    rw [h8] at h
    exact absurd (Option.some.inj h).symm (hs 1)
  · omega
theorem shq_i {q n : Nat} {b : Bool} (h : shp[q]? = some (.inl (false, n))) : (shq b)[q]? = some (.inl (false, n)) := shq_lt h (shp_80 _ _ h (fun _ e => by cases e))
theorem shq_o {q : Nat} {x : Nat × List (Option Nat)} {b : Bool} (h : shp[q]? = some (.inr x)) : (shq b)[q]? = some (.inr x) := shq_lt h (shp_80 _ _ h (fun _ e => by cases e))
theorem shq_t {q : Nat} {s : Sh} {b : Bool} (hb : b = true) (h : shp[q]? = some s) : (shq b)[q]? = some s := by rw [hb]; exact h
theorem shq_un {j : Nat} {s : Sh} {b : Bool} (h : (shq b)[j]? = some s) : shp[j]? = some s := by
  unfold shq at h
  split at h
  · exact h
  · rw [List.getElem?_take] at h
    split at h
    · exact h
    · cases h
def wld (b : Bool) (ad : Nat → Nat) (cI cL : ClassId) (M : Mem) : va_W := wldF ad cI cL M 0 (shq b)
theorem wldF_get (ad : Nat → Nat) (cI cL : ClassId) (M : Mem) : ∀ (t : List Sh) (i k : Nat), (wldF ad cI cL M i t)[k]? = (t[k]?).map (fun s => (ad (i + k), wcell ad cI cL M (i + k) s))
  | [], i, k => by simp [wldF]
  | s :: t, i, 0 => by simp [wldF]
  | s :: t, i, k + 1 => by
    simp only [wldF, List.getElem?_cons_succ]
    rw [wldF_get ad cI cL M t (i + 1) k, show i + 1 + k = i + (k + 1) by omega]
theorem wld_get {b : Bool} {ad : Nat → Nat} {cI cL : ClassId} {M : Mem} {q : Nat} {s : Sh} (h : (shq b)[q]? = some s) : (wld b ad cI cL M)[q]? = some (ad q, wcell ad cI cL M q s) := by
  unfold wld
  rw [wldF_get, h, Nat.zero_add]
  rfl
theorem wld_len {b : Bool} (ad : Nat → Nat) (cI cL : ClassId) (M : Mem) (k : Nat) : (wld b ad cI cL M)[k]? = ((shq b)[k]?).map (fun s => (ad k, wcell ad cI cL M k s)) := by
  unfold wld
  rw [wldF_get, Nat.zero_add]
theorem wcell_congr {ad : Nat → Nat} {cI cL : ClassId} {M N : Mem} {i : Nat} (h1 : M.1 i = N.1 i) (h2 : M.2 = N.2) (s : Sh) : wcell ad cI cL M i s = wcell ad cI cL N i s := by
  rcases s with ⟨b, n⟩ | ⟨ci, fs⟩
  · cases b
    · simp only [wcell, h1]
    · simp only [wcell, h2]
  · simp only [wcell, h1]
/-- one cell of the world is laid anew -/
theorem wld_set {b : Bool} {ad : Nat → Nat} {cI cL : ClassId} {M N : Mem} {q : Nat} {s : Sh} {e : va_E} (h : (shq b)[q]? = some s) (he : e = wcell ad cI cL N q s) (ho : ∀ j s', (shq b)[j]? = some s' → j ≠ q → wcell ad cI cL M j s' = wcell ad cI cL N j s') : (wld b ad cI cL M).set q (ad q, e) = wld b ad cI cL N := by
  apply List.ext_getElem?
  intro j
  rw [List.getElem?_set, wld_len, wld_len]
  by_cases hj : q = j
  · subst hj
    have hl : q < (wld b ad cI cL M).length := by
      have := wld_get (ad := ad) (cI := cI) (cL := cL) (M := M) h
      exact (List.getElem?_eq_some_iff.mp this).1
    simp [hl, h, he]
  · simp only [if_neg hj]
    cases hs : (shq b)[j]? with
    | none => rfl
    | some s' => simp only [Option.map_some, ho j s' hs (fun x => hj x.symm)]
theorem mput_row {M : Mem} {q k : Nat} {x : Int32} : (mput M q k x).1 q = upd (M.1 q) k x := mrow_hit M q _
theorem mput_off {M : Mem} {q j k : Nat} {x : Int32} (h : j ≠ q) : (mput M q k x).1 j = M.1 j := mrow_miss M _ h
theorem wld_put {b : Bool} {ad : Nat → Nat} {cI cL : ClassId} {M : Mem} {q n k : Nat} {x : Int32} (h : (shq b)[q]? = some (.inl (false, n))) : (wld b ad cI cL M).set q (ad q, .inl (cI, n, .inl (upd (M.1 q) k x))) = wld b ad cI cL (mput M q k x) :=
  wld_set h (by simp only [wcell, mput_row]) (fun j s' _ hj => wcell_congr (mput_off hj).symm rfl s')
theorem wfs_get {ad : Nat → Nat} {f : Nat → Int32} : ∀ (fs : List (Option Nat)) (i k : Nat), (wfs ad f i fs)[k]? = (fs[k]?).map (fun o => match o with | none => .int (f (i + k)) | some b => .ref (ad b))
  | [], i, k => by simp [wfs]
  | none :: t, i, 0 => by simp [wfs]
  | some b :: t, i, 0 => by simp [wfs]
  | none :: t, i, k + 1 => by
    simp only [wfs, List.getElem?_cons_succ]
    rw [wfs_get t (i + 1) k, show i + 1 + k = i + (k + 1) by omega]
  | some b :: t, i, k + 1 => by
    simp only [wfs, List.getElem?_cons_succ]
    rw [wfs_get t (i + 1) k, show i + 1 + k = i + (k + 1) by omega]
theorem wfs_len {ad : Nat → Nat} {f : Nat → Int32} : ∀ (fs : List (Option Nat)) (i : Nat), (wfs ad f i fs).length = fs.length
  | [], i => rfl
  | none :: t, i => by simp [wfs, wfs_len t (i + 1)]
  | some b :: t, i => by simp [wfs, wfs_len t (i + 1)]
theorem wfs_set {ad : Nat → Nat} {f : Nat → Int32} {fs : List (Option Nat)} {k : Nat} {x : Int32} (h : fs[k]? = some none) : (wfs ad f 0 fs).set k (.int x) = wfs ad (upd f k x) 0 fs := by
  apply List.ext_getElem?
  intro j
  rw [List.getElem?_set, wfs_get, wfs_get, wfs_len]
  have hl : k < fs.length := (List.getElem?_eq_some_iff.mp h).1
  by_cases hj : k = j
  · subst hj
    rw [if_pos rfl, if_pos hl, h]
    simp [upd]
  · have hjk : ¬ j = k := fun x => hj x.symm
    simp only [if_neg hj, Nat.zero_add]
    cases fs[j]? with
    | none => rfl
    | some o =>
      cases o with
      | none => simp [upd, hjk]
      | some b => rfl
theorem wld_putf {b : Bool} {ad : Nat → Nat} {cI cL : ClassId} {M : Mem} {q ci k : Nat} {fs : List (Option Nat)} {x : Int32} (h : (shq b)[q]? = some (.inr (ci, fs))) (hk : fs[k]? = some none) : (wld b ad cI cL M).set q (ad q, .inr (ci, (wfs ad (M.1 q) 0 fs).set k (.int x))) = wld b ad cI cL (mput M q k x) :=
  wld_set h (by simp only [wcell, mput_row, wfs_set hk]) (fun j s' _ hj => wcell_congr (mput_off hj).symm rfl s')
theorem wld_out {b : Bool} {ad : Nat → Nat} {cI cL : ClassId} {M : Mem} {q n : Nat} {x : Int64} (h : (shq b)[q]? = some (.inl (true, n))) (hu : ∀ j s', (shq b)[j]? = some s' → j ≠ q → ∀ m, s' ≠ .inl (true, m)) : (wld b ad cI cL M).set q (ad q, .inl (cL, n, .inr (.inl (vp_updL (fun j => if j = 0 then M.2 else 0) 0 x)))) = wld b ad cI cL (mout M x) := by
  refine wld_set h ?_ ?_
  · have e : vp_updL (fun j => if j = 0 then M.2 else 0) 0 x = fun j => if j = 0 then x else 0 := by
      funext j
      by_cases hj : j = 0 <;> simp [vp_updL, hj]
    rw [e]
    rfl
  · intro j s' hs hj
    rcases s' with ⟨b, m⟩ | ⟨ci, fs⟩
    · cases b
      · rfl
      · exact absurd rfl (hu j _ hs hj m)
    · rfl
theorem wld_copy {b : Bool} {ad : Nat → Nat} {cI cL : ClassId} {M : Mem} {q n : Nat} {f : Nat → Int32} (h : (shq b)[q]? = some (.inl (false, n))) : (wld b ad cI cL M).set q (ad q, .inl (cI, n, .inl f)) = wld b ad cI cL (mrow M q f) := by
  have e : (mrow M q f).1 q = f := by
    funext j
    simp [mrow]
  refine wld_set h (by simp only [wcell, e]) (fun j s' _ hj => ?_)
  have e2 : M.1 j = (mrow M q f).1 j := by
    funext i
    simp [mrow, hj]
  exact wcell_congr e2 rfl s'
/-- the addresses of a world don't hang on what it holds -/
theorem wld_D {b : Bool} {ad : Nat → Nat} {cI cL : ClassId} {M N : Mem} {A : Nat → Prop} (h : va_D A (wld b ad cI cL M)) : va_D A (wld b ad cI cL N) := by
  have key : ∀ (k : Nat) (q : Nat × va_E), (wld b ad cI cL N)[k]? = some q → ∃ e, (wld b ad cI cL M)[k]? = some (q.1, e) := by
    intro k q hq
    rw [wld_len] at hq ⊢
    cases hs : (shq b)[k]? with
    | none => rw [hs] at hq; cases hq
    | some s =>
      rw [hs] at hq
      cases hq
      exact ⟨_, rfl⟩
  refine ⟨fun i j x y hx hy e => ?_, fun k q hq => ?_⟩
  · obtain ⟨e1, h1⟩ := key i x hx
    obtain ⟨e2, h2⟩ := key j y hy
    exact h.1 i j _ _ h1 h2 e
  · obtain ⟨e1, h1⟩ := key k q hq
    exact h.2 k (q.1, e1) h1
theorem wld_A {b : Bool} {ad : Nat → Nat} {cI cL : ClassId} {M : Mem} {A : Nat → Prop} {sz q : Nat} (h : va_D A (wld b ad cI cL M)) (hA : ∀ q, sz ≤ q → A q) (hq : va_A (wld b ad cI cL M) sz q) : A q := by
  rcases hq with ⟨k, e, hk⟩ | hq
  · exact h.2 k _ hk
  · exact hA q hq
/-! what lies outside the world and stays: statics, text constants, the script -/
def xw : List Cond := [.castable "java/lang/IllegalArgumentException" "java/lang/IllegalArgumentException", .castable "java/util/NoSuchElementException" "java/util/NoSuchElementException", .declares ⟨"java/lang/RuntimeException", "<init>", "(Ljava/lang/String;)V"⟩, .declares ⟨"java/lang/Exception", "<init>", "(Ljava/lang/String;)V"⟩, .declares ⟨"java/lang/Throwable", "<init>", "(Ljava/lang/String;)V"⟩]
abbrev Zp : Type := Launch × Nat × (Nat → Int32)
def EV (z : Zp) (ad adV : Nat → Nat) (A : Nat → Prop) (U : State) (H : Heap) : Prop :=
  vx_Zq Bundle.tN "UNASSIGNED_STACK" Bundle.steD A U H ∧ vx_Zq Bundle.tN "SUPPRESSED_SENTINEL" Bundle.listD A U H ∧
  (∀ i : Nat, i < 25 → vk_R (sOwn.getD i "") (sIdx.getD i 0) (sTx.getD i "") (ad (1000 + i)) U) ∧ vk_S 25 sLen sByt (fun i => ad (1000 + i)) adV A U H ∧
  va_Z "EvenFinders$Odds" "DEEDS" "[I" (.ref (ad 2000)) A U H ∧ va_T .int (ad 2000) 4 (fun j => .int (dds j)) A U H ∧
  (va_X (ad 3000) z.2.1 z.2.2 U H ∧ ¬ A (ad 3000) ∧ ad 3000 < H.size) ∧ (va_Z "java/lang/String" "COMPACT_STRINGS" "Z" (.int 1) A U H ∧ (∀ i : Nat, i < 25 → adV i = ad (4000 + i)) ∧ (va_Z "jdk/internal/util/Preconditions" "SIOOBE_FORMATTER" "Ljava/util/function/BiFunction;" .null A U H ∨ va_Z "jdk/internal/util/Preconditions" "SIOOBE_FORMATTER" "Ljava/util/function/BiFunction;" (.ref (ad 5000)) A U H)) ∧
  va_Nc "java/lang/IllegalArgumentException" "java/util/NoSuchElementException" U ∧
  ∀ w ∈ xw, va_Nw w U
theorem xw_ok : ∀ w ∈ xw, w.onTables = true ∧ w.faceAtom = true := by
  intro w hw
  simp only [xw, List.mem_cons, List.not_mem_nil, or_false] at hw
  rcases hw with rfl | rfl | rfl | rfl | rfl <;> exact ⟨rfl, rfl⟩
theorem nw_face {w : Cond} {s U : State} (ho : w.onTables = true ∧ w.faceAtom = true) (hW : s.WarmedH U.vm) (hZ : va_Nw w s) : va_Nw w U := va_tabs ho.1 (rfl : (s.setVm U.vm).vm = U.vm) (Cond.faceAtom_setVm hW.alike w ho.2 hZ)
theorem EV.warm {z : Zp} {ad adV : Nat → Nat} {A : Nat → Prop} {u U : State} {H : Heap} (hW : u.WarmedH U.vm) (h : EV z ad adV A u H) : EV z ad adV A U H := by
  obtain ⟨h1, h2, h3, h4, h5, h6, ⟨h7, h8, h9⟩, ⟨h10, h13, h14⟩, h11, h12⟩ := h
  exact ⟨vx_Zq.moved hW.alike h1, vx_Zq.moved hW.alike h2, fun i hi => vk_R.warm hW (h3 i hi), vk_S.moved hW.alike h4, va_Z.moved hW.alike h5, va_T.moved hW.alike h6, ⟨va_X.moved hW.alike h7, h8, h9⟩, ⟨va_Z.moved hW.alike h10, h13, h14.imp (fun h => va_Z.moved hW.alike h) (fun h => va_Z.moved hW.alike h)⟩, va_Nc.moved hW.alike h11, fun w hw => nw_face (xw_ok w hw) hW (h12 w hw)⟩
theorem EV.same {z : Zp} {ad adV : Nat → Nat} {A : Nat → Prop} {u U : State} {H : Heap} (hv : U.vm = u.vm) (h : EV z ad adV A u H) : EV z ad adV A U H := by
  have ha : u.vm.Alike U.vm := by rw [hv]; exact Vm.Alike.refl u.vm
  obtain ⟨h1, h2, h3, h4, h5, h6, ⟨h7, h8, h9⟩, ⟨h10, h13, h14⟩, h11, h12⟩ := h
  exact ⟨vx_Zq.moved ha h1, vx_Zq.moved ha h2, fun i hi => vk_R.same hv (h3 i hi), vk_S.moved ha h4, va_Z.moved ha h5, va_T.moved ha h6, ⟨va_X.moved ha h7, h8, h9⟩, ⟨va_Z.moved ha h10, h13, h14.imp (fun h => va_Z.moved ha h) (fun h => va_Z.moved ha h)⟩, va_Nc.moved ha h11, fun w hw => va_Nw.same (xw_ok w hw).1 hv.symm (h12 w hw)⟩
theorem EV.kept {z : Zp} {ad adV : Nat → Nat} {A : Nat → Prop} {U : State} {H H1 : Heap} (h : EV z ad adV A U H) (hq : ∀ a : Nat, a < H.size → ¬ A a → H1[a]? = H[a]?) (hz : H.size ≤ H1.size) : EV z ad adV A U H1 := by
  obtain ⟨h1, h2, h3, h4, h5, h6, ⟨h7, h8, h9⟩, ⟨h10, h13, h14⟩, h11, h12⟩ := h
  exact ⟨h1.kept hq, h2.kept hq, h3, h4.kept hq, h5.kept hq, h6.kept hq, ⟨h7.kept (hq _ h9 h8), h8, Nat.lt_of_lt_of_le h9 hz⟩, ⟨h10.kept hq, h13, h14.imp (fun h => h.kept hq) (fun h => h.kept hq)⟩, h11, h12⟩
theorem EV.narrow {z : Zp} {ad adV : Nat → Nat} {A B : Nat → Prop} {U : State} {H : Heap} (h : EV z ad adV A U H) (hAB : ∀ q, B q → A q) : EV z ad adV B U H := by
  obtain ⟨h1, h2, h3, h4, h5, h6, ⟨h7, h8, h9⟩, ⟨h10, h13, h14⟩, h11, h12⟩ := h
  exact ⟨h1.narrow hAB, h2.narrow hAB, h3, h4.narrow hAB, h5.narrow hAB, h6.narrow hAB, ⟨h7, fun q => h8 (hAB _ q), h9⟩, ⟨h10.narrow hAB, h13, h14.imp (fun h => h.narrow hAB) (fun h => h.narrow hAB)⟩, h11, h12⟩
/-! locals -/
abbrev Lo : Type := List (Option Value)
def lget (ls : Lo) (i : Nat) : Option Value := match ls[i]? with
  | some (some v) => some v
  | _ => none
def LR (ad : Nat → Nat) (n : Nat) (ls : Lo) (a : Array Slot) : Prop := ls.length = n ∧ a.size = n ∧ lv_wf a ∧ ∀ (i : Nat) (v : Value), lget ls i = some v → a[i]? = some (.val (rv ad v))
/-- a value of two places that ends at i is gone -/
def cut2 (ls : Lo) : Nat → Lo
  | 0 => ls
  | k + 1 => match lget ls k with
    | some w => if w.category = 2 then ls.set k none else ls
    | none => ls
def set1 (ls : Lo) (i : Nat) (v : Value) : Lo := (cut2 ls i).set i (some v)
def set2 (ls : Lo) (i : Nat) (v : Value) : Lo := ((cut2 ls i).set i (some v)).set (i + 1) none
theorem cut2_len (ls : Lo) (i : Nat) : (cut2 ls i).length = ls.length := by
  cases i with
  | zero => rfl
  | succ k =>
    simp only [cut2]
    split
    · split
      · simp
      · rfl
    · rfl
theorem lget_set {ls : Lo} {i j : Nat} {o : Option Value} (hi : i < ls.length) : lget (ls.set i o) j = if j = i then o else lget ls j := by
  unfold lget
  rw [List.getElem?_set]
  by_cases h : j = i
  · subst h
    simp only [if_pos rfl, hi, if_true]
    cases o <;> rfl
  · have h' : ¬ i = j := fun x => h x.symm
    simp only [if_neg h', if_neg h]
theorem lget_cut {ls : Lo} {i j : Nat} {v : Value} (h : lget (cut2 ls i) j = some v) : lget ls j = some v ∧ ¬ (j + 1 = i ∧ v.category = 2) := by
  cases i with
  | zero => exact ⟨h, by omega⟩
  | succ k =>
    simp only [cut2] at h
    cases hk : lget ls k with
    | none =>
      rw [hk] at h
      refine ⟨h, fun q => ?_⟩
      have e : j = k := by omega
      subst e
      rw [hk] at h
      cases h
    | some w =>
      rw [hk] at h
      by_cases hc : w.category = 2
      · simp only [if_pos hc] at h
        have hkl : k < ls.length := by
          unfold lget at hk
          cases hg : ls[k]? with
          | none => rw [hg] at hk; cases hk
          | some _ => exact (List.getElem?_eq_some_iff.mp hg).1
        rw [lget_set hkl] at h
        by_cases hj : j = k
        · rw [if_pos hj] at h; cases h
        · rw [if_neg hj] at h
          exact ⟨h, fun q => hj (by omega)⟩
      · simp only [if_neg hc] at h
        refine ⟨h, fun q => ?_⟩
        have e : j = k := by omega
        subst e
        rw [hk] at h
        cases h
        exact hc q.2
/-- the listed values, as the kit has them -/
def lA (ad : Nat → Nat) (ls : Lo) : List (Nat × Value) := (List.range ls.length).filterMap (fun i => (lget ls i).map (fun v => (i, rv ad v)))
theorem lA_mem {ad : Nat → Nat} {ls : Lo} {i : Nat} {v : Value} (h : lget ls i = some v) : (i, rv ad v) ∈ lA ad ls := by
  have hl : i < ls.length := by
    unfold lget at h
    cases hg : ls[i]? with
    | none => rw [hg] at h; cases h
    | some _ => exact (List.getElem?_eq_some_iff.mp hg).1
  exact List.mem_filterMap.mpr ⟨i, List.mem_range.mpr hl, by rw [h]; rfl⟩
theorem LR.has {ad : Nat → Nat} {n : Nat} {ls : Lo} {a : Array Slot} (h : LR ad n ls a) : lv_has a n (lA ad ls) := by
  refine ⟨h.2.1, h.2.2.1, fun q hq => ?_⟩
  obtain ⟨i, -, hi⟩ := List.mem_filterMap.mp hq
  cases hg : lget ls i with
  | none => rw [hg] at hi; cases hi
  | some v =>
    rw [hg] at hi
    cases hi
    exact h.2.2.2 i v hg
theorem LR.st1 {ad : Nat → Nat} {n i : Nat} {ls : Lo} {a a' : Array Slot} {v : Value} (h : LR ad n ls a) (hi : i < n) (g : lv_has a' n ((i, rv ad v) :: (lA ad ls).filter (fun q => !(q.1 == i) && !(q.1 + 1 == i && q.2.category == 2)))) : LR ad n (set1 ls i v) a' := by
  refine ⟨by rw [set1, List.length_set, cut2_len]; exact h.1, g.1, g.2.1, fun j w hj => ?_⟩
  rw [set1, lget_set (by rw [cut2_len, h.1]; exact hi)] at hj
  by_cases e : j = i
  · rw [if_pos e] at hj
    obtain rfl : v = w := Option.some.inj hj
    rw [e]
    exact g.2.2 (i, rv ad v) List.mem_cons_self
  · rw [if_neg e] at hj
    obtain ⟨h1, h2⟩ := lget_cut hj
    refine g.2.2 (j, rv ad w) (List.mem_cons_of_mem _ (List.mem_filter.mpr ⟨lA_mem h1, ?_⟩))
    simp only [rv_cat, Bool.and_eq_true, Bool.not_eq_true', beq_eq_false_iff_ne, ne_eq, Bool.and_eq_false_iff]
    refine ⟨e, ?_⟩
    by_cases q : j + 1 = i
    · exact Or.inr (fun c => h2 ⟨q, c⟩)
    · exact Or.inl q
theorem LR.st2 {ad : Nat → Nat} {n i : Nat} {ls : Lo} {a a' : Array Slot} {v : Value} (h : LR ad n ls a) (hi : i + 1 < n) (g : lv_has a' n ((i, rv ad v) :: (lA ad ls).filter (fun q => !(q.1 == i) && (!(q.1 == i + 1) && !(q.1 + 1 == i && q.2.category == 2))))) : LR ad n (set2 ls i v) a' := by
  refine ⟨by rw [set2, List.length_set, List.length_set, cut2_len]; exact h.1, g.1, g.2.1, fun j w hj => ?_⟩
  rw [set2, lget_set (by rw [List.length_set, cut2_len, h.1]; exact hi), lget_set (by rw [cut2_len, h.1]; omega)] at hj
  by_cases e1 : j = i + 1
  · rw [if_pos e1] at hj; cases hj
  · rw [if_neg e1] at hj
    by_cases e : j = i
    · rw [if_pos e] at hj
      obtain rfl : v = w := Option.some.inj hj
      rw [e]
      exact g.2.2 (i, rv ad v) List.mem_cons_self
    · rw [if_neg e] at hj
      obtain ⟨h1, h2⟩ := lget_cut hj
      refine g.2.2 (j, rv ad w) (List.mem_cons_of_mem _ (List.mem_filter.mpr ⟨lA_mem h1, ?_⟩))
      simp only [rv_cat, Bool.and_eq_true, Bool.not_eq_true', beq_eq_false_iff_ne, ne_eq, Bool.and_eq_false_iff]
      refine ⟨e, e1, ?_⟩
      by_cases q : j + 1 = i
      · exact Or.inr (fun c => h2 ⟨q, c⟩)
      · exact Or.inl q
/-! results of a method, the judgements -/
abbrev Rs : Type := (Option Value × Mem) ⊕ (String × Mem)
def QcW (b : Bool) (ad : Nat → Nat) (cI cL : ClassId) (D : va_G) (A : Nat → Prop) (Q : Rs → Prop) : Array Value → State → Outcome → State → Prop := fun _ st oc t => ∃ (v : Option Value) (N : Mem), oc = .returned (v.map (rv ad)) ∧ Q (.inl (v, N)) ∧ va_P D vwCl (wld b ad cI cL N) t.heap ∧ va_F A st t
def XcW (b : Bool) (ad : Nat → Nat) (cI cL : ClassId) (D : va_G) (A : Nat → Prop) (Q : Rs → Prop) : String → State → State → Prop := fun E st t => ∃ N : Mem, Q (.inr (E, N)) ∧ va_P D vwCl (wld b ad cI cL N) t.heap ∧ va_F A st t
/-- whether the long array stands already (a number of the script beyond its end tells it) -/
def oW (z : Zp) : Bool := decide (z.2.2 100000 = 0)
def Cx (z : Zp) (μ : MI) (d : Nat) (p : Program) (R : Room) (s : State) (m : MethodId) (args : Array Value) (meth : Method) (c : Code) (A : Nat → Prop) (ad adV : Nat → Nat) (cI cL : ClassId) (D : va_G) : Prop :=
  p.tables.exec = Jvm.exec ∧ c.code = μ.b ∧ meth.sig.returnType = μ.ret ∧ c.maxLocals = μ.ml ∧ s.vm.findClass μ.y.cls = some m.cls ∧ (∀ w ∈ gt, w.before args s = true) ∧ meth.locks = false ∧ c.exceptionTable.toList = tableOf μ.hh ∧
  va_K D vwCl [(cI, .int), (cL, .long)] s ∧ (∀ q, s.heap.size ≤ q → A q) ∧ EV z ad adV A s s.heap ∧ (d ≤ R.frames ∧ 64 * d ≤ R.locals ∧ μ.mc ≤ R.cells ∧ μ.ms ≤ R.slots) ∧ z.1.stackTraces = false
def G (z : Zp) (μ : MI) (d cells slots pc : Nat) (ls : Lo) (st : List Value) (M : Mem) (Q : Rs → Prop) : Prop :=
  ∀ (p : Program) (e : Env) (R : Room) (s : State) (m : MethodId) (args : Array Value) (below : List Frame) (meth : Method) (c : Code) (H : Heap) (locs : List Loc) (A : Nat → Prop) (ad adV : Nat → Nat) (cI cL : ClassId) (D : va_G) (la : Array Slot),
    Cx z μ d p R s m args meth c A ad adV cI cL D → va_P D vwCl (wld (oW z) ad cI cL M) H → va_D A (wld (oW z) ad cI cL M) → va_S A s.heap H locs → LR ad μ.ml ls la →
    W p z.1 e R s m args below meth c H locs cells slots (vx_MQ below (QcW (oW z) ad cI cL D A Q) (XcW (oW z) ad cI cL D A Q) args s μ.mc μ.ms A) (F0 m pc la (st.map (rv ad)))
def rmM (μ : MI) (d : Nat) : Room := { frames := d, cells := μ.mc, slots := μ.ms, locals := 64 * d }
def wsM (μ : MI) : List Cond := .code μ.y μ.b μ.ml μ.ret :: gt
def PreW (z : Zp) (ad adV : Nat → Nat) (cI cL : ClassId) (D : va_G) (sz : Nat) (M : Mem) (U : State) : Prop := U.heap.size = sz ∧ va_P D vwCl (wld (oW z) ad cI cL M) U.heap ∧ va_K D vwCl [(cI, .int), (cL, .long)] U ∧ va_D (fun _ => True) (wld (oW z) ad cI cL M) ∧ EV z ad adV (va_A (wld (oW z) ad cI cL M) sz) U U.heap
def GM (z : Zp) (μ : MI) (d : Nat) (as : List Value) (M : Mem) (Q : Rs → Prop) : Prop :=
  z.1.stackTraces = false → ∀ (ad adV : Nat → Nat) (cI cL : ClassId) (D : va_G) (sz : Nat), vx_Met z.1 μ.y (wsM μ) (rmM μ d) (va_Pc (as.map (rv ad)) (PreW z ad adV cI cL D sz M)) (QcW (oW z) ad cI cL D (va_A (wld (oW z) ad cI cL M) sz) Q) (XcW (oW z) ad cI cL D (va_A (wld (oW z) ad cI cL M) sz) Q) μ.mc μ.ms (va_A (wld (oW z) ad cI cL M) sz)
/-- the locals at a method's entry -/
def ent : List Value → Nat → Lo
  | [], n => List.replicate n none
  | v :: t, n => if v.category = 2 then some v :: none :: ent t (n - 2) else some v :: ent t (n - 1)

/-! entry -/
theorem ent_len : ∀ (as : List Value) (n : Nat), (lg_sl as).length ≤ n → (ent as n).length = n
  | [], n, _ => by simp [ent]
  | v :: t, n, h => by
    simp only [lg_sl, List.flatMap_cons, List.length_append] at h
    by_cases hc : v.category = 2
    · simp only [hc, if_true, List.length_cons, List.length_nil] at h
      have h2 : (lg_sl t).length ≤ n - 2 := by unfold lg_sl; omega
      simp only [ent, hc, if_true, List.length_cons, ent_len t (n - 2) h2]
      omega
    · simp only [hc, if_false, List.length_cons, List.length_nil] at h
      have h2 : (lg_sl t).length ≤ n - 1 := by unfold lg_sl; omega
      simp only [ent, hc, if_false, List.length_cons, ent_len t (n - 1) h2]
      omega
theorem ent_get (ad : Nat → Nat) : ∀ (as : List Value) (n i : Nat) (v : Value) (k : Nat), lget (ent as n) i = some v → (lg_sl (as.map (rv ad)) ++ List.replicate k Slot.unset)[i]? = some (.val (rv ad v))
  | [], n, i, v, k, h => by
    simp only [ent, lget] at h
    cases hg : (List.replicate n (none : Option Value))[i]? with
    | none => rw [hg] at h; cases h
    | some o =>
      rw [hg] at h
      have : o = none := List.eq_of_mem_replicate (List.mem_of_getElem? hg)
      rw [this] at h
      cases h
  | w :: t, n, i, v, k, h => by
    have hcat : (rv ad w).category = w.category := rv_cat ad w
    by_cases hc : w.category = 2
    · have e1 : lg_sl ((w :: t).map (rv ad)) = [.val (rv ad w), .second] ++ lg_sl (t.map (rv ad)) := by simp [lg_sl, hcat, hc]
      rw [e1]
      simp only [ent, hc, if_true] at h
      match i, h with
      | 0, h => cases h; rfl
      | 1, h => cases h
      | i + 2, h => exact ent_get ad t (n - 2) i v k h
    · have e1 : lg_sl ((w :: t).map (rv ad)) = [.val (rv ad w)] ++ lg_sl (t.map (rv ad)) := by simp [lg_sl, hcat, hc]
      rw [e1]
      simp only [ent, hc, if_false] at h
      match i, h with
      | 0, h => cases h; rfl
      | i + 1, h => exact ent_get ad t (n - 1) i v k h
theorem lg_len (ad : Nat → Nat) : ∀ (as : List Value), (lg_sl (as.map (rv ad))).length = (lg_sl as).length
  | [] => rfl
  | w :: t => by
    have ih := lg_len ad t
    unfold lg_sl at ih ⊢
    simp only [List.map_cons, List.flatMap_cons, List.length_append, rv_cat, ih]
    by_cases hc : w.category = 2 <;> simp [hc]
theorem LR.entry (ad : Nat → Nat) (as : List Value) (n : Nat) (h : (lg_sl as).length ≤ n) : LR ad n (ent as n) ((lg_sl (as.map (rv ad)) ++ List.replicate (n - (lg_sl (as.map (rv ad))).length) Slot.unset).toArray) := by
  have hv := lv_entry (as.map (rv ad)) (n := n) (by rw [lg_len]; exact h)
  refine ⟨ent_len as n h, hv.1, hv.2.1, fun i v hi => ?_⟩
  rw [List.getElem?_toArray]
  exact ent_get ad as n i v _ hi
/-- a method's contract out of its body -/
theorem GM.of {z : Zp} {μ : MI} {n d : Nat} {as : List Value} {M : Mem} {Q : Rs → Prop} (ho : MOK μ n) (hl : (lg_sl as).length ≤ μ.ml) (h : G z μ d 0 0 0 (ent as μ.ml) [] M Q) : GM z μ d as M Q := by
  intro hz ad adV cI cL D sz
  refine vx_ofW (cc := μ.b) (maxL := μ.ml) (ret := μ.ret) ho.2.2.2.1 rfl ?_
  intro p e s m args below meth c s₁ B hml ht hv
  obtain ⟨rfl, hsz, hP, hK, hD0, hE⟩ := hv
  subst hsz
  have hts := atoms_spec (ws := wsM μ) B.pre
  have hown : s.vm.findClass μ.y.cls = some m.cls := findClass_of_methodNamed B.named
  rw [lg_entry_eq]
  refine h p e _ s m _ below meth c s.heap [] (va_A (wld (oW z) ad cI cL M) s.heap.size) ad adV cI cL D _ ⟨B.exec, B.bytes, B.returns, hml, hown, fun w hw => hts w (List.mem_cons_of_mem _ hw), B.notSynchronized, ?_, hK, fun q hq => Or.inr hq, hE, ⟨Nat.le_refl _, Nat.le_refl _, Nat.le_refl _, Nat.le_refl _⟩, hz⟩ hP hD0.self va_S.rf (LR.entry ad as μ.ml hl)
  rw [ho.2.2.2.2.2]
  cases hc : c.exceptionTable.toList with
  | nil => rfl
  | cons x t => exact (ht x (by rw [hc]; exact List.mem_cons_self)).elim
/-! consequences -/
theorem G.mono {z : Zp} {μ : MI} {d cells slots pc : Nat} {ls : Lo} {st : List Value} {M : Mem} {Q Q' : Rs → Prop} (hq : ∀ r, Q r → Q' r) (h : G z μ d cells slots pc ls st M Q) : G z μ d cells slots pc ls st M Q' := by
  intro p e R s m args below meth c H locs A ad adV cI cL D la C hP hD hS hL T hT X
  obtain ⟨t, a1, o, b1, b2, b3⟩ := h p e R s m args below meth c H locs A ad adV cI cL D la C hP hD hS hL T hT X
  refine ⟨t, a1, o, b1, b2, ?_⟩
  rcases b3 with ⟨⟨v, N, q1, q2, q3, q4⟩, L⟩ | ⟨q, e1, E, ce, L, ⟨N, x1, x2⟩, rest⟩
  · exact Or.inl ⟨⟨v, N, q1, hq _ q2, q3, q4⟩, L⟩
  · exact Or.inr ⟨q, e1, E, ce, L, ⟨N, hq _ x1, x2⟩, rest⟩
theorem G.mem {z : Zp} {μ : MI} {d cells slots pc : Nat} {ls : Lo} {st : List Value} {M M' : Mem} {Q : Rs → Prop} (h : M = M') (k : G z μ d cells slots pc ls st M' Q) : G z μ d cells slots pc ls st M Q := h ▸ k
theorem G.eq {z : Zp} {μ : MI} {d cells slots pc : Nat} {ls ls' : Lo} {st st' : List Value} {M M' : Mem} {Q : Rs → Prop} (k : G z μ d cells slots pc ls' st' M' Q) (h1 : ls = ls') (h2 : st = st') (h : M = M') : G z μ d cells slots pc ls st M Q := by
  subst h1 h2 h
  exact k
/-- fewer locals -/
def subL : Lo → Lo → Prop
  | [], [] => True
  | a :: s, b :: t => (a = none ∨ a = b) ∧ subL s t
  | _, _ => False
theorem subL_get : ∀ {a b : Lo}, subL a b → ∀ (i : Nat) (v : Value), lget a i = some v → lget b i = some v
  | [], [], _, i, v, h => h
  | x :: s, y :: t, ⟨h1, h2⟩, 0, v, h => by
    rcases h1 with h1 | h1
    · subst h1; cases h
    · subst h1; exact h
  | x :: s, y :: t, ⟨h1, h2⟩, i + 1, v, h => subL_get h2 i v h
  | [], _ :: _, h, _, _, _ => h.elim
  | _ :: _, [], h, _, _, _ => h.elim
theorem subL_len : ∀ {a b : Lo}, subL a b → a.length = b.length
  | [], [], _ => rfl
  | x :: s, y :: t, ⟨_, h2⟩ => by rw [List.length_cons, List.length_cons, subL_len h2]
  | [], _ :: _, h => h.elim
  | _ :: _, [], h => h.elim
theorem G.loc {z : Zp} {μ : MI} {d cells slots pc : Nat} {ls ls2 : Lo} {st : List Value} {M : Mem} {Q : Rs → Prop} (h : subL ls2 ls) (k : G z μ d cells slots pc ls2 st M Q) : G z μ d cells slots pc ls st M Q := by
  intro p e R s m args below meth c H locs A ad adV cI cL D la C hP hD hS hL
  exact k p e R s m args below meth c H locs A ad adV cI cL D la C hP hD hS ⟨(subL_len h).trans hL.1, hL.2.1, hL.2.2.1, fun i v hv => hL.2.2.2 i v (subL_get h i v hv)⟩
/-! ends -/
theorem G.reti {z : Zp} {μ : MI} {d cells slots pc : Nat} {ls : Lo} {v : Int32} {M : Mem} {Q : Rs → Prop} {ty : FieldType} (hd : decode μ.b pc = .ok (.ireturn, 1)) (hr : μ.ret = some ty) (hn : narrow ty (.int v) = .int v) (hc : cells ≤ μ.mc) (hs : slots ≤ μ.ms) (hq : Q (.inl (some (.int v), M))) : G z μ d cells slots pc ls [.int v] M Q := by
  intro p e R s m args below meth c H locs A ad adV cI cL D la C hP hD hS hL
  refine W.widen hc hs (vx_ret ?_)
  exact W.zret C.1 C.2.1 (C.2.2.1.trans hr) hn (fun t ht hW => ⟨some (.int v), M, rfl, hq, by rw [ht]; exact hP, hS.F ht⟩) hS.2.2 hd C.2.2.2.2.2.2.1
theorem G.retl {z : Zp} {μ : MI} {d cells slots pc : Nat} {ls : Lo} {v : Int64} {M : Mem} {Q : Rs → Prop} (hd : decode μ.b pc = .ok (.lreturn, 1)) (hr : μ.ret = some .long) (hc : cells ≤ μ.mc) (hs : slots ≤ μ.ms) (hq : Q (.inl (some (.long v), M))) : G z μ d cells slots pc ls [.long v] M Q := by
  intro p e R s m args below meth c H locs A ad adV cI cL D la C hP hD hS hL
  refine W.widen hc hs (vx_ret ?_)
  exact W.lret C.1 C.2.1 (C.2.2.1.trans hr) (fun t ht hW => ⟨some (.long v), M, rfl, hq, by rw [ht]; exact hP, hS.F ht⟩) hS.2.2 hd C.2.2.2.2.2.2.1
theorem G.retv {z : Zp} {μ : MI} {d cells slots pc : Nat} {ls : Lo} {M : Mem} {Q : Rs → Prop} (hd : decode μ.b pc = .ok (.return_, 1)) (hr : μ.ret = none) (hc : cells ≤ μ.mc) (hs : slots ≤ μ.ms) (hq : Q (.inl (none, M))) : G z μ d cells slots pc ls [] M Q := by
  intro p e R s m args below meth c H locs A ad adV cI cL D la C hP hD hS hL
  refine W.widen hc hs (vx_ret ?_)
  exact W.vret C.1 C.2.1 (C.2.2.1.trans hr) (fun t ht hW => ⟨none, M, rfl, hq, by rw [ht]; exact hP, hS.F ht⟩) hS.2.2 hd C.2.2.2.2.2.2.1
/-! calls -/
theorem GoodM {μ : MI} {n : Nat} (ho : MOK μ n) : GoodIn gt (wsM μ) := by
  intro w hw
  rcases List.mem_cons.mp hw with h | h
  · rw [h]; exact ⟨ho.1, gt_good _ ho.1⟩
  · exact ⟨h, gt_good _ h⟩
theorem PreW_calls {z : Zp} {ad adV : Nat → Nat} {cI cL : ClassId} {D : va_G} {as : List Value} {sz : Nat} {M : Mem} : FrameBlind (va_Pc (as.map (rv ad)) (PreW z ad adV cI cL D sz M)) := by
  intro a U g mk q
  obtain ⟨q0, q1, qP, qK, qD, qE⟩ := q
  exact ⟨q0, q1, qP, va_K.moved (u := U) (U := U.calling g mk a) (Vm.Alike.refl U.vm) qK, qD, EV.same (u := U) (U := U.calling g mk a) rfl qE⟩
theorem PreW_at {z : Zp} {μ : MI} {d : Nat} {p : Program} {R : Room} {s : State} {m : MethodId} {args : Array Value} {meth : Method} {c : Code} {A : Nat → Prop} {ad adV : Nat → Nat} {cI cL : ClassId} {D : va_G} {H : Heap} {locs : List Loc} {M : Mem} (C : Cx z μ d p R s m args meth c A ad adV cI cL D) (hP : va_P D vwCl (wld (oW z) ad cI cL M) H) (hD : va_D A (wld (oW z) ad cI cL M)) (hS : va_S A s.heap H locs) (as : List Value) :
    ∀ U : State, U.heap = H → s.WarmedH U.vm → va_Pc (as.map (rv ad)) (PreW z ad adV cI cL D H.size M) (as.map (rv ad)).toArray U := by
  intro U hU hW
  obtain ⟨-, -, -, -, -, -, -, -, hK, hA, hE, -, -⟩ := C
  refine ⟨rfl, by rw [hU], by rw [hU]; exact hP, va_K.moved hW.alike hK, hD.weaken (fun _ _ _ _ => trivial), ?_⟩
  rw [hU]
  exact EV.warm hW ((hE.kept hS.2.1 hS.1).narrow (fun q hq => wld_A hD (fun q h => hA q (Nat.le_trans hS.1 h)) hq))
theorem callB {z : Zp} {μ μ' : MI} {d n idx : Nat} {p : Program} {R : Room} {s : State} {m : MethodId} {args : Array Value} {meth : Method} {c : Code} {A : Nat → Prop} {ad adV : Nat → Nat} {cI cL : ClassId} {D : va_G} (C : Cx z μ (d + 1) p R s m args meth c A ad adV cI cL D) (ho : MOK μ' n) (hl : Cond.methodLink μ.y.cls idx μ'.y ∈ gt) :
    CallB R s args μ.y.cls idx μ'.y μ'.b μ'.ml μ'.ret (wsM μ') (rmM μ' d) μ'.mc μ'.ms n := by
  obtain ⟨-, -, -, -, -, hts, -, -, -, -, -, ⟨r1, r2, r3, r4⟩, -⟩ := C
  obtain ⟨h1, h2, ⟨h3, h4, h5⟩, h6, h7, h8⟩ := id ho
  refine ⟨rfl, rfl, r1, ?_, pay_in hts (GoodM ho), List.mem_cons_self, hts _ h1, hts _ h2, ⟨h3, h4⟩, fun sig h => ?_, hts _ hl⟩
  · show 8 + (μ'.ml + 11) + 64 * d ≤ R.locals
    omega
  · rw [h] at h5
    exact (Option.some.inj h5).symm
/-- what comes back from a call -/
theorem G.back {z : Zp} {μ μ' : MI} {d cells slots pc : Nat} {ls : Lo} {st rest : List Value} {M : Mem} {Q Q' : Rs → Prop}
    {p : Program} {e : Env} {R : Room} {s : State} {m : MethodId} {args : Array Value} {below : List Frame} {meth : Method} {c : Code} {H : Heap} {locs : List Loc} {A : Nat → Prop} {ad adV : Nat → Nat} {cI cL : ClassId} {D : va_G} {la : Array Slot} {a : Array Value}
    (C : Cx z μ (d + 1) p R s m args meth c A ad adV cI cL D) (hP : va_P D vwCl (wld (oW z) ad cI cL M) H) (hD : va_D A (wld (oW z) ad cI cL M)) (hS : va_S A s.heap H locs) (hL : LR ad μ.ml ls la)
    (hh : μ.hh = []) (hroom : cells + μ'.mc ≤ μ.mc ∧ slots + μ'.ms ≤ μ.ms)
    (hr : vx_Run p z.1 e R s m args below meth c H locs cells slots μ'.mc μ'.ms (F0 m pc la (st.map (rv ad))) (rest.map (rv ad)) (QcW (oW z) ad cI cL D (va_A (wld (oW z) ad cI cL M) H.size) Q' a) (XcW (oW z) ad cI cL D (va_A (wld (oW z) ad cI cL M) H.size) Q') (va_A (wld (oW z) ad cI cL M) H.size))
    (kr : ∀ (v : Option Value) (N : Mem), Q' (.inl (v, N)) → G z μ (d + 1) (cells + μ'.mc) (slots + μ'.ms) (pc + 3) ls (v.toList ++ rest) N Q)
    (kx : ∀ (E : String) (N : Mem), Q' (.inr (E, N)) → Q (.inr (E, N))) :
    W p z.1 e R s m args below meth c H locs cells slots (vx_MQ below (QcW (oW z) ad cI cL D A Q) (XcW (oW z) ad cI cL D A Q) args s μ.mc μ.ms A) (F0 m pc la (st.map (rv ad))) := by
  intro T hT X
  have hA : ∀ q, va_A (wld (oW z) ad cI cL M) H.size q → A q := fun q hq => wld_A hD (fun q h => C.2.2.2.2.2.2.2.2.2.1 q (Nat.le_trans hS.1 h)) hq
  rcases hr T hT X with ⟨v, st₀, t, T', L, h0, X', hLo, e1, e2, ⟨v', N, hv, hq, hP', hF⟩, go⟩ | ⟨q, st₀, t, T', L, E, ce, h0, X', hLo, e1, e2, ⟨N, hq, hP', hF⟩, hce, hcv, hcl, go⟩
  · cases hv
    obtain ⟨k1, k2, k3⟩ := vx_keep (free := va_A (wld (oW z) ad cI cL M) H.size) h0 e1 hS (fun q _ h => hA q h) hA hLo hF
    obtain ⟨t2, a1, b1⟩ := kr v' N hq p e R s m args below meth c T'.heap (locs ++ L) A ad adV cI cL D la C (by rw [e1]; exact hP') (wld_D hD) k3 hL T' rfl X'
    refine ⟨t2, go t2 ?_, b1⟩
    have e9 : (v'.map (rv ad)).toList ++ rest.map (rv ad) = (v'.toList ++ rest).map (rv ad) := by cases v' <;> simp
    rw [e9]
    exact a1
  · obtain ⟨k1, k2, k3⟩ := vx_keep (free := va_A (wld (oW z) ad cI cL M) H.size) h0 e1 hS (fun q _ h => hA q h) hA hLo hF
    obtain ⟨t2, a1, b1⟩ := vx_out (ls := la) (rest := rest.map (rv ad)) (pc := pc) (E := E) (ce := ce) (q := q) (mc := μ.mc) (ms := μ.ms) (Qc := QcW (oW z) ad cI cL D A Q) (XC := XcW (oW z) ad cI cL D A Q) (free := A) (H := T'.heap) (locs := locs ++ L) (cells := cells + μ'.mc) (slots := slots + μ'.ms) (args := args) (below := below) (fun x hx => by rw [C.2.2.2.2.2.2.2.1, hh] at hx; cases hx) C.2.2.2.2.2.2.1 (by rw [e1]; exact hce) hcv hcl
      (fun t9 ht9 _ => ⟨N, kx E N hq, by rw [ht9, e1]; exact hP', k3.F ht9⟩) k3.2.2 hroom.1 hroom.2 T' rfl X'
    exact ⟨t2, go.trans a1, b1⟩
theorem G.callV {z : Zp} {μ μ' : MI} {d cells slots pc n idx a ci : Nat} {fs : List (Option Nat)} {ls : Lo} {as rest : List Value} {M : Mem} {Q Q' : Rs → Prop} (ho : MOV μ' n) (hl : Cond.methodLink μ.y.cls idx μ'.y ∈ gt) (hd : decode μ.b pc = .ok (.invokevirtual idx, 3)) (hn : as.length = n) (ha : shp[a]? = some (.inr (ci, fs))) (hc : vwCl[ci]? = some (clT ci) ∧ (clT ci).1 = μ'.y.cls) (hcat : (rest.map fun v => v.category).sum ≤ 8) (hh : μ.hh = []) (hroom : cells + μ'.mc ≤ μ.mc ∧ slots + μ'.ms ≤ μ.ms) (hM : GM z μ' d (.ref a :: as) M Q')
    (kr : ∀ (v : Option Value) (N : Mem), Q' (.inl (v, N)) → G z μ (d + 1) (cells + μ'.mc) (slots + μ'.ms) (pc + 3) ls (v.toList ++ rest) N Q) (kx : ∀ (E : String) (N : Mem), Q' (.inr (E, N)) → Q (.inr (E, N))) : G z μ (d + 1) cells slots pc ls (as.reverse ++ .ref a :: rest) M Q := by
  intro p e R s m args below meth c H locs A ad adV cI cL D la C hP hD hS hL
  have hcb := callB C ho.1 hl
  have hts := C.2.2.2.2.2.1
  have hrecv := va_recv (s := s) C.2.2.2.2.2.2.2.2.1 hP hc.1 (wld_get (shq_o ha))
  rw [hc.2] at hrecv
  refine G.back (a := (Value.ref (ad a) :: as.map (rv ad)).toArray) C hP hD hS hL hh hroom (vx_runV ⟨C.1, C.2.1, C.2.2.2.1, C.2.2.2.2.1, hts⟩ (hM C.2.2.2.2.2.2.2.2.2.2.2.2 ad adV cI cL D H.size) ⟨hcb, hts _ ho.2.1, hts _ ho.2.2⟩ ⟨PreW_calls, hrecv, PreW_at C hP hD hS (.ref a :: as)⟩ rfl (by rw [List.length_map]; exact hn) hL.2.1 ?_ (lv_room (by simpa [Function.comp_def, rv_cat] using hcat)) hd ⟨Nat.le_trans hroom.1 C.2.2.2.2.2.2.2.2.2.2.2.1.2.2.1, Nat.le_trans hroom.2 C.2.2.2.2.2.2.2.2.2.2.2.1.2.2.2⟩) kr kx
  simp [rv]
theorem G.callS {z : Zp} {μ μ' : MI} {d cells slots pc n idx : Nat} {ls : Lo} {as rest : List Value} {M : Mem} {Q Q' : Rs → Prop} (ho : MOS μ' n) (hl : Cond.methodLink μ.y.cls idx μ'.y ∈ gt) (hd : decode μ.b pc = .ok (.invokestatic idx, 3)) (hn : as.length = n) (hcat : (rest.map fun v => v.category).sum ≤ 8) (hh : μ.hh = []) (hroom : cells + μ'.mc ≤ μ.mc ∧ slots + μ'.ms ≤ μ.ms) (hM : GM z μ' d as M Q')
    (kr : ∀ (v : Option Value) (N : Mem), Q' (.inl (v, N)) → G z μ (d + 1) (cells + μ'.mc) (slots + μ'.ms) (pc + 3) ls (v.toList ++ rest) N Q) (kx : ∀ (E : String) (N : Mem), Q' (.inr (E, N)) → Q (.inr (E, N))) : G z μ (d + 1) cells slots pc ls (as.reverse ++ rest) M Q := by
  intro p e R s m args below meth c H locs A ad adV cI cL D la C hP hD hS hL
  have hcb := callB C ho.1 hl
  have hts := C.2.2.2.2.2.1
  refine G.back (a := (as.map (rv ad)).toArray) C hP hD hS hL hh hroom (vx_runS ⟨C.1, C.2.1, C.2.2.2.1, C.2.2.2.2.1, hts⟩ (hM C.2.2.2.2.2.2.2.2.2.2.2.2 ad adV cI cL D H.size) ⟨hcb, hts _ ho.2⟩ ⟨PreW_calls, PreW_at C hP hD hS as⟩ rfl (by rw [List.length_map]; exact hn) hL.2.1 ?_ (lv_room (by simpa [Function.comp_def, rv_cat] using hcat)) hd ⟨Nat.le_trans hroom.1 C.2.2.2.2.2.2.2.2.2.2.2.1.2.2.1, Nat.le_trans hroom.2 C.2.2.2.2.2.2.2.2.2.2.2.1.2.2.2⟩) kr kx
  simp

