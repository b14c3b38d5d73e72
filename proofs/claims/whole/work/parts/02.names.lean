def RX0 : String := "EvenFinders$Book"
def TX0 : u_T := fun k => match k with
  | 0 => ("EvenFinders$Book", "lines", "I", false)
  | _ => ("EvenFinders$Book", "worthAt", "[I", true)
def tyX0 : Nat → FieldType := fun k => match k with
  | 0 => .int
  | _ => .array .int
theorem nmX0 : ∀ a, a < 2 → ∀ b, b < 2 → a ≠ b → (TX0 a).2.1 ≠ (TX0 b).2.1 := by decide +kernel
theorem tyX0_ok : ∀ k, k < 2 → parseFieldDescriptor (TX0 k).2.2.1 = some (tyX0 k) := by decide +kernel
abbrev cX0_init : ByteArray := prog_2_method_1_code
def yX0_init : MethodName := ⟨RX0, "<init>", "()V"⟩
abbrev cX0_clear : ByteArray := prog_2_method_2_code
def yX0_clear : MethodName := ⟨RX0, "clear", "()V"⟩
abbrev cX0_take : ByteArray := prog_2_method_3_code
def yX0_take : MethodName := ⟨RX0, "take", "(LEvenFinders$Book;)V"⟩
abbrev cX0_readFrom : ByteArray := prog_2_method_4_code
def yX0_readFrom : MethodName := ⟨RX0, "readFrom", "(LEvenFinders$Tape;I)V"⟩
def RX1 : String := "EvenFinders$Days"
def TX1 : u_T := fun k => match k with
  | 0 => ("EvenFinders$Days", "row", "[I", true)
  | 1 => ("EvenFinders$Days", "purses", "[I", true)
  | 2 => ("EvenFinders$Days", "town", "LEvenFinders$Town;", true)
  | _ => ("EvenFinders$Days", "law", "LEvenFinders$Law;", true)
def tyX1 : Nat → FieldType := fun k => match k with
  | 0 => .array .int
  | 1 => .array .int
  | 2 => .object "EvenFinders$Town"
  | _ => .object "EvenFinders$Law"
theorem nmX1 : ∀ a, a < 4 → ∀ b, b < 4 → a ≠ b → (TX1 a).2.1 ≠ (TX1 b).2.1 := by decide +kernel
theorem tyX1_ok : ∀ k, k < 4 → parseFieldDescriptor (TX1 k).2.2.1 = some (tyX1 k) := by decide +kernel
abbrev cX1_init : ByteArray := prog_3_method_1_code
def yX1_init : MethodName := ⟨RX1, "<init>", "(LEvenFinders$Town;LEvenFinders$Law;)V"⟩
abbrev cX1_begin : ByteArray := prog_3_method_2_code
def yX1_begin : MethodName := ⟨RX1, "begin", "()V"⟩
abbrev cX1_take : ByteArray := prog_3_method_3_code
def yX1_take : MethodName := ⟨RX1, "take", "(LEvenFinders$Days;)V"⟩
abbrev cX1_walks : ByteArray := prog_3_method_4_code
def yX1_walks : MethodName := ⟨RX1, "walks", "(II)Z"⟩
abbrev cX1_mayFind : ByteArray := prog_3_method_5_code
def yX1_mayFind : MethodName := ⟨RX1, "mayFind", "(II)Z"⟩
abbrev cX1_finds : ByteArray := prog_3_method_6_code
def yX1_finds : MethodName := ⟨RX1, "finds", "(II)Z"⟩
abbrev cX1_loses : ByteArray := prog_3_method_7_code
def yX1_loses : MethodName := ⟨RX1, "loses", "(II)Z"⟩
abbrev cX1_slips : ByteArray := prog_3_method_8_code
def yX1_slips : MethodName := ⟨RX1, "slips", "(II)Z"⟩
abbrev cX1_drop : ByteArray := prog_3_method_9_code
def yX1_drop : MethodName := ⟨RX1, "drop", "(II)V"⟩
abbrev cX1_nightComes : ByteArray := prog_3_method_10_code
def yX1_nightComes : MethodName := ⟨RX1, "nightComes", "()Z"⟩
abbrev cX1_nightFalls : ByteArray := prog_3_method_11_code
def yX1_nightFalls : MethodName := ⟨RX1, "nightFalls", "()V"⟩
abbrev cX1_leastHeld : ByteArray := prog_3_method_12_code
def yX1_leastHeld : MethodName := ⟨RX1, "leastHeld", "(I)I"⟩
abbrev cX1_dutyOf : ByteArray := prog_3_method_13_code
def yX1_dutyOf : MethodName := ⟨RX1, "dutyOf", "(II)I"⟩
abbrev cX1_placeOf : ByteArray := prog_3_method_14_code
def yX1_placeOf : MethodName := ⟨RX1, "placeOf", "(I)I"⟩
abbrev cX1_heldBy : ByteArray := prog_3_method_15_code
def yX1_heldBy : MethodName := ⟨RX1, "heldBy", "(I)I"⟩
abbrev cX1_heldByAll : ByteArray := prog_3_method_16_code
def yX1_heldByAll : MethodName := ⟨RX1, "heldByAll", "()I"⟩
abbrev cX1_lyingWorth : ByteArray := prog_3_method_17_code
def yX1_lyingWorth : MethodName := ⟨RX1, "lyingWorth", "()I"⟩
abbrev cX1_lyingAt : ByteArray := prog_3_method_18_code
def yX1_lyingAt : MethodName := ⟨RX1, "lyingAt", "(I)I"⟩
abbrev cX1_findersAt : ByteArray := prog_3_method_19_code
def yX1_findersAt : MethodName := ⟨RX1, "findersAt", "(I)I"⟩
abbrev cX1_even : ByteArray := prog_3_method_20_code
def yX1_even : MethodName := ⟨RX1, "even", "()I"⟩
abbrev cX1_owing : ByteArray := prog_3_method_21_code
def yX1_owing : MethodName := ⟨RX1, "owing", "()I"⟩
abbrev cX1_shames : ByteArray := prog_3_method_22_code
def yX1_shames : MethodName := ⟨RX1, "shames", "()I"⟩
abbrev cX1_greatestLying : ByteArray := prog_3_method_23_code
def yX1_greatestLying : MethodName := ⟨RX1, "greatestLying", "()I"⟩
abbrev cX1_deepestOwing : ByteArray := prog_3_method_24_code
def yX1_deepestOwing : MethodName := ⟨RX1, "deepestOwing", "()I"⟩
abbrev cX1_leastToBeEven : ByteArray := prog_3_method_25_code
def yX1_leastToBeEven : MethodName := ⟨RX1, "leastToBeEven", "(I)I"⟩
abbrev cX1_setsWorth : ByteArray := prog_3_method_26_code
def yX1_setsWorth : MethodName := ⟨RX1, "setsWorth", "(II)I"⟩
abbrev cX1_eachEnough : ByteArray := prog_3_method_27_code
def yX1_eachEnough : MethodName := ⟨RX1, "eachEnough", "(I)I"⟩
abbrev cX1_levelled : ByteArray := prog_3_method_28_code
def yX1_levelled : MethodName := ⟨RX1, "levelled", "(III)I"⟩
abbrev cX1_givenBy : ByteArray := prog_3_method_29_code
def yX1_givenBy : MethodName := ⟨RX1, "givenBy", "(I)I"⟩
def RX2 : String := "EvenFinders$History"
def TX2 : u_T := fun k => match k with
  | 0 => ("EvenFinders$History", "works", "I", false)
  | 1 => ("EvenFinders$History", "images", "I", false)
  | 2 => ("EvenFinders$History", "workRows", "[I", true)
  | 3 => ("EvenFinders$History", "imageRows", "[I", true)
  | _ => ("EvenFinders$History", "imageWorks", "[I", true)
def tyX2 : Nat → FieldType := fun k => match k with
  | 0 => .int
  | 1 => .int
  | 2 => .array .int
  | 3 => .array .int
  | _ => .array .int
theorem nmX2 : ∀ a, a < 5 → ∀ b, b < 5 → a ≠ b → (TX2 a).2.1 ≠ (TX2 b).2.1 := by decide +kernel
theorem tyX2_ok : ∀ k, k < 5 → parseFieldDescriptor (TX2 k).2.2.1 = some (tyX2 k) := by decide +kernel
abbrev cX2_init : ByteArray := prog_4_method_1_code
def yX2_init : MethodName := ⟨RX2, "<init>", "()V"⟩
abbrev cX2_clear : ByteArray := prog_4_method_2_code
def yX2_clear : MethodName := ⟨RX2, "clear", "()V"⟩
abbrev cX2_keepWork : ByteArray := prog_4_method_3_code
def yX2_keepWork : MethodName := ⟨RX2, "keepWork", "(LEvenFinders$Days;)V"⟩
abbrev cX2_takeWorkBack : ByteArray := prog_4_method_4_code
def yX2_takeWorkBack : MethodName := ⟨RX2, "takeWorkBack", "(LEvenFinders$Days;)Z"⟩
abbrev cX2_keepImage : ByteArray := prog_4_method_5_code
def yX2_keepImage : MethodName := ⟨RX2, "keepImage", "(LEvenFinders$Days;)Z"⟩
abbrev cX2_takeImageBack : ByteArray := prog_4_method_6_code
def yX2_takeImageBack : MethodName := ⟨RX2, "takeImageBack", "(LEvenFinders$Days;)Z"⟩
def RX3 : String := "EvenFinders$Law"
def TX3 : u_T := fun k => match k with
  | 0 => ("EvenFinders$Law", "given", "[I", true)
  | 1 => ("EvenFinders$Law", "codes", "[I", true)
  | 2 => ("EvenFinders$Law", "values", "[I", true)
  | _ => ("EvenFinders$Law", "many", "I", false)
def tyX3 : Nat → FieldType := fun k => match k with
  | 0 => .array .int
  | 1 => .array .int
  | 2 => .array .int
  | _ => .int
theorem nmX3 : ∀ a, a < 4 → ∀ b, b < 4 → a ≠ b → (TX3 a).2.1 ≠ (TX3 b).2.1 := by decide +kernel
theorem tyX3_ok : ∀ k, k < 4 → parseFieldDescriptor (TX3 k).2.2.1 = some (tyX3 k) := by decide +kernel
abbrev cX3_init : ByteArray := prog_5_method_1_code
def yX3_init : MethodName := ⟨RX3, "<init>", "()V"⟩
abbrev cX3_makePlain : ByteArray := prog_5_method_2_code
def yX3_makePlain : MethodName := ⟨RX3, "makePlain", "()V"⟩
abbrev cX3_take : ByteArray := prog_5_method_3_code
def yX3_take : MethodName := ⟨RX3, "take", "(LEvenFinders$Law;)V"⟩
abbrev cX3_readFrom : ByteArray := prog_5_method_4_code
def yX3_readFrom : MethodName := ⟨RX3, "readFrom", "(LEvenFinders$Tape;)V"⟩
abbrev cX3_readSum : ByteArray := prog_5_method_5_code
def yX3_readSum : MethodName := ⟨RX3, "readSum", "(LEvenFinders$Tape;I)V"⟩
abbrev cX3_readProduct : ByteArray := prog_5_method_6_code
def yX3_readProduct : MethodName := ⟨RX3, "readProduct", "(LEvenFinders$Tape;I)V"⟩
abbrev cX3_readUnit : ByteArray := prog_5_method_7_code
def yX3_readUnit : MethodName := ⟨RX3, "readUnit", "(LEvenFinders$Tape;I)V"⟩
abbrev cX3_readBracket : ByteArray := prog_5_method_8_code
def yX3_readBracket : MethodName := ⟨RX3, "readBracket", "(LEvenFinders$Tape;I)V"⟩
abbrev cX3_readPair : ByteArray := prog_5_method_9_code
def yX3_readPair : MethodName := ⟨RX3, "readPair", "(LEvenFinders$Tape;IC)V"⟩
abbrev cX3_put : ByteArray := prog_5_method_10_code
def yX3_put : MethodName := ⟨RX3, "put", "(I)V"⟩
abbrev cX3_comesOut : ByteArray := prog_5_method_11_code
def yX3_comesOut : MethodName := ⟨RX3, "comesOut", "()I"⟩
abbrev cX3_join : ByteArray := prog_5_method_12_code
def yX3_join : MethodName := ⟨RX3, "join", "(III)I"⟩
def RX4 : String := "EvenFinders$Odds"
def TX4 : u_T := fun k => match k with
  | _ => ("", "", "", false)
def tyX4 : Nat → FieldType := fun k => match k with
  | _ => .int
theorem nmX4 : ∀ a, a < 0 → ∀ b, b < 0 → a ≠ b → (TX4 a).2.1 ≠ (TX4 b).2.1 := by decide +kernel
theorem tyX4_ok : ∀ k, k < 0 → parseFieldDescriptor (TX4 k).2.2.1 = some (tyX4 k) := by decide +kernel
abbrev cX4_bentPart : ByteArray := prog_6_method_2_code
def yX4_bentPart : MethodName := ⟨RX4, "bentPart", "(IIII)J"⟩
abbrev cX4_choose : ByteArray := prog_6_method_3_code
def yX4_choose : MethodName := ⟨RX4, "choose", "(II)J"⟩
abbrev cX4_commonPart : ByteArray := prog_6_method_4_code
def yX4_commonPart : MethodName := ⟨RX4, "commonPart", "(JJ)J"⟩
abbrev cX4_has : ByteArray := prog_6_method_5_code
def yX4_has : MethodName := ⟨RX4, "has", "(IIII)I"⟩
abbrev cX4_isRest : ByteArray := prog_6_method_6_code
def yX4_isRest : MethodName := ⟨RX4, "isRest", "(III)Z"⟩
abbrev cX4_rests : ByteArray := prog_6_method_7_code
def yX4_rests : MethodName := ⟨RX4, "rests", "(II)I"⟩
abbrev cX4_firstRest : ByteArray := prog_6_method_8_code
def yX4_firstRest : MethodName := ⟨RX4, "firstRest", "(II)I"⟩
abbrev cX4_bothHave : ByteArray := prog_6_method_9_code
def yX4_bothHave : MethodName := ⟨RX4, "bothHave", "(III)I"⟩
def RX5 : String := "EvenFinders$Search"
def TX5 : u_T := fun k => match k with
  | 0 => ("EvenFinders$Search", "many", "I", false)
  | 1 => ("EvenFinders$Search", "pairs", "[I", true)
  | 2 => ("EvenFinders$Search", "town", "LEvenFinders$Town;", true)
  | 3 => ("EvenFinders$Search", "now", "LEvenFinders$Days;", true)
  | 4 => ("EvenFinders$Search", "book", "LEvenFinders$Book;", true)
  | 5 => ("EvenFinders$Search", "lying", "[I", true)
  | _ => ("EvenFinders$Search", "tally", "[I", true)
def tyX5 : Nat → FieldType := fun k => match k with
  | 0 => .int
  | 1 => .array .int
  | 2 => .object "EvenFinders$Town"
  | 3 => .object "EvenFinders$Days"
  | 4 => .object "EvenFinders$Book"
  | 5 => .array .int
  | _ => .array .int
theorem nmX5 : ∀ a, a < 7 → ∀ b, b < 7 → a ≠ b → (TX5 a).2.1 ≠ (TX5 b).2.1 := by decide +kernel
theorem tyX5_ok : ∀ k, k < 7 → parseFieldDescriptor (TX5 k).2.2.1 = some (tyX5 k) := by decide +kernel
abbrev cX5_init : ByteArray := prog_7_method_1_code
def yX5_init : MethodName := ⟨RX5, "<init>", "(LEvenFinders$Town;LEvenFinders$Days;LEvenFinders$Book;)V"⟩
abbrev cX5_listPairs : ByteArray := prog_7_method_2_code
def yX5_listPairs : MethodName := ⟨RX5, "listPairs", "()V"⟩
abbrev cX5_isRight : ByteArray := prog_7_method_3_code
def yX5_isRight : MethodName := ⟨RX5, "isRight", "(I)Z"⟩
abbrev cX5_worthThen : ByteArray := prog_7_method_4_code
def yX5_worthThen : MethodName := ⟨RX5, "worthThen", "(II)I"⟩
abbrev cX5_nextPlace : ByteArray := prog_7_method_5_code
def yX5_nextPlace : MethodName := ⟨RX5, "nextPlace", "()I"⟩
abbrev cX5_leftAtWorst : ByteArray := prog_7_method_6_code
def yX5_leftAtWorst : MethodName := ⟨RX5, "leftAtWorst", "(I)I"⟩
def RX6 : String := "EvenFinders$Tape"
def TX6 : u_T := fun k => match k with
  | 0 => ("EvenFinders$Tape", "bytes", "[I", true)
  | 1 => ("EvenFinders$Tape", "filled", "I", false)
  | 2 => ("EvenFinders$Tape", "fault", "I", false)
  | 3 => ("EvenFinders$Tape", "faultPlace", "I", false)
  | 4 => ("EvenFinders$Tape", "tokenPlace", "I", false)
  | 5 => ("EvenFinders$Tape", "length", "I", false)
  | _ => ("EvenFinders$Tape", "at", "I", false)
def tyX6 : Nat → FieldType := fun k => match k with
  | 0 => .array .int
  | 1 => .int
  | 2 => .int
  | 3 => .int
  | 4 => .int
  | 5 => .int
  | _ => .int
theorem nmX6 : ∀ a, a < 7 → ∀ b, b < 7 → a ≠ b → (TX6 a).2.1 ≠ (TX6 b).2.1 := by decide +kernel
theorem tyX6_ok : ∀ k, k < 7 → parseFieldDescriptor (TX6 k).2.2.1 = some (tyX6 k) := by decide +kernel
abbrev cX6_init : ByteArray := prog_8_method_1_code
def yX6_init : MethodName := ⟨RX6, "<init>", "()V"⟩
abbrev cX6_push : ByteArray := prog_8_method_2_code
def yX6_push : MethodName := ⟨RX6, "push", "(I)V"⟩
abbrev cX6_begin : ByteArray := prog_8_method_3_code
def yX6_begin : MethodName := ⟨RX6, "begin", "(I)V"⟩
abbrev cX6_isFaulty : ByteArray := prog_8_method_4_code
def yX6_isFaulty : MethodName := ⟨RX6, "isFaulty", "()Z"⟩
abbrev cX6_fail : ByteArray := prog_8_method_5_code
def yX6_fail : MethodName := ⟨RX6, "fail", "(II)V"⟩
abbrev cX6_next : ByteArray := prog_8_method_6_code
def yX6_next : MethodName := ⟨RX6, "next", "()I"⟩
abbrev cX6_needSign : ByteArray := prog_8_method_7_code
def yX6_needSign : MethodName := ⟨RX6, "needSign", "(C)V"⟩
abbrev cX6_number : ByteArray := prog_8_method_8_code
def yX6_number : MethodName := ⟨RX6, "number", "(II)I"⟩
abbrev cX6_word : ByteArray := prog_8_method_9_code
def yX6_word : MethodName := ⟨RX6, "word", "(Ljava/lang/String;)I"⟩
abbrev cX6_indexIn : ByteArray := prog_8_method_10_code
def yX6_indexIn : MethodName := ⟨RX6, "indexIn", "(Ljava/lang/String;I)I"⟩
abbrev cX6_isDigit : ByteArray := prog_8_method_11_code
def yX6_isDigit : MethodName := ⟨RX6, "isDigit", "(I)Z"⟩
def RX7 : String := "EvenFinders$Town"
def TX7 : u_T := fun k => match k with
  | 0 => ("EvenFinders$Town", "places", "I", false)
  | 1 => ("EvenFinders$Town", "roads", "I", false)
  | 2 => ("EvenFinders$Town", "things", "I", false)
  | 3 => ("EvenFinders$Town", "finders", "I", false)
  | 4 => ("EvenFinders$Town", "roadA", "[I", true)
  | 5 => ("EvenFinders$Town", "roadB", "[I", true)
  | 6 => ("EvenFinders$Town", "roadLength", "[I", true)
  | 7 => ("EvenFinders$Town", "worth", "[I", true)
  | 8 => ("EvenFinders$Town", "firstLies", "[I", true)
  | 9 => ("EvenFinders$Town", "firstHolder", "[I", true)
  | 10 => ("EvenFinders$Town", "firstSpot", "[I", true)
  | _ => ("EvenFinders$Town", "far", "[I", true)
def tyX7 : Nat → FieldType := fun k => match k with
  | 0 => .int
  | 1 => .int
  | 2 => .int
  | 3 => .int
  | 4 => .array .int
  | 5 => .array .int
  | 6 => .array .int
  | 7 => .array .int
  | 8 => .array .int
  | 9 => .array .int
  | 10 => .array .int
  | _ => .array .int
theorem nmX7 : ∀ a, a < 12 → ∀ b, b < 12 → a ≠ b → (TX7 a).2.1 ≠ (TX7 b).2.1 := by decide +kernel
theorem tyX7_ok : ∀ k, k < 12 → parseFieldDescriptor (TX7 k).2.2.1 = some (tyX7 k) := by decide +kernel
abbrev cX7_init : ByteArray := prog_9_method_1_code
def yX7_init : MethodName := ⟨RX7, "<init>", "()V"⟩
abbrev cX7_take : ByteArray := prog_9_method_2_code
def yX7_take : MethodName := ⟨RX7, "take", "(LEvenFinders$Town;)V"⟩
abbrev cX7_readFrom : ByteArray := prog_9_method_3_code
def yX7_readFrom : MethodName := ⟨RX7, "readFrom", "(LEvenFinders$Tape;)V"⟩
abbrev cX7_isFull : ByteArray := prog_9_method_4_code
def yX7_isFull : MethodName := ⟨RX7, "isFull", "(I)Z"⟩
abbrev cX7_readClause : ByteArray := prog_9_method_5_code
def yX7_readClause : MethodName := ⟨RX7, "readClause", "(LEvenFinders$Tape;I)V"⟩
abbrev cX7_readPlaces : ByteArray := prog_9_method_6_code
def yX7_readPlaces : MethodName := ⟨RX7, "readPlaces", "(LEvenFinders$Tape;)V"⟩
abbrev cX7_readRoad : ByteArray := prog_9_method_7_code
def yX7_readRoad : MethodName := ⟨RX7, "readRoad", "(LEvenFinders$Tape;)V"⟩
abbrev cX7_addThing : ByteArray := prog_9_method_8_code
def yX7_addThing : MethodName := ⟨RX7, "addThing", "(LEvenFinders$Tape;II)V"⟩
abbrev cX7_readFinder : ByteArray := prog_9_method_9_code
def yX7_readFinder : MethodName := ⟨RX7, "readFinder", "(LEvenFinders$Tape;)V"⟩
abbrev cX7_measure : ByteArray := prog_9_method_10_code
def yX7_measure : MethodName := ⟨RX7, "measure", "()V"⟩
abbrev cX7_shorten : ByteArray := prog_9_method_11_code
def yX7_shorten : MethodName := ⟨RX7, "shorten", "(III)V"⟩
abbrev cX7_farFrom : ByteArray := prog_9_method_12_code
def yX7_farFrom : MethodName := ⟨RX7, "farFrom", "(II)I"⟩
abbrev cX7_otherEnd : ByteArray := prog_9_method_13_code
def yX7_otherEnd : MethodName := ⟨RX7, "otherEnd", "(II)I"⟩
abbrev cX7_roadsAt : ByteArray := prog_9_method_14_code
def yX7_roadsAt : MethodName := ⟨RX7, "roadsAt", "(I)I"⟩
abbrev cX7_worthOf : ByteArray := prog_9_method_15_code
def yX7_worthOf : MethodName := ⟨RX7, "worthOf", "(I)I"⟩
def RX8 : String := "EvenFinders$Ways"
def TX8 : u_T := fun k => match k with
  | 0 => ("EvenFinders$Ways", "town", "LEvenFinders$Town;", true)
  | 1 => ("EvenFinders$Ways", "now", "LEvenFinders$Days;", true)
  | _ => ("EvenFinders$Ways", "shortest", "[I", true)
def tyX8 : Nat → FieldType := fun k => match k with
  | 0 => .object "EvenFinders$Town"
  | 1 => .object "EvenFinders$Days"
  | _ => .array .int
theorem nmX8 : ∀ a, a < 3 → ∀ b, b < 3 → a ≠ b → (TX8 a).2.1 ≠ (TX8 b).2.1 := by decide +kernel
theorem tyX8_ok : ∀ k, k < 3 → parseFieldDescriptor (TX8 k).2.2.1 = some (tyX8 k) := by decide +kernel
abbrev cX8_init : ByteArray := prog_10_method_1_code
def yX8_init : MethodName := ⟨RX8, "<init>", "(LEvenFinders$Town;LEvenFinders$Days;)V"⟩
abbrev cX8_wayTo : ByteArray := prog_10_method_2_code
def yX8_wayTo : MethodName := ⟨RX8, "wayTo", "(II)I"⟩
abbrev cX8_nearestThing : ByteArray := prog_10_method_3_code
def yX8_nearestThing : MethodName := ⟨RX8, "nearestThing", "(I)I"⟩
abbrev cX8_inReach : ByteArray := prog_10_method_4_code
def yX8_inReach : MethodName := ⟨RX8, "inReach", "(I)I"⟩
abbrev cX8_walkOfAll : ByteArray := prog_10_method_5_code
def yX8_walkOfAll : MethodName := ⟨RX8, "walkOfAll", "(I)I"⟩
abbrev cX8_meetingPlace : ByteArray := prog_10_method_6_code
def yX8_meetingPlace : MethodName := ⟨RX8, "meetingPlace", "()I"⟩
abbrev cX8_leastRound : ByteArray := prog_10_method_7_code
def yX8_leastRound : MethodName := ⟨RX8, "leastRound", "(I)I"⟩
abbrev cX8_goalsFrom : ByteArray := prog_10_method_8_code
def yX8_goalsFrom : MethodName := ⟨RX8, "goalsFrom", "(I)I"⟩
abbrev cX8_lengthen : ByteArray := prog_10_method_9_code
def yX8_lengthen : MethodName := ⟨RX8, "lengthen", "(III)V"⟩
def RX9 : String := "EvenFinders$Work"
def TX9 : u_T := fun k => match k with
  | 0 => ("EvenFinders$Work", "done", "I", false)
  | 1 => ("EvenFinders$Work", "refused", "I", false)
  | 2 => ("EvenFinders$Work", "begun", "I", false)
  | 3 => ("EvenFinders$Work", "many", "I", false)
  | 4 => ("EvenFinders$Work", "town", "LEvenFinders$Town;", true)
  | 5 => ("EvenFinders$Work", "kind", "[I", true)
  | 6 => ("EvenFinders$Work", "first", "[I", true)
  | _ => ("EvenFinders$Work", "second", "[I", true)
def tyX9 : Nat → FieldType := fun k => match k with
  | 0 => .int
  | 1 => .int
  | 2 => .int
  | 3 => .int
  | 4 => .object "EvenFinders$Town"
  | 5 => .array .int
  | 6 => .array .int
  | _ => .array .int
theorem nmX9 : ∀ a, a < 8 → ∀ b, b < 8 → a ≠ b → (TX9 a).2.1 ≠ (TX9 b).2.1 := by decide +kernel
theorem tyX9_ok : ∀ k, k < 8 → parseFieldDescriptor (TX9 k).2.2.1 = some (tyX9 k) := by decide +kernel
abbrev cX9_init : ByteArray := prog_11_method_1_code
def yX9_init : MethodName := ⟨RX9, "<init>", "(LEvenFinders$Town;)V"⟩
abbrev cX9_readFrom : ByteArray := prog_11_method_2_code
def yX9_readFrom : MethodName := ⟨RX9, "readFrom", "(LEvenFinders$Tape;)V"⟩
abbrev cX9_readStep : ByteArray := prog_11_method_3_code
def yX9_readStep : MethodName := ⟨RX9, "readStep", "(LEvenFinders$Tape;I)V"⟩
abbrev cX9_readAgain : ByteArray := prog_11_method_4_code
def yX9_readAgain : MethodName := ⟨RX9, "readAgain", "(LEvenFinders$Tape;I)V"⟩
abbrev cX9_put : ByteArray := prog_11_method_5_code
def yX9_put : MethodName := ⟨RX9, "put", "(III)V"⟩
abbrev cX9_doneBy : ByteArray := prog_11_method_6_code
def yX9_doneBy : MethodName := ⟨RX9, "doneBy", "(LEvenFinders$Days;)V"⟩
abbrev cX9_doSteps : ByteArray := prog_11_method_7_code
def yX9_doSteps : MethodName := ⟨RX9, "doSteps", "(LEvenFinders$Days;III)V"⟩
abbrev cX9_isDone : ByteArray := prog_11_method_8_code
def yX9_isDone : MethodName := ⟨RX9, "isDone", "(LEvenFinders$Days;III)Z"⟩
def RX10 : String := "EvenFinders$Years"
def TX10 : u_T := fun k => match k with
  | 0 => ("EvenFinders$Years", "finds", "I", false)
  | 1 => ("EvenFinders$Years", "seed", "I", false)
  | 2 => ("EvenFinders$Years", "town", "LEvenFinders$Town;", true)
  | 3 => ("EvenFinders$Years", "now", "LEvenFinders$Days;", true)
  | _ => ("EvenFinders$Years", "later", "LEvenFinders$Days;", true)
def tyX10 : Nat → FieldType := fun k => match k with
  | 0 => .int
  | 1 => .int
  | 2 => .object "EvenFinders$Town"
  | 3 => .object "EvenFinders$Days"
  | _ => .object "EvenFinders$Days"
theorem nmX10 : ∀ a, a < 5 → ∀ b, b < 5 → a ≠ b → (TX10 a).2.1 ≠ (TX10 b).2.1 := by decide +kernel
theorem tyX10_ok : ∀ k, k < 5 → parseFieldDescriptor (TX10 k).2.2.1 = some (tyX10 k) := by decide +kernel
abbrev cX10_init : ByteArray := prog_12_method_1_code
def yX10_init : MethodName := ⟨RX10, "<init>", "(LEvenFinders$Town;LEvenFinders$Days;LEvenFinders$Days;)V"⟩
abbrev cX10_goBy : ByteArray := prog_12_method_2_code
def yX10_goBy : MethodName := ⟨RX10, "goBy", "(III)V"⟩
abbrev cX10_goOneTime : ByteArray := prog_12_method_3_code
def yX10_goOneTime : MethodName := ⟨RX10, "goOneTime", "(I)V"⟩
abbrev cX10_draw : ByteArray := prog_12_method_4_code
def yX10_draw : MethodName := ⟨RX10, "draw", "(I)I"⟩
def RX11 : String := "EvenFinders"
def TX11 : u_T := fun k => match k with
  | 0 => ("EvenFinders", "tape", "LEvenFinders$Tape;", true)
  | 1 => ("EvenFinders", "town", "LEvenFinders$Town;", true)
  | 2 => ("EvenFinders", "newTown", "LEvenFinders$Town;", true)
  | 3 => ("EvenFinders", "law", "LEvenFinders$Law;", true)
  | 4 => ("EvenFinders", "newLaw", "LEvenFinders$Law;", true)
  | 5 => ("EvenFinders", "book", "LEvenFinders$Book;", true)
  | 6 => ("EvenFinders", "newBook", "LEvenFinders$Book;", true)
  | 7 => ("EvenFinders", "work", "LEvenFinders$Work;", true)
  | 8 => ("EvenFinders", "now", "LEvenFinders$Days;", true)
  | 9 => ("EvenFinders", "later", "LEvenFinders$Days;", true)
  | 10 => ("EvenFinders", "history", "LEvenFinders$History;", true)
  | 11 => ("EvenFinders", "ways", "LEvenFinders$Ways;", true)
  | 12 => ("EvenFinders", "search", "LEvenFinders$Search;", true)
  | 13 => ("EvenFinders", "years", "LEvenFinders$Years;", true)
  | 14 => ("EvenFinders", "refusedSteps", "I", false)
  | 15 => ("EvenFinders", "unknownCalls", "I", false)
  | _ => ("EvenFinders", "wrongCalls", "I", false)
def tyX11 : Nat → FieldType := fun k => match k with
  | 0 => .object "EvenFinders$Tape"
  | 1 => .object "EvenFinders$Town"
  | 2 => .object "EvenFinders$Town"
  | 3 => .object "EvenFinders$Law"
  | 4 => .object "EvenFinders$Law"
  | 5 => .object "EvenFinders$Book"
  | 6 => .object "EvenFinders$Book"
  | 7 => .object "EvenFinders$Work"
  | 8 => .object "EvenFinders$Days"
  | 9 => .object "EvenFinders$Days"
  | 10 => .object "EvenFinders$History"
  | 11 => .object "EvenFinders$Ways"
  | 12 => .object "EvenFinders$Search"
  | 13 => .object "EvenFinders$Years"
  | 14 => .int
  | 15 => .int
  | _ => .int
theorem nmX11 : ∀ a, a < 17 → ∀ b, b < 17 → a ≠ b → (TX11 a).2.1 ≠ (TX11 b).2.1 := by decide +kernel
theorem tyX11_ok : ∀ k, k < 17 → parseFieldDescriptor (TX11 k).2.2.1 = some (tyX11 k) := by decide +kernel
abbrev cX11_init : ByteArray := prog_1_method_1_code
def yX11_init : MethodName := ⟨RX11, "<init>", "()V"⟩
abbrev cX11_feed : ByteArray := prog_1_method_2_code
def yX11_feed : MethodName := ⟨RX11, "feed", "(IIIII)I"⟩
abbrev cX11_town : ByteArray := prog_1_method_3_code
def yX11_town : MethodName := ⟨RX11, "town", "(I)I"⟩
abbrev cX11_law : ByteArray := prog_1_method_4_code
def yX11_law : MethodName := ⟨RX11, "law", "(I)I"⟩
abbrev cX11_work : ByteArray := prog_1_method_5_code
def yX11_work : MethodName := ⟨RX11, "work", "(I)I"⟩
abbrev cX11_book : ByteArray := prog_1_method_6_code
def yX11_book : MethodName := ⟨RX11, "book", "(I)I"⟩
abbrev cX11_fault : ByteArray := prog_1_method_7_code
def yX11_fault : MethodName := ⟨RX11, "fault", "()I"⟩
abbrev cX11_undo : ByteArray := prog_1_method_8_code
def yX11_undo : MethodName := ⟨RX11, "undo", "()I"⟩
abbrev cX11_told : ByteArray := prog_1_method_9_code
def yX11_told : MethodName := ⟨RX11, "told", "(I)I"⟩
abbrev cX11_place : ByteArray := prog_1_method_10_code
def yX11_place : MethodName := ⟨RX11, "place", "(II)I"⟩
abbrev cX11_road : ByteArray := prog_1_method_11_code
def yX11_road : MethodName := ⟨RX11, "road", "(II)I"⟩
abbrev cX11_thing : ByteArray := prog_1_method_12_code
def yX11_thing : MethodName := ⟨RX11, "thing", "(II)I"⟩
abbrev cX11_finder : ByteArray := prog_1_method_13_code
def yX11_finder : MethodName := ⟨RX11, "finder", "(II)I"⟩
abbrev cX11_duty : ByteArray := prog_1_method_14_code
def yX11_duty : MethodName := ⟨RX11, "duty", "(II)I"⟩
abbrev cX11_would : ByteArray := prog_1_method_15_code
def yX11_would : MethodName := ⟨RX11, "would", "(IIIIIIII)I"⟩
abbrev cX11_can : ByteArray := prog_1_method_16_code
def yX11_can : MethodName := ⟨RX11, "can", "(II)Z"⟩
abbrev cX11_ahead : ByteArray := prog_1_method_17_code
def yX11_ahead : MethodName := ⟨RX11, "ahead", "(II)I"⟩
abbrev cX11_far : ByteArray := prog_1_method_18_code
def yX11_far : MethodName := ⟨RX11, "far", "(II)I"⟩
abbrev cX11_round : ByteArray := prog_1_method_19_code
def yX11_round : MethodName := ⟨RX11, "round", "(I)I"⟩
abbrev cX11_meet : ByteArray := prog_1_method_20_code
def yX11_meet : MethodName := ⟨RX11, "meet", "(I)I"⟩
abbrev cX11_reach : ByteArray := prog_1_method_21_code
def yX11_reach : MethodName := ⟨RX11, "reach", "(I)I"⟩
abbrev cX11_settle : ByteArray := prog_1_method_22_code
def yX11_settle : MethodName := ⟨RX11, "settle", "(I)I"⟩
abbrev cX11_parts : ByteArray := prog_1_method_23_code
def yX11_parts : MethodName := ⟨RX11, "parts", "(II)I"⟩
abbrev cX11_fits : ByteArray := prog_1_method_24_code
def yX11_fits : MethodName := ⟨RX11, "fits", "(I)I"⟩
abbrev cX11_look : ByteArray := prog_1_method_25_code
def yX11_look : MethodName := ⟨RX11, "look", "(I)I"⟩
abbrev cX11_pins : ByteArray := prog_1_method_26_code
def yX11_pins : MethodName := ⟨RX11, "pins", "(IIII)J"⟩
abbrev cX11_takes : ByteArray := prog_1_method_27_code
def yX11_takes : MethodName := ⟨RX11, "takes", "(III)I"⟩
abbrev cX11_sixpence : ByteArray := prog_1_method_28_code
def yX11_sixpence : MethodName := ⟨RX11, "sixpence", "(III)I"⟩
abbrev cX11_greatest : ByteArray := prog_1_method_29_code
def yX11_greatest : MethodName := ⟨RX11, "greatest", "(I)I"⟩
abbrev cX11_deepest : ByteArray := prog_1_method_30_code
def yX11_deepest : MethodName := ⟨RX11, "deepest", "(I)I"⟩
abbrev cX11_empty : ByteArray := prog_1_method_31_code
def yX11_empty : MethodName := ⟨RX11, "empty", "()I"⟩
abbrev cX11_lucky : ByteArray := prog_1_method_32_code
def yX11_lucky : MethodName := ⟨RX11, "lucky", "()I"⟩
abbrev cX11_sound : ByteArray := prog_1_method_33_code
def yX11_sound : MethodName := ⟨RX11, "sound", "(I)I"⟩
abbrev cX11_way : ByteArray := prog_1_method_34_code
def yX11_way : MethodName := ⟨RX11, "way", "(II)I"⟩
abbrev cX11_burden : ByteArray := prog_1_method_35_code
def yX11_burden : MethodName := ⟨RX11, "burden", "(I)I"⟩
abbrev cX11_near : ByteArray := prog_1_method_36_code
def yX11_near : MethodName := ⟨RX11, "near", "(II)I"⟩
abbrev cX11_enough : ByteArray := prog_1_method_37_code
def yX11_enough : MethodName := ⟨RX11, "enough", "(I)I"⟩
abbrev cX11_year : ByteArray := prog_1_method_38_code
def yX11_year : MethodName := ⟨RX11, "year", "(IIII)I"⟩
abbrev cX11_span : ByteArray := prog_1_method_39_code
def yX11_span : MethodName := ⟨RX11, "span", "(IIIIII)I"⟩
abbrev cX11_image : ByteArray := prog_1_method_40_code
def yX11_image : MethodName := ⟨RX11, "image", "()I"⟩
abbrev cX11_restore : ByteArray := prog_1_method_41_code
def yX11_restore : MethodName := ⟨RX11, "restore", "()I"⟩
abbrev cX11_status : ByteArray := prog_1_method_42_code
def yX11_status : MethodName := ⟨RX11, "status", "(I)I"⟩
abbrev cX11_count : ByteArray := prog_1_method_43_code
def yX11_count : MethodName := ⟨RX11, "count", "(I)I"⟩
abbrev cX11_begin : ByteArray := prog_1_method_44_code
def yX11_begin : MethodName := ⟨RX11, "begin", "(II)V"⟩
abbrev cX11_needWithin : ByteArray := prog_1_method_45_code
def yX11_needWithin : MethodName := ⟨RX11, "needWithin", "(III)V"⟩
abbrev cX11_need : ByteArray := prog_1_method_46_code
def yX11_need : MethodName := ⟨RX11, "need", "(II)V"⟩
abbrev cX11_needPlace : ByteArray := prog_1_method_47_code
def yX11_needPlace : MethodName := ⟨RX11, "needPlace", "(I)V"⟩
abbrev cX11_needThing : ByteArray := prog_1_method_48_code
def yX11_needThing : MethodName := ⟨RX11, "needThing", "(I)V"⟩
abbrev cX11_needFinder : ByteArray := prog_1_method_49_code
def yX11_needFinder : MethodName := ⟨RX11, "needFinder", "(I)V"⟩
def RX12 : String := "EvenFindersModel"
def TX12 : u_T := fun k => match k with
  | 0 => ("EvenFindersModel", "thrown", "I", false)
  | 1 => ("EvenFindersModel", "refused", "[I", true)
  | 2 => ("EvenFindersModel", "taped", "I", false)
  | 3 => ("EvenFindersModel", "size", "I", false)
  | 4 => ("EvenFindersModel", "at", "I", false)
  | 5 => ("EvenFindersModel", "bad", "I", false)
  | 6 => ("EvenFindersModel", "badKind", "I", false)
  | 7 => ("EvenFindersModel", "opens", "I", false)
  | 8 => ("EvenFindersModel", "faultAt", "I", false)
  | 9 => ("EvenFindersModel", "tape", "[I", true)
  | 10 => ("EvenFindersModel", "newRoad", "[I", true)
  | 11 => ("EvenFindersModel", "newThing", "[I", true)
  | 12 => ("EvenFindersModel", "newFinder", "[I", true)
  | 13 => ("EvenFindersModel", "road", "[I", true)
  | 14 => ("EvenFindersModel", "thing", "[I", true)
  | 15 => ("EvenFindersModel", "finder", "[I", true)
  | 16 => ("EvenFindersModel", "newPlaces", "I", false)
  | 17 => ("EvenFindersModel", "newRoads", "I", false)
  | 18 => ("EvenFindersModel", "newThings", "I", false)
  | 19 => ("EvenFindersModel", "newFinders", "I", false)
  | 20 => ("EvenFindersModel", "places", "I", false)
  | 21 => ("EvenFindersModel", "roads", "I", false)
  | 22 => ("EvenFindersModel", "things", "I", false)
  | 23 => ("EvenFindersModel", "finders", "I", false)
  | 24 => ("EvenFindersModel", "newCode", "[I", true)
  | 25 => ("EvenFindersModel", "newOf", "[I", true)
  | 26 => ("EvenFindersModel", "code", "[I", true)
  | 27 => ("EvenFindersModel", "ofCode", "[I", true)
  | 28 => ("EvenFindersModel", "stack", "[I", true)
  | 29 => ("EvenFindersModel", "newCodes", "I", false)
  | 30 => ("EvenFindersModel", "codes", "I", false)
  | 31 => ("EvenFindersModel", "facts", "[I", true)
  | 32 => ("EvenFindersModel", "newStep", "[I", true)
  | 33 => ("EvenFindersModel", "step", "[I", true)
  | 34 => ("EvenFindersModel", "newSteps", "I", false)
  | 35 => ("EvenFindersModel", "works", "I", false)
  | 36 => ("EvenFindersModel", "refusedSteps", "I", false)
  | 37 => ("EvenFindersModel", "begun", "I", false)
  | 38 => ("EvenFindersModel", "done", "I", false)
  | 39 => ("EvenFindersModel", "refusedNow", "I", false)
  | 40 => ("EvenFindersModel", "now", "[I", true)
  | 41 => ("EvenFindersModel", "s", "[I", true)
  | 42 => ("EvenFindersModel", "past", "[I", true)
  | 43 => ("EvenFindersModel", "newBook", "[I", true)
  | 44 => ("EvenFindersModel", "book", "[I", true)
  | 45 => ("EvenFindersModel", "books", "I", false)
  | 46 => ("EvenFindersModel", "farOf", "[I", true)
  | 47 => ("EvenFindersModel", "roundOn", "[I", true)
  | 48 => ("EvenFindersModel", "leftBy", "[I", true)
  | 49 => ("EvenFindersModel", "seedNow", "I", false)
  | 50 => ("EvenFindersModel", "image", "[I", true)
  | _ => ("EvenFindersModel", "images", "I", false)
def tyX12 : Nat → FieldType := fun k => match k with
  | 0 => .int
  | 1 => .array .int
  | 2 => .int
  | 3 => .int
  | 4 => .int
  | 5 => .int
  | 6 => .int
  | 7 => .int
  | 8 => .int
  | 9 => .array .int
  | 10 => .array .int
  | 11 => .array .int
  | 12 => .array .int
  | 13 => .array .int
  | 14 => .array .int
  | 15 => .array .int
  | 16 => .int
  | 17 => .int
  | 18 => .int
  | 19 => .int
  | 20 => .int
  | 21 => .int
  | 22 => .int
  | 23 => .int
  | 24 => .array .int
  | 25 => .array .int
  | 26 => .array .int
  | 27 => .array .int
  | 28 => .array .int
  | 29 => .int
  | 30 => .int
  | 31 => .array .int
  | 32 => .array .int
  | 33 => .array .int
  | 34 => .int
  | 35 => .int
  | 36 => .int
  | 37 => .int
  | 38 => .int
  | 39 => .int
  | 40 => .array .int
  | 41 => .array .int
  | 42 => .array .int
  | 43 => .array .int
  | 44 => .array .int
  | 45 => .int
  | 46 => .array .int
  | 47 => .array .int
  | 48 => .array .int
  | 49 => .int
  | 50 => .array .int
  | _ => .int
theorem nmX12 : ∀ a, a < 52 → ∀ b, b < 52 → a ≠ b → (TX12 a).2.1 ≠ (TX12 b).2.1 := by decide +kernel
theorem tyX12_ok : ∀ k, k < 52 → parseFieldDescriptor (TX12 k).2.2.1 = some (tyX12 k) := by decide +kernel
abbrev cX12_thrown : ByteArray := prog_14_method_1_code
def yX12_thrown : MethodName := ⟨RX12, "thrown", "()I"⟩
abbrev cX12_may : ByteArray := prog_14_method_2_code
def yX12_may : MethodName := ⟨RX12, "may", "(ZII)Z"⟩
abbrev cX12_within : ByteArray := prog_14_method_3_code
def yX12_within : MethodName := ⟨RX12, "within", "(III)Z"⟩
abbrev cX12_init : ByteArray := prog_14_method_4_code
def yX12_init : MethodName := ⟨RX12, "<init>", "()V"⟩
abbrev cX12_feed : ByteArray := prog_14_method_5_code
def yX12_feed : MethodName := ⟨RX12, "feed", "(IIIII)I"⟩
abbrev cX12_fine : ByteArray := prog_14_method_6_code
def yX12_fine : MethodName := ⟨RX12, "fine", "()Z"⟩
abbrev cX12_wrong : ByteArray := prog_14_method_7_code
def yX12_wrong : MethodName := ⟨RX12, "wrong", "(II)V"⟩
abbrev cX12_here : ByteArray := prog_14_method_8_code
def yX12_here : MethodName := ⟨RX12, "here", "()I"⟩
abbrev cX12_isSmall : ByteArray := prog_14_method_9_code
def yX12_isSmall : MethodName := ⟨RX12, "isSmall", "(I)Z"⟩
abbrev cX12_isDigit : ByteArray := prog_14_method_10_code
def yX12_isDigit : MethodName := ⟨RX12, "isDigit", "(I)Z"⟩
abbrev cX12_word : ByteArray := prog_14_method_11_code
def yX12_word : MethodName := ⟨RX12, "word", "()I"⟩
abbrev cX12_of : ByteArray := prog_14_method_12_code
def yX12_of : MethodName := ⟨RX12, "of", "(Ljava/lang/String;)I"⟩
abbrev cX12_pass : ByteArray := prog_14_method_13_code
def yX12_pass : MethodName := ⟨RX12, "pass", "()V"⟩
abbrev cX12_readNumber : ByteArray := prog_14_method_14_code
def yX12_readNumber : MethodName := ⟨RX12, "readNumber", "(II)I"⟩
abbrev cX12_sign : ByteArray := prog_14_method_15_code
def yX12_sign : MethodName := ⟨RX12, "sign", "(I)V"⟩
abbrev cX12_isMore : ByteArray := prog_14_method_16_code
def yX12_isMore : MethodName := ⟨RX12, "isMore", "()Z"⟩
abbrev cX12_begins : ByteArray := prog_14_method_17_code
def yX12_begins : MethodName := ⟨RX12, "begins", "(I)V"⟩
abbrev cX12_result : ByteArray := prog_14_method_18_code
def yX12_result : MethodName := ⟨RX12, "result", "(I)I"⟩
abbrev cX12_fault : ByteArray := prog_14_method_19_code
def yX12_fault : MethodName := ⟨RX12, "fault", "()I"⟩
abbrev cX12_copies : ByteArray := prog_14_method_20_code
def yX12_copies : MethodName := ⟨RX12, "copies", "([I[II)V"⟩
abbrev cX12_clears : ByteArray := prog_14_method_21_code
def yX12_clears : MethodName := ⟨RX12, "clears", "()V"⟩
abbrev cX12_sets : ByteArray := prog_14_method_22_code
def yX12_sets : MethodName := ⟨RX12, "sets", "()V"⟩
abbrev cX12_readPlace : ByteArray := prog_14_method_23_code
def yX12_readPlace : MethodName := ⟨RX12, "readPlace", "()I"⟩
abbrev cX12_readRoad : ByteArray := prog_14_method_24_code
def yX12_readRoad : MethodName := ⟨RX12, "readRoad", "()V"⟩
abbrev cX12_readPlaces : ByteArray := prog_14_method_25_code
def yX12_readPlaces : MethodName := ⟨RX12, "readPlaces", "()V"⟩
abbrev cX12_isRow : ByteArray := prog_14_method_26_code
def yX12_isRow : MethodName := ⟨RX12, "isRow", "(I)Z"⟩
abbrev cX12_isFull : ByteArray := prog_14_method_27_code
def yX12_isFull : MethodName := ⟨RX12, "isFull", "(I)Z"⟩
abbrev cX12_readRow : ByteArray := prog_14_method_28_code
def yX12_readRow : MethodName := ⟨RX12, "readRow", "(I)V"⟩
abbrev cX12_town : ByteArray := prog_14_method_29_code
def yX12_town : MethodName := ⟨RX12, "town", "(I)I"⟩
abbrev cX12_emit : ByteArray := prog_14_method_30_code
def yX12_emit : MethodName := ⟨RX12, "emit", "(II)V"⟩
abbrev cX12_opensOne : ByteArray := prog_14_method_31_code
def yX12_opensOne : MethodName := ⟨RX12, "opensOne", "(I)V"⟩
abbrev cX12_readSum : ByteArray := prog_14_method_32_code
def yX12_readSum : MethodName := ⟨RX12, "readSum", "()V"⟩
abbrev cX12_readProduct : ByteArray := prog_14_method_33_code
def yX12_readProduct : MethodName := ⟨RX12, "readProduct", "()V"⟩
abbrev cX12_readTwo : ByteArray := prog_14_method_34_code
def yX12_readTwo : MethodName := ⟨RX12, "readTwo", "(II)V"⟩
abbrev cX12_factHere : ByteArray := prog_14_method_35_code
def yX12_factHere : MethodName := ⟨RX12, "factHere", "()I"⟩
abbrev cX12_readUnit : ByteArray := prog_14_method_36_code
def yX12_readUnit : MethodName := ⟨RX12, "readUnit", "()V"⟩
abbrev cX12_law : ByteArray := prog_14_method_37_code
def yX12_law : MethodName := ⟨RX12, "law", "(I)I"⟩
abbrev cX12_valueNow : ByteArray := prog_14_method_38_code
def yX12_valueNow : MethodName := ⟨RX12, "valueNow", "()I"⟩
abbrev cX12_both : ByteArray := prog_14_method_39_code
def yX12_both : MethodName := ⟨RX12, "both", "(III)I"⟩
abbrev cX12_dutyNow : ByteArray := prog_14_method_40_code
def yX12_dutyNow : MethodName := ⟨RX12, "dutyNow", "()I"⟩
abbrev cX12_tellsStep : ByteArray := prog_14_method_41_code
def yX12_tellsStep : MethodName := ⟨RX12, "tellsStep", "(III)V"⟩
abbrev cX12_stepOf : ByteArray := prog_14_method_42_code
def yX12_stepOf : MethodName := ⟨RX12, "stepOf", "(I)I"⟩
abbrev cX12_readStep : ByteArray := prog_14_method_43_code
def yX12_readStep : MethodName := ⟨RX12, "readStep", "()V"⟩
abbrev cX12_work : ByteArray := prog_14_method_44_code
def yX12_work : MethodName := ⟨RX12, "work", "(I)I"⟩
abbrev cX12_goesSteps : ByteArray := prog_14_method_45_code
def yX12_goesSteps : MethodName := ⟨RX12, "goesSteps", "(II)V"⟩
abbrev cX12_take : ByteArray := prog_14_method_46_code
def yX12_take : MethodName := ⟨RX12, "take", "()V"⟩
abbrev cX12_worthOf : ByteArray := prog_14_method_47_code
def yX12_worthOf : MethodName := ⟨RX12, "worthOf", "(I)I"⟩
abbrev cX12_heldBy : ByteArray := prog_14_method_48_code
def yX12_heldBy : MethodName := ⟨RX12, "heldBy", "(I)I"⟩
abbrev cX12_lyingAt : ByteArray := prog_14_method_49_code
def yX12_lyingAt : MethodName := ⟨RX12, "lyingAt", "(I)I"⟩
abbrev cX12_ones : ByteArray := prog_14_method_50_code
def yX12_ones : MethodName := ⟨RX12, "ones", "(I)I"⟩
abbrev cX12_dutyOf : ByteArray := prog_14_method_51_code
def yX12_dutyOf : MethodName := ⟨RX12, "dutyOf", "(IIIIIIII)I"⟩
abbrev cX12_dutyBy : ByteArray := prog_14_method_52_code
def yX12_dutyBy : MethodName := ⟨RX12, "dutyBy", "(II)I"⟩
abbrev cX12_canFind : ByteArray := prog_14_method_53_code
def yX12_canFind : MethodName := ⟨RX12, "canFind", "(II)Z"⟩
abbrev cX12_walks : ByteArray := prog_14_method_54_code
def yX12_walks : MethodName := ⟨RX12, "walks", "(II)Z"⟩
abbrev cX12_finds : ByteArray := prog_14_method_55_code
def yX12_finds : MethodName := ⟨RX12, "finds", "(II)Z"⟩
abbrev cX12_letsLie : ByteArray := prog_14_method_56_code
def yX12_letsLie : MethodName := ⟨RX12, "letsLie", "(III)Z"⟩
abbrev cX12_loses : ByteArray := prog_14_method_57_code
def yX12_loses : MethodName := ⟨RX12, "loses", "(II)Z"⟩
abbrev cX12_passes : ByteArray := prog_14_method_58_code
def yX12_passes : MethodName := ⟨RX12, "passes", "()V"⟩
abbrev cX12_isDone : ByteArray := prog_14_method_59_code
def yX12_isDone : MethodName := ⟨RX12, "isDone", "(III)Z"⟩
abbrev cX12_book : ByteArray := prog_14_method_60_code
def yX12_book : MethodName := ⟨RX12, "book", "(I)I"⟩
abbrev cX12_undo : ByteArray := prog_14_method_61_code
def yX12_undo : MethodName := ⟨RX12, "undo", "()I"⟩
abbrev cX12_allLying : ByteArray := prog_14_method_62_code
def yX12_allLying : MethodName := ⟨RX12, "allLying", "()I"⟩
abbrev cX12_allHeld : ByteArray := prog_14_method_63_code
def yX12_allHeld : MethodName := ⟨RX12, "allHeld", "()I"⟩
abbrev cX12_owing : ByteArray := prog_14_method_64_code
def yX12_owing : MethodName := ⟨RX12, "owing", "(I)I"⟩
abbrev cX12_sumOf : ByteArray := prog_14_method_65_code
def yX12_sumOf : MethodName := ⟨RX12, "sumOf", "(I)I"⟩
abbrev cX12_told : ByteArray := prog_14_method_66_code
def yX12_told : MethodName := ⟨RX12, "told", "(I)I"⟩
abbrev cX12_isPlace : ByteArray := prog_14_method_67_code
def yX12_isPlace : MethodName := ⟨RX12, "isPlace", "(II)Z"⟩
abbrev cX12_isThing : ByteArray := prog_14_method_68_code
def yX12_isThing : MethodName := ⟨RX12, "isThing", "(II)Z"⟩
abbrev cX12_isFinder : ByteArray := prog_14_method_69_code
def yX12_isFinder : MethodName := ⟨RX12, "isFinder", "(II)Z"⟩
abbrev cX12_place : ByteArray := prog_14_method_70_code
def yX12_place : MethodName := ⟨RX12, "place", "(II)I"⟩
abbrev cX12_road : ByteArray := prog_14_method_71_code
def yX12_road : MethodName := ⟨RX12, "road", "(II)I"⟩
abbrev cX12_thing : ByteArray := prog_14_method_72_code
def yX12_thing : MethodName := ⟨RX12, "thing", "(II)I"⟩
abbrev cX12_finder : ByteArray := prog_14_method_73_code
def yX12_finder : MethodName := ⟨RX12, "finder", "(II)I"⟩
abbrev cX12_duty : ByteArray := prog_14_method_74_code
def yX12_duty : MethodName := ⟨RX12, "duty", "(II)I"⟩
abbrev cX12_would : ByteArray := prog_14_method_75_code
def yX12_would : MethodName := ⟨RX12, "would", "(IIIIIIII)I"⟩
abbrev cX12_can : ByteArray := prog_14_method_76_code
def yX12_can : MethodName := ⟨RX12, "can", "(II)Z"⟩
abbrev cX12_ahead : ByteArray := prog_14_method_77_code
def yX12_ahead : MethodName := ⟨RX12, "ahead", "(II)I"⟩
abbrev cX12_layFar : ByteArray := prog_14_method_78_code
def yX12_layFar : MethodName := ⟨RX12, "layFar", "()V"⟩
abbrev cX12_orNone : ByteArray := prog_14_method_79_code
def yX12_orNone : MethodName := ⟨RX12, "orNone", "(I)I"⟩
abbrev cX12_far : ByteArray := prog_14_method_80_code
def yX12_far : MethodName := ⟨RX12, "far", "(II)I"⟩
abbrev cX12_round : ByteArray := prog_14_method_81_code
def yX12_round : MethodName := ⟨RX12, "round", "(I)I"⟩
abbrev cX12_meet : ByteArray := prog_14_method_82_code
def yX12_meet : MethodName := ⟨RX12, "meet", "(I)I"⟩
abbrev cX12_reach : ByteArray := prog_14_method_83_code
def yX12_reach : MethodName := ⟨RX12, "reach", "(I)I"⟩
abbrev cX12_way : ByteArray := prog_14_method_84_code
def yX12_way : MethodName := ⟨RX12, "way", "(II)I"⟩
abbrev cX12_settle : ByteArray := prog_14_method_85_code
def yX12_settle : MethodName := ⟨RX12, "settle", "(I)I"⟩
abbrev cX12_parts : ByteArray := prog_14_method_86_code
def yX12_parts : MethodName := ⟨RX12, "parts", "(II)I"⟩
abbrev cX12_liesThen : ByteArray := prog_14_method_87_code
def yX12_liesThen : MethodName := ⟨RX12, "liesThen", "(III)I"⟩
abbrev cX12_isFit : ByteArray := prog_14_method_88_code
def yX12_isFit : MethodName := ⟨RX12, "isFit", "(II)Z"⟩
abbrev cX12_fits : ByteArray := prog_14_method_89_code
def yX12_fits : MethodName := ⟨RX12, "fits", "(I)I"⟩
abbrev cX12_worstOf : ByteArray := prog_14_method_90_code
def yX12_worstOf : MethodName := ⟨RX12, "worstOf", "(I)I"⟩
abbrev cX12_look : ByteArray := prog_14_method_91_code
def yX12_look : MethodName := ⟨RX12, "look", "(I)I"⟩
abbrev cX12_least : ByteArray := prog_14_method_92_code
def yX12_least : MethodName := ⟨RX12, "least", "(JJI)J"⟩
abbrev cX12_ways : ByteArray := prog_14_method_93_code
def yX12_ways : MethodName := ⟨RX12, "ways", "(II)J"⟩
abbrev cX12_pins : ByteArray := prog_14_method_94_code
def yX12_pins : MethodName := ⟨RX12, "pins", "(IIII)J"⟩
abbrev cX12_hasBy : ByteArray := prog_14_method_95_code
def yX12_hasBy : MethodName := ⟨RX12, "hasBy", "(IIII)I"⟩
abbrev cX12_takes : ByteArray := prog_14_method_96_code
def yX12_takes : MethodName := ⟨RX12, "takes", "(III)I"⟩
abbrev cX12_bounded : ByteArray := prog_14_method_97_code
def yX12_bounded : MethodName := ⟨RX12, "bounded", "(II)I"⟩
abbrev cX12_sixpenceBy : ByteArray := prog_14_method_98_code
def yX12_sixpenceBy : MethodName := ⟨RX12, "sixpenceBy", "(II)I"⟩
abbrev cX12_sixpence : ByteArray := prog_14_method_99_code
def yX12_sixpence : MethodName := ⟨RX12, "sixpence", "(III)I"⟩
abbrev cX12_greatest : ByteArray := prog_14_method_100_code
def yX12_greatest : MethodName := ⟨RX12, "greatest", "(I)I"⟩
abbrev cX12_deepest : ByteArray := prog_14_method_101_code
def yX12_deepest : MethodName := ⟨RX12, "deepest", "(I)I"⟩
abbrev cX12_empty : ByteArray := prog_14_method_102_code
def yX12_empty : MethodName := ⟨RX12, "empty", "()I"⟩
abbrev cX12_lucky : ByteArray := prog_14_method_103_code
def yX12_lucky : MethodName := ⟨RX12, "lucky", "()I"⟩
abbrev cX12_sound : ByteArray := prog_14_method_104_code
def yX12_sound : MethodName := ⟨RX12, "sound", "(I)I"⟩
abbrev cX12_burden : ByteArray := prog_14_method_105_code
def yX12_burden : MethodName := ⟨RX12, "burden", "(I)I"⟩
abbrev cX12_near : ByteArray := prog_14_method_106_code
def yX12_near : MethodName := ⟨RX12, "near", "(II)I"⟩
abbrev cX12_enough : ByteArray := prog_14_method_107_code
def yX12_enough : MethodName := ⟨RX12, "enough", "(I)I"⟩
abbrev cX12_draws : ByteArray := prog_14_method_108_code
def yX12_draws : MethodName := ⟨RX12, "draws", "(I)I"⟩
abbrev cX12_yearGoes : ByteArray := prog_14_method_109_code
def yX12_yearGoes : MethodName := ⟨RX12, "yearGoes", "(III)V"⟩
abbrev cX12_isYear : ByteArray := prog_14_method_110_code
def yX12_isYear : MethodName := ⟨RX12, "isYear", "(II)Z"⟩
abbrev cX12_foundMore : ByteArray := prog_14_method_111_code
def yX12_foundMore : MethodName := ⟨RX12, "foundMore", "()I"⟩
abbrev cX12_year : ByteArray := prog_14_method_112_code
def yX12_year : MethodName := ⟨RX12, "year", "(IIII)I"⟩
abbrev cX12_span : ByteArray := prog_14_method_113_code
def yX12_span : MethodName := ⟨RX12, "span", "(IIIIII)I"⟩
abbrev cX12_keepsRow : ByteArray := prog_14_method_114_code
def yX12_keepsRow : MethodName := ⟨RX12, "keepsRow", "(I[IIZ)I"⟩
abbrev cX12_keepsAll : ByteArray := prog_14_method_115_code
def yX12_keepsAll : MethodName := ⟨RX12, "keepsAll", "(IZ)V"⟩
abbrev cX12_image : ByteArray := prog_14_method_116_code
def yX12_image : MethodName := ⟨RX12, "image", "()I"⟩
abbrev cX12_restore : ByteArray := prog_14_method_117_code
def yX12_restore : MethodName := ⟨RX12, "restore", "()I"⟩
abbrev cX12_status : ByteArray := prog_14_method_118_code
def yX12_status : MethodName := ⟨RX12, "status", "(I)I"⟩
abbrev cX12_count : ByteArray := prog_14_method_119_code
def yX12_count : MethodName := ⟨RX12, "count", "(I)I"⟩
def RJ6 : String := "java/lang/Integer"
def TJ6 : u_T := fun k => match k with
  | _ => ("", "", "", false)
def tyJ6 : Nat → FieldType := fun k => match k with
  | _ => .int
theorem nmJ6 : ∀ a, a < 0 → ∀ b, b < 0 → a ≠ b → (TJ6 a).2.1 ≠ (TJ6 b).2.1 := by decide +kernel
theorem tyJ6_ok : ∀ k, k < 0 → parseFieldDescriptor (TJ6 k).2.2.1 = some (tyJ6 k) := by decide +kernel
abbrev cJ6_bitCount_0f7a4 : ByteArray := prog_20_method_49_code
def yJ6_bitCount_0f7a4 : MethodName := ⟨RJ6, "bitCount", "(I)I"⟩
def RJ9 : String := "java/lang/Math"
def TJ9 : u_T := fun k => match k with
  | _ => ("", "", "", false)
def tyJ9 : Nat → FieldType := fun k => match k with
  | _ => .int
theorem nmJ9 : ∀ a, a < 0 → ∀ b, b < 0 → a ≠ b → (TJ9 a).2.1 ≠ (TJ9 b).2.1 := by decide +kernel
theorem tyJ9_ok : ∀ k, k < 0 → parseFieldDescriptor (TJ9 k).2.2.1 = some (tyJ9 k) := by decide +kernel
abbrev cJ9_max_7cf53 : ByteArray := prog_21_method_65_code
def yJ9_max_7cf53 : MethodName := ⟨RJ9, "max", "(II)I"⟩
abbrev cJ9_min_7cf53 : ByteArray := prog_21_method_69_code
def yJ9_min_7cf53 : MethodName := ⟨RJ9, "min", "(II)I"⟩
def RJ0 : String := "java/lang/String"
def TJ0 : u_T := fun k => match k with
  | _ => ("", "", "", false)
def tyJ0 : Nat → FieldType := fun k => match k with
  | _ => .int
theorem nmJ0 : ∀ a, a < 0 → ∀ b, b < 0 → a ≠ b → (TJ0 a).2.1 ≠ (TJ0 b).2.1 := by decide +kernel
theorem tyJ0_ok : ∀ k, k < 0 → parseFieldDescriptor (TJ0 k).2.2.1 = some (tyJ0 k) := by decide +kernel
abbrev cJ0_length_8abf5 : ByteArray := prog_23_method_54_code
def yJ0_length_8abf5 : MethodName := ⟨RJ0, "length", "()I"⟩
abbrev cJ0_charAt_5068e : ByteArray := prog_23_method_56_code
def yJ0_charAt_5068e : MethodName := ⟨RJ0, "charAt", "(I)C"⟩
abbrev cJ0_coder_7d493 : ByteArray := prog_23_method_152_code
def yJ0_coder_7d493 : MethodName := ⟨RJ0, "coder", "()B"⟩
abbrev cJ0_isLatin1_aae02 : ByteArray := prog_23_method_154_code
def yJ0_isLatin1_aae02 : MethodName := ⟨RJ0, "isLatin1", "()Z"⟩
abbrev cJ0_checkIndex_df160 : ByteArray := prog_23_method_155_code
def yJ0_checkIndex_df160 : MethodName := ⟨RJ0, "checkIndex", "(II)V"⟩
def RJ1 : String := "java/lang/StringLatin1"
def TJ1 : u_T := fun k => match k with
  | _ => ("", "", "", false)
def tyJ1 : Nat → FieldType := fun k => match k with
  | _ => .int
theorem nmJ1 : ∀ a, a < 0 → ∀ b, b < 0 → a ≠ b → (TJ1 a).2.1 ≠ (TJ1 b).2.1 := by decide +kernel
theorem tyJ1_ok : ∀ k, k < 0 → parseFieldDescriptor (TJ1 k).2.2.1 = some (tyJ1 k) := by decide +kernel
abbrev cJ1_charAt_3b067 : ByteArray := prog_24_method_2_code
def yJ1_charAt_3b067 : MethodName := ⟨RJ1, "charAt", "([BI)C"⟩
def RJ2 : String := "java/lang/StringUTF16"
def TJ2 : u_T := fun k => match k with
  | _ => ("", "", "", false)
def tyJ2 : Nat → FieldType := fun k => match k with
  | _ => .int
theorem nmJ2 : ∀ a, a < 0 → ∀ b, b < 0 → a ≠ b → (TJ2 a).2.1 ≠ (TJ2 b).2.1 := by decide +kernel
theorem tyJ2_ok : ∀ k, k < 0 → parseFieldDescriptor (TJ2 k).2.2.1 = some (tyJ2 k) := by decide +kernel
abbrev cJ2_getChar_3b067 : ByteArray := prog_25_method_5_code
def yJ2_getChar_3b067 : MethodName := ⟨RJ2, "getChar", "([BI)C"⟩
abbrev cJ2_length_9d52b : ByteArray := prog_25_method_6_code
def yJ2_length_9d52b : MethodName := ⟨RJ2, "length", "([B)I"⟩
abbrev cJ2_charAt_3b067 : ByteArray := prog_25_method_83_code
def yJ2_charAt_3b067 : MethodName := ⟨RJ2, "charAt", "([BI)C"⟩
abbrev cJ2_checkIndex_2214a : ByteArray := prog_25_method_91_code
def yJ2_checkIndex_2214a : MethodName := ⟨RJ2, "checkIndex", "(I[B)V"⟩
def RJ10 : String := "java/lang/System"
def TJ10 : u_T := fun k => match k with
  | _ => ("", "", "", false)
def tyJ10 : Nat → FieldType := fun k => match k with
  | _ => .int
theorem nmJ10 : ∀ a, a < 0 → ∀ b, b < 0 → a ≠ b → (TJ10 a).2.1 ≠ (TJ10 b).2.1 := by decide +kernel
theorem tyJ10_ok : ∀ k, k < 0 → parseFieldDescriptor (TJ10 k).2.2.1 = some (tyJ10 k) := by decide +kernel
def RJ7 : String := "java/util/Arrays"
def TJ7 : u_T := fun k => match k with
  | _ => ("", "", "", false)
def tyJ7 : Nat → FieldType := fun k => match k with
  | _ => .int
theorem nmJ7 : ∀ a, a < 0 → ∀ b, b < 0 → a ≠ b → (TJ7 a).2.1 ≠ (TJ7 b).2.1 := by decide +kernel
theorem tyJ7_ok : ∀ k, k < 0 → parseFieldDescriptor (TJ7 k).2.2.1 = some (tyJ7 k) := by decide +kernel
abbrev cJ7_fill_53178 : ByteArray := prog_30_method_103_code
def yJ7_fill_53178 : MethodName := ⟨RJ7, "fill", "([II)V"⟩
def RJ3 : String := "jdk/internal/util/Preconditions"
def TJ3 : u_T := fun k => match k with
  | _ => ("", "", "", false)
def tyJ3 : Nat → FieldType := fun k => match k with
  | _ => .int
theorem nmJ3 : ∀ a, a < 0 → ∀ b, b < 0 → a ≠ b → (TJ3 a).2.1 ≠ (TJ3 b).2.1 := by decide +kernel
theorem tyJ3_ok : ∀ k, k < 0 → parseFieldDescriptor (TJ3 k).2.2.1 = some (tyJ3 k) := by decide +kernel
abbrev cJ3_checkIndex_8e157 : ByteArray := prog_32_method_11_code
def yJ3_checkIndex_8e157 : MethodName := ⟨RJ3, "checkIndex", "(IILjava/util/function/BiFunction;)I"⟩
def RL : String := "EvenFindersLaw"
abbrev cL_town : ByteArray := method_3_code
def yL_town : MethodName := ⟨RL, "town", "(LEvenFinders;I[J)I"⟩
abbrev cL_law : ByteArray := method_4_code
def yL_law : MethodName := ⟨RL, "law", "(LEvenFinders;I[J)I"⟩
abbrev cL_work : ByteArray := method_5_code
def yL_work : MethodName := ⟨RL, "work", "(LEvenFinders;I[J)I"⟩
abbrev cL_book : ByteArray := method_6_code
def yL_book : MethodName := ⟨RL, "book", "(LEvenFinders;I[J)I"⟩
abbrev cL_told : ByteArray := method_7_code
def yL_told : MethodName := ⟨RL, "told", "(LEvenFinders;I[J)I"⟩
abbrev cL_place : ByteArray := method_8_code
def yL_place : MethodName := ⟨RL, "place", "(LEvenFinders;II[J)I"⟩
abbrev cL_road : ByteArray := method_9_code
def yL_road : MethodName := ⟨RL, "road", "(LEvenFinders;II[J)I"⟩
abbrev cL_thing : ByteArray := method_10_code
def yL_thing : MethodName := ⟨RL, "thing", "(LEvenFinders;II[J)I"⟩
abbrev cL_finder : ByteArray := method_11_code
def yL_finder : MethodName := ⟨RL, "finder", "(LEvenFinders;II[J)I"⟩
abbrev cL_duty : ByteArray := method_12_code
def yL_duty : MethodName := ⟨RL, "duty", "(LEvenFinders;II[J)I"⟩
abbrev cL_would : ByteArray := method_13_code
def yL_would : MethodName := ⟨RL, "would", "(LEvenFinders;IIIIIIII[J)I"⟩
abbrev cL_can : ByteArray := method_14_code
def yL_can : MethodName := ⟨RL, "can", "(LEvenFinders;II[J)I"⟩
abbrev cL_ahead : ByteArray := method_15_code
def yL_ahead : MethodName := ⟨RL, "ahead", "(LEvenFinders;II[J)I"⟩
abbrev cL_far : ByteArray := method_16_code
def yL_far : MethodName := ⟨RL, "far", "(LEvenFinders;II[J)I"⟩
abbrev cL_round : ByteArray := method_17_code
def yL_round : MethodName := ⟨RL, "round", "(LEvenFinders;I[J)I"⟩
abbrev cL_meet : ByteArray := method_18_code
def yL_meet : MethodName := ⟨RL, "meet", "(LEvenFinders;I[J)I"⟩
abbrev cL_reach : ByteArray := method_19_code
def yL_reach : MethodName := ⟨RL, "reach", "(LEvenFinders;I[J)I"⟩
abbrev cL_settle : ByteArray := method_20_code
def yL_settle : MethodName := ⟨RL, "settle", "(LEvenFinders;I[J)I"⟩
abbrev cL_parts : ByteArray := method_21_code
def yL_parts : MethodName := ⟨RL, "parts", "(LEvenFinders;II[J)I"⟩
abbrev cL_fits : ByteArray := method_22_code
def yL_fits : MethodName := ⟨RL, "fits", "(LEvenFinders;I[J)I"⟩
abbrev cL_look : ByteArray := method_23_code
def yL_look : MethodName := ⟨RL, "look", "(LEvenFinders;I[J)I"⟩
abbrev cL_pins : ByteArray := method_24_code
def yL_pins : MethodName := ⟨RL, "pins", "(LEvenFinders;IIII[J)I"⟩
abbrev cL_takes : ByteArray := method_25_code
def yL_takes : MethodName := ⟨RL, "takes", "(LEvenFinders;III[J)I"⟩
abbrev cL_sixpence : ByteArray := method_26_code
def yL_sixpence : MethodName := ⟨RL, "sixpence", "(LEvenFinders;III[J)I"⟩
abbrev cL_greatest : ByteArray := method_27_code
def yL_greatest : MethodName := ⟨RL, "greatest", "(LEvenFinders;I[J)I"⟩
abbrev cL_deepest : ByteArray := method_28_code
def yL_deepest : MethodName := ⟨RL, "deepest", "(LEvenFinders;I[J)I"⟩
abbrev cL_sound : ByteArray := method_29_code
def yL_sound : MethodName := ⟨RL, "sound", "(LEvenFinders;I[J)I"⟩
abbrev cL_way : ByteArray := method_30_code
def yL_way : MethodName := ⟨RL, "way", "(LEvenFinders;II[J)I"⟩
abbrev cL_burden : ByteArray := method_31_code
def yL_burden : MethodName := ⟨RL, "burden", "(LEvenFinders;I[J)I"⟩
abbrev cL_near : ByteArray := method_32_code
def yL_near : MethodName := ⟨RL, "near", "(LEvenFinders;II[J)I"⟩
abbrev cL_enough : ByteArray := method_33_code
def yL_enough : MethodName := ⟨RL, "enough", "(LEvenFinders;I[J)I"⟩
abbrev cL_year : ByteArray := method_34_code
def yL_year : MethodName := ⟨RL, "year", "(LEvenFinders;IIII[J)I"⟩
abbrev cL_span : ByteArray := method_35_code
def yL_span : MethodName := ⟨RL, "span", "(LEvenFinders;IIIIII[J)I"⟩
abbrev cL_law_ : ByteArray := code
def yL_law_ : MethodName := ⟨RL, "law", "([I)Z"⟩
abbrev vwCl : List vw_C := [(RX0, TX0, 2), (RX1, TX1, 4), (RX2, TX2, 5), (RX3, TX3, 4), (RX5, TX5, 7), (RX6, TX6, 7), (RX7, TX7, 12), (RX8, TX8, 3), (RX9, TX9, 8), (RX10, TX10, 5), (RX11, TX11, 17), (RX12, TX12, 52)]

/-! the good words of the tables -/
def gt : List Cond := lw_tbl.filter goodWord
def tb : Nat → List Cond
  | 1 => tables_1_1
  | 2 => tables_1_2
  | 3 => tables_1_3
  | 4 => tables_1_4
  | 5 => tables_1_5
  | 6 => tables_1_6
  | 7 => tables_1_7
  | 8 => tables_1_8
  | 9 => tables_1_9
  | 11 => k2_sels lw_privs_1
  | 12 => k2_sels lw_privs_2
  | 13 => k2_sels lw_privs_3
  | 14 => k2_sels lw_privs_4
  | 15 => k2_sels lw_privs_5
  | 16 => k2_sels lw_privs_6
  | 17 => k2_sels lw_privs_7
  | _ => []
theorem tb_in (k : Nat) : ∀ w ∈ tb k, w ∈ lw_tbl := by
  intro w h
  unfold lw_tbl tables_1 lw_privs k2_sels
  simp only [List.map_append, List.mem_append]
  unfold tb at h
  split at h
  all_goals first | (unfold k2_sels at h; simp only [h, true_or, or_true]; done) | (simp only [h, true_or, or_true]; done) | (cases h; done)
theorem mg {k i : Nat} {w : Cond} (h : (tb k)[i]? = some w) (g : goodWord w = true) : w ∈ gt := List.mem_filter.mpr ⟨tb_in k w (List.mem_of_getElem? h), g⟩
theorem gt_good : ∀ w ∈ gt, (w.onTables && w.keeps) = true ∨ ∃ ty, w = .arrayClass ty := fun w h => good_of_word (List.mem_filter.mp h).2
theorem gt_tbl : ∀ w ∈ gt, w ∈ lw_tbl := fun w h => (List.mem_filter.mp h).1
def clT (ci : Nat) : vw_C := vwCl.getD ci (RX0, TX0, 2)
abbrev MI : Type := MethodName × ByteArray × Nat × Option FieldType × Nat × Nat × List (Nat × Nat × Nat × Nat)
def MI.y (μ : MI) : MethodName := μ.1
def MI.b (μ : MI) : ByteArray := μ.2.1
def MI.ml (μ : MI) : Nat := μ.2.2.1
def MI.ret (μ : MI) : Option FieldType := μ.2.2.2.1
def MI.mc (μ : MI) : Nat := μ.2.2.2.2.1
def MI.ms (μ : MI) : Nat := μ.2.2.2.2.2.1
def MI.hh (μ : MI) : List (Nat × Nat × Nat × Nat) := μ.2.2.2.2.2.2
def MOK (μ : MI) (n : Nat) : Prop := Cond.code μ.y μ.b μ.ml μ.ret ∈ gt ∧ Cond.initialized μ.y.cls ∈ gt ∧ (μ.y.cls ≠ "java/lang/invoke/MethodHandle" ∧ μ.y.cls ≠ "java/lang/invoke/VarHandle" ∧ (parseMethodDescriptor μ.y.desc).map (fun d => d.parameters.length) = some n) ∧ plainName μ.y.cls = true ∧ μ.ml ≤ 40 ∧ μ.hh = []
def MOV (μ : MI) (n : Nat) : Prop := MOK μ n ∧ Cond.instanceMethod μ.y ∈ gt ∧ Cond.selects μ.y.cls μ.y μ.y ∈ gt
def MOS (μ : MI) (n : Nat) : Prop := MOK μ n ∧ Cond.static μ.y ∈ gt

def okf (q : String × Nat × Nat × Nat × Nat × Nat) : Bool := decide ((tb q.2.2.2.2.1)[q.2.2.2.2.2]? = some (Cond.fieldLink q.1 q.2.1 ((clT q.2.2.1).2.1 q.2.2.2.1).1 ((clT q.2.2.1).2.1 q.2.2.2.1).2.1 ((clT q.2.2.1).2.1 q.2.2.2.1).2.2.1)) && decide (q.2.2.2.1 < (clT q.2.2.1).2.2) && decide (q.2.2.1 < 12)
def flk_0 : List (String × Nat × Nat × Nat × Nat × Nat) := [("EvenFinders$Tape", 9, 5, 0, 1, 41), ("EvenFinders", 101, 5, 1, 1, 42), ("EvenFinders$Tape", 19, 5, 1, 1, 43), ("EvenFinders$Tape", 37, 5, 2, 1, 44), ("EvenFinders", 121, 5, 2, 1, 45), ("EvenFinders$Tape", 15, 5, 3, 1, 46), ("EvenFinders", 175, 5, 3, 1, 47), ("EvenFinders$Tape", 40, 5, 4, 1, 48), ("EvenFinders$Town", 74, 5, 4, 1, 49), ("EvenFinders$Work", 71, 5, 4, 1, 50), ("EvenFinders$Law", 41, 5, 4, 1, 51), ("EvenFinders$Book", 48, 5, 4, 1, 52), ("EvenFinders$Tape", 31, 5, 5, 1, 53), ("EvenFinders$Tape", 34, 5, 6, 1, 54), ("EvenFinders$Town", 36, 6, 0, 1, 77), ("EvenFinders$Search", 33, 6, 0, 1, 78), ("EvenFinders$Ways", 45, 6, 0, 1, 79), ("EvenFinders", 163, 6, 0, 1, 80), ("EvenFinders$Town", 40, 6, 1, 1, 81), ("EvenFinders$Years", 38, 6, 1, 1, 82), ("EvenFinders$Work", 61, 6, 1, 1, 83), ("EvenFinders", 186, 6, 1, 1, 84), ("EvenFinders$Town", 43, 6, 2, 1, 85), ("EvenFinders$Years", 41, 6, 2, 1, 86), ("EvenFinders$Search", 51, 6, 2, 1, 87), ("EvenFinders$Ways", 35, 6, 2, 1, 88), ("EvenFinders$Work", 64, 6, 2, 1, 89), ("EvenFinders", 139, 6, 2, 1, 90), ("EvenFinders$Days", 86, 6, 2, 1, 91), ("EvenFinders$Years", 33, 6, 3, 1, 92), ("EvenFinders$Town", 46, 6, 3, 1, 93), ("EvenFinders$Work", 52, 6, 3, 1, 94), ("EvenFinders$Ways", 42, 6, 3, 1, 95), ("EvenFinders", 189, 6, 3, 1, 96), ("EvenFinders$Days", 78, 6, 3, 1, 97), ("EvenFinders$Town", 9, 6, 4, 1, 98), ("EvenFinders", 231, 6, 4, 1, 99), ("EvenFinders$Town", 15, 6, 5, 1, 100), ("EvenFinders", 234, 6, 5, 1, 101), ("EvenFinders$Town", 18, 6, 6, 1, 102)]
theorem flk_0_ok : flk_0.all okf = true := by decide +kernel
def flk_1 : List (String × Nat × Nat × Nat × Nat × Nat) := [("EvenFinders$Days", 53, 6, 6, 1, 103), ("EvenFinders", 237, 6, 6, 1, 104), ("EvenFinders$Town", 21, 6, 7, 1, 105), ("EvenFinders$Search", 70, 6, 7, 1, 106), ("EvenFinders$Days", 63, 6, 7, 1, 107), ("EvenFinders", 243, 6, 7, 1, 108), ("EvenFinders$Town", 24, 6, 8, 1, 109), ("EvenFinders$Days", 43, 6, 8, 1, 110), ("EvenFinders$Town", 27, 6, 9, 1, 111), ("EvenFinders$Days", 46, 6, 9, 1, 112), ("EvenFinders$Town", 30, 6, 10, 1, 113), ("EvenFinders$Days", 32, 6, 10, 1, 114), ("EvenFinders$Town", 33, 6, 11, 1, 115), ("EvenFinders$Law", 11, 3, 0, 1, 147), ("EvenFinders$Days", 89, 3, 0, 1, 148), ("EvenFinders", 259, 3, 0, 1, 149), ("EvenFinders$Law", 15, 3, 1, 1, 150), ("EvenFinders$Law", 18, 3, 2, 1, 151), ("EvenFinders$Law", 21, 3, 3, 1, 152), ("EvenFinders$Book", 21, 0, 0, 1, 171), ("EvenFinders", 172, 0, 0, 1, 172), ("EvenFinders$Book", 9, 0, 1, 1, 173), ("EvenFinders$Search", 58, 0, 1, 1, 174), ("EvenFinders", 160, 8, 0, 1, 186), ("EvenFinders$Work", 81, 8, 0, 1, 187), ("EvenFinders", 157, 8, 1, 1, 188), ("EvenFinders$Work", 84, 8, 1, 1, 189), ("EvenFinders$Work", 78, 8, 2, 1, 190), ("EvenFinders$Work", 25, 8, 3, 1, 191), ("EvenFinders$Work", 21, 8, 4, 1, 192), ("EvenFinders$Work", 9, 8, 5, 1, 193), ("EvenFinders$Work", 15, 8, 6, 1, 194), ("EvenFinders$Work", 18, 8, 7, 1, 195), ("EvenFinders$Days", 9, 1, 0, 1, 219), ("EvenFinders$Ways", 23, 1, 0, 1, 220), ("EvenFinders$History", 28, 1, 0, 1, 221), ("EvenFinders$Search", 67, 1, 0, 1, 222), ("EvenFinders", 192, 1, 0, 1, 223), ("EvenFinders$Days", 15, 1, 1, 1, 224), ("EvenFinders$Days", 18, 1, 2, 1, 225)]
theorem flk_1_ok : flk_1.all okf = true := by decide +kernel
def flk_2 : List (String × Nat × Nat × Nat × Nat × Nat) := [("EvenFinders$Days", 22, 1, 3, 1, 226), ("EvenFinders$History", 21, 2, 0, 2, 2), ("EvenFinders", 146, 2, 0, 2, 3), ("EvenFinders$History", 25, 2, 1, 2, 4), ("EvenFinders", 362, 2, 1, 2, 5), ("EvenFinders$History", 9, 2, 2, 2, 6), ("EvenFinders$History", 15, 2, 3, 2, 7), ("EvenFinders$History", 18, 2, 4, 2, 8), ("EvenFinders$Ways", 15, 7, 0, 2, 26), ("EvenFinders$Ways", 19, 7, 1, 2, 27), ("EvenFinders$Ways", 9, 7, 2, 2, 28), ("EvenFinders$Search", 48, 4, 0, 2, 42), ("EvenFinders", 298, 4, 0, 2, 43), ("EvenFinders$Search", 9, 4, 1, 2, 44), ("EvenFinders", 301, 4, 1, 2, 45), ("EvenFinders$Search", 21, 4, 2, 2, 46), ("EvenFinders$Search", 25, 4, 3, 2, 47), ("EvenFinders$Search", 29, 4, 4, 2, 48), ("EvenFinders$Search", 15, 4, 5, 2, 49), ("EvenFinders$Search", 18, 4, 6, 2, 50), ("EvenFinders$Years", 30, 9, 0, 2, 72), ("EvenFinders", 352, 9, 0, 2, 73), ("EvenFinders$Years", 26, 9, 1, 2, 74), ("EvenFinders$Years", 7, 9, 2, 2, 75), ("EvenFinders$Years", 13, 9, 3, 2, 76), ("EvenFinders$Years", 17, 9, 4, 2, 77), ("EvenFinders", 12, 10, 0, 2, 89), ("EvenFinders", 19, 10, 1, 2, 90), ("EvenFinders", 23, 10, 2, 2, 91), ("EvenFinders", 29, 10, 3, 2, 92), ("EvenFinders", 33, 10, 4, 2, 93), ("EvenFinders", 39, 10, 5, 2, 94), ("EvenFinders", 43, 10, 6, 2, 95), ("EvenFinders", 51, 10, 7, 2, 96), ("EvenFinders", 60, 10, 8, 2, 97), ("EvenFinders", 64, 10, 9, 2, 98), ("EvenFinders", 70, 10, 10, 2, 99), ("EvenFinders", 79, 10, 11, 2, 100), ("EvenFinders", 88, 10, 12, 2, 101), ("EvenFinders", 97, 10, 13, 2, 102)]
theorem flk_2_ok : flk_2.all okf = true := by decide +kernel
def flk_3 : List (String × Nat × Nat × Nat × Nat × Nat) := [("EvenFinders", 136, 10, 14, 2, 103), ("EvenFinders", 368, 10, 15, 2, 104), ("EvenFinders", 371, 10, 16, 2, 105), ("EvenFindersModel", 3, 11, 0, 6, 112), ("EvenFindersModel", 7, 11, 1, 6, 113), ("EvenFindersModel", 98, 11, 2, 6, 114), ("EvenFindersModel", 110, 11, 3, 6, 115), ("EvenFindersModel", 107, 11, 4, 6, 116), ("EvenFindersModel", 101, 11, 5, 6, 117), ("EvenFindersModel", 104, 11, 6, 6, 118), ("EvenFindersModel", 141, 11, 7, 6, 119), ("EvenFindersModel", 17, 11, 8, 6, 120), ("EvenFindersModel", 20, 11, 9, 6, 121), ("EvenFindersModel", 23, 11, 10, 6, 122), ("EvenFindersModel", 26, 11, 11, 6, 123), ("EvenFindersModel", 29, 11, 12, 6, 124), ("EvenFindersModel", 32, 11, 13, 6, 125), ("EvenFindersModel", 35, 11, 14, 6, 126), ("EvenFindersModel", 38, 11, 15, 6, 127), ("EvenFindersModel", 144, 11, 16, 6, 128), ("EvenFindersModel", 147, 11, 17, 6, 129), ("EvenFindersModel", 150, 11, 18, 6, 130), ("EvenFindersModel", 153, 11, 19, 6, 131), ("EvenFindersModel", 156, 11, 20, 6, 132), ("EvenFindersModel", 159, 11, 21, 6, 133), ("EvenFindersModel", 162, 11, 22, 6, 134), ("EvenFindersModel", 165, 11, 23, 6, 135), ("EvenFindersModel", 41, 11, 24, 6, 136), ("EvenFindersModel", 44, 11, 25, 6, 137), ("EvenFindersModel", 47, 11, 26, 6, 138), ("EvenFindersModel", 50, 11, 27, 6, 139), ("EvenFindersModel", 53, 11, 28, 6, 140), ("EvenFindersModel", 246, 11, 29, 6, 141), ("EvenFindersModel", 172, 11, 30, 6, 142), ("EvenFindersModel", 56, 11, 31, 6, 143), ("EvenFindersModel", 59, 11, 32, 6, 144), ("EvenFindersModel", 62, 11, 33, 6, 145), ("EvenFindersModel", 295, 11, 34, 6, 146), ("EvenFindersModel", 178, 11, 35, 6, 147), ("EvenFindersModel", 184, 11, 36, 6, 148)]
theorem flk_3_ok : flk_3.all okf = true := by decide +kernel
def flk_4 : List (String × Nat × Nat × Nat × Nat × Nat) := [("EvenFindersModel", 323, 11, 37, 6, 149), ("EvenFindersModel", 326, 11, 38, 6, 150), ("EvenFindersModel", 329, 11, 39, 6, 151), ("EvenFindersModel", 65, 11, 40, 6, 152), ("EvenFindersModel", 68, 11, 41, 6, 153), ("EvenFindersModel", 71, 11, 42, 6, 154), ("EvenFindersModel", 74, 11, 43, 6, 155), ("EvenFindersModel", 77, 11, 44, 6, 156), ("EvenFindersModel", 175, 11, 45, 6, 157), ("EvenFindersModel", 80, 11, 46, 6, 158), ("EvenFindersModel", 83, 11, 47, 6, 159), ("EvenFindersModel", 86, 11, 48, 6, 160), ("EvenFindersModel", 432, 11, 49, 6, 161), ("EvenFindersModel", 89, 11, 50, 6, 162), ("EvenFindersModel", 181, 11, 51, 6, 163)]
theorem flk_4_ok : flk_4.all okf = true := by decide +kernel
def flk : List (String × Nat × Nat × Nat × Nat × Nat) := flk_0 ++ flk_1 ++ flk_2 ++ flk_3 ++ flk_4
theorem flk_ok : ∀ q ∈ flk, okf q = true := by
  intro q hq
  simp only [flk, List.mem_append] at hq
  rcases hq with ((((h | h) | h) | h) | h)
  · exact List.all_eq_true.mp flk_0_ok q h
  · exact List.all_eq_true.mp flk_1_ok q h
  · exact List.all_eq_true.mp flk_2_ok q h
  · exact List.all_eq_true.mp flk_3_ok q h
  · exact List.all_eq_true.mp flk_4_ok q h
set_option maxRecDepth 20000 in
theorem uw_0 : u_ws RX0 TX0 2 = ([(1, 175), (1, 177)] : List (Nat × Nat)).filterMap (fun q => (tb q.1)[q.2]?) := by decide +kernel
theorem ug_0 : (u_ws RX0 TX0 2).all goodWord = true := by decide +kernel
theorem hi_0 : ∀ w ∈ u_ws RX0 TX0 2, w ∈ gt := fun w hw => List.mem_filter.mpr ⟨by rw [uw_0] at hw; obtain ⟨i, -, hi⟩ := List.mem_filterMap.mp hw; exact tb_in _ _ (List.mem_of_getElem? hi), List.all_eq_true.mp ug_0 w hw⟩
set_option maxRecDepth 20000 in
theorem uw_1 : u_ws RX1 TX1 4 = ([(1, 227), (1, 229), (1, 231), (1, 233)] : List (Nat × Nat)).filterMap (fun q => (tb q.1)[q.2]?) := by decide +kernel
theorem ug_1 : (u_ws RX1 TX1 4).all goodWord = true := by decide +kernel
theorem hi_1 : ∀ w ∈ u_ws RX1 TX1 4, w ∈ gt := fun w hw => List.mem_filter.mpr ⟨by rw [uw_1] at hw; obtain ⟨i, -, hi⟩ := List.mem_filterMap.mp hw; exact tb_in _ _ (List.mem_of_getElem? hi), List.all_eq_true.mp ug_1 w hw⟩
set_option maxRecDepth 20000 in
theorem uw_2 : u_ws RX2 TX2 5 = ([(2, 9), (2, 11), (2, 13), (2, 15), (2, 17)] : List (Nat × Nat)).filterMap (fun q => (tb q.1)[q.2]?) := by decide +kernel
theorem ug_2 : (u_ws RX2 TX2 5).all goodWord = true := by decide +kernel
theorem hi_2 : ∀ w ∈ u_ws RX2 TX2 5, w ∈ gt := fun w hw => List.mem_filter.mpr ⟨by rw [uw_2] at hw; obtain ⟨i, -, hi⟩ := List.mem_filterMap.mp hw; exact tb_in _ _ (List.mem_of_getElem? hi), List.all_eq_true.mp ug_2 w hw⟩
set_option maxRecDepth 20000 in
theorem uw_3 : u_ws RX3 TX3 4 = ([(1, 153), (1, 155), (1, 157), (1, 159)] : List (Nat × Nat)).filterMap (fun q => (tb q.1)[q.2]?) := by decide +kernel
theorem ug_3 : (u_ws RX3 TX3 4).all goodWord = true := by decide +kernel
theorem hi_3 : ∀ w ∈ u_ws RX3 TX3 4, w ∈ gt := fun w hw => List.mem_filter.mpr ⟨by rw [uw_3] at hw; obtain ⟨i, -, hi⟩ := List.mem_filterMap.mp hw; exact tb_in _ _ (List.mem_of_getElem? hi), List.all_eq_true.mp ug_3 w hw⟩
set_option maxRecDepth 20000 in
theorem uw_4 : u_ws RX5 TX5 7 = ([(2, 51), (2, 53), (2, 55), (2, 57), (2, 59), (2, 61), (2, 63)] : List (Nat × Nat)).filterMap (fun q => (tb q.1)[q.2]?) := by decide +kernel
theorem ug_4 : (u_ws RX5 TX5 7).all goodWord = true := by decide +kernel
theorem hi_4 : ∀ w ∈ u_ws RX5 TX5 7, w ∈ gt := fun w hw => List.mem_filter.mpr ⟨by rw [uw_4] at hw; obtain ⟨i, -, hi⟩ := List.mem_filterMap.mp hw; exact tb_in _ _ (List.mem_of_getElem? hi), List.all_eq_true.mp ug_4 w hw⟩
set_option maxRecDepth 20000 in
theorem uw_5 : u_ws RX6 TX6 7 = ([(1, 55), (1, 57), (1, 59), (1, 61), (1, 63), (1, 65), (1, 67)] : List (Nat × Nat)).filterMap (fun q => (tb q.1)[q.2]?) := by decide +kernel
theorem ug_5 : (u_ws RX6 TX6 7).all goodWord = true := by decide +kernel
theorem hi_5 : ∀ w ∈ u_ws RX6 TX6 7, w ∈ gt := fun w hw => List.mem_filter.mpr ⟨by rw [uw_5] at hw; obtain ⟨i, -, hi⟩ := List.mem_filterMap.mp hw; exact tb_in _ _ (List.mem_of_getElem? hi), List.all_eq_true.mp ug_5 w hw⟩
set_option maxRecDepth 20000 in
theorem uw_6 : u_ws RX7 TX7 12 = ([(1, 116), (1, 118), (1, 120), (1, 122), (1, 124), (1, 126), (1, 128), (1, 130), (1, 132), (1, 134), (1, 136), (1, 138)] : List (Nat × Nat)).filterMap (fun q => (tb q.1)[q.2]?) := by decide +kernel
theorem ug_6 : (u_ws RX7 TX7 12).all goodWord = true := by decide +kernel
theorem hi_6 : ∀ w ∈ u_ws RX7 TX7 12, w ∈ gt := fun w hw => List.mem_filter.mpr ⟨by rw [uw_6] at hw; obtain ⟨i, -, hi⟩ := List.mem_filterMap.mp hw; exact tb_in _ _ (List.mem_of_getElem? hi), List.all_eq_true.mp ug_6 w hw⟩
set_option maxRecDepth 20000 in
theorem uw_7 : u_ws RX8 TX8 3 = ([(2, 29), (2, 31), (2, 33)] : List (Nat × Nat)).filterMap (fun q => (tb q.1)[q.2]?) := by decide +kernel
theorem ug_7 : (u_ws RX8 TX8 3).all goodWord = true := by decide +kernel
theorem hi_7 : ∀ w ∈ u_ws RX8 TX8 3, w ∈ gt := fun w hw => List.mem_filter.mpr ⟨by rw [uw_7] at hw; obtain ⟨i, -, hi⟩ := List.mem_filterMap.mp hw; exact tb_in _ _ (List.mem_of_getElem? hi), List.all_eq_true.mp ug_7 w hw⟩
set_option maxRecDepth 20000 in
theorem uw_8 : u_ws RX9 TX9 8 = ([(1, 196), (1, 198), (1, 200), (1, 202), (1, 204), (1, 206), (1, 208), (1, 210)] : List (Nat × Nat)).filterMap (fun q => (tb q.1)[q.2]?) := by decide +kernel
theorem ug_8 : (u_ws RX9 TX9 8).all goodWord = true := by decide +kernel
theorem hi_8 : ∀ w ∈ u_ws RX9 TX9 8, w ∈ gt := fun w hw => List.mem_filter.mpr ⟨by rw [uw_8] at hw; obtain ⟨i, -, hi⟩ := List.mem_filterMap.mp hw; exact tb_in _ _ (List.mem_of_getElem? hi), List.all_eq_true.mp ug_8 w hw⟩
set_option maxRecDepth 20000 in
theorem uw_9 : u_ws RX10 TX10 5 = ([(2, 78), (2, 80), (2, 82), (2, 84), (2, 86)] : List (Nat × Nat)).filterMap (fun q => (tb q.1)[q.2]?) := by decide +kernel
theorem ug_9 : (u_ws RX10 TX10 5).all goodWord = true := by decide +kernel
theorem hi_9 : ∀ w ∈ u_ws RX10 TX10 5, w ∈ gt := fun w hw => List.mem_filter.mpr ⟨by rw [uw_9] at hw; obtain ⟨i, -, hi⟩ := List.mem_filterMap.mp hw; exact tb_in _ _ (List.mem_of_getElem? hi), List.all_eq_true.mp ug_9 w hw⟩
set_option maxRecDepth 20000 in
theorem uw_10 : u_ws RX11 TX11 17 = ([(2, 106), (2, 108), (2, 110), (2, 112), (2, 114), (2, 116), (2, 118), (2, 120), (2, 122), (2, 124), (2, 126), (2, 128), (2, 130), (2, 132), (2, 134), (2, 136), (2, 138)] : List (Nat × Nat)).filterMap (fun q => (tb q.1)[q.2]?) := by decide +kernel
theorem ug_10 : (u_ws RX11 TX11 17).all goodWord = true := by decide +kernel
theorem hi_10 : ∀ w ∈ u_ws RX11 TX11 17, w ∈ gt := fun w hw => List.mem_filter.mpr ⟨by rw [uw_10] at hw; obtain ⟨i, -, hi⟩ := List.mem_filterMap.mp hw; exact tb_in _ _ (List.mem_of_getElem? hi), List.all_eq_true.mp ug_10 w hw⟩
set_option maxRecDepth 20000 in
theorem uw_11 : u_ws RX12 TX12 52 = ([(6, 164), (6, 166), (6, 168), (6, 170), (6, 172), (6, 174), (6, 176), (6, 178), (6, 180), (6, 182), (6, 184), (6, 186), (6, 188), (6, 190), (6, 192), (6, 194), (6, 196), (6, 198), (6, 200), (6, 202), (6, 204), (6, 206), (6, 208), (6, 210), (6, 212), (6, 214), (6, 216), (6, 218), (6, 220), (6, 222), (6, 224), (6, 226), (6, 228), (6, 230), (6, 232), (6, 234), (6, 236), (6, 238), (7, 0), (7, 2), (7, 4), (7, 6), (7, 8), (7, 10), (7, 12), (7, 14), (7, 16), (7, 18), (7, 20), (7, 22), (7, 24), (7, 26)] : List (Nat × Nat)).filterMap (fun q => (tb q.1)[q.2]?) := by decide +kernel
theorem ug_11 : (u_ws RX12 TX12 52).all goodWord = true := by decide +kernel
theorem hi_11 : ∀ w ∈ u_ws RX12 TX12 52, w ∈ gt := fun w hw => List.mem_filter.mpr ⟨by rw [uw_11] at hw; obtain ⟨i, -, hi⟩ := List.mem_filterMap.mp hw; exact tb_in _ _ (List.mem_of_getElem? hi), List.all_eq_true.mp ug_11 w hw⟩
