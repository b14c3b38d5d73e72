def mJ7_fill_53178 : MI := (yJ7_fill_53178, cJ7_fill_53178, 4, none, 0, 0, [])
theorem oJ7_fill_53178 : MOS mJ7_fill_53178 2 := ⟨⟨mg (k := 1) (i := 170) rfl rfl, mg (k := 1) (i := 6) (by decide +kernel) rfl, ⟨by decide +kernel, by decide +kernel, by decide +kernel⟩, by decide +kernel, by decide, rfl⟩, mg (k := 1) (i := 169) (by decide +kernel) rfl⟩
def mX11_feed : MI := (yX11_feed, cX11_feed, 6, (some .int), 0, 0, [])
theorem oX11_feed : MOV mX11_feed 5 := ⟨⟨mg (k := 2) (i := 144) rfl rfl, mg (k := 1) (i := 1) (by decide +kernel) rfl, ⟨by decide +kernel, by decide +kernel, by decide +kernel⟩, by decide +kernel, by decide, rfl⟩, mg (k := 2) (i := 142) (by decide +kernel) rfl, mg (k := 2) (i := 143) (by decide +kernel) rfl⟩
def mX6_push : MI := (yX6_push, cX6_push, 3, none, 0, 0, [])
theorem oX6_push : MOV mX6_push 1 := ⟨⟨mg (k := 2) (i := 148) rfl rfl, mg (k := 1) (i := 2) (by decide +kernel) rfl, ⟨by decide +kernel, by decide +kernel, by decide +kernel⟩, by decide +kernel, by decide, rfl⟩, mg (k := 2) (i := 146) (by decide +kernel) rfl, mg (k := 2) (i := 147) (by decide +kernel) rfl⟩
def mX11_fault : MI := (yX11_fault, cX11_fault, 1, (some .int), 0, 0, [])
theorem oX11_fault : MOV mX11_fault 0 := ⟨⟨mg (k := 2) (i := 152) rfl rfl, mg (k := 1) (i := 1) (by decide +kernel) rfl, ⟨by decide +kernel, by decide +kernel, by decide +kernel⟩, by decide +kernel, by decide, rfl⟩, mg (k := 2) (i := 150) (by decide +kernel) rfl, mg (k := 2) (i := 151) (by decide +kernel) rfl⟩
def mX11_undo : MI := (yX11_undo, cX11_undo, 1, (some .int), 0, 0, [])
theorem oX11_undo : MOV mX11_undo 0 := ⟨⟨mg (k := 2) (i := 156) rfl rfl, mg (k := 1) (i := 1) (by decide +kernel) rfl, ⟨by decide +kernel, by decide +kernel, by decide +kernel⟩, by decide +kernel, by decide, rfl⟩, mg (k := 2) (i := 154) (by decide +kernel) rfl, mg (k := 2) (i := 155) (by decide +kernel) rfl⟩
def mX2_takeWorkBack : MI := (yX2_takeWorkBack, cX2_takeWorkBack, 2, (some .boolean), 0, 0, [])
theorem oX2_takeWorkBack : MOV mX2_takeWorkBack 1 := ⟨⟨mg (k := 2) (i := 160) rfl rfl, mg (k := 1) (i := 9) (by decide +kernel) rfl, ⟨by decide +kernel, by decide +kernel, by decide +kernel⟩, by decide +kernel, by decide, rfl⟩, mg (k := 2) (i := 158) (by decide +kernel) rfl, mg (k := 2) (i := 159) (by decide +kernel) rfl⟩
def mX11_empty : MI := (yX11_empty, cX11_empty, 3, (some .int), 0, 0, [])
theorem oX11_empty : MOV mX11_empty 0 := ⟨⟨mg (k := 2) (i := 167) rfl rfl, mg (k := 1) (i := 1) (by decide +kernel) rfl, ⟨by decide +kernel, by decide +kernel, by decide +kernel⟩, by decide +kernel, by decide, rfl⟩, mg (k := 2) (i := 165) (by decide +kernel) rfl, mg (k := 2) (i := 166) (by decide +kernel) rfl⟩
def mX1_lyingAt : MI := (yX1_lyingAt, cX1_lyingAt, 4, (some .int), 0, 0, [])
theorem oX1_lyingAt : MOV mX1_lyingAt 1 := ⟨⟨mg (k := 2) (i := 171) rfl rfl, mg (k := 1) (i := 8) (by decide +kernel) rfl, ⟨by decide +kernel, by decide +kernel, by decide +kernel⟩, by decide +kernel, by decide, rfl⟩, mg (k := 2) (i := 169) (by decide +kernel) rfl, mg (k := 2) (i := 170) (by decide +kernel) rfl⟩
def mX1_findersAt : MI := (yX1_findersAt, cX1_findersAt, 4, (some .int), 0, 0, [])
theorem oX1_findersAt : MOV mX1_findersAt 1 := ⟨⟨mg (k := 2) (i := 175) rfl rfl, mg (k := 1) (i := 8) (by decide +kernel) rfl, ⟨by decide +kernel, by decide +kernel, by decide +kernel⟩, by decide +kernel, by decide, rfl⟩, mg (k := 2) (i := 173) (by decide +kernel) rfl, mg (k := 2) (i := 174) (by decide +kernel) rfl⟩
def mX11_lucky : MI := (yX11_lucky, cX11_lucky, 3, (some .int), 0, 0, [])
theorem oX11_lucky : MOV mX11_lucky 0 := ⟨⟨mg (k := 2) (i := 179) rfl rfl, mg (k := 1) (i := 1) (by decide +kernel) rfl, ⟨by decide +kernel, by decide +kernel, by decide +kernel⟩, by decide +kernel, by decide, rfl⟩, mg (k := 2) (i := 177) (by decide +kernel) rfl, mg (k := 2) (i := 178) (by decide +kernel) rfl⟩
def mX11_image : MI := (yX11_image, cX11_image, 1, (some .int), 0, 0, [])
theorem oX11_image : MOV mX11_image 0 := ⟨⟨mg (k := 2) (i := 183) rfl rfl, mg (k := 1) (i := 1) (by decide +kernel) rfl, ⟨by decide +kernel, by decide +kernel, by decide +kernel⟩, by decide +kernel, by decide, rfl⟩, mg (k := 2) (i := 181) (by decide +kernel) rfl, mg (k := 2) (i := 182) (by decide +kernel) rfl⟩
def mX2_keepImage : MI := (yX2_keepImage, cX2_keepImage, 3, (some .boolean), 0, 0, [])
theorem oX2_keepImage : MOV mX2_keepImage 1 := ⟨⟨mg (k := 2) (i := 187) rfl rfl, mg (k := 1) (i := 9) (by decide +kernel) rfl, ⟨by decide +kernel, by decide +kernel, by decide +kernel⟩, by decide +kernel, by decide, rfl⟩, mg (k := 2) (i := 185) (by decide +kernel) rfl, mg (k := 2) (i := 186) (by decide +kernel) rfl⟩
def mX11_restore : MI := (yX11_restore, cX11_restore, 1, (some .int), 0, 0, [])
theorem oX11_restore : MOV mX11_restore 0 := ⟨⟨mg (k := 2) (i := 191) rfl rfl, mg (k := 1) (i := 1) (by decide +kernel) rfl, ⟨by decide +kernel, by decide +kernel, by decide +kernel⟩, by decide +kernel, by decide, rfl⟩, mg (k := 2) (i := 189) (by decide +kernel) rfl, mg (k := 2) (i := 190) (by decide +kernel) rfl⟩
def mX2_takeImageBack : MI := (yX2_takeImageBack, cX2_takeImageBack, 3, (some .boolean), 0, 0, [])
theorem oX2_takeImageBack : MOV mX2_takeImageBack 1 := ⟨⟨mg (k := 2) (i := 195) rfl rfl, mg (k := 1) (i := 9) (by decide +kernel) rfl, ⟨by decide +kernel, by decide +kernel, by decide +kernel⟩, by decide +kernel, by decide, rfl⟩, mg (k := 2) (i := 193) (by decide +kernel) rfl, mg (k := 2) (i := 194) (by decide +kernel) rfl⟩
def mX11_status : MI := (yX11_status, cX11_status, 2, (some .int), 0, 0, [])
theorem oX11_status : MOV mX11_status 1 := ⟨⟨mg (k := 2) (i := 199) rfl rfl, mg (k := 1) (i := 1) (by decide +kernel) rfl, ⟨by decide +kernel, by decide +kernel, by decide +kernel⟩, by decide +kernel, by decide, rfl⟩, mg (k := 2) (i := 197) (by decide +kernel) rfl, mg (k := 2) (i := 198) (by decide +kernel) rfl⟩
def mX11_count : MI := (yX11_count, cX11_count, 2, (some .int), 0, 0, [])
theorem oX11_count : MOV mX11_count 1 := ⟨⟨mg (k := 2) (i := 203) rfl rfl, mg (k := 1) (i := 1) (by decide +kernel) rfl, ⟨by decide +kernel, by decide +kernel, by decide +kernel⟩, by decide +kernel, by decide, rfl⟩, mg (k := 2) (i := 201) (by decide +kernel) rfl, mg (k := 2) (i := 202) (by decide +kernel) rfl⟩
def mX11_town : MI := (yX11_town, cX11_town, 2, (some .int), 1, 6, [])
theorem oX11_town : MOV mX11_town 1 := ⟨⟨mg (k := 2) (i := 211) rfl rfl, mg (k := 1) (i := 1) (by decide +kernel) rfl, ⟨by decide +kernel, by decide +kernel, by decide +kernel⟩, by decide +kernel, by decide, rfl⟩, mg (k := 2) (i := 209) (by decide +kernel) rfl, mg (k := 2) (i := 210) (by decide +kernel) rfl⟩
def mX11_begin : MI := (yX11_begin, cX11_begin, 3, none, 1, 6, [])
theorem oX11_begin : MOV mX11_begin 2 := ⟨⟨mg (k := 2) (i := 215) rfl rfl, mg (k := 1) (i := 1) (by decide +kernel) rfl, ⟨by decide +kernel, by decide +kernel, by decide +kernel⟩, by decide +kernel, by decide, rfl⟩, mg (k := 2) (i := 214) (by decide +kernel) rfl, mg (k := 11) (i := 0) (by decide +kernel) rfl⟩
def mX11_needWithin : MI := (yX11_needWithin, cX11_needWithin, 4, none, 1, 6, [])
theorem oX11_needWithin : MOV mX11_needWithin 3 := ⟨⟨mg (k := 2) (i := 222) rfl rfl, mg (k := 1) (i := 1) (by decide +kernel) rfl, ⟨by decide +kernel, by decide +kernel, by decide +kernel⟩, by decide +kernel, by decide, rfl⟩, mg (k := 2) (i := 221) (by decide +kernel) rfl, mg (k := 11) (i := 1) (by decide +kernel) rfl⟩
def mX6_begin : MI := (yX6_begin, cX6_begin, 2, none, 0, 0, [])
theorem oX6_begin : MOV mX6_begin 1 := ⟨⟨mg (k := 3) (i := 53) rfl rfl, mg (k := 1) (i := 2) (by decide +kernel) rfl, ⟨by decide +kernel, by decide +kernel, by decide +kernel⟩, by decide +kernel, by decide, rfl⟩, mg (k := 3) (i := 51) (by decide +kernel) rfl, mg (k := 3) (i := 52) (by decide +kernel) rfl⟩
def mX7_readFrom : MI := (yX7_readFrom, cX7_readFrom, 4, none, 0, 0, [])
theorem oX7_readFrom : MOV mX7_readFrom 1 := ⟨⟨mg (k := 3) (i := 61) rfl rfl, mg (k := 1) (i := 3) (by decide +kernel) rfl, ⟨by decide +kernel, by decide +kernel, by decide +kernel⟩, by decide +kernel, by decide, rfl⟩, mg (k := 3) (i := 59) (by decide +kernel) rfl, mg (k := 3) (i := 60) (by decide +kernel) rfl⟩
def mX6_next : MI := (yX6_next, cX6_next, 1, (some .int), 0, 0, [])
theorem oX6_next : MOV mX6_next 0 := ⟨⟨mg (k := 3) (i := 65) rfl rfl, mg (k := 1) (i := 2) (by decide +kernel) rfl, ⟨by decide +kernel, by decide +kernel, by decide +kernel⟩, by decide +kernel, by decide, rfl⟩, mg (k := 3) (i := 63) (by decide +kernel) rfl, mg (k := 3) (i := 64) (by decide +kernel) rfl⟩
def mX6_word : MI := (yX6_word, cX6_word, 4, (some .int), 0, 0, [])
theorem oX6_word : MOV mX6_word 1 := ⟨⟨mg (k := 3) (i := 70) rfl rfl, mg (k := 1) (i := 2) (by decide +kernel) rfl, ⟨by decide +kernel, by decide +kernel, by decide +kernel⟩, by decide +kernel, by decide, rfl⟩, mg (k := 3) (i := 68) (by decide +kernel) rfl, mg (k := 3) (i := 69) (by decide +kernel) rfl⟩
def mX6_indexIn : MI := (yX6_indexIn, cX6_indexIn, 8, (some .int), 0, 0, [])
theorem oX6_indexIn : MOV mX6_indexIn 2 := ⟨⟨mg (k := 3) (i := 75) rfl rfl, mg (k := 1) (i := 2) (by decide +kernel) rfl, ⟨by decide +kernel, by decide +kernel, by decide +kernel⟩, by decide +kernel, by decide, rfl⟩, mg (k := 3) (i := 74) (by decide +kernel) rfl, mg (k := 11) (i := 3) (by decide +kernel) rfl⟩
def mX6_fail : MI := (yX6_fail, cX6_fail, 3, none, 0, 0, [])
theorem oX6_fail : MOV mX6_fail 2 := ⟨⟨mg (k := 3) (i := 127) rfl rfl, mg (k := 1) (i := 2) (by decide +kernel) rfl, ⟨by decide +kernel, by decide +kernel, by decide +kernel⟩, by decide +kernel, by decide, rfl⟩, mg (k := 3) (i := 125) (by decide +kernel) rfl, mg (k := 3) (i := 126) (by decide +kernel) rfl⟩
def mX7_isFull : MI := (yX7_isFull, cX7_isFull, 2, (some .boolean), 0, 0, [])
theorem oX7_isFull : MOV mX7_isFull 1 := ⟨⟨mg (k := 3) (i := 131) rfl rfl, mg (k := 1) (i := 3) (by decide +kernel) rfl, ⟨by decide +kernel, by decide +kernel, by decide +kernel⟩, by decide +kernel, by decide, rfl⟩, mg (k := 3) (i := 130) (by decide +kernel) rfl, mg (k := 11) (i := 4) (by decide +kernel) rfl⟩
def mX7_readClause : MI := (yX7_readClause, cX7_readClause, 3, none, 0, 0, [])
theorem oX7_readClause : MOV mX7_readClause 2 := ⟨⟨mg (k := 3) (i := 136) rfl rfl, mg (k := 1) (i := 3) (by decide +kernel) rfl, ⟨by decide +kernel, by decide +kernel, by decide +kernel⟩, by decide +kernel, by decide, rfl⟩, mg (k := 3) (i := 135) (by decide +kernel) rfl, mg (k := 11) (i := 5) (by decide +kernel) rfl⟩
def mX6_isFaulty : MI := (yX6_isFaulty, cX6_isFaulty, 1, (some .boolean), 0, 0, [])
theorem oX6_isFaulty : MOV mX6_isFaulty 0 := ⟨⟨mg (k := 3) (i := 140) rfl rfl, mg (k := 1) (i := 2) (by decide +kernel) rfl, ⟨by decide +kernel, by decide +kernel, by decide +kernel⟩, by decide +kernel, by decide, rfl⟩, mg (k := 3) (i := 138) (by decide +kernel) rfl, mg (k := 3) (i := 139) (by decide +kernel) rfl⟩
def mX7_readPlaces : MI := (yX7_readPlaces, cX7_readPlaces, 3, none, 0, 0, [])
theorem oX7_readPlaces : MOV mX7_readPlaces 1 := ⟨⟨mg (k := 3) (i := 144) rfl rfl, mg (k := 1) (i := 3) (by decide +kernel) rfl, ⟨by decide +kernel, by decide +kernel, by decide +kernel⟩, by decide +kernel, by decide, rfl⟩, mg (k := 3) (i := 143) (by decide +kernel) rfl, mg (k := 11) (i := 6) (by decide +kernel) rfl⟩
def mX6_number : MI := (yX6_number, cX6_number, 4, (some .int), 0, 0, [])
theorem oX6_number : MOV mX6_number 2 := ⟨⟨mg (k := 3) (i := 148) rfl rfl, mg (k := 1) (i := 2) (by decide +kernel) rfl, ⟨by decide +kernel, by decide +kernel, by decide +kernel⟩, by decide +kernel, by decide, rfl⟩, mg (k := 3) (i := 146) (by decide +kernel) rfl, mg (k := 3) (i := 147) (by decide +kernel) rfl⟩
def mX6_isDigit : MI := (yX6_isDigit, cX6_isDigit, 1, (some .boolean), 0, 0, [])
theorem oX6_isDigit : MOS mX6_isDigit 1 := ⟨⟨mg (k := 3) (i := 151) rfl rfl, mg (k := 1) (i := 2) (by decide +kernel) rfl, ⟨by decide +kernel, by decide +kernel, by decide +kernel⟩, by decide +kernel, by decide, rfl⟩, mg (k := 3) (i := 150) (by decide +kernel) rfl⟩
def mX7_readRoad : MI := (yX7_readRoad, cX7_readRoad, 5, none, 0, 0, [])
theorem oX7_readRoad : MOV mX7_readRoad 1 := ⟨⟨mg (k := 3) (i := 155) rfl rfl, mg (k := 1) (i := 3) (by decide +kernel) rfl, ⟨by decide +kernel, by decide +kernel, by decide +kernel⟩, by decide +kernel, by decide, rfl⟩, mg (k := 3) (i := 154) (by decide +kernel) rfl, mg (k := 11) (i := 7) (by decide +kernel) rfl⟩
def mX7_addThing : MI := (yX7_addThing, cX7_addThing, 5, none, 0, 0, [])
theorem oX7_addThing : MOV mX7_addThing 3 := ⟨⟨mg (k := 3) (i := 159) rfl rfl, mg (k := 1) (i := 3) (by decide +kernel) rfl, ⟨by decide +kernel, by decide +kernel, by decide +kernel⟩, by decide +kernel, by decide, rfl⟩, mg (k := 3) (i := 158) (by decide +kernel) rfl, mg (k := 11) (i := 8) (by decide +kernel) rfl⟩
def mX7_readFinder : MI := (yX7_readFinder, cX7_readFinder, 3, none, 0, 0, [])
theorem oX7_readFinder : MOV mX7_readFinder 1 := ⟨⟨mg (k := 3) (i := 163) rfl rfl, mg (k := 1) (i := 3) (by decide +kernel) rfl, ⟨by decide +kernel, by decide +kernel, by decide +kernel⟩, by decide +kernel, by decide, rfl⟩, mg (k := 3) (i := 162) (by decide +kernel) rfl, mg (k := 11) (i := 9) (by decide +kernel) rfl⟩
def mX6_needSign : MI := (yX6_needSign, cX6_needSign, 2, none, 0, 0, [])
theorem oX6_needSign : MOV mX6_needSign 1 := ⟨⟨mg (k := 3) (i := 167) rfl rfl, mg (k := 1) (i := 2) (by decide +kernel) rfl, ⟨by decide +kernel, by decide +kernel, by decide +kernel⟩, by decide +kernel, by decide, rfl⟩, mg (k := 3) (i := 165) (by decide +kernel) rfl, mg (k := 3) (i := 166) (by decide +kernel) rfl⟩
def mX7_take : MI := (yX7_take, cX7_take, 2, none, 0, 0, [])
theorem oX7_take : MOV mX7_take 1 := ⟨⟨mg (k := 3) (i := 172) rfl rfl, mg (k := 1) (i := 3) (by decide +kernel) rfl, ⟨by decide +kernel, by decide +kernel, by decide +kernel⟩, by decide +kernel, by decide, rfl⟩, mg (k := 3) (i := 170) (by decide +kernel) rfl, mg (k := 3) (i := 171) (by decide +kernel) rfl⟩
def mX7_measure : MI := (yX7_measure, cX7_measure, 4, none, 0, 0, [])
theorem oX7_measure : MOV mX7_measure 0 := ⟨⟨mg (k := 3) (i := 177) rfl rfl, mg (k := 1) (i := 3) (by decide +kernel) rfl, ⟨by decide +kernel, by decide +kernel, by decide +kernel⟩, by decide +kernel, by decide, rfl⟩, mg (k := 3) (i := 176) (by decide +kernel) rfl, mg (k := 11) (i := 10) (by decide +kernel) rfl⟩
def mX7_shorten : MI := (yX7_shorten, cX7_shorten, 5, none, 0, 0, [])
theorem oX7_shorten : MOV mX7_shorten 3 := ⟨⟨mg (k := 3) (i := 182) rfl rfl, mg (k := 1) (i := 3) (by decide +kernel) rfl, ⟨by decide +kernel, by decide +kernel, by decide +kernel⟩, by decide +kernel, by decide, rfl⟩, mg (k := 3) (i := 181) (by decide +kernel) rfl, mg (k := 11) (i := 11) (by decide +kernel) rfl⟩
def mX3_makePlain : MI := (yX3_makePlain, cX3_makePlain, 1, none, 0, 0, [])
theorem oX3_makePlain : MOV mX3_makePlain 0 := ⟨⟨mg (k := 3) (i := 187) rfl rfl, mg (k := 1) (i := 4) (by decide +kernel) rfl, ⟨by decide +kernel, by decide +kernel, by decide +kernel⟩, by decide +kernel, by decide, rfl⟩, mg (k := 3) (i := 185) (by decide +kernel) rfl, mg (k := 3) (i := 186) (by decide +kernel) rfl⟩
def mX0_clear : MI := (yX0_clear, cX0_clear, 1, none, 0, 0, [])
theorem oX0_clear : MOV mX0_clear 0 := ⟨⟨mg (k := 3) (i := 191) rfl rfl, mg (k := 1) (i := 5) (by decide +kernel) rfl, ⟨by decide +kernel, by decide +kernel, by decide +kernel⟩, by decide +kernel, by decide, rfl⟩, mg (k := 3) (i := 189) (by decide +kernel) rfl, mg (k := 3) (i := 190) (by decide +kernel) rfl⟩
def mX2_clear : MI := (yX2_clear, cX2_clear, 1, none, 0, 0, [])
theorem oX2_clear : MOV mX2_clear 0 := ⟨⟨mg (k := 3) (i := 195) rfl rfl, mg (k := 1) (i := 9) (by decide +kernel) rfl, ⟨by decide +kernel, by decide +kernel, by decide +kernel⟩, by decide +kernel, by decide, rfl⟩, mg (k := 3) (i := 193) (by decide +kernel) rfl, mg (k := 3) (i := 194) (by decide +kernel) rfl⟩
def mX1_begin : MI := (yX1_begin, cX1_begin, 1, none, 0, 0, [])
theorem oX1_begin : MOV mX1_begin 0 := ⟨⟨mg (k := 3) (i := 199) rfl rfl, mg (k := 1) (i := 8) (by decide +kernel) rfl, ⟨by decide +kernel, by decide +kernel, by decide +kernel⟩, by decide +kernel, by decide, rfl⟩, mg (k := 3) (i := 197) (by decide +kernel) rfl, mg (k := 3) (i := 198) (by decide +kernel) rfl⟩
def mX11_law : MI := (yX11_law, cX11_law, 2, (some .int), 1, 6, [])
theorem oX11_law : MOV mX11_law 1 := ⟨⟨mg (k := 3) (i := 208) rfl rfl, mg (k := 1) (i := 1) (by decide +kernel) rfl, ⟨by decide +kernel, by decide +kernel, by decide +kernel⟩, by decide +kernel, by decide, rfl⟩, mg (k := 3) (i := 206) (by decide +kernel) rfl, mg (k := 3) (i := 207) (by decide +kernel) rfl⟩
def mX3_readFrom : MI := (yX3_readFrom, cX3_readFrom, 2, none, 0, 0, [])
theorem oX3_readFrom : MOV mX3_readFrom 1 := ⟨⟨mg (k := 3) (i := 212) rfl rfl, mg (k := 1) (i := 4) (by decide +kernel) rfl, ⟨by decide +kernel, by decide +kernel, by decide +kernel⟩, by decide +kernel, by decide, rfl⟩, mg (k := 3) (i := 210) (by decide +kernel) rfl, mg (k := 3) (i := 211) (by decide +kernel) rfl⟩
def mX3_readSum : MI := (yX3_readSum, cX3_readSum, 5, none, 0, 0, [])
theorem oX3_readSum : MOV mX3_readSum 2 := ⟨⟨mg (k := 3) (i := 216) rfl rfl, mg (k := 1) (i := 4) (by decide +kernel) rfl, ⟨by decide +kernel, by decide +kernel, by decide +kernel⟩, by decide +kernel, by decide, rfl⟩, mg (k := 3) (i := 215) (by decide +kernel) rfl, mg (k := 11) (i := 12) (by decide +kernel) rfl⟩
def mX3_readProduct : MI := (yX3_readProduct, cX3_readProduct, 5, none, 0, 0, [])
theorem oX3_readProduct : MOV mX3_readProduct 2 := ⟨⟨mg (k := 3) (i := 220) rfl rfl, mg (k := 1) (i := 4) (by decide +kernel) rfl, ⟨by decide +kernel, by decide +kernel, by decide +kernel⟩, by decide +kernel, by decide, rfl⟩, mg (k := 3) (i := 219) (by decide +kernel) rfl, mg (k := 11) (i := 13) (by decide +kernel) rfl⟩
def mX3_readUnit : MI := (yX3_readUnit, cX3_readUnit, 5, none, 0, 0, [])
theorem oX3_readUnit : MOV mX3_readUnit 2 := ⟨⟨mg (k := 3) (i := 224) rfl rfl, mg (k := 1) (i := 4) (by decide +kernel) rfl, ⟨by decide +kernel, by decide +kernel, by decide +kernel⟩, by decide +kernel, by decide, rfl⟩, mg (k := 3) (i := 223) (by decide +kernel) rfl, mg (k := 11) (i := 14) (by decide +kernel) rfl⟩
def mX3_readBracket : MI := (yX3_readBracket, cX3_readBracket, 3, none, 0, 0, [])
theorem oX3_readBracket : MOV mX3_readBracket 2 := ⟨⟨mg (k := 3) (i := 229) rfl rfl, mg (k := 1) (i := 4) (by decide +kernel) rfl, ⟨by decide +kernel, by decide +kernel, by decide +kernel⟩, by decide +kernel, by decide, rfl⟩, mg (k := 3) (i := 228) (by decide +kernel) rfl, mg (k := 11) (i := 15) (by decide +kernel) rfl⟩
def mX3_put : MI := (yX3_put, cX3_put, 2, none, 0, 0, [])
theorem oX3_put : MOV mX3_put 1 := ⟨⟨mg (k := 3) (i := 237) rfl rfl, mg (k := 1) (i := 4) (by decide +kernel) rfl, ⟨by decide +kernel, by decide +kernel, by decide +kernel⟩, by decide +kernel, by decide, rfl⟩, mg (k := 3) (i := 236) (by decide +kernel) rfl, mg (k := 12) (i := 0) (by decide +kernel) rfl⟩
def mX3_readPair : MI := (yX3_readPair, cX3_readPair, 4, none, 0, 0, [])
theorem oX3_readPair : MOV mX3_readPair 3 := ⟨⟨mg (k := 4) (i := 3) rfl rfl, mg (k := 1) (i := 4) (by decide +kernel) rfl, ⟨by decide +kernel, by decide +kernel, by decide +kernel⟩, by decide +kernel, by decide, rfl⟩, mg (k := 4) (i := 2) (by decide +kernel) rfl, mg (k := 12) (i := 1) (by decide +kernel) rfl⟩
def mX3_take : MI := (yX3_take, cX3_take, 2, none, 0, 0, [])
theorem oX3_take : MOV mX3_take 1 := ⟨⟨mg (k := 4) (i := 7) rfl rfl, mg (k := 1) (i := 4) (by decide +kernel) rfl, ⟨by decide +kernel, by decide +kernel, by decide +kernel⟩, by decide +kernel, by decide, rfl⟩, mg (k := 4) (i := 5) (by decide +kernel) rfl, mg (k := 4) (i := 6) (by decide +kernel) rfl⟩
def mX11_work : MI := (yX11_work, cX11_work, 2, (some .int), 1, 6, [])
theorem oX11_work : MOV mX11_work 1 := ⟨⟨mg (k := 4) (i := 15) rfl rfl, mg (k := 1) (i := 1) (by decide +kernel) rfl, ⟨by decide +kernel, by decide +kernel, by decide +kernel⟩, by decide +kernel, by decide, rfl⟩, mg (k := 4) (i := 13) (by decide +kernel) rfl, mg (k := 4) (i := 14) (by decide +kernel) rfl⟩
def mX9_readFrom : MI := (yX9_readFrom, cX9_readFrom, 3, none, 0, 0, [])
theorem oX9_readFrom : MOV mX9_readFrom 1 := ⟨⟨mg (k := 4) (i := 19) rfl rfl, mg (k := 1) (i := 7) (by decide +kernel) rfl, ⟨by decide +kernel, by decide +kernel, by decide +kernel⟩, by decide +kernel, by decide, rfl⟩, mg (k := 4) (i := 17) (by decide +kernel) rfl, mg (k := 4) (i := 18) (by decide +kernel) rfl⟩
def mX9_readStep : MI := (yX9_readStep, cX9_readStep, 5, none, 0, 0, [])
theorem oX9_readStep : MOV mX9_readStep 2 := ⟨⟨mg (k := 4) (i := 24) rfl rfl, mg (k := 1) (i := 7) (by decide +kernel) rfl, ⟨by decide +kernel, by decide +kernel, by decide +kernel⟩, by decide +kernel, by decide, rfl⟩, mg (k := 4) (i := 23) (by decide +kernel) rfl, mg (k := 12) (i := 2) (by decide +kernel) rfl⟩
def mX9_readAgain : MI := (yX9_readAgain, cX9_readAgain, 5, none, 0, 0, [])
theorem oX9_readAgain : MOV mX9_readAgain 2 := ⟨⟨mg (k := 4) (i := 30) rfl rfl, mg (k := 1) (i := 7) (by decide +kernel) rfl, ⟨by decide +kernel, by decide +kernel, by decide +kernel⟩, by decide +kernel, by decide, rfl⟩, mg (k := 4) (i := 29) (by decide +kernel) rfl, mg (k := 12) (i := 3) (by decide +kernel) rfl⟩
def mX9_put : MI := (yX9_put, cX9_put, 4, none, 0, 0, [])
theorem oX9_put : MOV mX9_put 3 := ⟨⟨mg (k := 4) (i := 36) rfl rfl, mg (k := 1) (i := 7) (by decide +kernel) rfl, ⟨by decide +kernel, by decide +kernel, by decide +kernel⟩, by decide +kernel, by decide, rfl⟩, mg (k := 4) (i := 35) (by decide +kernel) rfl, mg (k := 12) (i := 4) (by decide +kernel) rfl⟩
def mX2_keepWork : MI := (yX2_keepWork, cX2_keepWork, 2, none, 0, 0, [])
theorem oX2_keepWork : MOV mX2_keepWork 1 := ⟨⟨mg (k := 4) (i := 41) rfl rfl, mg (k := 1) (i := 9) (by decide +kernel) rfl, ⟨by decide +kernel, by decide +kernel, by decide +kernel⟩, by decide +kernel, by decide, rfl⟩, mg (k := 4) (i := 39) (by decide +kernel) rfl, mg (k := 4) (i := 40) (by decide +kernel) rfl⟩
def mX9_doneBy : MI := (yX9_doneBy, cX9_doneBy, 2, none, 0, 0, [])
theorem oX9_doneBy : MOV mX9_doneBy 1 := ⟨⟨mg (k := 4) (i := 45) rfl rfl, mg (k := 1) (i := 7) (by decide +kernel) rfl, ⟨by decide +kernel, by decide +kernel, by decide +kernel⟩, by decide +kernel, by decide, rfl⟩, mg (k := 4) (i := 43) (by decide +kernel) rfl, mg (k := 4) (i := 44) (by decide +kernel) rfl⟩
def mX9_doSteps : MI := (yX9_doSteps, cX9_doSteps, 8, none, 0, 0, [])
theorem oX9_doSteps : MOV mX9_doSteps 4 := ⟨⟨mg (k := 4) (i := 49) rfl rfl, mg (k := 1) (i := 7) (by decide +kernel) rfl, ⟨by decide +kernel, by decide +kernel, by decide +kernel⟩, by decide +kernel, by decide, rfl⟩, mg (k := 4) (i := 48) (by decide +kernel) rfl, mg (k := 12) (i := 5) (by decide +kernel) rfl⟩
def mX9_isDone : MI := (yX9_isDone, cX9_isDone, 4, (some .boolean), 0, 0, [])
theorem oX9_isDone : MOS mX9_isDone 4 := ⟨⟨mg (k := 4) (i := 53) rfl rfl, mg (k := 1) (i := 7) (by decide +kernel) rfl, ⟨by decide +kernel, by decide +kernel, by decide +kernel⟩, by decide +kernel, by decide, rfl⟩, mg (k := 4) (i := 52) (by decide +kernel) rfl⟩
def mX1_walks : MI := (yX1_walks, cX1_walks, 5, (some .boolean), 0, 0, [])
theorem oX1_walks : MOV mX1_walks 2 := ⟨⟨mg (k := 4) (i := 57) rfl rfl, mg (k := 1) (i := 8) (by decide +kernel) rfl, ⟨by decide +kernel, by decide +kernel, by decide +kernel⟩, by decide +kernel, by decide, rfl⟩, mg (k := 4) (i := 55) (by decide +kernel) rfl, mg (k := 4) (i := 56) (by decide +kernel) rfl⟩
def mX7_otherEnd : MI := (yX7_otherEnd, cX7_otherEnd, 3, (some .int), 0, 0, [])
theorem oX7_otherEnd : MOV mX7_otherEnd 2 := ⟨⟨mg (k := 4) (i := 61) rfl rfl, mg (k := 1) (i := 3) (by decide +kernel) rfl, ⟨by decide +kernel, by decide +kernel, by decide +kernel⟩, by decide +kernel, by decide, rfl⟩, mg (k := 4) (i := 59) (by decide +kernel) rfl, mg (k := 4) (i := 60) (by decide +kernel) rfl⟩
def mX1_finds : MI := (yX1_finds, cX1_finds, 3, (some .boolean), 0, 0, [])
theorem oX1_finds : MOV mX1_finds 2 := ⟨⟨mg (k := 4) (i := 65) rfl rfl, mg (k := 1) (i := 8) (by decide +kernel) rfl, ⟨by decide +kernel, by decide +kernel, by decide +kernel⟩, by decide +kernel, by decide, rfl⟩, mg (k := 4) (i := 63) (by decide +kernel) rfl, mg (k := 4) (i := 64) (by decide +kernel) rfl⟩
def mX1_mayFind : MI := (yX1_mayFind, cX1_mayFind, 3, (some .boolean), 0, 0, [])
theorem oX1_mayFind : MOV mX1_mayFind 2 := ⟨⟨mg (k := 4) (i := 69) rfl rfl, mg (k := 1) (i := 8) (by decide +kernel) rfl, ⟨by decide +kernel, by decide +kernel, by decide +kernel⟩, by decide +kernel, by decide, rfl⟩, mg (k := 4) (i := 67) (by decide +kernel) rfl, mg (k := 4) (i := 68) (by decide +kernel) rfl⟩
def mX1_dutyOf : MI := (yX1_dutyOf, cX1_dutyOf, 3, (some .int), 0, 0, [])
theorem oX1_dutyOf : MOV mX1_dutyOf 2 := ⟨⟨mg (k := 4) (i := 73) rfl rfl, mg (k := 1) (i := 8) (by decide +kernel) rfl, ⟨by decide +kernel, by decide +kernel, by decide +kernel⟩, by decide +kernel, by decide, rfl⟩, mg (k := 4) (i := 71) (by decide +kernel) rfl, mg (k := 4) (i := 72) (by decide +kernel) rfl⟩
def mX1_heldBy : MI := (yX1_heldBy, cX1_heldBy, 4, (some .int), 0, 0, [])
theorem oX1_heldBy : MOV mX1_heldBy 1 := ⟨⟨mg (k := 4) (i := 77) rfl rfl, mg (k := 1) (i := 8) (by decide +kernel) rfl, ⟨by decide +kernel, by decide +kernel, by decide +kernel⟩, by decide +kernel, by decide, rfl⟩, mg (k := 4) (i := 75) (by decide +kernel) rfl, mg (k := 4) (i := 76) (by decide +kernel) rfl⟩
def mJ6_bitCount_0f7a4 : MI := (yJ6_bitCount_0f7a4, cJ6_bitCount_0f7a4, 1, (some .int), 0, 0, [])
theorem oJ6_bitCount_0f7a4 : MOS mJ6_bitCount_0f7a4 1 := ⟨⟨mg (k := 4) (i := 80) rfl rfl, mg (k := 1) (i := 24) (by decide +kernel) rfl, ⟨by decide +kernel, by decide +kernel, by decide +kernel⟩, by decide +kernel, by decide, rfl⟩, mg (k := 4) (i := 79) (by decide +kernel) rfl⟩
def mX3_comesOut : MI := (yX3_comesOut, cX3_comesOut, 4, (some .int), 0, 0, [])
theorem oX3_comesOut : MOV mX3_comesOut 0 := ⟨⟨mg (k := 4) (i := 88) rfl rfl, mg (k := 1) (i := 4) (by decide +kernel) rfl, ⟨by decide +kernel, by decide +kernel, by decide +kernel⟩, by decide +kernel, by decide, rfl⟩, mg (k := 4) (i := 86) (by decide +kernel) rfl, mg (k := 4) (i := 87) (by decide +kernel) rfl⟩
def mX3_join : MI := (yX3_join, cX3_join, 3, (some .int), 0, 0, [])
theorem oX3_join : MOS mX3_join 3 := ⟨⟨mg (k := 4) (i := 91) rfl rfl, mg (k := 1) (i := 4) (by decide +kernel) rfl, ⟨by decide +kernel, by decide +kernel, by decide +kernel⟩, by decide +kernel, by decide, rfl⟩, mg (k := 4) (i := 90) (by decide +kernel) rfl⟩
def mX1_loses : MI := (yX1_loses, cX1_loses, 3, (some .boolean), 0, 0, [])
theorem oX1_loses : MOV mX1_loses 2 := ⟨⟨mg (k := 4) (i := 97) rfl rfl, mg (k := 1) (i := 8) (by decide +kernel) rfl, ⟨by decide +kernel, by decide +kernel, by decide +kernel⟩, by decide +kernel, by decide, rfl⟩, mg (k := 4) (i := 95) (by decide +kernel) rfl, mg (k := 4) (i := 96) (by decide +kernel) rfl⟩
def mX1_drop : MI := (yX1_drop, cX1_drop, 3, none, 0, 0, [])
theorem oX1_drop : MOV mX1_drop 2 := ⟨⟨mg (k := 4) (i := 102) rfl rfl, mg (k := 1) (i := 8) (by decide +kernel) rfl, ⟨by decide +kernel, by decide +kernel, by decide +kernel⟩, by decide +kernel, by decide, rfl⟩, mg (k := 4) (i := 101) (by decide +kernel) rfl, mg (k := 12) (i := 6) (by decide +kernel) rfl⟩
def mX1_slips : MI := (yX1_slips, cX1_slips, 3, (some .boolean), 0, 0, [])
theorem oX1_slips : MOV mX1_slips 2 := ⟨⟨mg (k := 4) (i := 106) rfl rfl, mg (k := 1) (i := 8) (by decide +kernel) rfl, ⟨by decide +kernel, by decide +kernel, by decide +kernel⟩, by decide +kernel, by decide, rfl⟩, mg (k := 4) (i := 104) (by decide +kernel) rfl, mg (k := 4) (i := 105) (by decide +kernel) rfl⟩
def mX1_nightComes : MI := (yX1_nightComes, cX1_nightComes, 1, (some .boolean), 0, 0, [])
theorem oX1_nightComes : MOV mX1_nightComes 0 := ⟨⟨mg (k := 4) (i := 110) rfl rfl, mg (k := 1) (i := 8) (by decide +kernel) rfl, ⟨by decide +kernel, by decide +kernel, by decide +kernel⟩, by decide +kernel, by decide, rfl⟩, mg (k := 4) (i := 108) (by decide +kernel) rfl, mg (k := 4) (i := 109) (by decide +kernel) rfl⟩
def mX1_nightFalls : MI := (yX1_nightFalls, cX1_nightFalls, 3, none, 0, 0, [])
theorem oX1_nightFalls : MOV mX1_nightFalls 0 := ⟨⟨mg (k := 4) (i := 114) rfl rfl, mg (k := 1) (i := 8) (by decide +kernel) rfl, ⟨by decide +kernel, by decide +kernel, by decide +kernel⟩, by decide +kernel, by decide, rfl⟩, mg (k := 4) (i := 112) (by decide +kernel) rfl, mg (k := 4) (i := 113) (by decide +kernel) rfl⟩
def mX1_leastHeld : MI := (yX1_leastHeld, cX1_leastHeld, 4, (some .int), 0, 0, [])
theorem oX1_leastHeld : MOV mX1_leastHeld 1 := ⟨⟨mg (k := 4) (i := 118) rfl rfl, mg (k := 1) (i := 8) (by decide +kernel) rfl, ⟨by decide +kernel, by decide +kernel, by decide +kernel⟩, by decide +kernel, by decide, rfl⟩, mg (k := 4) (i := 117) (by decide +kernel) rfl, mg (k := 12) (i := 7) (by decide +kernel) rfl⟩
def mX11_book : MI := (yX11_book, cX11_book, 2, (some .int), 1, 6, [])
theorem oX11_book : MOV mX11_book 1 := ⟨⟨mg (k := 4) (i := 125) rfl rfl, mg (k := 1) (i := 1) (by decide +kernel) rfl, ⟨by decide +kernel, by decide +kernel, by decide +kernel⟩, by decide +kernel, by decide, rfl⟩, mg (k := 4) (i := 123) (by decide +kernel) rfl, mg (k := 4) (i := 124) (by decide +kernel) rfl⟩
def mX0_readFrom : MI := (yX0_readFrom, cX0_readFrom, 6, none, 0, 0, [])
theorem oX0_readFrom : MOV mX0_readFrom 2 := ⟨⟨mg (k := 4) (i := 129) rfl rfl, mg (k := 1) (i := 5) (by decide +kernel) rfl, ⟨by decide +kernel, by decide +kernel, by decide +kernel⟩, by decide +kernel, by decide, rfl⟩, mg (k := 4) (i := 127) (by decide +kernel) rfl, mg (k := 4) (i := 128) (by decide +kernel) rfl⟩
def mX0_take : MI := (yX0_take, cX0_take, 2, none, 0, 0, [])
theorem oX0_take : MOV mX0_take 1 := ⟨⟨mg (k := 4) (i := 139) rfl rfl, mg (k := 1) (i := 5) (by decide +kernel) rfl, ⟨by decide +kernel, by decide +kernel, by decide +kernel⟩, by decide +kernel, by decide, rfl⟩, mg (k := 4) (i := 137) (by decide +kernel) rfl, mg (k := 4) (i := 138) (by decide +kernel) rfl⟩
def mX11_told : MI := (yX11_told, cX11_told, 2, (some .int), 1, 6, [])
theorem oX11_told : MOV mX11_told 1 := ⟨⟨mg (k := 4) (i := 147) rfl rfl, mg (k := 1) (i := 1) (by decide +kernel) rfl, ⟨by decide +kernel, by decide +kernel, by decide +kernel⟩, by decide +kernel, by decide, rfl⟩, mg (k := 4) (i := 145) (by decide +kernel) rfl, mg (k := 4) (i := 146) (by decide +kernel) rfl⟩
def mX1_heldByAll : MI := (yX1_heldByAll, cX1_heldByAll, 2, (some .int), 0, 0, [])
theorem oX1_heldByAll : MOV mX1_heldByAll 0 := ⟨⟨mg (k := 4) (i := 151) rfl rfl, mg (k := 1) (i := 8) (by decide +kernel) rfl, ⟨by decide +kernel, by decide +kernel, by decide +kernel⟩, by decide +kernel, by decide, rfl⟩, mg (k := 4) (i := 149) (by decide +kernel) rfl, mg (k := 4) (i := 150) (by decide +kernel) rfl⟩
def mX1_even : MI := (yX1_even, cX1_even, 3, (some .int), 0, 0, [])
theorem oX1_even : MOV mX1_even 0 := ⟨⟨mg (k := 4) (i := 155) rfl rfl, mg (k := 1) (i := 8) (by decide +kernel) rfl, ⟨by decide +kernel, by decide +kernel, by decide +kernel⟩, by decide +kernel, by decide, rfl⟩, mg (k := 4) (i := 153) (by decide +kernel) rfl, mg (k := 4) (i := 154) (by decide +kernel) rfl⟩
def mX1_owing : MI := (yX1_owing, cX1_owing, 3, (some .int), 0, 0, [])
theorem oX1_owing : MOV mX1_owing 0 := ⟨⟨mg (k := 4) (i := 159) rfl rfl, mg (k := 1) (i := 8) (by decide +kernel) rfl, ⟨by decide +kernel, by decide +kernel, by decide +kernel⟩, by decide +kernel, by decide, rfl⟩, mg (k := 4) (i := 157) (by decide +kernel) rfl, mg (k := 4) (i := 158) (by decide +kernel) rfl⟩
def mX1_lyingWorth : MI := (yX1_lyingWorth, cX1_lyingWorth, 1, (some .int), 0, 0, [])
theorem oX1_lyingWorth : MOV mX1_lyingWorth 0 := ⟨⟨mg (k := 4) (i := 163) rfl rfl, mg (k := 1) (i := 8) (by decide +kernel) rfl, ⟨by decide +kernel, by decide +kernel, by decide +kernel⟩, by decide +kernel, by decide, rfl⟩, mg (k := 4) (i := 161) (by decide +kernel) rfl, mg (k := 4) (i := 162) (by decide +kernel) rfl⟩
def mX7_worthOf : MI := (yX7_worthOf, cX7_worthOf, 4, (some .int), 0, 0, [])
theorem oX7_worthOf : MOV mX7_worthOf 1 := ⟨⟨mg (k := 4) (i := 167) rfl rfl, mg (k := 1) (i := 3) (by decide +kernel) rfl, ⟨by decide +kernel, by decide +kernel, by decide +kernel⟩, by decide +kernel, by decide, rfl⟩, mg (k := 4) (i := 165) (by decide +kernel) rfl, mg (k := 4) (i := 166) (by decide +kernel) rfl⟩
def mX1_shames : MI := (yX1_shames, cX1_shames, 3, (some .int), 0, 0, [])
theorem oX1_shames : MOV mX1_shames 0 := ⟨⟨mg (k := 4) (i := 171) rfl rfl, mg (k := 1) (i := 8) (by decide +kernel) rfl, ⟨by decide +kernel, by decide +kernel, by decide +kernel⟩, by decide +kernel, by decide, rfl⟩, mg (k := 4) (i := 169) (by decide +kernel) rfl, mg (k := 4) (i := 170) (by decide +kernel) rfl⟩
def mX11_place : MI := (yX11_place, cX11_place, 3, (some .int), 2, 12, [])
theorem oX11_place : MOV mX11_place 2 := ⟨⟨mg (k := 4) (i := 179) rfl rfl, mg (k := 1) (i := 1) (by decide +kernel) rfl, ⟨by decide +kernel, by decide +kernel, by decide +kernel⟩, by decide +kernel, by decide, rfl⟩, mg (k := 4) (i := 177) (by decide +kernel) rfl, mg (k := 4) (i := 178) (by decide +kernel) rfl⟩
def mX11_needPlace : MI := (yX11_needPlace, cX11_needPlace, 2, none, 1, 6, [])
theorem oX11_needPlace : MOV mX11_needPlace 1 := ⟨⟨mg (k := 4) (i := 183) rfl rfl, mg (k := 1) (i := 1) (by decide +kernel) rfl, ⟨by decide +kernel, by decide +kernel, by decide +kernel⟩, by decide +kernel, by decide, rfl⟩, mg (k := 4) (i := 182) (by decide +kernel) rfl, mg (k := 12) (i := 8) (by decide +kernel) rfl⟩
def mX11_need : MI := (yX11_need, cX11_need, 3, none, 1, 6, [])
theorem oX11_need : MOV mX11_need 2 := ⟨⟨mg (k := 4) (i := 187) rfl rfl, mg (k := 1) (i := 1) (by decide +kernel) rfl, ⟨by decide +kernel, by decide +kernel, by decide +kernel⟩, by decide +kernel, by decide, rfl⟩, mg (k := 4) (i := 186) (by decide +kernel) rfl, mg (k := 12) (i := 9) (by decide +kernel) rfl⟩
def mX7_roadsAt : MI := (yX7_roadsAt, cX7_roadsAt, 4, (some .int), 0, 0, [])
theorem oX7_roadsAt : MOV mX7_roadsAt 1 := ⟨⟨mg (k := 4) (i := 208) rfl rfl, mg (k := 1) (i := 3) (by decide +kernel) rfl, ⟨by decide +kernel, by decide +kernel, by decide +kernel⟩, by decide +kernel, by decide, rfl⟩, mg (k := 4) (i := 206) (by decide +kernel) rfl, mg (k := 4) (i := 207) (by decide +kernel) rfl⟩
def mX11_road : MI := (yX11_road, cX11_road, 3, (some .int), 2, 12, [])
theorem oX11_road : MOV mX11_road 2 := ⟨⟨mg (k := 4) (i := 216) rfl rfl, mg (k := 1) (i := 1) (by decide +kernel) rfl, ⟨by decide +kernel, by decide +kernel, by decide +kernel⟩, by decide +kernel, by decide, rfl⟩, mg (k := 4) (i := 214) (by decide +kernel) rfl, mg (k := 4) (i := 215) (by decide +kernel) rfl⟩
def mX11_thing : MI := (yX11_thing, cX11_thing, 3, (some .int), 2, 12, [])
theorem oX11_thing : MOV mX11_thing 2 := ⟨⟨mg (k := 4) (i := 223) rfl rfl, mg (k := 1) (i := 1) (by decide +kernel) rfl, ⟨by decide +kernel, by decide +kernel, by decide +kernel⟩, by decide +kernel, by decide, rfl⟩, mg (k := 4) (i := 221) (by decide +kernel) rfl, mg (k := 4) (i := 222) (by decide +kernel) rfl⟩
def mX11_needThing : MI := (yX11_needThing, cX11_needThing, 2, none, 1, 6, [])
theorem oX11_needThing : MOV mX11_needThing 1 := ⟨⟨mg (k := 4) (i := 227) rfl rfl, mg (k := 1) (i := 1) (by decide +kernel) rfl, ⟨by decide +kernel, by decide +kernel, by decide +kernel⟩, by decide +kernel, by decide, rfl⟩, mg (k := 4) (i := 226) (by decide +kernel) rfl, mg (k := 12) (i := 10) (by decide +kernel) rfl⟩
def mX1_placeOf : MI := (yX1_placeOf, cX1_placeOf, 3, (some .int), 0, 0, [])
theorem oX1_placeOf : MOV mX1_placeOf 1 := ⟨⟨mg (k := 4) (i := 231) rfl rfl, mg (k := 1) (i := 8) (by decide +kernel) rfl, ⟨by decide +kernel, by decide +kernel, by decide +kernel⟩, by decide +kernel, by decide, rfl⟩, mg (k := 4) (i := 229) (by decide +kernel) rfl, mg (k := 4) (i := 230) (by decide +kernel) rfl⟩
def mX11_finder : MI := (yX11_finder, cX11_finder, 3, (some .int), 2, 12, [])
theorem oX11_finder : MOV mX11_finder 2 := ⟨⟨mg (k := 4) (i := 238) rfl rfl, mg (k := 1) (i := 1) (by decide +kernel) rfl, ⟨by decide +kernel, by decide +kernel, by decide +kernel⟩, by decide +kernel, by decide, rfl⟩, mg (k := 4) (i := 236) (by decide +kernel) rfl, mg (k := 4) (i := 237) (by decide +kernel) rfl⟩
def mX11_needFinder : MI := (yX11_needFinder, cX11_needFinder, 2, none, 1, 6, [])
theorem oX11_needFinder : MOV mX11_needFinder 1 := ⟨⟨mg (k := 5) (i := 2) rfl rfl, mg (k := 1) (i := 1) (by decide +kernel) rfl, ⟨by decide +kernel, by decide +kernel, by decide +kernel⟩, by decide +kernel, by decide, rfl⟩, mg (k := 5) (i := 1) (by decide +kernel) rfl, mg (k := 12) (i := 11) (by decide +kernel) rfl⟩
def mX11_duty : MI := (yX11_duty, cX11_duty, 3, (some .int), 2, 12, [])
theorem oX11_duty : MOV mX11_duty 2 := ⟨⟨mg (k := 5) (i := 10) rfl rfl, mg (k := 1) (i := 1) (by decide +kernel) rfl, ⟨by decide +kernel, by decide +kernel, by decide +kernel⟩, by decide +kernel, by decide, rfl⟩, mg (k := 5) (i := 8) (by decide +kernel) rfl, mg (k := 5) (i := 9) (by decide +kernel) rfl⟩
def mX11_would : MI := (yX11_would, cX11_would, 9, (some .int), 8, 48, [])
theorem oX11_would : MOV mX11_would 8 := ⟨⟨mg (k := 5) (i := 18) rfl rfl, mg (k := 1) (i := 1) (by decide +kernel) rfl, ⟨by decide +kernel, by decide +kernel, by decide +kernel⟩, by decide +kernel, by decide, rfl⟩, mg (k := 5) (i := 16) (by decide +kernel) rfl, mg (k := 5) (i := 17) (by decide +kernel) rfl⟩
def mX11_can : MI := (yX11_can, cX11_can, 3, (some .boolean), 2, 12, [])
theorem oX11_can : MOV mX11_can 2 := ⟨⟨mg (k := 5) (i := 26) rfl rfl, mg (k := 1) (i := 1) (by decide +kernel) rfl, ⟨by decide +kernel, by decide +kernel, by decide +kernel⟩, by decide +kernel, by decide, rfl⟩, mg (k := 5) (i := 24) (by decide +kernel) rfl, mg (k := 5) (i := 25) (by decide +kernel) rfl⟩
def mX11_ahead : MI := (yX11_ahead, cX11_ahead, 4, (some .int), 2, 12, [])
theorem oX11_ahead : MOV mX11_ahead 2 := ⟨⟨mg (k := 5) (i := 34) rfl rfl, mg (k := 1) (i := 1) (by decide +kernel) rfl, ⟨by decide +kernel, by decide +kernel, by decide +kernel⟩, by decide +kernel, by decide, rfl⟩, mg (k := 5) (i := 32) (by decide +kernel) rfl, mg (k := 5) (i := 33) (by decide +kernel) rfl⟩
def mX1_take : MI := (yX1_take, cX1_take, 2, none, 0, 0, [])
theorem oX1_take : MOV mX1_take 1 := ⟨⟨mg (k := 5) (i := 38) rfl rfl, mg (k := 1) (i := 8) (by decide +kernel) rfl, ⟨by decide +kernel, by decide +kernel, by decide +kernel⟩, by decide +kernel, by decide, rfl⟩, mg (k := 5) (i := 36) (by decide +kernel) rfl, mg (k := 5) (i := 37) (by decide +kernel) rfl⟩
def mX11_far : MI := (yX11_far, cX11_far, 3, (some .int), 2, 12, [])
theorem oX11_far : MOV mX11_far 2 := ⟨⟨mg (k := 5) (i := 46) rfl rfl, mg (k := 1) (i := 1) (by decide +kernel) rfl, ⟨by decide +kernel, by decide +kernel, by decide +kernel⟩, by decide +kernel, by decide, rfl⟩, mg (k := 5) (i := 44) (by decide +kernel) rfl, mg (k := 5) (i := 45) (by decide +kernel) rfl⟩
def mX7_farFrom : MI := (yX7_farFrom, cX7_farFrom, 4, (some .int), 0, 0, [])
theorem oX7_farFrom : MOV mX7_farFrom 2 := ⟨⟨mg (k := 5) (i := 50) rfl rfl, mg (k := 1) (i := 3) (by decide +kernel) rfl, ⟨by decide +kernel, by decide +kernel, by decide +kernel⟩, by decide +kernel, by decide, rfl⟩, mg (k := 5) (i := 48) (by decide +kernel) rfl, mg (k := 5) (i := 49) (by decide +kernel) rfl⟩
def mX11_round : MI := (yX11_round, cX11_round, 2, (some .int), 1, 6, [])
theorem oX11_round : MOV mX11_round 1 := ⟨⟨mg (k := 5) (i := 57) rfl rfl, mg (k := 1) (i := 1) (by decide +kernel) rfl, ⟨by decide +kernel, by decide +kernel, by decide +kernel⟩, by decide +kernel, by decide, rfl⟩, mg (k := 5) (i := 55) (by decide +kernel) rfl, mg (k := 5) (i := 56) (by decide +kernel) rfl⟩
def mX8_leastRound : MI := (yX8_leastRound, cX8_leastRound, 6, (some .int), 0, 0, [])
theorem oX8_leastRound : MOV mX8_leastRound 1 := ⟨⟨mg (k := 5) (i := 61) rfl rfl, mg (k := 1) (i := 10) (by decide +kernel) rfl, ⟨by decide +kernel, by decide +kernel, by decide +kernel⟩, by decide +kernel, by decide, rfl⟩, mg (k := 5) (i := 59) (by decide +kernel) rfl, mg (k := 5) (i := 60) (by decide +kernel) rfl⟩
def mX8_goalsFrom : MI := (yX8_goalsFrom, cX8_goalsFrom, 4, (some .int), 0, 0, [])
theorem oX8_goalsFrom : MOV mX8_goalsFrom 1 := ⟨⟨mg (k := 5) (i := 65) rfl rfl, mg (k := 1) (i := 10) (by decide +kernel) rfl, ⟨by decide +kernel, by decide +kernel, by decide +kernel⟩, by decide +kernel, by decide, rfl⟩, mg (k := 5) (i := 64) (by decide +kernel) rfl, mg (k := 12) (i := 12) (by decide +kernel) rfl⟩
def mX8_lengthen : MI := (yX8_lengthen, cX8_lengthen, 9, none, 0, 0, [])
theorem oX8_lengthen : MOV mX8_lengthen 3 := ⟨⟨mg (k := 5) (i := 72) rfl rfl, mg (k := 1) (i := 10) (by decide +kernel) rfl, ⟨by decide +kernel, by decide +kernel, by decide +kernel⟩, by decide +kernel, by decide, rfl⟩, mg (k := 5) (i := 71) (by decide +kernel) rfl, mg (k := 12) (i := 13) (by decide +kernel) rfl⟩
def mX11_meet : MI := (yX11_meet, cX11_meet, 3, (some .int), 1, 6, [])
theorem oX11_meet : MOV mX11_meet 1 := ⟨⟨mg (k := 5) (i := 81) rfl rfl, mg (k := 1) (i := 1) (by decide +kernel) rfl, ⟨by decide +kernel, by decide +kernel, by decide +kernel⟩, by decide +kernel, by decide, rfl⟩, mg (k := 5) (i := 79) (by decide +kernel) rfl, mg (k := 5) (i := 80) (by decide +kernel) rfl⟩
def mX8_meetingPlace : MI := (yX8_meetingPlace, cX8_meetingPlace, 5, (some .int), 0, 0, [])
theorem oX8_meetingPlace : MOV mX8_meetingPlace 0 := ⟨⟨mg (k := 5) (i := 85) rfl rfl, mg (k := 1) (i := 10) (by decide +kernel) rfl, ⟨by decide +kernel, by decide +kernel, by decide +kernel⟩, by decide +kernel, by decide, rfl⟩, mg (k := 5) (i := 83) (by decide +kernel) rfl, mg (k := 5) (i := 84) (by decide +kernel) rfl⟩
def mX8_walkOfAll : MI := (yX8_walkOfAll, cX8_walkOfAll, 5, (some .int), 0, 0, [])
theorem oX8_walkOfAll : MOV mX8_walkOfAll 1 := ⟨⟨mg (k := 5) (i := 89) rfl rfl, mg (k := 1) (i := 10) (by decide +kernel) rfl, ⟨by decide +kernel, by decide +kernel, by decide +kernel⟩, by decide +kernel, by decide, rfl⟩, mg (k := 5) (i := 87) (by decide +kernel) rfl, mg (k := 5) (i := 88) (by decide +kernel) rfl⟩
def mX11_reach : MI := (yX11_reach, cX11_reach, 2, (some .int), 1, 6, [])
theorem oX11_reach : MOV mX11_reach 1 := ⟨⟨mg (k := 5) (i := 97) rfl rfl, mg (k := 1) (i := 1) (by decide +kernel) rfl, ⟨by decide +kernel, by decide +kernel, by decide +kernel⟩, by decide +kernel, by decide, rfl⟩, mg (k := 5) (i := 95) (by decide +kernel) rfl, mg (k := 5) (i := 96) (by decide +kernel) rfl⟩
def mX8_inReach : MI := (yX8_inReach, cX8_inReach, 5, (some .int), 0, 0, [])
theorem oX8_inReach : MOV mX8_inReach 1 := ⟨⟨mg (k := 5) (i := 101) rfl rfl, mg (k := 1) (i := 10) (by decide +kernel) rfl, ⟨by decide +kernel, by decide +kernel, by decide +kernel⟩, by decide +kernel, by decide, rfl⟩, mg (k := 5) (i := 99) (by decide +kernel) rfl, mg (k := 5) (i := 100) (by decide +kernel) rfl⟩
def mX8_wayTo : MI := (yX8_wayTo, cX8_wayTo, 4, (some .int), 0, 0, [])
theorem oX8_wayTo : MOV mX8_wayTo 2 := ⟨⟨mg (k := 5) (i := 105) rfl rfl, mg (k := 1) (i := 10) (by decide +kernel) rfl, ⟨by decide +kernel, by decide +kernel, by decide +kernel⟩, by decide +kernel, by decide, rfl⟩, mg (k := 5) (i := 103) (by decide +kernel) rfl, mg (k := 5) (i := 104) (by decide +kernel) rfl⟩
def mX11_settle : MI := (yX11_settle, cX11_settle, 2, (some .int), 1, 6, [])
theorem oX11_settle : MOV mX11_settle 1 := ⟨⟨mg (k := 5) (i := 112) rfl rfl, mg (k := 1) (i := 1) (by decide +kernel) rfl, ⟨by decide +kernel, by decide +kernel, by decide +kernel⟩, by decide +kernel, by decide, rfl⟩, mg (k := 5) (i := 110) (by decide +kernel) rfl, mg (k := 5) (i := 111) (by decide +kernel) rfl⟩
def mX1_leastToBeEven : MI := (yX1_leastToBeEven, cX1_leastToBeEven, 9, (some .int), 0, 0, [])
theorem oX1_leastToBeEven : MOV mX1_leastToBeEven 1 := ⟨⟨mg (k := 5) (i := 116) rfl rfl, mg (k := 1) (i := 8) (by decide +kernel) rfl, ⟨by decide +kernel, by decide +kernel, by decide +kernel⟩, by decide +kernel, by decide, rfl⟩, mg (k := 5) (i := 114) (by decide +kernel) rfl, mg (k := 5) (i := 115) (by decide +kernel) rfl⟩
def mX11_parts : MI := (yX11_parts, cX11_parts, 3, (some .int), 2, 12, [])
theorem oX11_parts : MOV mX11_parts 2 := ⟨⟨mg (k := 5) (i := 124) rfl rfl, mg (k := 1) (i := 1) (by decide +kernel) rfl, ⟨by decide +kernel, by decide +kernel, by decide +kernel⟩, by decide +kernel, by decide, rfl⟩, mg (k := 5) (i := 122) (by decide +kernel) rfl, mg (k := 5) (i := 123) (by decide +kernel) rfl⟩
def mX1_setsWorth : MI := (yX1_setsWorth, cX1_setsWorth, 6, (some .int), 0, 0, [])
theorem oX1_setsWorth : MOV mX1_setsWorth 2 := ⟨⟨mg (k := 5) (i := 128) rfl rfl, mg (k := 1) (i := 8) (by decide +kernel) rfl, ⟨by decide +kernel, by decide +kernel, by decide +kernel⟩, by decide +kernel, by decide, rfl⟩, mg (k := 5) (i := 126) (by decide +kernel) rfl, mg (k := 5) (i := 127) (by decide +kernel) rfl⟩
def mX11_fits : MI := (yX11_fits, cX11_fits, 2, (some .int), 1, 6, [])
theorem oX11_fits : MOV mX11_fits 1 := ⟨⟨mg (k := 5) (i := 135) rfl rfl, mg (k := 1) (i := 1) (by decide +kernel) rfl, ⟨by decide +kernel, by decide +kernel, by decide +kernel⟩, by decide +kernel, by decide, rfl⟩, mg (k := 5) (i := 133) (by decide +kernel) rfl, mg (k := 5) (i := 134) (by decide +kernel) rfl⟩
def mX5_listPairs : MI := (yX5_listPairs, cX5_listPairs, 4, none, 0, 0, [])
theorem oX5_listPairs : MOV mX5_listPairs 0 := ⟨⟨mg (k := 5) (i := 139) rfl rfl, mg (k := 1) (i := 11) (by decide +kernel) rfl, ⟨by decide +kernel, by decide +kernel, by decide +kernel⟩, by decide +kernel, by decide, rfl⟩, mg (k := 5) (i := 137) (by decide +kernel) rfl, mg (k := 5) (i := 138) (by decide +kernel) rfl⟩
def mX5_isRight : MI := (yX5_isRight, cX5_isRight, 3, (some .boolean), 0, 0, [])
theorem oX5_isRight : MOV mX5_isRight 1 := ⟨⟨mg (k := 5) (i := 145) rfl rfl, mg (k := 1) (i := 11) (by decide +kernel) rfl, ⟨by decide +kernel, by decide +kernel, by decide +kernel⟩, by decide +kernel, by decide, rfl⟩, mg (k := 5) (i := 144) (by decide +kernel) rfl, mg (k := 12) (i := 14) (by decide +kernel) rfl⟩
def mX5_worthThen : MI := (yX5_worthThen, cX5_worthThen, 5, (some .int), 0, 0, [])
theorem oX5_worthThen : MOV mX5_worthThen 2 := ⟨⟨mg (k := 5) (i := 149) rfl rfl, mg (k := 1) (i := 11) (by decide +kernel) rfl, ⟨by decide +kernel, by decide +kernel, by decide +kernel⟩, by decide +kernel, by decide, rfl⟩, mg (k := 5) (i := 148) (by decide +kernel) rfl, mg (k := 12) (i := 15) (by decide +kernel) rfl⟩
def mX11_look : MI := (yX11_look, cX11_look, 3, (some .int), 1, 6, [])
theorem oX11_look : MOV mX11_look 1 := ⟨⟨mg (k := 5) (i := 156) rfl rfl, mg (k := 1) (i := 1) (by decide +kernel) rfl, ⟨by decide +kernel, by decide +kernel, by decide +kernel⟩, by decide +kernel, by decide, rfl⟩, mg (k := 5) (i := 154) (by decide +kernel) rfl, mg (k := 5) (i := 155) (by decide +kernel) rfl⟩
def mX5_nextPlace : MI := (yX5_nextPlace, cX5_nextPlace, 5, (some .int), 0, 0, [])
theorem oX5_nextPlace : MOV mX5_nextPlace 0 := ⟨⟨mg (k := 5) (i := 160) rfl rfl, mg (k := 1) (i := 11) (by decide +kernel) rfl, ⟨by decide +kernel, by decide +kernel, by decide +kernel⟩, by decide +kernel, by decide, rfl⟩, mg (k := 5) (i := 158) (by decide +kernel) rfl, mg (k := 5) (i := 159) (by decide +kernel) rfl⟩
def mX5_leftAtWorst : MI := (yX5_leftAtWorst, cX5_leftAtWorst, 5, (some .int), 0, 0, [])
theorem oX5_leftAtWorst : MOV mX5_leftAtWorst 1 := ⟨⟨mg (k := 5) (i := 165) rfl rfl, mg (k := 1) (i := 11) (by decide +kernel) rfl, ⟨by decide +kernel, by decide +kernel, by decide +kernel⟩, by decide +kernel, by decide, rfl⟩, mg (k := 5) (i := 163) (by decide +kernel) rfl, mg (k := 5) (i := 164) (by decide +kernel) rfl⟩
def mX11_pins : MI := (yX11_pins, cX11_pins, 5, (some .long), 4, 24, [])
theorem oX11_pins : MOV mX11_pins 4 := ⟨⟨mg (k := 5) (i := 175) rfl rfl, mg (k := 1) (i := 1) (by decide +kernel) rfl, ⟨by decide +kernel, by decide +kernel, by decide +kernel⟩, by decide +kernel, by decide, rfl⟩, mg (k := 5) (i := 173) (by decide +kernel) rfl, mg (k := 5) (i := 174) (by decide +kernel) rfl⟩
def mX4_bentPart : MI := (yX4_bentPart, cX4_bentPart, 10, (some .long), 0, 0, [])
theorem oX4_bentPart : MOS mX4_bentPart 4 := ⟨⟨mg (k := 5) (i := 178) rfl rfl, mg (k := 1) (i := 26) (by decide +kernel) rfl, ⟨by decide +kernel, by decide +kernel, by decide +kernel⟩, by decide +kernel, by decide, rfl⟩, mg (k := 5) (i := 177) (by decide +kernel) rfl⟩
def mX4_choose : MI := (yX4_choose, cX4_choose, 5, (some .long), 0, 0, [])
theorem oX4_choose : MOS mX4_choose 2 := ⟨⟨mg (k := 5) (i := 181) rfl rfl, mg (k := 1) (i := 26) (by decide +kernel) rfl, ⟨by decide +kernel, by decide +kernel, by decide +kernel⟩, by decide +kernel, by decide, rfl⟩, mg (k := 5) (i := 180) (by decide +kernel) rfl⟩
def mX4_commonPart : MI := (yX4_commonPart, cX4_commonPart, 11, (some .long), 0, 0, [])
theorem oX4_commonPart : MOS mX4_commonPart 2 := ⟨⟨mg (k := 5) (i := 184) rfl rfl, mg (k := 1) (i := 26) (by decide +kernel) rfl, ⟨by decide +kernel, by decide +kernel, by decide +kernel⟩, by decide +kernel, by decide, rfl⟩, mg (k := 5) (i := 183) (by decide +kernel) rfl⟩
def mX11_takes : MI := (yX11_takes, cX11_takes, 5, (some .int), 3, 18, [])
theorem oX11_takes : MOV mX11_takes 3 := ⟨⟨mg (k := 5) (i := 191) rfl rfl, mg (k := 1) (i := 1) (by decide +kernel) rfl, ⟨by decide +kernel, by decide +kernel, by decide +kernel⟩, by decide +kernel, by decide, rfl⟩, mg (k := 5) (i := 189) (by decide +kernel) rfl, mg (k := 5) (i := 190) (by decide +kernel) rfl⟩
def mX4_rests : MI := (yX4_rests, cX4_rests, 7, (some .int), 0, 0, [])
theorem oX4_rests : MOS mX4_rests 2 := ⟨⟨mg (k := 5) (i := 194) rfl rfl, mg (k := 1) (i := 26) (by decide +kernel) rfl, ⟨by decide +kernel, by decide +kernel, by decide +kernel⟩, by decide +kernel, by decide, rfl⟩, mg (k := 5) (i := 193) (by decide +kernel) rfl⟩
def mX4_isRest : MI := (yX4_isRest, cX4_isRest, 5, (some .boolean), 0, 0, [])
theorem oX4_isRest : MOS mX4_isRest 3 := ⟨⟨mg (k := 5) (i := 199) rfl rfl, mg (k := 1) (i := 26) (by decide +kernel) rfl, ⟨by decide +kernel, by decide +kernel, by decide +kernel⟩, by decide +kernel, by decide, rfl⟩, mg (k := 5) (i := 198) (by decide +kernel) rfl⟩
def mX4_has : MI := (yX4_has, cX4_has, 4, (some .int), 0, 0, [])
theorem oX4_has : MOS mX4_has 4 := ⟨⟨mg (k := 5) (i := 202) rfl rfl, mg (k := 1) (i := 26) (by decide +kernel) rfl, ⟨by decide +kernel, by decide +kernel, by decide +kernel⟩, by decide +kernel, by decide, rfl⟩, mg (k := 5) (i := 201) (by decide +kernel) rfl⟩
def mX4_firstRest : MI := (yX4_firstRest, cX4_firstRest, 6, (some .int), 0, 0, [])
theorem oX4_firstRest : MOS mX4_firstRest 2 := ⟨⟨mg (k := 5) (i := 205) rfl rfl, mg (k := 1) (i := 26) (by decide +kernel) rfl, ⟨by decide +kernel, by decide +kernel, by decide +kernel⟩, by decide +kernel, by decide, rfl⟩, mg (k := 5) (i := 204) (by decide +kernel) rfl⟩
def mX4_bothHave : MI := (yX4_bothHave, cX4_bothHave, 5, (some .int), 0, 0, [])
theorem oX4_bothHave : MOS mX4_bothHave 3 := ⟨⟨mg (k := 5) (i := 208) rfl rfl, mg (k := 1) (i := 26) (by decide +kernel) rfl, ⟨by decide +kernel, by decide +kernel, by decide +kernel⟩, by decide +kernel, by decide, rfl⟩, mg (k := 5) (i := 207) (by decide +kernel) rfl⟩
def mX11_sixpence : MI := (yX11_sixpence, cX11_sixpence, 4, (some .int), 3, 18, [])
theorem oX11_sixpence : MOV mX11_sixpence 3 := ⟨⟨mg (k := 5) (i := 215) rfl rfl, mg (k := 1) (i := 1) (by decide +kernel) rfl, ⟨by decide +kernel, by decide +kernel, by decide +kernel⟩, by decide +kernel, by decide, rfl⟩, mg (k := 5) (i := 213) (by decide +kernel) rfl, mg (k := 5) (i := 214) (by decide +kernel) rfl⟩
def mX1_levelled : MI := (yX1_levelled, cX1_levelled, 5, (some .int), 0, 0, [])
theorem oX1_levelled : MOV mX1_levelled 3 := ⟨⟨mg (k := 5) (i := 219) rfl rfl, mg (k := 1) (i := 8) (by decide +kernel) rfl, ⟨by decide +kernel, by decide +kernel, by decide +kernel⟩, by decide +kernel, by decide, rfl⟩, mg (k := 5) (i := 217) (by decide +kernel) rfl, mg (k := 5) (i := 218) (by decide +kernel) rfl⟩
def mX1_givenBy : MI := (yX1_givenBy, cX1_givenBy, 4, (some .int), 0, 0, [])
theorem oX1_givenBy : MOV mX1_givenBy 1 := ⟨⟨mg (k := 5) (i := 223) rfl rfl, mg (k := 1) (i := 8) (by decide +kernel) rfl, ⟨by decide +kernel, by decide +kernel, by decide +kernel⟩, by decide +kernel, by decide, rfl⟩, mg (k := 5) (i := 222) (by decide +kernel) rfl, mg (k := 13) (i := 0) (by decide +kernel) rfl⟩
def mX11_greatest : MI := (yX11_greatest, cX11_greatest, 3, (some .int), 1, 6, [])
theorem oX11_greatest : MOV mX11_greatest 1 := ⟨⟨mg (k := 5) (i := 231) rfl rfl, mg (k := 1) (i := 1) (by decide +kernel) rfl, ⟨by decide +kernel, by decide +kernel, by decide +kernel⟩, by decide +kernel, by decide, rfl⟩, mg (k := 5) (i := 229) (by decide +kernel) rfl, mg (k := 5) (i := 230) (by decide +kernel) rfl⟩
def mX1_greatestLying : MI := (yX1_greatestLying, cX1_greatestLying, 3, (some .int), 0, 0, [])
theorem oX1_greatestLying : MOV mX1_greatestLying 0 := ⟨⟨mg (k := 5) (i := 235) rfl rfl, mg (k := 1) (i := 8) (by decide +kernel) rfl, ⟨by decide +kernel, by decide +kernel, by decide +kernel⟩, by decide +kernel, by decide, rfl⟩, mg (k := 5) (i := 233) (by decide +kernel) rfl, mg (k := 5) (i := 234) (by decide +kernel) rfl⟩
def mX11_deepest : MI := (yX11_deepest, cX11_deepest, 3, (some .int), 1, 6, [])
theorem oX11_deepest : MOV mX11_deepest 1 := ⟨⟨mg (k := 6) (i := 2) rfl rfl, mg (k := 1) (i := 1) (by decide +kernel) rfl, ⟨by decide +kernel, by decide +kernel, by decide +kernel⟩, by decide +kernel, by decide, rfl⟩, mg (k := 6) (i := 0) (by decide +kernel) rfl, mg (k := 6) (i := 1) (by decide +kernel) rfl⟩
def mX1_deepestOwing : MI := (yX1_deepestOwing, cX1_deepestOwing, 3, (some .int), 0, 0, [])
theorem oX1_deepestOwing : MOV mX1_deepestOwing 0 := ⟨⟨mg (k := 6) (i := 6) rfl rfl, mg (k := 1) (i := 8) (by decide +kernel) rfl, ⟨by decide +kernel, by decide +kernel, by decide +kernel⟩, by decide +kernel, by decide, rfl⟩, mg (k := 6) (i := 4) (by decide +kernel) rfl, mg (k := 6) (i := 5) (by decide +kernel) rfl⟩
def mX11_sound : MI := (yX11_sound, cX11_sound, 5, (some .int), 1, 6, [])
theorem oX11_sound : MOV mX11_sound 1 := ⟨⟨mg (k := 6) (i := 13) rfl rfl, mg (k := 1) (i := 1) (by decide +kernel) rfl, ⟨by decide +kernel, by decide +kernel, by decide +kernel⟩, by decide +kernel, by decide, rfl⟩, mg (k := 6) (i := 11) (by decide +kernel) rfl, mg (k := 6) (i := 12) (by decide +kernel) rfl⟩
def mX11_way : MI := (yX11_way, cX11_way, 3, (some .int), 2, 12, [])
theorem oX11_way : MOV mX11_way 2 := ⟨⟨mg (k := 6) (i := 20) rfl rfl, mg (k := 1) (i := 1) (by decide +kernel) rfl, ⟨by decide +kernel, by decide +kernel, by decide +kernel⟩, by decide +kernel, by decide, rfl⟩, mg (k := 6) (i := 18) (by decide +kernel) rfl, mg (k := 6) (i := 19) (by decide +kernel) rfl⟩
def mX11_burden : MI := (yX11_burden, cX11_burden, 5, (some .int), 1, 6, [])
theorem oX11_burden : MOV mX11_burden 1 := ⟨⟨mg (k := 6) (i := 28) rfl rfl, mg (k := 1) (i := 1) (by decide +kernel) rfl, ⟨by decide +kernel, by decide +kernel, by decide +kernel⟩, by decide +kernel, by decide, rfl⟩, mg (k := 6) (i := 26) (by decide +kernel) rfl, mg (k := 6) (i := 27) (by decide +kernel) rfl⟩
def mX11_near : MI := (yX11_near, cX11_near, 4, (some .int), 2, 12, [])
theorem oX11_near : MOV mX11_near 2 := ⟨⟨mg (k := 6) (i := 36) rfl rfl, mg (k := 1) (i := 1) (by decide +kernel) rfl, ⟨by decide +kernel, by decide +kernel, by decide +kernel⟩, by decide +kernel, by decide, rfl⟩, mg (k := 6) (i := 34) (by decide +kernel) rfl, mg (k := 6) (i := 35) (by decide +kernel) rfl⟩
def mX8_nearestThing : MI := (yX8_nearestThing, cX8_nearestThing, 6, (some .int), 0, 0, [])
theorem oX8_nearestThing : MOV mX8_nearestThing 1 := ⟨⟨mg (k := 6) (i := 40) rfl rfl, mg (k := 1) (i := 10) (by decide +kernel) rfl, ⟨by decide +kernel, by decide +kernel, by decide +kernel⟩, by decide +kernel, by decide, rfl⟩, mg (k := 6) (i := 38) (by decide +kernel) rfl, mg (k := 6) (i := 39) (by decide +kernel) rfl⟩
def mX11_enough : MI := (yX11_enough, cX11_enough, 2, (some .int), 1, 6, [])
theorem oX11_enough : MOV mX11_enough 1 := ⟨⟨mg (k := 6) (i := 47) rfl rfl, mg (k := 1) (i := 1) (by decide +kernel) rfl, ⟨by decide +kernel, by decide +kernel, by decide +kernel⟩, by decide +kernel, by decide, rfl⟩, mg (k := 6) (i := 45) (by decide +kernel) rfl, mg (k := 6) (i := 46) (by decide +kernel) rfl⟩
def mX1_eachEnough : MI := (yX1_eachEnough, cX1_eachEnough, 5, (some .int), 0, 0, [])
theorem oX1_eachEnough : MOV mX1_eachEnough 1 := ⟨⟨mg (k := 6) (i := 51) rfl rfl, mg (k := 1) (i := 8) (by decide +kernel) rfl, ⟨by decide +kernel, by decide +kernel, by decide +kernel⟩, by decide +kernel, by decide, rfl⟩, mg (k := 6) (i := 49) (by decide +kernel) rfl, mg (k := 6) (i := 50) (by decide +kernel) rfl⟩
def mX11_year : MI := (yX11_year, cX11_year, 5, (some .int), 3, 18, [])
theorem oX11_year : MOV mX11_year 4 := ⟨⟨mg (k := 6) (i := 58) rfl rfl, mg (k := 1) (i := 1) (by decide +kernel) rfl, ⟨by decide +kernel, by decide +kernel, by decide +kernel⟩, by decide +kernel, by decide, rfl⟩, mg (k := 6) (i := 56) (by decide +kernel) rfl, mg (k := 6) (i := 57) (by decide +kernel) rfl⟩
def mX10_goBy : MI := (yX10_goBy, cX10_goBy, 7, none, 0, 0, [])
theorem oX10_goBy : MOV mX10_goBy 3 := ⟨⟨mg (k := 6) (i := 62) rfl rfl, mg (k := 1) (i := 12) (by decide +kernel) rfl, ⟨by decide +kernel, by decide +kernel, by decide +kernel⟩, by decide +kernel, by decide, rfl⟩, mg (k := 6) (i := 60) (by decide +kernel) rfl, mg (k := 6) (i := 61) (by decide +kernel) rfl⟩
def mX10_goOneTime : MI := (yX10_goOneTime, cX10_goOneTime, 5, none, 0, 0, [])
theorem oX10_goOneTime : MOV mX10_goOneTime 1 := ⟨⟨mg (k := 6) (i := 67) rfl rfl, mg (k := 1) (i := 12) (by decide +kernel) rfl, ⟨by decide +kernel, by decide +kernel, by decide +kernel⟩, by decide +kernel, by decide, rfl⟩, mg (k := 6) (i := 66) (by decide +kernel) rfl, mg (k := 13) (i := 1) (by decide +kernel) rfl⟩
def mX10_draw : MI := (yX10_draw, cX10_draw, 2, (some .int), 0, 0, [])
theorem oX10_draw : MOV mX10_draw 1 := ⟨⟨mg (k := 6) (i := 71) rfl rfl, mg (k := 1) (i := 12) (by decide +kernel) rfl, ⟨by decide +kernel, by decide +kernel, by decide +kernel⟩, by decide +kernel, by decide, rfl⟩, mg (k := 6) (i := 70) (by decide +kernel) rfl, mg (k := 13) (i := 2) (by decide +kernel) rfl⟩
def mX11_span : MI := (yX11_span, cX11_span, 11, (some .int), 5, 30, [])
theorem oX11_span : MOV mX11_span 6 := ⟨⟨mg (k := 6) (i := 84) rfl rfl, mg (k := 1) (i := 1) (by decide +kernel) rfl, ⟨by decide +kernel, by decide +kernel, by decide +kernel⟩, by decide +kernel, by decide, rfl⟩, mg (k := 6) (i := 82) (by decide +kernel) rfl, mg (k := 6) (i := 83) (by decide +kernel) rfl⟩
def mX12_thrown : MI := (yX12_thrown, cX12_thrown, 1, (some .int), 0, 0, [])
theorem oX12_thrown : MOV mX12_thrown 0 := ⟨⟨mg (k := 6) (i := 89) rfl rfl, mg (k := 1) (i := 13) (by decide +kernel) rfl, ⟨by decide +kernel, by decide +kernel, by decide +kernel⟩, by decide +kernel, by decide, rfl⟩, mg (k := 6) (i := 87) (by decide +kernel) rfl, mg (k := 6) (i := 88) (by decide +kernel) rfl⟩
def mX12_clears : MI := (yX12_clears, cX12_clears, 1, none, 0, 0, [])
theorem oX12_clears : MOV mX12_clears 0 := ⟨⟨mg (k := 6) (i := 99) rfl rfl, mg (k := 1) (i := 13) (by decide +kernel) rfl, ⟨by decide +kernel, by decide +kernel, by decide +kernel⟩, by decide +kernel, by decide, rfl⟩, mg (k := 6) (i := 98) (by decide +kernel) rfl, mg (k := 13) (i := 3) (by decide +kernel) rfl⟩
def mX12_sets : MI := (yX12_sets, cX12_sets, 2, none, 0, 0, [])
theorem oX12_sets : MOV mX12_sets 0 := ⟨⟨mg (k := 6) (i := 103) rfl rfl, mg (k := 1) (i := 13) (by decide +kernel) rfl, ⟨by decide +kernel, by decide +kernel, by decide +kernel⟩, by decide +kernel, by decide, rfl⟩, mg (k := 6) (i := 102) (by decide +kernel) rfl, mg (k := 13) (i := 4) (by decide +kernel) rfl⟩
def mX12_copies : MI := (yX12_copies, cX12_copies, 5, none, 0, 0, [])
theorem oX12_copies : MOV mX12_copies 3 := ⟨⟨mg (k := 6) (i := 107) rfl rfl, mg (k := 1) (i := 13) (by decide +kernel) rfl, ⟨by decide +kernel, by decide +kernel, by decide +kernel⟩, by decide +kernel, by decide, rfl⟩, mg (k := 6) (i := 106) (by decide +kernel) rfl, mg (k := 13) (i := 5) (by decide +kernel) rfl⟩
def mX12_layFar : MI := (yX12_layFar, cX12_layFar, 8, none, 0, 0, [])
theorem oX12_layFar : MOV mX12_layFar 0 := ⟨⟨mg (k := 6) (i := 111) rfl rfl, mg (k := 1) (i := 13) (by decide +kernel) rfl, ⟨by decide +kernel, by decide +kernel, by decide +kernel⟩, by decide +kernel, by decide, rfl⟩, mg (k := 6) (i := 110) (by decide +kernel) rfl, mg (k := 13) (i := 6) (by decide +kernel) rfl⟩
def mX12_feed : MI := (yX12_feed, cX12_feed, 8, (some .int), 0, 0, [])
theorem oX12_feed : MOV mX12_feed 5 := ⟨⟨mg (k := 7) (i := 32) rfl rfl, mg (k := 1) (i := 13) (by decide +kernel) rfl, ⟨by decide +kernel, by decide +kernel, by decide +kernel⟩, by decide +kernel, by decide, rfl⟩, mg (k := 7) (i := 30) (by decide +kernel) rfl, mg (k := 7) (i := 31) (by decide +kernel) rfl⟩
def mX12_fault : MI := (yX12_fault, cX12_fault, 1, (some .int), 0, 0, [])
theorem oX12_fault : MOV mX12_fault 0 := ⟨⟨mg (k := 7) (i := 36) rfl rfl, mg (k := 1) (i := 13) (by decide +kernel) rfl, ⟨by decide +kernel, by decide +kernel, by decide +kernel⟩, by decide +kernel, by decide, rfl⟩, mg (k := 7) (i := 34) (by decide +kernel) rfl, mg (k := 7) (i := 35) (by decide +kernel) rfl⟩
def mX12_town : MI := (yX12_town, cX12_town, 4, (some .int), 0, 0, [])
theorem oX12_town : MOV mX12_town 1 := ⟨⟨mg (k := 7) (i := 40) rfl rfl, mg (k := 1) (i := 13) (by decide +kernel) rfl, ⟨by decide +kernel, by decide +kernel, by decide +kernel⟩, by decide +kernel, by decide, rfl⟩, mg (k := 7) (i := 38) (by decide +kernel) rfl, mg (k := 7) (i := 39) (by decide +kernel) rfl⟩
def mX12_may : MI := (yX12_may, cX12_may, 4, (some .boolean), 0, 0, [])
theorem oX12_may : MOV mX12_may 3 := ⟨⟨mg (k := 7) (i := 44) rfl rfl, mg (k := 1) (i := 13) (by decide +kernel) rfl, ⟨by decide +kernel, by decide +kernel, by decide +kernel⟩, by decide +kernel, by decide, rfl⟩, mg (k := 7) (i := 43) (by decide +kernel) rfl, mg (k := 13) (i := 7) (by decide +kernel) rfl⟩
def mX12_begins : MI := (yX12_begins, cX12_begins, 2, none, 0, 0, [])
theorem oX12_begins : MOV mX12_begins 1 := ⟨⟨mg (k := 7) (i := 48) rfl rfl, mg (k := 1) (i := 13) (by decide +kernel) rfl, ⟨by decide +kernel, by decide +kernel, by decide +kernel⟩, by decide +kernel, by decide, rfl⟩, mg (k := 7) (i := 47) (by decide +kernel) rfl, mg (k := 13) (i := 8) (by decide +kernel) rfl⟩
def mX12_fine : MI := (yX12_fine, cX12_fine, 1, (some .boolean), 0, 0, [])
theorem oX12_fine : MOV mX12_fine 0 := ⟨⟨mg (k := 7) (i := 52) rfl rfl, mg (k := 1) (i := 13) (by decide +kernel) rfl, ⟨by decide +kernel, by decide +kernel, by decide +kernel⟩, by decide +kernel, by decide, rfl⟩, mg (k := 7) (i := 51) (by decide +kernel) rfl, mg (k := 13) (i := 9) (by decide +kernel) rfl⟩
def mX12_isMore : MI := (yX12_isMore, cX12_isMore, 1, (some .boolean), 0, 0, [])
theorem oX12_isMore : MOV mX12_isMore 0 := ⟨⟨mg (k := 7) (i := 56) rfl rfl, mg (k := 1) (i := 13) (by decide +kernel) rfl, ⟨by decide +kernel, by decide +kernel, by decide +kernel⟩, by decide +kernel, by decide, rfl⟩, mg (k := 7) (i := 55) (by decide +kernel) rfl, mg (k := 13) (i := 10) (by decide +kernel) rfl⟩
def mX12_here : MI := (yX12_here, cX12_here, 1, (some .int), 0, 0, [])
theorem oX12_here : MOV mX12_here 0 := ⟨⟨mg (k := 7) (i := 60) rfl rfl, mg (k := 1) (i := 13) (by decide +kernel) rfl, ⟨by decide +kernel, by decide +kernel, by decide +kernel⟩, by decide +kernel, by decide, rfl⟩, mg (k := 7) (i := 59) (by decide +kernel) rfl, mg (k := 13) (i := 11) (by decide +kernel) rfl⟩
def mX12_word : MI := (yX12_word, cX12_word, 4, (some .int), 0, 0, [])
theorem oX12_word : MOV mX12_word 0 := ⟨⟨mg (k := 7) (i := 64) rfl rfl, mg (k := 1) (i := 13) (by decide +kernel) rfl, ⟨by decide +kernel, by decide +kernel, by decide +kernel⟩, by decide +kernel, by decide, rfl⟩, mg (k := 7) (i := 63) (by decide +kernel) rfl, mg (k := 13) (i := 12) (by decide +kernel) rfl⟩
def mX12_isSmall : MI := (yX12_isSmall, cX12_isSmall, 1, (some .boolean), 0, 0, [])
theorem oX12_isSmall : MOS mX12_isSmall 1 := ⟨⟨mg (k := 7) (i := 67) rfl rfl, mg (k := 1) (i := 13) (by decide +kernel) rfl, ⟨by decide +kernel, by decide +kernel, by decide +kernel⟩, by decide +kernel, by decide, rfl⟩, mg (k := 7) (i := 66) (by decide +kernel) rfl⟩
def mX12_isRow : MI := (yX12_isRow, cX12_isRow, 1, (some .boolean), 0, 0, [])
theorem oX12_isRow : MOS mX12_isRow 1 := ⟨⟨mg (k := 7) (i := 70) rfl rfl, mg (k := 1) (i := 13) (by decide +kernel) rfl, ⟨by decide +kernel, by decide +kernel, by decide +kernel⟩, by decide +kernel, by decide, rfl⟩, mg (k := 7) (i := 69) (by decide +kernel) rfl⟩
def mX12_of : MI := (yX12_of, cX12_of, 3, (some .int), 0, 0, [])
theorem oX12_of : MOS mX12_of 1 := ⟨⟨mg (k := 7) (i := 74) rfl rfl, mg (k := 1) (i := 13) (by decide +kernel) rfl, ⟨by decide +kernel, by decide +kernel, by decide +kernel⟩, by decide +kernel, by decide, rfl⟩, mg (k := 7) (i := 73) (by decide +kernel) rfl⟩
def mX12_wrong : MI := (yX12_wrong, cX12_wrong, 3, none, 0, 0, [])
theorem oX12_wrong : MOV mX12_wrong 2 := ⟨⟨mg (k := 7) (i := 84) rfl rfl, mg (k := 1) (i := 13) (by decide +kernel) rfl, ⟨by decide +kernel, by decide +kernel, by decide +kernel⟩, by decide +kernel, by decide, rfl⟩, mg (k := 7) (i := 83) (by decide +kernel) rfl, mg (k := 13) (i := 13) (by decide +kernel) rfl⟩
def mX12_isFull : MI := (yX12_isFull, cX12_isFull, 2, (some .boolean), 0, 0, [])
theorem oX12_isFull : MOV mX12_isFull 1 := ⟨⟨mg (k := 7) (i := 88) rfl rfl, mg (k := 1) (i := 13) (by decide +kernel) rfl, ⟨by decide +kernel, by decide +kernel, by decide +kernel⟩, by decide +kernel, by decide, rfl⟩, mg (k := 7) (i := 87) (by decide +kernel) rfl, mg (k := 13) (i := 14) (by decide +kernel) rfl⟩
def mX12_pass : MI := (yX12_pass, cX12_pass, 1, none, 0, 0, [])
theorem oX12_pass : MOV mX12_pass 0 := ⟨⟨mg (k := 7) (i := 92) rfl rfl, mg (k := 1) (i := 13) (by decide +kernel) rfl, ⟨by decide +kernel, by decide +kernel, by decide +kernel⟩, by decide +kernel, by decide, rfl⟩, mg (k := 7) (i := 91) (by decide +kernel) rfl, mg (k := 13) (i := 15) (by decide +kernel) rfl⟩
def mX12_readRow : MI := (yX12_readRow, cX12_readRow, 4, none, 0, 0, [])
theorem oX12_readRow : MOV mX12_readRow 1 := ⟨⟨mg (k := 7) (i := 96) rfl rfl, mg (k := 1) (i := 13) (by decide +kernel) rfl, ⟨by decide +kernel, by decide +kernel, by decide +kernel⟩, by decide +kernel, by decide, rfl⟩, mg (k := 7) (i := 95) (by decide +kernel) rfl, mg (k := 14) (i := 0) (by decide +kernel) rfl⟩
def mX12_readPlaces : MI := (yX12_readPlaces, cX12_readPlaces, 3, none, 0, 0, [])
theorem oX12_readPlaces : MOV mX12_readPlaces 0 := ⟨⟨mg (k := 7) (i := 100) rfl rfl, mg (k := 1) (i := 13) (by decide +kernel) rfl, ⟨by decide +kernel, by decide +kernel, by decide +kernel⟩, by decide +kernel, by decide, rfl⟩, mg (k := 7) (i := 99) (by decide +kernel) rfl, mg (k := 14) (i := 1) (by decide +kernel) rfl⟩
def mX12_readNumber : MI := (yX12_readNumber, cX12_readNumber, 6, (some .int), 0, 0, [])
theorem oX12_readNumber : MOV mX12_readNumber 2 := ⟨⟨mg (k := 7) (i := 104) rfl rfl, mg (k := 1) (i := 13) (by decide +kernel) rfl, ⟨by decide +kernel, by decide +kernel, by decide +kernel⟩, by decide +kernel, by decide, rfl⟩, mg (k := 7) (i := 103) (by decide +kernel) rfl, mg (k := 14) (i := 2) (by decide +kernel) rfl⟩
def mX12_isDigit : MI := (yX12_isDigit, cX12_isDigit, 1, (some .boolean), 0, 0, [])
theorem oX12_isDigit : MOS mX12_isDigit 1 := ⟨⟨mg (k := 7) (i := 107) rfl rfl, mg (k := 1) (i := 13) (by decide +kernel) rfl, ⟨by decide +kernel, by decide +kernel, by decide +kernel⟩, by decide +kernel, by decide, rfl⟩, mg (k := 7) (i := 106) (by decide +kernel) rfl⟩
def mX12_readRoad : MI := (yX12_readRoad, cX12_readRoad, 4, none, 0, 0, [])
theorem oX12_readRoad : MOV mX12_readRoad 0 := ⟨⟨mg (k := 7) (i := 111) rfl rfl, mg (k := 1) (i := 13) (by decide +kernel) rfl, ⟨by decide +kernel, by decide +kernel, by decide +kernel⟩, by decide +kernel, by decide, rfl⟩, mg (k := 7) (i := 110) (by decide +kernel) rfl, mg (k := 14) (i := 3) (by decide +kernel) rfl⟩
def mX12_readPlace : MI := (yX12_readPlace, cX12_readPlace, 1, (some .int), 0, 0, [])
theorem oX12_readPlace : MOV mX12_readPlace 0 := ⟨⟨mg (k := 7) (i := 115) rfl rfl, mg (k := 1) (i := 13) (by decide +kernel) rfl, ⟨by decide +kernel, by decide +kernel, by decide +kernel⟩, by decide +kernel, by decide, rfl⟩, mg (k := 7) (i := 114) (by decide +kernel) rfl, mg (k := 14) (i := 4) (by decide +kernel) rfl⟩
def mX12_sign : MI := (yX12_sign, cX12_sign, 2, none, 0, 0, [])
theorem oX12_sign : MOV mX12_sign 1 := ⟨⟨mg (k := 7) (i := 119) rfl rfl, mg (k := 1) (i := 13) (by decide +kernel) rfl, ⟨by decide +kernel, by decide +kernel, by decide +kernel⟩, by decide +kernel, by decide, rfl⟩, mg (k := 7) (i := 118) (by decide +kernel) rfl, mg (k := 14) (i := 5) (by decide +kernel) rfl⟩
def mX12_result : MI := (yX12_result, cX12_result, 2, (some .int), 0, 0, [])
theorem oX12_result : MOV mX12_result 1 := ⟨⟨mg (k := 7) (i := 123) rfl rfl, mg (k := 1) (i := 13) (by decide +kernel) rfl, ⟨by decide +kernel, by decide +kernel, by decide +kernel⟩, by decide +kernel, by decide, rfl⟩, mg (k := 7) (i := 122) (by decide +kernel) rfl, mg (k := 14) (i := 6) (by decide +kernel) rfl⟩
def mX12_law : MI := (yX12_law, cX12_law, 3, (some .int), 0, 0, [])
theorem oX12_law : MOV mX12_law 1 := ⟨⟨mg (k := 7) (i := 127) rfl rfl, mg (k := 1) (i := 13) (by decide +kernel) rfl, ⟨by decide +kernel, by decide +kernel, by decide +kernel⟩, by decide +kernel, by decide, rfl⟩, mg (k := 7) (i := 125) (by decide +kernel) rfl, mg (k := 7) (i := 126) (by decide +kernel) rfl⟩
def mX12_readSum : MI := (yX12_readSum, cX12_readSum, 2, none, 0, 0, [])
theorem oX12_readSum : MOV mX12_readSum 0 := ⟨⟨mg (k := 7) (i := 131) rfl rfl, mg (k := 1) (i := 13) (by decide +kernel) rfl, ⟨by decide +kernel, by decide +kernel, by decide +kernel⟩, by decide +kernel, by decide, rfl⟩, mg (k := 7) (i := 130) (by decide +kernel) rfl, mg (k := 14) (i := 7) (by decide +kernel) rfl⟩
def mX12_readProduct : MI := (yX12_readProduct, cX12_readProduct, 2, none, 0, 0, [])
theorem oX12_readProduct : MOV mX12_readProduct 0 := ⟨⟨mg (k := 7) (i := 135) rfl rfl, mg (k := 1) (i := 13) (by decide +kernel) rfl, ⟨by decide +kernel, by decide +kernel, by decide +kernel⟩, by decide +kernel, by decide, rfl⟩, mg (k := 7) (i := 134) (by decide +kernel) rfl, mg (k := 14) (i := 8) (by decide +kernel) rfl⟩
def mX12_readUnit : MI := (yX12_readUnit, cX12_readUnit, 2, none, 0, 0, [])
theorem oX12_readUnit : MOV mX12_readUnit 0 := ⟨⟨mg (k := 7) (i := 139) rfl rfl, mg (k := 1) (i := 13) (by decide +kernel) rfl, ⟨by decide +kernel, by decide +kernel, by decide +kernel⟩, by decide +kernel, by decide, rfl⟩, mg (k := 7) (i := 138) (by decide +kernel) rfl, mg (k := 14) (i := 9) (by decide +kernel) rfl⟩
def mX12_opensOne : MI := (yX12_opensOne, cX12_opensOne, 2, none, 0, 0, [])
theorem oX12_opensOne : MOV mX12_opensOne 1 := ⟨⟨mg (k := 7) (i := 143) rfl rfl, mg (k := 1) (i := 13) (by decide +kernel) rfl, ⟨by decide +kernel, by decide +kernel, by decide +kernel⟩, by decide +kernel, by decide, rfl⟩, mg (k := 7) (i := 142) (by decide +kernel) rfl, mg (k := 14) (i := 10) (by decide +kernel) rfl⟩
def mX12_emit : MI := (yX12_emit, cX12_emit, 3, none, 0, 0, [])
theorem oX12_emit : MOV mX12_emit 2 := ⟨⟨mg (k := 7) (i := 147) rfl rfl, mg (k := 1) (i := 13) (by decide +kernel) rfl, ⟨by decide +kernel, by decide +kernel, by decide +kernel⟩, by decide +kernel, by decide, rfl⟩, mg (k := 7) (i := 146) (by decide +kernel) rfl, mg (k := 14) (i := 11) (by decide +kernel) rfl⟩
def mX12_readTwo : MI := (yX12_readTwo, cX12_readTwo, 3, none, 0, 0, [])
theorem oX12_readTwo : MOV mX12_readTwo 2 := ⟨⟨mg (k := 7) (i := 152) rfl rfl, mg (k := 1) (i := 13) (by decide +kernel) rfl, ⟨by decide +kernel, by decide +kernel, by decide +kernel⟩, by decide +kernel, by decide, rfl⟩, mg (k := 7) (i := 151) (by decide +kernel) rfl, mg (k := 14) (i := 12) (by decide +kernel) rfl⟩
def mX12_factHere : MI := (yX12_factHere, cX12_factHere, 2, (some .int), 0, 0, [])
theorem oX12_factHere : MOV mX12_factHere 0 := ⟨⟨mg (k := 7) (i := 157) rfl rfl, mg (k := 1) (i := 13) (by decide +kernel) rfl, ⟨by decide +kernel, by decide +kernel, by decide +kernel⟩, by decide +kernel, by decide, rfl⟩, mg (k := 7) (i := 156) (by decide +kernel) rfl, mg (k := 14) (i := 13) (by decide +kernel) rfl⟩
def mX12_work : MI := (yX12_work, cX12_work, 4, (some .int), 0, 0, [])
theorem oX12_work : MOV mX12_work 1 := ⟨⟨mg (k := 7) (i := 168) rfl rfl, mg (k := 1) (i := 13) (by decide +kernel) rfl, ⟨by decide +kernel, by decide +kernel, by decide +kernel⟩, by decide +kernel, by decide, rfl⟩, mg (k := 7) (i := 166) (by decide +kernel) rfl, mg (k := 7) (i := 167) (by decide +kernel) rfl⟩
def mX12_readStep : MI := (yX12_readStep, cX12_readStep, 4, none, 0, 0, [])
theorem oX12_readStep : MOV mX12_readStep 0 := ⟨⟨mg (k := 7) (i := 172) rfl rfl, mg (k := 1) (i := 13) (by decide +kernel) rfl, ⟨by decide +kernel, by decide +kernel, by decide +kernel⟩, by decide +kernel, by decide, rfl⟩, mg (k := 7) (i := 171) (by decide +kernel) rfl, mg (k := 14) (i := 14) (by decide +kernel) rfl⟩
def mX12_stepOf : MI := (yX12_stepOf, cX12_stepOf, 1, (some .int), 0, 0, [])
theorem oX12_stepOf : MOS mX12_stepOf 1 := ⟨⟨mg (k := 7) (i := 175) rfl rfl, mg (k := 1) (i := 13) (by decide +kernel) rfl, ⟨by decide +kernel, by decide +kernel, by decide +kernel⟩, by decide +kernel, by decide, rfl⟩, mg (k := 7) (i := 174) (by decide +kernel) rfl⟩
def mX12_tellsStep : MI := (yX12_tellsStep, cX12_tellsStep, 4, none, 0, 0, [])
theorem oX12_tellsStep : MOV mX12_tellsStep 3 := ⟨⟨mg (k := 7) (i := 185) rfl rfl, mg (k := 1) (i := 13) (by decide +kernel) rfl, ⟨by decide +kernel, by decide +kernel, by decide +kernel⟩, by decide +kernel, by decide, rfl⟩, mg (k := 7) (i := 184) (by decide +kernel) rfl, mg (k := 14) (i := 15) (by decide +kernel) rfl⟩
def mX12_take : MI := (yX12_take, cX12_take, 1, none, 0, 0, [])
theorem oX12_take : MOV mX12_take 0 := ⟨⟨mg (k := 7) (i := 189) rfl rfl, mg (k := 1) (i := 13) (by decide +kernel) rfl, ⟨by decide +kernel, by decide +kernel, by decide +kernel⟩, by decide +kernel, by decide, rfl⟩, mg (k := 7) (i := 188) (by decide +kernel) rfl, mg (k := 15) (i := 0) (by decide +kernel) rfl⟩
def mX12_goesSteps : MI := (yX12_goesSteps, cX12_goesSteps, 6, none, 0, 0, [])
theorem oX12_goesSteps : MOV mX12_goesSteps 2 := ⟨⟨mg (k := 7) (i := 193) rfl rfl, mg (k := 1) (i := 13) (by decide +kernel) rfl, ⟨by decide +kernel, by decide +kernel, by decide +kernel⟩, by decide +kernel, by decide, rfl⟩, mg (k := 7) (i := 192) (by decide +kernel) rfl, mg (k := 15) (i := 1) (by decide +kernel) rfl⟩
def mX12_isDone : MI := (yX12_isDone, cX12_isDone, 4, (some .boolean), 0, 0, [])
theorem oX12_isDone : MOV mX12_isDone 3 := ⟨⟨mg (k := 7) (i := 197) rfl rfl, mg (k := 1) (i := 13) (by decide +kernel) rfl, ⟨by decide +kernel, by decide +kernel, by decide +kernel⟩, by decide +kernel, by decide, rfl⟩, mg (k := 7) (i := 196) (by decide +kernel) rfl, mg (k := 15) (i := 2) (by decide +kernel) rfl⟩
def mX12_walks : MI := (yX12_walks, cX12_walks, 7, (some .boolean), 0, 0, [])
theorem oX12_walks : MOV mX12_walks 2 := ⟨⟨mg (k := 7) (i := 201) rfl rfl, mg (k := 1) (i := 13) (by decide +kernel) rfl, ⟨by decide +kernel, by decide +kernel, by decide +kernel⟩, by decide +kernel, by decide, rfl⟩, mg (k := 7) (i := 200) (by decide +kernel) rfl, mg (k := 15) (i := 3) (by decide +kernel) rfl⟩
def mX12_finds : MI := (yX12_finds, cX12_finds, 4, (some .boolean), 0, 0, [])
theorem oX12_finds : MOV mX12_finds 2 := ⟨⟨mg (k := 7) (i := 205) rfl rfl, mg (k := 1) (i := 13) (by decide +kernel) rfl, ⟨by decide +kernel, by decide +kernel, by decide +kernel⟩, by decide +kernel, by decide, rfl⟩, mg (k := 7) (i := 204) (by decide +kernel) rfl, mg (k := 15) (i := 4) (by decide +kernel) rfl⟩
def mX12_canFind : MI := (yX12_canFind, cX12_canFind, 3, (some .boolean), 0, 0, [])
theorem oX12_canFind : MOV mX12_canFind 2 := ⟨⟨mg (k := 7) (i := 209) rfl rfl, mg (k := 1) (i := 13) (by decide +kernel) rfl, ⟨by decide +kernel, by decide +kernel, by decide +kernel⟩, by decide +kernel, by decide, rfl⟩, mg (k := 7) (i := 208) (by decide +kernel) rfl, mg (k := 15) (i := 5) (by decide +kernel) rfl⟩
def mX12_dutyBy : MI := (yX12_dutyBy, cX12_dutyBy, 3, (some .int), 0, 0, [])
theorem oX12_dutyBy : MOV mX12_dutyBy 2 := ⟨⟨mg (k := 7) (i := 213) rfl rfl, mg (k := 1) (i := 13) (by decide +kernel) rfl, ⟨by decide +kernel, by decide +kernel, by decide +kernel⟩, by decide +kernel, by decide, rfl⟩, mg (k := 7) (i := 212) (by decide +kernel) rfl, mg (k := 15) (i := 6) (by decide +kernel) rfl⟩
def mX12_heldBy : MI := (yX12_heldBy, cX12_heldBy, 4, (some .int), 0, 0, [])
theorem oX12_heldBy : MOV mX12_heldBy 1 := ⟨⟨mg (k := 7) (i := 217) rfl rfl, mg (k := 1) (i := 13) (by decide +kernel) rfl, ⟨by decide +kernel, by decide +kernel, by decide +kernel⟩, by decide +kernel, by decide, rfl⟩, mg (k := 7) (i := 216) (by decide +kernel) rfl, mg (k := 15) (i := 7) (by decide +kernel) rfl⟩
def mX12_ones : MI := (yX12_ones, cX12_ones, 3, (some .int), 0, 0, [])
theorem oX12_ones : MOS mX12_ones 1 := ⟨⟨mg (k := 7) (i := 220) rfl rfl, mg (k := 1) (i := 13) (by decide +kernel) rfl, ⟨by decide +kernel, by decide +kernel, by decide +kernel⟩, by decide +kernel, by decide, rfl⟩, mg (k := 7) (i := 219) (by decide +kernel) rfl⟩
def mX12_lyingAt : MI := (yX12_lyingAt, cX12_lyingAt, 4, (some .int), 0, 0, [])
theorem oX12_lyingAt : MOV mX12_lyingAt 1 := ⟨⟨mg (k := 7) (i := 224) rfl rfl, mg (k := 1) (i := 13) (by decide +kernel) rfl, ⟨by decide +kernel, by decide +kernel, by decide +kernel⟩, by decide +kernel, by decide, rfl⟩, mg (k := 7) (i := 223) (by decide +kernel) rfl, mg (k := 15) (i := 8) (by decide +kernel) rfl⟩
def mX12_dutyOf : MI := (yX12_dutyOf, cX12_dutyOf, 9, (some .int), 0, 0, [])
theorem oX12_dutyOf : MOV mX12_dutyOf 8 := ⟨⟨mg (k := 7) (i := 228) rfl rfl, mg (k := 1) (i := 13) (by decide +kernel) rfl, ⟨by decide +kernel, by decide +kernel, by decide +kernel⟩, by decide +kernel, by decide, rfl⟩, mg (k := 7) (i := 227) (by decide +kernel) rfl, mg (k := 15) (i := 9) (by decide +kernel) rfl⟩
def mX12_dutyNow : MI := (yX12_dutyNow, cX12_dutyNow, 2, (some .int), 0, 0, [])
theorem oX12_dutyNow : MOV mX12_dutyNow 0 := ⟨⟨mg (k := 7) (i := 232) rfl rfl, mg (k := 1) (i := 13) (by decide +kernel) rfl, ⟨by decide +kernel, by decide +kernel, by decide +kernel⟩, by decide +kernel, by decide, rfl⟩, mg (k := 7) (i := 231) (by decide +kernel) rfl, mg (k := 15) (i := 10) (by decide +kernel) rfl⟩
def mX12_valueNow : MI := (yX12_valueNow, cX12_valueNow, 4, (some .int), 0, 0, [])
theorem oX12_valueNow : MOV mX12_valueNow 0 := ⟨⟨mg (k := 7) (i := 236) rfl rfl, mg (k := 1) (i := 13) (by decide +kernel) rfl, ⟨by decide +kernel, by decide +kernel, by decide +kernel⟩, by decide +kernel, by decide, rfl⟩, mg (k := 7) (i := 235) (by decide +kernel) rfl, mg (k := 15) (i := 11) (by decide +kernel) rfl⟩
def mX12_both : MI := (yX12_both, cX12_both, 3, (some .int), 0, 0, [])
theorem oX12_both : MOS mX12_both 3 := ⟨⟨mg (k := 7) (i := 239) rfl rfl, mg (k := 1) (i := 13) (by decide +kernel) rfl, ⟨by decide +kernel, by decide +kernel, by decide +kernel⟩, by decide +kernel, by decide, rfl⟩, mg (k := 7) (i := 238) (by decide +kernel) rfl⟩
def mX12_loses : MI := (yX12_loses, cX12_loses, 3, (some .boolean), 0, 0, [])
theorem oX12_loses : MOV mX12_loses 2 := ⟨⟨mg (k := 8) (i := 3) rfl rfl, mg (k := 1) (i := 13) (by decide +kernel) rfl, ⟨by decide +kernel, by decide +kernel, by decide +kernel⟩, by decide +kernel, by decide, rfl⟩, mg (k := 8) (i := 2) (by decide +kernel) rfl, mg (k := 15) (i := 12) (by decide +kernel) rfl⟩
def mX12_letsLie : MI := (yX12_letsLie, cX12_letsLie, 4, (some .boolean), 0, 0, [])
theorem oX12_letsLie : MOV mX12_letsLie 3 := ⟨⟨mg (k := 8) (i := 7) rfl rfl, mg (k := 1) (i := 13) (by decide +kernel) rfl, ⟨by decide +kernel, by decide +kernel, by decide +kernel⟩, by decide +kernel, by decide, rfl⟩, mg (k := 8) (i := 6) (by decide +kernel) rfl, mg (k := 15) (i := 13) (by decide +kernel) rfl⟩
def mX12_passes : MI := (yX12_passes, cX12_passes, 4, none, 0, 0, [])
theorem oX12_passes : MOV mX12_passes 0 := ⟨⟨mg (k := 8) (i := 11) rfl rfl, mg (k := 1) (i := 13) (by decide +kernel) rfl, ⟨by decide +kernel, by decide +kernel, by decide +kernel⟩, by decide +kernel, by decide, rfl⟩, mg (k := 8) (i := 10) (by decide +kernel) rfl, mg (k := 15) (i := 14) (by decide +kernel) rfl⟩
def mX12_book : MI := (yX12_book, cX12_book, 6, (some .int), 0, 0, [])
theorem oX12_book : MOV mX12_book 1 := ⟨⟨mg (k := 8) (i := 15) rfl rfl, mg (k := 1) (i := 13) (by decide +kernel) rfl, ⟨by decide +kernel, by decide +kernel, by decide +kernel⟩, by decide +kernel, by decide, rfl⟩, mg (k := 8) (i := 13) (by decide +kernel) rfl, mg (k := 8) (i := 14) (by decide +kernel) rfl⟩
def mX12_undo : MI := (yX12_undo, cX12_undo, 2, (some .int), 0, 0, [])
theorem oX12_undo : MOV mX12_undo 0 := ⟨⟨mg (k := 8) (i := 19) rfl rfl, mg (k := 1) (i := 13) (by decide +kernel) rfl, ⟨by decide +kernel, by decide +kernel, by decide +kernel⟩, by decide +kernel, by decide, rfl⟩, mg (k := 8) (i := 17) (by decide +kernel) rfl, mg (k := 8) (i := 18) (by decide +kernel) rfl⟩
def mX12_told : MI := (yX12_told, cX12_told, 2, (some .int), 0, 0, [])
theorem oX12_told : MOV mX12_told 1 := ⟨⟨mg (k := 8) (i := 23) rfl rfl, mg (k := 1) (i := 13) (by decide +kernel) rfl, ⟨by decide +kernel, by decide +kernel, by decide +kernel⟩, by decide +kernel, by decide, rfl⟩, mg (k := 8) (i := 21) (by decide +kernel) rfl, mg (k := 8) (i := 22) (by decide +kernel) rfl⟩
def mX12_within : MI := (yX12_within, cX12_within, 3, (some .boolean), 0, 0, [])
theorem oX12_within : MOS mX12_within 3 := ⟨⟨mg (k := 8) (i := 26) rfl rfl, mg (k := 1) (i := 13) (by decide +kernel) rfl, ⟨by decide +kernel, by decide +kernel, by decide +kernel⟩, by decide +kernel, by decide, rfl⟩, mg (k := 8) (i := 25) (by decide +kernel) rfl⟩
def mX12_allHeld : MI := (yX12_allHeld, cX12_allHeld, 1, (some .int), 0, 0, [])
theorem oX12_allHeld : MOV mX12_allHeld 0 := ⟨⟨mg (k := 8) (i := 30) rfl rfl, mg (k := 1) (i := 13) (by decide +kernel) rfl, ⟨by decide +kernel, by decide +kernel, by decide +kernel⟩, by decide +kernel, by decide, rfl⟩, mg (k := 8) (i := 29) (by decide +kernel) rfl, mg (k := 15) (i := 15) (by decide +kernel) rfl⟩
def mX12_allLying : MI := (yX12_allLying, cX12_allLying, 3, (some .int), 0, 0, [])
theorem oX12_allLying : MOV mX12_allLying 0 := ⟨⟨mg (k := 8) (i := 34) rfl rfl, mg (k := 1) (i := 13) (by decide +kernel) rfl, ⟨by decide +kernel, by decide +kernel, by decide +kernel⟩, by decide +kernel, by decide, rfl⟩, mg (k := 8) (i := 33) (by decide +kernel) rfl, mg (k := 16) (i := 0) (by decide +kernel) rfl⟩
def mX12_owing : MI := (yX12_owing, cX12_owing, 4, (some .int), 0, 0, [])
theorem oX12_owing : MOV mX12_owing 1 := ⟨⟨mg (k := 8) (i := 38) rfl rfl, mg (k := 1) (i := 13) (by decide +kernel) rfl, ⟨by decide +kernel, by decide +kernel, by decide +kernel⟩, by decide +kernel, by decide, rfl⟩, mg (k := 8) (i := 37) (by decide +kernel) rfl, mg (k := 16) (i := 1) (by decide +kernel) rfl⟩
def mX12_worthOf : MI := (yX12_worthOf, cX12_worthOf, 4, (some .int), 0, 0, [])
theorem oX12_worthOf : MOV mX12_worthOf 1 := ⟨⟨mg (k := 8) (i := 42) rfl rfl, mg (k := 1) (i := 13) (by decide +kernel) rfl, ⟨by decide +kernel, by decide +kernel, by decide +kernel⟩, by decide +kernel, by decide, rfl⟩, mg (k := 8) (i := 41) (by decide +kernel) rfl, mg (k := 16) (i := 2) (by decide +kernel) rfl⟩
def mX12_sumOf : MI := (yX12_sumOf, cX12_sumOf, 4, (some .int), 0, 0, [])
theorem oX12_sumOf : MOV mX12_sumOf 1 := ⟨⟨mg (k := 8) (i := 46) rfl rfl, mg (k := 1) (i := 13) (by decide +kernel) rfl, ⟨by decide +kernel, by decide +kernel, by decide +kernel⟩, by decide +kernel, by decide, rfl⟩, mg (k := 8) (i := 45) (by decide +kernel) rfl, mg (k := 16) (i := 3) (by decide +kernel) rfl⟩
def mX12_place : MI := (yX12_place, cX12_place, 6, (some .int), 0, 0, [])
theorem oX12_place : MOV mX12_place 2 := ⟨⟨mg (k := 8) (i := 50) rfl rfl, mg (k := 1) (i := 13) (by decide +kernel) rfl, ⟨by decide +kernel, by decide +kernel, by decide +kernel⟩, by decide +kernel, by decide, rfl⟩, mg (k := 8) (i := 48) (by decide +kernel) rfl, mg (k := 8) (i := 49) (by decide +kernel) rfl⟩
def mX12_isPlace : MI := (yX12_isPlace, cX12_isPlace, 3, (some .boolean), 0, 0, [])
theorem oX12_isPlace : MOV mX12_isPlace 2 := ⟨⟨mg (k := 8) (i := 54) rfl rfl, mg (k := 1) (i := 13) (by decide +kernel) rfl, ⟨by decide +kernel, by decide +kernel, by decide +kernel⟩, by decide +kernel, by decide, rfl⟩, mg (k := 8) (i := 53) (by decide +kernel) rfl, mg (k := 16) (i := 4) (by decide +kernel) rfl⟩
def mX12_road : MI := (yX12_road, cX12_road, 3, (some .int), 0, 0, [])
theorem oX12_road : MOV mX12_road 2 := ⟨⟨mg (k := 8) (i := 58) rfl rfl, mg (k := 1) (i := 13) (by decide +kernel) rfl, ⟨by decide +kernel, by decide +kernel, by decide +kernel⟩, by decide +kernel, by decide, rfl⟩, mg (k := 8) (i := 56) (by decide +kernel) rfl, mg (k := 8) (i := 57) (by decide +kernel) rfl⟩
def mX12_thing : MI := (yX12_thing, cX12_thing, 3, (some .int), 0, 0, [])
theorem oX12_thing : MOV mX12_thing 2 := ⟨⟨mg (k := 8) (i := 62) rfl rfl, mg (k := 1) (i := 13) (by decide +kernel) rfl, ⟨by decide +kernel, by decide +kernel, by decide +kernel⟩, by decide +kernel, by decide, rfl⟩, mg (k := 8) (i := 60) (by decide +kernel) rfl, mg (k := 8) (i := 61) (by decide +kernel) rfl⟩
def mX12_isThing : MI := (yX12_isThing, cX12_isThing, 3, (some .boolean), 0, 0, [])
theorem oX12_isThing : MOV mX12_isThing 2 := ⟨⟨mg (k := 8) (i := 66) rfl rfl, mg (k := 1) (i := 13) (by decide +kernel) rfl, ⟨by decide +kernel, by decide +kernel, by decide +kernel⟩, by decide +kernel, by decide, rfl⟩, mg (k := 8) (i := 65) (by decide +kernel) rfl, mg (k := 16) (i := 5) (by decide +kernel) rfl⟩
def mX12_finder : MI := (yX12_finder, cX12_finder, 3, (some .int), 0, 0, [])
theorem oX12_finder : MOV mX12_finder 2 := ⟨⟨mg (k := 8) (i := 70) rfl rfl, mg (k := 1) (i := 13) (by decide +kernel) rfl, ⟨by decide +kernel, by decide +kernel, by decide +kernel⟩, by decide +kernel, by decide, rfl⟩, mg (k := 8) (i := 68) (by decide +kernel) rfl, mg (k := 8) (i := 69) (by decide +kernel) rfl⟩
def mX12_isFinder : MI := (yX12_isFinder, cX12_isFinder, 3, (some .boolean), 0, 0, [])
theorem oX12_isFinder : MOV mX12_isFinder 2 := ⟨⟨mg (k := 8) (i := 74) rfl rfl, mg (k := 1) (i := 13) (by decide +kernel) rfl, ⟨by decide +kernel, by decide +kernel, by decide +kernel⟩, by decide +kernel, by decide, rfl⟩, mg (k := 8) (i := 73) (by decide +kernel) rfl, mg (k := 16) (i := 6) (by decide +kernel) rfl⟩
def mX12_duty : MI := (yX12_duty, cX12_duty, 3, (some .int), 0, 0, [])
theorem oX12_duty : MOV mX12_duty 2 := ⟨⟨mg (k := 8) (i := 78) rfl rfl, mg (k := 1) (i := 13) (by decide +kernel) rfl, ⟨by decide +kernel, by decide +kernel, by decide +kernel⟩, by decide +kernel, by decide, rfl⟩, mg (k := 8) (i := 76) (by decide +kernel) rfl, mg (k := 8) (i := 77) (by decide +kernel) rfl⟩
def mX12_would : MI := (yX12_would, cX12_would, 9, (some .int), 0, 0, [])
theorem oX12_would : MOV mX12_would 8 := ⟨⟨mg (k := 8) (i := 82) rfl rfl, mg (k := 1) (i := 13) (by decide +kernel) rfl, ⟨by decide +kernel, by decide +kernel, by decide +kernel⟩, by decide +kernel, by decide, rfl⟩, mg (k := 8) (i := 80) (by decide +kernel) rfl, mg (k := 8) (i := 81) (by decide +kernel) rfl⟩
def mX12_can : MI := (yX12_can, cX12_can, 3, (some .boolean), 0, 0, [])
theorem oX12_can : MOV mX12_can 2 := ⟨⟨mg (k := 8) (i := 86) rfl rfl, mg (k := 1) (i := 13) (by decide +kernel) rfl, ⟨by decide +kernel, by decide +kernel, by decide +kernel⟩, by decide +kernel, by decide, rfl⟩, mg (k := 8) (i := 84) (by decide +kernel) rfl, mg (k := 8) (i := 85) (by decide +kernel) rfl⟩
def mX12_ahead : MI := (yX12_ahead, cX12_ahead, 4, (some .int), 0, 0, [])
theorem oX12_ahead : MOV mX12_ahead 2 := ⟨⟨mg (k := 8) (i := 90) rfl rfl, mg (k := 1) (i := 13) (by decide +kernel) rfl, ⟨by decide +kernel, by decide +kernel, by decide +kernel⟩, by decide +kernel, by decide, rfl⟩, mg (k := 8) (i := 88) (by decide +kernel) rfl, mg (k := 8) (i := 89) (by decide +kernel) rfl⟩
def mX12_far : MI := (yX12_far, cX12_far, 3, (some .int), 0, 0, [])
theorem oX12_far : MOV mX12_far 2 := ⟨⟨mg (k := 8) (i := 94) rfl rfl, mg (k := 1) (i := 13) (by decide +kernel) rfl, ⟨by decide +kernel, by decide +kernel, by decide +kernel⟩, by decide +kernel, by decide, rfl⟩, mg (k := 8) (i := 92) (by decide +kernel) rfl, mg (k := 8) (i := 93) (by decide +kernel) rfl⟩
def mX12_orNone : MI := (yX12_orNone, cX12_orNone, 1, (some .int), 0, 0, [])
theorem oX12_orNone : MOS mX12_orNone 1 := ⟨⟨mg (k := 8) (i := 97) rfl rfl, mg (k := 1) (i := 13) (by decide +kernel) rfl, ⟨by decide +kernel, by decide +kernel, by decide +kernel⟩, by decide +kernel, by decide, rfl⟩, mg (k := 8) (i := 96) (by decide +kernel) rfl⟩
def mX12_round : MI := (yX12_round, cX12_round, 8, (some .int), 0, 0, [])
theorem oX12_round : MOV mX12_round 1 := ⟨⟨mg (k := 8) (i := 101) rfl rfl, mg (k := 1) (i := 13) (by decide +kernel) rfl, ⟨by decide +kernel, by decide +kernel, by decide +kernel⟩, by decide +kernel, by decide, rfl⟩, mg (k := 8) (i := 99) (by decide +kernel) rfl, mg (k := 8) (i := 100) (by decide +kernel) rfl⟩
def mX12_meet : MI := (yX12_meet, cX12_meet, 7, (some .int), 0, 0, [])
theorem oX12_meet : MOV mX12_meet 1 := ⟨⟨mg (k := 8) (i := 105) rfl rfl, mg (k := 1) (i := 13) (by decide +kernel) rfl, ⟨by decide +kernel, by decide +kernel, by decide +kernel⟩, by decide +kernel, by decide, rfl⟩, mg (k := 8) (i := 103) (by decide +kernel) rfl, mg (k := 8) (i := 104) (by decide +kernel) rfl⟩
def mX12_reach : MI := (yX12_reach, cX12_reach, 4, (some .int), 0, 0, [])
theorem oX12_reach : MOV mX12_reach 1 := ⟨⟨mg (k := 8) (i := 109) rfl rfl, mg (k := 1) (i := 13) (by decide +kernel) rfl, ⟨by decide +kernel, by decide +kernel, by decide +kernel⟩, by decide +kernel, by decide, rfl⟩, mg (k := 8) (i := 107) (by decide +kernel) rfl, mg (k := 8) (i := 108) (by decide +kernel) rfl⟩
def mX12_way : MI := (yX12_way, cX12_way, 3, (some .int), 0, 0, [])
theorem oX12_way : MOV mX12_way 2 := ⟨⟨mg (k := 8) (i := 113) rfl rfl, mg (k := 1) (i := 13) (by decide +kernel) rfl, ⟨by decide +kernel, by decide +kernel, by decide +kernel⟩, by decide +kernel, by decide, rfl⟩, mg (k := 8) (i := 111) (by decide +kernel) rfl, mg (k := 8) (i := 112) (by decide +kernel) rfl⟩
def mX12_settle : MI := (yX12_settle, cX12_settle, 6, (some .int), 0, 0, [])
theorem oX12_settle : MOV mX12_settle 1 := ⟨⟨mg (k := 8) (i := 117) rfl rfl, mg (k := 1) (i := 13) (by decide +kernel) rfl, ⟨by decide +kernel, by decide +kernel, by decide +kernel⟩, by decide +kernel, by decide, rfl⟩, mg (k := 8) (i := 115) (by decide +kernel) rfl, mg (k := 8) (i := 116) (by decide +kernel) rfl⟩
def mX12_parts : MI := (yX12_parts, cX12_parts, 6, (some .int), 0, 0, [])
theorem oX12_parts : MOV mX12_parts 2 := ⟨⟨mg (k := 8) (i := 121) rfl rfl, mg (k := 1) (i := 13) (by decide +kernel) rfl, ⟨by decide +kernel, by decide +kernel, by decide +kernel⟩, by decide +kernel, by decide, rfl⟩, mg (k := 8) (i := 119) (by decide +kernel) rfl, mg (k := 8) (i := 120) (by decide +kernel) rfl⟩
def mX12_fits : MI := (yX12_fits, cX12_fits, 6, (some .int), 0, 0, [])
theorem oX12_fits : MOV mX12_fits 1 := ⟨⟨mg (k := 8) (i := 125) rfl rfl, mg (k := 1) (i := 13) (by decide +kernel) rfl, ⟨by decide +kernel, by decide +kernel, by decide +kernel⟩, by decide +kernel, by decide, rfl⟩, mg (k := 8) (i := 123) (by decide +kernel) rfl, mg (k := 8) (i := 124) (by decide +kernel) rfl⟩
def mX12_isFit : MI := (yX12_isFit, cX12_isFit, 5, (some .boolean), 0, 0, [])
theorem oX12_isFit : MOV mX12_isFit 2 := ⟨⟨mg (k := 8) (i := 129) rfl rfl, mg (k := 1) (i := 13) (by decide +kernel) rfl, ⟨by decide +kernel, by decide +kernel, by decide +kernel⟩, by decide +kernel, by decide, rfl⟩, mg (k := 8) (i := 128) (by decide +kernel) rfl, mg (k := 16) (i := 7) (by decide +kernel) rfl⟩
def mX12_liesThen : MI := (yX12_liesThen, cX12_liesThen, 4, (some .int), 0, 0, [])
theorem oX12_liesThen : MOV mX12_liesThen 3 := ⟨⟨mg (k := 8) (i := 133) rfl rfl, mg (k := 1) (i := 13) (by decide +kernel) rfl, ⟨by decide +kernel, by decide +kernel, by decide +kernel⟩, by decide +kernel, by decide, rfl⟩, mg (k := 8) (i := 132) (by decide +kernel) rfl, mg (k := 16) (i := 8) (by decide +kernel) rfl⟩
def mX12_look : MI := (yX12_look, cX12_look, 6, (some .int), 0, 0, [])
theorem oX12_look : MOV mX12_look 1 := ⟨⟨mg (k := 8) (i := 137) rfl rfl, mg (k := 1) (i := 13) (by decide +kernel) rfl, ⟨by decide +kernel, by decide +kernel, by decide +kernel⟩, by decide +kernel, by decide, rfl⟩, mg (k := 8) (i := 135) (by decide +kernel) rfl, mg (k := 8) (i := 136) (by decide +kernel) rfl⟩
def mX12_worstOf : MI := (yX12_worstOf, cX12_worstOf, 6, (some .int), 0, 0, [])
theorem oX12_worstOf : MOV mX12_worstOf 1 := ⟨⟨mg (k := 8) (i := 141) rfl rfl, mg (k := 1) (i := 13) (by decide +kernel) rfl, ⟨by decide +kernel, by decide +kernel, by decide +kernel⟩, by decide +kernel, by decide, rfl⟩, mg (k := 8) (i := 140) (by decide +kernel) rfl, mg (k := 16) (i := 9) (by decide +kernel) rfl⟩
def mX12_pins : MI := (yX12_pins, cX12_pins, 7, (some .long), 0, 0, [])
theorem oX12_pins : MOV mX12_pins 4 := ⟨⟨mg (k := 8) (i := 145) rfl rfl, mg (k := 1) (i := 13) (by decide +kernel) rfl, ⟨by decide +kernel, by decide +kernel, by decide +kernel⟩, by decide +kernel, by decide, rfl⟩, mg (k := 8) (i := 143) (by decide +kernel) rfl, mg (k := 8) (i := 144) (by decide +kernel) rfl⟩
def mX12_ways : MI := (yX12_ways, cX12_ways, 5, (some .long), 0, 0, [])
theorem oX12_ways : MOS mX12_ways 2 := ⟨⟨mg (k := 8) (i := 148) rfl rfl, mg (k := 1) (i := 13) (by decide +kernel) rfl, ⟨by decide +kernel, by decide +kernel, by decide +kernel⟩, by decide +kernel, by decide, rfl⟩, mg (k := 8) (i := 147) (by decide +kernel) rfl⟩
def mX12_least : MI := (yX12_least, cX12_least, 11, (some .long), 0, 0, [])
theorem oX12_least : MOS mX12_least 3 := ⟨⟨mg (k := 8) (i := 151) rfl rfl, mg (k := 1) (i := 13) (by decide +kernel) rfl, ⟨by decide +kernel, by decide +kernel, by decide +kernel⟩, by decide +kernel, by decide, rfl⟩, mg (k := 8) (i := 150) (by decide +kernel) rfl⟩
def mX12_takes : MI := (yX12_takes, cX12_takes, 9, (some .int), 0, 0, [])
theorem oX12_takes : MOV mX12_takes 3 := ⟨⟨mg (k := 8) (i := 155) rfl rfl, mg (k := 1) (i := 13) (by decide +kernel) rfl, ⟨by decide +kernel, by decide +kernel, by decide +kernel⟩, by decide +kernel, by decide, rfl⟩, mg (k := 8) (i := 153) (by decide +kernel) rfl, mg (k := 8) (i := 154) (by decide +kernel) rfl⟩
def mX12_hasBy : MI := (yX12_hasBy, cX12_hasBy, 4, (some .int), 0, 0, [])
theorem oX12_hasBy : MOS mX12_hasBy 4 := ⟨⟨mg (k := 8) (i := 158) rfl rfl, mg (k := 1) (i := 13) (by decide +kernel) rfl, ⟨by decide +kernel, by decide +kernel, by decide +kernel⟩, by decide +kernel, by decide, rfl⟩, mg (k := 8) (i := 157) (by decide +kernel) rfl⟩
def mX12_sixpence : MI := (yX12_sixpence, cX12_sixpence, 5, (some .int), 0, 0, [])
theorem oX12_sixpence : MOV mX12_sixpence 3 := ⟨⟨mg (k := 8) (i := 162) rfl rfl, mg (k := 1) (i := 13) (by decide +kernel) rfl, ⟨by decide +kernel, by decide +kernel, by decide +kernel⟩, by decide +kernel, by decide, rfl⟩, mg (k := 8) (i := 160) (by decide +kernel) rfl, mg (k := 8) (i := 161) (by decide +kernel) rfl⟩
def mX12_sixpenceBy : MI := (yX12_sixpenceBy, cX12_sixpenceBy, 5, (some .int), 0, 0, [])
theorem oX12_sixpenceBy : MOV mX12_sixpenceBy 2 := ⟨⟨mg (k := 8) (i := 166) rfl rfl, mg (k := 1) (i := 13) (by decide +kernel) rfl, ⟨by decide +kernel, by decide +kernel, by decide +kernel⟩, by decide +kernel, by decide, rfl⟩, mg (k := 8) (i := 165) (by decide +kernel) rfl, mg (k := 16) (i := 10) (by decide +kernel) rfl⟩
def mX12_bounded : MI := (yX12_bounded, cX12_bounded, 4, (some .int), 0, 0, [])
theorem oX12_bounded : MOV mX12_bounded 2 := ⟨⟨mg (k := 8) (i := 170) rfl rfl, mg (k := 1) (i := 13) (by decide +kernel) rfl, ⟨by decide +kernel, by decide +kernel, by decide +kernel⟩, by decide +kernel, by decide, rfl⟩, mg (k := 8) (i := 169) (by decide +kernel) rfl, mg (k := 16) (i := 11) (by decide +kernel) rfl⟩
def mX12_greatest : MI := (yX12_greatest, cX12_greatest, 4, (some .int), 0, 0, [])
theorem oX12_greatest : MOV mX12_greatest 1 := ⟨⟨mg (k := 8) (i := 174) rfl rfl, mg (k := 1) (i := 13) (by decide +kernel) rfl, ⟨by decide +kernel, by decide +kernel, by decide +kernel⟩, by decide +kernel, by decide, rfl⟩, mg (k := 8) (i := 172) (by decide +kernel) rfl, mg (k := 8) (i := 173) (by decide +kernel) rfl⟩
def mX12_deepest : MI := (yX12_deepest, cX12_deepest, 4, (some .int), 0, 0, [])
theorem oX12_deepest : MOV mX12_deepest 1 := ⟨⟨mg (k := 8) (i := 178) rfl rfl, mg (k := 1) (i := 13) (by decide +kernel) rfl, ⟨by decide +kernel, by decide +kernel, by decide +kernel⟩, by decide +kernel, by decide, rfl⟩, mg (k := 8) (i := 176) (by decide +kernel) rfl, mg (k := 8) (i := 177) (by decide +kernel) rfl⟩
def mX12_empty : MI := (yX12_empty, cX12_empty, 3, (some .int), 0, 0, [])
theorem oX12_empty : MOV mX12_empty 0 := ⟨⟨mg (k := 8) (i := 182) rfl rfl, mg (k := 1) (i := 13) (by decide +kernel) rfl, ⟨by decide +kernel, by decide +kernel, by decide +kernel⟩, by decide +kernel, by decide, rfl⟩, mg (k := 8) (i := 180) (by decide +kernel) rfl, mg (k := 8) (i := 181) (by decide +kernel) rfl⟩
def mX12_lucky : MI := (yX12_lucky, cX12_lucky, 3, (some .int), 0, 0, [])
theorem oX12_lucky : MOV mX12_lucky 0 := ⟨⟨mg (k := 8) (i := 186) rfl rfl, mg (k := 1) (i := 13) (by decide +kernel) rfl, ⟨by decide +kernel, by decide +kernel, by decide +kernel⟩, by decide +kernel, by decide, rfl⟩, mg (k := 8) (i := 184) (by decide +kernel) rfl, mg (k := 8) (i := 185) (by decide +kernel) rfl⟩
def mX12_sound : MI := (yX12_sound, cX12_sound, 5, (some .int), 0, 0, [])
theorem oX12_sound : MOV mX12_sound 1 := ⟨⟨mg (k := 8) (i := 190) rfl rfl, mg (k := 1) (i := 13) (by decide +kernel) rfl, ⟨by decide +kernel, by decide +kernel, by decide +kernel⟩, by decide +kernel, by decide, rfl⟩, mg (k := 8) (i := 188) (by decide +kernel) rfl, mg (k := 8) (i := 189) (by decide +kernel) rfl⟩
def mX12_burden : MI := (yX12_burden, cX12_burden, 5, (some .int), 0, 0, [])
theorem oX12_burden : MOV mX12_burden 1 := ⟨⟨mg (k := 8) (i := 194) rfl rfl, mg (k := 1) (i := 13) (by decide +kernel) rfl, ⟨by decide +kernel, by decide +kernel, by decide +kernel⟩, by decide +kernel, by decide, rfl⟩, mg (k := 8) (i := 192) (by decide +kernel) rfl, mg (k := 8) (i := 193) (by decide +kernel) rfl⟩
def mX12_near : MI := (yX12_near, cX12_near, 7, (some .int), 0, 0, [])
theorem oX12_near : MOV mX12_near 2 := ⟨⟨mg (k := 8) (i := 198) rfl rfl, mg (k := 1) (i := 13) (by decide +kernel) rfl, ⟨by decide +kernel, by decide +kernel, by decide +kernel⟩, by decide +kernel, by decide, rfl⟩, mg (k := 8) (i := 196) (by decide +kernel) rfl, mg (k := 8) (i := 197) (by decide +kernel) rfl⟩
def mX12_enough : MI := (yX12_enough, cX12_enough, 4, (some .int), 0, 0, [])
theorem oX12_enough : MOV mX12_enough 1 := ⟨⟨mg (k := 8) (i := 202) rfl rfl, mg (k := 1) (i := 13) (by decide +kernel) rfl, ⟨by decide +kernel, by decide +kernel, by decide +kernel⟩, by decide +kernel, by decide, rfl⟩, mg (k := 8) (i := 200) (by decide +kernel) rfl, mg (k := 8) (i := 201) (by decide +kernel) rfl⟩
def mX12_year : MI := (yX12_year, cX12_year, 7, (some .int), 0, 0, [])
theorem oX12_year : MOV mX12_year 4 := ⟨⟨mg (k := 8) (i := 206) rfl rfl, mg (k := 1) (i := 13) (by decide +kernel) rfl, ⟨by decide +kernel, by decide +kernel, by decide +kernel⟩, by decide +kernel, by decide, rfl⟩, mg (k := 8) (i := 204) (by decide +kernel) rfl, mg (k := 8) (i := 205) (by decide +kernel) rfl⟩
def mX12_isYear : MI := (yX12_isYear, cX12_isYear, 2, (some .boolean), 0, 0, [])
theorem oX12_isYear : MOS mX12_isYear 2 := ⟨⟨mg (k := 8) (i := 209) rfl rfl, mg (k := 1) (i := 13) (by decide +kernel) rfl, ⟨by decide +kernel, by decide +kernel, by decide +kernel⟩, by decide +kernel, by decide, rfl⟩, mg (k := 8) (i := 208) (by decide +kernel) rfl⟩
def mX12_yearGoes : MI := (yX12_yearGoes, cX12_yearGoes, 8, none, 0, 0, [])
theorem oX12_yearGoes : MOV mX12_yearGoes 3 := ⟨⟨mg (k := 8) (i := 213) rfl rfl, mg (k := 1) (i := 13) (by decide +kernel) rfl, ⟨by decide +kernel, by decide +kernel, by decide +kernel⟩, by decide +kernel, by decide, rfl⟩, mg (k := 8) (i := 212) (by decide +kernel) rfl, mg (k := 16) (i := 12) (by decide +kernel) rfl⟩
def mX12_draws : MI := (yX12_draws, cX12_draws, 2, (some .int), 0, 0, [])
theorem oX12_draws : MOV mX12_draws 1 := ⟨⟨mg (k := 8) (i := 217) rfl rfl, mg (k := 1) (i := 13) (by decide +kernel) rfl, ⟨by decide +kernel, by decide +kernel, by decide +kernel⟩, by decide +kernel, by decide, rfl⟩, mg (k := 8) (i := 216) (by decide +kernel) rfl, mg (k := 16) (i := 13) (by decide +kernel) rfl⟩
def mX12_foundMore : MI := (yX12_foundMore, cX12_foundMore, 3, (some .int), 0, 0, [])
theorem oX12_foundMore : MOV mX12_foundMore 0 := ⟨⟨mg (k := 8) (i := 222) rfl rfl, mg (k := 1) (i := 13) (by decide +kernel) rfl, ⟨by decide +kernel, by decide +kernel, by decide +kernel⟩, by decide +kernel, by decide, rfl⟩, mg (k := 8) (i := 221) (by decide +kernel) rfl, mg (k := 16) (i := 14) (by decide +kernel) rfl⟩
def mX12_span : MI := (yX12_span, cX12_span, 12, (some .int), 0, 0, [])
theorem oX12_span : MOV mX12_span 6 := ⟨⟨mg (k := 8) (i := 226) rfl rfl, mg (k := 1) (i := 13) (by decide +kernel) rfl, ⟨by decide +kernel, by decide +kernel, by decide +kernel⟩, by decide +kernel, by decide, rfl⟩, mg (k := 8) (i := 224) (by decide +kernel) rfl, mg (k := 8) (i := 225) (by decide +kernel) rfl⟩
def mX12_image : MI := (yX12_image, cX12_image, 1, (some .int), 0, 0, [])
theorem oX12_image : MOV mX12_image 0 := ⟨⟨mg (k := 8) (i := 230) rfl rfl, mg (k := 1) (i := 13) (by decide +kernel) rfl, ⟨by decide +kernel, by decide +kernel, by decide +kernel⟩, by decide +kernel, by decide, rfl⟩, mg (k := 8) (i := 228) (by decide +kernel) rfl, mg (k := 8) (i := 229) (by decide +kernel) rfl⟩
def mX12_keepsAll : MI := (yX12_keepsAll, cX12_keepsAll, 4, none, 0, 0, [])
theorem oX12_keepsAll : MOV mX12_keepsAll 2 := ⟨⟨mg (k := 8) (i := 234) rfl rfl, mg (k := 1) (i := 13) (by decide +kernel) rfl, ⟨by decide +kernel, by decide +kernel, by decide +kernel⟩, by decide +kernel, by decide, rfl⟩, mg (k := 8) (i := 233) (by decide +kernel) rfl, mg (k := 16) (i := 15) (by decide +kernel) rfl⟩
def mX12_keepsRow : MI := (yX12_keepsRow, cX12_keepsRow, 6, (some .int), 0, 0, [])
theorem oX12_keepsRow : MOV mX12_keepsRow 4 := ⟨⟨mg (k := 8) (i := 238) rfl rfl, mg (k := 1) (i := 13) (by decide +kernel) rfl, ⟨by decide +kernel, by decide +kernel, by decide +kernel⟩, by decide +kernel, by decide, rfl⟩, mg (k := 8) (i := 237) (by decide +kernel) rfl, mg (k := 17) (i := 0) (by decide +kernel) rfl⟩
def mX12_restore : MI := (yX12_restore, cX12_restore, 1, (some .int), 0, 0, [])
theorem oX12_restore : MOV mX12_restore 0 := ⟨⟨mg (k := 9) (i := 2) rfl rfl, mg (k := 1) (i := 13) (by decide +kernel) rfl, ⟨by decide +kernel, by decide +kernel, by decide +kernel⟩, by decide +kernel, by decide, rfl⟩, mg (k := 9) (i := 0) (by decide +kernel) rfl, mg (k := 9) (i := 1) (by decide +kernel) rfl⟩
def mX12_status : MI := (yX12_status, cX12_status, 2, (some .int), 0, 0, [])
theorem oX12_status : MOV mX12_status 1 := ⟨⟨mg (k := 9) (i := 6) rfl rfl, mg (k := 1) (i := 13) (by decide +kernel) rfl, ⟨by decide +kernel, by decide +kernel, by decide +kernel⟩, by decide +kernel, by decide, rfl⟩, mg (k := 9) (i := 4) (by decide +kernel) rfl, mg (k := 9) (i := 5) (by decide +kernel) rfl⟩
def mX12_count : MI := (yX12_count, cX12_count, 2, (some .int), 0, 0, [])
theorem oX12_count : MOV mX12_count 1 := ⟨⟨mg (k := 9) (i := 10) rfl rfl, mg (k := 1) (i := 13) (by decide +kernel) rfl, ⟨by decide +kernel, by decide +kernel, by decide +kernel⟩, by decide +kernel, by decide, rfl⟩, mg (k := 9) (i := 8) (by decide +kernel) rfl, mg (k := 9) (i := 9) (by decide +kernel) rfl⟩
def mL_town : MI := (yL_town, cL_town, 4, (some .int), 1, 6, [((0 : Nat), (9 : Nat), (12 : Nat), (13 : Nat))])
def mL_law : MI := (yL_law, cL_law, 4, (some .int), 1, 6, [((0 : Nat), (9 : Nat), (12 : Nat), (13 : Nat))])
def mL_work : MI := (yL_work, cL_work, 4, (some .int), 1, 6, [((0 : Nat), (9 : Nat), (12 : Nat), (13 : Nat))])
def mL_book : MI := (yL_book, cL_book, 4, (some .int), 1, 6, [((0 : Nat), (9 : Nat), (12 : Nat), (13 : Nat))])
def mL_told : MI := (yL_told, cL_told, 4, (some .int), 1, 6, [((0 : Nat), (9 : Nat), (12 : Nat), (13 : Nat))])
def mL_place : MI := (yL_place, cL_place, 5, (some .int), 2, 12, [((0 : Nat), (10 : Nat), (13 : Nat), (31 : Nat)), ((0 : Nat), (10 : Nat), (17 : Nat), (13 : Nat))])
def mL_road : MI := (yL_road, cL_road, 5, (some .int), 2, 12, [((0 : Nat), (10 : Nat), (13 : Nat), (31 : Nat)), ((0 : Nat), (10 : Nat), (17 : Nat), (13 : Nat))])
def mL_thing : MI := (yL_thing, cL_thing, 5, (some .int), 2, 12, [((0 : Nat), (10 : Nat), (13 : Nat), (31 : Nat)), ((0 : Nat), (10 : Nat), (17 : Nat), (13 : Nat))])
def mL_finder : MI := (yL_finder, cL_finder, 5, (some .int), 2, 12, [((0 : Nat), (10 : Nat), (13 : Nat), (31 : Nat)), ((0 : Nat), (10 : Nat), (17 : Nat), (13 : Nat))])
def mL_duty : MI := (yL_duty, cL_duty, 5, (some .int), 2, 12, [((0 : Nat), (10 : Nat), (13 : Nat), (31 : Nat))])
def mL_would : MI := (yL_would, cL_would, 11, (some .int), 8, 48, [((0 : Nat), (22 : Nat), (25 : Nat), (13 : Nat))])
def mL_can : MI := (yL_can, cL_can, 5, (some .int), 2, 12, [((0 : Nat), (17 : Nat), (20 : Nat), (31 : Nat))])
def mL_ahead : MI := (yL_ahead, cL_ahead, 5, (some .int), 2, 12, [((0 : Nat), (10 : Nat), (13 : Nat), (13 : Nat))])
def mL_far : MI := (yL_far, cL_far, 5, (some .int), 2, 12, [((0 : Nat), (10 : Nat), (13 : Nat), (31 : Nat))])
def mL_round : MI := (yL_round, cL_round, 4, (some .int), 1, 6, [((0 : Nat), (9 : Nat), (12 : Nat), (31 : Nat))])
def mL_meet : MI := (yL_meet, cL_meet, 4, (some .int), 1, 6, [((0 : Nat), (9 : Nat), (12 : Nat), (13 : Nat))])
def mL_reach : MI := (yL_reach, cL_reach, 4, (some .int), 1, 6, [((0 : Nat), (9 : Nat), (12 : Nat), (31 : Nat))])
def mL_settle : MI := (yL_settle, cL_settle, 4, (some .int), 1, 6, [((0 : Nat), (9 : Nat), (12 : Nat), (31 : Nat))])
def mL_parts : MI := (yL_parts, cL_parts, 5, (some .int), 2, 12, [((0 : Nat), (10 : Nat), (13 : Nat), (31 : Nat)), ((0 : Nat), (10 : Nat), (17 : Nat), (13 : Nat))])
def mL_fits : MI := (yL_fits, cL_fits, 4, (some .int), 1, 6, [((0 : Nat), (9 : Nat), (12 : Nat), (13 : Nat))])
def mL_look : MI := (yL_look, cL_look, 4, (some .int), 1, 6, [((0 : Nat), (9 : Nat), (12 : Nat), (13 : Nat))])
def mL_pins : MI := (yL_pins, cL_pins, 7, (some .int), 4, 24, [((0 : Nat), (13 : Nat), (16 : Nat), (13 : Nat))])
def mL_takes : MI := (yL_takes, cL_takes, 6, (some .int), 3, 18, [((0 : Nat), (12 : Nat), (15 : Nat), (13 : Nat))])
def mL_sixpence : MI := (yL_sixpence, cL_sixpence, 6, (some .int), 3, 18, [((0 : Nat), (12 : Nat), (15 : Nat), (31 : Nat)), ((0 : Nat), (12 : Nat), (19 : Nat), (13 : Nat))])
def mL_greatest : MI := (yL_greatest, cL_greatest, 4, (some .int), 1, 6, [((0 : Nat), (9 : Nat), (12 : Nat), (13 : Nat))])
def mL_deepest : MI := (yL_deepest, cL_deepest, 4, (some .int), 1, 6, [((0 : Nat), (9 : Nat), (12 : Nat), (13 : Nat))])
def mL_sound : MI := (yL_sound, cL_sound, 4, (some .int), 1, 6, [((0 : Nat), (9 : Nat), (12 : Nat), (13 : Nat))])
def mL_way : MI := (yL_way, cL_way, 5, (some .int), 2, 12, [((0 : Nat), (10 : Nat), (13 : Nat), (31 : Nat))])
def mL_burden : MI := (yL_burden, cL_burden, 4, (some .int), 1, 6, [((0 : Nat), (9 : Nat), (12 : Nat), (13 : Nat))])
def mL_near : MI := (yL_near, cL_near, 5, (some .int), 2, 12, [((0 : Nat), (10 : Nat), (13 : Nat), (31 : Nat)), ((0 : Nat), (10 : Nat), (17 : Nat), (13 : Nat))])
def mL_enough : MI := (yL_enough, cL_enough, 4, (some .int), 1, 6, [((0 : Nat), (9 : Nat), (12 : Nat), (31 : Nat))])
def mL_year : MI := (yL_year, cL_year, 7, (some .int), 3, 18, [((0 : Nat), (14 : Nat), (17 : Nat), (13 : Nat))])
def mL_span : MI := (yL_span, cL_span, 9, (some .int), 5, 30, [((0 : Nat), (18 : Nat), (21 : Nat), (13 : Nat))])
