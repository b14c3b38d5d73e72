theorem fs_38 : Cond.fieldLink "java/lang/String" 38 "java/lang/String" "COMPACT_STRINGS" "Z" ∈ gt := mg (k := 3) (i := 84) (by decide +kernel) rfl
theorem fs_1053 : Cond.fieldLink "java/lang/String" 1053 "jdk/internal/util/Preconditions" "SIOOBE_FORMATTER" "Ljava/util/function/BiFunction;" ∈ gt := mg (k := 3) (i := 100) (by decide +kernel) rfl
theorem fs_9 : Cond.fieldLink "java/lang/String" 9 "java/lang/String" "value" "[B" ∈ gt := mg (k := 9) (i := 29) (by decide +kernel) rfl
theorem fs_15 : Cond.fieldLink "java/lang/String" 15 "java/lang/String" "coder" "B" ∈ gt := mg (k := 9) (i := 30) (by decide +kernel) rfl
def mJ0_length_8abf5 : MI := (yJ0_length_8abf5, cJ0_length_8abf5, 1, (some .int), 0, 0, [])
theorem oJ0_length_8abf5 : MOV mJ0_length_8abf5 0 := ⟨⟨mg (k := 3) (i := 79) rfl rfl, mg (k := 1) (i := 19) (by decide +kernel) rfl, ⟨by decide +kernel, by decide +kernel, by decide +kernel⟩, by decide +kernel, by decide, rfl⟩, mg (k := 3) (i := 77) (by decide +kernel) rfl, mg (k := 3) (i := 78) (by decide +kernel) rfl⟩
def mJ0_coder_7d493 : MI := (yJ0_coder_7d493, cJ0_coder_7d493, 1, (some .byte), 0, 0, [])
theorem oJ0_coder_7d493 : MOV mJ0_coder_7d493 0 := ⟨⟨mg (k := 3) (i := 83) rfl rfl, mg (k := 1) (i := 19) (by decide +kernel) rfl, ⟨by decide +kernel, by decide +kernel, by decide +kernel⟩, by decide +kernel, by decide, rfl⟩, mg (k := 3) (i := 81) (by decide +kernel) rfl, mg (k := 3) (i := 82) (by decide +kernel) rfl⟩
def mJ0_charAt_5068e : MI := (yJ0_charAt_5068e, cJ0_charAt_5068e, 2, (some .char), 0, 0, [])
theorem oJ0_charAt_5068e : MOV mJ0_charAt_5068e 1 := ⟨⟨mg (k := 3) (i := 89) rfl rfl, mg (k := 1) (i := 19) (by decide +kernel) rfl, ⟨by decide +kernel, by decide +kernel, by decide +kernel⟩, by decide +kernel, by decide, rfl⟩, mg (k := 3) (i := 87) (by decide +kernel) rfl, mg (k := 3) (i := 88) (by decide +kernel) rfl⟩
def mJ0_isLatin1_aae02 : MI := (yJ0_isLatin1_aae02, cJ0_isLatin1_aae02, 1, (some .boolean), 0, 0, [])
theorem oJ0_isLatin1_aae02 : MOV mJ0_isLatin1_aae02 0 := ⟨⟨mg (k := 3) (i := 93) rfl rfl, mg (k := 1) (i := 19) (by decide +kernel) rfl, ⟨by decide +kernel, by decide +kernel, by decide +kernel⟩, by decide +kernel, by decide, rfl⟩, mg (k := 3) (i := 91) (by decide +kernel) rfl, mg (k := 3) (i := 92) (by decide +kernel) rfl⟩
def mJ1_charAt_3b067 : MI := (yJ1_charAt_3b067, cJ1_charAt_3b067, 2, (some .char), 0, 0, [])
theorem oJ1_charAt_3b067 : MOS mJ1_charAt_3b067 2 := ⟨⟨mg (k := 3) (i := 96) rfl rfl, mg (k := 1) (i := 20) (by decide +kernel) rfl, ⟨by decide +kernel, by decide +kernel, by decide +kernel⟩, by decide +kernel, by decide, rfl⟩, mg (k := 3) (i := 95) (by decide +kernel) rfl⟩
def mJ0_checkIndex_df160 : MI := (yJ0_checkIndex_df160, cJ0_checkIndex_df160, 2, none, 0, 0, [])
theorem oJ0_checkIndex_df160 : MOS mJ0_checkIndex_df160 2 := ⟨⟨mg (k := 3) (i := 99) rfl rfl, mg (k := 1) (i := 19) (by decide +kernel) rfl, ⟨by decide +kernel, by decide +kernel, by decide +kernel⟩, by decide +kernel, by decide, rfl⟩, mg (k := 3) (i := 98) (by decide +kernel) rfl⟩
def mJ3_checkIndex_8e157 : MI := (yJ3_checkIndex_8e157, cJ3_checkIndex_8e157, 3, (some .int), 0, 0, [])
theorem oJ3_checkIndex_8e157 : MOS mJ3_checkIndex_8e157 3 := ⟨⟨mg (k := 3) (i := 104) rfl rfl, mg (k := 1) (i := 21) (by decide +kernel) rfl, ⟨by decide +kernel, by decide +kernel, by decide +kernel⟩, by decide +kernel, by decide, rfl⟩, mg (k := 3) (i := 103) (by decide +kernel) rfl⟩
theorem G.getc {z : Zp} {μ : MI} {d cells slots pc : Nat} {ls : Lo} {r : List Value} {M : Mem} {Q : Rs → Prop} (ho : μ.y.cls = "java/lang/String") (hd : decode μ.b pc = .ok (.getstatic 38, 3)) (k : G z μ d cells slots (pc + 3) ls (.int 1 :: r) M Q) : G z μ d cells slots pc ls r M Q := by
  intro p e R s m args below meth c H locs A ad adV cI cL D la C hP hD hS hL
  exact va_gets C.1 C.2.1 C.2.2.2.2.2.2.2.2.2.2.1.2.2.2.2.2.2.2.1.1 hS C.2.2.2.2.1 (by rw [ho]; exact C.2.2.2.2.2.1 _ fs_38) (fun _ h9 => h9) hd (k p e R s m args below meth c H locs A ad adV cI cL D la C hP hD hS hL)
theorem G.getfmt {z : Zp} {μ : MI} {d cells slots pc : Nat} {ls : Lo} {r : List Value} {M : Mem} {Q : Rs → Prop} (ho : μ.y.cls = "java/lang/String") (hd : decode μ.b pc = .ok (.getstatic 1053, 3)) (k : G z μ d cells slots (pc + 3) ls (.ref 5000 :: r) M Q) (k0 : G z μ d cells slots (pc + 3) ls (.null :: r) M Q) : G z μ d cells slots pc ls r M Q := by
  intro p e R s m args below meth c H locs A ad adV cI cL D la C hP hD hS hL
  rcases C.2.2.2.2.2.2.2.2.2.2.1.2.2.2.2.2.2.2.1.2.2 with h | h
  · exact va_gets C.1 C.2.1 h hS C.2.2.2.2.1 (by rw [ho]; exact C.2.2.2.2.2.1 _ fs_1053) (fun _ h9 => h9) hd (k0 p e R s m args below meth c H locs A ad adV cI cL D la C hP hD hS hL)
  · exact va_gets C.1 C.2.1 h hS C.2.2.2.2.1 (by rw [ho]; exact C.2.2.2.2.2.1 _ fs_1053) (fun _ h9 => h9) hd (k p e R s m args below meth c H locs A ad adV cI cL D la C hP hD hS hL)
theorem G.getcoder {z : Zp} {μ : MI} {d cells slots pc : Nat} {ls : Lo} {r : List Value} {M : Mem} {Q : Rs → Prop} {i : Nat} (hi : i < 25) (ho : μ.y.cls = "java/lang/String") (hd : decode μ.b pc = .ok (.getfield 15, 3)) (k : G z μ d cells slots (pc + 3) ls (.int 0 :: r) M Q) : G z μ d cells slots pc ls (.ref (1000 + i) :: r) M Q := by
  intro p e R s m args below meth c H locs A ad adV cI cL D la C hP hD hS hL
  have hE := (C.2.2.2.2.2.2.2.2.2.2.1.2.2.2.1.1 i hi).2.1
  exact vk_getf C.1 C.2.1 hE hS C.2.2.2.2.1 (by rw [ho]; exact C.2.2.2.2.2.1 _ fs_15) (fun _ h9 => h9) hd (k p e R s m args below meth c H locs A ad adV cI cL D la C hP hD hS hL)
theorem G.getval {z : Zp} {μ : MI} {d cells slots pc : Nat} {ls : Lo} {r : List Value} {M : Mem} {Q : Rs → Prop} {i : Nat} (hi : i < 25) (ho : μ.y.cls = "java/lang/String") (hd : decode μ.b pc = .ok (.getfield 9, 3)) (k : G z μ d cells slots (pc + 3) ls (.ref (4000 + i) :: r) M Q) : G z μ d cells slots pc ls (.ref (1000 + i) :: r) M Q := by
  intro p e R s m args below meth c H locs A ad adV cI cL D la C hP hD hS hL
  have hE := (C.2.2.2.2.2.2.2.2.2.2.1.2.2.2.1.1 i hi).2.2.1
  rw [C.2.2.2.2.2.2.2.2.2.2.1.2.2.2.2.2.2.2.1.2.1 i hi] at hE
  exact vk_getf C.1 C.2.1 hE hS C.2.2.2.2.1 (by rw [ho]; exact C.2.2.2.2.2.1 _ fs_9) (fun _ h9 => h9) hd (k p e R s m args below meth c H locs A ad adV cI cL D la C hP hD hS hL)
theorem G.blen {z : Zp} {μ : MI} {d cells slots pc : Nat} {ls : Lo} {r : List Value} {M : Mem} {Q : Rs → Prop} {i : Nat} (hi : i < 25) (hd : decode μ.b pc = .ok (.arraylength, 1)) (k : G z μ d cells slots (pc + 1) ls (.int (nI (sLen.getD i 0)) :: r) M Q) : G z μ d cells slots pc ls (.ref (4000 + i) :: r) M Q := by
  intro p e R s m args below meth c H locs A ad adV cI cL D la C hP hD hS hL
  have hE := (C.2.2.2.2.2.2.2.2.2.2.1.2.2.2.1.1 i hi).2.2.2
  rw [C.2.2.2.2.2.2.2.2.2.2.1.2.2.2.2.2.2.2.1.2.1 i hi] at hE
  exact va_tlen C.1 C.2.1 hE hS rfl hd (k p e R s m args below meth c H locs A ad adV cI cL D la C hP hD hS hL)
theorem G.bald {z : Zp} {μ : MI} {d cells slots pc : Nat} {ls : Lo} {r : List Value} {M : Mem} {Q : Rs → Prop} {i : Nat} {j : Int32} (hi : i < 25) (hj : vp_in j (sLen.getD i 0)) (hd : decode μ.b pc = .ok (.baload, 1)) (k : G z μ d cells slots (pc + 1) ls (.int ((sByt.getD i []).getD j.toNatClampNeg 0) :: r) M Q) : G z μ d cells slots pc ls (.int j :: .ref (4000 + i) :: r) M Q := by
  intro p e R s m args below meth c H locs A ad adV cI cL D la C hP hD hS hL
  have hE := (C.2.2.2.2.2.2.2.2.2.2.1.2.2.2.1.1 i hi).2.2.2
  rw [C.2.2.2.2.2.2.2.2.2.2.1.2.2.2.2.2.2.2.1.2.1 i hi] at hE
  exact va_tb C.1 C.2.1 hE hS hj rfl hd (k p e R s m args below meth c H locs A ad adV cI cL D la C hP hD hS hL)
theorem G.callT {z : Zp} {μ μ' : MI} {d cells slots pc n idx i : Nat} {ls : Lo} {as rest : List Value} {M : Mem} {Q Q' : Rs → Prop} (ho : MOV μ' n) (hl : Cond.methodLink μ.y.cls idx μ'.y ∈ gt) (hd : decode μ.b pc = .ok (.invokevirtual idx, 3)) (hn : as.length = n) (hi : i < 25) (hc : μ'.y.cls = "java/lang/String") (hcat : (rest.map fun v => v.category).sum ≤ 8) (hh : μ.hh = []) (hroom : cells + μ'.mc ≤ μ.mc ∧ slots + μ'.ms ≤ μ.ms) (hM : GM z μ' d (.ref (1000 + i) :: as) M Q')
    (kr : ∀ (v : Option Value) (N : Mem), Q' (.inl (v, N)) → G z μ (d + 1) (cells + μ'.mc) (slots + μ'.ms) (pc + 3) ls (v.toList ++ rest) N Q) (kx : ∀ (E : String) (N : Mem), Q' (.inr (E, N)) → Q (.inr (E, N))) : G z μ (d + 1) cells slots pc ls (as.reverse ++ .ref (1000 + i) :: rest) M Q := by
  intro p e R s m args below meth c H locs A ad adV cI cL D la C hP hD hS hL
  have hcb := callB C ho.1 hl
  have hts := C.2.2.2.2.2.1
  have hrecv := vk_recv (s := s) C.2.2.2.2.2.2.2.2.2.2.1.2.2.2.1 hi hS
  rw [← hc] at hrecv
  refine G.back (a := (Value.ref (ad (1000 + i)) :: as.map (rv ad)).toArray) C hP hD hS hL hh hroom (vx_runV ⟨C.1, C.2.1, C.2.2.2.1, C.2.2.2.2.1, hts⟩ (hM C.2.2.2.2.2.2.2.2.2.2.2.2 ad adV cI cL D H.size) ⟨hcb, hts _ ho.2.1, hts _ ho.2.2⟩ ⟨PreW_calls, hrecv, PreW_at C hP hD hS (.ref (1000 + i) :: as)⟩ rfl (by rw [List.length_map]; exact hn) hL.2.1 ?_ (lv_room (by simpa [Function.comp_def, rv_cat] using hcat)) hd ⟨Nat.le_trans hroom.1 C.2.2.2.2.2.2.2.2.2.2.2.1.2.2.1, Nat.le_trans hroom.2 C.2.2.2.2.2.2.2.2.2.2.2.1.2.2.2⟩) kr kx
  simp [rv]
theorem c_coder (z : Zp) (d : Nat) (M : Mem) (i : Nat) (hi : i < 25) : GM z mJ0_coder_7d493 d [.ref (1000 + i)] M (fun rs => rs = .inl (some (.int 0), M)) := by
  refine GM.of oJ0_coder_7d493.1 (Nat.le_of_ble_eq_true rfl) ?_
  show G z mJ0_coder_7d493 d 0 0 0 [some (.ref (1000 + i))] [] M _
  refine G.getc rfl (by decide +kernel) ?_
  refine G.if_eq (off := 10) (tgt := 13) (by decide +kernel) rfl (fun h => absurd h (by decide)) (fun _ => ?_)
  refine G.sl [(.aload_n 0, 1, 0, 0, 0, 0)] [] (pc2 := 7) (ls2 := [some (.ref (1000 + i))]) (st2 := [.ref (1000 + i)]) (M2 := M) (Ps := []) (by decide +kernel) rfl rfl trivial ?_
  refine G.getcoder hi rfl (by decide +kernel) ?_
  refine G.sl [(.goto 4, 3, 14, 0, 0, 0)] [] (pc2 := 14) (ls2 := [some (.ref (1000 + i))]) (st2 := [.int 0]) (M2 := M) (Ps := []) (by decide +kernel) rfl rfl trivial ?_
  exact G.reti (by decide +kernel) rfl rfl (Nat.le_of_ble_eq_true rfl) (Nat.le_of_ble_eq_true rfl) rfl
theorem c_isLatin1 (z : Zp) (d : Nat) (M : Mem) (i : Nat) (hi : i < 25) : GM z mJ0_isLatin1_aae02 d [.ref (1000 + i)] M (fun rs => rs = .inl (some (.int (nI 1)), M)) := by
  refine GM.of oJ0_isLatin1_aae02.1 (Nat.le_of_ble_eq_true rfl) ?_
  show G z mJ0_isLatin1_aae02 d 0 0 0 [some (.ref (1000 + i))] [] M _
  refine G.getc rfl (by decide +kernel) ?_
  refine G.if_eq (off := 14) (tgt := 17) (by decide +kernel) rfl (fun h => absurd h (by decide)) (fun _ => ?_)
  refine G.sl [(.aload_n 0, 1, 0, 0, 0, 0)] [] (pc2 := 7) (ls2 := [some (.ref (1000 + i))]) (st2 := [.ref (1000 + i)]) (M2 := M) (Ps := []) (by decide +kernel) rfl rfl trivial ?_
  refine G.getcoder hi rfl (by decide +kernel) ?_
  refine G.if_ne (off := 7) (tgt := 17) (by decide +kernel) rfl (fun h => absurd rfl h) (fun _ => ?_)
  refine G.sl [(.iconst 1, 1, 0, 0, 0, nI 1), (.goto 4, 3, 18, 0, 0, 0)] [] (pc2 := 18) (ls2 := [some (.ref (1000 + i))]) (st2 := [.int (nI 1)]) (M2 := M) (Ps := []) (by decide +kernel) rfl rfl trivial ?_
  exact G.reti (by decide +kernel) rfl rfl (Nat.le_of_ble_eq_true rfl) (Nat.le_of_ble_eq_true rfl) rfl
theorem sl_sh : ∀ i : Nat, i < 25 → nI (sLen.getD i 0) >>> ((0 : Int32) &&& 31) = nI (sLen.getD i 0) := by decide +kernel
theorem c_slen (z : Zp) (d : Nat) (M : Mem) (i : Nat) (hi : i < 25) : GM z mJ0_length_8abf5 (d + 1) [.ref (1000 + i)] M (fun rs => rs = .inl (some (.int (nI (sLen.getD i 0))), M)) := by
  refine GM.of oJ0_length_8abf5.1 (Nat.le_of_ble_eq_true rfl) ?_
  show G z mJ0_length_8abf5 (d + 1) 0 0 0 [some (.ref (1000 + i))] [] M _
  refine G.sl [(.aload_n 0, 1, 0, 0, 0, 0)] [] (pc2 := 1) (ls2 := [some (.ref (1000 + i))]) (st2 := [.ref (1000 + i)]) (M2 := M) (Ps := []) (by decide +kernel) rfl rfl trivial ?_
  refine G.getval hi rfl (by decide +kernel) ?_
  refine G.blen hi (by decide +kernel) ?_
  refine G.sl [(.aload_n 0, 1, 0, 0, 0, 0)] [] (pc2 := 6) (ls2 := [some (.ref (1000 + i))]) (st2 := [.ref (1000 + i), .int (nI (sLen.getD i 0))]) (M2 := M) (Ps := []) (by decide +kernel) rfl rfl trivial ?_
  refine G.callT (as := []) (rest := [.int (nI (sLen.getD i 0))]) oJ0_coder_7d493 lk_java_lang_String_335 (by decide +kernel) rfl hi rfl (Nat.le_of_ble_eq_true rfl) rfl ⟨(Nat.le_of_ble_eq_true rfl), (Nat.le_of_ble_eq_true rfl)⟩ (c_coder z d M i hi) (fun v9 N9 h => ?_) (fun E9 N9 h => by cases h)
  cases h
  show G z mJ0_length_8abf5 (d + 1) 0 0 9 [some (.ref (1000 + i))] [.int 0, .int (nI (sLen.getD i 0))] M _
  refine G.sl [(.ishr, 1, 0, 0, 0, 0)] [] (pc2 := 10) (ls2 := [some (.ref (1000 + i))]) (st2 := [.int (nI (sLen.getD i 0) >>> ((0 : Int32) &&& 31))]) (M2 := M) (Ps := []) (by decide +kernel) rfl rfl trivial ?_
  rw [sl_sh i hi]
  exact G.reti (by decide +kernel) rfl rfl (Nat.le_of_ble_eq_true rfl) (Nat.le_of_ble_eq_true rfl) rfl
theorem c_chk3 (z : Zp) (d : Nat) (M : Mem) (j n : Nat) (hj : j < n) (hn : n < 2 ^ 31) : GM z mJ3_checkIndex_8e157 d [.int (nI j), .int (nI n), .ref 5000] M (fun rs => rs = .inl (some (.int (nI j)), M)) := by
  refine GM.of oJ3_checkIndex_8e157.1 (Nat.le_of_ble_eq_true rfl) ?_
  show G z mJ3_checkIndex_8e157 d 0 0 0 [some (.int (nI j)), some (.int (nI n)), some (.ref 5000)] [] M _
  refine G.sl [(.iload_n 0, 1, 0, 0, 0, 0)] [] (pc2 := 1) (ls2 := [some (.int (nI j)), some (.int (nI n)), some (.ref 5000)]) (st2 := [.int (nI j)]) (M2 := M) (Ps := []) (by decide +kernel) rfl rfl trivial ?_
  refine G.if_lt (off := 8) (tgt := 9) (by decide +kernel) rfl (fun h => absurd h (nI_pos (by omega))) (fun _ => ?_)
  refine G.sl [(.iload_n 0, 1, 0, 0, 0, 0), (.iload_n 1, 1, 1, 0, 0, 0)] [] (pc2 := 6) (ls2 := [some (.int (nI j)), some (.int (nI n)), some (.ref 5000)]) (st2 := [.int (nI n), .int (nI j)]) (M2 := M) (Ps := []) (by decide +kernel) rfl rfl trivial ?_
  refine G.ic_lt (off := 10) (tgt := 16) (by decide +kernel) rfl (fun _ => ?_) (fun h => absurd (nI_lt hj hn) h)
  refine G.sl [(.iload_n 0, 1, 0, 0, 0, 0)] [] (pc2 := 17) (ls2 := [some (.int (nI j)), some (.int (nI n)), some (.ref 5000)]) (st2 := [.int (nI j)]) (M2 := M) (Ps := []) (by decide +kernel) rfl rfl trivial ?_
  exact G.reti (by decide +kernel) rfl rfl (Nat.le_of_ble_eq_true rfl) (Nat.le_of_ble_eq_true rfl) rfl
theorem c_chk3n (z : Zp) (d : Nat) (M : Mem) (j n : Nat) (hj : j < n) (hn : n < 2 ^ 31) : GM z mJ3_checkIndex_8e157 d [.int (nI j), .int (nI n), .null] M (fun rs => rs = .inl (some (.int (nI j)), M)) := by
  refine GM.of oJ3_checkIndex_8e157.1 (Nat.le_of_ble_eq_true rfl) ?_
  show G z mJ3_checkIndex_8e157 d 0 0 0 [some (.int (nI j)), some (.int (nI n)), some (.null)] [] M _
  refine G.sl [(.iload_n 0, 1, 0, 0, 0, 0)] [] (pc2 := 1) (ls2 := [some (.int (nI j)), some (.int (nI n)), some (.null)]) (st2 := [.int (nI j)]) (M2 := M) (Ps := []) (by decide +kernel) rfl rfl trivial ?_
  refine G.if_lt (off := 8) (tgt := 9) (by decide +kernel) rfl (fun h => absurd h (nI_pos (by omega))) (fun _ => ?_)
  refine G.sl [(.iload_n 0, 1, 0, 0, 0, 0), (.iload_n 1, 1, 1, 0, 0, 0)] [] (pc2 := 6) (ls2 := [some (.int (nI j)), some (.int (nI n)), some (.null)]) (st2 := [.int (nI n), .int (nI j)]) (M2 := M) (Ps := []) (by decide +kernel) rfl rfl trivial ?_
  refine G.ic_lt (off := 10) (tgt := 16) (by decide +kernel) rfl (fun _ => ?_) (fun h => absurd (nI_lt hj hn) h)
  refine G.sl [(.iload_n 0, 1, 0, 0, 0, 0)] [] (pc2 := 17) (ls2 := [some (.int (nI j)), some (.int (nI n)), some (.null)]) (st2 := [.int (nI j)]) (M2 := M) (Ps := []) (by decide +kernel) rfl rfl trivial ?_
  exact G.reti (by decide +kernel) rfl rfl (Nat.le_of_ble_eq_true rfl) (Nat.le_of_ble_eq_true rfl) rfl
theorem c_chk0 (z : Zp) (d : Nat) (M : Mem) (j n : Nat) (hj : j < n) (hn : n < 2 ^ 31) : GM z mJ0_checkIndex_df160 (d + 1) [.int (nI j), .int (nI n)] M (fun rs => rs = .inl (none, M)) := by
  refine GM.of oJ0_checkIndex_df160.1 (Nat.le_of_ble_eq_true rfl) ?_
  show G z mJ0_checkIndex_df160 (d + 1) 0 0 0 [some (.int (nI j)), some (.int (nI n))] [] M _
  refine G.sl [(.iload_n 0, 1, 0, 0, 0, 0), (.iload_n 1, 1, 1, 0, 0, 0)] [] (pc2 := 2) (ls2 := [some (.int (nI j)), some (.int (nI n))]) (st2 := [.int (nI n), .int (nI j)]) (M2 := M) (Ps := []) (by decide +kernel) rfl rfl trivial ?_
  refine G.getfmt rfl (by decide +kernel) ?_ ?_
  · refine G.callS (as := [.int (nI j), .int (nI n), .ref 5000]) (rest := []) oJ3_checkIndex_8e157 lk_java_lang_String_1059 (by decide +kernel) rfl (Nat.le_of_ble_eq_true rfl) rfl ⟨(Nat.le_of_ble_eq_true rfl), (Nat.le_of_ble_eq_true rfl)⟩ (c_chk3 z d M j n hj hn) (fun v9 N9 h => ?_) (fun E9 N9 h => by cases h)
    cases h
    show G z mJ0_checkIndex_df160 (d + 1) 0 0 8 [some (.int (nI j)), some (.int (nI n))] [.int (nI j)] M _
    refine G.sl [(.pop, 1, 0, 0, 0, 0)] [] (pc2 := 9) (ls2 := [some (.int (nI j)), some (.int (nI n))]) (st2 := []) (M2 := M) (Ps := []) (by decide +kernel) rfl rfl trivial ?_
    exact G.retv (by decide +kernel) rfl (Nat.le_of_ble_eq_true rfl) (Nat.le_of_ble_eq_true rfl) rfl
  · refine G.callS (as := [.int (nI j), .int (nI n), .null]) (rest := []) oJ3_checkIndex_8e157 lk_java_lang_String_1059 (by decide +kernel) rfl (Nat.le_of_ble_eq_true rfl) rfl ⟨(Nat.le_of_ble_eq_true rfl), (Nat.le_of_ble_eq_true rfl)⟩ (c_chk3n z d M j n hj hn) (fun v9 N9 h => ?_) (fun E9 N9 h => by cases h)
    cases h
    show G z mJ0_checkIndex_df160 (d + 1) 0 0 8 [some (.int (nI j)), some (.int (nI n))] [.int (nI j)] M _
    refine G.sl [(.pop, 1, 0, 0, 0, 0)] [] (pc2 := 9) (ls2 := [some (.int (nI j)), some (.int (nI n))]) (st2 := []) (M2 := M) (Ps := []) (by decide +kernel) rfl rfl trivial ?_
    exact G.retv (by decide +kernel) rfl (Nat.le_of_ble_eq_true rfl) (Nat.le_of_ble_eq_true rfl) rfl
def sby (i j : Nat) : Int32 := (sByt.getD i []).getD j 0
theorem sby_c : ∀ i : Nat, i < 25 → ∀ j : Nat, j < 64 → (((sby i j) &&& (nI 255)).toUInt32 % 65536).toInt32 = sby i j := by decide +kernel
theorem sl_64 : ∀ i : Nat, i < 25 → sLen.getD i 0 < 64 := by decide +kernel
theorem c_lat1 (z : Zp) (d : Nat) (M : Mem) (i j : Nat) (hi : i < 25) (hj : j < sLen.getD i 0) : GM z mJ1_charAt_3b067 (d + 2) [.ref (4000 + i), .int (nI j)] M (fun rs => rs = .inl (some (.int (sby i j)), M)) := by
  have h64 := sl_64 i hi
  refine GM.of oJ1_charAt_3b067.1 (Nat.le_of_ble_eq_true rfl) ?_
  show G z mJ1_charAt_3b067 (d + 2) 0 0 0 [some (.ref (4000 + i)), some (.int (nI j))] [] M _
  refine G.sl [(.iload_n 1, 1, 1, 0, 0, 0), (.aload_n 0, 1, 0, 0, 0, 0)] [] (pc2 := 2) (ls2 := [some (.ref (4000 + i)), some (.int (nI j))]) (st2 := [.ref (4000 + i), .int (nI j)]) (M2 := M) (Ps := []) (by decide +kernel) rfl rfl trivial ?_
  refine G.blen hi (by decide +kernel) ?_
  refine G.callS (as := [.int (nI j), .int (nI (sLen.getD i 0))]) (rest := []) oJ0_checkIndex_df160 lk_java_lang_StringLatin1_9 (by decide +kernel) rfl (Nat.le_of_ble_eq_true rfl) rfl ⟨(Nat.le_of_ble_eq_true rfl), (Nat.le_of_ble_eq_true rfl)⟩ (c_chk0 z d M j _ hj (by omega)) (fun v9 N9 h => ?_) (fun E9 N9 h => by cases h)
  cases h
  show G z mJ1_charAt_3b067 (d + 2) 0 0 6 [some (.ref (4000 + i)), some (.int (nI j))] [] M _
  refine G.sl [(.aload_n 0, 1, 0, 0, 0, 0), (.iload_n 1, 1, 1, 0, 0, 0)] [] (pc2 := 8) (ls2 := [some (.ref (4000 + i)), some (.int (nI j))]) (st2 := [.int (nI j), .ref (4000 + i)]) (M2 := M) (Ps := []) (by decide +kernel) rfl rfl trivial ?_
  refine G.bald hi (vp_in_nI hj (by omega)) (by decide +kernel) ?_
  rw [nI_clamp (by omega)]
  show G z mJ1_charAt_3b067 (d + 2) 0 0 9 [some (.ref (4000 + i)), some (.int (nI j))] [.int (sby i j)] M _
  refine G.sl [(.sipush 255, 3, 0, 0, 0, nI 255), (.iand, 1, 0, 0, 0, 0), (.i2c, 1, 0, 0, 0, 0)] [] (pc2 := 14) (ls2 := [some (.ref (4000 + i)), some (.int (nI j))]) (st2 := [.int (((sby i j) &&& (nI 255)).toUInt32 % 65536).toInt32]) (M2 := M) (Ps := []) (by decide +kernel) rfl rfl trivial ?_
  rw [sby_c i hi j (by omega)]
  refine G.reti (by decide +kernel) rfl ?_ (Nat.le_of_ble_eq_true rfl) (Nat.le_of_ble_eq_true rfl) rfl
  rw [← sby_c i hi j (by omega)]
  exact pk_nc _
theorem c_charAt (z : Zp) (d : Nat) (M : Mem) (i j : Nat) (hi : i < 25) (hj : j < sLen.getD i 0) : GM z mJ0_charAt_5068e (d + 3) [.ref (1000 + i), .int (nI j)] M (fun rs => rs = .inl (some (.int (sby i j)), M)) := by
  have h64 := sl_64 i hi
  refine GM.of oJ0_charAt_5068e.1 (Nat.le_of_ble_eq_true rfl) ?_
  show G z mJ0_charAt_5068e (d + 3) 0 0 0 [some (.ref (1000 + i)), some (.int (nI j))] [] M _
  refine G.sl [(.aload_n 0, 1, 0, 0, 0, 0)] [] (pc2 := 1) (ls2 := [some (.ref (1000 + i)), some (.int (nI j))]) (st2 := [.ref (1000 + i)]) (M2 := M) (Ps := []) (by decide +kernel) rfl rfl trivial ?_
  refine G.callT (as := []) (rest := []) oJ0_isLatin1_aae02 lk_java_lang_String_492 (by decide +kernel) rfl hi rfl (Nat.le_of_ble_eq_true rfl) rfl ⟨(Nat.le_of_ble_eq_true rfl), (Nat.le_of_ble_eq_true rfl)⟩ (c_isLatin1 z (d + 2) M i hi) (fun v9 N9 h => ?_) (fun E9 N9 h => by cases h)
  cases h
  show G z mJ0_charAt_5068e (d + 3) 0 0 4 [some (.ref (1000 + i)), some (.int (nI j))] [.int (nI 1)] M _
  refine G.if_eq (off := 12) (tgt := 16) (by decide +kernel) rfl (fun h => absurd h (by decide)) (fun _ => ?_)
  refine G.sl [(.aload_n 0, 1, 0, 0, 0, 0)] [] (pc2 := 8) (ls2 := [some (.ref (1000 + i)), some (.int (nI j))]) (st2 := [.ref (1000 + i)]) (M2 := M) (Ps := []) (by decide +kernel) rfl rfl trivial ?_
  refine G.getval hi rfl (by decide +kernel) ?_
  refine G.sl [(.iload_n 1, 1, 1, 0, 0, 0)] [] (pc2 := 12) (ls2 := [some (.ref (1000 + i)), some (.int (nI j))]) (st2 := [.int (nI j), .ref (4000 + i)]) (M2 := M) (Ps := []) (by decide +kernel) rfl rfl trivial ?_
  refine G.callS (as := [.ref (4000 + i), .int (nI j)]) (rest := []) oJ1_charAt_3b067 lk_java_lang_String_495 (by decide +kernel) rfl (Nat.le_of_ble_eq_true rfl) rfl ⟨(Nat.le_of_ble_eq_true rfl), (Nat.le_of_ble_eq_true rfl)⟩ (c_lat1 z d M i j hi hj) (fun v9 N9 h => ?_) (fun E9 N9 h => by cases h)
  cases h
  show G z mJ0_charAt_5068e (d + 3) 0 0 15 [some (.ref (1000 + i)), some (.int (nI j))] [.int (sby i j)] M _
  refine G.reti (by decide +kernel) rfl ?_ (Nat.le_of_ble_eq_true rfl) (Nat.le_of_ble_eq_true rfl) rfl
  rw [← sby_c i hi j (by omega)]
  exact pk_nc _
