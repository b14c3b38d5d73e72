/-! what the start gives: the environment -/
def tmS (i : Nat) : Term := Term.string (sOwn.getD i "") (sIdx.getD i 0)
def lnS (i : Nat) : List Cond := [.exactly (tmS i) "java/lang/String", .eq (.field (tmS i) "java/lang/String" "coder" "B") (.int 0), .arrayOf (.field (tmS i) "java/lang/String" "value" "[B") .byte, .eq (.length (.field (tmS i) "java/lang/String" "value" "[B")) (.int (Int32.ofNat (sLen.getD i 0)))] ++ (List.range (sLen.getD i 0)).map (fun j => .eq (.elem (.field (tmS i) "java/lang/String" "value" "[B") (.int (Int32.ofNat j))) (.int ((sByt.getD i []).getD j 0))) ++ (List.range i).map (fun j => .not (.eq (tmS j) (tmS i)))
def allS : List Cond := (List.range 25).flatMap lnS
theorem fl_S : ((flatC (Jvm.Cond.and given_1 narrow_1)).drop 44).take 660 = allS := by decide +kernel
theorem fl_in {i : Nat} {w : Cond} (hi : i < 25) (h : w ∈ lnS i) : w ∈ flatC (Jvm.Cond.and given_1 narrow_1) := by
  have : w ∈ allS := List.mem_flatMap.mpr ⟨i, List.mem_range.mpr hi, h⟩
  rw [← fl_S] at this
  exact List.mem_of_mem_drop (List.mem_of_mem_take this)
theorem sLen_lt : ∀ i, i < 25 → sLen.getD i 0 < 2 ^ 31 := by decide +kernel
def rfW : List (Nat × Nat) := [(3, 23), (3, 66), (3, 238), (4, 25), (4, 197), (7, 71), (7, 77), (7, 78), (7, 79), (7, 80), (7, 148), (7, 153), (7, 158), (7, 159), (7, 160), (7, 161), (7, 162), (7, 163), (7, 164), (7, 176), (7, 177), (7, 178), (7, 179), (7, 180), (7, 181)]
theorem rf_ok : (List.range 25).all (fun i => decide ((tb (rfW.getD i (0, 0)).1)[(rfW.getD i (0, 0)).2]? = some (Cond.stringRef (sOwn.getD i "") (sIdx.getD i 0) (sTx.getD i "")))) = true := by decide +kernel
theorem rf_in {i : Nat} (hi : i < 25) : Cond.stringRef (sOwn.getD i "") (sIdx.getD i 0) (sTx.getD i "") ∈ lw_tbl := tb_in _ _ (List.mem_of_getElem? (of_decide_eq_true (List.all_eq_true.mp rf_ok i (List.mem_range.mpr hi))))
theorem tl {k i : Nat} {w : Cond} (h : (tb k)[i]? = some w) : w ∈ lw_tbl := tb_in k w (List.mem_of_getElem? h)
theorem fl_at {i : Nat} {w : Cond} (h : (flatC (Jvm.Cond.and given_1 narrow_1))[i]? = some w) : w ∈ flatC (Jvm.Cond.and given_1 narrow_1) := List.mem_of_getElem? h
theorem dds_in : ∀ j, j < 4 → (flatC (Jvm.Cond.and given_1 narrow_1))[14 + j]? = some (Cond.eq (.elem (.static "EvenFinders$Odds" "DEEDS" "[I") (.int (Int32.ofNat j))) (.int (dds j))) := by decide +kernel
theorem ev_start {s : State} (l : Launch) {b L : Nat} {xs : Nat → Int32} (hts : ∀ w ∈ lw_tbl, w.before #[Value.ref b] s = true) (hX : va_X b L xs s s.heap) (hb : b < s.heap.size) (hg : (Jvm.Cond.and given_1 narrow_1).before #[Value.ref b] s = true) : ∃ ad adV : Nat → Nat, ad 3000 = b ∧ EV (l, L, xs) ad adV (fun q => s.heap.size ≤ q) s s.heap := by
  have hA : ∀ a : Nat, a < s.heap.size → ¬ (fun q => s.heap.size ≤ q) a := fun a h q => Nat.lt_irrefl _ (Nat.lt_of_lt_of_le h q)
  have hs := flat_of_before _ hg
  obtain ⟨adK, adV, hS, hK⟩ := vk_Sof (args := #[Value.ref b]) (s := s) (N := 25) (tm := tmS) (len := sLen) (byt := sByt) (A := fun q => s.heap.size ≤ q) sLen_lt
    (fun i hi => hs _ (fl_in hi (by unfold lnS; simp))) (fun i hi => hs _ (fl_in hi (by unfold lnS; simp))) (fun i hi => hs _ (fl_in hi (by unfold lnS; simp))) (fun i hi => hs _ (fl_in hi (by unfold lnS; simp)))
    (fun i hi j hj => hs _ (fl_in hi (List.mem_append_left _ (List.mem_append_right _ (List.mem_map.mpr ⟨j, List.mem_range.mpr hj, rfl⟩)))))
    (fun i j hi hj hij => by
      by_cases h : i < j
      · exact Or.inl (hs _ (fl_in hj (List.mem_append_right _ (List.mem_map.mpr ⟨i, List.mem_range.mpr h, rfl⟩))))
      · exact Or.inr (hs _ (fl_in hi (List.mem_append_right _ (List.mem_map.mpr ⟨j, List.mem_range.mpr (by omega), rfl⟩)))))
    hA
  have iS := hts _ (tl (k := 1) (i := 19) (w := .initialized "java/lang/String") (by decide +kernel))
  have iT := hts _ (tl (k := 1) (i := 15) (w := .initialized "java/lang/Throwable") (by decide +kernel))
  have iP := hts _ (tl (k := 1) (i := 21) (w := .initialized "jdk/internal/util/Preconditions") (by decide +kernel))
  have iO := hts _ (tl (k := 1) (i := 26) (w := .initialized "EvenFinders$Odds") (by decide +kernel))
  obtain ⟨t, ht, hT⟩ := va_Tof (args := #[Value.ref b]) (s := s) (tm := .static "EvenFinders$Odds" "DEEDS" "[I") (ty := .int) (N := 4) (f := fun j => .int (dds j)) (A := fun q => s.heap.size ≤ q) (by decide) (hs _ (fl_at (i := 12) (by decide +kernel))) (va_eqt (hs _ (fl_at (i := 13) (by decide +kernel)))) (fun j hj => va_eqt (hs _ (fl_at (dds_in j hj)))) hA
  have hF := va_Zqof (hts _ (tl (k := 3) (i := 101) (w := .laysStatic "jdk/internal/util/Preconditions" "SIOOBE_FORMATTER" "Ljava/util/function/BiFunction;") (by decide +kernel))) iP (hs _ (fl_at (i := 7) (by decide +kernel))) hA
  obtain ⟨g, hg5⟩ : ∃ g : Nat, va_Z "jdk/internal/util/Preconditions" "SIOOBE_FORMATTER" "Ljava/util/function/BiFunction;" .null (fun q => s.heap.size ≤ q) s s.heap ∨ va_Z "jdk/internal/util/Preconditions" "SIOOBE_FORMATTER" "Ljava/util/function/BiFunction;" (.ref g) (fun q => s.heap.size ≤ q) s s.heap := by
    rcases hF with h | ⟨t, h⟩
    · exact ⟨0, Or.inl h⟩
    · exact ⟨t, Or.inr h⟩
  obtain ⟨ad, had⟩ : ∃ ad : Nat → Nat, ∀ n, ad n = (if n < 2000 then adK (n - 1000) else if n < 3000 then t else if n < 4000 then b else if n < 5000 then adV (n - 4000) else g) := ⟨_, fun _ => rfl⟩
  have a1 : ∀ i, i < 25 → ad (1000 + i) = adK i := fun i hi => by rw [had, if_pos (by omega), Nat.add_sub_cancel_left]
  have a2 : ad 2000 = t := by rw [had]; rfl
  have a3 : ad 3000 = b := by rw [had]; rfl
  have a4 : ∀ i, i < 25 → ad (4000 + i) = adV i := fun i hi => by rw [had, if_neg (by omega), if_neg (by omega), if_neg (by omega), if_pos (by omega), Nat.add_sub_cancel_left]
  have a5 : ad 5000 = g := by rw [had]; rfl
  refine ⟨ad, adV, a3, ?_, ?_, fun i hi => ?_, ⟨fun i hi => ?_, fun i j hi hj e => ?_⟩, ?_, ?_, ⟨?_, ?_, ?_⟩, ⟨?_, fun i hi => (a4 i hi).symm, ?_⟩, ?_, ?_⟩
  · exact vx_Zqof (hts _ (tl (k := 3) (i := 10) (by decide +kernel))) iT (hs _ (fl_at (i := 4) (by decide +kernel))) hA
  · exact vx_Zqof (hts _ (tl (k := 3) (i := 12) (by decide +kernel))) iT (hs _ (fl_at (i := 5) (by decide +kernel))) hA
  · rw [a1 i hi]
    exact vk_R.of (hts _ (rf_in hi)) (hK i hi)
  · show va_O "java/lang/String" (ad (1000 + i)) _ s s.heap ∧ va_OF "java/lang/String" "coder" "B" (.int 0) (ad (1000 + i)) _ s s.heap ∧ va_OF "java/lang/String" "value" "[B" (.ref (adV i)) (ad (1000 + i)) _ s s.heap ∧ _
    rw [a1 i hi]
    exact hS.1 i hi
  · have e2 : ad (1000 + i) = ad (1000 + j) := e
    rw [a1 i hi, a1 j hj] at e2
    exact hS.2 i j hi hj e2
  · rw [a2]
    exact va_Zof (hts _ (tl (k := 5) (i := 196) (by decide +kernel))) iO ht hA
  · rw [a2]
    exact hT
  · rw [a3]; exact hX
  · rw [a3]; exact hA _ hb
  · rw [a3]; exact hb
  · exact va_Zof (hts _ (tl (k := 3) (i := 85) (by decide +kernel))) iS (va_eqt (hs _ (fl_at (i := 6) (by decide +kernel)))) hA
  · rw [a5]; exact hg5
  · exact va_Nc.of (hs _ (fl_at (i := 43) (by decide +kernel)))
  · intro w hw
    simp only [xw, List.mem_cons, List.not_mem_nil, or_false] at hw
    rcases hw with rfl | rfl | rfl | rfl | rfl
    · exact va_Nw.of rfl (hts _ (tl (k := 2) (i := 225) (by decide +kernel)))
    · exact va_Nw.of rfl (hts _ (tl (k := 4) (i := 190) (by decide +kernel)))
    · exact va_Nw.of rfl (hts _ (tl (k := 2) (i := 227) (by decide +kernel)))
    · exact va_Nw.of rfl (hts _ (tl (k := 2) (i := 229) (by decide +kernel)))
    · exact va_Nw.of rfl (hts _ (tl (k := 2) (i := 231) (by decide +kernel)))
