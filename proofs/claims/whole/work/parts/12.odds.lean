def hs (e o v w : Int32) : Int32 := (if e = (nI 1) then nI 0 else (if o = 0 then -w else v - w))
theorem c_has (z : Zp) (d : Nat) (M : Mem) (e o v w : Int32)  : GM z mX4_has (d) [.int e, .int o, .int v, .int w] M (fun rs => rs = .inl (some (.int (hs e o v w)), M)) := by
  refine GM.of oX4_has.1 (Nat.le_of_ble_eq_true rfl) ?_
  show G z mX4_has (d) 0 0 0 [some (.int e), some (.int o), some (.int v), some (.int w)] [] M _
  refine G.sl [(.iload_n 0, 1, 0, 0, 0, 0), (.iconst 1, 1, 0, 0, 0, nI 1)] [] (pc2 := 2) (ls2 := [some (.int e), some (.int o), some (.int v), some (.int w)]) (st2 := [.int (nI 1), .int e]) (M2 := M) (Ps := []) (by decide +kernel) rfl rfl trivial ?_
  refine G.ic_ne (off := (5)) (tgt := 7) (by decide +kernel) rfl (fun c1 => ?_) (fun c1 => ?_)
  · refine G.sl [(.iload_n 1, 1, 1, 0, 0, 0)] [] (pc2 := 8) (ls2 := [some (.int e), some (.int o), some (.int v), some (.int w)]) (st2 := [.int o]) (M2 := M) (Ps := []) (by decide +kernel) rfl rfl trivial ?_
    refine G.if_ne (off := (8)) (tgt := 16) (by decide +kernel) rfl (fun c2 => ?_) (fun c2 => ?_)
    · refine G.sl [(.iload_n 2, 1, 2, 0, 0, 0), (.iload_n 3, 1, 3, 0, 0, 0), (.isub, 1, 0, 0, 0, 0)] [] (pc2 := 19) (ls2 := [some (.int e), some (.int o), some (.int v), some (.int w)]) (st2 := [.int (v - w)]) (M2 := M) (Ps := []) (by decide +kernel) rfl rfl trivial ?_
      exact G.reti (by decide +kernel) rfl rfl (Nat.le_of_ble_eq_true rfl) (Nat.le_of_ble_eq_true rfl) (by simp only [hs, if_neg c1, if_neg c2])
    · refine G.sl [(.iload_n 3, 1, 3, 0, 0, 0), (.ineg, 1, 0, 0, 0, 0), (.goto 6, 3, 19, 0, 0, 0)] [] (pc2 := 19) (ls2 := [some (.int e), some (.int o), some (.int v), some (.int w)]) (st2 := [.int (-w)]) (M2 := M) (Ps := []) (by decide +kernel) rfl rfl trivial ?_
      exact G.reti (by decide +kernel) rfl rfl (Nat.le_of_ble_eq_true rfl) (Nat.le_of_ble_eq_true rfl) (by simp only [hs, if_neg c1, if_pos c2])
  · refine G.sl [(.iconst 0, 1, 0, 0, 0, nI 0)] [] (pc2 := 6) (ls2 := [some (.int e), some (.int o), some (.int v), some (.int w)]) (st2 := [.int (nI 0)]) (M2 := M) (Ps := []) (by decide +kernel) rfl rfl trivial ?_
    exact G.reti (by decide +kernel) rfl rfl (Nat.le_of_ble_eq_true rfl) (Nat.le_of_ble_eq_true rfl) (by simp only [hs, if_pos c1])
theorem fltg {a b : Nat} (h : a < b) (hb : b < 2 ^ 31) : nI a < nI b := nI_lt h hb
theorem fltn {a b : Nat} (h : b ≤ a) (hb : a < 2 ^ 31) : ¬ nI a < nI b := nI_nlt h hb
theorem i64_ne0 {k : Nat} (h0 : 0 < k) (h : k < 2 ^ 31) : ¬ (nI k).toInt64 = 0 := by
  rw [nI_l h]
  have e : (0 : Int64) = lN 0 := rfl
  rw [e, lN_eq h (by omega)]
  omega
def chl (n k : Nat) : Nat → Int64
  | 0 => 1
  | i + 1 => ((chl n k i) * ((((nI n) - (nI k)) + (nI (1 + i))).toInt64)) / ((nI (1 + i)).toInt64)
def chs (n k : Nat) : Int64 := (if (nI k) ≤ (nI n) then chl n k k else 0)
theorem c_choose (z : Zp) (d : Nat) (M : Mem) (n k : Nat) (hn : n ≤ 20) (hk : k ≤ 20) : GM z mX4_choose d [.int (nI n), .int (nI k)] M (fun rs => rs = .inl (some (.long (chs n k)), M)) := by
  refine GM.of oX4_choose.1 (Nat.le_of_ble_eq_true rfl) ?_
  show G z mX4_choose (d) 0 0 0 [some (.int (nI n)), some (.int (nI k)), none, none, none] [] M _
  refine G.sl [(.iload_n 1, 1, 1, 0, 0, 0), (.iload_n 0, 1, 0, 0, 0, 0)] [] (pc2 := 2) (ls2 := [some (.int (nI n)), some (.int (nI k)), none, none, none]) (st2 := [.int (nI n), .int (nI k)]) (M2 := M) (Ps := []) (by decide +kernel) rfl rfl trivial ?_
  refine G.ic_le (off := (5)) (tgt := 7) (by decide +kernel) rfl (fun c1 => ?_) (fun c1 => ?_)
  · refine G.sl [(.lconst 1, 1, 1, 0, 0, 0), (.lstore_n 2, 1, 2, 0, 0, 0), (.iconst 1, 1, 0, 0, 0, nI 1), (.istore 4, 2, 4, 0, 0, 0)] [] (pc2 := 12) (ls2 := [some (.int (nI n)), some (.int (nI k)), some (.long 1), none, some (.int (nI 1))]) (st2 := []) (M2 := M) (Ps := []) (by decide +kernel) rfl rfl trivial ?_
    refine down (n := k) (P := fun i => G z mX4_choose (d) 0 0 12 [some (.int (nI n)), some (.int (nI k)), some (.long (chl n k i)), none, some (.int (nI (1 + i)))] [] M (fun rs => rs = .inl (some (.long (chs n k)), M))) ?_ ?_ 0 (Nat.zero_le _)
    · refine G.sl [(.iload 4, 2, 4, 0, 0, 0), (.iload_n 1, 1, 1, 0, 0, 0)] [] (pc2 := 15) (ls2 := [some (.int (nI n)), some (.int (nI k)), some (.long (chl n k k)), none, some (.int (nI (1 + k)))]) (st2 := [.int (nI k), .int (nI (1 + k))]) (M2 := M) (Ps := []) (by decide +kernel) rfl rfl trivial ?_
      refine G.ic_gt (off := (23)) (tgt := 38) (by decide +kernel) rfl (fun _ => ?_) (fun h9 => absurd (fltg (by omega) (by omega)) h9)
      refine G.sl [(.lload_n 2, 1, 2, 0, 0, 0)] [] (pc2 := 39) (ls2 := [some (.int (nI n)), some (.int (nI k)), some (.long (chl n k k)), none, some (.int (nI (1 + k)))]) (st2 := [.long (chl n k k)]) (M2 := M) (Ps := []) (by decide +kernel) rfl rfl trivial ?_
      exact G.retl (by decide +kernel) rfl (Nat.le_of_ble_eq_true rfl) (Nat.le_of_ble_eq_true rfl) (by simp only [chs, if_pos c1])
    · intro i hi ih
      refine G.sl [(.iload 4, 2, 4, 0, 0, 0), (.iload_n 1, 1, 1, 0, 0, 0)] [] (pc2 := 15) (ls2 := [some (.int (nI n)), some (.int (nI k)), some (.long (chl n k i)), none, some (.int (nI (1 + i)))]) (st2 := [.int (nI k), .int (nI (1 + i))]) (M2 := M) (Ps := []) (by decide +kernel) rfl rfl trivial ?_
      refine G.ic_gt (off := (23)) (tgt := 38) (by decide +kernel) rfl (fun h9 => absurd h9 (fltn (by omega) (by omega))) (fun _ => ?_)
      refine G.sl [(.lload_n 2, 1, 2, 0, 0, 0), (.iload_n 0, 1, 0, 0, 0, 0), (.iload_n 1, 1, 1, 0, 0, 0), (.isub, 1, 0, 0, 0, 0), (.iload 4, 2, 4, 0, 0, 0), (.iadd, 1, 0, 0, 0, 0), (.i2l, 1, 0, 0, 0, 0), (.lmul, 1, 0, 0, 0, 0), (.iload 4, 2, 4, 0, 0, 0), (.i2l, 1, 0, 0, 0, 0), (.ldiv, 1, 0, 0, 0, 0), (.lstore_n 2, 1, 2, 0, 0, 0), (.iinc 4 1, 3, 4, 0, 0, nI 1), (.goto (-23), 3, 12, 0, 0, 0)] [] (pc2 := 12) (ls2 := [some (.int (nI n)), some (.int (nI k)), some (.long (((chl n k i) * ((((nI n) - (nI k)) + (nI (1 + i))).toInt64)) / ((nI (1 + i)).toInt64))), none, some (.int ((nI (1 + i)) + nI 1))]) (st2 := []) (M2 := M) (Ps := [¬ ((nI (1 + i)).toInt64) = 0]) (by decide +kernel) rfl rfl ⟨(i64_ne0 (by omega) (by omega)), trivial⟩ ?_
      rw [nI_add]
      simp only [chl] at ih
      exact ih
  · refine G.sl [(.lconst 0, 1, 0, 0, 0, 0)] [] (pc2 := 6) (ls2 := [some (.int (nI n)), some (.int (nI k)), none, none, none]) (st2 := [.long 0]) (M2 := M) (Ps := []) (by decide +kernel) rfl rfl trivial ?_
    exact G.retl (by decide +kernel) rfl (Nat.le_of_ble_eq_true rfl) (Nat.le_of_ble_eq_true rfl) (by simp only [chs, if_neg c1])
def hcl_r (O : Nat → Int32)  : Nat → Int32 := upd (upd (O) 0 (nI 0)) 1 (nI 0)
theorem c_hclear (z : Zp) (d : Nat) (M : Mem)   : GM z mX2_clear (d) [.ref 43] M (fun rs => rs = .inl (none, mrow M 43 (hcl_r (M.1 43)))) := by
  refine GM.of oX2_clear.1 (Nat.le_of_ble_eq_true rfl) ?_
  show G z mX2_clear (d) 0 0 0 [some (.ref 43)] [] M _
  refine G.sl [(.aload_n 0, 1, 0, 0, 0, 0), (.iconst 0, 1, 0, 0, 0, nI 0), (.putfield 21, 3, 2, 0, 81, 0), (.aload_n 0, 1, 0, 0, 0, 0), (.iconst 0, 1, 0, 0, 0, nI 0), (.putfield 25, 3, 2, 1, 83, 0)] [] (pc2 := 10) (ls2 := [some (.ref 43)]) (st2 := []) (M2 := mput (mput M 43 0 (nI 0)) 43 1 (nI 0)) (Ps := []) (by decide +kernel) rfl rfl trivial ?_
  refine G.mem (M' := mrow M 43 (upd (upd (M.1 43) 0 (nI 0)) 1 (nI 0))) (by simp only [mrow_same, mrow_hit, mrow_miss, mrow_swap, ne_eq, Nat.reduceEqDiff, not_false_eq_true, Nat.reduceLT, reduceCtorEq]) ?_
  exact G.retv (by decide +kernel) rfl (Nat.le_of_ble_eq_true rfl) (Nat.le_of_ble_eq_true rfl) (by simp only [hcl_r, mrow_self])
def ff (X : Nat → Int32) (p o : Nat) : Int32 := (if (nI 1000) ≤ (X (p * 8 + o)) then (-1) else X (p * 8 + o))
theorem c_farFrom (z : Zp) (d : Nat) (M : Mem) (p o : Nat) (hp8 : p < 8) (ho8 : o < 8) : GM z mX7_farFrom (d) [.ref 3, .int (nI p), .int (nI o)] M (fun rs => rs = .inl (some (.int (ff (M.1 11) p o)), M)) := by
  refine GM.of oX7_farFrom.1 (Nat.le_of_ble_eq_true rfl) ?_
  show G z mX7_farFrom (d) 0 0 0 [some (.ref 3), some (.int (nI p)), some (.int (nI o)), none] [] M _
  refine G.sl [(.aload_n 0, 1, 0, 0, 0, 0), (.getfield 33, 3, 6, 11, 52, 0), (.iload_n 1, 1, 1, 0, 0, 0), (.bipush 8, 2, 0, 0, 0, nI 8), (.imul, 1, 0, 0, 0, 0), (.iload_n 2, 1, 2, 0, 0, 0), (.iadd, 1, 0, 0, 0, 0), (.iaload, 1, 0, 0, 0, 0), (.istore_n 3, 1, 3, 0, 0, 0), (.iload_n 3, 1, 3, 0, 0, 0), (.sipush 1000, 3, 0, 0, 0, nI 1000)] [p * 8 + o] (pc2 := 16) (ls2 := [some (.ref 3), some (.int (nI p)), some (.int (nI o)), some (.int (M.1 11 (p * 8 + o)))]) (st2 := [.int (nI 1000), .int (M.1 11 (p * 8 + o))]) (M2 := M) (Ps := [(((nI p) * (nI 8)) + (nI o)) = nI (p * 8 + o) ∧ (p * 8 + o) < 64]) (by decide +kernel) rfl rfl ⟨⟨(by simp only [nI_add, pk_mul]), by omega⟩, trivial⟩ ?_
  refine G.ic_ge (off := (7)) (tgt := 23) (by decide +kernel) rfl (fun c1 => ?_) (fun c1 => ?_)
  · refine G.sl [(.iconst (-1), 1, 0, 0, 0, (-1))] [] (pc2 := 24) (ls2 := [some (.ref 3), some (.int (nI p)), some (.int (nI o)), some (.int (M.1 11 (p * 8 + o)))]) (st2 := [.int ((-1))]) (M2 := M) (Ps := []) (by decide +kernel) rfl rfl trivial ?_
    exact G.reti (by decide +kernel) rfl rfl (Nat.le_of_ble_eq_true rfl) (Nat.le_of_ble_eq_true rfl) (by simp only [ff, if_pos c1])
  · refine G.sl [(.iload_n 3, 1, 3, 0, 0, 0), (.goto 4, 3, 24, 0, 0, 0)] [] (pc2 := 24) (ls2 := [some (.ref 3), some (.int (nI p)), some (.int (nI o)), some (.int (M.1 11 (p * 8 + o)))]) (st2 := [.int (M.1 11 (p * 8 + o))]) (M2 := M) (Ps := []) (by decide +kernel) rfl rfl trivial ?_
    exact G.reti (by decide +kernel) rfl rfl (Nat.le_of_ble_eq_true rfl) (Nat.le_of_ble_eq_true rfl) (by simp only [ff, if_neg c1])
def wto (X : Nat → Int32) (s : Nat) : Option Nat → Int32
  | none => (-1)
  | some p => ff X s p
theorem c_wayTo (z : Zp) (d : Nat) (M : Mem) (a t s : Nat) (l : Option Nat) (ha : a < 6) (h10 : t < 10) (hs : M.1 38 (1 + a) = nI s) (hs8 : s < 8) (hl : M.1 38 (31 + t) = en l) (hp8 : ∀ p, l = some p → p < 8) : GM z mX8_wayTo (d + 1) [.ref 47, .int (nI a), .int (nI t)] M (fun rs => rs = .inl (some (.int (wto (M.1 11) s l)), M)) := by
  refine GM.of oX8_wayTo.1 (Nat.le_of_ble_eq_true rfl) ?_
  show G z mX8_wayTo (d + 1) 0 0 0 [some (.ref 47), some (.int (nI a)), some (.int (nI t)), none] [] M _
  refine G.sl [(.aload_n 0, 1, 0, 0, 0, 0), (.getfield 19, 3, 7, 1, 89, 0), (.getfield 23, 3, 1, 0, 74, 0), (.bipush 31, 2, 0, 0, 0, nI 31), (.iload_n 2, 1, 2, 0, 0, 0), (.iadd, 1, 0, 0, 0, 0), (.iaload, 1, 0, 0, 0, 0), (.istore_n 3, 1, 3, 0, 0, 0), (.iload_n 3, 1, 3, 0, 0, 0), (.iconst (-1), 1, 0, 0, 0, (-1))] [31 + t] (pc2 := 15) (ls2 := [some (.ref 47), some (.int (nI a)), some (.int (nI t)), some (.int (M.1 38 (31 + t)))]) (st2 := [.int ((-1)), .int (M.1 38 (31 + t))]) (M2 := M) (Ps := [((nI 31) + (nI t)) = nI (31 + t) ∧ (31 + t) < 51]) (by decide +kernel) rfl rfl ⟨⟨(by simp only [nI_add, pk_mul]), by omega⟩, trivial⟩ ?_
  rw [hl]
  rcases l with _ | p
  · show G z mX8_wayTo (d + 1) 0 0 15 [some (.ref 47), some (.int (nI a)), some (.int (nI t)), some (.int ((-1)))] [.int ((-1)), .int ((-1))] M _
    refine G.ic_ne (off := (7)) (tgt := 22) (by decide +kernel) rfl (fun h9 => absurd (by decide) h9) (fun _ => ?_)
    refine G.sl [(.iconst (-1), 1, 0, 0, 0, (-1)), (.goto 22, 3, 41, 0, 0, 0)] [] (pc2 := 41) (ls2 := [some (.ref 47), some (.int (nI a)), some (.int (nI t)), some (.int ((-1)))]) (st2 := [.int ((-1))]) (M2 := M) (Ps := []) (by decide +kernel) rfl rfl trivial ?_
    exact G.reti (by decide +kernel) rfl rfl (Nat.le_of_ble_eq_true rfl) (Nat.le_of_ble_eq_true rfl) rfl
  · show G z mX8_wayTo (d + 1) 0 0 15 [some (.ref 47), some (.int (nI a)), some (.int (nI t)), some (.int (nI p))] [.int ((-1)), .int (nI p)] M _
    have hp8 := hp8 p rfl
    refine G.ic_ne (off := (7)) (tgt := 22) (by decide +kernel) rfl (fun _ => ?_) (fun h9 => absurd h9 (nI_nm (by omega)))
    refine G.sl [(.aload_n 0, 1, 0, 0, 0, 0), (.getfield 15, 3, 7, 0, 88, 0), (.aload_n 0, 1, 0, 0, 0, 0), (.getfield 19, 3, 7, 1, 89, 0), (.getfield 23, 3, 1, 0, 74, 0), (.iconst 1, 1, 0, 0, 0, nI 1), (.iload_n 1, 1, 1, 0, 0, 0), (.iadd, 1, 0, 0, 0, 0), (.iaload, 1, 0, 0, 0, 0), (.iload_n 3, 1, 3, 0, 0, 0)] [1 + a] (pc2 := 38) (ls2 := [some (.ref 47), some (.int (nI a)), some (.int (nI t)), some (.int (nI p))]) (st2 := [.int (nI p), .int (M.1 38 (1 + a)), .ref 3]) (M2 := M) (Ps := [((nI 1) + (nI a)) = nI (1 + a) ∧ (1 + a) < 51]) (by decide +kernel) rfl rfl ⟨⟨(by simp only [nI_add, pk_mul]), by omega⟩, trivial⟩ ?_
    rw [hs]
    refine G.callV (as := [.int (nI s), .int (nI p)]) (rest := []) (a := 3) oX7_farFrom lk_EvenFinders_Ways_28 (by decide +kernel) rfl rfl ⟨rfl, rfl⟩ (Nat.le_of_ble_eq_true rfl) rfl ⟨Nat.le_of_ble_eq_true rfl, Nat.le_of_ble_eq_true rfl⟩ (c_farFrom z _ _ s p (by omega) (by omega)) (fun v9 N9 h1 => ?_) (fun E9 N9 h1 => by cases h1)
    cases h1
    exact G.reti (by decide +kernel) rfl rfl (Nat.le_of_ble_eq_true rfl) (Nat.le_of_ble_eq_true rfl) rfl
