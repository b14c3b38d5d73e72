def hb (R : Nat → Int32) (f : Int32) : Nat → Int32
  | 0 => nI 0
  | i + 1 => (if (R (41 + i)) = f then (hb R f i) ||| ((nI 1) <<< ((nI i) &&& 31)) else hb R f i)
theorem c_heldBy_37 (z : Zp) (d : Nat) (M : Mem) (f : Int32) (nt : Nat) (hnt : nt ≤ 10) (ht : M.1 3 2 = nI nt) : GM z mX1_heldBy (d) [.ref 37, .int f] M (fun rs => rs = .inl (some (.int (hb (M.1 38) f nt)), M)) := by
  refine GM.of oX1_heldBy.1 (Nat.le_of_ble_eq_true rfl) ?_
  show G z mX1_heldBy (d) 0 0 0 [some (.ref 37), some (.int f), none, none] [] M _
  refine G.sl [(.iconst 0, 1, 0, 0, 0, nI 0), (.istore_n 2, 1, 2, 0, 0, 0), (.iconst 0, 1, 0, 0, 0, nI 0), (.istore_n 3, 1, 3, 0, 0, 0)] [] (pc2 := 4) (ls2 := [some (.ref 37), some (.int f), some (.int (nI 0)), some (.int (nI 0))]) (st2 := []) (M2 := M) (Ps := []) (by decide +kernel) rfl rfl trivial ?_
  refine down (n := nt) (P := fun i => G z mX1_heldBy (d) 0 0 4 [some (.ref 37), some (.int f), some (.int (hb (M.1 38) f i)), some (.int (nI i))] [] M (fun rs => rs = .inl (some (.int (hb (M.1 38) f nt)), M))) ?_ ?_ 0 (Nat.zero_le _)
  · refine G.sl [(.iload_n 3, 1, 3, 0, 0, 0), (.aload_n 0, 1, 0, 0, 0, 0), (.getfield 18, 3, 1, 2, 79, 0), (.getfield 86, 3, 6, 2, 28, 0)] [] (pc2 := 12) (ls2 := [some (.ref 37), some (.int f), some (.int (hb (M.1 38) f nt)), some (.int (nI nt))]) (st2 := [.int (M.1 3 2), .int (nI nt)]) (M2 := M) (Ps := []) (by decide +kernel) rfl rfl trivial ?_
    refine G.ic_ge (off := (28)) (tgt := 40) (by decide +kernel) rfl (fun _ => ?_) (fun h9 => absurd (by rw [ht]; exact nI_le (Nat.le_refl nt) (by omega)) h9)
    refine G.sl [(.iload_n 2, 1, 2, 0, 0, 0)] [] (pc2 := 41) (ls2 := [some (.ref 37), some (.int f), some (.int (hb (M.1 38) f nt)), some (.int (nI nt))]) (st2 := [.int (hb (M.1 38) f nt)]) (M2 := M) (Ps := []) (by decide +kernel) rfl rfl trivial ?_
    exact G.reti (by decide +kernel) rfl rfl (Nat.le_of_ble_eq_true rfl) (Nat.le_of_ble_eq_true rfl) rfl
  · intro i hi ih
    refine G.sl [(.iload_n 3, 1, 3, 0, 0, 0), (.aload_n 0, 1, 0, 0, 0, 0), (.getfield 18, 3, 1, 2, 79, 0), (.getfield 86, 3, 6, 2, 28, 0)] [] (pc2 := 12) (ls2 := [some (.ref 37), some (.int f), some (.int (hb (M.1 38) f i)), some (.int (nI i))]) (st2 := [.int (M.1 3 2), .int (nI i)]) (M2 := M) (Ps := []) (by decide +kernel) rfl rfl trivial ?_
    refine G.ic_ge (off := (28)) (tgt := 40) (by decide +kernel) rfl (fun h9 => absurd h9 (by rw [ht]; exact nI_ge hi (by omega))) (fun _ => ?_)
    refine G.sl [(.aload_n 0, 1, 0, 0, 0, 0), (.getfield 9, 3, 1, 0, 73, 0), (.bipush 41, 2, 0, 0, 0, nI 41), (.iload_n 3, 1, 3, 0, 0, 0), (.iadd, 1, 0, 0, 0, 0), (.iaload, 1, 0, 0, 0, 0), (.iload_n 1, 1, 1, 0, 0, 0)] [41 + i] (pc2 := 25) (ls2 := [some (.ref 37), some (.int f), some (.int (hb (M.1 38) f i)), some (.int (nI i))]) (st2 := [.int f, .int (M.1 38 (41 + i))]) (M2 := M) (Ps := [((nI 41) + (nI i)) = nI (41 + i) ∧ (41 + i) < 51]) (by decide +kernel) rfl rfl ⟨⟨(by simp only [nI_add, pk_mul]), by omega⟩, trivial⟩ ?_
    refine G.ic_ne (off := (9)) (tgt := 34) (by decide +kernel) rfl (fun c1 => ?_) (fun c1 => ?_)
    · refine G.sl [(.iinc 3 1, 3, 3, 0, 0, nI 1), (.goto (-33), 3, 4, 0, 0, 0)] [] (pc2 := 4) (ls2 := [some (.ref 37), some (.int f), some (.int (hb (M.1 38) f i)), some (.int ((nI i) + nI 1))]) (st2 := []) (M2 := M) (Ps := []) (by decide +kernel) rfl rfl trivial ?_
      rw [nI_add]
      simp only [hb, if_neg c1] at ih
      exact ih
    · refine G.sl [(.iload_n 2, 1, 2, 0, 0, 0), (.iconst 1, 1, 0, 0, 0, nI 1), (.iload_n 3, 1, 3, 0, 0, 0), (.ishl, 1, 0, 0, 0, 0), (.ior, 1, 0, 0, 0, 0), (.istore_n 2, 1, 2, 0, 0, 0), (.iinc 3 1, 3, 3, 0, 0, nI 1), (.goto (-33), 3, 4, 0, 0, 0)] [] (pc2 := 4) (ls2 := [some (.ref 37), some (.int f), some (.int ((hb (M.1 38) f i) ||| ((nI 1) <<< ((nI i) &&& 31)))), some (.int ((nI i) + nI 1))]) (st2 := []) (M2 := M) (Ps := []) (by decide +kernel) rfl rfl trivial ?_
      rw [nI_add]
      simp only [hb, if_pos c1] at ih
      exact ih
def la (R : Nat → Int32) (p : Int32) : Nat → Int32
  | 0 => nI 0
  | i + 1 => (if (R (31 + i)) = p then (la R p i) ||| ((nI 1) <<< ((nI i) &&& 31)) else la R p i)
theorem c_lyingAt_37 (z : Zp) (d : Nat) (M : Mem) (p : Int32) (nt : Nat) (hnt : nt ≤ 10) (ht : M.1 3 2 = nI nt) : GM z mX1_lyingAt (d) [.ref 37, .int p] M (fun rs => rs = .inl (some (.int (la (M.1 38) p nt)), M)) := by
  refine GM.of oX1_lyingAt.1 (Nat.le_of_ble_eq_true rfl) ?_
  show G z mX1_lyingAt (d) 0 0 0 [some (.ref 37), some (.int p), none, none] [] M _
  refine G.sl [(.iconst 0, 1, 0, 0, 0, nI 0), (.istore_n 2, 1, 2, 0, 0, 0), (.iconst 0, 1, 0, 0, 0, nI 0), (.istore_n 3, 1, 3, 0, 0, 0)] [] (pc2 := 4) (ls2 := [some (.ref 37), some (.int p), some (.int (nI 0)), some (.int (nI 0))]) (st2 := []) (M2 := M) (Ps := []) (by decide +kernel) rfl rfl trivial ?_
  refine down (n := nt) (P := fun i => G z mX1_lyingAt (d) 0 0 4 [some (.ref 37), some (.int p), some (.int (la (M.1 38) p i)), some (.int (nI i))] [] M (fun rs => rs = .inl (some (.int (la (M.1 38) p nt)), M))) ?_ ?_ 0 (Nat.zero_le _)
  · refine G.sl [(.iload_n 3, 1, 3, 0, 0, 0), (.aload_n 0, 1, 0, 0, 0, 0), (.getfield 18, 3, 1, 2, 79, 0), (.getfield 86, 3, 6, 2, 28, 0)] [] (pc2 := 12) (ls2 := [some (.ref 37), some (.int p), some (.int (la (M.1 38) p nt)), some (.int (nI nt))]) (st2 := [.int (M.1 3 2), .int (nI nt)]) (M2 := M) (Ps := []) (by decide +kernel) rfl rfl trivial ?_
    refine G.ic_ge (off := (28)) (tgt := 40) (by decide +kernel) rfl (fun _ => ?_) (fun h9 => absurd (by rw [ht]; exact nI_le (Nat.le_refl nt) (by omega)) h9)
    refine G.sl [(.iload_n 2, 1, 2, 0, 0, 0)] [] (pc2 := 41) (ls2 := [some (.ref 37), some (.int p), some (.int (la (M.1 38) p nt)), some (.int (nI nt))]) (st2 := [.int (la (M.1 38) p nt)]) (M2 := M) (Ps := []) (by decide +kernel) rfl rfl trivial ?_
    exact G.reti (by decide +kernel) rfl rfl (Nat.le_of_ble_eq_true rfl) (Nat.le_of_ble_eq_true rfl) rfl
  · intro i hi ih
    refine G.sl [(.iload_n 3, 1, 3, 0, 0, 0), (.aload_n 0, 1, 0, 0, 0, 0), (.getfield 18, 3, 1, 2, 79, 0), (.getfield 86, 3, 6, 2, 28, 0)] [] (pc2 := 12) (ls2 := [some (.ref 37), some (.int p), some (.int (la (M.1 38) p i)), some (.int (nI i))]) (st2 := [.int (M.1 3 2), .int (nI i)]) (M2 := M) (Ps := []) (by decide +kernel) rfl rfl trivial ?_
    refine G.ic_ge (off := (28)) (tgt := 40) (by decide +kernel) rfl (fun h9 => absurd h9 (by rw [ht]; exact nI_ge hi (by omega))) (fun _ => ?_)
    refine G.sl [(.aload_n 0, 1, 0, 0, 0, 0), (.getfield 9, 3, 1, 0, 73, 0), (.bipush 31, 2, 0, 0, 0, nI 31), (.iload_n 3, 1, 3, 0, 0, 0), (.iadd, 1, 0, 0, 0, 0), (.iaload, 1, 0, 0, 0, 0), (.iload_n 1, 1, 1, 0, 0, 0)] [31 + i] (pc2 := 25) (ls2 := [some (.ref 37), some (.int p), some (.int (la (M.1 38) p i)), some (.int (nI i))]) (st2 := [.int p, .int (M.1 38 (31 + i))]) (M2 := M) (Ps := [((nI 31) + (nI i)) = nI (31 + i) ∧ (31 + i) < 51]) (by decide +kernel) rfl rfl ⟨⟨(by simp only [nI_add, pk_mul]), by omega⟩, trivial⟩ ?_
    refine G.ic_ne (off := (9)) (tgt := 34) (by decide +kernel) rfl (fun c1 => ?_) (fun c1 => ?_)
    · refine G.sl [(.iinc 3 1, 3, 3, 0, 0, nI 1), (.goto (-33), 3, 4, 0, 0, 0)] [] (pc2 := 4) (ls2 := [some (.ref 37), some (.int p), some (.int (la (M.1 38) p i)), some (.int ((nI i) + nI 1))]) (st2 := []) (M2 := M) (Ps := []) (by decide +kernel) rfl rfl trivial ?_
      rw [nI_add]
      simp only [la, if_neg c1] at ih
      exact ih
    · refine G.sl [(.iload_n 2, 1, 2, 0, 0, 0), (.iconst 1, 1, 0, 0, 0, nI 1), (.iload_n 3, 1, 3, 0, 0, 0), (.ishl, 1, 0, 0, 0, 0), (.ior, 1, 0, 0, 0, 0), (.istore_n 2, 1, 2, 0, 0, 0), (.iinc 3 1, 3, 3, 0, 0, nI 1), (.goto (-33), 3, 4, 0, 0, 0)] [] (pc2 := 4) (ls2 := [some (.ref 37), some (.int p), some (.int ((la (M.1 38) p i) ||| ((nI 1) <<< ((nI i) &&& 31)))), some (.int ((nI i) + nI 1))]) (st2 := []) (M2 := M) (Ps := []) (by decide +kernel) rfl rfl trivial ?_
      rw [nI_add]
      simp only [la, if_pos c1] at ih
      exact ih
def fa (R : Nat → Int32) (p : Int32) : Nat → Int32
  | 0 => nI 0
  | i + 1 => (if (R (1 + i)) = p then (fa R p i) ||| ((nI 1) <<< ((nI i) &&& 31)) else fa R p i)
theorem c_findersAt_37 (z : Zp) (d : Nat) (M : Mem) (p : Int32) (nf : Nat) (hnf : nf ≤ 6) (hf : M.1 3 3 = nI nf) : GM z mX1_findersAt (d) [.ref 37, .int p] M (fun rs => rs = .inl (some (.int (fa (M.1 38) p nf)), M)) := by
  refine GM.of oX1_findersAt.1 (Nat.le_of_ble_eq_true rfl) ?_
  show G z mX1_findersAt (d) 0 0 0 [some (.ref 37), some (.int p), none, none] [] M _
  refine G.sl [(.iconst 0, 1, 0, 0, 0, nI 0), (.istore_n 2, 1, 2, 0, 0, 0), (.iconst 0, 1, 0, 0, 0, nI 0), (.istore_n 3, 1, 3, 0, 0, 0)] [] (pc2 := 4) (ls2 := [some (.ref 37), some (.int p), some (.int (nI 0)), some (.int (nI 0))]) (st2 := []) (M2 := M) (Ps := []) (by decide +kernel) rfl rfl trivial ?_
  refine down (n := nf) (P := fun i => G z mX1_findersAt (d) 0 0 4 [some (.ref 37), some (.int p), some (.int (fa (M.1 38) p i)), some (.int (nI i))] [] M (fun rs => rs = .inl (some (.int (fa (M.1 38) p nf)), M))) ?_ ?_ 0 (Nat.zero_le _)
  · refine G.sl [(.iload_n 3, 1, 3, 0, 0, 0), (.aload_n 0, 1, 0, 0, 0, 0), (.getfield 18, 3, 1, 2, 79, 0), (.getfield 78, 3, 6, 3, 34, 0)] [] (pc2 := 12) (ls2 := [some (.ref 37), some (.int p), some (.int (fa (M.1 38) p nf)), some (.int (nI nf))]) (st2 := [.int (M.1 3 3), .int (nI nf)]) (M2 := M) (Ps := []) (by decide +kernel) rfl rfl trivial ?_
    refine G.ic_ge (off := (27)) (tgt := 39) (by decide +kernel) rfl (fun _ => ?_) (fun h9 => absurd (by rw [hf]; exact nI_le (Nat.le_refl nf) (by omega)) h9)
    refine G.sl [(.iload_n 2, 1, 2, 0, 0, 0)] [] (pc2 := 40) (ls2 := [some (.ref 37), some (.int p), some (.int (fa (M.1 38) p nf)), some (.int (nI nf))]) (st2 := [.int (fa (M.1 38) p nf)]) (M2 := M) (Ps := []) (by decide +kernel) rfl rfl trivial ?_
    exact G.reti (by decide +kernel) rfl rfl (Nat.le_of_ble_eq_true rfl) (Nat.le_of_ble_eq_true rfl) rfl
  · intro i hi ih
    refine G.sl [(.iload_n 3, 1, 3, 0, 0, 0), (.aload_n 0, 1, 0, 0, 0, 0), (.getfield 18, 3, 1, 2, 79, 0), (.getfield 78, 3, 6, 3, 34, 0)] [] (pc2 := 12) (ls2 := [some (.ref 37), some (.int p), some (.int (fa (M.1 38) p i)), some (.int (nI i))]) (st2 := [.int (M.1 3 3), .int (nI i)]) (M2 := M) (Ps := []) (by decide +kernel) rfl rfl trivial ?_
    refine G.ic_ge (off := (27)) (tgt := 39) (by decide +kernel) rfl (fun h9 => absurd h9 (by rw [hf]; exact nI_ge hi (by omega))) (fun _ => ?_)
    refine G.sl [(.aload_n 0, 1, 0, 0, 0, 0), (.getfield 9, 3, 1, 0, 73, 0), (.iconst 1, 1, 0, 0, 0, nI 1), (.iload_n 3, 1, 3, 0, 0, 0), (.iadd, 1, 0, 0, 0, 0), (.iaload, 1, 0, 0, 0, 0), (.iload_n 1, 1, 1, 0, 0, 0)] [1 + i] (pc2 := 24) (ls2 := [some (.ref 37), some (.int p), some (.int (fa (M.1 38) p i)), some (.int (nI i))]) (st2 := [.int p, .int (M.1 38 (1 + i))]) (M2 := M) (Ps := [((nI 1) + (nI i)) = nI (1 + i) ∧ (1 + i) < 51]) (by decide +kernel) rfl rfl ⟨⟨(by simp only [nI_add, pk_mul]), by omega⟩, trivial⟩ ?_
    refine G.ic_ne (off := (9)) (tgt := 33) (by decide +kernel) rfl (fun c1 => ?_) (fun c1 => ?_)
    · refine G.sl [(.iinc 3 1, 3, 3, 0, 0, nI 1), (.goto (-32), 3, 4, 0, 0, 0)] [] (pc2 := 4) (ls2 := [some (.ref 37), some (.int p), some (.int (fa (M.1 38) p i)), some (.int ((nI i) + nI 1))]) (st2 := []) (M2 := M) (Ps := []) (by decide +kernel) rfl rfl trivial ?_
      rw [nI_add]
      simp only [fa, if_neg c1] at ih
      exact ih
    · refine G.sl [(.iload_n 2, 1, 2, 0, 0, 0), (.iconst 1, 1, 0, 0, 0, nI 1), (.iload_n 3, 1, 3, 0, 0, 0), (.ishl, 1, 0, 0, 0, 0), (.ior, 1, 0, 0, 0, 0), (.istore_n 2, 1, 2, 0, 0, 0), (.iinc 3 1, 3, 3, 0, 0, nI 1), (.goto (-32), 3, 4, 0, 0, 0)] [] (pc2 := 4) (ls2 := [some (.ref 37), some (.int p), some (.int ((fa (M.1 38) p i) ||| ((nI 1) <<< ((nI i) &&& 31)))), some (.int ((nI i) + nI 1))]) (st2 := []) (M2 := M) (Ps := []) (by decide +kernel) rfl rfl trivial ?_
      rw [nI_add]
      simp only [fa, if_pos c1] at ih
      exact ih
def ev (R : Nat → Int32) : Nat → Int32
  | 0 => nI 0
  | i + 1 => (if (R (7 + i)) = 0 then (ev R i) ||| ((nI 1) <<< ((nI i) &&& 31)) else ev R i)
theorem c_even_37 (z : Zp) (d : Nat) (M : Mem)  (nf : Nat) (hnf : nf ≤ 6) (hf : M.1 3 3 = nI nf) : GM z mX1_even (d) [.ref 37] M (fun rs => rs = .inl (some (.int (ev (M.1 38) nf)), M)) := by
  refine GM.of oX1_even.1 (Nat.le_of_ble_eq_true rfl) ?_
  show G z mX1_even (d) 0 0 0 [some (.ref 37), none, none] [] M _
  refine G.sl [(.iconst 0, 1, 0, 0, 0, nI 0), (.istore_n 1, 1, 1, 0, 0, 0), (.iconst 0, 1, 0, 0, 0, nI 0), (.istore_n 2, 1, 2, 0, 0, 0)] [] (pc2 := 4) (ls2 := [some (.ref 37), some (.int (nI 0)), some (.int (nI 0))]) (st2 := []) (M2 := M) (Ps := []) (by decide +kernel) rfl rfl trivial ?_
  refine down (n := nf) (P := fun i => G z mX1_even (d) 0 0 4 [some (.ref 37), some (.int (ev (M.1 38) i)), some (.int (nI i))] [] M (fun rs => rs = .inl (some (.int (ev (M.1 38) nf)), M))) ?_ ?_ 0 (Nat.zero_le _)
  · refine G.sl [(.iload_n 2, 1, 2, 0, 0, 0), (.aload_n 0, 1, 0, 0, 0, 0), (.getfield 18, 3, 1, 2, 79, 0), (.getfield 78, 3, 6, 3, 34, 0)] [] (pc2 := 12) (ls2 := [some (.ref 37), some (.int (ev (M.1 38) nf)), some (.int (nI nf))]) (st2 := [.int (M.1 3 3), .int (nI nf)]) (M2 := M) (Ps := []) (by decide +kernel) rfl rfl trivial ?_
    refine G.ic_ge (off := (27)) (tgt := 39) (by decide +kernel) rfl (fun _ => ?_) (fun h9 => absurd (by rw [hf]; exact nI_le (Nat.le_refl nf) (by omega)) h9)
    refine G.sl [(.iload_n 1, 1, 1, 0, 0, 0)] [] (pc2 := 40) (ls2 := [some (.ref 37), some (.int (ev (M.1 38) nf)), some (.int (nI nf))]) (st2 := [.int (ev (M.1 38) nf)]) (M2 := M) (Ps := []) (by decide +kernel) rfl rfl trivial ?_
    exact G.reti (by decide +kernel) rfl rfl (Nat.le_of_ble_eq_true rfl) (Nat.le_of_ble_eq_true rfl) rfl
  · intro i hi ih
    refine G.sl [(.iload_n 2, 1, 2, 0, 0, 0), (.aload_n 0, 1, 0, 0, 0, 0), (.getfield 18, 3, 1, 2, 79, 0), (.getfield 78, 3, 6, 3, 34, 0)] [] (pc2 := 12) (ls2 := [some (.ref 37), some (.int (ev (M.1 38) i)), some (.int (nI i))]) (st2 := [.int (M.1 3 3), .int (nI i)]) (M2 := M) (Ps := []) (by decide +kernel) rfl rfl trivial ?_
    refine G.ic_ge (off := (27)) (tgt := 39) (by decide +kernel) rfl (fun h9 => absurd h9 (by rw [hf]; exact nI_ge hi (by omega))) (fun _ => ?_)
    refine G.sl [(.aload_n 0, 1, 0, 0, 0, 0), (.getfield 9, 3, 1, 0, 73, 0), (.bipush 7, 2, 0, 0, 0, nI 7), (.iload_n 2, 1, 2, 0, 0, 0), (.iadd, 1, 0, 0, 0, 0), (.iaload, 1, 0, 0, 0, 0)] [7 + i] (pc2 := 24) (ls2 := [some (.ref 37), some (.int (ev (M.1 38) i)), some (.int (nI i))]) (st2 := [.int (M.1 38 (7 + i))]) (M2 := M) (Ps := [((nI 7) + (nI i)) = nI (7 + i) ∧ (7 + i) < 51]) (by decide +kernel) rfl rfl ⟨⟨(by simp only [nI_add, pk_mul]), by omega⟩, trivial⟩ ?_
    refine G.if_ne (off := (9)) (tgt := 33) (by decide +kernel) rfl (fun c1 => ?_) (fun c1 => ?_)
    · refine G.sl [(.iinc 2 1, 3, 2, 0, 0, nI 1), (.goto (-32), 3, 4, 0, 0, 0)] [] (pc2 := 4) (ls2 := [some (.ref 37), some (.int (ev (M.1 38) i)), some (.int ((nI i) + nI 1))]) (st2 := []) (M2 := M) (Ps := []) (by decide +kernel) rfl rfl trivial ?_
      rw [nI_add]
      simp only [ev, if_neg c1] at ih
      exact ih
    · refine G.sl [(.iload_n 1, 1, 1, 0, 0, 0), (.iconst 1, 1, 0, 0, 0, nI 1), (.iload_n 2, 1, 2, 0, 0, 0), (.ishl, 1, 0, 0, 0, 0), (.ior, 1, 0, 0, 0, 0), (.istore_n 1, 1, 1, 0, 0, 0), (.iinc 2 1, 3, 2, 0, 0, nI 1), (.goto (-32), 3, 4, 0, 0, 0)] [] (pc2 := 4) (ls2 := [some (.ref 37), some (.int ((ev (M.1 38) i) ||| ((nI 1) <<< ((nI i) &&& 31)))), some (.int ((nI i) + nI 1))]) (st2 := []) (M2 := M) (Ps := []) (by decide +kernel) rfl rfl trivial ?_
      rw [nI_add]
      simp only [ev, if_pos c1] at ih
      exact ih
def ow (R : Nat → Int32) : Nat → Int32
  | 0 => nI 0
  | i + 1 => (if (R (7 + i)) ≤ 0 then ow R i else (ow R i) ||| ((nI 1) <<< ((nI i) &&& 31)))
theorem c_owing_37 (z : Zp) (d : Nat) (M : Mem)  (nf : Nat) (hnf : nf ≤ 6) (hf : M.1 3 3 = nI nf) : GM z mX1_owing (d) [.ref 37] M (fun rs => rs = .inl (some (.int (ow (M.1 38) nf)), M)) := by
  refine GM.of oX1_owing.1 (Nat.le_of_ble_eq_true rfl) ?_
  show G z mX1_owing (d) 0 0 0 [some (.ref 37), none, none] [] M _
  refine G.sl [(.iconst 0, 1, 0, 0, 0, nI 0), (.istore_n 1, 1, 1, 0, 0, 0), (.iconst 0, 1, 0, 0, 0, nI 0), (.istore_n 2, 1, 2, 0, 0, 0)] [] (pc2 := 4) (ls2 := [some (.ref 37), some (.int (nI 0)), some (.int (nI 0))]) (st2 := []) (M2 := M) (Ps := []) (by decide +kernel) rfl rfl trivial ?_
  refine down (n := nf) (P := fun i => G z mX1_owing (d) 0 0 4 [some (.ref 37), some (.int (ow (M.1 38) i)), some (.int (nI i))] [] M (fun rs => rs = .inl (some (.int (ow (M.1 38) nf)), M))) ?_ ?_ 0 (Nat.zero_le _)
  · refine G.sl [(.iload_n 2, 1, 2, 0, 0, 0), (.aload_n 0, 1, 0, 0, 0, 0), (.getfield 18, 3, 1, 2, 79, 0), (.getfield 78, 3, 6, 3, 34, 0)] [] (pc2 := 12) (ls2 := [some (.ref 37), some (.int (ow (M.1 38) nf)), some (.int (nI nf))]) (st2 := [.int (M.1 3 3), .int (nI nf)]) (M2 := M) (Ps := []) (by decide +kernel) rfl rfl trivial ?_
    refine G.ic_ge (off := (27)) (tgt := 39) (by decide +kernel) rfl (fun _ => ?_) (fun h9 => absurd (by rw [hf]; exact nI_le (Nat.le_refl nf) (by omega)) h9)
    refine G.sl [(.iload_n 1, 1, 1, 0, 0, 0)] [] (pc2 := 40) (ls2 := [some (.ref 37), some (.int (ow (M.1 38) nf)), some (.int (nI nf))]) (st2 := [.int (ow (M.1 38) nf)]) (M2 := M) (Ps := []) (by decide +kernel) rfl rfl trivial ?_
    exact G.reti (by decide +kernel) rfl rfl (Nat.le_of_ble_eq_true rfl) (Nat.le_of_ble_eq_true rfl) rfl
  · intro i hi ih
    refine G.sl [(.iload_n 2, 1, 2, 0, 0, 0), (.aload_n 0, 1, 0, 0, 0, 0), (.getfield 18, 3, 1, 2, 79, 0), (.getfield 78, 3, 6, 3, 34, 0)] [] (pc2 := 12) (ls2 := [some (.ref 37), some (.int (ow (M.1 38) i)), some (.int (nI i))]) (st2 := [.int (M.1 3 3), .int (nI i)]) (M2 := M) (Ps := []) (by decide +kernel) rfl rfl trivial ?_
    refine G.ic_ge (off := (27)) (tgt := 39) (by decide +kernel) rfl (fun h9 => absurd h9 (by rw [hf]; exact nI_ge hi (by omega))) (fun _ => ?_)
    refine G.sl [(.aload_n 0, 1, 0, 0, 0, 0), (.getfield 9, 3, 1, 0, 73, 0), (.bipush 7, 2, 0, 0, 0, nI 7), (.iload_n 2, 1, 2, 0, 0, 0), (.iadd, 1, 0, 0, 0, 0), (.iaload, 1, 0, 0, 0, 0)] [7 + i] (pc2 := 24) (ls2 := [some (.ref 37), some (.int (ow (M.1 38) i)), some (.int (nI i))]) (st2 := [.int (M.1 38 (7 + i))]) (M2 := M) (Ps := [((nI 7) + (nI i)) = nI (7 + i) ∧ (7 + i) < 51]) (by decide +kernel) rfl rfl ⟨⟨(by simp only [nI_add, pk_mul]), by omega⟩, trivial⟩ ?_
    refine G.if_le (off := (9)) (tgt := 33) (by decide +kernel) rfl (fun c1 => ?_) (fun c1 => ?_)
    · refine G.sl [(.iinc 2 1, 3, 2, 0, 0, nI 1), (.goto (-32), 3, 4, 0, 0, 0)] [] (pc2 := 4) (ls2 := [some (.ref 37), some (.int (ow (M.1 38) i)), some (.int ((nI i) + nI 1))]) (st2 := []) (M2 := M) (Ps := []) (by decide +kernel) rfl rfl trivial ?_
      rw [nI_add]
      simp only [ow, if_pos c1] at ih
      exact ih
    · refine G.sl [(.iload_n 1, 1, 1, 0, 0, 0), (.iconst 1, 1, 0, 0, 0, nI 1), (.iload_n 2, 1, 2, 0, 0, 0), (.ishl, 1, 0, 0, 0, 0), (.ior, 1, 0, 0, 0, 0), (.istore_n 1, 1, 1, 0, 0, 0), (.iinc 2 1, 3, 2, 0, 0, nI 1), (.goto (-32), 3, 4, 0, 0, 0)] [] (pc2 := 4) (ls2 := [some (.ref 37), some (.int ((ow (M.1 38) i) ||| ((nI 1) <<< ((nI i) &&& 31)))), some (.int ((nI i) + nI 1))]) (st2 := []) (M2 := M) (Ps := []) (by decide +kernel) rfl rfl trivial ?_
      rw [nI_add]
      simp only [ow, if_neg c1] at ih
      exact ih
def sh (R : Nat → Int32) : Nat → Int32
  | 0 => nI 0
  | i + 1 => (sh R i) + (R (25 + i))
theorem c_shames_37 (z : Zp) (d : Nat) (M : Mem)  (nf : Nat) (hnf : nf ≤ 6) (hf : M.1 3 3 = nI nf) : GM z mX1_shames (d) [.ref 37] M (fun rs => rs = .inl (some (.int (sh (M.1 38) nf)), M)) := by
  refine GM.of oX1_shames.1 (Nat.le_of_ble_eq_true rfl) ?_
  show G z mX1_shames (d) 0 0 0 [some (.ref 37), none, none] [] M _
  refine G.sl [(.iconst 0, 1, 0, 0, 0, nI 0), (.istore_n 1, 1, 1, 0, 0, 0), (.iconst 0, 1, 0, 0, 0, nI 0), (.istore_n 2, 1, 2, 0, 0, 0)] [] (pc2 := 4) (ls2 := [some (.ref 37), some (.int (nI 0)), some (.int (nI 0))]) (st2 := []) (M2 := M) (Ps := []) (by decide +kernel) rfl rfl trivial ?_
  refine down (n := nf) (P := fun i => G z mX1_shames (d) 0 0 4 [some (.ref 37), some (.int (sh (M.1 38) i)), some (.int (nI i))] [] M (fun rs => rs = .inl (some (.int (sh (M.1 38) nf)), M))) ?_ ?_ 0 (Nat.zero_le _)
  · refine G.sl [(.iload_n 2, 1, 2, 0, 0, 0), (.aload_n 0, 1, 0, 0, 0, 0), (.getfield 18, 3, 1, 2, 79, 0), (.getfield 78, 3, 6, 3, 34, 0)] [] (pc2 := 12) (ls2 := [some (.ref 37), some (.int (sh (M.1 38) nf)), some (.int (nI nf))]) (st2 := [.int (M.1 3 3), .int (nI nf)]) (M2 := M) (Ps := []) (by decide +kernel) rfl rfl trivial ?_
    refine G.ic_ge (off := (21)) (tgt := 33) (by decide +kernel) rfl (fun _ => ?_) (fun h9 => absurd (by rw [hf]; exact nI_le (Nat.le_refl nf) (by omega)) h9)
    refine G.sl [(.iload_n 1, 1, 1, 0, 0, 0)] [] (pc2 := 34) (ls2 := [some (.ref 37), some (.int (sh (M.1 38) nf)), some (.int (nI nf))]) (st2 := [.int (sh (M.1 38) nf)]) (M2 := M) (Ps := []) (by decide +kernel) rfl rfl trivial ?_
    exact G.reti (by decide +kernel) rfl rfl (Nat.le_of_ble_eq_true rfl) (Nat.le_of_ble_eq_true rfl) rfl
  · intro i hi ih
    refine G.sl [(.iload_n 2, 1, 2, 0, 0, 0), (.aload_n 0, 1, 0, 0, 0, 0), (.getfield 18, 3, 1, 2, 79, 0), (.getfield 78, 3, 6, 3, 34, 0)] [] (pc2 := 12) (ls2 := [some (.ref 37), some (.int (sh (M.1 38) i)), some (.int (nI i))]) (st2 := [.int (M.1 3 3), .int (nI i)]) (M2 := M) (Ps := []) (by decide +kernel) rfl rfl trivial ?_
    refine G.ic_ge (off := (21)) (tgt := 33) (by decide +kernel) rfl (fun h9 => absurd h9 (by rw [hf]; exact nI_ge hi (by omega))) (fun _ => ?_)
    refine G.sl [(.iload_n 1, 1, 1, 0, 0, 0), (.aload_n 0, 1, 0, 0, 0, 0), (.getfield 9, 3, 1, 0, 73, 0), (.bipush 25, 2, 0, 0, 0, nI 25), (.iload_n 2, 1, 2, 0, 0, 0), (.iadd, 1, 0, 0, 0, 0), (.iaload, 1, 0, 0, 0, 0), (.iadd, 1, 0, 0, 0, 0), (.istore_n 1, 1, 1, 0, 0, 0), (.iinc 2 1, 3, 2, 0, 0, nI 1), (.goto (-26), 3, 4, 0, 0, 0)] [25 + i] (pc2 := 4) (ls2 := [some (.ref 37), some (.int ((sh (M.1 38) i) + (M.1 38 (25 + i)))), some (.int ((nI i) + nI 1))]) (st2 := []) (M2 := M) (Ps := [((nI 25) + (nI i)) = nI (25 + i) ∧ (25 + i) < 51]) (by decide +kernel) rfl rfl ⟨⟨(by simp only [nI_add, pk_mul]), by omega⟩, trivial⟩ ?_
    rw [nI_add]
    simp only [sh] at ih
    exact ih
theorem c_heldBy_40 (z : Zp) (d : Nat) (M : Mem) (f : Int32) (nt : Nat) (hnt : nt ≤ 10) (ht : M.1 3 2 = nI nt) : GM z mX1_heldBy (d) [.ref 40, .int f] M (fun rs => rs = .inl (some (.int (hb (M.1 41) f nt)), M)) := by
  refine GM.of oX1_heldBy.1 (Nat.le_of_ble_eq_true rfl) ?_
  show G z mX1_heldBy (d) 0 0 0 [some (.ref 40), some (.int f), none, none] [] M _
  refine G.sl [(.iconst 0, 1, 0, 0, 0, nI 0), (.istore_n 2, 1, 2, 0, 0, 0), (.iconst 0, 1, 0, 0, 0, nI 0), (.istore_n 3, 1, 3, 0, 0, 0)] [] (pc2 := 4) (ls2 := [some (.ref 40), some (.int f), some (.int (nI 0)), some (.int (nI 0))]) (st2 := []) (M2 := M) (Ps := []) (by decide +kernel) rfl rfl trivial ?_
  refine down (n := nt) (P := fun i => G z mX1_heldBy (d) 0 0 4 [some (.ref 40), some (.int f), some (.int (hb (M.1 41) f i)), some (.int (nI i))] [] M (fun rs => rs = .inl (some (.int (hb (M.1 41) f nt)), M))) ?_ ?_ 0 (Nat.zero_le _)
  · refine G.sl [(.iload_n 3, 1, 3, 0, 0, 0), (.aload_n 0, 1, 0, 0, 0, 0), (.getfield 18, 3, 1, 2, 79, 0), (.getfield 86, 3, 6, 2, 28, 0)] [] (pc2 := 12) (ls2 := [some (.ref 40), some (.int f), some (.int (hb (M.1 41) f nt)), some (.int (nI nt))]) (st2 := [.int (M.1 3 2), .int (nI nt)]) (M2 := M) (Ps := []) (by decide +kernel) rfl rfl trivial ?_
    refine G.ic_ge (off := (28)) (tgt := 40) (by decide +kernel) rfl (fun _ => ?_) (fun h9 => absurd (by rw [ht]; exact nI_le (Nat.le_refl nt) (by omega)) h9)
    refine G.sl [(.iload_n 2, 1, 2, 0, 0, 0)] [] (pc2 := 41) (ls2 := [some (.ref 40), some (.int f), some (.int (hb (M.1 41) f nt)), some (.int (nI nt))]) (st2 := [.int (hb (M.1 41) f nt)]) (M2 := M) (Ps := []) (by decide +kernel) rfl rfl trivial ?_
    exact G.reti (by decide +kernel) rfl rfl (Nat.le_of_ble_eq_true rfl) (Nat.le_of_ble_eq_true rfl) rfl
  · intro i hi ih
    refine G.sl [(.iload_n 3, 1, 3, 0, 0, 0), (.aload_n 0, 1, 0, 0, 0, 0), (.getfield 18, 3, 1, 2, 79, 0), (.getfield 86, 3, 6, 2, 28, 0)] [] (pc2 := 12) (ls2 := [some (.ref 40), some (.int f), some (.int (hb (M.1 41) f i)), some (.int (nI i))]) (st2 := [.int (M.1 3 2), .int (nI i)]) (M2 := M) (Ps := []) (by decide +kernel) rfl rfl trivial ?_
    refine G.ic_ge (off := (28)) (tgt := 40) (by decide +kernel) rfl (fun h9 => absurd h9 (by rw [ht]; exact nI_ge hi (by omega))) (fun _ => ?_)
    refine G.sl [(.aload_n 0, 1, 0, 0, 0, 0), (.getfield 9, 3, 1, 0, 73, 0), (.bipush 41, 2, 0, 0, 0, nI 41), (.iload_n 3, 1, 3, 0, 0, 0), (.iadd, 1, 0, 0, 0, 0), (.iaload, 1, 0, 0, 0, 0), (.iload_n 1, 1, 1, 0, 0, 0)] [41 + i] (pc2 := 25) (ls2 := [some (.ref 40), some (.int f), some (.int (hb (M.1 41) f i)), some (.int (nI i))]) (st2 := [.int f, .int (M.1 41 (41 + i))]) (M2 := M) (Ps := [((nI 41) + (nI i)) = nI (41 + i) ∧ (41 + i) < 51]) (by decide +kernel) rfl rfl ⟨⟨(by simp only [nI_add, pk_mul]), by omega⟩, trivial⟩ ?_
    refine G.ic_ne (off := (9)) (tgt := 34) (by decide +kernel) rfl (fun c1 => ?_) (fun c1 => ?_)
    · refine G.sl [(.iinc 3 1, 3, 3, 0, 0, nI 1), (.goto (-33), 3, 4, 0, 0, 0)] [] (pc2 := 4) (ls2 := [some (.ref 40), some (.int f), some (.int (hb (M.1 41) f i)), some (.int ((nI i) + nI 1))]) (st2 := []) (M2 := M) (Ps := []) (by decide +kernel) rfl rfl trivial ?_
      rw [nI_add]
      simp only [hb, if_neg c1] at ih
      exact ih
    · refine G.sl [(.iload_n 2, 1, 2, 0, 0, 0), (.iconst 1, 1, 0, 0, 0, nI 1), (.iload_n 3, 1, 3, 0, 0, 0), (.ishl, 1, 0, 0, 0, 0), (.ior, 1, 0, 0, 0, 0), (.istore_n 2, 1, 2, 0, 0, 0), (.iinc 3 1, 3, 3, 0, 0, nI 1), (.goto (-33), 3, 4, 0, 0, 0)] [] (pc2 := 4) (ls2 := [some (.ref 40), some (.int f), some (.int ((hb (M.1 41) f i) ||| ((nI 1) <<< ((nI i) &&& 31)))), some (.int ((nI i) + nI 1))]) (st2 := []) (M2 := M) (Ps := []) (by decide +kernel) rfl rfl trivial ?_
      rw [nI_add]
      simp only [hb, if_pos c1] at ih
      exact ih
theorem c_lyingAt_40 (z : Zp) (d : Nat) (M : Mem) (p : Int32) (nt : Nat) (hnt : nt ≤ 10) (ht : M.1 3 2 = nI nt) : GM z mX1_lyingAt (d) [.ref 40, .int p] M (fun rs => rs = .inl (some (.int (la (M.1 41) p nt)), M)) := by
  refine GM.of oX1_lyingAt.1 (Nat.le_of_ble_eq_true rfl) ?_
  show G z mX1_lyingAt (d) 0 0 0 [some (.ref 40), some (.int p), none, none] [] M _
  refine G.sl [(.iconst 0, 1, 0, 0, 0, nI 0), (.istore_n 2, 1, 2, 0, 0, 0), (.iconst 0, 1, 0, 0, 0, nI 0), (.istore_n 3, 1, 3, 0, 0, 0)] [] (pc2 := 4) (ls2 := [some (.ref 40), some (.int p), some (.int (nI 0)), some (.int (nI 0))]) (st2 := []) (M2 := M) (Ps := []) (by decide +kernel) rfl rfl trivial ?_
  refine down (n := nt) (P := fun i => G z mX1_lyingAt (d) 0 0 4 [some (.ref 40), some (.int p), some (.int (la (M.1 41) p i)), some (.int (nI i))] [] M (fun rs => rs = .inl (some (.int (la (M.1 41) p nt)), M))) ?_ ?_ 0 (Nat.zero_le _)
  · refine G.sl [(.iload_n 3, 1, 3, 0, 0, 0), (.aload_n 0, 1, 0, 0, 0, 0), (.getfield 18, 3, 1, 2, 79, 0), (.getfield 86, 3, 6, 2, 28, 0)] [] (pc2 := 12) (ls2 := [some (.ref 40), some (.int p), some (.int (la (M.1 41) p nt)), some (.int (nI nt))]) (st2 := [.int (M.1 3 2), .int (nI nt)]) (M2 := M) (Ps := []) (by decide +kernel) rfl rfl trivial ?_
    refine G.ic_ge (off := (28)) (tgt := 40) (by decide +kernel) rfl (fun _ => ?_) (fun h9 => absurd (by rw [ht]; exact nI_le (Nat.le_refl nt) (by omega)) h9)
    refine G.sl [(.iload_n 2, 1, 2, 0, 0, 0)] [] (pc2 := 41) (ls2 := [some (.ref 40), some (.int p), some (.int (la (M.1 41) p nt)), some (.int (nI nt))]) (st2 := [.int (la (M.1 41) p nt)]) (M2 := M) (Ps := []) (by decide +kernel) rfl rfl trivial ?_
    exact G.reti (by decide +kernel) rfl rfl (Nat.le_of_ble_eq_true rfl) (Nat.le_of_ble_eq_true rfl) rfl
  · intro i hi ih
    refine G.sl [(.iload_n 3, 1, 3, 0, 0, 0), (.aload_n 0, 1, 0, 0, 0, 0), (.getfield 18, 3, 1, 2, 79, 0), (.getfield 86, 3, 6, 2, 28, 0)] [] (pc2 := 12) (ls2 := [some (.ref 40), some (.int p), some (.int (la (M.1 41) p i)), some (.int (nI i))]) (st2 := [.int (M.1 3 2), .int (nI i)]) (M2 := M) (Ps := []) (by decide +kernel) rfl rfl trivial ?_
    refine G.ic_ge (off := (28)) (tgt := 40) (by decide +kernel) rfl (fun h9 => absurd h9 (by rw [ht]; exact nI_ge hi (by omega))) (fun _ => ?_)
    refine G.sl [(.aload_n 0, 1, 0, 0, 0, 0), (.getfield 9, 3, 1, 0, 73, 0), (.bipush 31, 2, 0, 0, 0, nI 31), (.iload_n 3, 1, 3, 0, 0, 0), (.iadd, 1, 0, 0, 0, 0), (.iaload, 1, 0, 0, 0, 0), (.iload_n 1, 1, 1, 0, 0, 0)] [31 + i] (pc2 := 25) (ls2 := [some (.ref 40), some (.int p), some (.int (la (M.1 41) p i)), some (.int (nI i))]) (st2 := [.int p, .int (M.1 41 (31 + i))]) (M2 := M) (Ps := [((nI 31) + (nI i)) = nI (31 + i) ∧ (31 + i) < 51]) (by decide +kernel) rfl rfl ⟨⟨(by simp only [nI_add, pk_mul]), by omega⟩, trivial⟩ ?_
    refine G.ic_ne (off := (9)) (tgt := 34) (by decide +kernel) rfl (fun c1 => ?_) (fun c1 => ?_)
    · refine G.sl [(.iinc 3 1, 3, 3, 0, 0, nI 1), (.goto (-33), 3, 4, 0, 0, 0)] [] (pc2 := 4) (ls2 := [some (.ref 40), some (.int p), some (.int (la (M.1 41) p i)), some (.int ((nI i) + nI 1))]) (st2 := []) (M2 := M) (Ps := []) (by decide +kernel) rfl rfl trivial ?_
      rw [nI_add]
      simp only [la, if_neg c1] at ih
      exact ih
    · refine G.sl [(.iload_n 2, 1, 2, 0, 0, 0), (.iconst 1, 1, 0, 0, 0, nI 1), (.iload_n 3, 1, 3, 0, 0, 0), (.ishl, 1, 0, 0, 0, 0), (.ior, 1, 0, 0, 0, 0), (.istore_n 2, 1, 2, 0, 0, 0), (.iinc 3 1, 3, 3, 0, 0, nI 1), (.goto (-33), 3, 4, 0, 0, 0)] [] (pc2 := 4) (ls2 := [some (.ref 40), some (.int p), some (.int ((la (M.1 41) p i) ||| ((nI 1) <<< ((nI i) &&& 31)))), some (.int ((nI i) + nI 1))]) (st2 := []) (M2 := M) (Ps := []) (by decide +kernel) rfl rfl trivial ?_
      rw [nI_add]
      simp only [la, if_pos c1] at ih
      exact ih
theorem c_findersAt_40 (z : Zp) (d : Nat) (M : Mem) (p : Int32) (nf : Nat) (hnf : nf ≤ 6) (hf : M.1 3 3 = nI nf) : GM z mX1_findersAt (d) [.ref 40, .int p] M (fun rs => rs = .inl (some (.int (fa (M.1 41) p nf)), M)) := by
  refine GM.of oX1_findersAt.1 (Nat.le_of_ble_eq_true rfl) ?_
  show G z mX1_findersAt (d) 0 0 0 [some (.ref 40), some (.int p), none, none] [] M _
  refine G.sl [(.iconst 0, 1, 0, 0, 0, nI 0), (.istore_n 2, 1, 2, 0, 0, 0), (.iconst 0, 1, 0, 0, 0, nI 0), (.istore_n 3, 1, 3, 0, 0, 0)] [] (pc2 := 4) (ls2 := [some (.ref 40), some (.int p), some (.int (nI 0)), some (.int (nI 0))]) (st2 := []) (M2 := M) (Ps := []) (by decide +kernel) rfl rfl trivial ?_
  refine down (n := nf) (P := fun i => G z mX1_findersAt (d) 0 0 4 [some (.ref 40), some (.int p), some (.int (fa (M.1 41) p i)), some (.int (nI i))] [] M (fun rs => rs = .inl (some (.int (fa (M.1 41) p nf)), M))) ?_ ?_ 0 (Nat.zero_le _)
  · refine G.sl [(.iload_n 3, 1, 3, 0, 0, 0), (.aload_n 0, 1, 0, 0, 0, 0), (.getfield 18, 3, 1, 2, 79, 0), (.getfield 78, 3, 6, 3, 34, 0)] [] (pc2 := 12) (ls2 := [some (.ref 40), some (.int p), some (.int (fa (M.1 41) p nf)), some (.int (nI nf))]) (st2 := [.int (M.1 3 3), .int (nI nf)]) (M2 := M) (Ps := []) (by decide +kernel) rfl rfl trivial ?_
    refine G.ic_ge (off := (27)) (tgt := 39) (by decide +kernel) rfl (fun _ => ?_) (fun h9 => absurd (by rw [hf]; exact nI_le (Nat.le_refl nf) (by omega)) h9)
    refine G.sl [(.iload_n 2, 1, 2, 0, 0, 0)] [] (pc2 := 40) (ls2 := [some (.ref 40), some (.int p), some (.int (fa (M.1 41) p nf)), some (.int (nI nf))]) (st2 := [.int (fa (M.1 41) p nf)]) (M2 := M) (Ps := []) (by decide +kernel) rfl rfl trivial ?_
    exact G.reti (by decide +kernel) rfl rfl (Nat.le_of_ble_eq_true rfl) (Nat.le_of_ble_eq_true rfl) rfl
  · intro i hi ih
    refine G.sl [(.iload_n 3, 1, 3, 0, 0, 0), (.aload_n 0, 1, 0, 0, 0, 0), (.getfield 18, 3, 1, 2, 79, 0), (.getfield 78, 3, 6, 3, 34, 0)] [] (pc2 := 12) (ls2 := [some (.ref 40), some (.int p), some (.int (fa (M.1 41) p i)), some (.int (nI i))]) (st2 := [.int (M.1 3 3), .int (nI i)]) (M2 := M) (Ps := []) (by decide +kernel) rfl rfl trivial ?_
    refine G.ic_ge (off := (27)) (tgt := 39) (by decide +kernel) rfl (fun h9 => absurd h9 (by rw [hf]; exact nI_ge hi (by omega))) (fun _ => ?_)
    refine G.sl [(.aload_n 0, 1, 0, 0, 0, 0), (.getfield 9, 3, 1, 0, 73, 0), (.iconst 1, 1, 0, 0, 0, nI 1), (.iload_n 3, 1, 3, 0, 0, 0), (.iadd, 1, 0, 0, 0, 0), (.iaload, 1, 0, 0, 0, 0), (.iload_n 1, 1, 1, 0, 0, 0)] [1 + i] (pc2 := 24) (ls2 := [some (.ref 40), some (.int p), some (.int (fa (M.1 41) p i)), some (.int (nI i))]) (st2 := [.int p, .int (M.1 41 (1 + i))]) (M2 := M) (Ps := [((nI 1) + (nI i)) = nI (1 + i) ∧ (1 + i) < 51]) (by decide +kernel) rfl rfl ⟨⟨(by simp only [nI_add, pk_mul]), by omega⟩, trivial⟩ ?_
    refine G.ic_ne (off := (9)) (tgt := 33) (by decide +kernel) rfl (fun c1 => ?_) (fun c1 => ?_)
    · refine G.sl [(.iinc 3 1, 3, 3, 0, 0, nI 1), (.goto (-32), 3, 4, 0, 0, 0)] [] (pc2 := 4) (ls2 := [some (.ref 40), some (.int p), some (.int (fa (M.1 41) p i)), some (.int ((nI i) + nI 1))]) (st2 := []) (M2 := M) (Ps := []) (by decide +kernel) rfl rfl trivial ?_
      rw [nI_add]
      simp only [fa, if_neg c1] at ih
      exact ih
    · refine G.sl [(.iload_n 2, 1, 2, 0, 0, 0), (.iconst 1, 1, 0, 0, 0, nI 1), (.iload_n 3, 1, 3, 0, 0, 0), (.ishl, 1, 0, 0, 0, 0), (.ior, 1, 0, 0, 0, 0), (.istore_n 2, 1, 2, 0, 0, 0), (.iinc 3 1, 3, 3, 0, 0, nI 1), (.goto (-32), 3, 4, 0, 0, 0)] [] (pc2 := 4) (ls2 := [some (.ref 40), some (.int p), some (.int ((fa (M.1 41) p i) ||| ((nI 1) <<< ((nI i) &&& 31)))), some (.int ((nI i) + nI 1))]) (st2 := []) (M2 := M) (Ps := []) (by decide +kernel) rfl rfl trivial ?_
      rw [nI_add]
      simp only [fa, if_pos c1] at ih
      exact ih
theorem c_even_40 (z : Zp) (d : Nat) (M : Mem)  (nf : Nat) (hnf : nf ≤ 6) (hf : M.1 3 3 = nI nf) : GM z mX1_even (d) [.ref 40] M (fun rs => rs = .inl (some (.int (ev (M.1 41) nf)), M)) := by
  refine GM.of oX1_even.1 (Nat.le_of_ble_eq_true rfl) ?_
  show G z mX1_even (d) 0 0 0 [some (.ref 40), none, none] [] M _
  refine G.sl [(.iconst 0, 1, 0, 0, 0, nI 0), (.istore_n 1, 1, 1, 0, 0, 0), (.iconst 0, 1, 0, 0, 0, nI 0), (.istore_n 2, 1, 2, 0, 0, 0)] [] (pc2 := 4) (ls2 := [some (.ref 40), some (.int (nI 0)), some (.int (nI 0))]) (st2 := []) (M2 := M) (Ps := []) (by decide +kernel) rfl rfl trivial ?_
  refine down (n := nf) (P := fun i => G z mX1_even (d) 0 0 4 [some (.ref 40), some (.int (ev (M.1 41) i)), some (.int (nI i))] [] M (fun rs => rs = .inl (some (.int (ev (M.1 41) nf)), M))) ?_ ?_ 0 (Nat.zero_le _)
  · refine G.sl [(.iload_n 2, 1, 2, 0, 0, 0), (.aload_n 0, 1, 0, 0, 0, 0), (.getfield 18, 3, 1, 2, 79, 0), (.getfield 78, 3, 6, 3, 34, 0)] [] (pc2 := 12) (ls2 := [some (.ref 40), some (.int (ev (M.1 41) nf)), some (.int (nI nf))]) (st2 := [.int (M.1 3 3), .int (nI nf)]) (M2 := M) (Ps := []) (by decide +kernel) rfl rfl trivial ?_
    refine G.ic_ge (off := (27)) (tgt := 39) (by decide +kernel) rfl (fun _ => ?_) (fun h9 => absurd (by rw [hf]; exact nI_le (Nat.le_refl nf) (by omega)) h9)
    refine G.sl [(.iload_n 1, 1, 1, 0, 0, 0)] [] (pc2 := 40) (ls2 := [some (.ref 40), some (.int (ev (M.1 41) nf)), some (.int (nI nf))]) (st2 := [.int (ev (M.1 41) nf)]) (M2 := M) (Ps := []) (by decide +kernel) rfl rfl trivial ?_
    exact G.reti (by decide +kernel) rfl rfl (Nat.le_of_ble_eq_true rfl) (Nat.le_of_ble_eq_true rfl) rfl
  · intro i hi ih
    refine G.sl [(.iload_n 2, 1, 2, 0, 0, 0), (.aload_n 0, 1, 0, 0, 0, 0), (.getfield 18, 3, 1, 2, 79, 0), (.getfield 78, 3, 6, 3, 34, 0)] [] (pc2 := 12) (ls2 := [some (.ref 40), some (.int (ev (M.1 41) i)), some (.int (nI i))]) (st2 := [.int (M.1 3 3), .int (nI i)]) (M2 := M) (Ps := []) (by decide +kernel) rfl rfl trivial ?_
    refine G.ic_ge (off := (27)) (tgt := 39) (by decide +kernel) rfl (fun h9 => absurd h9 (by rw [hf]; exact nI_ge hi (by omega))) (fun _ => ?_)
    refine G.sl [(.aload_n 0, 1, 0, 0, 0, 0), (.getfield 9, 3, 1, 0, 73, 0), (.bipush 7, 2, 0, 0, 0, nI 7), (.iload_n 2, 1, 2, 0, 0, 0), (.iadd, 1, 0, 0, 0, 0), (.iaload, 1, 0, 0, 0, 0)] [7 + i] (pc2 := 24) (ls2 := [some (.ref 40), some (.int (ev (M.1 41) i)), some (.int (nI i))]) (st2 := [.int (M.1 41 (7 + i))]) (M2 := M) (Ps := [((nI 7) + (nI i)) = nI (7 + i) ∧ (7 + i) < 51]) (by decide +kernel) rfl rfl ⟨⟨(by simp only [nI_add, pk_mul]), by omega⟩, trivial⟩ ?_
    refine G.if_ne (off := (9)) (tgt := 33) (by decide +kernel) rfl (fun c1 => ?_) (fun c1 => ?_)
    · refine G.sl [(.iinc 2 1, 3, 2, 0, 0, nI 1), (.goto (-32), 3, 4, 0, 0, 0)] [] (pc2 := 4) (ls2 := [some (.ref 40), some (.int (ev (M.1 41) i)), some (.int ((nI i) + nI 1))]) (st2 := []) (M2 := M) (Ps := []) (by decide +kernel) rfl rfl trivial ?_
      rw [nI_add]
      simp only [ev, if_neg c1] at ih
      exact ih
    · refine G.sl [(.iload_n 1, 1, 1, 0, 0, 0), (.iconst 1, 1, 0, 0, 0, nI 1), (.iload_n 2, 1, 2, 0, 0, 0), (.ishl, 1, 0, 0, 0, 0), (.ior, 1, 0, 0, 0, 0), (.istore_n 1, 1, 1, 0, 0, 0), (.iinc 2 1, 3, 2, 0, 0, nI 1), (.goto (-32), 3, 4, 0, 0, 0)] [] (pc2 := 4) (ls2 := [some (.ref 40), some (.int ((ev (M.1 41) i) ||| ((nI 1) <<< ((nI i) &&& 31)))), some (.int ((nI i) + nI 1))]) (st2 := []) (M2 := M) (Ps := []) (by decide +kernel) rfl rfl trivial ?_
      rw [nI_add]
      simp only [ev, if_pos c1] at ih
      exact ih
theorem c_owing_40 (z : Zp) (d : Nat) (M : Mem)  (nf : Nat) (hnf : nf ≤ 6) (hf : M.1 3 3 = nI nf) : GM z mX1_owing (d) [.ref 40] M (fun rs => rs = .inl (some (.int (ow (M.1 41) nf)), M)) := by
  refine GM.of oX1_owing.1 (Nat.le_of_ble_eq_true rfl) ?_
  show G z mX1_owing (d) 0 0 0 [some (.ref 40), none, none] [] M _
  refine G.sl [(.iconst 0, 1, 0, 0, 0, nI 0), (.istore_n 1, 1, 1, 0, 0, 0), (.iconst 0, 1, 0, 0, 0, nI 0), (.istore_n 2, 1, 2, 0, 0, 0)] [] (pc2 := 4) (ls2 := [some (.ref 40), some (.int (nI 0)), some (.int (nI 0))]) (st2 := []) (M2 := M) (Ps := []) (by decide +kernel) rfl rfl trivial ?_
  refine down (n := nf) (P := fun i => G z mX1_owing (d) 0 0 4 [some (.ref 40), some (.int (ow (M.1 41) i)), some (.int (nI i))] [] M (fun rs => rs = .inl (some (.int (ow (M.1 41) nf)), M))) ?_ ?_ 0 (Nat.zero_le _)
  · refine G.sl [(.iload_n 2, 1, 2, 0, 0, 0), (.aload_n 0, 1, 0, 0, 0, 0), (.getfield 18, 3, 1, 2, 79, 0), (.getfield 78, 3, 6, 3, 34, 0)] [] (pc2 := 12) (ls2 := [some (.ref 40), some (.int (ow (M.1 41) nf)), some (.int (nI nf))]) (st2 := [.int (M.1 3 3), .int (nI nf)]) (M2 := M) (Ps := []) (by decide +kernel) rfl rfl trivial ?_
    refine G.ic_ge (off := (27)) (tgt := 39) (by decide +kernel) rfl (fun _ => ?_) (fun h9 => absurd (by rw [hf]; exact nI_le (Nat.le_refl nf) (by omega)) h9)
    refine G.sl [(.iload_n 1, 1, 1, 0, 0, 0)] [] (pc2 := 40) (ls2 := [some (.ref 40), some (.int (ow (M.1 41) nf)), some (.int (nI nf))]) (st2 := [.int (ow (M.1 41) nf)]) (M2 := M) (Ps := []) (by decide +kernel) rfl rfl trivial ?_
    exact G.reti (by decide +kernel) rfl rfl (Nat.le_of_ble_eq_true rfl) (Nat.le_of_ble_eq_true rfl) rfl
  · intro i hi ih
    refine G.sl [(.iload_n 2, 1, 2, 0, 0, 0), (.aload_n 0, 1, 0, 0, 0, 0), (.getfield 18, 3, 1, 2, 79, 0), (.getfield 78, 3, 6, 3, 34, 0)] [] (pc2 := 12) (ls2 := [some (.ref 40), some (.int (ow (M.1 41) i)), some (.int (nI i))]) (st2 := [.int (M.1 3 3), .int (nI i)]) (M2 := M) (Ps := []) (by decide +kernel) rfl rfl trivial ?_
    refine G.ic_ge (off := (27)) (tgt := 39) (by decide +kernel) rfl (fun h9 => absurd h9 (by rw [hf]; exact nI_ge hi (by omega))) (fun _ => ?_)
    refine G.sl [(.aload_n 0, 1, 0, 0, 0, 0), (.getfield 9, 3, 1, 0, 73, 0), (.bipush 7, 2, 0, 0, 0, nI 7), (.iload_n 2, 1, 2, 0, 0, 0), (.iadd, 1, 0, 0, 0, 0), (.iaload, 1, 0, 0, 0, 0)] [7 + i] (pc2 := 24) (ls2 := [some (.ref 40), some (.int (ow (M.1 41) i)), some (.int (nI i))]) (st2 := [.int (M.1 41 (7 + i))]) (M2 := M) (Ps := [((nI 7) + (nI i)) = nI (7 + i) ∧ (7 + i) < 51]) (by decide +kernel) rfl rfl ⟨⟨(by simp only [nI_add, pk_mul]), by omega⟩, trivial⟩ ?_
    refine G.if_le (off := (9)) (tgt := 33) (by decide +kernel) rfl (fun c1 => ?_) (fun c1 => ?_)
    · refine G.sl [(.iinc 2 1, 3, 2, 0, 0, nI 1), (.goto (-32), 3, 4, 0, 0, 0)] [] (pc2 := 4) (ls2 := [some (.ref 40), some (.int (ow (M.1 41) i)), some (.int ((nI i) + nI 1))]) (st2 := []) (M2 := M) (Ps := []) (by decide +kernel) rfl rfl trivial ?_
      rw [nI_add]
      simp only [ow, if_pos c1] at ih
      exact ih
    · refine G.sl [(.iload_n 1, 1, 1, 0, 0, 0), (.iconst 1, 1, 0, 0, 0, nI 1), (.iload_n 2, 1, 2, 0, 0, 0), (.ishl, 1, 0, 0, 0, 0), (.ior, 1, 0, 0, 0, 0), (.istore_n 1, 1, 1, 0, 0, 0), (.iinc 2 1, 3, 2, 0, 0, nI 1), (.goto (-32), 3, 4, 0, 0, 0)] [] (pc2 := 4) (ls2 := [some (.ref 40), some (.int ((ow (M.1 41) i) ||| ((nI 1) <<< ((nI i) &&& 31)))), some (.int ((nI i) + nI 1))]) (st2 := []) (M2 := M) (Ps := []) (by decide +kernel) rfl rfl trivial ?_
      rw [nI_add]
      simp only [ow, if_neg c1] at ih
      exact ih
theorem c_shames_40 (z : Zp) (d : Nat) (M : Mem)  (nf : Nat) (hnf : nf ≤ 6) (hf : M.1 3 3 = nI nf) : GM z mX1_shames (d) [.ref 40] M (fun rs => rs = .inl (some (.int (sh (M.1 41) nf)), M)) := by
  refine GM.of oX1_shames.1 (Nat.le_of_ble_eq_true rfl) ?_
  show G z mX1_shames (d) 0 0 0 [some (.ref 40), none, none] [] M _
  refine G.sl [(.iconst 0, 1, 0, 0, 0, nI 0), (.istore_n 1, 1, 1, 0, 0, 0), (.iconst 0, 1, 0, 0, 0, nI 0), (.istore_n 2, 1, 2, 0, 0, 0)] [] (pc2 := 4) (ls2 := [some (.ref 40), some (.int (nI 0)), some (.int (nI 0))]) (st2 := []) (M2 := M) (Ps := []) (by decide +kernel) rfl rfl trivial ?_
  refine down (n := nf) (P := fun i => G z mX1_shames (d) 0 0 4 [some (.ref 40), some (.int (sh (M.1 41) i)), some (.int (nI i))] [] M (fun rs => rs = .inl (some (.int (sh (M.1 41) nf)), M))) ?_ ?_ 0 (Nat.zero_le _)
  · refine G.sl [(.iload_n 2, 1, 2, 0, 0, 0), (.aload_n 0, 1, 0, 0, 0, 0), (.getfield 18, 3, 1, 2, 79, 0), (.getfield 78, 3, 6, 3, 34, 0)] [] (pc2 := 12) (ls2 := [some (.ref 40), some (.int (sh (M.1 41) nf)), some (.int (nI nf))]) (st2 := [.int (M.1 3 3), .int (nI nf)]) (M2 := M) (Ps := []) (by decide +kernel) rfl rfl trivial ?_
    refine G.ic_ge (off := (21)) (tgt := 33) (by decide +kernel) rfl (fun _ => ?_) (fun h9 => absurd (by rw [hf]; exact nI_le (Nat.le_refl nf) (by omega)) h9)
    refine G.sl [(.iload_n 1, 1, 1, 0, 0, 0)] [] (pc2 := 34) (ls2 := [some (.ref 40), some (.int (sh (M.1 41) nf)), some (.int (nI nf))]) (st2 := [.int (sh (M.1 41) nf)]) (M2 := M) (Ps := []) (by decide +kernel) rfl rfl trivial ?_
    exact G.reti (by decide +kernel) rfl rfl (Nat.le_of_ble_eq_true rfl) (Nat.le_of_ble_eq_true rfl) rfl
  · intro i hi ih
    refine G.sl [(.iload_n 2, 1, 2, 0, 0, 0), (.aload_n 0, 1, 0, 0, 0, 0), (.getfield 18, 3, 1, 2, 79, 0), (.getfield 78, 3, 6, 3, 34, 0)] [] (pc2 := 12) (ls2 := [some (.ref 40), some (.int (sh (M.1 41) i)), some (.int (nI i))]) (st2 := [.int (M.1 3 3), .int (nI i)]) (M2 := M) (Ps := []) (by decide +kernel) rfl rfl trivial ?_
    refine G.ic_ge (off := (21)) (tgt := 33) (by decide +kernel) rfl (fun h9 => absurd h9 (by rw [hf]; exact nI_ge hi (by omega))) (fun _ => ?_)
    refine G.sl [(.iload_n 1, 1, 1, 0, 0, 0), (.aload_n 0, 1, 0, 0, 0, 0), (.getfield 9, 3, 1, 0, 73, 0), (.bipush 25, 2, 0, 0, 0, nI 25), (.iload_n 2, 1, 2, 0, 0, 0), (.iadd, 1, 0, 0, 0, 0), (.iaload, 1, 0, 0, 0, 0), (.iadd, 1, 0, 0, 0, 0), (.istore_n 1, 1, 1, 0, 0, 0), (.iinc 2 1, 3, 2, 0, 0, nI 1), (.goto (-26), 3, 4, 0, 0, 0)] [25 + i] (pc2 := 4) (ls2 := [some (.ref 40), some (.int ((sh (M.1 41) i) + (M.1 41 (25 + i)))), some (.int ((nI i) + nI 1))]) (st2 := []) (M2 := M) (Ps := [((nI 25) + (nI i)) = nI (25 + i) ∧ (25 + i) < 51]) (by decide +kernel) rfl rfl ⟨⟨(by simp only [nI_add, pk_mul]), by omega⟩, trivial⟩ ?_
    rw [nI_add]
    simp only [sh] at ih
    exact ih
def wo (W : Nat → Int32) (b : Int32) : Nat → Int32
  | 0 => nI 0
  | i + 1 => (if ((b >>> ((nI i) &&& 31)) &&& (nI 1)) = 0 then wo W b i else (wo W b i) + (W i))
theorem c_worthOf (z : Zp) (d : Nat) (M : Mem) (b : Int32) (nt : Nat) (hnt : nt ≤ 10) (ht : M.1 3 2 = nI nt) : GM z mX7_worthOf (d) [.ref 3, .int b] M (fun rs => rs = .inl (some (.int (wo (M.1 7) b nt)), M)) := by
  refine GM.of oX7_worthOf.1 (Nat.le_of_ble_eq_true rfl) ?_
  show G z mX7_worthOf (d) 0 0 0 [some (.ref 3), some (.int b), none, none] [] M _
  refine G.sl [(.iconst 0, 1, 0, 0, 0, nI 0), (.istore_n 2, 1, 2, 0, 0, 0), (.iconst 0, 1, 0, 0, 0, nI 0), (.istore_n 3, 1, 3, 0, 0, 0)] [] (pc2 := 4) (ls2 := [some (.ref 3), some (.int b), some (.int (nI 0)), some (.int (nI 0))]) (st2 := []) (M2 := M) (Ps := []) (by decide +kernel) rfl rfl trivial ?_
  refine down (n := nt) (P := fun i => G z mX7_worthOf (d) 0 0 4 [some (.ref 3), some (.int b), some (.int (wo (M.1 7) b i)), some (.int (nI i))] [] M (fun rs => rs = .inl (some (.int (wo (M.1 7) b nt)), M))) ?_ ?_ 0 (Nat.zero_le _)
  · refine G.sl [(.iload_n 3, 1, 3, 0, 0, 0), (.aload_n 0, 1, 0, 0, 0, 0), (.getfield 43, 3, 6, 2, 22, 0)] [] (pc2 := 9) (ls2 := [some (.ref 3), some (.int b), some (.int (wo (M.1 7) b nt)), some (.int (nI nt))]) (st2 := [.int (M.1 3 2), .int (nI nt)]) (M2 := M) (Ps := []) (by decide +kernel) rfl rfl trivial ?_
    refine G.ic_ge (off := (26)) (tgt := 35) (by decide +kernel) rfl (fun _ => ?_) (fun h9 => absurd (by rw [ht]; exact nI_le (Nat.le_refl nt) (by omega)) h9)
    refine G.sl [(.iload_n 2, 1, 2, 0, 0, 0)] [] (pc2 := 36) (ls2 := [some (.ref 3), some (.int b), some (.int (wo (M.1 7) b nt)), some (.int (nI nt))]) (st2 := [.int (wo (M.1 7) b nt)]) (M2 := M) (Ps := []) (by decide +kernel) rfl rfl trivial ?_
    exact G.reti (by decide +kernel) rfl rfl (Nat.le_of_ble_eq_true rfl) (Nat.le_of_ble_eq_true rfl) rfl
  · intro i hi ih
    refine G.sl [(.iload_n 3, 1, 3, 0, 0, 0), (.aload_n 0, 1, 0, 0, 0, 0), (.getfield 43, 3, 6, 2, 22, 0)] [] (pc2 := 9) (ls2 := [some (.ref 3), some (.int b), some (.int (wo (M.1 7) b i)), some (.int (nI i))]) (st2 := [.int (M.1 3 2), .int (nI i)]) (M2 := M) (Ps := []) (by decide +kernel) rfl rfl trivial ?_
    refine G.ic_ge (off := (26)) (tgt := 35) (by decide +kernel) rfl (fun h9 => absurd h9 (by rw [ht]; exact nI_ge hi (by omega))) (fun _ => ?_)
    refine G.sl [(.iload_n 1, 1, 1, 0, 0, 0), (.iload_n 3, 1, 3, 0, 0, 0), (.ishr, 1, 0, 0, 0, 0), (.iconst 1, 1, 0, 0, 0, nI 1), (.iand, 1, 0, 0, 0, 0)] [] (pc2 := 17) (ls2 := [some (.ref 3), some (.int b), some (.int (wo (M.1 7) b i)), some (.int (nI i))]) (st2 := [.int ((b >>> ((nI i) &&& 31)) &&& (nI 1))]) (M2 := M) (Ps := []) (by decide +kernel) rfl rfl trivial ?_
    refine G.if_eq (off := (12)) (tgt := 29) (by decide +kernel) rfl (fun c1 => ?_) (fun c1 => ?_)
    · refine G.sl [(.iinc 3 1, 3, 3, 0, 0, nI 1), (.goto (-28), 3, 4, 0, 0, 0)] [] (pc2 := 4) (ls2 := [some (.ref 3), some (.int b), some (.int (wo (M.1 7) b i)), some (.int ((nI i) + nI 1))]) (st2 := []) (M2 := M) (Ps := []) (by decide +kernel) rfl rfl trivial ?_
      rw [nI_add]
      simp only [wo, if_pos c1] at ih
      exact ih
    · refine G.sl [(.iload_n 2, 1, 2, 0, 0, 0), (.aload_n 0, 1, 0, 0, 0, 0), (.getfield 21, 3, 6, 7, 42, 0), (.iload_n 3, 1, 3, 0, 0, 0), (.iaload, 1, 0, 0, 0, 0), (.iadd, 1, 0, 0, 0, 0), (.istore_n 2, 1, 2, 0, 0, 0), (.iinc 3 1, 3, 3, 0, 0, nI 1), (.goto (-28), 3, 4, 0, 0, 0)] [i] (pc2 := 4) (ls2 := [some (.ref 3), some (.int b), some (.int ((wo (M.1 7) b i) + (M.1 7 i))), some (.int ((nI i) + nI 1))]) (st2 := []) (M2 := M) (Ps := [(nI i) = nI i ∧ i < 10]) (by decide +kernel) rfl rfl ⟨⟨rfl, by omega⟩, trivial⟩ ?_
      rw [nI_add]
      simp only [wo, if_neg c1] at ih
      exact ih
def oe (A B : Nat → Int32) (r : Nat) (p : Int32) : Int32 := (if (A r) = p then B r else (if (B r) = p then A r else (-1)))
theorem c_otherEnd (z : Zp) (d : Nat) (M : Mem) (r : Nat) (p : Int32) (hr : r < 12) : GM z mX7_otherEnd (d) [.ref 3, .int (nI r), .int p] M (fun rs => rs = .inl (some (.int (oe (M.1 4) (M.1 5) r p)), M)) := by
  refine GM.of oX7_otherEnd.1 (Nat.le_of_ble_eq_true rfl) ?_
  show G z mX7_otherEnd (d) 0 0 0 [some (.ref 3), some (.int (nI r)), some (.int p)] [] M _
  refine G.sl [(.aload_n 0, 1, 0, 0, 0, 0), (.getfield 9, 3, 6, 4, 35, 0), (.iload_n 1, 1, 1, 0, 0, 0), (.iaload, 1, 0, 0, 0, 0), (.iload_n 2, 1, 2, 0, 0, 0)] [r] (pc2 := 7) (ls2 := [some (.ref 3), some (.int (nI r)), some (.int p)]) (st2 := [.int p, .int (M.1 4 r)]) (M2 := M) (Ps := [(nI r) = nI r ∧ r < 12]) (by decide +kernel) rfl rfl ⟨⟨rfl, by omega⟩, trivial⟩ ?_
  refine G.ic_ne (off := (10)) (tgt := 17) (by decide +kernel) rfl (fun c1 => ?_) (fun c1 => ?_)
  · refine G.sl [(.aload_n 0, 1, 0, 0, 0, 0), (.getfield 15, 3, 6, 5, 37, 0), (.iload_n 1, 1, 1, 0, 0, 0), (.iaload, 1, 0, 0, 0, 0), (.iload_n 2, 1, 2, 0, 0, 0)] [r] (pc2 := 24) (ls2 := [some (.ref 3), some (.int (nI r)), some (.int p)]) (st2 := [.int p, .int (M.1 5 r)]) (M2 := M) (Ps := [(nI r) = nI r ∧ r < 12]) (by decide +kernel) rfl rfl ⟨⟨rfl, by omega⟩, trivial⟩ ?_
    refine G.ic_ne (off := (12)) (tgt := 36) (by decide +kernel) rfl (fun c2 => ?_) (fun c2 => ?_)
    · refine G.sl [(.iconst (-1), 1, 0, 0, 0, (-1))] [] (pc2 := 37) (ls2 := [some (.ref 3), some (.int (nI r)), some (.int p)]) (st2 := [.int ((-1))]) (M2 := M) (Ps := []) (by decide +kernel) rfl rfl trivial ?_
      exact G.reti (by decide +kernel) rfl rfl (Nat.le_of_ble_eq_true rfl) (Nat.le_of_ble_eq_true rfl) (by simp only [oe, if_neg c1, if_neg c2])
    · refine G.sl [(.aload_n 0, 1, 0, 0, 0, 0), (.getfield 9, 3, 6, 4, 35, 0), (.iload_n 1, 1, 1, 0, 0, 0), (.iaload, 1, 0, 0, 0, 0), (.goto 4, 3, 37, 0, 0, 0)] [r] (pc2 := 37) (ls2 := [some (.ref 3), some (.int (nI r)), some (.int p)]) (st2 := [.int (M.1 4 r)]) (M2 := M) (Ps := [(nI r) = nI r ∧ r < 12]) (by decide +kernel) rfl rfl ⟨⟨rfl, by omega⟩, trivial⟩ ?_
      exact G.reti (by decide +kernel) rfl rfl (Nat.le_of_ble_eq_true rfl) (Nat.le_of_ble_eq_true rfl) (by simp only [oe, if_neg c1, if_pos c2])
  · refine G.sl [(.aload_n 0, 1, 0, 0, 0, 0), (.getfield 15, 3, 6, 5, 37, 0), (.iload_n 1, 1, 1, 0, 0, 0), (.iaload, 1, 0, 0, 0, 0)] [r] (pc2 := 16) (ls2 := [some (.ref 3), some (.int (nI r)), some (.int p)]) (st2 := [.int (M.1 5 r)]) (M2 := M) (Ps := [(nI r) = nI r ∧ r < 12]) (by decide +kernel) rfl rfl ⟨⟨rfl, by omega⟩, trivial⟩ ?_
    exact G.reti (by decide +kernel) rfl rfl (Nat.le_of_ble_eq_true rfl) (Nat.le_of_ble_eq_true rfl) (by simp only [oe, if_pos c1])
def ra (A B : Nat → Int32) (p : Int32) : Nat → Int32
  | 0 => nI 0
  | i + 1 => (if (oe (A) (B) i p) = ((-1)) then ra A B p i else (ra A B p i) + nI 1)
theorem c_roadsAt (z : Zp) (d : Nat) (M : Mem) (p : Int32) (nr : Nat) (hnr : nr ≤ 12) (hr : M.1 3 1 = nI nr) : GM z mX7_roadsAt (d + 1) [.ref 3, .int p] M (fun rs => rs = .inl (some (.int (ra (M.1 4) (M.1 5) p nr)), M)) := by
  refine GM.of oX7_roadsAt.1 (Nat.le_of_ble_eq_true rfl) ?_
  show G z mX7_roadsAt (d + 1) 0 0 0 [some (.ref 3), some (.int p), none, none] [] M _
  refine G.sl [(.iconst 0, 1, 0, 0, 0, nI 0), (.istore_n 2, 1, 2, 0, 0, 0), (.iconst 0, 1, 0, 0, 0, nI 0), (.istore_n 3, 1, 3, 0, 0, 0)] [] (pc2 := 4) (ls2 := [some (.ref 3), some (.int p), some (.int (nI 0)), some (.int (nI 0))]) (st2 := []) (M2 := M) (Ps := []) (by decide +kernel) rfl rfl trivial ?_
  refine down (n := nr) (P := fun i => G z mX7_roadsAt (d + 1) 0 0 4 [some (.ref 3), some (.int p), some (.int (ra (M.1 4) (M.1 5) p i)), some (.int (nI i))] [] M (fun rs => rs = .inl (some (.int (ra (M.1 4) (M.1 5) p nr)), M))) ?_ ?_ 0 (Nat.zero_le _)
  · refine G.sl [(.iload_n 3, 1, 3, 0, 0, 0), (.aload_n 0, 1, 0, 0, 0, 0), (.getfield 40, 3, 6, 1, 18, 0)] [] (pc2 := 9) (ls2 := [some (.ref 3), some (.int p), some (.int (ra (M.1 4) (M.1 5) p nr)), some (.int (nI nr))]) (st2 := [.int (M.1 3 1), .int (nI nr)]) (M2 := M) (Ps := []) (by decide +kernel) rfl rfl trivial ?_
    refine G.ic_ge (off := (22)) (tgt := 31) (by decide +kernel) rfl (fun _ => ?_) (fun h9 => absurd (by rw [hr]; exact nI_le (Nat.le_refl nr) (by omega)) h9)
    refine G.sl [(.iload_n 2, 1, 2, 0, 0, 0)] [] (pc2 := 32) (ls2 := [some (.ref 3), some (.int p), some (.int (ra (M.1 4) (M.1 5) p nr)), some (.int (nI nr))]) (st2 := [.int (ra (M.1 4) (M.1 5) p nr)]) (M2 := M) (Ps := []) (by decide +kernel) rfl rfl trivial ?_
    exact G.reti (by decide +kernel) rfl rfl (Nat.le_of_ble_eq_true rfl) (Nat.le_of_ble_eq_true rfl) rfl
  · intro i hi ih
    refine G.sl [(.iload_n 3, 1, 3, 0, 0, 0), (.aload_n 0, 1, 0, 0, 0, 0), (.getfield 40, 3, 6, 1, 18, 0)] [] (pc2 := 9) (ls2 := [some (.ref 3), some (.int p), some (.int (ra (M.1 4) (M.1 5) p i)), some (.int (nI i))]) (st2 := [.int (M.1 3 1), .int (nI i)]) (M2 := M) (Ps := []) (by decide +kernel) rfl rfl trivial ?_
    refine G.ic_ge (off := (22)) (tgt := 31) (by decide +kernel) rfl (fun h9 => absurd h9 (by rw [hr]; exact nI_ge hi (by omega))) (fun _ => ?_)
    refine G.sl [(.aload_n 0, 1, 0, 0, 0, 0), (.iload_n 3, 1, 3, 0, 0, 0), (.iload_n 1, 1, 1, 0, 0, 0)] [] (pc2 := 15) (ls2 := [some (.ref 3), some (.int p), some (.int (ra (M.1 4) (M.1 5) p i)), some (.int (nI i))]) (st2 := [.int p, .int (nI i), .ref 3]) (M2 := M) (Ps := []) (by decide +kernel) rfl rfl trivial ?_
    refine G.callV (as := [.int (nI i), .int p]) (rest := []) (a := 3) oX7_otherEnd lk_EvenFinders_Town_126 (by decide +kernel) rfl rfl ⟨rfl, rfl⟩ (Nat.le_of_ble_eq_true rfl) rfl ⟨Nat.le_of_ble_eq_true rfl, Nat.le_of_ble_eq_true rfl⟩ (c_otherEnd z _ _ i p (by omega)) (fun v9 N9 h1 => ?_) (fun E9 N9 h1 => by cases h1)
    cases h1
    refine G.sl [(.iconst (-1), 1, 0, 0, 0, (-1))] [] (pc2 := 19) (ls2 := [some (.ref 3), some (.int p), some (.int (ra (M.1 4) (M.1 5) p i)), some (.int (nI i))]) (st2 := [.int ((-1)), .int (oe (M.1 4) (M.1 5) i p)]) (M2 := M) (Ps := []) (by decide +kernel) rfl rfl trivial ?_
    refine G.ic_eq (off := (6)) (tgt := 25) (by decide +kernel) rfl (fun c2 => ?_) (fun c2 => ?_)
    · refine G.sl [(.iinc 3 1, 3, 3, 0, 0, nI 1), (.goto (-24), 3, 4, 0, 0, 0)] [] (pc2 := 4) (ls2 := [some (.ref 3), some (.int p), some (.int (ra (M.1 4) (M.1 5) p i)), some (.int ((nI i) + nI 1))]) (st2 := []) (M2 := M) (Ps := []) (by decide +kernel) rfl rfl trivial ?_
      rw [nI_add]
      simp only [ra, if_pos c2] at ih
      exact ih
    · refine G.sl [(.iinc 2 1, 3, 2, 0, 0, nI 1), (.iinc 3 1, 3, 3, 0, 0, nI 1), (.goto (-24), 3, 4, 0, 0, 0)] [] (pc2 := 4) (ls2 := [some (.ref 3), some (.int p), some (.int ((ra (M.1 4) (M.1 5) p i) + nI 1)), some (.int ((nI i) + nI 1))]) (st2 := []) (M2 := M) (Ps := []) (by decide +kernel) rfl rfl trivial ?_
      rw [nI_add]
      simp only [ra, if_neg c2] at ih
      exact ih
def lh (R W : Nat → Int32) (f : Int32) : Nat → Option Nat
  | 0 => none
  | i + 1 => (if (R (41 + i)) = f then (match lh R W f i with | none => some i | some b2 => (if (W b2) ≤ (W i) then some b2 else some i)) else lh R W f i)
theorem lh_lt (R W : Nat → Int32) (f : Int32) : ∀ (n b : Nat), lh R W f n = some b → b < n
  | 0, b, h => by cases h
  | n + 1, b, h => by
    have ih := lh_lt R W f n
    simp only [lh] at h
    rcases hx : lh R W f n with _ | c0
    · simp only [hx] at h
      repeat' split at h
      all_goals first | (cases h; omega) | (cases h; done)
    · have hc := ih c0 hx
      simp only [hx] at h
      repeat' split at h
      all_goals first | (cases h; omega) | (cases h; done)
theorem c_leastHeld_37 (z : Zp) (d : Nat) (M : Mem) (f : Int32) (nt : Nat) (hnt : nt ≤ 10) (ht : M.1 3 2 = nI nt) : GM z mX1_leastHeld (d) [.ref 37, .int f] M (fun rs => rs = .inl (some (.int (en (lh (M.1 38) (M.1 7) f nt))), M)) := by
  refine GM.of oX1_leastHeld.1 (Nat.le_of_ble_eq_true rfl) ?_
  show G z mX1_leastHeld (d) 0 0 0 [some (.ref 37), some (.int f), none, none] [] M _
  refine G.sl [(.iconst (-1), 1, 0, 0, 0, (-1)), (.istore_n 2, 1, 2, 0, 0, 0), (.iconst 0, 1, 0, 0, 0, nI 0), (.istore_n 3, 1, 3, 0, 0, 0)] [] (pc2 := 4) (ls2 := [some (.ref 37), some (.int f), some (.int ((-1))), some (.int (nI 0))]) (st2 := []) (M2 := M) (Ps := []) (by decide +kernel) rfl rfl trivial ?_
  refine down (n := nt) (P := fun i => G z mX1_leastHeld (d) 0 0 4 [some (.ref 37), some (.int f), some (.int (en (lh (M.1 38) (M.1 7) f i))), some (.int (nI i))] [] M (fun rs => rs = .inl (some (.int (en (lh (M.1 38) (M.1 7) f nt))), M))) ?_ ?_ 0 (Nat.zero_le _)
  · refine G.sl [(.iload_n 3, 1, 3, 0, 0, 0), (.aload_n 0, 1, 0, 0, 0, 0), (.getfield 18, 3, 1, 2, 79, 0), (.getfield 86, 3, 6, 2, 28, 0)] [] (pc2 := 12) (ls2 := [some (.ref 37), some (.int f), some (.int (en (lh (M.1 38) (M.1 7) f nt))), some (.int (nI nt))]) (st2 := [.int (M.1 3 2), .int (nI nt)]) (M2 := M) (Ps := []) (by decide +kernel) rfl rfl trivial ?_
    refine G.ic_ge (off := (50)) (tgt := 62) (by decide +kernel) rfl (fun _ => ?_) (fun h9 => absurd (by rw [ht]; exact nI_le (Nat.le_refl nt) (by omega)) h9)
    refine G.sl [(.iload_n 2, 1, 2, 0, 0, 0)] [] (pc2 := 63) (ls2 := [some (.ref 37), some (.int f), some (.int (en (lh (M.1 38) (M.1 7) f nt))), some (.int (nI nt))]) (st2 := [.int (en (lh (M.1 38) (M.1 7) f nt))]) (M2 := M) (Ps := []) (by decide +kernel) rfl rfl trivial ?_
    exact G.reti (by decide +kernel) rfl rfl (Nat.le_of_ble_eq_true rfl) (Nat.le_of_ble_eq_true rfl) rfl
  · intro i hi ih
    refine G.sl [(.iload_n 3, 1, 3, 0, 0, 0), (.aload_n 0, 1, 0, 0, 0, 0), (.getfield 18, 3, 1, 2, 79, 0), (.getfield 86, 3, 6, 2, 28, 0)] [] (pc2 := 12) (ls2 := [some (.ref 37), some (.int f), some (.int (en (lh (M.1 38) (M.1 7) f i))), some (.int (nI i))]) (st2 := [.int (M.1 3 2), .int (nI i)]) (M2 := M) (Ps := []) (by decide +kernel) rfl rfl trivial ?_
    refine G.ic_ge (off := (50)) (tgt := 62) (by decide +kernel) rfl (fun h9 => absurd h9 (by rw [ht]; exact nI_ge hi (by omega))) (fun _ => ?_)
    refine G.sl [(.aload_n 0, 1, 0, 0, 0, 0), (.getfield 9, 3, 1, 0, 73, 0), (.bipush 41, 2, 0, 0, 0, nI 41), (.iload_n 3, 1, 3, 0, 0, 0), (.iadd, 1, 0, 0, 0, 0), (.iaload, 1, 0, 0, 0, 0), (.iload_n 1, 1, 1, 0, 0, 0)] [41 + i] (pc2 := 25) (ls2 := [some (.ref 37), some (.int f), some (.int (en (lh (M.1 38) (M.1 7) f i))), some (.int (nI i))]) (st2 := [.int f, .int (M.1 38 (41 + i))]) (M2 := M) (Ps := [((nI 41) + (nI i)) = nI (41 + i) ∧ (41 + i) < 51]) (by decide +kernel) rfl rfl ⟨⟨(by simp only [nI_add, pk_mul]), by omega⟩, trivial⟩ ?_
    refine G.ic_ne (off := (31)) (tgt := 56) (by decide +kernel) rfl (fun c1 => ?_) (fun c1 => ?_)
    · refine G.sl [(.iinc 3 1, 3, 3, 0, 0, nI 1), (.goto (-55), 3, 4, 0, 0, 0)] [] (pc2 := 4) (ls2 := [some (.ref 37), some (.int f), some (.int (en (lh (M.1 38) (M.1 7) f i))), some (.int ((nI i) + nI 1))]) (st2 := []) (M2 := M) (Ps := []) (by decide +kernel) rfl rfl trivial ?_
      rw [nI_add]
      simp only [lh, if_neg c1] at ih
      exact ih
    · refine G.sl [(.iload_n 2, 1, 2, 0, 0, 0), (.iconst (-1), 1, 0, 0, 0, (-1))] [] (pc2 := 30) (ls2 := [some (.ref 37), some (.int f), some (.int (en (lh (M.1 38) (M.1 7) f i))), some (.int (nI i))]) (st2 := [.int ((-1)), .int (en (lh (M.1 38) (M.1 7) f i))]) (M2 := M) (Ps := []) (by decide +kernel) rfl rfl trivial ?_
      rcases g2 : lh (M.1 38) (M.1 7) f i with _ | b2
      · show G z mX1_leastHeld (d) 0 0 30 [some (.ref 37), some (.int f), some (.int ((-1))), some (.int (nI i))] [.int ((-1)), .int ((-1))] M _
        refine G.ic_eq (off := (24)) (tgt := 54) (by decide +kernel) rfl (fun _ => ?_) (fun h9 => absurd (by decide) h9)
        refine G.sl [(.iload_n 3, 1, 3, 0, 0, 0), (.istore_n 2, 1, 2, 0, 0, 0), (.iinc 3 1, 3, 3, 0, 0, nI 1), (.goto (-55), 3, 4, 0, 0, 0)] [] (pc2 := 4) (ls2 := [some (.ref 37), some (.int f), some (.int (nI i)), some (.int ((nI i) + nI 1))]) (st2 := []) (M2 := M) (Ps := []) (by decide +kernel) rfl rfl trivial ?_
        rw [nI_add]
        simp only [lh, if_pos c1, g2] at ih
        exact ih
      · show G z mX1_leastHeld (d) 0 0 30 [some (.ref 37), some (.int f), some (.int (nI b2)), some (.int (nI i))] [.int ((-1)), .int (nI b2)] M _
        have hbb2 := lh_lt (M.1 38) (M.1 7) f i b2 g2
        refine G.ic_eq (off := (24)) (tgt := 54) (by decide +kernel) rfl (fun h9 => absurd h9 (nI_nm (by omega))) (fun _ => ?_)
        refine G.sl [(.aload_n 0, 1, 0, 0, 0, 0), (.getfield 18, 3, 1, 2, 79, 0), (.getfield 63, 3, 6, 7, 44, 0), (.iload_n 3, 1, 3, 0, 0, 0), (.iaload, 1, 0, 0, 0, 0), (.aload_n 0, 1, 0, 0, 0, 0), (.getfield 18, 3, 1, 2, 79, 0), (.getfield 63, 3, 6, 7, 44, 0), (.iload_n 2, 1, 2, 0, 0, 0), (.iaload, 1, 0, 0, 0, 0)] [i, b2] (pc2 := 51) (ls2 := [some (.ref 37), some (.int f), some (.int (nI b2)), some (.int (nI i))]) (st2 := [.int (M.1 7 b2), .int (M.1 7 i)]) (M2 := M) (Ps := [(nI i) = nI i ∧ i < 10, (nI b2) = nI b2 ∧ b2 < 10]) (by decide +kernel) rfl rfl ⟨⟨rfl, by omega⟩, ⟨rfl, by omega⟩, trivial⟩ ?_
        refine G.ic_ge (off := (5)) (tgt := 56) (by decide +kernel) rfl (fun c3 => ?_) (fun c3 => ?_)
        · refine G.sl [(.iinc 3 1, 3, 3, 0, 0, nI 1), (.goto (-55), 3, 4, 0, 0, 0)] [] (pc2 := 4) (ls2 := [some (.ref 37), some (.int f), some (.int (nI b2)), some (.int ((nI i) + nI 1))]) (st2 := []) (M2 := M) (Ps := []) (by decide +kernel) rfl rfl trivial ?_
          rw [nI_add]
          simp only [lh, if_pos c1, g2, if_pos c3] at ih
          exact ih
        · refine G.sl [(.iload_n 3, 1, 3, 0, 0, 0), (.istore_n 2, 1, 2, 0, 0, 0), (.iinc 3 1, 3, 3, 0, 0, nI 1), (.goto (-55), 3, 4, 0, 0, 0)] [] (pc2 := 4) (ls2 := [some (.ref 37), some (.int f), some (.int (nI i)), some (.int ((nI i) + nI 1))]) (st2 := []) (M2 := M) (Ps := []) (by decide +kernel) rfl rfl trivial ?_
          rw [nI_add]
          simp only [lh, if_pos c1, g2, if_neg c3] at ih
          exact ih
def gl (R W : Nat → Int32) : Nat → Option Nat
  | 0 => none
  | i + 1 => (if (R (41 + i)) = ((-1)) then (match gl R W i with | none => some i | some b2 => (if (W i) ≤ (W b2) then some b2 else some i)) else gl R W i)
theorem gl_lt (R W : Nat → Int32) : ∀ (n b : Nat), gl R W n = some b → b < n
  | 0, b, h => by cases h
  | n + 1, b, h => by
    have ih := gl_lt R W n
    simp only [gl] at h
    rcases hx : gl R W n with _ | c0
    · simp only [hx] at h
      repeat' split at h
      all_goals first | (cases h; omega) | (cases h; done)
    · have hc := ih c0 hx
      simp only [hx] at h
      repeat' split at h
      all_goals first | (cases h; omega) | (cases h; done)
theorem c_greatestLying_37 (z : Zp) (d : Nat) (M : Mem)  (nt : Nat) (hnt : nt ≤ 10) (ht : M.1 3 2 = nI nt) : GM z mX1_greatestLying (d) [.ref 37] M (fun rs => rs = .inl (some (.int (en (gl (M.1 38) (M.1 7) nt))), M)) := by
  refine GM.of oX1_greatestLying.1 (Nat.le_of_ble_eq_true rfl) ?_
  show G z mX1_greatestLying (d) 0 0 0 [some (.ref 37), none, none] [] M _
  refine G.sl [(.iconst (-1), 1, 0, 0, 0, (-1)), (.istore_n 1, 1, 1, 0, 0, 0), (.iconst 0, 1, 0, 0, 0, nI 0), (.istore_n 2, 1, 2, 0, 0, 0)] [] (pc2 := 4) (ls2 := [some (.ref 37), some (.int ((-1))), some (.int (nI 0))]) (st2 := []) (M2 := M) (Ps := []) (by decide +kernel) rfl rfl trivial ?_
  refine down (n := nt) (P := fun i => G z mX1_greatestLying (d) 0 0 4 [some (.ref 37), some (.int (en (gl (M.1 38) (M.1 7) i))), some (.int (nI i))] [] M (fun rs => rs = .inl (some (.int (en (gl (M.1 38) (M.1 7) nt))), M))) ?_ ?_ 0 (Nat.zero_le _)
  · refine G.sl [(.iload_n 2, 1, 2, 0, 0, 0), (.aload_n 0, 1, 0, 0, 0, 0), (.getfield 18, 3, 1, 2, 79, 0), (.getfield 86, 3, 6, 2, 28, 0)] [] (pc2 := 12) (ls2 := [some (.ref 37), some (.int (en (gl (M.1 38) (M.1 7) nt))), some (.int (nI nt))]) (st2 := [.int (M.1 3 2), .int (nI nt)]) (M2 := M) (Ps := []) (by decide +kernel) rfl rfl trivial ?_
    refine G.ic_ge (off := (50)) (tgt := 62) (by decide +kernel) rfl (fun _ => ?_) (fun h9 => absurd (by rw [ht]; exact nI_le (Nat.le_refl nt) (by omega)) h9)
    refine G.sl [(.iload_n 1, 1, 1, 0, 0, 0)] [] (pc2 := 63) (ls2 := [some (.ref 37), some (.int (en (gl (M.1 38) (M.1 7) nt))), some (.int (nI nt))]) (st2 := [.int (en (gl (M.1 38) (M.1 7) nt))]) (M2 := M) (Ps := []) (by decide +kernel) rfl rfl trivial ?_
    exact G.reti (by decide +kernel) rfl rfl (Nat.le_of_ble_eq_true rfl) (Nat.le_of_ble_eq_true rfl) rfl
  · intro i hi ih
    refine G.sl [(.iload_n 2, 1, 2, 0, 0, 0), (.aload_n 0, 1, 0, 0, 0, 0), (.getfield 18, 3, 1, 2, 79, 0), (.getfield 86, 3, 6, 2, 28, 0)] [] (pc2 := 12) (ls2 := [some (.ref 37), some (.int (en (gl (M.1 38) (M.1 7) i))), some (.int (nI i))]) (st2 := [.int (M.1 3 2), .int (nI i)]) (M2 := M) (Ps := []) (by decide +kernel) rfl rfl trivial ?_
    refine G.ic_ge (off := (50)) (tgt := 62) (by decide +kernel) rfl (fun h9 => absurd h9 (by rw [ht]; exact nI_ge hi (by omega))) (fun _ => ?_)
    refine G.sl [(.aload_n 0, 1, 0, 0, 0, 0), (.getfield 9, 3, 1, 0, 73, 0), (.bipush 41, 2, 0, 0, 0, nI 41), (.iload_n 2, 1, 2, 0, 0, 0), (.iadd, 1, 0, 0, 0, 0), (.iaload, 1, 0, 0, 0, 0), (.iconst (-1), 1, 0, 0, 0, (-1))] [41 + i] (pc2 := 25) (ls2 := [some (.ref 37), some (.int (en (gl (M.1 38) (M.1 7) i))), some (.int (nI i))]) (st2 := [.int ((-1)), .int (M.1 38 (41 + i))]) (M2 := M) (Ps := [((nI 41) + (nI i)) = nI (41 + i) ∧ (41 + i) < 51]) (by decide +kernel) rfl rfl ⟨⟨(by simp only [nI_add, pk_mul]), by omega⟩, trivial⟩ ?_
    refine G.ic_ne (off := (31)) (tgt := 56) (by decide +kernel) rfl (fun c1 => ?_) (fun c1 => ?_)
    · refine G.sl [(.iinc 2 1, 3, 2, 0, 0, nI 1), (.goto (-55), 3, 4, 0, 0, 0)] [] (pc2 := 4) (ls2 := [some (.ref 37), some (.int (en (gl (M.1 38) (M.1 7) i))), some (.int ((nI i) + nI 1))]) (st2 := []) (M2 := M) (Ps := []) (by decide +kernel) rfl rfl trivial ?_
      rw [nI_add]
      simp only [gl, if_neg c1] at ih
      exact ih
    · refine G.sl [(.iload_n 1, 1, 1, 0, 0, 0), (.iconst (-1), 1, 0, 0, 0, (-1))] [] (pc2 := 30) (ls2 := [some (.ref 37), some (.int (en (gl (M.1 38) (M.1 7) i))), some (.int (nI i))]) (st2 := [.int ((-1)), .int (en (gl (M.1 38) (M.1 7) i))]) (M2 := M) (Ps := []) (by decide +kernel) rfl rfl trivial ?_
      rcases g2 : gl (M.1 38) (M.1 7) i with _ | b2
      · show G z mX1_greatestLying (d) 0 0 30 [some (.ref 37), some (.int ((-1))), some (.int (nI i))] [.int ((-1)), .int ((-1))] M _
        refine G.ic_eq (off := (24)) (tgt := 54) (by decide +kernel) rfl (fun _ => ?_) (fun h9 => absurd (by decide) h9)
        refine G.sl [(.iload_n 2, 1, 2, 0, 0, 0), (.istore_n 1, 1, 1, 0, 0, 0), (.iinc 2 1, 3, 2, 0, 0, nI 1), (.goto (-55), 3, 4, 0, 0, 0)] [] (pc2 := 4) (ls2 := [some (.ref 37), some (.int (nI i)), some (.int ((nI i) + nI 1))]) (st2 := []) (M2 := M) (Ps := []) (by decide +kernel) rfl rfl trivial ?_
        rw [nI_add]
        simp only [gl, if_pos c1, g2] at ih
        exact ih
      · show G z mX1_greatestLying (d) 0 0 30 [some (.ref 37), some (.int (nI b2)), some (.int (nI i))] [.int ((-1)), .int (nI b2)] M _
        have hbb2 := gl_lt (M.1 38) (M.1 7) i b2 g2
        refine G.ic_eq (off := (24)) (tgt := 54) (by decide +kernel) rfl (fun h9 => absurd h9 (nI_nm (by omega))) (fun _ => ?_)
        refine G.sl [(.aload_n 0, 1, 0, 0, 0, 0), (.getfield 18, 3, 1, 2, 79, 0), (.getfield 63, 3, 6, 7, 44, 0), (.iload_n 2, 1, 2, 0, 0, 0), (.iaload, 1, 0, 0, 0, 0), (.aload_n 0, 1, 0, 0, 0, 0), (.getfield 18, 3, 1, 2, 79, 0), (.getfield 63, 3, 6, 7, 44, 0), (.iload_n 1, 1, 1, 0, 0, 0), (.iaload, 1, 0, 0, 0, 0)] [i, b2] (pc2 := 51) (ls2 := [some (.ref 37), some (.int (nI b2)), some (.int (nI i))]) (st2 := [.int (M.1 7 b2), .int (M.1 7 i)]) (M2 := M) (Ps := [(nI i) = nI i ∧ i < 10, (nI b2) = nI b2 ∧ b2 < 10]) (by decide +kernel) rfl rfl ⟨⟨rfl, by omega⟩, ⟨rfl, by omega⟩, trivial⟩ ?_
        refine G.ic_le (off := (5)) (tgt := 56) (by decide +kernel) rfl (fun c3 => ?_) (fun c3 => ?_)
        · refine G.sl [(.iinc 2 1, 3, 2, 0, 0, nI 1), (.goto (-55), 3, 4, 0, 0, 0)] [] (pc2 := 4) (ls2 := [some (.ref 37), some (.int (nI b2)), some (.int ((nI i) + nI 1))]) (st2 := []) (M2 := M) (Ps := []) (by decide +kernel) rfl rfl trivial ?_
          rw [nI_add]
          simp only [gl, if_pos c1, g2, if_pos c3] at ih
          exact ih
        · refine G.sl [(.iload_n 2, 1, 2, 0, 0, 0), (.istore_n 1, 1, 1, 0, 0, 0), (.iinc 2 1, 3, 2, 0, 0, nI 1), (.goto (-55), 3, 4, 0, 0, 0)] [] (pc2 := 4) (ls2 := [some (.ref 37), some (.int (nI i)), some (.int ((nI i) + nI 1))]) (st2 := []) (M2 := M) (Ps := []) (by decide +kernel) rfl rfl trivial ?_
          rw [nI_add]
          simp only [gl, if_pos c1, g2, if_neg c3] at ih
          exact ih
def dpo (R : Nat → Int32) : Nat → Option Nat
  | 0 => none
  | i + 1 => (match dpo R i with | none => some i | some b1 => (if (R (7 + i)) ≤ (R (7 + b1)) then some b1 else some i))
theorem dpo_lt (R : Nat → Int32) : ∀ (n b : Nat), dpo R n = some b → b < n
  | 0, b, h => by cases h
  | n + 1, b, h => by
    have ih := dpo_lt R n
    simp only [dpo] at h
    rcases hx : dpo R n with _ | c0
    · simp only [hx] at h
      repeat' split at h
      all_goals first | (cases h; omega) | (cases h; done)
    · have hc := ih c0 hx
      simp only [hx] at h
      repeat' split at h
      all_goals first | (cases h; omega) | (cases h; done)
theorem c_deepestOwing_37 (z : Zp) (d : Nat) (M : Mem)  (nf : Nat) (hnf : nf ≤ 6) (hf : M.1 3 3 = nI nf) : GM z mX1_deepestOwing (d) [.ref 37] M (fun rs => rs = .inl (some (.int (en (dpo (M.1 38) nf))), M)) := by
  refine GM.of oX1_deepestOwing.1 (Nat.le_of_ble_eq_true rfl) ?_
  show G z mX1_deepestOwing (d) 0 0 0 [some (.ref 37), none, none] [] M _
  refine G.sl [(.iconst (-1), 1, 0, 0, 0, (-1)), (.istore_n 1, 1, 1, 0, 0, 0), (.iconst 0, 1, 0, 0, 0, nI 0), (.istore_n 2, 1, 2, 0, 0, 0)] [] (pc2 := 4) (ls2 := [some (.ref 37), some (.int ((-1))), some (.int (nI 0))]) (st2 := []) (M2 := M) (Ps := []) (by decide +kernel) rfl rfl trivial ?_
  refine down (n := nf) (P := fun i => G z mX1_deepestOwing (d) 0 0 4 [some (.ref 37), some (.int (en (dpo (M.1 38) i))), some (.int (nI i))] [] M (fun rs => rs = .inl (some (.int (en (dpo (M.1 38) nf))), M))) ?_ ?_ 0 (Nat.zero_le _)
  · refine G.sl [(.iload_n 2, 1, 2, 0, 0, 0), (.aload_n 0, 1, 0, 0, 0, 0), (.getfield 18, 3, 1, 2, 79, 0), (.getfield 78, 3, 6, 3, 34, 0)] [] (pc2 := 12) (ls2 := [some (.ref 37), some (.int (en (dpo (M.1 38) nf))), some (.int (nI nf))]) (st2 := [.int (M.1 3 3), .int (nI nf)]) (M2 := M) (Ps := []) (by decide +kernel) rfl rfl trivial ?_
    refine G.ic_ge (off := (37)) (tgt := 49) (by decide +kernel) rfl (fun _ => ?_) (fun h9 => absurd (by rw [hf]; exact nI_le (Nat.le_refl nf) (by omega)) h9)
    refine G.sl [(.iload_n 1, 1, 1, 0, 0, 0)] [] (pc2 := 50) (ls2 := [some (.ref 37), some (.int (en (dpo (M.1 38) nf))), some (.int (nI nf))]) (st2 := [.int (en (dpo (M.1 38) nf))]) (M2 := M) (Ps := []) (by decide +kernel) rfl rfl trivial ?_
    exact G.reti (by decide +kernel) rfl rfl (Nat.le_of_ble_eq_true rfl) (Nat.le_of_ble_eq_true rfl) rfl
  · intro i hi ih
    refine G.sl [(.iload_n 2, 1, 2, 0, 0, 0), (.aload_n 0, 1, 0, 0, 0, 0), (.getfield 18, 3, 1, 2, 79, 0), (.getfield 78, 3, 6, 3, 34, 0)] [] (pc2 := 12) (ls2 := [some (.ref 37), some (.int (en (dpo (M.1 38) i))), some (.int (nI i))]) (st2 := [.int (M.1 3 3), .int (nI i)]) (M2 := M) (Ps := []) (by decide +kernel) rfl rfl trivial ?_
    refine G.ic_ge (off := (37)) (tgt := 49) (by decide +kernel) rfl (fun h9 => absurd h9 (by rw [hf]; exact nI_ge hi (by omega))) (fun _ => ?_)
    refine G.sl [(.iload_n 1, 1, 1, 0, 0, 0), (.iconst (-1), 1, 0, 0, 0, (-1))] [] (pc2 := 17) (ls2 := [some (.ref 37), some (.int (en (dpo (M.1 38) i))), some (.int (nI i))]) (st2 := [.int ((-1)), .int (en (dpo (M.1 38) i))]) (M2 := M) (Ps := []) (by decide +kernel) rfl rfl trivial ?_
    rcases g1 : dpo (M.1 38) i with _ | b1
    · show G z mX1_deepestOwing (d) 0 0 17 [some (.ref 37), some (.int ((-1))), some (.int (nI i))] [.int ((-1)), .int ((-1))] M _
      refine G.ic_eq (off := (24)) (tgt := 41) (by decide +kernel) rfl (fun _ => ?_) (fun h9 => absurd (by decide) h9)
      refine G.sl [(.iload_n 2, 1, 2, 0, 0, 0), (.istore_n 1, 1, 1, 0, 0, 0), (.iinc 2 1, 3, 2, 0, 0, nI 1), (.goto (-42), 3, 4, 0, 0, 0)] [] (pc2 := 4) (ls2 := [some (.ref 37), some (.int (nI i)), some (.int ((nI i) + nI 1))]) (st2 := []) (M2 := M) (Ps := []) (by decide +kernel) rfl rfl trivial ?_
      rw [nI_add]
      simp only [dpo, g1] at ih
      exact ih
    · show G z mX1_deepestOwing (d) 0 0 17 [some (.ref 37), some (.int (nI b1)), some (.int (nI i))] [.int ((-1)), .int (nI b1)] M _
      have hbb1 := dpo_lt (M.1 38) i b1 g1
      refine G.ic_eq (off := (24)) (tgt := 41) (by decide +kernel) rfl (fun h9 => absurd h9 (nI_nm (by omega))) (fun _ => ?_)
      refine G.sl [(.aload_n 0, 1, 0, 0, 0, 0), (.getfield 9, 3, 1, 0, 73, 0), (.bipush 7, 2, 0, 0, 0, nI 7), (.iload_n 2, 1, 2, 0, 0, 0), (.iadd, 1, 0, 0, 0, 0), (.iaload, 1, 0, 0, 0, 0), (.aload_n 0, 1, 0, 0, 0, 0), (.getfield 9, 3, 1, 0, 73, 0), (.bipush 7, 2, 0, 0, 0, nI 7), (.iload_n 1, 1, 1, 0, 0, 0), (.iadd, 1, 0, 0, 0, 0), (.iaload, 1, 0, 0, 0, 0)] [7 + i, 7 + b1] (pc2 := 38) (ls2 := [some (.ref 37), some (.int (nI b1)), some (.int (nI i))]) (st2 := [.int (M.1 38 (7 + b1)), .int (M.1 38 (7 + i))]) (M2 := M) (Ps := [((nI 7) + (nI i)) = nI (7 + i) ∧ (7 + i) < 51, ((nI 7) + (nI b1)) = nI (7 + b1) ∧ (7 + b1) < 51]) (by decide +kernel) rfl rfl ⟨⟨(by simp only [nI_add, pk_mul]), by omega⟩, ⟨(by simp only [nI_add, pk_mul]), by omega⟩, trivial⟩ ?_
      refine G.ic_le (off := (5)) (tgt := 43) (by decide +kernel) rfl (fun c2 => ?_) (fun c2 => ?_)
      · refine G.sl [(.iinc 2 1, 3, 2, 0, 0, nI 1), (.goto (-42), 3, 4, 0, 0, 0)] [] (pc2 := 4) (ls2 := [some (.ref 37), some (.int (nI b1)), some (.int ((nI i) + nI 1))]) (st2 := []) (M2 := M) (Ps := []) (by decide +kernel) rfl rfl trivial ?_
        rw [nI_add]
        simp only [dpo, g1, if_pos c2] at ih
        exact ih
      · refine G.sl [(.iload_n 2, 1, 2, 0, 0, 0), (.istore_n 1, 1, 1, 0, 0, 0), (.iinc 2 1, 3, 2, 0, 0, nI 1), (.goto (-42), 3, 4, 0, 0, 0)] [] (pc2 := 4) (ls2 := [some (.ref 37), some (.int (nI i)), some (.int ((nI i) + nI 1))]) (st2 := []) (M2 := M) (Ps := []) (by decide +kernel) rfl rfl trivial ?_
        rw [nI_add]
        simp only [dpo, g1, if_neg c2] at ih
        exact ih
def hba (R : Nat → Int32) (nt : Nat) : Int32 := (((nI 1) <<< ((nI nt) &&& 31)) - (nI 1)) &&& ((hb (R) ((-1)) nt) ^^^ ((-1)))
theorem c_heldByAll_37 (z : Zp) (d : Nat) (M : Mem) (nt : Nat) (hnt : nt ≤ 10) (ht : M.1 3 2 = nI nt) : GM z mX1_heldByAll (d + 1) [.ref 37] M (fun rs => rs = .inl (some (.int (hba (M.1 38) nt)), M)) := by
  refine GM.of oX1_heldByAll.1 (Nat.le_of_ble_eq_true rfl) ?_
  show G z mX1_heldByAll (d + 1) 0 0 0 [some (.ref 37), none] [] M _
  refine G.sl [(.iconst 1, 1, 0, 0, 0, nI 1), (.aload_n 0, 1, 0, 0, 0, 0), (.getfield 18, 3, 1, 2, 79, 0), (.getfield 86, 3, 6, 2, 28, 0), (.ishl, 1, 0, 0, 0, 0), (.iconst 1, 1, 0, 0, 0, nI 1), (.isub, 1, 0, 0, 0, 0), (.istore_n 1, 1, 1, 0, 0, 0), (.iload_n 1, 1, 1, 0, 0, 0), (.aload_n 0, 1, 0, 0, 0, 0), (.iconst (-1), 1, 0, 0, 0, (-1))] [] (pc2 := 15) (ls2 := [some (.ref 37), some (.int (((nI 1) <<< ((M.1 3 2) &&& 31)) - (nI 1)))]) (st2 := [.int ((-1)), .ref 37, .int (((nI 1) <<< ((M.1 3 2) &&& 31)) - (nI 1))]) (M2 := M) (Ps := []) (by decide +kernel) rfl rfl trivial ?_
  refine G.callV (as := [.int ((-1))]) (rest := [.int (((nI 1) <<< ((M.1 3 2) &&& 31)) - (nI 1))]) (a := 37) oX1_heldBy lk_EvenFinders_Days_94 (by decide +kernel) rfl rfl ⟨rfl, rfl⟩ (Nat.le_of_ble_eq_true rfl) rfl ⟨Nat.le_of_ble_eq_true rfl, Nat.le_of_ble_eq_true rfl⟩ (c_heldBy_37 z _ _ ((-1)) nt hnt ht) (fun v9 N9 h1 => ?_) (fun E9 N9 h1 => by cases h1)
  cases h1
  refine G.sl [(.iconst (-1), 1, 0, 0, 0, (-1)), (.ixor, 1, 0, 0, 0, 0), (.iand, 1, 0, 0, 0, 0)] [] (pc2 := 21) (ls2 := [some (.ref 37), some (.int (((nI 1) <<< ((M.1 3 2) &&& 31)) - (nI 1)))]) (st2 := [.int ((((nI 1) <<< ((M.1 3 2) &&& 31)) - (nI 1)) &&& ((hb (M.1 38) ((-1)) nt) ^^^ ((-1))))]) (M2 := M) (Ps := []) (by decide +kernel) rfl rfl trivial ?_
  exact G.reti (by decide +kernel) rfl rfl (Nat.le_of_ble_eq_true rfl) (Nat.le_of_ble_eq_true rfl) (by simp only [ht, hba])
def lw (R W : Nat → Int32) (nt : Nat) : Int32 := wo (W) (hb (R) ((-1)) nt) nt
theorem c_lyingWorth_37 (z : Zp) (d : Nat) (M : Mem) (nt : Nat) (hnt : nt ≤ 10) (ht : M.1 3 2 = nI nt) : GM z mX1_lyingWorth (d + 1) [.ref 37] M (fun rs => rs = .inl (some (.int (lw (M.1 38) (M.1 7) nt)), M)) := by
  refine GM.of oX1_lyingWorth.1 (Nat.le_of_ble_eq_true rfl) ?_
  show G z mX1_lyingWorth (d + 1) 0 0 0 [some (.ref 37)] [] M _
  refine G.sl [(.aload_n 0, 1, 0, 0, 0, 0), (.getfield 18, 3, 1, 2, 79, 0), (.aload_n 0, 1, 0, 0, 0, 0), (.iconst (-1), 1, 0, 0, 0, (-1))] [] (pc2 := 6) (ls2 := [some (.ref 37)]) (st2 := [.int ((-1)), .ref 37, .ref 3]) (M2 := M) (Ps := []) (by decide +kernel) rfl rfl trivial ?_
  refine G.callV (as := [.int ((-1))]) (rest := [.ref 3]) (a := 37) oX1_heldBy lk_EvenFinders_Days_94 (by decide +kernel) rfl rfl ⟨rfl, rfl⟩ (Nat.le_of_ble_eq_true rfl) rfl ⟨Nat.le_of_ble_eq_true rfl, Nat.le_of_ble_eq_true rfl⟩ (c_heldBy_37 z _ _ ((-1)) nt hnt ht) (fun v9 N9 h1 => ?_) (fun E9 N9 h1 => by cases h1)
  cases h1
  refine G.callV (as := [.int (hb (M.1 38) ((-1)) nt)]) (rest := []) (a := 3) oX7_worthOf lk_EvenFinders_Days_109 (by decide +kernel) rfl rfl ⟨rfl, rfl⟩ (Nat.le_of_ble_eq_true rfl) rfl ⟨Nat.le_of_ble_eq_true rfl, Nat.le_of_ble_eq_true rfl⟩ (c_worthOf z _ _ (hb (M.1 38) ((-1)) nt) nt hnt ht) (fun v9 N9 h2 => ?_) (fun E9 N9 h2 => by cases h2)
  cases h2
  exact G.reti (by decide +kernel) rfl rfl (Nat.le_of_ble_eq_true rfl) (Nat.le_of_ble_eq_true rfl) (by simp only [lw])
def mf (R : Nat → Int32) (a t : Nat) : Int32 := (if (R (31 + t)) = (R (1 + a)) then (if 0 < (R (7 + a)) then nI 0 else nI 1) else nI 0)
theorem c_mayFind_37 (z : Zp) (d : Nat) (M : Mem) (a t : Nat) (ha : a < 6) (ht : t < 10) : GM z mX1_mayFind (d) [.ref 37, .int (nI a), .int (nI t)] M (fun rs => rs = .inl (some (.int (mf (M.1 38) a t)), M)) := by
  refine GM.of oX1_mayFind.1 (Nat.le_of_ble_eq_true rfl) ?_
  show G z mX1_mayFind (d) 0 0 0 [some (.ref 37), some (.int (nI a)), some (.int (nI t))] [] M _
  refine G.sl [(.aload_n 0, 1, 0, 0, 0, 0), (.getfield 9, 3, 1, 0, 73, 0), (.bipush 31, 2, 0, 0, 0, nI 31), (.iload_n 2, 1, 2, 0, 0, 0), (.iadd, 1, 0, 0, 0, 0), (.iaload, 1, 0, 0, 0, 0), (.aload_n 0, 1, 0, 0, 0, 0), (.getfield 9, 3, 1, 0, 73, 0), (.iconst 1, 1, 0, 0, 0, nI 1), (.iload_n 1, 1, 1, 0, 0, 0), (.iadd, 1, 0, 0, 0, 0), (.iaload, 1, 0, 0, 0, 0)] [31 + t, 1 + a] (pc2 := 17) (ls2 := [some (.ref 37), some (.int (nI a)), some (.int (nI t))]) (st2 := [.int (M.1 38 (1 + a)), .int (M.1 38 (31 + t))]) (M2 := M) (Ps := [((nI 31) + (nI t)) = nI (31 + t) ∧ (31 + t) < 51, ((nI 1) + (nI a)) = nI (1 + a) ∧ (1 + a) < 51]) (by decide +kernel) rfl rfl ⟨⟨(by simp only [nI_add, pk_mul]), by omega⟩, ⟨(by simp only [nI_add, pk_mul]), by omega⟩, trivial⟩ ?_
  refine G.ic_ne (off := (19)) (tgt := 36) (by decide +kernel) rfl (fun c1 => ?_) (fun c1 => ?_)
  · refine G.sl [(.iconst 0, 1, 0, 0, 0, nI 0)] [] (pc2 := 37) (ls2 := [some (.ref 37), some (.int (nI a)), some (.int (nI t))]) (st2 := [.int (nI 0)]) (M2 := M) (Ps := []) (by decide +kernel) rfl rfl trivial ?_
    exact G.reti (by decide +kernel) rfl rfl (Nat.le_of_ble_eq_true rfl) (Nat.le_of_ble_eq_true rfl) (by simp only [mf, if_neg c1])
  · refine G.sl [(.aload_n 0, 1, 0, 0, 0, 0), (.getfield 9, 3, 1, 0, 73, 0), (.bipush 7, 2, 0, 0, 0, nI 7), (.iload_n 1, 1, 1, 0, 0, 0), (.iadd, 1, 0, 0, 0, 0), (.iaload, 1, 0, 0, 0, 0)] [7 + a] (pc2 := 29) (ls2 := [some (.ref 37), some (.int (nI a)), some (.int (nI t))]) (st2 := [.int (M.1 38 (7 + a))]) (M2 := M) (Ps := [((nI 7) + (nI a)) = nI (7 + a) ∧ (7 + a) < 51]) (by decide +kernel) rfl rfl ⟨⟨(by simp only [nI_add, pk_mul]), by omega⟩, trivial⟩ ?_
    refine G.if_gt (off := (7)) (tgt := 36) (by decide +kernel) rfl (fun c2 => ?_) (fun c2 => ?_)
    · refine G.sl [(.iconst 0, 1, 0, 0, 0, nI 0)] [] (pc2 := 37) (ls2 := [some (.ref 37), some (.int (nI a)), some (.int (nI t))]) (st2 := [.int (nI 0)]) (M2 := M) (Ps := []) (by decide +kernel) rfl rfl trivial ?_
      exact G.reti (by decide +kernel) rfl rfl (Nat.le_of_ble_eq_true rfl) (Nat.le_of_ble_eq_true rfl) (by simp only [mf, if_pos c1, if_pos c2])
    · refine G.sl [(.iconst 1, 1, 0, 0, 0, nI 1), (.goto 4, 3, 37, 0, 0, 0)] [] (pc2 := 37) (ls2 := [some (.ref 37), some (.int (nI a)), some (.int (nI t))]) (st2 := [.int (nI 1)]) (M2 := M) (Ps := []) (by decide +kernel) rfl rfl trivial ?_
      exact G.reti (by decide +kernel) rfl rfl (Nat.le_of_ble_eq_true rfl) (Nat.le_of_ble_eq_true rfl) (by simp only [mf, if_pos c1, if_neg c2])
theorem c_leastHeld_40 (z : Zp) (d : Nat) (M : Mem) (f : Int32) (nt : Nat) (hnt : nt ≤ 10) (ht : M.1 3 2 = nI nt) : GM z mX1_leastHeld (d) [.ref 40, .int f] M (fun rs => rs = .inl (some (.int (en (lh (M.1 41) (M.1 7) f nt))), M)) := by
  refine GM.of oX1_leastHeld.1 (Nat.le_of_ble_eq_true rfl) ?_
  show G z mX1_leastHeld (d) 0 0 0 [some (.ref 40), some (.int f), none, none] [] M _
  refine G.sl [(.iconst (-1), 1, 0, 0, 0, (-1)), (.istore_n 2, 1, 2, 0, 0, 0), (.iconst 0, 1, 0, 0, 0, nI 0), (.istore_n 3, 1, 3, 0, 0, 0)] [] (pc2 := 4) (ls2 := [some (.ref 40), some (.int f), some (.int ((-1))), some (.int (nI 0))]) (st2 := []) (M2 := M) (Ps := []) (by decide +kernel) rfl rfl trivial ?_
  refine down (n := nt) (P := fun i => G z mX1_leastHeld (d) 0 0 4 [some (.ref 40), some (.int f), some (.int (en (lh (M.1 41) (M.1 7) f i))), some (.int (nI i))] [] M (fun rs => rs = .inl (some (.int (en (lh (M.1 41) (M.1 7) f nt))), M))) ?_ ?_ 0 (Nat.zero_le _)
  · refine G.sl [(.iload_n 3, 1, 3, 0, 0, 0), (.aload_n 0, 1, 0, 0, 0, 0), (.getfield 18, 3, 1, 2, 79, 0), (.getfield 86, 3, 6, 2, 28, 0)] [] (pc2 := 12) (ls2 := [some (.ref 40), some (.int f), some (.int (en (lh (M.1 41) (M.1 7) f nt))), some (.int (nI nt))]) (st2 := [.int (M.1 3 2), .int (nI nt)]) (M2 := M) (Ps := []) (by decide +kernel) rfl rfl trivial ?_
    refine G.ic_ge (off := (50)) (tgt := 62) (by decide +kernel) rfl (fun _ => ?_) (fun h9 => absurd (by rw [ht]; exact nI_le (Nat.le_refl nt) (by omega)) h9)
    refine G.sl [(.iload_n 2, 1, 2, 0, 0, 0)] [] (pc2 := 63) (ls2 := [some (.ref 40), some (.int f), some (.int (en (lh (M.1 41) (M.1 7) f nt))), some (.int (nI nt))]) (st2 := [.int (en (lh (M.1 41) (M.1 7) f nt))]) (M2 := M) (Ps := []) (by decide +kernel) rfl rfl trivial ?_
    exact G.reti (by decide +kernel) rfl rfl (Nat.le_of_ble_eq_true rfl) (Nat.le_of_ble_eq_true rfl) rfl
  · intro i hi ih
    refine G.sl [(.iload_n 3, 1, 3, 0, 0, 0), (.aload_n 0, 1, 0, 0, 0, 0), (.getfield 18, 3, 1, 2, 79, 0), (.getfield 86, 3, 6, 2, 28, 0)] [] (pc2 := 12) (ls2 := [some (.ref 40), some (.int f), some (.int (en (lh (M.1 41) (M.1 7) f i))), some (.int (nI i))]) (st2 := [.int (M.1 3 2), .int (nI i)]) (M2 := M) (Ps := []) (by decide +kernel) rfl rfl trivial ?_
    refine G.ic_ge (off := (50)) (tgt := 62) (by decide +kernel) rfl (fun h9 => absurd h9 (by rw [ht]; exact nI_ge hi (by omega))) (fun _ => ?_)
    refine G.sl [(.aload_n 0, 1, 0, 0, 0, 0), (.getfield 9, 3, 1, 0, 73, 0), (.bipush 41, 2, 0, 0, 0, nI 41), (.iload_n 3, 1, 3, 0, 0, 0), (.iadd, 1, 0, 0, 0, 0), (.iaload, 1, 0, 0, 0, 0), (.iload_n 1, 1, 1, 0, 0, 0)] [41 + i] (pc2 := 25) (ls2 := [some (.ref 40), some (.int f), some (.int (en (lh (M.1 41) (M.1 7) f i))), some (.int (nI i))]) (st2 := [.int f, .int (M.1 41 (41 + i))]) (M2 := M) (Ps := [((nI 41) + (nI i)) = nI (41 + i) ∧ (41 + i) < 51]) (by decide +kernel) rfl rfl ⟨⟨(by simp only [nI_add, pk_mul]), by omega⟩, trivial⟩ ?_
    refine G.ic_ne (off := (31)) (tgt := 56) (by decide +kernel) rfl (fun c1 => ?_) (fun c1 => ?_)
    · refine G.sl [(.iinc 3 1, 3, 3, 0, 0, nI 1), (.goto (-55), 3, 4, 0, 0, 0)] [] (pc2 := 4) (ls2 := [some (.ref 40), some (.int f), some (.int (en (lh (M.1 41) (M.1 7) f i))), some (.int ((nI i) + nI 1))]) (st2 := []) (M2 := M) (Ps := []) (by decide +kernel) rfl rfl trivial ?_
      rw [nI_add]
      simp only [lh, if_neg c1] at ih
      exact ih
    · refine G.sl [(.iload_n 2, 1, 2, 0, 0, 0), (.iconst (-1), 1, 0, 0, 0, (-1))] [] (pc2 := 30) (ls2 := [some (.ref 40), some (.int f), some (.int (en (lh (M.1 41) (M.1 7) f i))), some (.int (nI i))]) (st2 := [.int ((-1)), .int (en (lh (M.1 41) (M.1 7) f i))]) (M2 := M) (Ps := []) (by decide +kernel) rfl rfl trivial ?_
      rcases g2 : lh (M.1 41) (M.1 7) f i with _ | b2
      · show G z mX1_leastHeld (d) 0 0 30 [some (.ref 40), some (.int f), some (.int ((-1))), some (.int (nI i))] [.int ((-1)), .int ((-1))] M _
        refine G.ic_eq (off := (24)) (tgt := 54) (by decide +kernel) rfl (fun _ => ?_) (fun h9 => absurd (by decide) h9)
        refine G.sl [(.iload_n 3, 1, 3, 0, 0, 0), (.istore_n 2, 1, 2, 0, 0, 0), (.iinc 3 1, 3, 3, 0, 0, nI 1), (.goto (-55), 3, 4, 0, 0, 0)] [] (pc2 := 4) (ls2 := [some (.ref 40), some (.int f), some (.int (nI i)), some (.int ((nI i) + nI 1))]) (st2 := []) (M2 := M) (Ps := []) (by decide +kernel) rfl rfl trivial ?_
        rw [nI_add]
        simp only [lh, if_pos c1, g2] at ih
        exact ih
      · show G z mX1_leastHeld (d) 0 0 30 [some (.ref 40), some (.int f), some (.int (nI b2)), some (.int (nI i))] [.int ((-1)), .int (nI b2)] M _
        have hbb2 := lh_lt (M.1 41) (M.1 7) f i b2 g2
        refine G.ic_eq (off := (24)) (tgt := 54) (by decide +kernel) rfl (fun h9 => absurd h9 (nI_nm (by omega))) (fun _ => ?_)
        refine G.sl [(.aload_n 0, 1, 0, 0, 0, 0), (.getfield 18, 3, 1, 2, 79, 0), (.getfield 63, 3, 6, 7, 44, 0), (.iload_n 3, 1, 3, 0, 0, 0), (.iaload, 1, 0, 0, 0, 0), (.aload_n 0, 1, 0, 0, 0, 0), (.getfield 18, 3, 1, 2, 79, 0), (.getfield 63, 3, 6, 7, 44, 0), (.iload_n 2, 1, 2, 0, 0, 0), (.iaload, 1, 0, 0, 0, 0)] [i, b2] (pc2 := 51) (ls2 := [some (.ref 40), some (.int f), some (.int (nI b2)), some (.int (nI i))]) (st2 := [.int (M.1 7 b2), .int (M.1 7 i)]) (M2 := M) (Ps := [(nI i) = nI i ∧ i < 10, (nI b2) = nI b2 ∧ b2 < 10]) (by decide +kernel) rfl rfl ⟨⟨rfl, by omega⟩, ⟨rfl, by omega⟩, trivial⟩ ?_
        refine G.ic_ge (off := (5)) (tgt := 56) (by decide +kernel) rfl (fun c3 => ?_) (fun c3 => ?_)
        · refine G.sl [(.iinc 3 1, 3, 3, 0, 0, nI 1), (.goto (-55), 3, 4, 0, 0, 0)] [] (pc2 := 4) (ls2 := [some (.ref 40), some (.int f), some (.int (nI b2)), some (.int ((nI i) + nI 1))]) (st2 := []) (M2 := M) (Ps := []) (by decide +kernel) rfl rfl trivial ?_
          rw [nI_add]
          simp only [lh, if_pos c1, g2, if_pos c3] at ih
          exact ih
        · refine G.sl [(.iload_n 3, 1, 3, 0, 0, 0), (.istore_n 2, 1, 2, 0, 0, 0), (.iinc 3 1, 3, 3, 0, 0, nI 1), (.goto (-55), 3, 4, 0, 0, 0)] [] (pc2 := 4) (ls2 := [some (.ref 40), some (.int f), some (.int (nI i)), some (.int ((nI i) + nI 1))]) (st2 := []) (M2 := M) (Ps := []) (by decide +kernel) rfl rfl trivial ?_
          rw [nI_add]
          simp only [lh, if_pos c1, g2, if_neg c3] at ih
          exact ih
theorem c_greatestLying_40 (z : Zp) (d : Nat) (M : Mem)  (nt : Nat) (hnt : nt ≤ 10) (ht : M.1 3 2 = nI nt) : GM z mX1_greatestLying (d) [.ref 40] M (fun rs => rs = .inl (some (.int (en (gl (M.1 41) (M.1 7) nt))), M)) := by
  refine GM.of oX1_greatestLying.1 (Nat.le_of_ble_eq_true rfl) ?_
  show G z mX1_greatestLying (d) 0 0 0 [some (.ref 40), none, none] [] M _
  refine G.sl [(.iconst (-1), 1, 0, 0, 0, (-1)), (.istore_n 1, 1, 1, 0, 0, 0), (.iconst 0, 1, 0, 0, 0, nI 0), (.istore_n 2, 1, 2, 0, 0, 0)] [] (pc2 := 4) (ls2 := [some (.ref 40), some (.int ((-1))), some (.int (nI 0))]) (st2 := []) (M2 := M) (Ps := []) (by decide +kernel) rfl rfl trivial ?_
  refine down (n := nt) (P := fun i => G z mX1_greatestLying (d) 0 0 4 [some (.ref 40), some (.int (en (gl (M.1 41) (M.1 7) i))), some (.int (nI i))] [] M (fun rs => rs = .inl (some (.int (en (gl (M.1 41) (M.1 7) nt))), M))) ?_ ?_ 0 (Nat.zero_le _)
  · refine G.sl [(.iload_n 2, 1, 2, 0, 0, 0), (.aload_n 0, 1, 0, 0, 0, 0), (.getfield 18, 3, 1, 2, 79, 0), (.getfield 86, 3, 6, 2, 28, 0)] [] (pc2 := 12) (ls2 := [some (.ref 40), some (.int (en (gl (M.1 41) (M.1 7) nt))), some (.int (nI nt))]) (st2 := [.int (M.1 3 2), .int (nI nt)]) (M2 := M) (Ps := []) (by decide +kernel) rfl rfl trivial ?_
    refine G.ic_ge (off := (50)) (tgt := 62) (by decide +kernel) rfl (fun _ => ?_) (fun h9 => absurd (by rw [ht]; exact nI_le (Nat.le_refl nt) (by omega)) h9)
    refine G.sl [(.iload_n 1, 1, 1, 0, 0, 0)] [] (pc2 := 63) (ls2 := [some (.ref 40), some (.int (en (gl (M.1 41) (M.1 7) nt))), some (.int (nI nt))]) (st2 := [.int (en (gl (M.1 41) (M.1 7) nt))]) (M2 := M) (Ps := []) (by decide +kernel) rfl rfl trivial ?_
    exact G.reti (by decide +kernel) rfl rfl (Nat.le_of_ble_eq_true rfl) (Nat.le_of_ble_eq_true rfl) rfl
  · intro i hi ih
    refine G.sl [(.iload_n 2, 1, 2, 0, 0, 0), (.aload_n 0, 1, 0, 0, 0, 0), (.getfield 18, 3, 1, 2, 79, 0), (.getfield 86, 3, 6, 2, 28, 0)] [] (pc2 := 12) (ls2 := [some (.ref 40), some (.int (en (gl (M.1 41) (M.1 7) i))), some (.int (nI i))]) (st2 := [.int (M.1 3 2), .int (nI i)]) (M2 := M) (Ps := []) (by decide +kernel) rfl rfl trivial ?_
    refine G.ic_ge (off := (50)) (tgt := 62) (by decide +kernel) rfl (fun h9 => absurd h9 (by rw [ht]; exact nI_ge hi (by omega))) (fun _ => ?_)
    refine G.sl [(.aload_n 0, 1, 0, 0, 0, 0), (.getfield 9, 3, 1, 0, 73, 0), (.bipush 41, 2, 0, 0, 0, nI 41), (.iload_n 2, 1, 2, 0, 0, 0), (.iadd, 1, 0, 0, 0, 0), (.iaload, 1, 0, 0, 0, 0), (.iconst (-1), 1, 0, 0, 0, (-1))] [41 + i] (pc2 := 25) (ls2 := [some (.ref 40), some (.int (en (gl (M.1 41) (M.1 7) i))), some (.int (nI i))]) (st2 := [.int ((-1)), .int (M.1 41 (41 + i))]) (M2 := M) (Ps := [((nI 41) + (nI i)) = nI (41 + i) ∧ (41 + i) < 51]) (by decide +kernel) rfl rfl ⟨⟨(by simp only [nI_add, pk_mul]), by omega⟩, trivial⟩ ?_
    refine G.ic_ne (off := (31)) (tgt := 56) (by decide +kernel) rfl (fun c1 => ?_) (fun c1 => ?_)
    · refine G.sl [(.iinc 2 1, 3, 2, 0, 0, nI 1), (.goto (-55), 3, 4, 0, 0, 0)] [] (pc2 := 4) (ls2 := [some (.ref 40), some (.int (en (gl (M.1 41) (M.1 7) i))), some (.int ((nI i) + nI 1))]) (st2 := []) (M2 := M) (Ps := []) (by decide +kernel) rfl rfl trivial ?_
      rw [nI_add]
      simp only [gl, if_neg c1] at ih
      exact ih
    · refine G.sl [(.iload_n 1, 1, 1, 0, 0, 0), (.iconst (-1), 1, 0, 0, 0, (-1))] [] (pc2 := 30) (ls2 := [some (.ref 40), some (.int (en (gl (M.1 41) (M.1 7) i))), some (.int (nI i))]) (st2 := [.int ((-1)), .int (en (gl (M.1 41) (M.1 7) i))]) (M2 := M) (Ps := []) (by decide +kernel) rfl rfl trivial ?_
      rcases g2 : gl (M.1 41) (M.1 7) i with _ | b2
      · show G z mX1_greatestLying (d) 0 0 30 [some (.ref 40), some (.int ((-1))), some (.int (nI i))] [.int ((-1)), .int ((-1))] M _
        refine G.ic_eq (off := (24)) (tgt := 54) (by decide +kernel) rfl (fun _ => ?_) (fun h9 => absurd (by decide) h9)
        refine G.sl [(.iload_n 2, 1, 2, 0, 0, 0), (.istore_n 1, 1, 1, 0, 0, 0), (.iinc 2 1, 3, 2, 0, 0, nI 1), (.goto (-55), 3, 4, 0, 0, 0)] [] (pc2 := 4) (ls2 := [some (.ref 40), some (.int (nI i)), some (.int ((nI i) + nI 1))]) (st2 := []) (M2 := M) (Ps := []) (by decide +kernel) rfl rfl trivial ?_
        rw [nI_add]
        simp only [gl, if_pos c1, g2] at ih
        exact ih
      · show G z mX1_greatestLying (d) 0 0 30 [some (.ref 40), some (.int (nI b2)), some (.int (nI i))] [.int ((-1)), .int (nI b2)] M _
        have hbb2 := gl_lt (M.1 41) (M.1 7) i b2 g2
        refine G.ic_eq (off := (24)) (tgt := 54) (by decide +kernel) rfl (fun h9 => absurd h9 (nI_nm (by omega))) (fun _ => ?_)
        refine G.sl [(.aload_n 0, 1, 0, 0, 0, 0), (.getfield 18, 3, 1, 2, 79, 0), (.getfield 63, 3, 6, 7, 44, 0), (.iload_n 2, 1, 2, 0, 0, 0), (.iaload, 1, 0, 0, 0, 0), (.aload_n 0, 1, 0, 0, 0, 0), (.getfield 18, 3, 1, 2, 79, 0), (.getfield 63, 3, 6, 7, 44, 0), (.iload_n 1, 1, 1, 0, 0, 0), (.iaload, 1, 0, 0, 0, 0)] [i, b2] (pc2 := 51) (ls2 := [some (.ref 40), some (.int (nI b2)), some (.int (nI i))]) (st2 := [.int (M.1 7 b2), .int (M.1 7 i)]) (M2 := M) (Ps := [(nI i) = nI i ∧ i < 10, (nI b2) = nI b2 ∧ b2 < 10]) (by decide +kernel) rfl rfl ⟨⟨rfl, by omega⟩, ⟨rfl, by omega⟩, trivial⟩ ?_
        refine G.ic_le (off := (5)) (tgt := 56) (by decide +kernel) rfl (fun c3 => ?_) (fun c3 => ?_)
        · refine G.sl [(.iinc 2 1, 3, 2, 0, 0, nI 1), (.goto (-55), 3, 4, 0, 0, 0)] [] (pc2 := 4) (ls2 := [some (.ref 40), some (.int (nI b2)), some (.int ((nI i) + nI 1))]) (st2 := []) (M2 := M) (Ps := []) (by decide +kernel) rfl rfl trivial ?_
          rw [nI_add]
          simp only [gl, if_pos c1, g2, if_pos c3] at ih
          exact ih
        · refine G.sl [(.iload_n 2, 1, 2, 0, 0, 0), (.istore_n 1, 1, 1, 0, 0, 0), (.iinc 2 1, 3, 2, 0, 0, nI 1), (.goto (-55), 3, 4, 0, 0, 0)] [] (pc2 := 4) (ls2 := [some (.ref 40), some (.int (nI i)), some (.int ((nI i) + nI 1))]) (st2 := []) (M2 := M) (Ps := []) (by decide +kernel) rfl rfl trivial ?_
          rw [nI_add]
          simp only [gl, if_pos c1, g2, if_neg c3] at ih
          exact ih
theorem c_deepestOwing_40 (z : Zp) (d : Nat) (M : Mem)  (nf : Nat) (hnf : nf ≤ 6) (hf : M.1 3 3 = nI nf) : GM z mX1_deepestOwing (d) [.ref 40] M (fun rs => rs = .inl (some (.int (en (dpo (M.1 41) nf))), M)) := by
  refine GM.of oX1_deepestOwing.1 (Nat.le_of_ble_eq_true rfl) ?_
  show G z mX1_deepestOwing (d) 0 0 0 [some (.ref 40), none, none] [] M _
  refine G.sl [(.iconst (-1), 1, 0, 0, 0, (-1)), (.istore_n 1, 1, 1, 0, 0, 0), (.iconst 0, 1, 0, 0, 0, nI 0), (.istore_n 2, 1, 2, 0, 0, 0)] [] (pc2 := 4) (ls2 := [some (.ref 40), some (.int ((-1))), some (.int (nI 0))]) (st2 := []) (M2 := M) (Ps := []) (by decide +kernel) rfl rfl trivial ?_
  refine down (n := nf) (P := fun i => G z mX1_deepestOwing (d) 0 0 4 [some (.ref 40), some (.int (en (dpo (M.1 41) i))), some (.int (nI i))] [] M (fun rs => rs = .inl (some (.int (en (dpo (M.1 41) nf))), M))) ?_ ?_ 0 (Nat.zero_le _)
  · refine G.sl [(.iload_n 2, 1, 2, 0, 0, 0), (.aload_n 0, 1, 0, 0, 0, 0), (.getfield 18, 3, 1, 2, 79, 0), (.getfield 78, 3, 6, 3, 34, 0)] [] (pc2 := 12) (ls2 := [some (.ref 40), some (.int (en (dpo (M.1 41) nf))), some (.int (nI nf))]) (st2 := [.int (M.1 3 3), .int (nI nf)]) (M2 := M) (Ps := []) (by decide +kernel) rfl rfl trivial ?_
    refine G.ic_ge (off := (37)) (tgt := 49) (by decide +kernel) rfl (fun _ => ?_) (fun h9 => absurd (by rw [hf]; exact nI_le (Nat.le_refl nf) (by omega)) h9)
    refine G.sl [(.iload_n 1, 1, 1, 0, 0, 0)] [] (pc2 := 50) (ls2 := [some (.ref 40), some (.int (en (dpo (M.1 41) nf))), some (.int (nI nf))]) (st2 := [.int (en (dpo (M.1 41) nf))]) (M2 := M) (Ps := []) (by decide +kernel) rfl rfl trivial ?_
    exact G.reti (by decide +kernel) rfl rfl (Nat.le_of_ble_eq_true rfl) (Nat.le_of_ble_eq_true rfl) rfl
  · intro i hi ih
    refine G.sl [(.iload_n 2, 1, 2, 0, 0, 0), (.aload_n 0, 1, 0, 0, 0, 0), (.getfield 18, 3, 1, 2, 79, 0), (.getfield 78, 3, 6, 3, 34, 0)] [] (pc2 := 12) (ls2 := [some (.ref 40), some (.int (en (dpo (M.1 41) i))), some (.int (nI i))]) (st2 := [.int (M.1 3 3), .int (nI i)]) (M2 := M) (Ps := []) (by decide +kernel) rfl rfl trivial ?_
    refine G.ic_ge (off := (37)) (tgt := 49) (by decide +kernel) rfl (fun h9 => absurd h9 (by rw [hf]; exact nI_ge hi (by omega))) (fun _ => ?_)
    refine G.sl [(.iload_n 1, 1, 1, 0, 0, 0), (.iconst (-1), 1, 0, 0, 0, (-1))] [] (pc2 := 17) (ls2 := [some (.ref 40), some (.int (en (dpo (M.1 41) i))), some (.int (nI i))]) (st2 := [.int ((-1)), .int (en (dpo (M.1 41) i))]) (M2 := M) (Ps := []) (by decide +kernel) rfl rfl trivial ?_
    rcases g1 : dpo (M.1 41) i with _ | b1
    · show G z mX1_deepestOwing (d) 0 0 17 [some (.ref 40), some (.int ((-1))), some (.int (nI i))] [.int ((-1)), .int ((-1))] M _
      refine G.ic_eq (off := (24)) (tgt := 41) (by decide +kernel) rfl (fun _ => ?_) (fun h9 => absurd (by decide) h9)
      refine G.sl [(.iload_n 2, 1, 2, 0, 0, 0), (.istore_n 1, 1, 1, 0, 0, 0), (.iinc 2 1, 3, 2, 0, 0, nI 1), (.goto (-42), 3, 4, 0, 0, 0)] [] (pc2 := 4) (ls2 := [some (.ref 40), some (.int (nI i)), some (.int ((nI i) + nI 1))]) (st2 := []) (M2 := M) (Ps := []) (by decide +kernel) rfl rfl trivial ?_
      rw [nI_add]
      simp only [dpo, g1] at ih
      exact ih
    · show G z mX1_deepestOwing (d) 0 0 17 [some (.ref 40), some (.int (nI b1)), some (.int (nI i))] [.int ((-1)), .int (nI b1)] M _
      have hbb1 := dpo_lt (M.1 41) i b1 g1
      refine G.ic_eq (off := (24)) (tgt := 41) (by decide +kernel) rfl (fun h9 => absurd h9 (nI_nm (by omega))) (fun _ => ?_)
      refine G.sl [(.aload_n 0, 1, 0, 0, 0, 0), (.getfield 9, 3, 1, 0, 73, 0), (.bipush 7, 2, 0, 0, 0, nI 7), (.iload_n 2, 1, 2, 0, 0, 0), (.iadd, 1, 0, 0, 0, 0), (.iaload, 1, 0, 0, 0, 0), (.aload_n 0, 1, 0, 0, 0, 0), (.getfield 9, 3, 1, 0, 73, 0), (.bipush 7, 2, 0, 0, 0, nI 7), (.iload_n 1, 1, 1, 0, 0, 0), (.iadd, 1, 0, 0, 0, 0), (.iaload, 1, 0, 0, 0, 0)] [7 + i, 7 + b1] (pc2 := 38) (ls2 := [some (.ref 40), some (.int (nI b1)), some (.int (nI i))]) (st2 := [.int (M.1 41 (7 + b1)), .int (M.1 41 (7 + i))]) (M2 := M) (Ps := [((nI 7) + (nI i)) = nI (7 + i) ∧ (7 + i) < 51, ((nI 7) + (nI b1)) = nI (7 + b1) ∧ (7 + b1) < 51]) (by decide +kernel) rfl rfl ⟨⟨(by simp only [nI_add, pk_mul]), by omega⟩, ⟨(by simp only [nI_add, pk_mul]), by omega⟩, trivial⟩ ?_
      refine G.ic_le (off := (5)) (tgt := 43) (by decide +kernel) rfl (fun c2 => ?_) (fun c2 => ?_)
      · refine G.sl [(.iinc 2 1, 3, 2, 0, 0, nI 1), (.goto (-42), 3, 4, 0, 0, 0)] [] (pc2 := 4) (ls2 := [some (.ref 40), some (.int (nI b1)), some (.int ((nI i) + nI 1))]) (st2 := []) (M2 := M) (Ps := []) (by decide +kernel) rfl rfl trivial ?_
        rw [nI_add]
        simp only [dpo, g1, if_pos c2] at ih
        exact ih
      · refine G.sl [(.iload_n 2, 1, 2, 0, 0, 0), (.istore_n 1, 1, 1, 0, 0, 0), (.iinc 2 1, 3, 2, 0, 0, nI 1), (.goto (-42), 3, 4, 0, 0, 0)] [] (pc2 := 4) (ls2 := [some (.ref 40), some (.int (nI i)), some (.int ((nI i) + nI 1))]) (st2 := []) (M2 := M) (Ps := []) (by decide +kernel) rfl rfl trivial ?_
        rw [nI_add]
        simp only [dpo, g1, if_neg c2] at ih
        exact ih
theorem c_heldByAll_40 (z : Zp) (d : Nat) (M : Mem) (nt : Nat) (hnt : nt ≤ 10) (ht : M.1 3 2 = nI nt) : GM z mX1_heldByAll (d + 1) [.ref 40] M (fun rs => rs = .inl (some (.int (hba (M.1 41) nt)), M)) := by
  refine GM.of oX1_heldByAll.1 (Nat.le_of_ble_eq_true rfl) ?_
  show G z mX1_heldByAll (d + 1) 0 0 0 [some (.ref 40), none] [] M _
  refine G.sl [(.iconst 1, 1, 0, 0, 0, nI 1), (.aload_n 0, 1, 0, 0, 0, 0), (.getfield 18, 3, 1, 2, 79, 0), (.getfield 86, 3, 6, 2, 28, 0), (.ishl, 1, 0, 0, 0, 0), (.iconst 1, 1, 0, 0, 0, nI 1), (.isub, 1, 0, 0, 0, 0), (.istore_n 1, 1, 1, 0, 0, 0), (.iload_n 1, 1, 1, 0, 0, 0), (.aload_n 0, 1, 0, 0, 0, 0), (.iconst (-1), 1, 0, 0, 0, (-1))] [] (pc2 := 15) (ls2 := [some (.ref 40), some (.int (((nI 1) <<< ((M.1 3 2) &&& 31)) - (nI 1)))]) (st2 := [.int ((-1)), .ref 40, .int (((nI 1) <<< ((M.1 3 2) &&& 31)) - (nI 1))]) (M2 := M) (Ps := []) (by decide +kernel) rfl rfl trivial ?_
  refine G.callV (as := [.int ((-1))]) (rest := [.int (((nI 1) <<< ((M.1 3 2) &&& 31)) - (nI 1))]) (a := 40) oX1_heldBy lk_EvenFinders_Days_94 (by decide +kernel) rfl rfl ⟨rfl, rfl⟩ (Nat.le_of_ble_eq_true rfl) rfl ⟨Nat.le_of_ble_eq_true rfl, Nat.le_of_ble_eq_true rfl⟩ (c_heldBy_40 z _ _ ((-1)) nt hnt ht) (fun v9 N9 h1 => ?_) (fun E9 N9 h1 => by cases h1)
  cases h1
  refine G.sl [(.iconst (-1), 1, 0, 0, 0, (-1)), (.ixor, 1, 0, 0, 0, 0), (.iand, 1, 0, 0, 0, 0)] [] (pc2 := 21) (ls2 := [some (.ref 40), some (.int (((nI 1) <<< ((M.1 3 2) &&& 31)) - (nI 1)))]) (st2 := [.int ((((nI 1) <<< ((M.1 3 2) &&& 31)) - (nI 1)) &&& ((hb (M.1 41) ((-1)) nt) ^^^ ((-1))))]) (M2 := M) (Ps := []) (by decide +kernel) rfl rfl trivial ?_
  exact G.reti (by decide +kernel) rfl rfl (Nat.le_of_ble_eq_true rfl) (Nat.le_of_ble_eq_true rfl) (by simp only [ht, hba])
theorem c_lyingWorth_40 (z : Zp) (d : Nat) (M : Mem) (nt : Nat) (hnt : nt ≤ 10) (ht : M.1 3 2 = nI nt) : GM z mX1_lyingWorth (d + 1) [.ref 40] M (fun rs => rs = .inl (some (.int (lw (M.1 41) (M.1 7) nt)), M)) := by
  refine GM.of oX1_lyingWorth.1 (Nat.le_of_ble_eq_true rfl) ?_
  show G z mX1_lyingWorth (d + 1) 0 0 0 [some (.ref 40)] [] M _
  refine G.sl [(.aload_n 0, 1, 0, 0, 0, 0), (.getfield 18, 3, 1, 2, 79, 0), (.aload_n 0, 1, 0, 0, 0, 0), (.iconst (-1), 1, 0, 0, 0, (-1))] [] (pc2 := 6) (ls2 := [some (.ref 40)]) (st2 := [.int ((-1)), .ref 40, .ref 3]) (M2 := M) (Ps := []) (by decide +kernel) rfl rfl trivial ?_
  refine G.callV (as := [.int ((-1))]) (rest := [.ref 3]) (a := 40) oX1_heldBy lk_EvenFinders_Days_94 (by decide +kernel) rfl rfl ⟨rfl, rfl⟩ (Nat.le_of_ble_eq_true rfl) rfl ⟨Nat.le_of_ble_eq_true rfl, Nat.le_of_ble_eq_true rfl⟩ (c_heldBy_40 z _ _ ((-1)) nt hnt ht) (fun v9 N9 h1 => ?_) (fun E9 N9 h1 => by cases h1)
  cases h1
  refine G.callV (as := [.int (hb (M.1 41) ((-1)) nt)]) (rest := []) (a := 3) oX7_worthOf lk_EvenFinders_Days_109 (by decide +kernel) rfl rfl ⟨rfl, rfl⟩ (Nat.le_of_ble_eq_true rfl) rfl ⟨Nat.le_of_ble_eq_true rfl, Nat.le_of_ble_eq_true rfl⟩ (c_worthOf z _ _ (hb (M.1 41) ((-1)) nt) nt hnt ht) (fun v9 N9 h2 => ?_) (fun E9 N9 h2 => by cases h2)
  cases h2
  exact G.reti (by decide +kernel) rfl rfl (Nat.le_of_ble_eq_true rfl) (Nat.le_of_ble_eq_true rfl) (by simp only [lw])
theorem c_mayFind_40 (z : Zp) (d : Nat) (M : Mem) (a t : Nat) (ha : a < 6) (ht : t < 10) : GM z mX1_mayFind (d) [.ref 40, .int (nI a), .int (nI t)] M (fun rs => rs = .inl (some (.int (mf (M.1 41) a t)), M)) := by
  refine GM.of oX1_mayFind.1 (Nat.le_of_ble_eq_true rfl) ?_
  show G z mX1_mayFind (d) 0 0 0 [some (.ref 40), some (.int (nI a)), some (.int (nI t))] [] M _
  refine G.sl [(.aload_n 0, 1, 0, 0, 0, 0), (.getfield 9, 3, 1, 0, 73, 0), (.bipush 31, 2, 0, 0, 0, nI 31), (.iload_n 2, 1, 2, 0, 0, 0), (.iadd, 1, 0, 0, 0, 0), (.iaload, 1, 0, 0, 0, 0), (.aload_n 0, 1, 0, 0, 0, 0), (.getfield 9, 3, 1, 0, 73, 0), (.iconst 1, 1, 0, 0, 0, nI 1), (.iload_n 1, 1, 1, 0, 0, 0), (.iadd, 1, 0, 0, 0, 0), (.iaload, 1, 0, 0, 0, 0)] [31 + t, 1 + a] (pc2 := 17) (ls2 := [some (.ref 40), some (.int (nI a)), some (.int (nI t))]) (st2 := [.int (M.1 41 (1 + a)), .int (M.1 41 (31 + t))]) (M2 := M) (Ps := [((nI 31) + (nI t)) = nI (31 + t) ∧ (31 + t) < 51, ((nI 1) + (nI a)) = nI (1 + a) ∧ (1 + a) < 51]) (by decide +kernel) rfl rfl ⟨⟨(by simp only [nI_add, pk_mul]), by omega⟩, ⟨(by simp only [nI_add, pk_mul]), by omega⟩, trivial⟩ ?_
  refine G.ic_ne (off := (19)) (tgt := 36) (by decide +kernel) rfl (fun c1 => ?_) (fun c1 => ?_)
  · refine G.sl [(.iconst 0, 1, 0, 0, 0, nI 0)] [] (pc2 := 37) (ls2 := [some (.ref 40), some (.int (nI a)), some (.int (nI t))]) (st2 := [.int (nI 0)]) (M2 := M) (Ps := []) (by decide +kernel) rfl rfl trivial ?_
    exact G.reti (by decide +kernel) rfl rfl (Nat.le_of_ble_eq_true rfl) (Nat.le_of_ble_eq_true rfl) (by simp only [mf, if_neg c1])
  · refine G.sl [(.aload_n 0, 1, 0, 0, 0, 0), (.getfield 9, 3, 1, 0, 73, 0), (.bipush 7, 2, 0, 0, 0, nI 7), (.iload_n 1, 1, 1, 0, 0, 0), (.iadd, 1, 0, 0, 0, 0), (.iaload, 1, 0, 0, 0, 0)] [7 + a] (pc2 := 29) (ls2 := [some (.ref 40), some (.int (nI a)), some (.int (nI t))]) (st2 := [.int (M.1 41 (7 + a))]) (M2 := M) (Ps := [((nI 7) + (nI a)) = nI (7 + a) ∧ (7 + a) < 51]) (by decide +kernel) rfl rfl ⟨⟨(by simp only [nI_add, pk_mul]), by omega⟩, trivial⟩ ?_
    refine G.if_gt (off := (7)) (tgt := 36) (by decide +kernel) rfl (fun c2 => ?_) (fun c2 => ?_)
    · refine G.sl [(.iconst 0, 1, 0, 0, 0, nI 0)] [] (pc2 := 37) (ls2 := [some (.ref 40), some (.int (nI a)), some (.int (nI t))]) (st2 := [.int (nI 0)]) (M2 := M) (Ps := []) (by decide +kernel) rfl rfl trivial ?_
      exact G.reti (by decide +kernel) rfl rfl (Nat.le_of_ble_eq_true rfl) (Nat.le_of_ble_eq_true rfl) (by simp only [mf, if_pos c1, if_pos c2])
    · refine G.sl [(.iconst 1, 1, 0, 0, 0, nI 1), (.goto 4, 3, 37, 0, 0, 0)] [] (pc2 := 37) (ls2 := [some (.ref 40), some (.int (nI a)), some (.int (nI t))]) (st2 := [.int (nI 1)]) (M2 := M) (Ps := []) (by decide +kernel) rfl rfl trivial ?_
      exact G.reti (by decide +kernel) rfl rfl (Nat.le_of_ble_eq_true rfl) (Nat.le_of_ble_eq_true rfl) (by simp only [mf, if_pos c1, if_neg c2])
