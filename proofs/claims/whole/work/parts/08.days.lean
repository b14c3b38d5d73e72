theorem down {P : Nat → Prop} {n : Nat} (h0 : P n) (hs : ∀ i, i < n → P (i + 1) → P i) : ∀ i, i ≤ n → P i := by
  intro i hi
  obtain ⟨k, hk⟩ : ∃ k, k = n - i := ⟨_, rfl⟩
  induction k generalizing i with
  | zero => obtain rfl : i = n := by omega
            exact h0
  | succ k ih => exact hs i (by omega) (ih (i + 1) (by omega) (by omega))
/-- things held by f among the first n (row by row) -/
def hb (R : Nat → Int32) (o : Nat) (f : Int32) : Nat → Int32
  | 0 => nI 0
  | n + 1 => if R (o + n) = f then hb R o f n ||| (nI 1 <<< (nI n &&& 31)) else hb R o f n
theorem c_heldBy_37 (z : Zp) (d : Nat) (M : Mem) (f : Int32) (n : Nat) (hn : n ≤ 10) (ht : M.1 3 2 = nI n) : GM z mX1_heldBy d [.ref 37, .int f] M (fun r => r = .inl (some (.int (hb (M.1 38) 41 f n)), M)) := by
  refine GM.of oX1_heldBy.1 (Nat.le_of_ble_eq_true rfl) ?_
  show G z mX1_heldBy (d) 0 0 0 [some (.ref 37), some (.int f), none, none] [] M _
  refine G.sl [(.iconst 0, 1, 0, 0, 0, nI 0), (.istore_n 2, 1, 2, 0, 0, 0), (.iconst 0, 1, 0, 0, 0, nI 0), (.istore_n 3, 1, 3, 0, 0, 0)] [] (pc2 := 4) (ls2 := [some (.ref 37), some (.int f), some (.int (nI 0)), some (.int (nI 0))]) (st2 := []) (M2 := M) (Ps := []) (by decide +kernel) rfl rfl trivial ?_
  refine down (n := n) (P := fun i => G z mX1_heldBy (d) 0 0 4 [some (.ref 37), some (.int f), some (.int (hb (M.1 38) 41 f i)), some (.int (nI i))] [] M (fun r => r = .inl (some (.int (hb (M.1 38) 41 f n)), M))) ?_ ?_ 0 (Nat.zero_le _)
  · refine G.sl [(.iload_n 3, 1, 3, 0, 0, 0), (.aload_n 0, 1, 0, 0, 0, 0), (.getfield 18, 3, 1, 2, 79, 0), (.getfield 86, 3, 6, 2, 28, 0)] [] (pc2 := 12) (ls2 := [some (.ref 37), some (.int f), some (.int (hb (M.1 38) 41 f n)), some (.int (nI n))]) (st2 := [.int (M.1 3 2), .int (nI n)]) (M2 := M) (Ps := []) (by decide +kernel) rfl rfl trivial ?_
    refine G.ic_ge (off := (28)) (tgt := 40) (by decide +kernel) rfl (fun _ => ?_) (fun h9 => absurd (by rw [ht]; exact nI_le (Nat.le_refl n) (by omega)) h9)
    refine G.sl [(.iload_n 2, 1, 2, 0, 0, 0)] [] (pc2 := 41) (ls2 := [some (.ref 37), some (.int f), some (.int (hb (M.1 38) 41 f n)), some (.int (nI n))]) (st2 := [.int (hb (M.1 38) 41 f n)]) (M2 := M) (Ps := []) (by decide +kernel) rfl rfl trivial ?_
    exact G.reti (by decide +kernel) rfl rfl (Nat.le_of_ble_eq_true rfl) (Nat.le_of_ble_eq_true rfl) rfl
  · intro i hi ih
    refine G.sl [(.iload_n 3, 1, 3, 0, 0, 0), (.aload_n 0, 1, 0, 0, 0, 0), (.getfield 18, 3, 1, 2, 79, 0), (.getfield 86, 3, 6, 2, 28, 0)] [] (pc2 := 12) (ls2 := [some (.ref 37), some (.int f), some (.int (hb (M.1 38) 41 f i)), some (.int (nI i))]) (st2 := [.int (M.1 3 2), .int (nI i)]) (M2 := M) (Ps := []) (by decide +kernel) rfl rfl trivial ?_
    refine G.ic_ge (off := (28)) (tgt := 40) (by decide +kernel) rfl (fun h9 => absurd h9 (by rw [ht]; exact nI_ge hi (by omega))) (fun _ => ?_)
    refine G.sl [(.aload_n 0, 1, 0, 0, 0, 0), (.getfield 9, 3, 1, 0, 73, 0), (.bipush 41, 2, 0, 0, 0, nI 41), (.iload_n 3, 1, 3, 0, 0, 0), (.iadd, 1, 0, 0, 0, 0), (.iaload, 1, 0, 0, 0, 0), (.iload_n 1, 1, 1, 0, 0, 0)] [41 + i] (pc2 := 25) (ls2 := [some (.ref 37), some (.int f), some (.int (hb (M.1 38) 41 f i)), some (.int (nI i))]) (st2 := [.int f, .int (M.1 38 (41 + i))]) (M2 := M) (Ps := [((nI 41) + (nI i)) = nI (41 + i) ∧ (41 + i) < 51]) (by decide +kernel) rfl rfl ⟨⟨(by simp only [nI_add, pk_mul]), by omega⟩, trivial⟩ ?_
    refine G.ic_ne (off := (9)) (tgt := 34) (by decide +kernel) rfl (fun c1 => ?_) (fun c1 => ?_)
    · refine G.sl [(.iinc 3 1, 3, 3, 0, 0, nI 1), (.goto (-33), 3, 4, 0, 0, 0)] [] (pc2 := 4) (ls2 := [some (.ref 37), some (.int f), some (.int (hb (M.1 38) 41 f i)), some (.int ((nI i) + nI 1))]) (st2 := []) (M2 := M) (Ps := []) (by decide +kernel) rfl rfl trivial ?_
      rw [nI_add]
      rw [show hb (M.1 38) 41 f (i + 1) = hb (M.1 38) 41 f i from if_neg c1] at ih
      exact ih
    · refine G.sl [(.iload_n 2, 1, 2, 0, 0, 0), (.iconst 1, 1, 0, 0, 0, nI 1), (.iload_n 3, 1, 3, 0, 0, 0), (.ishl, 1, 0, 0, 0, 0), (.ior, 1, 0, 0, 0, 0), (.istore_n 2, 1, 2, 0, 0, 0), (.iinc 3 1, 3, 3, 0, 0, nI 1), (.goto (-33), 3, 4, 0, 0, 0)] [] (pc2 := 4) (ls2 := [some (.ref 37), some (.int f), some (.int ((hb (M.1 38) 41 f i) ||| ((nI 1) <<< ((nI i) &&& 31)))), some (.int ((nI i) + nI 1))]) (st2 := []) (M2 := M) (Ps := []) (by decide +kernel) rfl rfl trivial ?_
      rw [nI_add]
      rw [show hb (M.1 38) 41 f (i + 1) = hb (M.1 38) 41 f i ||| (nI 1 <<< (nI i &&& 31)) from if_pos c1] at ih
      exact ih
theorem c_heldBy_40 (z : Zp) (d : Nat) (M : Mem) (f : Int32) (n : Nat) (hn : n ≤ 10) (ht : M.1 3 2 = nI n) : GM z mX1_heldBy d [.ref 40, .int f] M (fun r => r = .inl (some (.int (hb (M.1 41) 41 f n)), M)) := by
  refine GM.of oX1_heldBy.1 (Nat.le_of_ble_eq_true rfl) ?_
  show G z mX1_heldBy (d) 0 0 0 [some (.ref 40), some (.int f), none, none] [] M _
  refine G.sl [(.iconst 0, 1, 0, 0, 0, nI 0), (.istore_n 2, 1, 2, 0, 0, 0), (.iconst 0, 1, 0, 0, 0, nI 0), (.istore_n 3, 1, 3, 0, 0, 0)] [] (pc2 := 4) (ls2 := [some (.ref 40), some (.int f), some (.int (nI 0)), some (.int (nI 0))]) (st2 := []) (M2 := M) (Ps := []) (by decide +kernel) rfl rfl trivial ?_
  refine down (n := n) (P := fun i => G z mX1_heldBy (d) 0 0 4 [some (.ref 40), some (.int f), some (.int (hb (M.1 41) 41 f i)), some (.int (nI i))] [] M (fun r => r = .inl (some (.int (hb (M.1 41) 41 f n)), M))) ?_ ?_ 0 (Nat.zero_le _)
  · refine G.sl [(.iload_n 3, 1, 3, 0, 0, 0), (.aload_n 0, 1, 0, 0, 0, 0), (.getfield 18, 3, 1, 2, 79, 0), (.getfield 86, 3, 6, 2, 28, 0)] [] (pc2 := 12) (ls2 := [some (.ref 40), some (.int f), some (.int (hb (M.1 41) 41 f n)), some (.int (nI n))]) (st2 := [.int (M.1 3 2), .int (nI n)]) (M2 := M) (Ps := []) (by decide +kernel) rfl rfl trivial ?_
    refine G.ic_ge (off := (28)) (tgt := 40) (by decide +kernel) rfl (fun _ => ?_) (fun h9 => absurd (by rw [ht]; exact nI_le (Nat.le_refl n) (by omega)) h9)
    refine G.sl [(.iload_n 2, 1, 2, 0, 0, 0)] [] (pc2 := 41) (ls2 := [some (.ref 40), some (.int f), some (.int (hb (M.1 41) 41 f n)), some (.int (nI n))]) (st2 := [.int (hb (M.1 41) 41 f n)]) (M2 := M) (Ps := []) (by decide +kernel) rfl rfl trivial ?_
    exact G.reti (by decide +kernel) rfl rfl (Nat.le_of_ble_eq_true rfl) (Nat.le_of_ble_eq_true rfl) rfl
  · intro i hi ih
    refine G.sl [(.iload_n 3, 1, 3, 0, 0, 0), (.aload_n 0, 1, 0, 0, 0, 0), (.getfield 18, 3, 1, 2, 79, 0), (.getfield 86, 3, 6, 2, 28, 0)] [] (pc2 := 12) (ls2 := [some (.ref 40), some (.int f), some (.int (hb (M.1 41) 41 f i)), some (.int (nI i))]) (st2 := [.int (M.1 3 2), .int (nI i)]) (M2 := M) (Ps := []) (by decide +kernel) rfl rfl trivial ?_
    refine G.ic_ge (off := (28)) (tgt := 40) (by decide +kernel) rfl (fun h9 => absurd h9 (by rw [ht]; exact nI_ge hi (by omega))) (fun _ => ?_)
    refine G.sl [(.aload_n 0, 1, 0, 0, 0, 0), (.getfield 9, 3, 1, 0, 73, 0), (.bipush 41, 2, 0, 0, 0, nI 41), (.iload_n 3, 1, 3, 0, 0, 0), (.iadd, 1, 0, 0, 0, 0), (.iaload, 1, 0, 0, 0, 0), (.iload_n 1, 1, 1, 0, 0, 0)] [41 + i] (pc2 := 25) (ls2 := [some (.ref 40), some (.int f), some (.int (hb (M.1 41) 41 f i)), some (.int (nI i))]) (st2 := [.int f, .int (M.1 41 (41 + i))]) (M2 := M) (Ps := [((nI 41) + (nI i)) = nI (41 + i) ∧ (41 + i) < 51]) (by decide +kernel) rfl rfl ⟨⟨(by simp only [nI_add, pk_mul]), by omega⟩, trivial⟩ ?_
    refine G.ic_ne (off := (9)) (tgt := 34) (by decide +kernel) rfl (fun c1 => ?_) (fun c1 => ?_)
    · refine G.sl [(.iinc 3 1, 3, 3, 0, 0, nI 1), (.goto (-33), 3, 4, 0, 0, 0)] [] (pc2 := 4) (ls2 := [some (.ref 40), some (.int f), some (.int (hb (M.1 41) 41 f i)), some (.int ((nI i) + nI 1))]) (st2 := []) (M2 := M) (Ps := []) (by decide +kernel) rfl rfl trivial ?_
      rw [nI_add]
      rw [show hb (M.1 41) 41 f (i + 1) = hb (M.1 41) 41 f i from if_neg c1] at ih
      exact ih
    · refine G.sl [(.iload_n 2, 1, 2, 0, 0, 0), (.iconst 1, 1, 0, 0, 0, nI 1), (.iload_n 3, 1, 3, 0, 0, 0), (.ishl, 1, 0, 0, 0, 0), (.ior, 1, 0, 0, 0, 0), (.istore_n 2, 1, 2, 0, 0, 0), (.iinc 3 1, 3, 3, 0, 0, nI 1), (.goto (-33), 3, 4, 0, 0, 0)] [] (pc2 := 4) (ls2 := [some (.ref 40), some (.int f), some (.int ((hb (M.1 41) 41 f i) ||| ((nI 1) <<< ((nI i) &&& 31)))), some (.int ((nI i) + nI 1))]) (st2 := []) (M2 := M) (Ps := []) (by decide +kernel) rfl rfl trivial ?_
      rw [nI_add]
      rw [show hb (M.1 41) 41 f (i + 1) = hb (M.1 41) 41 f i ||| (nI 1 <<< (nI i &&& 31)) from if_pos c1] at ih
      exact ih
