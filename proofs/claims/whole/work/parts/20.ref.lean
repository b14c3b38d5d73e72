def kwo (T : Nat → Int32) (b : Int32) : Nat → Int32
  | 0 => nI 0
  | i + 1 => (kwo T b i) + (((b >>> ((nI i) &&& 31)) &&& (nI 1)) * (T (3 * i + 2)))
theorem k_worthOf (z : Zp) (d : Nat) (M : Mem) (b : Int32) (nt : Nat) (hnt : nt ≤ 10) (ct : M.1 54 22 = nI nt) : GM z mX12_worthOf (d) [.ref 54, .int b] M (fun rs => rs = .inl (some (.int (kwo (M.1 61) b nt)), M)) := by
  refine GM.of oX12_worthOf.1 (Nat.le_of_ble_eq_true rfl) ?_
  show G z mX12_worthOf (d) 0 0 0 [some (.ref 54), some (.int b), none, none] [] M _
  refine G.sl [(.iconst 0, 1, 0, 0, 0, nI 0), (.istore_n 2, 1, 2, 0, 0, 0), (.iconst 0, 1, 0, 0, 0, nI 0), (.istore_n 3, 1, 3, 0, 0, 0)] [] (pc2 := 4) (ls2 := [some (.ref 54), some (.int b), some (.int (nI 0)), some (.int (nI 0))]) (st2 := []) (M2 := M) (Ps := []) (by decide +kernel) rfl rfl trivial ?_
  refine down (n := nt) (P := fun i => G z mX12_worthOf (d) 0 0 4 [some (.ref 54), some (.int b), some (.int (kwo (M.1 61) b i)), some (.int (nI i))] [] M (fun rs => rs = .inl (some (.int (kwo (M.1 61) b nt)), M))) ?_ ?_ 0 (Nat.zero_le _)
  · refine G.sl [(.iload_n 3, 1, 3, 0, 0, 0), (.aload_n 0, 1, 0, 0, 0, 0), (.getfield 162, 3, 11, 22, 145, 0)] [] (pc2 := 9) (ls2 := [some (.ref 54), some (.int b), some (.int (kwo (M.1 61) b nt)), some (.int (nI nt))]) (st2 := [.int (M.1 54 22), .int (nI nt)]) (M2 := M) (Ps := []) (by decide +kernel) rfl rfl trivial ?_
    refine G.ic_ge (off := (28)) (tgt := 37) (by decide +kernel) rfl (fun _ => ?_) (fun h9 => absurd (by rw [ct]; exact nI_le (Nat.le_refl nt) (by omega)) h9)
    refine G.sl [(.iload_n 2, 1, 2, 0, 0, 0)] [] (pc2 := 38) (ls2 := [some (.ref 54), some (.int b), some (.int (kwo (M.1 61) b nt)), some (.int (nI nt))]) (st2 := [.int (kwo (M.1 61) b nt)]) (M2 := M) (Ps := []) (by decide +kernel) rfl rfl trivial ?_
    exact G.reti (by decide +kernel) rfl rfl (Nat.le_of_ble_eq_true rfl) (Nat.le_of_ble_eq_true rfl) rfl
  · intro i hi ih
    refine G.sl [(.iload_n 3, 1, 3, 0, 0, 0), (.aload_n 0, 1, 0, 0, 0, 0), (.getfield 162, 3, 11, 22, 145, 0)] [] (pc2 := 9) (ls2 := [some (.ref 54), some (.int b), some (.int (kwo (M.1 61) b i)), some (.int (nI i))]) (st2 := [.int (M.1 54 22), .int (nI i)]) (M2 := M) (Ps := []) (by decide +kernel) rfl rfl trivial ?_
    refine G.ic_ge (off := (28)) (tgt := 37) (by decide +kernel) rfl (fun h9 => absurd h9 (by rw [ct]; exact nI_ge hi (by omega))) (fun _ => ?_)
    refine G.sl [(.iload_n 2, 1, 2, 0, 0, 0), (.iload_n 1, 1, 1, 0, 0, 0), (.iload_n 3, 1, 3, 0, 0, 0), (.ishr, 1, 0, 0, 0, 0), (.iconst 1, 1, 0, 0, 0, nI 1), (.iand, 1, 0, 0, 0, 0), (.aload_n 0, 1, 0, 0, 0, 0), (.getfield 35, 3, 11, 14, 137, 0), (.iconst 3, 1, 0, 0, 0, nI 3), (.iload_n 3, 1, 3, 0, 0, 0), (.imul, 1, 0, 0, 0, 0), (.iconst 2, 1, 0, 0, 0, nI 2), (.iadd, 1, 0, 0, 0, 0), (.iaload, 1, 0, 0, 0, 0), (.imul, 1, 0, 0, 0, 0), (.iadd, 1, 0, 0, 0, 0), (.istore_n 2, 1, 2, 0, 0, 0), (.iinc 3 1, 3, 3, 0, 0, nI 1), (.goto (-30), 3, 4, 0, 0, 0)] [3 * i + 2] (pc2 := 4) (ls2 := [some (.ref 54), some (.int b), some (.int ((kwo (M.1 61) b i) + (((b >>> ((nI i) &&& 31)) &&& (nI 1)) * (M.1 61 (3 * i + 2))))), some (.int ((nI i) + nI 1))]) (st2 := []) (M2 := M) (Ps := [(((nI 3) * (nI i)) + (nI 2)) = nI (3 * i + 2) ∧ (3 * i + 2) < 30]) (by decide +kernel) rfl rfl ⟨⟨(by simp only [nI_add, pk_mul]), by omega⟩, trivial⟩ ?_
    rw [nI_add]
    simp only [kwo] at ih
    exact ih
def khb (R : Nat → Int32) (f : Int32) : Nat → Int32
  | 0 => nI 0
  | i + 1 => (if (R (10 + i)) = f then (khb R f i) ||| ((nI 1) <<< ((nI i) &&& 31)) else (khb R f i) ||| (nI 0))
theorem k_heldBy (z : Zp) (d : Nat) (M : Mem) (f : Int32) (nt : Nat) (hnt : nt ≤ 10) (ct : M.1 54 22 = nI nt) : GM z mX12_heldBy (d) [.ref 54, .int f] M (fun rs => rs = .inl (some (.int (khb (M.1 72) f nt)), M)) := by
  refine GM.of oX12_heldBy.1 (Nat.le_of_ble_eq_true rfl) ?_
  show G z mX12_heldBy (d) 0 0 0 [some (.ref 54), some (.int f), none, none] [] M _
  refine G.sl [(.iconst 0, 1, 0, 0, 0, nI 0), (.istore_n 2, 1, 2, 0, 0, 0), (.iconst 0, 1, 0, 0, 0, nI 0), (.istore_n 3, 1, 3, 0, 0, 0)] [] (pc2 := 4) (ls2 := [some (.ref 54), some (.int f), some (.int (nI 0)), some (.int (nI 0))]) (st2 := []) (M2 := M) (Ps := []) (by decide +kernel) rfl rfl trivial ?_
  refine down (n := nt) (P := fun i => G z mX12_heldBy (d) 0 0 4 [some (.ref 54), some (.int f), some (.int (khb (M.1 72) f i)), some (.int (nI i))] [] M (fun rs => rs = .inl (some (.int (khb (M.1 72) f nt)), M))) ?_ ?_ 0 (Nat.zero_le _)
  · refine G.sl [(.iload_n 3, 1, 3, 0, 0, 0), (.aload_n 0, 1, 0, 0, 0, 0), (.getfield 162, 3, 11, 22, 145, 0)] [] (pc2 := 9) (ls2 := [some (.ref 54), some (.int f), some (.int (khb (M.1 72) f nt)), some (.int (nI nt))]) (st2 := [.int (M.1 54 22), .int (nI nt)]) (M2 := M) (Ps := []) (by decide +kernel) rfl rfl trivial ?_
    refine G.ic_ge (off := (32)) (tgt := 41) (by decide +kernel) rfl (fun _ => ?_) (fun h9 => absurd (by rw [ct]; exact nI_le (Nat.le_refl nt) (by omega)) h9)
    refine G.sl [(.iload_n 2, 1, 2, 0, 0, 0)] [] (pc2 := 42) (ls2 := [some (.ref 54), some (.int f), some (.int (khb (M.1 72) f nt)), some (.int (nI nt))]) (st2 := [.int (khb (M.1 72) f nt)]) (M2 := M) (Ps := []) (by decide +kernel) rfl rfl trivial ?_
    exact G.reti (by decide +kernel) rfl rfl (Nat.le_of_ble_eq_true rfl) (Nat.le_of_ble_eq_true rfl) rfl
  · intro i hi ih
    refine G.sl [(.iload_n 3, 1, 3, 0, 0, 0), (.aload_n 0, 1, 0, 0, 0, 0), (.getfield 162, 3, 11, 22, 145, 0)] [] (pc2 := 9) (ls2 := [some (.ref 54), some (.int f), some (.int (khb (M.1 72) f i)), some (.int (nI i))]) (st2 := [.int (M.1 54 22), .int (nI i)]) (M2 := M) (Ps := []) (by decide +kernel) rfl rfl trivial ?_
    refine G.ic_ge (off := (32)) (tgt := 41) (by decide +kernel) rfl (fun h9 => absurd h9 (by rw [ct]; exact nI_ge hi (by omega))) (fun _ => ?_)
    refine G.sl [(.iload_n 2, 1, 2, 0, 0, 0), (.aload_n 0, 1, 0, 0, 0, 0), (.getfield 68, 3, 11, 41, 164, 0), (.bipush 10, 2, 0, 0, 0, nI 10), (.iload_n 3, 1, 3, 0, 0, 0), (.iadd, 1, 0, 0, 0, 0), (.iaload, 1, 0, 0, 0, 0), (.iload_n 1, 1, 1, 0, 0, 0)] [10 + i] (pc2 := 23) (ls2 := [some (.ref 54), some (.int f), some (.int (khb (M.1 72) f i)), some (.int (nI i))]) (st2 := [.int f, .int (M.1 72 (10 + i)), .int (khb (M.1 72) f i)]) (M2 := M) (Ps := [((nI 10) + (nI i)) = nI (10 + i) ∧ (10 + i) < 51]) (by decide +kernel) rfl rfl ⟨⟨(by simp only [nI_add, pk_mul]), by omega⟩, trivial⟩ ?_
    refine G.ic_ne (off := (9)) (tgt := 32) (by decide +kernel) rfl (fun c1 => ?_) (fun c1 => ?_)
    · refine G.sl [(.iconst 0, 1, 0, 0, 0, nI 0), (.ior, 1, 0, 0, 0, 0), (.istore_n 2, 1, 2, 0, 0, 0), (.iinc 3 1, 3, 3, 0, 0, nI 1), (.goto (-34), 3, 4, 0, 0, 0)] [] (pc2 := 4) (ls2 := [some (.ref 54), some (.int f), some (.int ((khb (M.1 72) f i) ||| (nI 0))), some (.int ((nI i) + nI 1))]) (st2 := []) (M2 := M) (Ps := []) (by decide +kernel) rfl rfl trivial ?_
      rw [nI_add]
      simp only [khb, if_neg c1] at ih
      exact ih
    · refine G.sl [(.iconst 1, 1, 0, 0, 0, nI 1), (.iload_n 3, 1, 3, 0, 0, 0), (.ishl, 1, 0, 0, 0, 0), (.goto 4, 3, 33, 0, 0, 0), (.ior, 1, 0, 0, 0, 0), (.istore_n 2, 1, 2, 0, 0, 0), (.iinc 3 1, 3, 3, 0, 0, nI 1), (.goto (-34), 3, 4, 0, 0, 0)] [] (pc2 := 4) (ls2 := [some (.ref 54), some (.int f), some (.int ((khb (M.1 72) f i) ||| ((nI 1) <<< ((nI i) &&& 31)))), some (.int ((nI i) + nI 1))]) (st2 := []) (M2 := M) (Ps := []) (by decide +kernel) rfl rfl trivial ?_
      rw [nI_add]
      simp only [khb, if_pos c1] at ih
      exact ih
def kla (R : Nat → Int32) (p : Int32) : Nat → Int32
  | 0 => nI 0
  | i + 1 => (if (R (10 + i)) = ((-1)) then (if (R (0 + i)) = p then (kla R p i) ||| ((nI 1) <<< ((nI i) &&& 31)) else (kla R p i) ||| (nI 0)) else (kla R p i) ||| (nI 0))
theorem k_lyingAt (z : Zp) (d : Nat) (M : Mem) (p : Int32) (nt : Nat) (hnt : nt ≤ 10) (ct : M.1 54 22 = nI nt) : GM z mX12_lyingAt (d) [.ref 54, .int p] M (fun rs => rs = .inl (some (.int (kla (M.1 72) p nt)), M)) := by
  refine GM.of oX12_lyingAt.1 (Nat.le_of_ble_eq_true rfl) ?_
  show G z mX12_lyingAt (d) 0 0 0 [some (.ref 54), some (.int p), none, none] [] M _
  refine G.sl [(.iconst 0, 1, 0, 0, 0, nI 0), (.istore_n 2, 1, 2, 0, 0, 0), (.iconst 0, 1, 0, 0, 0, nI 0), (.istore_n 3, 1, 3, 0, 0, 0)] [] (pc2 := 4) (ls2 := [some (.ref 54), some (.int p), some (.int (nI 0)), some (.int (nI 0))]) (st2 := []) (M2 := M) (Ps := []) (by decide +kernel) rfl rfl trivial ?_
  refine down (n := nt) (P := fun i => G z mX12_lyingAt (d) 0 0 4 [some (.ref 54), some (.int p), some (.int (kla (M.1 72) p i)), some (.int (nI i))] [] M (fun rs => rs = .inl (some (.int (kla (M.1 72) p nt)), M))) ?_ ?_ 0 (Nat.zero_le _)
  · refine G.sl [(.iload_n 3, 1, 3, 0, 0, 0), (.aload_n 0, 1, 0, 0, 0, 0), (.getfield 162, 3, 11, 22, 145, 0)] [] (pc2 := 9) (ls2 := [some (.ref 54), some (.int p), some (.int (kla (M.1 72) p nt)), some (.int (nI nt))]) (st2 := [.int (M.1 54 22), .int (nI nt)]) (M2 := M) (Ps := []) (by decide +kernel) rfl rfl trivial ?_
    refine G.ic_ge (off := (44)) (tgt := 53) (by decide +kernel) rfl (fun _ => ?_) (fun h9 => absurd (by rw [ct]; exact nI_le (Nat.le_refl nt) (by omega)) h9)
    refine G.sl [(.iload_n 2, 1, 2, 0, 0, 0)] [] (pc2 := 54) (ls2 := [some (.ref 54), some (.int p), some (.int (kla (M.1 72) p nt)), some (.int (nI nt))]) (st2 := [.int (kla (M.1 72) p nt)]) (M2 := M) (Ps := []) (by decide +kernel) rfl rfl trivial ?_
    exact G.reti (by decide +kernel) rfl rfl (Nat.le_of_ble_eq_true rfl) (Nat.le_of_ble_eq_true rfl) rfl
  · intro i hi ih
    refine G.sl [(.iload_n 3, 1, 3, 0, 0, 0), (.aload_n 0, 1, 0, 0, 0, 0), (.getfield 162, 3, 11, 22, 145, 0)] [] (pc2 := 9) (ls2 := [some (.ref 54), some (.int p), some (.int (kla (M.1 72) p i)), some (.int (nI i))]) (st2 := [.int (M.1 54 22), .int (nI i)]) (M2 := M) (Ps := []) (by decide +kernel) rfl rfl trivial ?_
    refine G.ic_ge (off := (44)) (tgt := 53) (by decide +kernel) rfl (fun h9 => absurd h9 (by rw [ct]; exact nI_ge hi (by omega))) (fun _ => ?_)
    refine G.sl [(.iload_n 2, 1, 2, 0, 0, 0), (.aload_n 0, 1, 0, 0, 0, 0), (.getfield 68, 3, 11, 41, 164, 0), (.bipush 10, 2, 0, 0, 0, nI 10), (.iload_n 3, 1, 3, 0, 0, 0), (.iadd, 1, 0, 0, 0, 0), (.iaload, 1, 0, 0, 0, 0), (.iconst (-1), 1, 0, 0, 0, (-1))] [10 + i] (pc2 := 23) (ls2 := [some (.ref 54), some (.int p), some (.int (kla (M.1 72) p i)), some (.int (nI i))]) (st2 := [.int ((-1)), .int (M.1 72 (10 + i)), .int (kla (M.1 72) p i)]) (M2 := M) (Ps := [((nI 10) + (nI i)) = nI (10 + i) ∧ (10 + i) < 51]) (by decide +kernel) rfl rfl ⟨⟨(by simp only [nI_add, pk_mul]), by omega⟩, trivial⟩ ?_
    refine G.ic_ne (off := (21)) (tgt := 44) (by decide +kernel) rfl (fun c1 => ?_) (fun c1 => ?_)
    · refine G.sl [(.iconst 0, 1, 0, 0, 0, nI 0), (.ior, 1, 0, 0, 0, 0), (.istore_n 2, 1, 2, 0, 0, 0), (.iinc 3 1, 3, 3, 0, 0, nI 1), (.goto (-46), 3, 4, 0, 0, 0)] [] (pc2 := 4) (ls2 := [some (.ref 54), some (.int p), some (.int ((kla (M.1 72) p i) ||| (nI 0))), some (.int ((nI i) + nI 1))]) (st2 := []) (M2 := M) (Ps := []) (by decide +kernel) rfl rfl trivial ?_
      rw [nI_add]
      simp only [kla, if_neg c1] at ih
      exact ih
    · refine G.sl [(.aload_n 0, 1, 0, 0, 0, 0), (.getfield 68, 3, 11, 41, 164, 0), (.iconst 0, 1, 0, 0, 0, nI 0), (.iload_n 3, 1, 3, 0, 0, 0), (.iadd, 1, 0, 0, 0, 0), (.iaload, 1, 0, 0, 0, 0), (.iload_n 1, 1, 1, 0, 0, 0)] [0 + i] (pc2 := 35) (ls2 := [some (.ref 54), some (.int p), some (.int (kla (M.1 72) p i)), some (.int (nI i))]) (st2 := [.int p, .int (M.1 72 (0 + i)), .int (kla (M.1 72) p i)]) (M2 := M) (Ps := [((nI 0) + (nI i)) = nI (0 + i) ∧ (0 + i) < 51]) (by decide +kernel) rfl rfl ⟨⟨(by simp only [nI_add, pk_mul]), by omega⟩, trivial⟩ ?_
      refine G.ic_ne (off := (9)) (tgt := 44) (by decide +kernel) rfl (fun c2 => ?_) (fun c2 => ?_)
      · refine G.sl [(.iconst 0, 1, 0, 0, 0, nI 0), (.ior, 1, 0, 0, 0, 0), (.istore_n 2, 1, 2, 0, 0, 0), (.iinc 3 1, 3, 3, 0, 0, nI 1), (.goto (-46), 3, 4, 0, 0, 0)] [] (pc2 := 4) (ls2 := [some (.ref 54), some (.int p), some (.int ((kla (M.1 72) p i) ||| (nI 0))), some (.int ((nI i) + nI 1))]) (st2 := []) (M2 := M) (Ps := []) (by decide +kernel) rfl rfl trivial ?_
        rw [nI_add]
        simp only [kla, if_pos c1, if_neg c2] at ih
        exact ih
      · refine G.sl [(.iconst 1, 1, 0, 0, 0, nI 1), (.iload_n 3, 1, 3, 0, 0, 0), (.ishl, 1, 0, 0, 0, 0), (.goto 4, 3, 45, 0, 0, 0), (.ior, 1, 0, 0, 0, 0), (.istore_n 2, 1, 2, 0, 0, 0), (.iinc 3 1, 3, 3, 0, 0, nI 1), (.goto (-46), 3, 4, 0, 0, 0)] [] (pc2 := 4) (ls2 := [some (.ref 54), some (.int p), some (.int ((kla (M.1 72) p i) ||| ((nI 1) <<< ((nI i) &&& 31)))), some (.int ((nI i) + nI 1))]) (st2 := []) (M2 := M) (Ps := []) (by decide +kernel) rfl rfl trivial ?_
        rw [nI_add]
        simp only [kla, if_pos c1, if_pos c2] at ih
        exact ih
def kal (R : Nat → Int32) : Nat → Int32
  | 0 => nI 0
  | i + 1 => (if (R (10 + i)) = ((-1)) then (kal R i) ||| ((nI 1) <<< ((nI i) &&& 31)) else (kal R i) ||| (nI 0))
theorem k_allLying (z : Zp) (d : Nat) (M : Mem)  (nt : Nat) (hnt : nt ≤ 10) (ct : M.1 54 22 = nI nt) : GM z mX12_allLying (d) [.ref 54] M (fun rs => rs = .inl (some (.int (kal (M.1 72) nt)), M)) := by
  refine GM.of oX12_allLying.1 (Nat.le_of_ble_eq_true rfl) ?_
  show G z mX12_allLying (d) 0 0 0 [some (.ref 54), none, none] [] M _
  refine G.sl [(.iconst 0, 1, 0, 0, 0, nI 0), (.istore_n 1, 1, 1, 0, 0, 0), (.iconst 0, 1, 0, 0, 0, nI 0), (.istore_n 2, 1, 2, 0, 0, 0)] [] (pc2 := 4) (ls2 := [some (.ref 54), some (.int (nI 0)), some (.int (nI 0))]) (st2 := []) (M2 := M) (Ps := []) (by decide +kernel) rfl rfl trivial ?_
  refine down (n := nt) (P := fun i => G z mX12_allLying (d) 0 0 4 [some (.ref 54), some (.int (kal (M.1 72) i)), some (.int (nI i))] [] M (fun rs => rs = .inl (some (.int (kal (M.1 72) nt)), M))) ?_ ?_ 0 (Nat.zero_le _)
  · refine G.sl [(.iload_n 2, 1, 2, 0, 0, 0), (.aload_n 0, 1, 0, 0, 0, 0), (.getfield 162, 3, 11, 22, 145, 0)] [] (pc2 := 9) (ls2 := [some (.ref 54), some (.int (kal (M.1 72) nt)), some (.int (nI nt))]) (st2 := [.int (M.1 54 22), .int (nI nt)]) (M2 := M) (Ps := []) (by decide +kernel) rfl rfl trivial ?_
    refine G.ic_ge (off := (32)) (tgt := 41) (by decide +kernel) rfl (fun _ => ?_) (fun h9 => absurd (by rw [ct]; exact nI_le (Nat.le_refl nt) (by omega)) h9)
    refine G.sl [(.iload_n 1, 1, 1, 0, 0, 0)] [] (pc2 := 42) (ls2 := [some (.ref 54), some (.int (kal (M.1 72) nt)), some (.int (nI nt))]) (st2 := [.int (kal (M.1 72) nt)]) (M2 := M) (Ps := []) (by decide +kernel) rfl rfl trivial ?_
    exact G.reti (by decide +kernel) rfl rfl (Nat.le_of_ble_eq_true rfl) (Nat.le_of_ble_eq_true rfl) rfl
  · intro i hi ih
    refine G.sl [(.iload_n 2, 1, 2, 0, 0, 0), (.aload_n 0, 1, 0, 0, 0, 0), (.getfield 162, 3, 11, 22, 145, 0)] [] (pc2 := 9) (ls2 := [some (.ref 54), some (.int (kal (M.1 72) i)), some (.int (nI i))]) (st2 := [.int (M.1 54 22), .int (nI i)]) (M2 := M) (Ps := []) (by decide +kernel) rfl rfl trivial ?_
    refine G.ic_ge (off := (32)) (tgt := 41) (by decide +kernel) rfl (fun h9 => absurd h9 (by rw [ct]; exact nI_ge hi (by omega))) (fun _ => ?_)
    refine G.sl [(.iload_n 1, 1, 1, 0, 0, 0), (.aload_n 0, 1, 0, 0, 0, 0), (.getfield 68, 3, 11, 41, 164, 0), (.bipush 10, 2, 0, 0, 0, nI 10), (.iload_n 2, 1, 2, 0, 0, 0), (.iadd, 1, 0, 0, 0, 0), (.iaload, 1, 0, 0, 0, 0), (.iconst (-1), 1, 0, 0, 0, (-1))] [10 + i] (pc2 := 23) (ls2 := [some (.ref 54), some (.int (kal (M.1 72) i)), some (.int (nI i))]) (st2 := [.int ((-1)), .int (M.1 72 (10 + i)), .int (kal (M.1 72) i)]) (M2 := M) (Ps := [((nI 10) + (nI i)) = nI (10 + i) ∧ (10 + i) < 51]) (by decide +kernel) rfl rfl ⟨⟨(by simp only [nI_add, pk_mul]), by omega⟩, trivial⟩ ?_
    refine G.ic_ne (off := (9)) (tgt := 32) (by decide +kernel) rfl (fun c1 => ?_) (fun c1 => ?_)
    · refine G.sl [(.iconst 0, 1, 0, 0, 0, nI 0), (.ior, 1, 0, 0, 0, 0), (.istore_n 1, 1, 1, 0, 0, 0), (.iinc 2 1, 3, 2, 0, 0, nI 1), (.goto (-34), 3, 4, 0, 0, 0)] [] (pc2 := 4) (ls2 := [some (.ref 54), some (.int ((kal (M.1 72) i) ||| (nI 0))), some (.int ((nI i) + nI 1))]) (st2 := []) (M2 := M) (Ps := []) (by decide +kernel) rfl rfl trivial ?_
      rw [nI_add]
      simp only [kal, if_neg c1] at ih
      exact ih
    · refine G.sl [(.iconst 1, 1, 0, 0, 0, nI 1), (.iload_n 2, 1, 2, 0, 0, 0), (.ishl, 1, 0, 0, 0, 0), (.goto 4, 3, 33, 0, 0, 0), (.ior, 1, 0, 0, 0, 0), (.istore_n 1, 1, 1, 0, 0, 0), (.iinc 2 1, 3, 2, 0, 0, nI 1), (.goto (-34), 3, 4, 0, 0, 0)] [] (pc2 := 4) (ls2 := [some (.ref 54), some (.int ((kal (M.1 72) i) ||| ((nI 1) <<< ((nI i) &&& 31)))), some (.int ((nI i) + nI 1))]) (st2 := []) (M2 := M) (Ps := []) (by decide +kernel) rfl rfl trivial ?_
      rw [nI_add]
      simp only [kal, if_pos c1] at ih
      exact ih
def kow (R : Nat → Int32) (w : Int32) : Nat → Int32
  | 0 => nI 0
  | i + 1 => (if w = 0 then (if (R (26 + i)) = 0 then (kow R w i) ||| ((nI 1) <<< ((nI i) &&& 31)) else (kow R w i) ||| (nI 0)) else (if (R (26 + i)) ≤ 0 then (kow R w i) ||| (nI 0) else (kow R w i) ||| ((nI 1) <<< ((nI i) &&& 31))))
theorem k_owing (z : Zp) (d : Nat) (M : Mem) (w : Int32) (nf : Nat) (hnf : nf ≤ 6) (cf : M.1 54 23 = nI nf) : GM z mX12_owing (d) [.ref 54, .int w] M (fun rs => rs = .inl (some (.int (kow (M.1 72) w nf)), M)) := by
  refine GM.of oX12_owing.1 (Nat.le_of_ble_eq_true rfl) ?_
  show G z mX12_owing (d) 0 0 0 [some (.ref 54), some (.int w), none, none] [] M _
  refine G.sl [(.iconst 0, 1, 0, 0, 0, nI 0), (.istore_n 2, 1, 2, 0, 0, 0), (.iconst 0, 1, 0, 0, 0, nI 0), (.istore_n 3, 1, 3, 0, 0, 0)] [] (pc2 := 4) (ls2 := [some (.ref 54), some (.int w), some (.int (nI 0)), some (.int (nI 0))]) (st2 := []) (M2 := M) (Ps := []) (by decide +kernel) rfl rfl trivial ?_
  refine down (n := nf) (P := fun i => G z mX12_owing (d) 0 0 4 [some (.ref 54), some (.int w), some (.int (kow (M.1 72) w i)), some (.int (nI i))] [] M (fun rs => rs = .inl (some (.int (kow (M.1 72) w nf)), M))) ?_ ?_ 0 (Nat.zero_le _)
  · refine G.sl [(.iload_n 3, 1, 3, 0, 0, 0), (.aload_n 0, 1, 0, 0, 0, 0), (.getfield 165, 3, 11, 23, 146, 0)] [] (pc2 := 9) (ls2 := [some (.ref 54), some (.int w), some (.int (kow (M.1 72) w nf)), some (.int (nI nf))]) (st2 := [.int (M.1 54 23), .int (nI nf)]) (M2 := M) (Ps := []) (by decide +kernel) rfl rfl trivial ?_
    refine G.ic_ge (off := (50)) (tgt := 59) (by decide +kernel) rfl (fun _ => ?_) (fun h9 => absurd (by rw [cf]; exact nI_le (Nat.le_refl nf) (by omega)) h9)
    refine G.sl [(.iload_n 2, 1, 2, 0, 0, 0)] [] (pc2 := 60) (ls2 := [some (.ref 54), some (.int w), some (.int (kow (M.1 72) w nf)), some (.int (nI nf))]) (st2 := [.int (kow (M.1 72) w nf)]) (M2 := M) (Ps := []) (by decide +kernel) rfl rfl trivial ?_
    exact G.reti (by decide +kernel) rfl rfl (Nat.le_of_ble_eq_true rfl) (Nat.le_of_ble_eq_true rfl) rfl
  · intro i hi ih
    refine G.sl [(.iload_n 3, 1, 3, 0, 0, 0), (.aload_n 0, 1, 0, 0, 0, 0), (.getfield 165, 3, 11, 23, 146, 0)] [] (pc2 := 9) (ls2 := [some (.ref 54), some (.int w), some (.int (kow (M.1 72) w i)), some (.int (nI i))]) (st2 := [.int (M.1 54 23), .int (nI i)]) (M2 := M) (Ps := []) (by decide +kernel) rfl rfl trivial ?_
    refine G.ic_ge (off := (50)) (tgt := 59) (by decide +kernel) rfl (fun h9 => absurd h9 (by rw [cf]; exact nI_ge hi (by omega))) (fun _ => ?_)
    refine G.sl [(.iload_n 2, 1, 2, 0, 0, 0), (.iload_n 1, 1, 1, 0, 0, 0)] [] (pc2 := 14) (ls2 := [some (.ref 54), some (.int w), some (.int (kow (M.1 72) w i)), some (.int (nI i))]) (st2 := [.int w, .int (kow (M.1 72) w i)]) (M2 := M) (Ps := []) (by decide +kernel) rfl rfl trivial ?_
    refine G.if_ne (off := (18)) (tgt := 32) (by decide +kernel) rfl (fun c1 => ?_) (fun c1 => ?_)
    · refine G.sl [(.aload_n 0, 1, 0, 0, 0, 0), (.getfield 68, 3, 11, 41, 164, 0), (.bipush 26, 2, 0, 0, 0, nI 26), (.iload_n 3, 1, 3, 0, 0, 0), (.iadd, 1, 0, 0, 0, 0), (.iaload, 1, 0, 0, 0, 0)] [26 + i] (pc2 := 41) (ls2 := [some (.ref 54), some (.int w), some (.int (kow (M.1 72) w i)), some (.int (nI i))]) (st2 := [.int (M.1 72 (26 + i)), .int (kow (M.1 72) w i)]) (M2 := M) (Ps := [((nI 26) + (nI i)) = nI (26 + i) ∧ (26 + i) < 51]) (by decide +kernel) rfl rfl ⟨⟨(by simp only [nI_add, pk_mul]), by omega⟩, trivial⟩ ?_
      refine G.if_le (off := (9)) (tgt := 50) (by decide +kernel) rfl (fun c2 => ?_) (fun c2 => ?_)
      · refine G.sl [(.iconst 0, 1, 0, 0, 0, nI 0), (.ior, 1, 0, 0, 0, 0), (.istore_n 2, 1, 2, 0, 0, 0), (.iinc 3 1, 3, 3, 0, 0, nI 1), (.goto (-52), 3, 4, 0, 0, 0)] [] (pc2 := 4) (ls2 := [some (.ref 54), some (.int w), some (.int ((kow (M.1 72) w i) ||| (nI 0))), some (.int ((nI i) + nI 1))]) (st2 := []) (M2 := M) (Ps := []) (by decide +kernel) rfl rfl trivial ?_
        rw [nI_add]
        simp only [kow, if_neg c1, if_pos c2] at ih
        exact ih
      · refine G.sl [(.iconst 1, 1, 0, 0, 0, nI 1), (.iload_n 3, 1, 3, 0, 0, 0), (.ishl, 1, 0, 0, 0, 0), (.goto 4, 3, 51, 0, 0, 0), (.ior, 1, 0, 0, 0, 0), (.istore_n 2, 1, 2, 0, 0, 0), (.iinc 3 1, 3, 3, 0, 0, nI 1), (.goto (-52), 3, 4, 0, 0, 0)] [] (pc2 := 4) (ls2 := [some (.ref 54), some (.int w), some (.int ((kow (M.1 72) w i) ||| ((nI 1) <<< ((nI i) &&& 31)))), some (.int ((nI i) + nI 1))]) (st2 := []) (M2 := M) (Ps := []) (by decide +kernel) rfl rfl trivial ?_
        rw [nI_add]
        simp only [kow, if_neg c1, if_neg c2] at ih
        exact ih
    · refine G.sl [(.aload_n 0, 1, 0, 0, 0, 0), (.getfield 68, 3, 11, 41, 164, 0), (.bipush 26, 2, 0, 0, 0, nI 26), (.iload_n 3, 1, 3, 0, 0, 0), (.iadd, 1, 0, 0, 0, 0), (.iaload, 1, 0, 0, 0, 0)] [26 + i] (pc2 := 26) (ls2 := [some (.ref 54), some (.int w), some (.int (kow (M.1 72) w i)), some (.int (nI i))]) (st2 := [.int (M.1 72 (26 + i)), .int (kow (M.1 72) w i)]) (M2 := M) (Ps := [((nI 26) + (nI i)) = nI (26 + i) ∧ (26 + i) < 51]) (by decide +kernel) rfl rfl ⟨⟨(by simp only [nI_add, pk_mul]), by omega⟩, trivial⟩ ?_
      refine G.if_ne (off := (24)) (tgt := 50) (by decide +kernel) rfl (fun c2 => ?_) (fun c2 => ?_)
      · refine G.sl [(.iconst 0, 1, 0, 0, 0, nI 0), (.ior, 1, 0, 0, 0, 0), (.istore_n 2, 1, 2, 0, 0, 0), (.iinc 3 1, 3, 3, 0, 0, nI 1), (.goto (-52), 3, 4, 0, 0, 0)] [] (pc2 := 4) (ls2 := [some (.ref 54), some (.int w), some (.int ((kow (M.1 72) w i) ||| (nI 0))), some (.int ((nI i) + nI 1))]) (st2 := []) (M2 := M) (Ps := []) (by decide +kernel) rfl rfl trivial ?_
        rw [nI_add]
        simp only [kow, if_pos c1, if_neg c2] at ih
        exact ih
      · refine G.sl [(.goto 15, 3, 44, 0, 0, 0), (.iconst 1, 1, 0, 0, 0, nI 1), (.iload_n 3, 1, 3, 0, 0, 0), (.ishl, 1, 0, 0, 0, 0), (.goto 4, 3, 51, 0, 0, 0), (.ior, 1, 0, 0, 0, 0), (.istore_n 2, 1, 2, 0, 0, 0), (.iinc 3 1, 3, 3, 0, 0, nI 1), (.goto (-52), 3, 4, 0, 0, 0)] [] (pc2 := 4) (ls2 := [some (.ref 54), some (.int w), some (.int ((kow (M.1 72) w i) ||| ((nI 1) <<< ((nI i) &&& 31)))), some (.int ((nI i) + nI 1))]) (st2 := []) (M2 := M) (Ps := []) (by decide +kernel) rfl rfl trivial ?_
        rw [nI_add]
        simp only [kow, if_pos c1, if_pos c2] at ih
        exact ih
def kah (R : Nat → Int32) (nt : Nat) : Int32 := (((nI 1) <<< ((nI nt) &&& 31)) - (nI 1)) &&& ((kal (R) nt) ^^^ ((-1)))
theorem k_allHeld (z : Zp) (d : Nat) (M : Mem) (nt : Nat) (hnt : nt ≤ 10) (ct : M.1 54 22 = nI nt) : GM z mX12_allHeld (d + 1) [.ref 54] M (fun rs => rs = .inl (some (.int (kah (M.1 72) nt)), M)) := by
  refine GM.of oX12_allHeld.1 (Nat.le_of_ble_eq_true rfl) ?_
  show G z mX12_allHeld (d + 1) 0 0 0 [some (.ref 54)] [] M _
  refine G.sl [(.iconst 1, 1, 0, 0, 0, nI 1), (.aload_n 0, 1, 0, 0, 0, 0), (.getfield 162, 3, 11, 22, 145, 0), (.ishl, 1, 0, 0, 0, 0), (.iconst 1, 1, 0, 0, 0, nI 1), (.isub, 1, 0, 0, 0, 0), (.aload_n 0, 1, 0, 0, 0, 0)] [] (pc2 := 9) (ls2 := [some (.ref 54)]) (st2 := [.ref 54, .int (((nI 1) <<< ((M.1 54 22) &&& 31)) - (nI 1))]) (M2 := M) (Ps := []) (by decide +kernel) rfl rfl trivial ?_
  refine G.callV (as := []) (rest := [.int (((nI 1) <<< ((M.1 54 22) &&& 31)) - (nI 1))]) (a := 54) oX12_allLying lk_EvenFindersModel_376 (by decide +kernel) rfl rfl ⟨rfl, rfl⟩ (Nat.le_of_ble_eq_true rfl) rfl ⟨Nat.le_of_ble_eq_true rfl, Nat.le_of_ble_eq_true rfl⟩ (k_allLying z _ _  nt hnt ct) (fun v9 N9 h1 => ?_) (fun E9 N9 h1 => by cases h1)
  cases h1
  refine G.sl [(.iconst (-1), 1, 0, 0, 0, (-1)), (.ixor, 1, 0, 0, 0, 0), (.iand, 1, 0, 0, 0, 0)] [] (pc2 := 15) (ls2 := [some (.ref 54)]) (st2 := [.int ((((nI 1) <<< ((M.1 54 22) &&& 31)) - (nI 1)) &&& ((kal (M.1 72) nt) ^^^ ((-1))))]) (M2 := M) (Ps := []) (by decide +kernel) rfl rfl trivial ?_
  exact G.reti (by decide +kernel) rfl rfl (Nat.le_of_ble_eq_true rfl) (Nat.le_of_ble_eq_true rfl) (by simp only [ct, kah])
def kwi (v lo hi : Int32) : Int32 := (if v < lo then nI 0 else (if hi < v then nI 0 else nI 1))
theorem k_within (z : Zp) (d : Nat) (M : Mem) (v lo hi : Int32)  : GM z mX12_within (d) [.int v, .int lo, .int hi] M (fun rs => rs = .inl (some (.int (kwi v lo hi)), M)) := by
  refine GM.of oX12_within.1 (Nat.le_of_ble_eq_true rfl) ?_
  show G z mX12_within (d) 0 0 0 [some (.int v), some (.int lo), some (.int hi)] [] M _
  refine G.sl [(.iload_n 0, 1, 0, 0, 0, 0), (.iload_n 1, 1, 1, 0, 0, 0)] [] (pc2 := 2) (ls2 := [some (.int v), some (.int lo), some (.int hi)]) (st2 := [.int lo, .int v]) (M2 := M) (Ps := []) (by decide +kernel) rfl rfl trivial ?_
  refine G.ic_lt (off := (12)) (tgt := 14) (by decide +kernel) rfl (fun c1 => ?_) (fun c1 => ?_)
  · refine G.sl [(.iconst 0, 1, 0, 0, 0, nI 0)] [] (pc2 := 15) (ls2 := [some (.int v), some (.int lo), some (.int hi)]) (st2 := [.int (nI 0)]) (M2 := M) (Ps := []) (by decide +kernel) rfl rfl trivial ?_
    exact G.reti (by decide +kernel) rfl rfl (Nat.le_of_ble_eq_true rfl) (Nat.le_of_ble_eq_true rfl) (by simp only [kwi, if_pos c1])
  · refine G.sl [(.iload_n 0, 1, 0, 0, 0, 0), (.iload_n 2, 1, 2, 0, 0, 0)] [] (pc2 := 7) (ls2 := [some (.int v), some (.int lo), some (.int hi)]) (st2 := [.int hi, .int v]) (M2 := M) (Ps := []) (by decide +kernel) rfl rfl trivial ?_
    refine G.ic_gt (off := (7)) (tgt := 14) (by decide +kernel) rfl (fun c2 => ?_) (fun c2 => ?_)
    · refine G.sl [(.iconst 0, 1, 0, 0, 0, nI 0)] [] (pc2 := 15) (ls2 := [some (.int v), some (.int lo), some (.int hi)]) (st2 := [.int (nI 0)]) (M2 := M) (Ps := []) (by decide +kernel) rfl rfl trivial ?_
      exact G.reti (by decide +kernel) rfl rfl (Nat.le_of_ble_eq_true rfl) (Nat.le_of_ble_eq_true rfl) (by simp only [kwi, if_neg c1, if_pos c2])
    · refine G.sl [(.iconst 1, 1, 0, 0, 0, nI 1), (.goto 4, 3, 15, 0, 0, 0)] [] (pc2 := 15) (ls2 := [some (.int v), some (.int lo), some (.int hi)]) (st2 := [.int (nI 1)]) (M2 := M) (Ps := []) (by decide +kernel) rfl rfl trivial ?_
      exact G.reti (by decide +kernel) rfl rfl (Nat.le_of_ble_eq_true rfl) (Nat.le_of_ble_eq_true rfl) (by simp only [kwi, if_neg c1, if_neg c2])
def ksm (c : Int32) : Int32 := (if c < (nI 97) then nI 0 else (if (nI 122) < c then nI 0 else nI 1))
theorem k_isSmall (z : Zp) (d : Nat) (M : Mem) (c : Int32)  : GM z mX12_isSmall (d) [.int c] M (fun rs => rs = .inl (some (.int (ksm c)), M)) := by
  refine GM.of oX12_isSmall.1 (Nat.le_of_ble_eq_true rfl) ?_
  show G z mX12_isSmall (d) 0 0 0 [some (.int c)] [] M _
  refine G.sl [(.iload_n 0, 1, 0, 0, 0, 0), (.bipush 97, 2, 0, 0, 0, nI 97)] [] (pc2 := 3) (ls2 := [some (.int c)]) (st2 := [.int (nI 97), .int c]) (M2 := M) (Ps := []) (by decide +kernel) rfl rfl trivial ?_
  refine G.ic_lt (off := (13)) (tgt := 16) (by decide +kernel) rfl (fun c1 => ?_) (fun c1 => ?_)
  · refine G.sl [(.iconst 0, 1, 0, 0, 0, nI 0)] [] (pc2 := 17) (ls2 := [some (.int c)]) (st2 := [.int (nI 0)]) (M2 := M) (Ps := []) (by decide +kernel) rfl rfl trivial ?_
    exact G.reti (by decide +kernel) rfl rfl (Nat.le_of_ble_eq_true rfl) (Nat.le_of_ble_eq_true rfl) (by simp only [ksm, if_pos c1])
  · refine G.sl [(.iload_n 0, 1, 0, 0, 0, 0), (.bipush 122, 2, 0, 0, 0, nI 122)] [] (pc2 := 9) (ls2 := [some (.int c)]) (st2 := [.int (nI 122), .int c]) (M2 := M) (Ps := []) (by decide +kernel) rfl rfl trivial ?_
    refine G.ic_gt (off := (7)) (tgt := 16) (by decide +kernel) rfl (fun c2 => ?_) (fun c2 => ?_)
    · refine G.sl [(.iconst 0, 1, 0, 0, 0, nI 0)] [] (pc2 := 17) (ls2 := [some (.int c)]) (st2 := [.int (nI 0)]) (M2 := M) (Ps := []) (by decide +kernel) rfl rfl trivial ?_
      exact G.reti (by decide +kernel) rfl rfl (Nat.le_of_ble_eq_true rfl) (Nat.le_of_ble_eq_true rfl) (by simp only [ksm, if_neg c1, if_pos c2])
    · refine G.sl [(.iconst 1, 1, 0, 0, 0, nI 1), (.goto 4, 3, 17, 0, 0, 0)] [] (pc2 := 17) (ls2 := [some (.int c)]) (st2 := [.int (nI 1)]) (M2 := M) (Ps := []) (by decide +kernel) rfl rfl trivial ?_
      exact G.reti (by decide +kernel) rfl rfl (Nat.le_of_ble_eq_true rfl) (Nat.le_of_ble_eq_true rfl) (by simp only [ksm, if_neg c1, if_neg c2])
def kdg (c : Int32) : Int32 := (if c < (nI 48) then nI 0 else (if (nI 57) < c then nI 0 else nI 1))
theorem k_isDigit (z : Zp) (d : Nat) (M : Mem) (c : Int32)  : GM z mX12_isDigit (d) [.int c] M (fun rs => rs = .inl (some (.int (kdg c)), M)) := by
  refine GM.of oX12_isDigit.1 (Nat.le_of_ble_eq_true rfl) ?_
  show G z mX12_isDigit (d) 0 0 0 [some (.int c)] [] M _
  refine G.sl [(.iload_n 0, 1, 0, 0, 0, 0), (.bipush 48, 2, 0, 0, 0, nI 48)] [] (pc2 := 3) (ls2 := [some (.int c)]) (st2 := [.int (nI 48), .int c]) (M2 := M) (Ps := []) (by decide +kernel) rfl rfl trivial ?_
  refine G.ic_lt (off := (13)) (tgt := 16) (by decide +kernel) rfl (fun c1 => ?_) (fun c1 => ?_)
  · refine G.sl [(.iconst 0, 1, 0, 0, 0, nI 0)] [] (pc2 := 17) (ls2 := [some (.int c)]) (st2 := [.int (nI 0)]) (M2 := M) (Ps := []) (by decide +kernel) rfl rfl trivial ?_
    exact G.reti (by decide +kernel) rfl rfl (Nat.le_of_ble_eq_true rfl) (Nat.le_of_ble_eq_true rfl) (by simp only [kdg, if_pos c1])
  · refine G.sl [(.iload_n 0, 1, 0, 0, 0, 0), (.bipush 57, 2, 0, 0, 0, nI 57)] [] (pc2 := 9) (ls2 := [some (.int c)]) (st2 := [.int (nI 57), .int c]) (M2 := M) (Ps := []) (by decide +kernel) rfl rfl trivial ?_
    refine G.ic_gt (off := (7)) (tgt := 16) (by decide +kernel) rfl (fun c2 => ?_) (fun c2 => ?_)
    · refine G.sl [(.iconst 0, 1, 0, 0, 0, nI 0)] [] (pc2 := 17) (ls2 := [some (.int c)]) (st2 := [.int (nI 0)]) (M2 := M) (Ps := []) (by decide +kernel) rfl rfl trivial ?_
      exact G.reti (by decide +kernel) rfl rfl (Nat.le_of_ble_eq_true rfl) (Nat.le_of_ble_eq_true rfl) (by simp only [kdg, if_neg c1, if_pos c2])
    · refine G.sl [(.iconst 1, 1, 0, 0, 0, nI 1), (.goto 4, 3, 17, 0, 0, 0)] [] (pc2 := 17) (ls2 := [some (.int c)]) (st2 := [.int (nI 1)]) (M2 := M) (Ps := []) (by decide +kernel) rfl rfl trivial ?_
      exact G.reti (by decide +kernel) rfl rfl (Nat.le_of_ble_eq_true rfl) (Nat.le_of_ble_eq_true rfl) (by simp only [kdg, if_neg c1, if_neg c2])
def kon (v : Int32) : Int32 := (if v < (nI 9999) then v else (-1))
theorem k_orNone (z : Zp) (d : Nat) (M : Mem) (v : Int32)  : GM z mX12_orNone (d) [.int v] M (fun rs => rs = .inl (some (.int (kon v)), M)) := by
  refine GM.of oX12_orNone.1 (Nat.le_of_ble_eq_true rfl) ?_
  show G z mX12_orNone (d) 0 0 0 [some (.int v)] [] M _
  refine G.sl [(.iload_n 0, 1, 0, 0, 0, 0), (.sipush 9999, 3, 0, 0, 0, nI 9999)] [] (pc2 := 4) (ls2 := [some (.int v)]) (st2 := [.int (nI 9999), .int v]) (M2 := M) (Ps := []) (by decide +kernel) rfl rfl trivial ?_
  refine G.ic_lt (off := (7)) (tgt := 11) (by decide +kernel) rfl (fun c1 => ?_) (fun c1 => ?_)
  · refine G.sl [(.iload_n 0, 1, 0, 0, 0, 0)] [] (pc2 := 12) (ls2 := [some (.int v)]) (st2 := [.int v]) (M2 := M) (Ps := []) (by decide +kernel) rfl rfl trivial ?_
    exact G.reti (by decide +kernel) rfl rfl (Nat.le_of_ble_eq_true rfl) (Nat.le_of_ble_eq_true rfl) (by simp only [kon, if_pos c1])
  · refine G.sl [(.iconst (-1), 1, 0, 0, 0, (-1)), (.goto 4, 3, 12, 0, 0, 0)] [] (pc2 := 12) (ls2 := [some (.int v)]) (st2 := [.int ((-1))]) (M2 := M) (Ps := []) (by decide +kernel) rfl rfl trivial ?_
    exact G.reti (by decide +kernel) rfl rfl (Nat.le_of_ble_eq_true rfl) (Nat.le_of_ble_eq_true rfl) (by simp only [kon, if_neg c1])
def khs (o p v w : Int32) : Int32 := (if o = (nI 1) then nI 0 else (if p = (nI 1) then v - w else -w))
theorem k_hasBy (z : Zp) (d : Nat) (M : Mem) (o p v w : Int32)  : GM z mX12_hasBy (d) [.int o, .int p, .int v, .int w] M (fun rs => rs = .inl (some (.int (khs o p v w)), M)) := by
  refine GM.of oX12_hasBy.1 (Nat.le_of_ble_eq_true rfl) ?_
  show G z mX12_hasBy (d) 0 0 0 [some (.int o), some (.int p), some (.int v), some (.int w)] [] M _
  refine G.sl [(.iload_n 0, 1, 0, 0, 0, 0), (.iconst 1, 1, 0, 0, 0, nI 1)] [] (pc2 := 2) (ls2 := [some (.int o), some (.int p), some (.int v), some (.int w)]) (st2 := [.int (nI 1), .int o]) (M2 := M) (Ps := []) (by decide +kernel) rfl rfl trivial ?_
  refine G.ic_ne (off := (7)) (tgt := 9) (by decide +kernel) rfl (fun c1 => ?_) (fun c1 => ?_)
  · refine G.sl [(.iload_n 1, 1, 1, 0, 0, 0), (.iconst 1, 1, 0, 0, 0, nI 1)] [] (pc2 := 11) (ls2 := [some (.int o), some (.int p), some (.int v), some (.int w)]) (st2 := [.int (nI 1), .int p]) (M2 := M) (Ps := []) (by decide +kernel) rfl rfl trivial ?_
    refine G.ic_ne (off := (9)) (tgt := 20) (by decide +kernel) rfl (fun c2 => ?_) (fun c2 => ?_)
    · refine G.sl [(.iload_n 3, 1, 3, 0, 0, 0), (.ineg, 1, 0, 0, 0, 0)] [] (pc2 := 22) (ls2 := [some (.int o), some (.int p), some (.int v), some (.int w)]) (st2 := [.int (-w)]) (M2 := M) (Ps := []) (by decide +kernel) rfl rfl trivial ?_
      exact G.reti (by decide +kernel) rfl rfl (Nat.le_of_ble_eq_true rfl) (Nat.le_of_ble_eq_true rfl) (by simp only [khs, if_neg c1, if_neg c2])
    · refine G.sl [(.iload_n 2, 1, 2, 0, 0, 0), (.iload_n 3, 1, 3, 0, 0, 0), (.isub, 1, 0, 0, 0, 0), (.goto 5, 3, 22, 0, 0, 0)] [] (pc2 := 22) (ls2 := [some (.int o), some (.int p), some (.int v), some (.int w)]) (st2 := [.int (v - w)]) (M2 := M) (Ps := []) (by decide +kernel) rfl rfl trivial ?_
      exact G.reti (by decide +kernel) rfl rfl (Nat.le_of_ble_eq_true rfl) (Nat.le_of_ble_eq_true rfl) (by simp only [khs, if_neg c1, if_pos c2])
  · refine G.sl [(.iconst 0, 1, 0, 0, 0, nI 0), (.goto 16, 3, 22, 0, 0, 0)] [] (pc2 := 22) (ls2 := [some (.int o), some (.int p), some (.int v), some (.int w)]) (st2 := [.int (nI 0)]) (M2 := M) (Ps := []) (by decide +kernel) rfl rfl trivial ?_
    exact G.reti (by decide +kernel) rfl rfl (Nat.le_of_ble_eq_true rfl) (Nat.le_of_ble_eq_true rfl) (by simp only [khs, if_pos c1])
def kbo (s a b : Int32) : Int32 := (if s = (nI 2) then a + b else (if s = (nI 3) then a - b else (if s = (nI 4) then a * b else (if s = (nI 5) then (if b = 0 then nI 0 else a / b) else (if s = (nI 8) then (if b = 0 then nI 0 else a - a / b * b) else (if b ≤ a then (if s = (nI 6) then b else a) else (if s = (nI 6) then a else b)))))))
theorem k_both (z : Zp) (d : Nat) (M : Mem) (s a b : Int32)  : GM z mX12_both (d) [.int s, .int a, .int b] M (fun rs => rs = .inl (some (.int (kbo s a b)), M)) := by
  refine GM.of oX12_both.1 (Nat.le_of_ble_eq_true rfl) ?_
  show G z mX12_both (d) 0 0 0 [some (.int s), some (.int a), some (.int b)] [] M _
  refine G.sl [(.iload_n 0, 1, 0, 0, 0, 0), (.iconst 2, 1, 0, 0, 0, nI 2)] [] (pc2 := 2) (ls2 := [some (.int s), some (.int a), some (.int b)]) (st2 := [.int (nI 2), .int s]) (M2 := M) (Ps := []) (by decide +kernel) rfl rfl trivial ?_
  refine G.ic_ne (off := (7)) (tgt := 9) (by decide +kernel) rfl (fun c1 => ?_) (fun c1 => ?_)
  · refine G.sl [(.iload_n 0, 1, 0, 0, 0, 0), (.iconst 3, 1, 0, 0, 0, nI 3)] [] (pc2 := 11) (ls2 := [some (.int s), some (.int a), some (.int b)]) (st2 := [.int (nI 3), .int s]) (M2 := M) (Ps := []) (by decide +kernel) rfl rfl trivial ?_
    refine G.ic_ne (off := (7)) (tgt := 18) (by decide +kernel) rfl (fun c2 => ?_) (fun c2 => ?_)
    · refine G.sl [(.iload_n 0, 1, 0, 0, 0, 0), (.iconst 4, 1, 0, 0, 0, nI 4)] [] (pc2 := 20) (ls2 := [some (.int s), some (.int a), some (.int b)]) (st2 := [.int (nI 4), .int s]) (M2 := M) (Ps := []) (by decide +kernel) rfl rfl trivial ?_
      refine G.ic_ne (off := (7)) (tgt := 27) (by decide +kernel) rfl (fun c3 => ?_) (fun c3 => ?_)
      · refine G.sl [(.iload_n 0, 1, 0, 0, 0, 0), (.iconst 5, 1, 0, 0, 0, nI 5)] [] (pc2 := 29) (ls2 := [some (.int s), some (.int a), some (.int b)]) (st2 := [.int (nI 5), .int s]) (M2 := M) (Ps := []) (by decide +kernel) rfl rfl trivial ?_
        refine G.ic_eq (off := (9)) (tgt := 38) (by decide +kernel) rfl (fun c4 => ?_) (fun c4 => ?_)
        · refine G.sl [(.iload_n 2, 1, 2, 0, 0, 0)] [] (pc2 := 39) (ls2 := [some (.int s), some (.int a), some (.int b)]) (st2 := [.int b]) (M2 := M) (Ps := []) (by decide +kernel) rfl rfl trivial ?_
          refine G.if_ne (off := (7)) (tgt := 46) (by decide +kernel) rfl (fun c5 => ?_) (fun c5 => ?_)
          · refine G.sl [(.iload_n 0, 1, 0, 0, 0, 0), (.iconst 5, 1, 0, 0, 0, nI 5)] [] (pc2 := 48) (ls2 := [some (.int s), some (.int a), some (.int b)]) (st2 := [.int (nI 5), .int s]) (M2 := M) (Ps := []) (by decide +kernel) rfl rfl trivial ?_
            refine G.ic_ne (off := (9)) (tgt := 57) (by decide +kernel) rfl (fun h9 => absurd c4 h9) (fun _ => ?_)
            refine G.sl [(.iload_n 1, 1, 1, 0, 0, 0), (.iload_n 2, 1, 2, 0, 0, 0), (.idiv, 1, 0, 0, 0, 0), (.goto 6, 3, 60, 0, 0, 0)] [] (pc2 := 60) (ls2 := [some (.int s), some (.int a), some (.int b)]) (st2 := [.int (a / b)]) (M2 := M) (Ps := [¬ b = 0]) (by decide +kernel) rfl rfl ⟨(by assumption), trivial⟩ ?_
            exact G.reti (by decide +kernel) rfl rfl (Nat.le_of_ble_eq_true rfl) (Nat.le_of_ble_eq_true rfl) (by simp only [kbo, if_neg c1, if_neg c2, if_neg c3, if_pos c4, if_neg c5])
          · refine G.sl [(.iconst 0, 1, 0, 0, 0, nI 0), (.goto 17, 3, 60, 0, 0, 0)] [] (pc2 := 60) (ls2 := [some (.int s), some (.int a), some (.int b)]) (st2 := [.int (nI 0)]) (M2 := M) (Ps := []) (by decide +kernel) rfl rfl trivial ?_
            exact G.reti (by decide +kernel) rfl rfl (Nat.le_of_ble_eq_true rfl) (Nat.le_of_ble_eq_true rfl) (by simp only [kbo, if_neg c1, if_neg c2, if_neg c3, if_pos c4, if_pos c5])
        · refine G.sl [(.iload_n 0, 1, 0, 0, 0, 0), (.bipush 8, 2, 0, 0, 0, nI 8)] [] (pc2 := 35) (ls2 := [some (.int s), some (.int a), some (.int b)]) (st2 := [.int (nI 8), .int s]) (M2 := M) (Ps := []) (by decide +kernel) rfl rfl trivial ?_
          refine G.ic_ne (off := (26)) (tgt := 61) (by decide +kernel) rfl (fun c5 => ?_) (fun c5 => ?_)
          · refine G.sl [(.iload_n 1, 1, 1, 0, 0, 0), (.iload_n 2, 1, 2, 0, 0, 0)] [] (pc2 := 63) (ls2 := [some (.int s), some (.int a), some (.int b)]) (st2 := [.int b, .int a]) (M2 := M) (Ps := []) (by decide +kernel) rfl rfl trivial ?_
            refine G.ic_ge (off := (7)) (tgt := 70) (by decide +kernel) rfl (fun c6 => ?_) (fun c6 => ?_)
            · refine G.sl [(.iconst 0, 1, 0, 0, 0, nI 0), (.iload_n 0, 1, 0, 0, 0, 0), (.bipush 6, 2, 0, 0, 0, nI 6)] [] (pc2 := 74) (ls2 := [some (.int s), some (.int a), some (.int b)]) (st2 := [.int (nI 6), .int s, .int (nI 0)]) (M2 := M) (Ps := []) (by decide +kernel) rfl rfl trivial ?_
              refine G.ic_ne (off := (7)) (tgt := 81) (by decide +kernel) rfl (fun c7 => ?_) (fun c7 => ?_)
              · refine G.sl [(.iconst 0, 1, 0, 0, 0, nI 0)] [] (pc2 := 82) (ls2 := [some (.int s), some (.int a), some (.int b)]) (st2 := [.int (nI 0), .int (nI 0)]) (M2 := M) (Ps := []) (by decide +kernel) rfl rfl trivial ?_
                refine G.ic_ne (off := (7)) (tgt := 89) (by decide +kernel) rfl (fun h9 => absurd (by decide) h9) (fun _ => ?_)
                refine G.sl [(.iload_n 1, 1, 1, 0, 0, 0), (.goto 4, 3, 90, 0, 0, 0)] [] (pc2 := 90) (ls2 := [some (.int s), some (.int a), some (.int b)]) (st2 := [.int a]) (M2 := M) (Ps := []) (by decide +kernel) rfl rfl trivial ?_
                exact G.reti (by decide +kernel) rfl rfl (Nat.le_of_ble_eq_true rfl) (Nat.le_of_ble_eq_true rfl) (by simp only [kbo, if_neg c1, if_neg c2, if_neg c3, if_neg c4, if_neg c5, if_pos c6, if_neg c7])
              · refine G.sl [(.iconst 1, 1, 0, 0, 0, nI 1), (.goto 4, 3, 82, 0, 0, 0)] [] (pc2 := 82) (ls2 := [some (.int s), some (.int a), some (.int b)]) (st2 := [.int (nI 1), .int (nI 0)]) (M2 := M) (Ps := []) (by decide +kernel) rfl rfl trivial ?_
                refine G.ic_ne (off := (7)) (tgt := 89) (by decide +kernel) rfl (fun _ => ?_) (fun h9 => absurd h9 (by decide))
                refine G.sl [(.iload_n 2, 1, 2, 0, 0, 0)] [] (pc2 := 90) (ls2 := [some (.int s), some (.int a), some (.int b)]) (st2 := [.int b]) (M2 := M) (Ps := []) (by decide +kernel) rfl rfl trivial ?_
                exact G.reti (by decide +kernel) rfl rfl (Nat.le_of_ble_eq_true rfl) (Nat.le_of_ble_eq_true rfl) (by simp only [kbo, if_neg c1, if_neg c2, if_neg c3, if_neg c4, if_neg c5, if_pos c6, if_pos c7])
            · refine G.sl [(.iconst 1, 1, 0, 0, 0, nI 1), (.goto 4, 3, 71, 0, 0, 0), (.iload_n 0, 1, 0, 0, 0, 0), (.bipush 6, 2, 0, 0, 0, nI 6)] [] (pc2 := 74) (ls2 := [some (.int s), some (.int a), some (.int b)]) (st2 := [.int (nI 6), .int s, .int (nI 1)]) (M2 := M) (Ps := []) (by decide +kernel) rfl rfl trivial ?_
              refine G.ic_ne (off := (7)) (tgt := 81) (by decide +kernel) rfl (fun c7 => ?_) (fun c7 => ?_)
              · refine G.sl [(.iconst 0, 1, 0, 0, 0, nI 0)] [] (pc2 := 82) (ls2 := [some (.int s), some (.int a), some (.int b)]) (st2 := [.int (nI 0), .int (nI 1)]) (M2 := M) (Ps := []) (by decide +kernel) rfl rfl trivial ?_
                refine G.ic_ne (off := (7)) (tgt := 89) (by decide +kernel) rfl (fun _ => ?_) (fun h9 => absurd h9 (by decide))
                refine G.sl [(.iload_n 2, 1, 2, 0, 0, 0)] [] (pc2 := 90) (ls2 := [some (.int s), some (.int a), some (.int b)]) (st2 := [.int b]) (M2 := M) (Ps := []) (by decide +kernel) rfl rfl trivial ?_
                exact G.reti (by decide +kernel) rfl rfl (Nat.le_of_ble_eq_true rfl) (Nat.le_of_ble_eq_true rfl) (by simp only [kbo, if_neg c1, if_neg c2, if_neg c3, if_neg c4, if_neg c5, if_neg c6, if_neg c7])
              · refine G.sl [(.iconst 1, 1, 0, 0, 0, nI 1), (.goto 4, 3, 82, 0, 0, 0)] [] (pc2 := 82) (ls2 := [some (.int s), some (.int a), some (.int b)]) (st2 := [.int (nI 1), .int (nI 1)]) (M2 := M) (Ps := []) (by decide +kernel) rfl rfl trivial ?_
                refine G.ic_ne (off := (7)) (tgt := 89) (by decide +kernel) rfl (fun h9 => absurd (by decide) h9) (fun _ => ?_)
                refine G.sl [(.iload_n 1, 1, 1, 0, 0, 0), (.goto 4, 3, 90, 0, 0, 0)] [] (pc2 := 90) (ls2 := [some (.int s), some (.int a), some (.int b)]) (st2 := [.int a]) (M2 := M) (Ps := []) (by decide +kernel) rfl rfl trivial ?_
                exact G.reti (by decide +kernel) rfl rfl (Nat.le_of_ble_eq_true rfl) (Nat.le_of_ble_eq_true rfl) (by simp only [kbo, if_neg c1, if_neg c2, if_neg c3, if_neg c4, if_neg c5, if_neg c6, if_pos c7])
          · refine G.sl [(.iload_n 2, 1, 2, 0, 0, 0)] [] (pc2 := 39) (ls2 := [some (.int s), some (.int a), some (.int b)]) (st2 := [.int b]) (M2 := M) (Ps := []) (by decide +kernel) rfl rfl trivial ?_
            refine G.if_ne (off := (7)) (tgt := 46) (by decide +kernel) rfl (fun c6 => ?_) (fun c6 => ?_)
            · refine G.sl [(.iload_n 0, 1, 0, 0, 0, 0), (.iconst 5, 1, 0, 0, 0, nI 5)] [] (pc2 := 48) (ls2 := [some (.int s), some (.int a), some (.int b)]) (st2 := [.int (nI 5), .int s]) (M2 := M) (Ps := []) (by decide +kernel) rfl rfl trivial ?_
              refine G.ic_ne (off := (9)) (tgt := 57) (by decide +kernel) rfl (fun _ => ?_) (fun h9 => absurd h9 c4)
              refine G.sl [(.iload_n 1, 1, 1, 0, 0, 0), (.iload_n 2, 1, 2, 0, 0, 0), (.irem, 1, 0, 0, 0, 0)] [] (pc2 := 60) (ls2 := [some (.int s), some (.int a), some (.int b)]) (st2 := [.int (a - a / b * b)]) (M2 := M) (Ps := [¬ b = 0]) (by decide +kernel) rfl rfl ⟨(by assumption), trivial⟩ ?_
              exact G.reti (by decide +kernel) rfl rfl (Nat.le_of_ble_eq_true rfl) (Nat.le_of_ble_eq_true rfl) (by simp only [kbo, if_neg c1, if_neg c2, if_neg c3, if_neg c4, if_pos c5, if_neg c6])
            · refine G.sl [(.iconst 0, 1, 0, 0, 0, nI 0), (.goto 17, 3, 60, 0, 0, 0)] [] (pc2 := 60) (ls2 := [some (.int s), some (.int a), some (.int b)]) (st2 := [.int (nI 0)]) (M2 := M) (Ps := []) (by decide +kernel) rfl rfl trivial ?_
              exact G.reti (by decide +kernel) rfl rfl (Nat.le_of_ble_eq_true rfl) (Nat.le_of_ble_eq_true rfl) (by simp only [kbo, if_neg c1, if_neg c2, if_neg c3, if_neg c4, if_pos c5, if_pos c6])
      · refine G.sl [(.iload_n 1, 1, 1, 0, 0, 0), (.iload_n 2, 1, 2, 0, 0, 0), (.imul, 1, 0, 0, 0, 0)] [] (pc2 := 26) (ls2 := [some (.int s), some (.int a), some (.int b)]) (st2 := [.int (a * b)]) (M2 := M) (Ps := []) (by decide +kernel) rfl rfl trivial ?_
        exact G.reti (by decide +kernel) rfl rfl (Nat.le_of_ble_eq_true rfl) (Nat.le_of_ble_eq_true rfl) (by simp only [kbo, if_neg c1, if_neg c2, if_pos c3])
    · refine G.sl [(.iload_n 1, 1, 1, 0, 0, 0), (.iload_n 2, 1, 2, 0, 0, 0), (.isub, 1, 0, 0, 0, 0)] [] (pc2 := 17) (ls2 := [some (.int s), some (.int a), some (.int b)]) (st2 := [.int (a - b)]) (M2 := M) (Ps := []) (by decide +kernel) rfl rfl trivial ?_
      exact G.reti (by decide +kernel) rfl rfl (Nat.le_of_ble_eq_true rfl) (Nat.le_of_ble_eq_true rfl) (by simp only [kbo, if_neg c1, if_pos c2])
  · refine G.sl [(.iload_n 1, 1, 1, 0, 0, 0), (.iload_n 2, 1, 2, 0, 0, 0), (.iadd, 1, 0, 0, 0, 0)] [] (pc2 := 8) (ls2 := [some (.int s), some (.int a), some (.int b)]) (st2 := [.int (a + b)]) (M2 := M) (Ps := []) (by decide +kernel) rfl rfl trivial ?_
    exact G.reti (by decide +kernel) rfl rfl (Nat.le_of_ble_eq_true rfl) (Nat.le_of_ble_eq_true rfl) (by simp only [kbo, if_pos c1])
def kiy (q m : Int32) : Int32 := (if q < 0 then nI 0 else (if (nI 16) < q then nI 0 else (if m < (nI 1) then nI 0 else (if (nI 96) < m then nI 0 else nI 1))))
theorem k_isYear (z : Zp) (d : Nat) (M : Mem) (q m : Int32)  : GM z mX12_isYear (d) [.int q, .int m] M (fun rs => rs = .inl (some (.int (kiy q m)), M)) := by
  refine GM.of oX12_isYear.1 (Nat.le_of_ble_eq_true rfl) ?_
  show G z mX12_isYear (d) 0 0 0 [some (.int q), some (.int m)] [] M _
  refine G.sl [(.iload_n 0, 1, 0, 0, 0, 0)] [] (pc2 := 1) (ls2 := [some (.int q), some (.int m)]) (st2 := [.int q]) (M2 := M) (Ps := []) (by decide +kernel) rfl rfl trivial ?_
  refine G.if_lt (off := (24)) (tgt := 25) (by decide +kernel) rfl (fun c1 => ?_) (fun c1 => ?_)
  · refine G.sl [(.iconst 0, 1, 0, 0, 0, nI 0)] [] (pc2 := 26) (ls2 := [some (.int q), some (.int m)]) (st2 := [.int (nI 0)]) (M2 := M) (Ps := []) (by decide +kernel) rfl rfl trivial ?_
    exact G.reti (by decide +kernel) rfl rfl (Nat.le_of_ble_eq_true rfl) (Nat.le_of_ble_eq_true rfl) (by simp only [kiy, if_pos c1])
  · refine G.sl [(.iload_n 0, 1, 0, 0, 0, 0), (.bipush 16, 2, 0, 0, 0, nI 16)] [] (pc2 := 7) (ls2 := [some (.int q), some (.int m)]) (st2 := [.int (nI 16), .int q]) (M2 := M) (Ps := []) (by decide +kernel) rfl rfl trivial ?_
    refine G.ic_gt (off := (18)) (tgt := 25) (by decide +kernel) rfl (fun c2 => ?_) (fun c2 => ?_)
    · refine G.sl [(.iconst 0, 1, 0, 0, 0, nI 0)] [] (pc2 := 26) (ls2 := [some (.int q), some (.int m)]) (st2 := [.int (nI 0)]) (M2 := M) (Ps := []) (by decide +kernel) rfl rfl trivial ?_
      exact G.reti (by decide +kernel) rfl rfl (Nat.le_of_ble_eq_true rfl) (Nat.le_of_ble_eq_true rfl) (by simp only [kiy, if_neg c1, if_pos c2])
    · refine G.sl [(.iload_n 1, 1, 1, 0, 0, 0), (.iconst 1, 1, 0, 0, 0, nI 1)] [] (pc2 := 12) (ls2 := [some (.int q), some (.int m)]) (st2 := [.int (nI 1), .int m]) (M2 := M) (Ps := []) (by decide +kernel) rfl rfl trivial ?_
      refine G.ic_lt (off := (13)) (tgt := 25) (by decide +kernel) rfl (fun c3 => ?_) (fun c3 => ?_)
      · refine G.sl [(.iconst 0, 1, 0, 0, 0, nI 0)] [] (pc2 := 26) (ls2 := [some (.int q), some (.int m)]) (st2 := [.int (nI 0)]) (M2 := M) (Ps := []) (by decide +kernel) rfl rfl trivial ?_
        exact G.reti (by decide +kernel) rfl rfl (Nat.le_of_ble_eq_true rfl) (Nat.le_of_ble_eq_true rfl) (by simp only [kiy, if_neg c1, if_neg c2, if_pos c3])
      · refine G.sl [(.iload_n 1, 1, 1, 0, 0, 0), (.bipush 96, 2, 0, 0, 0, nI 96)] [] (pc2 := 18) (ls2 := [some (.int q), some (.int m)]) (st2 := [.int (nI 96), .int m]) (M2 := M) (Ps := []) (by decide +kernel) rfl rfl trivial ?_
        refine G.ic_gt (off := (7)) (tgt := 25) (by decide +kernel) rfl (fun c4 => ?_) (fun c4 => ?_)
        · refine G.sl [(.iconst 0, 1, 0, 0, 0, nI 0)] [] (pc2 := 26) (ls2 := [some (.int q), some (.int m)]) (st2 := [.int (nI 0)]) (M2 := M) (Ps := []) (by decide +kernel) rfl rfl trivial ?_
          exact G.reti (by decide +kernel) rfl rfl (Nat.le_of_ble_eq_true rfl) (Nat.le_of_ble_eq_true rfl) (by simp only [kiy, if_neg c1, if_neg c2, if_neg c3, if_pos c4])
        · refine G.sl [(.iconst 1, 1, 0, 0, 0, nI 1), (.goto 4, 3, 26, 0, 0, 0)] [] (pc2 := 26) (ls2 := [some (.int q), some (.int m)]) (st2 := [.int (nI 1)]) (M2 := M) (Ps := []) (by decide +kernel) rfl rfl trivial ?_
          exact G.reti (by decide +kernel) rfl rfl (Nat.le_of_ble_eq_true rfl) (Nat.le_of_ble_eq_true rfl) (by simp only [kiy, if_neg c1, if_neg c2, if_neg c3, if_neg c4])
def kth (O : Nat → Int32)  : Int32 := O 0
theorem k_thrown (z : Zp) (d : Nat) (M : Mem)   : GM z mX12_thrown (d) [.ref 54] M (fun rs => rs = .inl (some (.int (kth (M.1 54))), M)) := by
  refine GM.of oX12_thrown.1 (Nat.le_of_ble_eq_true rfl) ?_
  show G z mX12_thrown (d) 0 0 0 [some (.ref 54)] [] M _
  refine G.sl [(.aload_n 0, 1, 0, 0, 0, 0), (.getfield 3, 3, 11, 0, 123, 0)] [] (pc2 := 4) (ls2 := [some (.ref 54)]) (st2 := [.int (M.1 54 0)]) (M2 := M) (Ps := []) (by decide +kernel) rfl rfl trivial ?_
  exact G.reti (by decide +kernel) rfl rfl (Nat.le_of_ble_eq_true rfl) (Nat.le_of_ble_eq_true rfl) (by simp only [kth])
def kfi (O : Nat → Int32)  : Int32 := (if (O 5) = ((-1)) then nI 1 else nI 0)
theorem k_fine (z : Zp) (d : Nat) (M : Mem)   : GM z mX12_fine (d) [.ref 54] M (fun rs => rs = .inl (some (.int (kfi (M.1 54))), M)) := by
  refine GM.of oX12_fine.1 (Nat.le_of_ble_eq_true rfl) ?_
  show G z mX12_fine (d) 0 0 0 [some (.ref 54)] [] M _
  refine G.sl [(.aload_n 0, 1, 0, 0, 0, 0), (.getfield 101, 3, 11, 5, 128, 0), (.iconst (-1), 1, 0, 0, 0, (-1))] [] (pc2 := 5) (ls2 := [some (.ref 54)]) (st2 := [.int ((-1)), .int (M.1 54 5)]) (M2 := M) (Ps := []) (by decide +kernel) rfl rfl trivial ?_
  refine G.ic_ne (off := (7)) (tgt := 12) (by decide +kernel) rfl (fun c1 => ?_) (fun c1 => ?_)
  · refine G.sl [(.iconst 0, 1, 0, 0, 0, nI 0)] [] (pc2 := 13) (ls2 := [some (.ref 54)]) (st2 := [.int (nI 0)]) (M2 := M) (Ps := []) (by decide +kernel) rfl rfl trivial ?_
    exact G.reti (by decide +kernel) rfl rfl (Nat.le_of_ble_eq_true rfl) (Nat.le_of_ble_eq_true rfl) (by simp only [kfi, if_neg c1])
  · refine G.sl [(.iconst 1, 1, 0, 0, 0, nI 1), (.goto 4, 3, 13, 0, 0, 0)] [] (pc2 := 13) (ls2 := [some (.ref 54)]) (st2 := [.int (nI 1)]) (M2 := M) (Ps := []) (by decide +kernel) rfl rfl trivial ?_
    exact G.reti (by decide +kernel) rfl rfl (Nat.le_of_ble_eq_true rfl) (Nat.le_of_ble_eq_true rfl) (by simp only [kfi, if_pos c1])
def kcf (R : Nat → Int32) (a t : Nat) : Int32 := (if (R (10 + t)) = ((-1)) then (if (R (0 + t)) = (R (20 + a)) then (if 0 < (R (26 + a)) then nI 0 else nI 1) else nI 0) else nI 0)
theorem k_canFind (z : Zp) (d : Nat) (M : Mem) (a t : Nat) (ha : a < 6) (h10 : t < 10) : GM z mX12_canFind (d) [.ref 54, .int (nI a), .int (nI t)] M (fun rs => rs = .inl (some (.int (kcf (M.1 72) a t)), M)) := by
  refine GM.of oX12_canFind.1 (Nat.le_of_ble_eq_true rfl) ?_
  show G z mX12_canFind (d) 0 0 0 [some (.ref 54), some (.int (nI a)), some (.int (nI t))] [] M _
  refine G.sl [(.aload_n 0, 1, 0, 0, 0, 0), (.getfield 68, 3, 11, 41, 164, 0), (.bipush 10, 2, 0, 0, 0, nI 10), (.iload_n 2, 1, 2, 0, 0, 0), (.iadd, 1, 0, 0, 0, 0), (.iaload, 1, 0, 0, 0, 0), (.iconst (-1), 1, 0, 0, 0, (-1))] [10 + t] (pc2 := 10) (ls2 := [some (.ref 54), some (.int (nI a)), some (.int (nI t))]) (st2 := [.int ((-1)), .int (M.1 72 (10 + t))]) (M2 := M) (Ps := [((nI 10) + (nI t)) = nI (10 + t) ∧ (10 + t) < 51]) (by decide +kernel) rfl rfl ⟨⟨(by simp only [nI_add, pk_mul]), by omega⟩, trivial⟩ ?_
  refine G.ic_ne (off := (39)) (tgt := 49) (by decide +kernel) rfl (fun c1 => ?_) (fun c1 => ?_)
  · refine G.sl [(.iconst 0, 1, 0, 0, 0, nI 0)] [] (pc2 := 50) (ls2 := [some (.ref 54), some (.int (nI a)), some (.int (nI t))]) (st2 := [.int (nI 0)]) (M2 := M) (Ps := []) (by decide +kernel) rfl rfl trivial ?_
    exact G.reti (by decide +kernel) rfl rfl (Nat.le_of_ble_eq_true rfl) (Nat.le_of_ble_eq_true rfl) (by simp only [kcf, if_neg c1])
  · refine G.sl [(.aload_n 0, 1, 0, 0, 0, 0), (.getfield 68, 3, 11, 41, 164, 0), (.iconst 0, 1, 0, 0, 0, nI 0), (.iload_n 2, 1, 2, 0, 0, 0), (.iadd, 1, 0, 0, 0, 0), (.iaload, 1, 0, 0, 0, 0), (.aload_n 0, 1, 0, 0, 0, 0), (.getfield 68, 3, 11, 41, 164, 0), (.bipush 20, 2, 0, 0, 0, nI 20), (.iload_n 1, 1, 1, 0, 0, 0), (.iadd, 1, 0, 0, 0, 0), (.iaload, 1, 0, 0, 0, 0)] [0 + t, 20 + a] (pc2 := 30) (ls2 := [some (.ref 54), some (.int (nI a)), some (.int (nI t))]) (st2 := [.int (M.1 72 (20 + a)), .int (M.1 72 (0 + t))]) (M2 := M) (Ps := [((nI 0) + (nI t)) = nI (0 + t) ∧ (0 + t) < 51, ((nI 20) + (nI a)) = nI (20 + a) ∧ (20 + a) < 51]) (by decide +kernel) rfl rfl ⟨⟨(by simp only [nI_add, pk_mul]), by omega⟩, ⟨(by simp only [nI_add, pk_mul]), by omega⟩, trivial⟩ ?_
    refine G.ic_ne (off := (19)) (tgt := 49) (by decide +kernel) rfl (fun c2 => ?_) (fun c2 => ?_)
    · refine G.sl [(.iconst 0, 1, 0, 0, 0, nI 0)] [] (pc2 := 50) (ls2 := [some (.ref 54), some (.int (nI a)), some (.int (nI t))]) (st2 := [.int (nI 0)]) (M2 := M) (Ps := []) (by decide +kernel) rfl rfl trivial ?_
      exact G.reti (by decide +kernel) rfl rfl (Nat.le_of_ble_eq_true rfl) (Nat.le_of_ble_eq_true rfl) (by simp only [kcf, if_pos c1, if_neg c2])
    · refine G.sl [(.aload_n 0, 1, 0, 0, 0, 0), (.getfield 68, 3, 11, 41, 164, 0), (.bipush 26, 2, 0, 0, 0, nI 26), (.iload_n 1, 1, 1, 0, 0, 0), (.iadd, 1, 0, 0, 0, 0), (.iaload, 1, 0, 0, 0, 0)] [26 + a] (pc2 := 42) (ls2 := [some (.ref 54), some (.int (nI a)), some (.int (nI t))]) (st2 := [.int (M.1 72 (26 + a))]) (M2 := M) (Ps := [((nI 26) + (nI a)) = nI (26 + a) ∧ (26 + a) < 51]) (by decide +kernel) rfl rfl ⟨⟨(by simp only [nI_add, pk_mul]), by omega⟩, trivial⟩ ?_
      refine G.if_gt (off := (7)) (tgt := 49) (by decide +kernel) rfl (fun c3 => ?_) (fun c3 => ?_)
      · refine G.sl [(.iconst 0, 1, 0, 0, 0, nI 0)] [] (pc2 := 50) (ls2 := [some (.ref 54), some (.int (nI a)), some (.int (nI t))]) (st2 := [.int (nI 0)]) (M2 := M) (Ps := []) (by decide +kernel) rfl rfl trivial ?_
        exact G.reti (by decide +kernel) rfl rfl (Nat.le_of_ble_eq_true rfl) (Nat.le_of_ble_eq_true rfl) (by simp only [kcf, if_pos c1, if_pos c2, if_pos c3])
      · refine G.sl [(.iconst 1, 1, 0, 0, 0, nI 1), (.goto 4, 3, 50, 0, 0, 0)] [] (pc2 := 50) (ls2 := [some (.ref 54), some (.int (nI a)), some (.int (nI t))]) (st2 := [.int (nI 1)]) (M2 := M) (Ps := []) (by decide +kernel) rfl rfl trivial ?_
        exact G.reti (by decide +kernel) rfl rfl (Nat.le_of_ble_eq_true rfl) (Nat.le_of_ble_eq_true rfl) (by simp only [kcf, if_pos c1, if_pos c2, if_neg c3])
def kll (R T : Nat → Int32) (a t : Nat) (m : Int32) : Int32 := (if (R (10 + t)) = (nI a) then nI 1 else nI 0)
def kll_r (R T : Nat → Int32) (a t : Nat) (m : Int32) : Nat → Int32 := (if (R (10 + t)) = (nI a) then (if m ≤ ((upd (upd (R) (10 + t) ((-1))) (26 + a) (((upd (R) (10 + t) ((-1))) (26 + a)) - (T (3 * t + 2)))) (26 + a)) then upd (upd (upd (R) (10 + t) ((-1))) (26 + a) (((upd (R) (10 + t) ((-1))) (26 + a)) - (T (3 * t + 2)))) (26 + a) ((upd (upd (R) (10 + t) ((-1))) (26 + a) (((upd (R) (10 + t) ((-1))) (26 + a)) - (T (3 * t + 2)))) (26 + a)) else upd (upd (upd (R) (10 + t) ((-1))) (26 + a) (((upd (R) (10 + t) ((-1))) (26 + a)) - (T (3 * t + 2)))) (26 + a) m) else R)
theorem k_letsLie (z : Zp) (d : Nat) (M : Mem) (a t : Nat) (m : Int32) (ha : a < 6) (h10 : t < 10) : GM z mX12_letsLie (d) [.ref 54, .int (nI a), .int (nI t), .int m] M (fun rs => rs = .inl (some (.int (kll (M.1 72) (M.1 61) a t m)), mrow M 72 (kll_r (M.1 72) (M.1 61) a t m))) := by
  refine GM.of oX12_letsLie.1 (Nat.le_of_ble_eq_true rfl) ?_
  show G z mX12_letsLie (d) 0 0 0 [some (.ref 54), some (.int (nI a)), some (.int (nI t)), some (.int m)] [] M _
  refine G.sl [(.aload_n 0, 1, 0, 0, 0, 0), (.getfield 68, 3, 11, 41, 164, 0), (.bipush 10, 2, 0, 0, 0, nI 10), (.iload_n 2, 1, 2, 0, 0, 0), (.iadd, 1, 0, 0, 0, 0), (.iaload, 1, 0, 0, 0, 0), (.iload_n 1, 1, 1, 0, 0, 0)] [10 + t] (pc2 := 10) (ls2 := [some (.ref 54), some (.int (nI a)), some (.int (nI t)), some (.int m)]) (st2 := [.int (nI a), .int (M.1 72 (10 + t))]) (M2 := M) (Ps := [((nI 10) + (nI t)) = nI (10 + t) ∧ (10 + t) < 51]) (by decide +kernel) rfl rfl ⟨⟨(by simp only [nI_add, pk_mul]), by omega⟩, trivial⟩ ?_
  refine G.ic_eq (off := (5)) (tgt := 15) (by decide +kernel) rfl (fun c1 => ?_) (fun c1 => ?_)
  · refine G.sl [(.aload_n 0, 1, 0, 0, 0, 0), (.getfield 68, 3, 11, 41, 164, 0), (.bipush 10, 2, 0, 0, 0, nI 10), (.iload_n 2, 1, 2, 0, 0, 0), (.iadd, 1, 0, 0, 0, 0), (.iconst (-1), 1, 0, 0, 0, (-1)), (.iastore, 1, 0, 0, 0, 0), (.aload_n 0, 1, 0, 0, 0, 0), (.getfield 68, 3, 11, 41, 164, 0), (.bipush 26, 2, 0, 0, 0, nI 26), (.iload_n 1, 1, 1, 0, 0, 0), (.iadd, 1, 0, 0, 0, 0), (.dup2, 1, 0, 0, 0, 0), (.iaload, 1, 0, 0, 0, 0), (.aload_n 0, 1, 0, 0, 0, 0), (.getfield 35, 3, 11, 14, 137, 0), (.iconst 3, 1, 0, 0, 0, nI 3), (.iload_n 2, 1, 2, 0, 0, 0), (.imul, 1, 0, 0, 0, 0), (.iconst 2, 1, 0, 0, 0, nI 2), (.iadd, 1, 0, 0, 0, 0), (.iaload, 1, 0, 0, 0, 0), (.isub, 1, 0, 0, 0, 0), (.iastore, 1, 0, 0, 0, 0), (.aload_n 0, 1, 0, 0, 0, 0), (.getfield 68, 3, 11, 41, 164, 0), (.bipush 26, 2, 0, 0, 0, nI 26), (.iload_n 1, 1, 1, 0, 0, 0), (.iadd, 1, 0, 0, 0, 0), (.aload_n 0, 1, 0, 0, 0, 0), (.getfield 68, 3, 11, 41, 164, 0), (.bipush 26, 2, 0, 0, 0, nI 26), (.iload_n 1, 1, 1, 0, 0, 0), (.iadd, 1, 0, 0, 0, 0), (.iaload, 1, 0, 0, 0, 0), (.iload_n 3, 1, 3, 0, 0, 0)] [10 + t, 26 + a, 3 * t + 2, 26 + a, 26 + a] (pc2 := 65) (ls2 := [some (.ref 54), some (.int (nI a)), some (.int (nI t)), some (.int m)]) (st2 := [.int m, .int ((upd (upd (M.1 72) (10 + t) ((-1))) (26 + a) (((upd (M.1 72) (10 + t) ((-1))) (26 + a)) - (M.1 61 (3 * t + 2)))) (26 + a)), .int ((nI 26) + (nI a)), .ref 72]) (M2 := mput (mput M 72 (10 + t) ((-1))) 72 (26 + a) (((upd (M.1 72) (10 + t) ((-1))) (26 + a)) - (M.1 61 (3 * t + 2)))) (Ps := [((nI 10) + (nI t)) = nI (10 + t) ∧ (10 + t) < 51, ((nI 26) + (nI a)) = nI (26 + a) ∧ (26 + a) < 51, (((nI 3) * (nI t)) + (nI 2)) = nI (3 * t + 2) ∧ (3 * t + 2) < 30, ((nI 26) + (nI a)) = nI (26 + a) ∧ (26 + a) < 51, ((nI 26) + (nI a)) = nI (26 + a) ∧ (26 + a) < 51]) (by decide +kernel) rfl rfl ⟨⟨(by simp only [nI_add, pk_mul]), by omega⟩, ⟨(by simp only [nI_add, pk_mul]), by omega⟩, ⟨(by simp only [nI_add, pk_mul]), by omega⟩, ⟨(by simp only [nI_add, pk_mul]), by omega⟩, ⟨(by simp only [nI_add, pk_mul]), by omega⟩, trivial⟩ ?_
    refine G.mem (M' := mrow M 72 (upd (upd (M.1 72) (10 + t) ((-1))) (26 + a) (((upd (M.1 72) (10 + t) ((-1))) (26 + a)) - (M.1 61 (3 * t + 2))))) (by simp only [mrow_same, mrow_hit, mrow_miss, mrow_swap, ne_eq, Nat.reduceEqDiff, not_false_eq_true, Nat.reduceLT, reduceCtorEq]) ?_
    refine G.ic_ge (off := (7)) (tgt := 72) (by decide +kernel) rfl (fun c2 => ?_) (fun c2 => ?_)
    · refine G.sl [(.aload_n 0, 1, 0, 0, 0, 0), (.getfield 68, 3, 11, 41, 164, 0), (.bipush 26, 2, 0, 0, 0, nI 26), (.iload_n 1, 1, 1, 0, 0, 0), (.iadd, 1, 0, 0, 0, 0), (.iaload, 1, 0, 0, 0, 0), (.iastore, 1, 0, 0, 0, 0), (.iconst 1, 1, 0, 0, 0, nI 1)] [26 + a, 26 + a] (pc2 := 83) (ls2 := [some (.ref 54), some (.int (nI a)), some (.int (nI t)), some (.int m)]) (st2 := [.int (nI 1)]) (M2 := mput (mrow M 72 (upd (upd (M.1 72) (10 + t) ((-1))) (26 + a) (((upd (M.1 72) (10 + t) ((-1))) (26 + a)) - (M.1 61 (3 * t + 2))))) 72 (26 + a) ((upd (upd (M.1 72) (10 + t) ((-1))) (26 + a) (((upd (M.1 72) (10 + t) ((-1))) (26 + a)) - (M.1 61 (3 * t + 2)))) (26 + a))) (Ps := [((nI 26) + (nI a)) = nI (26 + a) ∧ (26 + a) < 51, ((nI 26) + (nI a)) = nI (26 + a) ∧ (26 + a) < 51]) (by decide +kernel) rfl rfl ⟨⟨(by simp only [nI_add, pk_mul]), by omega⟩, ⟨(by simp only [nI_add, pk_mul]), by omega⟩, trivial⟩ ?_
      refine G.mem (M' := mrow M 72 (upd (upd (upd (M.1 72) (10 + t) ((-1))) (26 + a) (((upd (M.1 72) (10 + t) ((-1))) (26 + a)) - (M.1 61 (3 * t + 2)))) (26 + a) ((upd (upd (M.1 72) (10 + t) ((-1))) (26 + a) (((upd (M.1 72) (10 + t) ((-1))) (26 + a)) - (M.1 61 (3 * t + 2)))) (26 + a)))) (by simp only [mrow_same, mrow_hit, mrow_miss, mrow_swap, ne_eq, Nat.reduceEqDiff, not_false_eq_true, Nat.reduceLT, reduceCtorEq]) ?_
      exact G.reti (by decide +kernel) rfl rfl (Nat.le_of_ble_eq_true rfl) (Nat.le_of_ble_eq_true rfl) (by simp only [kll, kll_r, mrow_self, if_pos c1, if_pos c2])
    · refine G.sl [(.iload_n 3, 1, 3, 0, 0, 0), (.goto 12, 3, 81, 0, 0, 0), (.iastore, 1, 0, 0, 0, 0), (.iconst 1, 1, 0, 0, 0, nI 1)] [26 + a] (pc2 := 83) (ls2 := [some (.ref 54), some (.int (nI a)), some (.int (nI t)), some (.int m)]) (st2 := [.int (nI 1)]) (M2 := mput (mrow M 72 (upd (upd (M.1 72) (10 + t) ((-1))) (26 + a) (((upd (M.1 72) (10 + t) ((-1))) (26 + a)) - (M.1 61 (3 * t + 2))))) 72 (26 + a) m) (Ps := [((nI 26) + (nI a)) = nI (26 + a) ∧ (26 + a) < 51]) (by decide +kernel) rfl rfl ⟨⟨(by simp only [nI_add, pk_mul]), by omega⟩, trivial⟩ ?_
      refine G.mem (M' := mrow M 72 (upd (upd (upd (M.1 72) (10 + t) ((-1))) (26 + a) (((upd (M.1 72) (10 + t) ((-1))) (26 + a)) - (M.1 61 (3 * t + 2)))) (26 + a) m)) (by simp only [mrow_same, mrow_hit, mrow_miss, mrow_swap, ne_eq, Nat.reduceEqDiff, not_false_eq_true, Nat.reduceLT, reduceCtorEq]) ?_
      exact G.reti (by decide +kernel) rfl rfl (Nat.le_of_ble_eq_true rfl) (Nat.le_of_ble_eq_true rfl) (by simp only [kll, kll_r, mrow_self, if_pos c1, if_neg c2])
  · refine G.sl [(.iconst 0, 1, 0, 0, 0, nI 0)] [] (pc2 := 14) (ls2 := [some (.ref 54), some (.int (nI a)), some (.int (nI t)), some (.int m)]) (st2 := [.int (nI 0)]) (M2 := M) (Ps := []) (by decide +kernel) rfl rfl trivial ?_
    exact G.reti (by decide +kernel) rfl rfl (Nat.le_of_ble_eq_true rfl) (Nat.le_of_ble_eq_true rfl) (by simp only [kll, kll_r, mrow_self, if_neg c1])
def klo (R T : Nat → Int32) (a t : Nat) : Int32 := (if (R (26 + a)) ≤ 0 then nI 0 else (if (kll (R) (T) a t (nI 0)) = 0 then nI 0 else nI 1))
def klo_r (R T : Nat → Int32) (a t : Nat) : Nat → Int32 := (if (R (26 + a)) ≤ 0 then R else kll_r (R) (T) a t (nI 0))
theorem k_loses (z : Zp) (d : Nat) (M : Mem) (a t : Nat) (ha : a < 6) (h10 : t < 10) : GM z mX12_loses (d + 1) [.ref 54, .int (nI a), .int (nI t)] M (fun rs => rs = .inl (some (.int (klo (M.1 72) (M.1 61) a t)), mrow M 72 (klo_r (M.1 72) (M.1 61) a t))) := by
  refine GM.of oX12_loses.1 (Nat.le_of_ble_eq_true rfl) ?_
  show G z mX12_loses (d + 1) 0 0 0 [some (.ref 54), some (.int (nI a)), some (.int (nI t))] [] M _
  refine G.sl [(.aload_n 0, 1, 0, 0, 0, 0), (.getfield 68, 3, 11, 41, 164, 0), (.bipush 26, 2, 0, 0, 0, nI 26), (.iload_n 1, 1, 1, 0, 0, 0), (.iadd, 1, 0, 0, 0, 0), (.iaload, 1, 0, 0, 0, 0)] [26 + a] (pc2 := 9) (ls2 := [some (.ref 54), some (.int (nI a)), some (.int (nI t))]) (st2 := [.int (M.1 72 (26 + a))]) (M2 := M) (Ps := [((nI 26) + (nI a)) = nI (26 + a) ∧ (26 + a) < 51]) (by decide +kernel) rfl rfl ⟨⟨(by simp only [nI_add, pk_mul]), by omega⟩, trivial⟩ ?_
  refine G.if_le (off := (17)) (tgt := 26) (by decide +kernel) rfl (fun c1 => ?_) (fun c1 => ?_)
  · refine G.sl [(.iconst 0, 1, 0, 0, 0, nI 0)] [] (pc2 := 27) (ls2 := [some (.ref 54), some (.int (nI a)), some (.int (nI t))]) (st2 := [.int (nI 0)]) (M2 := M) (Ps := []) (by decide +kernel) rfl rfl trivial ?_
    exact G.reti (by decide +kernel) rfl rfl (Nat.le_of_ble_eq_true rfl) (Nat.le_of_ble_eq_true rfl) (by simp only [klo, klo_r, mrow_self, if_pos c1])
  · refine G.sl [(.aload_n 0, 1, 0, 0, 0, 0), (.iload_n 1, 1, 1, 0, 0, 0), (.iload_n 2, 1, 2, 0, 0, 0), (.iconst 0, 1, 0, 0, 0, nI 0)] [] (pc2 := 16) (ls2 := [some (.ref 54), some (.int (nI a)), some (.int (nI t))]) (st2 := [.int (nI 0), .int (nI t), .int (nI a), .ref 54]) (M2 := M) (Ps := []) (by decide +kernel) rfl rfl trivial ?_
    refine G.callV (as := [.int (nI a), .int (nI t), .int (nI 0)]) (rest := []) (a := 54) oX12_letsLie lk_EvenFindersModel_362 (by decide +kernel) rfl rfl ⟨rfl, rfl⟩ (Nat.le_of_ble_eq_true rfl) rfl ⟨Nat.le_of_ble_eq_true rfl, Nat.le_of_ble_eq_true rfl⟩ (k_letsLie z _ _ a t (nI 0) (by omega) (by omega)) (fun v9 N9 h2 => ?_) (fun E9 N9 h2 => by cases h2)
    cases h2
    refine G.mem (M' := mrow M 72 (kll_r (M.1 72) (M.1 61) a t (nI 0))) (by first | rfl | (simp only [mrow_same, mrow_hit, mrow_miss, mrow_swap, ne_eq, Nat.reduceEqDiff, not_false_eq_true, Nat.reduceLT, reduceCtorEq]; done)) ?_
    refine G.if_eq (off := (7)) (tgt := 26) (by decide +kernel) rfl (fun c3 => ?_) (fun c3 => ?_)
    · refine G.sl [(.iconst 0, 1, 0, 0, 0, nI 0)] [] (pc2 := 27) (ls2 := [some (.ref 54), some (.int (nI a)), some (.int (nI t))]) (st2 := [.int (nI 0)]) (M2 := mrow M 72 (kll_r (M.1 72) (M.1 61) a t (nI 0))) (Ps := []) (by decide +kernel) rfl rfl trivial ?_
      exact G.reti (by decide +kernel) rfl rfl (Nat.le_of_ble_eq_true rfl) (Nat.le_of_ble_eq_true rfl) (by simp only [klo, klo_r, mrow_self, if_neg c1, if_pos c3])
    · refine G.sl [(.iconst 1, 1, 0, 0, 0, nI 1), (.goto 4, 3, 27, 0, 0, 0)] [] (pc2 := 27) (ls2 := [some (.ref 54), some (.int (nI a)), some (.int (nI t))]) (st2 := [.int (nI 1)]) (M2 := mrow M 72 (kll_r (M.1 72) (M.1 61) a t (nI 0))) (Ps := []) (by decide +kernel) rfl rfl trivial ?_
      exact G.reti (by decide +kernel) rfl rfl (Nat.le_of_ble_eq_true rfl) (Nat.le_of_ble_eq_true rfl) (by simp only [klo, klo_r, mrow_self, if_neg c1, if_neg c3])
