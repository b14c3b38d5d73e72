def lh_37 (M : Mem) (f : Int32) : Nat → Option Nat
  | 0 => none
  | i + 1 => (if (M.1 38 (41 + i)) = f then (match lh_37 M f i with | none => some i | some b2 => (if (M.1 7 b2) ≤ (M.1 7 i) then some b2 else some i)) else lh_37 M f i)
theorem lh_37_lt (M : Mem) (f : Int32) : ∀ (n b : Nat), lh_37 M f n = some b → b < n
  | 0, b, h => by cases h
  | n + 1, b, h => by
    have ih := lh_37_lt M f n
    simp only [lh_37] at h
    rcases hx : lh_37 M f n with _ | c0
    · simp only [hx] at h
      repeat' split at h
      all_goals first | (cases h; omega) | (cases h; done)
    · have hc := ih c0 hx
      simp only [hx] at h
      repeat' split at h
      all_goals first | (cases h; omega) | (cases h; done)
theorem c_leastHeld_37 (z : Zp) (d : Nat) (M : Mem) (f : Int32) (nt : Nat) (hnt : nt ≤ 10) (ht : M.1 3 2 = nI nt) : GM z mX1_leastHeld (d) [.ref 37, .int f] M (fun rs => rs = .inl (some (.int (en (lh_37 M f nt))), M)) := by
  refine GM.of oX1_leastHeld.1 (Nat.le_of_ble_eq_true rfl) ?_
  show G z mX1_leastHeld (d) 0 0 0 [some (.ref 37), some (.int f), none, none] [] M _
  refine G.sl [(.iconst (-1), 1, 0, 0, 0, (-1)), (.istore_n 2, 1, 2, 0, 0, 0), (.iconst 0, 1, 0, 0, 0, nI 0), (.istore_n 3, 1, 3, 0, 0, 0)] [] (pc2 := 4) (ls2 := [some (.ref 37), some (.int f), some (.int ((-1))), some (.int (nI 0))]) (st2 := []) (M2 := M) (Ps := []) (by decide +kernel) rfl rfl trivial ?_
  refine down (n := nt) (P := fun i => G z mX1_leastHeld (d) 0 0 4 [some (.ref 37), some (.int f), some (.int (en (lh_37 M f i))), some (.int (nI i))] [] M (fun rs => rs = .inl (some (.int (en (lh_37 M f nt))), M))) ?_ ?_ 0 (Nat.zero_le _)
  · refine G.sl [(.iload_n 3, 1, 3, 0, 0, 0), (.aload_n 0, 1, 0, 0, 0, 0), (.getfield 18, 3, 1, 2, 79, 0), (.getfield 86, 3, 6, 2, 28, 0)] [] (pc2 := 12) (ls2 := [some (.ref 37), some (.int f), some (.int (en (lh_37 M f nt))), some (.int (nI nt))]) (st2 := [.int (M.1 3 2), .int (nI nt)]) (M2 := M) (Ps := []) (by decide +kernel) rfl rfl trivial ?_
    refine G.ic_ge (off := (50)) (tgt := 62) (by decide +kernel) rfl (fun _ => ?_) (fun h9 => absurd (by rw [ht]; exact nI_le (Nat.le_refl nt) (by omega)) h9)
    refine G.sl [(.iload_n 2, 1, 2, 0, 0, 0)] [] (pc2 := 63) (ls2 := [some (.ref 37), some (.int f), some (.int (en (lh_37 M f nt))), some (.int (nI nt))]) (st2 := [.int (en (lh_37 M f nt))]) (M2 := M) (Ps := []) (by decide +kernel) rfl rfl trivial ?_
    exact G.reti (by decide +kernel) rfl rfl (Nat.le_of_ble_eq_true rfl) (Nat.le_of_ble_eq_true rfl) rfl
  · intro i hi ih
    refine G.sl [(.iload_n 3, 1, 3, 0, 0, 0), (.aload_n 0, 1, 0, 0, 0, 0), (.getfield 18, 3, 1, 2, 79, 0), (.getfield 86, 3, 6, 2, 28, 0)] [] (pc2 := 12) (ls2 := [some (.ref 37), some (.int f), some (.int (en (lh_37 M f i))), some (.int (nI i))]) (st2 := [.int (M.1 3 2), .int (nI i)]) (M2 := M) (Ps := []) (by decide +kernel) rfl rfl trivial ?_
    refine G.ic_ge (off := (50)) (tgt := 62) (by decide +kernel) rfl (fun h9 => absurd h9 (by rw [ht]; exact nI_ge hi (by omega))) (fun _ => ?_)
    refine G.sl [(.aload_n 0, 1, 0, 0, 0, 0), (.getfield 9, 3, 1, 0, 73, 0), (.bipush 41, 2, 0, 0, 0, nI 41), (.iload_n 3, 1, 3, 0, 0, 0), (.iadd, 1, 0, 0, 0, 0), (.iaload, 1, 0, 0, 0, 0), (.iload_n 1, 1, 1, 0, 0, 0)] [41 + i] (pc2 := 25) (ls2 := [some (.ref 37), some (.int f), some (.int (en (lh_37 M f i))), some (.int (nI i))]) (st2 := [.int f, .int (M.1 38 (41 + i))]) (M2 := M) (Ps := [((nI 41) + (nI i)) = nI (41 + i) ∧ (41 + i) < 51]) (by decide +kernel) rfl rfl ⟨⟨(by simp only [nI_add, pk_mul]), by omega⟩, trivial⟩ ?_
    refine G.ic_ne (off := (31)) (tgt := 56) (by decide +kernel) rfl (fun c1 => ?_) (fun c1 => ?_)
    · refine G.sl [(.iinc 3 1, 3, 3, 0, 0, nI 1), (.goto (-55), 3, 4, 0, 0, 0)] [] (pc2 := 4) (ls2 := [some (.ref 37), some (.int f), some (.int (en (lh_37 M f i))), some (.int ((nI i) + nI 1))]) (st2 := []) (M2 := M) (Ps := []) (by decide +kernel) rfl rfl trivial ?_
      rw [nI_add]
      simp only [lh_37, if_neg c1] at ih
      exact ih
    · refine G.sl [(.iload_n 2, 1, 2, 0, 0, 0), (.iconst (-1), 1, 0, 0, 0, (-1))] [] (pc2 := 30) (ls2 := [some (.ref 37), some (.int f), some (.int (en (lh_37 M f i))), some (.int (nI i))]) (st2 := [.int ((-1)), .int (en (lh_37 M f i))]) (M2 := M) (Ps := []) (by decide +kernel) rfl rfl trivial ?_
      rcases g2 : lh_37 M f i with _ | b2
      · show G z mX1_leastHeld (d) 0 0 30 [some (.ref 37), some (.int f), some (.int ((-1))), some (.int (nI i))] [.int ((-1)), .int ((-1))] M _
        refine G.ic_eq (off := (24)) (tgt := 54) (by decide +kernel) rfl (fun _ => ?_) (fun h9 => absurd rfl h9)
        refine G.sl [(.iload_n 3, 1, 3, 0, 0, 0), (.istore_n 2, 1, 2, 0, 0, 0), (.iinc 3 1, 3, 3, 0, 0, nI 1), (.goto (-55), 3, 4, 0, 0, 0)] [] (pc2 := 4) (ls2 := [some (.ref 37), some (.int f), some (.int (nI i)), some (.int ((nI i) + nI 1))]) (st2 := []) (M2 := M) (Ps := []) (by decide +kernel) rfl rfl trivial ?_
        rw [nI_add]
        simp only [lh_37, if_pos c1, g2] at ih
        exact ih
      · show G z mX1_leastHeld (d) 0 0 30 [some (.ref 37), some (.int f), some (.int (nI b2)), some (.int (nI i))] [.int ((-1)), .int (nI b2)] M _
        have hbb2 := lh_37_lt M f i b2 g2
        refine G.ic_eq (off := (24)) (tgt := 54) (by decide +kernel) rfl (fun h9 => absurd h9 (nI_nm (by omega))) (fun _ => ?_)
        refine G.sl [(.aload_n 0, 1, 0, 0, 0, 0), (.getfield 18, 3, 1, 2, 79, 0), (.getfield 63, 3, 6, 7, 44, 0), (.iload_n 3, 1, 3, 0, 0, 0), (.iaload, 1, 0, 0, 0, 0), (.aload_n 0, 1, 0, 0, 0, 0), (.getfield 18, 3, 1, 2, 79, 0), (.getfield 63, 3, 6, 7, 44, 0), (.iload_n 2, 1, 2, 0, 0, 0), (.iaload, 1, 0, 0, 0, 0)] [i, b2] (pc2 := 51) (ls2 := [some (.ref 37), some (.int f), some (.int (nI b2)), some (.int (nI i))]) (st2 := [.int (M.1 7 b2), .int (M.1 7 i)]) (M2 := M) (Ps := [(nI i) = nI i ∧ i < 10, (nI b2) = nI b2 ∧ b2 < 10]) (by decide +kernel) rfl rfl ⟨⟨rfl, by omega⟩, ⟨rfl, by omega⟩, trivial⟩ ?_
        refine G.ic_ge (off := (5)) (tgt := 56) (by decide +kernel) rfl (fun c3 => ?_) (fun c3 => ?_)
        · refine G.sl [(.iinc 3 1, 3, 3, 0, 0, nI 1), (.goto (-55), 3, 4, 0, 0, 0)] [] (pc2 := 4) (ls2 := [some (.ref 37), some (.int f), some (.int (nI b2)), some (.int ((nI i) + nI 1))]) (st2 := []) (M2 := M) (Ps := []) (by decide +kernel) rfl rfl trivial ?_
          rw [nI_add]
          simp only [lh_37, if_pos c1, g2, if_pos c3] at ih
          exact ih
        · refine G.sl [(.iload_n 3, 1, 3, 0, 0, 0), (.istore_n 2, 1, 2, 0, 0, 0), (.iinc 3 1, 3, 3, 0, 0, nI 1), (.goto (-55), 3, 4, 0, 0, 0)] [] (pc2 := 4) (ls2 := [some (.ref 37), some (.int f), some (.int (nI i)), some (.int ((nI i) + nI 1))]) (st2 := []) (M2 := M) (Ps := []) (by decide +kernel) rfl rfl trivial ?_
          rw [nI_add]
          simp only [lh_37, if_pos c1, g2, if_neg c3] at ih
          exact ih
def gl_37 (M : Mem)  : Nat → Option Nat
  | 0 => none
  | i + 1 => (if (M.1 38 (41 + i)) = ((-1)) then (match gl_37 M i with | none => some i | some b2 => (if (M.1 7 i) ≤ (M.1 7 b2) then some b2 else some i)) else gl_37 M i)
theorem gl_37_lt (M : Mem)  : ∀ (n b : Nat), gl_37 M n = some b → b < n
  | 0, b, h => by cases h
  | n + 1, b, h => by
    have ih := gl_37_lt M  n
    simp only [gl_37] at h
    rcases hx : gl_37 M n with _ | c0
    · simp only [hx] at h
      repeat' split at h
      all_goals first | (cases h; omega) | (cases h; done)
    · have hc := ih c0 hx
      simp only [hx] at h
      repeat' split at h
      all_goals first | (cases h; omega) | (cases h; done)
theorem c_greatestLying_37 (z : Zp) (d : Nat) (M : Mem)  (nt : Nat) (hnt : nt ≤ 10) (ht : M.1 3 2 = nI nt) : GM z mX1_greatestLying (d) [.ref 37] M (fun rs => rs = .inl (some (.int (en (gl_37 M nt))), M)) := by
  refine GM.of oX1_greatestLying.1 (Nat.le_of_ble_eq_true rfl) ?_
  show G z mX1_greatestLying (d) 0 0 0 [some (.ref 37), none, none] [] M _
  refine G.sl [(.iconst (-1), 1, 0, 0, 0, (-1)), (.istore_n 1, 1, 1, 0, 0, 0), (.iconst 0, 1, 0, 0, 0, nI 0), (.istore_n 2, 1, 2, 0, 0, 0)] [] (pc2 := 4) (ls2 := [some (.ref 37), some (.int ((-1))), some (.int (nI 0))]) (st2 := []) (M2 := M) (Ps := []) (by decide +kernel) rfl rfl trivial ?_
  refine down (n := nt) (P := fun i => G z mX1_greatestLying (d) 0 0 4 [some (.ref 37), some (.int (en (gl_37 M i))), some (.int (nI i))] [] M (fun rs => rs = .inl (some (.int (en (gl_37 M nt))), M))) ?_ ?_ 0 (Nat.zero_le _)
  · refine G.sl [(.iload_n 2, 1, 2, 0, 0, 0), (.aload_n 0, 1, 0, 0, 0, 0), (.getfield 18, 3, 1, 2, 79, 0), (.getfield 86, 3, 6, 2, 28, 0)] [] (pc2 := 12) (ls2 := [some (.ref 37), some (.int (en (gl_37 M nt))), some (.int (nI nt))]) (st2 := [.int (M.1 3 2), .int (nI nt)]) (M2 := M) (Ps := []) (by decide +kernel) rfl rfl trivial ?_
    refine G.ic_ge (off := (50)) (tgt := 62) (by decide +kernel) rfl (fun _ => ?_) (fun h9 => absurd (by rw [ht]; exact nI_le (Nat.le_refl nt) (by omega)) h9)
    refine G.sl [(.iload_n 1, 1, 1, 0, 0, 0)] [] (pc2 := 63) (ls2 := [some (.ref 37), some (.int (en (gl_37 M nt))), some (.int (nI nt))]) (st2 := [.int (en (gl_37 M nt))]) (M2 := M) (Ps := []) (by decide +kernel) rfl rfl trivial ?_
    exact G.reti (by decide +kernel) rfl rfl (Nat.le_of_ble_eq_true rfl) (Nat.le_of_ble_eq_true rfl) rfl
  · intro i hi ih
    refine G.sl [(.iload_n 2, 1, 2, 0, 0, 0), (.aload_n 0, 1, 0, 0, 0, 0), (.getfield 18, 3, 1, 2, 79, 0), (.getfield 86, 3, 6, 2, 28, 0)] [] (pc2 := 12) (ls2 := [some (.ref 37), some (.int (en (gl_37 M i))), some (.int (nI i))]) (st2 := [.int (M.1 3 2), .int (nI i)]) (M2 := M) (Ps := []) (by decide +kernel) rfl rfl trivial ?_
    refine G.ic_ge (off := (50)) (tgt := 62) (by decide +kernel) rfl (fun h9 => absurd h9 (by rw [ht]; exact nI_ge hi (by omega))) (fun _ => ?_)
    refine G.sl [(.aload_n 0, 1, 0, 0, 0, 0), (.getfield 9, 3, 1, 0, 73, 0), (.bipush 41, 2, 0, 0, 0, nI 41), (.iload_n 2, 1, 2, 0, 0, 0), (.iadd, 1, 0, 0, 0, 0), (.iaload, 1, 0, 0, 0, 0), (.iconst (-1), 1, 0, 0, 0, (-1))] [41 + i] (pc2 := 25) (ls2 := [some (.ref 37), some (.int (en (gl_37 M i))), some (.int (nI i))]) (st2 := [.int ((-1)), .int (M.1 38 (41 + i))]) (M2 := M) (Ps := [((nI 41) + (nI i)) = nI (41 + i) ∧ (41 + i) < 51]) (by decide +kernel) rfl rfl ⟨⟨(by simp only [nI_add, pk_mul]), by omega⟩, trivial⟩ ?_
    refine G.ic_ne (off := (31)) (tgt := 56) (by decide +kernel) rfl (fun c1 => ?_) (fun c1 => ?_)
    · refine G.sl [(.iinc 2 1, 3, 2, 0, 0, nI 1), (.goto (-55), 3, 4, 0, 0, 0)] [] (pc2 := 4) (ls2 := [some (.ref 37), some (.int (en (gl_37 M i))), some (.int ((nI i) + nI 1))]) (st2 := []) (M2 := M) (Ps := []) (by decide +kernel) rfl rfl trivial ?_
      rw [nI_add]
      simp only [gl_37, if_neg c1] at ih
      exact ih
    · refine G.sl [(.iload_n 1, 1, 1, 0, 0, 0), (.iconst (-1), 1, 0, 0, 0, (-1))] [] (pc2 := 30) (ls2 := [some (.ref 37), some (.int (en (gl_37 M i))), some (.int (nI i))]) (st2 := [.int ((-1)), .int (en (gl_37 M i))]) (M2 := M) (Ps := []) (by decide +kernel) rfl rfl trivial ?_
      rcases g2 : gl_37 M i with _ | b2
      · show G z mX1_greatestLying (d) 0 0 30 [some (.ref 37), some (.int ((-1))), some (.int (nI i))] [.int ((-1)), .int ((-1))] M _
        refine G.ic_eq (off := (24)) (tgt := 54) (by decide +kernel) rfl (fun _ => ?_) (fun h9 => absurd rfl h9)
        refine G.sl [(.iload_n 2, 1, 2, 0, 0, 0), (.istore_n 1, 1, 1, 0, 0, 0), (.iinc 2 1, 3, 2, 0, 0, nI 1), (.goto (-55), 3, 4, 0, 0, 0)] [] (pc2 := 4) (ls2 := [some (.ref 37), some (.int (nI i)), some (.int ((nI i) + nI 1))]) (st2 := []) (M2 := M) (Ps := []) (by decide +kernel) rfl rfl trivial ?_
        rw [nI_add]
        simp only [gl_37, if_pos c1, g2] at ih
        exact ih
      · show G z mX1_greatestLying (d) 0 0 30 [some (.ref 37), some (.int (nI b2)), some (.int (nI i))] [.int ((-1)), .int (nI b2)] M _
        have hbb2 := gl_37_lt M i b2 g2
        refine G.ic_eq (off := (24)) (tgt := 54) (by decide +kernel) rfl (fun h9 => absurd h9 (nI_nm (by omega))) (fun _ => ?_)
        refine G.sl [(.aload_n 0, 1, 0, 0, 0, 0), (.getfield 18, 3, 1, 2, 79, 0), (.getfield 63, 3, 6, 7, 44, 0), (.iload_n 2, 1, 2, 0, 0, 0), (.iaload, 1, 0, 0, 0, 0), (.aload_n 0, 1, 0, 0, 0, 0), (.getfield 18, 3, 1, 2, 79, 0), (.getfield 63, 3, 6, 7, 44, 0), (.iload_n 1, 1, 1, 0, 0, 0), (.iaload, 1, 0, 0, 0, 0)] [i, b2] (pc2 := 51) (ls2 := [some (.ref 37), some (.int (nI b2)), some (.int (nI i))]) (st2 := [.int (M.1 7 b2), .int (M.1 7 i)]) (M2 := M) (Ps := [(nI i) = nI i ∧ i < 10, (nI b2) = nI b2 ∧ b2 < 10]) (by decide +kernel) rfl rfl ⟨⟨rfl, by omega⟩, ⟨rfl, by omega⟩, trivial⟩ ?_
        refine G.ic_le (off := (5)) (tgt := 56) (by decide +kernel) rfl (fun c3 => ?_) (fun c3 => ?_)
        · refine G.sl [(.iinc 2 1, 3, 2, 0, 0, nI 1), (.goto (-55), 3, 4, 0, 0, 0)] [] (pc2 := 4) (ls2 := [some (.ref 37), some (.int (nI b2)), some (.int ((nI i) + nI 1))]) (st2 := []) (M2 := M) (Ps := []) (by decide +kernel) rfl rfl trivial ?_
          rw [nI_add]
          simp only [gl_37, if_pos c1, g2, if_pos c3] at ih
          exact ih
        · refine G.sl [(.iload_n 2, 1, 2, 0, 0, 0), (.istore_n 1, 1, 1, 0, 0, 0), (.iinc 2 1, 3, 2, 0, 0, nI 1), (.goto (-55), 3, 4, 0, 0, 0)] [] (pc2 := 4) (ls2 := [some (.ref 37), some (.int (nI i)), some (.int ((nI i) + nI 1))]) (st2 := []) (M2 := M) (Ps := []) (by decide +kernel) rfl rfl trivial ?_
          rw [nI_add]
          simp only [gl_37, if_pos c1, g2, if_neg c3] at ih
          exact ih
def do_37 (M : Mem)  : Nat → Option Nat
  | 0 => none
  | i + 1 => (match do_37 M i with | none => some i | some b1 => (if (M.1 38 (7 + i)) ≤ (M.1 38 (7 + b1)) then some b1 else some i))
theorem do_37_lt (M : Mem)  : ∀ (n b : Nat), do_37 M n = some b → b < n
  | 0, b, h => by cases h
  | n + 1, b, h => by
    have ih := do_37_lt M  n
    simp only [do_37] at h
    rcases hx : do_37 M n with _ | c0
    · simp only [hx] at h
      repeat' split at h
      all_goals first | (cases h; omega) | (cases h; done)
    · have hc := ih c0 hx
      simp only [hx] at h
      repeat' split at h
      all_goals first | (cases h; omega) | (cases h; done)
theorem c_deepestOwing_37 (z : Zp) (d : Nat) (M : Mem)  (nf : Nat) (hnf : nf ≤ 6) (hf : M.1 3 3 = nI nf) : GM z mX1_deepestOwing (d) [.ref 37] M (fun rs => rs = .inl (some (.int (en (do_37 M nf))), M)) := by
  refine GM.of oX1_deepestOwing.1 (Nat.le_of_ble_eq_true rfl) ?_
  show G z mX1_deepestOwing (d) 0 0 0 [some (.ref 37), none, none] [] M _
  refine G.sl [(.iconst (-1), 1, 0, 0, 0, (-1)), (.istore_n 1, 1, 1, 0, 0, 0), (.iconst 0, 1, 0, 0, 0, nI 0), (.istore_n 2, 1, 2, 0, 0, 0)] [] (pc2 := 4) (ls2 := [some (.ref 37), some (.int ((-1))), some (.int (nI 0))]) (st2 := []) (M2 := M) (Ps := []) (by decide +kernel) rfl rfl trivial ?_
  refine down (n := nf) (P := fun i => G z mX1_deepestOwing (d) 0 0 4 [some (.ref 37), some (.int (en (do_37 M i))), some (.int (nI i))] [] M (fun rs => rs = .inl (some (.int (en (do_37 M nf))), M))) ?_ ?_ 0 (Nat.zero_le _)
  · refine G.sl [(.iload_n 2, 1, 2, 0, 0, 0), (.aload_n 0, 1, 0, 0, 0, 0), (.getfield 18, 3, 1, 2, 79, 0), (.getfield 78, 3, 6, 3, 34, 0)] [] (pc2 := 12) (ls2 := [some (.ref 37), some (.int (en (do_37 M nf))), some (.int (nI nf))]) (st2 := [.int (M.1 3 3), .int (nI nf)]) (M2 := M) (Ps := []) (by decide +kernel) rfl rfl trivial ?_
    refine G.ic_ge (off := (37)) (tgt := 49) (by decide +kernel) rfl (fun _ => ?_) (fun h9 => absurd (by rw [hf]; exact nI_le (Nat.le_refl nf) (by omega)) h9)
    refine G.sl [(.iload_n 1, 1, 1, 0, 0, 0)] [] (pc2 := 50) (ls2 := [some (.ref 37), some (.int (en (do_37 M nf))), some (.int (nI nf))]) (st2 := [.int (en (do_37 M nf))]) (M2 := M) (Ps := []) (by decide +kernel) rfl rfl trivial ?_
    exact G.reti (by decide +kernel) rfl rfl (Nat.le_of_ble_eq_true rfl) (Nat.le_of_ble_eq_true rfl) rfl
  · intro i hi ih
    refine G.sl [(.iload_n 2, 1, 2, 0, 0, 0), (.aload_n 0, 1, 0, 0, 0, 0), (.getfield 18, 3, 1, 2, 79, 0), (.getfield 78, 3, 6, 3, 34, 0)] [] (pc2 := 12) (ls2 := [some (.ref 37), some (.int (en (do_37 M i))), some (.int (nI i))]) (st2 := [.int (M.1 3 3), .int (nI i)]) (M2 := M) (Ps := []) (by decide +kernel) rfl rfl trivial ?_
    refine G.ic_ge (off := (37)) (tgt := 49) (by decide +kernel) rfl (fun h9 => absurd h9 (by rw [hf]; exact nI_ge hi (by omega))) (fun _ => ?_)
    refine G.sl [(.iload_n 1, 1, 1, 0, 0, 0), (.iconst (-1), 1, 0, 0, 0, (-1))] [] (pc2 := 17) (ls2 := [some (.ref 37), some (.int (en (do_37 M i))), some (.int (nI i))]) (st2 := [.int ((-1)), .int (en (do_37 M i))]) (M2 := M) (Ps := []) (by decide +kernel) rfl rfl trivial ?_
    rcases g1 : do_37 M i with _ | b1
    · show G z mX1_deepestOwing (d) 0 0 17 [some (.ref 37), some (.int ((-1))), some (.int (nI i))] [.int ((-1)), .int ((-1))] M _
      refine G.ic_eq (off := (24)) (tgt := 41) (by decide +kernel) rfl (fun _ => ?_) (fun h9 => absurd rfl h9)
      refine G.sl [(.iload_n 2, 1, 2, 0, 0, 0), (.istore_n 1, 1, 1, 0, 0, 0), (.iinc 2 1, 3, 2, 0, 0, nI 1), (.goto (-42), 3, 4, 0, 0, 0)] [] (pc2 := 4) (ls2 := [some (.ref 37), some (.int (nI i)), some (.int ((nI i) + nI 1))]) (st2 := []) (M2 := M) (Ps := []) (by decide +kernel) rfl rfl trivial ?_
      rw [nI_add]
      simp only [do_37, g1] at ih
      exact ih
    · show G z mX1_deepestOwing (d) 0 0 17 [some (.ref 37), some (.int (nI b1)), some (.int (nI i))] [.int ((-1)), .int (nI b1)] M _
      have hbb1 := do_37_lt M i b1 g1
      refine G.ic_eq (off := (24)) (tgt := 41) (by decide +kernel) rfl (fun h9 => absurd h9 (nI_nm (by omega))) (fun _ => ?_)
      refine G.sl [(.aload_n 0, 1, 0, 0, 0, 0), (.getfield 9, 3, 1, 0, 73, 0), (.bipush 7, 2, 0, 0, 0, nI 7), (.iload_n 2, 1, 2, 0, 0, 0), (.iadd, 1, 0, 0, 0, 0), (.iaload, 1, 0, 0, 0, 0), (.aload_n 0, 1, 0, 0, 0, 0), (.getfield 9, 3, 1, 0, 73, 0), (.bipush 7, 2, 0, 0, 0, nI 7), (.iload_n 1, 1, 1, 0, 0, 0), (.iadd, 1, 0, 0, 0, 0), (.iaload, 1, 0, 0, 0, 0)] [7 + i, 7 + b1] (pc2 := 38) (ls2 := [some (.ref 37), some (.int (nI b1)), some (.int (nI i))]) (st2 := [.int (M.1 38 (7 + b1)), .int (M.1 38 (7 + i))]) (M2 := M) (Ps := [((nI 7) + (nI i)) = nI (7 + i) ∧ (7 + i) < 51, ((nI 7) + (nI b1)) = nI (7 + b1) ∧ (7 + b1) < 51]) (by decide +kernel) rfl rfl ⟨⟨(by simp only [nI_add, pk_mul]), by omega⟩, ⟨(by simp only [nI_add, pk_mul]), by omega⟩, trivial⟩ ?_
      refine G.ic_le (off := (5)) (tgt := 43) (by decide +kernel) rfl (fun c2 => ?_) (fun c2 => ?_)
      · refine G.sl [(.iinc 2 1, 3, 2, 0, 0, nI 1), (.goto (-42), 3, 4, 0, 0, 0)] [] (pc2 := 4) (ls2 := [some (.ref 37), some (.int (nI b1)), some (.int ((nI i) + nI 1))]) (st2 := []) (M2 := M) (Ps := []) (by decide +kernel) rfl rfl trivial ?_
        rw [nI_add]
        simp only [do_37, g1, if_pos c2] at ih
        exact ih
      · refine G.sl [(.iload_n 2, 1, 2, 0, 0, 0), (.istore_n 1, 1, 1, 0, 0, 0), (.iinc 2 1, 3, 2, 0, 0, nI 1), (.goto (-42), 3, 4, 0, 0, 0)] [] (pc2 := 4) (ls2 := [some (.ref 37), some (.int (nI i)), some (.int ((nI i) + nI 1))]) (st2 := []) (M2 := M) (Ps := []) (by decide +kernel) rfl rfl trivial ?_
        rw [nI_add]
        simp only [do_37, g1, if_neg c2] at ih
        exact ih
def lh_40 (M : Mem) (f : Int32) : Nat → Option Nat
  | 0 => none
  | i + 1 => (if (M.1 41 (41 + i)) = f then (match lh_40 M f i with | none => some i | some b2 => (if (M.1 7 b2) ≤ (M.1 7 i) then some b2 else some i)) else lh_40 M f i)
theorem lh_40_lt (M : Mem) (f : Int32) : ∀ (n b : Nat), lh_40 M f n = some b → b < n
  | 0, b, h => by cases h
  | n + 1, b, h => by
    have ih := lh_40_lt M f n
    simp only [lh_40] at h
    rcases hx : lh_40 M f n with _ | c0
    · simp only [hx] at h
      repeat' split at h
      all_goals first | (cases h; omega) | (cases h; done)
    · have hc := ih c0 hx
      simp only [hx] at h
      repeat' split at h
      all_goals first | (cases h; omega) | (cases h; done)
theorem c_leastHeld_40 (z : Zp) (d : Nat) (M : Mem) (f : Int32) (nt : Nat) (hnt : nt ≤ 10) (ht : M.1 3 2 = nI nt) : GM z mX1_leastHeld (d) [.ref 40, .int f] M (fun rs => rs = .inl (some (.int (en (lh_40 M f nt))), M)) := by
  refine GM.of oX1_leastHeld.1 (Nat.le_of_ble_eq_true rfl) ?_
  show G z mX1_leastHeld (d) 0 0 0 [some (.ref 40), some (.int f), none, none] [] M _
  refine G.sl [(.iconst (-1), 1, 0, 0, 0, (-1)), (.istore_n 2, 1, 2, 0, 0, 0), (.iconst 0, 1, 0, 0, 0, nI 0), (.istore_n 3, 1, 3, 0, 0, 0)] [] (pc2 := 4) (ls2 := [some (.ref 40), some (.int f), some (.int ((-1))), some (.int (nI 0))]) (st2 := []) (M2 := M) (Ps := []) (by decide +kernel) rfl rfl trivial ?_
  refine down (n := nt) (P := fun i => G z mX1_leastHeld (d) 0 0 4 [some (.ref 40), some (.int f), some (.int (en (lh_40 M f i))), some (.int (nI i))] [] M (fun rs => rs = .inl (some (.int (en (lh_40 M f nt))), M))) ?_ ?_ 0 (Nat.zero_le _)
  · refine G.sl [(.iload_n 3, 1, 3, 0, 0, 0), (.aload_n 0, 1, 0, 0, 0, 0), (.getfield 18, 3, 1, 2, 79, 0), (.getfield 86, 3, 6, 2, 28, 0)] [] (pc2 := 12) (ls2 := [some (.ref 40), some (.int f), some (.int (en (lh_40 M f nt))), some (.int (nI nt))]) (st2 := [.int (M.1 3 2), .int (nI nt)]) (M2 := M) (Ps := []) (by decide +kernel) rfl rfl trivial ?_
    refine G.ic_ge (off := (50)) (tgt := 62) (by decide +kernel) rfl (fun _ => ?_) (fun h9 => absurd (by rw [ht]; exact nI_le (Nat.le_refl nt) (by omega)) h9)
    refine G.sl [(.iload_n 2, 1, 2, 0, 0, 0)] [] (pc2 := 63) (ls2 := [some (.ref 40), some (.int f), some (.int (en (lh_40 M f nt))), some (.int (nI nt))]) (st2 := [.int (en (lh_40 M f nt))]) (M2 := M) (Ps := []) (by decide +kernel) rfl rfl trivial ?_
    exact G.reti (by decide +kernel) rfl rfl (Nat.le_of_ble_eq_true rfl) (Nat.le_of_ble_eq_true rfl) rfl
  · intro i hi ih
    refine G.sl [(.iload_n 3, 1, 3, 0, 0, 0), (.aload_n 0, 1, 0, 0, 0, 0), (.getfield 18, 3, 1, 2, 79, 0), (.getfield 86, 3, 6, 2, 28, 0)] [] (pc2 := 12) (ls2 := [some (.ref 40), some (.int f), some (.int (en (lh_40 M f i))), some (.int (nI i))]) (st2 := [.int (M.1 3 2), .int (nI i)]) (M2 := M) (Ps := []) (by decide +kernel) rfl rfl trivial ?_
    refine G.ic_ge (off := (50)) (tgt := 62) (by decide +kernel) rfl (fun h9 => absurd h9 (by rw [ht]; exact nI_ge hi (by omega))) (fun _ => ?_)
    refine G.sl [(.aload_n 0, 1, 0, 0, 0, 0), (.getfield 9, 3, 1, 0, 73, 0), (.bipush 41, 2, 0, 0, 0, nI 41), (.iload_n 3, 1, 3, 0, 0, 0), (.iadd, 1, 0, 0, 0, 0), (.iaload, 1, 0, 0, 0, 0), (.iload_n 1, 1, 1, 0, 0, 0)] [41 + i] (pc2 := 25) (ls2 := [some (.ref 40), some (.int f), some (.int (en (lh_40 M f i))), some (.int (nI i))]) (st2 := [.int f, .int (M.1 41 (41 + i))]) (M2 := M) (Ps := [((nI 41) + (nI i)) = nI (41 + i) ∧ (41 + i) < 51]) (by decide +kernel) rfl rfl ⟨⟨(by simp only [nI_add, pk_mul]), by omega⟩, trivial⟩ ?_
    refine G.ic_ne (off := (31)) (tgt := 56) (by decide +kernel) rfl (fun c1 => ?_) (fun c1 => ?_)
    · refine G.sl [(.iinc 3 1, 3, 3, 0, 0, nI 1), (.goto (-55), 3, 4, 0, 0, 0)] [] (pc2 := 4) (ls2 := [some (.ref 40), some (.int f), some (.int (en (lh_40 M f i))), some (.int ((nI i) + nI 1))]) (st2 := []) (M2 := M) (Ps := []) (by decide +kernel) rfl rfl trivial ?_
      rw [nI_add]
      simp only [lh_40, if_neg c1] at ih
      exact ih
    · refine G.sl [(.iload_n 2, 1, 2, 0, 0, 0), (.iconst (-1), 1, 0, 0, 0, (-1))] [] (pc2 := 30) (ls2 := [some (.ref 40), some (.int f), some (.int (en (lh_40 M f i))), some (.int (nI i))]) (st2 := [.int ((-1)), .int (en (lh_40 M f i))]) (M2 := M) (Ps := []) (by decide +kernel) rfl rfl trivial ?_
      rcases g2 : lh_40 M f i with _ | b2
      · show G z mX1_leastHeld (d) 0 0 30 [some (.ref 40), some (.int f), some (.int ((-1))), some (.int (nI i))] [.int ((-1)), .int ((-1))] M _
        refine G.ic_eq (off := (24)) (tgt := 54) (by decide +kernel) rfl (fun _ => ?_) (fun h9 => absurd rfl h9)
        refine G.sl [(.iload_n 3, 1, 3, 0, 0, 0), (.istore_n 2, 1, 2, 0, 0, 0), (.iinc 3 1, 3, 3, 0, 0, nI 1), (.goto (-55), 3, 4, 0, 0, 0)] [] (pc2 := 4) (ls2 := [some (.ref 40), some (.int f), some (.int (nI i)), some (.int ((nI i) + nI 1))]) (st2 := []) (M2 := M) (Ps := []) (by decide +kernel) rfl rfl trivial ?_
        rw [nI_add]
        simp only [lh_40, if_pos c1, g2] at ih
        exact ih
      · show G z mX1_leastHeld (d) 0 0 30 [some (.ref 40), some (.int f), some (.int (nI b2)), some (.int (nI i))] [.int ((-1)), .int (nI b2)] M _
        have hbb2 := lh_40_lt M f i b2 g2
        refine G.ic_eq (off := (24)) (tgt := 54) (by decide +kernel) rfl (fun h9 => absurd h9 (nI_nm (by omega))) (fun _ => ?_)
        refine G.sl [(.aload_n 0, 1, 0, 0, 0, 0), (.getfield 18, 3, 1, 2, 79, 0), (.getfield 63, 3, 6, 7, 44, 0), (.iload_n 3, 1, 3, 0, 0, 0), (.iaload, 1, 0, 0, 0, 0), (.aload_n 0, 1, 0, 0, 0, 0), (.getfield 18, 3, 1, 2, 79, 0), (.getfield 63, 3, 6, 7, 44, 0), (.iload_n 2, 1, 2, 0, 0, 0), (.iaload, 1, 0, 0, 0, 0)] [i, b2] (pc2 := 51) (ls2 := [some (.ref 40), some (.int f), some (.int (nI b2)), some (.int (nI i))]) (st2 := [.int (M.1 7 b2), .int (M.1 7 i)]) (M2 := M) (Ps := [(nI i) = nI i ∧ i < 10, (nI b2) = nI b2 ∧ b2 < 10]) (by decide +kernel) rfl rfl ⟨⟨rfl, by omega⟩, ⟨rfl, by omega⟩, trivial⟩ ?_
        refine G.ic_ge (off := (5)) (tgt := 56) (by decide +kernel) rfl (fun c3 => ?_) (fun c3 => ?_)
        · refine G.sl [(.iinc 3 1, 3, 3, 0, 0, nI 1), (.goto (-55), 3, 4, 0, 0, 0)] [] (pc2 := 4) (ls2 := [some (.ref 40), some (.int f), some (.int (nI b2)), some (.int ((nI i) + nI 1))]) (st2 := []) (M2 := M) (Ps := []) (by decide +kernel) rfl rfl trivial ?_
          rw [nI_add]
          simp only [lh_40, if_pos c1, g2, if_pos c3] at ih
          exact ih
        · refine G.sl [(.iload_n 3, 1, 3, 0, 0, 0), (.istore_n 2, 1, 2, 0, 0, 0), (.iinc 3 1, 3, 3, 0, 0, nI 1), (.goto (-55), 3, 4, 0, 0, 0)] [] (pc2 := 4) (ls2 := [some (.ref 40), some (.int f), some (.int (nI i)), some (.int ((nI i) + nI 1))]) (st2 := []) (M2 := M) (Ps := []) (by decide +kernel) rfl rfl trivial ?_
          rw [nI_add]
          simp only [lh_40, if_pos c1, g2, if_neg c3] at ih
          exact ih
def gl_40 (M : Mem)  : Nat → Option Nat
  | 0 => none
  | i + 1 => (if (M.1 41 (41 + i)) = ((-1)) then (match gl_40 M i with | none => some i | some b2 => (if (M.1 7 i) ≤ (M.1 7 b2) then some b2 else some i)) else gl_40 M i)
theorem gl_40_lt (M : Mem)  : ∀ (n b : Nat), gl_40 M n = some b → b < n
  | 0, b, h => by cases h
  | n + 1, b, h => by
    have ih := gl_40_lt M  n
    simp only [gl_40] at h
    rcases hx : gl_40 M n with _ | c0
    · simp only [hx] at h
      repeat' split at h
      all_goals first | (cases h; omega) | (cases h; done)
    · have hc := ih c0 hx
      simp only [hx] at h
      repeat' split at h
      all_goals first | (cases h; omega) | (cases h; done)
theorem c_greatestLying_40 (z : Zp) (d : Nat) (M : Mem)  (nt : Nat) (hnt : nt ≤ 10) (ht : M.1 3 2 = nI nt) : GM z mX1_greatestLying (d) [.ref 40] M (fun rs => rs = .inl (some (.int (en (gl_40 M nt))), M)) := by
  refine GM.of oX1_greatestLying.1 (Nat.le_of_ble_eq_true rfl) ?_
  show G z mX1_greatestLying (d) 0 0 0 [some (.ref 40), none, none] [] M _
  refine G.sl [(.iconst (-1), 1, 0, 0, 0, (-1)), (.istore_n 1, 1, 1, 0, 0, 0), (.iconst 0, 1, 0, 0, 0, nI 0), (.istore_n 2, 1, 2, 0, 0, 0)] [] (pc2 := 4) (ls2 := [some (.ref 40), some (.int ((-1))), some (.int (nI 0))]) (st2 := []) (M2 := M) (Ps := []) (by decide +kernel) rfl rfl trivial ?_
  refine down (n := nt) (P := fun i => G z mX1_greatestLying (d) 0 0 4 [some (.ref 40), some (.int (en (gl_40 M i))), some (.int (nI i))] [] M (fun rs => rs = .inl (some (.int (en (gl_40 M nt))), M))) ?_ ?_ 0 (Nat.zero_le _)
  · refine G.sl [(.iload_n 2, 1, 2, 0, 0, 0), (.aload_n 0, 1, 0, 0, 0, 0), (.getfield 18, 3, 1, 2, 79, 0), (.getfield 86, 3, 6, 2, 28, 0)] [] (pc2 := 12) (ls2 := [some (.ref 40), some (.int (en (gl_40 M nt))), some (.int (nI nt))]) (st2 := [.int (M.1 3 2), .int (nI nt)]) (M2 := M) (Ps := []) (by decide +kernel) rfl rfl trivial ?_
    refine G.ic_ge (off := (50)) (tgt := 62) (by decide +kernel) rfl (fun _ => ?_) (fun h9 => absurd (by rw [ht]; exact nI_le (Nat.le_refl nt) (by omega)) h9)
    refine G.sl [(.iload_n 1, 1, 1, 0, 0, 0)] [] (pc2 := 63) (ls2 := [some (.ref 40), some (.int (en (gl_40 M nt))), some (.int (nI nt))]) (st2 := [.int (en (gl_40 M nt))]) (M2 := M) (Ps := []) (by decide +kernel) rfl rfl trivial ?_
    exact G.reti (by decide +kernel) rfl rfl (Nat.le_of_ble_eq_true rfl) (Nat.le_of_ble_eq_true rfl) rfl
  · intro i hi ih
    refine G.sl [(.iload_n 2, 1, 2, 0, 0, 0), (.aload_n 0, 1, 0, 0, 0, 0), (.getfield 18, 3, 1, 2, 79, 0), (.getfield 86, 3, 6, 2, 28, 0)] [] (pc2 := 12) (ls2 := [some (.ref 40), some (.int (en (gl_40 M i))), some (.int (nI i))]) (st2 := [.int (M.1 3 2), .int (nI i)]) (M2 := M) (Ps := []) (by decide +kernel) rfl rfl trivial ?_
    refine G.ic_ge (off := (50)) (tgt := 62) (by decide +kernel) rfl (fun h9 => absurd h9 (by rw [ht]; exact nI_ge hi (by omega))) (fun _ => ?_)
    refine G.sl [(.aload_n 0, 1, 0, 0, 0, 0), (.getfield 9, 3, 1, 0, 73, 0), (.bipush 41, 2, 0, 0, 0, nI 41), (.iload_n 2, 1, 2, 0, 0, 0), (.iadd, 1, 0, 0, 0, 0), (.iaload, 1, 0, 0, 0, 0), (.iconst (-1), 1, 0, 0, 0, (-1))] [41 + i] (pc2 := 25) (ls2 := [some (.ref 40), some (.int (en (gl_40 M i))), some (.int (nI i))]) (st2 := [.int ((-1)), .int (M.1 41 (41 + i))]) (M2 := M) (Ps := [((nI 41) + (nI i)) = nI (41 + i) ∧ (41 + i) < 51]) (by decide +kernel) rfl rfl ⟨⟨(by simp only [nI_add, pk_mul]), by omega⟩, trivial⟩ ?_
    refine G.ic_ne (off := (31)) (tgt := 56) (by decide +kernel) rfl (fun c1 => ?_) (fun c1 => ?_)
    · refine G.sl [(.iinc 2 1, 3, 2, 0, 0, nI 1), (.goto (-55), 3, 4, 0, 0, 0)] [] (pc2 := 4) (ls2 := [some (.ref 40), some (.int (en (gl_40 M i))), some (.int ((nI i) + nI 1))]) (st2 := []) (M2 := M) (Ps := []) (by decide +kernel) rfl rfl trivial ?_
      rw [nI_add]
      simp only [gl_40, if_neg c1] at ih
      exact ih
    · refine G.sl [(.iload_n 1, 1, 1, 0, 0, 0), (.iconst (-1), 1, 0, 0, 0, (-1))] [] (pc2 := 30) (ls2 := [some (.ref 40), some (.int (en (gl_40 M i))), some (.int (nI i))]) (st2 := [.int ((-1)), .int (en (gl_40 M i))]) (M2 := M) (Ps := []) (by decide +kernel) rfl rfl trivial ?_
      rcases g2 : gl_40 M i with _ | b2
      · show G z mX1_greatestLying (d) 0 0 30 [some (.ref 40), some (.int ((-1))), some (.int (nI i))] [.int ((-1)), .int ((-1))] M _
        refine G.ic_eq (off := (24)) (tgt := 54) (by decide +kernel) rfl (fun _ => ?_) (fun h9 => absurd rfl h9)
        refine G.sl [(.iload_n 2, 1, 2, 0, 0, 0), (.istore_n 1, 1, 1, 0, 0, 0), (.iinc 2 1, 3, 2, 0, 0, nI 1), (.goto (-55), 3, 4, 0, 0, 0)] [] (pc2 := 4) (ls2 := [some (.ref 40), some (.int (nI i)), some (.int ((nI i) + nI 1))]) (st2 := []) (M2 := M) (Ps := []) (by decide +kernel) rfl rfl trivial ?_
        rw [nI_add]
        simp only [gl_40, if_pos c1, g2] at ih
        exact ih
      · show G z mX1_greatestLying (d) 0 0 30 [some (.ref 40), some (.int (nI b2)), some (.int (nI i))] [.int ((-1)), .int (nI b2)] M _
        have hbb2 := gl_40_lt M i b2 g2
        refine G.ic_eq (off := (24)) (tgt := 54) (by decide +kernel) rfl (fun h9 => absurd h9 (nI_nm (by omega))) (fun _ => ?_)
        refine G.sl [(.aload_n 0, 1, 0, 0, 0, 0), (.getfield 18, 3, 1, 2, 79, 0), (.getfield 63, 3, 6, 7, 44, 0), (.iload_n 2, 1, 2, 0, 0, 0), (.iaload, 1, 0, 0, 0, 0), (.aload_n 0, 1, 0, 0, 0, 0), (.getfield 18, 3, 1, 2, 79, 0), (.getfield 63, 3, 6, 7, 44, 0), (.iload_n 1, 1, 1, 0, 0, 0), (.iaload, 1, 0, 0, 0, 0)] [i, b2] (pc2 := 51) (ls2 := [some (.ref 40), some (.int (nI b2)), some (.int (nI i))]) (st2 := [.int (M.1 7 b2), .int (M.1 7 i)]) (M2 := M) (Ps := [(nI i) = nI i ∧ i < 10, (nI b2) = nI b2 ∧ b2 < 10]) (by decide +kernel) rfl rfl ⟨⟨rfl, by omega⟩, ⟨rfl, by omega⟩, trivial⟩ ?_
        refine G.ic_le (off := (5)) (tgt := 56) (by decide +kernel) rfl (fun c3 => ?_) (fun c3 => ?_)
        · refine G.sl [(.iinc 2 1, 3, 2, 0, 0, nI 1), (.goto (-55), 3, 4, 0, 0, 0)] [] (pc2 := 4) (ls2 := [some (.ref 40), some (.int (nI b2)), some (.int ((nI i) + nI 1))]) (st2 := []) (M2 := M) (Ps := []) (by decide +kernel) rfl rfl trivial ?_
          rw [nI_add]
          simp only [gl_40, if_pos c1, g2, if_pos c3] at ih
          exact ih
        · refine G.sl [(.iload_n 2, 1, 2, 0, 0, 0), (.istore_n 1, 1, 1, 0, 0, 0), (.iinc 2 1, 3, 2, 0, 0, nI 1), (.goto (-55), 3, 4, 0, 0, 0)] [] (pc2 := 4) (ls2 := [some (.ref 40), some (.int (nI i)), some (.int ((nI i) + nI 1))]) (st2 := []) (M2 := M) (Ps := []) (by decide +kernel) rfl rfl trivial ?_
          rw [nI_add]
          simp only [gl_40, if_pos c1, g2, if_neg c3] at ih
          exact ih
def do_40 (M : Mem)  : Nat → Option Nat
  | 0 => none
  | i + 1 => (match do_40 M i with | none => some i | some b1 => (if (M.1 41 (7 + i)) ≤ (M.1 41 (7 + b1)) then some b1 else some i))
theorem do_40_lt (M : Mem)  : ∀ (n b : Nat), do_40 M n = some b → b < n
  | 0, b, h => by cases h
  | n + 1, b, h => by
    have ih := do_40_lt M  n
    simp only [do_40] at h
    rcases hx : do_40 M n with _ | c0
    · simp only [hx] at h
      repeat' split at h
      all_goals first | (cases h; omega) | (cases h; done)
    · have hc := ih c0 hx
      simp only [hx] at h
      repeat' split at h
      all_goals first | (cases h; omega) | (cases h; done)
theorem c_deepestOwing_40 (z : Zp) (d : Nat) (M : Mem)  (nf : Nat) (hnf : nf ≤ 6) (hf : M.1 3 3 = nI nf) : GM z mX1_deepestOwing (d) [.ref 40] M (fun rs => rs = .inl (some (.int (en (do_40 M nf))), M)) := by
  refine GM.of oX1_deepestOwing.1 (Nat.le_of_ble_eq_true rfl) ?_
  show G z mX1_deepestOwing (d) 0 0 0 [some (.ref 40), none, none] [] M _
  refine G.sl [(.iconst (-1), 1, 0, 0, 0, (-1)), (.istore_n 1, 1, 1, 0, 0, 0), (.iconst 0, 1, 0, 0, 0, nI 0), (.istore_n 2, 1, 2, 0, 0, 0)] [] (pc2 := 4) (ls2 := [some (.ref 40), some (.int ((-1))), some (.int (nI 0))]) (st2 := []) (M2 := M) (Ps := []) (by decide +kernel) rfl rfl trivial ?_
  refine down (n := nf) (P := fun i => G z mX1_deepestOwing (d) 0 0 4 [some (.ref 40), some (.int (en (do_40 M i))), some (.int (nI i))] [] M (fun rs => rs = .inl (some (.int (en (do_40 M nf))), M))) ?_ ?_ 0 (Nat.zero_le _)
  · refine G.sl [(.iload_n 2, 1, 2, 0, 0, 0), (.aload_n 0, 1, 0, 0, 0, 0), (.getfield 18, 3, 1, 2, 79, 0), (.getfield 78, 3, 6, 3, 34, 0)] [] (pc2 := 12) (ls2 := [some (.ref 40), some (.int (en (do_40 M nf))), some (.int (nI nf))]) (st2 := [.int (M.1 3 3), .int (nI nf)]) (M2 := M) (Ps := []) (by decide +kernel) rfl rfl trivial ?_
    refine G.ic_ge (off := (37)) (tgt := 49) (by decide +kernel) rfl (fun _ => ?_) (fun h9 => absurd (by rw [hf]; exact nI_le (Nat.le_refl nf) (by omega)) h9)
    refine G.sl [(.iload_n 1, 1, 1, 0, 0, 0)] [] (pc2 := 50) (ls2 := [some (.ref 40), some (.int (en (do_40 M nf))), some (.int (nI nf))]) (st2 := [.int (en (do_40 M nf))]) (M2 := M) (Ps := []) (by decide +kernel) rfl rfl trivial ?_
    exact G.reti (by decide +kernel) rfl rfl (Nat.le_of_ble_eq_true rfl) (Nat.le_of_ble_eq_true rfl) rfl
  · intro i hi ih
    refine G.sl [(.iload_n 2, 1, 2, 0, 0, 0), (.aload_n 0, 1, 0, 0, 0, 0), (.getfield 18, 3, 1, 2, 79, 0), (.getfield 78, 3, 6, 3, 34, 0)] [] (pc2 := 12) (ls2 := [some (.ref 40), some (.int (en (do_40 M i))), some (.int (nI i))]) (st2 := [.int (M.1 3 3), .int (nI i)]) (M2 := M) (Ps := []) (by decide +kernel) rfl rfl trivial ?_
    refine G.ic_ge (off := (37)) (tgt := 49) (by decide +kernel) rfl (fun h9 => absurd h9 (by rw [hf]; exact nI_ge hi (by omega))) (fun _ => ?_)
    refine G.sl [(.iload_n 1, 1, 1, 0, 0, 0), (.iconst (-1), 1, 0, 0, 0, (-1))] [] (pc2 := 17) (ls2 := [some (.ref 40), some (.int (en (do_40 M i))), some (.int (nI i))]) (st2 := [.int ((-1)), .int (en (do_40 M i))]) (M2 := M) (Ps := []) (by decide +kernel) rfl rfl trivial ?_
    rcases g1 : do_40 M i with _ | b1
    · show G z mX1_deepestOwing (d) 0 0 17 [some (.ref 40), some (.int ((-1))), some (.int (nI i))] [.int ((-1)), .int ((-1))] M _
      refine G.ic_eq (off := (24)) (tgt := 41) (by decide +kernel) rfl (fun _ => ?_) (fun h9 => absurd rfl h9)
      refine G.sl [(.iload_n 2, 1, 2, 0, 0, 0), (.istore_n 1, 1, 1, 0, 0, 0), (.iinc 2 1, 3, 2, 0, 0, nI 1), (.goto (-42), 3, 4, 0, 0, 0)] [] (pc2 := 4) (ls2 := [some (.ref 40), some (.int (nI i)), some (.int ((nI i) + nI 1))]) (st2 := []) (M2 := M) (Ps := []) (by decide +kernel) rfl rfl trivial ?_
      rw [nI_add]
      simp only [do_40, g1] at ih
      exact ih
    · show G z mX1_deepestOwing (d) 0 0 17 [some (.ref 40), some (.int (nI b1)), some (.int (nI i))] [.int ((-1)), .int (nI b1)] M _
      have hbb1 := do_40_lt M i b1 g1
      refine G.ic_eq (off := (24)) (tgt := 41) (by decide +kernel) rfl (fun h9 => absurd h9 (nI_nm (by omega))) (fun _ => ?_)
      refine G.sl [(.aload_n 0, 1, 0, 0, 0, 0), (.getfield 9, 3, 1, 0, 73, 0), (.bipush 7, 2, 0, 0, 0, nI 7), (.iload_n 2, 1, 2, 0, 0, 0), (.iadd, 1, 0, 0, 0, 0), (.iaload, 1, 0, 0, 0, 0), (.aload_n 0, 1, 0, 0, 0, 0), (.getfield 9, 3, 1, 0, 73, 0), (.bipush 7, 2, 0, 0, 0, nI 7), (.iload_n 1, 1, 1, 0, 0, 0), (.iadd, 1, 0, 0, 0, 0), (.iaload, 1, 0, 0, 0, 0)] [7 + i, 7 + b1] (pc2 := 38) (ls2 := [some (.ref 40), some (.int (nI b1)), some (.int (nI i))]) (st2 := [.int (M.1 41 (7 + b1)), .int (M.1 41 (7 + i))]) (M2 := M) (Ps := [((nI 7) + (nI i)) = nI (7 + i) ∧ (7 + i) < 51, ((nI 7) + (nI b1)) = nI (7 + b1) ∧ (7 + b1) < 51]) (by decide +kernel) rfl rfl ⟨⟨(by simp only [nI_add, pk_mul]), by omega⟩, ⟨(by simp only [nI_add, pk_mul]), by omega⟩, trivial⟩ ?_
      refine G.ic_le (off := (5)) (tgt := 43) (by decide +kernel) rfl (fun c2 => ?_) (fun c2 => ?_)
      · refine G.sl [(.iinc 2 1, 3, 2, 0, 0, nI 1), (.goto (-42), 3, 4, 0, 0, 0)] [] (pc2 := 4) (ls2 := [some (.ref 40), some (.int (nI b1)), some (.int ((nI i) + nI 1))]) (st2 := []) (M2 := M) (Ps := []) (by decide +kernel) rfl rfl trivial ?_
        rw [nI_add]
        simp only [do_40, g1, if_pos c2] at ih
        exact ih
      · refine G.sl [(.iload_n 2, 1, 2, 0, 0, 0), (.istore_n 1, 1, 1, 0, 0, 0), (.iinc 2 1, 3, 2, 0, 0, nI 1), (.goto (-42), 3, 4, 0, 0, 0)] [] (pc2 := 4) (ls2 := [some (.ref 40), some (.int (nI i)), some (.int ((nI i) + nI 1))]) (st2 := []) (M2 := M) (Ps := []) (by decide +kernel) rfl rfl trivial ?_
        rw [nI_add]
        simp only [do_40, g1, if_neg c2] at ih
        exact ih
