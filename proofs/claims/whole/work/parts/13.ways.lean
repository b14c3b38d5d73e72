def nea (X : Nat → Int32) (s : Nat) (ly : Nat → Option Nat) : Nat → Int32 × Option Nat
  | 0 => (nI 1000000, none)
  | i + 1 => ((if (wto (X) s (ly i)) = ((-1)) then (nea X s ly i).1 else (if ((nea X s ly i).1) ≤ (wto (X) s (ly i)) then (nea X s ly i).1 else wto (X) s (ly i))), (if (wto (X) s (ly i)) = ((-1)) then (nea X s ly i).2 else (if ((nea X s ly i).1) ≤ (wto (X) s (ly i)) then (nea X s ly i).2 else some i)))
theorem c_nearestThing (z : Zp) (d : Nat) (M : Mem) (nt : Nat) (hnt : nt ≤ 10) (ht : M.1 3 2 = nI nt) (a : Nat) (ha : a < 6) (sp : Nat → Nat) (hsp : ∀ a, a < 6 → M.1 38 (1 + a) = nI (sp a) ∧ sp a < 8) (ly : Nat → Option Nat) (hly : ∀ t, t < nt → M.1 38 (31 + t) = en (ly t) ∧ ∀ p, ly t = some p → p < 8) : GM z mX8_nearestThing (d + 2) [.ref 47, .int (nI a)] M (fun rs => rs = .inl (some (.int (en ((nea (M.1 11) (sp a) ly nt).2))), M)) := by
  refine GM.of oX8_nearestThing.1 (Nat.le_of_ble_eq_true rfl) ?_
  show G z mX8_nearestThing (d + 2) 0 0 0 [some (.ref 47), some (.int (nI a)), none, none, none, none] [] M _
  refine G.sl [(.iconst (-1), 1, 0, 0, 0, (-1)), (.istore_n 2, 1, 2, 0, 0, 0), (.ldc 34, 2, 0, 0, 3, nI 1000000), (.istore_n 3, 1, 3, 0, 0, 0), (.iconst 0, 1, 0, 0, 0, nI 0), (.istore 4, 2, 4, 0, 0, 0)] [] (pc2 := 8) (ls2 := [some (.ref 47), some (.int (nI a)), some (.int ((-1))), some (.int (nI 1000000)), some (.int (nI 0)), none]) (st2 := []) (M2 := M) (Ps := []) (by decide +kernel) rfl rfl trivial ?_
  refine down (n := nt) (P := fun i => G z mX8_nearestThing (d + 2) 0 0 8 [some (.ref 47), some (.int (nI a)), some (.int (en ((nea (M.1 11) (sp a) ly i).2))), some (.int ((nea (M.1 11) (sp a) ly i).1)), some (.int (nI i)), none] [] M (fun rs => rs = .inl (some (.int (en ((nea (M.1 11) (sp a) ly nt).2))), M))) ?_ ?_ 0 (Nat.zero_le _)
  · refine G.sl [(.iload 4, 2, 4, 0, 0, 0), (.aload_n 0, 1, 0, 0, 0, 0), (.getfield 15, 3, 7, 0, 88, 0), (.getfield 35, 3, 6, 2, 25, 0)] [] (pc2 := 17) (ls2 := [some (.ref 47), some (.int (nI a)), some (.int (en ((nea (M.1 11) (sp a) ly nt).2))), some (.int ((nea (M.1 11) (sp a) ly nt).1)), some (.int (nI nt)), none]) (st2 := [.int (M.1 3 2), .int (nI nt)]) (M2 := M) (Ps := []) (by decide +kernel) rfl rfl trivial ?_
    refine G.ic_ge (off := (36)) (tgt := 53) (by decide +kernel) rfl (fun _ => ?_) (fun h9 => absurd (by rw [ht]; exact nI_le (Nat.le_refl nt) (by omega)) h9)
    refine G.sl [(.iload_n 2, 1, 2, 0, 0, 0)] [] (pc2 := 54) (ls2 := [some (.ref 47), some (.int (nI a)), some (.int (en ((nea (M.1 11) (sp a) ly nt).2))), some (.int ((nea (M.1 11) (sp a) ly nt).1)), some (.int (nI nt)), none]) (st2 := [.int (en ((nea (M.1 11) (sp a) ly nt).2))]) (M2 := M) (Ps := []) (by decide +kernel) rfl rfl trivial ?_
    exact G.reti (by decide +kernel) rfl rfl (Nat.le_of_ble_eq_true rfl) (Nat.le_of_ble_eq_true rfl) rfl
  · intro i hi ih
    refine G.sl [(.iload 4, 2, 4, 0, 0, 0), (.aload_n 0, 1, 0, 0, 0, 0), (.getfield 15, 3, 7, 0, 88, 0), (.getfield 35, 3, 6, 2, 25, 0)] [] (pc2 := 17) (ls2 := [some (.ref 47), some (.int (nI a)), some (.int (en ((nea (M.1 11) (sp a) ly i).2))), some (.int ((nea (M.1 11) (sp a) ly i).1)), some (.int (nI i)), none]) (st2 := [.int (M.1 3 2), .int (nI i)]) (M2 := M) (Ps := []) (by decide +kernel) rfl rfl trivial ?_
    refine G.ic_ge (off := (36)) (tgt := 53) (by decide +kernel) rfl (fun h9 => absurd h9 (by rw [ht]; exact nI_ge hi (by omega))) (fun _ => ?_)
    refine G.sl [(.aload_n 0, 1, 0, 0, 0, 0), (.iload_n 1, 1, 1, 0, 0, 0), (.iload 4, 2, 4, 0, 0, 0)] [] (pc2 := 24) (ls2 := [some (.ref 47), some (.int (nI a)), some (.int (en ((nea (M.1 11) (sp a) ly i).2))), some (.int ((nea (M.1 11) (sp a) ly i).1)), some (.int (nI i)), none]) (st2 := [.int (nI i), .int (nI a), .ref 47]) (M2 := M) (Ps := []) (by decide +kernel) rfl rfl trivial ?_
    refine G.callV (as := [.int (nI a), .int (nI i)]) (rest := []) (a := 47) oX8_wayTo lk_EvenFinders_Ways_39 (by decide +kernel) rfl rfl ⟨rfl, rfl⟩ (Nat.le_of_ble_eq_true rfl) rfl ⟨Nat.le_of_ble_eq_true rfl, Nat.le_of_ble_eq_true rfl⟩ (c_wayTo z _ _ a i (sp a) (ly i) (by omega) (by omega) (hsp a ha).1 (hsp a ha).2 (hly i hi).1 (hly i hi).2) (fun v9 N9 h1 => ?_) (fun E9 N9 h1 => by cases h1)
    cases h1
    refine G.sl [(.istore 5, 2, 5, 0, 0, 0), (.iload 5, 2, 5, 0, 0, 0), (.iconst (-1), 1, 0, 0, 0, (-1))] [] (pc2 := 32) (ls2 := [some (.ref 47), some (.int (nI a)), some (.int (en ((nea (M.1 11) (sp a) ly i).2))), some (.int ((nea (M.1 11) (sp a) ly i).1)), some (.int (nI i)), some (.int (wto (M.1 11) (sp a) (ly i)))]) (st2 := [.int ((-1)), .int (wto (M.1 11) (sp a) (ly i))]) (M2 := M) (Ps := []) (by decide +kernel) rfl rfl trivial ?_
    refine G.ic_eq (off := (15)) (tgt := 47) (by decide +kernel) rfl (fun c2 => ?_) (fun c2 => ?_)
    · refine G.sl [(.iinc 4 1, 3, 4, 0, 0, nI 1), (.goto (-42), 3, 8, 0, 0, 0)] [] (pc2 := 8) (ls2 := [some (.ref 47), some (.int (nI a)), some (.int (en ((nea (M.1 11) (sp a) ly i).2))), some (.int ((nea (M.1 11) (sp a) ly i).1)), some (.int ((nI i) + nI 1)), some (.int (wto (M.1 11) (sp a) (ly i)))]) (st2 := []) (M2 := M) (Ps := []) (by decide +kernel) rfl rfl trivial ?_
      refine G.loc (ls2 := [some (.ref 47), some (.int (nI a)), some (.int (en ((nea (M.1 11) (sp a) ly i).2))), some (.int ((nea (M.1 11) (sp a) ly i).1)), some (.int ((nI i) + nI 1)), none]) (by simp [subL]) ?_
      rw [nI_add]
      simp only [nea, if_pos c2] at ih
      exact ih
    · refine G.sl [(.iload 5, 2, 5, 0, 0, 0), (.iload_n 3, 1, 3, 0, 0, 0)] [] (pc2 := 38) (ls2 := [some (.ref 47), some (.int (nI a)), some (.int (en ((nea (M.1 11) (sp a) ly i).2))), some (.int ((nea (M.1 11) (sp a) ly i).1)), some (.int (nI i)), some (.int (wto (M.1 11) (sp a) (ly i)))]) (st2 := [.int ((nea (M.1 11) (sp a) ly i).1), .int (wto (M.1 11) (sp a) (ly i))]) (M2 := M) (Ps := []) (by decide +kernel) rfl rfl trivial ?_
      refine G.ic_ge (off := (9)) (tgt := 47) (by decide +kernel) rfl (fun c3 => ?_) (fun c3 => ?_)
      · refine G.sl [(.iinc 4 1, 3, 4, 0, 0, nI 1), (.goto (-42), 3, 8, 0, 0, 0)] [] (pc2 := 8) (ls2 := [some (.ref 47), some (.int (nI a)), some (.int (en ((nea (M.1 11) (sp a) ly i).2))), some (.int ((nea (M.1 11) (sp a) ly i).1)), some (.int ((nI i) + nI 1)), some (.int (wto (M.1 11) (sp a) (ly i)))]) (st2 := []) (M2 := M) (Ps := []) (by decide +kernel) rfl rfl trivial ?_
        refine G.loc (ls2 := [some (.ref 47), some (.int (nI a)), some (.int (en ((nea (M.1 11) (sp a) ly i).2))), some (.int ((nea (M.1 11) (sp a) ly i).1)), some (.int ((nI i) + nI 1)), none]) (by simp [subL]) ?_
        rw [nI_add]
        simp only [nea, if_neg c2, if_pos c3] at ih
        exact ih
      · refine G.sl [(.iload 4, 2, 4, 0, 0, 0), (.istore_n 2, 1, 2, 0, 0, 0), (.iload 5, 2, 5, 0, 0, 0), (.istore_n 3, 1, 3, 0, 0, 0), (.iinc 4 1, 3, 4, 0, 0, nI 1), (.goto (-42), 3, 8, 0, 0, 0)] [] (pc2 := 8) (ls2 := [some (.ref 47), some (.int (nI a)), some (.int (nI i)), some (.int (wto (M.1 11) (sp a) (ly i))), some (.int ((nI i) + nI 1)), some (.int (wto (M.1 11) (sp a) (ly i)))]) (st2 := []) (M2 := M) (Ps := []) (by decide +kernel) rfl rfl trivial ?_
        refine G.loc (ls2 := [some (.ref 47), some (.int (nI a)), some (.int (nI i)), some (.int (wto (M.1 11) (sp a) (ly i))), some (.int ((nI i) + nI 1)), none]) (by simp [subL]) ?_
        rw [nI_add]
        simp only [nea, if_neg c2, if_neg c3] at ih
        exact ih
def inr (X R : Nat → Int32) (a s : Nat) (ly : Nat → Option Nat) : Nat → Int32
  | 0 => nI 0
  | i + 1 => (if (wto (X) s (ly i)) = ((-1)) then inr X R a s ly i else (if (nI 24) < ((R (13 + a)) + (wto (X) s (ly i))) then inr X R a s ly i else (inr X R a s ly i) ||| ((nI 1) <<< ((nI i) &&& 31))))
theorem c_inReach (z : Zp) (d : Nat) (M : Mem) (nt : Nat) (hnt : nt ≤ 10) (ht : M.1 3 2 = nI nt) (a : Nat) (ha : a < 6) (sp : Nat → Nat) (hsp : ∀ a, a < 6 → M.1 38 (1 + a) = nI (sp a) ∧ sp a < 8) (ly : Nat → Option Nat) (hly : ∀ t, t < nt → M.1 38 (31 + t) = en (ly t) ∧ ∀ p, ly t = some p → p < 8) : GM z mX8_inReach (d + 2) [.ref 47, .int (nI a)] M (fun rs => rs = .inl (some (.int (inr (M.1 11) (M.1 38) a (sp a) ly nt)), M)) := by
  refine GM.of oX8_inReach.1 (Nat.le_of_ble_eq_true rfl) ?_
  show G z mX8_inReach (d + 2) 0 0 0 [some (.ref 47), some (.int (nI a)), none, none, none] [] M _
  refine G.sl [(.iconst 0, 1, 0, 0, 0, nI 0), (.istore_n 2, 1, 2, 0, 0, 0), (.iconst 0, 1, 0, 0, 0, nI 0), (.istore_n 3, 1, 3, 0, 0, 0)] [] (pc2 := 4) (ls2 := [some (.ref 47), some (.int (nI a)), some (.int (nI 0)), some (.int (nI 0)), none]) (st2 := []) (M2 := M) (Ps := []) (by decide +kernel) rfl rfl trivial ?_
  refine down (n := nt) (P := fun i => G z mX8_inReach (d + 2) 0 0 4 [some (.ref 47), some (.int (nI a)), some (.int (inr (M.1 11) (M.1 38) a (sp a) ly i)), some (.int (nI i)), none] [] M (fun rs => rs = .inl (some (.int (inr (M.1 11) (M.1 38) a (sp a) ly nt)), M))) ?_ ?_ 0 (Nat.zero_le _)
  · refine G.sl [(.iload_n 3, 1, 3, 0, 0, 0), (.aload_n 0, 1, 0, 0, 0, 0), (.getfield 15, 3, 7, 0, 88, 0), (.getfield 35, 3, 6, 2, 25, 0)] [] (pc2 := 12) (ls2 := [some (.ref 47), some (.int (nI a)), some (.int (inr (M.1 11) (M.1 38) a (sp a) ly nt)), some (.int (nI nt)), none]) (st2 := [.int (M.1 3 2), .int (nI nt)]) (M2 := M) (Ps := []) (by decide +kernel) rfl rfl trivial ?_
    refine G.ic_ge (off := (49)) (tgt := 61) (by decide +kernel) rfl (fun _ => ?_) (fun h9 => absurd (by rw [ht]; exact nI_le (Nat.le_refl nt) (by omega)) h9)
    refine G.sl [(.iload_n 2, 1, 2, 0, 0, 0)] [] (pc2 := 62) (ls2 := [some (.ref 47), some (.int (nI a)), some (.int (inr (M.1 11) (M.1 38) a (sp a) ly nt)), some (.int (nI nt)), none]) (st2 := [.int (inr (M.1 11) (M.1 38) a (sp a) ly nt)]) (M2 := M) (Ps := []) (by decide +kernel) rfl rfl trivial ?_
    exact G.reti (by decide +kernel) rfl rfl (Nat.le_of_ble_eq_true rfl) (Nat.le_of_ble_eq_true rfl) rfl
  · intro i hi ih
    refine G.sl [(.iload_n 3, 1, 3, 0, 0, 0), (.aload_n 0, 1, 0, 0, 0, 0), (.getfield 15, 3, 7, 0, 88, 0), (.getfield 35, 3, 6, 2, 25, 0)] [] (pc2 := 12) (ls2 := [some (.ref 47), some (.int (nI a)), some (.int (inr (M.1 11) (M.1 38) a (sp a) ly i)), some (.int (nI i)), none]) (st2 := [.int (M.1 3 2), .int (nI i)]) (M2 := M) (Ps := []) (by decide +kernel) rfl rfl trivial ?_
    refine G.ic_ge (off := (49)) (tgt := 61) (by decide +kernel) rfl (fun h9 => absurd h9 (by rw [ht]; exact nI_ge hi (by omega))) (fun _ => ?_)
    refine G.sl [(.aload_n 0, 1, 0, 0, 0, 0), (.iload_n 1, 1, 1, 0, 0, 0), (.iload_n 3, 1, 3, 0, 0, 0)] [] (pc2 := 18) (ls2 := [some (.ref 47), some (.int (nI a)), some (.int (inr (M.1 11) (M.1 38) a (sp a) ly i)), some (.int (nI i)), none]) (st2 := [.int (nI i), .int (nI a), .ref 47]) (M2 := M) (Ps := []) (by decide +kernel) rfl rfl trivial ?_
    refine G.callV (as := [.int (nI a), .int (nI i)]) (rest := []) (a := 47) oX8_wayTo lk_EvenFinders_Ways_39 (by decide +kernel) rfl rfl ⟨rfl, rfl⟩ (Nat.le_of_ble_eq_true rfl) rfl ⟨Nat.le_of_ble_eq_true rfl, Nat.le_of_ble_eq_true rfl⟩ (c_wayTo z _ _ a i (sp a) (ly i) (by omega) (by omega) (hsp a ha).1 (hsp a ha).2 (hly i hi).1 (hly i hi).2) (fun v9 N9 h1 => ?_) (fun E9 N9 h1 => by cases h1)
    cases h1
    refine G.sl [(.istore 4, 2, 4, 0, 0, 0), (.iload 4, 2, 4, 0, 0, 0), (.iconst (-1), 1, 0, 0, 0, (-1))] [] (pc2 := 26) (ls2 := [some (.ref 47), some (.int (nI a)), some (.int (inr (M.1 11) (M.1 38) a (sp a) ly i)), some (.int (nI i)), some (.int (wto (M.1 11) (sp a) (ly i)))]) (st2 := [.int ((-1)), .int (wto (M.1 11) (sp a) (ly i))]) (M2 := M) (Ps := []) (by decide +kernel) rfl rfl trivial ?_
    refine G.ic_eq (off := (29)) (tgt := 55) (by decide +kernel) rfl (fun c2 => ?_) (fun c2 => ?_)
    · refine G.sl [(.iinc 3 1, 3, 3, 0, 0, nI 1), (.goto (-54), 3, 4, 0, 0, 0)] [] (pc2 := 4) (ls2 := [some (.ref 47), some (.int (nI a)), some (.int (inr (M.1 11) (M.1 38) a (sp a) ly i)), some (.int ((nI i) + nI 1)), some (.int (wto (M.1 11) (sp a) (ly i)))]) (st2 := []) (M2 := M) (Ps := []) (by decide +kernel) rfl rfl trivial ?_
      refine G.loc (ls2 := [some (.ref 47), some (.int (nI a)), some (.int (inr (M.1 11) (M.1 38) a (sp a) ly i)), some (.int ((nI i) + nI 1)), none]) (by simp [subL]) ?_
      rw [nI_add]
      simp only [inr, if_pos c2] at ih
      exact ih
    · refine G.sl [(.aload_n 0, 1, 0, 0, 0, 0), (.getfield 19, 3, 7, 1, 89, 0), (.getfield 23, 3, 1, 0, 74, 0), (.bipush 13, 2, 0, 0, 0, nI 13), (.iload_n 1, 1, 1, 0, 0, 0), (.iadd, 1, 0, 0, 0, 0), (.iaload, 1, 0, 0, 0, 0), (.iload 4, 2, 4, 0, 0, 0), (.iadd, 1, 0, 0, 0, 0), (.bipush 24, 2, 0, 0, 0, nI 24)] [13 + a] (pc2 := 46) (ls2 := [some (.ref 47), some (.int (nI a)), some (.int (inr (M.1 11) (M.1 38) a (sp a) ly i)), some (.int (nI i)), some (.int (wto (M.1 11) (sp a) (ly i)))]) (st2 := [.int (nI 24), .int ((M.1 38 (13 + a)) + (wto (M.1 11) (sp a) (ly i)))]) (M2 := M) (Ps := [((nI 13) + (nI a)) = nI (13 + a) ∧ (13 + a) < 51]) (by decide +kernel) rfl rfl ⟨⟨(by simp only [nI_add, pk_mul]), by omega⟩, trivial⟩ ?_
      refine G.ic_gt (off := (9)) (tgt := 55) (by decide +kernel) rfl (fun c3 => ?_) (fun c3 => ?_)
      · refine G.sl [(.iinc 3 1, 3, 3, 0, 0, nI 1), (.goto (-54), 3, 4, 0, 0, 0)] [] (pc2 := 4) (ls2 := [some (.ref 47), some (.int (nI a)), some (.int (inr (M.1 11) (M.1 38) a (sp a) ly i)), some (.int ((nI i) + nI 1)), some (.int (wto (M.1 11) (sp a) (ly i)))]) (st2 := []) (M2 := M) (Ps := []) (by decide +kernel) rfl rfl trivial ?_
        refine G.loc (ls2 := [some (.ref 47), some (.int (nI a)), some (.int (inr (M.1 11) (M.1 38) a (sp a) ly i)), some (.int ((nI i) + nI 1)), none]) (by simp [subL]) ?_
        rw [nI_add]
        simp only [inr, if_neg c2, if_pos c3] at ih
        exact ih
      · refine G.sl [(.iload_n 2, 1, 2, 0, 0, 0), (.iconst 1, 1, 0, 0, 0, nI 1), (.iload_n 3, 1, 3, 0, 0, 0), (.ishl, 1, 0, 0, 0, 0), (.ior, 1, 0, 0, 0, 0), (.istore_n 2, 1, 2, 0, 0, 0), (.iinc 3 1, 3, 3, 0, 0, nI 1), (.goto (-54), 3, 4, 0, 0, 0)] [] (pc2 := 4) (ls2 := [some (.ref 47), some (.int (nI a)), some (.int ((inr (M.1 11) (M.1 38) a (sp a) ly i) ||| ((nI 1) <<< ((nI i) &&& 31)))), some (.int ((nI i) + nI 1)), some (.int (wto (M.1 11) (sp a) (ly i)))]) (st2 := []) (M2 := M) (Ps := []) (by decide +kernel) rfl rfl trivial ?_
        refine G.loc (ls2 := [some (.ref 47), some (.int (nI a)), some (.int ((inr (M.1 11) (M.1 38) a (sp a) ly i) ||| ((nI 1) <<< ((nI i) &&& 31)))), some (.int ((nI i) + nI 1)), none]) (by simp [subL]) ?_
        rw [nI_add]
        simp only [inr, if_neg c2, if_neg c3] at ih
        exact ih
