/-! what may be lost to be even -/
theorem wo_bd {nt : Nat} {W TH : Nat → Int32} (h : TW nt W TH) (x : Int32) : ∀ n, n ≤ nt → ∃ w, w ≤ 60 * n ∧ v_worthOf_4 W x n = nI w
  | 0, _ => ⟨0, by omega, rfl⟩
  | n + 1, hn => by
    obtain ⟨w, hw, e⟩ := wo_bd h x n (by omega)
    obtain ⟨-, v, h1, h2, ev⟩ := h n (by omega)
    simp only [v_worthOf_4, e, ev]
    split
    · exact ⟨w, by omega, rfl⟩
    · exact ⟨w + v, by omega, by rw [nI_add]⟩
theorem bc_bd : ∀ b, b < 1024 → 0 ≤ (J6_bitCount_0f7a4 (nI b)).toInt ∧ (J6_bitCount_0f7a4 (nI b)).toInt ≤ 10 := by decide +kernel
theorem bc_n {b : Nat} (hb : b < 1024) : ∃ c, c ≤ 10 ∧ J6_bitCount_0f7a4 (nI b) = nI c := by
  obtain ⟨h1, h2⟩ := bc_bd b hb
  refine ⟨(J6_bitCount_0f7a4 (nI b)).toInt.toNat, by omega, ?_⟩
  rw [pu_eq, pu_nI (by omega)]
  omega
theorem on_bc {b : Nat} (hb : b < 1024) : k_ones (nI b) = J6_bitCount_0f7a4 (nI b) := ones_eq (n := 10) (Nat.le_refl _) hb
theorem se_lp {nt : Nat} {W TH S : Nat → Int32} (hT : TW nt W TH) (h10 : nt ≤ 10) {a o H : Nat} (ha : a < 6) (hS : S (26 + a) = nI o) (ho : 1 ≤ o ∧ o ≤ 99) (hH : H < 1024) : ∀ (k k' u : Nat) (s4 s5 s3 : Int32), H + 1 < u + k → H + 1 < u + k' → u ≤ H + 1 →
    ((s4 = -1 ∧ s3 = -1 ∧ s5 = nI 1000000) ∨ (∃ b w c, b < 1024 ∧ w ≤ 600 ∧ c ≤ 10 ∧ s4 = nI b ∧ s3 = nI b ∧ v_worthOf W nt (nI b) = nI w ∧ J6_bitCount_0f7a4 (nI b) = nI c ∧ s5 = nI (w * 11 + c))) →
    d_leastToBeEven_32_ok W nt (nI o) (nI H) k s4 s5 (nI u) ∧ k_settle_31_ok TH S nt (nI a) (nI H) k' s3 (nI u) ∧ (k_settle_31 TH S nt (nI a) (nI H) k' s3 (nI u)).1 = (d_leastToBeEven_32 W nt (nI o) (nI H) k s4 s5 (nI u)).1
  | 0, k', u, s4, s5, s3, h, _, _, _ => by omega
  | k + 1, 0, u, s4, s5, s3, _, h, _, _ => by omega
  | k + 1, k' + 1, u, s4, s5, s3, h1, h2, h3, hI => by
    have ia : ix (nI a) = a := pu_ix (by omega)
    have ya : isN (nI a) := pu_isN (by omega)
    have hw : ∀ x, k_worthOf TH nt x = v_worthOf W nt x := fun x => wo_eq hT x nt (Nat.le_refl _)
    have f0 : ¬ nI o ≤ 0 := by rw [← nI_0]; exact fun z => by have := (pu_lei (by omega) (by omega)).mp z; omega
    simp only [d_leastToBeEven_32_ok, d_leastToBeEven_32, k_settle_31_ok, k_settle_31, ia, ya, hS, hw, show 26 + a < 51 by omega, true_and, pu_p1, if_neg f0]
    by_cases c : H < u
    · have f : nI H < nI u := (pu_lti (by omega) (by omega)).mpr c
      simp only [if_pos f, true_and]
      rcases hI with ⟨e1, e2, -⟩ | ⟨b, w, c, -, -, -, e1, e2, -⟩
      · rw [e1, e2]
      · rw [e1, e2]
    · have f : ¬ nI H < nI u := fun z => c ((pu_lti (by omega) (by omega)).mp z)
      have ih := fun s4 s5 s3 h => se_lp hT h10 ha hS ho hH k k' (u + 1) s4 s5 s3 (by omega) (by omega) (by omega) h
      simp only [if_neg f]
      by_cases c1 : nI u &&& (nI H ^^^ (-1)) = 0
      · obtain ⟨wu, hwu, ewu⟩ := wo_bd hT (nI u) nt (Nat.le_refl _)
        have ewu' : v_worthOf W nt (nI u) = nI wu := ewu
        obtain ⟨cu, hcu, ecu⟩ := bc_n (show u < 1024 by omega)
        simp only [if_pos c1, ewu', ecu, pk_mul, nI_add]
        have hnew : (∃ b w c, b < 1024 ∧ w ≤ 600 ∧ c ≤ 10 ∧ nI u = nI b ∧ nI u = nI b ∧ v_worthOf W nt (nI b) = nI w ∧ J6_bitCount_0f7a4 (nI b) = nI c ∧ nI (wu * 11 + cu) = nI (w * 11 + c)) := ⟨u, wu, cu, by omega, by omega, hcu, rfl, rfl, ewu', ecu, rfl⟩
        by_cases c2 : wu < o
        · have g1 : nI wu < nI o := (pu_lti (by omega) (by omega)).mpr c2
          have g2 : ¬ nI o ≤ nI wu := fun z => by have := (pu_lei (by omega) (by omega)).mp z; omega
          simp only [if_pos g1, if_neg g2]
          exact ih _ _ _ hI
        · have g1 : ¬ nI wu < nI o := fun z => c2 ((pu_lti (by omega) (by omega)).mp z)
          have g2 : nI o ≤ nI wu := (pu_lei (by omega) (by omega)).mpr (by omega)
          simp only [if_neg g1, if_pos g2]
          rcases hI with ⟨e1, e2, e3⟩ | ⟨b, w, cc, hb, hw6, hc, e1, e2, e4, e5, e3⟩
          · have g3 : ¬ nI 1000000 ≤ nI (wu * 11 + cu) := fun z => by have := (pu_lei (by omega) (by omega)).mp z; omega
            rw [e1, e2, e3]
            simp only [if_neg g3, ↓reduceIte]
            exact ih _ _ _ (Or.inr hnew)
          · have gn : ¬ nI b = -1 := pu_nm (by omega)
            rw [e1, e2, e3]
            simp only [if_neg gn, e4, on_bc hb, on_bc (show u < 1024 by omega), e5, ecu]
            have hold : (∃ b' w' c', b' < 1024 ∧ w' ≤ 600 ∧ c' ≤ 10 ∧ nI b = nI b' ∧ nI b = nI b' ∧ v_worthOf W nt (nI b') = nI w' ∧ J6_bitCount_0f7a4 (nI b') = nI c' ∧ nI (w * 11 + cc) = nI (w' * 11 + c')) := ⟨b, w, cc, hb, hw6, hc, rfl, rfl, e4, e5, rfl⟩
            by_cases d1 : wu < w
            · have g3 : nI wu < nI w := (pu_lti (by omega) (by omega)).mpr d1
              have g4 : ¬ nI (w * 11 + cc) ≤ nI (wu * 11 + cu) := fun z => by have := (pu_lei (by omega) (by omega)).mp z; omega
              simp only [if_pos g3, if_neg g4]
              exact ih _ _ _ (Or.inr hnew)
            · have g3 : ¬ nI wu < nI w := fun z => d1 ((pu_lti (by omega) (by omega)).mp z)
              simp only [if_neg g3]
              by_cases d2 : wu = w
              · have g5 : nI wu = nI w := by rw [d2]
                simp only [if_pos g5]
                by_cases d3 : cc ≤ cu
                · have g6 : nI cc ≤ nI cu := (pu_lei (by omega) (by omega)).mpr d3
                  have g4 : nI (w * 11 + cc) ≤ nI (wu * 11 + cu) := (pu_lei (by omega) (by omega)).mpr (by omega)
                  simp only [if_pos g6, if_pos g4]
                  exact ih _ _ _ (Or.inr hold)
                · have g6 : ¬ nI cc ≤ nI cu := fun z => d3 ((pu_lei (by omega) (by omega)).mp z)
                  have g4 : ¬ nI (w * 11 + cc) ≤ nI (wu * 11 + cu) := fun z => by have := (pu_lei (by omega) (by omega)).mp z; omega
                  simp only [if_neg g6, if_neg g4]
                  exact ih _ _ _ (Or.inr hnew)
              · have g5 : ¬ nI wu = nI w := fun z => d2 (pu_inj (by omega) (by omega) z)
                have g4 : nI (w * 11 + cc) ≤ nI (wu * 11 + cu) := (pu_lei (by omega) (by omega)).mpr (by omega)
                simp only [if_neg g5, if_pos g4]
                exact ih _ _ _ (Or.inr hold)
      · simp only [if_neg c1]
        exact ih _ _ _ hI
/-- the empty set is never enough -/
theorem se_0 {nt : Nat} {W TH S : Nat → Int32} (hT : TW nt W TH) {a o H : Nat} (ha : a < 6) (hS : S (26 + a) = nI o) (ho : 1 ≤ o ∧ o ≤ 99) (hH : H < 1024) (k : Nat) : (k_settle_31_ok TH S nt (nI a) (nI H) (k + 1) (-1) (nI 0) ↔ k_settle_31_ok TH S nt (nI a) (nI H) k (-1) (nI 1)) ∧ k_settle_31 TH S nt (nI a) (nI H) (k + 1) (-1) (nI 0) = k_settle_31 TH S nt (nI a) (nI H) k (-1) (nI 1) := by
  have ia : ix (nI a) = a := pu_ix (by omega)
  have ya : isN (nI a) := pu_isN (by omega)
  have hw : k_worthOf TH nt (nI 0) = nI 0 := by
    rw [show k_worthOf TH nt (nI 0) = v_worthOf W nt (nI 0) from wo_eq hT _ nt (Nat.le_refl _)]
    have : ∀ n, v_worthOf_4 W (nI 0) n = nI 0 := by
      intro n
      induction n with
      | zero => rfl
      | succ n ih =>
        have h0 : (nI 0 >>> (nI n &&& 31)) &&& nI 1 = 0 := by
          rw [nI_0, Int32.zero_shiftRight, Int32.zero_and]
        simp only [v_worthOf_4, ih, if_pos h0]
    exact this nt
  have f0 : ¬ nI o ≤ 0 := by rw [← nI_0]; exact fun z => by have := (pu_lei (by omega) (by omega)).mp z; omega
  have f1 : ¬ nI H < nI 0 := fun z => by have := (pu_lti (by omega) (by omega)).mp z; omega
  have f2 : nI 0 &&& (nI H ^^^ (-1)) = 0 := by rw [nI_0, Int32.zero_and]
  have f3 : ¬ nI o ≤ nI 0 := fun z => by have := (pu_lei (by omega) (by omega)).mp z; omega
  simp only [k_settle_31_ok, k_settle_31, ia, ya, hS, hw, show 26 + a < 51 by omega, true_and, if_neg f0, if_neg f1, if_pos f2, if_neg f3, pu_p1, Nat.zero_add, and_self]
/-! two at one find -/
theorem fu_5 : ∃ K, FU = K + 1 + 1 + 1 + 1 + 1 := ⟨4995, FU_eq⟩
theorem tk_has {d o v w : Int32} (ho : o = nI 0 ∨ o = nI 1) : k_hasBy d o v w = o_has d o v w := by
  rcases ho with rfl | rfl
  · simp only [k_hasBy, o_has, if_neg (show ¬ nI 0 = nI 1 by decide), if_pos pu_n01]
  · simp only [k_hasBy, o_has, if_neg pu_n10, ↓reduceIte]
theorem tk_st {α : Type} {i j x : Int32} (v w : Int32) (hx : x / nI 10 = i) (hx2 : x - i * nI 10 = j) (hi : i = nI 0 ∨ i = nI 1) (hj : j = nI 0 ∨ j = nI 1) (A B : α) : (if k_hasBy i j v w < k_hasBy (nI 1 - i) j v w then A else (if k_hasBy (nI 1 - j) i v w ≤ k_hasBy j i v w then B else A)) = if o_isRest x v w = 0 then A else B := by
  simp only [o_isRest, hx, hx2, tk_has hj, tk_has hi]
  by_cases c1 : o_has i j v w < o_has (nI 1 - i) j v w
  · simp only [if_pos c1, if_pos pu_n01]
  · by_cases c2 : o_has j i v w < o_has (nI 1 - j) i v w
    · simp only [if_neg c1, if_pos c2, if_pos pu_n01, if_neg (show ¬ o_has (nI 1 - j) i v w ≤ o_has j i v w from Int32.not_le.mpr c2)]
    · simp only [if_neg c1, if_neg c2, if_neg pu_n10, if_pos (Int32.not_lt.mp c2)]
theorem tk_n (v w x : Int32) {n : Nat} (hn : n < 4) : k_takes_59 v w x (n + 1) = if o_isRest (dds n) v w = 0 then k_takes_59 v w x n else ((k_takes_59 v w x n).1 + nI 1, if (k_takes_59 v w x n).2 = -1 then dds n else (k_takes_59 v w x n).2) := by
  have key : ∀ (i j d : Int32), nI n / nI 2 = i → nI n - i * nI 2 = j → d / nI 10 = i → d - i * nI 10 = j → nI 10 * i + j = d → (i = nI 0 ∨ i = nI 1) → (j = nI 0 ∨ j = nI 1) → k_takes_59 v w x (n + 1) = if o_isRest d v w = 0 then k_takes_59 v w x n else ((k_takes_59 v w x n).1 + nI 1, if (k_takes_59 v w x n).2 = -1 then d else (k_takes_59 v w x n).2) := by
    intro i j d h1 h2 h3 h4 h5 hi hj
    simp only [k_takes_59, h1, h2, h5]
    rcases y : k_takes_59 v w x n with ⟨a, b⟩
    simp only
    rw [tk_st v w h3 h4 hi hj]
    split
    · rfl
    · split <;> rfl
  have hc : n = 0 ∨ n = 1 ∨ n = 2 ∨ n = 3 := by omega
  rcases hc with rfl | rfl | rfl | rfl
  · exact key (nI 0) (nI 0) (dds 0) (by decide) (by decide) (by decide) (by decide) (by decide) (Or.inl rfl) (Or.inl rfl)
  · exact key (nI 0) (nI 1) (dds 1) (by decide) (by decide) (by decide) (by decide) (by decide) (Or.inl rfl) (Or.inr rfl)
  · exact key (nI 1) (nI 0) (dds 2) (by decide) (by decide) (by decide) (by decide) (by decide) (Or.inr rfl) (Or.inl rfl)
  · exact key (nI 1) (nI 1) (dds 3) (by decide) (by decide) (by decide) (by decide) (by decide) (Or.inr rfl) (Or.inr rfl)
theorem tk_eq (v w x : Int32) : o_rests_ok v w ∧ o_firstRest_ok v w ∧ (k_takes_59 v w x (cN 4)).1 = o_rests v w ∧ (k_takes_59 v w x (cN 4)).2 = o_firstRest v w := by
  obtain ⟨K, hK⟩ := fu_5
  have l0 : ¬ (4 : Int32) ≤ nI 0 := by decide
  have l1 : ¬ (4 : Int32) ≤ nI 1 := by decide
  have l2 : ¬ (4 : Int32) ≤ nI 2 := by decide
  have l3 : ¬ (4 : Int32) ≤ nI 3 := by decide
  have l4 : (4 : Int32) ≤ nI 4 := by decide
  have a1 : nI 0 + nI 1 = nI 1 := by decide
  have a2 : nI 1 + nI 1 = nI 2 := by decide
  have a3 : nI 2 + nI 1 = nI 3 := by decide
  have a4 : nI 3 + nI 1 = nI 4 := by decide
  have j0 : ix (nI 0) = 0 := pu_ix (by omega)
  have j1 : ix (nI 1) = 1 := pu_ix (by omega)
  have j2 : ix (nI 2) = 2 := pu_ix (by omega)
  have j3 : ix (nI 3) = 3 := pu_ix (by omega)
  have y0 : isN (nI 0) := pu_isN (by omega)
  have y1 : isN (nI 1) := pu_isN (by omega)
  have y2 : isN (nI 2) := pu_isN (by omega)
  have y3 : isN (nI 3) := pu_isN (by omega)
  have d0 : ¬ dds 0 = -1 := by decide
  have d1 : ¬ dds 1 = -1 := by decide
  have d2 : ¬ dds 2 = -1 := by decide
  have d3 : ¬ dds 3 = -1 := by decide
  have t0 : k_takes_59 v w x 0 = (nI 0, -1) := rfl
  have t1 := tk_n v w x (n := 0) (by omega)
  have t2 := tk_n v w x (n := 1) (by omega)
  have t3 := tk_n v w x (n := 2) (by omega)
  have t4 := tk_n v w x (n := 3) (by omega)
  simp only [Nat.zero_add, Nat.reduceAdd] at t1 t2 t3 t4
  simp only [o_rests_ok, o_rests, o_firstRest_ok, o_firstRest, hK, cN_eq, o_rests_13_ok, o_rests_13, o_firstRest_10_ok, o_firstRest_10, l0, j0, y0, ↓reduceIte, Nat.reduceLT, true_and, a1]
  by_cases r0 : o_isRest (dds 0) v w = 0 <;> by_cases r1 : o_isRest (dds 1) v w = 0 <;> by_cases r2 : o_isRest (dds 2) v w = 0 <;> by_cases r3 : o_isRest (dds 3) v w = 0 <;>
    simp only [r0, r1, r2, r3, t0, ↓reduceIte] at t1 t2 t3 t4 <;>
    simp only [r0, r1, r2, r3, t0, t1, t2, t3, t4, d0, d1, d2, d3, l1, l2, l3, l4, j1, j2, j3, y1, y2, y3, a1, a2, a3, a4, ↓reduceIte, Nat.reduceLT, true_and, and_true, and_self]
/-! sixpences shared -/
def gsn (c : Nat → Nat) (b : Nat) : Nat → Nat
  | 0 => 0
  | n + 1 => gsn c b n + min (c n) b
theorem gsn_mono {c : Nat → Nat} {b b' : Nat} (h : b ≤ b') : ∀ n, gsn c b n ≤ gsn c b' n
  | 0 => Nat.le_refl 0
  | n + 1 => by
    have := gsn_mono (c := c) h n
    simp only [gsn]; omega
theorem gsn_le {c : Nat → Nat} {b : Nat} : ∀ n, gsn c b n ≤ b * n
  | 0 => Nat.le_refl _
  | n + 1 => by
    have := gsn_le (c := c) (b := b) n
    simp only [gsn, Nat.mul_succ]; omega
theorem gi_eq {P : Nat → Int32} {c : Nat → Nat} {b : Nat} (hb : b ≤ 601) : ∀ n, n ≤ 6 → (∀ i, i < n → P i = nI (c i) ∧ c i ≤ 600) → d_givenBy_4 P (nI b) n = nI (gsn c b n)
  | 0, _, _ => rfl
  | n + 1, hn, h => by
    obtain ⟨e, hc⟩ := h n (by omega)
    simp only [d_givenBy_4, gsn, gi_eq hb n (by omega) (fun i hi => h i (by omega)), e]
    by_cases g : c n < b
    · rw [if_pos ((pu_lti (by omega) (by omega)).mpr g), nI_add]
      congr 1
      omega
    · rw [if_neg (fun z => g ((pu_lti (by omega) (by omega)).mp z)), nI_add]
      congr 1
      omega
theorem lv_lp {P : Nat → Int32} {c : Nat → Nat} {nf n : Nat} (h6 : nf ≤ 6) (hP : ∀ i, i < nf → P i = nI (c i) ∧ c i ≤ 600) (hn : n ≤ 999) (a : Nat) {B : Nat} (hB : B ≤ 600) (hB1 : gsn c B nf ≤ n) (hB2 : B < 600 → n < gsn c (B + 1) nf) : ∀ (k b : Nat), b ≤ B → B < b + k → d_levelled_67_ok P nf a (nI n) k (nI b) ∧ d_levelled_67 P nf a (nI n) k (nI b) = nI B
  | 0, b, h1, h2 => by omega
  | k + 1, b, h1, h2 => by
    have hg : d_givenBy P nf (nI b + nI 1) = nI (gsn c (b + 1) nf) := by
      rw [nI_add]; exact gi_eq (by omega) nf h6 hP
    have hl := gsn_le (c := c) (b := b + 1) nf
    have hl2 : (b + 1) * nf ≤ 601 * 6 := Nat.mul_le_mul (by omega) h6
    simp only [d_levelled_67_ok, d_levelled_67, hg, true_and]
    by_cases e : b = B
    · subst e
      by_cases g : b = 600
      · rw [if_pos ((pu_lei (by omega) (by omega)).mpr (by omega)), if_pos ((pu_lei (by omega) (by omega)).mpr (by omega))]
        exact ⟨trivial, rfl⟩
      · have f1 : ¬ nI 600 ≤ nI b := fun z => by have := (pu_lei (by omega) (by omega)).mp z; omega
        have f2 : nI n < nI (gsn c (b + 1) nf) := (pu_lti (by omega) (by omega)).mpr (hB2 (by omega))
        simp only [if_neg f1, if_pos f2, and_self]
    · have hm := gsn_mono (c := c) (show b + 1 ≤ B by omega) nf
      have f1 : ¬ nI 600 ≤ nI b := fun z => by have := (pu_lei (by omega) (by omega)).mp z; omega
      have f2 : ¬ nI n < nI (gsn c (b + 1) nf) := fun z => by have := (pu_lti (by omega) (by omega)).mp z; omega
      simp only [if_neg f1, if_neg f2, pu_p1]
      exact lv_lp h6 hP hn a hB hB1 hB2 k (b + 1) (by omega) (by omega)
theorem sx_by {np nt nf : Nat} {R S W TH : Nat → Int32} (hD : DR np nt nf R S) (hT : TW nt W TH) (h10 : nt ≤ 10) (h6 : nf ≤ 6) (x : Int32) {c : Nat → Nat} (hc : ∀ i, i < nf → (if (x >>> (nI i &&& 31)) &&& nI 1 = 0 then nI 0 else v_worthOf W nt (d_heldBy R nt (nI i))) = nI (c i) ∧ c i ≤ 600) {b : Nat} (hb : b ≤ 600) : ∀ n, n ≤ nf → k_sixpenceBy_5 TH S nt x (nI b) n = nI (gsn c b n)
  | 0, _ => rfl
  | n + 1, hn => by
    obtain ⟨e, hc6⟩ := hc n (by omega)
    have hw : k_worthOf TH nt (k_heldBy S nt (nI n)) = v_worthOf W nt (d_heldBy R nt (nI n)) := by
      rw [show k_heldBy S nt (nI n) = d_heldBy R nt (nI n) from hb_eq _ nt (fun t ht => hD.2.2.2.1 t ht)]
      exact wo_eq hT _ nt (Nat.le_refl _)
    simp only [k_sixpenceBy_5, gsn, sx_by hD hT h10 h6 x hc hb n (by omega), k_bounded, hw]
    rcases pu_bit (x >>> (nI n &&& 31)) with g | g
    · rw [g, if_pos pu_n01] at e
      have : c n = 0 := (pu_inj (by omega) (by omega) e).symm
      rw [g, pu_n01, Int32.zero_mul, Int32.add_zero, this]
      congr 1
      try omega
    · rw [g, if_neg pu_n10] at e
      rw [g, show nI 1 = (1 : Int32) from rfl, Int32.one_mul, e]
      by_cases q : b ≤ c n
      · rw [if_pos ((pu_lei (by omega) (by omega)).mpr q), nI_add]
        congr 1
        omega
      · rw [if_neg (fun z => q ((pu_lei (by omega) (by omega)).mp z)), nI_add]
        congr 1
        omega
theorem sx_lp {TH S : Nat → Int32} {nt nf n : Nat} (y x : Int32) {c : Nat → Nat} (h6 : nf ≤ 6) (hn : n ≤ 999) (hby : ∀ b, b ≤ 600 → k_sixpenceBy TH S nt nf x (nI b) = nI (gsn c b nf)) {B : Nat} (hB : B ≤ 600) (hB1 : gsn c B nf ≤ n) (hB2 : ∀ b, B < b → b ≤ 600 → n < gsn c b nf) : ∀ (k b : Nat), B ≤ b → b ≤ 600 → b < B + k → k_sixpence_64_ok TH S nt nf y x (nI n) k (nI b) ∧ k_sixpence_64 TH S nt nf y x (nI n) k (nI b) = nI B
  | 0, b, h1, h2, h3 => by omega
  | k + 1, b, h1, h2, h3 => by
    have hl := gsn_le (c := c) (b := b) nf
    have hl2 : b * nf ≤ 600 * 6 := Nat.mul_le_mul h2 h6
    simp only [k_sixpence_64_ok, k_sixpence_64, hby b h2, true_and]
    by_cases e : b = B
    · subst e
      have f : nI (gsn c b nf) ≤ nI n := (pu_lei (by omega) (by omega)).mpr hB1
      simp only [if_pos f, and_self]
    · have := hB2 b (by omega) h2
      have f : ¬ nI (gsn c b nf) ≤ nI n := fun z => by have := (pu_lei (by omega) (by omega)).mp z; omega
      obtain ⟨b', rfl⟩ : ∃ b', b = b' + 1 := ⟨b - 1, by omega⟩
      simp only [if_neg f, pu_pm]
      exact sx_lp y x h6 hn hby hB hB1 hB2 k b' (by omega) (by omega) (by omega)
/-- the greatest bound -/
theorem gs_best (c : Nat → Nat) (nf n : Nat) : ∃ B, B ≤ 600 ∧ gsn c B nf ≤ n ∧ ∀ b, B < b → b ≤ 600 → n < gsn c b nf := by
  have key : ∀ m, m ≤ 600 → ∃ B, B ≤ m ∧ gsn c B nf ≤ n ∧ ∀ b, B < b → b ≤ m → n < gsn c b nf := by
    intro m
    induction m with
    | zero =>
      intro _
      have := gsn_le (c := c) (b := 0) nf
      exact ⟨0, Nat.le_refl 0, by omega, fun b h1 h2 => by omega⟩
    | succ m ih =>
      intro hm
      by_cases g : gsn c (m + 1) nf ≤ n
      · exact ⟨m + 1, Nat.le_refl _, g, fun b h1 h2 => by omega⟩
      · obtain ⟨B, h1, h2, h3⟩ := ih (by omega)
        refine ⟨B, by omega, h2, fun b h4 h5 => ?_⟩
        by_cases e : b = m + 1
        · subst e; omega
        · exact h3 b h4 (by omega)
  exact key 600 (Nat.le_refl _)
theorem lv_13 {W R P : Nat → Int32} {nt : Nat} (a : Nat) (x y : Int32) : ∀ n i, i < n → d_levelled_13 W R P nt a x y n i = if (x >>> (nI i &&& 31)) &&& nI 1 = 0 then nI 0 else v_worthOf W nt (d_heldBy R nt (nI i))
  | 0, i, h => by omega
  | n + 1, i, h => by
    simp only [d_levelled_13]
    by_cases e : i = n
    · subst e
      by_cases g : (x >>> (nI i &&& 31)) &&& nI 1 = 0
      · rw [if_pos g, if_pos g, pk_us]
      · rw [if_neg g, if_neg g, pk_us]
    · have ih := lv_13 (W := W) (R := R) (P := P) (nt := nt) a x y n i (by omega)
      split
      · rw [pk_un e]; exact ih
      · rw [pk_un e]; exact ih
