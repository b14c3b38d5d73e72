/-! walking -/
theorem wk_lp (S : Nat → Int32) (a : Nat) : ∀ n, n ≤ 10 → ∀ j, k_walks_121 S a n j = if j < n ∧ S (10 + j) = nI a then S (20 + a) else S j
  | 0, _, j => by simp [k_walks_121]
  | n + 1, hn, j => by
    have ih := wk_lp S a n (by omega)
    have e1 : k_walks_121 S a n (10 + n) = S (10 + n) := by rw [ih, if_neg (by omega)]
    have e2 : k_walks_121 S a n (20 + a) = S (20 + a) := by rw [ih, if_neg (by omega)]
    simp only [k_walks_121, e1, e2, Nat.zero_add]
    by_cases h : S (10 + n) = nI a
    · rw [if_pos h]
      by_cases hj : j = n
      · subst hj
        rw [pk_us, if_pos ⟨by omega, h⟩]
      · rw [pk_un hj, ih]
        by_cases h2 : j < n ∧ S (10 + j) = nI a
        · rw [if_pos h2, if_pos ⟨by omega, h2.2⟩]
        · rw [if_neg h2, if_neg (fun q => h2 ⟨by omega, q.2⟩)]
    · rw [if_neg h, ih]
      by_cases h2 : j < n ∧ S (10 + j) = nI a
      · rw [if_pos h2, if_pos ⟨by omega, h2.2⟩]
      · rw [if_neg h2, if_neg (fun q => h2 ⟨?_, q.2⟩)]
        have : j ≠ n := fun e => h (e ▸ q.2)
        omega
theorem DR_walk {np nt nf : Nat} {R S : Nat → Int32} (hD : DR np nt nf R S) (hz : np ≤ 8 ∧ nt ≤ 10 ∧ nf ≤ 6) {a q w : Nat} (ha : a < nf) (hq : q < np) (hw : w ≤ 24) : DR np nt nf (upd (upd R (1 + a) (nI q)) (13 + a) (nI w)) (k_walks_121 (upd (upd S (20 + a) (nI q)) (32 + a) (nI w)) a nt) := by
  obtain ⟨hz1, hz2, hz3⟩ := hz
  have key : ∀ j, 10 ≤ j → k_walks_121 (upd (upd S (20 + a) (nI q)) (32 + a) (nI w)) a nt j = upd (upd S (20 + a) (nI q)) (32 + a) (nI w) j := by
    intro j hj
    rw [wk_lp _ _ _ hz2, if_neg (by omega)]
  have keyt : ∀ t, t < nt → k_walks_121 (upd (upd S (20 + a) (nI q)) (32 + a) (nI w)) a nt t = if R (41 + t) = nI a then nI q else S t := by
    intro t ht
    rw [wk_lp _ _ _ hz2]
    simp (disch := omega) only [pk_us, pk_un, hD.2.2.2.1 t ht, ht, true_and]
  obtain ⟨h1, h2, h3, h4, h5, h6⟩ := hD
  refine ⟨?_, fun b hb => ?_, fun b hb => ?_, fun t ht => ?_, fun t ht => ?_, fun b hb => ?_⟩
  · rw [key _ (by omega)]
    simp (disch := omega) only [pk_un, h1]
  · rw [key _ (by omega), key _ (by omega), key _ (by omega), key _ (by omega), key _ (by omega)]
    obtain ⟨g1, g2, g3, g4, g5⟩ := h2 b hb
    by_cases e : b = a
    · subst e
      simp (disch := omega) only [pk_us, pk_un, g2, g4, g5, and_self]
    · simp (disch := omega) only [pk_un, g1, g2, g3, g4, g5, and_self]
  · by_cases e : b = a
    · subst e
      exact ⟨q, hq, by simp (disch := omega) only [pk_us, pk_un]⟩
    · obtain ⟨p, hp, ep⟩ := h3 b hb
      exact ⟨p, hp, by simp (disch := omega) only [pk_un, ep]⟩
  · rw [key _ (by omega)]
    simp (disch := omega) only [pk_un, h4 t ht]
  · rw [keyt t ht]
    rcases h5 t ht with ⟨g1, g2, p, hp, ep⟩ | ⟨b, hb, g1, g2, g3⟩
    · left
      rw [if_neg (by rw [g1]; exact fun e => pu_nm (by omega) e.symm)]
      exact ⟨by simp (disch := omega) only [pk_un, g1], by simp (disch := omega) only [pk_un, g2], p, hp, by simp (disch := omega) only [pk_un, ep]⟩
    · right
      refine ⟨b, hb, by simp (disch := omega) only [pk_un, g1], by simp (disch := omega) only [pk_un, g2], ?_⟩
      rw [g1]
      by_cases e : b = a
      · subst e
        rw [if_pos rfl]
        simp (disch := omega) only [pk_us, pk_un]
      · rw [if_neg (fun q => e (pu_inj (by omega) (by omega) q)), g3]
        simp (disch := omega) only [pk_un]
  · obtain ⟨g1, g2, v, hv, ev⟩ := h6 b hb
    by_cases e : b = a
    · subst e
      simp (disch := omega) only [pk_us, pk_un]
      exact ⟨g1, g2, w, hw, rfl⟩
    · simp (disch := omega) only [pk_un]
      exact ⟨g1, g2, v, hv, ev⟩
theorem sm_walks {np nr nt nf : Nat} {R S A B L RO : Nat → Int32} (hD : DR np nt nf R S) (hT : TRo np nr A B L RO) (hz : SZ np nr nt nf) {a r : Nat} (ha : a < nf) (hr : r < nr) :
    (k_walks RO S nt a r).1 = (d_walks A B L R a r).1 ∧ DR np nt nf (d_walks A B L R a r).2 (k_walks RO S nt a r).2 := by
  obtain ⟨e1, e2, e3, x, y, l, hx, hy, hxy, hl1, hl9, eA, eB, eL⟩ := hT r hr
  obtain ⟨p, hp, ep⟩ := hD.2.2.1 a ha
  obtain ⟨w, hw, ew⟩ := (hD.2.2.2.2.2 a ha).2.2
  obtain ⟨z1, z2, z3, z4⟩ := hz
  have g1 := (hD.2.1 a ha).1
  have g3 := (hD.2.1 a ha).2.2.1
  simp only [k_walks, d_walks, v_otherEnd, e1, e2, e3, g1, g3, ew, eA, eB, eL, ep, nI_add]
  by_cases h1 : p = x
  · subst h1
    rw [if_pos rfl, if_pos rfl, if_neg (pu_nm (by omega))]
    by_cases h : nI (w + l) ≤ nI 24
    · rw [if_pos h, if_pos h]
      exact ⟨rfl, DR_walk hD ⟨z1, z3, z4⟩ ha hy (by rw [pu_lei (by omega) (by omega)] at h; omega)⟩
    · rw [if_neg h, if_neg h]
      exact ⟨rfl, hD⟩
  · have n1 : ¬ nI p = nI x := fun e => h1 (pu_inj (by omega) (by omega) e)
    have n1' : ¬ nI x = nI p := fun e => n1 e.symm
    rw [if_neg n1, if_neg n1']
    by_cases h2 : p = y
    · subst h2
      rw [if_pos rfl, if_pos rfl, if_neg (pu_nm (by omega))]
      by_cases h : nI (w + l) ≤ nI 24
      · rw [if_pos h, if_pos h]
        exact ⟨rfl, DR_walk hD ⟨z1, z3, z4⟩ ha hx (by rw [pu_lei (by omega) (by omega)] at h; omega)⟩
      · rw [if_neg h, if_neg h]
        exact ⟨rfl, hD⟩
    · have n2 : ¬ nI p = nI y := fun e => h2 (pu_inj (by omega) (by omega) e)
      have n2' : ¬ nI y = nI p := fun e => n2 e.symm
      rw [if_neg n2, if_neg n2', if_pos rfl]
      exact ⟨rfl, hD⟩
/-! letting lie: losing, slipping -/
theorem DR_drop {np nt nf : Nat} {R S : Nat → Int32} (hD : DR np nt nf R S) (hz : np ≤ 8 ∧ nt ≤ 10 ∧ nf ≤ 6) {a t : Nat} {o : Int32} (ha : a < nf) (ht : t < nt) (hh : R (41 + t) = nI a) (ho : -99 ≤ o.toInt ∧ o.toInt ≤ 99) : DR np nt nf (d_drop (upd R (7 + a) o) a t).2 (upd (upd S (10 + t) (-1)) (26 + a) o) := by
  obtain ⟨hz1, hz2, hz3⟩ := hz
  obtain ⟨h1, h2, h3, h4, h5, h6⟩ := hD
  obtain ⟨p, hp, ep⟩ := h3 a ha
  have ex : (upd R (7 + a) o) (1 + a) = R (1 + a) := pk_un (by omega)
  simp only [d_drop, ex]
  refine ⟨?_, fun b hb => ?_, fun b hb => ?_, fun u hu => ?_, fun u hu => ?_, fun b hb => ?_⟩
  · simp (disch := omega) only [pk_un, h1]
  · obtain ⟨g1, g2, g3, g4, g5⟩ := h2 b hb
    by_cases e : b = a
    · subst e
      simp (disch := omega) only [pk_us, pk_un, g1, g3, g4, g5, and_self]
    · simp (disch := omega) only [pk_un, g1, g2, g3, g4, g5, and_self]
  · obtain ⟨q, hq, eq⟩ := h3 b hb
    exact ⟨q, hq, by simp (disch := omega) only [pk_un, eq]⟩
  · by_cases e : u = t
    · subst e
      simp (disch := omega) only [pk_us, pk_un]
    · simp (disch := omega) only [pk_un, h4 u hu]
  · by_cases e : u = t
    · subst e
      left
      refine ⟨by simp (disch := omega) only [pk_us], ?_, p, hp, by simp (disch := omega) only [pk_us, pk_un, ep]⟩
      simp (disch := omega) only [pk_us, pk_un]
      rcases h5 u hu with ⟨g1, -, -⟩ | ⟨b, hb, g1, -, g3⟩
      · rw [hh] at g1
        exact absurd g1 (pu_nm (by omega))
      · rw [hh] at g1
        have := pu_inj (by omega) (by omega) g1
        subst this
        exact g3
    · rcases h5 u hu with ⟨g1, g2, q, hq, eq⟩ | ⟨b, hb, g1, g2, g3⟩
      · left
        exact ⟨by simp (disch := omega) only [pk_un, g1], by simp (disch := omega) only [pk_un, g2], q, hq, by simp (disch := omega) only [pk_un, eq]⟩
      · right
        exact ⟨b, hb, by simp (disch := omega) only [pk_un, g1], by simp (disch := omega) only [pk_un, g2], by simp (disch := omega) only [pk_un, g3]⟩
  · obtain ⟨g1, g2, v, hv, ev⟩ := h6 b hb
    by_cases e : b = a
    · subst e
      simp (disch := omega) only [pk_us, pk_un]
      exact ⟨ho.1, ho.2, v, hv, ev⟩
    · simp (disch := omega) only [pk_un]
      exact ⟨g1, g2, v, hv, ev⟩
theorem upd_twice (f : Nat → Int32) (k : Nat) (x y : Int32) : upd (upd f k x) k y = upd f k y := by
  funext j
  by_cases h : j = k
  · subst h; rw [pk_us, pk_us]
  · rw [pk_un h, pk_un h, pk_un h]
theorem upd_self (f : Nat → Int32) (k : Nat) : upd f k (f k) = f := by
  funext j
  by_cases h : j = k
  · subst h; rw [pk_us]
  · rw [pk_un h]
theorem sm_slips {np nr nt nf : Nat} {R S W TH : Nat → Int32} (hD : DR np nt nf R S) (hT : TW nt W TH) (hz : SZ np nr nt nf) {a t : Nat} (ha : a < nf) (ht : t < nt) :
    (k_letsLie_m99 TH S a t).1 = (d_slips W R a t).1 ∧ DR np nt nf (d_slips W R a t).2 (k_letsLie_m99 TH S a t).2 := by
  obtain ⟨z1, z2, z3, z4⟩ := hz
  obtain ⟨e1, w, hw1, hw2, ew⟩ := hT t ht
  have g2 := (hD.2.1 a ha).2.1
  have g6 := hD.2.2.2.2.2 a ha
  have g4 := hD.2.2.2.1 t ht
  have ex : ∀ v, upd S (10 + t) v (26 + a) = S (26 + a) := fun v => pk_un (by omega)
  simp only [k_letsLie_m99, d_slips, g4, ex, pk_us, upd_twice, e1, g2]
  by_cases h : R (41 + t) = nI a
  · rw [if_pos h, if_pos h]
    have hs : (R (7 + a) - W t).toInt = (R (7 + a)).toInt - w := by
      rw [pu_sub] <;> rw [ew, pu_nI (by omega)] <;> omega
    by_cases h2 : (-99) ≤ R (7 + a) - W t
    · rw [if_pos h2]
      refine ⟨rfl, ?_⟩
      have e9 : (if (-99) < R (7 + a) - W t then R (7 + a) - W t else (-99)) = R (7 + a) - W t := by
        by_cases h3 : (-99) < R (7 + a) - W t
        · rw [if_pos h3]
        · rw [if_neg h3, pu_eq]
          rw [pu_lt] at h3
          rw [pu_le] at h2
          omega
      rw [e9]
      rw [pu_le, pu_m99] at h2
      exact DR_drop hD ⟨z1, z3, z4⟩ ha ht h ⟨by omega, by omega⟩
    · rw [if_neg h2, if_neg (fun q => h2 (Int32.le_of_lt q))]
      exact ⟨rfl, DR_drop hD ⟨z1, z3, z4⟩ ha ht h (by rw [pu_m99]; omega)⟩
  · rw [if_neg h, if_neg h]
    exact ⟨rfl, hD⟩
theorem sm_loses {np nr nt nf : Nat} {R S W TH : Nat → Int32} (hD : DR np nt nf R S) (hT : TW nt W TH) (hz : SZ np nr nt nf) {a t : Nat} (ha : a < nf) (ht : t < nt) :
    (k_loses TH S a t).1 = (d_loses W R a t).1 ∧ DR np nt nf (d_loses W R a t).2 (k_loses TH S a t).2 := by
  obtain ⟨z1, z2, z3, z4⟩ := hz
  obtain ⟨e1, w, hw1, hw2, ew⟩ := hT t ht
  have g2 := (hD.2.1 a ha).2.1
  have g6 := hD.2.2.2.2.2 a ha
  have g4 := hD.2.2.2.1 t ht
  have ex : ∀ v, upd S (10 + t) v (26 + a) = S (26 + a) := fun v => pk_un (by omega)
  simp only [k_loses, k_letsLie_0, d_loses, g4, ex, pk_us, upd_twice, e1, g2]
  by_cases h0 : R (7 + a) ≤ 0
  · have h0' : ¬ 0 < R (7 + a) := by rw [Int32.not_lt]; exact h0
    rw [if_pos h0, if_neg h0']
    by_cases h : R (41 + t) = nI a
    · rw [if_pos h]; exact ⟨rfl, hD⟩
    · rw [if_neg h]; exact ⟨rfl, hD⟩
  · have h0' : 0 < R (7 + a) := by rw [← Int32.not_le]; exact h0
    rw [if_neg h0, if_pos h0']
    by_cases h : R (41 + t) = nI a
    · rw [if_pos h, if_pos h]
      have hs : (R (7 + a) - W t).toInt = (R (7 + a)).toInt - w := by
        rw [pu_sub] <;> rw [ew, pu_nI (by omega)] <;> omega
      rw [pu_lt, pu_z] at h0'
      by_cases h2 : nI 0 ≤ R (7 + a) - W t
      · rw [if_pos h2]
        simp only [if_neg pu_n10]
        refine ⟨trivial, ?_⟩
        have e9 : (if nI 0 < R (7 + a) - W t then R (7 + a) - W t else nI 0) = R (7 + a) - W t := by
          by_cases h3 : nI 0 < R (7 + a) - W t
          · rw [if_pos h3]
          · rw [if_neg h3, pu_eq]
            rw [pu_lt] at h3
            rw [pu_le] at h2
            omega
        rw [e9]
        rw [pu_le, pu_nI (by omega)] at h2
        exact DR_drop hD ⟨z1, z3, z4⟩ ha ht h ⟨by omega, by omega⟩
      · rw [if_neg h2, if_neg (fun q => h2 (Int32.le_of_lt q))]
        simp only [if_neg pu_n10]
        exact ⟨trivial, DR_drop hD ⟨z1, z3, z4⟩ ha ht h (by rw [pu_nI (by omega)]; omega)⟩
    · rw [if_neg h, if_neg h, if_pos pu_n01]
      exact ⟨rfl, hD⟩
