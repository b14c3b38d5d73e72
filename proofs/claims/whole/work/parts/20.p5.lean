/-! copies, and what is asked of a day -/
theorem cp51 (A B : Nat → Int32) (n : Nat) : ∀ m j, k_copies_L51_L51_3 A B n m j = if j < m then A j else B j
  | 0, j => by simp [k_copies_L51_L51_3]
  | m + 1, j => by
    simp only [k_copies_L51_L51_3]
    by_cases h : j = m
    · subst h
      rw [pk_us, if_pos (by omega)]
    · rw [pk_un h, cp51 A B n m j]
      by_cases h2 : j < m
      · rw [if_pos h2, if_pos (by omega)]
      · rw [if_neg h2, if_neg (by omega)]
theorem take_at (N s : Nat → Int32) {j : Nat} (h : j < 51) : (k_take N s).2 j = N j := by
  simp only [k_take, k_copies_L51_L51]
  rw [cp51, cN_eq, if_pos h]
theorem take_ok (N s : Nat → Int32) : k_take_ok N s := by
  simp only [k_take_ok, k_copies_L51_L51_ok, k_copies_L51_L51_3_ok, cN_eq, and_true]
  exact fun i hi => hi
theorem DR_cg {np nt nf : Nat} {R S R' S' : Nat → Int32} (hD : DR np nt nf R S) (ht : nt ≤ 10) (hf : nf ≤ 6) (hR : ∀ j, j < 51 → R' j = R j) (hS : ∀ j, j < 51 → S' j = S j) : DR np nt nf R' S' := by
  obtain ⟨h1, h2, h3, h4, h5, h6⟩ := hD
  refine ⟨?_, fun b hb => ?_, fun b hb => ?_, fun u hu => ?_, fun u hu => ?_, fun b hb => ?_⟩
  · rw [hR _ (by omega), hS _ (by omega)]; exact h1
  · rw [hR _ (by omega), hS _ (by omega), hR _ (by omega), hS _ (by omega), hR _ (by omega), hS _ (by omega), hR _ (by omega), hS _ (by omega), hR _ (by omega), hS _ (by omega)]; exact h2 b hb
  · rw [hR _ (by omega)]; exact h3 b hb
  · rw [hR _ (by omega), hS _ (by omega)]; exact h4 u hu
  · rw [hR _ (by omega), hR _ (by omega), hS _ (by omega)]
    rcases h5 u hu with g | ⟨b, hb, g1, g2, g3⟩
    · exact Or.inl g
    · exact Or.inr ⟨b, hb, g1, g2, by rw [hR _ (by omega)]; exact g3⟩
  · rw [hR _ (by omega), hR _ (by omega)]; exact h6 b hb
theorem DR_take {np nt nf : Nat} {R N s : Nat → Int32} (hD : DR np nt nf R N) (ht : nt ≤ 10) (hf : nf ≤ 6) : DR np nt nf R (k_take N s).2 := DR_cg hD ht hf (fun _ _ => rfl) (fun _ h => take_at N s h)
theorem fa_eq {R S : Nat → Int32} (x y : Int32) : ∀ n, (∀ a, a < n → S (20 + a) = R (1 + a)) → k_place_67 S x y n = d_findersAt_4 R x n
  | 0, _ => rfl
  | n + 1, h => by
    simp only [k_place_67, d_findersAt_4, fa_eq x y n (fun t ht => h t (by omega)), h n (by omega), pu_or0]
theorem ra_eq {np nr : Nat} {A B L RO : Nat → Int32} (hT : TRo np nr A B L RO) (hp : np ≤ 8) (x y z : Int32) : ∀ n, n ≤ nr → k_place_113 RO x y z n = v_roadsAt_4 A B x n
  | 0, _ => rfl
  | n + 1, h => by
    obtain ⟨e1, e2, e3, a, b, l, ha, hb, hab, hl1, hl9, eA, eB, eL⟩ := hT n (by omega)
    simp only [k_place_113, v_roadsAt_4, ra_eq hT hp x y z n (by omega), e1, e2, pu_add0]
    by_cases h1 : A n = x
    · have ho : v_otherEnd A B n x = nI b := by rw [v_otherEnd, if_pos h1, eB]
      rw [if_pos h1, if_neg (by rw [ho]; exact pu_nm (by omega))]
    · rw [if_neg h1]
      by_cases h2 : B n = x
      · have ho : v_otherEnd A B n x = nI a := by rw [v_otherEnd, if_neg h1, if_pos h2, eA]
        rw [if_pos h2, if_neg (by rw [ho]; exact pu_nm (by omega))]
      · have ho : v_otherEnd A B n x = -1 := by rw [v_otherEnd, if_neg h1, if_neg h2]
        rw [if_neg h2, if_pos ho]
theorem sh_eq {R S : Nat → Int32} : ∀ n, (∀ a, a < n → S (44 + a) = R (25 + a)) → k_sumOf_44_4 S n = d_shames_4 R n
  | 0, _ => rfl
  | n + 1, h => by
    simp only [k_sumOf_44_4, d_shames_4, sh_eq n (fun t ht => h t (by omega)), h n (by omega)]
theorem ev_eq {R S : Nat → Int32} : ∀ n, (∀ a, a < n → S (26 + a) = R (7 + a)) → k_owing_4 S 0 n = d_even_4 R n
  | 0, _ => rfl
  | n + 1, h => by
    simp only [k_owing_4, d_even_4, ev_eq n (fun t ht => h t (by omega)), h n (by omega), pu_or0, ↓reduceIte]
theorem ow_eq {R S : Nat → Int32} : ∀ n, (∀ a, a < n → S (26 + a) = R (7 + a)) → k_owing_4 S (nI 1) n = d_owing_4 R n
  | 0, _ => rfl
  | n + 1, h => by
    simp only [k_owing_4, d_owing_4, ow_eq n (fun t ht => h t (by omega)), h n (by omega), pu_or0, if_neg pu_n10]
theorem ah_eq {np nt nf : Nat} {R S : Nat → Int32} (hD : DR np nt nf R S) : k_allHeld S nt = d_heldByAll R nt := by
  simp only [k_allHeld, d_heldByAll, k_allLying, d_heldBy, al_eq nt hD.2.2.2.1]
theorem lw_eq {np nt nf : Nat} {R S W TH : Nat → Int32} (hD : DR np nt nf R S) (hT : TW nt W TH) : k_worthOf TH nt (k_allLying S nt) = d_lyingWorth W R nt := by
  simp only [k_worthOf, d_lyingWorth, v_worthOf, k_allLying, d_heldBy, al_eq nt hD.2.2.2.1, wo_eq hT _ nt (Nat.le_refl _)]
/-! refusals -/
theorem wi_t {x lo hi : Int32} (h : ¬ x < lo ∧ x ≤ hi) : k_within x lo hi = nI 1 := by
  simp only [k_within, h.1, Int32.not_lt.mpr h.2, ↓reduceIte]
theorem wi_f {x lo hi : Int32} (h : ¬ (¬ x < lo ∧ x ≤ hi)) : k_within x lo hi = nI 0 := by
  simp only [k_within]
  by_cases h1 : x < lo
  · rw [if_pos h1]
  · rw [if_neg h1]
    by_cases h2 : hi < x
    · rw [if_pos h2]
    · exact absurd ⟨h1, Int32.not_lt.mp h2⟩ h
theorem may1_t {m f : Nat → Int32} {c : Int32} (h : m 0 = 0) : k_may_1 m f (nI 1) c = (nI 1, m, f) := by
  simp only [k_may_1, if_neg pu_n10, h, ↓reduceIte]
theorem may1_f {m f : Nat → Int32} {c : Int32} (h : m 0 = 0) (hc : ¬ c = 0) : k_may_1 m f (nI 0) c = (nI 0, upd m 0 c, upd f 1 (f 1 + nI 1)) := by
  simp only [k_may_1, pu_n01, h, hc, ↓reduceIte]
theorem may0_t {m f : Nat → Int32} {c : Int32} (h : m 0 = 0) : k_may_0 m f (nI 1) c = (nI 1, m, f) := by
  simp only [k_may_0, if_neg pu_n10, h, ↓reduceIte]
theorem may0_f {m f : Nat → Int32} {c : Int32} (h : m 0 = 0) (hc : ¬ c = 0) : k_may_0 m f (nI 0) c = (nI 0, upd m 0 c, upd f 0 (f 0 + nI 1)) := by
  simp only [k_may_0, pu_n01, h, hc, ↓reduceIte]
theorem nse_iff {x : Int32} {n : Nat} (hn : n ≤ 100) : (¬ x < 0 ∧ x < nI n) ↔ (¬ x < nI 0 ∧ x ≤ nI n - nI 1) := by
  rw [nI_0]
  have e : (nI n - nI 1).toInt = (n : Int) - 1 := by
    rw [pu_sub] <;> rw [pu_nI (by omega), pu_nI (by omega)] <;> omega
  constructor
  · intro h
    refine ⟨h.1, ?_⟩
    have := h.2
    rw [pu_lt, pu_nI (by omega)] at this
    rw [pu_le, e]; omega
  · intro h
    refine ⟨h.1, ?_⟩
    have := h.2
    rw [pu_le, e] at this
    rw [pu_lt, pu_nI (by omega)]; omega
theorem isF_t {m f : Nat → Int32} {c x : Int32} {n : Nat} (hn : n ≤ 100) (h : m 0 = 0) (hx : ¬ x < 0 ∧ x < nI n) : k_isFinder m f n x c = (nI 1, m, f) := by
  simp only [k_isFinder, wi_t ((nse_iff hn).mp hx), may0_t h]
theorem isF_f {m f : Nat → Int32} {c x : Int32} {n : Nat} (hn : n ≤ 100) (h : m 0 = 0) (hc : ¬ c = 0) (hx : ¬ (¬ x < 0 ∧ x < nI n)) : k_isFinder m f n x c = (nI 0, upd m 0 c, upd f 0 (f 0 + nI 1)) := by
  simp only [k_isFinder, wi_f (fun q => hx ((nse_iff hn).mpr q)), may0_f h hc]
theorem isT_t {m f : Nat → Int32} {c x : Int32} {n : Nat} (hn : n ≤ 100) (h : m 0 = 0) (hx : ¬ x < 0 ∧ x < nI n) : k_isThing m f n x c = (nI 1, m, f) := by
  simp only [k_isThing, wi_t ((nse_iff hn).mp hx), may0_t h]
theorem isT_f {m f : Nat → Int32} {c x : Int32} {n : Nat} (hn : n ≤ 100) (h : m 0 = 0) (hc : ¬ c = 0) (hx : ¬ (¬ x < 0 ∧ x < nI n)) : k_isThing m f n x c = (nI 0, upd m 0 c, upd f 0 (f 0 + nI 1)) := by
  simp only [k_isThing, wi_f (fun q => hx ((nse_iff hn).mpr q)), may0_f h hc]
theorem isP_t {m f : Nat → Int32} {c x : Int32} {n : Nat} (hn : n ≤ 100) (h : m 0 = 0) (hx : ¬ x < 0 ∧ x < nI n) : k_isPlace m f n x c = (nI 1, m, f) := by
  simp only [k_isPlace, wi_t ((nse_iff hn).mp hx), may0_t h]
theorem isP_f {m f : Nat → Int32} {c x : Int32} {n : Nat} (hn : n ≤ 100) (h : m 0 = 0) (hc : ¬ c = 0) (hx : ¬ (¬ x < 0 ∧ x < nI n)) : k_isPlace m f n x c = (nI 0, upd m 0 c, upd f 0 (f 0 + nI 1)) := by
  simp only [k_isPlace, wi_f (fun q => hx ((nse_iff hn).mpr q)), may0_f h hc]
