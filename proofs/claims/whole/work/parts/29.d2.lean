/-! how many pairs fit, and the first -/
def hdp : List (Nat × Nat) → Int32
  | [] => -1
  | x :: _ => nI (10 * x.1 + x.2)
theorem hdp_app {l : List (Nat × Nat)} (h : ∀ x, x ∈ l → x.1 < 10 ∧ x.2 < 10) (t q : Nat) : (if hdp l = -1 then nI (10 * t + q) else hdp l) = hdp (l ++ [(t, q)]) := by
  cases l with
  | nil => exact if_pos rfl
  | cons x l =>
    have hx := h x List.mem_cons_self
    exact if_neg (pu_nm (by omega))
theorem f45 {np nt : Nat} {W A R Ly TH S Z : Nat → Int32} {V : Nat → Nat → Nat → Nat} (h8 : np ≤ 8) (h10 : nt ≤ 10) (hV : VW np nt W R Ly TH S V) (hB : ∀ p, p < np → Z p = A p) {t : Nat} (ht : t < nt) {l : List (Nat × Nat)} (hm : ∀ x, x ∈ l → x.1 < 10 ∧ x.2 < 10) (y : Int32) : ∀ n, n ≤ np → k_fits_45 TH S Z np nt y t (nI l.length) (hdp l) n = (nI (l ++ PqR (Fit np A V) t n).length, hdp (l ++ PqR (Fit np A V) t n))
  | 0, _ => by
    simp only [PqR, k_fits_45, List.append_nil]
  | n + 1, hn => by
    have ih := f45 h8 h10 hV hB ht hm y n (by omega)
    have ex : nI 10 * nI t + nI n = nI (10 * t + n) := by rw [pk_mul, nI_add]
    obtain ⟨-, r2⟩ := ir_eq hV hB ht (show n < np by omega)
    have hm' : ∀ x, x ∈ l ++ PqR (Fit np A V) t n → x.1 < 10 ∧ x.2 < 10 := fun x hx => by
      rcases List.mem_append.mp hx with h | h
      · exact hm x h
      · have := PqR_mem _ _ _ x h
        omega
    rcases r2 with ⟨hF, -, e⟩ | ⟨hF, -, e⟩
    · have ha := hdp_app hm' t n
      simp only [k_fits_45, ih, ex, e, if_neg pu_n10]
      rw [PqR_t hF, ← List.append_assoc, ← ha, List.length_append (as := l ++ PqR (Fit np A V) t n), List.length_singleton, nI_add]
      split
      · rfl
      · rfl
    · simp only [k_fits_45, ih, ex, e, if_pos pu_n01]
      rw [PqR_f hF]
theorem f33 {np nt : Nat} {W A R Ly TH S Z : Nat → Int32} {V : Nat → Nat → Nat → Nat} (h8 : np ≤ 8) (h10 : nt ≤ 10) (hV : VW np nt W R Ly TH S V) (hB : ∀ p, p < np → Z p = A p) (y : Int32) : ∀ n, n ≤ nt → k_fits_33 TH S Z np nt y n = (nI (PqL (Fit np A V) np n).length, hdp (PqL (Fit np A V) np n))
  | 0, _ => by
    simp only [PqL, k_fits_33, hdp, List.length_nil]
  | n + 1, hn => by
    have ih := f33 h8 h10 hV hB y n (by omega)
    have hm : ∀ x, x ∈ PqL (Fit np A V) np n → x.1 < 10 ∧ x.2 < 10 := fun x hx => by
      have := PqL_mem _ _ _ x hx
      omega
    have j := f45 h8 h10 hV hB (show n < nt by omega) hm y np (Nat.le_refl _)
    simp only [k_fits_33, ih, j, PqL]
theorem op_fits {np nr nt nf : Nat} {M : Mem} (h : IV np nr nt nf M) (x1 : Int32) : EO_fits M np nt x1 ∧ Ag 1 0 (e_fits M np nt x1) (fun N => KO_fits N x1) (fun N => K_fits N x1) := by
  obtain ⟨⟨z1, z2, z3, z4⟩, ⟨s1, s2, s3, s4⟩, ⟨c1, c2, c3, c4⟩, ⟨t1, t2, t3⟩, hL, hDd, hH, hI, hTP, ⟨b1, b2, b3, b4, b5⟩, hBK⟩ := id h
  obtain ⟨hD, -⟩ := id hDd
  have hd := DR_take (s := M.1 72) hD z3 z4
  have q20 : upd (M.1 54) 0 (nI 0) 20 = nI np := by rw [pk_un (by decide)]; exact c1
  have q22 : upd (M.1 54) 0 (nI 0) 22 = nI nt := by rw [pk_un (by decide)]; exact c3
  have i20 : ix (nI np) = np := pu_ix (by omega)
  have i22 : ix (nI nt) = nt := pu_ix (by omega)
  have n20 : isN (nI np) := pu_isN (by omega)
  have n22 : isN (nI nt) := pu_isN (by omega)
  have hz : SZ np nr nt nf := ⟨z1, z2, z3, z4⟩
  by_cases hx1 : ¬ x1 < nI 0 ∧ x1 ≤ nI 1
  · obtain ⟨g1, V, Q', P', Ly', g2, g3, g4⟩ := lp_eq (A := M.1 30) (Z := M.1 75) (Q := M.1 49) (P := M.1 50) (Ly := M.1 51) hd t1 hz (fun p hp => (hBK p hp).1)
    have k33 := f33 z1 z3 g3 (fun p hp => (hBK p hp).1) x1 nt (Nat.le_refl _)
    generalize hl : PqL (Fit np (M.1 30) V) np nt = l at g4 k33
    have hm : ∀ x, x ∈ l → x.1 < 10 ∧ x.2 < 10 := fun x hx => by
      rw [← hl] at hx
      have := PqL_mem _ _ _ x hx
      omega
    have hlen : l.length ≤ 80 := by
      have a := PqL_len (Fit np (M.1 30) V) np nt
      have b : np * nt ≤ 8 * 10 := Nat.mul_le_mul z1 z3
      rw [hl] at a
      omega
    rcases y6 : k_take (M.1 71) (M.1 72) with ⟨u6, r6⟩
    rw [y6] at k33
    simp only at k33
    have kg : k_fits (M.1 54) (M.1 55) (M.1 61) (M.1 71) (M.1 72) (M.1 75) x1 = (if x1 = 0 then nI l.length else hdp l, upd (M.1 54) 0 (nI 0), M.1 55, r6) := by
      simp only [k_fits, wi_t hx1, may1_t (t0 _), if_neg pu_n10, y6, q20, q22, i20, i22, k33]
      by_cases a : x1 = 0
      · rw [if_pos a, if_pos a]
      · rw [if_neg a, if_neg a]
    have kgo : k_fits_ok (M.1 54) (M.1 55) (M.1 61) (M.1 71) (M.1 72) (M.1 75) x1 := by
      simp only [k_fits_ok, wi_t hx1, may1_t (t0 _), if_neg pu_n10, take_ok, y6, q20, q22, i20, i22, n20, n22, z1, z3, and_self]
    have eg : e_fits M np nt x1 = .inl (some (.int (if x1 = 0 then nI l.length else hdp l)), mrow (mrow (mrow M 49 Q') 50 P') 51 Ly') := by
      simp only [e_fits, if_pos hx1, g2]
      by_cases a : x1 = 0
      · rw [if_pos a, if_pos a, g4.1]
      · rw [if_neg a, if_neg a, g4.1]
        cases l with
        | nil => exact if_pos ((le0 (by decide)).mpr rfl)
        | cons x l =>
          have ne : ¬ nI (x :: l).length ≤ 0 := fun z => by
            have := (le0 (by omega)).mp z
            rw [List.length_cons] at this
            omega
          rw [if_neg ne, g4.2 0 x rfl]
          rfl
    refine ⟨⟨z1, s1, z3, s3, by simp only [e_fits_ok, if_pos hx1, g1, and_self]⟩, Ag.good h _ _ _ eg ?_ ?_ ?_ ?_ ?_ ?_⟩
    · simp only [KO_fits, mrow_hit, mrow_miss, ne_eq, Nat.reduceEqDiff, not_false_eq_true, reduceCtorEq, kgo, and_self]
    · simp only [K_fits, mrow_hit, mrow_miss, ne_eq, Nat.reduceEqDiff, not_false_eq_true, reduceCtorEq, kg]
    · simp only [K_fits, mrow_hit, mrow_miss, ne_eq, Nat.reduceEqDiff, not_false_eq_true, reduceCtorEq, kg]
    · simp only [K_fits, mrow_hit, mrow_miss, ne_eq, Nat.reduceEqDiff, not_false_eq_true, reduceCtorEq, kg]
    · simp only [K_fits, mrow_hit, mrow_miss, ne_eq, Nat.reduceEqDiff, not_false_eq_true, reduceCtorEq]
    · intro c hc
      simp only [K_fits]
      rw [mrow_miss _ _ (scr_ne hc rfl), mrow_miss _ _ (scr_ne hc rfl), mrow_miss _ _ (scr_ne hc rfl), mrow_miss _ _ (scr_ne hc rfl), mrow_miss _ _ (scr_ne hc rfl), mrow_miss _ _ (scr_ne hc rfl)]
  · refine ⟨⟨z1, s1, z3, s3, by simp only [e_fits_ok, if_neg hx1]⟩, Ag.bad1 h (by decide) _ (by simp only [e_fits, if_neg hx1]) ?_ ?_ ?_ ?_ ?_⟩
    · simp only [KO_fits, k_fits_ok, mrow_hit, mrow_miss, ne_eq, Nat.reduceEqDiff, not_false_eq_true, reduceCtorEq, wi_f hx1, may1_f (t0 _) pu_n10, if_pos pu_n01, and_self]
    · simp only [K_fits, k_fits, mrow_hit, mrow_miss, ne_eq, Nat.reduceEqDiff, not_false_eq_true, reduceCtorEq, wi_f hx1, may1_f (t0 _) pu_n10, if_pos pu_n01]
    · simp only [K_fits, k_fits, mrow_hit, mrow_miss, ne_eq, Nat.reduceEqDiff, not_false_eq_true, reduceCtorEq, wi_f hx1, may1_f (t0 _) pu_n10, if_pos pu_n01]
    · simp only [K_fits, mrow_hit, mrow_miss, ne_eq, Nat.reduceEqDiff, not_false_eq_true, reduceCtorEq]
    · intro c hc
      simp only [K_fits]
      rw [mrow_miss _ _ (scr_ne hc rfl), mrow_miss _ _ (scr_ne hc rfl), mrow_miss _ _ (scr_ne hc rfl), mrow_miss _ _ (scr_ne hc rfl)]
