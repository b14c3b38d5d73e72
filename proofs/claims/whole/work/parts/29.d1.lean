/-! the pairs that fit -/
def Fit (np : Nat) (A : Nat → Int32) (V : Nat → Nat → Nat → Nat) (t q : Nat) : Prop := ∀ p, p < np → A p = -1 ∨ A p = nI (V p t q)
theorem ir_s {np : Nat} {W A R Ly : Nat → Int32} {V : Nat → Nat → Nat → Nat} {t q : Nat} (hV : ∀ p, p < np → s_worthThen W R Ly p (nI (10 * t + q)) = nI (V p t q) ∧ s_worthThen_ok W R Ly p (nI (10 * t + q))) : ∀ k i, i + k = np → s_isRight_2_ok W A R Ly (nI (10 * t + q)) k i ∧ ((s_isRight_2 W A R Ly (nI (10 * t + q)) k i = .inr () ∧ ∀ p, i ≤ p → p < np → A p = -1 ∨ A p = nI (V p t q)) ∨ (s_isRight_2 W A R Ly (nI (10 * t + q)) k i = .inl (nI 0) ∧ ∃ p, p < np ∧ ¬ (A p = -1 ∨ A p = nI (V p t q))))
  | 0, i, h => ⟨by simp only [s_isRight_2_ok], Or.inl ⟨by simp only [s_isRight_2], fun p h1 h2 => by omega⟩⟩
  | k + 1, i, h => by
    obtain ⟨v1, v2⟩ := hV i (by omega)
    obtain ⟨i1, i2⟩ := ir_s (A := A) hV k (i + 1) (by omega)
    by_cases a : A i = -1
    · refine ⟨by simp only [s_isRight_2_ok, if_pos a, i1], ?_⟩
      rcases i2 with ⟨e, f⟩ | ⟨e, f⟩
      · refine Or.inl ⟨by simp only [s_isRight_2, if_pos a, e], fun p h1 h2 => ?_⟩
        by_cases c : p = i
        · rw [c]; exact Or.inl a
        · exact f p (by omega) h2
      · exact Or.inr ⟨by simp only [s_isRight_2, if_pos a, e], f⟩
    · by_cases b : A i = nI (V i t q)
      · refine ⟨by simp only [s_isRight_2_ok, if_neg a, v1, v2, if_pos b, i1, and_self], ?_⟩
        rcases i2 with ⟨e, f⟩ | ⟨e, f⟩
        · refine Or.inl ⟨by simp only [s_isRight_2, if_neg a, v1, if_pos b, e], fun p h1 h2 => ?_⟩
          by_cases c : p = i
          · rw [c]; exact Or.inr b
          · exact f p (by omega) h2
        · exact Or.inr ⟨by simp only [s_isRight_2, if_neg a, v1, if_pos b, e], f⟩
      · refine ⟨by simp only [s_isRight_2_ok, if_neg a, v1, v2, if_neg b, and_self], Or.inr ⟨by simp only [s_isRight_2, if_neg a, v1, if_neg b], i, by omega, fun z => z.elim a b⟩⟩
theorem ir_k {np nt : Nat} {A TH S Z : Nat → Int32} {V : Nat → Nat → Nat → Nat} {t q : Nat} (hV : ∀ p, p < np → k_liesThen TH S nt (nI p) (nI t) (nI q) = nI (V p t q)) (hB : ∀ p, p < np → Z p = A p) : ∀ n, n ≤ np → (k_isFit_5 TH S Z nt (nI t) (nI q) n = nI 1 ∧ ∀ p, p < n → A p = -1 ∨ A p = nI (V p t q)) ∨ (k_isFit_5 TH S Z nt (nI t) (nI q) n = nI 0 ∧ ∃ p, p < n ∧ ¬ (A p = -1 ∨ A p = nI (V p t q)))
  | 0, _ => Or.inl ⟨by simp only [k_isFit_5], fun p hp => by omega⟩
  | n + 1, hn => by
    have v := hV n (by omega)
    have z := hB n (by omega)
    rcases ir_k hV hB n (by omega) with ⟨e, f⟩ | ⟨e, p, hp, f⟩
    · by_cases a : A n = -1
      · refine Or.inl ⟨by simp only [k_isFit_5, e, if_neg pu_n10, z, if_pos a], fun p hp => ?_⟩
        by_cases c : p = n
        · rw [c]; exact Or.inl a
        · exact f p (by omega)
      · by_cases b : A n = nI (V n t q)
        · refine Or.inl ⟨by simp only [k_isFit_5, e, if_neg pu_n10, z, if_neg a, v, if_pos b.symm], fun p hp => ?_⟩
          by_cases c : p = n
          · rw [c]; exact Or.inr b
          · exact f p (by omega)
        · exact Or.inr ⟨by simp only [k_isFit_5, e, if_neg pu_n10, z, if_neg a, v, if_neg (fun h : nI (V n t q) = A n => b h.symm)], n, by omega, fun z => z.elim a b⟩
    · exact Or.inr ⟨by simp only [k_isFit_5, e, if_pos pu_n01], p, by omega, f⟩
/-- what is known of the worths, in both systems -/
def VW (np nt : Nat) (W R Ly TH S : Nat → Int32) (V : Nat → Nat → Nat → Nat) : Prop := ∀ p t q, p < np → t < nt → q < np → V p t q ≤ 600 ∧ k_liesThen TH S nt (nI p) (nI t) (nI q) = nI (V p t q) ∧ s_worthThen W R Ly p (nI (10 * t + q)) = nI (V p t q) ∧ s_worthThen_ok W R Ly p (nI (10 * t + q))
theorem VW_of {np nr nt nf : Nat} {R S W TH Ly : Nat → Int32} (hD : DR np nt nf R S) (hT : TW nt W TH) (hz : SZ np nr nt nf) (hLy : ∀ p, p < np → Ly p = v_worthOf W nt (d_lyingAt R nt (nI p))) : ∃ V, VW np nt W R Ly TH S V := by
  refine ⟨fun p t q => ix (k_liesThen TH S nt (nI p) (nI t) (nI q)), fun p t q hp ht hq => ?_⟩
  obtain ⟨v, h1, h2, h3, h4⟩ := wt_eq hD hT hz hLy hp ht hq
  simp only [h2, h3, pu_ix (show v < 2147483648 by omega)]
  exact ⟨h1, trivial, trivial, h4⟩
theorem ir_eq {np nt : Nat} {W A R Ly TH S Z : Nat → Int32} {V : Nat → Nat → Nat → Nat} (hV : VW np nt W R Ly TH S V) (hB : ∀ p, p < np → Z p = A p) {t q : Nat} (ht : t < nt) (hq : q < np) :
    s_isRight_ok W A R Ly np (nI (10 * t + q)) ∧ ((Fit np A V t q ∧ s_isRight W A R Ly np (nI (10 * t + q)) = nI 1 ∧ k_isFit TH S Z np nt (nI t) (nI q) = nI 1) ∨ (¬ Fit np A V t q ∧ s_isRight W A R Ly np (nI (10 * t + q)) = nI 0 ∧ k_isFit TH S Z np nt (nI t) (nI q) = nI 0)) := by
  obtain ⟨a1, a2⟩ := ir_s (A := A) (fun p hp => (hV p t q hp ht hq).2.2) np 0 (by omega)
  have a3 := ir_k (A := A) (Z := Z) (fun p hp => (hV p t q hp ht hq).2.1) hB np (Nat.le_refl _)
  refine ⟨?_, ?_⟩
  · rcases a2 with ⟨e, -⟩ | ⟨e, -⟩
    · simp only [s_isRight_ok, a1, e, and_self]
    · simp only [s_isRight_ok, a1, e, and_self]
  · rcases a3 with ⟨f1, f2⟩ | ⟨f1, p, f2, f3⟩
    · refine Or.inl ⟨f2, ?_, by simp only [k_isFit]; exact f1⟩
      rcases a2 with ⟨e, -⟩ | ⟨e, p, e2, e3⟩
      · simp only [s_isRight, e]
      · exact absurd (f2 p e2) e3
    · refine Or.inr ⟨fun h => f3 (h p f2), ?_, by simp only [k_isFit]; exact f1⟩
      rcases a2 with ⟨e, e2⟩ | ⟨e, -⟩
      · exact absurd (e2 p (by omega) f2) f3
      · simp only [s_isRight, e]
noncomputable def PqR (F : Nat → Nat → Prop) (t : Nat) : Nat → List (Nat × Nat)
  | 0 => []
  | q + 1 => @ite _ (F t q) (Classical.propDecidable _) (PqR F t q ++ [(t, q)]) (PqR F t q)
noncomputable def PqL (F : Nat → Nat → Prop) (np : Nat) : Nat → List (Nat × Nat)
  | 0 => []
  | t + 1 => PqL F np t ++ PqR F t np
theorem PqR_t {F : Nat → Nat → Prop} {t q : Nat} (h : F t q) : PqR F t (q + 1) = PqR F t q ++ [(t, q)] := by
  simp only [PqR]
  exact if_pos h
theorem PqR_f {F : Nat → Nat → Prop} {t q : Nat} (h : ¬ F t q) : PqR F t (q + 1) = PqR F t q := by
  simp only [PqR]
  exact if_neg h
theorem PqR_len (F : Nat → Nat → Prop) (t : Nat) : ∀ n, (PqR F t n).length ≤ n
  | 0 => Nat.le_refl _
  | n + 1 => by
    have ih := PqR_len F t n
    by_cases c : F t n
    · rw [PqR_t c, List.length_append, List.length_singleton]; omega
    · rw [PqR_f c]; omega
theorem PqL_len (F : Nat → Nat → Prop) (np : Nat) : ∀ n, (PqL F np n).length ≤ np * n
  | 0 => Nat.zero_le _
  | n + 1 => by
    have ih := PqL_len F np n
    have h := PqR_len F n np
    simp only [PqL]
    rw [List.length_append, Nat.mul_succ]
    omega
theorem PqR_mem (F : Nat → Nat → Prop) (t : Nat) : ∀ n x, x ∈ PqR F t n → x.1 = t ∧ x.2 < n
  | 0, x, h => by simp only [PqR] at h; exact absurd h List.not_mem_nil
  | n + 1, x, h => by
    by_cases c : F t n
    · rw [PqR_t c] at h
      rcases List.mem_append.mp h with h | h
      · have := PqR_mem F t n x h
        exact ⟨this.1, by omega⟩
      · rw [List.mem_singleton.mp h]
        exact ⟨rfl, Nat.lt_succ_self n⟩
    · rw [PqR_f c] at h
      have := PqR_mem F t n x h
      exact ⟨this.1, by omega⟩
theorem PqL_mem (F : Nat → Nat → Prop) (np : Nat) : ∀ n x, x ∈ PqL F np n → x.1 < n ∧ x.2 < np
  | 0, x, h => by simp only [PqL] at h; exact absurd h List.not_mem_nil
  | n + 1, x, h => by
    simp only [PqL] at h
    rcases List.mem_append.mp h with h | h
    · have := PqL_mem F np n x h
      exact ⟨by omega, this.2⟩
    · have := PqR_mem F n np x h
      exact ⟨by omega, this.2⟩
/-- the row of pairs holds the list -/
def HPq (l : List (Nat × Nat)) (Q P : Nat → Int32) : Prop := Q 0 = nI l.length ∧ ∀ j x, l[j]? = some x → P j = nI (10 * x.1 + x.2)
theorem HPq.push {l : List (Nat × Nat)} {Q P : Nat → Int32} (h : HPq l Q P) (hl : l.length < 80) (t q : Nat) : HPq (l ++ [(t, q)]) (upd Q 0 (Q 0 + nI 1)) (upd P (ix (Q 0)) (nI (10 * t + q))) := by
  obtain ⟨h1, h2⟩ := h
  refine ⟨by rw [pk_us, h1, nI_add, List.length_append, List.length_singleton], fun j x hx => ?_⟩
  rw [h1, pu_ix (by omega)]
  by_cases c : j = l.length
  · rw [c, List.getElem?_append_right (Nat.le_refl _), Nat.sub_self] at hx
    have e : (t, q) = x := Option.some.inj hx
    rw [c, pk_us, ← e]
  · by_cases d : j < l.length
    · rw [pk_un c]
      rw [List.getElem?_append_left d] at hx
      exact h2 j x hx
    · rw [List.getElem?_append_right (by omega), List.getElem?_eq_none (by rw [List.length_singleton]; omega)] at hx
      cases hx
theorem l60 {np nt : Nat} {W A R Ly TH S Z : Nat → Int32} {V : Nat → Nat → Nat → Nat} (hV : VW np nt W R Ly TH S V) (hB : ∀ p, p < np → Z p = A p) {t : Nat} (ht : t < nt) {l : List (Nat × Nat)} {Q P : Nat → Int32} (hl : l.length + np ≤ 80) (h0 : HPq l Q P) : ∀ n, n ≤ np → HPq (l ++ PqR (Fit np A V) t n) (s_listPairs_60 W A R Q P Ly np t n).1 (s_listPairs_60 W A R Q P Ly np t n).2 ∧ ∀ i, i < n → s_listPairs_60_ok W A R Q P Ly np t i
  | 0, _ => by
    refine ⟨?_, fun i hi => by omega⟩
    simp only [PqR, s_listPairs_60, List.append_nil]
    exact h0
  | n + 1, hn => by
    obtain ⟨i1, i2⟩ := l60 hV hB ht hl h0 n (by omega)
    have ex : nI t * nI 10 + nI n = nI (10 * t + n) := by rw [pk_mul, nI_add, Nat.mul_comm]
    obtain ⟨r1, r2⟩ := ir_eq hV hB ht (show n < np by omega)
    have hlen : (l ++ PqR (Fit np A V) t n).length < 80 := by
      have := PqR_len (Fit np A V) t n
      rw [List.length_append]
      omega
    rcases w : s_listPairs_60 W A R Q P Ly np t n with ⟨q49, q50⟩
    rw [w] at i1
    simp only at i1
    have g : ¬ nI 80 ≤ q49 0 := by
      rw [i1.1]
      exact fun z => by
        have := (pu_lei (by omega) (by omega)).mp z
        omega
    refine ⟨?_, fun i hi => ?_⟩
    · rcases r2 with ⟨hF, e, -⟩ | ⟨hF, e, -⟩
      · simp only [s_listPairs_60, w, ex, e, if_neg pu_n10, if_neg g]
        rw [PqR_t hF, ← List.append_assoc]
        exact i1.push hlen t n
      · simp only [s_listPairs_60, w, ex, e, if_pos pu_n01]
        rw [PqR_f hF]
        exact i1
    · by_cases c : i = n
      · rw [c]
        simp only [s_listPairs_60_ok, w, ex]
        refine ⟨r1, ?_⟩
        rcases r2 with ⟨hF, e, -⟩ | ⟨hF, e, -⟩
        · rw [e, if_neg pu_n10, if_neg g, i1.1, pu_ix (by omega)]
          exact ⟨pu_isN (by omega), hlen, trivial⟩
        · rw [e, if_pos pu_n01]
          trivial
      · exact i2 i (by omega)
theorem l47 {np nt : Nat} {W A R Ly TH S Z : Nat → Int32} {V : Nat → Nat → Nat → Nat} (h8 : np ≤ 8) (h10 : nt ≤ 10) (hV : VW np nt W R Ly TH S V) (hB : ∀ p, p < np → Z p = A p) {Q P : Nat → Int32} (h0 : Q 0 = nI 0) : ∀ n, n ≤ nt → HPq (PqL (Fit np A V) np n) (s_listPairs_47 W A R Q P Ly np n).1 (s_listPairs_47 W A R Q P Ly np n).2 ∧ ∀ i, i < n → s_listPairs_47_ok W A R Q P Ly np i
  | 0, _ => by
    refine ⟨?_, fun i hi => by omega⟩
    simp only [PqL, s_listPairs_47]
    exact ⟨h0, fun j x hx => by cases hx⟩
  | n + 1, hn => by
    obtain ⟨i1, i2⟩ := l47 h8 h10 hV hB h0 (P := P) n (by omega)
    rcases w : s_listPairs_47 W A R Q P Ly np n with ⟨q49, q50⟩
    rw [w] at i1
    simp only at i1
    have hl : (PqL (Fit np A V) np n).length + np ≤ 80 := by
      have a := PqL_len (Fit np A V) np n
      have b : np * n + np ≤ 8 * 10 := by
        rw [← Nat.mul_succ]
        exact Nat.mul_le_mul h8 (by omega)
      omega
    obtain ⟨j1, j2⟩ := l60 hV hB (show n < nt by omega) hl i1 np (Nat.le_refl _)
    rcases w2 : s_listPairs_60 W A R q49 q50 Ly np n np with ⟨r19, r20⟩
    rw [w2] at j1
    simp only at j1
    refine ⟨?_, fun i hi => ?_⟩
    · simp only [s_listPairs_47, w, w2, PqL]
      exact j1
    · by_cases c : i = n
      · rw [c]
        simp only [s_listPairs_47_ok, w]
        exact ⟨j2, trivial⟩
      · exact i2 i (by omega)
theorem l2 (W R Ly : Nat → Int32) (nt : Nat) : ∀ n p, p < n → s_listPairs_2 W R Ly nt n p = v_worthOf W nt (d_lyingAt R nt (nI p))
  | 0, p, h => by omega
  | n + 1, p, h => by
    simp only [s_listPairs_2]
    by_cases c : p = n
    · rw [c, pk_us]
    · rw [pk_un c]
      exact l2 W R Ly nt n p (by omega)
/-- the list of the class, made whole -/
theorem lp_eq {np nr nt nf : Nat} {R S W TH A Z Q P Ly : Nat → Int32} (hD : DR np nt nf R S) (hT : TW nt W TH) (hz : SZ np nr nt nf) (hB : ∀ p, p < np → Z p = A p) : s_listPairs_ok W A R Q P Ly np nt ∧ ∃ V Q' P' Ly', s_listPairs W A R Q P Ly np nt = (0, Q', P', Ly') ∧ VW np nt W R Ly' TH S V ∧ HPq (PqL (Fit np A V) np nt) Q' P' := by
  obtain ⟨V, hV⟩ := VW_of hD hT hz (Ly := s_listPairs_2 W R Ly nt np) (fun p hp => l2 W R Ly nt np p hp)
  obtain ⟨i1, i2⟩ := l47 hz.1 hz.2.2.1 hV hB (Q := upd Q 0 (nI 0)) (P := P) pk_us nt (Nat.le_refl _)
  rcases w : s_listPairs_47 W A R (upd Q 0 (nI 0)) P (s_listPairs_2 W R Ly nt np) np nt with ⟨q49, q50⟩
  rw [w] at i1
  simp only at i1
  refine ⟨⟨trivial, i2, trivial⟩, V, q49, q50, s_listPairs_2 W R Ly nt np, ?_, hV, i1⟩
  simp only [s_listPairs, w]
