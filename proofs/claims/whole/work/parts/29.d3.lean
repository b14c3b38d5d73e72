/-! how many are left at worst -/
def stq (v : Nat × Nat → Nat) (p : Int32 × (Nat → Int32)) (x : Nat × Nat) : Int32 × (Nat → Int32) := (if p.1 < p.2 (v x) + nI 1 then p.2 (v x) + nI 1 else p.1, upd p.2 (v x) (p.2 (v x) + nI 1))
theorem stq_cg {v : Nat × Nat → Nat} : ∀ (l : List (Nat × Nat)) (s : Int32) (T T' : Nat → Int32), (∀ x, x ∈ l → v x ≤ 600) → (∀ j, j ≤ 600 → T j = T' j) → (l.foldl (stq v) (s, T)).1 = (l.foldl (stq v) (s, T')).1
  | [], s, T, T', _, _ => rfl
  | x :: l, s, T, T', hv, hT => by
    have hx := hv x List.mem_cons_self
    simp only [List.foldl_cons, stq, hT (v x) hx]
    refine stq_cg l _ _ _ (fun y hy => hv y (List.mem_cons_of_mem _ hy)) (fun j hj => ?_)
    by_cases c : j = v x
    · rw [c, pk_us, pk_us]
    · rw [pk_un c, pk_un c]
      exact hT j hj
theorem stq_bd {v : Nat × Nat → Nat} : ∀ (l : List (Nat × Nat)) (m K : Nat) (T : Nat → Int32), m ≤ K → K + l.length < 1000 → (∀ j, ∃ c, c ≤ K ∧ T j = nI c) → ∃ m', m' ≤ K + l.length ∧ (l.foldl (stq v) (nI m, T)).1 = nI m'
  | [], m, K, T, h1, h2, h3 => ⟨m, by omega, rfl⟩
  | x :: l, m, K, T, h1, h2, h3 => by
    rw [List.length_cons] at h2 ⊢
    obtain ⟨c, hc, ec⟩ := h3 (v x)
    have hT : ∀ j, ∃ d, d ≤ K + 1 ∧ upd T (v x) (nI (c + 1)) j = nI d := fun j => by
      by_cases g : j = v x
      · exact ⟨c + 1, by omega, by rw [g, pk_us]⟩
      · obtain ⟨d, hd, ed⟩ := h3 j
        exact ⟨d, by omega, by rw [pk_un g]; exact ed⟩
    simp only [List.foldl_cons, stq, ec, nI_add]
    by_cases g : m < c + 1
    · rw [if_pos ((pu_lti (show m < 2147483648 by omega) (show c + 1 < 2147483648 by omega)).mpr g)]
      obtain ⟨m', h4, h5⟩ := stq_bd l (c + 1) (K + 1) (upd T (v x) (nI (c + 1))) (by omega) (by omega) hT
      exact ⟨m', by omega, h5⟩
    · rw [if_neg (fun z => g ((pu_lti (show m < 2147483648 by omega) (show c + 1 < 2147483648 by omega)).mp z))]
      obtain ⟨m', h4, h5⟩ := stq_bd l m (K + 1) (upd T (v x) (nI (c + 1))) (by omega) (by omega) hT
      exact ⟨m', by omega, h5⟩
def wst (v : Nat × Nat → Nat) (l : List (Nat × Nat)) : Int32 := (l.foldl (stq v) (nI 0, fun _ => nI 0)).1
theorem wst_bd {v : Nat × Nat → Nat} {l : List (Nat × Nat)} (h : l.length ≤ 80) : ∃ m, m ≤ 80 ∧ wst v l = nI m := by
  obtain ⟨m, h1, h2⟩ := stq_bd (v := v) l 0 0 (fun _ => nI 0) (Nat.le_refl _) (by omega) (fun j => ⟨0, Nat.le_refl _, rfl⟩)
  exact ⟨m, by omega, h2⟩
theorem lw12 {W R Q P Ly : Nat → Int32} {p : Nat} {v : Nat × Nat → Nat} {l : List (Nat × Nat)} (hP : HPq l Q P) (hl : l.length ≤ 80) (hv : ∀ x, x ∈ l → v x ≤ 600 ∧ s_worthThen W R Ly p (nI (10 * x.1 + x.2)) = nI (v x) ∧ s_worthThen_ok W R Ly p (nI (10 * x.1 + x.2))) : ∀ (k i : Nat) (s : Int32) (T : Nat → Int32), i ≤ l.length → l.length < i + k → s_leftAtWorst_12_ok W R Q P Ly p k s (nI i) T ∧ (s_leftAtWorst_12 W R Q P Ly p k s (nI i) T).1 = ((l.drop i).foldl (stq v) (s, T)).1
  | 0, i, s, T, h1, h2 => by omega
  | k + 1, i, s, T, h1, h2 => by
    by_cases c : i = l.length
    · have f : Q 0 ≤ nI i := by
        rw [hP.1]
        exact (pu_lei (by omega) (by omega)).mpr (by omega)
      refine ⟨by simp only [s_leftAtWorst_12_ok, if_pos f], ?_⟩
      simp only [s_leftAtWorst_12, if_pos f]
      rw [List.drop_eq_nil_of_le (by omega)]
      rfl
    · have f : ¬ Q 0 ≤ nI i := by
        rw [hP.1]
        exact fun z => by
          have := (pu_lei (by omega) (by omega)).mp z
          omega
      have hi : i < l.length := by omega
      have hx := hP.2 i l[i] (List.getElem?_eq_getElem hi)
      obtain ⟨v1, v2, v3⟩ := hv l[i] (List.getElem_mem hi)
      have hdr : l.drop i = l[i] :: l.drop (i + 1) := List.drop_eq_getElem_cons hi
      generalize l[i] = x at hx v1 v2 v3 hdr
      have ii : ix (nI i) = i := pu_ix (by omega)
      have yi : isN (nI i) := pu_isN (by omega)
      have iv : ix (nI (v x)) = v x := pu_ix (by omega)
      have yv : isN (nI (v x)) := pu_isN (by omega)
      have w0 : ¬ nI (v x) < 0 := fun z => by
        rw [← nI_0] at z
        have := (pu_lti (by omega) (by omega)).mp z
        omega
      have w6 : ¬ nI 601 ≤ nI (v x) := fun z => by
        have := (pu_lei (by omega) (by omega)).mp z
        omega
      obtain ⟨j1, j2⟩ := lw12 hP hl hv k (i + 1) (if s < T (v x) + nI 1 then T (v x) + nI 1 else s) (upd T (v x) (T (v x) + nI 1)) (by omega) (by omega)
      refine ⟨?_, ?_⟩
      · simp only [s_leftAtWorst_12_ok, if_neg f, ii, yi, hx, v2, v3, if_neg w0, if_neg w6, iv, yv, pk_us, nI_add, show i < 80 by omega, show v x < 601 by omega, j1, and_self]
      · simp only [s_leftAtWorst_12, if_neg f, ii, hx, v2, if_neg w0, if_neg w6, iv, pk_us, nI_add]
        rw [hdr, List.foldl_cons]
        exact j2
theorem w37 {np nt : Nat} {W A R Ly TH S Z : Nat → Int32} {V : Nat → Nat → Nat → Nat} (hV : VW np nt W R Ly TH S V) (hB : ∀ p, p < np → Z p = A p) {p t : Nat} (hp : p < np) (ht : t < nt) (a : Int32) (T : Nat → Int32) : ∀ n, n ≤ np → k_worstOf_37 TH S Z T np nt (nI p) t a n = (PqR (Fit np A V) t n).foldl (stq (fun x => V p x.1 x.2)) (a, T) ∧ ∀ i, i < n → k_worstOf_37_ok TH S Z T np nt (nI p) t a i
  | 0, _ => ⟨by simp only [PqR, k_worstOf_37, List.foldl_nil], fun i hi => by omega⟩
  | n + 1, hn => by
    obtain ⟨i1, i2⟩ := w37 hV hB hp ht a T n (by omega)
    obtain ⟨-, r2⟩ := ir_eq hV hB ht (show n < np by omega)
    obtain ⟨v1, v2, -⟩ := hV p t n hp ht (by omega)
    have iv : ix (nI (V p t n)) = V p t n := pu_ix (by omega)
    rcases w : (PqR (Fit np A V) t n).foldl (stq (fun x => V p x.1 x.2)) (a, T) with ⟨s2, q78⟩
    rw [w] at i1
    refine ⟨?_, fun i hi => ?_⟩
    · rcases r2 with ⟨hF, -, e⟩ | ⟨hF, -, e⟩
      · rw [PqR_t hF, List.foldl_append, w, List.foldl_cons, List.foldl_nil]
        simp only [k_worstOf_37, i1, e, if_neg pu_n10, v2, iv, pk_us, stq]
        rw [mx_eq]
        split
        · rfl
        · rfl
      · rw [PqR_f hF, w]
        simp only [k_worstOf_37, i1, e, if_pos pu_n01]
    · by_cases c : i = n
      · rw [c]
        simp only [k_worstOf_37_ok, i1]
        rcases r2 with ⟨hF, -, e⟩ | ⟨hF, -, e⟩
        · rw [e, if_neg pu_n10, v2, iv]
          exact ⟨trivial, trivial, pu_isN (by omega), by omega, trivial⟩
        · rw [e, if_pos pu_n01]
          exact ⟨trivial, trivial⟩
      · exact i2 i (by omega)
theorem w26 {np nt : Nat} {W A R Ly TH S Z : Nat → Int32} {V : Nat → Nat → Nat → Nat} (hV : VW np nt W R Ly TH S V) (hB : ∀ p, p < np → Z p = A p) {p : Nat} (hp : p < np) (T : Nat → Int32) : ∀ n, n ≤ nt → k_worstOf_26 TH S Z T np nt (nI p) n = (PqL (Fit np A V) np n).foldl (stq (fun x => V p x.1 x.2)) (nI 0, T) ∧ ∀ i, i < n → k_worstOf_26_ok TH S Z T np nt (nI p) i
  | 0, _ => ⟨by simp only [PqL, k_worstOf_26, List.foldl_nil], fun i hi => by omega⟩
  | n + 1, hn => by
    obtain ⟨i1, i2⟩ := w26 hV hB hp T n (by omega)
    rcases w : (PqL (Fit np A V) np n).foldl (stq (fun x => V p x.1 x.2)) (nI 0, T) with ⟨s2, q78⟩
    rw [w] at i1
    obtain ⟨j1, j2⟩ := w37 hV hB hp (show n < nt by omega) s2 q78 np (Nat.le_refl _)
    refine ⟨?_, fun i hi => ?_⟩
    · simp only [k_worstOf_26, i1, PqL]
      rw [List.foldl_append, w, j1]
    · by_cases c : i = n
      · rw [c]
        simp only [k_worstOf_26_ok, i1]
        exact ⟨j2, trivial⟩
      · exact i2 i (by omega)
theorem w2z (T : Nat → Int32) (y : Int32) : ∀ n j, j < n → k_worstOf_2 T y n j = nI 0
  | 0, j, h => by omega
  | n + 1, j, h => by
    simp only [k_worstOf_2]
    by_cases c : j = n
    · rw [c, pk_us]
    · rw [pk_un c]
      exact w2z T y n j (by omega)
theorem f601 (T : Nat → Int32) (y : Int32) : ∀ n j, j < n → J7_fill_53178_L601_5 T y n j = y
  | 0, j, h => by omega
  | n + 1, j, h => by
    simp only [J7_fill_53178_L601_5]
    by_cases c : j = n
    · rw [c, pk_us]
    · rw [pk_un c]
      exact f601 T y n j (by omega)
theorem kw_eq {np nt : Nat} {W A R Ly TH S Z : Nat → Int32} {V : Nat → Nat → Nat → Nat} (hV : VW np nt W R Ly TH S V) (hB : ∀ p, p < np → Z p = A p) {p : Nat} (hp : p < np) (T : Nat → Int32) : k_worstOf_ok TH S Z T np nt (nI p) ∧ (k_worstOf TH S Z T np nt (nI p)).1 = wst (fun x => V p x.1 x.2) (PqL (Fit np A V) np nt) := by
  have h601 : cN 601 = 601 := cN_eq 601
  obtain ⟨i1, i2⟩ := w26 hV hB hp (k_worstOf_2 T (nI p) 601) nt (Nat.le_refl _)
  refine ⟨?_, ?_⟩
  · rw [k_worstOf_ok, h601]
    exact ⟨trivial, i2, trivial⟩
  · simp only [k_worstOf, h601, i1, wst]
    exact stq_cg _ _ _ _ (fun x hx => by
      have := PqL_mem _ _ _ x hx
      exact (hV p x.1 x.2 hp this.1 this.2).1) (fun j hj => w2z T (nI p) 601 j (by omega))
theorem sl_eq {np nt : Nat} {W A R Ly TH S Q P : Nat → Int32} {V : Nat → Nat → Nat → Nat} (h8 : np ≤ 8) (h10 : nt ≤ 10) (hV : VW np nt W R Ly TH S V) (hP : HPq (PqL (Fit np A V) np nt) Q P) {p : Nat} (hp : p < np) (T : Nat → Int32) : s_leftAtWorst_ok W R Q P Ly T p ∧ (s_leftAtWorst W R Q P Ly T p).1 = wst (fun x => V p x.1 x.2) (PqL (Fit np A V) np nt) := by
  have h601 : cN 601 = 601 := cN_eq 601
  have hlen : (PqL (Fit np A V) np nt).length ≤ 80 := by
    have a := PqL_len (Fit np A V) np nt
    have b : np * nt ≤ 8 * 10 := Nat.mul_le_mul h8 h10
    omega
  obtain ⟨i1, i2⟩ := lw12 (W := W) (R := R) (Ly := Ly) (p := p) (v := fun x => V p x.1 x.2) hP hlen (fun x hx => by
    have := PqL_mem _ _ _ x hx
    have h := hV p x.1 x.2 hp this.1 this.2
    exact ⟨h.1, h.2.2.1, h.2.2.2⟩) FU 0 (nI 0) (J7_fill_53178_L601_5 T (nI 0) 601) (by omega) (by rw [FU_eq]; omega)
  rw [List.drop_zero] at i2
  refine ⟨?_, ?_⟩
  · simp only [s_leftAtWorst_ok, J7_fill_53178_L601, h601, i1, and_self]
  · simp only [s_leftAtWorst, J7_fill_53178_L601, h601]
    rw [i2]
    exact stq_cg _ _ _ _ (fun x hx => by
      have := PqL_mem _ _ _ x hx
      exact (hV p x.1 x.2 hp this.1 this.2).1) (fun j hj => f601 T (nI 0) 601 j (by omega))
