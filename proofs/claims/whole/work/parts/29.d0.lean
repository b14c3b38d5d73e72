/-! what lies where if a thing lay elsewhere -/
def wsu (w : Nat → Nat) (f : Nat → Bool) : Nat → Nat
  | 0 => 0
  | n + 1 => wsu w f n + (if f n = true then w n else 0)
theorem tb10 : ∀ b, b < 1024 → ∀ i, i < 10 → (nI b >>> (nI i &&& 31)) &&& nI 1 = (if b.testBit i = true then nI 1 else nI 0) := by decide +kernel
theorem cl10 : ∀ b, b < 1024 → ∀ t, t < 10 → nI b &&& ((nI 1 <<< (nI t &&& 31)) ^^^ (-1)) = nI (b &&& (1023 ^^^ 2 ^ t)) := by decide +kernel
theorem b1023 : ∀ i, i < 10 → (1023 : Nat).testBit i = true := by decide +kernel
theorem wsu_le {w : Nat → Nat} {f : Nat → Bool} {nt : Nat} (hw : ∀ t, t < nt → w t ≤ 60) : ∀ n, n ≤ nt → wsu w f n ≤ 60 * n
  | 0, _ => by simp only [wsu]; omega
  | n + 1, hn => by
    have ih := wsu_le (f := f) hw n (by omega)
    have h := hw n (by omega)
    simp only [wsu]
    split
    · omega
    · omega
theorem wo_wsu {W : Nat → Int32} {w : Nat → Nat} {nt : Nat} (h10 : nt ≤ 10) (hw : ∀ t, t < nt → W t = nI (w t)) {b : Nat} (hb : b < 1024) {f : Nat → Bool} (hf : ∀ i, i < nt → b.testBit i = f i) : ∀ n, n ≤ nt → v_worthOf_4 W (nI b) n = nI (wsu w f n)
  | 0, _ => rfl
  | n + 1, hn => by
    simp only [v_worthOf_4, wsu]
    rw [wo_wsu h10 hw hb hf n (by omega), tb10 b hb n (by omega), hf n (by omega), hw n (by omega)]
    cases f n with
    | false => simp only [Bool.false_eq_true, if_false, if_pos pu_n01, Nat.add_zero]
    | true => simp only [eq_self, if_true, if_neg pu_n10, nI_add]
theorem wsu_ch {w : Nat → Nat} {f f' : Nat → Bool} {t : Nat} (h : ∀ i, i ≠ t → f' i = f i) : ∀ n, wsu w f' n + (if t < n then (if f t = true then w t else 0) else 0) = wsu w f n + (if t < n then (if f' t = true then w t else 0) else 0)
  | 0 => by
    rw [if_neg (Nat.not_lt_zero t), if_neg (Nat.not_lt_zero t)]
    rfl
  | n + 1 => by
    have ih := wsu_ch (w := w) h n
    simp only [wsu]
    by_cases c : n = t
    · subst c
      rw [if_neg (Nat.lt_irrefl n), if_neg (Nat.lt_irrefl n)] at ih
      rw [if_pos (Nat.lt_succ_self n), if_pos (Nat.lt_succ_self n)]
      omega
    · rw [h n c]
      by_cases d : t < n
      · rw [if_pos d, if_pos d] at ih
        rw [if_pos (show t < n + 1 by omega), if_pos (show t < n + 1 by omega)]
        omega
      · rw [if_neg d, if_neg d] at ih
        rw [if_neg (show ¬ t < n + 1 by omega), if_neg (show ¬ t < n + 1 by omega)]
        omega
theorem wt_eq {np nr nt nf : Nat} {R S W TH Ly : Nat → Int32} (hD : DR np nt nf R S) (hT : TW nt W TH) (hz : SZ np nr nt nf) (hLy : ∀ p, p < np → Ly p = v_worthOf W nt (d_lyingAt R nt (nI p))) {p t q : Nat} (hp : p < np) (ht : t < nt) (hq : q < np) :
    ∃ v, v ≤ 600 ∧ k_liesThen TH S nt (nI p) (nI t) (nI q) = nI v ∧ s_worthThen W R Ly p (nI (10 * t + q)) = nI v ∧ s_worthThen_ok W R Ly p (nI (10 * t + q)) := by
  obtain ⟨z1, z2, z3, z4⟩ := id hz
  obtain ⟨w, hwd⟩ : ∃ w : Nat → Nat, ∀ t, w t = ix (W t) := ⟨_, fun _ => rfl⟩
  have hw6 : ∀ t, t < nt → W t = nI (w t) ∧ w t ≤ 60 := fun t ht => by
    obtain ⟨-, x, h1, h2, h3⟩ := hT t ht
    rw [hwd t, h3, pu_ix (by omega)]
    exact ⟨rfl, h2⟩
  have hw : ∀ t, t < nt → W t = nI (w t) := fun t ht => (hw6 t ht).1
  obtain ⟨b, hbd⟩ : ∃ b, b = bsn (fun i => R (31 + i) = nI p) nt := ⟨_, rfl⟩
  have hb : d_lyingAt R nt (nI p) = nI b := by rw [hbd]; exact ly_bs R (nI p) nt (by omega)
  have hbl : b < 1024 := by
    rw [hbd]
    exact Nat.lt_of_lt_of_le (bsn_lt _ nt) (Nat.pow_le_pow_right (n := 2) (by omega) z3)
  obtain ⟨f, hf⟩ : ∃ f : Nat → Bool, ∀ i, f i = decide (R (31 + i) = nI p) := ⟨_, fun _ => rfl⟩
  have hbf : ∀ i, i < nt → b.testBit i = f i := fun i hi => by
    rw [hbd, bsn_bit, hf i]
    simp only [hi, true_and]
  have l0 : Ly p = nI (wsu w f nt) := by
    rw [hLy p hp, hb]
    exact wo_wsu z3 hw hbl hbf nt (Nat.le_refl _)
  have kl : k_lyingAt S nt (nI p) = nI b := by
    rw [← hb]
    exact la_eq hD (by omega) z4 nt (Nat.le_refl _)
  have hdv : nI (10 * t + q) / nI 10 = nI t := by
    rw [pk_div (by omega) (by omega) (by omega), show (10 * t + q) / 10 = t by omega]
  have hrm : nI (10 * t + q) - nI t * nI 10 = nI q := by
    rw [pk_mul, pk_sub (by omega), show 10 * t + q - t * 10 = q by omega]
  have it : ix (nI t) = t := pu_ix (by omega)
  have ok : s_worthThen_ok W R Ly p (nI (10 * t + q)) := by
    simp only [s_worthThen_ok, hdv, hrm, it]
    refine ⟨pu_isN (by omega), by omega, ?_⟩
    repeat' split
    all_goals first | trivial | exact ⟨by omega, trivial⟩
  have p2 : 2 ^ t < 2 ^ 10 := Nat.pow_lt_pow_right (by omega) (by omega)
  by_cases c : q = p
  · subst c
    obtain ⟨f', hf'⟩ : ∃ f' : Nat → Bool, ∀ i, f' i = (f i || decide (t = i)) := ⟨_, fun _ => rfl⟩
    have e : k_liesThen TH S nt (nI q) (nI t) (nI q) = nI (wsu w f' nt) := by
      rw [k_liesThen, if_pos rfl, kl, pu_sl t (by omega), pu_or (by omega) (by omega), k_worthOf, wo_eq hT _ nt (Nat.le_refl _)]
      refine wo_wsu z3 hw ?_ ?_ nt (Nat.le_refl _)
      · exact Nat.or_lt_two_pow (n := 10) hbl p2
      · intro i hi
        rw [Nat.testBit_or, hbf i hi, Nat.testBit_two_pow, hf' i]
    have ft' : f' t = true := by rw [hf' t, decide_eq_true (rfl : t = t), Bool.or_true]
    have ch := wsu_ch (w := w) (f := f) (f' := f') (t := t) (fun i hi => by rw [hf' i, decide_eq_false (fun h => hi h.symm), Bool.or_false]) nt
    rw [if_pos ht, if_pos ht, ft', if_pos (rfl : true = true)] at ch
    have sle := wsu_le (w := w) (f := f') (fun t ht => (hw6 t ht).2) nt (Nat.le_refl _)
    refine ⟨wsu w f' nt, by omega, e, ?_, ok⟩
    by_cases g : R (31 + t) = nI q
    · have ft : f t = true := by rw [hf t, decide_eq_true g]
      rw [ft, if_pos (rfl : true = true)] at ch
      simp only [s_worthThen, hdv, hrm, it, if_pos g, eq_self, if_true, l0]
      rw [Int32.sub_add_cancel]
      congr 1
      omega
    · have ft : f t = false := by rw [hf t, decide_eq_false g]
      rw [ft, if_neg Bool.false_ne_true] at ch
      simp only [s_worthThen, hdv, hrm, it, if_neg g, eq_self, if_true, l0]
      rw [hw t ht, nI_add]
      congr 1
      omega
  · have cI : ¬ nI q = nI p := fun h => c (pu_inj (by omega) (by omega) h)
    obtain ⟨f', hf'⟩ : ∃ f' : Nat → Bool, ∀ i, f' i = (f i && !(decide (t = i))) := ⟨_, fun _ => rfl⟩
    have e : k_liesThen TH S nt (nI p) (nI t) (nI q) = nI (wsu w f' nt) := by
      rw [k_liesThen, if_neg cI, kl, cl10 b hbl t (by omega), k_worthOf, wo_eq hT _ nt (Nat.le_refl _)]
      refine wo_wsu z3 hw ?_ ?_ nt (Nat.le_refl _)
      · exact Nat.lt_of_le_of_lt Nat.and_le_left hbl
      · intro i hi
        rw [Nat.testBit_and, Nat.testBit_xor, hbf i hi, b1023 i (by omega), Nat.testBit_two_pow, Bool.true_xor, hf' i]
    have ft' : f' t = false := by rw [hf' t, decide_eq_true (rfl : t = t), Bool.not_true, Bool.and_false]
    have ch := wsu_ch (w := w) (f := f) (f' := f') (t := t) (fun i hi => by rw [hf' i, decide_eq_false (fun h => hi h.symm), Bool.not_false, Bool.and_true]) nt
    rw [if_pos ht, if_pos ht, ft', if_neg Bool.false_ne_true] at ch
    have sle := wsu_le (w := w) (f := f') (fun t ht => (hw6 t ht).2) nt (Nat.le_refl _)
    refine ⟨wsu w f' nt, by omega, e, ?_, ok⟩
    by_cases g : R (31 + t) = nI p
    · have ft : f t = true := by rw [hf t, decide_eq_true g]
      rw [ft, if_pos (rfl : true = true)] at ch
      simp only [s_worthThen, hdv, hrm, it, if_pos g, if_neg cI, l0]
      rw [hw t ht, pk_sub (by omega)]
      congr 1
      omega
    · have ft : f t = false := by rw [hf t, decide_eq_false g]
      rw [ft, if_neg Bool.false_ne_true] at ch
      simp only [s_worthThen, hdv, hrm, it, if_neg g, if_neg cI, l0]
      congr 1
      omega
