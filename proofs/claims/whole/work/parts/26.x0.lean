/-! a work's text in both systems: steps, segments -/
def WRi (nr nt nf : Nat) (K F S N : Nat → Int32) (i : Nat) : Prop := ∃ k, k ≤ 5 ∧ K i = nI k ∧ N (3 * i) = nI k ∧ F i = N (3 * i + 1) ∧ (k = 5 → ∃ t e, t ≤ 30 ∧ F i = nI t ∧ e ≤ 150 ∧ S i = nI e ∧ N (3 * i + 2) = nI (3 * e)) ∧ (k < 5 → S i = N (3 * i + 2)) ∧ (k < 4 → ∃ a, a < nf ∧ F i = nI a) ∧ (k = 0 → ∃ r, r < nr ∧ S i = nI r) ∧ (1 ≤ k → k < 4 → ∃ t, t < nt ∧ S i = nI t)
def WI (nr nt nf c : Nat) (wk K F S m N : Nat → Int32) : Prop := wk 3 = nI c ∧ m 34 = nI (3 * c) ∧ ∀ i, i < c → WRi nr nt nf K F S N i
def CW (wk : Nat → Int32) : Prop := ∃ c, c ≤ 150 ∧ wk 3 = nI c
def Seg (K S : Nat → Int32) : Nat → Nat → Nat → Nat → Prop
  | 0, _, i, j => i = j
  | f + 1, d, i, j => i = j ∨ (¬ K i = nI 5 ∧ i < j ∧ Seg K S f d (i + 1) j) ∨ (K i = nI 5 ∧ ∃ e d', d = d' + 1 ∧ S i = nI e ∧ i < e ∧ e ≤ j ∧ e ≤ 150 ∧ Seg K S f d' (i + 1) e ∧ Seg K S f d e j)
theorem Seg.le {K S : Nat → Int32} : ∀ (f d i j : Nat), Seg K S f d i j → i ≤ j
  | 0, d, i, j, h => Nat.le_of_eq h
  | f + 1, d, i, j, h => by
    rcases h with h | ⟨-, h, -⟩ | ⟨-, e, d', -, -, h1, h2, -⟩ <;> omega
theorem Seg.up {K S : Nat → Int32} : ∀ (f d i j : Nat), Seg K S f d i j → Seg K S (f + 1) d i j
  | 0, d, i, j, h => Or.inl h
  | f + 1, d, i, j, h => by
    rcases h with h | ⟨h1, h2, h3⟩ | ⟨h1, e, d', h2, h3, h4, h5, h6, h7, h8⟩
    · exact Or.inl h
    · exact Or.inr (Or.inl ⟨h1, h2, Seg.up f d (i + 1) j h3⟩)
    · exact Or.inr (Or.inr ⟨h1, e, d', h2, h3, h4, h5, h6, Seg.up f d' (i + 1) e h7, Seg.up f d e j h8⟩)
theorem Seg.ups {K S : Nat → Int32} {f d i j : Nat} (h : Seg K S f d i j) : ∀ g, Seg K S (f + g) d i j
  | 0 => h
  | g + 1 => Seg.up (f + g) d i j (Seg.ups h g)
theorem Seg.app {K S : Nat → Int32} {g d j k : Nat} (h2 : Seg K S g d j k) : ∀ (f i : Nat), Seg K S f d i j → Seg K S (f + g) d i k
  | 0, i, h => by
    have e : i = j := h
    rw [e, Nat.zero_add]; exact h2
  | f + 1, i, h => by
    have hjk := Seg.le g d j k h2
    rcases h with h | ⟨h1, h3, h4⟩ | ⟨h1, e, d', h3, h4, h5, h6, h7, h8, h9⟩
    · rw [h, show f + 1 + g = g + (f + 1) by omega]; exact h2.ups (f + 1)
    · rw [show f + 1 + g = (f + g) + 1 by omega]
      exact Or.inr (Or.inl ⟨h1, by omega, Seg.app h2 f (i + 1) h4⟩)
    · rw [show f + 1 + g = (f + g) + 1 by omega]
      exact Or.inr (Or.inr ⟨h1, e, d', h3, h4, h5, by omega, h7, h8.ups g, Seg.app h2 f e h9⟩)
theorem Seg.cg {K S K' S' : Nat → Int32} : ∀ (f d i j : Nat), (∀ t, i ≤ t → t < j → K' t = K t ∧ S' t = S t) → Seg K S f d i j → Seg K' S' f d i j
  | 0, d, i, j, _, h => h
  | f + 1, d, i, j, hc, h => by
    rcases h with h | ⟨h1, h3, h4⟩ | ⟨h1, e, d', h3, h4, h5, h6, h7, h8, h9⟩
    · exact Or.inl h
    · obtain ⟨c1, c2⟩ := hc i (Nat.le_refl _) h3
      exact Or.inr (Or.inl ⟨by rw [c1]; exact h1, h3, Seg.cg f d (i + 1) j (fun t a b => hc t (by omega) b) h4⟩)
    · obtain ⟨c1, c2⟩ := hc i (Nat.le_refl _) (by omega)
      exact Or.inr (Or.inr ⟨by rw [c1]; exact h1, e, d', h3, by rw [c2]; exact h4, h5, h6, h7, Seg.cg f d' (i + 1) e (fun t a b => hc t (by omega) (by omega)) h8, Seg.cg f d e j (fun t a b => hc t (by omega) b) h9⟩)
def Fw (m m' : Nat → Int32) : Prop := ∀ j, j ≠ 4 → j ≠ 5 → j ≠ 6 → j ≠ 7 → j ≠ 34 → m' j = m j
theorem Fw.rf (m : Nat → Int32) : Fw m m := fun _ _ _ _ _ _ => rfl
theorem Fw.of {m m' : Nat → Int32} (h : Fm m m') : Fw m m' := fun j a b c _ _ => h j a b c
theorem Fw.tr {m m' m2 : Nat → Int32} (h : Fw m m') (h2 : Fw m' m2) : Fw m m2 := fun j a b c d e => (h2 j a b c d e).trans (h j a b c d e)
theorem Fw.u4 (m : Nat → Int32) (x : Int32) : Fw m (upd m 4 x) := fun _ a _ _ _ _ => pk_un a
theorem Fw.u7 (m : Nat → Int32) (x : Int32) : Fw m (upd m 7 x) := fun _ _ _ _ d _ => pk_un d
theorem Fw.u34 (m : Nat → Int32) (x : Int32) : Fw m (upd m 34 x) := fun _ _ _ _ _ e => pk_un e
def SZm (nr nt nf : Nat) (m : Nat → Int32) : Prop := m 21 = nI nr ∧ m 22 = nI nt ∧ m 23 = nI nf
theorem SZm.fw {nr nt nf : Nat} {m m' : Nat → Int32} (h : SZm nr nt nf m) (hf : Fw m m') : SZm nr nt nf m' :=
  ⟨by rw [hf 21 (by decide) (by decide) (by decide) (by decide) (by decide)]; exact h.1, by rw [hf 22 (by decide) (by decide) (by decide) (by decide) (by decide)]; exact h.2.1, by rw [hf 23 (by decide) (by decide) (by decide) (by decide) (by decide)]; exact h.2.2⟩
/-- reading: from the step c0 on -/
def SW (nr nt nf n o e c0 p : Nat) (K0 S0 q m wk K F S N : Nat → Int32) : Prop :=
  (∃ a c, p ≤ a ∧ TS q n a ∧ MS m n a ∧ m 7 = nI o ∧ SZm nr nt nf m ∧ WI nr nt nf c wk K F S m N ∧ (∃ f, Seg K S f (6 - o) c0 c) ∧ (∀ i, i < c0 → K i = K0 i ∧ S i = S0 i) ∧ 4 * c + e ≤ a) ∨ (Bd q m n ∧ CW wk)
theorem CW.put {wk K F S : Nat → Int32} (h : CW wk) (x y w : Int32) : x_put_ok wk K F S x y w ∧ ∃ wk' K' F' S', x_put wk K F S x y w = (0, wk', K', F', S') ∧ CW wk' := by
  obtain ⟨c, hc, e⟩ := h
  simp only [x_put_ok, x_put, e]
  by_cases h : nI 150 ≤ nI c
  · simp only [if_pos h, true_and]
    exact ⟨wk, K, F, S, rfl, c, hc, e⟩
  · have hc' : c < 150 := by rw [pu_lei (by omega) (by omega)] at h; omega
    simp only [if_neg h, pu_isN (show c < 2147483648 by omega), pu_ix (show c < 2147483648 by omega), hc', and_true, true_and, nI_add]
    exact ⟨_, _, _, _, rfl, c + 1, by omega, pk_us⟩
theorem Bd.tl {q m N : Nat → Int32} {n : Nat} (h : Bd q m n) (x y w : Int32) : k_tellsStep_ok m N x y w ∧ k_tellsStep m N x y w = (0, m, N) := by
  simp only [k_tellsStep_ok, k_tellsStep, h.fi, if_pos pu_n01, true_and, and_self]
theorem WI.cw {nr nt nf c : Nat} {wk K F S m N : Nat → Int32} (h : WI nr nt nf c wk K F S m N) (hc : c ≤ 150) : CW wk := ⟨c, hc, h.1⟩
theorem WI.mv {nr nt nf c : Nat} {wk K F S m m' N : Nat → Int32} (h : WI nr nt nf c wk K F S m N) (e : m' 34 = m 34) : WI nr nt nf c wk K F S m' N := ⟨h.1, by rw [e]; exact h.2.1, h.2.2⟩
theorem ne3 {i c : Nat} (h : ¬ i = c) : (3 * i ≠ 3 * c ∧ 3 * i ≠ 3 * c + 1 ∧ 3 * i ≠ 3 * c + 2) ∧ (3 * i + 1 ≠ 3 * c ∧ 3 * i + 1 ≠ 3 * c + 1 ∧ 3 * i + 1 ≠ 3 * c + 2) ∧ (3 * i + 2 ≠ 3 * c ∧ 3 * i + 2 ≠ 3 * c + 1 ∧ 3 * i + 2 ≠ 3 * c + 2) := by omega
/-- a step is laid down in both -/
theorem WI.put {nr nt nf c n a k : Nat} {wk K F S m N : Nat → Int32} (h : WI nr nt nf c wk K F S m N) (hm : MS m n a) (hc : c < 40) {y w : Int32} (hk : k ≤ 5) (h5 : k = 5 → ∃ t, t ≤ 30 ∧ y = nI t ∧ w = nI 0) (h4 : k < 4 → ∃ b, b < nf ∧ y = nI b) (h0 : k = 0 → ∃ r, r < nr ∧ w = nI r) (h1 : 1 ≤ k → k < 4 → ∃ t, t < nt ∧ w = nI t) :
    x_put_ok wk K F S (nI k) y w ∧ k_tellsStep_ok m N (nI k) y w ∧ x_put wk K F S (nI k) y w = (0, upd wk 3 (nI (c + 1)), upd K c (nI k), upd F c y, upd S c w) ∧ k_tellsStep m N (nI k) y w = (0, upd m 34 (nI (3 * (c + 1))), upd (upd (upd N (3 * c) (nI k)) (3 * c + 1) y) (3 * c + 2) w) ∧
    WI nr nt nf (c + 1) (upd wk 3 (nI (c + 1))) (upd K c (nI k)) (upd F c y) (upd S c w) (upd m 34 (nI (3 * (c + 1)))) (upd (upd (upd N (3 * c) (nI k)) (3 * c + 1) y) (3 * c + 2) w) := by
  obtain ⟨e3, e34, hw⟩ := h
  have f : ¬ nI 150 ≤ nI c := fun h => by have := (pu_lei (by omega) (by omega)).mp h; omega
  have i1 : ix (nI c) = c := pu_ix (by omega)
  have i2 : ix (nI (3 * c)) = 3 * c := pu_ix (by omega)
  refine ⟨?_, ?_, ?_, ?_, pk_us, pk_us, fun i hi => ?_⟩
  · simp only [x_put_ok, e3, if_neg f, pu_isN (show c < 2147483648 by omega), i1, show c < 150 by omega, and_true]
  · simp only [k_tellsStep_ok, hm.fi, if_neg pu_n10, e34, pu_isN (show 3 * c < 2147483648 by omega), i2, show 3 * c < 150 by omega, show 3 * c + 1 < 150 by omega, show 3 * c + 2 < 150 by omega, and_true]
  · simp only [x_put, e3, if_neg f, i1, nI_add]
  · simp only [k_tellsStep, hm.fi, if_neg pu_n10, e34, i2, nI_add, show 3 * c + 3 = 3 * (c + 1) by omega]
  · by_cases e : i = c
    · subst e
      refine ⟨k, hk, pk_us, ?_, ?_, fun h => ?_, fun h => ?_, fun h => ?_, fun h => ?_, fun ha hb => ?_⟩
      · rw [pk_un (by omega), pk_un (by omega), pk_us]
      · rw [pk_us, pk_un (by omega), pk_us]
      · obtain ⟨t, h1, h2, h3⟩ := h5 h
        exact ⟨t, 0, h1, by rw [pk_us]; exact h2, by omega, by rw [pk_us]; exact h3, by rw [pk_us]; exact h3⟩
      · rw [pk_us, pk_us]
      · rw [pk_us]; exact h4 h
      · rw [pk_us]; exact h0 h
      · rw [pk_us]; exact h1 ha hb
    · obtain ⟨⟨a1, a2, a3⟩, ⟨b1, b2, b3⟩, c1, c2, c3⟩ := ne3 e
      obtain ⟨k', g1, g2, g3, g4, g5, g6, g7, g8, g9⟩ := hw i (Nat.lt_of_le_of_ne (Nat.le_of_lt_succ hi) e)
      refine ⟨k', g1, ?_, ?_, ?_, fun h => ?_, fun h => ?_, fun h => ?_, fun h => ?_, fun ha hb => ?_⟩
      · rw [pk_un e]; exact g2
      · rw [pk_un a3, pk_un a2, pk_un a1]; exact g3
      · rw [pk_un e, pk_un b3, pk_un b2, pk_un b1]; exact g4
      · rw [pk_un e, pk_un e, pk_un c3, pk_un c2, pk_un c1]; exact g5 h
      · rw [pk_un e, pk_un c3, pk_un c2, pk_un c1]; exact g6 h
      · rw [pk_un e]; exact g7 h
      · rw [pk_un e]; exact g8 h
      · rw [pk_un e]; exact g9 ha hb
theorem SW.sg {B T K0 S0 q m wk K F S N : Nat → Int32} {nr nt nf n o e c0 p : Nat} (hn : n ≤ 150) (hB : BY B T) (h : SW nr nt nf n o e c0 p K0 S0 q m wk K F S N) {x : Int32} (hx : ¬ x = -1) (hx0 : ¬ x = nI 0) :
    t_needSign_ok q B x ∧ k_sign_ok m T x ∧ ∃ q' m', t_needSign q B x = (0, q') ∧ k_sign m T x = (0, m') ∧ Fw m m' ∧ SW nr nt nf n o e c0 (p + 1) K0 S0 q' m' wk K F S N := by
  obtain ⟨q', e1⟩ := sign0 q B x
  obtain ⟨m', e2⟩ := ksign0 m T x
  rcases h with ⟨a, c, hp, h1, h2, h3, hz, h4, h5, h6, h7⟩ | ⟨h1, h2⟩
  · obtain ⟨g1, g2, g3, g4⟩ := gd_sign (by omega) hB h1 h2 hx hx0
    have hsk := sk_ge B n a
    simp only [e1, e2] at g3 g4
    refine ⟨g1, g2, q', m', e1, e2, Fw.of g3, ?_⟩
    rcases g4 with ⟨g5, g6, g7, g8⟩ | g4
    · exact Or.inl ⟨_, c, by omega, g7, g8, by rw [g3 7 (by decide) (by decide) (by decide)]; exact h3, hz.fw (Fw.of g3), h4.mv (g3 34 (by decide) (by decide) (by decide)), h5, h6, by omega⟩
    · exact Or.inr ⟨g4, h4.cw (by have := h1.2.2.2.2.2; omega)⟩
  · obtain ⟨g1, g2, g3, g4⟩ := h1.sg (B := B) (T := T) (by omega) hx
    simp only [e1, e2] at g3 g4
    exact ⟨g1, g2, q', m', e1, e2, by rw [g4]; exact Fw.rf m, Or.inr ⟨g3, h2⟩⟩
/-! readers of steps -/
abbrev XnA : Type := (Nat → Int32) → (Nat → Int32) → (Nat → Int32) → (Nat → Int32) → (Nat → Int32) → (Nat → Int32) → Int32 → Int32 × (Nat → Int32) × (Nat → Int32) × (Nat → Int32) × (Nat → Int32) × (Nat → Int32)
abbrev YnA : Type := (Nat → Int32) → (Nat → Int32) → (Nat → Int32) → (Nat → Int32) → (Nat → Int32) → (Nat → Int32) → Int32 → Prop
abbrev XnB : Type := (Nat → Int32) → (Nat → Int32) → (Nat → Int32) → Int32 × (Nat → Int32) × (Nat → Int32)
abbrev YnB : Type := (Nat → Int32) → (Nat → Int32) → (Nat → Int32) → Prop
def QA (B T : Nat → Int32) (nr nt nf n o : Nat) (F1 : XnA) (G1 : YnA) (F2 : XnB) (G2 : YnB) : Prop :=
  ∀ (q m wk K F S N : Nat → Int32) (a c e : Nat), TS q n a → MS m n a → m 7 = nI o → SZm nr nt nf m → WI nr nt nf c wk K F S m N → 4 * c + e ≤ a →
    G1 q B wk K F S (nI o) ∧ G2 m T N ∧ ∃ q' wk' K' F' S' m' N', F1 q B wk K F S (nI o) = (0, q', wk', K', F', S') ∧ F2 m T N = (0, m', N') ∧ Fw m m' ∧ SW nr nt nf n o e c (a + 1) K S q' m' wk' K' F' S' N'
def Qc (B : Nat → Int32) (n : Nat) (F1 : XnA) (G1 : YnA) : Prop := ∀ (q wk K F S : Nat → Int32) (x : Int32) (kd pl : Nat), TF q n kd pl → CW wk → G1 q B wk K F S x ∧ ∃ q' wk' K' F' S', F1 q B wk K F S x = (0, q', wk', K', F', S') ∧ TF q' n kd pl ∧ CW wk'
def Qm (T : Nat → Int32) (n : Nat) (F2 : XnB) (G2 : YnB) : Prop := ∀ (m N : Nat → Int32) (kd pl : Nat), MF m n kd pl → G2 m T N ∧ ∃ m' N', F2 m T N = (0, m', N') ∧ MF m' n kd pl ∧ Fw m m'
