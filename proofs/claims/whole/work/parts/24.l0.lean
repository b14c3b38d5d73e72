/-! a law's text in both systems: codes -/
def LI (c : Nat) (lw C m O V : Nat → Int32) : Prop := lw 3 = nI c ∧ m 29 = nI c ∧ (∀ k, k < c → CR (C k) (O k) (V k)) ∧ (∀ k, k < c → nI 2000 ≤ C k → 2 ≤ dp C k)
def CB (lw : Nat → Int32) : Prop := ∃ c, c ≤ 150 ∧ lw 3 = nI c
def Fl (m m' : Nat → Int32) : Prop := ∀ j, j ≠ 4 → j ≠ 5 → j ≠ 6 → j ≠ 7 → j ≠ 29 → m' j = m j
theorem Fl.rf (m : Nat → Int32) : Fl m m := fun _ _ _ _ _ _ => rfl
theorem Fl.of {m m' : Nat → Int32} (h : Fm m m') : Fl m m' := fun j a b c _ _ => h j a b c
theorem Fl.tr {m m' m2 : Nat → Int32} (h : Fl m m') (h2 : Fl m' m2) : Fl m m2 := fun j a b c d e => (h2 j a b c d e).trans (h j a b c d e)
theorem Fl.u4 (m : Nat → Int32) (x : Int32) : Fl m (upd m 4 x) := fun _ a _ _ _ _ => pk_un a
theorem Fl.u7 (m : Nat → Int32) (x : Int32) : Fl m (upd m 7 x) := fun _ _ _ _ d _ => pk_un d
theorem Fl.u29 (m : Nat → Int32) (x : Int32) : Fl m (upd m 29 x) := fun _ _ _ _ _ e => pk_un e
theorem dp_cg {C D : Nat → Int32} : ∀ k, (∀ j, j < k → D j = C j) → dp D k = dp C k
  | 0, _ => rfl
  | k + 1, h => by simp only [dp, dp_cg k (fun j hj => h j (by omega)), h k (by omega)]
theorem dp_u {C : Nat → Int32} {c k : Nat} {x : Int32} (h : k ≤ c) : dp (upd C c x) k = dp C k := dp_cg k (fun j hj => pk_un (by omega))
theorem CB.put {lw C : Nat → Int32} (h : CB lw) (x : Int32) : l_put_ok lw C x ∧ ∃ lw' C', l_put lw C x = (0, lw', C') ∧ CB lw' := by
  obtain ⟨c, hc, e⟩ := h
  simp only [l_put_ok, l_put, e]
  by_cases h : nI 150 ≤ nI c
  · simp only [if_pos h, true_and]
    exact ⟨lw, C, rfl, c, hc, e⟩
  · have hc' : c < 150 := by rw [pu_lei (by omega) (by omega)] at h; omega
    simp only [if_neg h, pu_isN (show c < 2147483648 by omega), pu_ix (show c < 2147483648 by omega), hc', and_true, true_and, nI_add]
    exact ⟨_, _, rfl, c + 1, by omega, pk_us⟩
theorem Bd.em {q m O V : Nat → Int32} {n : Nat} (h : Bd q m n) (x y : Int32) : k_emit_ok m O V x y ∧ k_emit m O V x y = (0, m, O, V) := by
  simp only [k_emit_ok, k_emit, h.fi, if_pos pu_n01, true_and, and_self]
theorem LI.cb {c : Nat} {lw C m O V : Nat → Int32} (h : LI c lw C m O V) (hc : c ≤ 150) : CB lw := ⟨c, hc, h.1⟩
theorem LI.mv {c : Nat} {lw C m m' O V : Nat → Int32} (h : LI c lw C m O V) (e : m' 29 = m 29) : LI c lw C m' O V := ⟨h.1, by rw [e]; exact h.2.1, h.2.2⟩
/-- a code is laid down in both -/
theorem LI.put {lw C m O V : Nat → Int32} {n a c : Nat} (h : LI c lw C m O V) (hm : MS m n a) (hc : c < 150) {x o v : Int32} (hx : CR x o v) (h2 : nI 2000 ≤ x → 2 ≤ dp C c) :
    l_put_ok lw C x ∧ k_emit_ok m O V o v ∧ l_put lw C x = (0, upd lw 3 (nI (c + 1)), upd C c x) ∧ k_emit m O V o v = (0, upd m 29 (nI (c + 1)), upd O c o, upd V c v) ∧
    LI (c + 1) (upd lw 3 (nI (c + 1))) (upd C c x) (upd m 29 (nI (c + 1))) (upd O c o) (upd V c v) ∧ dp (upd C c x) (c + 1) = (if x < nI 2000 then dp C c + 1 else dp C c - 1) := by
  obtain ⟨h3, h29, hC, hd⟩ := h
  have f : ¬ nI 150 ≤ nI c := fun h => by have := (pu_lei (by omega) (by omega)).mp h; omega
  refine ⟨?_, ?_, ?_, ?_, ⟨pk_us, pk_us, fun k hk => ?_, fun k hk hg => ?_⟩, ?_⟩
  · simp only [l_put_ok, h3, if_neg f, pu_isN (show c < 2147483648 by omega), pu_ix (show c < 2147483648 by omega), hc, and_true]
  · simp only [k_emit_ok, hm.fi, if_neg pu_n10, h29, pu_isN (show c < 2147483648 by omega), pu_ix (show c < 2147483648 by omega), hc, and_true]
  · simp only [l_put, h3, if_neg f, pu_ix (show c < 2147483648 by omega), nI_add]
  · simp only [k_emit, hm.fi, if_neg pu_n10, h29, pu_ix (show c < 2147483648 by omega), nI_add]
  · by_cases e : k = c
    · subst e; rw [pk_us, pk_us, pk_us]; exact hx
    · rw [pk_un e, pk_un e, pk_un e]; exact hC k (by omega)
  · rw [dp_u (by omega)]
    by_cases e : k = c
    · subst e; rw [pk_us] at hg; exact h2 hg
    · rw [pk_un e] at hg; exact hd k (by omega) hg
  · simp only [dp, pk_us, dp_u (Nat.le_refl c)]
/-! what a reader of a piece does, in both -/
abbrev FnA : Type := (Nat → Int32) → (Nat → Int32) → (Nat → Int32) → (Nat → Int32) → Int32 → Int32 × (Nat → Int32) × (Nat → Int32) × (Nat → Int32)
abbrev GnA : Type := (Nat → Int32) → (Nat → Int32) → (Nat → Int32) → (Nat → Int32) → Int32 → Prop
abbrev FnB : Type := (Nat → Int32) → (Nat → Int32) → (Nat → Int32) → (Nat → Int32) → Int32 × (Nat → Int32) × (Nat → Int32) × (Nat → Int32)
abbrev GnB : Type := (Nat → Int32) → (Nat → Int32) → (Nat → Int32) → (Nat → Int32) → Prop
def ST (n o e D p : Nat) (q m lw C O V : Nat → Int32) : Prop := (∃ a c, p ≤ a ∧ TS q n a ∧ MS m n a ∧ m 7 = nI o ∧ LI c lw C m O V ∧ dp C c = D ∧ c + e ≤ a) ∨ (Bd q m n ∧ CB lw)
def PA (B T : Nat → Int32) (n o : Nat) (F : FnA) (G : GnA) (F' : FnB) (G' : GnB) : Prop :=
  ∀ (q m lw C O V : Nat → Int32) (a c e : Nat), TS q n a → MS m n a → m 7 = nI o → LI c lw C m O V → c + e ≤ a →
    G q B lw C (nI o) ∧ G' m T O V ∧ ∃ q' lw' C' m' O' V', F q B lw C (nI o) = (0, q', lw', C') ∧ F' m T O V = (0, m', O', V') ∧ Fl m m' ∧ ST n o e (dp C c + 1) (a + 1) q' m' lw' C' O' V'
def Pc (B : Nat → Int32) (n : Nat) (F : FnA) (G : GnA) : Prop := ∀ (q lw C : Nat → Int32) (x : Int32) (kd pl : Nat), TF q n kd pl → CB lw → G q B lw C x ∧ ∃ q' lw' C', F q B lw C x = (0, q', lw', C') ∧ TF q' n kd pl ∧ CB lw'
def Pm (T : Nat → Int32) (n : Nat) (F' : FnB) (G' : GnB) : Prop := ∀ (m O V : Nat → Int32) (kd pl : Nat), MF m n kd pl → G' m T O V ∧ ∃ m' O' V', F' m T O V = (0, m', O', V') ∧ MF m' n kd pl ∧ Fl m m'
def FP (B T : Nat → Int32) (n o : Nat) (F : FnA) (G : GnA) (F' : FnB) (G' : GnB) : Prop := PA B T n o F G F' G' ∧ Pc B n F G ∧ Pm T n F' G'
theorem FP.st {B T : Nat → Int32} {n o : Nat} {F : FnA} {G : GnA} {F' : FnB} {G' : GnB} (h : FP B T n o F G F' G') {q m lw C O V : Nat → Int32} {e D p : Nat} (hs : ST n o e D p q m lw C O V) :
    G q B lw C (nI o) ∧ G' m T O V ∧ ∃ q' lw' C' m' O' V', F q B lw C (nI o) = (0, q', lw', C') ∧ F' m T O V = (0, m', O', V') ∧ Fl m m' ∧ ST n o e (D + 1) (p + 1) q' m' lw' C' O' V' := by
  rcases hs with ⟨a, c, hp, h1, h2, h3, h4, h5, h6⟩ | ⟨⟨kd, pl, h1, h2⟩, h3⟩
  · obtain ⟨g1, g2, q', lw', C', m', O', V', g3, g4, g5, g6⟩ := h.1 q m lw C O V a c e h1 h2 h3 h4 h6
    refine ⟨g1, g2, q', lw', C', m', O', V', g3, g4, g5, ?_⟩
    rw [← h5]
    rcases g6 with ⟨a', c', k1, k2⟩ | g6
    · exact Or.inl ⟨a', c', by omega, k2⟩
    · exact Or.inr g6
  · obtain ⟨g1, q', lw', C', g2, g3, g4⟩ := h.2.1 q lw C (nI o) kd pl h1 h3
    obtain ⟨g5, m', O', V', g6, g7, g8⟩ := h.2.2 m O V kd pl h2
    exact ⟨g1, g5, q', lw', C', m', O', V', g2, g6, g8, Or.inr ⟨⟨kd, pl, g3, g7⟩, g4⟩⟩
theorem Bd.nx {B q m : Nat → Int32} {n : Nat} (hn : n ≤ 600) (h : Bd q m n) : t_next_ok q B ∧ ∃ q', t_next q B = (-1, q') ∧ Bd q' m n := by
  obtain ⟨kd, pl, h1, h2⟩ := h
  obtain ⟨a1, a2, a3⟩ := h1.nx (B := B) hn
  rcases x1 : t_next q B with ⟨v, q'⟩
  rw [x1] at a2 a3
  simp only at a2 a3
  subst a2
  exact ⟨a1, q', rfl, kd, pl, a3, h2⟩
/-- the next byte in both -/
theorem gd_next {B T q m : Nat → Int32} {n a : Nat} (hn : n ≤ 600) (hB : BY B T) (hq : TS q n a) (hm : MS m n a) :
    t_next_ok q B ∧ k_here_ok m T ∧ ∃ q' v w s, t_next q B = (v, q') ∧ k_here m T = (w, upd m 4 (nI s)) ∧ k_here_ok (upd m 4 (nI s)) T ∧ k_here (upd m 4 (nI s)) T = (w, upd m 4 (nI s)) ∧ s = sk B n a ∧ a ≤ s ∧ s ≤ n ∧ sk B n s = s ∧ TS q' n s ∧ MS (upd m 4 (nI s)) n s ∧ q' 4 = nI s ∧
      ((s < n ∧ v = B s ∧ w = B s ∧ ∃ b, b < 256 ∧ B s = nI b) ∨ (¬ s < n ∧ v = -1 ∧ w = nI 0)) := by
  obtain ⟨r1, r2⟩ := tnx (B := B) hn hq.2.2.2.1 hq.2.2.2.2.1 hq.2.2.2.2.2
  obtain ⟨s1, s2⟩ := khr hn hB hm.1 hm.2.1 hm.2.2.2
  have hs := sk_le (B := B) hq.2.2.2.2.2
  have M1 := hm.u4 (s := sk B n a) hs
  obtain ⟨u1, u2⟩ := khr hn hB M1.1 M1.2.1 M1.2.2.2
  rw [sk_sk, upd_twice] at u2
  refine ⟨r1, s1, _, _, _, sk B n a, r2, s2, u1, u2, rfl, sk_ge B n a, hs, sk_sk B n a, ?_, M1, pk_us, ?_⟩
  · obtain ⟨h1, h2, h3, h5, h6, ha⟩ := hq
    refine ⟨?_, ?_, ?_, ?_, ?_, hs⟩ <;> simp (disch := decide) only [pk_us, pk_un, h1, h2, h3, h5]
  · by_cases hl : sk B n a < n
    · left
      exact ⟨hl, by rw [if_pos ⟨hl, hq.2.1⟩], by rw [if_pos hl], (hB _ (by omega)).2⟩
    · right
      exact ⟨hl, by rw [if_neg (fun z => hl z.1)], by rw [if_neg hl]⟩
theorem ch16 {x : Int32} {b : Nat} (hb : b < 256) (h : x = nI b) : (x.toUInt32 % 65536).toInt32 = nI b := by
  rw [h, pk_char, pk_tn (by omega), Nat.mod_eq_of_lt (by omega)]
/-- a sign that stands there -/
theorem ts_at {B q : Nat → Int32} {n s b : Nat} (hn : n ≤ 600) (hq : TS q n s) (hs : sk B n s = s) (hl : s < n) (hb : b < 256) (e : B s = nI b) : t_needSign_ok q B (nI b) ∧ ∃ q', t_needSign q B (nI b) = (0, q') ∧ TS q' n (s + 1) := by
  obtain ⟨a1, a2⟩ := ts_sign (B := B) hn hq (c := nI b) (pu_nm (by omega))
  rw [hs] at a2
  refine ⟨a1, ?_⟩
  rcases a2 with ⟨-, -, a3⟩ | ⟨a3, -⟩
  · rcases x1 : t_needSign q B (nI b) with ⟨z, q'⟩
    have z0 : z = 0 := by
      have := congrArg Prod.fst x1
      simp only [t_needSign] at this
      rw [← this]
      split <;> rfl
    rw [x1] at a3
    exact ⟨q', by rw [z0], a3⟩
  · exact absurd ⟨hl, e⟩ a3
theorem sign0 (q B : Nat → Int32) (c : Int32) : ∃ q', t_needSign q B c = (0, q') := by
  simp only [t_needSign]
  split <;> exact ⟨_, rfl⟩
theorem ksign0 (m T : Nat → Int32) (c : Int32) : ∃ m', k_sign m T c = (0, m') := by
  rcases x : k_sign m T c with ⟨z, m'⟩
  refine ⟨m', ?_⟩
  have : z = 0 := by
    have e := congrArg Prod.fst x
    simp only [k_sign] at e
    rw [← e]
    repeat' split
    all_goals rfl
  rw [this]
theorem ST.sg {B T q m lw C O V : Nat → Int32} {n o e D p : Nat} (hn : n ≤ 150) (hB : BY B T) (h : ST n o e D p q m lw C O V) {x : Int32} (hx : ¬ x = -1) (hx0 : ¬ x = nI 0) :
    t_needSign_ok q B x ∧ k_sign_ok m T x ∧ ∃ q' m', t_needSign q B x = (0, q') ∧ k_sign m T x = (0, m') ∧ Fl m m' ∧ ST n o e D (p + 1) q' m' lw C O V := by
  obtain ⟨q', e1⟩ := sign0 q B x
  obtain ⟨m', e2⟩ := ksign0 m T x
  rcases h with ⟨a, c, hp, h1, h2, h3, h4, h5, h6⟩ | ⟨h1, h2⟩
  · obtain ⟨g1, g2, g3, g4⟩ := gd_sign (by omega) hB h1 h2 hx hx0
    have hsk := sk_ge B n a
    simp only [e1, e2] at g3 g4
    refine ⟨g1, g2, q', m', e1, e2, Fl.of g3, ?_⟩
    rcases g4 with ⟨g5, g6, g7, g8⟩ | g4
    · exact Or.inl ⟨_, c, by omega, g7, g8, by rw [g3 7 (by decide) (by decide) (by decide)]; exact h3, h4.mv (g3 29 (by decide) (by decide) (by decide)), h5, by omega⟩
    · exact Or.inr ⟨g4, h4.cb (by have := h1.2.2.2.2.2; omega)⟩
  · obtain ⟨g1, g2, g3, g4⟩ := h1.sg (B := B) (T := T) (by omega) hx
    simp only [e1, e2] at g3 g4
    exact ⟨g1, g2, q', m', e1, e2, by rw [g4]; exact Fl.rf m, Or.inr ⟨g3, h2⟩⟩
theorem ST.u7 {q m lw C O V : Nat → Int32} {n o e D p : Nat} (h : ST n (o + 1) e D p q m lw C O V) : ST n o e D p q (upd m 7 (m 7 - nI 1)) lw C O V := by
  rcases h with ⟨a, c, hp, h1, h2, h3, h4, h5, h6⟩ | ⟨h1, h2⟩
  · exact Or.inl ⟨a, c, hp, h1, h2.u (by decide) (by decide) (by decide), by rw [pk_us, h3]; exact pu_s1 o, h4.mv (pk_un (by decide)), h5, h6⟩
  · exact Or.inr ⟨h1.u (by decide) (by decide) (by decide) (by decide), h2⟩
theorem ST.put {q m lw C O V : Nat → Int32} {n o e D p : Nat} (hn : n ≤ 150) (h : ST n o (e + 1) (D + 2) p q m lw C O V) {x y v : Int32} (hx : opr x y) :
    l_put_ok lw C x ∧ k_emit_ok m O V y v ∧ ∃ lw' C' m' O' V', l_put lw C x = (0, lw', C') ∧ k_emit m O V y v = (0, m', O', V') ∧ Fl m m' ∧ ST n o e (D + 1) p q m' lw' C' O' V' := by
  rcases h with ⟨a, c, hp, h1, h2, h3, h4, h5, h6⟩ | ⟨h1, h2⟩
  · have han := h2.2.2.2
    obtain ⟨g1, g2, g3, g4, g5, g6⟩ := h4.put (o := y) (v := v) h2 (by omega) (Or.inr (Or.inr hx)) (fun _ => by omega)
    refine ⟨g1, g2, _, _, _, _, _, g3, g4, Fl.u29 _ _, Or.inl ⟨a, c + 1, hp, h1, h2.u (by decide) (by decide) (by decide), by rw [pk_un (by decide)]; exact h3, g5, ?_, by omega⟩⟩
    rw [g6, if_neg (opr_ge hx).2.1, h5]
    omega
  · obtain ⟨g1, lw', C', g2, g3⟩ := h2.put (C := C) x
    obtain ⟨g4, g5⟩ := h1.em (O := O) (V := V) y v
    exact ⟨g1, g4, lw', C', m, O, V, g2, g5, Fl.rf m, Or.inr ⟨h1, g3⟩⟩
theorem w_len {B T : Nat → Int32} {X s e len : Nat} {v : Int32} (hB : BY B T) (he : e ≤ 600) (hse : s ≤ e) (hl : len ≤ 6 ∧ 1 ≤ len) (hL : ∀ j, s ≤ j → j < e → isL (B j)) (hb : ∀ j, j < len → ∃ b, 97 ≤ b ∧ b ≤ 122 ∧ sby X j = nI b)
    (hv : (e - s ≤ 6 ∧ v = nI (cdf (fun j => ix (B (s + j)) - 96) (e - s))) ∨ (6 < e - s ∧ v = nI 0)) (h : v = nI (cdf (fun j => ix (sby X j) - 96) len)) : e = s + len :=
  ((code_iff (L := X) (ws := 0) hB he hse hl hL (fun j _ => by rw [Nat.zero_add]) hb hv).mpr h).1
