/-! the round of the class: the table -/
def CIv (D : Nat → Nat → Nat) (np g st s i : Nat) (T : Nat → Int32) : Prop :=
  T st = nI 0 ∧
  (∀ m l, m < 256 → l < 8 → T (m * 8 + l) = nI 1000000 ∨ ∃ k d, FwP D np g st k m l d ∧ T (m * 8 + l) = nI d) ∧
  (∀ k m l d o, FwP D np g st k m l d → (m < s ∨ (m = s ∧ l < i)) → o < np → g.testBit o = true → m.testBit o = false → D l o < 1000 → ∃ c, c ≤ d + D l o ∧ T ((m + 2 ^ o) * 8 + o) = nI c)
theorem CIv.here {D : Nat → Nat → Nat} {np g st s i : Nat} {T : Nat → Int32} (h : CIv D np g st s i T) {k l d : Nat} (hF : FwP D np g st k s l d) : ∃ c, c ≤ d ∧ T (s * 8 + l) = nI c := by
  cases k with
  | zero =>
    obtain ⟨rfl, rfl, rfl⟩ := hF
    exact ⟨0, Nat.le_refl _, by rw [Nat.zero_mul, Nat.zero_add]; exact h.1⟩
  | succ k =>
    obtain ⟨m0, l0, d0, h1, h2, h3, h4, h5, rfl, rfl⟩ := hF
    have := Nat.two_pow_pos l
    exact h.2.2 k m0 l0 d0 l h1 (Or.inl (by omega)) h2 h3 h4 h5
theorem len_step {np g st s i : Nat} {D : Nat → Nat → Nat} {Fa Fo T : Nat → Int32} (hF : FD np D Fa Fo) (h8 : np ≤ 8) (hst : st < np) (hg : g < 256) (hs : s < 256) (hi : i < np) (h : CIv D np g st s i T) : w_lengthen_ok Fa T np (nI s) i (nI g) ∧ CIv D np g st s (i + 1) (w_lengthen Fa T np (nI s) i (nI g)).2 := by
  have ixs : ix (nI s) = s := pu_ix (by omega)
  have ys : isN (nI s) := pu_isN (by omega)
  have ha := an8 hg hs
  rcases h.2.1 s i hs (by omega) with e | ⟨kk, dd, hFw, e⟩
  · have f : ¬ T (s * 8 + i) < nI 1000000 := by
      rw [e]
      exact fun z => by
        have := (pu_lti (by omega) (by omega)).mp z
        omega
    have no : ∀ k d, ¬ FwP D np g st k s i d := fun k d hk => by
      obtain ⟨c, hc, ec⟩ := h.here hk
      have := hk.bd h8 hst
      rw [e] at ec
      have := pu_inj (by omega) (by omega) ec
      omega
    refine ⟨?_, ?_⟩
    · simp only [w_lengthen_ok, ixs, ys, if_neg f, show s * 8 + i < 2048 by omega, and_self]
    · simp only [w_lengthen, ixs, if_neg f]
      refine ⟨h.1, h.2.1, fun k m l d o hk hd => ?_⟩
      refine h.2.2 k m l d o hk ?_
      rcases hd with hd | ⟨hd, hd2⟩
      · exact Or.inl hd
      · by_cases c : l = i
        · rw [hd, c] at hk
          exact absurd hk (no k d)
        · exact Or.inr ⟨hd, by omega⟩
  · have hdd := hFw.bd h8 hst
    obtain ⟨-, hSb, -, -, -⟩ := FwP.facts h8 hst kk s i dd hFw
    have f : nI dd < nI 1000000 := (pu_lti (by omega) (by omega)).mpr (by omega)
    obtain ⟨l1, l2, l3⟩ := lg31 (T := T) (dd := dd) hF h8 hg hs hi np (Nat.le_refl _)
    rw [← ha] at l1 l2 l3
    refine ⟨?_, ?_⟩
    · simp only [w_lengthen_ok, ixs, ys, if_pos f, e, show s * 8 + i < 2048 by omega, true_and, and_true]
      exact l3
    · simp only [w_lengthen, ixs, if_pos f, e]
      generalize w_lengthen_31 Fa T (nI s) i (nI dd) (nI g &&& (nI s ^^^ (-1))) np = T' at l1 l2
      have hst8 : T' st = T st := l2 st (fun o ho _ _ _ => by
        have := Nat.two_pow_pos o
        omega)
      have dec : ∀ j c, c ≤ 1000000 → T j = nI c → ∃ c', c' ≤ c ∧ T' j = nI c' := fun j c hc ec => by
        by_cases q : ∃ o, o < np ∧ g.testBit o = true ∧ s.testBit o = false ∧ D i o < 1000 ∧ j = (s + 2 ^ o) * 8 + o
        · obtain ⟨o, o1, o2, o3, o4, rfl⟩ := q
          have := l1 o o1 o2 o3 o4
          rw [ec] at this
          by_cases y : dd + D i o < c
          · rw [if_pos ((pu_lti (by omega) (by omega)).mpr y)] at this
            exact ⟨_, Nat.le_of_lt y, this⟩
          · rw [if_neg (fun z => y ((pu_lti (by omega) (by omega)).mp z))] at this
            exact ⟨c, Nat.le_refl _, this⟩
        · exact ⟨c, Nat.le_refl _, by rw [l2 j (fun o o1 o2 o3 o4 o5 => q ⟨o, o1, o2, o3, o4, o5⟩)]; exact ec⟩
      refine ⟨by rw [hst8]; exact h.1, fun m l hm hl => ?_, fun k m l d o hk hd ho hgo hmo hDo => ?_⟩
      · by_cases q : ∃ o, o < np ∧ g.testBit o = true ∧ s.testBit o = false ∧ D i o < 1000 ∧ m * 8 + l = (s + 2 ^ o) * 8 + o
        · obtain ⟨o, o1, o2, o3, o4, o5⟩ := q
          have em : m = s + 2 ^ o := by omega
          have el : l = o := by omega
          subst em
          subst el
          have := l1 l o1 o2 o3 o4
          by_cases y : nI (dd + D i l) < T ((s + 2 ^ l) * 8 + l)
          · rw [if_pos y] at this
            exact Or.inr ⟨kk + 1, dd + D i l, ⟨s, i, dd, hFw, o1, o2, o3, o4, rfl, rfl⟩, this⟩
          · rw [if_neg y] at this
            rw [this]
            exact h.2.1 _ l hm hl
        · rw [l2 _ (fun o o1 o2 o3 o4 o5 => q ⟨o, o1, o2, o3, o4, o5⟩)]
          exact h.2.1 m l hm hl
      · have hkb := hk.bd h8 hst
        by_cases old : m < s ∨ (m = s ∧ l < i)
        · obtain ⟨c, hc, ec⟩ := h.2.2 k m l d o hk old ho hgo hmo hDo
          obtain ⟨c', hc', ec'⟩ := dec _ c (by omega) ec
          exact ⟨c', by omega, ec'⟩
        · have em : m = s := by omega
          have el : l = i := by omega
          subst em
          subst el
          obtain ⟨c, hc, ec⟩ := h.here hk
          rw [e] at ec
          have ecd := pu_inj (by omega) (by omega) ec
          have tl := l1 o ho hgo hmo hDo
          by_cases y : nI (dd + D l o) < T ((m + 2 ^ o) * 8 + o)
          · rw [if_pos y] at tl
            exact ⟨dd + D l o, by omega, tl⟩
          · rw [if_neg y] at tl
            obtain ⟨-, om⟩ := ma_or m hs o (by omega) hmo
            rcases h.2.1 (m + 2 ^ o) o om (by omega) with z | ⟨k2, d2, z1, z2⟩
            · rw [z] at y
              exact absurd ((pu_lti (by omega) (by omega)).mpr (by omega)) y
            · have := z1.bd h8 hst
              rw [z2] at y
              refine ⟨d2, ?_, by rw [tl, z2]⟩
              by_cases w : dd + D l o < d2
              · exact absurd ((pu_lti (by omega) (by omega)).mpr w) y
              · omega
theorem len_lp {np g st s : Nat} {D : Nat → Nat → Nat} {Fa Fo : Nat → Int32} (hF : FD np D Fa Fo) (h8 : np ≤ 8) (hst : st < np) (hg : g < 256) (hs : s < 256) (hz : (nI s &&& (nI g ^^^ (-1))) = 0) : ∀ (k i : Nat) (T : Nat → Int32), i + k = np → CIv D np g st s i T → w_leastRound_46_ok Fa np (nI g) (nI s) k i T ∧ CIv D np g st s np (w_leastRound_46 Fa np (nI g) (nI s) k i T)
  | 0, i, T, hi, h => by
    have e : i = np := by omega
    rw [e] at h
    simp only [w_leastRound_46_ok, w_leastRound_46]
    exact ⟨trivial, h⟩
  | k + 1, i, T, hi, h => by
    obtain ⟨a1, a2⟩ := len_step hF h8 hst hg hs (show i < np by omega) h
    rcases w : w_lengthen Fa T np (nI s) i (nI g) with ⟨u, r⟩
    rw [w] at a2
    obtain ⟨b1, b2⟩ := len_lp hF h8 hst hg hs hz k (i + 1) r (by omega) a2
    simp only [w_leastRound_46_ok, w_leastRound_46, if_pos hz, w]
    exact ⟨⟨a1, b1⟩, b2⟩
theorem len_all {np g st s : Nat} {D : Nat → Nat → Nat} {Fa Fo T : Nat → Int32} (hF : FD np D Fa Fo) (h8 : np ≤ 8) (hst : st < np) (hg : g < 256) (hs : s < 256) (h : CIv D np g st s 0 T) : w_leastRound_46_ok Fa np (nI g) (nI s) np 0 T ∧ CIv D np g st (s + 1) 0 (w_leastRound_46 Fa np (nI g) (nI s) np 0 T) := by
  have up : ∀ {T' : Nat → Int32}, CIv D np g st s np T' → CIv D np g st (s + 1) 0 T' := fun h' => by
    refine ⟨h'.1, h'.2.1, fun k m l d o hk hd => ?_⟩
    refine h'.2.2 k m l d o hk ?_
    obtain ⟨-, -, hl, -, -⟩ := FwP.facts h8 hst k m l d hk
    omega
  by_cases c : Sb s g
  · have hz : (nI s &&& (nI g ^^^ (-1))) = 0 := by rw [an8 hs hg, (an_0 hs).mpr c, nI_0]
    obtain ⟨a1, a2⟩ := len_lp hF h8 hst hg hs hz np 0 T (by omega) h
    exact ⟨a1, up a2⟩
  · have hz : ¬ (nI s &&& (nI g ^^^ (-1))) = 0 := fun z => by
      rw [an8 hs hg, ← nI_0] at z
      exact c ((an_0 hs).mp (pu_inj (Nat.lt_of_le_of_lt Nat.and_le_left (by omega)) (by omega) z))
    have no : ∀ k l d, ¬ FwP D np g st k s l d := fun k l d hk => c (FwP.facts h8 hst k s l d hk).2.1
    have keep : CIv D np g st (s + 1) 0 T := by
      refine ⟨h.1, h.2.1, fun k m l d o hk hd => ?_⟩
      refine h.2.2 k m l d o hk ?_
      by_cases e : m = s
      · rw [e] at hk
        exact absurd hk (no k l d)
      · omega
    have e1 : ∀ n, w_leastRound_46_ok Fa np (nI g) (nI s) n 0 T ∧ w_leastRound_46 Fa np (nI g) (nI s) n 0 T = T := fun n => by
      cases n with
      | zero => exact ⟨by simp only [w_leastRound_46_ok], by simp only [w_leastRound_46]⟩
      | succ n => exact ⟨by simp only [w_leastRound_46_ok, if_neg hz], by simp only [w_leastRound_46, if_neg hz]⟩
    refine ⟨(e1 np).1, ?_⟩
    rw [(e1 np).2]
    exact keep
theorem seen_lp {np g st : Nat} {D : Nat → Nat → Nat} {Fa Fo : Nat → Int32} (hF : FD np D Fa Fo) (h8 : np ≤ 8) (hst : st < np) (hg : g < 256) : ∀ (k s : Nat) (T : Nat → Int32), s ≤ g → g < s + k → CIv D np g st s 0 T → w_leastRound_37_ok Fa np (nI g) k (nI s) T ∧ CIv D np g st g 0 (w_leastRound_37 Fa np (nI g) k (nI s) T).2
  | 0, s, T, h1, h2, h => by omega
  | k + 1, s, T, h1, h2, h => by
    by_cases c : s = g
    · have f : nI g ≤ nI s := (pu_lei (by omega) (by omega)).mpr (by omega)
      rw [c] at h
      simp only [w_leastRound_37_ok, w_leastRound_37, if_pos f]
      exact ⟨trivial, h⟩
    · have f : ¬ nI g ≤ nI s := fun z => by
        have := (pu_lei (by omega) (by omega)).mp z
        omega
      obtain ⟨a1, a2⟩ := len_all hF h8 hst hg (show s < 256 by omega) h
      obtain ⟨b1, b2⟩ := seen_lp hF h8 hst hg k (s + 1) _ (by omega) (by omega) a2
      simp only [w_leastRound_37_ok, w_leastRound_37, if_neg f, nI_add]
      exact ⟨⟨a1, b1⟩, b2⟩
def mnn (c : Nat → Nat) : Nat → Nat
  | 0 => 1000000
  | n + 1 => min (mnn c n) (c n)
theorem mnn_le (c : Nat → Nat) : ∀ n, mnn c n ≤ 1000000 ∧ ∀ l, l < n → mnn c n ≤ c l
  | 0 => ⟨Nat.le_refl _, fun l hl => by omega⟩
  | n + 1 => by
    obtain ⟨a, b⟩ := mnn_le c n
    simp only [mnn]
    refine ⟨by omega, fun l hl => ?_⟩
    by_cases e : l = n
    · rw [e]; omega
    · have := b l (by omega)
      omega
theorem mnn_at (c : Nat → Nat) : ∀ n, mnn c n = 1000000 ∨ ∃ l, l < n ∧ mnn c n = c l
  | 0 => Or.inl rfl
  | n + 1 => by
    simp only [mnn]
    by_cases y : c n ≤ mnn c n
    · exact Or.inr ⟨n, by omega, by omega⟩
    · rcases mnn_at c n with e | ⟨l, hl, e⟩
      · left; omega
      · exact Or.inr ⟨l, by omega, by omega⟩
theorem mn95 {T : Nat → Int32} {g : Nat} {c : Nat → Nat} (hg : g < 256) : ∀ n, n ≤ 8 → (∀ l, l < n → T (g * 8 + l) = nI (c l) ∧ c l ≤ 1000000) → w_leastRound_95 T (nI g) n = nI (mnn c n)
  | 0, _, _ => rfl
  | n + 1, hn, h => by
    have ih := mn95 hg n (by omega) (fun l hl => h l (by omega))
    obtain ⟨e, hc⟩ := h n (by omega)
    have hm := (mnn_le c n).1
    simp only [w_leastRound_95, ih, pu_ix (show g < 2147483648 by omega), e, mnn]
    exact mnI (by omega) (by omega)
theorem f2048 (T : Nat → Int32) (y : Int32) : ∀ n j, j < n → J7_fill_53178_L2048_5 T y n j = y
  | 0, j, h => by omega
  | n + 1, j, h => by
    simp only [J7_fill_53178_L2048_5]
    by_cases c : j = n
    · rw [c, pk_us]
    · rw [pk_un c]
      exact f2048 T y n j (by omega)
/-- the class's least round -/
theorem lr_eq {np nt g st n1 : Nat} {D : Nat → Nat → Nat} {Fa Fo R T : Nat → Int32} (hF : FD np D Fa Fo) (h8 : np ≤ 8) (hst : st < np) (hg : g < 256) (e1 : R (1 + n1) = nI st) (eg : w_goalsFrom R np nt (nI st) = nI g) : w_leastRound_ok Fa R T np nt n1 ∧ ((((w_leastRound Fa R T np nt n1).1 = -1 ∧ ∀ k l d, ¬ FwP D np g st k g l d) ∨ (∃ k l d, FwP D np g st k g l d ∧ (w_leastRound Fa R T np nt n1).1 = nI d ∧ ∀ k' l' d', FwP D np g st k' g l' d' → d ≤ d'))) := by
  have h2048 : cN 2048 = 2048 := cN_eq 2048
  have ist : ix (nI st) = st := pu_ix (by omega)
  have h0 : CIv D np g st 0 0 (upd (J7_fill_53178_L2048_5 T (nI 1000000) 2048) st (nI 0)) := by
    refine ⟨pk_us, fun m l hm hl => ?_, fun k m l d o hk hd => by omega⟩
    by_cases c : m * 8 + l = st
    · have em : m = 0 := by omega
      have el : l = st := by omega
      subst em
      subst el
      exact Or.inr ⟨0, 0, ⟨rfl, rfl, rfl⟩, by rw [c, pk_us]⟩
    · rw [pk_un c]
      exact Or.inl (f2048 T (nI 1000000) 2048 _ (by omega))
  obtain ⟨a1, a2⟩ := seen_lp hF h8 hst hg FU 0 _ (by omega) (by rw [FU_eq]; omega) h0
  rcases w : w_leastRound_37 Fa np (nI g) FU (nI 0) (upd (J7_fill_53178_L2048_5 T (nI 1000000) 2048) st (nI 0)) with ⟨v, T'⟩
  rw [w] at a2
  simp only at a2
  obtain ⟨c, hcd⟩ : ∃ c : Nat → Nat, ∀ l, c l = ix (T' (g * 8 + l)) := ⟨_, fun _ => rfl⟩
  have hc : ∀ l, l < np → T' (g * 8 + l) = nI (c l) ∧ c l ≤ 1000000 := fun l hl => by
    rw [hcd l]
    rcases a2.2.1 g l hg (by omega) with e | ⟨k, d, q1, q2⟩
    · rw [e, pu_ix (by omega)]
      exact ⟨rfl, Nat.le_refl _⟩
    · have := q1.bd h8 hst
      rw [q2, pu_ix (by omega)]
      exact ⟨rfl, by omega⟩
  have hm := mn95 hg np h8 hc
  have hml := mnn_le c np
  refine ⟨?_, ?_⟩
  · simp only [w_leastRound_ok, J7_fill_53178_L2048, h2048, e1, eg, ist, w, a1, true_and, and_true]
    refine ⟨pu_isN (by omega), by omega, fun i hi => ?_⟩
    simp only [w_leastRound_95_ok, pu_ix (show g < 2147483648 by omega)]
    exact ⟨pu_isN (by omega), by omega, trivial⟩
  · simp only [w_leastRound, J7_fill_53178_L2048, h2048, e1, eg, ist, w, hm]
    have fin : ∀ k l d, FwP D np g st k g l d → l < np ∧ c l ≤ d := fun k l d hk => by
      obtain ⟨-, -, hl, -, -⟩ := FwP.facts h8 hst k g l d hk
      obtain ⟨x, hx, ex⟩ := a2.here hk
      have := hk.bd h8 hst
      rw [(hc l hl).1] at ex
      have := pu_inj (by have := (hc l hl).2; omega) (by omega) ex
      exact ⟨hl, by omega⟩
    by_cases y : mnn c np = 1000000
    · left
      rw [if_pos ((pu_lei (by omega) (by omega)).mpr (by omega))]
      refine ⟨rfl, fun k l d hk => ?_⟩
      obtain ⟨q1, q2⟩ := fin k l d hk
      have := hml.2 l q1
      have := hk.bd h8 hst
      omega
    · right
      rw [if_neg (fun z => by have := (pu_lei (by omega) (by omega)).mp z; omega)]
      rcases mnn_at c np with e | ⟨l, hl, e⟩
      · exact absurd e y
      · rcases a2.2.1 g l hg (by omega) with z | ⟨k, d, q1, q2⟩
        · rw [(hc l hl).1] at z
          have := pu_inj (by have := (hc l hl).2; omega) (by omega) z
          omega
        · have hb := q1.bd h8 hst
          rw [(hc l hl).1] at q2
          have q3 := pu_inj (by have := (hc l hl).2; omega) (by omega) q2
          refine ⟨k, l, d, q1, by rw [e, q3], fun k' l' d' hk' => ?_⟩
          obtain ⟨r1, r2⟩ := fin k' l' d' hk'
          have := hml.2 l' r1
          omega
