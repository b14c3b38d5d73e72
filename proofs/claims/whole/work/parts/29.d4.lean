/-! the place to look at next -/
def NL (n : Nat) (w : Nat → Int32) (a1 a2 b1 b2 : Int32) : Prop := (a1 = -1 ∧ a2 = nI 1000000 ∧ b1 = -1 ∧ b2 = -1) ∨ (∃ p m, p < n ∧ m ≤ 80 ∧ a1 = nI p ∧ a2 = nI m ∧ b1 = nI p ∧ b2 = nI m ∧ w p = nI m)
theorem NL.up {n : Nat} {w : Nat → Int32} {a1 a2 b1 b2 : Int32} (h : NL n w a1 a2 b1 b2) : NL (n + 1) w a1 a2 b1 b2 := by
  rcases h with h | ⟨p, m, h1, h2⟩
  · exact Or.inl h
  · exact Or.inr ⟨p, m, by omega, h2⟩
theorem np_lp {np nt : Nat} {W A R Ly TH S Z Q P : Nat → Int32} {V : Nat → Nat → Nat → Nat} (h8 : np ≤ 8) (h10 : nt ≤ 10) (hV : VW np nt W R Ly TH S V) (hB : ∀ p, p < np → Z p = A p) (hP : HPq (PqL (Fit np A V) np nt) Q P) (y : Int32) (T T' : Nat → Int32) : ∀ n, n ≤ np → NL n (fun p => wst (fun x => V p x.1 x.2) (PqL (Fit np A V) np nt)) (s_nextPlace_7 W A R Q P Ly T n).1 (s_nextPlace_7 W A R Q P Ly T n).2.1 (k_look_33 TH S Z T' np nt y n).1 (k_look_33 TH S Z T' np nt y n).2.1 ∧ ∀ i, i < n → s_nextPlace_7_ok W A R Q P Ly T i ∧ k_look_33_ok TH S Z T' np nt y i
  | 0, _ => ⟨Or.inl ⟨by simp only [s_nextPlace_7], by simp only [s_nextPlace_7], by simp only [k_look_33], by simp only [k_look_33]⟩, fun i hi => by omega⟩
  | n + 1, hn => by
    obtain ⟨i1, i2⟩ := np_lp h8 h10 hV hB hP y T T' n (by omega)
    rcases w1 : s_nextPlace_7 W A R Q P Ly T n with ⟨s1, s2, q52⟩
    rcases w2 : k_look_33 TH S Z T' np nt y n with ⟨s2', s3', q78⟩
    rw [w1, w2] at i1
    simp only at i1
    have hz := hB n (by omega)
    obtain ⟨a1, a2⟩ := sl_eq h8 h10 hV hP (show n < np by omega) q52
    obtain ⟨b1, b2⟩ := kw_eq hV hB (show n < np by omega) q78
    have hlen : (PqL (Fit np A V) np nt).length ≤ 80 := by
      have a := PqL_len (Fit np A V) np nt
      have b : np * nt ≤ 8 * 10 := Nat.mul_le_mul h8 h10
      omega
    obtain ⟨m', hm', em'⟩ := wst_bd (v := fun x => V n x.1 x.2) hlen
    refine ⟨?_, fun i hi => ?_⟩
    · by_cases c : A n = -1
      · rcases w3 : s_leftAtWorst W R Q P Ly q52 n with ⟨v5, r6⟩
        rcases w4 : k_worstOf TH S Z q78 np nt (nI n) with ⟨v22, r23⟩
        rw [w3] at a2
        rw [w4] at b2
        simp only at a2 b2
        rw [em'] at a2 b2
        rw [a2] at w3
        rw [b2] at w4
        rcases i1 with ⟨e1, e2, e3, e4⟩ | ⟨p, m, hp, hm, e1, e2, e3, e4, e5⟩
        · have g : ¬ s2 ≤ nI m' := by
            rw [e2]
            exact fun z => by
              have := (pu_lei (by omega) (by omega)).mp z
              omega
          simp only [s_nextPlace_7, k_look_33, w1, w2, hz, if_pos c, w3, w4, if_neg g, if_pos e3]
          exact Or.inr ⟨n, m', by omega, hm', rfl, rfl, rfl, rfl, em'⟩
        · have g3 : ¬ s2' = -1 := by rw [e3]; exact pu_nm (by omega)
          by_cases d : m ≤ m'
          · have g : s2 ≤ nI m' := by rw [e2]; exact (pu_lei (by omega) (by omega)).mpr d
            have g' : ¬ nI m' < s3' := by
              rw [e4]
              exact fun z => by
                have := (pu_lti (by omega) (by omega)).mp z
                omega
            simp only [s_nextPlace_7, k_look_33, w1, w2, hz, if_pos c, w3, w4, if_pos g, if_neg g3, if_neg g']
            exact Or.inr ⟨p, m, by omega, hm, e1, e2, e3, e4, e5⟩
          · have g : ¬ s2 ≤ nI m' := by rw [e2]; exact fun z => d ((pu_lei (by omega) (by omega)).mp z)
            have g' : nI m' < s3' := by rw [e4]; exact (pu_lti (by omega) (by omega)).mpr (by omega)
            simp only [s_nextPlace_7, k_look_33, w1, w2, hz, if_pos c, w3, w4, if_neg g, if_neg g3, if_pos g']
            exact Or.inr ⟨n, m', by omega, hm', rfl, rfl, rfl, rfl, em'⟩
      · simp only [s_nextPlace_7, k_look_33, w1, w2, hz, if_neg c]
        exact i1.up
    · by_cases d : i = n
      · rw [d]
        simp only [s_nextPlace_7_ok, k_look_33_ok, w1, w2, hz]
        by_cases c : A n = -1
        · rw [if_pos c, if_pos c]
          exact ⟨⟨a1, trivial⟩, b1, trivial⟩
        · rw [if_neg c, if_neg c]
          exact ⟨trivial, trivial⟩
      · exact i2 i (by omega)
theorem op_look {np nr nt nf : Nat} {M : Mem} (h : IV np nr nt nf M) (x1 : Int32) : EO_look M np nt x1 ∧ Ag 1 0 (e_look M np nt x1) (fun N => KO_look N x1) (fun N => K_look N x1) := by
  obtain ⟨⟨z1, z2, z3, z4⟩, ⟨s1, s2, s3, s4⟩, ⟨c1, c2, c3, c4⟩, ⟨t1, t2, t3⟩, hL, hDd, hH, hI, hTP, ⟨b1, b2, b3, b4, b5⟩, hBK⟩ := id h
  obtain ⟨hD, -⟩ := id hDd
  have hd := DR_take (s := M.1 72) hD z3 z4
  have q20 : upd (M.1 54) 0 (nI 0) 20 = nI np := by rw [pk_un (by decide)]; exact c1
  have q22 : upd (M.1 54) 0 (nI 0) 22 = nI nt := by rw [pk_un (by decide)]; exact c3
  have i20 : ix (nI np) = np := pu_ix (by omega)
  have i22 : ix (nI nt) = nt := pu_ix (by omega)
  have n20 : isN (nI np) := pu_isN (by omega)
  have n22 : isN (nI nt) := pu_isN (by omega)
  have hz : SZ np nr nt nf := ⟨z1, z2, z3, z4⟩
  by_cases hx1 : ¬ x1 < nI 0 ∧ x1 ≤ nI 1
  · obtain ⟨g1, V, Q', P', Ly', g2, g3, g4⟩ := lp_eq (A := M.1 30) (Z := M.1 75) (Q := M.1 49) (P := M.1 50) (Ly := M.1 51) hd t1 hz (fun p hp => (hBK p hp).1)
    obtain ⟨j1, j2⟩ := np_lp z1 z3 g3 (fun p hp => (hBK p hp).1) g4 x1 (M.1 52) (M.1 78) np (Nat.le_refl _)
    rcases y6 : k_take (M.1 71) (M.1 72) with ⟨u6, r6⟩
    rw [y6] at j1 j2
    simp only at j1 j2
    rcases w1 : s_nextPlace_7 (M.1 7) (M.1 30) (M.1 38) Q' P' Ly' (M.1 52) np with ⟨v14, v13, r15⟩
    rcases w2 : k_look_33 (M.1 61) r6 (M.1 75) (M.1 78) np nt x1 np with ⟨v34, v35, r36⟩
    rw [w1, w2] at j1
    simp only at j1
    have kg : k_look (M.1 54) (M.1 55) (M.1 61) (M.1 71) (M.1 72) (M.1 75) (M.1 78) x1 = (if x1 = 0 then v34 else v35, upd (M.1 54) 0 (nI 0), M.1 55, r6, r36) := by
      simp only [k_look, wi_t hx1, may1_t (t0 _), if_neg pu_n10, y6, q20, q22, i20, i22, w2]
      by_cases a : x1 = 0
      · rw [if_pos a, if_pos a]
      · rw [if_neg a, if_neg a]
    have kgo : k_look_ok (M.1 54) (M.1 55) (M.1 61) (M.1 71) (M.1 72) (M.1 75) (M.1 78) x1 := by
      simp only [k_look_ok, wi_t hx1, may1_t (t0 _), if_neg pu_n10, take_ok, y6, q20, q22, i20, i22, n20, n22, z1, z3, true_and, and_true]
      exact fun i hi => (j2 i hi).2
    have key : ∀ r25, e_look M np nt x1 = .inl (some (.int (if x1 = 0 then v34 else v35)), mrow (mrow (mrow (mrow M 49 Q') 50 P') 51 Ly') 52 r25) → Ag 1 0 (e_look M np nt x1) (fun N => KO_look N x1) (fun N => K_look N x1) := by
      intro r25 eg
      refine Ag.good h _ _ _ eg ?_ ?_ ?_ ?_ ?_ ?_
      · simp only [KO_look, mrow_hit, mrow_miss, ne_eq, Nat.reduceEqDiff, not_false_eq_true, reduceCtorEq, kgo]
      · simp only [K_look, mrow_hit, mrow_miss, ne_eq, Nat.reduceEqDiff, not_false_eq_true, reduceCtorEq, kg]
      · simp only [K_look, mrow_hit, mrow_miss, ne_eq, Nat.reduceEqDiff, not_false_eq_true, reduceCtorEq, kg]
      · simp only [K_look, mrow_hit, mrow_miss, ne_eq, Nat.reduceEqDiff, not_false_eq_true, reduceCtorEq, kg]
      · simp only [K_look, mrow_hit, mrow_miss, ne_eq, Nat.reduceEqDiff, not_false_eq_true, reduceCtorEq]
      · intro c hc
        simp only [K_look]
        rw [mrow_miss _ _ (scr_ne hc rfl), mrow_miss _ _ (scr_ne hc rfl), mrow_miss _ _ (scr_ne hc rfl), mrow_miss _ _ (scr_ne hc rfl), mrow_miss _ _ (scr_ne hc rfl), mrow_miss _ _ (scr_ne hc rfl), mrow_miss _ _ (scr_ne hc rfl), mrow_miss _ _ (scr_ne hc rfl)]
    have np_ok : s_nextPlace_ok (M.1 7) (M.1 30) (M.1 38) Q' P' Ly' (M.1 52) np := ⟨fun i hi => (j2 i hi).1, trivial⟩
    have npv : s_nextPlace (M.1 7) (M.1 30) (M.1 38) Q' P' Ly' (M.1 52) np = (v14, r15) := by simp only [s_nextPlace, w1]
    rcases j1 with ⟨e1, e2, e3, e4⟩ | ⟨p, m, hp, hm, e1, e2, e3, e4, e5⟩
    · refine ⟨⟨z1, s1, z3, s3, ?_⟩, key r15 ?_⟩
      · simp only [e_look_ok, if_pos hx1, g1, g2, np_ok, npv, if_pos e1, ite_self, and_self]
      · simp only [e_look, if_pos hx1, g2, npv, if_pos e1]
        rw [e1, e3, e4, ite_self, ite_self]
    · have en : ¬ v14 = -1 := by rw [e1]; exact pu_nm (by omega)
      have ip : ix v14 = p := by rw [e1]; exact pu_ix (by omega)
      have yp : isN v14 := by rw [e1]; exact pu_isN (by omega)
      obtain ⟨o1, o2⟩ := sl_eq z1 z3 g3 g4 hp r15
      rcases w3 : s_leftAtWorst (M.1 7) (M.1 38) Q' P' Ly' r15 p with ⟨v24, r25⟩
      rw [w3] at o2
      simp only at o2
      have ov : v24 = v35 := by rw [o2, e4]; exact e5
      refine ⟨⟨z1, s1, z3, s3, ?_⟩, ?_⟩
      · simp only [e_look_ok, if_pos hx1, g1, g2, np_ok, npv, if_neg en, ip, yp, o1, show p < 8 by omega, and_self, ite_self]
      · by_cases a : x1 = 0
        · refine key r15 ?_
          simp only [e_look, if_pos hx1, g2, npv]
          rw [if_pos a, if_pos a, e1, e3]
        · refine key r25 ?_
          simp only [e_look, if_pos hx1, g2, npv, if_neg en, ip, w3]
          rw [if_neg a, if_neg a, ov]
  · refine ⟨⟨z1, s1, z3, s3, by simp only [e_look_ok, if_neg hx1]⟩, Ag.bad1 h (by decide) _ (by simp only [e_look, if_neg hx1]) ?_ ?_ ?_ ?_ ?_⟩
    · simp only [KO_look, k_look_ok, mrow_hit, mrow_miss, ne_eq, Nat.reduceEqDiff, not_false_eq_true, reduceCtorEq, wi_f hx1, may1_f (t0 _) pu_n10, if_pos pu_n01, and_self]
    · simp only [K_look, k_look, mrow_hit, mrow_miss, ne_eq, Nat.reduceEqDiff, not_false_eq_true, reduceCtorEq, wi_f hx1, may1_f (t0 _) pu_n10, if_pos pu_n01]
    · simp only [K_look, k_look, mrow_hit, mrow_miss, ne_eq, Nat.reduceEqDiff, not_false_eq_true, reduceCtorEq, wi_f hx1, may1_f (t0 _) pu_n10, if_pos pu_n01]
    · simp only [K_look, mrow_hit, mrow_miss, ne_eq, Nat.reduceEqDiff, not_false_eq_true, reduceCtorEq]
    · intro c hc
      simp only [K_look]
      rw [mrow_miss _ _ (scr_ne hc rfl), mrow_miss _ _ (scr_ne hc rfl), mrow_miss _ _ (scr_ne hc rfl), mrow_miss _ _ (scr_ne hc rfl), mrow_miss _ _ (scr_ne hc rfl)]
