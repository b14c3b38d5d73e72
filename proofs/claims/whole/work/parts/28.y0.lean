/-! a work's text, once more -/
theorem wrk_l2 {B T : Nat → Int32} {nr nt nf n : Nat} (hn : n ≤ 150) (hB : BY B T) (hs : nr ≤ 12 ∧ nt ≤ 10 ∧ nf ≤ 6) (K0 S0 : Nat → Int32) : ∀ (k i K p : Nat) (q m wk Kd F S N : Nat → Int32), n ≤ p + k → n < p + K → 1 ≤ K → SW nr nt nf n 0 0 0 p K0 S0 q m wk Kd F S N →
    x_readFrom_7_ok B nr nt nf k i q wk Kd F S ∧ k_work_68_ok T K m N ∧ ∃ q1 wk1 K1 F1 S1 m1 N1, x_readFrom_7 B nr nt nf k i q wk Kd F S = (q1, wk1, K1, F1, S1) ∧ k_work_68 T K m N = (m1, N1) ∧ Fw m m1 ∧ SW nr nt nf n 0 0 0 p K0 S0 q1 m1 wk1 K1 F1 S1 N1
  | k, i, 0, p, q, m, wk, Kd, F, S, N, _, _, h, _ => by omega
  | k, i, K + 1, p, q, m, wk, Kd, F, S, N, hk, hK, _, hS => by
    rcases hS with ⟨a, c, hp, hq, hm, h7, hz, hw, ⟨fv, hseg⟩, hfr, hce⟩ | ⟨hb, hc⟩
    · have han := hq.2.2.2.2.2
      rcases Nat.eq_zero_or_pos k with hk0 | hkp
      · have ea : a = n := by omega
        obtain ⟨e1, e2, s, q', e3, e4, e5, e6, e7, e8⟩ := mo_eq (by omega) hB hq hm
        have hsn : s = n := by omega
        rcases e8 with ⟨hl, -⟩ | ⟨-, -, hb3⟩
        · omega
        · subst hk0
          refine ⟨trivial, ?_, q, wk, Kd, F, S, upd m 4 (nI s), N, rfl, ?_, Fw.u4 _ _, Or.inl ⟨a, c, hp, hq, ?_, ?_, hz.fw (Fw.u4 _ _), hw.mv (pk_un (by decide)), ⟨fv, hseg⟩, hfr, hce⟩⟩
          · simp only [k_work_68_ok, hm.fi, if_neg pu_n10, e2, hb3, if_pos pu_n01, true_and, and_self]
          · simp only [k_work_68, hm.fi, if_neg pu_n10, hb3, if_pos pu_n01]
          · rw [ea]; rw [hsn] at e7 ⊢; exact e7
          · rw [pk_un (by decide)]; exact h7
      obtain ⟨k, rfl⟩ : ∃ k', k = k' + 1 := ⟨k - 1, by omega⟩
      obtain ⟨n1, n2, q1, v, w, s, x1, x2, x3, x4, es, has, hsn, hss, Q1, M1, q14, hv⟩ := gd_next (T := T) (by omega) hB hq hm
      have W1 : WI nr nt nf c wk Kd F S (upd m 4 (nI s)) N := hw.mv (pk_un (by decide))
      have g7 : upd m 4 (nI s) 7 = nI 0 := by rw [pk_un (by decide)]; exact h7
      have F1 : Fw m (upd m 4 (nI s)) := Fw.u4 _ _
      have z1 := hz.fw F1
      simp only [x_readFrom_7_ok, x_readFrom_7, k_work_68_ok, k_work_68, k_isMore_ok, k_isMore, hm.fi, if_neg pu_n10, n1, n2, x1, x2, M1.1, M1.2.1, true_and, and_true]
      generalize upd m 4 (nI s) = m1 at *
      rcases hv with ⟨hl, hv1, hw1, b, hb, eb⟩ | ⟨hl, hv1, hw1⟩
      · have f1 : ¬ v = -1 := by rw [hv1, eb]; exact pu_nm (by omega)
        have f2 : ¬ nI n ≤ nI s := fun h => by have := (pu_lei (by omega) (by omega)).mp h; omega
        obtain ⟨a1, a2, q3, wk3, K3, F3, S3, m3, N3, a3, a4, Fa, Sa⟩ := rs_rec hn hB hs (cN 10) 0 (by rw [cN_eq]; omega) (by omega) q1 m1 wk Kd F S N s c 0 Q1 M1 g7 z1 W1 (by omega)
        simp only [if_neg f1, if_neg f2, if_neg pu_n10, x_readStep_ok, x_readStep, k_readStep_ok, k_readStep, a1, a2, a3, a4, true_and]
        have Sb : SW nr nt nf n 0 0 0 (s + 1) K0 S0 q3 m3 wk3 K3 F3 S3 N3 := by
          rcases Sa with ⟨a', c', k1, k2, k3, k4, k5, k6, ⟨fu, k7⟩, k8, k9⟩ | Sa
          · exact Or.inl ⟨a', c', k1, k2, k3, k4, k5, k6, ⟨fv + fu, Seg.app k7 fv 0 (Seg.cg fv _ 0 c (fun t _ h => k8 t h) hseg)⟩, fun t ht => by omega, k9⟩
          · exact Or.inr Sa
        obtain ⟨b1, b2, q4, wk4, K4, F4, S4, m4, N4, b3, b4, Fb, Sc⟩ := wrk_l2 hn hB hs K0 S0 k (i + 1) K (s + 1) q3 m3 wk3 K3 F3 S3 N3 (by omega) (by omega) (by omega) Sb
        exact ⟨b1, b2, q4, wk4, K4, F4, S4, m4, N4, b3, b4, (F1.tr Fa).tr Fb, Sc.dn (by omega)⟩
      · have f2 : nI n ≤ nI s := (pu_lei (by omega) (by omega)).mpr (by omega)
        subst hv1
        simp only [↓reduceIte, if_pos f2, if_pos pu_n01, true_and]
        exact ⟨q1, wk, Kd, F, S, m1, N, rfl, rfl, F1, Or.inl ⟨s, c, by omega, Q1, M1, g7, z1, W1, ⟨fv, hseg⟩, hfr, by omega⟩⟩
    · obtain ⟨K9, hK9⟩ := fu_s
      have hm := hb.fi
      simp only [k_work_68_ok, k_work_68, hm, if_pos pu_n01, true_and]
      have hcl : x_readFrom_7_ok B nr nt nf k i q wk Kd F S ∧ ∃ q1, x_readFrom_7 B nr nt nf k i q wk Kd F S = (q1, wk, Kd, F, S) ∧ Bd q1 m n := by
        cases k with
        | zero => exact ⟨trivial, q, rfl, hb⟩
        | succ k =>
          obtain ⟨a1, q1, a2, a3⟩ := hb.nx (B := B) (by omega)
          simp only [x_readFrom_7_ok, x_readFrom_7, a1, a2, ↓reduceIte, true_and]
          exact ⟨q1, rfl, a3⟩
      obtain ⟨c1, q1, c2, c3⟩ := hcl
      exact ⟨c1, q1, wk, Kd, F, S, m, N, c2, rfl, Fw.rf m, Or.inr ⟨c3, hc⟩⟩
theorem w123 (md nw ps : Nat → Int32) {w : Nat} (e : ix (md 35) = w) : ∀ k j, k_work_123 md nw ps k j = if 51 * w ≤ j ∧ j < 51 * w + k then nw (j - 51 * w) else ps j
  | 0, j => by rw [if_neg (show ¬ (51 * w ≤ j ∧ j < 51 * w + 0) by omega)]; rfl
  | k + 1, j => by
    simp only [k_work_123, e]
    by_cases c : j = 51 * w + k
    · rw [c, pk_us, if_pos (show 51 * w ≤ 51 * w + k ∧ 51 * w + k < 51 * w + (k + 1) by omega), show 51 * w + k - 51 * w = k by omega]
    · rw [pk_un c, w123 md nw ps e k j]
      by_cases d : 51 * w ≤ j ∧ j < 51 * w + k
      · rw [if_pos d, if_pos (show 51 * w ≤ j ∧ j < 51 * w + (k + 1) by omega)]
      · rw [if_neg d, if_neg (show ¬ (51 * w ≤ j ∧ j < 51 * w + (k + 1)) by omega)]
