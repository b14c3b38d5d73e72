/-! the book's text -/
theorem bb_bad {B m : Nat → Int32} {n : Nat} (hn : n ≤ 600) (x : Int32) : ∀ (k i : Nat) (q bk W : Nat → Int32), Bd q m n → b_readFrom_6_ok B x k i q bk W ∧ ∃ q', b_readFrom_6 B x k i q bk W = (q', bk, W) ∧ Bd q' m n
  | 0, i, q, bk, W, h => ⟨trivial, q, rfl, h⟩
  | k + 1, i, q, bk, W, h => by
    obtain ⟨a1, q', a2, a3⟩ := h.nx (B := B) hn
    refine ⟨?_, q', ?_, a3⟩
    · simp only [b_readFrom_6_ok, a1, a2, ↓reduceIte, and_self]
    · simp only [b_readFrom_6, a2, ↓reduceIte]
theorem bd_ns {B T q m : Nat → Int32} {n : Nat} (hn : n ≤ 600) (h : Bd q m n) (lo hi : Int32) : ∃ v q1 u q2 u', t_number_ok q B lo hi ∧ t_number q B lo hi = (v, q1) ∧ t_needSign_ok q1 B (nI 59) ∧ t_needSign q1 B (nI 59) = (u, q2) ∧ k_readNumber_ok m T lo hi ∧ k_readNumber m T lo hi = (nI 0, m) ∧ k_sign_ok m T (nI 59) ∧ k_sign m T (nI 59) = (u', m) ∧ Bd q2 m n := by
  obtain ⟨a1, a2, a3, a4⟩ := h.num (B := B) (T := T) hn lo hi
  obtain ⟨b1, b2, b3, b4⟩ := a3.sg (B := B) (T := T) hn (c := nI 59) (by decide)
  rw [b4] at b3
  refine ⟨(t_number q B lo hi).1, (t_number q B lo hi).2, (t_needSign (t_number q B lo hi).2 B (nI 59)).1, (t_needSign (t_number q B lo hi).2 B (nI 59)).2, (k_sign m T (nI 59)).1, a1, rfl, b1, rfl, a2, a4, b2, ?_, b3⟩
  exact Prod.ext rfl b4
def WZ (W Z : Nat → Int32) : Prop := ∀ p, p < 8 → Z p = W p ∧ (W p = -1 ∨ ∃ w, w ≤ 600 ∧ W p = nI w)
theorem WZ.u {W Z : Nat → Int32} (h : WZ W Z) {v w : Nat} (hw : w ≤ 600) : WZ (upd W v (nI w)) (upd Z v (nI w)) := by
  intro p hp
  by_cases c : p = v
  · rw [c, pk_us, pk_us]; exact ⟨rfl, Or.inr ⟨w, hw, rfl⟩⟩
  · rw [pk_un c, pk_un c]; exact h p hp
theorem bk_lp {B T : Nat → Int32} {n np : Nat} (hn : n ≤ 600) (hB : BY B T) (hnp : np ≤ 8) : ∀ (k i K a c : Nat) (q m bk W Z : Nat → Int32), n ≤ a + k → n < a + K → TS q n a → MS m n a → m 20 = nI np → bk 0 = nI c → WZ W Z →
    b_readFrom_6_ok B (nI np) k i q bk W ∧ k_book_67_ok T K (nI c) m Z ∧ ∃ q' bk' W' c' m' Z', b_readFrom_6 B (nI np) k i q bk W = (q', bk', W') ∧ k_book_67 T K (nI c) m Z = (nI c', m', Z') ∧ Fm m m' ∧
      ((∃ a', TS q' n a' ∧ MS m' n a' ∧ bk' 0 = nI c' ∧ WZ W' Z') ∨ Bd q' m' n)
  | k, i, 0, a, c, q, m, bk, W, Z, h1, h2, hq, hm, h20, hb, hW => by
    have := hq.2.2.2.2.2
    omega
  | k, i, K + 1, a, c, q, m, bk, W, Z, h1, h2, hq, hm, h20, hb, hW => by
    obtain ⟨p1, p2, p3, p5, p6, pa⟩ := id hq
    obtain ⟨g3, g4, g5, -⟩ := id hm
    obtain ⟨r1, r2⟩ := tnx (B := B) hn p5 p6 pa
    obtain ⟨s1, s2⟩ := khr hn hB g3 g4 pa
    have hs := sk_le (B := B) pa
    have hsa := sk_ge B n a
    have hss := sk_sk B n a
    generalize sk B n a = s at r2 s2 hs hsa hss
    have hmf := hm.fi
    have hm2 : MS (upd m 4 (nI s)) n s := hm.u4 hs
    have hq2 : TS (upd (upd q 6 (nI s)) 4 (nI s)) n s := ⟨by rw [pk_un (by decide), pk_un (by decide)]; exact p1, by rw [pk_un (by decide), pk_un (by decide)]; exact p2, by rw [pk_un (by decide), pk_un (by decide)]; exact p3, by rw [pk_un (by decide), pk_un (by decide)]; exact p5, by rw [pk_un (by decide), pk_us], hs⟩
    have e3 : upd m 4 (nI s) 3 = nI n := hm2.1
    have e4 : upd m 4 (nI s) 4 = nI s := pk_us
    by_cases hl : s < n
    · obtain ⟨-, b, hb2, eb⟩ := hB s (by omega)
      have hbm : ¬ nI b = -1 := pu_nm (by omega)
      have hle : ¬ nI n ≤ nI s := fun z => by
        have := (pu_lei (by omega) (by omega)).mp z
        omega
      obtain ⟨k, rfl⟩ : ∃ k', k = k' + 1 := ⟨k - 1, by omega⟩
      have r2' : t_next q B = (nI b, upd (upd q 6 (nI s)) 4 (nI s)) := by rw [r2, if_pos ⟨hl, p2⟩, eb]
      obtain ⟨s1', s2'⟩ := khr hn hB hm2.1 hm2.2.1 hs
      rw [hss, hm2.rw] at s2'
      have i20 : upd m 4 (nI s) 20 = nI np := by rw [pk_un (by decide)]; exact h20
      have hmo : k_isMore_ok m T ∧ k_isMore m T = (nI 1, upd m 4 (nI s)) := by
        simp only [k_isMore_ok, k_isMore, s1, s2, e3, e4, if_neg hle, and_self]
      obtain ⟨t1, t2, t3, t4, t5⟩ := rd_num hn hB hq2 hm2 (lo := nI 0) (hi := nI np - nI 1) (by decide) (hi_pred (by omega))
      rw [hss] at t4 t5
      generalize hqq : upd (upd q 6 (nI s)) 4 (nI s) = q9 at r2' t1 t4 t5 hq2
      have hf4 : Fm m (upd m 4 (nI s)) := Fm.u4 m _
      generalize hmm : upd m 4 (nI s) = m9 at hmo s2' t2 t3 t5 hm2 i20 hf4 e4 s1'
      rcases x1 : t_number q9 B (nI 0) (nI np - nI 1) with ⟨v17, r18⟩
      rcases x2 : k_readNumber m9 T (nI 0) (nI np - nI 1) with ⟨v38, r39⟩
      rw [x1] at t4 t5
      rw [x2] at t3 t5
      simp only at t3 t4 t5
      have hF39 : Fm m r39 := hf4.tr t3
      -- a fault of the first number or of the place: the rest runs empty
      have bad : ∀ {q1 m1 : Nat → Int32}, Bd q1 m1 n → ∃ v q2 u q3 u' q4, t_number_ok q1 B (nI 0) (nI 600) ∧ t_number q1 B (nI 0) (nI 600) = (v, q2) ∧ t_needSign_ok q2 B (nI 59) ∧ t_needSign q2 B (nI 59) = (u, q3) ∧ k_readNumber_ok m1 T (nI 0) (nI 600) ∧ k_readNumber m1 T (nI 0) (nI 600) = (nI 0, m1) ∧ k_sign_ok m1 T (nI 59) ∧ k_sign m1 T (nI 59) = (u', m1) ∧ (¬ t_isFaulty q3 = 0) ∧ k_fine m1 = nI 0 ∧ b_readFrom_6_ok B (nI np) k (i + 1) q3 bk W ∧ b_readFrom_6 B (nI np) k (i + 1) q3 bk W = (q4, bk, W) ∧ Bd q4 m1 n := by
        intro q1 m1 hbd
        obtain ⟨v, q2, u, q3, u', d1, d2, d3, d4, d5, d6, d7, d8, d9⟩ := bd_ns (B := B) (T := T) hn hbd (nI 0) (nI 600)
        obtain ⟨f1, q4, f2, f3⟩ := bb_bad (B := B) hn (nI np) k (i + 1) q3 bk W d9
        exact ⟨v, q2, u, q3, u', q4, d1, d2, d3, d4, d5, d6, d7, d8, d9.is, hbd.fi, f1, f2, f3⟩
      rcases t5 with ⟨v, a1, hv, ha1, ev, ev', hv0, hv1, hq3, hm3⟩ | ⟨kd, v, hT, hM, hv, ev⟩
      · have hvn : v < np := le_pred hv (by omega) hv1
        have iv : ix (nI v) = v := pu_ix (by omega)
        have yv : isN (nI v) := pu_isN (by omega)
        have hv8 : v < 8 := by omega
        obtain ⟨w1, w2⟩ := hW v hv8
        rw [ev] at x1
        rw [ev'] at x2
        by_cases cw : W v = -1
        · have cz : Z v = -1 := by rw [w1]; exact cw
          obtain ⟨u1, u2, u3, -, u5⟩ := rd_num hn hB hq3 hm3 (lo := nI 0) (hi := nI 600) (by decide) (by decide)
          have ha1' := hq3.2.2.2.2.2
          have hsa1 := sk_ge B n a1
          rcases x3 : t_number r18 B (nI 0) (nI 600) with ⟨v48, r49⟩
          rcases x4 : k_readNumber r39 T (nI 0) (nI 600) with ⟨v69, r70⟩
          rw [x3] at u5
          rw [x4] at u3 u5
          simp only at u3 u5
          have hF70 : Fm m r70 := hF39.tr u3
          rcases u5 with ⟨w, a2, hw, ha2, ew, ew', hw0, hw1, hq4, hm4⟩ | ⟨kd, w, hT, hM, hw, ew⟩
          · have hw6 : w ≤ 600 := (pu_lei (by omega) (by omega)).mp hw1
            rw [ew] at x3
            rw [ew'] at x4
            obtain ⟨y1, y2⟩ := ts_sign (B := B) hn hq4 (c := nI 59) (by decide)
            obtain ⟨l1, l2, l3⟩ := ms_sign hn hB hm4 (c := nI 59) (by decide)
            have hsa2 := sk_ge B n a2
            rcases x5 : t_needSign r49 B (nI 59) with ⟨u54, r55⟩
            rcases x6 : k_sign r70 T (nI 59) with ⟨u75, r76⟩
            rw [x5] at y2
            rw [x6] at l2 l3
            simp only at y2 l2 l3
            have hF76 : Fm m r76 := hF70.tr l2
            rcases y2 with ⟨c1, c2, hq5⟩ | ⟨c1, hT⟩
            · rcases l3 with ⟨-, -, hm5⟩ | ⟨d1, -⟩
              · have h20' : r76 20 = nI np := by rw [hF76 20 (by decide) (by decide) (by decide)]; exact h20
                have hb' : upd bk 0 (bk 0 + nI 1) 0 = nI (c + 1) := by rw [pk_us, hb, nI_add]
                obtain ⟨j1, j2, q', bk', W', c', m', Z', j3, j4, j5, j6⟩ := bk_lp hn hB hnp k (i + 1) K (sk B n a2 + 1) (c + 1) r55 r76 (upd bk 0 (bk 0 + nI 1)) (upd W v (nI w)) (upd Z v (nI w)) (by omega) (by omega) hq5 hm5 h20' hb' (hW.u hw6)
                refine ⟨?_, ?_, q', bk', W', c', m', Z', ?_, ?_, hF76.tr j5, j6⟩
                · simp only [b_readFrom_6_ok, r1, r2', if_neg hbm, t1, x1, if_pos hq3.nf, iv, yv, hv8, if_pos cw, u1, x3, y1, x5, if_pos hq5.nf, j1, and_self]
                · simp only [k_book_67_ok, hmf, if_neg pu_n10, hmo.1, hmo.2, s1', s2', i20, t2, x2, hm3.fi, iv, yv, hv8, if_pos cz, u2, x4, l1, x6, hm5.fi, nI_add, j2, and_self]
                · simp only [b_readFrom_6, r2', if_neg hbm, x1, if_pos hq3.nf, iv, if_pos cw, x3, x5, if_pos hq5.nf, j3]
                · simp only [k_book_67, hmf, if_neg pu_n10, hmo.2, s2', i20, x2, hm3.fi, iv, if_pos cz, x4, x6, hm5.fi, nI_add, j4]
              · exact absurd ⟨c1, c2⟩ d1
            · rcases l3 with ⟨d1, d2, -⟩ | ⟨-, hM⟩
              · exact absurd ⟨d1, d2⟩ c1
              · have hbd : Bd r55 r76 n := ⟨_, _, hT, hM⟩
                obtain ⟨f1, q4, f2, f3⟩ := bb_bad (B := B) hn (nI np) k (i + 1) r55 bk W hbd
                refine ⟨?_, ?_, q4, bk, W, c, r76, Z, ?_, ?_, hF76, Or.inr f3⟩
                · simp only [b_readFrom_6_ok, r1, r2', if_neg hbm, t1, x1, if_pos hq3.nf, iv, yv, hv8, if_pos cw, u1, x3, y1, x5, if_neg hbd.is, f1, and_self]
                · simp only [k_book_67_ok, hmf, if_neg pu_n10, hmo.1, hmo.2, s1', s2', i20, t2, x2, hm3.fi, iv, yv, hv8, if_pos cz, u2, x4, l1, x6, hbd.fi, if_pos pu_n01, and_self]
                · simp only [b_readFrom_6, r2', if_neg hbm, x1, if_pos hq3.nf, iv, if_pos cw, x3, x5, if_neg hbd.is, f2]
                · simp only [k_book_67, hmf, if_neg pu_n10, hmo.2, s2', i20, x2, hm3.fi, iv, if_pos cz, x4, x6, hbd.fi, if_pos pu_n01]
          · have hbd : Bd r49 r70 n := ⟨_, _, hT, hM⟩
            obtain ⟨d1, d2, d3, d4⟩ := hbd.sg (B := B) (T := T) hn (c := nI 59) (by decide)
            rcases x5 : t_needSign r49 B (nI 59) with ⟨u54, r55⟩
            rcases x6 : k_sign r70 T (nI 59) with ⟨u75, r76⟩
            rw [x6] at d3 d4
            rw [x5] at d3
            simp only at d3 d4
            rw [d4] at d3 x6
            obtain ⟨f1, q4, f2, f3⟩ := bb_bad (B := B) hn (nI np) k (i + 1) r55 bk W d3
            refine ⟨?_, ?_, q4, bk, W, c, r70, Z, ?_, ?_, hF70, Or.inr f3⟩
            · simp only [b_readFrom_6_ok, r1, r2', if_neg hbm, t1, x1, if_pos hq3.nf, iv, yv, hv8, if_pos cw, u1, x3, d1, x5, if_neg d3.is, f1, and_self]
            · simp only [k_book_67_ok, hmf, if_neg pu_n10, hmo.1, hmo.2, s1', s2', i20, t2, x2, hm3.fi, iv, yv, hv8, if_pos cz, u2, x4, d2, x6, d3.fi, if_pos pu_n01, and_self]
            · simp only [b_readFrom_6, r2', if_neg hbm, x1, if_pos hq3.nf, iv, if_pos cw, x3, x5, if_neg d3.is, f2]
            · simp only [k_book_67, hmf, if_neg pu_n10, hmo.2, s2', i20, x2, hm3.fi, iv, if_pos cz, x4, x6, d3.fi, if_pos pu_n01]
        · have cz : ¬ Z v = -1 := by rw [w1]; exact cw
          obtain ⟨k1, -⟩ := TF.of (s := s) (kd := 2) hq3.1 hq3.2.1 hq3.2.2.2.1 hq3.2.2.2.2.1 hq3.2.2.2.2.2 (by omega)
          obtain ⟨k2, k3⟩ := MF.of (s := s) (kd := 2) hm3.1 hm3.2.1 hm3.2.2.1 hm3.2.2.2 (by omega)
          rcases x3 : t_fail r18 (nI 2) (nI s) with ⟨u64, r65⟩
          rcases x4 : k_wrong r39 (nI 2) (nI s) with ⟨u85, r86⟩
          rw [x3] at k1
          rw [x4] at k2 k3
          simp only at k1 k2 k3
          obtain ⟨v', q2, u, q3, u', q4, d1, d2, d3, d4, d5, d6, d7, d8, d9, d10, f1, f2, f3⟩ := bad (⟨_, _, k1, k2⟩ : Bd r65 r86 n)
          refine ⟨?_, ?_, q4, bk, W, c, r86, Z, ?_, ?_, hF39.tr k3, Or.inr f3⟩
          · simp only [b_readFrom_6_ok, r1, r2', if_neg hbm, t1, x1, if_pos hq3.nf, iv, yv, hv8, if_neg cw, t4, x3, d1, d2, d3, d4, if_neg d9, f1, and_self]
          · simp only [k_book_67_ok, hmf, if_neg pu_n10, hmo.1, hmo.2, s1', s2', i20, t2, x2, hm3.fi, iv, yv, hv8, if_neg cz, e4, x4, d5, d6, d7, d8, d10, if_pos pu_n01, and_self]
          · simp only [b_readFrom_6, r2', if_neg hbm, x1, if_pos hq3.nf, iv, if_neg cw, t4, x3, d2, d4, if_neg d9, f2]
          · simp only [k_book_67, hmf, if_neg pu_n10, hmo.2, s2', i20, x2, hm3.fi, iv, if_neg cz, e4, x4, d6, d8, d10, if_pos pu_n01]
      · have hbd : Bd r18 r39 n := ⟨_, _, hT, hM⟩
        obtain ⟨v', q2, u, q3, u', q4, d1, d2, d3, d4, d5, d6, d7, d8, d9, d10, f1, f2, f3⟩ := bad hbd
        refine ⟨?_, ?_, q4, bk, W, c, r39, Z, ?_, ?_, hF39, Or.inr f3⟩
        · simp only [b_readFrom_6_ok, r1, r2', if_neg hbm, t1, x1, if_neg hbd.is, d1, d2, d3, d4, if_neg d9, f1, and_self]
        · simp only [k_book_67_ok, hmf, if_neg pu_n10, hmo.1, hmo.2, s1', s2', i20, t2, x2, hbd.fi, d5, d6, d7, d8, if_pos pu_n01, and_self]
        · simp only [b_readFrom_6, r2', if_neg hbm, x1, if_neg hbd.is, d2, d4, if_neg d9, f2]
        · simp only [k_book_67, hmf, if_neg pu_n10, hmo.2, s2', i20, x2, hbd.fi, d6, d8, if_pos pu_n01]
    · have hsn : s = n := by omega
      have hle : nI n ≤ nI s := (pu_lei (by omega) (by omega)).mpr (by omega)
      have hmo : k_isMore_ok m T ∧ k_isMore m T = (nI 0, upd m 4 (nI s)) := by
        simp only [k_isMore_ok, k_isMore, s1, s2, e3, e4, if_pos hle, and_self]
      have m1 : k_book_67_ok T (K + 1) (nI c) m Z := by
        simp only [k_book_67_ok, hmf, if_neg pu_n10, hmo.1, hmo.2, if_pos pu_n01, and_self]
      have m2 : k_book_67 T (K + 1) (nI c) m Z = (nI c, upd m 4 (nI s), Z) := by
        simp only [k_book_67, hmf, if_neg pu_n10, hmo.2, if_pos pu_n01]
      cases k with
      | zero =>
        have : a = n := by omega
        refine ⟨trivial, m1, q, bk, W, c, _, Z, rfl, m2, Fm.u4 m _, Or.inl ⟨n, ?_, ?_, hb, hW⟩⟩
        · rw [← this]; rw [this] at hq ⊢; exact hq
        · rw [← hsn] at hm2 ⊢; exact hm2
      | succ k =>
        have r2' : t_next q B = (-1, upd (upd q 6 (nI s)) 4 (nI s)) := by rw [r2, if_neg (fun z => hl z.1)]
        refine ⟨?_, m1, _, bk, W, c, _, Z, ?_, m2, Fm.u4 m _, Or.inl ⟨s, hq2, hm2, hb, hW⟩⟩
        · simp only [b_readFrom_6_ok, r1, r2', ↓reduceIte, and_self]
        · simp only [b_readFrom_6, r2', ↓reduceIte]
termination_by k _ K => (k, K)
