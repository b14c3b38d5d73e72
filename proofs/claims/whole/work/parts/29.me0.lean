/-! what is made first keeps what holds between two calls -/
theorem set_md (f30 f32 : Nat → Int32) : (memF f30 f32).1 54 = upd (upd (upd (upd (upd (upd (upd (upd (upd ((clrM (mem0 f30 f32)).1 54) 20 ((clrM (mem0 f30 f32)).1 54 16)) 21 ((clrM (mem0 f30 f32)).1 54 17)) 22 ((clrM (mem0 f30 f32)).1 54 18)) 23 ((clrM (mem0 f30 f32)).1 54 19)) 30 (nI 0)) 45 (nI 0)) 35 (nI 0)) 51 (nI 0)) 36 (nI 0) := by
  unfold memF setM
  rw [mrow_miss _ _ (by decide), mrow_miss _ _ (by decide), mrow_miss _ _ (by decide), mrow_miss _ _ (by decide), mrow_miss _ _ (by decide), mrow_miss _ _ (by decide), mrow_hit]
  simp only [k_sets, k_copies_L36_L36, k_copies_L30_L30, k_copies_L6_L6]
theorem set_now (f30 f32 : Nat → Int32) : (memF f30 f32).1 71 50 = nI 0 := by
  have i0 : ix (nI 0) = 0 := pu_ix (by omega)
  have q18 : (clrM (mem0 f30 f32)).1 54 18 = nI 0 := by rw [cl54, pk_un (by decide), pk_us]
  have q19 : (clrM (mem0 f30 f32)).1 54 19 = nI 0 := by rw [cl54, pk_us]
  unfold memF setM
  rw [mrow_miss _ _ (by decide), mrow_miss _ _ (by decide), mrow_hit]
  simp only [k_sets, k_copies_L36_L36, k_copies_L30_L30, k_copies_L6_L6]
  rcases k_layFar (k_copies_L36_L36_3 ((clrM (mem0 f30 f32)).1 57) ((clrM (mem0 f30 f32)).1 60) (cN 36) (cN 36)) ((clrM (mem0 f30 f32)).1 76) (ix ((clrM (mem0 f30 f32)).1 54 16)) (ix ((clrM (mem0 f30 f32)).1 54 17)) with ⟨u, r⟩
  simp only [q18, q19, i0]
  rw [s216, if_neg (by omega), cN_eq 10, (s143 _ _ (by omega) 10 (by omega)).2 50 (by omega), cN_eq 51, s122 _ 51 50 (by omega)]
theorem mem_off (f30 f32 : Nat → Int32) {c : Nat} (h : c ≠ 54) (h0 : c ≠ 60) (h1 : c ≠ 61) (h2 : c ≠ 62) (h3 : c ≠ 71) (h4 : c ≠ 75) (h5 : c ≠ 76) : (memF f30 f32).1 c = rw0 f30 f32 c := by
  unfold memF setM clrM
  rw [mrow_miss _ _ h5, mrow_miss _ _ h4, mrow_miss _ _ h3, mrow_miss _ _ h2, mrow_miss _ _ h1, mrow_miss _ _ h0, mrow_miss _ _ h, mrow_miss _ _ h]
  rfl
theorem inv0 (f30 f32 : Nat → Int32) : InvM (memF f30 f32) := by
  have z : (0 : Int32) = nI 0 := nI_0.symm
  have r0 : (memF f30 f32).1 0 = fun _ => 0 := (mem_off f30 f32 (by decide) (by decide) (by decide) (by decide) (by decide) (by decide) (by decide)).trans rfl
  have r1 : (memF f30 f32).1 1 = upd (fun _ => 0) 3 (-1) := (mem_off f30 f32 (by decide) (by decide) (by decide) (by decide) (by decide) (by decide) (by decide)).trans rfl
  have r2 : (memF f30 f32).1 2 = fun _ => 0 := (mem_off f30 f32 (by decide) (by decide) (by decide) (by decide) (by decide) (by decide) (by decide)).trans rfl
  have r3 : (memF f30 f32).1 3 = fun _ => 0 := (mem_off f30 f32 (by decide) (by decide) (by decide) (by decide) (by decide) (by decide) (by decide)).trans rfl
  have r21 : (memF f30 f32).1 21 = upd (fun _ => 0) 3 (nI 1) := (mem_off f30 f32 (by decide) (by decide) (by decide) (by decide) (by decide) (by decide) (by decide)).trans rfl
  have r23 : (memF f30 f32).1 23 = upd (fun _ => 0) 0 (nI 1000) := (mem_off f30 f32 (by decide) (by decide) (by decide) (by decide) (by decide) (by decide) (by decide)).trans rfl
  have r29 : (memF f30 f32).1 29 = fun _ => 0 := (mem_off f30 f32 (by decide) (by decide) (by decide) (by decide) (by decide) (by decide) (by decide)).trans rfl
  have r38 : (memF f30 f32).1 38 = fun _ => 0 := (mem_off f30 f32 (by decide) (by decide) (by decide) (by decide) (by decide) (by decide) (by decide)).trans rfl
  have r43 : (memF f30 f32).1 43 = fun _ => 0 := (mem_off f30 f32 (by decide) (by decide) (by decide) (by decide) (by decide) (by decide) (by decide)).trans rfl
  have r55 : (memF f30 f32).1 55 = fun _ => 0 := (mem_off f30 f32 (by decide) (by decide) (by decide) (by decide) (by decide) (by decide) (by decide)).trans rfl
  have r56 : (memF f30 f32).1 56 = fun _ => 0 := (mem_off f30 f32 (by decide) (by decide) (by decide) (by decide) (by decide) (by decide) (by decide)).trans rfl
  have m := set_md f30 f32
  rw [cl54] at m
  have nw := set_now f30 f32
  have m2 : (memF f30 f32).1 54 2 = 0 := by rw [m]; rfl
  have m8 : (memF f30 f32).1 54 8 = -1 := by rw [m]; rfl
  have m20 : (memF f30 f32).1 54 20 = nI 0 := by rw [m]; rfl
  have m21 : (memF f30 f32).1 54 21 = nI 0 := by rw [m]; rfl
  have m22 : (memF f30 f32).1 54 22 = nI 0 := by rw [m]; rfl
  have m23 : (memF f30 f32).1 54 23 = nI 0 := by rw [m]; rfl
  have m30 : (memF f30 f32).1 54 30 = nI 0 := by rw [m]; rfl
  have m35 : (memF f30 f32).1 54 35 = nI 0 := by rw [m]; rfl
  have m36 : (memF f30 f32).1 54 36 = nI 0 := by rw [m]; rfl
  have m45 : (memF f30 f32).1 54 45 = nI 0 := by rw [m]; rfl
  have m51 : (memF f30 f32).1 54 51 = nI 0 := by rw [m]; rfl
  refine ⟨0, 0, 0, 0, ⟨by omega, by omega, by omega, by omega⟩, ?_, ⟨m20, m21, m22, m23⟩, ⟨?_, ?_, ?_⟩, Or.inl ⟨?_, ?_, ?_⟩, ⟨⟨?_, ?_, ?_, ?_, ?_, ?_⟩, 0, by omega, ?_⟩, ⟨0, by omega, ?_, m35, ?_⟩, ⟨0, by omega, ?_, m51, ?_⟩, ⟨0, by omega, ?_, ?_, fun i hi => ⟨?_, 0, by omega, ?_⟩⟩, ⟨?_, ?_, ?_, ?_, ?_⟩, ?_⟩
  · rw [r3]; exact ⟨z, z, z, z⟩
  · exact fun t ht => absurd ht (Nat.not_lt_zero t)
  · exact fun t ht => absurd ht (Nat.not_lt_zero t)
  · exact fun p q hp => absurd hp (Nat.not_lt_zero p)
  · rw [r21, pk_us]
  · rw [r23, pk_us]
  · rw [m30, nI_0]
  · rw [nw, r38]; exact z.symm
  · exact fun t ht => absurd ht (Nat.not_lt_zero t)
  · exact fun t ht => absurd ht (Nat.not_lt_zero t)
  · exact fun t ht => absurd ht (Nat.not_lt_zero t)
  · exact fun t ht => absurd ht (Nat.not_lt_zero t)
  · exact fun t ht => absurd ht (Nat.not_lt_zero t)
  · rw [r38]; exact z
  · rw [r43]; exact z
  · exact fun t ht => absurd ht (Nat.not_lt_zero t)
  · rw [r43]; exact z
  · exact fun t ht => absurd ht (Nat.not_lt_zero t)
  · rw [r1, pk_un (by decide)]; exact z
  · rw [m2]; exact z
  · rw [r56, r2]
  · rw [r2]; exact z
  · rw [r1, pk_us, m8]
  · rw [r29, m45]; exact z
  · rw [r0, m36]; exact z
  · rw [r0, r55]
  · rw [r0, r55]
  · exact fun p hp => absurd hp (Nat.not_lt_zero p)
