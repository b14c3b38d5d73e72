/-! a work is done -/
theorem day_w (A B L R : Nat → Int32) (a r : Nat) : (d_walks A B L R a r).2 0 = R 0 := by
  simp only [d_walks]
  repeat' split
  all_goals first | rfl | (show upd _ _ _ 0 = R 0; rw [pk_un (by omega), pk_un (by omega)])
theorem day_f (W Lw G C Vs R : Nat → Int32) (nt a t : Nat) : (d_finds W Lw G C Vs R nt a t).2.2.2 0 = R 0 := by
  simp only [d_finds]
  split
  · rfl
  · show upd (upd (upd (upd R _ _) _ _) _ _) _ _ 0 = R 0
    rw [pk_un (by omega), pk_un (by omega), pk_un (by omega), pk_un (by omega)]
theorem day_l (W R : Nat → Int32) (a t : Nat) : (d_loses W R a t).2 0 = R 0 := by
  simp only [d_loses, d_drop]
  repeat' split
  all_goals first | rfl | (show upd _ _ _ 0 = R 0; rw [pk_un (by omega), pk_un (by omega), pk_un (by omega)])
theorem day_s (W R : Nat → Int32) (a t : Nat) : (d_slips W R a t).2 0 = R 0 := by
  simp only [d_slips, d_drop]
  repeat' split
  all_goals first | rfl | (show upd _ _ _ 0 = R 0; rw [pk_un (by omega), pk_un (by omega), pk_un (by omega)])
def Fx (m m' : Nat → Int32) : Prop := ∀ j, j ≠ 37 → j ≠ 38 → j ≠ 39 → m' j = m j
theorem Fx.rf (m : Nat → Int32) : Fx m m := fun _ _ _ _ => rfl
theorem Fx.tr {m m' m2 : Nat → Int32} (h : Fx m m') (h2 : Fx m' m2) : Fx m m2 := fun j a b c => (h2 j a b c).trans (h j a b c)
theorem Fx.u {m : Nat → Int32} {k : Nat} (x : Int32) (hk : k = 37 ∨ k = 38 ∨ k = 39) : Fx m (upd m k x) := fun j a b c => pk_un (by omega)
/-- one step -/
theorem st_eq {np nr nt nf i : Nat} {A B L RO W TH Lw G C Vs R S md O V St Fa K F Sx N : Nat → Int32} (hT : TRo np nr A B L RO) (hW : TW nt W TH) (hz : SZ np nr nt nf) (hL : LWr Lw C md O V) (hD : DRd np nt nf R S) (hr : WRi nr nt nf K F Sx N i) (hk : ¬ K i = nI 5) :
    x_isDone_ok A B L W Lw G C Vs R nt nf (K i) (F i) (Sx i) ∧ k_isDone_ok md RO TH O V St Fa S nt nf (N (3 * i)) (N (3 * i + 1)) (N (3 * i + 2)) ∧ ∃ v G' Vs' R' St' Fa' S', x_isDone A B L W Lw G C Vs R nt nf (K i) (F i) (Sx i) = (v, G', Vs', R') ∧ k_isDone md RO TH O V St Fa S nt nf (N (3 * i)) (N (3 * i + 1)) (N (3 * i + 2)) = (v, St', Fa', S') ∧ DRd np nt nf R' S' := by
  obtain ⟨k, k1, k2, k3, k4, -, k6, k7, k8, k9⟩ := hr
  obtain ⟨hD, d, hd, ed⟩ := hD
  obtain ⟨z1, z2, z3, z4⟩ := id hz
  have hk5 : k < 5 := Nat.lt_of_le_of_ne k1 (fun h => hk (by rw [k2, h]))
  rw [← k4, ← k6 hk5, k2, k3]
  have hc : k = 0 ∨ k = 1 ∨ k = 2 ∨ k = 3 ∨ k = 4 := by clear k6 k7 k8 k9; omega
  have n00 : (nI 0 = (0 : Int32)) = True := by rw [nI_0]; simp
  have nk : ∀ {a b : Nat}, a < 100 → b < 100 → (nI a = nI b) = (a = b) := fun ha hb => propext (pu_eqi (by omega) (by omega))
  have nz : ∀ {a : Nat}, a < 100 → (nI a = 0) = (a = 0) := fun ha => propext (by rw [← nI_0]; exact pu_eqi (by omega) (by omega))
  rcases hc with rfl | rfl | rfl | rfl | rfl
  · obtain ⟨a, ha, ea⟩ := k7 (by decide)
    obtain ⟨r, hr, er⟩ := k8 rfl
    clear k6 k7 k8 k9
    obtain ⟨w1, w2⟩ := sm_walks hD hT hz ha hr
    rcases x1 : d_walks A B L R a r with ⟨v, R'⟩
    rcases x2 : k_walks RO S nt a r with ⟨v', S'⟩
    have hday := day_w A B L R a r
    rw [x1, x2] at w1 w2
    rw [x1] at hday
    simp only at w1 w2 hday
    subst w1
    simp (disch := omega) only [ea, er, x_isDone_ok, x_isDone, k_isDone_ok, k_isDone, nk, nz, ↓reduceIte, pu_ix (show a < 2147483648 by omega), pu_isN (show a < 2147483648 by omega), pu_ix (show r < 2147483648 by omega), pu_isN (show r < 2147483648 by omega), show a < 6 by omega, show r < 12 by omega, x1, x2, and_self, true_and]
    exact ⟨v', G, Vs, R', St, Fa, S', rfl, rfl, w2, d, hd, hday.trans ed⟩
  · obtain ⟨a, ha, ea⟩ := k7 (by decide)
    obtain ⟨t, ht, et⟩ := k9 (by decide) (by decide)
    clear k6 k7 k8 k9
    obtain ⟨f1, f2, f3, f4, -, -⟩ := sm_finds (G := G) (Vs := Vs) (St := St) (F := Fa) hD hW hz hL ha ht
    have hday := day_f W Lw G C Vs R nt a t
    rcases x1 : d_finds W Lw G C Vs R nt a t with ⟨v, G', Vs', R'⟩
    rcases x2 : k_finds md TH O V St Fa S nt a t with ⟨v', St', Fa', S'⟩
    rw [x1, x2] at f3 f4
    rw [x1] at hday
    simp only at f3 f4 hday
    subst f3
    simp (disch := omega) only [ea, et, x_isDone_ok, x_isDone, k_isDone_ok, k_isDone, nk, nz, Nat.reduceEqDiff, ↓reduceIte, pu_ix (show a < 2147483648 by omega), pu_isN (show a < 2147483648 by omega), pu_ix (show t < 2147483648 by omega), pu_isN (show t < 2147483648 by omega), show a < 6 by omega, show t < 10 by omega, f1, f2, x1, x2, and_self, true_and]
    exact ⟨v', G', Vs', R', St', Fa', S', rfl, rfl, f4, d, hd, hday.trans ed⟩
  · obtain ⟨a, ha, ea⟩ := k7 (by decide)
    obtain ⟨t, ht, et⟩ := k9 (by decide) (by decide)
    clear k6 k7 k8 k9
    obtain ⟨w1, w2⟩ := sm_loses hD hW hz ha ht
    have hday := day_l W R a t
    rcases x1 : d_loses W R a t with ⟨v, R'⟩
    rcases x2 : k_loses TH S a t with ⟨v', S'⟩
    rw [x1, x2] at w1 w2
    rw [x1] at hday
    simp only at w1 w2 hday
    subst w1
    simp (disch := omega) only [ea, et, x_isDone_ok, x_isDone, k_isDone_ok, k_isDone, nk, nz, Nat.reduceEqDiff, ↓reduceIte, pu_ix (show a < 2147483648 by omega), pu_isN (show a < 2147483648 by omega), pu_ix (show t < 2147483648 by omega), pu_isN (show t < 2147483648 by omega), show a < 6 by omega, show t < 10 by omega, x1, x2, and_self, true_and]
    exact ⟨v', G, Vs, R', St, Fa, S', rfl, rfl, w2, d, hd, hday.trans ed⟩
  · obtain ⟨a, ha, ea⟩ := k7 (by decide)
    obtain ⟨t, ht, et⟩ := k9 (by decide) (by decide)
    clear k6 k7 k8 k9
    obtain ⟨w1, w2⟩ := sm_slips hD hW hz ha ht
    have hday := day_s W R a t
    rcases x1 : d_slips W R a t with ⟨v, R'⟩
    rcases x2 : k_letsLie_m99 TH S a t with ⟨v', S'⟩
    rw [x1, x2] at w1 w2
    rw [x1] at hday
    simp only at w1 w2 hday
    subst w1
    simp (disch := omega) only [ea, et, x_isDone_ok, x_isDone, k_isDone_ok, k_isDone, nk, nz, Nat.reduceEqDiff, ↓reduceIte, pu_ix (show a < 2147483648 by omega), pu_isN (show a < 2147483648 by omega), pu_ix (show t < 2147483648 by omega), pu_isN (show t < 2147483648 by omega), show a < 6 by omega, show t < 10 by omega, x1, x2, and_self, true_and]
    exact ⟨v', G, Vs, R', St, Fa, S', rfl, rfl, w2, d, hd, hday.trans ed⟩
  · clear k6 k7 k8 k9
    have e50 : S 50 = nI d := hD.1.trans ed
    by_cases h4 : d < 400
    · obtain ⟨m1, m2, m3, m4, -⟩ := sm_night hD hW hz
      rcases x1 : d_nightFalls W R nt nf with ⟨v, R'⟩
      rcases x2 : k_passes TH S nt nf with ⟨v', S'⟩
      rw [x1, x2] at m3
      rw [x1] at m4
      simp only at m3 m4
      have f1 : nI d < nI 400 := (pu_lti (by omega) (by omega)).mpr h4
      have f2 : ¬ nI d = nI 400 := fun h => by have := pu_inj (by omega) (by omega) h; omega
      simp (disch := omega) only [x_isDone_ok, x_isDone, k_isDone_ok, k_isDone, nk, nz, Nat.reduceEqDiff, ↓reduceIte, d_nightComes_ok, d_nightComes, ed, e50, if_pos f1, if_neg f2, m1, m2, x1, x2, and_self, true_and]
      exact ⟨_, G, Vs, R', St, Fa, S', rfl, rfl, m3, d + 1, by omega, by rw [m4, ed, nI_add]⟩
    · have hd4 : d = 400 := by omega
      subst hd4
      have f1 : ¬ nI 400 < nI 400 := fun h => by have := (pu_lti (by omega) (by omega)).mp h; omega
      simp (disch := omega) only [x_isDone_ok, x_isDone, k_isDone_ok, k_isDone, nk, nz, Nat.reduceEqDiff, ↓reduceIte, d_nightComes_ok, d_nightComes, ed, e50, if_neg f1, true_and]
      exact ⟨_, G, Vs, R, St, Fa, S, rfl, rfl, hD, 400, by omega, ed⟩
/-! the doing -/
def XS (np nt nf : Nat) (Lw C O V wk R md S : Nat → Int32) : Prop := DRd np nt nf R S ∧ (∃ b, b ≤ 200 ∧ wk 2 = nI b ∧ md 37 = nI b) ∧ wk 0 = md 38 ∧ wk 1 = md 39 ∧ (md 22 = nI nt ∧ md 23 = nI nf) ∧ LWr Lw C md O V
abbrev ZnA : Type := (Nat → Int32) → (Nat → Int32) → (Nat → Int32) → (Nat → Int32) → (Nat → Int32) → (Nat → Int32) → (Nat → Int32) → (Nat → Int32) → (Nat → Int32) → (Nat → Int32) → (Nat → Int32) → (Nat → Int32) → (Nat → Int32) → Int32 → Int32 → Int32 → Int32 × (Nat → Int32) × (Nat → Int32) × (Nat → Int32) × (Nat → Int32)
abbrev ZnG : Type := (Nat → Int32) → (Nat → Int32) → (Nat → Int32) → (Nat → Int32) → (Nat → Int32) → (Nat → Int32) → (Nat → Int32) → (Nat → Int32) → (Nat → Int32) → (Nat → Int32) → (Nat → Int32) → (Nat → Int32) → (Nat → Int32) → Int32 → Int32 → Int32 → Prop
abbrev ZnB : Type := (Nat → Int32) → (Nat → Int32) → (Nat → Int32) → (Nat → Int32) → (Nat → Int32) → (Nat → Int32) → (Nat → Int32) → (Nat → Int32) → (Nat → Int32) → Int32 → Int32 → Int32 × (Nat → Int32) × (Nat → Int32) × (Nat → Int32) × (Nat → Int32)
abbrev ZnH : Type := (Nat → Int32) → (Nat → Int32) → (Nat → Int32) → (Nat → Int32) → (Nat → Int32) → (Nat → Int32) → (Nat → Int32) → (Nat → Int32) → (Nat → Int32) → Int32 → Int32 → Prop
/-- what is told of the doing of the steps from i to j -/
def DX (np nt nf : Nat) (A B L W Lw C K F Sx RO TH O V N : Nat → Int32) (i j o : Nat) (f : ZnA) (g : ZnG) (f' : ZnB) (g' : ZnH) : Prop :=
  ∀ G Vs wk R md St Fa S : Nat → Int32, XS np nt nf Lw C O V wk R md S →
    g A B L W Lw G C Vs wk K F Sx R (nI i) (nI j) (nI o) ∧ g' md RO TH O V St Fa N S (nI (3 * i)) (nI (3 * j)) ∧ ∃ G' Vs' wk' R' md' St' Fa' S', f A B L W Lw G C Vs wk K F Sx R (nI i) (nI j) (nI o) = (0, G', Vs', wk', R') ∧ f' md RO TH O V St Fa N S (nI (3 * i)) (nI (3 * j)) = (0, md', St', Fa', S') ∧ Fx md md' ∧ XS np nt nf Lw C O V wk' R' md' S'
theorem XS.mv {np nt nf : Nat} {Lw C O V wk wk' R R' md md' S S' : Nat → Int32} (h : XS np nt nf Lw C O V wk R md S) (hD : DRd np nt nf R' S') (hb : ∃ b, b ≤ 200 ∧ wk' 2 = nI b ∧ md' 37 = nI b) (h0 : wk' 0 = md' 38) (h1 : wk' 1 = md' 39) (hx : Fx md md') : XS np nt nf Lw C O V wk' R' md' S' :=
  ⟨hD, hb, h0, h1, ⟨by rw [hx 22 (by decide) (by decide) (by decide)]; exact h.2.2.2.2.1.1, by rw [hx 23 (by decide) (by decide) (by decide)]; exact h.2.2.2.2.1.2⟩, LWr_cg h.2.2.2.2.2 (hx 30 (by decide) (by decide) (by decide))⟩
/-- again and again -/
theorem ag_do {np nt nf i e o : Nat} {A B L W Lw C K F Sx RO TH O V N : Nat → Int32} {f : ZnA} {g : ZnG} {f' : ZnB} {g' : ZnH} (hi : i < 40) {t : Nat} (ht : t ≤ 30) (eF : F i = nI t) (eN : N (3 * i + 1) = nI t) (eS : Sx i = nI e) (hd : DX np nt nf A B L W Lw C K F Sx RO TH O V N (i + 1) e (o + 1) f g f' g') (x3 x5 y2 : Int32) : ∀ (k k' u : Nat) (G Vs wk R md St Fa S : Nat → Int32), t < u + k → t < u + k' → u ≤ t → XS np nt nf Lw C O V wk R md S →
    x_doSteps_st_58_ok f g A B L W Lw C K F Sx x3 (nI o) x5 (nI i) k (nI u) G Vs wk R ∧ k_goesSteps_st_50_ok f' g' RO TH O V N y2 (nI (3 * i)) (nI (3 * e)) k' (nI u) md St Fa S ∧ ∃ u1 u2 G' Vs' wk' R' md' St' Fa' S', x_doSteps_st_58 f A B L W Lw C K F Sx x3 (nI o) x5 (nI i) k (nI u) G Vs wk R = (u1, G', Vs', wk', R') ∧ k_goesSteps_st_50 f' RO TH O V N y2 (nI (3 * i)) (nI (3 * e)) k' (nI u) md St Fa S = (u2, md', St', Fa', S') ∧ Fx md md' ∧ XS np nt nf Lw C O V wk' R' md' S'
  | 0, k', u, G, Vs, wk, R, md, St, Fa, S, h, _, _, _ => by omega
  | k + 1, 0, u, G, Vs, wk, R, md, St, Fa, S, _, h, _, _ => by omega
  | k + 1, k' + 1, u, G, Vs, wk, R, md, St, Fa, S, h1, h2, hu, hX => by
    have i1 : ix (nI i) = i := pu_ix (by omega)
    have i2 : isN (nI i) := pu_isN (by omega)
    have i3 : ix (nI (3 * i)) = 3 * i := pu_ix (by omega)
    have i4 : isN (nI (3 * i)) := pu_isN (by omega)
    simp only [x_doSteps_st_58_ok, x_doSteps_st_58, k_goesSteps_st_50_ok, k_goesSteps_st_50, i1, i2, i3, i4, eF, eN, eS, show i < 150 by omega, show 3 * i + 1 < 150 by omega, true_and]
    by_cases c1 : t ≤ u
    · have f1 : nI t ≤ nI u := (pu_lei (by omega) (by omega)).mpr c1
      simp only [if_pos f1, true_and]
      exact ⟨_, _, G, Vs, wk, R, md, St, Fa, S, rfl, rfl, Fx.rf md, hX⟩
    · have f1 : ¬ nI t ≤ nI u := fun h => c1 ((pu_lei (by omega) (by omega)).mp h)
      simp only [if_neg f1]
      obtain ⟨b, hb, e1, e2⟩ := hX.2.1
      rw [e1, e2]
      by_cases c2 : nI 200 ≤ nI b
      · simp only [if_pos c2, true_and]
        exact ⟨_, _, G, Vs, wk, R, md, St, Fa, S, rfl, rfl, Fx.rf md, hX⟩
      · obtain ⟨d1, d2, G', Vs', wk', R', md', St', Fa', S', d3, d4, d5, d6⟩ := hd G Vs wk R md St Fa S hX
        have e9 : nI (3 * i) + nI 3 = nI (3 * (i + 1)) := by rw [nI_add]; congr 1
        simp only [if_neg c2, nI_add, e9, d1, d2, d3, d4, true_and]
        obtain ⟨g1, g2, u1, u2, G2, Vs2, wk2, R2, md2, St2, Fa2, S2, g3, g4, g5, g6⟩ := ag_do hi ht eF eN eS hd x3 x5 y2 k k' (u + 1) G' Vs' wk' R' md' St' Fa' S' (by omega) (by omega) (by omega) d6
        exact ⟨g1, g2, u1, u2, G2, Vs2, wk2, R2, md2, St2, Fa2, S2, g3, g4, d5.tr g5, g6⟩
