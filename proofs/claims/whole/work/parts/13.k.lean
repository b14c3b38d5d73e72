noncomputable def K_feed (M : Mem) (x1 x2 x3 x4 x5 : Int32) : Int32 × Mem := (((k_feed (M.1 54) (M.1 56) x1 x2 x3 x4 x5).1), mrow (mrow M 54 ((k_feed (M.1 54) (M.1 56) x1 x2 x3 x4 x5).2.1)) 56 ((k_feed (M.1 54) (M.1 56) x1 x2 x3 x4 x5).2.2))
def KO_feed (M : Mem) (x1 x2 x3 x4 x5 : Int32) : Prop := (k_feed_ok (M.1 54) (M.1 56) x1 x2 x3 x4 x5)
theorem g_k_feed (z : Zp) (d : Nat) (M : Mem) (x1 x2 x3 x4 x5 : Int32) (hk : KO_feed M x1 x2 x3 x4 x5) : GM z mX12_feed (d) [.ref 54, .int x1, .int x2, .int x3, .int x4, .int x5] M (fun rs => rs = .inl (some (.int (K_feed M x1 x2 x3 x4 x5).1), (K_feed M x1 x2 x3 x4 x5).2)) := by
  have hk := hk
  exact c_k_feed_54 z d M x1 x2 x3 x4 x5 hk
def EO_feed (M : Mem) (x1 x2 x3 x4 x5 : Int32) : Prop := (e_feed_ok M x1 x2 x3 x4 x5)
theorem g_e_feed (z : Zp) (d : Nat) (M : Mem) (x1 x2 x3 x4 x5 : Int32) (hk : EO_feed M x1 x2 x3 x4 x5) : GM z mX11_feed (d + 1) [.ref 0, .int x1, .int x2, .int x3, .int x4, .int x5] M (fun rs => rs = e_feed M x1 x2 x3 x4 x5) := by
  have hk := hk
  exact c_e_feed_0 z d M x1 x2 x3 x4 x5 hk
noncomputable def K_fault (M : Mem) : Int32 × Mem := (((k_fault (M.1 54)).1), mrow M 54 ((k_fault (M.1 54)).2))
def KO_fault (M : Mem) : Prop := True
theorem g_k_fault (z : Zp) (d : Nat) (M : Mem)  (hk : KO_fault M ) : GM z mX12_fault (d) [.ref 54] M (fun rs => rs = .inl (some (.int (K_fault M ).1), (K_fault M ).2)) := by
  exact c_k_fault_54 z d M
def EO_fault (M : Mem) : Prop := True
theorem g_e_fault (z : Zp) (d : Nat) (M : Mem)  (hk : EO_fault M ) : GM z mX11_fault (d) [.ref 0] M (fun rs => rs = e_fault M) := by
  exact c_e_fault_0 z d M
noncomputable def K_undo (M : Mem) : Int32 × Mem := (((k_undo (M.1 54) (M.1 71) (M.1 73)).1), mrow (mrow M 54 ((k_undo (M.1 54) (M.1 71) (M.1 73)).2.1)) 71 ((k_undo (M.1 54) (M.1 71) (M.1 73)).2.2))
def KO_undo (M : Mem) : Prop := (k_undo_ok (M.1 54) (M.1 71) (M.1 73))
theorem g_k_undo (z : Zp) (d : Nat) (M : Mem)  (hk : KO_undo M ) : GM z mX12_undo (d) [.ref 54] M (fun rs => rs = .inl (some (.int (K_undo M ).1), (K_undo M ).2)) := by
  have hk := hk
  exact c_k_undo_54 z d M hk
def EO_undo (M : Mem) : Prop := (e_undo_ok M)
theorem g_e_undo (z : Zp) (d : Nat) (M : Mem)  (hk : EO_undo M ) : GM z mX11_undo (d + 2) [.ref 0] M (fun rs => rs = e_undo M) := by
  have hk := hk
  exact c_e_undo_0 z d M hk
noncomputable def K_empty (M : Mem) (np nt nf : Nat) : Int32 × Mem := (((k_empty (M.1 54) (M.1 71) (M.1 72) np nt nf).1), mrow (mrow M 54 ((k_empty (M.1 54) (M.1 71) (M.1 72) np nt nf).2.1)) 72 ((k_empty (M.1 54) (M.1 71) (M.1 72) np nt nf).2.2))
def KO_empty (M : Mem) (np nt nf : Nat) : Prop := (np ≤ 8) ∧ (M.1 54 20 = nI np) ∧ (nt ≤ 10) ∧ (M.1 54 22 = nI nt) ∧ (nf ≤ 6) ∧ (M.1 54 23 = nI nf) ∧ (k_empty_ok (M.1 54) (M.1 71) (M.1 72) np nt nf)
theorem g_k_empty (z : Zp) (d : Nat) (M : Mem) (np nt nf : Nat)  (hk : KO_empty M np nt nf) : GM z mX12_empty (d + 2) [.ref 54] M (fun rs => rs = .inl (some (.int (K_empty M np nt nf).1), (K_empty M np nt nf).2)) := by
  obtain ⟨hnp, cp, hnt, ct, hnf, cf, hk⟩ := hk
  exact c_k_empty_54 z d M np hnp cp nt hnt ct nf hnf cf hk
def EO_empty (M : Mem) (np nt nf : Nat) : Prop := (np ≤ 8) ∧ (M.1 3 0 = nI np) ∧ (nt ≤ 10) ∧ (M.1 3 2 = nI nt) ∧ (nf ≤ 6) ∧ (M.1 3 3 = nI nf)
theorem g_e_empty (z : Zp) (d : Nat) (M : Mem) (np nt nf : Nat)  (hk : EO_empty M np nt nf) : GM z mX11_empty (d + 1) [.ref 0] M (fun rs => rs = e_empty M np nt nf) := by
  obtain ⟨hnp, hp, hnt, ht, hnf, hf⟩ := hk
  exact c_e_empty_0 z d M np hnp hp nt hnt ht nf hnf hf
noncomputable def K_lucky (M : Mem) (nt nf : Nat) : Int32 × Mem := (((k_lucky (M.1 54) (M.1 71) (M.1 72) nt nf).1), mrow (mrow M 54 ((k_lucky (M.1 54) (M.1 71) (M.1 72) nt nf).2.1)) 72 ((k_lucky (M.1 54) (M.1 71) (M.1 72) nt nf).2.2))
def KO_lucky (M : Mem) (nt nf : Nat) : Prop := (nt ≤ 10) ∧ (M.1 54 22 = nI nt) ∧ (nf ≤ 6) ∧ (M.1 54 23 = nI nf) ∧ (k_lucky_ok (M.1 54) (M.1 71) (M.1 72) nt nf)
theorem g_k_lucky (z : Zp) (d : Nat) (M : Mem) (nt nf : Nat)  (hk : KO_lucky M nt nf) : GM z mX12_lucky (d + 2) [.ref 54] M (fun rs => rs = .inl (some (.int (K_lucky M nt nf).1), (K_lucky M nt nf).2)) := by
  obtain ⟨hnt, ct, hnf, cf, hk⟩ := hk
  exact c_k_lucky_54 z d M nt hnt ct nf hnf cf hk
def EO_lucky (M : Mem) (nt nf : Nat) : Prop := (nt ≤ 10) ∧ (M.1 3 2 = nI nt) ∧ (nf ≤ 6) ∧ (M.1 3 3 = nI nf)
theorem g_e_lucky (z : Zp) (d : Nat) (M : Mem) (nt nf : Nat)  (hk : EO_lucky M nt nf) : GM z mX11_lucky (d + 1) [.ref 0] M (fun rs => rs = e_lucky M nt nf) := by
  obtain ⟨hnt, ht, hnf, hf⟩ := hk
  exact c_e_lucky_0 z d M nt hnt ht nf hnf hf
noncomputable def K_image (M : Mem) : Int32 × Mem := (((k_image (M.1 54) (M.1 71) (M.1 73) (M.1 79)).1), mrow (mrow (mrow (mrow M 54 ((k_image (M.1 54) (M.1 71) (M.1 73) (M.1 79)).2.1)) 71 ((k_image (M.1 54) (M.1 71) (M.1 73) (M.1 79)).2.2.1)) 73 ((k_image (M.1 54) (M.1 71) (M.1 73) (M.1 79)).2.2.2.1)) 79 ((k_image (M.1 54) (M.1 71) (M.1 73) (M.1 79)).2.2.2.2))
def KO_image (M : Mem) : Prop := (k_image_ok (M.1 54) (M.1 71) (M.1 73) (M.1 79))
theorem g_k_image (z : Zp) (d : Nat) (M : Mem)  (hk : KO_image M ) : GM z mX12_image (d + 2) [.ref 54] M (fun rs => rs = .inl (some (.int (K_image M ).1), (K_image M ).2)) := by
  have hk := hk
  exact c_k_image_54 z d M hk
def EO_image (M : Mem) : Prop := (e_image_ok M)
theorem g_e_image (z : Zp) (d : Nat) (M : Mem)  (hk : EO_image M ) : GM z mX11_image (d + 2) [.ref 0] M (fun rs => rs = e_image M) := by
  have hk := hk
  exact c_e_image_0 z d M hk
noncomputable def K_restore (M : Mem) : Int32 × Mem := (((k_restore (M.1 54) (M.1 71) (M.1 73) (M.1 79)).1), mrow (mrow (mrow (mrow M 54 ((k_restore (M.1 54) (M.1 71) (M.1 73) (M.1 79)).2.1)) 71 ((k_restore (M.1 54) (M.1 71) (M.1 73) (M.1 79)).2.2.1)) 73 ((k_restore (M.1 54) (M.1 71) (M.1 73) (M.1 79)).2.2.2.1)) 79 ((k_restore (M.1 54) (M.1 71) (M.1 73) (M.1 79)).2.2.2.2))
def KO_restore (M : Mem) : Prop := (k_restore_ok (M.1 54) (M.1 71) (M.1 73) (M.1 79))
theorem g_k_restore (z : Zp) (d : Nat) (M : Mem)  (hk : KO_restore M ) : GM z mX12_restore (d + 2) [.ref 54] M (fun rs => rs = .inl (some (.int (K_restore M ).1), (K_restore M ).2)) := by
  have hk := hk
  exact c_k_restore_54 z d M hk
def EO_restore (M : Mem) : Prop := (e_restore_ok M)
theorem g_e_restore (z : Zp) (d : Nat) (M : Mem)  (hk : EO_restore M ) : GM z mX11_restore (d + 2) [.ref 0] M (fun rs => rs = e_restore M) := by
  have hk := hk
  exact c_e_restore_0 z d M hk
noncomputable def K_status (M : Mem) (x1 : Int32) : Int32 × Mem := (((k_status (M.1 54) (M.1 55) x1).1), mrow M 54 ((k_status (M.1 54) (M.1 55) x1).2))
def KO_status (M : Mem) (x1 : Int32) : Prop := (k_status_ok (M.1 54) (M.1 55) x1)
theorem g_k_status (z : Zp) (d : Nat) (M : Mem) (x1 : Int32) (hk : KO_status M x1) : GM z mX12_status (d + 1) [.ref 54, .int x1] M (fun rs => rs = .inl (some (.int (K_status M x1).1), (K_status M x1).2)) := by
  have hk := hk
  exact c_k_status_54 z d M x1 hk
def EO_status (M : Mem) (x1 : Int32) : Prop := True
theorem g_e_status (z : Zp) (d : Nat) (M : Mem) (x1 : Int32) (hk : EO_status M x1) : GM z mX11_status (d) [.ref 0, .int x1] M (fun rs => rs = e_status M x1) := by
  exact c_e_status_0 z d M x1
noncomputable def K_count (M : Mem) (x1 : Int32) : Int32 × Mem := (((k_count (M.1 54) x1).1), mrow M 54 ((k_count (M.1 54) x1).2))
def KO_count (M : Mem) (x1 : Int32) : Prop := True
theorem g_k_count (z : Zp) (d : Nat) (M : Mem) (x1 : Int32) (hk : KO_count M x1) : GM z mX12_count (d) [.ref 54, .int x1] M (fun rs => rs = .inl (some (.int (K_count M x1).1), (K_count M x1).2)) := by
  exact c_k_count_54 z d M x1
def EO_count (M : Mem) (x1 : Int32) : Prop := True
theorem g_e_count (z : Zp) (d : Nat) (M : Mem) (x1 : Int32) (hk : EO_count M x1) : GM z mX11_count (d) [.ref 0, .int x1] M (fun rs => rs = e_count M x1) := by
  exact c_e_count_0 z d M x1
noncomputable def K_town (M : Mem) (x1 : Int32) : Int32 × Mem := (((k_town (M.1 54) (M.1 55) (M.1 56) (M.1 57) (M.1 58) (M.1 59) (M.1 60) (M.1 61) (M.1 62) (M.1 71) (M.1 75) (M.1 76) x1).1), mrow (mrow (mrow (mrow (mrow (mrow (mrow (mrow (mrow (mrow (mrow M 54 ((k_town (M.1 54) (M.1 55) (M.1 56) (M.1 57) (M.1 58) (M.1 59) (M.1 60) (M.1 61) (M.1 62) (M.1 71) (M.1 75) (M.1 76) x1).2.1)) 55 ((k_town (M.1 54) (M.1 55) (M.1 56) (M.1 57) (M.1 58) (M.1 59) (M.1 60) (M.1 61) (M.1 62) (M.1 71) (M.1 75) (M.1 76) x1).2.2.1)) 57 ((k_town (M.1 54) (M.1 55) (M.1 56) (M.1 57) (M.1 58) (M.1 59) (M.1 60) (M.1 61) (M.1 62) (M.1 71) (M.1 75) (M.1 76) x1).2.2.2.1)) 58 ((k_town (M.1 54) (M.1 55) (M.1 56) (M.1 57) (M.1 58) (M.1 59) (M.1 60) (M.1 61) (M.1 62) (M.1 71) (M.1 75) (M.1 76) x1).2.2.2.2.1)) 59 ((k_town (M.1 54) (M.1 55) (M.1 56) (M.1 57) (M.1 58) (M.1 59) (M.1 60) (M.1 61) (M.1 62) (M.1 71) (M.1 75) (M.1 76) x1).2.2.2.2.2.1)) 60 ((k_town (M.1 54) (M.1 55) (M.1 56) (M.1 57) (M.1 58) (M.1 59) (M.1 60) (M.1 61) (M.1 62) (M.1 71) (M.1 75) (M.1 76) x1).2.2.2.2.2.2.1)) 61 ((k_town (M.1 54) (M.1 55) (M.1 56) (M.1 57) (M.1 58) (M.1 59) (M.1 60) (M.1 61) (M.1 62) (M.1 71) (M.1 75) (M.1 76) x1).2.2.2.2.2.2.2.1)) 62 ((k_town (M.1 54) (M.1 55) (M.1 56) (M.1 57) (M.1 58) (M.1 59) (M.1 60) (M.1 61) (M.1 62) (M.1 71) (M.1 75) (M.1 76) x1).2.2.2.2.2.2.2.2.1)) 71 ((k_town (M.1 54) (M.1 55) (M.1 56) (M.1 57) (M.1 58) (M.1 59) (M.1 60) (M.1 61) (M.1 62) (M.1 71) (M.1 75) (M.1 76) x1).2.2.2.2.2.2.2.2.2.1)) 75 ((k_town (M.1 54) (M.1 55) (M.1 56) (M.1 57) (M.1 58) (M.1 59) (M.1 60) (M.1 61) (M.1 62) (M.1 71) (M.1 75) (M.1 76) x1).2.2.2.2.2.2.2.2.2.2.1)) 76 ((k_town (M.1 54) (M.1 55) (M.1 56) (M.1 57) (M.1 58) (M.1 59) (M.1 60) (M.1 61) (M.1 62) (M.1 71) (M.1 75) (M.1 76) x1).2.2.2.2.2.2.2.2.2.2.2))
def KO_town (M : Mem) (x1 : Int32) : Prop := (k_town_ok (M.1 54) (M.1 55) (M.1 56) (M.1 57) (M.1 58) (M.1 59) (M.1 60) (M.1 61) (M.1 62) (M.1 71) (M.1 75) (M.1 76) x1)
theorem g_k_town (z : Zp) (d : Nat) (M : Mem) (x1 : Int32) (hk : KO_town M x1) : GM z mX12_town (d + 6) [.ref 54, .int x1] M (fun rs => rs = .inl (some (.int (K_town M x1).1), (K_town M x1).2)) := by
  have hk := hk
  exact c_k_town_54 z d M x1 hk
def EO_town (M : Mem) (x1 : Int32) : Prop := (e_town_ok M x1)
theorem g_e_town (z : Zp) (d : Nat) (M : Mem) (x1 : Int32) (hk : EO_town M x1) : GM z mX11_town (d + 8) [.ref 0, .int x1] M (fun rs => rs = e_town M x1) := by
  have hk := hk
  exact c_e_town_0 z d M x1 hk
noncomputable def K_law (M : Mem) (x1 : Int32) : Int32 × Mem := (((k_law (M.1 54) (M.1 55) (M.1 56) (M.1 63) (M.1 64) (M.1 65) (M.1 66) x1).1), mrow (mrow (mrow (mrow (mrow (mrow M 54 ((k_law (M.1 54) (M.1 55) (M.1 56) (M.1 63) (M.1 64) (M.1 65) (M.1 66) x1).2.1)) 55 ((k_law (M.1 54) (M.1 55) (M.1 56) (M.1 63) (M.1 64) (M.1 65) (M.1 66) x1).2.2.1)) 63 ((k_law (M.1 54) (M.1 55) (M.1 56) (M.1 63) (M.1 64) (M.1 65) (M.1 66) x1).2.2.2.1)) 64 ((k_law (M.1 54) (M.1 55) (M.1 56) (M.1 63) (M.1 64) (M.1 65) (M.1 66) x1).2.2.2.2.1)) 65 ((k_law (M.1 54) (M.1 55) (M.1 56) (M.1 63) (M.1 64) (M.1 65) (M.1 66) x1).2.2.2.2.2.1)) 66 ((k_law (M.1 54) (M.1 55) (M.1 56) (M.1 63) (M.1 64) (M.1 65) (M.1 66) x1).2.2.2.2.2.2))
def KO_law (M : Mem) (x1 : Int32) : Prop := (k_law_ok (M.1 54) (M.1 55) (M.1 56) (M.1 63) (M.1 64) (M.1 65) (M.1 66) x1)
theorem g_k_law (z : Zp) (d : Nat) (M : Mem) (x1 : Int32) (hk : KO_law M x1) : GM z mX12_law (d + 81) [.ref 54, .int x1] M (fun rs => rs = .inl (some (.int (K_law M x1).1), (K_law M x1).2)) := by
  have hk := hk
  exact c_k_law_54 z d M x1 hk
def EO_law (M : Mem) (x1 : Int32) : Prop := (e_law_ok M x1)
theorem g_e_law (z : Zp) (d : Nat) (M : Mem) (x1 : Int32) (hk : EO_law M x1) : GM z mX11_law (d + 82) [.ref 0, .int x1] M (fun rs => rs = e_law M x1) := by
  have hk := hk
  exact c_e_law_0 z d M x1 hk
noncomputable def K_work (M : Mem) (x1 : Int32) : Int32 × Mem := (((k_work (M.1 54) (M.1 55) (M.1 56) (M.1 60) (M.1 61) (M.1 65) (M.1 66) (M.1 67) (M.1 68) (M.1 69) (M.1 70) (M.1 71) (M.1 72) (M.1 73) x1).1), mrow (mrow (mrow (mrow (mrow (mrow (mrow (mrow (mrow M 54 ((k_work (M.1 54) (M.1 55) (M.1 56) (M.1 60) (M.1 61) (M.1 65) (M.1 66) (M.1 67) (M.1 68) (M.1 69) (M.1 70) (M.1 71) (M.1 72) (M.1 73) x1).2.1)) 55 ((k_work (M.1 54) (M.1 55) (M.1 56) (M.1 60) (M.1 61) (M.1 65) (M.1 66) (M.1 67) (M.1 68) (M.1 69) (M.1 70) (M.1 71) (M.1 72) (M.1 73) x1).2.2.1)) 67 ((k_work (M.1 54) (M.1 55) (M.1 56) (M.1 60) (M.1 61) (M.1 65) (M.1 66) (M.1 67) (M.1 68) (M.1 69) (M.1 70) (M.1 71) (M.1 72) (M.1 73) x1).2.2.2.1)) 68 ((k_work (M.1 54) (M.1 55) (M.1 56) (M.1 60) (M.1 61) (M.1 65) (M.1 66) (M.1 67) (M.1 68) (M.1 69) (M.1 70) (M.1 71) (M.1 72) (M.1 73) x1).2.2.2.2.1)) 69 ((k_work (M.1 54) (M.1 55) (M.1 56) (M.1 60) (M.1 61) (M.1 65) (M.1 66) (M.1 67) (M.1 68) (M.1 69) (M.1 70) (M.1 71) (M.1 72) (M.1 73) x1).2.2.2.2.2.1)) 70 ((k_work (M.1 54) (M.1 55) (M.1 56) (M.1 60) (M.1 61) (M.1 65) (M.1 66) (M.1 67) (M.1 68) (M.1 69) (M.1 70) (M.1 71) (M.1 72) (M.1 73) x1).2.2.2.2.2.2.1)) 71 ((k_work (M.1 54) (M.1 55) (M.1 56) (M.1 60) (M.1 61) (M.1 65) (M.1 66) (M.1 67) (M.1 68) (M.1 69) (M.1 70) (M.1 71) (M.1 72) (M.1 73) x1).2.2.2.2.2.2.2.1)) 72 ((k_work (M.1 54) (M.1 55) (M.1 56) (M.1 60) (M.1 61) (M.1 65) (M.1 66) (M.1 67) (M.1 68) (M.1 69) (M.1 70) (M.1 71) (M.1 72) (M.1 73) x1).2.2.2.2.2.2.2.2.1)) 73 ((k_work (M.1 54) (M.1 55) (M.1 56) (M.1 60) (M.1 61) (M.1 65) (M.1 66) (M.1 67) (M.1 68) (M.1 69) (M.1 70) (M.1 71) (M.1 72) (M.1 73) x1).2.2.2.2.2.2.2.2.2))
def KO_work (M : Mem) (x1 : Int32) : Prop := (k_work_ok (M.1 54) (M.1 55) (M.1 56) (M.1 60) (M.1 61) (M.1 65) (M.1 66) (M.1 67) (M.1 68) (M.1 69) (M.1 70) (M.1 71) (M.1 72) (M.1 73) x1)
theorem g_k_work (z : Zp) (d : Nat) (M : Mem) (x1 : Int32) (hk : KO_work M x1) : GM z mX12_work (d + 71) [.ref 54, .int x1] M (fun rs => rs = .inl (some (.int (K_work M x1).1), (K_work M x1).2)) := by
  have hk := hk
  exact c_k_work_54 z d M x1 hk
def EO_work (M : Mem) (nr nt nf : Nat) (x1 : Int32) : Prop := (nr ≤ 12) ∧ (M.1 3 1 = nI nr) ∧ (nt ≤ 10) ∧ (M.1 3 2 = nI nt) ∧ (nf ≤ 6) ∧ (M.1 3 3 = nI nf) ∧ (e_work_ok M nr nt nf x1)
theorem g_e_work (z : Zp) (d : Nat) (M : Mem) (nr nt nf : Nat) (x1 : Int32) (hk : EO_work M nr nt nf x1) : GM z mX11_work (d + 62) [.ref 0, .int x1] M (fun rs => rs = e_work M nr nt nf x1) := by
  obtain ⟨hnr, hr, hnt, ht, hnf, hf, hk⟩ := hk
  exact c_e_work_0 z d M x1 nr hnr hr nt hnt ht nf hnf hf hk
noncomputable def K_book (M : Mem) (x1 : Int32) : Int32 × Mem := (((k_book (M.1 54) (M.1 55) (M.1 56) (M.1 74) (M.1 75) x1).1), mrow (mrow (mrow (mrow M 54 ((k_book (M.1 54) (M.1 55) (M.1 56) (M.1 74) (M.1 75) x1).2.1)) 55 ((k_book (M.1 54) (M.1 55) (M.1 56) (M.1 74) (M.1 75) x1).2.2.1)) 74 ((k_book (M.1 54) (M.1 55) (M.1 56) (M.1 74) (M.1 75) x1).2.2.2.1)) 75 ((k_book (M.1 54) (M.1 55) (M.1 56) (M.1 74) (M.1 75) x1).2.2.2.2))
def KO_book (M : Mem) (x1 : Int32) : Prop := (k_book_ok (M.1 54) (M.1 55) (M.1 56) (M.1 74) (M.1 75) x1)
theorem g_k_book (z : Zp) (d : Nat) (M : Mem) (x1 : Int32) (hk : KO_book M x1) : GM z mX12_book (d + 2) [.ref 54, .int x1] M (fun rs => rs = .inl (some (.int (K_book M x1).1), (K_book M x1).2)) := by
  have hk := hk
  exact c_k_book_54 z d M x1 hk
def EO_book (M : Mem) (np : Nat) (x1 : Int32) : Prop := (np ≤ 8) ∧ (M.1 3 0 = nI np) ∧ (e_book_ok M np x1)
theorem g_e_book (z : Zp) (d : Nat) (M : Mem) (np : Nat) (x1 : Int32) (hk : EO_book M np x1) : GM z mX11_book (d + 8) [.ref 0, .int x1] M (fun rs => rs = e_book M np x1) := by
  obtain ⟨hnp, hp, hk⟩ := hk
  exact c_e_book_0 z d M x1 np hnp hp hk
noncomputable def K_told (M : Mem) (x1 : Int32) : Int32 × Mem := (((k_told (M.1 54) (M.1 55) (M.1 61) (M.1 71) (M.1 72) x1).1), mrow (mrow (mrow M 54 ((k_told (M.1 54) (M.1 55) (M.1 61) (M.1 71) (M.1 72) x1).2.1)) 55 ((k_told (M.1 54) (M.1 55) (M.1 61) (M.1 71) (M.1 72) x1).2.2.1)) 72 ((k_told (M.1 54) (M.1 55) (M.1 61) (M.1 71) (M.1 72) x1).2.2.2))
def KO_told (M : Mem) (x1 : Int32) : Prop := (k_told_ok (M.1 54) (M.1 55) (M.1 61) (M.1 71) (M.1 72) x1)
theorem g_k_told (z : Zp) (d : Nat) (M : Mem) (x1 : Int32) (hk : KO_told M x1) : GM z mX12_told (d + 2) [.ref 54, .int x1] M (fun rs => rs = .inl (some (.int (K_told M x1).1), (K_told M x1).2)) := by
  have hk := hk
  exact c_k_told_54 z d M x1 hk
def EO_told (M : Mem) (np nr nt nf : Nat) (x1 : Int32) : Prop := (np ≤ 8) ∧ (M.1 3 0 = nI np) ∧ (nr ≤ 12) ∧ (M.1 3 1 = nI nr) ∧ (nt ≤ 10) ∧ (M.1 3 2 = nI nt) ∧ (nf ≤ 6) ∧ (M.1 3 3 = nI nf)
theorem g_e_told (z : Zp) (d : Nat) (M : Mem) (np nr nt nf : Nat) (x1 : Int32) (hk : EO_told M np nr nt nf x1) : GM z mX11_told (d + 7) [.ref 0, .int x1] M (fun rs => rs = e_told M np nr nt nf x1) := by
  obtain ⟨hnp, hp, hnr, hr, hnt, ht, hnf, hf⟩ := hk
  exact c_e_told_0 z d M x1 np hnp hp nr hnr hr nt hnt ht nf hnf hf
noncomputable def K_place (M : Mem) (np : Nat) (x1 x2 : Int32) : Int32 × Mem := (((k_place (M.1 54) (M.1 55) (M.1 60) (M.1 61) (M.1 71) (M.1 72) np x1 x2).1), mrow (mrow (mrow M 54 ((k_place (M.1 54) (M.1 55) (M.1 60) (M.1 61) (M.1 71) (M.1 72) np x1 x2).2.1)) 55 ((k_place (M.1 54) (M.1 55) (M.1 60) (M.1 61) (M.1 71) (M.1 72) np x1 x2).2.2.1)) 72 ((k_place (M.1 54) (M.1 55) (M.1 60) (M.1 61) (M.1 71) (M.1 72) np x1 x2).2.2.2))
def KO_place (M : Mem) (np : Nat) (x1 x2 : Int32) : Prop := (np ≤ 8) ∧ (M.1 54 20 = nI np) ∧ (k_place_ok (M.1 54) (M.1 55) (M.1 60) (M.1 61) (M.1 71) (M.1 72) np x1 x2)
theorem g_k_place (z : Zp) (d : Nat) (M : Mem) (np : Nat) (x1 x2 : Int32) (hk : KO_place M np x1 x2) : GM z mX12_place (d + 2) [.ref 54, .int x1, .int x2] M (fun rs => rs = .inl (some (.int (K_place M np x1 x2).1), (K_place M np x1 x2).2)) := by
  obtain ⟨hnp, cp, hk⟩ := hk
  exact c_k_place_54 z d M x1 x2 np hnp cp hk
def EO_place (M : Mem) (np nr nt nf : Nat) (x1 x2 : Int32) : Prop := (np ≤ 8) ∧ (M.1 3 0 = nI np) ∧ (nr ≤ 12) ∧ (M.1 3 1 = nI nr) ∧ (nt ≤ 10) ∧ (M.1 3 2 = nI nt) ∧ (nf ≤ 6) ∧ (M.1 3 3 = nI nf)
theorem g_e_place (z : Zp) (d : Nat) (M : Mem) (np nr nt nf : Nat) (x1 x2 : Int32) (hk : EO_place M np nr nt nf x1 x2) : GM z mX11_place (d + 8) [.ref 0, .int x1, .int x2] M (fun rs => rs = e_place M np nr nt nf x1 x2) := by
  obtain ⟨hnp, hp, hnr, hr, hnt, ht, hnf, hf⟩ := hk
  exact c_e_place_0 z d M x1 x2 np hnp hp nr hnr hr nt hnt ht nf hnf hf
noncomputable def K_road (M : Mem) (nr : Nat) (x1 x2 : Int32) : Int32 × Mem := (((k_road (M.1 54) (M.1 55) (M.1 60) nr x1 x2).1), mrow (mrow M 54 ((k_road (M.1 54) (M.1 55) (M.1 60) nr x1 x2).2.1)) 55 ((k_road (M.1 54) (M.1 55) (M.1 60) nr x1 x2).2.2))
def KO_road (M : Mem) (nr : Nat) (x1 x2 : Int32) : Prop := (nr ≤ 12) ∧ (M.1 54 21 = nI nr) ∧ (k_road_ok (M.1 54) (M.1 55) (M.1 60) nr x1 x2)
theorem g_k_road (z : Zp) (d : Nat) (M : Mem) (nr : Nat) (x1 x2 : Int32) (hk : KO_road M nr x1 x2) : GM z mX12_road (d + 1) [.ref 54, .int x1, .int x2] M (fun rs => rs = .inl (some (.int (K_road M nr x1 x2).1), (K_road M nr x1 x2).2)) := by
  obtain ⟨hnr, cr, hk⟩ := hk
  exact c_k_road_54 z d M x1 x2 nr hnr cr hk
def EO_road (M : Mem) (nr : Nat) (x1 x2 : Int32) : Prop := (nr ≤ 12) ∧ (M.1 3 1 = nI nr) ∧ (e_road_ok M nr x1 x2)
theorem g_e_road (z : Zp) (d : Nat) (M : Mem) (nr : Nat) (x1 x2 : Int32) (hk : EO_road M nr x1 x2) : GM z mX11_road (d + 7) [.ref 0, .int x1, .int x2] M (fun rs => rs = e_road M nr x1 x2) := by
  obtain ⟨hnr, hr, hk⟩ := hk
  exact c_e_road_0 z d M x1 x2 nr hnr hr hk
noncomputable def K_thing (M : Mem) (nt : Nat) (x1 x2 : Int32) : Int32 × Mem := (((k_thing (M.1 54) (M.1 55) (M.1 61) (M.1 71) nt x1 x2).1), mrow (mrow M 54 ((k_thing (M.1 54) (M.1 55) (M.1 61) (M.1 71) nt x1 x2).2.1)) 55 ((k_thing (M.1 54) (M.1 55) (M.1 61) (M.1 71) nt x1 x2).2.2))
def KO_thing (M : Mem) (nt : Nat) (x1 x2 : Int32) : Prop := (nt ≤ 10) ∧ (M.1 54 22 = nI nt) ∧ (k_thing_ok (M.1 54) (M.1 55) (M.1 61) (M.1 71) nt x1 x2)
theorem g_k_thing (z : Zp) (d : Nat) (M : Mem) (nt : Nat) (x1 x2 : Int32) (hk : KO_thing M nt x1 x2) : GM z mX12_thing (d + 2) [.ref 54, .int x1, .int x2] M (fun rs => rs = .inl (some (.int (K_thing M nt x1 x2).1), (K_thing M nt x1 x2).2)) := by
  obtain ⟨hnt, ct, hk⟩ := hk
  exact c_k_thing_54 z d M x1 x2 nt hnt ct hk
def EO_thing (M : Mem) (nt : Nat) (x1 x2 : Int32) : Prop := (nt ≤ 10) ∧ (M.1 3 2 = nI nt) ∧ (e_thing_ok M nt x1 x2)
theorem g_e_thing (z : Zp) (d : Nat) (M : Mem) (nt : Nat) (x1 x2 : Int32) (hk : EO_thing M nt x1 x2) : GM z mX11_thing (d + 8) [.ref 0, .int x1, .int x2] M (fun rs => rs = e_thing M nt x1 x2) := by
  obtain ⟨hnt, ht, hk⟩ := hk
  exact c_e_thing_0 z d M x1 x2 nt hnt ht hk
noncomputable def K_finder (M : Mem) (nf : Nat) (x1 x2 : Int32) : Int32 × Mem := (((k_finder (M.1 54) (M.1 55) (M.1 61) (M.1 71) (M.1 72) nf x1 x2).1), mrow (mrow (mrow M 54 ((k_finder (M.1 54) (M.1 55) (M.1 61) (M.1 71) (M.1 72) nf x1 x2).2.1)) 55 ((k_finder (M.1 54) (M.1 55) (M.1 61) (M.1 71) (M.1 72) nf x1 x2).2.2.1)) 72 ((k_finder (M.1 54) (M.1 55) (M.1 61) (M.1 71) (M.1 72) nf x1 x2).2.2.2))
def KO_finder (M : Mem) (nf : Nat) (x1 x2 : Int32) : Prop := (nf ≤ 6) ∧ (M.1 54 23 = nI nf) ∧ (k_finder_ok (M.1 54) (M.1 55) (M.1 61) (M.1 71) (M.1 72) nf x1 x2)
theorem g_k_finder (z : Zp) (d : Nat) (M : Mem) (nf : Nat) (x1 x2 : Int32) (hk : KO_finder M nf x1 x2) : GM z mX12_finder (d + 2) [.ref 54, .int x1, .int x2] M (fun rs => rs = .inl (some (.int (K_finder M nf x1 x2).1), (K_finder M nf x1 x2).2)) := by
  obtain ⟨hnf, cf, hk⟩ := hk
  exact c_k_finder_54 z d M x1 x2 nf hnf cf hk
def EO_finder (M : Mem) (nt nf : Nat) (x1 x2 : Int32) : Prop := (nt ≤ 10) ∧ (M.1 3 2 = nI nt) ∧ (nf ≤ 6) ∧ (M.1 3 3 = nI nf) ∧ (e_finder_ok M nt nf x1 x2)
theorem g_e_finder (z : Zp) (d : Nat) (M : Mem) (nt nf : Nat) (x1 x2 : Int32) (hk : EO_finder M nt nf x1 x2) : GM z mX11_finder (d + 8) [.ref 0, .int x1, .int x2] M (fun rs => rs = e_finder M nt nf x1 x2) := by
  obtain ⟨hnt, ht, hnf, hf, hk⟩ := hk
  exact c_e_finder_0 z d M x1 x2 nt hnt ht nf hnf hf hk
noncomputable def K_duty (M : Mem) (nf : Nat) (x1 x2 : Int32) : Int32 × Mem := (((k_duty (M.1 54) (M.1 55) (M.1 61) (M.1 65) (M.1 66) (M.1 67) (M.1 68) (M.1 71) (M.1 72) nf x1 x2).1), mrow (mrow (mrow (mrow (mrow M 54 ((k_duty (M.1 54) (M.1 55) (M.1 61) (M.1 65) (M.1 66) (M.1 67) (M.1 68) (M.1 71) (M.1 72) nf x1 x2).2.1)) 55 ((k_duty (M.1 54) (M.1 55) (M.1 61) (M.1 65) (M.1 66) (M.1 67) (M.1 68) (M.1 71) (M.1 72) nf x1 x2).2.2.1)) 67 ((k_duty (M.1 54) (M.1 55) (M.1 61) (M.1 65) (M.1 66) (M.1 67) (M.1 68) (M.1 71) (M.1 72) nf x1 x2).2.2.2.1)) 68 ((k_duty (M.1 54) (M.1 55) (M.1 61) (M.1 65) (M.1 66) (M.1 67) (M.1 68) (M.1 71) (M.1 72) nf x1 x2).2.2.2.2.1)) 72 ((k_duty (M.1 54) (M.1 55) (M.1 61) (M.1 65) (M.1 66) (M.1 67) (M.1 68) (M.1 71) (M.1 72) nf x1 x2).2.2.2.2.2))
def KO_duty (M : Mem) (nf : Nat) (x1 x2 : Int32) : Prop := (nf ≤ 6) ∧ (M.1 54 23 = nI nf) ∧ (k_duty_ok (M.1 54) (M.1 55) (M.1 61) (M.1 65) (M.1 66) (M.1 67) (M.1 68) (M.1 71) (M.1 72) nf x1 x2)
theorem g_k_duty (z : Zp) (d : Nat) (M : Mem) (nf : Nat) (x1 x2 : Int32) (hk : KO_duty M nf x1 x2) : GM z mX12_duty (d + 5) [.ref 54, .int x1, .int x2] M (fun rs => rs = .inl (some (.int (K_duty M nf x1 x2).1), (K_duty M nf x1 x2).2)) := by
  obtain ⟨hnf, cf, hk⟩ := hk
  exact c_k_duty_54 z d M x1 x2 nf hnf cf hk
def EO_duty (M : Mem) (nt nf : Nat) (x1 x2 : Int32) : Prop := (nt ≤ 10) ∧ (M.1 3 2 = nI nt) ∧ (nf ≤ 6) ∧ (M.1 3 3 = nI nf) ∧ (e_duty_ok M nt nf x1 x2)
theorem g_e_duty (z : Zp) (d : Nat) (M : Mem) (nt nf : Nat) (x1 x2 : Int32) (hk : EO_duty M nt nf x1 x2) : GM z mX11_duty (d + 8) [.ref 0, .int x1, .int x2] M (fun rs => rs = e_duty M nt nf x1 x2) := by
  obtain ⟨hnt, ht, hnf, hf, hk⟩ := hk
  exact c_e_duty_0 z d M x1 x2 nt hnt ht nf hnf hf hk
noncomputable def K_would (M : Mem) (x1 x2 x3 x4 x5 x6 x7 x8 : Int32) : Int32 × Mem := (((k_would (M.1 54) (M.1 55) (M.1 65) (M.1 66) (M.1 67) (M.1 68) x1 x2 x3 x4 x5 x6 x7 x8).1), mrow (mrow (mrow (mrow M 54 ((k_would (M.1 54) (M.1 55) (M.1 65) (M.1 66) (M.1 67) (M.1 68) x1 x2 x3 x4 x5 x6 x7 x8).2.1)) 55 ((k_would (M.1 54) (M.1 55) (M.1 65) (M.1 66) (M.1 67) (M.1 68) x1 x2 x3 x4 x5 x6 x7 x8).2.2.1)) 67 ((k_would (M.1 54) (M.1 55) (M.1 65) (M.1 66) (M.1 67) (M.1 68) x1 x2 x3 x4 x5 x6 x7 x8).2.2.2.1)) 68 ((k_would (M.1 54) (M.1 55) (M.1 65) (M.1 66) (M.1 67) (M.1 68) x1 x2 x3 x4 x5 x6 x7 x8).2.2.2.2))
def KO_would (M : Mem) (x1 x2 x3 x4 x5 x6 x7 x8 : Int32) : Prop := (k_would_ok (M.1 54) (M.1 55) (M.1 65) (M.1 66) (M.1 67) (M.1 68) x1 x2 x3 x4 x5 x6 x7 x8)
theorem g_k_would (z : Zp) (d : Nat) (M : Mem) (x1 x2 x3 x4 x5 x6 x7 x8 : Int32) (hk : KO_would M x1 x2 x3 x4 x5 x6 x7 x8) : GM z mX12_would (d + 4) [.ref 54, .int x1, .int x2, .int x3, .int x4, .int x5, .int x6, .int x7, .int x8] M (fun rs => rs = .inl (some (.int (K_would M x1 x2 x3 x4 x5 x6 x7 x8).1), (K_would M x1 x2 x3 x4 x5 x6 x7 x8).2)) := by
  have hk := hk
  exact c_k_would_54 z d M x1 x2 x3 x4 x5 x6 x7 x8 hk
def EO_would (M : Mem) (x1 x2 x3 x4 x5 x6 x7 x8 : Int32) : Prop := (e_would_ok M x1 x2 x3 x4 x5 x6 x7 x8)
theorem g_e_would (z : Zp) (d : Nat) (M : Mem) (x1 x2 x3 x4 x5 x6 x7 x8 : Int32) (hk : EO_would M x1 x2 x3 x4 x5 x6 x7 x8) : GM z mX11_would (d + 7) [.ref 0, .int x1, .int x2, .int x3, .int x4, .int x5, .int x6, .int x7, .int x8] M (fun rs => rs = e_would M x1 x2 x3 x4 x5 x6 x7 x8) := by
  have hk := hk
  exact c_e_would_0 z d M x1 x2 x3 x4 x5 x6 x7 x8 hk
noncomputable def K_can (M : Mem) (nf : Nat) (x1 x2 : Int32) : Int32 × Mem := (((k_can (M.1 54) (M.1 55) (M.1 71) (M.1 72) nf x1 x2).1), mrow (mrow (mrow M 54 ((k_can (M.1 54) (M.1 55) (M.1 71) (M.1 72) nf x1 x2).2.1)) 55 ((k_can (M.1 54) (M.1 55) (M.1 71) (M.1 72) nf x1 x2).2.2.1)) 72 ((k_can (M.1 54) (M.1 55) (M.1 71) (M.1 72) nf x1 x2).2.2.2))
def KO_can (M : Mem) (nf : Nat) (x1 x2 : Int32) : Prop := (nf ≤ 6) ∧ (M.1 54 23 = nI nf) ∧ (k_can_ok (M.1 54) (M.1 55) (M.1 71) (M.1 72) nf x1 x2)
theorem g_k_can (z : Zp) (d : Nat) (M : Mem) (nf : Nat) (x1 x2 : Int32) (hk : KO_can M nf x1 x2) : GM z mX12_can (d + 2) [.ref 54, .int x1, .int x2] M (fun rs => rs = .inl (some (.int (K_can M nf x1 x2).1), (K_can M nf x1 x2).2)) := by
  obtain ⟨hnf, cf, hk⟩ := hk
  exact c_k_can_54 z d M x1 x2 nf hnf cf hk
def EO_can (M : Mem) (nt nf : Nat) (x1 x2 : Int32) : Prop := (nt ≤ 10) ∧ (M.1 3 2 = nI nt) ∧ (nf ≤ 6) ∧ (M.1 3 3 = nI nf) ∧ (e_can_ok M nt nf x1 x2)
theorem g_e_can (z : Zp) (d : Nat) (M : Mem) (nt nf : Nat) (x1 x2 : Int32) (hk : EO_can M nt nf x1 x2) : GM z mX11_can (d + 8) [.ref 0, .int x1, .int x2] M (fun rs => rs = e_can M nt nf x1 x2) := by
  obtain ⟨hnt, ht, hnf, hf, hk⟩ := hk
  exact c_e_can_0 z d M x1 x2 nt hnt ht nf hnf hf hk
noncomputable def K_ahead (M : Mem) (nt nf : Nat) (x1 x2 : Int32) : Int32 × Mem := (((k_ahead (M.1 54) (M.1 55) (M.1 61) (M.1 71) (M.1 72) nt nf x1 x2).1), mrow (mrow (mrow M 54 ((k_ahead (M.1 54) (M.1 55) (M.1 61) (M.1 71) (M.1 72) nt nf x1 x2).2.1)) 55 ((k_ahead (M.1 54) (M.1 55) (M.1 61) (M.1 71) (M.1 72) nt nf x1 x2).2.2.1)) 72 ((k_ahead (M.1 54) (M.1 55) (M.1 61) (M.1 71) (M.1 72) nt nf x1 x2).2.2.2))
def KO_ahead (M : Mem) (nt nf : Nat) (x1 x2 : Int32) : Prop := (nt ≤ 10) ∧ (M.1 54 22 = nI nt) ∧ (nf ≤ 6) ∧ (M.1 54 23 = nI nf) ∧ (k_ahead_ok (M.1 54) (M.1 55) (M.1 61) (M.1 71) (M.1 72) nt nf x1 x2)
theorem g_k_ahead (z : Zp) (d : Nat) (M : Mem) (nt nf : Nat) (x1 x2 : Int32) (hk : KO_ahead M nt nf x1 x2) : GM z mX12_ahead (d + 2) [.ref 54, .int x1, .int x2] M (fun rs => rs = .inl (some (.int (K_ahead M nt nf x1 x2).1), (K_ahead M nt nf x1 x2).2)) := by
  obtain ⟨hnt, ct, hnf, cf, hk⟩ := hk
  exact c_k_ahead_54 z d M x1 x2 nt hnt ct nf hnf cf hk
def EO_ahead (M : Mem) (nt nf : Nat) (x1 x2 : Int32) : Prop := (nt ≤ 10) ∧ (M.1 3 2 = nI nt) ∧ (nf ≤ 6) ∧ (M.1 3 3 = nI nf) ∧ (e_ahead_ok M nt nf x1 x2)
theorem g_e_ahead (z : Zp) (d : Nat) (M : Mem) (nt nf : Nat) (x1 x2 : Int32) (hk : EO_ahead M nt nf x1 x2) : GM z mX11_ahead (d + 7) [.ref 0, .int x1, .int x2] M (fun rs => rs = e_ahead M nt nf x1 x2) := by
  obtain ⟨hnt, ht, hnf, hf, hk⟩ := hk
  exact c_e_ahead_0 z d M x1 x2 nt hnt ht nf hnf hf hk
noncomputable def K_far (M : Mem) (np : Nat) (x1 x2 : Int32) : Int32 × Mem := (((k_far (M.1 54) (M.1 55) (M.1 76) np x1 x2).1), mrow (mrow M 54 ((k_far (M.1 54) (M.1 55) (M.1 76) np x1 x2).2.1)) 55 ((k_far (M.1 54) (M.1 55) (M.1 76) np x1 x2).2.2))
def KO_far (M : Mem) (np : Nat) (x1 x2 : Int32) : Prop := (np ≤ 8) ∧ (M.1 54 20 = nI np) ∧ (k_far_ok (M.1 54) (M.1 55) (M.1 76) np x1 x2)
theorem g_k_far (z : Zp) (d : Nat) (M : Mem) (np : Nat) (x1 x2 : Int32) (hk : KO_far M np x1 x2) : GM z mX12_far (d + 2) [.ref 54, .int x1, .int x2] M (fun rs => rs = .inl (some (.int (K_far M np x1 x2).1), (K_far M np x1 x2).2)) := by
  obtain ⟨hnp, cp, hk⟩ := hk
  exact c_k_far_54 z d M x1 x2 np hnp cp hk
def EO_far (M : Mem) (np : Nat) (x1 x2 : Int32) : Prop := (np ≤ 8) ∧ (M.1 3 0 = nI np) ∧ (e_far_ok M np x1 x2)
theorem g_e_far (z : Zp) (d : Nat) (M : Mem) (np : Nat) (x1 x2 : Int32) (hk : EO_far M np x1 x2) : GM z mX11_far (d + 8) [.ref 0, .int x1, .int x2] M (fun rs => rs = e_far M np x1 x2) := by
  obtain ⟨hnp, hp, hk⟩ := hk
  exact c_e_far_0 z d M x1 x2 np hnp hp hk
noncomputable def K_round (M : Mem) (nf : Nat) (x1 : Int32) : Int32 × Mem := (((k_round (M.1 54) (M.1 55) (M.1 71) (M.1 72) (M.1 76) (M.1 77) nf x1).1), mrow (mrow (mrow (mrow M 54 ((k_round (M.1 54) (M.1 55) (M.1 71) (M.1 72) (M.1 76) (M.1 77) nf x1).2.1)) 55 ((k_round (M.1 54) (M.1 55) (M.1 71) (M.1 72) (M.1 76) (M.1 77) nf x1).2.2.1)) 72 ((k_round (M.1 54) (M.1 55) (M.1 71) (M.1 72) (M.1 76) (M.1 77) nf x1).2.2.2.1)) 77 ((k_round (M.1 54) (M.1 55) (M.1 71) (M.1 72) (M.1 76) (M.1 77) nf x1).2.2.2.2))
def KO_round (M : Mem) (nf : Nat) (x1 : Int32) : Prop := (nf ≤ 6) ∧ (M.1 54 23 = nI nf) ∧ (k_round_ok (M.1 54) (M.1 55) (M.1 71) (M.1 72) (M.1 76) (M.1 77) nf x1)
theorem g_k_round (z : Zp) (d : Nat) (M : Mem) (nf : Nat) (x1 : Int32) (hk : KO_round M nf x1) : GM z mX12_round (d + 2) [.ref 54, .int x1] M (fun rs => rs = .inl (some (.int (K_round M nf x1).1), (K_round M nf x1).2)) := by
  obtain ⟨hnf, cf, hk⟩ := hk
  exact c_k_round_54 z d M x1 nf hnf cf hk
def EO_round (M : Mem) (np nt nf : Nat) (x1 : Int32) : Prop := (np ≤ 8) ∧ (M.1 3 0 = nI np) ∧ (nt ≤ 10) ∧ (M.1 3 2 = nI nt) ∧ (nf ≤ 6) ∧ (M.1 3 3 = nI nf) ∧ (e_round_ok M np nt nf x1)
theorem g_e_round (z : Zp) (d : Nat) (M : Mem) (np nt nf : Nat) (x1 : Int32) (hk : EO_round M np nt nf x1) : GM z mX11_round (d + 8) [.ref 0, .int x1] M (fun rs => rs = e_round M np nt nf x1) := by
  obtain ⟨hnp, hp, hnt, ht, hnf, hf, hk⟩ := hk
  exact c_e_round_0 z d M x1 np hnp hp nt hnt ht nf hnf hf hk
noncomputable def K_meet (M : Mem) (x1 : Int32) : Int32 × Mem := (((k_meet (M.1 54) (M.1 55) (M.1 71) (M.1 76) x1).1), mrow (mrow M 54 ((k_meet (M.1 54) (M.1 55) (M.1 71) (M.1 76) x1).2.1)) 55 ((k_meet (M.1 54) (M.1 55) (M.1 71) (M.1 76) x1).2.2))
def KO_meet (M : Mem) (x1 : Int32) : Prop := (k_meet_ok (M.1 54) (M.1 55) (M.1 71) (M.1 76) x1)
theorem g_k_meet (z : Zp) (d : Nat) (M : Mem) (x1 : Int32) (hk : KO_meet M x1) : GM z mX12_meet (d + 1) [.ref 54, .int x1] M (fun rs => rs = .inl (some (.int (K_meet M x1).1), (K_meet M x1).2)) := by
  have hk := hk
  exact c_k_meet_54 z d M x1 hk
def EO_meet (M : Mem) (np nf : Nat) (x1 : Int32) : Prop := (np ≤ 8) ∧ (M.1 3 0 = nI np) ∧ (nf ≤ 6) ∧ (M.1 3 3 = nI nf) ∧ (e_meet_ok M np nf x1)
theorem g_e_meet (z : Zp) (d : Nat) (M : Mem) (np nf : Nat) (x1 : Int32) (hk : EO_meet M np nf x1) : GM z mX11_meet (d + 7) [.ref 0, .int x1] M (fun rs => rs = e_meet M np nf x1) := by
  obtain ⟨hnp, hp, hnf, hf, hk⟩ := hk
  exact c_e_meet_0 z d M x1 np hnp hp nf hnf hf hk
noncomputable def K_reach (M : Mem) (nf : Nat) (x1 : Int32) : Int32 × Mem := (((k_reach (M.1 54) (M.1 55) (M.1 71) (M.1 72) (M.1 76) nf x1).1), mrow (mrow (mrow M 54 ((k_reach (M.1 54) (M.1 55) (M.1 71) (M.1 72) (M.1 76) nf x1).2.1)) 55 ((k_reach (M.1 54) (M.1 55) (M.1 71) (M.1 72) (M.1 76) nf x1).2.2.1)) 72 ((k_reach (M.1 54) (M.1 55) (M.1 71) (M.1 72) (M.1 76) nf x1).2.2.2))
def KO_reach (M : Mem) (nf : Nat) (x1 : Int32) : Prop := (nf ≤ 6) ∧ (M.1 54 23 = nI nf) ∧ (k_reach_ok (M.1 54) (M.1 55) (M.1 71) (M.1 72) (M.1 76) nf x1)
theorem g_k_reach (z : Zp) (d : Nat) (M : Mem) (nf : Nat) (x1 : Int32) (hk : KO_reach M nf x1) : GM z mX12_reach (d + 2) [.ref 54, .int x1] M (fun rs => rs = .inl (some (.int (K_reach M nf x1).1), (K_reach M nf x1).2)) := by
  obtain ⟨hnf, cf, hk⟩ := hk
  exact c_k_reach_54 z d M x1 nf hnf cf hk
def EO_reach (M : Mem) (nt nf : Nat) (x1 : Int32) : Prop := (nt ≤ 10) ∧ (M.1 3 2 = nI nt) ∧ (nf ≤ 6) ∧ (M.1 3 3 = nI nf) ∧ (e_reach_ok M nt nf x1)
theorem g_e_reach (z : Zp) (d : Nat) (M : Mem) (nt nf : Nat) (x1 : Int32) (hk : EO_reach M nt nf x1) : GM z mX11_reach (d + 8) [.ref 0, .int x1] M (fun rs => rs = e_reach M nt nf x1) := by
  obtain ⟨hnt, ht, hnf, hf, hk⟩ := hk
  exact c_e_reach_0 z d M x1 nt hnt ht nf hnf hf hk
noncomputable def K_settle (M : Mem) (nf : Nat) (x1 : Int32) : Int32 × Mem := (((k_settle (M.1 54) (M.1 55) (M.1 61) (M.1 71) (M.1 72) nf x1).1), mrow (mrow (mrow M 54 ((k_settle (M.1 54) (M.1 55) (M.1 61) (M.1 71) (M.1 72) nf x1).2.1)) 55 ((k_settle (M.1 54) (M.1 55) (M.1 61) (M.1 71) (M.1 72) nf x1).2.2.1)) 72 ((k_settle (M.1 54) (M.1 55) (M.1 61) (M.1 71) (M.1 72) nf x1).2.2.2))
def KO_settle (M : Mem) (nf : Nat) (x1 : Int32) : Prop := (nf ≤ 6) ∧ (M.1 54 23 = nI nf) ∧ (k_settle_ok (M.1 54) (M.1 55) (M.1 61) (M.1 71) (M.1 72) nf x1)
theorem g_k_settle (z : Zp) (d : Nat) (M : Mem) (nf : Nat) (x1 : Int32) (hk : KO_settle M nf x1) : GM z mX12_settle (d + 2) [.ref 54, .int x1] M (fun rs => rs = .inl (some (.int (K_settle M nf x1).1), (K_settle M nf x1).2)) := by
  obtain ⟨hnf, cf, hk⟩ := hk
  exact c_k_settle_54 z d M x1 nf hnf cf hk
def EO_settle (M : Mem) (nt nf : Nat) (x1 : Int32) : Prop := (nt ≤ 10) ∧ (M.1 3 2 = nI nt) ∧ (nf ≤ 6) ∧ (M.1 3 3 = nI nf) ∧ (e_settle_ok M nt nf x1)
theorem g_e_settle (z : Zp) (d : Nat) (M : Mem) (nt nf : Nat) (x1 : Int32) (hk : EO_settle M nt nf x1) : GM z mX11_settle (d + 8) [.ref 0, .int x1] M (fun rs => rs = e_settle M nt nf x1) := by
  obtain ⟨hnt, ht, hnf, hf, hk⟩ := hk
  exact c_e_settle_0 z d M x1 nt hnt ht nf hnf hf hk
noncomputable def K_parts (M : Mem) (nf : Nat) (x1 x2 : Int32) : Int32 × Mem := (((k_parts (M.1 54) (M.1 55) (M.1 61) (M.1 71) (M.1 72) nf x1 x2).1), mrow (mrow (mrow M 54 ((k_parts (M.1 54) (M.1 55) (M.1 61) (M.1 71) (M.1 72) nf x1 x2).2.1)) 55 ((k_parts (M.1 54) (M.1 55) (M.1 61) (M.1 71) (M.1 72) nf x1 x2).2.2.1)) 72 ((k_parts (M.1 54) (M.1 55) (M.1 61) (M.1 71) (M.1 72) nf x1 x2).2.2.2))
def KO_parts (M : Mem) (nf : Nat) (x1 x2 : Int32) : Prop := (nf ≤ 6) ∧ (M.1 54 23 = nI nf) ∧ (k_parts_ok (M.1 54) (M.1 55) (M.1 61) (M.1 71) (M.1 72) nf x1 x2)
theorem g_k_parts (z : Zp) (d : Nat) (M : Mem) (nf : Nat) (x1 x2 : Int32) (hk : KO_parts M nf x1 x2) : GM z mX12_parts (d + 2) [.ref 54, .int x1, .int x2] M (fun rs => rs = .inl (some (.int (K_parts M nf x1 x2).1), (K_parts M nf x1 x2).2)) := by
  obtain ⟨hnf, cf, hk⟩ := hk
  exact c_k_parts_54 z d M x1 x2 nf hnf cf hk
def EO_parts (M : Mem) (nt nf : Nat) (x1 x2 : Int32) : Prop := (nt ≤ 10) ∧ (M.1 3 2 = nI nt) ∧ (nf ≤ 6) ∧ (M.1 3 3 = nI nf) ∧ (e_parts_ok M nt nf x1 x2)
theorem g_e_parts (z : Zp) (d : Nat) (M : Mem) (nt nf : Nat) (x1 x2 : Int32) (hk : EO_parts M nt nf x1 x2) : GM z mX11_parts (d + 8) [.ref 0, .int x1, .int x2] M (fun rs => rs = e_parts M nt nf x1 x2) := by
  obtain ⟨hnt, ht, hnf, hf, hk⟩ := hk
  exact c_e_parts_0 z d M x1 x2 nt hnt ht nf hnf hf hk
noncomputable def K_fits (M : Mem) (x1 : Int32) : Int32 × Mem := (((k_fits (M.1 54) (M.1 55) (M.1 61) (M.1 71) (M.1 72) (M.1 75) x1).1), mrow (mrow (mrow M 54 ((k_fits (M.1 54) (M.1 55) (M.1 61) (M.1 71) (M.1 72) (M.1 75) x1).2.1)) 55 ((k_fits (M.1 54) (M.1 55) (M.1 61) (M.1 71) (M.1 72) (M.1 75) x1).2.2.1)) 72 ((k_fits (M.1 54) (M.1 55) (M.1 61) (M.1 71) (M.1 72) (M.1 75) x1).2.2.2))
def KO_fits (M : Mem) (x1 : Int32) : Prop := (k_fits_ok (M.1 54) (M.1 55) (M.1 61) (M.1 71) (M.1 72) (M.1 75) x1)
theorem g_k_fits (z : Zp) (d : Nat) (M : Mem) (x1 : Int32) (hk : KO_fits M x1) : GM z mX12_fits (d + 3) [.ref 54, .int x1] M (fun rs => rs = .inl (some (.int (K_fits M x1).1), (K_fits M x1).2)) := by
  have hk := hk
  exact c_k_fits_54 z d M x1 hk
def EO_fits (M : Mem) (np nt : Nat) (x1 : Int32) : Prop := (np ≤ 8) ∧ (M.1 3 0 = nI np) ∧ (nt ≤ 10) ∧ (M.1 3 2 = nI nt) ∧ (e_fits_ok M np nt x1)
theorem g_e_fits (z : Zp) (d : Nat) (M : Mem) (np nt : Nat) (x1 : Int32) (hk : EO_fits M np nt x1) : GM z mX11_fits (d + 7) [.ref 0, .int x1] M (fun rs => rs = e_fits M np nt x1) := by
  obtain ⟨hnp, hp, hnt, ht, hk⟩ := hk
  exact c_e_fits_0 z d M x1 np hnp hp nt hnt ht hk
noncomputable def K_look (M : Mem) (x1 : Int32) : Int32 × Mem := (((k_look (M.1 54) (M.1 55) (M.1 61) (M.1 71) (M.1 72) (M.1 75) (M.1 78) x1).1), mrow (mrow (mrow (mrow M 54 ((k_look (M.1 54) (M.1 55) (M.1 61) (M.1 71) (M.1 72) (M.1 75) (M.1 78) x1).2.1)) 55 ((k_look (M.1 54) (M.1 55) (M.1 61) (M.1 71) (M.1 72) (M.1 75) (M.1 78) x1).2.2.1)) 72 ((k_look (M.1 54) (M.1 55) (M.1 61) (M.1 71) (M.1 72) (M.1 75) (M.1 78) x1).2.2.2.1)) 78 ((k_look (M.1 54) (M.1 55) (M.1 61) (M.1 71) (M.1 72) (M.1 75) (M.1 78) x1).2.2.2.2))
def KO_look (M : Mem) (x1 : Int32) : Prop := (k_look_ok (M.1 54) (M.1 55) (M.1 61) (M.1 71) (M.1 72) (M.1 75) (M.1 78) x1)
theorem g_k_look (z : Zp) (d : Nat) (M : Mem) (x1 : Int32) (hk : KO_look M x1) : GM z mX12_look (d + 4) [.ref 54, .int x1] M (fun rs => rs = .inl (some (.int (K_look M x1).1), (K_look M x1).2)) := by
  have hk := hk
  exact c_k_look_54 z d M x1 hk
def EO_look (M : Mem) (np nt : Nat) (x1 : Int32) : Prop := (np ≤ 8) ∧ (M.1 3 0 = nI np) ∧ (nt ≤ 10) ∧ (M.1 3 2 = nI nt) ∧ (e_look_ok M np nt x1)
theorem g_e_look (z : Zp) (d : Nat) (M : Mem) (np nt : Nat) (x1 : Int32) (hk : EO_look M np nt x1) : GM z mX11_look (d + 7) [.ref 0, .int x1] M (fun rs => rs = e_look M np nt x1) := by
  obtain ⟨hnp, hp, hnt, ht, hk⟩ := hk
  exact c_e_look_0 z d M x1 np hnp hp nt hnt ht hk
noncomputable def K_pins (M : Mem) (x1 x2 x3 x4 : Int32) : Int64 × Mem := (((k_pins (M.1 54) (M.1 55) x1 x2 x3 x4).1), mrow (mrow M 54 ((k_pins (M.1 54) (M.1 55) x1 x2 x3 x4).2.1)) 55 ((k_pins (M.1 54) (M.1 55) x1 x2 x3 x4).2.2))
def KO_pins (M : Mem) (x1 x2 x3 x4 : Int32) : Prop := (k_pins_ok (M.1 54) (M.1 55) x1 x2 x3 x4)
theorem g_k_pins (z : Zp) (d : Nat) (M : Mem) (x1 x2 x3 x4 : Int32) (hk : KO_pins M x1 x2 x3 x4) : GM z mX12_pins (d + 1) [.ref 54, .int x1, .int x2, .int x3, .int x4] M (fun rs => rs = .inl (some (.long (K_pins M x1 x2 x3 x4).1), (K_pins M x1 x2 x3 x4).2)) := by
  have hk := hk
  exact c_k_pins_54 z d M x1 x2 x3 x4 hk
def EO_pins (M : Mem) (x1 x2 x3 x4 : Int32) : Prop := (e_pins_ok M x1 x2 x3 x4)
theorem g_e_pins (z : Zp) (d : Nat) (M : Mem) (x1 x2 x3 x4 : Int32) (hk : EO_pins M x1 x2 x3 x4) : GM z mX11_pins (d + 7) [.ref 0, .int x1, .int x2, .int x3, .int x4] M (fun rs => rs = e_pins M x1 x2 x3 x4) := by
  have hk := hk
  exact c_e_pins_0 z d M x1 x2 x3 x4 hk
noncomputable def K_takes (M : Mem) (x1 x2 x3 : Int32) : Int32 × Mem := (((k_takes (M.1 54) (M.1 55) x1 x2 x3).1), mrow (mrow M 54 ((k_takes (M.1 54) (M.1 55) x1 x2 x3).2.1)) 55 ((k_takes (M.1 54) (M.1 55) x1 x2 x3).2.2))
def KO_takes (M : Mem) (x1 x2 x3 : Int32) : Prop := True
theorem g_k_takes (z : Zp) (d : Nat) (M : Mem) (x1 x2 x3 : Int32) (hk : KO_takes M x1 x2 x3) : GM z mX12_takes (d + 1) [.ref 54, .int x1, .int x2, .int x3] M (fun rs => rs = .inl (some (.int (K_takes M x1 x2 x3).1), (K_takes M x1 x2 x3).2)) := by
  exact c_k_takes_54 z d M x1 x2 x3
def EO_takes (M : Mem) (x1 x2 x3 : Int32) : Prop := (e_takes_ok M x1 x2 x3)
theorem g_e_takes (z : Zp) (d : Nat) (M : Mem) (x1 x2 x3 : Int32) (hk : EO_takes M x1 x2 x3) : GM z mX11_takes (d + 7) [.ref 0, .int x1, .int x2, .int x3] M (fun rs => rs = e_takes M x1 x2 x3) := by
  have hk := hk
  exact c_e_takes_0 z d M x1 x2 x3 hk
noncomputable def K_sixpence (M : Mem) (nf : Nat) (x1 x2 x3 : Int32) : Int32 × Mem := (((k_sixpence (M.1 54) (M.1 55) (M.1 61) (M.1 71) (M.1 72) nf x1 x2 x3).1), mrow (mrow (mrow M 54 ((k_sixpence (M.1 54) (M.1 55) (M.1 61) (M.1 71) (M.1 72) nf x1 x2 x3).2.1)) 55 ((k_sixpence (M.1 54) (M.1 55) (M.1 61) (M.1 71) (M.1 72) nf x1 x2 x3).2.2.1)) 72 ((k_sixpence (M.1 54) (M.1 55) (M.1 61) (M.1 71) (M.1 72) nf x1 x2 x3).2.2.2))
def KO_sixpence (M : Mem) (nf : Nat) (x1 x2 x3 : Int32) : Prop := (nf ≤ 6) ∧ (M.1 54 23 = nI nf) ∧ (k_sixpence_ok (M.1 54) (M.1 55) (M.1 61) (M.1 71) (M.1 72) nf x1 x2 x3)
theorem g_k_sixpence (z : Zp) (d : Nat) (M : Mem) (nf : Nat) (x1 x2 x3 : Int32) (hk : KO_sixpence M nf x1 x2 x3) : GM z mX12_sixpence (d + 3) [.ref 54, .int x1, .int x2, .int x3] M (fun rs => rs = .inl (some (.int (K_sixpence M nf x1 x2 x3).1), (K_sixpence M nf x1 x2 x3).2)) := by
  obtain ⟨hnf, cf, hk⟩ := hk
  exact c_k_sixpence_54 z d M x1 x2 x3 nf hnf cf hk
def EO_sixpence (M : Mem) (nt nf : Nat) (x1 x2 x3 : Int32) : Prop := (nt ≤ 10) ∧ (M.1 3 2 = nI nt) ∧ (nf ≤ 6) ∧ (M.1 3 3 = nI nf) ∧ (e_sixpence_ok M nt nf x1 x2 x3)
theorem g_e_sixpence (z : Zp) (d : Nat) (M : Mem) (nt nf : Nat) (x1 x2 x3 : Int32) (hk : EO_sixpence M nt nf x1 x2 x3) : GM z mX11_sixpence (d + 8) [.ref 0, .int x1, .int x2, .int x3] M (fun rs => rs = e_sixpence M nt nf x1 x2 x3) := by
  obtain ⟨hnt, ht, hnf, hf, hk⟩ := hk
  exact c_e_sixpence_0 z d M x1 x2 x3 nt hnt ht nf hnf hf hk
noncomputable def K_greatest (M : Mem) (x1 : Int32) : Int32 × Mem := (((k_greatest (M.1 54) (M.1 55) (M.1 61) (M.1 71) x1).1), mrow (mrow M 54 ((k_greatest (M.1 54) (M.1 55) (M.1 61) (M.1 71) x1).2.1)) 55 ((k_greatest (M.1 54) (M.1 55) (M.1 61) (M.1 71) x1).2.2))
def KO_greatest (M : Mem) (x1 : Int32) : Prop := (k_greatest_ok (M.1 54) (M.1 55) (M.1 61) (M.1 71) x1)
theorem g_k_greatest (z : Zp) (d : Nat) (M : Mem) (x1 : Int32) (hk : KO_greatest M x1) : GM z mX12_greatest (d + 1) [.ref 54, .int x1] M (fun rs => rs = .inl (some (.int (K_greatest M x1).1), (K_greatest M x1).2)) := by
  have hk := hk
  exact c_k_greatest_54 z d M x1 hk
def EO_greatest (M : Mem) (nt : Nat) (x1 : Int32) : Prop := (nt ≤ 10) ∧ (M.1 3 2 = nI nt) ∧ (e_greatest_ok M nt x1)
theorem g_e_greatest (z : Zp) (d : Nat) (M : Mem) (nt : Nat) (x1 : Int32) (hk : EO_greatest M nt x1) : GM z mX11_greatest (d + 7) [.ref 0, .int x1] M (fun rs => rs = e_greatest M nt x1) := by
  obtain ⟨hnt, ht, hk⟩ := hk
  exact c_e_greatest_0 z d M x1 nt hnt ht hk
noncomputable def K_deepest (M : Mem) (x1 : Int32) : Int32 × Mem := (((k_deepest (M.1 54) (M.1 55) (M.1 71) x1).1), mrow (mrow M 54 ((k_deepest (M.1 54) (M.1 55) (M.1 71) x1).2.1)) 55 ((k_deepest (M.1 54) (M.1 55) (M.1 71) x1).2.2))
def KO_deepest (M : Mem) (x1 : Int32) : Prop := (k_deepest_ok (M.1 54) (M.1 55) (M.1 71) x1)
theorem g_k_deepest (z : Zp) (d : Nat) (M : Mem) (x1 : Int32) (hk : KO_deepest M x1) : GM z mX12_deepest (d + 1) [.ref 54, .int x1] M (fun rs => rs = .inl (some (.int (K_deepest M x1).1), (K_deepest M x1).2)) := by
  have hk := hk
  exact c_k_deepest_54 z d M x1 hk
def EO_deepest (M : Mem) (nf : Nat) (x1 : Int32) : Prop := (nf ≤ 6) ∧ (M.1 3 3 = nI nf) ∧ (e_deepest_ok M nf x1)
theorem g_e_deepest (z : Zp) (d : Nat) (M : Mem) (nf : Nat) (x1 : Int32) (hk : EO_deepest M nf x1) : GM z mX11_deepest (d + 7) [.ref 0, .int x1] M (fun rs => rs = e_deepest M nf x1) := by
  obtain ⟨hnf, hf, hk⟩ := hk
  exact c_e_deepest_0 z d M x1 nf hnf hf hk
noncomputable def K_sound (M : Mem) (x1 : Int32) : Int32 × Mem := (((k_sound (M.1 54) (M.1 55) (M.1 61) (M.1 71) (M.1 72) x1).1), mrow (mrow (mrow M 54 ((k_sound (M.1 54) (M.1 55) (M.1 61) (M.1 71) (M.1 72) x1).2.1)) 55 ((k_sound (M.1 54) (M.1 55) (M.1 61) (M.1 71) (M.1 72) x1).2.2.1)) 72 ((k_sound (M.1 54) (M.1 55) (M.1 61) (M.1 71) (M.1 72) x1).2.2.2))
def KO_sound (M : Mem) (x1 : Int32) : Prop := (k_sound_ok (M.1 54) (M.1 55) (M.1 61) (M.1 71) (M.1 72) x1)
theorem g_k_sound (z : Zp) (d : Nat) (M : Mem) (x1 : Int32) (hk : KO_sound M x1) : GM z mX12_sound (d + 2) [.ref 54, .int x1] M (fun rs => rs = .inl (some (.int (K_sound M x1).1), (K_sound M x1).2)) := by
  have hk := hk
  exact c_k_sound_54 z d M x1 hk
def EO_sound (M : Mem) (nt nf : Nat) (x1 : Int32) : Prop := (nt ≤ 10) ∧ (M.1 3 2 = nI nt) ∧ (nf ≤ 6) ∧ (M.1 3 3 = nI nf)
theorem g_e_sound (z : Zp) (d : Nat) (M : Mem) (nt nf : Nat) (x1 : Int32) (hk : EO_sound M nt nf x1) : GM z mX11_sound (d + 7) [.ref 0, .int x1] M (fun rs => rs = e_sound M nt nf x1) := by
  obtain ⟨hnt, ht, hnf, hf⟩ := hk
  exact c_e_sound_0 z d M x1 nt hnt ht nf hnf hf
noncomputable def K_way (M : Mem) (nf : Nat) (x1 x2 : Int32) : Int32 × Mem := (((k_way (M.1 54) (M.1 55) (M.1 71) (M.1 76) nf x1 x2).1), mrow (mrow M 54 ((k_way (M.1 54) (M.1 55) (M.1 71) (M.1 76) nf x1 x2).2.1)) 55 ((k_way (M.1 54) (M.1 55) (M.1 71) (M.1 76) nf x1 x2).2.2))
def KO_way (M : Mem) (nf : Nat) (x1 x2 : Int32) : Prop := (nf ≤ 6) ∧ (M.1 54 23 = nI nf) ∧ (k_way_ok (M.1 54) (M.1 55) (M.1 71) (M.1 76) nf x1 x2)
theorem g_k_way (z : Zp) (d : Nat) (M : Mem) (nf : Nat) (x1 x2 : Int32) (hk : KO_way M nf x1 x2) : GM z mX12_way (d + 2) [.ref 54, .int x1, .int x2] M (fun rs => rs = .inl (some (.int (K_way M nf x1 x2).1), (K_way M nf x1 x2).2)) := by
  obtain ⟨hnf, cf, hk⟩ := hk
  exact c_k_way_54 z d M x1 x2 nf hnf cf hk
def EO_way (M : Mem) (nt nf : Nat) (x1 x2 : Int32) : Prop := (nt ≤ 10) ∧ (M.1 3 2 = nI nt) ∧ (nf ≤ 6) ∧ (M.1 3 3 = nI nf) ∧ (e_way_ok M nt nf x1 x2)
theorem g_e_way (z : Zp) (d : Nat) (M : Mem) (nt nf : Nat) (x1 x2 : Int32) (hk : EO_way M nt nf x1 x2) : GM z mX11_way (d + 8) [.ref 0, .int x1, .int x2] M (fun rs => rs = e_way M nt nf x1 x2) := by
  obtain ⟨hnt, ht, hnf, hf, hk⟩ := hk
  exact c_e_way_0 z d M x1 x2 nt hnt ht nf hnf hf hk
noncomputable def K_burden (M : Mem) (x1 : Int32) : Int32 × Mem := (((k_burden (M.1 54) (M.1 55) (M.1 71) x1).1), mrow (mrow M 54 ((k_burden (M.1 54) (M.1 55) (M.1 71) x1).2.1)) 55 ((k_burden (M.1 54) (M.1 55) (M.1 71) x1).2.2))
def KO_burden (M : Mem) (x1 : Int32) : Prop := (k_burden_ok (M.1 54) (M.1 55) (M.1 71) x1)
theorem g_k_burden (z : Zp) (d : Nat) (M : Mem) (x1 : Int32) (hk : KO_burden M x1) : GM z mX12_burden (d + 1) [.ref 54, .int x1] M (fun rs => rs = .inl (some (.int (K_burden M x1).1), (K_burden M x1).2)) := by
  have hk := hk
  exact c_k_burden_54 z d M x1 hk
def EO_burden (M : Mem) (nf : Nat) (x1 : Int32) : Prop := (nf ≤ 6) ∧ (M.1 3 3 = nI nf)
theorem g_e_burden (z : Zp) (d : Nat) (M : Mem) (nf : Nat) (x1 : Int32) (hk : EO_burden M nf x1) : GM z mX11_burden (d + 7) [.ref 0, .int x1] M (fun rs => rs = e_burden M nf x1) := by
  obtain ⟨hnf, hf⟩ := hk
  exact c_e_burden_0 z d M x1 nf hnf hf
noncomputable def K_near (M : Mem) (nf : Nat) (x1 x2 : Int32) : Int32 × Mem := (((k_near (M.1 54) (M.1 55) (M.1 71) (M.1 76) nf x1 x2).1), mrow (mrow M 54 ((k_near (M.1 54) (M.1 55) (M.1 71) (M.1 76) nf x1 x2).2.1)) 55 ((k_near (M.1 54) (M.1 55) (M.1 71) (M.1 76) nf x1 x2).2.2))
def KO_near (M : Mem) (nf : Nat) (x1 x2 : Int32) : Prop := (nf ≤ 6) ∧ (M.1 54 23 = nI nf) ∧ (k_near_ok (M.1 54) (M.1 55) (M.1 71) (M.1 76) nf x1 x2)
theorem g_k_near (z : Zp) (d : Nat) (M : Mem) (nf : Nat) (x1 x2 : Int32) (hk : KO_near M nf x1 x2) : GM z mX12_near (d + 2) [.ref 54, .int x1, .int x2] M (fun rs => rs = .inl (some (.int (K_near M nf x1 x2).1), (K_near M nf x1 x2).2)) := by
  obtain ⟨hnf, cf, hk⟩ := hk
  exact c_k_near_54 z d M x1 x2 nf hnf cf hk
def EO_near (M : Mem) (nt nf : Nat) (x1 x2 : Int32) : Prop := (nt ≤ 10) ∧ (M.1 3 2 = nI nt) ∧ (nf ≤ 6) ∧ (M.1 3 3 = nI nf) ∧ (e_near_ok M nt nf x1 x2)
theorem g_e_near (z : Zp) (d : Nat) (M : Mem) (nt nf : Nat) (x1 x2 : Int32) (hk : EO_near M nt nf x1 x2) : GM z mX11_near (d + 8) [.ref 0, .int x1, .int x2] M (fun rs => rs = e_near M nt nf x1 x2) := by
  obtain ⟨hnt, ht, hnf, hf, hk⟩ := hk
  exact c_e_near_0 z d M x1 x2 nt hnt ht nf hnf hf hk
noncomputable def K_enough (M : Mem) (nf : Nat) (x1 : Int32) : Int32 × Mem := (((k_enough (M.1 54) (M.1 55) (M.1 61) (M.1 71) nf x1).1), mrow (mrow M 54 ((k_enough (M.1 54) (M.1 55) (M.1 61) (M.1 71) nf x1).2.1)) 55 ((k_enough (M.1 54) (M.1 55) (M.1 61) (M.1 71) nf x1).2.2))
def KO_enough (M : Mem) (nf : Nat) (x1 : Int32) : Prop := (nf ≤ 6) ∧ (M.1 54 23 = nI nf) ∧ (k_enough_ok (M.1 54) (M.1 55) (M.1 61) (M.1 71) nf x1)
theorem g_k_enough (z : Zp) (d : Nat) (M : Mem) (nf : Nat) (x1 : Int32) (hk : KO_enough M nf x1) : GM z mX12_enough (d + 2) [.ref 54, .int x1] M (fun rs => rs = .inl (some (.int (K_enough M nf x1).1), (K_enough M nf x1).2)) := by
  obtain ⟨hnf, cf, hk⟩ := hk
  exact c_k_enough_54 z d M x1 nf hnf cf hk
def EO_enough (M : Mem) (nt nf : Nat) (x1 : Int32) : Prop := (nt ≤ 10) ∧ (M.1 3 2 = nI nt) ∧ (nf ≤ 6) ∧ (M.1 3 3 = nI nf) ∧ (e_enough_ok M nt nf x1)
theorem g_e_enough (z : Zp) (d : Nat) (M : Mem) (nt nf : Nat) (x1 : Int32) (hk : EO_enough M nt nf x1) : GM z mX11_enough (d + 8) [.ref 0, .int x1] M (fun rs => rs = e_enough M nt nf x1) := by
  obtain ⟨hnt, ht, hnf, hf, hk⟩ := hk
  exact c_e_enough_0 z d M x1 nt hnt ht nf hnf hf hk
noncomputable def K_year (M : Mem) (nr nt nf : Nat) (x1 x2 x3 x4 : Int32) : Int32 × Mem := (((k_year (M.1 54) (M.1 55) (M.1 60) (M.1 61) (M.1 65) (M.1 66) (M.1 67) (M.1 68) (M.1 71) (M.1 72) nr nt nf x1 x2 x3 x4).1), mrow (mrow (mrow (mrow (mrow M 54 ((k_year (M.1 54) (M.1 55) (M.1 60) (M.1 61) (M.1 65) (M.1 66) (M.1 67) (M.1 68) (M.1 71) (M.1 72) nr nt nf x1 x2 x3 x4).2.1)) 55 ((k_year (M.1 54) (M.1 55) (M.1 60) (M.1 61) (M.1 65) (M.1 66) (M.1 67) (M.1 68) (M.1 71) (M.1 72) nr nt nf x1 x2 x3 x4).2.2.1)) 67 ((k_year (M.1 54) (M.1 55) (M.1 60) (M.1 61) (M.1 65) (M.1 66) (M.1 67) (M.1 68) (M.1 71) (M.1 72) nr nt nf x1 x2 x3 x4).2.2.2.1)) 68 ((k_year (M.1 54) (M.1 55) (M.1 60) (M.1 61) (M.1 65) (M.1 66) (M.1 67) (M.1 68) (M.1 71) (M.1 72) nr nt nf x1 x2 x3 x4).2.2.2.2.1)) 72 ((k_year (M.1 54) (M.1 55) (M.1 60) (M.1 61) (M.1 65) (M.1 66) (M.1 67) (M.1 68) (M.1 71) (M.1 72) nr nt nf x1 x2 x3 x4).2.2.2.2.2))
def KO_year (M : Mem) (nr nt nf : Nat) (x1 x2 x3 x4 : Int32) : Prop := (nr ≤ 12) ∧ (M.1 54 21 = nI nr) ∧ (nt ≤ 10) ∧ (M.1 54 22 = nI nt) ∧ (nf ≤ 6) ∧ (M.1 54 23 = nI nf) ∧ (k_year_ok (M.1 54) (M.1 55) (M.1 60) (M.1 61) (M.1 65) (M.1 66) (M.1 67) (M.1 68) (M.1 71) (M.1 72) nr nt nf x1 x2 x3 x4)
theorem g_k_year (z : Zp) (d : Nat) (M : Mem) (nr nt nf : Nat) (x1 x2 x3 x4 : Int32) (hk : KO_year M nr nt nf x1 x2 x3 x4) : GM z mX12_year (d + 7) [.ref 54, .int x1, .int x2, .int x3, .int x4] M (fun rs => rs = .inl (some (.int (K_year M nr nt nf x1 x2 x3 x4).1), (K_year M nr nt nf x1 x2 x3 x4).2)) := by
  obtain ⟨hnr, cr, hnt, ct, hnf, cf, hk⟩ := hk
  exact c_k_year_54 z d M x1 x2 x3 x4 nr hnr cr nt hnt ct nf hnf cf hk
def EO_year (M : Mem) (nr nt nf : Nat) (x1 x2 x3 x4 : Int32) : Prop := (nr ≤ 12) ∧ (M.1 3 1 = nI nr) ∧ (nt ≤ 10) ∧ (M.1 3 2 = nI nt) ∧ (nf ≤ 6) ∧ (M.1 3 3 = nI nf) ∧ (e_year_ok M nr nt nf x1 x2 x3 x4)
theorem g_e_year (z : Zp) (d : Nat) (M : Mem) (nr nt nf : Nat) (x1 x2 x3 x4 : Int32) (hk : EO_year M nr nt nf x1 x2 x3 x4) : GM z mX11_year (d + 7) [.ref 0, .int x1, .int x2, .int x3, .int x4] M (fun rs => rs = e_year M nr nt nf x1 x2 x3 x4) := by
  obtain ⟨hnr, hr, hnt, ht, hnf, hf, hk⟩ := hk
  exact c_e_year_0 z d M x1 x2 x3 x4 nr hnr hr nt hnt ht nf hnf hf hk
noncomputable def K_span (M : Mem) (nf : Nat) (x1 x2 x3 x4 x5 x6 : Int32) : Int32 × Mem := (((k_span (M.1 54) (M.1 55) (M.1 60) (M.1 61) (M.1 65) (M.1 66) (M.1 67) (M.1 68) (M.1 71) (M.1 72) nf x1 x2 x3 x4 x5 x6).1), mrow (mrow (mrow (mrow (mrow M 54 ((k_span (M.1 54) (M.1 55) (M.1 60) (M.1 61) (M.1 65) (M.1 66) (M.1 67) (M.1 68) (M.1 71) (M.1 72) nf x1 x2 x3 x4 x5 x6).2.1)) 55 ((k_span (M.1 54) (M.1 55) (M.1 60) (M.1 61) (M.1 65) (M.1 66) (M.1 67) (M.1 68) (M.1 71) (M.1 72) nf x1 x2 x3 x4 x5 x6).2.2.1)) 67 ((k_span (M.1 54) (M.1 55) (M.1 60) (M.1 61) (M.1 65) (M.1 66) (M.1 67) (M.1 68) (M.1 71) (M.1 72) nf x1 x2 x3 x4 x5 x6).2.2.2.1)) 68 ((k_span (M.1 54) (M.1 55) (M.1 60) (M.1 61) (M.1 65) (M.1 66) (M.1 67) (M.1 68) (M.1 71) (M.1 72) nf x1 x2 x3 x4 x5 x6).2.2.2.2.1)) 72 ((k_span (M.1 54) (M.1 55) (M.1 60) (M.1 61) (M.1 65) (M.1 66) (M.1 67) (M.1 68) (M.1 71) (M.1 72) nf x1 x2 x3 x4 x5 x6).2.2.2.2.2))
def KO_span (M : Mem) (nf : Nat) (x1 x2 x3 x4 x5 x6 : Int32) : Prop := (nf ≤ 6) ∧ (M.1 54 23 = nI nf) ∧ (k_span_ok (M.1 54) (M.1 55) (M.1 60) (M.1 61) (M.1 65) (M.1 66) (M.1 67) (M.1 68) (M.1 71) (M.1 72) nf x1 x2 x3 x4 x5 x6)
theorem g_k_span (z : Zp) (d : Nat) (M : Mem) (nf : Nat) (x1 x2 x3 x4 x5 x6 : Int32) (hk : KO_span M nf x1 x2 x3 x4 x5 x6) : GM z mX12_span (d + 7) [.ref 54, .int x1, .int x2, .int x3, .int x4, .int x5, .int x6] M (fun rs => rs = .inl (some (.int (K_span M nf x1 x2 x3 x4 x5 x6).1), (K_span M nf x1 x2 x3 x4 x5 x6).2)) := by
  obtain ⟨hnf, cf, hk⟩ := hk
  exact c_k_span_54 z d M x1 x2 x3 x4 x5 x6 nf hnf cf hk
def EO_span (M : Mem) (nr nt nf : Nat) (x1 x2 x3 x4 x5 x6 : Int32) : Prop := (nr ≤ 12) ∧ (M.1 3 1 = nI nr) ∧ (nt ≤ 10) ∧ (M.1 3 2 = nI nt) ∧ (nf ≤ 6) ∧ (M.1 3 3 = nI nf) ∧ (e_span_ok M nr nt nf x1 x2 x3 x4 x5 x6)
theorem g_e_span (z : Zp) (d : Nat) (M : Mem) (nr nt nf : Nat) (x1 x2 x3 x4 x5 x6 : Int32) (hk : EO_span M nr nt nf x1 x2 x3 x4 x5 x6) : GM z mX11_span (d + 7) [.ref 0, .int x1, .int x2, .int x3, .int x4, .int x5, .int x6] M (fun rs => rs = e_span M nr nt nf x1 x2 x3 x4 x5 x6) := by
  obtain ⟨hnr, hr, hnt, ht, hnf, hf, hk⟩ := hk
  exact c_e_span_0 z d M x1 x2 x3 x4 x5 x6 nr hnr hr nt hnt ht nf hnf hf hk
