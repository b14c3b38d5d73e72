/-! the law's loop -/
theorem d_sw : decode code 40 = .ok (.tableswitch 2643 0 41 #[184, 257, 313, 369, 425, 481, 494, 507, 563, 631, 699, 767, 835, 903, 1049, 1124, 1192, 1260, 1316, 1372, 1428, 1484, 1552, 1608, 1664, 1755, 1835, 1915, 1971, 2027, 2040, 2053, 2109, 2177, 2233, 2301, 2357, 2449, 2567, 2580, 2593, 2618], 184) := by decide +kernel
theorem sw_in {z : Zp} {d cells slots c tgt : Nat} {ls : Lo} {M : Mem} {Q : Rs → Prop} {off : Int} (hc : c ≤ 41) (ho : (#[184, 257, 313, 369, 425, 481, 494, 507, 563, 631, 699, 767, 835, 903, 1049, 1124, 1192, 1260, 1316, 1372, 1428, 1484, 1552, 1608, 1664, 1755, 1835, 1915, 1971, 2027, 2040, 2053, 2109, 2177, 2233, 2301, 2357, 2449, 2567, 2580, 2593, 2618] : Array Int)[c]? = some off) (ht : (40 : Int) + off = (tgt : Int)) (k : G z mLaw d cells slots tgt ls [] M Q) : G z mLaw d cells slots 40 ls [.int (nI c)] M Q := by
  have hci : (nI c).toInt = (c : Int) := nI_toInt (by omega)
  refine G.tabIn (μ := mLaw) d_sw ?_ ?_ ?_ ht k
  · rw [hci]; omega
  · rw [hci]; omega
  · rw [hci, show ((c : Int) - 0).toNat = c by omega]; exact ho
theorem law_body {z : Zp} (hw : oW z = true) (d : Nat) {np nr nt nf : Nat} {M : Mem} (h : IV np nr nt nf M) {i cells slots : Nat} (hi : i + 9 ≤ z.2.1) (hL : z.2.1 ≤ 4608) (hc : cells + 8 ≤ 601024) (hs : slots + 48 ≤ 7293033) {Q : Rs → Prop} (k : ∀ M2, InvM M2 → G z mLaw (d + 90) (cells + 8) (slots + 48) 2683 (lls i none none) [] M2 Q) {c : Nat} (hcc : c < 64) : G z mLaw (d + 90) cells slots 40 (lls i none none) [.int (nI c)] M Q := by
  by_cases g : c ≤ 41
  · match c, g with
    | 0, _ => exact sw_in (by omega) (off := 184) (tgt := 224) (by decide) rfl (lc_feed d h hi hL hc hs k)
    | 1, _ => exact sw_in (by omega) (off := 257) (tgt := 297) (by decide) rfl (lc_town hw d h hi hL hc hs k)
    | 2, _ => exact sw_in (by omega) (off := 313) (tgt := 353) (by decide) rfl (lc_law hw d h hi hL hc hs k)
    | 3, _ => exact sw_in (by omega) (off := 369) (tgt := 409) (by decide) rfl (lc_work hw d h hi hL hc hs k)
    | 4, _ => exact sw_in (by omega) (off := 425) (tgt := 465) (by decide) rfl (lc_book hw d h hi hL hc hs k)
    | 5, _ => exact sw_in (by omega) (off := 481) (tgt := 521) (by decide) rfl (lc_fault d h hi hL hc hs k)
    | 6, _ => exact sw_in (by omega) (off := 494) (tgt := 534) (by decide) rfl (lc_undo d h hi hL hc hs k)
    | 7, _ => exact sw_in (by omega) (off := 507) (tgt := 547) (by decide) rfl (lc_told hw d h hi hL hc hs k)
    | 8, _ => exact sw_in (by omega) (off := 563) (tgt := 603) (by decide) rfl (lc_place hw d h hi hL hc hs k)
    | 9, _ => exact sw_in (by omega) (off := 631) (tgt := 671) (by decide) rfl (lc_road hw d h hi hL hc hs k)
    | 10, _ => exact sw_in (by omega) (off := 699) (tgt := 739) (by decide) rfl (lc_thing hw d h hi hL hc hs k)
    | 11, _ => exact sw_in (by omega) (off := 767) (tgt := 807) (by decide) rfl (lc_finder hw d h hi hL hc hs k)
    | 12, _ => exact sw_in (by omega) (off := 835) (tgt := 875) (by decide) rfl (lc_duty hw d h hi hL hc hs k)
    | 13, _ => exact sw_in (by omega) (off := 903) (tgt := 943) (by decide) rfl (lc_would hw d h hi hL hc hs k)
    | 14, _ => exact sw_in (by omega) (off := 1049) (tgt := 1089) (by decide) rfl (lc_can hw d h hi hL hc hs k)
    | 15, _ => exact sw_in (by omega) (off := 1124) (tgt := 1164) (by decide) rfl (lc_ahead hw d h hi hL hc hs k)
    | 16, _ => exact sw_in (by omega) (off := 1192) (tgt := 1232) (by decide) rfl (lc_far hw d h hi hL hc hs k)
    | 17, _ => exact sw_in (by omega) (off := 1260) (tgt := 1300) (by decide) rfl (lc_round hw d h hi hL hc hs k)
    | 18, _ => exact sw_in (by omega) (off := 1316) (tgt := 1356) (by decide) rfl (lc_meet hw d h hi hL hc hs k)
    | 19, _ => exact sw_in (by omega) (off := 1372) (tgt := 1412) (by decide) rfl (lc_reach hw d h hi hL hc hs k)
    | 20, _ => exact sw_in (by omega) (off := 1428) (tgt := 1468) (by decide) rfl (lc_settle hw d h hi hL hc hs k)
    | 21, _ => exact sw_in (by omega) (off := 1484) (tgt := 1524) (by decide) rfl (lc_parts hw d h hi hL hc hs k)
    | 22, _ => exact sw_in (by omega) (off := 1552) (tgt := 1592) (by decide) rfl (lc_fits hw d h hi hL hc hs k)
    | 23, _ => exact sw_in (by omega) (off := 1608) (tgt := 1648) (by decide) rfl (lc_look hw d h hi hL hc hs k)
    | 24, _ => exact sw_in (by omega) (off := 1664) (tgt := 1704) (by decide) rfl (lc_pins hw d h hi hL hc hs k)
    | 25, _ => exact sw_in (by omega) (off := 1755) (tgt := 1795) (by decide) rfl (lc_takes hw d h hi hL hc hs k)
    | 26, _ => exact sw_in (by omega) (off := 1835) (tgt := 1875) (by decide) rfl (lc_sixpence hw d h hi hL hc hs k)
    | 27, _ => exact sw_in (by omega) (off := 1915) (tgt := 1955) (by decide) rfl (lc_greatest hw d h hi hL hc hs k)
    | 28, _ => exact sw_in (by omega) (off := 1971) (tgt := 2011) (by decide) rfl (lc_deepest hw d h hi hL hc hs k)
    | 29, _ => exact sw_in (by omega) (off := 2027) (tgt := 2067) (by decide) rfl (lc_empty d h hi hL hc hs k)
    | 30, _ => exact sw_in (by omega) (off := 2040) (tgt := 2080) (by decide) rfl (lc_lucky d h hi hL hc hs k)
    | 31, _ => exact sw_in (by omega) (off := 2053) (tgt := 2093) (by decide) rfl (lc_sound hw d h hi hL hc hs k)
    | 32, _ => exact sw_in (by omega) (off := 2109) (tgt := 2149) (by decide) rfl (lc_way hw d h hi hL hc hs k)
    | 33, _ => exact sw_in (by omega) (off := 2177) (tgt := 2217) (by decide) rfl (lc_burden hw d h hi hL hc hs k)
    | 34, _ => exact sw_in (by omega) (off := 2233) (tgt := 2273) (by decide) rfl (lc_near hw d h hi hL hc hs k)
    | 35, _ => exact sw_in (by omega) (off := 2301) (tgt := 2341) (by decide) rfl (lc_enough hw d h hi hL hc hs k)
    | 36, _ => exact sw_in (by omega) (off := 2357) (tgt := 2397) (by decide) rfl (lc_year hw d h hi hL hc hs k)
    | 37, _ => exact sw_in (by omega) (off := 2449) (tgt := 2489) (by decide) rfl (lc_span hw d h hi hL hc hs k)
    | 38, _ => exact sw_in (by omega) (off := 2567) (tgt := 2607) (by decide) rfl (lc_image d h hi hL hc hs k)
    | 39, _ => exact sw_in (by omega) (off := 2580) (tgt := 2620) (by decide) rfl (lc_restore d h hi hL hc hs k)
    | 40, _ => exact sw_in (by omega) (off := 2593) (tgt := 2633) (by decide) rfl (lc_status d h hi hL hc hs k)
    | 41, _ => exact sw_in (by omega) (off := 2618) (tgt := 2658) (by decide) rfl (lc_count d h hi hL hc hs k)
    | c + 42, g => exact absurd g (by omega)
  · refine G.tabOut (μ := mLaw) (tgt := 2683) d_sw (Or.inr ?_) rfl (G.widen (by omega) (by omega) (k M ⟨np, nr, nt, nf, h⟩))
    rw [nI_toInt (by omega)]
    omega
theorem law_loop {z : Zp} (hw : oW z = true) (d : Nat) (hL : z.2.1 ≤ 4608) {Q : Rs → Prop} (hQ : ∀ M, Q (.inl (some (.int (nI 1)), M))) (c0 s0 : Nat) (hc : c0 + 8 * 520 ≤ 601024) (hs : s0 + 48 * 520 ≤ 7293033) : ∀ (n k : Nat) (M : Mem), 9 * k ≤ z.2.1 → z.2.1 < 9 * k + 9 * n → InvM M → G z mLaw (d + 90) (c0 + 8 * k) (s0 + 48 * k) 23 (lls (9 * k) none none) [] M Q
  | 0, k, M, h1, h2, _ => by omega
  | n + 1, k, M, h1, h2, hI => by
    obtain ⟨np, nr, nt, nf, h⟩ := hI
    refine G.sl [(.iload 4, 2, 4, 0, 0, 0), (.aload_n 0, 1, 0, 0, 0, 0), (.arraylength, 1, 0, 0, 0, 0), (.bipush 9, 2, 0, 0, 0, nI 9), (.isub, 1, 0, 0, 0, 0)] [] (pc2 := 30) (ls2 := lls (9 * k) none none) (st2 := [.int (Int32.ofNat z.2.1 - nI 9), .int (nI (9 * k))]) (M2 := M) (Ps := []) (by decide +kernel) rfl rfl trivial ?_
    refine G.ic_gt (off := 2659) (tgt := 2689) (by decide +kernel) rfl (fun _ => ?_) (fun hle => ?_)
    · refine G.sl [(.iconst 1, 1, 0, 0, 0, nI 1)] [] (pc2 := 2690) (ls2 := lls (9 * k) none none) (st2 := [.int (nI 1)]) (M2 := M) (Ps := []) (by decide +kernel) rfl rfl trivial ?_
      exact G.reti (μ := mLaw) (ty := .boolean) (by decide +kernel) rfl rfl (by show c0 + 8 * k ≤ 601024; omega) (by show s0 + 48 * k ≤ 7293033; omega) (hQ M)
    · have hi : 9 * k + 9 ≤ z.2.1 := by
        have e : Int32.ofNat z.2.1 = nI z.2.1 := rfl
        rw [e] at hle
        by_cases g : 9 ≤ z.2.1
        · rw [pk_sub g] at hle
          by_cases q : z.2.1 - 9 < 9 * k
          · exact absurd ((pu_lti (by omega) (by omega)).mpr q) hle
          · omega
        · exfalso
          refine hle ?_
          rw [pu_lt, pk_sub_toInt (by omega) (by omega), nI_toInt (by omega)]
          omega
      obtain ⟨c, hcc, ec⟩ := pk_andE (z.2.2 (9 * k)) (m := nI 63) 6 (by decide)
      refine G.sl [(.aload_n 0, 1, 0, 0, 0, 0), (.iload 4, 2, 4, 0, 0, 0), (.iaload, 1, 0, 0, 0, 0), (.bipush 63, 2, 0, 0, 0, nI 63), (.iand, 1, 0, 0, 0, 0)] [9 * k] (pc2 := 40) (ls2 := lls (9 * k) none none) (st2 := [.int (z.2.2 (9 * k) &&& nI 63)]) (M2 := M) (Ps := [nI (9 * k) = nI (9 * k) ∧ 9 * k < z.2.1 ∧ 9 * k < 2 ^ 31]) (by decide +kernel) rfl rfl ⟨⟨rfl, by omega, by omega⟩, trivial⟩ ?_
      rw [ec]
      refine law_body hw d h hi hL (by omega) (by omega) (fun M2 hI2 => ?_) hcc
      refine G.sl [(.iinc 4 9, 3, 4, 0, 0, nI 9), (.goto (-2663), 3, 23, 0, 0, 0)] [] (pc2 := 23) (ls2 := [some (.ref 3000), some (.ref 0), some (.ref 54), some (.ref 80), some (.int (nI (9 * k) + nI 9)), none, none, none]) (st2 := []) (M2 := M2) (Ps := []) (by decide +kernel) rfl rfl trivial ?_
      have r := law_loop hw d hL hQ c0 s0 hc hs n (k + 1) M2 (by omega) (by omega) hI2
      rw [show c0 + 8 * (k + 1) = c0 + 8 * k + 8 by omega, show s0 + 48 * (k + 1) = s0 + 48 * k + 48 by omega, show 9 * (k + 1) = 9 * k + 9 by omega] at r
      rw [nI_add]
      exact r
