/-! the law's loop -/
theorem dT : decode code 33 = .ok (.tableswitch 1619 0 45 #[199, 262, 285, 308, 341, 374, 407, 440, 463, 486, 519, 542, 575, 608, 631, 654, 687, 710, 743, 776, 809, 842, 875, 898, 921, 934, 947, 980, 1003, 1016, 1029, 1042, 1075, 1118, 1151, 1184, 1217, 1260, 1303, 1347, 1390, 1433, 1507, 1550, 1573, 1596], 199) := by decide +kernel
theorem law_sw {d L i k : Nat} {s : pm_S} {M : pm_M} {x : Int32} (hd : 100 ≤ d) (hI : Inv L s M) (h6 : i + 6 ≤ L) (hL : L ≤ 3072) (hk : k < 64) (hx : x = nI k) (next : ∀ s1 M1, Inv L s1 M1 → M1.1 4000 = M.1 4000 → wLaw d 1652 [.ref 4000, .ref 0, .ref 159, .int (nI i)] [] s1 M1) : wLaw d 33 [.ref 4000, .ref 0, .ref 159, .int (nI i)] [.int x] s M := by
  subst hx
  by_cases c : k < 46
  · have h : k = 0 ∨ k = 1 ∨ k = 2 ∨ k = 3 ∨ k = 4 ∨ k = 5 ∨ k = 6 ∨ k = 7 ∨ k = 8 ∨ k = 9 ∨ k = 10 ∨ k = 11 ∨ k = 12 ∨ k = 13 ∨ k = 14 ∨ k = 15 ∨ k = 16 ∨ k = 17 ∨ k = 18 ∨ k = 19 ∨ k = 20 ∨ k = 21 ∨ k = 22 ∨ k = 23 ∨ k = 24 ∨ k = 25 ∨ k = 26 ∨ k = 27 ∨ k = 28 ∨ k = 29 ∨ k = 30 ∨ k = 31 ∨ k = 32 ∨ k = 33 ∨ k = 34 ∨ k = 35 ∨ k = 36 ∨ k = 37 ∨ k = 38 ∨ k = 39 ∨ k = 40 ∨ k = 41 ∨ k = 42 ∨ k = 43 ∨ k = 44 ∨ k = 45 := by omega
    rcases h with rfl | rfl | rfl | rfl | rfl | rfl | rfl | rfl | rfl | rfl | rfl | rfl | rfl | rfl | rfl | rfl | rfl | rfl | rfl | rfl | rfl | rfl | rfl | rfl | rfl | rfl | rfl | rfl | rfl | rfl | rfl | rfl | rfl | rfl | rfl | rfl | rfl | rfl | rfl | rfl | rfl | rfl | rfl | rfl | rfl | rfl
    · exact t_tablehole (k := 0) (tgt := 232) dT rfl (by decide) (by decide) (law_feed hd hI h6 hL next)
    · exact t_tablehole (k := 1) (tgt := 295) dT rfl (by decide) (by decide) (law_line hd hI h6 hL next)
    · exact t_tablehole (k := 2) (tgt := 318) dT rfl (by decide) (by decide) (law_fault hd hI h6 hL next)
    · exact t_tablehole (k := 3) (tgt := 341) dT rfl (by decide) (by decide) (law_thing hd hI h6 hL next)
    · exact t_tablehole (k := 4) (tgt := 374) dT rfl (by decide) (by decide) (law_person hd hI h6 hL next)
    · exact t_tablehole (k := 5) (tgt := 407) dT rfl (by decide) (by decide) (law_claims hd hI h6 hL next)
    · exact t_tablehole (k := 6) (tgt := 440) dT rfl (by decide) (by decide) (law_burden hd hI h6 hL next)
    · exact t_tablehole (k := 7) (tgt := 473) dT rfl (by decide) (by decide) (law_seed hd hI h6 hL next)
    · exact t_tablehole (k := 8) (tgt := 496) dT rfl (by decide) (by decide) (law_leave hd hI h6 hL next)
    · exact t_tablehole (k := 9) (tgt := 519) dT rfl (by decide) (by decide) (law_fetch hd hI h6 hL next)
    · exact t_tablehole (k := 10) (tgt := 552) dT rfl (by decide) (by decide) (law_open hd hI h6 hL next)
    · exact t_tablehole (k := 11) (tgt := 575) dT rfl (by decide) (by decide) (law_swap hd hI h6 hL next)
    · exact t_tablehole (k := 12) (tgt := 608) dT rfl (by decide) (by decide) (law_mark hd hI h6 hL next)
    · exact t_tablehole (k := 13) (tgt := 641) dT rfl (by decide) (by decide) (law_days hd hI h6 hL next)
    · exact t_tablehole (k := 14) (tgt := 664) dT rfl (by decide) (by decide) (law_undo hd hI h6 hL next)
    · exact t_tablehole (k := 15) (tgt := 687) dT rfl (by decide) (by decide) (law_judge hd hI h6 hL next)
    · exact t_tablehole (k := 16) (tgt := 720) dT rfl (by decide) (by decide) (law_perform hd hI h6 hL next)
    · exact t_tablehole (k := 17) (tgt := 743) dT rfl (by decide) (by decide) (law_season hd hI h6 hL next)
    · exact t_tablehole (k := 18) (tgt := 776) dT rfl (by decide) (by decide) (law_goes hd hI h6 hL next)
    · exact t_tablehole (k := 19) (tgt := 809) dT rfl (by decide) (by decide) (law_takes hd hI h6 hL next)
    · exact t_tablehole (k := 20) (tgt := 842) dT rfl (by decide) (by decide) (law_sources hd hI h6 hL next)
    · exact t_tablehole (k := 21) (tgt := 875) dT rfl (by decide) (by decide) (law_plan hd hI h6 hL next)
    · exact t_tablehole (k := 22) (tgt := 908) dT rfl (by decide) (by decide) (law_plans hd hI h6 hL next)
    · exact t_tablehole (k := 23) (tgt := 931) dT rfl (by decide) (by decide) (law_match hd hI h6 hL next)
    · exact t_tablehole (k := 24) (tgt := 954) dT rfl (by decide) (by decide) (law_matchings hd hI h6 hL next)
    · exact t_tablehole (k := 25) (tgt := 967) dT rfl (by decide) (by decide) (law_without hd hI h6 hL next)
    · exact t_tablehole (k := 26) (tgt := 980) dT rfl (by decide) (by decide) (law_fetches hd hI h6 hL next)
    · exact t_tablehole (k := 27) (tgt := 1013) dT rfl (by decide) (by decide) (law_trade hd hI h6 hL next)
    · exact t_tablehole (k := 28) (tgt := 1036) dT rfl (by decide) (by decide) (law_rounds hd hI h6 hL next)
    · exact t_tablehole (k := 29) (tgt := 1049) dT rfl (by decide) (by decide) (law_traders hd hI h6 hL next)
    · exact t_tablehole (k := 30) (tgt := 1062) dT rfl (by decide) (by decide) (law_bargain hd hI h6 hL next)
    · exact t_tablehole (k := 31) (tgt := 1075) dT rfl (by decide) (by decide) (law_opening hd hI h6 hL next)
    · exact t_tablehole (k := 32) (tgt := 1108) dT rfl (by decide) (by decide) (law_openedBy hd hI h6 hL next)
    · exact t_tablehole (k := 33) (tgt := 1151) dT rfl (by decide) (by decide) (law_inADay hd hI h6 hL next)
    · exact t_tablehole (k := 34) (tgt := 1184) dT rfl (by decide) (by decide) (law_marks hd hI h6 hL next)
    · exact t_tablehole (k := 35) (tgt := 1217) dT rfl (by decide) (by decide) (law_show hd hI h6 hL next)
    · exact t_tablehole (k := 36) (tgt := 1250) dT rfl (by decide) (by decide) (law_game hd hI h6 hL next)
    · exact t_tablehole (k := 37) (tgt := 1293) dT rfl (by decide) (by decide) (law_picks hd hI h6 hL next)
    · exact t_tablehole (k := 38) (tgt := 1336) dT rfl (by decide) (by decide) (law_chance hd hI h6 hL next)
    · exact t_tablehole (k := 39) (tgt := 1380) dT rfl (by decide) (by decide) (law_bearing hd hI h6 hL next)
    · exact t_tablehole (k := 40) (tgt := 1423) dT rfl (by decide) (by decide) (law_numbers hd hI h6 hL next)
    · exact t_tablehole (k := 41) (tgt := 1466) dT rfl (by decide) (by decide) (law_write hd hI h6 hL next)
    · exact t_tablehole (k := 42) (tgt := 1540) dT rfl (by decide) (by decide) (law_lists hd hI h6 hL next)
    · exact t_tablehole (k := 43) (tgt := 1583) dT rfl (by decide) (by decide) (law_image hd hI h6 hL next)
    · exact t_tablehole (k := 44) (tgt := 1606) dT rfl (by decide) (by decide) (law_restore hd hI h6 hL next)
    · exact t_tablehole (k := 45) (tgt := 1629) dT rfl (by decide) (by decide) (law_count hd hI h6 hL next)
  · have e : (nI k).toInt = (k : Int) := nI_toInt (by omega)
    refine t_tablehole (k := (k : Int)) (tgt := 1652) dT e ?_ (fun h => absurd ?_ h) (next s M hI rfl)
    · rw [if_pos (by omega)]; decide
    · omega
theorem law_head {d L i : Nat} {s : pm_S} {M : pm_M} (hd : 100 ≤ d) (hL : L ≤ 3072) (hi : i ≤ 3072) (hI : Inv L s M) (next : i + 6 ≤ L → ∀ s1 M1, Inv L s1 M1 → M1.1 4000 = M.1 4000 → wLaw d 1652 [.ref 4000, .ref 0, .ref 159, .int (nI i)] [] s1 M1) : wLaw d 18 [.ref 4000, .ref 0, .ref 159, .int (nI i)] [] s M := by
  have hs : s.1 = L := hI.1.1
  have el : Int32.ofNat (pm_al (EE s) 4000) = nI L := by
    show Int32.ofNat s.1 = _
    rw [hs]; rfl
  show pm_wp (pm_cal d) code 13 (some .boolean) false 18 [.ref 4000, .ref 0, .ref 159, .int (nI i)] [] (EE s) M lawQ
  refine s_iload_n (i := 3) (by decide +kernel) rfl (pn 19 rfl ?_)
  refine s_aload_n (i := 0) (by decide +kernel) rfl (pn 20 rfl ?_)
  refine t_arraylength (v := nI L) (by decide +kernel) ⟨Or.inr rfl, by show 0 < 6; omega⟩ el (pn 21 rfl ?_)
  refine t_bipush (n := 6) (v := nI 6) (by decide +kernel) (by decide +kernel) (pn 23 rfl ?_)
  refine s_isub (by decide +kernel) (pn 24 rfl ?_)
  have out : wLaw d 1658 [.ref 4000, .ref 0, .ref 159, .int (nI i)] [] s M := by
    show pm_wp (pm_cal d) code 13 (some .boolean) false 1658 [.ref 4000, .ref 0, .ref 159, .int (nI i)] [] (EE s) M lawQ
    refine t_iconst (n := 1) (v := 1) (by decide +kernel) (by decide +kernel) (pn 1659 rfl ?_)
    exact s_ireturn (st := []) (by decide +kernel) (Or.inr ⟨rfl, Or.inr rfl⟩) ⟨rfl, rfl, rfl⟩
  have stay : i + 6 ≤ L → pm_wp (pm_cal d) code 13 (some .boolean) false 27 [.ref 4000, .ref 0, .ref 159, .int (nI i)] [] (EE s) M lawQ := by
    intro h6
    refine s_aload_n (i := 0) (by decide +kernel) rfl (pn 28 rfl ?_)
    refine s_iload_n (i := 3) (by decide +kernel) rfl (pn 29 rfl ?_)
    refine t_iaload (v := M.1 4000 i) (by decide +kernel) sc_ok (sc_at (i := i) (k := 0) hs rfl (by omega) hL) (by rw [nI_clamp (by omega)]) (pn 30 rfl ?_)
    refine t_bipush (n := 63) (v := 63) (by decide +kernel) (by decide +kernel) (pn 32 rfl ?_)
    refine s_iand (by decide +kernel) (pn 33 rfl ?_)
    obtain ⟨k, hk, ek⟩ := pk_andE (M.1 4000 i) (m := 63) 6 (by decide)
    exact law_sw hd hI h6 hL hk ek (next h6)
  by_cases c : i + 6 ≤ L
  · refine s_icmp_gt (off := 1634) (tgt := 1658) (by decide +kernel) rfl (fun h => absurd h ?_) (fun _ => (pn 27 rfl (stay c)))
    rw [pk_sub (by omega), nI_ltP (by omega) (by omega)]; omega
  · refine s_icmp_gt (off := 1634) (tgt := 1658) (by decide +kernel) rfl (fun _ => out) (fun h => absurd ?_ h)
    by_cases c6 : 6 ≤ L
    · rw [pk_sub c6, nI_ltP (by omega) (by omega)]; omega
    · have lt : ∀ L, L < 6 → nI L - nI 6 < 0 := by decide
      have h1 := lt L (by omega)
      have h2 : (0 : Int32) ≤ nI i := by rw [lI 0, nI_leP (by omega) (by omega)]; omega
      exact Int32.lt_of_lt_of_le h1 h2
theorem law_loop {d L : Nat} (hd : 100 ≤ d) (hL : L ≤ 3072) : ∀ f i s M, L < i + 6 + f → i ≤ 3072 → Inv L s M → wLaw d 18 [.ref 4000, .ref 0, .ref 159, .int (nI i)] [] s M := by
  intro f
  induction f with
  | zero => intro i s M hf hi hI; exact law_head hd hL hi hI (fun h6 => by omega)
  | succ f ih =>
    intro i s M hf hi hI
    refine law_head hd hL hi hI (fun h6 s1 M1 hI1 _ => ?_)
    show pm_wp (pm_cal d) code 13 (some .boolean) false 1652 [.ref 4000, .ref 0, .ref 159, .int (nI i)] [] (EE s1) M1 lawQ
    refine t_iinc (i := 3) (n := 6) (v := nI 6) (ls' := [.ref 4000, .ref 0, .ref 159, .int (nI (i + 6))]) (by decide +kernel) rfl (Nat.le_of_ble_eq_true rfl) (by decide +kernel) (by rw [nI_add]; rfl) (pn 1655 rfl ?_)
    refine s_goto (off := (-1637)) (tgt := 18) (by decide +kernel) rfl ?_
    exact ih (i + 6) s1 M1 (by omega) (by omega) hI1
/-- the law, from its entry -/
theorem toE_1 {L : Nat} {t} : (toE L t).1 = t.1.length := rfl
theorem law_all {d L : Nat} {M : pm_M} (hd : 110 ≤ d) (hL : L ≤ 3072) : pm_wp (pm_cal d) code 13 (some .boolean) false 0 [.ref 4000, .null, .null, .null] [] (toE L ([], [], 0)) M lawQ := by
  have hM0 : okM 0 (M.1 4000, []) M := by
    refine ⟨fun e h => absurd h List.not_mem_nil, ?_⟩
    refine ⟨fun c hc => absurd hc (Nat.not_lt_zero c), Nat.zero_le _, rfl⟩
  refine s_new (ix := 7) (ci := 11) (by decide +kernel) (by decide +kernel) (by show 0 < 4000; omega) (pn 3 rfl ?_)
  have e0 : pm_ne (toE L ([], [], 0)) (10 + 11) (pm_nf 11) 0 = toE L jGT0 := toE_new (r := 17) rfl (by show 0 < 4000; omega)
  rw [e0]
  have hM1 : okM 1 (M.1 4000, []) (pm_nm (toE L ([], [], 0)) M) := okM_new hM0 rfl (by omega)
  generalize pm_nm (toE L ([], [], 0)) M = Ma at hM1
  refine s_dup (by decide +kernel) rfl (pn 4 rfl ?_)
  refine s_calliV (ix := 9) (y := yG_init) (st := [.ref 0]) [] rfl (by decide +kernel) (by decide +kernel) (by decide +kernel) (Nat.le_of_ble_eq_true rfl) (umk_G (by omega) hM1 (fun Mb hMb => (pn 7 rfl ?_)))
  refine s_astore_n (i := 1) (by decide +kernel) (Nat.le_of_ble_eq_true rfl) (pn 8 rfl (t_store (ls' := [.ref 4000, .ref 0, .null, .null]) rfl ?_))
  obtain ⟨o1, o2⟩ := ok_b (t := jGT64) (n := 159) (by decide +kernel)
  have a1 : (toE L jGT64).1 = 159 := by rw [toE_1]; exact o2
  refine s_new (ix := 10) (ci := 12) (by decide +kernel) (by decide +kernel) (by rw [a1]; omega) (pn 11 rfl ?_)
  have e1 : pm_ne (toE L jGT64) (10 + 12) (pm_nf 12) 0 = toE L jMT0 := toE_new (r := 42) o1 (by rw [o2]; omega)
  rw [e1]
  rw [a1]
  have hM2 : okM 160 (jGV28 (M.1 4000)) (pm_nm (toE L jGT64) Mb) := okM_new hMb a1 (by omega)
  generalize pm_nm (toE L jGT64) Mb = Mc at hM2
  refine s_dup (by decide +kernel) rfl (pn 12 rfl ?_)
  obtain ⟨d, rfl⟩ : ∃ e, d = e + 1 := ⟨d - 1, by omega⟩
  refine s_calliV (ix := 12) (y := yM_init) (st := [.ref 159]) [] rfl (by decide +kernel) (by decide +kernel) (by decide +kernel) (Nat.le_of_ble_eq_true rfl) (umk_M hM2 (fun Md hMd => ?_))
  rw [mE]
  refine s_callsV (ix := 97) (y := yM_plain) (st := []) [.ref 160] rfl (by decide +kernel) (by decide +kernel) (by decide +kernel) (Nat.le_of_ble_eq_true rfl) (cV_use (sp_plain0 (by omega) (fun R hR => ?_)) (fun s1 M1 h => h))
  refine pn 246 rfl (s_return (st := []) (by decide +kernel) rfl ⟨rfl, pn 15 rfl ?_⟩)
  refine s_astore_n (i := 2) (by decide +kernel) (Nat.le_of_ble_eq_true rfl) (pn 16 rfl (t_store (ls' := [.ref 4000, .ref 0, .ref 159, .null]) rfl ?_))
  refine t_iconst (n := 0) (v := nI 0) (by decide +kernel) (by decide +kernel) (pn 17 rfl ?_)
  refine s_istore_n (i := 3) (by decide +kernel) (Nat.le_of_ble_eq_true rfl) (pn 18 rfl (t_store (ls' := [.ref 4000, .ref 0, .ref 159, .int (nI 0)]) rfl ?_))
  exact law_loop (by omega) hL L 0 _ _ (by omega) (by omega) (Inv_0 hMd hR)
