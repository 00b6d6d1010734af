/-! texts: calls among the JDK's methods -/
theorem z_cont {p : Program} {l : Launch} {e : Env} {R : Room} {s : State} {m : MethodId} {args : Array Value} {below : List Frame} {meth : Method} {c : Code} {H : Heap} {locs : List Loc} {Q : State → Prop} {g : pm_G} {E : pm_E} {M : pm_M} {r : Option Value} {cells slots pc : Nat} {ls : Array Slot} {st0 rest : List Value} {a : Array Value} (hr : va_Run p l e R s m args below meth c H locs cells slots 0 0 (F0 m pc ls st0) rest (qS g E M r a) (pm_A g)) (hS : va_S (pm_A g) s.heap H locs) (kk : ∀ (H1 : Heap) (locs1 : List Loc), pm_H g E M H1 → va_S (pm_A g) s.heap H1 locs1 → W p l e R s m args below meth c H1 locs1 cells slots Q (F0 m (pc + 3) ls (r.toList ++ rest))) : W p l e R s m args below meth c H locs cells slots Q (F0 m pc ls st0) := by
  intro T hT X
  obtain ⟨v, st₀, t, T', L, h0, X', hL, e1, e2, ⟨hv, hp, hz, hk⟩, st⟩ := hr T hT X
  cases hv
  rw [h0] at hz hk
  obtain ⟨t2, a1, b1⟩ := kk T'.heap (locs ++ L) (by rw [e1]; exact hp)
    ⟨Nat.le_trans hS.1 (by rw [e1]; exact hz), fun q h1 h2 => by rw [e1, hk q (Nat.lt_of_lt_of_le h1 hS.1) h2]; exact hS.2.1 q h1 h2, fun q hq => by
      rcases List.mem_append.mp hq with h | h
      · exact hS.2.2 q h
      · exact hL q h⟩ T' rfl X'
  exact ⟨t2, st t2 a1, b1⟩
theorem z_size {p : Program} {l : Launch} {e : Env} {R : Room} {s : State} {m : MethodId} {args : Array Value} {below : List Frame} {meth : Method} {c : Code} {H : Heap} {locs : List Loc} {Q : State → Prop} {g : pm_G} {E : pm_E} {M : pm_M} {slots : Nat} {f : JFrame} (hz : s.heap.size = g.2.1 + E.1) (hH : pm_H g E M H) (hS : va_S (pm_A g) s.heap H locs) (k : H.size = g.2.1 + E.1 → W p l e R s m args below meth c H locs 0 slots Q f) : W p l e R s m args below meth c H locs 0 slots Q f := by
  have h := pm_size (p := p) (l := l) (e := e) (R := R) (s := s) (m := m) (args := args) (below := below) (meth := meth) (c := c) (Q := Q) (E := E) (E0 := E) (slots := slots) (f := f) hz (Nat.le_refl _) hH hS (by rw [Nat.sub_self]; exact k)
  rw [Nat.sub_self] at h
  exact h
theorem z_good {y : MethodName} {cc : ByteArray} {n : Nat} {rt : Option FieldType} (h : Cond.code y cc n rt ∈ lw_good) : GoodIn lw_good (zW y cc n rt) := pm_good h rfl
theorem z_gv {own : String} {ix : Nat} {y : MethodName} {cc : ByteArray} {n : Nat} {rt : Option FieldType} (h0 : Cond.code y cc n rt ∈ lw_good) (h1 : Cond.methodLink own ix y ∈ lw_good) (h2 : Cond.instanceMethod y ∈ lw_good) (h3 : Cond.selects "java/lang/String" y y ∈ lw_good) (h4 : Cond.initialized "java/lang/String" ∈ lw_good) : GoodIn lw_good (wsV own ix "java/lang/String" y (zW y cc n rt)) := fun w hw => by
  rcases List.mem_append.mp hw with q | q
  · have hq : w ∈ lw_good := by
      simp only [List.mem_cons, List.not_mem_nil, or_false] at q
      rcases q with rfl | rfl | rfl | rfl
      · exact h1
      · exact h2
      · exact h3
      · exact h4
    exact ⟨hq, good_of_word (List.mem_filter.mp hq).2⟩
  · exact z_good h0 w q
theorem z_pre2 {g : pm_G} {E : pm_E} {M : pm_M} {s : State} {H : Heap} {locs : List Loc} {vs : List Value} (hX : pm_X g s) (hH : pm_H g E M H) (hS : va_S (pm_A g) s.heap H locs) (hsz : H.size = g.2.1 + E.1) : ∀ U : State, U.heap = H → s.WarmedH U.vm → pS g E M vs vs.toArray U :=
  fun U hU hW => ⟨rfl, pm_X_step hX hW (by rw [hU]; exact hS.1) (fun q z1 z2 => by rw [hU]; exact hS.2.1 q z1 z2), by rw [hU]; exact hH, by rw [hU]; exact hsz⟩
/-- String.checkIndex -/
theorem z_check {l : Launch} {g : pm_G} {E : pm_E} {M : pm_M} {i n : Int32} (h0 : ¬ i < 0) (hn : i < n) : Met l zyK (zW zyK prog_17_method_155_code 2 none) (zR 2) (pS g E M [.int i, .int n]) (qS g E M none) 0 0 (pm_A g) := by
  refine pm_ofW (cc := prog_17_method_155_code) (maxL := 2) (ret := none) (by decide +kernel) rfl ?_
  intro p e s m args below meth c s₁ B hml hP
  obtain ⟨rfl, hX, hH, hz⟩ := hP
  have hts : ∀ w ∈ lw_good, w.before ([Value.int i, .int n] : List Value).toArray s = true := fun w hw => atoms_spec B.pre w (List.mem_cons_of_mem _ hw)
  have hown : s.vm.findClass "java/lang/String" = some m.cls := findClass_of_methodNamed B.named
  have hx := B.exec
  have hb := B.bytes
  have hS : va_S (pm_A g) s.heap s.heap [] := va_S.rf
  have hl := lv_entry ([.int i, .int n]) (n := 2) (Nat.le_of_ble_eq_true rfl)
  rw [lg_entry_eq]
  generalize (lg_sl ([.int i, .int n]) ++ List.replicate (2 - (lg_sl ([.int i, .int n])).length) Slot.unset).toArray = ls at hl ⊢
  have hl : lv_has ls 2 [(0, .int i), (1, .int n)] := hl
  refine lv_iload_n hx hb zd_K0 rfl (lv_at hl 0 rfl) ?_
  refine lv_iload_n hx hb zd_K1 rfl (lv_at hl 1 rfl) ?_
  have go : ∀ v : Value, v.category = 1 → va_Z "jdk/internal/util/Preconditions" "SIOOBE_FORMATTER" "Ljava/util/function/BiFunction;" v (pm_A g) s s.heap → W p l e (headSpec (zW zyK prog_17_method_155_code 2 none) (zR 2)).room s m ([Value.int i, .int n] : List Value).toArray below meth c s.heap [] 0 0 (MQ below (qS g E M none) ([Value.int i, .int n] : List Value).toArray s 0 0 (pm_A g)) (F0 m 2 ls [.int n, .int i]) := by
    intro v hv hZ
    refine va_gets hx hb hZ hS hown (hts _ zw_fo) (fun _ h => h) zd_K2 ?_
    refine z_cont (r := some (.int i)) (rest := []) (a := ([Value.int i, .int n, v] : List Value).toArray) (E := E) (M := M) ?_ hS (fun H1 locs1 hH1 hS1 => ?_)
    · exact va_runS (As := [.int i, .int n, v]) (rest := []) ⟨hx, hb, hml, hown, hts⟩ (z_pre (l := l) h0 hn hv) ⟨callB_of 3 hts (z_good zc_P) rfl rfl rfl (hts _ zw_iP) (hts _ zw_1059) (by decide +kernel) ⟨by decide, by decide⟩, hts _ zw_Ps⟩ ⟨pS_blind, z_pre2 hX hH hS hz⟩ rfl rfl hl.1 rfl (lv_room (Nat.le_of_ble_eq_true rfl)) zd_K5 ⟨by decide, by decide⟩
    · refine lv_pop hx hb zd_K8 rfl ?_
      exact W.vret hx hb B.returns (fun t ht _ => ⟨rfl, by rw [ht]; exact hH1, hS1.F ht⟩) (fun q hq => hS1.2.2 q hq) zd_K9 B.notSynchronized
  rcases hX.2.2.2.2.2.2.1 with hZ | ⟨t, hZ⟩
  · exact go .null rfl hZ
  · exact go (.ref t) rfl hZ
theorem z_tab : ∀ j, j < 3 → (pm_st.map List.length).getD j 0 = pm_sl j ∧ pm_sl j < 1000 ∧ ∀ k, k < pm_sl j → ((((pm_sby.getD j []).getD k 0) &&& 255).toUInt32 % 65536).toInt32 = pm_sc j k ∧ narrow .char (.int (pm_sc j k)) = .int (pm_sc j k) := by decide +kernel
/-- StringLatin1.charAt -/
theorem z_latin {l : Launch} {g : pm_G} {E : pm_E} {M : pm_M} {j : Nat} {i : Int32} (hj : j < 3) (hi : vp_in i (pm_sl j)) : Met l zyA (zW zyA prog_18_method_2_code 2 (some .char)) (zR 3) (pS g E M [.ref (g.2.2.2.2.2.2 j), .int i]) (qS g E M (some (.int (pm_sc j i.toNatClampNeg)))) 0 0 (pm_A g) := by
  refine pm_ofW (cc := prog_18_method_2_code) (maxL := 2) (ret := some .char) (by decide +kernel) rfl ?_
  intro p e s m args below meth c s₁ B hml hP
  obtain ⟨rfl, hX, hH, hz⟩ := hP
  have hts : ∀ w ∈ lw_good, w.before ([Value.ref (g.2.2.2.2.2.2 j), .int i] : List Value).toArray s = true := fun w hw => atoms_spec B.pre w (List.mem_cons_of_mem _ hw)
  have hown : s.vm.findClass "java/lang/StringLatin1" = some m.cls := findClass_of_methodNamed B.named
  have hx := B.exec
  have hb := B.bytes
  have hS : va_S (pm_A g) s.heap s.heap [] := va_S.rf
  obtain ⟨t1, t2, t3⟩ := z_tab j hj
  have hT := ((zS hX).1 j hj).2.2.2
  rw [t1] at hT
  have i0 : ¬ i < 0 := fun q => hi (Or.inl q)
  have ik : i.toNatClampNeg < pm_sl j := Nat.not_le.mp fun q => hi (Or.inr q)
  obtain ⟨t4, t5⟩ := t3 _ ik
  have iL : i < Int32.ofNat (pm_sl j) := by
    obtain ⟨k, _, rfl⟩ := nI_of i0
    rw [nI_clamp (by omega)] at ik
    show nI k < nI (pm_sl j)
    rw [nI_ltP (by omega) (by omega)]; exact ik
  have hl := lv_entry ([.ref (g.2.2.2.2.2.2 j), .int i]) (n := 2) (Nat.le_of_ble_eq_true rfl)
  rw [lg_entry_eq]
  generalize (lg_sl ([.ref (g.2.2.2.2.2.2 j), .int i]) ++ List.replicate (2 - (lg_sl ([.ref (g.2.2.2.2.2.2 j), .int i])).length) Slot.unset).toArray = ls at hl ⊢
  have hl : lv_has ls 2 [(0, .ref (g.2.2.2.2.2.2 j)), (1, .int i)] := hl
  refine lv_iload_n hx hb zd_A0 rfl (lv_at hl 1 rfl) ?_
  refine lv_aload_n hx hb zd_A1 rfl (lv_at hl 0 rfl) ?_
  refine va_tlen hx hb hT hS rfl zd_A2 ?_
  refine z_cont (r := none) (rest := []) (a := ([Value.int i, .int (Int32.ofNat (pm_sl j))] : List Value).toArray) (E := E) (M := M) ?_ hS (fun H1 locs1 hH1 hS1 => ?_)
  · exact va_runS (As := [.int i, .int (Int32.ofNat (pm_sl j))]) (rest := []) ⟨hx, hb, hml, hown, hts⟩ (z_check (l := l) i0 iL) ⟨callB_of 2 hts (z_good zc_K) rfl rfl rfl (hts _ zw_iS) (hts _ zw_9) (by decide +kernel) ⟨by decide, by decide⟩, hts _ zw_Ks⟩ ⟨pS_blind, z_pre2 hX hH hS hz⟩ rfl rfl hl.1 rfl (lv_room (Nat.le_of_ble_eq_true rfl)) zd_A3 ⟨by decide, by decide⟩
  · refine lv_aload_n hx hb zd_A6 rfl (lv_at hl 0 rfl) ?_
    refine lv_iload_n hx hb zd_A7 rfl (lv_at hl 1 rfl) ?_
    refine va_tb hx hb hT hS1 hi rfl zd_A8 ?_
    refine lv_sipush (v := 255) hx hb zd_A9 (by decide) ?_
    refine lv_iand hx hb zd_A12 ?_
    refine lv_i2c (v := pm_sc j i.toNatClampNeg) hx hb zd_A13 t4 ?_
    exact W.zret hx hb B.returns t5 (fun t ht _ => ⟨rfl, by rw [ht]; exact hH1, hS1.F ht⟩) (fun q hq => hS1.2.2 q hq) zd_A14 B.notSynchronized
theorem z_rv {g : pm_G} {j : Nat} : pm_ad g (4001 + j) = g.2.2.1 (4001 + j) := by unfold pm_ad; rw [if_neg (by omega)]
/-- length(), charAt() -/
theorem pm_strings {l : Launch} {g : pm_G} : pm_mS l g := by
  refine ⟨fun j E M hj => ?_, fun j i E M hj hi => ?_⟩
  · refine pm_ofW (cc := prog_17_method_54_code) (maxL := 1) (ret := some .int) (by decide +kernel) rfl ?_
    intro p e s m args below meth c s₁ B hml hP
    obtain ⟨hv, hX, hH, hz⟩ := hP
    have hv : args = ([Value.ref (g.2.2.1 (4001 + j))] : List Value).toArray := by rw [hv]; show [Value.ref (pm_ad g (4001 + j))].toArray = _; rw [z_rv]
    subst hv
    have hts : ∀ w ∈ lw_good, w.before ([Value.ref (g.2.2.1 (4001 + j))] : List Value).toArray s = true := fun w hw => atoms_spec B.pre w (List.mem_cons_of_mem _ hw)
    have hown : s.vm.findClass "java/lang/String" = some m.cls := findClass_of_methodNamed B.named
    have hx := B.exec
    have hb := B.bytes
    have hS : va_S (pm_A g) s.heap s.heap [] := va_S.rf
    have hrec : ∃ cellB : Cell, s.heap[g.2.2.1 (4001 + j)]? = some cellB ∧ cellB.vm.isStatics = false ∧ s.vm.findClass "java/lang/String" = some cellB.cls := by
      have h := vk_recv (zS hX) hj hS
      exact h
    obtain ⟨t1, t2, t3⟩ := z_tab j hj
    have hT := ((zS hX).1 j hj).2.2.2
    rw [t1] at hT
    have hl := lv_entry ([.ref (g.2.2.1 (4001 + j))]) (n := 1) (Nat.le_of_ble_eq_true rfl)
    rw [lg_entry_eq]
    generalize (lg_sl ([.ref (g.2.2.1 (4001 + j))]) ++ List.replicate (1 - (lg_sl ([.ref (g.2.2.1 (4001 + j))])).length) Slot.unset).toArray = ls at hl ⊢
    have hl : lv_has ls 1 [(0, .ref (g.2.2.1 (4001 + j)))] := hl
    refine lv_aload_n hx hb zd_L0 rfl (lv_at hl 0 rfl) ?_
    refine vk_getf hx hb ((zS hX).1 j hj).2.2.1 hS hown (hts _ zw_va) (fun _ h => h) zd_L1 ?_
    refine va_tlen hx hb hT hS rfl zd_L4 ?_
    refine lv_aload_n hx hb zd_L5 rfl (lv_at hl 0 rfl) ?_
    refine z_cont (r := some (.int 0)) (rest := [.int (Int32.ofNat (pm_sl j))]) (a := ([Value.ref (g.2.2.1 (4001 + j))] : List Value).toArray) (E := E) (M := M) ?_ hS (fun H1 locs1 hH1 hS1 => ?_)
    · exact va_runV (As := []) (rest := [.int (Int32.ofNat (pm_sl j))]) (C := "java/lang/String") ⟨hx, hb, hml, hown, hts⟩ (z_coder (l := l) hj) (cwV 0 hts (z_gv zc_C zw_335 zw_C1 zw_C2 zw_iS) rfl rfl rfl (by decide +kernel) ⟨by decide, by decide⟩) ⟨pS_blind, hrec, z_pre2 hX hH hS hz⟩ rfl rfl hl.1 rfl (lv_room (Nat.le_of_ble_eq_true rfl)) zd_L6 ⟨by decide, by decide⟩
    · refine lv_ishr hx hb zd_L9 ?_
      have e0 : (Int32.ofNat (pm_sl j)) >>> ((0 : Int32) &&& 31) = Int32.ofNat (pm_sl j) := by
        have : ∀ x : Int32, x >>> ((0 : Int32) &&& 31) = x := fun x => by
          have e : ((0 : Int32) &&& 31) = 0 := by decide
          rw [e]
          exact Int32.shiftRight_zero
        exact this _
      rw [e0]
      exact W.iret hx hb B.returns (fun t ht _ => ⟨rfl, by rw [ht]; exact hH1, hS1.F ht⟩) (fun q hq => hS1.2.2 q hq) zd_L10 B.notSynchronized
  · refine pm_ofW (cc := prog_17_method_56_code) (maxL := 2) (ret := some .char) (by decide +kernel) rfl ?_
    intro p e s m args below meth c s₁ B hml hP
    obtain ⟨hv, hX, hH, hz⟩ := hP
    have hv : args = ([Value.ref (g.2.2.1 (4001 + j)), .int i] : List Value).toArray := by rw [hv]; show [Value.ref (pm_ad g (4001 + j)), .int i].toArray = _; rw [z_rv]
    subst hv
    have hts : ∀ w ∈ lw_good, w.before ([Value.ref (g.2.2.1 (4001 + j)), .int i] : List Value).toArray s = true := fun w hw => atoms_spec B.pre w (List.mem_cons_of_mem _ hw)
    have hown : s.vm.findClass "java/lang/String" = some m.cls := findClass_of_methodNamed B.named
    have hx := B.exec
    have hb := B.bytes
    have hS : va_S (pm_A g) s.heap s.heap [] := va_S.rf
    have hrec : ∃ cellB : Cell, s.heap[g.2.2.1 (4001 + j)]? = some cellB ∧ cellB.vm.isStatics = false ∧ s.vm.findClass "java/lang/String" = some cellB.cls := by
      have h := vk_recv (zS hX) hj hS
      exact h
    obtain ⟨t1, t2, t3⟩ := z_tab j hj
    have ik : i.toNatClampNeg < pm_sl j := Nat.not_le.mp fun q => hi (Or.inr q)
    obtain ⟨t4, t5⟩ := t3 _ ik
    have hl := lv_entry ([.ref (g.2.2.1 (4001 + j)), .int i]) (n := 2) (Nat.le_of_ble_eq_true rfl)
    rw [lg_entry_eq]
    generalize (lg_sl ([.ref (g.2.2.1 (4001 + j)), .int i]) ++ List.replicate (2 - (lg_sl ([.ref (g.2.2.1 (4001 + j)), .int i])).length) Slot.unset).toArray = ls at hl ⊢
    have hl : lv_has ls 2 [(0, .ref (g.2.2.1 (4001 + j))), (1, .int i)] := hl
    refine lv_aload_n hx hb zd_H0 rfl (lv_at hl 0 rfl) ?_
    refine z_cont (r := some (.int 1)) (rest := []) (a := ([Value.ref (g.2.2.1 (4001 + j))] : List Value).toArray) (E := E) (M := M) ?_ hS (fun H1 locs1 hH1 hS1 => ?_)
    · exact va_runV (As := []) (rest := []) (C := "java/lang/String") ⟨hx, hb, hml, hown, hts⟩ (z_isLatin1 (l := l) hj) (cwV 0 hts (z_gv zc_I zw_492 zw_I1 zw_I2 zw_iS) rfl rfl rfl (by decide +kernel) ⟨by decide, by decide⟩) ⟨pS_blind, hrec, z_pre2 hX hH hS hz⟩ rfl rfl hl.1 rfl (lv_room (Nat.le_of_ble_eq_true rfl)) zd_H1 ⟨by decide, by decide⟩
    · refine lv_if_eq (tgt := 16) hx hb zd_H4 (by decide) (fun c => absurd c (by decide)) (fun _ => ?_)
      refine lv_aload_n hx hb zd_H7 rfl (lv_at hl 0 rfl) ?_
      refine vk_getf hx hb ((zS hX).1 j hj).2.2.1 hS1 hown (hts _ zw_va) (fun _ h => h) zd_H8 ?_
      refine lv_iload_n hx hb zd_H11 rfl (lv_at hl 1 rfl) ?_
      refine z_size hz hH1 hS1 (fun hsz => ?_)
      refine z_cont (r := some (.int (pm_sc j i.toNatClampNeg))) (rest := []) (a := ([Value.ref (g.2.2.2.2.2.2 j), .int i] : List Value).toArray) (E := E) (M := M) ?_ hS1 (fun H2 locs2 hH2 hS2 => ?_)
      · exact va_runS (As := [.ref (g.2.2.2.2.2.2 j), .int i]) (rest := []) ⟨hx, hb, hml, hown, hts⟩ (z_latin (l := l) hj hi) ⟨callB_of 2 hts (z_good zc_A) rfl rfl rfl (hts _ zw_iL) (hts _ zw_495) (by decide +kernel) ⟨by decide, by decide⟩, hts _ zw_As⟩ ⟨pS_blind, z_pre2 hX hH1 hS1 hsz⟩ rfl rfl hl.1 rfl (lv_room (Nat.le_of_ble_eq_true rfl)) zd_H12 ⟨by decide, by decide⟩
      · exact W.zret hx hb B.returns t5 (fun t ht _ => ⟨rfl, by rw [ht]; exact hH2, hS2.F ht⟩) (fun q hq => hS2.2.2 q hq) zd_H15 B.notSynchronized
