/-! texts: the JDK's own methods -/
def pS (g : pm_G) (E : pm_E) (M : pm_M) (vs : List Value) : Array Value → State → Prop := fun v U => v = vs.toArray ∧ pm_X g U ∧ pm_H g E M U.heap ∧ U.heap.size = g.2.1 + E.1
def qS (g : pm_G) (E : pm_E) (M : pm_M) (r : Option Value) : Array Value → State → Outcome → State → Prop := fun _ st oc t => oc = .returned r ∧ pm_H g E M t.heap ∧ va_F (pm_A g) st t
theorem pS_blind {g : pm_G} {E : pm_E} {M : pm_M} {vs : List Value} : FrameBlind (pS g E M vs) := by
  intro a U g0 mk h
  obtain ⟨h1, h2, h3⟩ := h
  exact ⟨h1, pm_X_same (t := U.calling g0 mk a) h2 rfl rfl, h3⟩
def zyC : MethodName := ⟨"java/lang/String", "coder", "()B"⟩
def zyI : MethodName := ⟨"java/lang/String", "isLatin1", "()Z"⟩
def zyK : MethodName := ⟨"java/lang/String", "checkIndex", "(II)V"⟩
def zyP : MethodName := ⟨"jdk/internal/util/Preconditions", "checkIndex", "(IILjava/util/function/BiFunction;)I"⟩
def zyA : MethodName := ⟨"java/lang/StringLatin1", "charAt", "([BI)C"⟩
theorem zc_C : Cond.code zyC prog_17_method_152_code 1 (some .byte) ∈ lw_good := pm_cw (j := 3) (i := 15) rfl rfl
theorem zc_I : Cond.code zyI prog_17_method_154_code 1 (some .boolean) ∈ lw_good := pm_cw (j := 3) (i := 25) rfl rfl
theorem zc_A : Cond.code zyA prog_18_method_2_code 2 (some .char) ∈ lw_good := pm_cw (j := 3) (i := 28) rfl rfl
theorem zc_K : Cond.code zyK prog_17_method_155_code 2 none ∈ lw_good := pm_cw (j := 3) (i := 31) rfl rfl
theorem zc_P : Cond.code zyP prog_22_method_11_code 3 (some .int) ∈ lw_good := pm_cw (j := 3) (i := 36) rfl rfl
theorem zw_cs : Cond.fieldLink "java/lang/String" 38 "java/lang/String" "COMPACT_STRINGS" "Z" ∈ lw_good := pm_cw (j := 3) (i := 16) rfl rfl
theorem zw_va : Cond.fieldLink "java/lang/String" 9 "java/lang/String" "value" "[B" ∈ lw_good := pm_cw (j := 9) (i := 62) rfl rfl
theorem zw_co : Cond.fieldLink "java/lang/String" 15 "java/lang/String" "coder" "B" ∈ lw_good := pm_cw (j := 9) (i := 63) rfl rfl
theorem zw_fo : Cond.fieldLink "java/lang/String" 1053 "jdk/internal/util/Preconditions" "SIOOBE_FORMATTER" "Ljava/util/function/BiFunction;" ∈ lw_good := pm_cw (j := 3) (i := 32) rfl rfl
theorem zw_iS : Cond.initialized "java/lang/String" ∈ lw_good := pm_cw (j := 1) (i := 15) rfl rfl
theorem zw_iL : Cond.initialized "java/lang/StringLatin1" ∈ lw_good := pm_cw (j := 1) (i := 16) rfl rfl
theorem zw_iP : Cond.initialized "jdk/internal/util/Preconditions" ∈ lw_good := pm_cw (j := 1) (i := 17) rfl rfl
theorem zw_335 : Cond.methodLink "java/lang/String" 335 zyC ∈ lw_good := pm_cw (j := 3) (i := 12) rfl rfl
theorem zw_C1 : Cond.instanceMethod zyC ∈ lw_good := pm_cw (j := 3) (i := 13) rfl rfl
theorem zw_C2 : Cond.selects "java/lang/String" zyC zyC ∈ lw_good := pm_cw (j := 3) (i := 14) rfl rfl
theorem zw_492 : Cond.methodLink "java/lang/String" 492 zyI ∈ lw_good := pm_cw (j := 3) (i := 22) rfl rfl
theorem zw_I1 : Cond.instanceMethod zyI ∈ lw_good := pm_cw (j := 3) (i := 23) rfl rfl
theorem zw_I2 : Cond.selects "java/lang/String" zyI zyI ∈ lw_good := pm_cw (j := 3) (i := 24) rfl rfl
theorem zw_495 : Cond.methodLink "java/lang/String" 495 zyA ∈ lw_good := pm_cw (j := 3) (i := 26) rfl rfl
theorem zw_As : Cond.static zyA ∈ lw_good := pm_cw (j := 3) (i := 27) rfl rfl
theorem zw_9 : Cond.methodLink "java/lang/StringLatin1" 9 zyK ∈ lw_good := pm_cw (j := 3) (i := 29) rfl rfl
theorem zw_Ks : Cond.static zyK ∈ lw_good := pm_cw (j := 3) (i := 30) rfl rfl
theorem zw_1059 : Cond.methodLink "java/lang/String" 1059 zyP ∈ lw_good := pm_cw (j := 3) (i := 34) rfl rfl
theorem zw_Ps : Cond.static zyP ∈ lw_good := pm_cw (j := 3) (i := 35) rfl rfl
abbrev zW (y : MethodName) (cc : ByteArray) (n : Nat) (rt : Option FieldType) : List Cond := .code y cc n rt :: lw_good
abbrev zR (f : Nat) : Room := { frames := f, cells := 0, slots := 0, locals := 60 * f }
theorem zS {g : pm_G} {s : State} (hX : pm_X g s) : vk_S 3 (pm_st.map List.length) pm_sby (fun j => g.2.2.1 (4001 + j)) g.2.2.2.2.2.2 (pm_A g) s s.heap := hX.2.2.2.2.1
theorem zd_C0 : decode prog_17_method_152_code 0 = .ok (.getstatic 38, 3) := by decide +kernel
theorem zd_C3 : decode prog_17_method_152_code 3 = .ok (.ifCond .eq 10, 3) := by decide +kernel
theorem zd_C6 : decode prog_17_method_152_code 6 = .ok (.aload_n 0, 1) := by decide +kernel
theorem zd_C7 : decode prog_17_method_152_code 7 = .ok (.getfield 15, 3) := by decide +kernel
theorem zd_C10 : decode prog_17_method_152_code 10 = .ok (.goto 4, 3) := by decide +kernel
theorem zd_C13 : decode prog_17_method_152_code 13 = .ok (.iconst 1, 1) := by decide +kernel
theorem zd_C14 : decode prog_17_method_152_code 14 = .ok (.ireturn, 1) := by decide +kernel
theorem zd_I0 : decode prog_17_method_154_code 0 = .ok (.getstatic 38, 3) := by decide +kernel
theorem zd_I3 : decode prog_17_method_154_code 3 = .ok (.ifCond .eq 14, 3) := by decide +kernel
theorem zd_I6 : decode prog_17_method_154_code 6 = .ok (.aload_n 0, 1) := by decide +kernel
theorem zd_I7 : decode prog_17_method_154_code 7 = .ok (.getfield 15, 3) := by decide +kernel
theorem zd_I10 : decode prog_17_method_154_code 10 = .ok (.ifCond .ne 7, 3) := by decide +kernel
theorem zd_I13 : decode prog_17_method_154_code 13 = .ok (.iconst 1, 1) := by decide +kernel
theorem zd_I14 : decode prog_17_method_154_code 14 = .ok (.goto 4, 3) := by decide +kernel
theorem zd_I17 : decode prog_17_method_154_code 17 = .ok (.iconst 0, 1) := by decide +kernel
theorem zd_I18 : decode prog_17_method_154_code 18 = .ok (.ireturn, 1) := by decide +kernel
theorem zd_K0 : decode prog_17_method_155_code 0 = .ok (.iload_n 0, 1) := by decide +kernel
theorem zd_K1 : decode prog_17_method_155_code 1 = .ok (.iload_n 1, 1) := by decide +kernel
theorem zd_K2 : decode prog_17_method_155_code 2 = .ok (.getstatic 1053, 3) := by decide +kernel
theorem zd_K5 : decode prog_17_method_155_code 5 = .ok (.invokestatic 1059, 3) := by decide +kernel
theorem zd_K8 : decode prog_17_method_155_code 8 = .ok (.pop, 1) := by decide +kernel
theorem zd_K9 : decode prog_17_method_155_code 9 = .ok (.return_, 1) := by decide +kernel
theorem zd_P0 : decode prog_22_method_11_code 0 = .ok (.iload_n 0, 1) := by decide +kernel
theorem zd_P1 : decode prog_22_method_11_code 1 = .ok (.ifCond .lt 8, 3) := by decide +kernel
theorem zd_P4 : decode prog_22_method_11_code 4 = .ok (.iload_n 0, 1) := by decide +kernel
theorem zd_P5 : decode prog_22_method_11_code 5 = .ok (.iload_n 1, 1) := by decide +kernel
theorem zd_P6 : decode prog_22_method_11_code 6 = .ok (.if_icmp .lt 10, 3) := by decide +kernel
theorem zd_P9 : decode prog_22_method_11_code 9 = .ok (.aload_n 2, 1) := by decide +kernel
theorem zd_P10 : decode prog_22_method_11_code 10 = .ok (.iload_n 0, 1) := by decide +kernel
theorem zd_P11 : decode prog_22_method_11_code 11 = .ok (.iload_n 1, 1) := by decide +kernel
theorem zd_P12 : decode prog_22_method_11_code 12 = .ok (.invokestatic 95, 3) := by decide +kernel
theorem zd_P16 : decode prog_22_method_11_code 16 = .ok (.iload_n 0, 1) := by decide +kernel
theorem zd_P17 : decode prog_22_method_11_code 17 = .ok (.ireturn, 1) := by decide +kernel
theorem zd_A0 : decode prog_18_method_2_code 0 = .ok (.iload_n 1, 1) := by decide +kernel
theorem zd_A1 : decode prog_18_method_2_code 1 = .ok (.aload_n 0, 1) := by decide +kernel
theorem zd_A2 : decode prog_18_method_2_code 2 = .ok (.arraylength, 1) := by decide +kernel
theorem zd_A3 : decode prog_18_method_2_code 3 = .ok (.invokestatic 9, 3) := by decide +kernel
theorem zd_A6 : decode prog_18_method_2_code 6 = .ok (.aload_n 0, 1) := by decide +kernel
theorem zd_A7 : decode prog_18_method_2_code 7 = .ok (.iload_n 1, 1) := by decide +kernel
theorem zd_A8 : decode prog_18_method_2_code 8 = .ok (.baload, 1) := by decide +kernel
theorem zd_A9 : decode prog_18_method_2_code 9 = .ok (.sipush 255, 3) := by decide +kernel
theorem zd_A12 : decode prog_18_method_2_code 12 = .ok (.iand, 1) := by decide +kernel
theorem zd_A13 : decode prog_18_method_2_code 13 = .ok (.i2c, 1) := by decide +kernel
theorem zd_A14 : decode prog_18_method_2_code 14 = .ok (.ireturn, 1) := by decide +kernel
theorem zd_L0 : decode prog_17_method_54_code 0 = .ok (.aload_n 0, 1) := by decide +kernel
theorem zd_L1 : decode prog_17_method_54_code 1 = .ok (.getfield 9, 3) := by decide +kernel
theorem zd_L4 : decode prog_17_method_54_code 4 = .ok (.arraylength, 1) := by decide +kernel
theorem zd_L5 : decode prog_17_method_54_code 5 = .ok (.aload_n 0, 1) := by decide +kernel
theorem zd_L6 : decode prog_17_method_54_code 6 = .ok (.invokevirtual 335, 3) := by decide +kernel
theorem zd_L9 : decode prog_17_method_54_code 9 = .ok (.ishr, 1) := by decide +kernel
theorem zd_L10 : decode prog_17_method_54_code 10 = .ok (.ireturn, 1) := by decide +kernel
theorem zd_H0 : decode prog_17_method_56_code 0 = .ok (.aload_n 0, 1) := by decide +kernel
theorem zd_H1 : decode prog_17_method_56_code 1 = .ok (.invokevirtual 492, 3) := by decide +kernel
theorem zd_H4 : decode prog_17_method_56_code 4 = .ok (.ifCond .eq 12, 3) := by decide +kernel
theorem zd_H7 : decode prog_17_method_56_code 7 = .ok (.aload_n 0, 1) := by decide +kernel
theorem zd_H8 : decode prog_17_method_56_code 8 = .ok (.getfield 9, 3) := by decide +kernel
theorem zd_H11 : decode prog_17_method_56_code 11 = .ok (.iload_n 1, 1) := by decide +kernel
theorem zd_H12 : decode prog_17_method_56_code 12 = .ok (.invokestatic 495, 3) := by decide +kernel
theorem zd_H15 : decode prog_17_method_56_code 15 = .ok (.ireturn, 1) := by decide +kernel
theorem zd_H16 : decode prog_17_method_56_code 16 = .ok (.aload_n 0, 1) := by decide +kernel
theorem zd_H17 : decode prog_17_method_56_code 17 = .ok (.getfield 9, 3) := by decide +kernel
theorem zd_H20 : decode prog_17_method_56_code 20 = .ok (.iload_n 1, 1) := by decide +kernel
theorem zd_H21 : decode prog_17_method_56_code 21 = .ok (.invokestatic 498, 3) := by decide +kernel
theorem zd_H24 : decode prog_17_method_56_code 24 = .ok (.ireturn, 1) := by decide +kernel
/-- coder() -/
theorem z_coder {l : Launch} {g : pm_G} {E : pm_E} {M : pm_M} {j : Nat} (hj : j < 3) : Met l zyC (zW zyC prog_17_method_152_code 1 (some .byte)) (zR 1) (pS g E M [.ref (g.2.2.1 (4001 + j))]) (qS g E M (some (.int 0))) 0 0 (pm_A g) := by
  refine pm_ofW (cc := prog_17_method_152_code) (maxL := 1) (ret := some .byte) (by decide +kernel) rfl ?_
  intro p e s m args below meth c s₁ B hml hP
  obtain ⟨rfl, hX, hH, hz⟩ := hP
  have hts : ∀ w ∈ lw_good, w.before ([Value.ref (g.2.2.1 (4001 + j))] : List Value).toArray s = true := fun w hw => atoms_spec B.pre w (List.mem_cons_of_mem _ hw)
  have hown : s.vm.findClass "java/lang/String" = some m.cls := findClass_of_methodNamed B.named
  have hx := B.exec
  have hb := B.bytes
  have hS : va_S (pm_A g) s.heap s.heap [] := va_S.rf
  have hl := lv_entry ([.ref (g.2.2.1 (4001 + j))]) (n := 1) (Nat.le_of_ble_eq_true rfl)
  rw [lg_entry_eq]
  generalize (lg_sl ([.ref (g.2.2.1 (4001 + j))]) ++ List.replicate (1 - (lg_sl ([.ref (g.2.2.1 (4001 + j))])).length) Slot.unset).toArray = ls at hl ⊢
  have hl : lv_has ls 1 [(0, .ref (g.2.2.1 (4001 + j)))] := hl
  refine va_gets hx hb hX.2.2.2.2.2.1 hS hown (hts _ zw_cs) (fun _ h => h) zd_C0 ?_
  refine lv_if_eq (tgt := 13) hx hb zd_C3 (by decide) (fun c => absurd c (by decide)) (fun _ => ?_)
  refine lv_aload_n hx hb zd_C6 rfl (lv_at hl 0 rfl) ?_
  refine vk_getf hx hb ((zS hX).1 j hj).2.1 hS hown (hts _ zw_co) (fun _ h => h) zd_C7 ?_
  refine lv_goto (tgt := 14) hx hb zd_C10 (by decide) ?_
  exact W.zret hx hb B.returns (by decide +kernel) (fun t ht _ => ⟨rfl, by rw [ht]; exact hH, hS.F ht⟩) (fun q hq => hS.2.2 q hq) zd_C14 B.notSynchronized
/-- isLatin1() -/
theorem z_isLatin1 {l : Launch} {g : pm_G} {E : pm_E} {M : pm_M} {j : Nat} (hj : j < 3) : Met l zyI (zW zyI prog_17_method_154_code 1 (some .boolean)) (zR 1) (pS g E M [.ref (g.2.2.1 (4001 + j))]) (qS g E M (some (.int 1))) 0 0 (pm_A g) := by
  refine pm_ofW (cc := prog_17_method_154_code) (maxL := 1) (ret := some .boolean) (by decide +kernel) rfl ?_
  intro p e s m args below meth c s₁ B hml hP
  obtain ⟨rfl, hX, hH, hz⟩ := hP
  have hts : ∀ w ∈ lw_good, w.before ([Value.ref (g.2.2.1 (4001 + j))] : List Value).toArray s = true := fun w hw => atoms_spec B.pre w (List.mem_cons_of_mem _ hw)
  have hown : s.vm.findClass "java/lang/String" = some m.cls := findClass_of_methodNamed B.named
  have hx := B.exec
  have hb := B.bytes
  have hS : va_S (pm_A g) s.heap s.heap [] := va_S.rf
  have hl := lv_entry ([.ref (g.2.2.1 (4001 + j))]) (n := 1) (Nat.le_of_ble_eq_true rfl)
  rw [lg_entry_eq]
  generalize (lg_sl ([.ref (g.2.2.1 (4001 + j))]) ++ List.replicate (1 - (lg_sl ([.ref (g.2.2.1 (4001 + j))])).length) Slot.unset).toArray = ls at hl ⊢
  have hl : lv_has ls 1 [(0, .ref (g.2.2.1 (4001 + j)))] := hl
  refine va_gets hx hb hX.2.2.2.2.2.1 hS hown (hts _ zw_cs) (fun _ h => h) zd_I0 ?_
  refine lv_if_eq (tgt := 17) hx hb zd_I3 (by decide) (fun c => absurd c (by decide)) (fun _ => ?_)
  refine lv_aload_n hx hb zd_I6 rfl (lv_at hl 0 rfl) ?_
  refine vk_getf hx hb ((zS hX).1 j hj).2.1 hS hown (hts _ zw_co) (fun _ h => h) zd_I7 ?_
  refine lv_if_ne (tgt := 17) hx hb zd_I10 (by decide) (fun c => absurd rfl c) (fun _ => ?_)
  refine lv_iconst (v := 1) hx hb zd_I13 (by decide) ?_
  refine lv_goto (tgt := 18) hx hb zd_I14 (by decide) ?_
  exact W.zret hx hb B.returns (by decide +kernel) (fun t ht _ => ⟨rfl, by rw [ht]; exact hH, hS.F ht⟩) (fun q hq => hS.2.2 q hq) zd_I18 B.notSynchronized
/-- Preconditions.checkIndex -/
theorem z_pre {l : Launch} {g : pm_G} {E : pm_E} {M : pm_M} {i n : Int32} {v : Value} (h0 : ¬ i < 0) (hn : i < n) (hv : v.category = 1) : Met l zyP (zW zyP prog_22_method_11_code 3 (some .int)) (zR 1) (pS g E M [.int i, .int n, v]) (qS g E M (some (.int i))) 0 0 (pm_A g) := by
  refine pm_ofW (cc := prog_22_method_11_code) (maxL := 3) (ret := some .int) (by decide +kernel) rfl ?_
  intro p e s m args below meth c s₁ B hml hP
  obtain ⟨rfl, hX, hH, hz⟩ := hP
  have hx := B.exec
  have hb := B.bytes
  have hS : va_S (pm_A g) s.heap s.heap [] := va_S.rf
  have hlen : (lg_sl [Value.int i, Value.int n, v]).length ≤ 3 := by
    cases v <;> first | exact Nat.le_of_ble_eq_true rfl | cases hv
  have hl := lv_entry ([.int i, .int n, v]) (n := 3) hlen
  rw [lg_entry_eq]
  generalize (lg_sl ([.int i, .int n, v]) ++ List.replicate (3 - (lg_sl ([.int i, .int n, v])).length) Slot.unset).toArray = ls at hl ⊢
  have hl : lv_has ls 3 [(0, .int i), (1, .int n), (2, v)] := hl
  refine lv_iload_n hx hb zd_P0 rfl (lv_at hl 0 rfl) ?_
  refine lv_if_lt (tgt := 9) hx hb zd_P1 (by decide) (fun c => absurd c h0) (fun _ => ?_)
  refine lv_iload_n hx hb zd_P4 rfl (lv_at hl 0 rfl) ?_
  refine lv_iload_n hx hb zd_P5 rfl (lv_at hl 1 rfl) ?_
  refine lv_icmp_lt (tgt := 16) hx hb zd_P6 (by decide) (fun _ => ?_) (fun c => absurd hn c)
  refine lv_iload_n hx hb zd_P16 rfl (lv_at hl 0 rfl) ?_
  exact W.iret hx hb B.returns (fun t ht _ => ⟨rfl, by rw [ht]; exact hH, hS.F ht⟩) (fun q hq => hS.2.2 q hq) zd_P17 B.notSynchronized
