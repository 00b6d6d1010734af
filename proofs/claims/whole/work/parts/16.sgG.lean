abbrev wG_feed (d pc : Nat) (ls st : List Value) (s : pm_S) (M : pm_M) (Q : Int32 → pm_S → pm_M → Prop) : Prop := wI d prog_1_method_2_code 11 (some .int) false pc ls st s M Q
theorem enG_feed {d : Nat} {s : pm_S} {M : pm_M} {x1 : Int32} {x2 : Int32} {x3 : Int32} {x4 : Int32} {x5 : Int32} {Q : Int32 → pm_S → pm_M → Prop}  (h : (((((M.1 1 1) + 20) ≤ 900) → cV d yR_append [.ref 1, .int x1] s M (fun s1 M1 => cV d yR_append [.ref 1, .int x2] s1 M1 (fun s2 M2 => cV d yR_append [.ref 1, .int x3] s2 M2 (fun s3 M3 => cV d yR_append [.ref 1, .int x4] s3 M3 (fun s4 M4 => cV d yR_append [.ref 1, .int x5] s4 M4 (fun s5 M5 => Q (M5.1 1 1) s5 M5)))))) ∧ (¬ (((M.1 1 1) + 20) ≤ 900) → Q (-5) s M))) : cI (d + 1) yG_feed [.ref 0, .int x1, .int x2, .int x3, .int x4, .int x5] s M Q := by
  refine pm_toI (by decide) (Nat.le_of_ble_eq_true rfl) ?_
  show wG_feed d 0 [.ref 0, .int x1, .int x2, .int x3, .int x4, .int x5] [] s M Q
  refine s_aload_n (i := 0) (by decide +kernel) rfl (pn 1 rfl ?_)
  refine s_getfield (v := .ref 1) (by decide +kernel) fr_11_10 lq_0 (congrArg Prod.fst sh_0) (fv_ref pf_0_0) (pn 4 rfl ?_)
  refine s_getfield (v := .int (M.1 1 1)) (by decide +kernel) fr_11_93 lq_1 (congrArg Prod.fst sh_1) rfl (pn 7 rfl ?_)
  refine t_bipush (by decide +kernel) kb_20 (pn 9 rfl ?_)
  refine s_iadd (by decide +kernel) (pn 10 rfl ?_)
  refine t_sipush (by decide +kernel) ks_900 (pn 13 rfl ?_)
  refine s_icmp_le (off := 6) (tgt := 19) (by decide +kernel) rfl (fun c1 => ?_) (fun c1 => (pn 16 rfl ?_))
  · have h := h.1 c1
    refine s_aload_n (i := 0) (by decide +kernel) rfl (pn 20 rfl ?_)
    refine s_getfield (v := .ref 1) (by decide +kernel) fr_11_10 lq_0 (congrArg Prod.fst sh_0) (fv_ref pf_0_0) (pn 23 rfl ?_)
    refine s_iload_n (i := 1) (by decide +kernel) rfl (pn 24 rfl ?_)
    refine s_callvV [.int x1] rfl (by decide +kernel) mv_11_97 np_53 (Nat.le_of_ble_eq_true rfl) lq_1 ((congrArg Prod.fst sh_1).trans oc_53) (cV_use h (fun s1 M1 h => (pn 27 rfl ?_)))
    refine s_aload_n (i := 0) (by decide +kernel) rfl (pn 28 rfl ?_)
    refine s_getfield (v := .ref 1) (by decide +kernel) fr_11_10 lq_0 (congrArg Prod.fst sh_0) (fv_ref pf_0_0) (pn 31 rfl ?_)
    refine s_iload_n (i := 2) (by decide +kernel) rfl (pn 32 rfl ?_)
    refine s_callvV [.int x2] rfl (by decide +kernel) mv_11_97 np_53 (Nat.le_of_ble_eq_true rfl) lq_1 ((congrArg Prod.fst sh_1).trans oc_53) (cV_use h (fun s2 M2 h => (pn 35 rfl ?_)))
    refine s_aload_n (i := 0) (by decide +kernel) rfl (pn 36 rfl ?_)
    refine s_getfield (v := .ref 1) (by decide +kernel) fr_11_10 lq_0 (congrArg Prod.fst sh_0) (fv_ref pf_0_0) (pn 39 rfl ?_)
    refine s_iload_n (i := 3) (by decide +kernel) rfl (pn 40 rfl ?_)
    refine s_callvV [.int x3] rfl (by decide +kernel) mv_11_97 np_53 (Nat.le_of_ble_eq_true rfl) lq_1 ((congrArg Prod.fst sh_1).trans oc_53) (cV_use h (fun s3 M3 h => (pn 43 rfl ?_)))
    refine s_aload_n (i := 0) (by decide +kernel) rfl (pn 44 rfl ?_)
    refine s_getfield (v := .ref 1) (by decide +kernel) fr_11_10 lq_0 (congrArg Prod.fst sh_0) (fv_ref pf_0_0) (pn 47 rfl ?_)
    refine s_iload (i := 4) (by decide +kernel) rfl (pn 49 rfl ?_)
    refine s_callvV [.int x4] rfl (by decide +kernel) mv_11_97 np_53 (Nat.le_of_ble_eq_true rfl) lq_1 ((congrArg Prod.fst sh_1).trans oc_53) (cV_use h (fun s4 M4 h => (pn 52 rfl ?_)))
    refine s_aload_n (i := 0) (by decide +kernel) rfl (pn 53 rfl ?_)
    refine s_getfield (v := .ref 1) (by decide +kernel) fr_11_10 lq_0 (congrArg Prod.fst sh_0) (fv_ref pf_0_0) (pn 56 rfl ?_)
    refine s_iload (i := 5) (by decide +kernel) rfl (pn 58 rfl ?_)
    refine s_callvV [.int x5] rfl (by decide +kernel) mv_11_97 np_53 (Nat.le_of_ble_eq_true rfl) lq_1 ((congrArg Prod.fst sh_1).trans oc_53) (cV_use h (fun s5 M5 h => (pn 61 rfl ?_)))
    refine s_aload_n (i := 0) (by decide +kernel) rfl (pn 62 rfl ?_)
    refine s_getfield (v := .ref 1) (by decide +kernel) fr_11_10 lq_0 (congrArg Prod.fst sh_0) (fv_ref pf_0_0) (pn 65 rfl ?_)
    refine s_getfield (v := .int (M5.1 1 1)) (by decide +kernel) fr_11_93 lq_1 (congrArg Prod.fst sh_1) rfl (pn 68 rfl ?_)
    exact s_ireturn (st := []) (by decide +kernel) (Or.inl rfl) ⟨_, rfl, s5, rfl, h⟩
  · have h := h.2 c1
    refine t_bipush (by decide +kernel) kb_m5 (pn 18 rfl ?_)
    exact s_ireturn (st := []) (by decide +kernel) (Or.inl rfl) ⟨_, rfl, s, rfl, h⟩
abbrev wG_line (d pc : Nat) (ls st : List Value) (s : pm_S) (M : pm_M) (Q : Int32 → pm_S → pm_M → Prop) : Prop := wI d prog_1_method_3_code 11 (some .int) false pc ls st s M Q
theorem enG_line {d : Nat} {s : pm_S} {M : pm_M} {x1 : Int32} {Q : Int32 → pm_S → pm_M → Prop}  (h : (((x1 < 0) → Q (-3) s M) ∧ (¬ (x1 < 0) → (((x1 ≤ (M.1 1 1)) → cV d yR_begin [.ref 1, .int x1] s M (fun s1 M1 => wG_line d 28 [.ref 0, .null, .int 0] [] s1 M1 Q)) ∧ (¬ (x1 ≤ (M.1 1 1)) → Q (-3) s M))))) : cI (d + 1) yG_line [.ref 0, .int x1] s M Q := by
  refine pm_toI (by decide) (Nat.le_of_ble_eq_true rfl) ?_
  show wG_line d 0 [.ref 0, .int x1, .null] [] s M Q
  refine s_iload_n (i := 1) (by decide +kernel) rfl (pn 1 rfl ?_)
  refine s_if_lt (off := 14) (tgt := 15) (by decide +kernel) rfl (fun c1 => ?_) (fun c1 => (pn 4 rfl ?_))
  · have h := h.1 c1
    refine t_bipush (by decide +kernel) kb_m3 (pn 17 rfl ?_)
    exact s_ireturn (st := []) (by decide +kernel) (Or.inl rfl) ⟨_, rfl, s, rfl, h⟩
  · have h := h.2 c1
    refine s_iload_n (i := 1) (by decide +kernel) rfl (pn 5 rfl ?_)
    refine s_aload_n (i := 0) (by decide +kernel) rfl (pn 6 rfl ?_)
    refine s_getfield (v := .ref 1) (by decide +kernel) fr_11_10 lq_0 (congrArg Prod.fst sh_0) (fv_ref pf_0_0) (pn 9 rfl ?_)
    refine s_getfield (v := .int (M.1 1 1)) (by decide +kernel) fr_11_93 lq_1 (congrArg Prod.fst sh_1) rfl (pn 12 rfl ?_)
    refine s_icmp_le (off := 6) (tgt := 18) (by decide +kernel) rfl (fun c2 => ?_) (fun c2 => (pn 15 rfl ?_))
    · have h := h.1 c2
      refine s_aload_n (i := 0) (by decide +kernel) rfl (pn 19 rfl ?_)
      refine s_getfield (v := .ref 1) (by decide +kernel) fr_11_10 lq_0 (congrArg Prod.fst sh_0) (fv_ref pf_0_0) (pn 22 rfl ?_)
      refine s_iload_n (i := 1) (by decide +kernel) rfl (pn 23 rfl ?_)
      refine s_callvV [.int x1] rfl (by decide +kernel) mv_11_101 np_54 (Nat.le_of_ble_eq_true rfl) lq_1 ((congrArg Prod.fst sh_1).trans oc_54) (cV_use h (fun s1 M1 h => (pn 26 rfl ?_)))
      refine t_iconst (by decide +kernel) ki_0 (pn 27 rfl ?_)
      refine s_istore_n (i := 2) (by decide +kernel) (Nat.le_of_ble_eq_true rfl) (pn 28 rfl (t_store (ls' := [.ref 0, .int x1, .int 0]) rfl ?_))
      exact pm_weak [.ref 0, .null, .int 0] (pm_le_cons (Or.inr rfl) (pm_le_cons (Or.inl rfl) (pm_le_cons (Or.inr rfl) pm_le_nil))) h
    · have h := h.2 c2
      refine t_bipush (by decide +kernel) kb_m3 (pn 17 rfl ?_)
      exact s_ireturn (st := []) (by decide +kernel) (Or.inl rfl) ⟨_, rfl, s, rfl, h⟩
theorem sgG_line_28 {d : Nat} {s : pm_S} {M : pm_M} {l2 : Int32} {Q : Int32 → pm_S → pm_M → Prop}  (h : (((900 ≤ l2) → wG_line d 58 [.ref 0, .null, .null] [] s M Q) ∧ (¬ (900 ≤ l2) → cI d yR_goesOn [.ref 1] s M (fun r1 s1 M1 => (((r1 = 0) → wG_line d 58 [.ref 0, .null, .null] [] s1 M1 Q) ∧ (¬ (r1 = 0) → cV d yR_readLine [.ref 1] s1 M1 (fun s2 M2 => wG_line d 28 [.ref 0, .null, .int (l2 + 1)] [] s2 M2 Q))))))) : wG_line d 28 [.ref 0, .null, .int l2] [] s M Q := by
  refine s_iload_n (i := 2) (by decide +kernel) rfl (pn 29 rfl ?_)
  refine t_sipush (by decide +kernel) ks_900 (pn 32 rfl ?_)
  refine s_icmp_ge (off := 26) (tgt := 58) (by decide +kernel) rfl (fun c1 => ?_) (fun c1 => (pn 35 rfl ?_))
  · have h := h.1 c1
    exact pm_weak [.ref 0, .null, .null] (pm_le_cons (Or.inr rfl) (pm_le_cons (Or.inl rfl) (pm_le_cons (Or.inl rfl) pm_le_nil))) h
  · have h := h.2 c1
    refine s_aload_n (i := 0) (by decide +kernel) rfl (pn 36 rfl ?_)
    refine s_getfield (v := .ref 1) (by decide +kernel) fr_11_10 lq_0 (congrArg Prod.fst sh_0) (fv_ref pf_0_0) (pn 39 rfl ?_)
    refine s_callvI [] rfl (by decide +kernel) mv_11_104 np_64 (Nat.le_of_ble_eq_true rfl) lq_1 ((congrArg Prod.fst sh_1).trans oc_64) (cI_use h (fun r1 s1 M1 h => (pn 42 rfl ?_)))
    refine s_if_eq (off := 16) (tgt := 58) (by decide +kernel) rfl (fun c2 => ?_) (fun c2 => (pn 45 rfl ?_))
    · have h := h.1 c2
      exact pm_weak [.ref 0, .null, .null] (pm_le_cons (Or.inr rfl) (pm_le_cons (Or.inl rfl) (pm_le_cons (Or.inl rfl) pm_le_nil))) h
    · have h := h.2 c2
      refine s_aload_n (i := 0) (by decide +kernel) rfl (pn 46 rfl ?_)
      refine s_getfield (v := .ref 1) (by decide +kernel) fr_11_10 lq_0 (congrArg Prod.fst sh_0) (fv_ref pf_0_0) (pn 49 rfl ?_)
      refine s_callvV [] rfl (by decide +kernel) mv_11_108 np_65 (Nat.le_of_ble_eq_true rfl) lq_1 ((congrArg Prod.fst sh_1).trans oc_65) (cV_use h (fun s2 M2 h => (pn 52 rfl ?_)))
      refine t_iinc (i := 2) (n := 1) (ls' := [.ref 0, .null, .int (l2 + 1)]) (by decide +kernel) rfl (Nat.le_of_ble_eq_true rfl) kn_1 rfl (pn 55 rfl ?_)
      refine s_goto (off := -27) (tgt := 28) (by decide +kernel) rfl ?_
      exact h
theorem sgG_line_58 {d : Nat} {s : pm_S} {M : pm_M}  {Q : Int32 → pm_S → pm_M → Prop}  (h : ((((M.1 1 2) = 0) → cV d yL_become [.ref 15, .ref 2] s M (fun s1 M1 => cV d yS_begin [.ref 27, .ref 15] s1 M1 (fun s2 M2 => cV d yG_forgetPast [.ref 0] s2 M2 (fun s3 M3 => Q (M3.1 15 3) s3 M3)))) ∧ (¬ ((M.1 1 2) = 0) → Q (((-30) : Int32) - (M.1 1 2)) s M))) : wG_line d 58 [.ref 0, .null, .null] [] s M Q := by
  refine s_aload_n (i := 0) (by decide +kernel) rfl (pn 59 rfl ?_)
  refine s_getfield (v := .ref 1) (by decide +kernel) fr_11_10 lq_0 (congrArg Prod.fst sh_0) (fv_ref pf_0_0) (pn 62 rfl ?_)
  refine s_getfield (v := .int (M.1 1 2)) (by decide +kernel) fr_11_111 lq_1 (congrArg Prod.fst sh_1) rfl (pn 65 rfl ?_)
  refine s_if_eq (off := 14) (tgt := 79) (by decide +kernel) rfl (fun c1 => ?_) (fun c1 => (pn 68 rfl ?_))
  · have h := h.1 c1
    refine s_aload_n (i := 0) (by decide +kernel) rfl (pn 80 rfl ?_)
    refine s_getfield (v := .ref 15) (by decide +kernel) fr_11_19 lq_0 (congrArg Prod.fst sh_0) (fv_ref pf_0_1) (pn 83 rfl ?_)
    refine s_aload_n (i := 0) (by decide +kernel) rfl (pn 84 rfl ?_)
    refine s_getfield (v := .ref 1) (by decide +kernel) fr_11_10 lq_0 (congrArg Prod.fst sh_0) (fv_ref pf_0_0) (pn 87 rfl ?_)
    refine s_getfield (v := .ref 2) (by decide +kernel) fr_11_114 lq_1 (congrArg Prod.fst sh_1) (fv_ref pf_1_0) (pn 90 rfl ?_)
    refine s_callvV [.ref 2] rfl (by decide +kernel) mv_11_117 np_30 (Nat.le_of_ble_eq_true rfl) lq_15 ((congrArg Prod.fst sh_15).trans oc_30) (cV_use h (fun s1 M1 h => (pn 93 rfl ?_)))
    refine s_aload_n (i := 0) (by decide +kernel) rfl (pn 94 rfl ?_)
    refine s_getfield (v := .ref 27) (by decide +kernel) fr_11_26 lq_0 (congrArg Prod.fst sh_0) (fv_ref pf_0_2) (pn 97 rfl ?_)
    refine s_aload_n (i := 0) (by decide +kernel) rfl (pn 98 rfl ?_)
    refine s_getfield (v := .ref 15) (by decide +kernel) fr_11_19 lq_0 (congrArg Prod.fst sh_0) (fv_ref pf_0_1) (pn 101 rfl ?_)
    refine s_callvV [.ref 15] rfl (by decide +kernel) mv_11_121 np_81 (Nat.le_of_ble_eq_true rfl) lq_27 ((congrArg Prod.fst sh_27).trans oc_81) (cV_use h (fun s2 M2 h => (pn 104 rfl ?_)))
    refine s_aload_n (i := 0) (by decide +kernel) rfl (pn 105 rfl ?_)
    refine s_callvV [] rfl (by decide +kernel) mv_11_123 np_124 (Nat.le_of_ble_eq_true rfl) lq_0 ((congrArg Prod.fst sh_0).trans oc_124) (cV_use h (fun s3 M3 h => (pn 108 rfl ?_)))
    refine s_aload_n (i := 0) (by decide +kernel) rfl (pn 109 rfl ?_)
    refine s_getfield (v := .ref 15) (by decide +kernel) fr_11_19 lq_0 (congrArg Prod.fst sh_0) (fv_ref pf_0_1) (pn 112 rfl ?_)
    refine s_getfield (v := .int (M3.1 15 3)) (by decide +kernel) fr_11_126 lq_15 (congrArg Prod.fst sh_15) rfl (pn 115 rfl ?_)
    exact s_ireturn (st := []) (by decide +kernel) (Or.inl rfl) ⟨_, rfl, s3, rfl, h⟩
  · have h := h.2 c1
    refine t_bipush (by decide +kernel) kb_m30 (pn 70 rfl ?_)
    refine s_aload_n (i := 0) (by decide +kernel) rfl (pn 71 rfl ?_)
    refine s_getfield (v := .ref 1) (by decide +kernel) fr_11_10 lq_0 (congrArg Prod.fst sh_0) (fv_ref pf_0_0) (pn 74 rfl ?_)
    refine s_getfield (v := .int (M.1 1 2)) (by decide +kernel) fr_11_111 lq_1 (congrArg Prod.fst sh_1) rfl (pn 77 rfl ?_)
    refine s_isub (by decide +kernel) (pn 78 rfl ?_)
    exact s_ireturn (st := []) (by decide +kernel) (Or.inl rfl) ⟨_, rfl, s, rfl, h⟩
abbrev wG_forgetPast (d pc : Nat) (ls st : List Value) (s : pm_S) (M : pm_M) (Q : pm_S → pm_M → Prop) : Prop := wV d prog_1_method_49_code 11 none false pc ls st s M Q
theorem enG_forgetPast {d : Nat} {s : pm_S} {M : pm_M}  {Q : pm_S → pm_M → Prop}  (h : Q s (pm_si (pm_si M 0 5 0) 0 6 0)) : cV (d + 1) yG_forgetPast [.ref 0] s M Q := by
  refine pm_toV (by decide) (Nat.le_of_ble_eq_true rfl) ?_
  show wG_forgetPast d 0 [.ref 0] [] s M Q
  refine s_aload_n (i := 0) (by decide +kernel) rfl (pn 1 rfl ?_)
  refine t_iconst (by decide +kernel) ki_0 (pn 2 rfl ?_)
  refine s_putfieldI (by decide +kernel) fr_11_231 lq_0 (congrArg Prod.fst sh_0) (fun q => by cases q) (Or.inl rfl) (pn 5 rfl ?_)
  refine s_aload_n (i := 0) (by decide +kernel) rfl (pn 6 rfl ?_)
  refine t_iconst (by decide +kernel) ki_0 (pn 7 rfl ?_)
  refine s_putfieldI (by decide +kernel) fr_11_228 lq_0 (congrArg Prod.fst sh_0) (fun q => by cases q) (Or.inl rfl) (pn 10 rfl ?_)
  exact s_return (st := []) (by decide +kernel) rfl ⟨rfl, s, rfl, h⟩
abbrev wG_fault (d pc : Nat) (ls st : List Value) (s : pm_S) (M : pm_M) (Q : Int32 → pm_S → pm_M → Prop) : Prop := wI d prog_1_method_4_code 11 (some .int) false pc ls st s M Q
theorem enG_fault {d : Nat} {s : pm_S} {M : pm_M} {x1 : Int32} {Q : Int32 → pm_S → pm_M → Prop}  (h : ((x1 = 0 → Q (M.1 1 2) s M) ∧ (¬ (x1 = 0) → Q ((if x1 = 1 then (M.1 1 3) else (-1)) : Int32) s M))) : cI (d + 1) yG_fault [.ref 0, .int x1] s M Q := by
  refine pm_toI (by decide) (Nat.le_of_ble_eq_true rfl) ?_
  show wG_fault d 0 [.ref 0, .int x1] [] s M Q
  refine s_iload_n (i := 1) (by decide +kernel) rfl (pn 1 rfl ?_)
  refine t_if_ne (off := 11) (tgt := 12) (by decide +kernel) rfl (fun c1 => ?_) (fun c1 => (pn 4 rfl ?_))
  · have h := h.2 c1
    refine s_iload_n (i := 1) (by decide +kernel) rfl (pn 13 rfl ?_)
    refine t_iconst (by decide +kernel) ki_1 (pn 14 rfl ?_)
    have k1 : ∀ (z1 : Int32) (z1e : z1 = ((if x1 = 1 then (M.1 1 3) else (-1)) : Int32)), wG_fault d 28 [.ref 0, .int x1] [.int z1] s M Q := by
      intro z1 z1e
      subst z1e
      exact s_ireturn (st := []) (by decide +kernel) (Or.inl rfl) ⟨_, rfl, s, rfl, h⟩
    refine t_icmp_ne (off := 13) (tgt := 27) (by decide +kernel) rfl (fun c2 => ?_) (fun c2 => (pn 17 rfl ?_))
    · refine t_iconst (by decide +kernel) ki_m1 (pn 28 rfl ?_)
      exact k1 _ (by simp only [if_neg c2])
    · refine s_aload_n (i := 0) (by decide +kernel) rfl (pn 18 rfl ?_)
      refine s_getfield (v := .ref 1) (by decide +kernel) fr_11_10 lq_0 (congrArg Prod.fst sh_0) (fv_ref pf_0_0) (pn 21 rfl ?_)
      refine s_getfield (v := .int (M.1 1 3)) (by decide +kernel) fr_11_129 lq_1 (congrArg Prod.fst sh_1) rfl (pn 24 rfl ?_)
      refine s_goto (off := 4) (tgt := 28) (by decide +kernel) rfl ?_
      exact k1 _ (by simp only [if_pos c2])
  · have h := h.1 c1
    refine s_aload_n (i := 0) (by decide +kernel) rfl (pn 5 rfl ?_)
    refine s_getfield (v := .ref 1) (by decide +kernel) fr_11_10 lq_0 (congrArg Prod.fst sh_0) (fv_ref pf_0_0) (pn 8 rfl ?_)
    refine s_getfield (v := .int (M.1 1 2)) (by decide +kernel) fr_11_111 lq_1 (congrArg Prod.fst sh_1) rfl (pn 11 rfl ?_)
    exact s_ireturn (st := []) (by decide +kernel) (Or.inl rfl) ⟨_, rfl, s, rfl, h⟩
abbrev wG_thing (d pc : Nat) (ls st : List Value) (s : pm_S) (M : pm_M) (Q : Int32 → pm_S → pm_M → Prop) : Prop := wI d prog_1_method_5_code 11 (some .int) false pc ls st s M Q
theorem enG_thing {d : Nat} {s : pm_S} {M : pm_M} {x1 : Int32} {x2 : Int32} {Q : Int32 → pm_S → pm_M → Prop}  (h : cI d yL_hasThing [.ref 15, .int x1] s M (fun r1 s1 M1 => ((r1 = 0 → Q (-2) s1 M1) ∧ (¬ (r1 = 0) → ((x2 = 0 → vp_in x1 8 ∧ Q (M1.1 28 x1.toNatClampNeg) s1 M1) ∧ (¬ x2 = 0 → ((x2 = 1 → vp_in x1 8 ∧ Q (M1.1 17 x1.toNatClampNeg) s1 M1) ∧ (¬ x2 = 1 → ((x2 = 2 → vp_in x1 8 ∧ Q (M1.1 18 x1.toNatClampNeg) s1 M1) ∧ (¬ x2 = 2 → ((x2 = 3 → vp_in x1 8 ∧ Q (M1.1 29 x1.toNatClampNeg) s1 M1) ∧ (¬ x2 = 3 → Q (-2) s1 M1)))))))))))) : cI (d + 1) yG_thing [.ref 0, .int x1, .int x2] s M Q := by
  refine pm_toI (by decide) (Nat.le_of_ble_eq_true rfl) ?_
  show wG_thing d 0 [.ref 0, .int x1, .int x2] [] s M Q
  refine s_aload_n (i := 0) (by decide +kernel) rfl (pn 1 rfl ?_)
  refine s_getfield (v := .ref 15) (by decide +kernel) fr_11_19 lq_0 (congrArg Prod.fst sh_0) (fv_ref pf_0_1) (pn 4 rfl ?_)
  refine s_iload_n (i := 1) (by decide +kernel) rfl (pn 5 rfl ?_)
  refine s_callvI [.int x1] rfl (by decide +kernel) mv_11_132 np_28 (Nat.le_of_ble_eq_true rfl) lq_15 ((congrArg Prod.fst sh_15).trans oc_28) (cI_use h (fun r1 s1 M1 h => (pn 8 rfl ?_)))
  refine t_if_ne (off := 6) (tgt := 14) (by decide +kernel) rfl (fun c1 => ?_) (fun c1 => (pn 11 rfl ?_))
  · have h := h.2 c1
    refine s_iload_n (i := 2) (by decide +kernel) rfl (pn 15 rfl ?_)
    by_cases c2 : x2 = 0
    · refine s_tableswitch (dflt := 69) (lo := 0) (hi := 3) (offs := #[29, 39, 49, 59]) (len := 29) (tgt := 44) (by decide +kernel) (by rw [c2]; decide) (by rw [c2]; decide) ?_
      have h := h.1 c2
      refine s_aload_n (i := 0) (by decide +kernel) rfl (pn 45 rfl ?_)
      refine s_getfield (v := .ref 27) (by decide +kernel) fr_11_26 lq_0 (congrArg Prod.fst sh_0) (fv_ref pf_0_2) (pn 48 rfl ?_)
      refine s_getfield (v := .ref 28) (by decide +kernel) fr_11_136 lq_27 (congrArg Prod.fst sh_27) (fv_ref pf_27_0) (pn 51 rfl ?_)
      refine s_iload_n (i := 1) (by decide +kernel) rfl (pn 52 rfl ?_)
      obtain ⟨b1, h⟩ := h
      refine t_iaload (v := M1.1 28 x1.toNatClampNeg) (by decide +kernel) ⟨Or.inl lq_28, congrArg Prod.fst sh_28⟩ (al_in sh_28 b1) rfl (pn 53 rfl ?_)
      exact s_ireturn (st := []) (by decide +kernel) (Or.inl rfl) ⟨_, rfl, s1, rfl, h⟩
    have h := h.2 c2
    by_cases c3 : x2 = 1
    · refine s_tableswitch (dflt := 69) (lo := 0) (hi := 3) (offs := #[29, 39, 49, 59]) (len := 29) (tgt := 54) (by decide +kernel) (by rw [c3]; decide) (by rw [c3]; decide) ?_
      have h := h.1 c3
      refine s_aload_n (i := 0) (by decide +kernel) rfl (pn 55 rfl ?_)
      refine s_getfield (v := .ref 15) (by decide +kernel) fr_11_19 lq_0 (congrArg Prod.fst sh_0) (fv_ref pf_0_1) (pn 58 rfl ?_)
      refine s_getfield (v := .ref 17) (by decide +kernel) fr_11_140 lq_15 (congrArg Prod.fst sh_15) (fv_ref pf_15_6) (pn 61 rfl ?_)
      refine s_iload_n (i := 1) (by decide +kernel) rfl (pn 62 rfl ?_)
      obtain ⟨b2, h⟩ := h
      refine t_iaload (v := M1.1 17 x1.toNatClampNeg) (by decide +kernel) ⟨Or.inl lq_17, congrArg Prod.fst sh_17⟩ (al_in sh_17 b2) rfl (pn 63 rfl ?_)
      exact s_ireturn (st := []) (by decide +kernel) (Or.inl rfl) ⟨_, rfl, s1, rfl, h⟩
    have h := h.2 c3
    by_cases c4 : x2 = 2
    · refine s_tableswitch (dflt := 69) (lo := 0) (hi := 3) (offs := #[29, 39, 49, 59]) (len := 29) (tgt := 64) (by decide +kernel) (by rw [c4]; decide) (by rw [c4]; decide) ?_
      have h := h.1 c4
      refine s_aload_n (i := 0) (by decide +kernel) rfl (pn 65 rfl ?_)
      refine s_getfield (v := .ref 15) (by decide +kernel) fr_11_19 lq_0 (congrArg Prod.fst sh_0) (fv_ref pf_0_1) (pn 68 rfl ?_)
      refine s_getfield (v := .ref 18) (by decide +kernel) fr_11_143 lq_15 (congrArg Prod.fst sh_15) (fv_ref pf_15_7) (pn 71 rfl ?_)
      refine s_iload_n (i := 1) (by decide +kernel) rfl (pn 72 rfl ?_)
      obtain ⟨b3, h⟩ := h
      refine t_iaload (v := M1.1 18 x1.toNatClampNeg) (by decide +kernel) ⟨Or.inl lq_18, congrArg Prod.fst sh_18⟩ (al_in sh_18 b3) rfl (pn 73 rfl ?_)
      exact s_ireturn (st := []) (by decide +kernel) (Or.inl rfl) ⟨_, rfl, s1, rfl, h⟩
    have h := h.2 c4
    by_cases c5 : x2 = 3
    · refine s_tableswitch (dflt := 69) (lo := 0) (hi := 3) (offs := #[29, 39, 49, 59]) (len := 29) (tgt := 74) (by decide +kernel) (by rw [c5]; decide) (by rw [c5]; decide) ?_
      have h := h.1 c5
      refine s_aload_n (i := 0) (by decide +kernel) rfl (pn 75 rfl ?_)
      refine s_getfield (v := .ref 27) (by decide +kernel) fr_11_26 lq_0 (congrArg Prod.fst sh_0) (fv_ref pf_0_2) (pn 78 rfl ?_)
      refine s_getfield (v := .ref 29) (by decide +kernel) fr_11_146 lq_27 (congrArg Prod.fst sh_27) (fv_ref pf_27_1) (pn 81 rfl ?_)
      refine s_iload_n (i := 1) (by decide +kernel) rfl (pn 82 rfl ?_)
      obtain ⟨b4, h⟩ := h
      refine t_iaload (v := M1.1 29 x1.toNatClampNeg) (by decide +kernel) ⟨Or.inl lq_29, congrArg Prod.fst sh_29⟩ (al_in sh_29 b4) rfl (pn 83 rfl ?_)
      exact s_ireturn (st := []) (by decide +kernel) (Or.inl rfl) ⟨_, rfl, s1, rfl, h⟩
    have h := h.2 c5
    have k1 : wG_thing d 84 [.ref 0, .int x1, .int x2] [] s1 M1 Q := by
      refine t_bipush (by decide +kernel) kb_m2 (pn 86 rfl ?_)
      exact s_ireturn (st := []) (by decide +kernel) (Or.inl rfl) ⟨_, rfl, s1, rfl, h⟩
    by_cases q0 : x2.toInt < 0 ∨ 3 < x2.toInt
    · exact t_tabledef (dflt := 69) (lo := 0) (hi := 3) (offs := #[29, 39, 49, 59]) (len := 29) (tgt := 84) (by decide +kernel) rfl q0 k1
    · rcases (show x2.toInt = 0 ∨ x2.toInt = 1 ∨ x2.toInt = 2 ∨ x2.toInt = 3 by omega) with q1 | q1 | q1 | q1
      · exact absurd (Int32.toInt_inj.mp (q1.trans (by decide))) c2
      · exact absurd (Int32.toInt_inj.mp (q1.trans (by decide))) c3
      · exact absurd (Int32.toInt_inj.mp (q1.trans (by decide))) c4
      · exact absurd (Int32.toInt_inj.mp (q1.trans (by decide))) c5
  · have h := h.1 c1
    refine t_bipush (by decide +kernel) kb_m2 (pn 13 rfl ?_)
    exact s_ireturn (st := []) (by decide +kernel) (Or.inl rfl) ⟨_, rfl, s1, rfl, h⟩
abbrev wG_person (d pc : Nat) (ls st : List Value) (s : pm_S) (M : pm_M) (Q : Int32 → pm_S → pm_M → Prop) : Prop := wI d prog_1_method_6_code 11 (some .int) false pc ls st s M Q
theorem enG_person {d : Nat} {s : pm_S} {M : pm_M} {x1 : Int32} {x2 : Int32} {Q : Int32 → pm_S → pm_M → Prop}  (h : cI d yL_hasPerson [.ref 15, .int x1] s M (fun r1 s1 M1 => ((r1 = 0 → Q (-2) s1 M1) ∧ (¬ (r1 = 0) → ((x2 = 0 → vp_in x1 6 ∧ Q (M1.1 20 x1.toNatClampNeg) s1 M1) ∧ (¬ x2 = 0 → ((x2 = 1 → vp_in x1 6 ∧ Q (M1.1 30 x1.toNatClampNeg) s1 M1) ∧ (¬ x2 = 1 → ((x2 = 2 → vp_in x1 6 ∧ Q (M1.1 22 x1.toNatClampNeg) s1 M1) ∧ (¬ x2 = 2 → ((x2 = 3 → cI d yS_heldThing [.ref 27, .int x1] s1 M1 (fun r2 s2 M2 => Q r2 s2 M2)) ∧ (¬ x2 = 3 → ((x2 = 4 → vp_in x1 6 ∧ Q (M1.1 31 x1.toNatClampNeg) s1 M1) ∧ (¬ x2 = 4 → Q (-2) s1 M1)))))))))))))) : cI (d + 1) yG_person [.ref 0, .int x1, .int x2] s M Q := by
  refine pm_toI (by decide) (Nat.le_of_ble_eq_true rfl) ?_
  show wG_person d 0 [.ref 0, .int x1, .int x2] [] s M Q
  refine s_aload_n (i := 0) (by decide +kernel) rfl (pn 1 rfl ?_)
  refine s_getfield (v := .ref 15) (by decide +kernel) fr_11_19 lq_0 (congrArg Prod.fst sh_0) (fv_ref pf_0_1) (pn 4 rfl ?_)
  refine s_iload_n (i := 1) (by decide +kernel) rfl (pn 5 rfl ?_)
  refine s_callvI [.int x1] rfl (by decide +kernel) mv_11_149 np_31 (Nat.le_of_ble_eq_true rfl) lq_15 ((congrArg Prod.fst sh_15).trans oc_31) (cI_use h (fun r1 s1 M1 h => (pn 8 rfl ?_)))
  refine t_if_ne (off := 6) (tgt := 14) (by decide +kernel) rfl (fun c1 => ?_) (fun c1 => (pn 11 rfl ?_))
  · have h := h.2 c1
    refine s_iload_n (i := 2) (by decide +kernel) rfl (pn 15 rfl ?_)
    by_cases c2 : x2 = 0
    · refine s_tableswitch (dflt := 82) (lo := 0) (hi := 4) (offs := #[33, 43, 53, 63, 72]) (len := 33) (tgt := 48) (by decide +kernel) (by rw [c2]; decide) (by rw [c2]; decide) ?_
      have h := h.1 c2
      refine s_aload_n (i := 0) (by decide +kernel) rfl (pn 49 rfl ?_)
      refine s_getfield (v := .ref 15) (by decide +kernel) fr_11_19 lq_0 (congrArg Prod.fst sh_0) (fv_ref pf_0_1) (pn 52 rfl ?_)
      refine s_getfield (v := .ref 20) (by decide +kernel) fr_11_152 lq_15 (congrArg Prod.fst sh_15) (fv_ref pf_15_9) (pn 55 rfl ?_)
      refine s_iload_n (i := 1) (by decide +kernel) rfl (pn 56 rfl ?_)
      obtain ⟨b1, h⟩ := h
      refine t_iaload (v := M1.1 20 x1.toNatClampNeg) (by decide +kernel) ⟨Or.inl lq_20, congrArg Prod.fst sh_20⟩ (al_in sh_20 b1) rfl (pn 57 rfl ?_)
      exact s_ireturn (st := []) (by decide +kernel) (Or.inl rfl) ⟨_, rfl, s1, rfl, h⟩
    have h := h.2 c2
    by_cases c3 : x2 = 1
    · refine s_tableswitch (dflt := 82) (lo := 0) (hi := 4) (offs := #[33, 43, 53, 63, 72]) (len := 33) (tgt := 58) (by decide +kernel) (by rw [c3]; decide) (by rw [c3]; decide) ?_
      have h := h.1 c3
      refine s_aload_n (i := 0) (by decide +kernel) rfl (pn 59 rfl ?_)
      refine s_getfield (v := .ref 27) (by decide +kernel) fr_11_26 lq_0 (congrArg Prod.fst sh_0) (fv_ref pf_0_2) (pn 62 rfl ?_)
      refine s_getfield (v := .ref 30) (by decide +kernel) fr_11_155 lq_27 (congrArg Prod.fst sh_27) (fv_ref pf_27_2) (pn 65 rfl ?_)
      refine s_iload_n (i := 1) (by decide +kernel) rfl (pn 66 rfl ?_)
      obtain ⟨b2, h⟩ := h
      refine t_iaload (v := M1.1 30 x1.toNatClampNeg) (by decide +kernel) ⟨Or.inl lq_30, congrArg Prod.fst sh_30⟩ (al_in sh_30 b2) rfl (pn 67 rfl ?_)
      exact s_ireturn (st := []) (by decide +kernel) (Or.inl rfl) ⟨_, rfl, s1, rfl, h⟩
    have h := h.2 c3
    by_cases c4 : x2 = 2
    · refine s_tableswitch (dflt := 82) (lo := 0) (hi := 4) (offs := #[33, 43, 53, 63, 72]) (len := 33) (tgt := 68) (by decide +kernel) (by rw [c4]; decide) (by rw [c4]; decide) ?_
      have h := h.1 c4
      refine s_aload_n (i := 0) (by decide +kernel) rfl (pn 69 rfl ?_)
      refine s_getfield (v := .ref 15) (by decide +kernel) fr_11_19 lq_0 (congrArg Prod.fst sh_0) (fv_ref pf_0_1) (pn 72 rfl ?_)
      refine s_getfield (v := .ref 22) (by decide +kernel) fr_11_158 lq_15 (congrArg Prod.fst sh_15) (fv_ref pf_15_11) (pn 75 rfl ?_)
      refine s_iload_n (i := 1) (by decide +kernel) rfl (pn 76 rfl ?_)
      obtain ⟨b3, h⟩ := h
      refine t_iaload (v := M1.1 22 x1.toNatClampNeg) (by decide +kernel) ⟨Or.inl lq_22, congrArg Prod.fst sh_22⟩ (al_in sh_22 b3) rfl (pn 77 rfl ?_)
      exact s_ireturn (st := []) (by decide +kernel) (Or.inl rfl) ⟨_, rfl, s1, rfl, h⟩
    have h := h.2 c4
    by_cases c5 : x2 = 3
    · refine s_tableswitch (dflt := 82) (lo := 0) (hi := 4) (offs := #[33, 43, 53, 63, 72]) (len := 33) (tgt := 78) (by decide +kernel) (by rw [c5]; decide) (by rw [c5]; decide) ?_
      have h := h.1 c5
      refine s_aload_n (i := 0) (by decide +kernel) rfl (pn 79 rfl ?_)
      refine s_getfield (v := .ref 27) (by decide +kernel) fr_11_26 lq_0 (congrArg Prod.fst sh_0) (fv_ref pf_0_2) (pn 82 rfl ?_)
      refine s_iload_n (i := 1) (by decide +kernel) rfl (pn 83 rfl ?_)
      refine s_callvI [.int x1] rfl (by decide +kernel) mv_11_161 np_82 (Nat.le_of_ble_eq_true rfl) lq_27 ((congrArg Prod.fst sh_27).trans oc_82) (cI_use h (fun r2 s2 M2 h => (pn 86 rfl ?_)))
      exact s_ireturn (st := []) (by decide +kernel) (Or.inl rfl) ⟨_, rfl, s2, rfl, h⟩
    have h := h.2 c5
    by_cases c6 : x2 = 4
    · refine s_tableswitch (dflt := 82) (lo := 0) (hi := 4) (offs := #[33, 43, 53, 63, 72]) (len := 33) (tgt := 87) (by decide +kernel) (by rw [c6]; decide) (by rw [c6]; decide) ?_
      have h := h.1 c6
      refine s_aload_n (i := 0) (by decide +kernel) rfl (pn 88 rfl ?_)
      refine s_getfield (v := .ref 27) (by decide +kernel) fr_11_26 lq_0 (congrArg Prod.fst sh_0) (fv_ref pf_0_2) (pn 91 rfl ?_)
      refine s_getfield (v := .ref 31) (by decide +kernel) fr_11_165 lq_27 (congrArg Prod.fst sh_27) (fv_ref pf_27_3) (pn 94 rfl ?_)
      refine s_iload_n (i := 1) (by decide +kernel) rfl (pn 95 rfl ?_)
      obtain ⟨b4, h⟩ := h
      refine t_iaload (v := M1.1 31 x1.toNatClampNeg) (by decide +kernel) ⟨Or.inl lq_31, congrArg Prod.fst sh_31⟩ (al_in sh_31 b4) rfl (pn 96 rfl ?_)
      exact s_ireturn (st := []) (by decide +kernel) (Or.inl rfl) ⟨_, rfl, s1, rfl, h⟩
    have h := h.2 c6
    have k1 : wG_person d 97 [.ref 0, .int x1, .int x2] [] s1 M1 Q := by
      refine t_bipush (by decide +kernel) kb_m2 (pn 99 rfl ?_)
      exact s_ireturn (st := []) (by decide +kernel) (Or.inl rfl) ⟨_, rfl, s1, rfl, h⟩
    by_cases q0 : x2.toInt < 0 ∨ 4 < x2.toInt
    · exact t_tabledef (dflt := 82) (lo := 0) (hi := 4) (offs := #[33, 43, 53, 63, 72]) (len := 33) (tgt := 97) (by decide +kernel) rfl q0 k1
    · rcases (show x2.toInt = 0 ∨ x2.toInt = 1 ∨ x2.toInt = 2 ∨ x2.toInt = 3 ∨ x2.toInt = 4 by omega) with q1 | q1 | q1 | q1 | q1
      · exact absurd (Int32.toInt_inj.mp (q1.trans (by decide))) c2
      · exact absurd (Int32.toInt_inj.mp (q1.trans (by decide))) c3
      · exact absurd (Int32.toInt_inj.mp (q1.trans (by decide))) c4
      · exact absurd (Int32.toInt_inj.mp (q1.trans (by decide))) c5
      · exact absurd (Int32.toInt_inj.mp (q1.trans (by decide))) c6
  · have h := h.1 c1
    refine t_bipush (by decide +kernel) kb_m2 (pn 13 rfl ?_)
    exact s_ireturn (st := []) (by decide +kernel) (Or.inl rfl) ⟨_, rfl, s1, rfl, h⟩
abbrev wG_claims (d pc : Nat) (ls st : List Value) (s : pm_S) (M : pm_M) (Q : Int32 → pm_S → pm_M → Prop) : Prop := wI d prog_1_method_7_code 11 (some .int) false pc ls st s M Q
theorem enG_claims {d : Nat} {s : pm_S} {M : pm_M} {x1 : Int32} {x2 : Int32} {Q : Int32 → pm_S → pm_M → Prop}  (h : cI d yL_hasPerson [.ref 15, .int x1] s M (fun r1 s1 M1 => (((r1 = 0) → Q (-99000002) s1 M1) ∧ (¬ (r1 = 0) → cI d yL_hasThing [.ref 15, .int x2] s1 M1 (fun r2 s2 M2 => ((r2 = 0 → Q (-99000002) s2 M2) ∧ (¬ (r2 = 0) → vp_in x1 6 ∧ cI d yL_claimBy [.ref 15, .int (M2.1 30 x1.toNatClampNeg), .int x1, .int x2] s2 M2 (fun r3 s3 M3 => Q r3 s3 M3)))))))) : cI (d + 1) yG_claims [.ref 0, .int x1, .int x2] s M Q := by
  refine pm_toI (by decide) (Nat.le_of_ble_eq_true rfl) ?_
  show wG_claims d 0 [.ref 0, .int x1, .int x2] [] s M Q
  refine s_aload_n (i := 0) (by decide +kernel) rfl (pn 1 rfl ?_)
  refine s_getfield (v := .ref 15) (by decide +kernel) fr_11_19 lq_0 (congrArg Prod.fst sh_0) (fv_ref pf_0_1) (pn 4 rfl ?_)
  refine s_iload_n (i := 1) (by decide +kernel) rfl (pn 5 rfl ?_)
  refine s_callvI [.int x1] rfl (by decide +kernel) mv_11_149 np_31 (Nat.le_of_ble_eq_true rfl) lq_15 ((congrArg Prod.fst sh_15).trans oc_31) (cI_use h (fun r1 s1 M1 h => (pn 8 rfl ?_)))
  refine s_if_eq (off := 14) (tgt := 22) (by decide +kernel) rfl (fun c1 => ?_) (fun c1 => (pn 11 rfl ?_))
  · have h := h.1 c1
    refine s_ldc (by decide +kernel) kc_11_168 (pn 24 rfl ?_)
    exact s_ireturn (st := []) (by decide +kernel) (Or.inl rfl) ⟨_, rfl, s1, rfl, h⟩
  · have h := h.2 c1
    refine s_aload_n (i := 0) (by decide +kernel) rfl (pn 12 rfl ?_)
    refine s_getfield (v := .ref 15) (by decide +kernel) fr_11_19 lq_0 (congrArg Prod.fst sh_0) (fv_ref pf_0_1) (pn 15 rfl ?_)
    refine s_iload_n (i := 2) (by decide +kernel) rfl (pn 16 rfl ?_)
    refine s_callvI [.int x2] rfl (by decide +kernel) mv_11_132 np_28 (Nat.le_of_ble_eq_true rfl) lq_15 ((congrArg Prod.fst sh_15).trans oc_28) (cI_use h (fun r2 s2 M2 h => (pn 19 rfl ?_)))
    refine t_if_ne (off := 6) (tgt := 25) (by decide +kernel) rfl (fun c2 => ?_) (fun c2 => (pn 22 rfl ?_))
    · have h := h.2 c2
      refine s_aload_n (i := 0) (by decide +kernel) rfl (pn 26 rfl ?_)
      refine s_getfield (v := .ref 15) (by decide +kernel) fr_11_19 lq_0 (congrArg Prod.fst sh_0) (fv_ref pf_0_1) (pn 29 rfl ?_)
      refine s_aload_n (i := 0) (by decide +kernel) rfl (pn 30 rfl ?_)
      refine s_getfield (v := .ref 27) (by decide +kernel) fr_11_26 lq_0 (congrArg Prod.fst sh_0) (fv_ref pf_0_2) (pn 33 rfl ?_)
      refine s_getfield (v := .ref 30) (by decide +kernel) fr_11_155 lq_27 (congrArg Prod.fst sh_27) (fv_ref pf_27_2) (pn 36 rfl ?_)
      refine s_iload_n (i := 1) (by decide +kernel) rfl (pn 37 rfl ?_)
      obtain ⟨b1, h⟩ := h
      refine t_iaload (v := M2.1 30 x1.toNatClampNeg) (by decide +kernel) ⟨Or.inl lq_30, congrArg Prod.fst sh_30⟩ (al_in sh_30 b1) rfl (pn 38 rfl ?_)
      refine s_iload_n (i := 1) (by decide +kernel) rfl (pn 39 rfl ?_)
      refine s_iload_n (i := 2) (by decide +kernel) rfl (pn 40 rfl ?_)
      refine s_callvI [.int (M2.1 30 x1.toNatClampNeg), .int x1, .int x2] rfl (by decide +kernel) mv_11_169 np_32 (Nat.le_of_ble_eq_true rfl) lq_15 ((congrArg Prod.fst sh_15).trans oc_32) (cI_use h (fun r3 s3 M3 h => (pn 43 rfl ?_)))
      exact s_ireturn (st := []) (by decide +kernel) (Or.inl rfl) ⟨_, rfl, s3, rfl, h⟩
    · have h := h.1 c2
      refine s_ldc (by decide +kernel) kc_11_168 (pn 24 rfl ?_)
      exact s_ireturn (st := []) (by decide +kernel) (Or.inl rfl) ⟨_, rfl, s2, rfl, h⟩
abbrev wG_burden (d pc : Nat) (ls st : List Value) (s : pm_S) (M : pm_M) (Q : Int32 → pm_S → pm_M → Prop) : Prop := wI d prog_1_method_8_code 11 (some .int) false pc ls st s M Q
theorem enG_burden {d : Nat} {s : pm_S} {M : pm_M} {x1 : Int32} {x2 : Int32} {Q : Int32 → pm_S → pm_M → Prop}  (h : cI d yL_hasPerson [.ref 15, .int x1] s M (fun r1 s1 M1 => (((r1 = 0) → Q (-2) s1 M1) ∧ (¬ (r1 = 0) → cI d yL_hasThing [.ref 15, .int x2] s1 M1 (fun r2 s2 M2 => ((r2 = 0 → Q (-2) s2 M2) ∧ (¬ (r2 = 0) → vp_in x1 6 ∧ vp_in x1 6 ∧ cI d yL_burdenOf [.ref 15, .int (M2.1 30 x1.toNatClampNeg), .int x1, .int x2, .int (M2.1 27 4), .int (M2.1 31 x1.toNatClampNeg)] s2 M2 (fun r3 s3 M3 => Q r3 s3 M3)))))))) : cI (d + 1) yG_burden [.ref 0, .int x1, .int x2] s M Q := by
  refine pm_toI (by decide) (Nat.le_of_ble_eq_true rfl) ?_
  show wG_burden d 0 [.ref 0, .int x1, .int x2] [] s M Q
  refine s_aload_n (i := 0) (by decide +kernel) rfl (pn 1 rfl ?_)
  refine s_getfield (v := .ref 15) (by decide +kernel) fr_11_19 lq_0 (congrArg Prod.fst sh_0) (fv_ref pf_0_1) (pn 4 rfl ?_)
  refine s_iload_n (i := 1) (by decide +kernel) rfl (pn 5 rfl ?_)
  refine s_callvI [.int x1] rfl (by decide +kernel) mv_11_149 np_31 (Nat.le_of_ble_eq_true rfl) lq_15 ((congrArg Prod.fst sh_15).trans oc_31) (cI_use h (fun r1 s1 M1 h => (pn 8 rfl ?_)))
  refine s_if_eq (off := 14) (tgt := 22) (by decide +kernel) rfl (fun c1 => ?_) (fun c1 => (pn 11 rfl ?_))
  · have h := h.1 c1
    refine t_bipush (by decide +kernel) kb_m2 (pn 24 rfl ?_)
    exact s_ireturn (st := []) (by decide +kernel) (Or.inl rfl) ⟨_, rfl, s1, rfl, h⟩
  · have h := h.2 c1
    refine s_aload_n (i := 0) (by decide +kernel) rfl (pn 12 rfl ?_)
    refine s_getfield (v := .ref 15) (by decide +kernel) fr_11_19 lq_0 (congrArg Prod.fst sh_0) (fv_ref pf_0_1) (pn 15 rfl ?_)
    refine s_iload_n (i := 2) (by decide +kernel) rfl (pn 16 rfl ?_)
    refine s_callvI [.int x2] rfl (by decide +kernel) mv_11_132 np_28 (Nat.le_of_ble_eq_true rfl) lq_15 ((congrArg Prod.fst sh_15).trans oc_28) (cI_use h (fun r2 s2 M2 h => (pn 19 rfl ?_)))
    refine t_if_ne (off := 6) (tgt := 25) (by decide +kernel) rfl (fun c2 => ?_) (fun c2 => (pn 22 rfl ?_))
    · have h := h.2 c2
      refine s_aload_n (i := 0) (by decide +kernel) rfl (pn 26 rfl ?_)
      refine s_getfield (v := .ref 15) (by decide +kernel) fr_11_19 lq_0 (congrArg Prod.fst sh_0) (fv_ref pf_0_1) (pn 29 rfl ?_)
      refine s_aload_n (i := 0) (by decide +kernel) rfl (pn 30 rfl ?_)
      refine s_getfield (v := .ref 27) (by decide +kernel) fr_11_26 lq_0 (congrArg Prod.fst sh_0) (fv_ref pf_0_2) (pn 33 rfl ?_)
      refine s_getfield (v := .ref 30) (by decide +kernel) fr_11_155 lq_27 (congrArg Prod.fst sh_27) (fv_ref pf_27_2) (pn 36 rfl ?_)
      refine s_iload_n (i := 1) (by decide +kernel) rfl (pn 37 rfl ?_)
      obtain ⟨b1, h⟩ := h
      refine t_iaload (v := M2.1 30 x1.toNatClampNeg) (by decide +kernel) ⟨Or.inl lq_30, congrArg Prod.fst sh_30⟩ (al_in sh_30 b1) rfl (pn 38 rfl ?_)
      refine s_iload_n (i := 1) (by decide +kernel) rfl (pn 39 rfl ?_)
      refine s_iload_n (i := 2) (by decide +kernel) rfl (pn 40 rfl ?_)
      refine s_aload_n (i := 0) (by decide +kernel) rfl (pn 41 rfl ?_)
      refine s_getfield (v := .ref 27) (by decide +kernel) fr_11_26 lq_0 (congrArg Prod.fst sh_0) (fv_ref pf_0_2) (pn 44 rfl ?_)
      refine s_getfield (v := .int (M2.1 27 4)) (by decide +kernel) fr_11_173 lq_27 (congrArg Prod.fst sh_27) rfl (pn 47 rfl ?_)
      refine s_aload_n (i := 0) (by decide +kernel) rfl (pn 48 rfl ?_)
      refine s_getfield (v := .ref 27) (by decide +kernel) fr_11_26 lq_0 (congrArg Prod.fst sh_0) (fv_ref pf_0_2) (pn 51 rfl ?_)
      refine s_getfield (v := .ref 31) (by decide +kernel) fr_11_165 lq_27 (congrArg Prod.fst sh_27) (fv_ref pf_27_3) (pn 54 rfl ?_)
      refine s_iload_n (i := 1) (by decide +kernel) rfl (pn 55 rfl ?_)
      obtain ⟨b2, h⟩ := h
      refine t_iaload (v := M2.1 31 x1.toNatClampNeg) (by decide +kernel) ⟨Or.inl lq_31, congrArg Prod.fst sh_31⟩ (al_in sh_31 b2) rfl (pn 56 rfl ?_)
      refine s_callvI [.int (M2.1 30 x1.toNatClampNeg), .int x1, .int x2, .int (M2.1 27 4), .int (M2.1 31 x1.toNatClampNeg)] rfl (by decide +kernel) mv_11_176 np_34 (Nat.le_of_ble_eq_true rfl) lq_15 ((congrArg Prod.fst sh_15).trans oc_34) (cI_use h (fun r3 s3 M3 h => (pn 59 rfl ?_)))
      exact s_ireturn (st := []) (by decide +kernel) (Or.inl rfl) ⟨_, rfl, s3, rfl, h⟩
    · have h := h.1 c2
      refine t_bipush (by decide +kernel) kb_m2 (pn 24 rfl ?_)
      exact s_ireturn (st := []) (by decide +kernel) (Or.inl rfl) ⟨_, rfl, s2, rfl, h⟩
abbrev wG_seed (d pc : Nat) (ls st : List Value) (s : pm_S) (M : pm_M) (Q : Int32 → pm_S → pm_M → Prop) : Prop := wI d prog_1_method_9_code 11 (some .int) false pc ls st s M Q
theorem enG_seed {d : Nat} {s : pm_S} {M : pm_M} {x1 : Int32} {Q : Int32 → pm_S → pm_M → Prop}  (h : cV d yG_remember [.ref 0] s M (fun s1 M1 => Q (M.1 27 6) s1 (pm_si M1 27 6 x1))) : cI (d + 1) yG_seed [.ref 0, .int x1] s M Q := by
  refine pm_toI (by decide) (Nat.le_of_ble_eq_true rfl) ?_
  show wG_seed d 0 [.ref 0, .int x1, .null] [] s M Q
  refine s_aload_n (i := 0) (by decide +kernel) rfl (pn 1 rfl ?_)
  refine s_getfield (v := .ref 27) (by decide +kernel) fr_11_26 lq_0 (congrArg Prod.fst sh_0) (fv_ref pf_0_2) (pn 4 rfl ?_)
  refine s_getfield (v := .int (M.1 27 6)) (by decide +kernel) fr_11_180 lq_27 (congrArg Prod.fst sh_27) rfl (pn 7 rfl ?_)
  refine s_istore_n (i := 2) (by decide +kernel) (Nat.le_of_ble_eq_true rfl) (pn 8 rfl (t_store (ls' := [.ref 0, .int x1, .int (M.1 27 6)]) rfl ?_))
  refine s_aload_n (i := 0) (by decide +kernel) rfl (pn 9 rfl ?_)
  refine s_callvV [] rfl (by decide +kernel) mv_11_183 np_131 (Nat.le_of_ble_eq_true rfl) lq_0 ((congrArg Prod.fst sh_0).trans oc_131) (cV_use h (fun s1 M1 h => (pn 12 rfl ?_)))
  refine s_aload_n (i := 0) (by decide +kernel) rfl (pn 13 rfl ?_)
  refine s_getfield (v := .ref 27) (by decide +kernel) fr_11_26 lq_0 (congrArg Prod.fst sh_0) (fv_ref pf_0_2) (pn 16 rfl ?_)
  refine s_iload_n (i := 1) (by decide +kernel) rfl (pn 17 rfl ?_)
  refine s_putfieldI (by decide +kernel) fr_11_180 lq_27 (congrArg Prod.fst sh_27) (fun q => by cases q) (Or.inl rfl) (pn 20 rfl ?_)
  refine s_iload_n (i := 2) (by decide +kernel) rfl (pn 21 rfl ?_)
  exact s_ireturn (st := []) (by decide +kernel) (Or.inl rfl) ⟨_, rfl, s1, rfl, h⟩
abbrev wG_remember (d pc : Nat) (ls st : List Value) (s : pm_S) (M : pm_M) (Q : pm_S → pm_M → Prop) : Prop := wV d prog_1_method_48_code 11 none false pc ls st s M Q
theorem enG_remember {d : Nat} {s : pm_S} {M : pm_M}  {Q : pm_S → pm_M → Prop}  (h : vp_in (M.1 0 5) 10 ∧ ∀ o1 : Nat, o1 = 67 + 5 * (M.1 0 5).toNatClampNeg → isS o1 → cV d yS_become [.ref o1, .ref 27] s M (fun s1 M1 => cI d ymath_min [.int ((M1.1 0 6) + 1), .int 10] s1 (pm_si M1 0 5 (((M1.1 0 5) + 1) - ((M1.1 0 5) + 1) / 10 * 10)) (fun r1 s2 M2 => Q s2 (pm_si M2 0 6 r1)))) : cV (d + 1) yG_remember [.ref 0] s M Q := by
  refine pm_toV (by decide) (Nat.le_of_ble_eq_true rfl) ?_
  show wG_remember d 0 [.ref 0] [] s M Q
  refine s_aload_n (i := 0) (by decide +kernel) rfl (pn 1 rfl ?_)
  refine s_getfield (v := .ref 37) (by decide +kernel) fr_11_33 lq_0 (congrArg Prod.fst sh_0) (fv_ref pf_0_4) (pn 4 rfl ?_)
  refine s_aload_n (i := 0) (by decide +kernel) rfl (pn 5 rfl ?_)
  refine s_getfield (v := .int (M.1 0 5)) (by decide +kernel) fr_11_231 lq_0 (congrArg Prod.fst sh_0) rfl (pn 8 rfl ?_)
  obtain ⟨b1, h⟩ := h
  obtain ⟨o1, eo1, ho1⟩ : ∃ zz : Nat, zz = 67 + 5 * (M.1 0 5).toNatClampNeg ∧ isS zz := ⟨_, rfl, pq_37 (vp_nat b1)⟩
  refine t_aaload (x := o1) (by decide +kernel) ⟨lq_37, by rw [sh_37]; decide, by rw [sh_37]; decide⟩ (al_in sh_37 b1) (by rw [eo1]; exact pa_37 (vp_nat b1)) (pn 9 rfl ?_)
  have h := h o1 eo1 ho1
  refine s_aload_n (i := 0) (by decide +kernel) rfl (pn 10 rfl ?_)
  refine s_getfield (v := .ref 27) (by decide +kernel) fr_11_26 lq_0 (congrArg Prod.fst sh_0) (fv_ref pf_0_2) (pn 13 rfl ?_)
  refine s_callvV [.ref 27] rfl (by decide +kernel) mv_11_186 np_83 (Nat.le_of_ble_eq_true rfl) (ltS_0 ho1) ((congrArg Prod.fst (shS_0 ho1)).trans oc_83) (cV_use h (fun s1 M1 h => (pn 16 rfl ?_)))
  refine s_aload_n (i := 0) (by decide +kernel) rfl (pn 17 rfl ?_)
  refine s_aload_n (i := 0) (by decide +kernel) rfl (pn 18 rfl ?_)
  refine s_getfield (v := .int (M1.1 0 5)) (by decide +kernel) fr_11_231 lq_0 (congrArg Prod.fst sh_0) rfl (pn 21 rfl ?_)
  refine t_iconst (by decide +kernel) ki_1 (pn 22 rfl ?_)
  refine s_iadd (by decide +kernel) (pn 23 rfl ?_)
  refine t_bipush (by decide +kernel) kb_10 (pn 25 rfl ?_)
  refine s_irem (by decide +kernel) (by decide) (pn 26 rfl ?_)
  refine s_putfieldI (by decide +kernel) fr_11_231 lq_0 (congrArg Prod.fst sh_0) (fun q => by cases q) (Or.inl rfl) (pn 29 rfl ?_)
  refine s_aload_n (i := 0) (by decide +kernel) rfl (pn 30 rfl ?_)
  refine s_aload_n (i := 0) (by decide +kernel) rfl (pn 31 rfl ?_)
  refine s_getfield (v := .int (M1.1 0 6)) (by decide +kernel) fr_11_228 lq_0 (congrArg Prod.fst sh_0) rfl (pn 34 rfl ?_)
  refine t_iconst (by decide +kernel) ki_1 (pn 35 rfl ?_)
  refine s_iadd (by decide +kernel) (pn 36 rfl ?_)
  refine t_bipush (by decide +kernel) kb_10 (pn 38 rfl ?_)
  refine s_callsI [.int ((M1.1 0 6) + 1), .int 10] rfl (by decide +kernel) ms_11_377 np_323 (Nat.le_of_ble_eq_true rfl) (cI_use h (fun r1 s2 M2 h => (pn 41 rfl ?_)))
  refine s_putfieldI (by decide +kernel) fr_11_228 lq_0 (congrArg Prod.fst sh_0) (fun q => by cases q) (Or.inl rfl) (pn 44 rfl ?_)
  exact s_return (st := []) (by decide +kernel) rfl ⟨rfl, s2, rfl, h⟩
abbrev wG_leave (d pc : Nat) (ls st : List Value) (s : pm_S) (M : pm_M) (Q : Int32 → pm_S → pm_M → Prop) : Prop := wI d prog_1_method_10_code 11 (some .int) false pc ls st s M Q
theorem enG_leave {d : Nat} {s : pm_S} {M : pm_M} {x1 : Int32} {Q : Int32 → pm_S → pm_M → Prop}  (h : cI d yS_heldThing [.ref 27, .int x1] s M (fun r1 s1 M1 => cV d yS_become [.ref 32, .ref 27] s1 M1 (fun s2 M2 => cI d yS_tryLeave [.ref 32, .ref 15, .int x1] s2 M2 (fun r2 s3 M3 => (((r2 = 0) → cI d yG_agreed [.ref 0, .int r1] s3 M3 (fun r3 s4 M4 => Q r3 s4 M4)) ∧ (¬ (r2 = 0) → Q (((-10) : Int32) - r2) s3 M3)))))) : cI (d + 1) yG_leave [.ref 0, .int x1] s M Q := by
  refine pm_toI (by decide) (Nat.le_of_ble_eq_true rfl) ?_
  show wG_leave d 0 [.ref 0, .int x1, .null, .null] [] s M Q
  refine s_aload_n (i := 0) (by decide +kernel) rfl (pn 1 rfl ?_)
  refine s_getfield (v := .ref 27) (by decide +kernel) fr_11_26 lq_0 (congrArg Prod.fst sh_0) (fv_ref pf_0_2) (pn 4 rfl ?_)
  refine s_iload_n (i := 1) (by decide +kernel) rfl (pn 5 rfl ?_)
  refine s_callvI [.int x1] rfl (by decide +kernel) mv_11_161 np_82 (Nat.le_of_ble_eq_true rfl) lq_27 ((congrArg Prod.fst sh_27).trans oc_82) (cI_use h (fun r1 s1 M1 h => (pn 8 rfl ?_)))
  refine s_istore_n (i := 2) (by decide +kernel) (Nat.le_of_ble_eq_true rfl) (pn 9 rfl (t_store (ls' := [.ref 0, .int x1, .int r1, .null]) rfl ?_))
  refine s_aload_n (i := 0) (by decide +kernel) rfl (pn 10 rfl ?_)
  refine s_getfield (v := .ref 32) (by decide +kernel) fr_11_30 lq_0 (congrArg Prod.fst sh_0) (fv_ref pf_0_3) (pn 13 rfl ?_)
  refine s_aload_n (i := 0) (by decide +kernel) rfl (pn 14 rfl ?_)
  refine s_getfield (v := .ref 27) (by decide +kernel) fr_11_26 lq_0 (congrArg Prod.fst sh_0) (fv_ref pf_0_2) (pn 17 rfl ?_)
  refine s_callvV [.ref 27] rfl (by decide +kernel) mv_11_186 np_83 (Nat.le_of_ble_eq_true rfl) lq_32 ((congrArg Prod.fst sh_32).trans oc_83) (cV_use h (fun s2 M2 h => (pn 20 rfl ?_)))
  refine s_aload_n (i := 0) (by decide +kernel) rfl (pn 21 rfl ?_)
  refine s_getfield (v := .ref 32) (by decide +kernel) fr_11_30 lq_0 (congrArg Prod.fst sh_0) (fv_ref pf_0_3) (pn 24 rfl ?_)
  refine s_aload_n (i := 0) (by decide +kernel) rfl (pn 25 rfl ?_)
  refine s_getfield (v := .ref 15) (by decide +kernel) fr_11_19 lq_0 (congrArg Prod.fst sh_0) (fv_ref pf_0_1) (pn 28 rfl ?_)
  refine s_iload_n (i := 1) (by decide +kernel) rfl (pn 29 rfl ?_)
  refine s_callvI [.ref 15, .int x1] rfl (by decide +kernel) mv_11_189 np_84 (Nat.le_of_ble_eq_true rfl) lq_32 ((congrArg Prod.fst sh_32).trans oc_84) (cI_use h (fun r2 s3 M3 h => (pn 32 rfl ?_)))
  refine s_istore_n (i := 3) (by decide +kernel) (Nat.le_of_ble_eq_true rfl) (pn 33 rfl (t_store (ls' := [.ref 0, .int x1, .int r1, .int r2]) rfl ?_))
  refine s_iload_n (i := 3) (by decide +kernel) rfl (pn 34 rfl ?_)
  refine s_if_eq (off := 10) (tgt := 44) (by decide +kernel) rfl (fun c1 => ?_) (fun c1 => (pn 37 rfl ?_))
  · have h := h.1 c1
    refine s_aload_n (i := 0) (by decide +kernel) rfl (pn 45 rfl ?_)
    refine s_iload_n (i := 2) (by decide +kernel) rfl (pn 46 rfl ?_)
    refine s_callvI [.int r1] rfl (by decide +kernel) mv_11_193 np_133 (Nat.le_of_ble_eq_true rfl) lq_0 ((congrArg Prod.fst sh_0).trans oc_133) (cI_use h (fun r3 s4 M4 h => (pn 49 rfl ?_)))
    exact s_ireturn (st := []) (by decide +kernel) (Or.inl rfl) ⟨_, rfl, s4, rfl, h⟩
  · have h := h.2 c1
    refine t_bipush (by decide +kernel) kb_m10 (pn 39 rfl ?_)
    refine s_iload_n (i := 3) (by decide +kernel) rfl (pn 40 rfl ?_)
    refine s_isub (by decide +kernel) (pn 41 rfl ?_)
    refine s_goto (off := 8) (tgt := 49) (by decide +kernel) rfl ?_
    exact s_ireturn (st := []) (by decide +kernel) (Or.inl rfl) ⟨_, rfl, s3, rfl, h⟩
abbrev wG_agreed (d pc : Nat) (ls st : List Value) (s : pm_S) (M : pm_M) (Q : Int32 → pm_S → pm_M → Prop) : Prop := wI d prog_1_method_50_code 11 (some .int) false pc ls st s M Q
theorem enG_agreed {d : Nat} {s : pm_S} {M : pm_M} {x1 : Int32} {Q : Int32 → pm_S → pm_M → Prop}  (h : cV d yG_remember [.ref 0] s M (fun s1 M1 => cV d yS_become [.ref 27, .ref 32] s1 M1 (fun s2 M2 => Q x1 s2 M2))) : cI (d + 1) yG_agreed [.ref 0, .int x1] s M Q := by
  refine pm_toI (by decide) (Nat.le_of_ble_eq_true rfl) ?_
  show wG_agreed d 0 [.ref 0, .int x1] [] s M Q
  refine s_aload_n (i := 0) (by decide +kernel) rfl (pn 1 rfl ?_)
  refine s_callvV [] rfl (by decide +kernel) mv_11_183 np_131 (Nat.le_of_ble_eq_true rfl) lq_0 ((congrArg Prod.fst sh_0).trans oc_131) (cV_use h (fun s1 M1 h => (pn 4 rfl ?_)))
  refine s_aload_n (i := 0) (by decide +kernel) rfl (pn 5 rfl ?_)
  refine s_getfield (v := .ref 27) (by decide +kernel) fr_11_26 lq_0 (congrArg Prod.fst sh_0) (fv_ref pf_0_2) (pn 8 rfl ?_)
  refine s_aload_n (i := 0) (by decide +kernel) rfl (pn 9 rfl ?_)
  refine s_getfield (v := .ref 32) (by decide +kernel) fr_11_30 lq_0 (congrArg Prod.fst sh_0) (fv_ref pf_0_3) (pn 12 rfl ?_)
  refine s_callvV [.ref 32] rfl (by decide +kernel) mv_11_186 np_83 (Nat.le_of_ble_eq_true rfl) lq_27 ((congrArg Prod.fst sh_27).trans oc_83) (cV_use h (fun s2 M2 h => (pn 15 rfl ?_)))
  refine s_iload_n (i := 1) (by decide +kernel) rfl (pn 16 rfl ?_)
  exact s_ireturn (st := []) (by decide +kernel) (Or.inl rfl) ⟨_, rfl, s2, rfl, h⟩
abbrev wG_fetch (d pc : Nat) (ls st : List Value) (s : pm_S) (M : pm_M) (Q : Int32 → pm_S → pm_M → Prop) : Prop := wI d prog_1_method_11_code 11 (some .int) false pc ls st s M Q
theorem enG_fetch {d : Nat} {s : pm_S} {M : pm_M} {x1 : Int32} {x2 : Int32} {Q : Int32 → pm_S → pm_M → Prop}  (h : cV d yS_become [.ref 32, .ref 27] s M (fun s1 M1 => cI d yS_tryFetch [.ref 32, .ref 15, .int x1, .int x2] s1 M1 (fun r1 s2 M2 => (((r1 = 0) → cI d yS_officeBits [.ref 32] s2 M2 (fun r2 s3 M3 => cI d yint_bitCount [.int r2] s3 M3 (fun r3 s4 M4 => cI d yG_agreed [.ref 0, .int r3] s4 M4 (fun r4 s5 M5 => Q r4 s5 M5)))) ∧ (¬ (r1 = 0) → Q (((-10) : Int32) - r1) s2 M2))))) : cI (d + 1) yG_fetch [.ref 0, .int x1, .int x2] s M Q := by
  refine pm_toI (by decide) (Nat.le_of_ble_eq_true rfl) ?_
  show wG_fetch d 0 [.ref 0, .int x1, .int x2, .null] [] s M Q
  refine s_aload_n (i := 0) (by decide +kernel) rfl (pn 1 rfl ?_)
  refine s_getfield (v := .ref 32) (by decide +kernel) fr_11_30 lq_0 (congrArg Prod.fst sh_0) (fv_ref pf_0_3) (pn 4 rfl ?_)
  refine s_aload_n (i := 0) (by decide +kernel) rfl (pn 5 rfl ?_)
  refine s_getfield (v := .ref 27) (by decide +kernel) fr_11_26 lq_0 (congrArg Prod.fst sh_0) (fv_ref pf_0_2) (pn 8 rfl ?_)
  refine s_callvV [.ref 27] rfl (by decide +kernel) mv_11_186 np_83 (Nat.le_of_ble_eq_true rfl) lq_32 ((congrArg Prod.fst sh_32).trans oc_83) (cV_use h (fun s1 M1 h => (pn 11 rfl ?_)))
  refine s_aload_n (i := 0) (by decide +kernel) rfl (pn 12 rfl ?_)
  refine s_getfield (v := .ref 32) (by decide +kernel) fr_11_30 lq_0 (congrArg Prod.fst sh_0) (fv_ref pf_0_3) (pn 15 rfl ?_)
  refine s_aload_n (i := 0) (by decide +kernel) rfl (pn 16 rfl ?_)
  refine s_getfield (v := .ref 15) (by decide +kernel) fr_11_19 lq_0 (congrArg Prod.fst sh_0) (fv_ref pf_0_1) (pn 19 rfl ?_)
  refine s_iload_n (i := 1) (by decide +kernel) rfl (pn 20 rfl ?_)
  refine s_iload_n (i := 2) (by decide +kernel) rfl (pn 21 rfl ?_)
  refine s_callvI [.ref 15, .int x1, .int x2] rfl (by decide +kernel) mv_11_196 np_85 (Nat.le_of_ble_eq_true rfl) lq_32 ((congrArg Prod.fst sh_32).trans oc_85) (cI_use h (fun r1 s2 M2 h => (pn 24 rfl ?_)))
  refine s_istore_n (i := 3) (by decide +kernel) (Nat.le_of_ble_eq_true rfl) (pn 25 rfl (t_store (ls' := [.ref 0, .int x1, .int x2, .int r1]) rfl ?_))
  refine s_iload_n (i := 3) (by decide +kernel) rfl (pn 26 rfl ?_)
  refine s_if_eq (off := 10) (tgt := 36) (by decide +kernel) rfl (fun c1 => ?_) (fun c1 => (pn 29 rfl ?_))
  · have h := h.1 c1
    refine s_aload_n (i := 0) (by decide +kernel) rfl (pn 37 rfl ?_)
    refine s_aload_n (i := 0) (by decide +kernel) rfl (pn 38 rfl ?_)
    refine s_getfield (v := .ref 32) (by decide +kernel) fr_11_30 lq_0 (congrArg Prod.fst sh_0) (fv_ref pf_0_3) (pn 41 rfl ?_)
    refine s_callvI [] rfl (by decide +kernel) mv_11_200 np_86 (Nat.le_of_ble_eq_true rfl) lq_32 ((congrArg Prod.fst sh_32).trans oc_86) (cI_use h (fun r2 s3 M3 h => (pn 44 rfl ?_)))
    refine s_callsI [.int r2] rfl (by decide +kernel) ms_11_204 np_322 (Nat.le_of_ble_eq_true rfl) (cI_use h (fun r3 s4 M4 h => (pn 47 rfl ?_)))
    refine s_callvI [.int r3] rfl (by decide +kernel) mv_11_193 np_133 (Nat.le_of_ble_eq_true rfl) lq_0 ((congrArg Prod.fst sh_0).trans oc_133) (cI_use h (fun r4 s5 M5 h => (pn 50 rfl ?_)))
    exact s_ireturn (st := []) (by decide +kernel) (Or.inl rfl) ⟨_, rfl, s5, rfl, h⟩
  · have h := h.2 c1
    refine t_bipush (by decide +kernel) kb_m10 (pn 31 rfl ?_)
    refine s_iload_n (i := 3) (by decide +kernel) rfl (pn 32 rfl ?_)
    refine s_isub (by decide +kernel) (pn 33 rfl ?_)
    refine s_goto (off := 17) (tgt := 50) (by decide +kernel) rfl ?_
    exact s_ireturn (st := []) (by decide +kernel) (Or.inl rfl) ⟨_, rfl, s2, rfl, h⟩
abbrev wG_open (d pc : Nat) (ls st : List Value) (s : pm_S) (M : pm_M) (Q : Int32 → pm_S → pm_M → Prop) : Prop := wI d prog_1_method_12_code 11 (some .int) false pc ls st s M Q
theorem enG_open {d : Nat} {s : pm_S} {M : pm_M} {x1 : Int32} {Q : Int32 → pm_S → pm_M → Prop}  (h : cV d yS_become [.ref 32, .ref 27] s M (fun s1 M1 => cI d yS_tryOpen [.ref 32, .ref 15, .int x1] s1 M1 (fun r1 s2 M2 => (((r1 = 0) → cI d yS_borneBy [.ref 32, .int x1] s2 M2 (fun r2 s3 M3 => cI d yG_agreed [.ref 0, .int r2] s3 M3 (fun r3 s4 M4 => Q r3 s4 M4))) ∧ (¬ (r1 = 0) → Q (((-10) : Int32) - r1) s2 M2))))) : cI (d + 1) yG_open [.ref 0, .int x1] s M Q := by
  refine pm_toI (by decide) (Nat.le_of_ble_eq_true rfl) ?_
  show wG_open d 0 [.ref 0, .int x1, .null] [] s M Q
  refine s_aload_n (i := 0) (by decide +kernel) rfl (pn 1 rfl ?_)
  refine s_getfield (v := .ref 32) (by decide +kernel) fr_11_30 lq_0 (congrArg Prod.fst sh_0) (fv_ref pf_0_3) (pn 4 rfl ?_)
  refine s_aload_n (i := 0) (by decide +kernel) rfl (pn 5 rfl ?_)
  refine s_getfield (v := .ref 27) (by decide +kernel) fr_11_26 lq_0 (congrArg Prod.fst sh_0) (fv_ref pf_0_2) (pn 8 rfl ?_)
  refine s_callvV [.ref 27] rfl (by decide +kernel) mv_11_186 np_83 (Nat.le_of_ble_eq_true rfl) lq_32 ((congrArg Prod.fst sh_32).trans oc_83) (cV_use h (fun s1 M1 h => (pn 11 rfl ?_)))
  refine s_aload_n (i := 0) (by decide +kernel) rfl (pn 12 rfl ?_)
  refine s_getfield (v := .ref 32) (by decide +kernel) fr_11_30 lq_0 (congrArg Prod.fst sh_0) (fv_ref pf_0_3) (pn 15 rfl ?_)
  refine s_aload_n (i := 0) (by decide +kernel) rfl (pn 16 rfl ?_)
  refine s_getfield (v := .ref 15) (by decide +kernel) fr_11_19 lq_0 (congrArg Prod.fst sh_0) (fv_ref pf_0_1) (pn 19 rfl ?_)
  refine s_iload_n (i := 1) (by decide +kernel) rfl (pn 20 rfl ?_)
  refine s_callvI [.ref 15, .int x1] rfl (by decide +kernel) mv_11_209 np_87 (Nat.le_of_ble_eq_true rfl) lq_32 ((congrArg Prod.fst sh_32).trans oc_87) (cI_use h (fun r1 s2 M2 h => (pn 23 rfl ?_)))
  refine s_istore_n (i := 2) (by decide +kernel) (Nat.le_of_ble_eq_true rfl) (pn 24 rfl (t_store (ls' := [.ref 0, .int x1, .int r1]) rfl ?_))
  refine s_iload_n (i := 2) (by decide +kernel) rfl (pn 25 rfl ?_)
  refine s_if_eq (off := 10) (tgt := 35) (by decide +kernel) rfl (fun c1 => ?_) (fun c1 => (pn 28 rfl ?_))
  · have h := h.1 c1
    refine s_aload_n (i := 0) (by decide +kernel) rfl (pn 36 rfl ?_)
    refine s_aload_n (i := 0) (by decide +kernel) rfl (pn 37 rfl ?_)
    refine s_getfield (v := .ref 32) (by decide +kernel) fr_11_30 lq_0 (congrArg Prod.fst sh_0) (fv_ref pf_0_3) (pn 40 rfl ?_)
    refine s_iload_n (i := 1) (by decide +kernel) rfl (pn 41 rfl ?_)
    refine s_callvI [.int x1] rfl (by decide +kernel) mv_11_212 np_88 (Nat.le_of_ble_eq_true rfl) lq_32 ((congrArg Prod.fst sh_32).trans oc_88) (cI_use h (fun r2 s3 M3 h => (pn 44 rfl ?_)))
    refine s_callvI [.int r2] rfl (by decide +kernel) mv_11_193 np_133 (Nat.le_of_ble_eq_true rfl) lq_0 ((congrArg Prod.fst sh_0).trans oc_133) (cI_use h (fun r3 s4 M4 h => (pn 47 rfl ?_)))
    exact s_ireturn (st := []) (by decide +kernel) (Or.inl rfl) ⟨_, rfl, s4, rfl, h⟩
  · have h := h.2 c1
    refine t_bipush (by decide +kernel) kb_m10 (pn 30 rfl ?_)
    refine s_iload_n (i := 2) (by decide +kernel) rfl (pn 31 rfl ?_)
    refine s_isub (by decide +kernel) (pn 32 rfl ?_)
    refine s_goto (off := 15) (tgt := 47) (by decide +kernel) rfl ?_
    exact s_ireturn (st := []) (by decide +kernel) (Or.inl rfl) ⟨_, rfl, s2, rfl, h⟩
abbrev wG_swap (d pc : Nat) (ls st : List Value) (s : pm_S) (M : pm_M) (Q : Int32 → pm_S → pm_M → Prop) : Prop := wI d prog_1_method_13_code 11 (some .int) false pc ls st s M Q
theorem enG_swap {d : Nat} {s : pm_S} {M : pm_M} {x1 : Int32} {x2 : Int32} {Q : Int32 → pm_S → pm_M → Prop}  (h : cV d yS_become [.ref 32, .ref 27] s M (fun s1 M1 => cI d yS_trySwap [.ref 32, .ref 15, .int x1, .int x2] s1 M1 (fun r1 s2 M2 => (((r1 = 0) → cI d yS_heldThing [.ref 32, .int x1] s2 M2 (fun r2 s3 M3 => cI d yG_agreed [.ref 0, .int r2] s3 M3 (fun r3 s4 M4 => Q r3 s4 M4))) ∧ (¬ (r1 = 0) → Q (((-10) : Int32) - r1) s2 M2))))) : cI (d + 1) yG_swap [.ref 0, .int x1, .int x2] s M Q := by
  refine pm_toI (by decide) (Nat.le_of_ble_eq_true rfl) ?_
  show wG_swap d 0 [.ref 0, .int x1, .int x2, .null] [] s M Q
  refine s_aload_n (i := 0) (by decide +kernel) rfl (pn 1 rfl ?_)
  refine s_getfield (v := .ref 32) (by decide +kernel) fr_11_30 lq_0 (congrArg Prod.fst sh_0) (fv_ref pf_0_3) (pn 4 rfl ?_)
  refine s_aload_n (i := 0) (by decide +kernel) rfl (pn 5 rfl ?_)
  refine s_getfield (v := .ref 27) (by decide +kernel) fr_11_26 lq_0 (congrArg Prod.fst sh_0) (fv_ref pf_0_2) (pn 8 rfl ?_)
  refine s_callvV [.ref 27] rfl (by decide +kernel) mv_11_186 np_83 (Nat.le_of_ble_eq_true rfl) lq_32 ((congrArg Prod.fst sh_32).trans oc_83) (cV_use h (fun s1 M1 h => (pn 11 rfl ?_)))
  refine s_aload_n (i := 0) (by decide +kernel) rfl (pn 12 rfl ?_)
  refine s_getfield (v := .ref 32) (by decide +kernel) fr_11_30 lq_0 (congrArg Prod.fst sh_0) (fv_ref pf_0_3) (pn 15 rfl ?_)
  refine s_aload_n (i := 0) (by decide +kernel) rfl (pn 16 rfl ?_)
  refine s_getfield (v := .ref 15) (by decide +kernel) fr_11_19 lq_0 (congrArg Prod.fst sh_0) (fv_ref pf_0_1) (pn 19 rfl ?_)
  refine s_iload_n (i := 1) (by decide +kernel) rfl (pn 20 rfl ?_)
  refine s_iload_n (i := 2) (by decide +kernel) rfl (pn 21 rfl ?_)
  refine s_callvI [.ref 15, .int x1, .int x2] rfl (by decide +kernel) mv_11_215 np_89 (Nat.le_of_ble_eq_true rfl) lq_32 ((congrArg Prod.fst sh_32).trans oc_89) (cI_use h (fun r1 s2 M2 h => (pn 24 rfl ?_)))
  refine s_istore_n (i := 3) (by decide +kernel) (Nat.le_of_ble_eq_true rfl) (pn 25 rfl (t_store (ls' := [.ref 0, .int x1, .int x2, .int r1]) rfl ?_))
  refine s_iload_n (i := 3) (by decide +kernel) rfl (pn 26 rfl ?_)
  refine s_if_eq (off := 10) (tgt := 36) (by decide +kernel) rfl (fun c1 => ?_) (fun c1 => (pn 29 rfl ?_))
  · have h := h.1 c1
    refine s_aload_n (i := 0) (by decide +kernel) rfl (pn 37 rfl ?_)
    refine s_aload_n (i := 0) (by decide +kernel) rfl (pn 38 rfl ?_)
    refine s_getfield (v := .ref 32) (by decide +kernel) fr_11_30 lq_0 (congrArg Prod.fst sh_0) (fv_ref pf_0_3) (pn 41 rfl ?_)
    refine s_iload_n (i := 1) (by decide +kernel) rfl (pn 42 rfl ?_)
    refine s_callvI [.int x1] rfl (by decide +kernel) mv_11_161 np_82 (Nat.le_of_ble_eq_true rfl) lq_32 ((congrArg Prod.fst sh_32).trans oc_82) (cI_use h (fun r2 s3 M3 h => (pn 45 rfl ?_)))
    refine s_callvI [.int r2] rfl (by decide +kernel) mv_11_193 np_133 (Nat.le_of_ble_eq_true rfl) lq_0 ((congrArg Prod.fst sh_0).trans oc_133) (cI_use h (fun r3 s4 M4 h => (pn 48 rfl ?_)))
    exact s_ireturn (st := []) (by decide +kernel) (Or.inl rfl) ⟨_, rfl, s4, rfl, h⟩
  · have h := h.2 c1
    refine t_bipush (by decide +kernel) kb_m10 (pn 31 rfl ?_)
    refine s_iload_n (i := 3) (by decide +kernel) rfl (pn 32 rfl ?_)
    refine s_isub (by decide +kernel) (pn 33 rfl ?_)
    refine s_goto (off := 15) (tgt := 48) (by decide +kernel) rfl ?_
    exact s_ireturn (st := []) (by decide +kernel) (Or.inl rfl) ⟨_, rfl, s2, rfl, h⟩
abbrev wG_mark (d pc : Nat) (ls st : List Value) (s : pm_S) (M : pm_M) (Q : Int32 → pm_S → pm_M → Prop) : Prop := wI d prog_1_method_14_code 11 (some .int) false pc ls st s M Q
theorem enG_mark {d : Nat} {s : pm_S} {M : pm_M} {x1 : Int32} {x2 : Int32} {Q : Int32 → pm_S → pm_M → Prop}  (h : cI d yS_markOf [.ref 27, .int x1] s M (fun r1 s1 M1 => cV d yS_become [.ref 32, .ref 27] s1 M1 (fun s2 M2 => cI d yS_tryMark [.ref 32, .ref 15, .int x1, .int x2] s2 M2 (fun r2 s3 M3 => (((r2 = 0) → cI d yG_agreed [.ref 0, .int r1] s3 M3 (fun r3 s4 M4 => Q r3 s4 M4)) ∧ (¬ (r2 = 0) → Q (((-10) : Int32) - r2) s3 M3)))))) : cI (d + 1) yG_mark [.ref 0, .int x1, .int x2] s M Q := by
  refine pm_toI (by decide) (Nat.le_of_ble_eq_true rfl) ?_
  show wG_mark d 0 [.ref 0, .int x1, .int x2, .null, .null] [] s M Q
  refine s_aload_n (i := 0) (by decide +kernel) rfl (pn 1 rfl ?_)
  refine s_getfield (v := .ref 27) (by decide +kernel) fr_11_26 lq_0 (congrArg Prod.fst sh_0) (fv_ref pf_0_2) (pn 4 rfl ?_)
  refine s_iload_n (i := 1) (by decide +kernel) rfl (pn 5 rfl ?_)
  refine s_callvI [.int x1] rfl (by decide +kernel) mv_11_218 np_90 (Nat.le_of_ble_eq_true rfl) lq_27 ((congrArg Prod.fst sh_27).trans oc_90) (cI_use h (fun r1 s1 M1 h => (pn 8 rfl ?_)))
  refine s_istore_n (i := 3) (by decide +kernel) (Nat.le_of_ble_eq_true rfl) (pn 9 rfl (t_store (ls' := [.ref 0, .int x1, .int x2, .int r1, .null]) rfl ?_))
  refine s_aload_n (i := 0) (by decide +kernel) rfl (pn 10 rfl ?_)
  refine s_getfield (v := .ref 32) (by decide +kernel) fr_11_30 lq_0 (congrArg Prod.fst sh_0) (fv_ref pf_0_3) (pn 13 rfl ?_)
  refine s_aload_n (i := 0) (by decide +kernel) rfl (pn 14 rfl ?_)
  refine s_getfield (v := .ref 27) (by decide +kernel) fr_11_26 lq_0 (congrArg Prod.fst sh_0) (fv_ref pf_0_2) (pn 17 rfl ?_)
  refine s_callvV [.ref 27] rfl (by decide +kernel) mv_11_186 np_83 (Nat.le_of_ble_eq_true rfl) lq_32 ((congrArg Prod.fst sh_32).trans oc_83) (cV_use h (fun s2 M2 h => (pn 20 rfl ?_)))
  refine s_aload_n (i := 0) (by decide +kernel) rfl (pn 21 rfl ?_)
  refine s_getfield (v := .ref 32) (by decide +kernel) fr_11_30 lq_0 (congrArg Prod.fst sh_0) (fv_ref pf_0_3) (pn 24 rfl ?_)
  refine s_aload_n (i := 0) (by decide +kernel) rfl (pn 25 rfl ?_)
  refine s_getfield (v := .ref 15) (by decide +kernel) fr_11_19 lq_0 (congrArg Prod.fst sh_0) (fv_ref pf_0_1) (pn 28 rfl ?_)
  refine s_iload_n (i := 1) (by decide +kernel) rfl (pn 29 rfl ?_)
  refine s_iload_n (i := 2) (by decide +kernel) rfl (pn 30 rfl ?_)
  refine s_callvI [.ref 15, .int x1, .int x2] rfl (by decide +kernel) mv_11_221 np_91 (Nat.le_of_ble_eq_true rfl) lq_32 ((congrArg Prod.fst sh_32).trans oc_91) (cI_use h (fun r2 s3 M3 h => (pn 33 rfl ?_)))
  refine s_istore (i := 4) (by decide +kernel) (Nat.le_of_ble_eq_true rfl) (pn 35 rfl (t_store (ls' := [.ref 0, .int x1, .int x2, .int r1, .int r2]) rfl ?_))
  refine s_iload (i := 4) (by decide +kernel) rfl (pn 37 rfl ?_)
  refine s_if_eq (off := 11) (tgt := 48) (by decide +kernel) rfl (fun c1 => ?_) (fun c1 => (pn 40 rfl ?_))
  · have h := h.1 c1
    refine s_aload_n (i := 0) (by decide +kernel) rfl (pn 49 rfl ?_)
    refine s_iload_n (i := 3) (by decide +kernel) rfl (pn 50 rfl ?_)
    refine s_callvI [.int r1] rfl (by decide +kernel) mv_11_193 np_133 (Nat.le_of_ble_eq_true rfl) lq_0 ((congrArg Prod.fst sh_0).trans oc_133) (cI_use h (fun r3 s4 M4 h => (pn 53 rfl ?_)))
    exact s_ireturn (st := []) (by decide +kernel) (Or.inl rfl) ⟨_, rfl, s4, rfl, h⟩
  · have h := h.2 c1
    refine t_bipush (by decide +kernel) kb_m10 (pn 42 rfl ?_)
    refine s_iload (i := 4) (by decide +kernel) rfl (pn 44 rfl ?_)
    refine s_isub (by decide +kernel) (pn 45 rfl ?_)
    refine s_goto (off := 8) (tgt := 53) (by decide +kernel) rfl ?_
    exact s_ireturn (st := []) (by decide +kernel) (Or.inl rfl) ⟨_, rfl, s3, rfl, h⟩
abbrev wG_days (d pc : Nat) (ls st : List Value) (s : pm_S) (M : pm_M) (Q : Int32 → pm_S → pm_M → Prop) : Prop := wI d prog_1_method_15_code 11 (some .int) false pc ls st s M Q
theorem enG_days {d : Nat} {s : pm_S} {M : pm_M} {x1 : Int32} {Q : Int32 → pm_S → pm_M → Prop}  (h : (((x1 < 1) → Q (-3) s M) ∧ (¬ (x1 < 1) → (((x1 ≤ 99) → cV d yS_become [.ref 32, .ref 27] s M (fun s1 M1 => wG_days d 29 [.ref 0, .int x1, .int 0, .int 0] [] s1 M1 Q)) ∧ (¬ (x1 ≤ 99) → Q (-3) s M))))) : cI (d + 1) yG_days [.ref 0, .int x1] s M Q := by
  refine pm_toI (by decide) (Nat.le_of_ble_eq_true rfl) ?_
  show wG_days d 0 [.ref 0, .int x1, .null, .null] [] s M Q
  refine s_iload_n (i := 1) (by decide +kernel) rfl (pn 1 rfl ?_)
  refine t_iconst (by decide +kernel) ki_1 (pn 2 rfl ?_)
  refine s_icmp_lt (off := 9) (tgt := 11) (by decide +kernel) rfl (fun c1 => ?_) (fun c1 => (pn 5 rfl ?_))
  · have h := h.1 c1
    refine t_bipush (by decide +kernel) kb_m3 (pn 13 rfl ?_)
    exact s_ireturn (st := []) (by decide +kernel) (Or.inl rfl) ⟨_, rfl, s, rfl, h⟩
  · have h := h.2 c1
    refine s_iload_n (i := 1) (by decide +kernel) rfl (pn 6 rfl ?_)
    refine t_bipush (by decide +kernel) kb_99 (pn 8 rfl ?_)
    refine s_icmp_le (off := 6) (tgt := 14) (by decide +kernel) rfl (fun c2 => ?_) (fun c2 => (pn 11 rfl ?_))
    · have h := h.1 c2
      refine s_aload_n (i := 0) (by decide +kernel) rfl (pn 15 rfl ?_)
      refine s_getfield (v := .ref 32) (by decide +kernel) fr_11_30 lq_0 (congrArg Prod.fst sh_0) (fv_ref pf_0_3) (pn 18 rfl ?_)
      refine s_aload_n (i := 0) (by decide +kernel) rfl (pn 19 rfl ?_)
      refine s_getfield (v := .ref 27) (by decide +kernel) fr_11_26 lq_0 (congrArg Prod.fst sh_0) (fv_ref pf_0_2) (pn 22 rfl ?_)
      refine s_callvV [.ref 27] rfl (by decide +kernel) mv_11_186 np_83 (Nat.le_of_ble_eq_true rfl) lq_32 ((congrArg Prod.fst sh_32).trans oc_83) (cV_use h (fun s1 M1 h => (pn 25 rfl ?_)))
      refine t_iconst (by decide +kernel) ki_0 (pn 26 rfl ?_)
      refine s_istore_n (i := 2) (by decide +kernel) (Nat.le_of_ble_eq_true rfl) (pn 27 rfl (t_store (ls' := [.ref 0, .int x1, .int 0, .null]) rfl ?_))
      refine t_iconst (by decide +kernel) ki_0 (pn 28 rfl ?_)
      refine s_istore_n (i := 3) (by decide +kernel) (Nat.le_of_ble_eq_true rfl) (pn 29 rfl (t_store (ls' := [.ref 0, .int x1, .int 0, .int 0]) rfl ?_))
      exact h
    · have h := h.2 c2
      refine t_bipush (by decide +kernel) kb_m3 (pn 13 rfl ?_)
      exact s_ireturn (st := []) (by decide +kernel) (Or.inl rfl) ⟨_, rfl, s, rfl, h⟩
theorem sgG_days_29 {d : Nat} {s : pm_S} {M : pm_M} {l1 : Int32} {l2 : Int32} {l3 : Int32} {Q : Int32 → pm_S → pm_M → Prop}  (h : (((l1 ≤ l3) → cI d yG_agreed [.ref 0, .int l2] s M (fun r1 s1 M1 => Q r1 s1 M1)) ∧ (¬ (l1 ≤ l3) → cI d yS_passDay [.ref 32, .ref 15] s M (fun r2 s2 M2 => wG_days d 29 [.ref 0, .int l1, .int (l2 + r2), .int (l3 + 1)] [] s2 M2 Q)))) : wG_days d 29 [.ref 0, .int l1, .int l2, .int l3] [] s M Q := by
  refine s_iload_n (i := 3) (by decide +kernel) rfl (pn 30 rfl ?_)
  refine s_iload_n (i := 1) (by decide +kernel) rfl (pn 31 rfl ?_)
  refine s_icmp_ge (off := 23) (tgt := 54) (by decide +kernel) rfl (fun c1 => ?_) (fun c1 => (pn 34 rfl ?_))
  · have h := h.1 c1
    refine s_aload_n (i := 0) (by decide +kernel) rfl (pn 55 rfl ?_)
    refine s_iload_n (i := 2) (by decide +kernel) rfl (pn 56 rfl ?_)
    refine s_callvI [.int l2] rfl (by decide +kernel) mv_11_193 np_133 (Nat.le_of_ble_eq_true rfl) lq_0 ((congrArg Prod.fst sh_0).trans oc_133) (cI_use h (fun r1 s1 M1 h => (pn 59 rfl ?_)))
    exact s_ireturn (st := []) (by decide +kernel) (Or.inl rfl) ⟨_, rfl, s1, rfl, h⟩
  · have h := h.2 c1
    refine s_iload_n (i := 2) (by decide +kernel) rfl (pn 35 rfl ?_)
    refine s_aload_n (i := 0) (by decide +kernel) rfl (pn 36 rfl ?_)
    refine s_getfield (v := .ref 32) (by decide +kernel) fr_11_30 lq_0 (congrArg Prod.fst sh_0) (fv_ref pf_0_3) (pn 39 rfl ?_)
    refine s_aload_n (i := 0) (by decide +kernel) rfl (pn 40 rfl ?_)
    refine s_getfield (v := .ref 15) (by decide +kernel) fr_11_19 lq_0 (congrArg Prod.fst sh_0) (fv_ref pf_0_1) (pn 43 rfl ?_)
    refine s_callvI [.ref 15] rfl (by decide +kernel) mv_11_224 np_92 (Nat.le_of_ble_eq_true rfl) lq_32 ((congrArg Prod.fst sh_32).trans oc_92) (cI_use h (fun r2 s2 M2 h => (pn 46 rfl ?_)))
    refine s_iadd (by decide +kernel) (pn 47 rfl ?_)
    refine s_istore_n (i := 2) (by decide +kernel) (Nat.le_of_ble_eq_true rfl) (pn 48 rfl (t_store (ls' := [.ref 0, .int l1, .int (l2 + r2), .int l3]) rfl ?_))
    refine t_iinc (i := 3) (n := 1) (ls' := [.ref 0, .int l1, .int (l2 + r2), .int (l3 + 1)]) (by decide +kernel) rfl (Nat.le_of_ble_eq_true rfl) kn_1 rfl (pn 51 rfl ?_)
    refine s_goto (off := -22) (tgt := 29) (by decide +kernel) rfl ?_
    exact h
abbrev wG_undo (d pc : Nat) (ls st : List Value) (s : pm_S) (M : pm_M) (Q : Int32 → pm_S → pm_M → Prop) : Prop := wI d prog_1_method_16_code 11 (some .int) false pc ls st s M Q
theorem enG_undo {d : Nat} {s : pm_S} {M : pm_M} {x1 : Int32} {Q : Int32 → pm_S → pm_M → Prop}  (h : (((x1 < 1) → Q (-3) s M) ∧ (¬ (x1 < 1) → (((10 < x1) → Q (-3) s M) ∧ (¬ (10 < x1) → (((x1 ≤ (M.1 0 6)) → cI d ymath_floorMod [.int ((M.1 0 5) - x1), .int 10] s M (fun r1 s1 M1 => vp_in r1 10 ∧ ∀ o1 : Nat, o1 = 67 + 5 * r1.toNatClampNeg → isS o1 → cV d yS_become [.ref 27, .ref o1] s1 (pm_si M1 0 5 r1) (fun s2 M2 => Q ((M2.1 0 6) - x1) s2 (pm_si M2 0 6 ((M2.1 0 6) - x1))))) ∧ (¬ (x1 ≤ (M.1 0 6)) → Q (-3) s M))))))) : cI (d + 1) yG_undo [.ref 0, .int x1] s M Q := by
  refine pm_toI (by decide) (Nat.le_of_ble_eq_true rfl) ?_
  show wG_undo d 0 [.ref 0, .int x1] [] s M Q
  refine s_iload_n (i := 1) (by decide +kernel) rfl (pn 1 rfl ?_)
  refine t_iconst (by decide +kernel) ki_1 (pn 2 rfl ?_)
  refine s_icmp_lt (off := 17) (tgt := 19) (by decide +kernel) rfl (fun c1 => ?_) (fun c1 => (pn 5 rfl ?_))
  · have h := h.1 c1
    refine t_bipush (by decide +kernel) kb_m3 (pn 21 rfl ?_)
    exact s_ireturn (st := []) (by decide +kernel) (Or.inl rfl) ⟨_, rfl, s, rfl, h⟩
  · have h := h.2 c1
    refine s_iload_n (i := 1) (by decide +kernel) rfl (pn 6 rfl ?_)
    refine t_bipush (by decide +kernel) kb_10 (pn 8 rfl ?_)
    refine s_icmp_gt (off := 11) (tgt := 19) (by decide +kernel) rfl (fun c2 => ?_) (fun c2 => (pn 11 rfl ?_))
    · have h := h.1 c2
      refine t_bipush (by decide +kernel) kb_m3 (pn 21 rfl ?_)
      exact s_ireturn (st := []) (by decide +kernel) (Or.inl rfl) ⟨_, rfl, s, rfl, h⟩
    · have h := h.2 c2
      refine s_iload_n (i := 1) (by decide +kernel) rfl (pn 12 rfl ?_)
      refine s_aload_n (i := 0) (by decide +kernel) rfl (pn 13 rfl ?_)
      refine s_getfield (v := .int (M.1 0 6)) (by decide +kernel) fr_11_228 lq_0 (congrArg Prod.fst sh_0) rfl (pn 16 rfl ?_)
      refine s_icmp_le (off := 6) (tgt := 22) (by decide +kernel) rfl (fun c3 => ?_) (fun c3 => (pn 19 rfl ?_))
      · have h := h.1 c3
        refine s_aload_n (i := 0) (by decide +kernel) rfl (pn 23 rfl ?_)
        refine s_aload_n (i := 0) (by decide +kernel) rfl (pn 24 rfl ?_)
        refine s_getfield (v := .int (M.1 0 5)) (by decide +kernel) fr_11_231 lq_0 (congrArg Prod.fst sh_0) rfl (pn 27 rfl ?_)
        refine s_iload_n (i := 1) (by decide +kernel) rfl (pn 28 rfl ?_)
        refine s_isub (by decide +kernel) (pn 29 rfl ?_)
        refine t_bipush (by decide +kernel) kb_10 (pn 31 rfl ?_)
        refine s_callsI [.int ((M.1 0 5) - x1), .int 10] rfl (by decide +kernel) ms_11_234 np_325 (Nat.le_of_ble_eq_true rfl) (cI_use h (fun r1 s1 M1 h => (pn 34 rfl ?_)))
        refine s_putfieldI (by decide +kernel) fr_11_231 lq_0 (congrArg Prod.fst sh_0) (fun q => by cases q) (Or.inl rfl) (pn 37 rfl ?_)
        refine s_aload_n (i := 0) (by decide +kernel) rfl (pn 38 rfl ?_)
        refine s_getfield (v := .ref 27) (by decide +kernel) fr_11_26 lq_0 (congrArg Prod.fst sh_0) (fv_ref pf_0_2) (pn 41 rfl ?_)
        refine s_aload_n (i := 0) (by decide +kernel) rfl (pn 42 rfl ?_)
        refine s_getfield (v := .ref 37) (by decide +kernel) fr_11_33 lq_0 (congrArg Prod.fst sh_0) (fv_ref pf_0_4) (pn 45 rfl ?_)
        refine s_aload_n (i := 0) (by decide +kernel) rfl (pn 46 rfl ?_)
        refine s_getfield (v := .int r1) (by decide +kernel) fr_11_231 lq_0 (congrArg Prod.fst sh_0) rfl (pn 49 rfl ?_)
        obtain ⟨b1, h⟩ := h
        obtain ⟨o1, eo1, ho1⟩ : ∃ zz : Nat, zz = 67 + 5 * r1.toNatClampNeg ∧ isS zz := ⟨_, rfl, pq_37 (vp_nat b1)⟩
        refine t_aaload (x := o1) (by decide +kernel) ⟨lq_37, by rw [sh_37]; decide, by rw [sh_37]; decide⟩ (al_in sh_37 b1) (by rw [eo1]; exact pa_37 (vp_nat b1)) (pn 50 rfl ?_)
        have h := h o1 eo1 ho1
        refine s_callvV [.ref o1] rfl (by decide +kernel) mv_11_186 np_83 (Nat.le_of_ble_eq_true rfl) lq_27 ((congrArg Prod.fst sh_27).trans oc_83) (cV_use h (fun s2 M2 h => (pn 53 rfl ?_)))
        refine s_aload_n (i := 0) (by decide +kernel) rfl (pn 54 rfl ?_)
        refine s_dup (by decide +kernel) rfl (pn 55 rfl ?_)
        refine s_getfield (v := .int (M2.1 0 6)) (by decide +kernel) fr_11_228 lq_0 (congrArg Prod.fst sh_0) rfl (pn 58 rfl ?_)
        refine s_iload_n (i := 1) (by decide +kernel) rfl (pn 59 rfl ?_)
        refine s_isub (by decide +kernel) (pn 60 rfl ?_)
        refine s_putfieldI (by decide +kernel) fr_11_228 lq_0 (congrArg Prod.fst sh_0) (fun q => by cases q) (Or.inl rfl) (pn 63 rfl ?_)
        refine s_aload_n (i := 0) (by decide +kernel) rfl (pn 64 rfl ?_)
        refine s_getfield (v := .int ((M2.1 0 6) - x1)) (by decide +kernel) fr_11_228 lq_0 (congrArg Prod.fst sh_0) rfl (pn 67 rfl ?_)
        exact s_ireturn (st := []) (by decide +kernel) (Or.inl rfl) ⟨_, rfl, s2, rfl, h⟩
      · have h := h.2 c3
        refine t_bipush (by decide +kernel) kb_m3 (pn 21 rfl ?_)
        exact s_ireturn (st := []) (by decide +kernel) (Or.inl rfl) ⟨_, rfl, s, rfl, h⟩
abbrev wG_judge (d pc : Nat) (ls st : List Value) (s : pm_S) (M : pm_M) (Q : Int32 → pm_S → pm_M → Prop) : Prop := wI d prog_1_method_17_code 11 (some .int) false pc ls st s M Q
theorem enG_judge {d : Nat} {s : pm_S} {M : pm_M} {x1 : Int32} {x2 : Int32} {Q : Int32 → pm_S → pm_M → Prop}  (h : cI d yG_hasTray [.ref 0, .int x1] s M (fun r1 s1 M1 => (((r1 = 0) → Q (-2) s1 M1) ∧ (¬ (r1 = 0) → (((x2 < 0) → Q (-2) s1 M1) ∧ (¬ (x2 < 0) → (((x2 ≤ 3) → vp_in x1 4 ∧ ∀ o1 : Nat, o1 = 117 + 2 * x1.toNatClampNeg → isY o1 → cI d yY_isMissing [.ref o1] s1 M1 (fun r2 s2 M2 => (((r2 = 0) → cV d yS_become [.ref 32, .ref 27] s2 M2 (fun s3 M3 => vp_in x1 4 ∧ ∀ o2 : Nat, o2 = 117 + 2 * x1.toNatClampNeg → isY o2 → cI d yS_doAll [.ref 32, .ref 15, .ref o2] s3 M3 (fun r3 s4 M4 => ((x2 = 0 → Q ((if (M4.1 32 7) = 0 then (-1) else r3) : Int32) s4 M4) ∧ (¬ x2 = 0 → ((x2 = 1 → Q (M4.1 32 7) s4 M4) ∧ (¬ x2 = 1 → ((x2 = 2 → cI d yS_holderBits [.ref 32] s4 M4 (fun r4 s5 M5 => Q r4 s5 M5)) ∧ (¬ x2 = 2 → cI d yS_officeBits [.ref 32] s4 M4 (fun r5 s6 M6 => cI d yint_bitCount [.int r5] s6 M6 (fun r6 s7 M7 => Q r6 s7 M7))))))))))) ∧ (¬ (r2 = 0) → Q (-6) s2 M2)))) ∧ (¬ (x2 ≤ 3) → Q (-2) s1 M1)))))))) : cI (d + 1) yG_judge [.ref 0, .int x1, .int x2] s M Q := by
  refine pm_toI (by decide) (Nat.le_of_ble_eq_true rfl) ?_
  show wG_judge d 0 [.ref 0, .int x1, .int x2, .null] [] s M Q
  refine s_aload_n (i := 0) (by decide +kernel) rfl (pn 1 rfl ?_)
  refine s_iload_n (i := 1) (by decide +kernel) rfl (pn 2 rfl ?_)
  refine s_callvI [.int x1] rfl (by decide +kernel) mv_11_240 np_141 (Nat.le_of_ble_eq_true rfl) lq_0 ((congrArg Prod.fst sh_0).trans oc_141) (cI_use h (fun r1 s1 M1 h => (pn 5 rfl ?_)))
  refine s_if_eq (off := 12) (tgt := 17) (by decide +kernel) rfl (fun c1 => ?_) (fun c1 => (pn 8 rfl ?_))
  · have h := h.1 c1
    refine t_bipush (by decide +kernel) kb_m2 (pn 19 rfl ?_)
    exact s_ireturn (st := []) (by decide +kernel) (Or.inl rfl) ⟨_, rfl, s1, rfl, h⟩
  · have h := h.2 c1
    refine s_iload_n (i := 2) (by decide +kernel) rfl (pn 9 rfl ?_)
    refine s_if_lt (off := 8) (tgt := 17) (by decide +kernel) rfl (fun c2 => ?_) (fun c2 => (pn 12 rfl ?_))
    · have h := h.1 c2
      refine t_bipush (by decide +kernel) kb_m2 (pn 19 rfl ?_)
      exact s_ireturn (st := []) (by decide +kernel) (Or.inl rfl) ⟨_, rfl, s1, rfl, h⟩
    · have h := h.2 c2
      refine s_iload_n (i := 2) (by decide +kernel) rfl (pn 13 rfl ?_)
      refine t_iconst (by decide +kernel) ki_3 (pn 14 rfl ?_)
      refine s_icmp_le (off := 6) (tgt := 20) (by decide +kernel) rfl (fun c3 => ?_) (fun c3 => (pn 17 rfl ?_))
      · have h := h.1 c3
        refine s_aload_n (i := 0) (by decide +kernel) rfl (pn 21 rfl ?_)
        refine s_getfield (v := .ref 38) (by decide +kernel) fr_11_39 lq_0 (congrArg Prod.fst sh_0) (fv_ref pf_0_7) (pn 24 rfl ?_)
        refine s_iload_n (i := 1) (by decide +kernel) rfl (pn 25 rfl ?_)
        obtain ⟨b1, h⟩ := h
        obtain ⟨o1, eo1, ho1⟩ : ∃ zz : Nat, zz = 117 + 2 * x1.toNatClampNeg ∧ isY zz := ⟨_, rfl, pq_38 (vp_nat b1)⟩
        refine t_aaload (x := o1) (by decide +kernel) ⟨lq_38, by rw [sh_38]; decide, by rw [sh_38]; decide⟩ (al_in sh_38 b1) (by rw [eo1]; exact pa_38 (vp_nat b1)) (pn 26 rfl ?_)
        have h := h o1 eo1 ho1
        refine s_callvI [] rfl (by decide +kernel) mv_11_243 np_107 (Nat.le_of_ble_eq_true rfl) (ltY_0 ho1) ((congrArg Prod.fst (shY_0 ho1)).trans oc_107) (cI_use h (fun r2 s2 M2 h => (pn 29 rfl ?_)))
        refine s_if_eq (off := 6) (tgt := 35) (by decide +kernel) rfl (fun c4 => ?_) (fun c4 => (pn 32 rfl ?_))
        · have h := h.1 c4
          refine s_aload_n (i := 0) (by decide +kernel) rfl (pn 36 rfl ?_)
          refine s_getfield (v := .ref 32) (by decide +kernel) fr_11_30 lq_0 (congrArg Prod.fst sh_0) (fv_ref pf_0_3) (pn 39 rfl ?_)
          refine s_aload_n (i := 0) (by decide +kernel) rfl (pn 40 rfl ?_)
          refine s_getfield (v := .ref 27) (by decide +kernel) fr_11_26 lq_0 (congrArg Prod.fst sh_0) (fv_ref pf_0_2) (pn 43 rfl ?_)
          refine s_callvV [.ref 27] rfl (by decide +kernel) mv_11_186 np_83 (Nat.le_of_ble_eq_true rfl) lq_32 ((congrArg Prod.fst sh_32).trans oc_83) (cV_use h (fun s3 M3 h => (pn 46 rfl ?_)))
          refine s_aload_n (i := 0) (by decide +kernel) rfl (pn 47 rfl ?_)
          refine s_getfield (v := .ref 32) (by decide +kernel) fr_11_30 lq_0 (congrArg Prod.fst sh_0) (fv_ref pf_0_3) (pn 50 rfl ?_)
          refine s_aload_n (i := 0) (by decide +kernel) rfl (pn 51 rfl ?_)
          refine s_getfield (v := .ref 15) (by decide +kernel) fr_11_19 lq_0 (congrArg Prod.fst sh_0) (fv_ref pf_0_1) (pn 54 rfl ?_)
          refine s_aload_n (i := 0) (by decide +kernel) rfl (pn 55 rfl ?_)
          refine s_getfield (v := .ref 38) (by decide +kernel) fr_11_39 lq_0 (congrArg Prod.fst sh_0) (fv_ref pf_0_7) (pn 58 rfl ?_)
          refine s_iload_n (i := 1) (by decide +kernel) rfl (pn 59 rfl ?_)
          obtain ⟨b2, h⟩ := h
          obtain ⟨o2, eo2, ho2⟩ : ∃ zz : Nat, zz = 117 + 2 * x1.toNatClampNeg ∧ isY zz := ⟨_, rfl, pq_38 (vp_nat b2)⟩
          refine t_aaload (x := o2) (by decide +kernel) ⟨lq_38, by rw [sh_38]; decide, by rw [sh_38]; decide⟩ (al_in sh_38 b2) (by rw [eo2]; exact pa_38 (vp_nat b2)) (pn 60 rfl ?_)
          have h := h o2 eo2 ho2
          refine s_callvI [.ref 15, .ref o2] rfl (by decide +kernel) mv_11_246 np_95 (Nat.le_of_ble_eq_true rfl) lq_32 ((congrArg Prod.fst sh_32).trans oc_95) (cI_use h (fun r3 s4 M4 h => (pn 63 rfl ?_)))
          refine s_istore_n (i := 3) (by decide +kernel) (Nat.le_of_ble_eq_true rfl) (pn 64 rfl (t_store (ls' := [.ref 0, .int x1, .int x2, .int r3]) rfl ?_))
          refine s_iload_n (i := 2) (by decide +kernel) rfl (pn 65 rfl ?_)
          by_cases c5 : x2 = 0
          · refine s_tableswitch (dflt := 59) (lo := 0) (hi := 2) (offs := #[27, 43, 51]) (len := 27) (tgt := 92) (by decide +kernel) (by rw [c5]; decide) (by rw [c5]; decide) ?_
            have h := h.1 c5
            refine s_aload_n (i := 0) (by decide +kernel) rfl (pn 93 rfl ?_)
            refine s_getfield (v := .ref 32) (by decide +kernel) fr_11_30 lq_0 (congrArg Prod.fst sh_0) (fv_ref pf_0_3) (pn 96 rfl ?_)
            refine s_getfield (v := .int (M4.1 32 7)) (by decide +kernel) fr_11_250 lq_32 (congrArg Prod.fst sh_32) rfl (pn 99 rfl ?_)
            have k1 : ∀ (z1 : Int32) (z1e : z1 = ((if (M4.1 32 7) = 0 then (-1) else r3) : Int32)), wG_judge d 107 [.ref 0, .int x1, .int x2, .int r3] [.int z1] s4 M4 Q := by
              intro z1 z1e
              subst z1e
              exact s_ireturn (st := []) (by decide +kernel) (Or.inl rfl) ⟨_, rfl, s4, rfl, h⟩
            refine s_if_eq (off := 7) (tgt := 106) (by decide +kernel) rfl (fun c6 => ?_) (fun c6 => (pn 102 rfl ?_))
            · refine t_iconst (by decide +kernel) ki_m1 (pn 107 rfl ?_)
              exact k1 _ (by simp only [if_pos c6])
            · refine s_iload_n (i := 3) (by decide +kernel) rfl (pn 103 rfl ?_)
              refine s_goto (off := 4) (tgt := 107) (by decide +kernel) rfl ?_
              exact k1 _ (by simp only [if_neg c6])
          have h := h.2 c5
          by_cases c7 : x2 = 1
          · refine s_tableswitch (dflt := 59) (lo := 0) (hi := 2) (offs := #[27, 43, 51]) (len := 27) (tgt := 108) (by decide +kernel) (by rw [c7]; decide) (by rw [c7]; decide) ?_
            have h := h.1 c7
            refine s_aload_n (i := 0) (by decide +kernel) rfl (pn 109 rfl ?_)
            refine s_getfield (v := .ref 32) (by decide +kernel) fr_11_30 lq_0 (congrArg Prod.fst sh_0) (fv_ref pf_0_3) (pn 112 rfl ?_)
            refine s_getfield (v := .int (M4.1 32 7)) (by decide +kernel) fr_11_250 lq_32 (congrArg Prod.fst sh_32) rfl (pn 115 rfl ?_)
            exact s_ireturn (st := []) (by decide +kernel) (Or.inl rfl) ⟨_, rfl, s4, rfl, h⟩
          have h := h.2 c7
          by_cases c8 : x2 = 2
          · refine s_tableswitch (dflt := 59) (lo := 0) (hi := 2) (offs := #[27, 43, 51]) (len := 27) (tgt := 116) (by decide +kernel) (by rw [c8]; decide) (by rw [c8]; decide) ?_
            have h := h.1 c8
            refine s_aload_n (i := 0) (by decide +kernel) rfl (pn 117 rfl ?_)
            refine s_getfield (v := .ref 32) (by decide +kernel) fr_11_30 lq_0 (congrArg Prod.fst sh_0) (fv_ref pf_0_3) (pn 120 rfl ?_)
            refine s_callvI [] rfl (by decide +kernel) mv_11_253 np_97 (Nat.le_of_ble_eq_true rfl) lq_32 ((congrArg Prod.fst sh_32).trans oc_97) (cI_use h (fun r4 s5 M5 h => (pn 123 rfl ?_)))
            exact s_ireturn (st := []) (by decide +kernel) (Or.inl rfl) ⟨_, rfl, s5, rfl, h⟩
          have h := h.2 c8
          have k2 : wG_judge d 124 [.ref 0, .int x1, .int x2, .int r3] [] s4 M4 Q := by
            refine s_aload_n (i := 0) (by decide +kernel) rfl (pn 125 rfl ?_)
            refine s_getfield (v := .ref 32) (by decide +kernel) fr_11_30 lq_0 (congrArg Prod.fst sh_0) (fv_ref pf_0_3) (pn 128 rfl ?_)
            refine s_callvI [] rfl (by decide +kernel) mv_11_200 np_86 (Nat.le_of_ble_eq_true rfl) lq_32 ((congrArg Prod.fst sh_32).trans oc_86) (cI_use h (fun r5 s6 M6 h => (pn 131 rfl ?_)))
            refine s_callsI [.int r5] rfl (by decide +kernel) ms_11_204 np_322 (Nat.le_of_ble_eq_true rfl) (cI_use h (fun r6 s7 M7 h => (pn 134 rfl ?_)))
            exact s_ireturn (st := []) (by decide +kernel) (Or.inl rfl) ⟨_, rfl, s7, rfl, h⟩
          by_cases q0 : x2.toInt < 0 ∨ 2 < x2.toInt
          · exact t_tabledef (dflt := 59) (lo := 0) (hi := 2) (offs := #[27, 43, 51]) (len := 27) (tgt := 124) (by decide +kernel) rfl q0 k2
          · rcases (show x2.toInt = 0 ∨ x2.toInt = 1 ∨ x2.toInt = 2 by omega) with q1 | q1 | q1
            · exact absurd (Int32.toInt_inj.mp (q1.trans (by decide))) c5
            · exact absurd (Int32.toInt_inj.mp (q1.trans (by decide))) c7
            · exact absurd (Int32.toInt_inj.mp (q1.trans (by decide))) c8
        · have h := h.2 c4
          refine t_bipush (by decide +kernel) kb_m6 (pn 34 rfl ?_)
          exact s_ireturn (st := []) (by decide +kernel) (Or.inl rfl) ⟨_, rfl, s2, rfl, h⟩
      · have h := h.2 c3
        refine t_bipush (by decide +kernel) kb_m2 (pn 19 rfl ?_)
        exact s_ireturn (st := []) (by decide +kernel) (Or.inl rfl) ⟨_, rfl, s1, rfl, h⟩
abbrev wG_hasTray (d pc : Nat) (ls st : List Value) (s : pm_S) (M : pm_M) (Q : Int32 → pm_S → pm_M → Prop) : Prop := wI d prog_1_method_51_code 11 (some .boolean) false pc ls st s M Q
theorem enG_hasTray {d : Nat} {s : pm_S} {M : pm_M} {x1 : Int32} {Q : Int32 → pm_S → pm_M → Prop}  (h : Q ((if x1 < 0 then 0 else (if 4 ≤ x1 then 0 else 1)) : Int32) s M) : cI (d + 1) yG_hasTray [.ref 0, .int x1] s M Q := by
  refine pm_toI (by decide) (Nat.le_of_ble_eq_true rfl) ?_
  show wG_hasTray d 0 [.ref 0, .int x1] [] s M Q
  refine s_iload_n (i := 1) (by decide +kernel) rfl (pn 1 rfl ?_)
  have k1 : ∀ (z1 : Int32) (z1e : z1 = ((if x1 < 0 then 0 else (if 4 ≤ x1 then 0 else 1)) : Int32)), wG_hasTray d 14 [.ref 0, .int x1] [.int z1] s M Q := by
    intro z1 z1e
    subst z1e
    exact s_ireturn (st := []) (by decide +kernel) (Or.inr ⟨rfl, (or01 (Or.inl rfl) (or01 (Or.inl rfl) (Or.inr rfl)))⟩) ⟨_, rfl, s, rfl, h⟩
  refine s_if_lt (off := 12) (tgt := 13) (by decide +kernel) rfl (fun c1 => ?_) (fun c1 => (pn 4 rfl ?_))
  · refine t_iconst (by decide +kernel) ki_0 (pn 14 rfl ?_)
    exact k1 _ (by simp only [if_pos c1])
  · refine s_iload_n (i := 1) (by decide +kernel) rfl (pn 5 rfl ?_)
    refine t_iconst (by decide +kernel) ki_4 (pn 6 rfl ?_)
    refine s_icmp_ge (off := 7) (tgt := 13) (by decide +kernel) rfl (fun c2 => ?_) (fun c2 => (pn 9 rfl ?_))
    · refine t_iconst (by decide +kernel) ki_0 (pn 14 rfl ?_)
      exact k1 _ (by simp only [if_neg c1, if_pos c2])
    · refine t_iconst (by decide +kernel) ki_1 (pn 10 rfl ?_)
      refine s_goto (off := 4) (tgt := 14) (by decide +kernel) rfl ?_
      exact k1 _ (by simp only [if_neg c1, if_neg c2])
abbrev wG_perform (d pc : Nat) (ls st : List Value) (s : pm_S) (M : pm_M) (Q : Int32 → pm_S → pm_M → Prop) : Prop := wI d prog_1_method_18_code 11 (some .int) false pc ls st s M Q
theorem enG_perform {d : Nat} {s : pm_S} {M : pm_M} {x1 : Int32} {Q : Int32 → pm_S → pm_M → Prop}  (h : cI d yG_trayCode [.ref 0, .int x1] s M (fun r1 s1 M1 => (((r1 = 0) → cV d yS_become [.ref 32, .ref 27] s1 M1 (fun s2 M2 => vp_in x1 4 ∧ ∀ o1 : Nat, o1 = 117 + 2 * x1.toNatClampNeg → isY o1 → cI d yS_doAll [.ref 32, .ref 15, .ref o1] s2 M2 (fun r2 s3 M3 => (((r2 ≤ 0) → Q 0 s3 M3) ∧ (¬ (r2 ≤ 0) → cI d yG_agreed [.ref 0, .int r2] s3 M3 (fun r3 s4 M4 => Q r3 s4 M4)))))) ∧ (¬ (r1 = 0) → Q r1 s1 M1)))) : cI (d + 1) yG_perform [.ref 0, .int x1] s M Q := by
  refine pm_toI (by decide) (Nat.le_of_ble_eq_true rfl) ?_
  show wG_perform d 0 [.ref 0, .int x1, .null, .null] [] s M Q
  refine s_aload_n (i := 0) (by decide +kernel) rfl (pn 1 rfl ?_)
  refine s_iload_n (i := 1) (by decide +kernel) rfl (pn 2 rfl ?_)
  refine s_callvI [.int x1] rfl (by decide +kernel) mv_11_256 np_143 (Nat.le_of_ble_eq_true rfl) lq_0 ((congrArg Prod.fst sh_0).trans oc_143) (cI_use h (fun r1 s1 M1 h => (pn 5 rfl ?_)))
  refine s_istore_n (i := 2) (by decide +kernel) (Nat.le_of_ble_eq_true rfl) (pn 6 rfl (t_store (ls' := [.ref 0, .int x1, .int r1, .null]) rfl ?_))
  refine s_iload_n (i := 2) (by decide +kernel) rfl (pn 7 rfl ?_)
  refine s_if_eq (off := 5) (tgt := 12) (by decide +kernel) rfl (fun c1 => ?_) (fun c1 => (pn 10 rfl ?_))
  · have h := h.1 c1
    refine s_aload_n (i := 0) (by decide +kernel) rfl (pn 13 rfl ?_)
    refine s_getfield (v := .ref 32) (by decide +kernel) fr_11_30 lq_0 (congrArg Prod.fst sh_0) (fv_ref pf_0_3) (pn 16 rfl ?_)
    refine s_aload_n (i := 0) (by decide +kernel) rfl (pn 17 rfl ?_)
    refine s_getfield (v := .ref 27) (by decide +kernel) fr_11_26 lq_0 (congrArg Prod.fst sh_0) (fv_ref pf_0_2) (pn 20 rfl ?_)
    refine s_callvV [.ref 27] rfl (by decide +kernel) mv_11_186 np_83 (Nat.le_of_ble_eq_true rfl) lq_32 ((congrArg Prod.fst sh_32).trans oc_83) (cV_use h (fun s2 M2 h => (pn 23 rfl ?_)))
    refine s_aload_n (i := 0) (by decide +kernel) rfl (pn 24 rfl ?_)
    refine s_getfield (v := .ref 32) (by decide +kernel) fr_11_30 lq_0 (congrArg Prod.fst sh_0) (fv_ref pf_0_3) (pn 27 rfl ?_)
    refine s_aload_n (i := 0) (by decide +kernel) rfl (pn 28 rfl ?_)
    refine s_getfield (v := .ref 15) (by decide +kernel) fr_11_19 lq_0 (congrArg Prod.fst sh_0) (fv_ref pf_0_1) (pn 31 rfl ?_)
    refine s_aload_n (i := 0) (by decide +kernel) rfl (pn 32 rfl ?_)
    refine s_getfield (v := .ref 38) (by decide +kernel) fr_11_39 lq_0 (congrArg Prod.fst sh_0) (fv_ref pf_0_7) (pn 35 rfl ?_)
    refine s_iload_n (i := 1) (by decide +kernel) rfl (pn 36 rfl ?_)
    obtain ⟨b1, h⟩ := h
    obtain ⟨o1, eo1, ho1⟩ : ∃ zz : Nat, zz = 117 + 2 * x1.toNatClampNeg ∧ isY zz := ⟨_, rfl, pq_38 (vp_nat b1)⟩
    refine t_aaload (x := o1) (by decide +kernel) ⟨lq_38, by rw [sh_38]; decide, by rw [sh_38]; decide⟩ (al_in sh_38 b1) (by rw [eo1]; exact pa_38 (vp_nat b1)) (pn 37 rfl ?_)
    have h := h o1 eo1 ho1
    refine s_callvI [.ref 15, .ref o1] rfl (by decide +kernel) mv_11_246 np_95 (Nat.le_of_ble_eq_true rfl) lq_32 ((congrArg Prod.fst sh_32).trans oc_95) (cI_use h (fun r2 s3 M3 h => (pn 40 rfl ?_)))
    refine s_istore_n (i := 3) (by decide +kernel) (Nat.le_of_ble_eq_true rfl) (pn 41 rfl (t_store (ls' := [.ref 0, .int x1, .int r1, .int r2]) rfl ?_))
    refine s_iload_n (i := 3) (by decide +kernel) rfl (pn 42 rfl ?_)
    refine s_if_le (off := 11) (tgt := 53) (by decide +kernel) rfl (fun c2 => ?_) (fun c2 => (pn 45 rfl ?_))
    · have h := h.1 c2
      refine t_iconst (by decide +kernel) ki_0 (pn 54 rfl ?_)
      exact s_ireturn (st := []) (by decide +kernel) (Or.inl rfl) ⟨_, rfl, s3, rfl, h⟩
    · have h := h.2 c2
      refine s_aload_n (i := 0) (by decide +kernel) rfl (pn 46 rfl ?_)
      refine s_iload_n (i := 3) (by decide +kernel) rfl (pn 47 rfl ?_)
      refine s_callvI [.int r2] rfl (by decide +kernel) mv_11_193 np_133 (Nat.le_of_ble_eq_true rfl) lq_0 ((congrArg Prod.fst sh_0).trans oc_133) (cI_use h (fun r3 s4 M4 h => (pn 50 rfl ?_)))
      refine s_goto (off := 4) (tgt := 54) (by decide +kernel) rfl ?_
      exact s_ireturn (st := []) (by decide +kernel) (Or.inl rfl) ⟨_, rfl, s4, rfl, h⟩
  · have h := h.2 c1
    refine s_iload_n (i := 2) (by decide +kernel) rfl (pn 11 rfl ?_)
    exact s_ireturn (st := []) (by decide +kernel) (Or.inl rfl) ⟨_, rfl, s1, rfl, h⟩
abbrev wG_trayCode (d pc : Nat) (ls st : List Value) (s : pm_S) (M : pm_M) (Q : Int32 → pm_S → pm_M → Prop) : Prop := wI d prog_1_method_52_code 11 (some .int) false pc ls st s M Q
theorem enG_trayCode {d : Nat} {s : pm_S} {M : pm_M} {x1 : Int32} {Q : Int32 → pm_S → pm_M → Prop}  (h : cI d yG_hasTray [.ref 0, .int x1] s M (fun r1 s1 M1 => ((r1 = 0 → Q (-2) s1 M1) ∧ (¬ (r1 = 0) → vp_in x1 4 ∧ ∀ o1 : Nat, o1 = 117 + 2 * x1.toNatClampNeg → isY o1 → cI d yY_isMissing [.ref o1] s1 M1 (fun r2 s2 M2 => Q ((if r2 = 0 then 0 else (-6)) : Int32) s2 M2))))) : cI (d + 1) yG_trayCode [.ref 0, .int x1] s M Q := by
  refine pm_toI (by decide) (Nat.le_of_ble_eq_true rfl) ?_
  show wG_trayCode d 0 [.ref 0, .int x1] [] s M Q
  refine s_aload_n (i := 0) (by decide +kernel) rfl (pn 1 rfl ?_)
  refine s_iload_n (i := 1) (by decide +kernel) rfl (pn 2 rfl ?_)
  refine s_callvI [.int x1] rfl (by decide +kernel) mv_11_240 np_141 (Nat.le_of_ble_eq_true rfl) lq_0 ((congrArg Prod.fst sh_0).trans oc_141) (cI_use h (fun r1 s1 M1 h => (pn 5 rfl ?_)))
  refine t_if_ne (off := 6) (tgt := 11) (by decide +kernel) rfl (fun c1 => ?_) (fun c1 => (pn 8 rfl ?_))
  · have h := h.2 c1
    refine s_aload_n (i := 0) (by decide +kernel) rfl (pn 12 rfl ?_)
    refine s_getfield (v := .ref 38) (by decide +kernel) fr_11_39 lq_0 (congrArg Prod.fst sh_0) (fv_ref pf_0_7) (pn 15 rfl ?_)
    refine s_iload_n (i := 1) (by decide +kernel) rfl (pn 16 rfl ?_)
    obtain ⟨b1, h⟩ := h
    obtain ⟨o1, eo1, ho1⟩ : ∃ zz : Nat, zz = 117 + 2 * x1.toNatClampNeg ∧ isY zz := ⟨_, rfl, pq_38 (vp_nat b1)⟩
    refine t_aaload (x := o1) (by decide +kernel) ⟨lq_38, by rw [sh_38]; decide, by rw [sh_38]; decide⟩ (al_in sh_38 b1) (by rw [eo1]; exact pa_38 (vp_nat b1)) (pn 17 rfl ?_)
    have h := h o1 eo1 ho1
    refine s_callvI [] rfl (by decide +kernel) mv_11_243 np_107 (Nat.le_of_ble_eq_true rfl) (ltY_0 ho1) ((congrArg Prod.fst (shY_0 ho1)).trans oc_107) (cI_use h (fun r2 s2 M2 h => (pn 20 rfl ?_)))
    have k1 : ∀ (z1 : Int32) (z1e : z1 = ((if r2 = 0 then 0 else (-6)) : Int32)), wG_trayCode d 29 [.ref 0, .int x1] [.int z1] s2 M2 Q := by
      intro z1 z1e
      subst z1e
      exact s_ireturn (st := []) (by decide +kernel) (Or.inl rfl) ⟨_, rfl, s2, rfl, h⟩
    refine s_if_eq (off := 8) (tgt := 28) (by decide +kernel) rfl (fun c2 => ?_) (fun c2 => (pn 23 rfl ?_))
    · refine t_iconst (by decide +kernel) ki_0 (pn 29 rfl ?_)
      exact k1 _ (by simp only [if_pos c2])
    · refine t_bipush (by decide +kernel) kb_m6 (pn 25 rfl ?_)
      refine s_goto (off := 4) (tgt := 29) (by decide +kernel) rfl ?_
      exact k1 _ (by simp only [if_neg c2])
  · have h := h.1 c1
    refine t_bipush (by decide +kernel) kb_m2 (pn 10 rfl ?_)
    exact s_ireturn (st := []) (by decide +kernel) (Or.inl rfl) ⟨_, rfl, s1, rfl, h⟩
abbrev wG_season (d pc : Nat) (ls st : List Value) (s : pm_S) (M : pm_M) (Q : Int32 → pm_S → pm_M → Prop) : Prop := wI d prog_1_method_19_code 11 (some .int) false pc ls st s M Q
theorem enG_season {d : Nat} {s : pm_S} {M : pm_M} {x1 : Int32} {x2 : Int32} {Q : Int32 → pm_S → pm_M → Prop}  (h : (((x2 < 1) → Q (-3) s M) ∧ (¬ (x2 < 1) → (((x2 ≤ 40) → cV d yS_become [.ref 32, .ref 27] s M (fun s1 M1 => wG_season d 38 [.ref 0, .null, .int x2, .int 0, .int 0] [] s1 (pm_si M1 32 6 x1) Q)) ∧ (¬ (x2 ≤ 40) → Q (-3) s M))))) : cI (d + 1) yG_season [.ref 0, .int x1, .int x2] s M Q := by
  refine pm_toI (by decide) (Nat.le_of_ble_eq_true rfl) ?_
  show wG_season d 0 [.ref 0, .int x1, .int x2, .null, .null] [] s M Q
  refine s_iload_n (i := 2) (by decide +kernel) rfl (pn 1 rfl ?_)
  refine t_iconst (by decide +kernel) ki_1 (pn 2 rfl ?_)
  refine s_icmp_lt (off := 9) (tgt := 11) (by decide +kernel) rfl (fun c1 => ?_) (fun c1 => (pn 5 rfl ?_))
  · have h := h.1 c1
    refine t_bipush (by decide +kernel) kb_m3 (pn 13 rfl ?_)
    exact s_ireturn (st := []) (by decide +kernel) (Or.inl rfl) ⟨_, rfl, s, rfl, h⟩
  · have h := h.2 c1
    refine s_iload_n (i := 2) (by decide +kernel) rfl (pn 6 rfl ?_)
    refine t_bipush (by decide +kernel) kb_40 (pn 8 rfl ?_)
    refine s_icmp_le (off := 6) (tgt := 14) (by decide +kernel) rfl (fun c2 => ?_) (fun c2 => (pn 11 rfl ?_))
    · have h := h.1 c2
      refine s_aload_n (i := 0) (by decide +kernel) rfl (pn 15 rfl ?_)
      refine s_getfield (v := .ref 32) (by decide +kernel) fr_11_30 lq_0 (congrArg Prod.fst sh_0) (fv_ref pf_0_3) (pn 18 rfl ?_)
      refine s_aload_n (i := 0) (by decide +kernel) rfl (pn 19 rfl ?_)
      refine s_getfield (v := .ref 27) (by decide +kernel) fr_11_26 lq_0 (congrArg Prod.fst sh_0) (fv_ref pf_0_2) (pn 22 rfl ?_)
      refine s_callvV [.ref 27] rfl (by decide +kernel) mv_11_186 np_83 (Nat.le_of_ble_eq_true rfl) lq_32 ((congrArg Prod.fst sh_32).trans oc_83) (cV_use h (fun s1 M1 h => (pn 25 rfl ?_)))
      refine s_aload_n (i := 0) (by decide +kernel) rfl (pn 26 rfl ?_)
      refine s_getfield (v := .ref 32) (by decide +kernel) fr_11_30 lq_0 (congrArg Prod.fst sh_0) (fv_ref pf_0_3) (pn 29 rfl ?_)
      refine s_iload_n (i := 1) (by decide +kernel) rfl (pn 30 rfl ?_)
      refine s_putfieldI (by decide +kernel) fr_11_180 lq_32 (congrArg Prod.fst sh_32) (fun q => by cases q) (Or.inl rfl) (pn 33 rfl ?_)
      refine t_iconst (by decide +kernel) ki_0 (pn 34 rfl ?_)
      refine s_istore_n (i := 3) (by decide +kernel) (Nat.le_of_ble_eq_true rfl) (pn 35 rfl (t_store (ls' := [.ref 0, .int x1, .int x2, .int 0, .null]) rfl ?_))
      refine t_iconst (by decide +kernel) ki_0 (pn 36 rfl ?_)
      refine s_istore (i := 4) (by decide +kernel) (Nat.le_of_ble_eq_true rfl) (pn 38 rfl (t_store (ls' := [.ref 0, .int x1, .int x2, .int 0, .int 0]) rfl ?_))
      exact pm_weak [.ref 0, .null, .int x2, .int 0, .int 0] (pm_le_cons (Or.inr rfl) (pm_le_cons (Or.inl rfl) (pm_le_cons (Or.inr rfl) (pm_le_cons (Or.inr rfl) (pm_le_cons (Or.inr rfl) pm_le_nil))))) h
    · have h := h.2 c2
      refine t_bipush (by decide +kernel) kb_m3 (pn 13 rfl ?_)
      exact s_ireturn (st := []) (by decide +kernel) (Or.inl rfl) ⟨_, rfl, s, rfl, h⟩
theorem sgG_season_38 {d : Nat} {s : pm_S} {M : pm_M} {l2 : Int32} {l3 : Int32} {l4 : Int32} {Q : Int32 → pm_S → pm_M → Prop}  (h : (((l2 ≤ l4) → (((l3 ≤ 0) → Q 0 s M) ∧ (¬ (l3 ≤ 0) → cI d yG_agreed [.ref 0, .int l3] s M (fun r1 s1 M1 => Q r1 s1 M1)))) ∧ (¬ (l2 ≤ l4) → cI d yS_seasonDeed [.ref 32, .ref 15] s M (fun r2 s2 M2 => wG_season d 38 [.ref 0, .null, .int l2, .int ((if r2 = 0 then (l3 + 1) else l3) : Int32), .int (l4 + 1)] [] s2 M2 Q)))) : wG_season d 38 [.ref 0, .null, .int l2, .int l3, .int l4] [] s M Q := by
  refine s_iload (i := 4) (by decide +kernel) rfl (pn 40 rfl ?_)
  refine s_iload_n (i := 2) (by decide +kernel) rfl (pn 41 rfl ?_)
  refine s_icmp_ge (off := 26) (tgt := 67) (by decide +kernel) rfl (fun c1 => ?_) (fun c1 => (pn 44 rfl ?_))
  · have h := h.1 c1
    refine s_iload_n (i := 3) (by decide +kernel) rfl (pn 68 rfl ?_)
    refine s_if_le (off := 11) (tgt := 79) (by decide +kernel) rfl (fun c2 => ?_) (fun c2 => (pn 71 rfl ?_))
    · have h := h.1 c2
      refine t_iconst (by decide +kernel) ki_0 (pn 80 rfl ?_)
      exact s_ireturn (st := []) (by decide +kernel) (Or.inl rfl) ⟨_, rfl, s, rfl, h⟩
    · have h := h.2 c2
      refine s_aload_n (i := 0) (by decide +kernel) rfl (pn 72 rfl ?_)
      refine s_iload_n (i := 3) (by decide +kernel) rfl (pn 73 rfl ?_)
      refine s_callvI [.int l3] rfl (by decide +kernel) mv_11_193 np_133 (Nat.le_of_ble_eq_true rfl) lq_0 ((congrArg Prod.fst sh_0).trans oc_133) (cI_use h (fun r1 s1 M1 h => (pn 76 rfl ?_)))
      refine s_goto (off := 4) (tgt := 80) (by decide +kernel) rfl ?_
      exact s_ireturn (st := []) (by decide +kernel) (Or.inl rfl) ⟨_, rfl, s1, rfl, h⟩
  · have h := h.2 c1
    refine s_aload_n (i := 0) (by decide +kernel) rfl (pn 45 rfl ?_)
    refine s_getfield (v := .ref 32) (by decide +kernel) fr_11_30 lq_0 (congrArg Prod.fst sh_0) (fv_ref pf_0_3) (pn 48 rfl ?_)
    refine s_aload_n (i := 0) (by decide +kernel) rfl (pn 49 rfl ?_)
    refine s_getfield (v := .ref 15) (by decide +kernel) fr_11_19 lq_0 (congrArg Prod.fst sh_0) (fv_ref pf_0_1) (pn 52 rfl ?_)
    refine s_callvI [.ref 15] rfl (by decide +kernel) mv_11_259 np_98 (Nat.le_of_ble_eq_true rfl) lq_32 ((congrArg Prod.fst sh_32).trans oc_98) (cI_use h (fun r2 s2 M2 h => (pn 55 rfl ?_)))
    have k1 : ∀ (z1 : Int32) (z1e : z1 = ((if r2 = 0 then (l3 + 1) else l3) : Int32)), wG_season d 61 [.ref 0, .null, .int l2, .int z1, .int l4] [] s2 M2 Q := by
      intro z1 z1e
      subst z1e
      refine t_iinc (i := 4) (n := 1) (ls' := [.ref 0, .null, .int l2, .int ((if r2 = 0 then (l3 + 1) else l3) : Int32), .int (l4 + 1)]) (by decide +kernel) rfl (Nat.le_of_ble_eq_true rfl) kn_1 rfl (pn 64 rfl ?_)
      refine s_goto (off := -26) (tgt := 38) (by decide +kernel) rfl ?_
      exact h
    refine t_if_ne (off := 6) (tgt := 61) (by decide +kernel) rfl (fun c3 => ?_) (fun c3 => (pn 58 rfl ?_))
    · exact k1 _ (by simp only [if_neg c3])
    · refine t_iinc (i := 3) (n := 1) (ls' := [.ref 0, .null, .int l2, .int (l3 + 1), .int l4]) (by decide +kernel) rfl (Nat.le_of_ble_eq_true rfl) kn_1 rfl (pn 61 rfl ?_)
      exact k1 _ (by simp only [if_pos c3])
abbrev wG_goes (d pc : Nat) (ls st : List Value) (s : pm_S) (M : pm_M) (Q : Int32 → pm_S → pm_M → Prop) : Prop := wI d prog_1_method_20_code 11 (some .int) false pc ls st s M Q
theorem enG_goes {d : Nat} {s : pm_S} {M : pm_M} {x1 : Int32} {x2 : Int32} {Q : Int32 → pm_S → pm_M → Prop}  (h : cI d yG_canBeLeft [.ref 0, .int x1, .int x2] s M (fun r1 s1 M1 => Q ((if r1 = 0 then (-2) else (M1.1 44 0)) : Int32) s1 M1)) : cI (d + 1) yG_goes [.ref 0, .int x1, .int x2] s M Q := by
  refine pm_toI (by decide) (Nat.le_of_ble_eq_true rfl) ?_
  show wG_goes d 0 [.ref 0, .int x1, .int x2] [] s M Q
  refine s_aload_n (i := 0) (by decide +kernel) rfl (pn 1 rfl ?_)
  refine s_iload_n (i := 1) (by decide +kernel) rfl (pn 2 rfl ?_)
  refine s_iload_n (i := 2) (by decide +kernel) rfl (pn 3 rfl ?_)
  refine s_callvI [.int x1, .int x2] rfl (by decide +kernel) mv_11_262 np_146 (Nat.le_of_ble_eq_true rfl) lq_0 ((congrArg Prod.fst sh_0).trans oc_146) (cI_use h (fun r1 s1 M1 h => (pn 6 rfl ?_)))
  have k1 : ∀ (z1 : Int32) (z1e : z1 = ((if r1 = 0 then (-2) else (M1.1 44 0)) : Int32)), wG_goes d 23 [.ref 0, .int x1, .int x2] [.int z1] s1 M1 Q := by
    intro z1 z1e
    subst z1e
    exact s_ireturn (st := []) (by decide +kernel) (Or.inl rfl) ⟨_, rfl, s1, rfl, h⟩
  refine s_if_eq (off := 15) (tgt := 21) (by decide +kernel) rfl (fun c1 => ?_) (fun c1 => (pn 9 rfl ?_))
  · refine t_bipush (by decide +kernel) kb_m2 (pn 23 rfl ?_)
    exact k1 _ (by simp only [if_pos c1])
  · refine s_aload_n (i := 0) (by decide +kernel) rfl (pn 10 rfl ?_)
    refine s_getfield (v := .ref 43) (by decide +kernel) fr_11_60 lq_0 (congrArg Prod.fst sh_0) (fv_ref pf_0_12) (pn 13 rfl ?_)
    refine s_getfield (v := .ref 44) (by decide +kernel) fr_11_266 lq_43 (congrArg Prod.fst sh_43) (fv_ref pf_43_0) (pn 16 rfl ?_)
    refine t_iconst (by decide +kernel) ki_0 (pn 17 rfl ?_)
    refine t_iaload (v := M1.1 44 0) (by decide +kernel) ⟨Or.inl lq_44, congrArg Prod.fst sh_44⟩ (al_in sh_44 (vp_lit (n := 3) tn_0 (by decide) (by decide))) (by rw [tn_0] <;> rfl) (pn 18 rfl ?_)
    refine s_goto (off := 5) (tgt := 23) (by decide +kernel) rfl ?_
    exact k1 _ (by simp only [if_neg c1])
abbrev wG_canBeLeft (d pc : Nat) (ls st : List Value) (s : pm_S) (M : pm_M) (Q : Int32 → pm_S → pm_M → Prop) : Prop := wI d prog_1_method_53_code 11 (some .boolean) false pc ls st s M Q
theorem enG_canBeLeft {d : Nat} {s : pm_S} {M : pm_M} {x1 : Int32} {x2 : Int32} {Q : Int32 → pm_S → pm_M → Prop}  (h : cI d yL_hasThing [.ref 15, .int x1] s M (fun r1 s1 M1 => (((r1 = 0) → Q 0 s1 M1) ∧ (¬ (r1 = 0) → cI d yL_hasStation [.ref 15, .int x2] s1 M1 (fun r2 s2 M2 => ((r2 = 0 → Q 0 s2 M2) ∧ (¬ (r2 = 0) → cV d yK_gather [.ref 41, .ref 15, .ref 27] s2 M2 (fun s3 M3 => cV d yF_begin [.ref 43, .ref 27] s3 M3 (fun s4 M4 => cV d yF_add [.ref 43, .int x1, .ref 27] s4 M4 (fun s5 M5 => cV d yF_start [.ref 43, .int 0, .int x2] s5 M5 (fun s6 M6 => cV d yF_travel [.ref 43, .ref 15, .ref 41] s6 M6 (fun s7 M7 => Q 1 s7 M7)))))))))))) : cI (d + 1) yG_canBeLeft [.ref 0, .int x1, .int x2] s M Q := by
  refine pm_toI (by decide) (Nat.le_of_ble_eq_true rfl) ?_
  show wG_canBeLeft d 0 [.ref 0, .int x1, .int x2] [] s M Q
  refine s_aload_n (i := 0) (by decide +kernel) rfl (pn 1 rfl ?_)
  refine s_getfield (v := .ref 15) (by decide +kernel) fr_11_19 lq_0 (congrArg Prod.fst sh_0) (fv_ref pf_0_1) (pn 4 rfl ?_)
  refine s_iload_n (i := 1) (by decide +kernel) rfl (pn 5 rfl ?_)
  refine s_callvI [.int x1] rfl (by decide +kernel) mv_11_132 np_28 (Nat.le_of_ble_eq_true rfl) lq_15 ((congrArg Prod.fst sh_15).trans oc_28) (cI_use h (fun r1 s1 M1 h => (pn 8 rfl ?_)))
  refine s_if_eq (off := 14) (tgt := 22) (by decide +kernel) rfl (fun c1 => ?_) (fun c1 => (pn 11 rfl ?_))
  · have h := h.1 c1
    refine t_iconst (by decide +kernel) ki_0 (pn 23 rfl ?_)
    exact s_ireturn (st := []) (by decide +kernel) (Or.inr ⟨rfl, (Or.inl rfl)⟩) ⟨_, rfl, s1, rfl, h⟩
  · have h := h.2 c1
    refine s_aload_n (i := 0) (by decide +kernel) rfl (pn 12 rfl ?_)
    refine s_getfield (v := .ref 15) (by decide +kernel) fr_11_19 lq_0 (congrArg Prod.fst sh_0) (fv_ref pf_0_1) (pn 15 rfl ?_)
    refine s_iload_n (i := 2) (by decide +kernel) rfl (pn 16 rfl ?_)
    refine s_callvI [.int x2] rfl (by decide +kernel) mv_11_436 np_35 (Nat.le_of_ble_eq_true rfl) lq_15 ((congrArg Prod.fst sh_15).trans oc_35) (cI_use h (fun r2 s2 M2 h => (pn 19 rfl ?_)))
    refine t_if_ne (off := 5) (tgt := 24) (by decide +kernel) rfl (fun c2 => ?_) (fun c2 => (pn 22 rfl ?_))
    · have h := h.2 c2
      refine s_aload_n (i := 0) (by decide +kernel) rfl (pn 25 rfl ?_)
      refine s_getfield (v := .ref 41) (by decide +kernel) fr_11_53 lq_0 (congrArg Prod.fst sh_0) (fv_ref pf_0_11) (pn 28 rfl ?_)
      refine s_aload_n (i := 0) (by decide +kernel) rfl (pn 29 rfl ?_)
      refine s_getfield (v := .ref 15) (by decide +kernel) fr_11_19 lq_0 (congrArg Prod.fst sh_0) (fv_ref pf_0_1) (pn 32 rfl ?_)
      refine s_aload_n (i := 0) (by decide +kernel) rfl (pn 33 rfl ?_)
      refine s_getfield (v := .ref 27) (by decide +kernel) fr_11_26 lq_0 (congrArg Prod.fst sh_0) (fv_ref pf_0_2) (pn 36 rfl ?_)
      refine s_callvV [.ref 15, .ref 27] rfl (by decide +kernel) mv_11_272 np_1 (Nat.le_of_ble_eq_true rfl) lq_41 ((congrArg Prod.fst sh_41).trans oc_1) (cV_use h (fun s3 M3 h => (pn 39 rfl ?_)))
      refine s_aload_n (i := 0) (by decide +kernel) rfl (pn 40 rfl ?_)
      refine s_getfield (v := .ref 43) (by decide +kernel) fr_11_60 lq_0 (congrArg Prod.fst sh_0) (fv_ref pf_0_12) (pn 43 rfl ?_)
      refine s_aload_n (i := 0) (by decide +kernel) rfl (pn 44 rfl ?_)
      refine s_getfield (v := .ref 27) (by decide +kernel) fr_11_26 lq_0 (congrArg Prod.fst sh_0) (fv_ref pf_0_2) (pn 47 rfl ?_)
      refine s_callvV [.ref 27] rfl (by decide +kernel) mv_11_276 np_15 (Nat.le_of_ble_eq_true rfl) lq_43 ((congrArg Prod.fst sh_43).trans oc_15) (cV_use h (fun s4 M4 h => (pn 50 rfl ?_)))
      refine s_aload_n (i := 0) (by decide +kernel) rfl (pn 51 rfl ?_)
      refine s_getfield (v := .ref 43) (by decide +kernel) fr_11_60 lq_0 (congrArg Prod.fst sh_0) (fv_ref pf_0_12) (pn 54 rfl ?_)
      refine s_iload_n (i := 1) (by decide +kernel) rfl (pn 55 rfl ?_)
      refine s_aload_n (i := 0) (by decide +kernel) rfl (pn 56 rfl ?_)
      refine s_getfield (v := .ref 27) (by decide +kernel) fr_11_26 lq_0 (congrArg Prod.fst sh_0) (fv_ref pf_0_2) (pn 59 rfl ?_)
      refine s_callvV [.int x1, .ref 27] rfl (by decide +kernel) mv_11_278 np_16 (Nat.le_of_ble_eq_true rfl) lq_43 ((congrArg Prod.fst sh_43).trans oc_16) (cV_use h (fun s5 M5 h => (pn 62 rfl ?_)))
      refine s_aload_n (i := 0) (by decide +kernel) rfl (pn 63 rfl ?_)
      refine s_getfield (v := .ref 43) (by decide +kernel) fr_11_60 lq_0 (congrArg Prod.fst sh_0) (fv_ref pf_0_12) (pn 66 rfl ?_)
      refine t_iconst (by decide +kernel) ki_0 (pn 67 rfl ?_)
      refine s_iload_n (i := 2) (by decide +kernel) rfl (pn 68 rfl ?_)
      refine s_callvV [.int 0, .int x2] rfl (by decide +kernel) mv_11_285 np_17 (Nat.le_of_ble_eq_true rfl) lq_43 ((congrArg Prod.fst sh_43).trans oc_17) (cV_use h (fun s6 M6 h => (pn 71 rfl ?_)))
      refine s_aload_n (i := 0) (by decide +kernel) rfl (pn 72 rfl ?_)
      refine s_getfield (v := .ref 43) (by decide +kernel) fr_11_60 lq_0 (congrArg Prod.fst sh_0) (fv_ref pf_0_12) (pn 75 rfl ?_)
      refine s_aload_n (i := 0) (by decide +kernel) rfl (pn 76 rfl ?_)
      refine s_getfield (v := .ref 15) (by decide +kernel) fr_11_19 lq_0 (congrArg Prod.fst sh_0) (fv_ref pf_0_1) (pn 79 rfl ?_)
      refine s_aload_n (i := 0) (by decide +kernel) rfl (pn 80 rfl ?_)
      refine s_getfield (v := .ref 41) (by decide +kernel) fr_11_53 lq_0 (congrArg Prod.fst sh_0) (fv_ref pf_0_11) (pn 83 rfl ?_)
      refine s_callvV [.ref 15, .ref 41] rfl (by decide +kernel) mv_11_289 np_18 (Nat.le_of_ble_eq_true rfl) lq_43 ((congrArg Prod.fst sh_43).trans oc_18) (cV_use h (fun s7 M7 h => (pn 86 rfl ?_)))
      refine t_iconst (by decide +kernel) ki_1 (pn 87 rfl ?_)
      exact s_ireturn (st := []) (by decide +kernel) (Or.inr ⟨rfl, (Or.inr rfl)⟩) ⟨_, rfl, s7, rfl, h⟩
    · have h := h.1 c2
      refine t_iconst (by decide +kernel) ki_0 (pn 23 rfl ?_)
      exact s_ireturn (st := []) (by decide +kernel) (Or.inr ⟨rfl, (Or.inl rfl)⟩) ⟨_, rfl, s2, rfl, h⟩
abbrev wG_takes (d pc : Nat) (ls st : List Value) (s : pm_S) (M : pm_M) (Q : Int32 → pm_S → pm_M → Prop) : Prop := wI d prog_1_method_21_code 11 (some .int) false pc ls st s M Q
theorem enG_takes {d : Nat} {s : pm_S} {M : pm_M} {x1 : Int32} {x2 : Int32} {Q : Int32 → pm_S → pm_M → Prop}  (h : cI d yG_canBeLeft [.ref 0, .int x1, .int x2] s M (fun r1 s1 M1 => Q ((if r1 = 0 then (-2) else (M1.1 45 0)) : Int32) s1 M1)) : cI (d + 1) yG_takes [.ref 0, .int x1, .int x2] s M Q := by
  refine pm_toI (by decide) (Nat.le_of_ble_eq_true rfl) ?_
  show wG_takes d 0 [.ref 0, .int x1, .int x2] [] s M Q
  refine s_aload_n (i := 0) (by decide +kernel) rfl (pn 1 rfl ?_)
  refine s_iload_n (i := 1) (by decide +kernel) rfl (pn 2 rfl ?_)
  refine s_iload_n (i := 2) (by decide +kernel) rfl (pn 3 rfl ?_)
  refine s_callvI [.int x1, .int x2] rfl (by decide +kernel) mv_11_262 np_146 (Nat.le_of_ble_eq_true rfl) lq_0 ((congrArg Prod.fst sh_0).trans oc_146) (cI_use h (fun r1 s1 M1 h => (pn 6 rfl ?_)))
  have k1 : ∀ (z1 : Int32) (z1e : z1 = ((if r1 = 0 then (-2) else (M1.1 45 0)) : Int32)), wG_takes d 23 [.ref 0, .int x1, .int x2] [.int z1] s1 M1 Q := by
    intro z1 z1e
    subst z1e
    exact s_ireturn (st := []) (by decide +kernel) (Or.inl rfl) ⟨_, rfl, s1, rfl, h⟩
  refine s_if_eq (off := 15) (tgt := 21) (by decide +kernel) rfl (fun c1 => ?_) (fun c1 => (pn 9 rfl ?_))
  · refine t_bipush (by decide +kernel) kb_m2 (pn 23 rfl ?_)
    exact k1 _ (by simp only [if_pos c1])
  · refine s_aload_n (i := 0) (by decide +kernel) rfl (pn 10 rfl ?_)
    refine s_getfield (v := .ref 43) (by decide +kernel) fr_11_60 lq_0 (congrArg Prod.fst sh_0) (fv_ref pf_0_12) (pn 13 rfl ?_)
    refine s_getfield (v := .ref 45) (by decide +kernel) fr_11_269 lq_43 (congrArg Prod.fst sh_43) (fv_ref pf_43_1) (pn 16 rfl ?_)
    refine t_iconst (by decide +kernel) ki_0 (pn 17 rfl ?_)
    refine t_iaload (v := M1.1 45 0) (by decide +kernel) ⟨Or.inl lq_45, congrArg Prod.fst sh_45⟩ (al_in sh_45 (vp_lit (n := 3) tn_0 (by decide) (by decide))) (by rw [tn_0] <;> rfl) (pn 18 rfl ?_)
    refine s_goto (off := 5) (tgt := 23) (by decide +kernel) rfl ?_
    exact k1 _ (by simp only [if_neg c1])
abbrev wG_sources (d pc : Nat) (ls st : List Value) (s : pm_S) (M : pm_M) (Q : Int32 → pm_S → pm_M → Prop) : Prop := wI d prog_1_method_22_code 11 (some .int) false pc ls st s M Q
theorem enG_sources {d : Nat} {s : pm_S} {M : pm_M} {x1 : Int32} {x2 : Int32} {Q : Int32 → pm_S → pm_M → Prop}  (h : cI d yL_hasThing [.ref 15, .int x1] s M (fun r1 s1 M1 => (((r1 = 0) → Q (-2) s1 M1) ∧ (¬ (r1 = 0) → cI d yL_hasPerson [.ref 15, .int x2] s1 M1 (fun r2 s2 M2 => ((r2 = 0 → Q (-2) s2 M2) ∧ (¬ (r2 = 0) → cV d yK_gather [.ref 41, .ref 15, .ref 27] s2 M2 (fun s3 M3 => cV d yF_begin [.ref 43, .ref 27] s3 M3 (fun s4 M4 => cV d yF_add [.ref 43, .int x1, .ref 27] s4 M4 (fun s5 M5 => wG_sources d 68 [.ref 0, .null, .int x2, .int 0, .int 0] [] s5 M5 Q)))))))))) : cI (d + 1) yG_sources [.ref 0, .int x1, .int x2] s M Q := by
  refine pm_toI (by decide) (Nat.le_of_ble_eq_true rfl) ?_
  show wG_sources d 0 [.ref 0, .int x1, .int x2, .null, .null] [] s M Q
  refine s_aload_n (i := 0) (by decide +kernel) rfl (pn 1 rfl ?_)
  refine s_getfield (v := .ref 15) (by decide +kernel) fr_11_19 lq_0 (congrArg Prod.fst sh_0) (fv_ref pf_0_1) (pn 4 rfl ?_)
  refine s_iload_n (i := 1) (by decide +kernel) rfl (pn 5 rfl ?_)
  refine s_callvI [.int x1] rfl (by decide +kernel) mv_11_132 np_28 (Nat.le_of_ble_eq_true rfl) lq_15 ((congrArg Prod.fst sh_15).trans oc_28) (cI_use h (fun r1 s1 M1 h => (pn 8 rfl ?_)))
  refine s_if_eq (off := 14) (tgt := 22) (by decide +kernel) rfl (fun c1 => ?_) (fun c1 => (pn 11 rfl ?_))
  · have h := h.1 c1
    refine t_bipush (by decide +kernel) kb_m2 (pn 24 rfl ?_)
    exact s_ireturn (st := []) (by decide +kernel) (Or.inl rfl) ⟨_, rfl, s1, rfl, h⟩
  · have h := h.2 c1
    refine s_aload_n (i := 0) (by decide +kernel) rfl (pn 12 rfl ?_)
    refine s_getfield (v := .ref 15) (by decide +kernel) fr_11_19 lq_0 (congrArg Prod.fst sh_0) (fv_ref pf_0_1) (pn 15 rfl ?_)
    refine s_iload_n (i := 2) (by decide +kernel) rfl (pn 16 rfl ?_)
    refine s_callvI [.int x2] rfl (by decide +kernel) mv_11_149 np_31 (Nat.le_of_ble_eq_true rfl) lq_15 ((congrArg Prod.fst sh_15).trans oc_31) (cI_use h (fun r2 s2 M2 h => (pn 19 rfl ?_)))
    refine t_if_ne (off := 6) (tgt := 25) (by decide +kernel) rfl (fun c2 => ?_) (fun c2 => (pn 22 rfl ?_))
    · have h := h.2 c2
      refine s_aload_n (i := 0) (by decide +kernel) rfl (pn 26 rfl ?_)
      refine s_getfield (v := .ref 41) (by decide +kernel) fr_11_53 lq_0 (congrArg Prod.fst sh_0) (fv_ref pf_0_11) (pn 29 rfl ?_)
      refine s_aload_n (i := 0) (by decide +kernel) rfl (pn 30 rfl ?_)
      refine s_getfield (v := .ref 15) (by decide +kernel) fr_11_19 lq_0 (congrArg Prod.fst sh_0) (fv_ref pf_0_1) (pn 33 rfl ?_)
      refine s_aload_n (i := 0) (by decide +kernel) rfl (pn 34 rfl ?_)
      refine s_getfield (v := .ref 27) (by decide +kernel) fr_11_26 lq_0 (congrArg Prod.fst sh_0) (fv_ref pf_0_2) (pn 37 rfl ?_)
      refine s_callvV [.ref 15, .ref 27] rfl (by decide +kernel) mv_11_272 np_1 (Nat.le_of_ble_eq_true rfl) lq_41 ((congrArg Prod.fst sh_41).trans oc_1) (cV_use h (fun s3 M3 h => (pn 40 rfl ?_)))
      refine s_aload_n (i := 0) (by decide +kernel) rfl (pn 41 rfl ?_)
      refine s_getfield (v := .ref 43) (by decide +kernel) fr_11_60 lq_0 (congrArg Prod.fst sh_0) (fv_ref pf_0_12) (pn 44 rfl ?_)
      refine s_aload_n (i := 0) (by decide +kernel) rfl (pn 45 rfl ?_)
      refine s_getfield (v := .ref 27) (by decide +kernel) fr_11_26 lq_0 (congrArg Prod.fst sh_0) (fv_ref pf_0_2) (pn 48 rfl ?_)
      refine s_callvV [.ref 27] rfl (by decide +kernel) mv_11_276 np_15 (Nat.le_of_ble_eq_true rfl) lq_43 ((congrArg Prod.fst sh_43).trans oc_15) (cV_use h (fun s4 M4 h => (pn 51 rfl ?_)))
      refine s_aload_n (i := 0) (by decide +kernel) rfl (pn 52 rfl ?_)
      refine s_getfield (v := .ref 43) (by decide +kernel) fr_11_60 lq_0 (congrArg Prod.fst sh_0) (fv_ref pf_0_12) (pn 55 rfl ?_)
      refine s_iload_n (i := 1) (by decide +kernel) rfl (pn 56 rfl ?_)
      refine s_aload_n (i := 0) (by decide +kernel) rfl (pn 57 rfl ?_)
      refine s_getfield (v := .ref 27) (by decide +kernel) fr_11_26 lq_0 (congrArg Prod.fst sh_0) (fv_ref pf_0_2) (pn 60 rfl ?_)
      refine s_callvV [.int x1, .ref 27] rfl (by decide +kernel) mv_11_278 np_16 (Nat.le_of_ble_eq_true rfl) lq_43 ((congrArg Prod.fst sh_43).trans oc_16) (cV_use h (fun s5 M5 h => (pn 63 rfl ?_)))
      refine t_iconst (by decide +kernel) ki_0 (pn 64 rfl ?_)
      refine s_istore_n (i := 3) (by decide +kernel) (Nat.le_of_ble_eq_true rfl) (pn 65 rfl (t_store (ls' := [.ref 0, .int x1, .int x2, .int 0, .null]) rfl ?_))
      refine t_iconst (by decide +kernel) ki_0 (pn 66 rfl ?_)
      refine s_istore (i := 4) (by decide +kernel) (Nat.le_of_ble_eq_true rfl) (pn 68 rfl (t_store (ls' := [.ref 0, .int x1, .int x2, .int 0, .int 0]) rfl ?_))
      exact pm_weak [.ref 0, .null, .int x2, .int 0, .int 0] (pm_le_cons (Or.inr rfl) (pm_le_cons (Or.inl rfl) (pm_le_cons (Or.inr rfl) (pm_le_cons (Or.inr rfl) (pm_le_cons (Or.inr rfl) pm_le_nil))))) h
    · have h := h.1 c2
      refine t_bipush (by decide +kernel) kb_m2 (pn 24 rfl ?_)
      exact s_ireturn (st := []) (by decide +kernel) (Or.inl rfl) ⟨_, rfl, s2, rfl, h⟩
theorem sgG_sources_68 {d : Nat} {s : pm_S} {M : pm_M} {l2 : Int32} {l3 : Int32} {l4 : Int32} {Q : Int32 → pm_S → pm_M → Prop}  (h : ((((M.1 15 0) ≤ l4) → Q l3 s M) ∧ (¬ ((M.1 15 0) ≤ l4) → cV d yF_start [.ref 43, .int 0, .int l4] s M (fun s1 M1 => cV d yF_travel [.ref 43, .ref 15, .ref 41] s1 M1 (fun s2 M2 => wG_sources d 68 [.ref 0, .null, .int l2, .int ((if (M2.1 44 0) = l2 then (l3 ||| ((1 : Int32) <<< (l4 &&& 31))) else l3) : Int32), .int (l4 + 1)] [] s2 M2 Q))))) : wG_sources d 68 [.ref 0, .null, .int l2, .int l3, .int l4] [] s M Q := by
  refine s_iload (i := 4) (by decide +kernel) rfl (pn 70 rfl ?_)
  refine s_aload_n (i := 0) (by decide +kernel) rfl (pn 71 rfl ?_)
  refine s_getfield (v := .ref 15) (by decide +kernel) fr_11_19 lq_0 (congrArg Prod.fst sh_0) (fv_ref pf_0_1) (pn 74 rfl ?_)
  refine s_getfield (v := .int (M.1 15 0)) (by decide +kernel) fr_11_282 lq_15 (congrArg Prod.fst sh_15) rfl (pn 77 rfl ?_)
  refine s_icmp_ge (off := 54) (tgt := 131) (by decide +kernel) rfl (fun c1 => ?_) (fun c1 => (pn 80 rfl ?_))
  · have h := h.1 c1
    refine s_iload_n (i := 3) (by decide +kernel) rfl (pn 132 rfl ?_)
    exact s_ireturn (st := []) (by decide +kernel) (Or.inl rfl) ⟨_, rfl, s, rfl, h⟩
  · have h := h.2 c1
    refine s_aload_n (i := 0) (by decide +kernel) rfl (pn 81 rfl ?_)
    refine s_getfield (v := .ref 43) (by decide +kernel) fr_11_60 lq_0 (congrArg Prod.fst sh_0) (fv_ref pf_0_12) (pn 84 rfl ?_)
    refine t_iconst (by decide +kernel) ki_0 (pn 85 rfl ?_)
    refine s_iload (i := 4) (by decide +kernel) rfl (pn 87 rfl ?_)
    refine s_callvV [.int 0, .int l4] rfl (by decide +kernel) mv_11_285 np_17 (Nat.le_of_ble_eq_true rfl) lq_43 ((congrArg Prod.fst sh_43).trans oc_17) (cV_use h (fun s1 M1 h => (pn 90 rfl ?_)))
    refine s_aload_n (i := 0) (by decide +kernel) rfl (pn 91 rfl ?_)
    refine s_getfield (v := .ref 43) (by decide +kernel) fr_11_60 lq_0 (congrArg Prod.fst sh_0) (fv_ref pf_0_12) (pn 94 rfl ?_)
    refine s_aload_n (i := 0) (by decide +kernel) rfl (pn 95 rfl ?_)
    refine s_getfield (v := .ref 15) (by decide +kernel) fr_11_19 lq_0 (congrArg Prod.fst sh_0) (fv_ref pf_0_1) (pn 98 rfl ?_)
    refine s_aload_n (i := 0) (by decide +kernel) rfl (pn 99 rfl ?_)
    refine s_getfield (v := .ref 41) (by decide +kernel) fr_11_53 lq_0 (congrArg Prod.fst sh_0) (fv_ref pf_0_11) (pn 102 rfl ?_)
    refine s_callvV [.ref 15, .ref 41] rfl (by decide +kernel) mv_11_289 np_18 (Nat.le_of_ble_eq_true rfl) lq_43 ((congrArg Prod.fst sh_43).trans oc_18) (cV_use h (fun s2 M2 h => (pn 105 rfl ?_)))
    refine s_aload_n (i := 0) (by decide +kernel) rfl (pn 106 rfl ?_)
    refine s_getfield (v := .ref 43) (by decide +kernel) fr_11_60 lq_0 (congrArg Prod.fst sh_0) (fv_ref pf_0_12) (pn 109 rfl ?_)
    refine s_getfield (v := .ref 44) (by decide +kernel) fr_11_266 lq_43 (congrArg Prod.fst sh_43) (fv_ref pf_43_0) (pn 112 rfl ?_)
    refine t_iconst (by decide +kernel) ki_0 (pn 113 rfl ?_)
    refine t_iaload (v := M2.1 44 0) (by decide +kernel) ⟨Or.inl lq_44, congrArg Prod.fst sh_44⟩ (al_in sh_44 (vp_lit (n := 3) tn_0 (by decide) (by decide))) (by rw [tn_0] <;> rfl) (pn 114 rfl ?_)
    refine s_iload_n (i := 2) (by decide +kernel) rfl (pn 115 rfl ?_)
    have k1 : ∀ (z1 : Int32) (z1e : z1 = ((if (M2.1 44 0) = l2 then (l3 ||| ((1 : Int32) <<< (l4 &&& 31))) else l3) : Int32)), wG_sources d 125 [.ref 0, .null, .int l2, .int z1, .int l4] [] s2 M2 Q := by
      intro z1 z1e
      subst z1e
      refine t_iinc (i := 4) (n := 1) (ls' := [.ref 0, .null, .int l2, .int ((if (M2.1 44 0) = l2 then (l3 ||| ((1 : Int32) <<< (l4 &&& 31))) else l3) : Int32), .int (l4 + 1)]) (by decide +kernel) rfl (Nat.le_of_ble_eq_true rfl) kn_1 rfl (pn 128 rfl ?_)
      refine s_goto (off := -60) (tgt := 68) (by decide +kernel) rfl ?_
      exact h
    refine t_icmp_ne (off := 10) (tgt := 125) (by decide +kernel) rfl (fun c2 => ?_) (fun c2 => (pn 118 rfl ?_))
    · exact k1 _ (by simp only [if_neg c2])
    · refine s_iload_n (i := 3) (by decide +kernel) rfl (pn 119 rfl ?_)
      refine t_iconst (by decide +kernel) ki_1 (pn 120 rfl ?_)
      refine s_iload (i := 4) (by decide +kernel) rfl (pn 122 rfl ?_)
      refine s_ishl (by decide +kernel) (pn 123 rfl ?_)
      refine s_ior (by decide +kernel) (pn 124 rfl ?_)
      refine s_istore_n (i := 3) (by decide +kernel) (Nat.le_of_ble_eq_true rfl) (pn 125 rfl (t_store (ls' := [.ref 0, .null, .int l2, .int (l3 ||| ((1 : Int32) <<< (l4 &&& 31))), .int l4]) rfl ?_))
      exact k1 _ (by simp only [if_pos c2])
abbrev wG_plan (d pc : Nat) (ls st : List Value) (s : pm_S) (M : pm_M) (Q : Int32 → pm_S → pm_M → Prop) : Prop := wI d prog_1_method_23_code 11 (some .int) false pc ls st s M Q
theorem enG_plan {d : Nat} {s : pm_S} {M : pm_M} {x1 : Int32} {x2 : Int32} {Q : Int32 → pm_S → pm_M → Prop}  (h : cI d yG_planCode [.ref 0, .int x1] s M (fun r1 s1 M1 => (((r1 = 0) → vp_in x1 4 ∧ ∀ o1 : Nat, o1 = 117 + 2 * x1.toNatClampNeg → isY o1 → cI d yY_hasPlace [.ref o1, .int x2] s1 M1 (fun r2 s2 M2 => (((r2 = 0) → Q (-7) s2 M2) ∧ (¬ (r2 = 0) → (((x2 < 3) → vp_in x1 4 ∧ ∀ o2 : Nat, o2 = 117 + 2 * x1.toNatClampNeg → isY o2 → cV d yG_beginPlan [.ref 0, .ref o2] s2 M2 (fun s3 M3 => cI d yF_searchPlans [.ref 43, .ref 15, .ref 41, .int 1] s3 M3 (fun r3 s4 M4 => (¬ (r3 ≤ 0) → vp_in x2 3) ∧ Q ((if r3 ≤ 0 then (-1) else (M4.1 47 x2.toNatClampNeg)) : Int32) s4 M4))) ∧ (¬ (x2 < 3) → Q (-7) s2 M2)))))) ∧ (¬ (r1 = 0) → Q r1 s1 M1)))) : cI (d + 1) yG_plan [.ref 0, .int x1, .int x2] s M Q := by
  refine pm_toI (by decide) (Nat.le_of_ble_eq_true rfl) ?_
  show wG_plan d 0 [.ref 0, .int x1, .int x2, .null] [] s M Q
  refine s_aload_n (i := 0) (by decide +kernel) rfl (pn 1 rfl ?_)
  refine s_iload_n (i := 1) (by decide +kernel) rfl (pn 2 rfl ?_)
  refine s_callvI [.int x1] rfl (by decide +kernel) mv_11_293 np_150 (Nat.le_of_ble_eq_true rfl) lq_0 ((congrArg Prod.fst sh_0).trans oc_150) (cI_use h (fun r1 s1 M1 h => (pn 5 rfl ?_)))
  refine s_istore_n (i := 3) (by decide +kernel) (Nat.le_of_ble_eq_true rfl) (pn 6 rfl (t_store (ls' := [.ref 0, .int x1, .int x2, .int r1]) rfl ?_))
  refine s_iload_n (i := 3) (by decide +kernel) rfl (pn 7 rfl ?_)
  refine s_if_eq (off := 5) (tgt := 12) (by decide +kernel) rfl (fun c1 => ?_) (fun c1 => (pn 10 rfl ?_))
  · have h := h.1 c1
    refine s_aload_n (i := 0) (by decide +kernel) rfl (pn 13 rfl ?_)
    refine s_getfield (v := .ref 38) (by decide +kernel) fr_11_39 lq_0 (congrArg Prod.fst sh_0) (fv_ref pf_0_7) (pn 16 rfl ?_)
    refine s_iload_n (i := 1) (by decide +kernel) rfl (pn 17 rfl ?_)
    obtain ⟨b1, h⟩ := h
    obtain ⟨o1, eo1, ho1⟩ : ∃ zz : Nat, zz = 117 + 2 * x1.toNatClampNeg ∧ isY zz := ⟨_, rfl, pq_38 (vp_nat b1)⟩
    refine t_aaload (x := o1) (by decide +kernel) ⟨lq_38, by rw [sh_38]; decide, by rw [sh_38]; decide⟩ (al_in sh_38 b1) (by rw [eo1]; exact pa_38 (vp_nat b1)) (pn 18 rfl ?_)
    have h := h o1 eo1 ho1
    refine s_iload_n (i := 2) (by decide +kernel) rfl (pn 19 rfl ?_)
    refine s_callvI [.int x2] rfl (by decide +kernel) mv_11_296 np_109 (Nat.le_of_ble_eq_true rfl) (ltY_0 ho1) ((congrArg Prod.fst (shY_0 ho1)).trans oc_109) (cI_use h (fun r2 s2 M2 h => (pn 22 rfl ?_)))
    refine s_if_eq (off := 8) (tgt := 30) (by decide +kernel) rfl (fun c2 => ?_) (fun c2 => (pn 25 rfl ?_))
    · have h := h.1 c2
      refine t_bipush (by decide +kernel) kb_m7 (pn 32 rfl ?_)
      exact s_ireturn (st := []) (by decide +kernel) (Or.inl rfl) ⟨_, rfl, s2, rfl, h⟩
    · have h := h.2 c2
      refine s_iload_n (i := 2) (by decide +kernel) rfl (pn 26 rfl ?_)
      refine t_iconst (by decide +kernel) ki_3 (pn 27 rfl ?_)
      refine s_icmp_lt (off := 6) (tgt := 33) (by decide +kernel) rfl (fun c3 => ?_) (fun c3 => (pn 30 rfl ?_))
      · have h := h.1 c3
        refine s_aload_n (i := 0) (by decide +kernel) rfl (pn 34 rfl ?_)
        refine s_aload_n (i := 0) (by decide +kernel) rfl (pn 35 rfl ?_)
        refine s_getfield (v := .ref 38) (by decide +kernel) fr_11_39 lq_0 (congrArg Prod.fst sh_0) (fv_ref pf_0_7) (pn 38 rfl ?_)
        refine s_iload_n (i := 1) (by decide +kernel) rfl (pn 39 rfl ?_)
        obtain ⟨b2, h⟩ := h
        obtain ⟨o2, eo2, ho2⟩ : ∃ zz : Nat, zz = 117 + 2 * x1.toNatClampNeg ∧ isY zz := ⟨_, rfl, pq_38 (vp_nat b2)⟩
        refine t_aaload (x := o2) (by decide +kernel) ⟨lq_38, by rw [sh_38]; decide, by rw [sh_38]; decide⟩ (al_in sh_38 b2) (by rw [eo2]; exact pa_38 (vp_nat b2)) (pn 40 rfl ?_)
        have h := h o2 eo2 ho2
        refine s_callvV [.ref o2] rfl (by decide +kernel) mv_11_299 np_152 (Nat.le_of_ble_eq_true rfl) lq_0 ((congrArg Prod.fst sh_0).trans oc_152) (cV_use h (fun s3 M3 h => (pn 43 rfl ?_)))
        refine s_aload_n (i := 0) (by decide +kernel) rfl (pn 44 rfl ?_)
        refine s_getfield (v := .ref 43) (by decide +kernel) fr_11_60 lq_0 (congrArg Prod.fst sh_0) (fv_ref pf_0_12) (pn 47 rfl ?_)
        refine s_aload_n (i := 0) (by decide +kernel) rfl (pn 48 rfl ?_)
        refine s_getfield (v := .ref 15) (by decide +kernel) fr_11_19 lq_0 (congrArg Prod.fst sh_0) (fv_ref pf_0_1) (pn 51 rfl ?_)
        refine s_aload_n (i := 0) (by decide +kernel) rfl (pn 52 rfl ?_)
        refine s_getfield (v := .ref 41) (by decide +kernel) fr_11_53 lq_0 (congrArg Prod.fst sh_0) (fv_ref pf_0_11) (pn 55 rfl ?_)
        refine t_iconst (by decide +kernel) ki_1 (pn 56 rfl ?_)
        refine s_callvI [.ref 15, .ref 41, .int 1] rfl (by decide +kernel) mv_11_303 np_20 (Nat.le_of_ble_eq_true rfl) lq_43 ((congrArg Prod.fst sh_43).trans oc_20) (cI_use h (fun r3 s4 M4 h => (pn 59 rfl ?_)))
        obtain ⟨b3, h⟩ := h
        have k1 : ∀ (z1 : Int32) (z1e : z1 = ((if r3 ≤ 0 then (-1) else (M4.1 47 x2.toNatClampNeg)) : Int32)), wG_plan d 75 [.ref 0, .int x1, .int x2, .int r1] [.int z1] s4 M4 Q := by
          intro z1 z1e
          subst z1e
          exact s_ireturn (st := []) (by decide +kernel) (Or.inl rfl) ⟨_, rfl, s4, rfl, h⟩
        refine s_if_le (off := 15) (tgt := 74) (by decide +kernel) rfl (fun c4 => ?_) (fun c4 => (pn 62 rfl ?_))
        · refine t_iconst (by decide +kernel) ki_m1 (pn 75 rfl ?_)
          exact k1 _ (by simp only [if_pos c4])
        · refine s_aload_n (i := 0) (by decide +kernel) rfl (pn 63 rfl ?_)
          refine s_getfield (v := .ref 43) (by decide +kernel) fr_11_60 lq_0 (congrArg Prod.fst sh_0) (fv_ref pf_0_12) (pn 66 rfl ?_)
          refine s_getfield (v := .ref 47) (by decide +kernel) fr_11_307 lq_43 (congrArg Prod.fst sh_43) (fv_ref pf_43_3) (pn 69 rfl ?_)
          refine s_iload_n (i := 2) (by decide +kernel) rfl (pn 70 rfl ?_)
          refine t_iaload (v := M4.1 47 x2.toNatClampNeg) (by decide +kernel) ⟨Or.inl lq_47, congrArg Prod.fst sh_47⟩ (al_in sh_47 (b3 c4)) rfl (pn 71 rfl ?_)
          refine s_goto (off := 4) (tgt := 75) (by decide +kernel) rfl ?_
          exact k1 _ (by simp only [if_neg c4])
      · have h := h.2 c3
        refine t_bipush (by decide +kernel) kb_m7 (pn 32 rfl ?_)
        exact s_ireturn (st := []) (by decide +kernel) (Or.inl rfl) ⟨_, rfl, s2, rfl, h⟩
  · have h := h.2 c1
    refine s_iload_n (i := 3) (by decide +kernel) rfl (pn 11 rfl ?_)
    exact s_ireturn (st := []) (by decide +kernel) (Or.inl rfl) ⟨_, rfl, s1, rfl, h⟩
abbrev wG_planCode (d pc : Nat) (ls st : List Value) (s : pm_S) (M : pm_M) (Q : Int32 → pm_S → pm_M → Prop) : Prop := wI d prog_1_method_54_code 11 (some .int) false pc ls st s M Q
theorem enG_planCode {d : Nat} {s : pm_S} {M : pm_M} {x1 : Int32} {Q : Int32 → pm_S → pm_M → Prop}  (h : cI d yG_trayCode [.ref 0, .int x1] s M (fun r1 s1 M1 => (((r1 = 0) → vp_in x1 4 ∧ ∀ o1 : Nat, o1 = 117 + 2 * x1.toNatClampNeg → isY o1 → ((((M1.1 o1 2) < 1) → Q (-4) s1 M1) ∧ (¬ ((M1.1 o1 2) < 1) → ((((M1.1 o1 2) ≤ 3) → wG_planCode d 38 [.ref 0, .int x1, .null, .int (M1.1 o1 2), .int 0] [] s1 M1 Q) ∧ (¬ ((M1.1 o1 2) ≤ 3) → Q (-4) s1 M1))))) ∧ (¬ (r1 = 0) → Q r1 s1 M1)))) : cI (d + 1) yG_planCode [.ref 0, .int x1] s M Q := by
  refine pm_toI (by decide) (Nat.le_of_ble_eq_true rfl) ?_
  show wG_planCode d 0 [.ref 0, .int x1, .null, .null, .null] [] s M Q
  refine s_aload_n (i := 0) (by decide +kernel) rfl (pn 1 rfl ?_)
  refine s_iload_n (i := 1) (by decide +kernel) rfl (pn 2 rfl ?_)
  refine s_callvI [.int x1] rfl (by decide +kernel) mv_11_256 np_143 (Nat.le_of_ble_eq_true rfl) lq_0 ((congrArg Prod.fst sh_0).trans oc_143) (cI_use h (fun r1 s1 M1 h => (pn 5 rfl ?_)))
  refine s_istore_n (i := 2) (by decide +kernel) (Nat.le_of_ble_eq_true rfl) (pn 6 rfl (t_store (ls' := [.ref 0, .int x1, .int r1, .null, .null]) rfl ?_))
  refine s_iload_n (i := 2) (by decide +kernel) rfl (pn 7 rfl ?_)
  refine s_if_eq (off := 5) (tgt := 12) (by decide +kernel) rfl (fun c1 => ?_) (fun c1 => (pn 10 rfl ?_))
  · have h := h.1 c1
    refine s_aload_n (i := 0) (by decide +kernel) rfl (pn 13 rfl ?_)
    refine s_getfield (v := .ref 38) (by decide +kernel) fr_11_39 lq_0 (congrArg Prod.fst sh_0) (fv_ref pf_0_7) (pn 16 rfl ?_)
    refine s_iload_n (i := 1) (by decide +kernel) rfl (pn 17 rfl ?_)
    obtain ⟨b1, h⟩ := h
    obtain ⟨o1, eo1, ho1⟩ : ∃ zz : Nat, zz = 117 + 2 * x1.toNatClampNeg ∧ isY zz := ⟨_, rfl, pq_38 (vp_nat b1)⟩
    refine t_aaload (x := o1) (by decide +kernel) ⟨lq_38, by rw [sh_38]; decide, by rw [sh_38]; decide⟩ (al_in sh_38 b1) (by rw [eo1]; exact pa_38 (vp_nat b1)) (pn 18 rfl ?_)
    have h := h o1 eo1 ho1
    refine s_getfield (v := .int (M1.1 o1 2)) (by decide +kernel) fr_11_424 (ltY_0 ho1) (congrArg Prod.fst (shY_0 ho1)) rfl (pn 21 rfl ?_)
    refine s_istore_n (i := 3) (by decide +kernel) (Nat.le_of_ble_eq_true rfl) (pn 22 rfl (t_store (ls' := [.ref 0, .int x1, .int r1, .int (M1.1 o1 2), .null]) rfl ?_))
    refine s_iload_n (i := 3) (by decide +kernel) rfl (pn 23 rfl ?_)
    refine t_iconst (by decide +kernel) ki_1 (pn 24 rfl ?_)
    refine s_icmp_lt (off := 8) (tgt := 32) (by decide +kernel) rfl (fun c2 => ?_) (fun c2 => (pn 27 rfl ?_))
    · have h := h.1 c2
      refine t_bipush (by decide +kernel) kb_m4 (pn 34 rfl ?_)
      exact s_ireturn (st := []) (by decide +kernel) (Or.inl rfl) ⟨_, rfl, s1, rfl, h⟩
    · have h := h.2 c2
      refine s_iload_n (i := 3) (by decide +kernel) rfl (pn 28 rfl ?_)
      refine t_iconst (by decide +kernel) ki_3 (pn 29 rfl ?_)
      refine s_icmp_le (off := 6) (tgt := 35) (by decide +kernel) rfl (fun c3 => ?_) (fun c3 => (pn 32 rfl ?_))
      · have h := h.1 c3
        refine t_iconst (by decide +kernel) ki_0 (pn 36 rfl ?_)
        refine s_istore (i := 4) (by decide +kernel) (Nat.le_of_ble_eq_true rfl) (pn 38 rfl (t_store (ls' := [.ref 0, .int x1, .int r1, .int (M1.1 o1 2), .int 0]) rfl ?_))
        exact pm_weak [.ref 0, .int x1, .null, .int (M1.1 o1 2), .int 0] (pm_le_cons (Or.inr rfl) (pm_le_cons (Or.inr rfl) (pm_le_cons (Or.inl rfl) (pm_le_cons (Or.inr rfl) (pm_le_cons (Or.inr rfl) pm_le_nil))))) h
      · have h := h.2 c3
        refine t_bipush (by decide +kernel) kb_m4 (pn 34 rfl ?_)
        exact s_ireturn (st := []) (by decide +kernel) (Or.inl rfl) ⟨_, rfl, s1, rfl, h⟩
  · have h := h.2 c1
    refine s_iload_n (i := 2) (by decide +kernel) rfl (pn 11 rfl ?_)
    exact s_ireturn (st := []) (by decide +kernel) (Or.inl rfl) ⟨_, rfl, s1, rfl, h⟩
theorem sgG_planCode_38 {d : Nat} {s : pm_S} {M : pm_M} {l1 : Int32} {l3 : Int32} {l4 : Int32} {Q : Int32 → pm_S → pm_M → Prop}  (h : (((l3 ≤ l4) → Q 0 s M) ∧ (¬ (l3 ≤ l4) → vp_in l1 4 ∧ ∀ o1 : Nat, o1 = 117 + 2 * l1.toNatClampNeg → isY o1 → cI d yG_canPlan [.ref 0, .ref o1, .int l4] s M (fun r1 s1 M1 => ((r1 = 0 → Q (-3) s1 M1) ∧ (¬ (r1 = 0) → wG_planCode d 38 [.ref 0, .int l1, .null, .int l3, .int (l4 + 1)] [] s1 M1 Q)))))) : wG_planCode d 38 [.ref 0, .int l1, .null, .int l3, .int l4] [] s M Q := by
  refine s_iload (i := 4) (by decide +kernel) rfl (pn 40 rfl ?_)
  refine s_iload_n (i := 3) (by decide +kernel) rfl (pn 41 rfl ?_)
  refine s_icmp_ge (off := 27) (tgt := 68) (by decide +kernel) rfl (fun c1 => ?_) (fun c1 => (pn 44 rfl ?_))
  · have h := h.1 c1
    refine t_iconst (by decide +kernel) ki_0 (pn 69 rfl ?_)
    exact s_ireturn (st := []) (by decide +kernel) (Or.inl rfl) ⟨_, rfl, s, rfl, h⟩
  · have h := h.2 c1
    refine s_aload_n (i := 0) (by decide +kernel) rfl (pn 45 rfl ?_)
    refine s_aload_n (i := 0) (by decide +kernel) rfl (pn 46 rfl ?_)
    refine s_getfield (v := .ref 38) (by decide +kernel) fr_11_39 lq_0 (congrArg Prod.fst sh_0) (fv_ref pf_0_7) (pn 49 rfl ?_)
    refine s_iload_n (i := 1) (by decide +kernel) rfl (pn 50 rfl ?_)
    obtain ⟨b1, h⟩ := h
    obtain ⟨o1, eo1, ho1⟩ : ∃ zz : Nat, zz = 117 + 2 * l1.toNatClampNeg ∧ isY zz := ⟨_, rfl, pq_38 (vp_nat b1)⟩
    refine t_aaload (x := o1) (by decide +kernel) ⟨lq_38, by rw [sh_38]; decide, by rw [sh_38]; decide⟩ (al_in sh_38 b1) (by rw [eo1]; exact pa_38 (vp_nat b1)) (pn 51 rfl ?_)
    have h := h o1 eo1 ho1
    refine s_iload (i := 4) (by decide +kernel) rfl (pn 53 rfl ?_)
    refine s_callvI [.ref o1, .int l4] rfl (by decide +kernel) mv_11_439 np_151 (Nat.le_of_ble_eq_true rfl) lq_0 ((congrArg Prod.fst sh_0).trans oc_151) (cI_use h (fun r1 s1 M1 h => (pn 56 rfl ?_)))
    refine t_if_ne (off := 6) (tgt := 62) (by decide +kernel) rfl (fun c2 => ?_) (fun c2 => (pn 59 rfl ?_))
    · have h := h.2 c2
      refine t_iinc (i := 4) (n := 1) (ls' := [.ref 0, .int l1, .null, .int l3, .int (l4 + 1)]) (by decide +kernel) rfl (Nat.le_of_ble_eq_true rfl) kn_1 rfl (pn 65 rfl ?_)
      refine s_goto (off := -27) (tgt := 38) (by decide +kernel) rfl ?_
      exact h
    · have h := h.1 c2
      refine t_bipush (by decide +kernel) kb_m3 (pn 61 rfl ?_)
      exact s_ireturn (st := []) (by decide +kernel) (Or.inl rfl) ⟨_, rfl, s1, rfl, h⟩
abbrev wG_canPlan (d pc : Nat) (ls st : List Value) (s : pm_S) (M : pm_M) (Q : Int32 → pm_S → pm_M → Prop) : Prop := wI d prog_1_method_55_code 11 (some .boolean) false pc ls st s M Q
theorem enG_canPlan {d : Nat} {s : pm_S} {M : pm_M} {t : Nat} {x2 : Int32} {Q : Int32 → pm_S → pm_M → Prop} (ht : isY t) (h : cL d yY_at [.ref t, .int x2] s M (fun r1 s1 M1 => (((r1 < 0) → Q 0 s1 M1) ∧ (¬ (r1 < 0) → (((((M1.1 15 1).toInt64) ≤ (r1 / 10)) → Q 0 s1 M1) ∧ (¬ (((M1.1 15 1).toInt64) ≤ (r1 / 10)) → ((((r1 - r1 / 10 * 10) < ((M1.1 15 2).toInt64)) → wG_canPlan d 51 [.null, .ref t, .int x2, .long r1, .null, .int 0, .null, .null] [] s1 M1 Q) ∧ (¬ ((r1 - r1 / 10 * 10) < ((M1.1 15 2).toInt64)) → Q 0 s1 M1)))))))) : cI (d + 1) yG_canPlan [.ref 0, .ref t, .int x2] s M Q := by
  refine pm_toI (by decide) (Nat.le_of_ble_eq_true rfl) ?_
  show wG_canPlan d 0 [.ref 0, .ref t, .int x2, .null, .null, .null, .null, .null] [] s M Q
  refine s_aload_n (i := 1) (by decide +kernel) rfl (pn 1 rfl ?_)
  refine s_iload_n (i := 2) (by decide +kernel) rfl (pn 2 rfl ?_)
  refine s_callvL [.int x2] rfl (by decide +kernel) mv_11_443 np_108 (Nat.le_of_ble_eq_true rfl) (ltY_0 ht) ((congrArg Prod.fst (shY_0 ht)).trans oc_108) (cL_use h (fun r1 s1 M1 h => (pn 5 rfl ?_)))
  refine s_lstore_n (i := 3) (by decide +kernel) (Nat.le_of_ble_eq_true rfl) (pn 6 rfl (t_store (ls' := [.ref 0, .ref t, .int x2, .long r1, .null, .null, .null, .null]) rfl ?_))
  refine s_lload_n (i := 3) (by decide +kernel) rfl (pn 7 rfl ?_)
  refine t_lconst (n := 0) (v := 0) (by decide +kernel) rfl (pn 8 rfl ?_)
  refine t_lc_lt (off := 37) (tgt := 46) (by decide +kernel) (by decide +kernel) rfl (fun c1 => ?_) (fun c1 => (pn 12 rfl ?_))
  · have h := h.1 c1
    refine t_iconst (by decide +kernel) ki_0 (pn 47 rfl ?_)
    exact s_ireturn (st := []) (by decide +kernel) (Or.inr ⟨rfl, (Or.inl rfl)⟩) ⟨_, rfl, s1, rfl, h⟩
  · have h := h.2 c1
    refine s_lload_n (i := 3) (by decide +kernel) rfl (pn 13 rfl ?_)
    refine s_ldc2_w (by decide +kernel) kl_11_446 (pn 16 rfl ?_)
    refine s_ldiv (by decide +kernel) (by decide) (pn 17 rfl ?_)
    refine s_aload_n (i := 0) (by decide +kernel) rfl (pn 18 rfl ?_)
    refine s_getfield (v := .ref 15) (by decide +kernel) fr_11_19 lq_0 (congrArg Prod.fst sh_0) (fv_ref pf_0_1) (pn 21 rfl ?_)
    refine s_getfield (v := .int (M1.1 15 1)) (by decide +kernel) fr_11_327 lq_15 (congrArg Prod.fst sh_15) rfl (pn 24 rfl ?_)
    refine s_i2l (by decide +kernel) (pn 25 rfl ?_)
    refine t_lc_ge (off := 20) (tgt := 46) (by decide +kernel) (by decide +kernel) rfl (fun c2 => ?_) (fun c2 => (pn 29 rfl ?_))
    · have h := h.1 c2
      refine t_iconst (by decide +kernel) ki_0 (pn 47 rfl ?_)
      exact s_ireturn (st := []) (by decide +kernel) (Or.inr ⟨rfl, (Or.inl rfl)⟩) ⟨_, rfl, s1, rfl, h⟩
    · have h := h.2 c2
      refine s_lload_n (i := 3) (by decide +kernel) rfl (pn 30 rfl ?_)
      refine s_ldc2_w (by decide +kernel) kl_11_446 (pn 33 rfl ?_)
      refine s_lrem (by decide +kernel) (by decide) (pn 34 rfl ?_)
      refine s_aload_n (i := 0) (by decide +kernel) rfl (pn 35 rfl ?_)
      refine s_getfield (v := .ref 15) (by decide +kernel) fr_11_19 lq_0 (congrArg Prod.fst sh_0) (fv_ref pf_0_1) (pn 38 rfl ?_)
      refine s_getfield (v := .int (M1.1 15 2)) (by decide +kernel) fr_11_324 lq_15 (congrArg Prod.fst sh_15) rfl (pn 41 rfl ?_)
      refine s_i2l (by decide +kernel) (pn 42 rfl ?_)
      refine t_lc_lt (off := 5) (tgt := 48) (by decide +kernel) (by decide +kernel) rfl (fun c3 => ?_) (fun c3 => (pn 46 rfl ?_))
      · have h := h.1 c3
        refine t_iconst (by decide +kernel) ki_0 (pn 49 rfl ?_)
        refine s_istore (i := 5) (by decide +kernel) (Nat.le_of_ble_eq_true rfl) (pn 51 rfl (t_store (ls' := [.ref 0, .ref t, .int x2, .long r1, .null, .int 0, .null, .null]) rfl ?_))
        exact pm_weak [.null, .ref t, .int x2, .long r1, .null, .int 0, .null, .null] (pm_le_cons (Or.inl rfl) (pm_le_cons (Or.inr rfl) (pm_le_cons (Or.inr rfl) (pm_le_cons (Or.inr rfl) (pm_le_cons (Or.inl rfl) (pm_le_cons (Or.inr rfl) (pm_le_cons (Or.inl rfl) (pm_le_cons (Or.inl rfl) pm_le_nil)))))))) h
      · have h := h.2 c3
        refine t_iconst (by decide +kernel) ki_0 (pn 47 rfl ?_)
        exact s_ireturn (st := []) (by decide +kernel) (Or.inr ⟨rfl, (Or.inl rfl)⟩) ⟨_, rfl, s1, rfl, h⟩
theorem sgG_canPlan_51 {d : Nat} {s : pm_S} {M : pm_M} {l2 : Int32} {l3 : Int64} {l5 : Int32} {t : Nat} {Q : Int32 → pm_S → pm_M → Prop} (ht : isY t) (h : (((l2 ≤ l5) → Q 1 s M) ∧ (¬ (l2 ≤ l5) → cL d yY_at [.ref t, .int l5] s M (fun r1 s1 M1 => ((((r1 / 10) = (l3 / 10)) → Q 0 s1 M1) ∧ (¬ ((r1 / 10) = (l3 / 10)) → (((r1 - r1 / 10 * 10) = (l3 - l3 / 10 * 10) → Q 0 s1 M1) ∧ (¬ ((r1 - r1 / 10 * 10) = (l3 - l3 / 10 * 10)) → wG_canPlan d 51 [.null, .ref t, .int l2, .long l3, .null, .int (l5 + 1), .null, .null] [] s1 M1 Q)))))))) : wG_canPlan d 51 [.null, .ref t, .int l2, .long l3, .null, .int l5, .null, .null] [] s M Q := by
  refine s_iload (i := 5) (by decide +kernel) rfl (pn 53 rfl ?_)
  refine s_iload_n (i := 2) (by decide +kernel) rfl (pn 54 rfl ?_)
  refine s_icmp_ge (off := 49) (tgt := 103) (by decide +kernel) rfl (fun c1 => ?_) (fun c1 => (pn 57 rfl ?_))
  · have h := h.1 c1
    refine t_iconst (by decide +kernel) ki_1 (pn 104 rfl ?_)
    exact s_ireturn (st := []) (by decide +kernel) (Or.inr ⟨rfl, (Or.inr rfl)⟩) ⟨_, rfl, s, rfl, h⟩
  · have h := h.2 c1
    refine s_aload_n (i := 1) (by decide +kernel) rfl (pn 58 rfl ?_)
    refine s_iload (i := 5) (by decide +kernel) rfl (pn 60 rfl ?_)
    refine s_callvL [.int l5] rfl (by decide +kernel) mv_11_443 np_108 (Nat.le_of_ble_eq_true rfl) (ltY_0 ht) ((congrArg Prod.fst (shY_0 ht)).trans oc_108) (cL_use h (fun r1 s1 M1 h => (pn 63 rfl ?_)))
    refine s_lstore (i := 6) (by decide +kernel) (Nat.le_of_ble_eq_true rfl) (pn 65 rfl (t_store (ls' := [.null, .ref t, .int l2, .long l3, .null, .int l5, .long r1, .null]) rfl ?_))
    refine s_lload (i := 6) (by decide +kernel) rfl (pn 67 rfl ?_)
    refine s_ldc2_w (by decide +kernel) kl_11_446 (pn 70 rfl ?_)
    refine s_ldiv (by decide +kernel) (by decide) (pn 71 rfl ?_)
    refine s_lload_n (i := 3) (by decide +kernel) rfl (pn 72 rfl ?_)
    refine s_ldc2_w (by decide +kernel) kl_11_446 (pn 75 rfl ?_)
    refine s_ldiv (by decide +kernel) (by decide) (pn 76 rfl ?_)
    refine t_lc_eq (off := 18) (tgt := 95) (by decide +kernel) (by decide +kernel) rfl (fun c2 => ?_) (fun c2 => (pn 80 rfl ?_))
    · have h := h.1 c2
      refine t_iconst (by decide +kernel) ki_0 (pn 96 rfl ?_)
      exact s_ireturn (st := []) (by decide +kernel) (Or.inr ⟨rfl, (Or.inl rfl)⟩) ⟨_, rfl, s1, rfl, h⟩
    · have h := h.2 c2
      refine s_lload (i := 6) (by decide +kernel) rfl (pn 82 rfl ?_)
      refine s_ldc2_w (by decide +kernel) kl_11_446 (pn 85 rfl ?_)
      refine s_lrem (by decide +kernel) (by decide) (pn 86 rfl ?_)
      refine s_lload_n (i := 3) (by decide +kernel) rfl (pn 87 rfl ?_)
      refine s_ldc2_w (by decide +kernel) kl_11_446 (pn 90 rfl ?_)
      refine s_lrem (by decide +kernel) (by decide) (pn 91 rfl ?_)
      refine t_lc_ne (off := 5) (tgt := 97) (by decide +kernel) (by decide +kernel) rfl (fun c3 => ?_) (fun c3 => (pn 95 rfl ?_))
      · have h := h.2 c3
        refine t_iinc (i := 5) (n := 1) (ls' := [.null, .ref t, .int l2, .long l3, .null, .int (l5 + 1), .long r1, .null]) (by decide +kernel) rfl (Nat.le_of_ble_eq_true rfl) kn_1 rfl (pn 100 rfl ?_)
        refine s_goto (off := -49) (tgt := 51) (by decide +kernel) rfl ?_
        exact pm_weak [.null, .ref t, .int l2, .long l3, .null, .int (l5 + 1), .null, .null] (pm_le_cons (Or.inl rfl) (pm_le_cons (Or.inr rfl) (pm_le_cons (Or.inr rfl) (pm_le_cons (Or.inr rfl) (pm_le_cons (Or.inl rfl) (pm_le_cons (Or.inr rfl) (pm_le_cons (Or.inl rfl) (pm_le_cons (Or.inl rfl) pm_le_nil)))))))) h
      · have h := h.1 c3
        refine t_iconst (by decide +kernel) ki_0 (pn 96 rfl ?_)
        exact s_ireturn (st := []) (by decide +kernel) (Or.inr ⟨rfl, (Or.inl rfl)⟩) ⟨_, rfl, s1, rfl, h⟩
abbrev wG_beginPlan (d pc : Nat) (ls st : List Value) (s : pm_S) (M : pm_M) (Q : pm_S → pm_M → Prop) : Prop := wV d prog_1_method_56_code 11 none false pc ls st s M Q
theorem enG_beginPlan {d : Nat} {s : pm_S} {M : pm_M} {t : Nat} {Q : pm_S → pm_M → Prop} (ht : isY t) (h : cV d yK_gather [.ref 41, .ref 15, .ref 27] s M (fun s1 M1 => cV d yF_begin [.ref 43, .ref 27] s1 M1 (fun s2 M2 => wG_beginPlan d 28 [.ref 0, .ref t, .int 0] [] s2 M2 Q))) : cV (d + 1) yG_beginPlan [.ref 0, .ref t] s M Q := by
  refine pm_toV (by decide) (Nat.le_of_ble_eq_true rfl) ?_
  show wG_beginPlan d 0 [.ref 0, .ref t, .null] [] s M Q
  refine s_aload_n (i := 0) (by decide +kernel) rfl (pn 1 rfl ?_)
  refine s_getfield (v := .ref 41) (by decide +kernel) fr_11_53 lq_0 (congrArg Prod.fst sh_0) (fv_ref pf_0_11) (pn 4 rfl ?_)
  refine s_aload_n (i := 0) (by decide +kernel) rfl (pn 5 rfl ?_)
  refine s_getfield (v := .ref 15) (by decide +kernel) fr_11_19 lq_0 (congrArg Prod.fst sh_0) (fv_ref pf_0_1) (pn 8 rfl ?_)
  refine s_aload_n (i := 0) (by decide +kernel) rfl (pn 9 rfl ?_)
  refine s_getfield (v := .ref 27) (by decide +kernel) fr_11_26 lq_0 (congrArg Prod.fst sh_0) (fv_ref pf_0_2) (pn 12 rfl ?_)
  refine s_callvV [.ref 15, .ref 27] rfl (by decide +kernel) mv_11_272 np_1 (Nat.le_of_ble_eq_true rfl) lq_41 ((congrArg Prod.fst sh_41).trans oc_1) (cV_use h (fun s1 M1 h => (pn 15 rfl ?_)))
  refine s_aload_n (i := 0) (by decide +kernel) rfl (pn 16 rfl ?_)
  refine s_getfield (v := .ref 43) (by decide +kernel) fr_11_60 lq_0 (congrArg Prod.fst sh_0) (fv_ref pf_0_12) (pn 19 rfl ?_)
  refine s_aload_n (i := 0) (by decide +kernel) rfl (pn 20 rfl ?_)
  refine s_getfield (v := .ref 27) (by decide +kernel) fr_11_26 lq_0 (congrArg Prod.fst sh_0) (fv_ref pf_0_2) (pn 23 rfl ?_)
  refine s_callvV [.ref 27] rfl (by decide +kernel) mv_11_276 np_15 (Nat.le_of_ble_eq_true rfl) lq_43 ((congrArg Prod.fst sh_43).trans oc_15) (cV_use h (fun s2 M2 h => (pn 26 rfl ?_)))
  refine t_iconst (by decide +kernel) ki_0 (pn 27 rfl ?_)
  refine s_istore_n (i := 2) (by decide +kernel) (Nat.le_of_ble_eq_true rfl) (pn 28 rfl (t_store (ls' := [.ref 0, .ref t, .int 0]) rfl ?_))
  exact h
theorem sgG_beginPlan_28 {d : Nat} {s : pm_S} {M : pm_M} {l2 : Int32} {t : Nat} {Q : pm_S → pm_M → Prop} (ht : isY t) (h : ((((M.1 t 2) ≤ l2) → Q s M) ∧ (¬ ((M.1 t 2) ≤ l2) → (((3 ≤ l2) → Q s M) ∧ (¬ (3 ≤ l2) → cL d yY_at [.ref t, .int l2] s M (fun r1 s1 M1 => cV d yF_add [.ref 43, .int ((r1 / 10).toInt32), .ref 27] s1 M1 (fun s2 M2 => cL d yY_at [.ref t, .int l2] s2 M2 (fun r2 s3 M3 => vp_in l2 3 ∧ wG_beginPlan d 28 [.ref 0, .ref t, .int (l2 + 1)] [] s3 (pm_si M3 46 l2.toNatClampNeg ((r2 - r2 / 10 * 10).toInt32)) Q)))))))) : wG_beginPlan d 28 [.ref 0, .ref t, .int l2] [] s M Q := by
  refine s_iload_n (i := 2) (by decide +kernel) rfl (pn 29 rfl ?_)
  refine s_aload_n (i := 1) (by decide +kernel) rfl (pn 30 rfl ?_)
  refine s_getfield (v := .int (M.1 t 2)) (by decide +kernel) fr_11_424 (ltY_0 ht) (congrArg Prod.fst (shY_0 ht)) rfl (pn 33 rfl ?_)
  refine s_icmp_ge (off := 54) (tgt := 87) (by decide +kernel) rfl (fun c1 => ?_) (fun c1 => (pn 36 rfl ?_))
  · have h := h.1 c1
    exact s_return (st := []) (by decide +kernel) rfl ⟨rfl, s, rfl, h⟩
  · have h := h.2 c1
    refine s_iload_n (i := 2) (by decide +kernel) rfl (pn 37 rfl ?_)
    refine t_iconst (by decide +kernel) ki_3 (pn 38 rfl ?_)
    refine s_icmp_ge (off := 49) (tgt := 87) (by decide +kernel) rfl (fun c3 => ?_) (fun c3 => (pn 41 rfl ?_))
    · have h := h.1 c3
      exact s_return (st := []) (by decide +kernel) rfl ⟨rfl, s, rfl, h⟩
    · have h := h.2 c3
      refine s_aload_n (i := 0) (by decide +kernel) rfl (pn 42 rfl ?_)
      refine s_getfield (v := .ref 43) (by decide +kernel) fr_11_60 lq_0 (congrArg Prod.fst sh_0) (fv_ref pf_0_12) (pn 45 rfl ?_)
      refine s_aload_n (i := 1) (by decide +kernel) rfl (pn 46 rfl ?_)
      refine s_iload_n (i := 2) (by decide +kernel) rfl (pn 47 rfl ?_)
      refine s_callvL [.int l2] rfl (by decide +kernel) mv_11_443 np_108 (Nat.le_of_ble_eq_true rfl) (ltY_0 ht) ((congrArg Prod.fst (shY_0 ht)).trans oc_108) (cL_use h (fun r1 s1 M1 h => (pn 50 rfl ?_)))
      refine s_ldc2_w (by decide +kernel) kl_11_446 (pn 53 rfl ?_)
      refine s_ldiv (by decide +kernel) (by decide) (pn 54 rfl ?_)
      refine s_l2i (by decide +kernel) (pn 55 rfl ?_)
      refine s_aload_n (i := 0) (by decide +kernel) rfl (pn 56 rfl ?_)
      refine s_getfield (v := .ref 27) (by decide +kernel) fr_11_26 lq_0 (congrArg Prod.fst sh_0) (fv_ref pf_0_2) (pn 59 rfl ?_)
      refine s_callvV [.int ((r1 / 10).toInt32), .ref 27] rfl (by decide +kernel) mv_11_278 np_16 (Nat.le_of_ble_eq_true rfl) lq_43 ((congrArg Prod.fst sh_43).trans oc_16) (cV_use h (fun s2 M2 h => (pn 62 rfl ?_)))
      refine s_aload_n (i := 0) (by decide +kernel) rfl (pn 63 rfl ?_)
      refine s_getfield (v := .ref 43) (by decide +kernel) fr_11_60 lq_0 (congrArg Prod.fst sh_0) (fv_ref pf_0_12) (pn 66 rfl ?_)
      refine s_getfield (v := .ref 46) (by decide +kernel) fr_11_448 lq_43 (congrArg Prod.fst sh_43) (fv_ref pf_43_2) (pn 69 rfl ?_)
      refine s_iload_n (i := 2) (by decide +kernel) rfl (pn 70 rfl ?_)
      refine s_aload_n (i := 1) (by decide +kernel) rfl (pn 71 rfl ?_)
      refine s_iload_n (i := 2) (by decide +kernel) rfl (pn 72 rfl ?_)
      refine s_callvL [.int l2] rfl (by decide +kernel) mv_11_443 np_108 (Nat.le_of_ble_eq_true rfl) (ltY_0 ht) ((congrArg Prod.fst (shY_0 ht)).trans oc_108) (cL_use h (fun r2 s3 M3 h => (pn 75 rfl ?_)))
      refine s_ldc2_w (by decide +kernel) kl_11_446 (pn 78 rfl ?_)
      refine s_lrem (by decide +kernel) (by decide) (pn 79 rfl ?_)
      refine s_l2i (by decide +kernel) (pn 80 rfl ?_)
      obtain ⟨b1, h⟩ := h
      refine t_iastore (k := l2.toNatClampNeg) (by decide +kernel) ⟨lq_46, congrArg Prod.fst sh_46⟩ (al_in sh_46 b1) rfl (pn 81 rfl ?_)
      refine t_iinc (i := 2) (n := 1) (ls' := [.ref 0, .ref t, .int (l2 + 1)]) (by decide +kernel) rfl (Nat.le_of_ble_eq_true rfl) kn_1 rfl (pn 84 rfl ?_)
      refine s_goto (off := -56) (tgt := 28) (by decide +kernel) rfl ?_
      exact h
abbrev wG_plans (d pc : Nat) (ls st : List Value) (s : pm_S) (M : pm_M) (Q : Int32 → pm_S → pm_M → Prop) : Prop := wI d prog_1_method_24_code 11 (some .int) false pc ls st s M Q
theorem enG_plans {d : Nat} {s : pm_S} {M : pm_M} {x1 : Int32} {Q : Int32 → pm_S → pm_M → Prop}  (h : cI d yG_planCode [.ref 0, .int x1] s M (fun r1 s1 M1 => (((r1 = 0) → vp_in x1 4 ∧ ∀ o1 : Nat, o1 = 117 + 2 * x1.toNatClampNeg → isY o1 → cV d yG_beginPlan [.ref 0, .ref o1] s1 M1 (fun s2 M2 => cI d yF_searchPlans [.ref 43, .ref 15, .ref 41, .int 0] s2 M2 (fun r2 s3 M3 => Q r2 s3 M3))) ∧ (¬ (r1 = 0) → Q r1 s1 M1)))) : cI (d + 1) yG_plans [.ref 0, .int x1] s M Q := by
  refine pm_toI (by decide) (Nat.le_of_ble_eq_true rfl) ?_
  show wG_plans d 0 [.ref 0, .int x1, .null] [] s M Q
  refine s_aload_n (i := 0) (by decide +kernel) rfl (pn 1 rfl ?_)
  refine s_iload_n (i := 1) (by decide +kernel) rfl (pn 2 rfl ?_)
  refine s_callvI [.int x1] rfl (by decide +kernel) mv_11_293 np_150 (Nat.le_of_ble_eq_true rfl) lq_0 ((congrArg Prod.fst sh_0).trans oc_150) (cI_use h (fun r1 s1 M1 h => (pn 5 rfl ?_)))
  refine s_istore_n (i := 2) (by decide +kernel) (Nat.le_of_ble_eq_true rfl) (pn 6 rfl (t_store (ls' := [.ref 0, .int x1, .int r1]) rfl ?_))
  refine s_iload_n (i := 2) (by decide +kernel) rfl (pn 7 rfl ?_)
  refine s_if_eq (off := 5) (tgt := 12) (by decide +kernel) rfl (fun c1 => ?_) (fun c1 => (pn 10 rfl ?_))
  · have h := h.1 c1
    refine s_aload_n (i := 0) (by decide +kernel) rfl (pn 13 rfl ?_)
    refine s_aload_n (i := 0) (by decide +kernel) rfl (pn 14 rfl ?_)
    refine s_getfield (v := .ref 38) (by decide +kernel) fr_11_39 lq_0 (congrArg Prod.fst sh_0) (fv_ref pf_0_7) (pn 17 rfl ?_)
    refine s_iload_n (i := 1) (by decide +kernel) rfl (pn 18 rfl ?_)
    obtain ⟨b1, h⟩ := h
    obtain ⟨o1, eo1, ho1⟩ : ∃ zz : Nat, zz = 117 + 2 * x1.toNatClampNeg ∧ isY zz := ⟨_, rfl, pq_38 (vp_nat b1)⟩
    refine t_aaload (x := o1) (by decide +kernel) ⟨lq_38, by rw [sh_38]; decide, by rw [sh_38]; decide⟩ (al_in sh_38 b1) (by rw [eo1]; exact pa_38 (vp_nat b1)) (pn 19 rfl ?_)
    have h := h o1 eo1 ho1
    refine s_callvV [.ref o1] rfl (by decide +kernel) mv_11_299 np_152 (Nat.le_of_ble_eq_true rfl) lq_0 ((congrArg Prod.fst sh_0).trans oc_152) (cV_use h (fun s2 M2 h => (pn 22 rfl ?_)))
    refine s_aload_n (i := 0) (by decide +kernel) rfl (pn 23 rfl ?_)
    refine s_getfield (v := .ref 43) (by decide +kernel) fr_11_60 lq_0 (congrArg Prod.fst sh_0) (fv_ref pf_0_12) (pn 26 rfl ?_)
    refine s_aload_n (i := 0) (by decide +kernel) rfl (pn 27 rfl ?_)
    refine s_getfield (v := .ref 15) (by decide +kernel) fr_11_19 lq_0 (congrArg Prod.fst sh_0) (fv_ref pf_0_1) (pn 30 rfl ?_)
    refine s_aload_n (i := 0) (by decide +kernel) rfl (pn 31 rfl ?_)
    refine s_getfield (v := .ref 41) (by decide +kernel) fr_11_53 lq_0 (congrArg Prod.fst sh_0) (fv_ref pf_0_11) (pn 34 rfl ?_)
    refine t_iconst (by decide +kernel) ki_0 (pn 35 rfl ?_)
    refine s_callvI [.ref 15, .ref 41, .int 0] rfl (by decide +kernel) mv_11_303 np_20 (Nat.le_of_ble_eq_true rfl) lq_43 ((congrArg Prod.fst sh_43).trans oc_20) (cI_use h (fun r2 s3 M3 h => (pn 38 rfl ?_)))
    exact s_ireturn (st := []) (by decide +kernel) (Or.inl rfl) ⟨_, rfl, s3, rfl, h⟩
  · have h := h.2 c1
    refine s_iload_n (i := 2) (by decide +kernel) rfl (pn 11 rfl ?_)
    exact s_ireturn (st := []) (by decide +kernel) (Or.inl rfl) ⟨_, rfl, s1, rfl, h⟩
abbrev wG_match (d pc : Nat) (ls st : List Value) (s : pm_S) (M : pm_M) (Q : Int32 → pm_S → pm_M → Prop) : Prop := wI d prog_1_method_25_code 11 (some .int) false pc ls st s M Q
theorem enG_match {d : Nat} {s : pm_S} {M : pm_M} {x1 : Int32} {Q : Int32 → pm_S → pm_M → Prop}  (h : (((x1 = 0) → wG_match d 21 [.ref 0, .int x1] [] s M Q) ∧ (¬ (x1 = 0) → cI d yL_hasPerson [.ref 15, .int (x1 - 10)] s M (fun r1 s1 M1 => ((r1 = 0 → Q (-2) s1 M1) ∧ (¬ (r1 = 0) → wG_match d 21 [.ref 0, .int x1] [] s1 M1 Q)))))) : cI (d + 1) yG_match [.ref 0, .int x1] s M Q := by
  refine pm_toI (by decide) (Nat.le_of_ble_eq_true rfl) ?_
  show wG_match d 0 [.ref 0, .int x1] [] s M Q
  refine s_iload_n (i := 1) (by decide +kernel) rfl (pn 1 rfl ?_)
  refine s_if_eq (off := 20) (tgt := 21) (by decide +kernel) rfl (fun c1 => ?_) (fun c1 => (pn 4 rfl ?_))
  · have h := h.1 c1
    exact h
  · have h := h.2 c1
    refine s_aload_n (i := 0) (by decide +kernel) rfl (pn 5 rfl ?_)
    refine s_getfield (v := .ref 15) (by decide +kernel) fr_11_19 lq_0 (congrArg Prod.fst sh_0) (fv_ref pf_0_1) (pn 8 rfl ?_)
    refine s_iload_n (i := 1) (by decide +kernel) rfl (pn 9 rfl ?_)
    refine t_bipush (by decide +kernel) kb_10 (pn 11 rfl ?_)
    refine s_isub (by decide +kernel) (pn 12 rfl ?_)
    refine s_callvI [.int (x1 - 10)] rfl (by decide +kernel) mv_11_149 np_31 (Nat.le_of_ble_eq_true rfl) lq_15 ((congrArg Prod.fst sh_15).trans oc_31) (cI_use h (fun r1 s1 M1 h => (pn 15 rfl ?_)))
    refine t_if_ne (off := 6) (tgt := 21) (by decide +kernel) rfl (fun c2 => ?_) (fun c2 => (pn 18 rfl ?_))
    · have h := h.2 c2
      exact h
    · have h := h.1 c2
      refine t_bipush (by decide +kernel) kb_m2 (pn 20 rfl ?_)
      exact s_ireturn (st := []) (by decide +kernel) (Or.inl rfl) ⟨_, rfl, s1, rfl, h⟩
theorem sgG_match_21 {d : Nat} {s : pm_S} {M : pm_M} {l1 : Int32} {Q : Int32 → pm_S → pm_M → Prop}  (h : cV d yK_gather [.ref 41, .ref 15, .ref 27] s M (fun s1 M1 => cV d yH_weighMatchings [.ref 52, .ref 15, .ref 41] s1 M1 (fun s2 M2 => ((l1 = 0 → Q (M2.1 53 0) s2 M2) ∧ (¬ (l1 = 0) → cI d yH_givenTo [.ref 52, .int (l1 - 10), .ref 15, .ref 41] s2 M2 (fun r1 s3 M3 => Q r1 s3 M3)))))) : wG_match d 21 [.ref 0, .int l1] [] s M Q := by
  refine s_aload_n (i := 0) (by decide +kernel) rfl (pn 22 rfl ?_)
  refine s_getfield (v := .ref 41) (by decide +kernel) fr_11_53 lq_0 (congrArg Prod.fst sh_0) (fv_ref pf_0_11) (pn 25 rfl ?_)
  refine s_aload_n (i := 0) (by decide +kernel) rfl (pn 26 rfl ?_)
  refine s_getfield (v := .ref 15) (by decide +kernel) fr_11_19 lq_0 (congrArg Prod.fst sh_0) (fv_ref pf_0_1) (pn 29 rfl ?_)
  refine s_aload_n (i := 0) (by decide +kernel) rfl (pn 30 rfl ?_)
  refine s_getfield (v := .ref 27) (by decide +kernel) fr_11_26 lq_0 (congrArg Prod.fst sh_0) (fv_ref pf_0_2) (pn 33 rfl ?_)
  refine s_callvV [.ref 15, .ref 27] rfl (by decide +kernel) mv_11_272 np_1 (Nat.le_of_ble_eq_true rfl) lq_41 ((congrArg Prod.fst sh_41).trans oc_1) (cV_use h (fun s1 M1 h => (pn 36 rfl ?_)))
  refine s_aload_n (i := 0) (by decide +kernel) rfl (pn 37 rfl ?_)
  refine s_getfield (v := .ref 52) (by decide +kernel) fr_11_67 lq_0 (congrArg Prod.fst sh_0) (fv_ref pf_0_13) (pn 40 rfl ?_)
  refine s_aload_n (i := 0) (by decide +kernel) rfl (pn 41 rfl ?_)
  refine s_getfield (v := .ref 15) (by decide +kernel) fr_11_19 lq_0 (congrArg Prod.fst sh_0) (fv_ref pf_0_1) (pn 44 rfl ?_)
  refine s_aload_n (i := 0) (by decide +kernel) rfl (pn 45 rfl ?_)
  refine s_getfield (v := .ref 41) (by decide +kernel) fr_11_53 lq_0 (congrArg Prod.fst sh_0) (fv_ref pf_0_11) (pn 48 rfl ?_)
  refine s_callvV [.ref 15, .ref 41] rfl (by decide +kernel) mv_11_310 np_115 (Nat.le_of_ble_eq_true rfl) lq_52 ((congrArg Prod.fst sh_52).trans oc_115) (cV_use h (fun s2 M2 h => (pn 51 rfl ?_)))
  refine s_iload_n (i := 1) (by decide +kernel) rfl (pn 52 rfl ?_)
  refine t_if_ne (off := 15) (tgt := 67) (by decide +kernel) rfl (fun c1 => ?_) (fun c1 => (pn 55 rfl ?_))
  · have h := h.2 c1
    refine s_aload_n (i := 0) (by decide +kernel) rfl (pn 68 rfl ?_)
    refine s_getfield (v := .ref 52) (by decide +kernel) fr_11_67 lq_0 (congrArg Prod.fst sh_0) (fv_ref pf_0_13) (pn 71 rfl ?_)
    refine s_iload_n (i := 1) (by decide +kernel) rfl (pn 72 rfl ?_)
    refine t_bipush (by decide +kernel) kb_10 (pn 74 rfl ?_)
    refine s_isub (by decide +kernel) (pn 75 rfl ?_)
    refine s_aload_n (i := 0) (by decide +kernel) rfl (pn 76 rfl ?_)
    refine s_getfield (v := .ref 15) (by decide +kernel) fr_11_19 lq_0 (congrArg Prod.fst sh_0) (fv_ref pf_0_1) (pn 79 rfl ?_)
    refine s_aload_n (i := 0) (by decide +kernel) rfl (pn 80 rfl ?_)
    refine s_getfield (v := .ref 41) (by decide +kernel) fr_11_53 lq_0 (congrArg Prod.fst sh_0) (fv_ref pf_0_11) (pn 83 rfl ?_)
    refine s_callvI [.int (l1 - 10), .ref 15, .ref 41] rfl (by decide +kernel) mv_11_316 np_117 (Nat.le_of_ble_eq_true rfl) lq_52 ((congrArg Prod.fst sh_52).trans oc_117) (cI_use h (fun r1 s3 M3 h => (pn 86 rfl ?_)))
    exact s_ireturn (st := []) (by decide +kernel) (Or.inl rfl) ⟨_, rfl, s3, rfl, h⟩
  · have h := h.1 c1
    refine s_aload_n (i := 0) (by decide +kernel) rfl (pn 56 rfl ?_)
    refine s_getfield (v := .ref 52) (by decide +kernel) fr_11_67 lq_0 (congrArg Prod.fst sh_0) (fv_ref pf_0_13) (pn 59 rfl ?_)
    refine s_getfield (v := .ref 53) (by decide +kernel) fr_11_313 lq_52 (congrArg Prod.fst sh_52) (fv_ref pf_52_0) (pn 62 rfl ?_)
    refine t_iconst (by decide +kernel) ki_0 (pn 63 rfl ?_)
    refine t_iaload (v := M2.1 53 0) (by decide +kernel) ⟨Or.inl lq_53, congrArg Prod.fst sh_53⟩ (al_in sh_53 (vp_lit (n := 1792) tn_0 (by decide) (by decide))) (by rw [tn_0] <;> rfl) (pn 64 rfl ?_)
    refine s_goto (off := 22) (tgt := 86) (by decide +kernel) rfl ?_
    exact s_ireturn (st := []) (by decide +kernel) (Or.inl rfl) ⟨_, rfl, s2, rfl, h⟩
abbrev wG_matchings (d pc : Nat) (ls st : List Value) (s : pm_S) (M : pm_M) (Q : Int32 → pm_S → pm_M → Prop) : Prop := wI d prog_1_method_26_code 11 (some .int) false pc ls st s M Q
theorem enG_matchings {d : Nat} {s : pm_S} {M : pm_M}  {Q : Int32 → pm_S → pm_M → Prop}  (h : cV d yK_gather [.ref 41, .ref 15, .ref 27] s M (fun s1 M1 => cI d yH_waysForAll [.ref 52, .ref 15, .ref 41] s1 M1 (fun r1 s2 M2 => Q r1 s2 M2))) : cI (d + 1) yG_matchings [.ref 0] s M Q := by
  refine pm_toI (by decide) (Nat.le_of_ble_eq_true rfl) ?_
  show wG_matchings d 0 [.ref 0] [] s M Q
  refine s_aload_n (i := 0) (by decide +kernel) rfl (pn 1 rfl ?_)
  refine s_getfield (v := .ref 41) (by decide +kernel) fr_11_53 lq_0 (congrArg Prod.fst sh_0) (fv_ref pf_0_11) (pn 4 rfl ?_)
  refine s_aload_n (i := 0) (by decide +kernel) rfl (pn 5 rfl ?_)
  refine s_getfield (v := .ref 15) (by decide +kernel) fr_11_19 lq_0 (congrArg Prod.fst sh_0) (fv_ref pf_0_1) (pn 8 rfl ?_)
  refine s_aload_n (i := 0) (by decide +kernel) rfl (pn 9 rfl ?_)
  refine s_getfield (v := .ref 27) (by decide +kernel) fr_11_26 lq_0 (congrArg Prod.fst sh_0) (fv_ref pf_0_2) (pn 12 rfl ?_)
  refine s_callvV [.ref 15, .ref 27] rfl (by decide +kernel) mv_11_272 np_1 (Nat.le_of_ble_eq_true rfl) lq_41 ((congrArg Prod.fst sh_41).trans oc_1) (cV_use h (fun s1 M1 h => (pn 15 rfl ?_)))
  refine s_aload_n (i := 0) (by decide +kernel) rfl (pn 16 rfl ?_)
  refine s_getfield (v := .ref 52) (by decide +kernel) fr_11_67 lq_0 (congrArg Prod.fst sh_0) (fv_ref pf_0_13) (pn 19 rfl ?_)
  refine s_aload_n (i := 0) (by decide +kernel) rfl (pn 20 rfl ?_)
  refine s_getfield (v := .ref 15) (by decide +kernel) fr_11_19 lq_0 (congrArg Prod.fst sh_0) (fv_ref pf_0_1) (pn 23 rfl ?_)
  refine s_aload_n (i := 0) (by decide +kernel) rfl (pn 24 rfl ?_)
  refine s_getfield (v := .ref 41) (by decide +kernel) fr_11_53 lq_0 (congrArg Prod.fst sh_0) (fv_ref pf_0_11) (pn 27 rfl ?_)
  refine s_callvI [.ref 15, .ref 41] rfl (by decide +kernel) mv_11_320 np_118 (Nat.le_of_ble_eq_true rfl) lq_52 ((congrArg Prod.fst sh_52).trans oc_118) (cI_use h (fun r1 s2 M2 h => (pn 30 rfl ?_)))
  exact s_ireturn (st := []) (by decide +kernel) (Or.inl rfl) ⟨_, rfl, s2, rfl, h⟩
abbrev wG_without (d pc : Nat) (ls st : List Value) (s : pm_S) (M : pm_M) (Q : Int32 → pm_S → pm_M → Prop) : Prop := wI d prog_1_method_27_code 11 (some .int) false pc ls st s M Q
theorem enG_without {d : Nat} {s : pm_S} {M : pm_M}  {Q : Int32 → pm_S → pm_M → Prop}  (h : cV d yK_gather [.ref 41, .ref 15, .ref 27] s M (fun s1 M1 => wG_without d 19 [.ref 0, .int 0, .int 0] [] s1 M1 Q)) : cI (d + 1) yG_without [.ref 0] s M Q := by
  refine pm_toI (by decide) (Nat.le_of_ble_eq_true rfl) ?_
  show wG_without d 0 [.ref 0, .null, .null] [] s M Q
  refine s_aload_n (i := 0) (by decide +kernel) rfl (pn 1 rfl ?_)
  refine s_getfield (v := .ref 41) (by decide +kernel) fr_11_53 lq_0 (congrArg Prod.fst sh_0) (fv_ref pf_0_11) (pn 4 rfl ?_)
  refine s_aload_n (i := 0) (by decide +kernel) rfl (pn 5 rfl ?_)
  refine s_getfield (v := .ref 15) (by decide +kernel) fr_11_19 lq_0 (congrArg Prod.fst sh_0) (fv_ref pf_0_1) (pn 8 rfl ?_)
  refine s_aload_n (i := 0) (by decide +kernel) rfl (pn 9 rfl ?_)
  refine s_getfield (v := .ref 27) (by decide +kernel) fr_11_26 lq_0 (congrArg Prod.fst sh_0) (fv_ref pf_0_2) (pn 12 rfl ?_)
  refine s_callvV [.ref 15, .ref 27] rfl (by decide +kernel) mv_11_272 np_1 (Nat.le_of_ble_eq_true rfl) lq_41 ((congrArg Prod.fst sh_41).trans oc_1) (cV_use h (fun s1 M1 h => (pn 15 rfl ?_)))
  refine t_iconst (by decide +kernel) ki_0 (pn 16 rfl ?_)
  refine s_istore_n (i := 1) (by decide +kernel) (Nat.le_of_ble_eq_true rfl) (pn 17 rfl (t_store (ls' := [.ref 0, .int 0, .null]) rfl ?_))
  refine t_iconst (by decide +kernel) ki_0 (pn 18 rfl ?_)
  refine s_istore_n (i := 2) (by decide +kernel) (Nat.le_of_ble_eq_true rfl) (pn 19 rfl (t_store (ls' := [.ref 0, .int 0, .int 0]) rfl ?_))
  exact h
theorem sgG_without_19 {d : Nat} {s : pm_S} {M : pm_M} {l1 : Int32} {l2 : Int32} {Q : Int32 → pm_S → pm_M → Prop}  (h : ((((M.1 15 2) ≤ l2) → Q l1 s M) ∧ (¬ ((M.1 15 2) ≤ l2) → cI d yK_someBy [.ref 41, .int l2, .int (M.1 15 1)] s M (fun r1 s1 M1 => wG_without d 19 [.ref 0, .int ((if r1 = 0 then (l1 ||| ((1 : Int32) <<< (l2 &&& 31))) else l1) : Int32), .int (l2 + 1)] [] s1 M1 Q)))) : wG_without d 19 [.ref 0, .int l1, .int l2] [] s M Q := by
  refine s_iload_n (i := 2) (by decide +kernel) rfl (pn 20 rfl ?_)
  refine s_aload_n (i := 0) (by decide +kernel) rfl (pn 21 rfl ?_)
  refine s_getfield (v := .ref 15) (by decide +kernel) fr_11_19 lq_0 (congrArg Prod.fst sh_0) (fv_ref pf_0_1) (pn 24 rfl ?_)
  refine s_getfield (v := .int (M.1 15 2)) (by decide +kernel) fr_11_324 lq_15 (congrArg Prod.fst sh_15) rfl (pn 27 rfl ?_)
  refine s_icmp_ge (off := 33) (tgt := 60) (by decide +kernel) rfl (fun c1 => ?_) (fun c1 => (pn 30 rfl ?_))
  · have h := h.1 c1
    refine s_iload_n (i := 1) (by decide +kernel) rfl (pn 61 rfl ?_)
    exact s_ireturn (st := []) (by decide +kernel) (Or.inl rfl) ⟨_, rfl, s, rfl, h⟩
  · have h := h.2 c1
    refine s_aload_n (i := 0) (by decide +kernel) rfl (pn 31 rfl ?_)
    refine s_getfield (v := .ref 41) (by decide +kernel) fr_11_53 lq_0 (congrArg Prod.fst sh_0) (fv_ref pf_0_11) (pn 34 rfl ?_)
    refine s_iload_n (i := 2) (by decide +kernel) rfl (pn 35 rfl ?_)
    refine s_aload_n (i := 0) (by decide +kernel) rfl (pn 36 rfl ?_)
    refine s_getfield (v := .ref 15) (by decide +kernel) fr_11_19 lq_0 (congrArg Prod.fst sh_0) (fv_ref pf_0_1) (pn 39 rfl ?_)
    refine s_getfield (v := .int (M.1 15 1)) (by decide +kernel) fr_11_327 lq_15 (congrArg Prod.fst sh_15) rfl (pn 42 rfl ?_)
    refine s_callvI [.int l2, .int (M.1 15 1)] rfl (by decide +kernel) mv_11_330 np_3 (Nat.le_of_ble_eq_true rfl) lq_41 ((congrArg Prod.fst sh_41).trans oc_3) (cI_use h (fun r1 s1 M1 h => (pn 45 rfl ?_)))
    have k1 : ∀ (z1 : Int32) (z1e : z1 = ((if r1 = 0 then (l1 ||| ((1 : Int32) <<< (l2 &&& 31))) else l1) : Int32)), wG_without d 54 [.ref 0, .int z1, .int l2] [] s1 M1 Q := by
      intro z1 z1e
      subst z1e
      refine t_iinc (i := 2) (n := 1) (ls' := [.ref 0, .int ((if r1 = 0 then (l1 ||| ((1 : Int32) <<< (l2 &&& 31))) else l1) : Int32), .int (l2 + 1)]) (by decide +kernel) rfl (Nat.le_of_ble_eq_true rfl) kn_1 rfl (pn 57 rfl ?_)
      refine s_goto (off := -38) (tgt := 19) (by decide +kernel) rfl ?_
      exact h
    refine t_if_ne (off := 9) (tgt := 54) (by decide +kernel) rfl (fun c2 => ?_) (fun c2 => (pn 48 rfl ?_))
    · exact k1 _ (by simp only [if_neg c2])
    · refine s_iload_n (i := 1) (by decide +kernel) rfl (pn 49 rfl ?_)
      refine t_iconst (by decide +kernel) ki_1 (pn 50 rfl ?_)
      refine s_iload_n (i := 2) (by decide +kernel) rfl (pn 51 rfl ?_)
      refine s_ishl (by decide +kernel) (pn 52 rfl ?_)
      refine s_ior (by decide +kernel) (pn 53 rfl ?_)
      refine s_istore_n (i := 1) (by decide +kernel) (Nat.le_of_ble_eq_true rfl) (pn 54 rfl (t_store (ls' := [.ref 0, .int (l1 ||| ((1 : Int32) <<< (l2 &&& 31))), .int l2]) rfl ?_))
      exact k1 _ (by simp only [if_pos c2])
abbrev wG_fetches (d pc : Nat) (ls st : List Value) (s : pm_S) (M : pm_M) (Q : Int32 → pm_S → pm_M → Prop) : Prop := wI d prog_1_method_28_code 11 (some .int) false pc ls st s M Q
theorem enG_fetches {d : Nat} {s : pm_S} {M : pm_M} {x1 : Int32} {x2 : Int32} {Q : Int32 → pm_S → pm_M → Prop}  (h : cI d yL_hasThing [.ref 15, .int x1] s M (fun r1 s1 M1 => (((r1 = 0) → Q (-2) s1 M1) ∧ (¬ (r1 = 0) → (((x2 < 0) → Q (-2) s1 M1) ∧ (¬ (x2 < 0) → (((x2 ≤ 1) → cV d yK_gather [.ref 41, .ref 15, .ref 27] s1 M1 (fun s2 M2 => cI d yK_mostOf [.ref 41, .int x1, .int (M2.1 15 2), .int (-1)] s2 M2 (fun r2 s3 M3 => (((x2 = 0) → Q ((if x2 = 0 then r2 else 0) : Int32) s3 M3) ∧ (¬ (x2 = 0) → ((r2 = (-1) → Q ((if x2 = 0 then r2 else 0) : Int32) s3 M3) ∧ (¬ (r2 = (-1)) → cI d yK_mostOf [.ref 41, .int x1, .int (M3.1 15 2), .int r2] s3 M3 (fun r3 s4 M4 => ((r3 = (-1) → Q 0 s4 M4) ∧ (¬ (r3 = (-1)) → cI d yK_of [.ref 41, .int r3, .int x1] s4 M4 (fun r4 s5 M5 => Q r4 s5 M5))))))))))) ∧ (¬ (x2 ≤ 1) → Q (-2) s1 M1)))))))) : cI (d + 1) yG_fetches [.ref 0, .int x1, .int x2] s M Q := by
  refine pm_toI (by decide) (Nat.le_of_ble_eq_true rfl) ?_
  show wG_fetches d 0 [.ref 0, .int x1, .int x2, .null, .null] [] s M Q
  refine s_aload_n (i := 0) (by decide +kernel) rfl (pn 1 rfl ?_)
  refine s_getfield (v := .ref 15) (by decide +kernel) fr_11_19 lq_0 (congrArg Prod.fst sh_0) (fv_ref pf_0_1) (pn 4 rfl ?_)
  refine s_iload_n (i := 1) (by decide +kernel) rfl (pn 5 rfl ?_)
  refine s_callvI [.int x1] rfl (by decide +kernel) mv_11_132 np_28 (Nat.le_of_ble_eq_true rfl) lq_15 ((congrArg Prod.fst sh_15).trans oc_28) (cI_use h (fun r1 s1 M1 h => (pn 8 rfl ?_)))
  refine s_if_eq (off := 12) (tgt := 20) (by decide +kernel) rfl (fun c1 => ?_) (fun c1 => (pn 11 rfl ?_))
  · have h := h.1 c1
    refine t_bipush (by decide +kernel) kb_m2 (pn 22 rfl ?_)
    exact s_ireturn (st := []) (by decide +kernel) (Or.inl rfl) ⟨_, rfl, s1, rfl, h⟩
  · have h := h.2 c1
    refine s_iload_n (i := 2) (by decide +kernel) rfl (pn 12 rfl ?_)
    refine s_if_lt (off := 8) (tgt := 20) (by decide +kernel) rfl (fun c2 => ?_) (fun c2 => (pn 15 rfl ?_))
    · have h := h.1 c2
      refine t_bipush (by decide +kernel) kb_m2 (pn 22 rfl ?_)
      exact s_ireturn (st := []) (by decide +kernel) (Or.inl rfl) ⟨_, rfl, s1, rfl, h⟩
    · have h := h.2 c2
      refine s_iload_n (i := 2) (by decide +kernel) rfl (pn 16 rfl ?_)
      refine t_iconst (by decide +kernel) ki_1 (pn 17 rfl ?_)
      refine s_icmp_le (off := 6) (tgt := 23) (by decide +kernel) rfl (fun c3 => ?_) (fun c3 => (pn 20 rfl ?_))
      · have h := h.1 c3
        refine s_aload_n (i := 0) (by decide +kernel) rfl (pn 24 rfl ?_)
        refine s_getfield (v := .ref 41) (by decide +kernel) fr_11_53 lq_0 (congrArg Prod.fst sh_0) (fv_ref pf_0_11) (pn 27 rfl ?_)
        refine s_aload_n (i := 0) (by decide +kernel) rfl (pn 28 rfl ?_)
        refine s_getfield (v := .ref 15) (by decide +kernel) fr_11_19 lq_0 (congrArg Prod.fst sh_0) (fv_ref pf_0_1) (pn 31 rfl ?_)
        refine s_aload_n (i := 0) (by decide +kernel) rfl (pn 32 rfl ?_)
        refine s_getfield (v := .ref 27) (by decide +kernel) fr_11_26 lq_0 (congrArg Prod.fst sh_0) (fv_ref pf_0_2) (pn 35 rfl ?_)
        refine s_callvV [.ref 15, .ref 27] rfl (by decide +kernel) mv_11_272 np_1 (Nat.le_of_ble_eq_true rfl) lq_41 ((congrArg Prod.fst sh_41).trans oc_1) (cV_use h (fun s2 M2 h => (pn 38 rfl ?_)))
        refine s_aload_n (i := 0) (by decide +kernel) rfl (pn 39 rfl ?_)
        refine s_getfield (v := .ref 41) (by decide +kernel) fr_11_53 lq_0 (congrArg Prod.fst sh_0) (fv_ref pf_0_11) (pn 42 rfl ?_)
        refine s_iload_n (i := 1) (by decide +kernel) rfl (pn 43 rfl ?_)
        refine s_aload_n (i := 0) (by decide +kernel) rfl (pn 44 rfl ?_)
        refine s_getfield (v := .ref 15) (by decide +kernel) fr_11_19 lq_0 (congrArg Prod.fst sh_0) (fv_ref pf_0_1) (pn 47 rfl ?_)
        refine s_getfield (v := .int (M2.1 15 2)) (by decide +kernel) fr_11_324 lq_15 (congrArg Prod.fst sh_15) rfl (pn 50 rfl ?_)
        refine t_iconst (by decide +kernel) ki_m1 (pn 51 rfl ?_)
        refine s_callvI [.int x1, .int (M2.1 15 2), .int (-1)] rfl (by decide +kernel) mv_11_333 np_4 (Nat.le_of_ble_eq_true rfl) lq_41 ((congrArg Prod.fst sh_41).trans oc_4) (cI_use h (fun r2 s3 M3 h => (pn 54 rfl ?_)))
        refine s_istore_n (i := 3) (by decide +kernel) (Nat.le_of_ble_eq_true rfl) (pn 55 rfl (t_store (ls' := [.ref 0, .int x1, .int x2, .int r2, .null]) rfl ?_))
        refine s_iload_n (i := 2) (by decide +kernel) rfl (pn 56 rfl ?_)
        refine s_if_eq (off := 8) (tgt := 64) (by decide +kernel) rfl (fun c4 => ?_) (fun c4 => (pn 59 rfl ?_))
        · have h := h.1 c4
          refine s_iload_n (i := 2) (by decide +kernel) rfl (pn 65 rfl ?_)
          have k1 : ∀ (z1 : Int32) (z1e : z1 = ((if x2 = 0 then r2 else 0) : Int32)), wG_fetches d 73 [.ref 0, .int x1, .int x2, .int r2, .null] [.int z1] s3 M3 Q := by
            intro z1 z1e
            subst z1e
            exact s_ireturn (st := []) (by decide +kernel) (Or.inl rfl) ⟨_, rfl, s3, rfl, h⟩
          refine t_if_ne (off := 7) (tgt := 72) (by decide +kernel) rfl (fun c5 => ?_) (fun c5 => (pn 68 rfl ?_))
          · refine t_iconst (by decide +kernel) ki_0 (pn 73 rfl ?_)
            exact k1 _ (by simp only [if_neg c5])
          · refine s_iload_n (i := 3) (by decide +kernel) rfl (pn 69 rfl ?_)
            refine s_goto (off := 4) (tgt := 73) (by decide +kernel) rfl ?_
            exact k1 _ (by simp only [if_pos c5])
        · have h := h.2 c4
          refine s_iload_n (i := 3) (by decide +kernel) rfl (pn 60 rfl ?_)
          refine t_iconst (by decide +kernel) ki_m1 (pn 61 rfl ?_)
          refine t_icmp_ne (off := 13) (tgt := 74) (by decide +kernel) rfl (fun c6 => ?_) (fun c6 => (pn 64 rfl ?_))
          · have h := h.2 c6
            refine s_aload_n (i := 0) (by decide +kernel) rfl (pn 75 rfl ?_)
            refine s_getfield (v := .ref 41) (by decide +kernel) fr_11_53 lq_0 (congrArg Prod.fst sh_0) (fv_ref pf_0_11) (pn 78 rfl ?_)
            refine s_iload_n (i := 1) (by decide +kernel) rfl (pn 79 rfl ?_)
            refine s_aload_n (i := 0) (by decide +kernel) rfl (pn 80 rfl ?_)
            refine s_getfield (v := .ref 15) (by decide +kernel) fr_11_19 lq_0 (congrArg Prod.fst sh_0) (fv_ref pf_0_1) (pn 83 rfl ?_)
            refine s_getfield (v := .int (M3.1 15 2)) (by decide +kernel) fr_11_324 lq_15 (congrArg Prod.fst sh_15) rfl (pn 86 rfl ?_)
            refine s_iload_n (i := 3) (by decide +kernel) rfl (pn 87 rfl ?_)
            refine s_callvI [.int x1, .int (M3.1 15 2), .int r2] rfl (by decide +kernel) mv_11_333 np_4 (Nat.le_of_ble_eq_true rfl) lq_41 ((congrArg Prod.fst sh_41).trans oc_4) (cI_use h (fun r3 s4 M4 h => (pn 90 rfl ?_)))
            refine s_istore (i := 4) (by decide +kernel) (Nat.le_of_ble_eq_true rfl) (pn 92 rfl (t_store (ls' := [.ref 0, .int x1, .int x2, .int r2, .int r3]) rfl ?_))
            refine s_iload (i := 4) (by decide +kernel) rfl (pn 94 rfl ?_)
            refine t_iconst (by decide +kernel) ki_m1 (pn 95 rfl ?_)
            refine t_icmp_ne (off := 7) (tgt := 102) (by decide +kernel) rfl (fun c7 => ?_) (fun c7 => (pn 98 rfl ?_))
            · have h := h.2 c7
              refine s_aload_n (i := 0) (by decide +kernel) rfl (pn 103 rfl ?_)
              refine s_getfield (v := .ref 41) (by decide +kernel) fr_11_53 lq_0 (congrArg Prod.fst sh_0) (fv_ref pf_0_11) (pn 106 rfl ?_)
              refine s_iload (i := 4) (by decide +kernel) rfl (pn 108 rfl ?_)
              refine s_iload_n (i := 1) (by decide +kernel) rfl (pn 109 rfl ?_)
              refine s_callvI [.int r3, .int x1] rfl (by decide +kernel) mv_11_336 np_2 (Nat.le_of_ble_eq_true rfl) lq_41 ((congrArg Prod.fst sh_41).trans oc_2) (cI_use h (fun r4 s5 M5 h => (pn 112 rfl ?_)))
              exact s_ireturn (st := []) (by decide +kernel) (Or.inl rfl) ⟨_, rfl, s5, rfl, h⟩
            · have h := h.1 c7
              refine t_iconst (by decide +kernel) ki_0 (pn 99 rfl ?_)
              refine s_goto (off := 13) (tgt := 112) (by decide +kernel) rfl ?_
              exact s_ireturn (st := []) (by decide +kernel) (Or.inl rfl) ⟨_, rfl, s4, rfl, h⟩
          · have h := h.1 c6
            refine s_iload_n (i := 2) (by decide +kernel) rfl (pn 65 rfl ?_)
            have k2 : ∀ (z2 : Int32) (z2e : z2 = ((if x2 = 0 then r2 else 0) : Int32)), wG_fetches d 73 [.ref 0, .int x1, .int x2, .int r2, .null] [.int z2] s3 M3 Q := by
              intro z2 z2e
              subst z2e
              exact s_ireturn (st := []) (by decide +kernel) (Or.inl rfl) ⟨_, rfl, s3, rfl, h⟩
            refine t_if_ne (off := 7) (tgt := 72) (by decide +kernel) rfl (fun c8 => ?_) (fun c8 => (pn 68 rfl ?_))
            · refine t_iconst (by decide +kernel) ki_0 (pn 73 rfl ?_)
              exact k2 _ (by simp only [if_neg c8])
            · refine s_iload_n (i := 3) (by decide +kernel) rfl (pn 69 rfl ?_)
              refine s_goto (off := 4) (tgt := 73) (by decide +kernel) rfl ?_
              exact k2 _ (by simp only [if_pos c8])
      · have h := h.2 c3
        refine t_bipush (by decide +kernel) kb_m2 (pn 22 rfl ?_)
        exact s_ireturn (st := []) (by decide +kernel) (Or.inl rfl) ⟨_, rfl, s1, rfl, h⟩
abbrev wG_trade (d pc : Nat) (ls st : List Value) (s : pm_S) (M : pm_M) (Q : Int32 → pm_S → pm_M → Prop) : Prop := wI d prog_1_method_29_code 11 (some .int) false pc ls st s M Q
theorem enG_trade {d : Nat} {s : pm_S} {M : pm_M} {x1 : Int32} {Q : Int32 → pm_S → pm_M → Prop}  (h : cI d yL_hasPerson [.ref 15, .int x1] s M (fun r1 s1 M1 => ((r1 = 0 → Q (-2) s1 M1) ∧ (¬ (r1 = 0) → cV d yK_gather [.ref 41, .ref 15, .ref 27] s1 M1 (fun s2 M2 => cI d yT_run [.ref 54, .ref 15, .ref 27, .ref 41] s2 M2 (fun r2 s3 M3 => vp_in x1 6 ∧ Q (M3.1 55 x1.toNatClampNeg) s3 M3)))))) : cI (d + 1) yG_trade [.ref 0, .int x1] s M Q := by
  refine pm_toI (by decide) (Nat.le_of_ble_eq_true rfl) ?_
  show wG_trade d 0 [.ref 0, .int x1] [] s M Q
  refine s_aload_n (i := 0) (by decide +kernel) rfl (pn 1 rfl ?_)
  refine s_getfield (v := .ref 15) (by decide +kernel) fr_11_19 lq_0 (congrArg Prod.fst sh_0) (fv_ref pf_0_1) (pn 4 rfl ?_)
  refine s_iload_n (i := 1) (by decide +kernel) rfl (pn 5 rfl ?_)
  refine s_callvI [.int x1] rfl (by decide +kernel) mv_11_149 np_31 (Nat.le_of_ble_eq_true rfl) lq_15 ((congrArg Prod.fst sh_15).trans oc_31) (cI_use h (fun r1 s1 M1 h => (pn 8 rfl ?_)))
  refine t_if_ne (off := 6) (tgt := 14) (by decide +kernel) rfl (fun c1 => ?_) (fun c1 => (pn 11 rfl ?_))
  · have h := h.2 c1
    refine s_aload_n (i := 0) (by decide +kernel) rfl (pn 15 rfl ?_)
    refine s_getfield (v := .ref 41) (by decide +kernel) fr_11_53 lq_0 (congrArg Prod.fst sh_0) (fv_ref pf_0_11) (pn 18 rfl ?_)
    refine s_aload_n (i := 0) (by decide +kernel) rfl (pn 19 rfl ?_)
    refine s_getfield (v := .ref 15) (by decide +kernel) fr_11_19 lq_0 (congrArg Prod.fst sh_0) (fv_ref pf_0_1) (pn 22 rfl ?_)
    refine s_aload_n (i := 0) (by decide +kernel) rfl (pn 23 rfl ?_)
    refine s_getfield (v := .ref 27) (by decide +kernel) fr_11_26 lq_0 (congrArg Prod.fst sh_0) (fv_ref pf_0_2) (pn 26 rfl ?_)
    refine s_callvV [.ref 15, .ref 27] rfl (by decide +kernel) mv_11_272 np_1 (Nat.le_of_ble_eq_true rfl) lq_41 ((congrArg Prod.fst sh_41).trans oc_1) (cV_use h (fun s2 M2 h => (pn 29 rfl ?_)))
    refine s_aload_n (i := 0) (by decide +kernel) rfl (pn 30 rfl ?_)
    refine s_getfield (v := .ref 54) (by decide +kernel) fr_11_74 lq_0 (congrArg Prod.fst sh_0) (fv_ref pf_0_14) (pn 33 rfl ?_)
    refine s_aload_n (i := 0) (by decide +kernel) rfl (pn 34 rfl ?_)
    refine s_getfield (v := .ref 15) (by decide +kernel) fr_11_19 lq_0 (congrArg Prod.fst sh_0) (fv_ref pf_0_1) (pn 37 rfl ?_)
    refine s_aload_n (i := 0) (by decide +kernel) rfl (pn 38 rfl ?_)
    refine s_getfield (v := .ref 27) (by decide +kernel) fr_11_26 lq_0 (congrArg Prod.fst sh_0) (fv_ref pf_0_2) (pn 41 rfl ?_)
    refine s_aload_n (i := 0) (by decide +kernel) rfl (pn 42 rfl ?_)
    refine s_getfield (v := .ref 41) (by decide +kernel) fr_11_53 lq_0 (congrArg Prod.fst sh_0) (fv_ref pf_0_11) (pn 45 rfl ?_)
    refine s_callvI [.ref 15, .ref 27, .ref 41] rfl (by decide +kernel) mv_11_339 np_102 (Nat.le_of_ble_eq_true rfl) lq_54 ((congrArg Prod.fst sh_54).trans oc_102) (cI_use h (fun r2 s3 M3 h => (pn 48 rfl ?_)))
    refine s_pop (by decide +kernel) rfl (pn 49 rfl ?_)
    refine s_aload_n (i := 0) (by decide +kernel) rfl (pn 50 rfl ?_)
    refine s_getfield (v := .ref 54) (by decide +kernel) fr_11_74 lq_0 (congrArg Prod.fst sh_0) (fv_ref pf_0_14) (pn 53 rfl ?_)
    refine s_getfield (v := .ref 55) (by decide +kernel) fr_11_343 lq_54 (congrArg Prod.fst sh_54) (fv_ref pf_54_0) (pn 56 rfl ?_)
    refine s_iload_n (i := 1) (by decide +kernel) rfl (pn 57 rfl ?_)
    obtain ⟨b1, h⟩ := h
    refine t_iaload (v := M3.1 55 x1.toNatClampNeg) (by decide +kernel) ⟨Or.inl lq_55, congrArg Prod.fst sh_55⟩ (al_in sh_55 b1) rfl (pn 58 rfl ?_)
    exact s_ireturn (st := []) (by decide +kernel) (Or.inl rfl) ⟨_, rfl, s3, rfl, h⟩
  · have h := h.1 c1
    refine t_bipush (by decide +kernel) kb_m2 (pn 13 rfl ?_)
    exact s_ireturn (st := []) (by decide +kernel) (Or.inl rfl) ⟨_, rfl, s1, rfl, h⟩
abbrev wG_rounds (d pc : Nat) (ls st : List Value) (s : pm_S) (M : pm_M) (Q : Int32 → pm_S → pm_M → Prop) : Prop := wI d prog_1_method_30_code 11 (some .int) false pc ls st s M Q
theorem enG_rounds {d : Nat} {s : pm_S} {M : pm_M}  {Q : Int32 → pm_S → pm_M → Prop}  (h : cV d yK_gather [.ref 41, .ref 15, .ref 27] s M (fun s1 M1 => cI d yT_run [.ref 54, .ref 15, .ref 27, .ref 41] s1 M1 (fun r1 s2 M2 => Q r1 s2 M2))) : cI (d + 1) yG_rounds [.ref 0] s M Q := by
  refine pm_toI (by decide) (Nat.le_of_ble_eq_true rfl) ?_
  show wG_rounds d 0 [.ref 0] [] s M Q
  refine s_aload_n (i := 0) (by decide +kernel) rfl (pn 1 rfl ?_)
  refine s_getfield (v := .ref 41) (by decide +kernel) fr_11_53 lq_0 (congrArg Prod.fst sh_0) (fv_ref pf_0_11) (pn 4 rfl ?_)
  refine s_aload_n (i := 0) (by decide +kernel) rfl (pn 5 rfl ?_)
  refine s_getfield (v := .ref 15) (by decide +kernel) fr_11_19 lq_0 (congrArg Prod.fst sh_0) (fv_ref pf_0_1) (pn 8 rfl ?_)
  refine s_aload_n (i := 0) (by decide +kernel) rfl (pn 9 rfl ?_)
  refine s_getfield (v := .ref 27) (by decide +kernel) fr_11_26 lq_0 (congrArg Prod.fst sh_0) (fv_ref pf_0_2) (pn 12 rfl ?_)
  refine s_callvV [.ref 15, .ref 27] rfl (by decide +kernel) mv_11_272 np_1 (Nat.le_of_ble_eq_true rfl) lq_41 ((congrArg Prod.fst sh_41).trans oc_1) (cV_use h (fun s1 M1 h => (pn 15 rfl ?_)))
  refine s_aload_n (i := 0) (by decide +kernel) rfl (pn 16 rfl ?_)
  refine s_getfield (v := .ref 54) (by decide +kernel) fr_11_74 lq_0 (congrArg Prod.fst sh_0) (fv_ref pf_0_14) (pn 19 rfl ?_)
  refine s_aload_n (i := 0) (by decide +kernel) rfl (pn 20 rfl ?_)
  refine s_getfield (v := .ref 15) (by decide +kernel) fr_11_19 lq_0 (congrArg Prod.fst sh_0) (fv_ref pf_0_1) (pn 23 rfl ?_)
  refine s_aload_n (i := 0) (by decide +kernel) rfl (pn 24 rfl ?_)
  refine s_getfield (v := .ref 27) (by decide +kernel) fr_11_26 lq_0 (congrArg Prod.fst sh_0) (fv_ref pf_0_2) (pn 27 rfl ?_)
  refine s_aload_n (i := 0) (by decide +kernel) rfl (pn 28 rfl ?_)
  refine s_getfield (v := .ref 41) (by decide +kernel) fr_11_53 lq_0 (congrArg Prod.fst sh_0) (fv_ref pf_0_11) (pn 31 rfl ?_)
  refine s_callvI [.ref 15, .ref 27, .ref 41] rfl (by decide +kernel) mv_11_339 np_102 (Nat.le_of_ble_eq_true rfl) lq_54 ((congrArg Prod.fst sh_54).trans oc_102) (cI_use h (fun r1 s2 M2 h => (pn 34 rfl ?_)))
  exact s_ireturn (st := []) (by decide +kernel) (Or.inl rfl) ⟨_, rfl, s2, rfl, h⟩
abbrev wG_traders (d pc : Nat) (ls st : List Value) (s : pm_S) (M : pm_M) (Q : Int32 → pm_S → pm_M → Prop) : Prop := wI d prog_1_method_31_code 11 (some .int) false pc ls st s M Q
theorem enG_traders {d : Nat} {s : pm_S} {M : pm_M}  {Q : Int32 → pm_S → pm_M → Prop}  (h : cV d yK_gather [.ref 41, .ref 15, .ref 27] s M (fun s1 M1 => cI d yT_run [.ref 54, .ref 15, .ref 27, .ref 41] s1 M1 (fun r1 s2 M2 => wG_traders d 39 [.ref 0, .int 0, .int 0] [] s2 M2 Q))) : cI (d + 1) yG_traders [.ref 0] s M Q := by
  refine pm_toI (by decide) (Nat.le_of_ble_eq_true rfl) ?_
  show wG_traders d 0 [.ref 0, .null, .null] [] s M Q
  refine s_aload_n (i := 0) (by decide +kernel) rfl (pn 1 rfl ?_)
  refine s_getfield (v := .ref 41) (by decide +kernel) fr_11_53 lq_0 (congrArg Prod.fst sh_0) (fv_ref pf_0_11) (pn 4 rfl ?_)
  refine s_aload_n (i := 0) (by decide +kernel) rfl (pn 5 rfl ?_)
  refine s_getfield (v := .ref 15) (by decide +kernel) fr_11_19 lq_0 (congrArg Prod.fst sh_0) (fv_ref pf_0_1) (pn 8 rfl ?_)
  refine s_aload_n (i := 0) (by decide +kernel) rfl (pn 9 rfl ?_)
  refine s_getfield (v := .ref 27) (by decide +kernel) fr_11_26 lq_0 (congrArg Prod.fst sh_0) (fv_ref pf_0_2) (pn 12 rfl ?_)
  refine s_callvV [.ref 15, .ref 27] rfl (by decide +kernel) mv_11_272 np_1 (Nat.le_of_ble_eq_true rfl) lq_41 ((congrArg Prod.fst sh_41).trans oc_1) (cV_use h (fun s1 M1 h => (pn 15 rfl ?_)))
  refine s_aload_n (i := 0) (by decide +kernel) rfl (pn 16 rfl ?_)
  refine s_getfield (v := .ref 54) (by decide +kernel) fr_11_74 lq_0 (congrArg Prod.fst sh_0) (fv_ref pf_0_14) (pn 19 rfl ?_)
  refine s_aload_n (i := 0) (by decide +kernel) rfl (pn 20 rfl ?_)
  refine s_getfield (v := .ref 15) (by decide +kernel) fr_11_19 lq_0 (congrArg Prod.fst sh_0) (fv_ref pf_0_1) (pn 23 rfl ?_)
  refine s_aload_n (i := 0) (by decide +kernel) rfl (pn 24 rfl ?_)
  refine s_getfield (v := .ref 27) (by decide +kernel) fr_11_26 lq_0 (congrArg Prod.fst sh_0) (fv_ref pf_0_2) (pn 27 rfl ?_)
  refine s_aload_n (i := 0) (by decide +kernel) rfl (pn 28 rfl ?_)
  refine s_getfield (v := .ref 41) (by decide +kernel) fr_11_53 lq_0 (congrArg Prod.fst sh_0) (fv_ref pf_0_11) (pn 31 rfl ?_)
  refine s_callvI [.ref 15, .ref 27, .ref 41] rfl (by decide +kernel) mv_11_339 np_102 (Nat.le_of_ble_eq_true rfl) lq_54 ((congrArg Prod.fst sh_54).trans oc_102) (cI_use h (fun r1 s2 M2 h => (pn 34 rfl ?_)))
  refine s_pop (by decide +kernel) rfl (pn 35 rfl ?_)
  refine t_iconst (by decide +kernel) ki_0 (pn 36 rfl ?_)
  refine s_istore_n (i := 1) (by decide +kernel) (Nat.le_of_ble_eq_true rfl) (pn 37 rfl (t_store (ls' := [.ref 0, .int 0, .null]) rfl ?_))
  refine t_iconst (by decide +kernel) ki_0 (pn 38 rfl ?_)
  refine s_istore_n (i := 2) (by decide +kernel) (Nat.le_of_ble_eq_true rfl) (pn 39 rfl (t_store (ls' := [.ref 0, .int 0, .int 0]) rfl ?_))
  exact h
theorem sgG_traders_39 {d : Nat} {s : pm_S} {M : pm_M} {l1 : Int32} {l2 : Int32} {Q : Int32 → pm_S → pm_M → Prop}  (h : ((((M.1 15 2) ≤ l2) → Q l1 s M) ∧ (¬ ((M.1 15 2) ≤ l2) → vp_in l2 6 ∧ vp_in l2 6 ∧ wG_traders d 39 [.ref 0, .int ((if (M.1 55 l2.toNatClampNeg) = (M.1 56 l2.toNatClampNeg) then l1 else (l1 ||| ((1 : Int32) <<< (l2 &&& 31)))) : Int32), .int (l2 + 1)] [] s M Q))) : wG_traders d 39 [.ref 0, .int l1, .int l2] [] s M Q := by
  refine s_iload_n (i := 2) (by decide +kernel) rfl (pn 40 rfl ?_)
  refine s_aload_n (i := 0) (by decide +kernel) rfl (pn 41 rfl ?_)
  refine s_getfield (v := .ref 15) (by decide +kernel) fr_11_19 lq_0 (congrArg Prod.fst sh_0) (fv_ref pf_0_1) (pn 44 rfl ?_)
  refine s_getfield (v := .int (M.1 15 2)) (by decide +kernel) fr_11_324 lq_15 (congrArg Prod.fst sh_15) rfl (pn 47 rfl ?_)
  refine s_icmp_ge (off := 36) (tgt := 83) (by decide +kernel) rfl (fun c1 => ?_) (fun c1 => (pn 50 rfl ?_))
  · have h := h.1 c1
    refine s_iload_n (i := 1) (by decide +kernel) rfl (pn 84 rfl ?_)
    exact s_ireturn (st := []) (by decide +kernel) (Or.inl rfl) ⟨_, rfl, s, rfl, h⟩
  · have h := h.2 c1
    refine s_aload_n (i := 0) (by decide +kernel) rfl (pn 51 rfl ?_)
    refine s_getfield (v := .ref 54) (by decide +kernel) fr_11_74 lq_0 (congrArg Prod.fst sh_0) (fv_ref pf_0_14) (pn 54 rfl ?_)
    refine s_getfield (v := .ref 55) (by decide +kernel) fr_11_343 lq_54 (congrArg Prod.fst sh_54) (fv_ref pf_54_0) (pn 57 rfl ?_)
    refine s_iload_n (i := 2) (by decide +kernel) rfl (pn 58 rfl ?_)
    obtain ⟨b1, h⟩ := h
    refine t_iaload (v := M.1 55 l2.toNatClampNeg) (by decide +kernel) ⟨Or.inl lq_55, congrArg Prod.fst sh_55⟩ (al_in sh_55 b1) rfl (pn 59 rfl ?_)
    refine s_aload_n (i := 0) (by decide +kernel) rfl (pn 60 rfl ?_)
    refine s_getfield (v := .ref 54) (by decide +kernel) fr_11_74 lq_0 (congrArg Prod.fst sh_0) (fv_ref pf_0_14) (pn 63 rfl ?_)
    refine s_getfield (v := .ref 56) (by decide +kernel) fr_11_346 lq_54 (congrArg Prod.fst sh_54) (fv_ref pf_54_1) (pn 66 rfl ?_)
    refine s_iload_n (i := 2) (by decide +kernel) rfl (pn 67 rfl ?_)
    obtain ⟨b2, h⟩ := h
    refine t_iaload (v := M.1 56 l2.toNatClampNeg) (by decide +kernel) ⟨Or.inl lq_56, congrArg Prod.fst sh_56⟩ (al_in sh_56 b2) rfl (pn 68 rfl ?_)
    have k1 : ∀ (z1 : Int32) (z1e : z1 = ((if (M.1 55 l2.toNatClampNeg) = (M.1 56 l2.toNatClampNeg) then l1 else (l1 ||| ((1 : Int32) <<< (l2 &&& 31)))) : Int32)), wG_traders d 77 [.ref 0, .int z1, .int l2] [] s M Q := by
      intro z1 z1e
      subst z1e
      refine t_iinc (i := 2) (n := 1) (ls' := [.ref 0, .int ((if (M.1 55 l2.toNatClampNeg) = (M.1 56 l2.toNatClampNeg) then l1 else (l1 ||| ((1 : Int32) <<< (l2 &&& 31)))) : Int32), .int (l2 + 1)]) (by decide +kernel) rfl (Nat.le_of_ble_eq_true rfl) kn_1 rfl (pn 80 rfl ?_)
      refine s_goto (off := -41) (tgt := 39) (by decide +kernel) rfl ?_
      exact h
    refine s_icmp_eq (off := 9) (tgt := 77) (by decide +kernel) rfl (fun c2 => ?_) (fun c2 => (pn 71 rfl ?_))
    · exact k1 _ (by simp only [if_pos c2])
    · refine s_iload_n (i := 1) (by decide +kernel) rfl (pn 72 rfl ?_)
      refine t_iconst (by decide +kernel) ki_1 (pn 73 rfl ?_)
      refine s_iload_n (i := 2) (by decide +kernel) rfl (pn 74 rfl ?_)
      refine s_ishl (by decide +kernel) (pn 75 rfl ?_)
      refine s_ior (by decide +kernel) (pn 76 rfl ?_)
      refine s_istore_n (i := 1) (by decide +kernel) (Nat.le_of_ble_eq_true rfl) (pn 77 rfl (t_store (ls' := [.ref 0, .int (l1 ||| ((1 : Int32) <<< (l2 &&& 31))), .int l2]) rfl ?_))
      exact k1 _ (by simp only [if_neg c2])
abbrev wG_bargain (d pc : Nat) (ls st : List Value) (s : pm_S) (M : pm_M) (Q : Int32 → pm_S → pm_M → Prop) : Prop := wI d prog_1_method_32_code 11 (some .int) false pc ls st s M Q
theorem enG_bargain {d : Nat} {s : pm_S} {M : pm_M}  {Q : Int32 → pm_S → pm_M → Prop}  (h : cV d yK_gather [.ref 41, .ref 15, .ref 27] s M (fun s1 M1 => wG_bargain d 17 [.ref 0, .int 0, .null] [] s1 M1 Q)) : cI (d + 1) yG_bargain [.ref 0] s M Q := by
  refine pm_toI (by decide) (Nat.le_of_ble_eq_true rfl) ?_
  show wG_bargain d 0 [.ref 0, .null, .null] [] s M Q
  refine s_aload_n (i := 0) (by decide +kernel) rfl (pn 1 rfl ?_)
  refine s_getfield (v := .ref 41) (by decide +kernel) fr_11_53 lq_0 (congrArg Prod.fst sh_0) (fv_ref pf_0_11) (pn 4 rfl ?_)
  refine s_aload_n (i := 0) (by decide +kernel) rfl (pn 5 rfl ?_)
  refine s_getfield (v := .ref 15) (by decide +kernel) fr_11_19 lq_0 (congrArg Prod.fst sh_0) (fv_ref pf_0_1) (pn 8 rfl ?_)
  refine s_aload_n (i := 0) (by decide +kernel) rfl (pn 9 rfl ?_)
  refine s_getfield (v := .ref 27) (by decide +kernel) fr_11_26 lq_0 (congrArg Prod.fst sh_0) (fv_ref pf_0_2) (pn 12 rfl ?_)
  refine s_callvV [.ref 15, .ref 27] rfl (by decide +kernel) mv_11_272 np_1 (Nat.le_of_ble_eq_true rfl) lq_41 ((congrArg Prod.fst sh_41).trans oc_1) (cV_use h (fun s1 M1 h => (pn 15 rfl ?_)))
  refine t_iconst (by decide +kernel) ki_0 (pn 16 rfl ?_)
  refine s_istore_n (i := 1) (by decide +kernel) (Nat.le_of_ble_eq_true rfl) (pn 17 rfl (t_store (ls' := [.ref 0, .int 0, .null]) rfl ?_))
  exact h
theorem sgG_bargain_17 {d : Nat} {s : pm_S} {M : pm_M} {l1 : Int32} {Q : Int32 → pm_S → pm_M → Prop}  (h : ((((M.1 15 2) ≤ l1) → Q (-1) s M) ∧ (¬ ((M.1 15 2) ≤ l1) → wG_bargain d 32 [.ref 0, .int l1, .int (l1 + 1)] [] s M Q))) : wG_bargain d 17 [.ref 0, .int l1, .null] [] s M Q := by
  refine s_iload_n (i := 1) (by decide +kernel) rfl (pn 18 rfl ?_)
  refine s_aload_n (i := 0) (by decide +kernel) rfl (pn 19 rfl ?_)
  refine s_getfield (v := .ref 15) (by decide +kernel) fr_11_19 lq_0 (congrArg Prod.fst sh_0) (fv_ref pf_0_1) (pn 22 rfl ?_)
  refine s_getfield (v := .int (M.1 15 2)) (by decide +kernel) fr_11_324 lq_15 (congrArg Prod.fst sh_15) rfl (pn 25 rfl ?_)
  refine s_icmp_ge (off := 46) (tgt := 71) (by decide +kernel) rfl (fun c1 => ?_) (fun c1 => (pn 28 rfl ?_))
  · have h := h.1 c1
    refine t_iconst (by decide +kernel) ki_m1 (pn 72 rfl ?_)
    exact s_ireturn (st := []) (by decide +kernel) (Or.inl rfl) ⟨_, rfl, s, rfl, h⟩
  · have h := h.2 c1
    refine s_iload_n (i := 1) (by decide +kernel) rfl (pn 29 rfl ?_)
    refine t_iconst (by decide +kernel) ki_1 (pn 30 rfl ?_)
    refine s_iadd (by decide +kernel) (pn 31 rfl ?_)
    refine s_istore_n (i := 2) (by decide +kernel) (Nat.le_of_ble_eq_true rfl) (pn 32 rfl (t_store (ls' := [.ref 0, .int l1, .int (l1 + 1)]) rfl ?_))
    exact h
theorem sgG_bargain_32 {d : Nat} {s : pm_S} {M : pm_M} {l1 : Int32} {l2 : Int32} {Q : Int32 → pm_S → pm_M → Prop}  (h : ((((M.1 15 2) ≤ l2) → wG_bargain d 17 [.ref 0, .int (l1 + 1), .null] [] s M Q) ∧ (¬ ((M.1 15 2) ≤ l2) → cI d yG_bothGain [.ref 0, .int l1, .int l2] s M (fun r1 s1 M1 => (((r1 = 0) → wG_bargain d 32 [.ref 0, .int l1, .int (l2 + 1)] [] s1 M1 Q) ∧ (¬ (r1 = 0) → Q (((10 : Int32) * l1) + l2) s1 M1)))))) : wG_bargain d 32 [.ref 0, .int l1, .int l2] [] s M Q := by
  refine s_iload_n (i := 2) (by decide +kernel) rfl (pn 33 rfl ?_)
  refine s_aload_n (i := 0) (by decide +kernel) rfl (pn 34 rfl ?_)
  refine s_getfield (v := .ref 15) (by decide +kernel) fr_11_19 lq_0 (congrArg Prod.fst sh_0) (fv_ref pf_0_1) (pn 37 rfl ?_)
  refine s_getfield (v := .int (M.1 15 2)) (by decide +kernel) fr_11_324 lq_15 (congrArg Prod.fst sh_15) rfl (pn 40 rfl ?_)
  refine s_icmp_ge (off := 25) (tgt := 65) (by decide +kernel) rfl (fun c1 => ?_) (fun c1 => (pn 43 rfl ?_))
  · have h := h.1 c1
    refine t_iinc (i := 1) (n := 1) (ls' := [.ref 0, .int (l1 + 1), .int l2]) (by decide +kernel) rfl (Nat.le_of_ble_eq_true rfl) kn_1 rfl (pn 68 rfl ?_)
    refine s_goto (off := -51) (tgt := 17) (by decide +kernel) rfl ?_
    exact pm_weak [.ref 0, .int (l1 + 1), .null] (pm_le_cons (Or.inr rfl) (pm_le_cons (Or.inr rfl) (pm_le_cons (Or.inl rfl) pm_le_nil))) h
  · have h := h.2 c1
    refine s_aload_n (i := 0) (by decide +kernel) rfl (pn 44 rfl ?_)
    refine s_iload_n (i := 1) (by decide +kernel) rfl (pn 45 rfl ?_)
    refine s_iload_n (i := 2) (by decide +kernel) rfl (pn 46 rfl ?_)
    refine s_callvI [.int l1, .int l2] rfl (by decide +kernel) mv_11_349 np_162 (Nat.le_of_ble_eq_true rfl) lq_0 ((congrArg Prod.fst sh_0).trans oc_162) (cI_use h (fun r1 s1 M1 h => (pn 49 rfl ?_)))
    refine s_if_eq (off := 10) (tgt := 59) (by decide +kernel) rfl (fun c2 => ?_) (fun c2 => (pn 52 rfl ?_))
    · have h := h.1 c2
      refine t_iinc (i := 2) (n := 1) (ls' := [.ref 0, .int l1, .int (l2 + 1)]) (by decide +kernel) rfl (Nat.le_of_ble_eq_true rfl) kn_1 rfl (pn 62 rfl ?_)
      refine s_goto (off := -30) (tgt := 32) (by decide +kernel) rfl ?_
      exact h
    · have h := h.2 c2
      refine t_bipush (by decide +kernel) kb_10 (pn 54 rfl ?_)
      refine s_iload_n (i := 1) (by decide +kernel) rfl (pn 55 rfl ?_)
      refine s_imul (by decide +kernel) (pn 56 rfl ?_)
      refine s_iload_n (i := 2) (by decide +kernel) rfl (pn 57 rfl ?_)
      refine s_iadd (by decide +kernel) (pn 58 rfl ?_)
      exact s_ireturn (st := []) (by decide +kernel) (Or.inl rfl) ⟨_, rfl, s1, rfl, h⟩
abbrev wG_bothGain (d pc : Nat) (ls st : List Value) (s : pm_S) (M : pm_M) (Q : Int32 → pm_S → pm_M → Prop) : Prop := wI d prog_1_method_57_code 11 (some .boolean) false pc ls st s M Q
theorem enG_bothGain {d : Nat} {s : pm_S} {M : pm_M} {x1 : Int32} {x2 : Int32} {Q : Int32 → pm_S → pm_M → Prop}  (h : cI d yS_heldThing [.ref 27, .int x1] s M (fun r1 s1 M1 => cI d yS_heldThing [.ref 27, .int x2] s1 M1 (fun r2 s2 M2 => (((r1 = (-1)) → Q 0 s2 M2) ∧ (¬ (r1 = (-1)) → ((r2 = (-1) → Q 0 s2 M2) ∧ (¬ (r2 = (-1)) → cI d yK_of [.ref 41, .int x1, .int r2] s2 M2 (fun r3 s3 M3 => cI d yK_of [.ref 41, .int x1, .int r1] s3 M3 (fun r4 s4 M4 => (((r3 ≤ r4) → Q 0 s4 M4) ∧ (¬ (r3 ≤ r4) → cI d yK_of [.ref 41, .int x2, .int r1] s4 M4 (fun r5 s5 M5 => cI d yK_of [.ref 41, .int x2, .int r2] s5 M5 (fun r6 s6 M6 => Q ((if r5 ≤ r6 then 0 else 1) : Int32) s6 M6))))))))))))) : cI (d + 1) yG_bothGain [.ref 0, .int x1, .int x2] s M Q := by
  refine pm_toI (by decide) (Nat.le_of_ble_eq_true rfl) ?_
  show wG_bothGain d 0 [.ref 0, .int x1, .int x2, .null, .null] [] s M Q
  refine s_aload_n (i := 0) (by decide +kernel) rfl (pn 1 rfl ?_)
  refine s_getfield (v := .ref 27) (by decide +kernel) fr_11_26 lq_0 (congrArg Prod.fst sh_0) (fv_ref pf_0_2) (pn 4 rfl ?_)
  refine s_iload_n (i := 1) (by decide +kernel) rfl (pn 5 rfl ?_)
  refine s_callvI [.int x1] rfl (by decide +kernel) mv_11_161 np_82 (Nat.le_of_ble_eq_true rfl) lq_27 ((congrArg Prod.fst sh_27).trans oc_82) (cI_use h (fun r1 s1 M1 h => (pn 8 rfl ?_)))
  refine s_istore_n (i := 3) (by decide +kernel) (Nat.le_of_ble_eq_true rfl) (pn 9 rfl (t_store (ls' := [.ref 0, .int x1, .int x2, .int r1, .null]) rfl ?_))
  refine s_aload_n (i := 0) (by decide +kernel) rfl (pn 10 rfl ?_)
  refine s_getfield (v := .ref 27) (by decide +kernel) fr_11_26 lq_0 (congrArg Prod.fst sh_0) (fv_ref pf_0_2) (pn 13 rfl ?_)
  refine s_iload_n (i := 2) (by decide +kernel) rfl (pn 14 rfl ?_)
  refine s_callvI [.int x2] rfl (by decide +kernel) mv_11_161 np_82 (Nat.le_of_ble_eq_true rfl) lq_27 ((congrArg Prod.fst sh_27).trans oc_82) (cI_use h (fun r2 s2 M2 h => (pn 17 rfl ?_)))
  refine s_istore (i := 4) (by decide +kernel) (Nat.le_of_ble_eq_true rfl) (pn 19 rfl (t_store (ls' := [.ref 0, .int x1, .int x2, .int r1, .int r2]) rfl ?_))
  refine s_iload_n (i := 3) (by decide +kernel) rfl (pn 20 rfl ?_)
  refine t_iconst (by decide +kernel) ki_m1 (pn 21 rfl ?_)
  refine s_icmp_eq (off := 9) (tgt := 30) (by decide +kernel) rfl (fun c1 => ?_) (fun c1 => (pn 24 rfl ?_))
  · have h := h.1 c1
    refine t_iconst (by decide +kernel) ki_0 (pn 31 rfl ?_)
    exact s_ireturn (st := []) (by decide +kernel) (Or.inr ⟨rfl, (Or.inl rfl)⟩) ⟨_, rfl, s2, rfl, h⟩
  · have h := h.2 c1
    refine s_iload (i := 4) (by decide +kernel) rfl (pn 26 rfl ?_)
    refine t_iconst (by decide +kernel) ki_m1 (pn 27 rfl ?_)
    refine t_icmp_ne (off := 5) (tgt := 32) (by decide +kernel) rfl (fun c2 => ?_) (fun c2 => (pn 30 rfl ?_))
    · have h := h.2 c2
      refine s_aload_n (i := 0) (by decide +kernel) rfl (pn 33 rfl ?_)
      refine s_getfield (v := .ref 41) (by decide +kernel) fr_11_53 lq_0 (congrArg Prod.fst sh_0) (fv_ref pf_0_11) (pn 36 rfl ?_)
      refine s_iload_n (i := 1) (by decide +kernel) rfl (pn 37 rfl ?_)
      refine s_iload (i := 4) (by decide +kernel) rfl (pn 39 rfl ?_)
      refine s_callvI [.int x1, .int r2] rfl (by decide +kernel) mv_11_336 np_2 (Nat.le_of_ble_eq_true rfl) lq_41 ((congrArg Prod.fst sh_41).trans oc_2) (cI_use h (fun r3 s3 M3 h => (pn 42 rfl ?_)))
      refine s_aload_n (i := 0) (by decide +kernel) rfl (pn 43 rfl ?_)
      refine s_getfield (v := .ref 41) (by decide +kernel) fr_11_53 lq_0 (congrArg Prod.fst sh_0) (fv_ref pf_0_11) (pn 46 rfl ?_)
      refine s_iload_n (i := 1) (by decide +kernel) rfl (pn 47 rfl ?_)
      refine s_iload_n (i := 3) (by decide +kernel) rfl (pn 48 rfl ?_)
      refine s_callvI [.int x1, .int r1] rfl (by decide +kernel) mv_11_336 np_2 (Nat.le_of_ble_eq_true rfl) lq_41 ((congrArg Prod.fst sh_41).trans oc_2) (cI_use h (fun r4 s4 M4 h => (pn 51 rfl ?_)))
      refine s_icmp_le (off := 29) (tgt := 80) (by decide +kernel) rfl (fun c3 => ?_) (fun c3 => (pn 54 rfl ?_))
      · have h := h.1 c3
        refine t_iconst (by decide +kernel) ki_0 (pn 81 rfl ?_)
        exact s_ireturn (st := []) (by decide +kernel) (Or.inr ⟨rfl, (Or.inl rfl)⟩) ⟨_, rfl, s4, rfl, h⟩
      · have h := h.2 c3
        refine s_aload_n (i := 0) (by decide +kernel) rfl (pn 55 rfl ?_)
        refine s_getfield (v := .ref 41) (by decide +kernel) fr_11_53 lq_0 (congrArg Prod.fst sh_0) (fv_ref pf_0_11) (pn 58 rfl ?_)
        refine s_iload_n (i := 2) (by decide +kernel) rfl (pn 59 rfl ?_)
        refine s_iload_n (i := 3) (by decide +kernel) rfl (pn 60 rfl ?_)
        refine s_callvI [.int x2, .int r1] rfl (by decide +kernel) mv_11_336 np_2 (Nat.le_of_ble_eq_true rfl) lq_41 ((congrArg Prod.fst sh_41).trans oc_2) (cI_use h (fun r5 s5 M5 h => (pn 63 rfl ?_)))
        refine s_aload_n (i := 0) (by decide +kernel) rfl (pn 64 rfl ?_)
        refine s_getfield (v := .ref 41) (by decide +kernel) fr_11_53 lq_0 (congrArg Prod.fst sh_0) (fv_ref pf_0_11) (pn 67 rfl ?_)
        refine s_iload_n (i := 2) (by decide +kernel) rfl (pn 68 rfl ?_)
        refine s_iload (i := 4) (by decide +kernel) rfl (pn 70 rfl ?_)
        refine s_callvI [.int x2, .int r2] rfl (by decide +kernel) mv_11_336 np_2 (Nat.le_of_ble_eq_true rfl) lq_41 ((congrArg Prod.fst sh_41).trans oc_2) (cI_use h (fun r6 s6 M6 h => (pn 73 rfl ?_)))
        have k1 : ∀ (z1 : Int32) (z1e : z1 = ((if r5 ≤ r6 then 0 else 1) : Int32)), wG_bothGain d 81 [.ref 0, .int x1, .int x2, .int r1, .int r2] [.int z1] s6 M6 Q := by
          intro z1 z1e
          subst z1e
          exact s_ireturn (st := []) (by decide +kernel) (Or.inr ⟨rfl, (or01 (Or.inl rfl) (Or.inr rfl))⟩) ⟨_, rfl, s6, rfl, h⟩
        refine s_icmp_le (off := 7) (tgt := 80) (by decide +kernel) rfl (fun c4 => ?_) (fun c4 => (pn 76 rfl ?_))
        · refine t_iconst (by decide +kernel) ki_0 (pn 81 rfl ?_)
          exact k1 _ (by simp only [if_pos c4])
        · refine t_iconst (by decide +kernel) ki_1 (pn 77 rfl ?_)
          refine s_goto (off := 4) (tgt := 81) (by decide +kernel) rfl ?_
          exact k1 _ (by simp only [if_neg c4])
    · have h := h.1 c2
      refine t_iconst (by decide +kernel) ki_0 (pn 31 rfl ?_)
      exact s_ireturn (st := []) (by decide +kernel) (Or.inr ⟨rfl, (Or.inl rfl)⟩) ⟨_, rfl, s2, rfl, h⟩
abbrev wG_opening (d pc : Nat) (ls st : List Value) (s : pm_S) (M : pm_M) (Q : Int32 → pm_S → pm_M → Prop) : Prop := wI d prog_1_method_33_code 11 (some .int) false pc ls st s M Q
theorem enG_opening {d : Nat} {s : pm_S} {M : pm_M} {x1 : Int32} {x2 : Int32} {Q : Int32 → pm_S → pm_M → Prop}  (h : cI d yG_openingCode [.ref 0, .int x1, .int x2] s M (fun r1 s1 M1 => (((r1 = 0) → cV d yN_begin [.ref 58, .ref 15, .ref 27, .int x1] s1 M1 (fun s2 M2 => cI d yN_fewestDays [.ref 58, .int x2] s2 M2 (fun r2 s3 M3 => Q r2 s3 M3))) ∧ (¬ (r1 = 0) → Q r1 s1 M1)))) : cI (d + 1) yG_opening [.ref 0, .int x1, .int x2] s M Q := by
  refine pm_toI (by decide) (Nat.le_of_ble_eq_true rfl) ?_
  show wG_opening d 0 [.ref 0, .int x1, .int x2, .null] [] s M Q
  refine s_aload_n (i := 0) (by decide +kernel) rfl (pn 1 rfl ?_)
  refine s_iload_n (i := 1) (by decide +kernel) rfl (pn 2 rfl ?_)
  refine s_iload_n (i := 2) (by decide +kernel) rfl (pn 3 rfl ?_)
  refine s_callvI [.int x1, .int x2] rfl (by decide +kernel) mv_11_352 np_164 (Nat.le_of_ble_eq_true rfl) lq_0 ((congrArg Prod.fst sh_0).trans oc_164) (cI_use h (fun r1 s1 M1 h => (pn 6 rfl ?_)))
  refine s_istore_n (i := 3) (by decide +kernel) (Nat.le_of_ble_eq_true rfl) (pn 7 rfl (t_store (ls' := [.ref 0, .int x1, .int x2, .int r1]) rfl ?_))
  refine s_iload_n (i := 3) (by decide +kernel) rfl (pn 8 rfl ?_)
  refine s_if_eq (off := 5) (tgt := 13) (by decide +kernel) rfl (fun c1 => ?_) (fun c1 => (pn 11 rfl ?_))
  · have h := h.1 c1
    refine s_aload_n (i := 0) (by decide +kernel) rfl (pn 14 rfl ?_)
    refine s_getfield (v := .ref 58) (by decide +kernel) fr_11_81 lq_0 (congrArg Prod.fst sh_0) (fv_ref pf_0_15) (pn 17 rfl ?_)
    refine s_aload_n (i := 0) (by decide +kernel) rfl (pn 18 rfl ?_)
    refine s_getfield (v := .ref 15) (by decide +kernel) fr_11_19 lq_0 (congrArg Prod.fst sh_0) (fv_ref pf_0_1) (pn 21 rfl ?_)
    refine s_aload_n (i := 0) (by decide +kernel) rfl (pn 22 rfl ?_)
    refine s_getfield (v := .ref 27) (by decide +kernel) fr_11_26 lq_0 (congrArg Prod.fst sh_0) (fv_ref pf_0_2) (pn 25 rfl ?_)
    refine s_iload_n (i := 1) (by decide +kernel) rfl (pn 26 rfl ?_)
    refine s_callvV [.ref 15, .ref 27, .int x1] rfl (by decide +kernel) mv_11_355 np_44 (Nat.le_of_ble_eq_true rfl) lq_58 ((congrArg Prod.fst sh_58).trans oc_44) (cV_use h (fun s2 M2 h => (pn 29 rfl ?_)))
    refine s_aload_n (i := 0) (by decide +kernel) rfl (pn 30 rfl ?_)
    refine s_getfield (v := .ref 58) (by decide +kernel) fr_11_81 lq_0 (congrArg Prod.fst sh_0) (fv_ref pf_0_15) (pn 33 rfl ?_)
    refine s_iload_n (i := 2) (by decide +kernel) rfl (pn 34 rfl ?_)
    refine s_callvI [.int x2] rfl (by decide +kernel) mv_11_358 np_45 (Nat.le_of_ble_eq_true rfl) lq_58 ((congrArg Prod.fst sh_58).trans oc_45) (cI_use h (fun r2 s3 M3 h => (pn 37 rfl ?_)))
    exact s_ireturn (st := []) (by decide +kernel) (Or.inl rfl) ⟨_, rfl, s3, rfl, h⟩
  · have h := h.2 c1
    refine s_iload_n (i := 3) (by decide +kernel) rfl (pn 12 rfl ?_)
    exact s_ireturn (st := []) (by decide +kernel) (Or.inl rfl) ⟨_, rfl, s1, rfl, h⟩
abbrev wG_openingCode (d pc : Nat) (ls st : List Value) (s : pm_S) (M : pm_M) (Q : Int32 → pm_S → pm_M → Prop) : Prop := wI d prog_1_method_58_code 11 (some .int) false pc ls st s M Q
theorem enG_openingCode {d : Nat} {s : pm_S} {M : pm_M} {x1 : Int32} {x2 : Int32} {Q : Int32 → pm_S → pm_M → Prop}  (h : cI d yL_hasPerson [.ref 15, .int x1] s M (fun r1 s1 M1 => ((r1 = 0 → Q (-2) s1 M1) ∧ (¬ (r1 = 0) → cI d yL_hasSet [.ref 15, .int x2] s1 M1 (fun r2 s2 M2 => Q ((if r2 = 0 then (-3) else 0) : Int32) s2 M2))))) : cI (d + 1) yG_openingCode [.ref 0, .int x1, .int x2] s M Q := by
  refine pm_toI (by decide) (Nat.le_of_ble_eq_true rfl) ?_
  show wG_openingCode d 0 [.ref 0, .int x1, .int x2] [] s M Q
  refine s_aload_n (i := 0) (by decide +kernel) rfl (pn 1 rfl ?_)
  refine s_getfield (v := .ref 15) (by decide +kernel) fr_11_19 lq_0 (congrArg Prod.fst sh_0) (fv_ref pf_0_1) (pn 4 rfl ?_)
  refine s_iload_n (i := 1) (by decide +kernel) rfl (pn 5 rfl ?_)
  refine s_callvI [.int x1] rfl (by decide +kernel) mv_11_149 np_31 (Nat.le_of_ble_eq_true rfl) lq_15 ((congrArg Prod.fst sh_15).trans oc_31) (cI_use h (fun r1 s1 M1 h => (pn 8 rfl ?_)))
  refine t_if_ne (off := 6) (tgt := 14) (by decide +kernel) rfl (fun c1 => ?_) (fun c1 => (pn 11 rfl ?_))
  · have h := h.2 c1
    refine s_aload_n (i := 0) (by decide +kernel) rfl (pn 15 rfl ?_)
    refine s_getfield (v := .ref 15) (by decide +kernel) fr_11_19 lq_0 (congrArg Prod.fst sh_0) (fv_ref pf_0_1) (pn 18 rfl ?_)
    refine s_iload_n (i := 2) (by decide +kernel) rfl (pn 19 rfl ?_)
    refine s_callvI [.int x2] rfl (by decide +kernel) mv_11_383 np_36 (Nat.le_of_ble_eq_true rfl) lq_15 ((congrArg Prod.fst sh_15).trans oc_36) (cI_use h (fun r2 s2 M2 h => (pn 22 rfl ?_)))
    have k1 : ∀ (z1 : Int32) (z1e : z1 = ((if r2 = 0 then (-3) else 0) : Int32)), wG_openingCode d 31 [.ref 0, .int x1, .int x2] [.int z1] s2 M2 Q := by
      intro z1 z1e
      subst z1e
      exact s_ireturn (st := []) (by decide +kernel) (Or.inl rfl) ⟨_, rfl, s2, rfl, h⟩
    refine s_if_eq (off := 7) (tgt := 29) (by decide +kernel) rfl (fun c2 => ?_) (fun c2 => (pn 25 rfl ?_))
    · refine t_bipush (by decide +kernel) kb_m3 (pn 31 rfl ?_)
      exact k1 _ (by simp only [if_pos c2])
    · refine t_iconst (by decide +kernel) ki_0 (pn 26 rfl ?_)
      refine s_goto (off := 5) (tgt := 31) (by decide +kernel) rfl ?_
      exact k1 _ (by simp only [if_neg c2])
  · have h := h.1 c1
    refine t_bipush (by decide +kernel) kb_m2 (pn 13 rfl ?_)
    exact s_ireturn (st := []) (by decide +kernel) (Or.inl rfl) ⟨_, rfl, s1, rfl, h⟩
abbrev wG_openedBy (d pc : Nat) (ls st : List Value) (s : pm_S) (M : pm_M) (Q : Int32 → pm_S → pm_M → Prop) : Prop := wI d prog_1_method_34_code 11 (some .int) false pc ls st s M Q
theorem enG_openedBy {d : Nat} {s : pm_S} {M : pm_M} {x1 : Int32} {x2 : Int32} {x3 : Int32} {Q : Int32 → pm_S → pm_M → Prop}  (h : cI d yG_openingCode [.ref 0, .int x1, .int x2] s M (fun r1 s1 M1 => (((r1 = 0) → (((0 ≤ x3) → cV d yN_begin [.ref 58, .ref 15, .ref 27, .int x1] s1 M1 (fun s2 M2 => cI d yN_findOrder [.ref 58, .int x2] s2 M2 (fun r2 s3 M3 => (((r2 ≤ x3) → Q (-1) s3 M3) ∧ (¬ (r2 ≤ x3) → cI d yN_orderAt [.ref 58, .int x3] s3 M3 (fun r3 s4 M4 => Q r3 s4 M4)))))) ∧ (¬ (0 ≤ x3) → Q (-3) s1 M1))) ∧ (¬ (r1 = 0) → Q r1 s1 M1)))) : cI (d + 1) yG_openedBy [.ref 0, .int x1, .int x2, .int x3] s M Q := by
  refine pm_toI (by decide) (Nat.le_of_ble_eq_true rfl) ?_
  show wG_openedBy d 0 [.ref 0, .int x1, .int x2, .int x3, .null] [] s M Q
  refine s_aload_n (i := 0) (by decide +kernel) rfl (pn 1 rfl ?_)
  refine s_iload_n (i := 1) (by decide +kernel) rfl (pn 2 rfl ?_)
  refine s_iload_n (i := 2) (by decide +kernel) rfl (pn 3 rfl ?_)
  refine s_callvI [.int x1, .int x2] rfl (by decide +kernel) mv_11_352 np_164 (Nat.le_of_ble_eq_true rfl) lq_0 ((congrArg Prod.fst sh_0).trans oc_164) (cI_use h (fun r1 s1 M1 h => (pn 6 rfl ?_)))
  refine s_istore (i := 4) (by decide +kernel) (Nat.le_of_ble_eq_true rfl) (pn 8 rfl (t_store (ls' := [.ref 0, .int x1, .int x2, .int x3, .int r1]) rfl ?_))
  refine s_iload (i := 4) (by decide +kernel) rfl (pn 10 rfl ?_)
  refine s_if_eq (off := 6) (tgt := 16) (by decide +kernel) rfl (fun c1 => ?_) (fun c1 => (pn 13 rfl ?_))
  · have h := h.1 c1
    refine s_iload_n (i := 3) (by decide +kernel) rfl (pn 17 rfl ?_)
    refine s_if_ge (off := 6) (tgt := 23) (by decide +kernel) rfl (fun c2 => ?_) (fun c2 => (pn 20 rfl ?_))
    · have h := h.1 c2
      refine s_aload_n (i := 0) (by decide +kernel) rfl (pn 24 rfl ?_)
      refine s_getfield (v := .ref 58) (by decide +kernel) fr_11_81 lq_0 (congrArg Prod.fst sh_0) (fv_ref pf_0_15) (pn 27 rfl ?_)
      refine s_aload_n (i := 0) (by decide +kernel) rfl (pn 28 rfl ?_)
      refine s_getfield (v := .ref 15) (by decide +kernel) fr_11_19 lq_0 (congrArg Prod.fst sh_0) (fv_ref pf_0_1) (pn 31 rfl ?_)
      refine s_aload_n (i := 0) (by decide +kernel) rfl (pn 32 rfl ?_)
      refine s_getfield (v := .ref 27) (by decide +kernel) fr_11_26 lq_0 (congrArg Prod.fst sh_0) (fv_ref pf_0_2) (pn 35 rfl ?_)
      refine s_iload_n (i := 1) (by decide +kernel) rfl (pn 36 rfl ?_)
      refine s_callvV [.ref 15, .ref 27, .int x1] rfl (by decide +kernel) mv_11_355 np_44 (Nat.le_of_ble_eq_true rfl) lq_58 ((congrArg Prod.fst sh_58).trans oc_44) (cV_use h (fun s2 M2 h => (pn 39 rfl ?_)))
      refine s_iload_n (i := 3) (by decide +kernel) rfl (pn 40 rfl ?_)
      refine s_aload_n (i := 0) (by decide +kernel) rfl (pn 41 rfl ?_)
      refine s_getfield (v := .ref 58) (by decide +kernel) fr_11_81 lq_0 (congrArg Prod.fst sh_0) (fv_ref pf_0_15) (pn 44 rfl ?_)
      refine s_iload_n (i := 2) (by decide +kernel) rfl (pn 45 rfl ?_)
      refine s_callvI [.int x2] rfl (by decide +kernel) mv_11_361 np_48 (Nat.le_of_ble_eq_true rfl) lq_58 ((congrArg Prod.fst sh_58).trans oc_48) (cI_use h (fun r2 s3 M3 h => (pn 48 rfl ?_)))
      refine s_icmp_ge (off := 14) (tgt := 62) (by decide +kernel) rfl (fun c3 => ?_) (fun c3 => (pn 51 rfl ?_))
      · have h := h.1 c3
        refine t_iconst (by decide +kernel) ki_m1 (pn 63 rfl ?_)
        exact s_ireturn (st := []) (by decide +kernel) (Or.inl rfl) ⟨_, rfl, s3, rfl, h⟩
      · have h := h.2 c3
        refine s_aload_n (i := 0) (by decide +kernel) rfl (pn 52 rfl ?_)
        refine s_getfield (v := .ref 58) (by decide +kernel) fr_11_81 lq_0 (congrArg Prod.fst sh_0) (fv_ref pf_0_15) (pn 55 rfl ?_)
        refine s_iload_n (i := 3) (by decide +kernel) rfl (pn 56 rfl ?_)
        refine s_callvI [.int x3] rfl (by decide +kernel) mv_11_364 np_50 (Nat.le_of_ble_eq_true rfl) lq_58 ((congrArg Prod.fst sh_58).trans oc_50) (cI_use h (fun r3 s4 M4 h => (pn 59 rfl ?_)))
        refine s_goto (off := 4) (tgt := 63) (by decide +kernel) rfl ?_
        exact s_ireturn (st := []) (by decide +kernel) (Or.inl rfl) ⟨_, rfl, s4, rfl, h⟩
    · have h := h.2 c2
      refine t_bipush (by decide +kernel) kb_m3 (pn 22 rfl ?_)
      exact s_ireturn (st := []) (by decide +kernel) (Or.inl rfl) ⟨_, rfl, s1, rfl, h⟩
  · have h := h.2 c1
    refine s_iload (i := 4) (by decide +kernel) rfl (pn 15 rfl ?_)
    exact s_ireturn (st := []) (by decide +kernel) (Or.inl rfl) ⟨_, rfl, s1, rfl, h⟩
abbrev wG_inADay (d pc : Nat) (ls st : List Value) (s : pm_S) (M : pm_M) (Q : Int32 → pm_S → pm_M → Prop) : Prop := wI d prog_1_method_35_code 11 (some .int) false pc ls st s M Q
theorem enG_inADay {d : Nat} {s : pm_S} {M : pm_M} {x1 : Int32} {x2 : Int32} {Q : Int32 → pm_S → pm_M → Prop}  (h : cI d yG_openingCode [.ref 0, .int x1, .int x2] s M (fun r1 s1 M1 => (((r1 = 0) → cV d yN_begin [.ref 58, .ref 15, .ref 27, .int x1] s1 M1 (fun s2 M2 => cI d yN_mostInADay [.ref 58, .int x2] s2 M2 (fun r2 s3 M3 => Q r2 s3 M3))) ∧ (¬ (r1 = 0) → Q r1 s1 M1)))) : cI (d + 1) yG_inADay [.ref 0, .int x1, .int x2] s M Q := by
  refine pm_toI (by decide) (Nat.le_of_ble_eq_true rfl) ?_
  show wG_inADay d 0 [.ref 0, .int x1, .int x2, .null] [] s M Q
  refine s_aload_n (i := 0) (by decide +kernel) rfl (pn 1 rfl ?_)
  refine s_iload_n (i := 1) (by decide +kernel) rfl (pn 2 rfl ?_)
  refine s_iload_n (i := 2) (by decide +kernel) rfl (pn 3 rfl ?_)
  refine s_callvI [.int x1, .int x2] rfl (by decide +kernel) mv_11_352 np_164 (Nat.le_of_ble_eq_true rfl) lq_0 ((congrArg Prod.fst sh_0).trans oc_164) (cI_use h (fun r1 s1 M1 h => (pn 6 rfl ?_)))
  refine s_istore_n (i := 3) (by decide +kernel) (Nat.le_of_ble_eq_true rfl) (pn 7 rfl (t_store (ls' := [.ref 0, .int x1, .int x2, .int r1]) rfl ?_))
  refine s_iload_n (i := 3) (by decide +kernel) rfl (pn 8 rfl ?_)
  refine s_if_eq (off := 5) (tgt := 13) (by decide +kernel) rfl (fun c1 => ?_) (fun c1 => (pn 11 rfl ?_))
  · have h := h.1 c1
    refine s_aload_n (i := 0) (by decide +kernel) rfl (pn 14 rfl ?_)
    refine s_getfield (v := .ref 58) (by decide +kernel) fr_11_81 lq_0 (congrArg Prod.fst sh_0) (fv_ref pf_0_15) (pn 17 rfl ?_)
    refine s_aload_n (i := 0) (by decide +kernel) rfl (pn 18 rfl ?_)
    refine s_getfield (v := .ref 15) (by decide +kernel) fr_11_19 lq_0 (congrArg Prod.fst sh_0) (fv_ref pf_0_1) (pn 21 rfl ?_)
    refine s_aload_n (i := 0) (by decide +kernel) rfl (pn 22 rfl ?_)
    refine s_getfield (v := .ref 27) (by decide +kernel) fr_11_26 lq_0 (congrArg Prod.fst sh_0) (fv_ref pf_0_2) (pn 25 rfl ?_)
    refine s_iload_n (i := 1) (by decide +kernel) rfl (pn 26 rfl ?_)
    refine s_callvV [.ref 15, .ref 27, .int x1] rfl (by decide +kernel) mv_11_355 np_44 (Nat.le_of_ble_eq_true rfl) lq_58 ((congrArg Prod.fst sh_58).trans oc_44) (cV_use h (fun s2 M2 h => (pn 29 rfl ?_)))
    refine s_aload_n (i := 0) (by decide +kernel) rfl (pn 30 rfl ?_)
    refine s_getfield (v := .ref 58) (by decide +kernel) fr_11_81 lq_0 (congrArg Prod.fst sh_0) (fv_ref pf_0_15) (pn 33 rfl ?_)
    refine s_iload_n (i := 2) (by decide +kernel) rfl (pn 34 rfl ?_)
    refine s_callvI [.int x2] rfl (by decide +kernel) mv_11_367 np_51 (Nat.le_of_ble_eq_true rfl) lq_58 ((congrArg Prod.fst sh_58).trans oc_51) (cI_use h (fun r2 s3 M3 h => (pn 37 rfl ?_)))
    exact s_ireturn (st := []) (by decide +kernel) (Or.inl rfl) ⟨_, rfl, s3, rfl, h⟩
  · have h := h.2 c1
    refine s_iload_n (i := 3) (by decide +kernel) rfl (pn 12 rfl ?_)
    exact s_ireturn (st := []) (by decide +kernel) (Or.inl rfl) ⟨_, rfl, s1, rfl, h⟩
abbrev wG_marks (d pc : Nat) (ls st : List Value) (s : pm_S) (M : pm_M) (Q : Int32 → pm_S → pm_M → Prop) : Prop := wI d prog_1_method_36_code 11 (some .int) false pc ls st s M Q
theorem enG_marks {d : Nat} {s : pm_S} {M : pm_M} {x1 : Int32} {x2 : Int32} {Q : Int32 → pm_S → pm_M → Prop}  (h : cI d yG_answersCode [.ref 0, .int x1, .int x2] s M (fun r1 s1 M1 => (((r1 = 0) → vp_in x1 4 ∧ ∀ o1 : Nat, o1 = 117 + 2 * x1.toNatClampNeg → isY o1 → cI d yG_marksBy [.ref 0, .ref o1, .int x2] s1 M1 (fun r2 s2 M2 => Q r2 s2 M2)) ∧ (¬ (r1 = 0) → Q r1 s1 M1)))) : cI (d + 1) yG_marks [.ref 0, .int x1, .int x2] s M Q := by
  refine pm_toI (by decide) (Nat.le_of_ble_eq_true rfl) ?_
  show wG_marks d 0 [.ref 0, .int x1, .int x2, .null] [] s M Q
  refine s_aload_n (i := 0) (by decide +kernel) rfl (pn 1 rfl ?_)
  refine s_iload_n (i := 1) (by decide +kernel) rfl (pn 2 rfl ?_)
  refine s_iload_n (i := 2) (by decide +kernel) rfl (pn 3 rfl ?_)
  refine s_callvI [.int x1, .int x2] rfl (by decide +kernel) mv_11_370 np_168 (Nat.le_of_ble_eq_true rfl) lq_0 ((congrArg Prod.fst sh_0).trans oc_168) (cI_use h (fun r1 s1 M1 h => (pn 6 rfl ?_)))
  refine s_istore_n (i := 3) (by decide +kernel) (Nat.le_of_ble_eq_true rfl) (pn 7 rfl (t_store (ls' := [.ref 0, .int x1, .int x2, .int r1]) rfl ?_))
  refine s_iload_n (i := 3) (by decide +kernel) rfl (pn 8 rfl ?_)
  refine s_if_eq (off := 7) (tgt := 15) (by decide +kernel) rfl (fun c1 => ?_) (fun c1 => (pn 11 rfl ?_))
  · have h := h.1 c1
    refine s_aload_n (i := 0) (by decide +kernel) rfl (pn 16 rfl ?_)
    refine s_aload_n (i := 0) (by decide +kernel) rfl (pn 17 rfl ?_)
    refine s_getfield (v := .ref 38) (by decide +kernel) fr_11_39 lq_0 (congrArg Prod.fst sh_0) (fv_ref pf_0_7) (pn 20 rfl ?_)
    refine s_iload_n (i := 1) (by decide +kernel) rfl (pn 21 rfl ?_)
    obtain ⟨b1, h⟩ := h
    obtain ⟨o1, eo1, ho1⟩ : ∃ zz : Nat, zz = 117 + 2 * x1.toNatClampNeg ∧ isY zz := ⟨_, rfl, pq_38 (vp_nat b1)⟩
    refine t_aaload (x := o1) (by decide +kernel) ⟨lq_38, by rw [sh_38]; decide, by rw [sh_38]; decide⟩ (al_in sh_38 b1) (by rw [eo1]; exact pa_38 (vp_nat b1)) (pn 22 rfl ?_)
    have h := h o1 eo1 ho1
    refine s_iload_n (i := 2) (by decide +kernel) rfl (pn 23 rfl ?_)
    refine s_callvI [.ref o1, .int x2] rfl (by decide +kernel) mv_11_373 np_169 (Nat.le_of_ble_eq_true rfl) lq_0 ((congrArg Prod.fst sh_0).trans oc_169) (cI_use h (fun r2 s2 M2 h => (pn 26 rfl ?_)))
    exact s_ireturn (st := []) (by decide +kernel) (Or.inl rfl) ⟨_, rfl, s2, rfl, h⟩
  · have h := h.2 c1
    refine s_iload_n (i := 3) (by decide +kernel) rfl (pn 12 rfl ?_)
    refine s_goto (off := 14) (tgt := 26) (by decide +kernel) rfl ?_
    exact s_ireturn (st := []) (by decide +kernel) (Or.inl rfl) ⟨_, rfl, s1, rfl, h⟩
abbrev wG_answersCode (d pc : Nat) (ls st : List Value) (s : pm_S) (M : pm_M) (Q : Int32 → pm_S → pm_M → Prop) : Prop := wI d prog_1_method_59_code 11 (some .int) false pc ls st s M Q
theorem enG_answersCode {d : Nat} {s : pm_S} {M : pm_M} {x1 : Int32} {x2 : Int32} {Q : Int32 → pm_S → pm_M → Prop}  (h : cI d yG_hasTray [.ref 0, .int x1] s M (fun r1 s1 M1 => (((r1 = 0) → Q (-2) s1 M1) ∧ (¬ (r1 = 0) → cI d yL_hasPerson [.ref 15, .int x2] s1 M1 (fun r2 s2 M2 => ((r2 = 0 → Q (-2) s2 M2) ∧ (¬ (r2 = 0) → vp_in x1 4 ∧ ∀ o1 : Nat, o1 = 117 + 2 * x1.toNatClampNeg → isY o1 → cI d yY_codeForNumbers [.ref o1, .int 16, .int ((2 : Int32) * (M2.1 15 1))] s2 M2 (fun r3 s3 M3 => Q r3 s3 M3)))))))) : cI (d + 1) yG_answersCode [.ref 0, .int x1, .int x2] s M Q := by
  refine pm_toI (by decide) (Nat.le_of_ble_eq_true rfl) ?_
  show wG_answersCode d 0 [.ref 0, .int x1, .int x2] [] s M Q
  refine s_aload_n (i := 0) (by decide +kernel) rfl (pn 1 rfl ?_)
  refine s_iload_n (i := 1) (by decide +kernel) rfl (pn 2 rfl ?_)
  refine s_callvI [.int x1] rfl (by decide +kernel) mv_11_240 np_141 (Nat.le_of_ble_eq_true rfl) lq_0 ((congrArg Prod.fst sh_0).trans oc_141) (cI_use h (fun r1 s1 M1 h => (pn 5 rfl ?_)))
  refine s_if_eq (off := 14) (tgt := 19) (by decide +kernel) rfl (fun c1 => ?_) (fun c1 => (pn 8 rfl ?_))
  · have h := h.1 c1
    refine t_bipush (by decide +kernel) kb_m2 (pn 21 rfl ?_)
    exact s_ireturn (st := []) (by decide +kernel) (Or.inl rfl) ⟨_, rfl, s1, rfl, h⟩
  · have h := h.2 c1
    refine s_aload_n (i := 0) (by decide +kernel) rfl (pn 9 rfl ?_)
    refine s_getfield (v := .ref 15) (by decide +kernel) fr_11_19 lq_0 (congrArg Prod.fst sh_0) (fv_ref pf_0_1) (pn 12 rfl ?_)
    refine s_iload_n (i := 2) (by decide +kernel) rfl (pn 13 rfl ?_)
    refine s_callvI [.int x2] rfl (by decide +kernel) mv_11_149 np_31 (Nat.le_of_ble_eq_true rfl) lq_15 ((congrArg Prod.fst sh_15).trans oc_31) (cI_use h (fun r2 s2 M2 h => (pn 16 rfl ?_)))
    refine t_if_ne (off := 6) (tgt := 22) (by decide +kernel) rfl (fun c2 => ?_) (fun c2 => (pn 19 rfl ?_))
    · have h := h.2 c2
      refine s_aload_n (i := 0) (by decide +kernel) rfl (pn 23 rfl ?_)
      refine s_getfield (v := .ref 38) (by decide +kernel) fr_11_39 lq_0 (congrArg Prod.fst sh_0) (fv_ref pf_0_7) (pn 26 rfl ?_)
      refine s_iload_n (i := 1) (by decide +kernel) rfl (pn 27 rfl ?_)
      obtain ⟨b1, h⟩ := h
      obtain ⟨o1, eo1, ho1⟩ : ∃ zz : Nat, zz = 117 + 2 * x1.toNatClampNeg ∧ isY zz := ⟨_, rfl, pq_38 (vp_nat b1)⟩
      refine t_aaload (x := o1) (by decide +kernel) ⟨lq_38, by rw [sh_38]; decide, by rw [sh_38]; decide⟩ (al_in sh_38 b1) (by rw [eo1]; exact pa_38 (vp_nat b1)) (pn 28 rfl ?_)
      have h := h o1 eo1 ho1
      refine t_bipush (by decide +kernel) kb_16 (pn 30 rfl ?_)
      refine t_iconst (by decide +kernel) ki_2 (pn 31 rfl ?_)
      refine s_aload_n (i := 0) (by decide +kernel) rfl (pn 32 rfl ?_)
      refine s_getfield (v := .ref 15) (by decide +kernel) fr_11_19 lq_0 (congrArg Prod.fst sh_0) (fv_ref pf_0_1) (pn 35 rfl ?_)
      refine s_getfield (v := .int (M2.1 15 1)) (by decide +kernel) fr_11_327 lq_15 (congrArg Prod.fst sh_15) rfl (pn 38 rfl ?_)
      refine s_imul (by decide +kernel) (pn 39 rfl ?_)
      refine s_callvI [.int 16, .int ((2 : Int32) * (M2.1 15 1))] rfl (by decide +kernel) mv_11_451 np_110 (Nat.le_of_ble_eq_true rfl) (ltY_0 ho1) ((congrArg Prod.fst (shY_0 ho1)).trans oc_110) (cI_use h (fun r3 s3 M3 h => (pn 42 rfl ?_)))
      exact s_ireturn (st := []) (by decide +kernel) (Or.inl rfl) ⟨_, rfl, s3, rfl, h⟩
    · have h := h.1 c2
      refine t_bipush (by decide +kernel) kb_m2 (pn 21 rfl ?_)
      exact s_ireturn (st := []) (by decide +kernel) (Or.inl rfl) ⟨_, rfl, s2, rfl, h⟩
abbrev wG_marksBy (d pc : Nat) (ls st : List Value) (s : pm_S) (M : pm_M) (Q : Int32 → pm_S → pm_M → Prop) : Prop := wI d prog_1_method_61_code 11 (some .int) false pc ls st s M Q
theorem enG_marksBy {d : Nat} {s : pm_S} {M : pm_M} {t : Nat} {x2 : Int32} {Q : Int32 → pm_S → pm_M → Prop} (ht : isY t) (h : wG_marksBy d 5 [.ref 0, .ref t, .int x2, .int 0, .int 0] [] s M Q) : cI (d + 1) yG_marksBy [.ref 0, .ref t, .int x2] s M Q := by
  refine pm_toI (by decide) (Nat.le_of_ble_eq_true rfl) ?_
  show wG_marksBy d 0 [.ref 0, .ref t, .int x2, .null, .null] [] s M Q
  refine t_iconst (by decide +kernel) ki_0 (pn 1 rfl ?_)
  refine s_istore_n (i := 3) (by decide +kernel) (Nat.le_of_ble_eq_true rfl) (pn 2 rfl (t_store (ls' := [.ref 0, .ref t, .int x2, .int 0, .null]) rfl ?_))
  refine t_iconst (by decide +kernel) ki_0 (pn 3 rfl ?_)
  refine s_istore (i := 4) (by decide +kernel) (Nat.le_of_ble_eq_true rfl) (pn 5 rfl (t_store (ls' := [.ref 0, .ref t, .int x2, .int 0, .int 0]) rfl ?_))
  exact h
theorem sgG_marksBy_5 {d : Nat} {s : pm_S} {M : pm_M} {l2 : Int32} {l3 : Int32} {l4 : Int32} {t : Nat} {Q : Int32 → pm_S → pm_M → Prop} (ht : isY t) (h : (((10 ≤ l4) → Q l3 s M) ∧ (¬ (10 ≤ l4) → cI d yG_wouldAnswer [.ref 0, .ref t, .int l2, .int l4] s M (fun r1 s1 M1 => wG_marksBy d 5 [.ref 0, .ref t, .int l2, .int ((if r1 = 0 then l3 else (l3 ||| ((1 : Int32) <<< (l4 &&& 31)))) : Int32), .int (l4 + 1)] [] s1 M1 Q)))) : wG_marksBy d 5 [.ref 0, .ref t, .int l2, .int l3, .int l4] [] s M Q := by
  refine s_iload (i := 4) (by decide +kernel) rfl (pn 7 rfl ?_)
  refine t_bipush (by decide +kernel) kb_10 (pn 9 rfl ?_)
  refine s_icmp_ge (off := 27) (tgt := 36) (by decide +kernel) rfl (fun c1 => ?_) (fun c1 => (pn 12 rfl ?_))
  · have h := h.1 c1
    refine s_iload_n (i := 3) (by decide +kernel) rfl (pn 37 rfl ?_)
    exact s_ireturn (st := []) (by decide +kernel) (Or.inl rfl) ⟨_, rfl, s, rfl, h⟩
  · have h := h.2 c1
    refine s_aload_n (i := 0) (by decide +kernel) rfl (pn 13 rfl ?_)
    refine s_aload_n (i := 1) (by decide +kernel) rfl (pn 14 rfl ?_)
    refine s_iload_n (i := 2) (by decide +kernel) rfl (pn 15 rfl ?_)
    refine s_iload (i := 4) (by decide +kernel) rfl (pn 17 rfl ?_)
    refine s_callvI [.ref t, .int l2, .int l4] rfl (by decide +kernel) mv_11_454 np_170 (Nat.le_of_ble_eq_true rfl) lq_0 ((congrArg Prod.fst sh_0).trans oc_170) (cI_use h (fun r1 s1 M1 h => (pn 20 rfl ?_)))
    have k1 : ∀ (z1 : Int32) (z1e : z1 = ((if r1 = 0 then l3 else (l3 ||| ((1 : Int32) <<< (l4 &&& 31)))) : Int32)), wG_marksBy d 30 [.ref 0, .ref t, .int l2, .int z1, .int l4] [] s1 M1 Q := by
      intro z1 z1e
      subst z1e
      refine t_iinc (i := 4) (n := 1) (ls' := [.ref 0, .ref t, .int l2, .int ((if r1 = 0 then l3 else (l3 ||| ((1 : Int32) <<< (l4 &&& 31)))) : Int32), .int (l4 + 1)]) (by decide +kernel) rfl (Nat.le_of_ble_eq_true rfl) kn_1 rfl (pn 33 rfl ?_)
      refine s_goto (off := -28) (tgt := 5) (by decide +kernel) rfl ?_
      exact h
    refine s_if_eq (off := 10) (tgt := 30) (by decide +kernel) rfl (fun c2 => ?_) (fun c2 => (pn 23 rfl ?_))
    · exact k1 _ (by simp only [if_pos c2])
    · refine s_iload_n (i := 3) (by decide +kernel) rfl (pn 24 rfl ?_)
      refine t_iconst (by decide +kernel) ki_1 (pn 25 rfl ?_)
      refine s_iload (i := 4) (by decide +kernel) rfl (pn 27 rfl ?_)
      refine s_ishl (by decide +kernel) (pn 28 rfl ?_)
      refine s_ior (by decide +kernel) (pn 29 rfl ?_)
      refine s_istore_n (i := 3) (by decide +kernel) (Nat.le_of_ble_eq_true rfl) (pn 30 rfl (t_store (ls' := [.ref 0, .ref t, .int l2, .int (l3 ||| ((1 : Int32) <<< (l4 &&& 31))), .int l4]) rfl ?_))
      exact k1 _ (by simp only [if_neg c2])
abbrev wG_wouldAnswer (d pc : Nat) (ls st : List Value) (s : pm_S) (M : pm_M) (Q : Int32 → pm_S → pm_M → Prop) : Prop := wI d prog_1_method_62_code 11 (some .boolean) false pc ls st s M Q
theorem enG_wouldAnswer {d : Nat} {s : pm_S} {M : pm_M} {t : Nat} {x2 : Int32} {x3 : Int32} {Q : Int32 → pm_S → pm_M → Prop} (ht : isY t) (h : wG_wouldAnswer d 3 [.ref 0, .ref t, .int x2, .int x3, .int 0, .null, .null] [] s M Q) : cI (d + 1) yG_wouldAnswer [.ref 0, .ref t, .int x2, .int x3] s M Q := by
  refine pm_toI (by decide) (Nat.le_of_ble_eq_true rfl) ?_
  show wG_wouldAnswer d 0 [.ref 0, .ref t, .int x2, .int x3, .null, .null, .null] [] s M Q
  refine t_iconst (by decide +kernel) ki_0 (pn 1 rfl ?_)
  refine s_istore (i := 4) (by decide +kernel) (Nat.le_of_ble_eq_true rfl) (pn 3 rfl (t_store (ls' := [.ref 0, .ref t, .int x2, .int x3, .int 0, .null, .null]) rfl ?_))
  exact h
theorem sgG_wouldAnswer_3 {d : Nat} {s : pm_S} {M : pm_M} {l2 : Int32} {l3 : Int32} {l4 : Int32} {t : Nat} {Q : Int32 → pm_S → pm_M → Prop} (ht : isY t) (h : ((((M.1 t 2) ≤ l4) → Q 1 s M) ∧ (¬ ((M.1 t 2) ≤ l4) → cL d yY_at [.ref t, .int l4] s M (fun r1 s1 M1 => cI d yL_claimBy [.ref 15, .int l3, .int l2, .int ((r1.toInt32) >>> ((1 : Int32) &&& 31))] s1 M1 (fun r2 s2 M2 => (((((if r2 ≤ 0 then 0 else 1) : Int32) = ((if ((r1.toInt32) &&& 1) = 1 then 1 else 0) : Int32)) → wG_wouldAnswer d 3 [.ref 0, .ref t, .int l2, .int l3, .int (l4 + 1), .null, .null] [] s2 M2 Q) ∧ (¬ (((if r2 ≤ 0 then 0 else 1) : Int32) = ((if ((r1.toInt32) &&& 1) = 1 then 1 else 0) : Int32)) → Q 0 s2 M2))))))) : wG_wouldAnswer d 3 [.ref 0, .ref t, .int l2, .int l3, .int l4, .null, .null] [] s M Q := by
  refine s_iload (i := 4) (by decide +kernel) rfl (pn 5 rfl ?_)
  refine s_aload_n (i := 1) (by decide +kernel) rfl (pn 6 rfl ?_)
  refine s_getfield (v := .int (M.1 t 2)) (by decide +kernel) fr_11_424 (ltY_0 ht) (congrArg Prod.fst (shY_0 ht)) rfl (pn 9 rfl ?_)
  refine s_icmp_ge (off := 61) (tgt := 70) (by decide +kernel) rfl (fun c1 => ?_) (fun c1 => (pn 12 rfl ?_))
  · have h := h.1 c1
    refine t_iconst (by decide +kernel) ki_1 (pn 71 rfl ?_)
    exact s_ireturn (st := []) (by decide +kernel) (Or.inr ⟨rfl, (Or.inr rfl)⟩) ⟨_, rfl, s, rfl, h⟩
  · have h := h.2 c1
    refine s_aload_n (i := 1) (by decide +kernel) rfl (pn 13 rfl ?_)
    refine s_iload (i := 4) (by decide +kernel) rfl (pn 15 rfl ?_)
    refine s_callvL [.int l4] rfl (by decide +kernel) mv_11_443 np_108 (Nat.le_of_ble_eq_true rfl) (ltY_0 ht) ((congrArg Prod.fst (shY_0 ht)).trans oc_108) (cL_use h (fun r1 s1 M1 h => (pn 18 rfl ?_)))
    refine s_l2i (by decide +kernel) (pn 19 rfl ?_)
    refine s_istore (i := 5) (by decide +kernel) (Nat.le_of_ble_eq_true rfl) (pn 21 rfl (t_store (ls' := [.ref 0, .ref t, .int l2, .int l3, .int l4, .int (r1.toInt32), .null]) rfl ?_))
    refine s_aload_n (i := 0) (by decide +kernel) rfl (pn 22 rfl ?_)
    refine s_getfield (v := .ref 15) (by decide +kernel) fr_11_19 lq_0 (congrArg Prod.fst sh_0) (fv_ref pf_0_1) (pn 25 rfl ?_)
    refine s_iload_n (i := 3) (by decide +kernel) rfl (pn 26 rfl ?_)
    refine s_iload_n (i := 2) (by decide +kernel) rfl (pn 27 rfl ?_)
    refine s_iload (i := 5) (by decide +kernel) rfl (pn 29 rfl ?_)
    refine t_iconst (by decide +kernel) ki_1 (pn 30 rfl ?_)
    refine s_ishr (by decide +kernel) (pn 31 rfl ?_)
    refine s_callvI [.int l3, .int l2, .int ((r1.toInt32) >>> ((1 : Int32) &&& 31))] rfl (by decide +kernel) mv_11_169 np_32 (Nat.le_of_ble_eq_true rfl) lq_15 ((congrArg Prod.fst sh_15).trans oc_32) (cI_use h (fun r2 s2 M2 h => (pn 34 rfl ?_)))
    have k1 : ∀ (z1 : Int32) (z1e : z1 = ((if r2 ≤ 0 then 0 else 1) : Int32)), wG_wouldAnswer d 42 [.ref 0, .ref t, .int l2, .int l3, .int l4, .int (r1.toInt32), .null] [.int z1] s2 M2 Q := by
      intro z1 z1e
      subst z1e
      refine s_istore (i := 6) (by decide +kernel) (Nat.le_of_ble_eq_true rfl) (pn 44 rfl (t_store (ls' := [.ref 0, .ref t, .int l2, .int l3, .int l4, .int (r1.toInt32), .int ((if r2 ≤ 0 then 0 else 1) : Int32)]) rfl ?_))
      refine s_iload (i := 6) (by decide +kernel) rfl (pn 46 rfl ?_)
      refine s_iload (i := 5) (by decide +kernel) rfl (pn 48 rfl ?_)
      refine t_iconst (by decide +kernel) ki_1 (pn 49 rfl ?_)
      refine s_iand (by decide +kernel) (pn 50 rfl ?_)
      refine t_iconst (by decide +kernel) ki_1 (pn 51 rfl ?_)
      have k2 : ∀ (z2 : Int32) (z2e : z2 = ((if ((r1.toInt32) &&& 1) = 1 then 1 else 0) : Int32)), wG_wouldAnswer d 59 [.ref 0, .ref t, .int l2, .int l3, .int l4, .int (r1.toInt32), .int ((if r2 ≤ 0 then 0 else 1) : Int32)] [.int z2, .int ((if r2 ≤ 0 then 0 else 1) : Int32)] s2 M2 Q := by
        intro z2 z2e
        subst z2e
        refine s_icmp_eq (off := 5) (tgt := 64) (by decide +kernel) rfl (fun c4 => ?_) (fun c4 => (pn 62 rfl ?_))
        · have h := h.1 c4
          refine t_iinc (i := 4) (n := 1) (ls' := [.ref 0, .ref t, .int l2, .int l3, .int (l4 + 1), .int (r1.toInt32), .int ((if r2 ≤ 0 then 0 else 1) : Int32)]) (by decide +kernel) rfl (Nat.le_of_ble_eq_true rfl) kn_1 rfl (pn 67 rfl ?_)
          refine s_goto (off := -64) (tgt := 3) (by decide +kernel) rfl ?_
          exact pm_weak [.ref 0, .ref t, .int l2, .int l3, .int (l4 + 1), .null, .null] (pm_le_cons (Or.inr rfl) (pm_le_cons (Or.inr rfl) (pm_le_cons (Or.inr rfl) (pm_le_cons (Or.inr rfl) (pm_le_cons (Or.inr rfl) (pm_le_cons (Or.inl rfl) (pm_le_cons (Or.inl rfl) pm_le_nil))))))) h
        · have h := h.2 c4
          refine t_iconst (by decide +kernel) ki_0 (pn 63 rfl ?_)
          exact s_ireturn (st := []) (by decide +kernel) (Or.inr ⟨rfl, (Or.inl rfl)⟩) ⟨_, rfl, s2, rfl, h⟩
      refine t_icmp_ne (off := 7) (tgt := 58) (by decide +kernel) rfl (fun c3 => ?_) (fun c3 => (pn 54 rfl ?_))
      · refine t_iconst (by decide +kernel) ki_0 (pn 59 rfl ?_)
        exact k2 _ (by simp only [if_neg c3])
      · refine t_iconst (by decide +kernel) ki_1 (pn 55 rfl ?_)
        refine s_goto (off := 4) (tgt := 59) (by decide +kernel) rfl ?_
        exact k2 _ (by simp only [if_pos c3])
    refine s_if_le (off := 7) (tgt := 41) (by decide +kernel) rfl (fun c2 => ?_) (fun c2 => (pn 37 rfl ?_))
    · refine t_iconst (by decide +kernel) ki_0 (pn 42 rfl ?_)
      exact k1 _ (by simp only [if_pos c2])
    · refine t_iconst (by decide +kernel) ki_1 (pn 38 rfl ?_)
      refine s_goto (off := 4) (tgt := 42) (by decide +kernel) rfl ?_
      exact k1 _ (by simp only [if_neg c2])
abbrev wG_show (d pc : Nat) (ls st : List Value) (s : pm_S) (M : pm_M) (Q : Int32 → pm_S → pm_M → Prop) : Prop := wI d prog_1_method_37_code 11 (some .int) false pc ls st s M Q
theorem enG_show {d : Nat} {s : pm_S} {M : pm_M} {x1 : Int32} {x2 : Int32} {Q : Int32 → pm_S → pm_M → Prop}  (h : cI d yG_answersCode [.ref 0, .int x1, .int x2] s M (fun r1 s1 M1 => (((r1 = 0) → vp_in x1 4 ∧ ∀ o1 : Nat, o1 = 117 + 2 * x1.toNatClampNeg → isY o1 → cI d yG_marksBy [.ref 0, .ref o1, .int x2] s1 M1 (fun r2 s2 M2 => ((r2 = 0 → Q (-1) s2 M2) ∧ (¬ (r2 = 0) → wG_show d 42 [.ref 0, .null, .int x2, .null, .int r2, .int (-1), .int (-1), .int 0, .null, .null] [] s2 M2 Q)))) ∧ (¬ (r1 = 0) → Q r1 s1 M1)))) : cI (d + 1) yG_show [.ref 0, .int x1, .int x2] s M Q := by
  refine pm_toI (by decide) (Nat.le_of_ble_eq_true rfl) ?_
  show wG_show d 0 [.ref 0, .int x1, .int x2, .null, .null, .null, .null, .null, .null, .null] [] s M Q
  refine s_aload_n (i := 0) (by decide +kernel) rfl (pn 1 rfl ?_)
  refine s_iload_n (i := 1) (by decide +kernel) rfl (pn 2 rfl ?_)
  refine s_iload_n (i := 2) (by decide +kernel) rfl (pn 3 rfl ?_)
  refine s_callvI [.int x1, .int x2] rfl (by decide +kernel) mv_11_370 np_168 (Nat.le_of_ble_eq_true rfl) lq_0 ((congrArg Prod.fst sh_0).trans oc_168) (cI_use h (fun r1 s1 M1 h => (pn 6 rfl ?_)))
  refine s_istore_n (i := 3) (by decide +kernel) (Nat.le_of_ble_eq_true rfl) (pn 7 rfl (t_store (ls' := [.ref 0, .int x1, .int x2, .int r1, .null, .null, .null, .null, .null, .null]) rfl ?_))
  refine s_iload_n (i := 3) (by decide +kernel) rfl (pn 8 rfl ?_)
  refine s_if_eq (off := 5) (tgt := 13) (by decide +kernel) rfl (fun c1 => ?_) (fun c1 => (pn 11 rfl ?_))
  · have h := h.1 c1
    refine s_aload_n (i := 0) (by decide +kernel) rfl (pn 14 rfl ?_)
    refine s_aload_n (i := 0) (by decide +kernel) rfl (pn 15 rfl ?_)
    refine s_getfield (v := .ref 38) (by decide +kernel) fr_11_39 lq_0 (congrArg Prod.fst sh_0) (fv_ref pf_0_7) (pn 18 rfl ?_)
    refine s_iload_n (i := 1) (by decide +kernel) rfl (pn 19 rfl ?_)
    obtain ⟨b1, h⟩ := h
    obtain ⟨o1, eo1, ho1⟩ : ∃ zz : Nat, zz = 117 + 2 * x1.toNatClampNeg ∧ isY zz := ⟨_, rfl, pq_38 (vp_nat b1)⟩
    refine t_aaload (x := o1) (by decide +kernel) ⟨lq_38, by rw [sh_38]; decide, by rw [sh_38]; decide⟩ (al_in sh_38 b1) (by rw [eo1]; exact pa_38 (vp_nat b1)) (pn 20 rfl ?_)
    have h := h o1 eo1 ho1
    refine s_iload_n (i := 2) (by decide +kernel) rfl (pn 21 rfl ?_)
    refine s_callvI [.ref o1, .int x2] rfl (by decide +kernel) mv_11_373 np_169 (Nat.le_of_ble_eq_true rfl) lq_0 ((congrArg Prod.fst sh_0).trans oc_169) (cI_use h (fun r2 s2 M2 h => (pn 24 rfl ?_)))
    refine s_istore (i := 4) (by decide +kernel) (Nat.le_of_ble_eq_true rfl) (pn 26 rfl (t_store (ls' := [.ref 0, .int x1, .int x2, .int r1, .int r2, .null, .null, .null, .null, .null]) rfl ?_))
    refine s_iload (i := 4) (by decide +kernel) rfl (pn 28 rfl ?_)
    refine t_if_ne (off := 5) (tgt := 33) (by decide +kernel) rfl (fun c2 => ?_) (fun c2 => (pn 31 rfl ?_))
    · have h := h.2 c2
      refine t_iconst (by decide +kernel) ki_m1 (pn 34 rfl ?_)
      refine s_istore (i := 5) (by decide +kernel) (Nat.le_of_ble_eq_true rfl) (pn 36 rfl (t_store (ls' := [.ref 0, .int x1, .int x2, .int r1, .int r2, .int (-1), .null, .null, .null, .null]) rfl ?_))
      refine t_iconst (by decide +kernel) ki_m1 (pn 37 rfl ?_)
      refine s_istore (i := 6) (by decide +kernel) (Nat.le_of_ble_eq_true rfl) (pn 39 rfl (t_store (ls' := [.ref 0, .int x1, .int x2, .int r1, .int r2, .int (-1), .int (-1), .null, .null, .null]) rfl ?_))
      refine t_iconst (by decide +kernel) ki_0 (pn 40 rfl ?_)
      refine s_istore (i := 7) (by decide +kernel) (Nat.le_of_ble_eq_true rfl) (pn 42 rfl (t_store (ls' := [.ref 0, .int x1, .int x2, .int r1, .int r2, .int (-1), .int (-1), .int 0, .null, .null]) rfl ?_))
      exact pm_weak [.ref 0, .null, .int x2, .null, .int r2, .int (-1), .int (-1), .int 0, .null, .null] (pm_le_cons (Or.inr rfl) (pm_le_cons (Or.inl rfl) (pm_le_cons (Or.inr rfl) (pm_le_cons (Or.inl rfl) (pm_le_cons (Or.inr rfl) (pm_le_cons (Or.inr rfl) (pm_le_cons (Or.inr rfl) (pm_le_cons (Or.inr rfl) (pm_le_cons (Or.inl rfl) (pm_le_cons (Or.inl rfl) pm_le_nil)))))))))) h
    · have h := h.1 c2
      refine t_iconst (by decide +kernel) ki_m1 (pn 32 rfl ?_)
      exact s_ireturn (st := []) (by decide +kernel) (Or.inl rfl) ⟨_, rfl, s2, rfl, h⟩
  · have h := h.2 c1
    refine s_iload_n (i := 3) (by decide +kernel) rfl (pn 12 rfl ?_)
    exact s_ireturn (st := []) (by decide +kernel) (Or.inl rfl) ⟨_, rfl, s1, rfl, h⟩
theorem sgG_show_42 {d : Nat} {s : pm_S} {M : pm_M} {l2 : Int32} {l4 : Int32} {l5 : Int32} {l6 : Int32} {l7 : Int32} {Q : Int32 → pm_S → pm_M → Prop}  (h : ((((M.1 15 1) ≤ l7) → Q l5 s M) ∧ (¬ ((M.1 15 1) ≤ l7) → wG_show d 60 [.ref 0, .null, .int l2, .null, .int l4, .int l5, .int l6, .int l7, .int 0, .int 0] [] s M Q))) : wG_show d 42 [.ref 0, .null, .int l2, .null, .int l4, .int l5, .int l6, .int l7, .null, .null] [] s M Q := by
  refine s_iload (i := 7) (by decide +kernel) rfl (pn 44 rfl ?_)
  refine s_aload_n (i := 0) (by decide +kernel) rfl (pn 45 rfl ?_)
  refine s_getfield (v := .ref 15) (by decide +kernel) fr_11_19 lq_0 (congrArg Prod.fst sh_0) (fv_ref pf_0_1) (pn 48 rfl ?_)
  refine s_getfield (v := .int (M.1 15 1)) (by decide +kernel) fr_11_327 lq_15 (congrArg Prod.fst sh_15) rfl (pn 51 rfl ?_)
  refine s_icmp_ge (off := 87) (tgt := 138) (by decide +kernel) rfl (fun c1 => ?_) (fun c1 => (pn 54 rfl ?_))
  · have h := h.1 c1
    refine s_iload (i := 5) (by decide +kernel) rfl (pn 140 rfl ?_)
    exact s_ireturn (st := []) (by decide +kernel) (Or.inl rfl) ⟨_, rfl, s, rfl, h⟩
  · have h := h.2 c1
    refine t_iconst (by decide +kernel) ki_0 (pn 55 rfl ?_)
    refine s_istore (i := 8) (by decide +kernel) (Nat.le_of_ble_eq_true rfl) (pn 57 rfl (t_store (ls' := [.ref 0, .null, .int l2, .null, .int l4, .int l5, .int l6, .int l7, .int 0, .null]) rfl ?_))
    refine t_iconst (by decide +kernel) ki_0 (pn 58 rfl ?_)
    refine s_istore (i := 9) (by decide +kernel) (Nat.le_of_ble_eq_true rfl) (pn 60 rfl (t_store (ls' := [.ref 0, .null, .int l2, .null, .int l4, .int l5, .int l6, .int l7, .int 0, .int 0]) rfl ?_))
    exact h
theorem sgG_show_60 {d : Nat} {s : pm_S} {M : pm_M} {l2 : Int32} {l4 : Int32} {l5 : Int32} {l6 : Int32} {l7 : Int32} {l8 : Int32} {l9 : Int32} {Q : Int32 → pm_S → pm_M → Prop}  (h : (((10 ≤ l9) → cI d yint_bitCount [.int l4] s M (fun r1 s1 M1 => cI d ymath_min [.int l8, .int (r1 - l8)] s1 M1 (fun r2 s2 M2 => wG_show d 42 [.ref 0, .null, .int l2, .null, .int l4, .int ((if r2 ≤ l6 then l5 else l7) : Int32), .int ((if r2 ≤ l6 then l6 else r2) : Int32), .int (l7 + 1), .null, .null] [] s2 M2 Q))) ∧ (¬ (10 ≤ l9) → ((((l4 >>> (l9 &&& 31)) &&& 1) = 1 → cI d yL_claimBy [.ref 15, .int l9, .int l2, .int l7] s M (fun r3 s3 M3 => wG_show d 60 [.ref 0, .null, .int l2, .null, .int l4, .int l5, .int l6, .int l7, .int ((if r3 ≤ 0 then l8 else (l8 + 1)) : Int32), .int (l9 + 1)] [] s3 M3 Q)) ∧ (¬ (((l4 >>> (l9 &&& 31)) &&& 1) = 1) → wG_show d 60 [.ref 0, .null, .int l2, .null, .int l4, .int l5, .int l6, .int l7, .int l8, .int (l9 + 1)] [] s M Q))))) : wG_show d 60 [.ref 0, .null, .int l2, .null, .int l4, .int l5, .int l6, .int l7, .int l8, .int l9] [] s M Q := by
  refine s_iload (i := 9) (by decide +kernel) rfl (pn 62 rfl ?_)
  refine t_bipush (by decide +kernel) kb_10 (pn 64 rfl ?_)
  refine s_icmp_ge (off := 38) (tgt := 102) (by decide +kernel) rfl (fun c1 => ?_) (fun c1 => (pn 67 rfl ?_))
  · have h := h.1 c1
    refine s_iload (i := 8) (by decide +kernel) rfl (pn 104 rfl ?_)
    refine s_iload (i := 4) (by decide +kernel) rfl (pn 106 rfl ?_)
    refine s_callsI [.int l4] rfl (by decide +kernel) ms_11_204 np_322 (Nat.le_of_ble_eq_true rfl) (cI_use h (fun r1 s1 M1 h => (pn 109 rfl ?_)))
    refine s_iload (i := 8) (by decide +kernel) rfl (pn 111 rfl ?_)
    refine s_isub (by decide +kernel) (pn 112 rfl ?_)
    refine s_callsI [.int l8, .int (r1 - l8)] rfl (by decide +kernel) ms_11_377 np_323 (Nat.le_of_ble_eq_true rfl) (cI_use h (fun r2 s2 M2 h => (pn 115 rfl ?_)))
    refine s_istore (i := 9) (by decide +kernel) (Nat.le_of_ble_eq_true rfl) (pn 117 rfl (t_store (ls' := [.ref 0, .null, .int l2, .null, .int l4, .int l5, .int l6, .int l7, .int l8, .int r2]) rfl ?_))
    refine s_iload (i := 9) (by decide +kernel) rfl (pn 119 rfl ?_)
    refine s_iload (i := 6) (by decide +kernel) rfl (pn 121 rfl ?_)
    have k1 : ∀ (z1 : Int32) (z1e : z1 = ((if r2 ≤ l6 then l5 else l7) : Int32)) (z2 : Int32) (z2e : z2 = ((if r2 ≤ l6 then l6 else r2) : Int32)), wG_show d 132 [.ref 0, .null, .int l2, .null, .int l4, .int z1, .int z2, .int l7, .int l8, .int r2] [] s2 M2 Q := by
      intro z1 z1e z2 z2e
      subst z1e z2e
      refine t_iinc (i := 7) (n := 1) (ls' := [.ref 0, .null, .int l2, .null, .int l4, .int ((if r2 ≤ l6 then l5 else l7) : Int32), .int ((if r2 ≤ l6 then l6 else r2) : Int32), .int (l7 + 1), .int l8, .int r2]) (by decide +kernel) rfl (Nat.le_of_ble_eq_true rfl) kn_1 rfl (pn 135 rfl ?_)
      refine s_goto (off := -93) (tgt := 42) (by decide +kernel) rfl ?_
      exact pm_weak [.ref 0, .null, .int l2, .null, .int l4, .int ((if r2 ≤ l6 then l5 else l7) : Int32), .int ((if r2 ≤ l6 then l6 else r2) : Int32), .int (l7 + 1), .null, .null] (pm_le_cons (Or.inr rfl) (pm_le_cons (Or.inl rfl) (pm_le_cons (Or.inr rfl) (pm_le_cons (Or.inl rfl) (pm_le_cons (Or.inr rfl) (pm_le_cons (Or.inr rfl) (pm_le_cons (Or.inr rfl) (pm_le_cons (Or.inr rfl) (pm_le_cons (Or.inl rfl) (pm_le_cons (Or.inl rfl) pm_le_nil)))))))))) h
    refine s_icmp_le (off := 11) (tgt := 132) (by decide +kernel) rfl (fun c2 => ?_) (fun c2 => (pn 124 rfl ?_))
    · exact k1 _ (by simp only [if_pos c2]) _ (by simp only [if_pos c2])
    · refine s_iload (i := 9) (by decide +kernel) rfl (pn 126 rfl ?_)
      refine s_istore (i := 6) (by decide +kernel) (Nat.le_of_ble_eq_true rfl) (pn 128 rfl (t_store (ls' := [.ref 0, .null, .int l2, .null, .int l4, .int l5, .int r2, .int l7, .int l8, .int r2]) rfl ?_))
      refine s_iload (i := 7) (by decide +kernel) rfl (pn 130 rfl ?_)
      refine s_istore (i := 5) (by decide +kernel) (Nat.le_of_ble_eq_true rfl) (pn 132 rfl (t_store (ls' := [.ref 0, .null, .int l2, .null, .int l4, .int l7, .int r2, .int l7, .int l8, .int r2]) rfl ?_))
      exact k1 _ (by simp only [if_neg c2]) _ (by simp only [if_neg c2])
  · have h := h.2 c1
    refine s_iload (i := 4) (by decide +kernel) rfl (pn 69 rfl ?_)
    refine s_iload (i := 9) (by decide +kernel) rfl (pn 71 rfl ?_)
    refine s_ishr (by decide +kernel) (pn 72 rfl ?_)
    refine t_iconst (by decide +kernel) ki_1 (pn 73 rfl ?_)
    refine s_iand (by decide +kernel) (pn 74 rfl ?_)
    refine t_iconst (by decide +kernel) ki_1 (pn 75 rfl ?_)
    refine t_icmp_ne (off := 21) (tgt := 96) (by decide +kernel) rfl (fun c3 => ?_) (fun c3 => (pn 78 rfl ?_))
    · have h := h.2 c3
      refine t_iinc (i := 9) (n := 1) (ls' := [.ref 0, .null, .int l2, .null, .int l4, .int l5, .int l6, .int l7, .int l8, .int (l9 + 1)]) (by decide +kernel) rfl (Nat.le_of_ble_eq_true rfl) kn_1 rfl (pn 99 rfl ?_)
      refine s_goto (off := -39) (tgt := 60) (by decide +kernel) rfl ?_
      exact h
    · have h := h.1 c3
      refine s_aload_n (i := 0) (by decide +kernel) rfl (pn 79 rfl ?_)
      refine s_getfield (v := .ref 15) (by decide +kernel) fr_11_19 lq_0 (congrArg Prod.fst sh_0) (fv_ref pf_0_1) (pn 82 rfl ?_)
      refine s_iload (i := 9) (by decide +kernel) rfl (pn 84 rfl ?_)
      refine s_iload_n (i := 2) (by decide +kernel) rfl (pn 85 rfl ?_)
      refine s_iload (i := 7) (by decide +kernel) rfl (pn 87 rfl ?_)
      refine s_callvI [.int l9, .int l2, .int l7] rfl (by decide +kernel) mv_11_169 np_32 (Nat.le_of_ble_eq_true rfl) lq_15 ((congrArg Prod.fst sh_15).trans oc_32) (cI_use h (fun r3 s3 M3 h => (pn 90 rfl ?_)))
      have k2 : ∀ (z3 : Int32) (z3e : z3 = ((if r3 ≤ 0 then l8 else (l8 + 1)) : Int32)), wG_show d 96 [.ref 0, .null, .int l2, .null, .int l4, .int l5, .int l6, .int l7, .int z3, .int l9] [] s3 M3 Q := by
        intro z3 z3e
        subst z3e
        refine t_iinc (i := 9) (n := 1) (ls' := [.ref 0, .null, .int l2, .null, .int l4, .int l5, .int l6, .int l7, .int ((if r3 ≤ 0 then l8 else (l8 + 1)) : Int32), .int (l9 + 1)]) (by decide +kernel) rfl (Nat.le_of_ble_eq_true rfl) kn_1 rfl (pn 99 rfl ?_)
        refine s_goto (off := -39) (tgt := 60) (by decide +kernel) rfl ?_
        exact h
      refine s_if_le (off := 6) (tgt := 96) (by decide +kernel) rfl (fun c4 => ?_) (fun c4 => (pn 93 rfl ?_))
      · exact k2 _ (by simp only [if_pos c4])
      · refine t_iinc (i := 8) (n := 1) (ls' := [.ref 0, .null, .int l2, .null, .int l4, .int l5, .int l6, .int l7, .int (l8 + 1), .int l9]) (by decide +kernel) rfl (Nat.le_of_ble_eq_true rfl) kn_1 rfl (pn 96 rfl ?_)
        exact k2 _ (by simp only [if_neg c4])
abbrev wG_game (d pc : Nat) (ls st : List Value) (s : pm_S) (M : pm_M) (Q : Int32 → pm_S → pm_M → Prop) : Prop := wI d prog_1_method_38_code 11 (some .int) false pc ls st s M Q
theorem enG_game {d : Nat} {s : pm_S} {M : pm_M} {x1 : Int32} {x2 : Int32} {x3 : Int32} {Q : Int32 → pm_S → pm_M → Prop}  (h : cI d yG_canChoose [.ref 0, .int x1, .int x2] s M (fun r1 s1 M1 => ((r1 = 0 → Q (-99000002) s1 M1) ∧ (¬ (r1 = 0) → cI d yL_hasSet [.ref 15, .int x3] s1 M1 (fun r2 s2 M2 => ((r2 = 0 → Q (-99000003) s2 M2) ∧ (¬ (r2 = 0) → cV d yK_gather [.ref 41, .ref 15, .ref 27] s2 M2 (fun s3 M3 => cV d yH_playOut [.ref 52, .ref 41, .int x1, .int x2, .int x3] s3 M3 (fun s4 M4 => vp_in x3 1792 ∧ Q (M4.1 53 x3.toNatClampNeg) s4 M4))))))))) : cI (d + 1) yG_game [.ref 0, .int x1, .int x2, .int x3] s M Q := by
  refine pm_toI (by decide) (Nat.le_of_ble_eq_true rfl) ?_
  show wG_game d 0 [.ref 0, .int x1, .int x2, .int x3] [] s M Q
  refine s_aload_n (i := 0) (by decide +kernel) rfl (pn 1 rfl ?_)
  refine s_iload_n (i := 1) (by decide +kernel) rfl (pn 2 rfl ?_)
  refine s_iload_n (i := 2) (by decide +kernel) rfl (pn 3 rfl ?_)
  refine s_callvI [.int x1, .int x2] rfl (by decide +kernel) mv_11_380 np_173 (Nat.le_of_ble_eq_true rfl) lq_0 ((congrArg Prod.fst sh_0).trans oc_173) (cI_use h (fun r1 s1 M1 h => (pn 6 rfl ?_)))
  refine t_if_ne (off := 6) (tgt := 12) (by decide +kernel) rfl (fun c1 => ?_) (fun c1 => (pn 9 rfl ?_))
  · have h := h.2 c1
    refine s_aload_n (i := 0) (by decide +kernel) rfl (pn 13 rfl ?_)
    refine s_getfield (v := .ref 15) (by decide +kernel) fr_11_19 lq_0 (congrArg Prod.fst sh_0) (fv_ref pf_0_1) (pn 16 rfl ?_)
    refine s_iload_n (i := 3) (by decide +kernel) rfl (pn 17 rfl ?_)
    refine s_callvI [.int x3] rfl (by decide +kernel) mv_11_383 np_36 (Nat.le_of_ble_eq_true rfl) lq_15 ((congrArg Prod.fst sh_15).trans oc_36) (cI_use h (fun r2 s2 M2 h => (pn 20 rfl ?_)))
    refine t_if_ne (off := 7) (tgt := 27) (by decide +kernel) rfl (fun c2 => ?_) (fun c2 => (pn 23 rfl ?_))
    · have h := h.2 c2
      refine s_aload_n (i := 0) (by decide +kernel) rfl (pn 28 rfl ?_)
      refine s_getfield (v := .ref 41) (by decide +kernel) fr_11_53 lq_0 (congrArg Prod.fst sh_0) (fv_ref pf_0_11) (pn 31 rfl ?_)
      refine s_aload_n (i := 0) (by decide +kernel) rfl (pn 32 rfl ?_)
      refine s_getfield (v := .ref 15) (by decide +kernel) fr_11_19 lq_0 (congrArg Prod.fst sh_0) (fv_ref pf_0_1) (pn 35 rfl ?_)
      refine s_aload_n (i := 0) (by decide +kernel) rfl (pn 36 rfl ?_)
      refine s_getfield (v := .ref 27) (by decide +kernel) fr_11_26 lq_0 (congrArg Prod.fst sh_0) (fv_ref pf_0_2) (pn 39 rfl ?_)
      refine s_callvV [.ref 15, .ref 27] rfl (by decide +kernel) mv_11_272 np_1 (Nat.le_of_ble_eq_true rfl) lq_41 ((congrArg Prod.fst sh_41).trans oc_1) (cV_use h (fun s3 M3 h => (pn 42 rfl ?_)))
      refine s_aload_n (i := 0) (by decide +kernel) rfl (pn 43 rfl ?_)
      refine s_getfield (v := .ref 52) (by decide +kernel) fr_11_67 lq_0 (congrArg Prod.fst sh_0) (fv_ref pf_0_13) (pn 46 rfl ?_)
      refine s_aload_n (i := 0) (by decide +kernel) rfl (pn 47 rfl ?_)
      refine s_getfield (v := .ref 41) (by decide +kernel) fr_11_53 lq_0 (congrArg Prod.fst sh_0) (fv_ref pf_0_11) (pn 50 rfl ?_)
      refine s_iload_n (i := 1) (by decide +kernel) rfl (pn 51 rfl ?_)
      refine s_iload_n (i := 2) (by decide +kernel) rfl (pn 52 rfl ?_)
      refine s_iload_n (i := 3) (by decide +kernel) rfl (pn 53 rfl ?_)
      refine s_callvV [.ref 41, .int x1, .int x2, .int x3] rfl (by decide +kernel) mv_11_387 np_119 (Nat.le_of_ble_eq_true rfl) lq_52 ((congrArg Prod.fst sh_52).trans oc_119) (cV_use h (fun s4 M4 h => (pn 56 rfl ?_)))
      refine s_aload_n (i := 0) (by decide +kernel) rfl (pn 57 rfl ?_)
      refine s_getfield (v := .ref 52) (by decide +kernel) fr_11_67 lq_0 (congrArg Prod.fst sh_0) (fv_ref pf_0_13) (pn 60 rfl ?_)
      refine s_getfield (v := .ref 53) (by decide +kernel) fr_11_313 lq_52 (congrArg Prod.fst sh_52) (fv_ref pf_52_0) (pn 63 rfl ?_)
      refine s_iload_n (i := 3) (by decide +kernel) rfl (pn 64 rfl ?_)
      obtain ⟨b1, h⟩ := h
      refine t_iaload (v := M4.1 53 x3.toNatClampNeg) (by decide +kernel) ⟨Or.inl lq_53, congrArg Prod.fst sh_53⟩ (al_in sh_53 b1) rfl (pn 65 rfl ?_)
      exact s_ireturn (st := []) (by decide +kernel) (Or.inl rfl) ⟨_, rfl, s4, rfl, h⟩
    · have h := h.1 c2
      refine s_ldc_w (by decide +kernel) kc_11_386 (pn 26 rfl ?_)
      exact s_ireturn (st := []) (by decide +kernel) (Or.inl rfl) ⟨_, rfl, s2, rfl, h⟩
  · have h := h.1 c1
    refine s_ldc (by decide +kernel) kc_11_168 (pn 11 rfl ?_)
    exact s_ireturn (st := []) (by decide +kernel) (Or.inl rfl) ⟨_, rfl, s1, rfl, h⟩
abbrev wG_canChoose (d pc : Nat) (ls st : List Value) (s : pm_S) (M : pm_M) (Q : Int32 → pm_S → pm_M → Prop) : Prop := wI d prog_1_method_63_code 11 (some .boolean) false pc ls st s M Q
theorem enG_canChoose {d : Nat} {s : pm_S} {M : pm_M} {x1 : Int32} {x2 : Int32} {Q : Int32 → pm_S → pm_M → Prop}  (h : cI d yL_hasPerson [.ref 15, .int x1] s M (fun r1 s1 M1 => (((r1 = 0) → Q 0 s1 M1) ∧ (¬ (r1 = 0) → cI d yL_hasPerson [.ref 15, .int x2] s1 M1 (fun r2 s2 M2 => Q ((if r2 = 0 then 0 else (if x1 = x2 then 0 else 1)) : Int32) s2 M2))))) : cI (d + 1) yG_canChoose [.ref 0, .int x1, .int x2] s M Q := by
  refine pm_toI (by decide) (Nat.le_of_ble_eq_true rfl) ?_
  show wG_canChoose d 0 [.ref 0, .int x1, .int x2] [] s M Q
  refine s_aload_n (i := 0) (by decide +kernel) rfl (pn 1 rfl ?_)
  refine s_getfield (v := .ref 15) (by decide +kernel) fr_11_19 lq_0 (congrArg Prod.fst sh_0) (fv_ref pf_0_1) (pn 4 rfl ?_)
  refine s_iload_n (i := 1) (by decide +kernel) rfl (pn 5 rfl ?_)
  refine s_callvI [.int x1] rfl (by decide +kernel) mv_11_149 np_31 (Nat.le_of_ble_eq_true rfl) lq_15 ((congrArg Prod.fst sh_15).trans oc_31) (cI_use h (fun r1 s1 M1 h => (pn 8 rfl ?_)))
  refine s_if_eq (off := 23) (tgt := 31) (by decide +kernel) rfl (fun c1 => ?_) (fun c1 => (pn 11 rfl ?_))
  · have h := h.1 c1
    refine t_iconst (by decide +kernel) ki_0 (pn 32 rfl ?_)
    exact s_ireturn (st := []) (by decide +kernel) (Or.inr ⟨rfl, (Or.inl rfl)⟩) ⟨_, rfl, s1, rfl, h⟩
  · have h := h.2 c1
    refine s_aload_n (i := 0) (by decide +kernel) rfl (pn 12 rfl ?_)
    refine s_getfield (v := .ref 15) (by decide +kernel) fr_11_19 lq_0 (congrArg Prod.fst sh_0) (fv_ref pf_0_1) (pn 15 rfl ?_)
    refine s_iload_n (i := 2) (by decide +kernel) rfl (pn 16 rfl ?_)
    refine s_callvI [.int x2] rfl (by decide +kernel) mv_11_149 np_31 (Nat.le_of_ble_eq_true rfl) lq_15 ((congrArg Prod.fst sh_15).trans oc_31) (cI_use h (fun r2 s2 M2 h => (pn 19 rfl ?_)))
    have k1 : ∀ (z1 : Int32) (z1e : z1 = ((if r2 = 0 then 0 else (if x1 = x2 then 0 else 1)) : Int32)), wG_canChoose d 32 [.ref 0, .int x1, .int x2] [.int z1] s2 M2 Q := by
      intro z1 z1e
      subst z1e
      exact s_ireturn (st := []) (by decide +kernel) (Or.inr ⟨rfl, (or01 (Or.inl rfl) (or01 (Or.inl rfl) (Or.inr rfl)))⟩) ⟨_, rfl, s2, rfl, h⟩
    refine s_if_eq (off := 12) (tgt := 31) (by decide +kernel) rfl (fun c2 => ?_) (fun c2 => (pn 22 rfl ?_))
    · refine t_iconst (by decide +kernel) ki_0 (pn 32 rfl ?_)
      exact k1 _ (by simp only [if_pos c2])
    · refine s_iload_n (i := 1) (by decide +kernel) rfl (pn 23 rfl ?_)
      refine s_iload_n (i := 2) (by decide +kernel) rfl (pn 24 rfl ?_)
      refine s_icmp_eq (off := 7) (tgt := 31) (by decide +kernel) rfl (fun c3 => ?_) (fun c3 => (pn 27 rfl ?_))
      · refine t_iconst (by decide +kernel) ki_0 (pn 32 rfl ?_)
        exact k1 _ (by simp only [if_neg c2, if_pos c3])
      · refine t_iconst (by decide +kernel) ki_1 (pn 28 rfl ?_)
        refine s_goto (off := 4) (tgt := 32) (by decide +kernel) rfl ?_
        exact k1 _ (by simp only [if_neg c2, if_neg c3])
abbrev wG_picks (d pc : Nat) (ls st : List Value) (s : pm_S) (M : pm_M) (Q : Int32 → pm_S → pm_M → Prop) : Prop := wI d prog_1_method_39_code 11 (some .int) false pc ls st s M Q
theorem enG_picks {d : Nat} {s : pm_S} {M : pm_M} {x1 : Int32} {x2 : Int32} {x3 : Int32} {Q : Int32 → pm_S → pm_M → Prop}  (h : cI d yG_canChoose [.ref 0, .int x1, .int x2] s M (fun r1 s1 M1 => ((r1 = 0 → Q (-2) s1 M1) ∧ (¬ (r1 = 0) → cI d yL_hasSet [.ref 15, .int x3] s1 M1 (fun r2 s2 M2 => ((r2 = 0 → Q (-3) s2 M2) ∧ (¬ (r2 = 0) → cV d yK_gather [.ref 41, .ref 15, .ref 27] s2 M2 (fun s3 M3 => cV d yH_playOut [.ref 52, .ref 41, .int x1, .int x2, .int x3] s3 M3 (fun s4 M4 => wG_picks d 58 [.ref 0, .int x1, .null, .int x3, .int 0] [] s4 M4 Q))))))))) : cI (d + 1) yG_picks [.ref 0, .int x1, .int x2, .int x3] s M Q := by
  refine pm_toI (by decide) (Nat.le_of_ble_eq_true rfl) ?_
  show wG_picks d 0 [.ref 0, .int x1, .int x2, .int x3, .null] [] s M Q
  refine s_aload_n (i := 0) (by decide +kernel) rfl (pn 1 rfl ?_)
  refine s_iload_n (i := 1) (by decide +kernel) rfl (pn 2 rfl ?_)
  refine s_iload_n (i := 2) (by decide +kernel) rfl (pn 3 rfl ?_)
  refine s_callvI [.int x1, .int x2] rfl (by decide +kernel) mv_11_380 np_173 (Nat.le_of_ble_eq_true rfl) lq_0 ((congrArg Prod.fst sh_0).trans oc_173) (cI_use h (fun r1 s1 M1 h => (pn 6 rfl ?_)))
  refine t_if_ne (off := 6) (tgt := 12) (by decide +kernel) rfl (fun c1 => ?_) (fun c1 => (pn 9 rfl ?_))
  · have h := h.2 c1
    refine s_aload_n (i := 0) (by decide +kernel) rfl (pn 13 rfl ?_)
    refine s_getfield (v := .ref 15) (by decide +kernel) fr_11_19 lq_0 (congrArg Prod.fst sh_0) (fv_ref pf_0_1) (pn 16 rfl ?_)
    refine s_iload_n (i := 3) (by decide +kernel) rfl (pn 17 rfl ?_)
    refine s_callvI [.int x3] rfl (by decide +kernel) mv_11_383 np_36 (Nat.le_of_ble_eq_true rfl) lq_15 ((congrArg Prod.fst sh_15).trans oc_36) (cI_use h (fun r2 s2 M2 h => (pn 20 rfl ?_)))
    refine t_if_ne (off := 6) (tgt := 26) (by decide +kernel) rfl (fun c2 => ?_) (fun c2 => (pn 23 rfl ?_))
    · have h := h.2 c2
      refine s_aload_n (i := 0) (by decide +kernel) rfl (pn 27 rfl ?_)
      refine s_getfield (v := .ref 41) (by decide +kernel) fr_11_53 lq_0 (congrArg Prod.fst sh_0) (fv_ref pf_0_11) (pn 30 rfl ?_)
      refine s_aload_n (i := 0) (by decide +kernel) rfl (pn 31 rfl ?_)
      refine s_getfield (v := .ref 15) (by decide +kernel) fr_11_19 lq_0 (congrArg Prod.fst sh_0) (fv_ref pf_0_1) (pn 34 rfl ?_)
      refine s_aload_n (i := 0) (by decide +kernel) rfl (pn 35 rfl ?_)
      refine s_getfield (v := .ref 27) (by decide +kernel) fr_11_26 lq_0 (congrArg Prod.fst sh_0) (fv_ref pf_0_2) (pn 38 rfl ?_)
      refine s_callvV [.ref 15, .ref 27] rfl (by decide +kernel) mv_11_272 np_1 (Nat.le_of_ble_eq_true rfl) lq_41 ((congrArg Prod.fst sh_41).trans oc_1) (cV_use h (fun s3 M3 h => (pn 41 rfl ?_)))
      refine s_aload_n (i := 0) (by decide +kernel) rfl (pn 42 rfl ?_)
      refine s_getfield (v := .ref 52) (by decide +kernel) fr_11_67 lq_0 (congrArg Prod.fst sh_0) (fv_ref pf_0_13) (pn 45 rfl ?_)
      refine s_aload_n (i := 0) (by decide +kernel) rfl (pn 46 rfl ?_)
      refine s_getfield (v := .ref 41) (by decide +kernel) fr_11_53 lq_0 (congrArg Prod.fst sh_0) (fv_ref pf_0_11) (pn 49 rfl ?_)
      refine s_iload_n (i := 1) (by decide +kernel) rfl (pn 50 rfl ?_)
      refine s_iload_n (i := 2) (by decide +kernel) rfl (pn 51 rfl ?_)
      refine s_iload_n (i := 3) (by decide +kernel) rfl (pn 52 rfl ?_)
      refine s_callvV [.ref 41, .int x1, .int x2, .int x3] rfl (by decide +kernel) mv_11_387 np_119 (Nat.le_of_ble_eq_true rfl) lq_52 ((congrArg Prod.fst sh_52).trans oc_119) (cV_use h (fun s4 M4 h => (pn 55 rfl ?_)))
      refine t_iconst (by decide +kernel) ki_0 (pn 56 rfl ?_)
      refine s_istore (i := 4) (by decide +kernel) (Nat.le_of_ble_eq_true rfl) (pn 58 rfl (t_store (ls' := [.ref 0, .int x1, .int x2, .int x3, .int 0]) rfl ?_))
      exact pm_weak [.ref 0, .int x1, .null, .int x3, .int 0] (pm_le_cons (Or.inr rfl) (pm_le_cons (Or.inr rfl) (pm_le_cons (Or.inl rfl) (pm_le_cons (Or.inr rfl) (pm_le_cons (Or.inr rfl) pm_le_nil))))) h
    · have h := h.1 c2
      refine t_bipush (by decide +kernel) kb_m3 (pn 25 rfl ?_)
      exact s_ireturn (st := []) (by decide +kernel) (Or.inl rfl) ⟨_, rfl, s2, rfl, h⟩
  · have h := h.1 c1
    refine t_bipush (by decide +kernel) kb_m2 (pn 11 rfl ?_)
    exact s_ireturn (st := []) (by decide +kernel) (Or.inl rfl) ⟨_, rfl, s1, rfl, h⟩
theorem sgG_picks_58 {d : Nat} {s : pm_S} {M : pm_M} {l1 : Int32} {l3 : Int32} {l4 : Int32} {Q : Int32 → pm_S → pm_M → Prop}  (h : ((((M.1 15 1) ≤ l4) → Q (-1) s M) ∧ (¬ ((M.1 15 1) ≤ l4) → ((((l3 >>> (l4 &&& 31)) &&& 1) = 1 → cI d yK_of [.ref 41, .int l1, .int l4] s M (fun r1 s1 M1 => vp_in (l3 ^^^ ((1 : Int32) <<< (l4 &&& 31))) 1792 ∧ vp_in l3 1792 ∧ (((r1 + (M1.1 53 (l3 ^^^ ((1 : Int32) <<< (l4 &&& 31))).toNatClampNeg)) = (M1.1 53 l3.toNatClampNeg) → Q l4 s1 M1) ∧ (¬ ((r1 + (M1.1 53 (l3 ^^^ ((1 : Int32) <<< (l4 &&& 31))).toNatClampNeg)) = (M1.1 53 l3.toNatClampNeg)) → wG_picks d 58 [.ref 0, .int l1, .null, .int l3, .int (l4 + 1)] [] s1 M1 Q)))) ∧ (¬ (((l3 >>> (l4 &&& 31)) &&& 1) = 1) → wG_picks d 58 [.ref 0, .int l1, .null, .int l3, .int (l4 + 1)] [] s M Q))))) : wG_picks d 58 [.ref 0, .int l1, .null, .int l3, .int l4] [] s M Q := by
  refine s_iload (i := 4) (by decide +kernel) rfl (pn 60 rfl ?_)
  refine s_aload_n (i := 0) (by decide +kernel) rfl (pn 61 rfl ?_)
  refine s_getfield (v := .ref 15) (by decide +kernel) fr_11_19 lq_0 (congrArg Prod.fst sh_0) (fv_ref pf_0_1) (pn 64 rfl ?_)
  refine s_getfield (v := .int (M.1 15 1)) (by decide +kernel) fr_11_327 lq_15 (congrArg Prod.fst sh_15) rfl (pn 67 rfl ?_)
  refine s_icmp_ge (off := 59) (tgt := 126) (by decide +kernel) rfl (fun c1 => ?_) (fun c1 => (pn 70 rfl ?_))
  · have h := h.1 c1
    refine t_iconst (by decide +kernel) ki_m1 (pn 127 rfl ?_)
    exact s_ireturn (st := []) (by decide +kernel) (Or.inl rfl) ⟨_, rfl, s, rfl, h⟩
  · have h := h.2 c1
    refine s_iload_n (i := 3) (by decide +kernel) rfl (pn 71 rfl ?_)
    refine s_iload (i := 4) (by decide +kernel) rfl (pn 73 rfl ?_)
    refine s_ishr (by decide +kernel) (pn 74 rfl ?_)
    refine t_iconst (by decide +kernel) ki_1 (pn 75 rfl ?_)
    refine s_iand (by decide +kernel) (pn 76 rfl ?_)
    refine t_iconst (by decide +kernel) ki_1 (pn 77 rfl ?_)
    refine t_icmp_ne (off := 43) (tgt := 120) (by decide +kernel) rfl (fun c2 => ?_) (fun c2 => (pn 80 rfl ?_))
    · have h := h.2 c2
      refine t_iinc (i := 4) (n := 1) (ls' := [.ref 0, .int l1, .null, .int l3, .int (l4 + 1)]) (by decide +kernel) rfl (Nat.le_of_ble_eq_true rfl) kn_1 rfl (pn 123 rfl ?_)
      refine s_goto (off := -65) (tgt := 58) (by decide +kernel) rfl ?_
      exact h
    · have h := h.1 c2
      refine s_aload_n (i := 0) (by decide +kernel) rfl (pn 81 rfl ?_)
      refine s_getfield (v := .ref 41) (by decide +kernel) fr_11_53 lq_0 (congrArg Prod.fst sh_0) (fv_ref pf_0_11) (pn 84 rfl ?_)
      refine s_iload_n (i := 1) (by decide +kernel) rfl (pn 85 rfl ?_)
      refine s_iload (i := 4) (by decide +kernel) rfl (pn 87 rfl ?_)
      refine s_callvI [.int l1, .int l4] rfl (by decide +kernel) mv_11_336 np_2 (Nat.le_of_ble_eq_true rfl) lq_41 ((congrArg Prod.fst sh_41).trans oc_2) (cI_use h (fun r1 s1 M1 h => (pn 90 rfl ?_)))
      refine s_aload_n (i := 0) (by decide +kernel) rfl (pn 91 rfl ?_)
      refine s_getfield (v := .ref 52) (by decide +kernel) fr_11_67 lq_0 (congrArg Prod.fst sh_0) (fv_ref pf_0_13) (pn 94 rfl ?_)
      refine s_getfield (v := .ref 53) (by decide +kernel) fr_11_313 lq_52 (congrArg Prod.fst sh_52) (fv_ref pf_52_0) (pn 97 rfl ?_)
      refine s_iload_n (i := 3) (by decide +kernel) rfl (pn 98 rfl ?_)
      refine t_iconst (by decide +kernel) ki_1 (pn 99 rfl ?_)
      refine s_iload (i := 4) (by decide +kernel) rfl (pn 101 rfl ?_)
      refine s_ishl (by decide +kernel) (pn 102 rfl ?_)
      refine s_ixor (by decide +kernel) (pn 103 rfl ?_)
      obtain ⟨b1, h⟩ := h
      refine t_iaload (v := M1.1 53 (l3 ^^^ ((1 : Int32) <<< (l4 &&& 31))).toNatClampNeg) (by decide +kernel) ⟨Or.inl lq_53, congrArg Prod.fst sh_53⟩ (al_in sh_53 b1) rfl (pn 104 rfl ?_)
      refine s_iadd (by decide +kernel) (pn 105 rfl ?_)
      refine s_aload_n (i := 0) (by decide +kernel) rfl (pn 106 rfl ?_)
      refine s_getfield (v := .ref 52) (by decide +kernel) fr_11_67 lq_0 (congrArg Prod.fst sh_0) (fv_ref pf_0_13) (pn 109 rfl ?_)
      refine s_getfield (v := .ref 53) (by decide +kernel) fr_11_313 lq_52 (congrArg Prod.fst sh_52) (fv_ref pf_52_0) (pn 112 rfl ?_)
      refine s_iload_n (i := 3) (by decide +kernel) rfl (pn 113 rfl ?_)
      obtain ⟨b2, h⟩ := h
      refine t_iaload (v := M1.1 53 l3.toNatClampNeg) (by decide +kernel) ⟨Or.inl lq_53, congrArg Prod.fst sh_53⟩ (al_in sh_53 b2) rfl (pn 114 rfl ?_)
      refine t_icmp_ne (off := 6) (tgt := 120) (by decide +kernel) rfl (fun c3 => ?_) (fun c3 => (pn 117 rfl ?_))
      · have h := h.2 c3
        refine t_iinc (i := 4) (n := 1) (ls' := [.ref 0, .int l1, .null, .int l3, .int (l4 + 1)]) (by decide +kernel) rfl (Nat.le_of_ble_eq_true rfl) kn_1 rfl (pn 123 rfl ?_)
        refine s_goto (off := -65) (tgt := 58) (by decide +kernel) rfl ?_
        exact h
      · have h := h.1 c3
        refine s_iload (i := 4) (by decide +kernel) rfl (pn 119 rfl ?_)
        exact s_ireturn (st := []) (by decide +kernel) (Or.inl rfl) ⟨_, rfl, s1, rfl, h⟩
abbrev wG_chance (d pc : Nat) (ls st : List Value) (s : pm_S) (M : pm_M) (Q : Int64 → pm_S → pm_M → Prop) : Prop := wL d prog_1_method_40_code 11 (some .long) false pc ls st s M Q
theorem enG_chance {d : Nat} {s : pm_S} {M : pm_M} {x1 : Int32} {x2 : Int32} {x3 : Int32} {Q : Int64 → pm_S → pm_M → Prop}  (h : (((x3 < 0) → Q (-2) s M) ∧ (¬ (x3 < 0) → (((x3 ≤ 1) → cI d yG_chanceCode [.ref 0, .int x1, .int x2] s M (fun r1 s1 M1 => (((r1 = 0) → vp_in x1 4 ∧ ∀ o1 : Nat, o1 = 117 + 2 * x1.toNatClampNeg → isY o1 → cV d yO_spread [.ref 64, .ref 15, .ref 27, .ref o1, .int x2] s1 M1 (fun s2 M2 => vp_in x2 6 ∧ cL d yO_waysUpTo [.ref 64, .int (M2.1 22 x2.toNatClampNeg)] s2 M2 (fun r2 s3 M3 => cL d yO_commonDivisor [.long r2, .long (M3.2 64 0)] s3 M3 (fun r3 s4 M4 => (((1 ≤ r3) → ((x3 = 0 → (¬ r3 = 0) ∧ Q (r2 / r3) s4 M4) ∧ (¬ (x3 = 0) → (¬ r3 = 0) ∧ Q ((M4.2 64 0) / r3) s4 M4))) ∧ (¬ (1 ≤ r3) → Q 0 s4 M4)))))) ∧ (¬ (r1 = 0) → Q (r1.toInt64) s1 M1)))) ∧ (¬ (x3 ≤ 1) → Q (-2) s M))))) : cL (d + 1) yG_chance [.ref 0, .int x1, .int x2, .int x3] s M Q := by
  refine pm_toL (by decide) (Nat.le_of_ble_eq_true rfl) ?_
  show wG_chance d 0 [.ref 0, .int x1, .int x2, .int x3, .null, .null, .null, .null, .null] [] s M Q
  refine s_iload_n (i := 3) (by decide +kernel) rfl (pn 1 rfl ?_)
  refine s_if_lt (off := 8) (tgt := 9) (by decide +kernel) rfl (fun c1 => ?_) (fun c1 => (pn 4 rfl ?_))
  · have h := h.1 c1
    refine s_ldc2_w (by decide +kernel) kl_11_391 (pn 12 rfl ?_)
    exact s_lreturn (st := []) (by decide +kernel) rfl ⟨_, rfl, s, rfl, h⟩
  · have h := h.2 c1
    refine s_iload_n (i := 3) (by decide +kernel) rfl (pn 5 rfl ?_)
    refine t_iconst (by decide +kernel) ki_1 (pn 6 rfl ?_)
    refine s_icmp_le (off := 7) (tgt := 13) (by decide +kernel) rfl (fun c2 => ?_) (fun c2 => (pn 9 rfl ?_))
    · have h := h.1 c2
      refine s_aload_n (i := 0) (by decide +kernel) rfl (pn 14 rfl ?_)
      refine s_iload_n (i := 1) (by decide +kernel) rfl (pn 15 rfl ?_)
      refine s_iload_n (i := 2) (by decide +kernel) rfl (pn 16 rfl ?_)
      refine s_callvI [.int x1, .int x2] rfl (by decide +kernel) mv_11_393 np_176 (Nat.le_of_ble_eq_true rfl) lq_0 ((congrArg Prod.fst sh_0).trans oc_176) (cI_use h (fun r1 s1 M1 h => (pn 19 rfl ?_)))
      refine s_istore (i := 4) (by decide +kernel) (Nat.le_of_ble_eq_true rfl) (pn 21 rfl (t_store (ls' := [.ref 0, .int x1, .int x2, .int x3, .int r1, .null, .null, .null, .null]) rfl ?_))
      refine s_iload (i := 4) (by decide +kernel) rfl (pn 23 rfl ?_)
      refine s_if_eq (off := 7) (tgt := 30) (by decide +kernel) rfl (fun c3 => ?_) (fun c3 => (pn 26 rfl ?_))
      · have h := h.1 c3
        refine s_aload_n (i := 0) (by decide +kernel) rfl (pn 31 rfl ?_)
        refine s_getfield (v := .ref 64) (by decide +kernel) fr_11_88 lq_0 (congrArg Prod.fst sh_0) (fv_ref pf_0_16) (pn 34 rfl ?_)
        refine s_aload_n (i := 0) (by decide +kernel) rfl (pn 35 rfl ?_)
        refine s_getfield (v := .ref 15) (by decide +kernel) fr_11_19 lq_0 (congrArg Prod.fst sh_0) (fv_ref pf_0_1) (pn 38 rfl ?_)
        refine s_aload_n (i := 0) (by decide +kernel) rfl (pn 39 rfl ?_)
        refine s_getfield (v := .ref 27) (by decide +kernel) fr_11_26 lq_0 (congrArg Prod.fst sh_0) (fv_ref pf_0_2) (pn 42 rfl ?_)
        refine s_aload_n (i := 0) (by decide +kernel) rfl (pn 43 rfl ?_)
        refine s_getfield (v := .ref 38) (by decide +kernel) fr_11_39 lq_0 (congrArg Prod.fst sh_0) (fv_ref pf_0_7) (pn 46 rfl ?_)
        refine s_iload_n (i := 1) (by decide +kernel) rfl (pn 47 rfl ?_)
        obtain ⟨b1, h⟩ := h
        obtain ⟨o1, eo1, ho1⟩ : ∃ zz : Nat, zz = 117 + 2 * x1.toNatClampNeg ∧ isY zz := ⟨_, rfl, pq_38 (vp_nat b1)⟩
        refine t_aaload (x := o1) (by decide +kernel) ⟨lq_38, by rw [sh_38]; decide, by rw [sh_38]; decide⟩ (al_in sh_38 b1) (by rw [eo1]; exact pa_38 (vp_nat b1)) (pn 48 rfl ?_)
        have h := h o1 eo1 ho1
        refine s_iload_n (i := 2) (by decide +kernel) rfl (pn 49 rfl ?_)
        refine s_callvV [.ref 15, .ref 27, .ref o1, .int x2] rfl (by decide +kernel) mv_11_396 np_38 (Nat.le_of_ble_eq_true rfl) lq_64 ((congrArg Prod.fst sh_64).trans oc_38) (cV_use h (fun s2 M2 h => (pn 52 rfl ?_)))
        refine s_aload_n (i := 0) (by decide +kernel) rfl (pn 53 rfl ?_)
        refine s_getfield (v := .ref 64) (by decide +kernel) fr_11_88 lq_0 (congrArg Prod.fst sh_0) (fv_ref pf_0_16) (pn 56 rfl ?_)
        refine s_aload_n (i := 0) (by decide +kernel) rfl (pn 57 rfl ?_)
        refine s_getfield (v := .ref 15) (by decide +kernel) fr_11_19 lq_0 (congrArg Prod.fst sh_0) (fv_ref pf_0_1) (pn 60 rfl ?_)
        refine s_getfield (v := .ref 22) (by decide +kernel) fr_11_158 lq_15 (congrArg Prod.fst sh_15) (fv_ref pf_15_11) (pn 63 rfl ?_)
        refine s_iload_n (i := 2) (by decide +kernel) rfl (pn 64 rfl ?_)
        obtain ⟨b2, h⟩ := h
        refine t_iaload (v := M2.1 22 x2.toNatClampNeg) (by decide +kernel) ⟨Or.inl lq_22, congrArg Prod.fst sh_22⟩ (al_in sh_22 b2) rfl (pn 65 rfl ?_)
        refine s_callvL [.int (M2.1 22 x2.toNatClampNeg)] rfl (by decide +kernel) mv_11_400 np_40 (Nat.le_of_ble_eq_true rfl) lq_64 ((congrArg Prod.fst sh_64).trans oc_40) (cL_use h (fun r2 s3 M3 h => (pn 68 rfl ?_)))
        refine s_lstore (i := 5) (by decide +kernel) (Nat.le_of_ble_eq_true rfl) (pn 70 rfl (t_store (ls' := [.ref 0, .int x1, .int x2, .int x3, .int r1, .long r2, .null, .null, .null]) rfl ?_))
        refine s_lload (i := 5) (by decide +kernel) rfl (pn 72 rfl ?_)
        refine s_aload_n (i := 0) (by decide +kernel) rfl (pn 73 rfl ?_)
        refine s_getfield (v := .ref 64) (by decide +kernel) fr_11_88 lq_0 (congrArg Prod.fst sh_0) (fv_ref pf_0_16) (pn 76 rfl ?_)
        refine s_getfield (v := .long (M3.2 64 0)) (by decide +kernel) fr_11_404 lq_64 (congrArg Prod.fst sh_64) rfl (pn 79 rfl ?_)
        refine s_callsL [.long r2, .long (M3.2 64 0)] rfl (by decide +kernel) ms_11_408 np_41 (Nat.le_of_ble_eq_true rfl) (cL_use h (fun r3 s4 M4 h => (pn 82 rfl ?_)))
        refine s_lstore (i := 7) (by decide +kernel) (Nat.le_of_ble_eq_true rfl) (pn 84 rfl (t_store (ls' := [.ref 0, .int x1, .int x2, .int x3, .int r1, .long r2, .null, .long r3, .null]) rfl ?_))
        refine s_lload (i := 7) (by decide +kernel) rfl (pn 86 rfl ?_)
        refine t_lconst (n := 1) (v := 1) (by decide +kernel) rfl (pn 87 rfl ?_)
        refine t_lc_ge (off := 5) (tgt := 93) (by decide +kernel) (by decide +kernel) rfl (fun c4 => ?_) (fun c4 => (pn 91 rfl ?_))
        · have h := h.1 c4
          refine s_iload_n (i := 3) (by decide +kernel) rfl (pn 94 rfl ?_)
          refine t_if_ne (off := 11) (tgt := 105) (by decide +kernel) rfl (fun c5 => ?_) (fun c5 => (pn 97 rfl ?_))
          · have h := h.2 c5
            refine s_aload_n (i := 0) (by decide +kernel) rfl (pn 106 rfl ?_)
            refine s_getfield (v := .ref 64) (by decide +kernel) fr_11_88 lq_0 (congrArg Prod.fst sh_0) (fv_ref pf_0_16) (pn 109 rfl ?_)
            refine s_getfield (v := .long (M4.2 64 0)) (by decide +kernel) fr_11_404 lq_64 (congrArg Prod.fst sh_64) rfl (pn 112 rfl ?_)
            refine s_lload (i := 7) (by decide +kernel) rfl (pn 114 rfl ?_)
            obtain ⟨b3, h⟩ := h
            refine s_ldiv (by decide +kernel) b3 (pn 115 rfl ?_)
            exact s_lreturn (st := []) (by decide +kernel) rfl ⟨_, rfl, s4, rfl, h⟩
          · have h := h.1 c5
            refine s_lload (i := 5) (by decide +kernel) rfl (pn 99 rfl ?_)
            refine s_lload (i := 7) (by decide +kernel) rfl (pn 101 rfl ?_)
            obtain ⟨b4, h⟩ := h
            refine s_ldiv (by decide +kernel) b4 (pn 102 rfl ?_)
            refine s_goto (off := 13) (tgt := 115) (by decide +kernel) rfl ?_
            exact s_lreturn (st := []) (by decide +kernel) rfl ⟨_, rfl, s4, rfl, h⟩
        · have h := h.2 c4
          refine t_lconst (n := 0) (v := 0) (by decide +kernel) rfl (pn 92 rfl ?_)
          exact s_lreturn (st := []) (by decide +kernel) rfl ⟨_, rfl, s4, rfl, h⟩
      · have h := h.2 c3
        refine s_iload (i := 4) (by decide +kernel) rfl (pn 28 rfl ?_)
        refine s_i2l (by decide +kernel) (pn 29 rfl ?_)
        exact s_lreturn (st := []) (by decide +kernel) rfl ⟨_, rfl, s1, rfl, h⟩
    · have h := h.2 c2
      refine s_ldc2_w (by decide +kernel) kl_11_391 (pn 12 rfl ?_)
      exact s_lreturn (st := []) (by decide +kernel) rfl ⟨_, rfl, s, rfl, h⟩
abbrev wG_chanceCode (d pc : Nat) (ls st : List Value) (s : pm_S) (M : pm_M) (Q : Int32 → pm_S → pm_M → Prop) : Prop := wI d prog_1_method_60_code 11 (some .int) false pc ls st s M Q
theorem enG_chanceCode {d : Nat} {s : pm_S} {M : pm_M} {x1 : Int32} {x2 : Int32} {Q : Int32 → pm_S → pm_M → Prop}  (h : cI d yG_hasTray [.ref 0, .int x1] s M (fun r1 s1 M1 => (((r1 = 0) → Q (-2) s1 M1) ∧ (¬ (r1 = 0) → cI d yL_hasPerson [.ref 15, .int x2] s1 M1 (fun r2 s2 M2 => ((r2 = 0 → Q (-2) s2 M2) ∧ (¬ (r2 = 0) → vp_in x1 4 ∧ ∀ o1 : Nat, o1 = 117 + 2 * x1.toNatClampNeg → isY o1 → cI d yY_codeForNumbers [.ref o1, .int 10, .int (M2.1 15 1)] s2 M2 (fun r3 s3 M3 => Q r3 s3 M3)))))))) : cI (d + 1) yG_chanceCode [.ref 0, .int x1, .int x2] s M Q := by
  refine pm_toI (by decide) (Nat.le_of_ble_eq_true rfl) ?_
  show wG_chanceCode d 0 [.ref 0, .int x1, .int x2] [] s M Q
  refine s_aload_n (i := 0) (by decide +kernel) rfl (pn 1 rfl ?_)
  refine s_iload_n (i := 1) (by decide +kernel) rfl (pn 2 rfl ?_)
  refine s_callvI [.int x1] rfl (by decide +kernel) mv_11_240 np_141 (Nat.le_of_ble_eq_true rfl) lq_0 ((congrArg Prod.fst sh_0).trans oc_141) (cI_use h (fun r1 s1 M1 h => (pn 5 rfl ?_)))
  refine s_if_eq (off := 14) (tgt := 19) (by decide +kernel) rfl (fun c1 => ?_) (fun c1 => (pn 8 rfl ?_))
  · have h := h.1 c1
    refine t_bipush (by decide +kernel) kb_m2 (pn 21 rfl ?_)
    exact s_ireturn (st := []) (by decide +kernel) (Or.inl rfl) ⟨_, rfl, s1, rfl, h⟩
  · have h := h.2 c1
    refine s_aload_n (i := 0) (by decide +kernel) rfl (pn 9 rfl ?_)
    refine s_getfield (v := .ref 15) (by decide +kernel) fr_11_19 lq_0 (congrArg Prod.fst sh_0) (fv_ref pf_0_1) (pn 12 rfl ?_)
    refine s_iload_n (i := 2) (by decide +kernel) rfl (pn 13 rfl ?_)
    refine s_callvI [.int x2] rfl (by decide +kernel) mv_11_149 np_31 (Nat.le_of_ble_eq_true rfl) lq_15 ((congrArg Prod.fst sh_15).trans oc_31) (cI_use h (fun r2 s2 M2 h => (pn 16 rfl ?_)))
    refine t_if_ne (off := 6) (tgt := 22) (by decide +kernel) rfl (fun c2 => ?_) (fun c2 => (pn 19 rfl ?_))
    · have h := h.2 c2
      refine s_aload_n (i := 0) (by decide +kernel) rfl (pn 23 rfl ?_)
      refine s_getfield (v := .ref 38) (by decide +kernel) fr_11_39 lq_0 (congrArg Prod.fst sh_0) (fv_ref pf_0_7) (pn 26 rfl ?_)
      refine s_iload_n (i := 1) (by decide +kernel) rfl (pn 27 rfl ?_)
      obtain ⟨b1, h⟩ := h
      obtain ⟨o1, eo1, ho1⟩ : ∃ zz : Nat, zz = 117 + 2 * x1.toNatClampNeg ∧ isY zz := ⟨_, rfl, pq_38 (vp_nat b1)⟩
      refine t_aaload (x := o1) (by decide +kernel) ⟨lq_38, by rw [sh_38]; decide, by rw [sh_38]; decide⟩ (al_in sh_38 b1) (by rw [eo1]; exact pa_38 (vp_nat b1)) (pn 28 rfl ?_)
      have h := h o1 eo1 ho1
      refine t_bipush (by decide +kernel) kb_10 (pn 30 rfl ?_)
      refine s_aload_n (i := 0) (by decide +kernel) rfl (pn 31 rfl ?_)
      refine s_getfield (v := .ref 15) (by decide +kernel) fr_11_19 lq_0 (congrArg Prod.fst sh_0) (fv_ref pf_0_1) (pn 34 rfl ?_)
      refine s_getfield (v := .int (M2.1 15 1)) (by decide +kernel) fr_11_327 lq_15 (congrArg Prod.fst sh_15) rfl (pn 37 rfl ?_)
      refine s_callvI [.int 10, .int (M2.1 15 1)] rfl (by decide +kernel) mv_11_451 np_110 (Nat.le_of_ble_eq_true rfl) (ltY_0 ho1) ((congrArg Prod.fst (shY_0 ho1)).trans oc_110) (cI_use h (fun r3 s3 M3 h => (pn 40 rfl ?_)))
      exact s_ireturn (st := []) (by decide +kernel) (Or.inl rfl) ⟨_, rfl, s3, rfl, h⟩
    · have h := h.1 c2
      refine t_bipush (by decide +kernel) kb_m2 (pn 21 rfl ?_)
      exact s_ireturn (st := []) (by decide +kernel) (Or.inl rfl) ⟨_, rfl, s2, rfl, h⟩
abbrev wG_bearing (d pc : Nat) (ls st : List Value) (s : pm_S) (M : pm_M) (Q : Int32 → pm_S → pm_M → Prop) : Prop := wI d prog_1_method_41_code 11 (some .int) false pc ls st s M Q
theorem enG_bearing {d : Nat} {s : pm_S} {M : pm_M} {x1 : Int32} {x2 : Int32} {x3 : Int32} {Q : Int32 → pm_S → pm_M → Prop}  (h : cI d yG_chanceCode [.ref 0, .int x1, .int x2] s M (fun r1 s1 M1 => (((r1 = 0) → (((x3 < 0) → Q (-3) s1 M1) ∧ (¬ (x3 < 0) → (((x3 ≤ 100) → vp_in x1 4 ∧ ∀ o1 : Nat, o1 = 117 + 2 * x1.toNatClampNeg → isY o1 → cV d yO_spread [.ref 64, .ref 15, .ref 27, .ref o1, .int x2] s1 M1 (fun s2 M2 => cI d yO_leastFor [.ref 64, .int x3] s2 M2 (fun r2 s3 M3 => Q r2 s3 M3))) ∧ (¬ (x3 ≤ 100) → Q (-3) s1 M1))))) ∧ (¬ (r1 = 0) → Q r1 s1 M1)))) : cI (d + 1) yG_bearing [.ref 0, .int x1, .int x2, .int x3] s M Q := by
  refine pm_toI (by decide) (Nat.le_of_ble_eq_true rfl) ?_
  show wG_bearing d 0 [.ref 0, .int x1, .int x2, .int x3, .null] [] s M Q
  refine s_aload_n (i := 0) (by decide +kernel) rfl (pn 1 rfl ?_)
  refine s_iload_n (i := 1) (by decide +kernel) rfl (pn 2 rfl ?_)
  refine s_iload_n (i := 2) (by decide +kernel) rfl (pn 3 rfl ?_)
  refine s_callvI [.int x1, .int x2] rfl (by decide +kernel) mv_11_393 np_176 (Nat.le_of_ble_eq_true rfl) lq_0 ((congrArg Prod.fst sh_0).trans oc_176) (cI_use h (fun r1 s1 M1 h => (pn 6 rfl ?_)))
  refine s_istore (i := 4) (by decide +kernel) (Nat.le_of_ble_eq_true rfl) (pn 8 rfl (t_store (ls' := [.ref 0, .int x1, .int x2, .int x3, .int r1]) rfl ?_))
  refine s_iload (i := 4) (by decide +kernel) rfl (pn 10 rfl ?_)
  refine s_if_eq (off := 6) (tgt := 16) (by decide +kernel) rfl (fun c1 => ?_) (fun c1 => (pn 13 rfl ?_))
  · have h := h.1 c1
    refine s_iload_n (i := 3) (by decide +kernel) rfl (pn 17 rfl ?_)
    refine s_if_lt (off := 9) (tgt := 26) (by decide +kernel) rfl (fun c2 => ?_) (fun c2 => (pn 20 rfl ?_))
    · have h := h.1 c2
      refine t_bipush (by decide +kernel) kb_m3 (pn 28 rfl ?_)
      exact s_ireturn (st := []) (by decide +kernel) (Or.inl rfl) ⟨_, rfl, s1, rfl, h⟩
    · have h := h.2 c2
      refine s_iload_n (i := 3) (by decide +kernel) rfl (pn 21 rfl ?_)
      refine t_bipush (by decide +kernel) kb_100 (pn 23 rfl ?_)
      refine s_icmp_le (off := 6) (tgt := 29) (by decide +kernel) rfl (fun c3 => ?_) (fun c3 => (pn 26 rfl ?_))
      · have h := h.1 c3
        refine s_aload_n (i := 0) (by decide +kernel) rfl (pn 30 rfl ?_)
        refine s_getfield (v := .ref 64) (by decide +kernel) fr_11_88 lq_0 (congrArg Prod.fst sh_0) (fv_ref pf_0_16) (pn 33 rfl ?_)
        refine s_aload_n (i := 0) (by decide +kernel) rfl (pn 34 rfl ?_)
        refine s_getfield (v := .ref 15) (by decide +kernel) fr_11_19 lq_0 (congrArg Prod.fst sh_0) (fv_ref pf_0_1) (pn 37 rfl ?_)
        refine s_aload_n (i := 0) (by decide +kernel) rfl (pn 38 rfl ?_)
        refine s_getfield (v := .ref 27) (by decide +kernel) fr_11_26 lq_0 (congrArg Prod.fst sh_0) (fv_ref pf_0_2) (pn 41 rfl ?_)
        refine s_aload_n (i := 0) (by decide +kernel) rfl (pn 42 rfl ?_)
        refine s_getfield (v := .ref 38) (by decide +kernel) fr_11_39 lq_0 (congrArg Prod.fst sh_0) (fv_ref pf_0_7) (pn 45 rfl ?_)
        refine s_iload_n (i := 1) (by decide +kernel) rfl (pn 46 rfl ?_)
        obtain ⟨b1, h⟩ := h
        obtain ⟨o1, eo1, ho1⟩ : ∃ zz : Nat, zz = 117 + 2 * x1.toNatClampNeg ∧ isY zz := ⟨_, rfl, pq_38 (vp_nat b1)⟩
        refine t_aaload (x := o1) (by decide +kernel) ⟨lq_38, by rw [sh_38]; decide, by rw [sh_38]; decide⟩ (al_in sh_38 b1) (by rw [eo1]; exact pa_38 (vp_nat b1)) (pn 47 rfl ?_)
        have h := h o1 eo1 ho1
        refine s_iload_n (i := 2) (by decide +kernel) rfl (pn 48 rfl ?_)
        refine s_callvV [.ref 15, .ref 27, .ref o1, .int x2] rfl (by decide +kernel) mv_11_396 np_38 (Nat.le_of_ble_eq_true rfl) lq_64 ((congrArg Prod.fst sh_64).trans oc_38) (cV_use h (fun s2 M2 h => (pn 51 rfl ?_)))
        refine s_aload_n (i := 0) (by decide +kernel) rfl (pn 52 rfl ?_)
        refine s_getfield (v := .ref 64) (by decide +kernel) fr_11_88 lq_0 (congrArg Prod.fst sh_0) (fv_ref pf_0_16) (pn 55 rfl ?_)
        refine s_iload_n (i := 3) (by decide +kernel) rfl (pn 56 rfl ?_)
        refine s_callvI [.int x3] rfl (by decide +kernel) mv_11_412 np_42 (Nat.le_of_ble_eq_true rfl) lq_64 ((congrArg Prod.fst sh_64).trans oc_42) (cI_use h (fun r2 s3 M3 h => (pn 59 rfl ?_)))
        exact s_ireturn (st := []) (by decide +kernel) (Or.inl rfl) ⟨_, rfl, s3, rfl, h⟩
      · have h := h.2 c3
        refine t_bipush (by decide +kernel) kb_m3 (pn 28 rfl ?_)
        exact s_ireturn (st := []) (by decide +kernel) (Or.inl rfl) ⟨_, rfl, s1, rfl, h⟩
  · have h := h.2 c1
    refine s_iload (i := 4) (by decide +kernel) rfl (pn 15 rfl ?_)
    exact s_ireturn (st := []) (by decide +kernel) (Or.inl rfl) ⟨_, rfl, s1, rfl, h⟩
abbrev wG_numbers (d pc : Nat) (ls st : List Value) (s : pm_S) (M : pm_M) (Q : Int32 → pm_S → pm_M → Prop) : Prop := wI d prog_1_method_42_code 11 (some .int) false pc ls st s M Q
theorem enG_numbers {d : Nat} {s : pm_S} {M : pm_M} {x1 : Int32} {x2 : Int32} {x3 : Int32} {Q : Int32 → pm_S → pm_M → Prop}  (h : cI d yG_hasTray [.ref 0, .int x1] s M (fun r1 s1 M1 => (((r1 = 0) → Q (-2) s1 M1) ∧ (¬ (r1 = 0) → (((x2 < 0) → Q (-2) s1 M1) ∧ (¬ (x2 < 0) → (((x2 < 4) → (((x3 < 0) → Q (-3) s1 M1) ∧ (¬ (x3 < 0) → (((x3 ≤ 40) → vp_in x1 4 ∧ ∀ o1 : Nat, o1 = 117 + 2 * x1.toNatClampNeg → isY o1 → cV d yY_beginAnew [.ref o1, .int x2, .int x3] s1 M1 (fun s2 M2 => Q 0 s2 M2)) ∧ (¬ (x3 ≤ 40) → Q (-3) s1 M1))))) ∧ (¬ (x2 < 4) → Q (-2) s1 M1)))))))) : cI (d + 1) yG_numbers [.ref 0, .int x1, .int x2, .int x3] s M Q := by
  refine pm_toI (by decide) (Nat.le_of_ble_eq_true rfl) ?_
  show wG_numbers d 0 [.ref 0, .int x1, .int x2, .int x3] [] s M Q
  refine s_aload_n (i := 0) (by decide +kernel) rfl (pn 1 rfl ?_)
  refine s_iload_n (i := 1) (by decide +kernel) rfl (pn 2 rfl ?_)
  refine s_callvI [.int x1] rfl (by decide +kernel) mv_11_240 np_141 (Nat.le_of_ble_eq_true rfl) lq_0 ((congrArg Prod.fst sh_0).trans oc_141) (cI_use h (fun r1 s1 M1 h => (pn 5 rfl ?_)))
  refine s_if_eq (off := 12) (tgt := 17) (by decide +kernel) rfl (fun c1 => ?_) (fun c1 => (pn 8 rfl ?_))
  · have h := h.1 c1
    refine t_bipush (by decide +kernel) kb_m2 (pn 19 rfl ?_)
    exact s_ireturn (st := []) (by decide +kernel) (Or.inl rfl) ⟨_, rfl, s1, rfl, h⟩
  · have h := h.2 c1
    refine s_iload_n (i := 2) (by decide +kernel) rfl (pn 9 rfl ?_)
    refine s_if_lt (off := 8) (tgt := 17) (by decide +kernel) rfl (fun c2 => ?_) (fun c2 => (pn 12 rfl ?_))
    · have h := h.1 c2
      refine t_bipush (by decide +kernel) kb_m2 (pn 19 rfl ?_)
      exact s_ireturn (st := []) (by decide +kernel) (Or.inl rfl) ⟨_, rfl, s1, rfl, h⟩
    · have h := h.2 c2
      refine s_iload_n (i := 2) (by decide +kernel) rfl (pn 13 rfl ?_)
      refine t_iconst (by decide +kernel) ki_4 (pn 14 rfl ?_)
      refine s_icmp_lt (off := 6) (tgt := 20) (by decide +kernel) rfl (fun c3 => ?_) (fun c3 => (pn 17 rfl ?_))
      · have h := h.1 c3
        refine s_iload_n (i := 3) (by decide +kernel) rfl (pn 21 rfl ?_)
        refine s_if_lt (off := 9) (tgt := 30) (by decide +kernel) rfl (fun c4 => ?_) (fun c4 => (pn 24 rfl ?_))
        · have h := h.1 c4
          refine t_bipush (by decide +kernel) kb_m3 (pn 32 rfl ?_)
          exact s_ireturn (st := []) (by decide +kernel) (Or.inl rfl) ⟨_, rfl, s1, rfl, h⟩
        · have h := h.2 c4
          refine s_iload_n (i := 3) (by decide +kernel) rfl (pn 25 rfl ?_)
          refine t_bipush (by decide +kernel) kb_40 (pn 27 rfl ?_)
          refine s_icmp_le (off := 6) (tgt := 33) (by decide +kernel) rfl (fun c5 => ?_) (fun c5 => (pn 30 rfl ?_))
          · have h := h.1 c5
            refine s_aload_n (i := 0) (by decide +kernel) rfl (pn 34 rfl ?_)
            refine s_getfield (v := .ref 38) (by decide +kernel) fr_11_39 lq_0 (congrArg Prod.fst sh_0) (fv_ref pf_0_7) (pn 37 rfl ?_)
            refine s_iload_n (i := 1) (by decide +kernel) rfl (pn 38 rfl ?_)
            obtain ⟨b1, h⟩ := h
            obtain ⟨o1, eo1, ho1⟩ : ∃ zz : Nat, zz = 117 + 2 * x1.toNatClampNeg ∧ isY zz := ⟨_, rfl, pq_38 (vp_nat b1)⟩
            refine t_aaload (x := o1) (by decide +kernel) ⟨lq_38, by rw [sh_38]; decide, by rw [sh_38]; decide⟩ (al_in sh_38 b1) (by rw [eo1]; exact pa_38 (vp_nat b1)) (pn 39 rfl ?_)
            have h := h o1 eo1 ho1
            refine s_iload_n (i := 2) (by decide +kernel) rfl (pn 40 rfl ?_)
            refine s_iload_n (i := 3) (by decide +kernel) rfl (pn 41 rfl ?_)
            refine s_callvV [.int x2, .int x3] rfl (by decide +kernel) mv_11_415 np_111 (Nat.le_of_ble_eq_true rfl) (ltY_0 ho1) ((congrArg Prod.fst (shY_0 ho1)).trans oc_111) (cV_use h (fun s2 M2 h => (pn 44 rfl ?_)))
            refine t_iconst (by decide +kernel) ki_0 (pn 45 rfl ?_)
            exact s_ireturn (st := []) (by decide +kernel) (Or.inl rfl) ⟨_, rfl, s2, rfl, h⟩
          · have h := h.2 c5
            refine t_bipush (by decide +kernel) kb_m3 (pn 32 rfl ?_)
            exact s_ireturn (st := []) (by decide +kernel) (Or.inl rfl) ⟨_, rfl, s1, rfl, h⟩
      · have h := h.2 c3
        refine t_bipush (by decide +kernel) kb_m2 (pn 19 rfl ?_)
        exact s_ireturn (st := []) (by decide +kernel) (Or.inl rfl) ⟨_, rfl, s1, rfl, h⟩
abbrev wG_write (d pc : Nat) (ls st : List Value) (s : pm_S) (M : pm_M) (Q : Int64 → pm_S → pm_M → Prop) : Prop := wL d prog_1_method_43_code 11 (some .long) false pc ls st s M Q
theorem enG_write {d : Nat} {s : pm_S} {M : pm_M} {x1 : Int32} {x2 : Int32} {x3 : Int64} {Q : Int64 → pm_S → pm_M → Prop}  (h : cI d yG_trayCode [.ref 0, .int x1] s M (fun r1 s1 M1 => (((r1 = 0) → vp_in x1 4 ∧ ∀ o1 : Nat, o1 = 117 + 2 * x1.toNatClampNeg → isY o1 → cI d yY_hasPlace [.ref o1, .int x2] s1 M1 (fun r2 s2 M2 => ((r2 = 0 → Q (-7) s2 M2) ∧ (¬ (r2 = 0) → vp_in x1 4 ∧ ∀ o2 : Nat, o2 = 117 + 2 * x1.toNatClampNeg → isY o2 → cL d yY_put [.ref o2, .int x2, .long x3] s2 M2 (fun r3 s3 M3 => Q r3 s3 M3))))) ∧ (¬ (r1 = 0) → Q (r1.toInt64) s1 M1)))) : cL (d + 1) yG_write [.ref 0, .int x1, .int x2, .long x3] s M Q := by
  refine pm_toL (by decide) (Nat.le_of_ble_eq_true rfl) ?_
  show wG_write d 0 [.ref 0, .int x1, .int x2, .long x3, .null, .null] [] s M Q
  refine s_aload_n (i := 0) (by decide +kernel) rfl (pn 1 rfl ?_)
  refine s_iload_n (i := 1) (by decide +kernel) rfl (pn 2 rfl ?_)
  refine s_callvI [.int x1] rfl (by decide +kernel) mv_11_256 np_143 (Nat.le_of_ble_eq_true rfl) lq_0 ((congrArg Prod.fst sh_0).trans oc_143) (cI_use h (fun r1 s1 M1 h => (pn 5 rfl ?_)))
  refine s_istore (i := 5) (by decide +kernel) (Nat.le_of_ble_eq_true rfl) (pn 7 rfl (t_store (ls' := [.ref 0, .int x1, .int x2, .long x3, .null, .int r1]) rfl ?_))
  refine s_iload (i := 5) (by decide +kernel) rfl (pn 9 rfl ?_)
  refine s_if_eq (off := 7) (tgt := 16) (by decide +kernel) rfl (fun c1 => ?_) (fun c1 => (pn 12 rfl ?_))
  · have h := h.1 c1
    refine s_aload_n (i := 0) (by decide +kernel) rfl (pn 17 rfl ?_)
    refine s_getfield (v := .ref 38) (by decide +kernel) fr_11_39 lq_0 (congrArg Prod.fst sh_0) (fv_ref pf_0_7) (pn 20 rfl ?_)
    refine s_iload_n (i := 1) (by decide +kernel) rfl (pn 21 rfl ?_)
    obtain ⟨b1, h⟩ := h
    obtain ⟨o1, eo1, ho1⟩ : ∃ zz : Nat, zz = 117 + 2 * x1.toNatClampNeg ∧ isY zz := ⟨_, rfl, pq_38 (vp_nat b1)⟩
    refine t_aaload (x := o1) (by decide +kernel) ⟨lq_38, by rw [sh_38]; decide, by rw [sh_38]; decide⟩ (al_in sh_38 b1) (by rw [eo1]; exact pa_38 (vp_nat b1)) (pn 22 rfl ?_)
    have h := h o1 eo1 ho1
    refine s_iload_n (i := 2) (by decide +kernel) rfl (pn 23 rfl ?_)
    refine s_callvI [.int x2] rfl (by decide +kernel) mv_11_296 np_109 (Nat.le_of_ble_eq_true rfl) (ltY_0 ho1) ((congrArg Prod.fst (shY_0 ho1)).trans oc_109) (cI_use h (fun r2 s2 M2 h => (pn 26 rfl ?_)))
    refine t_if_ne (off := 7) (tgt := 33) (by decide +kernel) rfl (fun c2 => ?_) (fun c2 => (pn 29 rfl ?_))
    · have h := h.2 c2
      refine s_aload_n (i := 0) (by decide +kernel) rfl (pn 34 rfl ?_)
      refine s_getfield (v := .ref 38) (by decide +kernel) fr_11_39 lq_0 (congrArg Prod.fst sh_0) (fv_ref pf_0_7) (pn 37 rfl ?_)
      refine s_iload_n (i := 1) (by decide +kernel) rfl (pn 38 rfl ?_)
      obtain ⟨b2, h⟩ := h
      obtain ⟨o2, eo2, ho2⟩ : ∃ zz : Nat, zz = 117 + 2 * x1.toNatClampNeg ∧ isY zz := ⟨_, rfl, pq_38 (vp_nat b2)⟩
      refine t_aaload (x := o2) (by decide +kernel) ⟨lq_38, by rw [sh_38]; decide, by rw [sh_38]; decide⟩ (al_in sh_38 b2) (by rw [eo2]; exact pa_38 (vp_nat b2)) (pn 39 rfl ?_)
      have h := h o2 eo2 ho2
      refine s_iload_n (i := 2) (by decide +kernel) rfl (pn 40 rfl ?_)
      refine s_lload_n (i := 3) (by decide +kernel) rfl (pn 41 rfl ?_)
      refine s_callvL [.int x2, .long x3] rfl (by decide +kernel) mv_11_420 np_112 (Nat.le_of_ble_eq_true rfl) (ltY_0 ho2) ((congrArg Prod.fst (shY_0 ho2)).trans oc_112) (cL_use h (fun r3 s3 M3 h => (pn 44 rfl ?_)))
      exact s_lreturn (st := []) (by decide +kernel) rfl ⟨_, rfl, s3, rfl, h⟩
    · have h := h.1 c2
      refine s_ldc2_w (by decide +kernel) kl_11_418 (pn 32 rfl ?_)
      exact s_lreturn (st := []) (by decide +kernel) rfl ⟨_, rfl, s2, rfl, h⟩
  · have h := h.2 c1
    refine s_iload (i := 5) (by decide +kernel) rfl (pn 14 rfl ?_)
    refine s_i2l (by decide +kernel) (pn 15 rfl ?_)
    exact s_lreturn (st := []) (by decide +kernel) rfl ⟨_, rfl, s1, rfl, h⟩
abbrev wG_lists (d pc : Nat) (ls st : List Value) (s : pm_S) (M : pm_M) (Q : Int32 → pm_S → pm_M → Prop) : Prop := wI d prog_1_method_44_code 11 (some .int) false pc ls st s M Q
theorem enG_lists {d : Nat} {s : pm_S} {M : pm_M} {x1 : Int32} {x2 : Int32} {x3 : Int32} {Q : Int32 → pm_S → pm_M → Prop}  (h : cI d yG_hasTray [.ref 0, .int x1] s M (fun r1 s1 M1 => (((r1 = 0) → Q (-2) s1 M1) ∧ (¬ (r1 = 0) → cI d yL_hasPerson [.ref 15, .int x2] s1 M1 (fun r2 s2 M2 => ((r2 = 0 → Q (-2) s2 M2) ∧ (¬ (r2 = 0) → vp_in x1 4 ∧ ∀ o1 : Nat, o1 = 117 + 2 * x1.toNatClampNeg → isY o1 → cI d yY_isMissing [.ref o1] s2 M2 (fun r3 s3 M3 => (((r3 = 0) → cI d yL_hasSet [.ref 15, .int x3] s3 M3 (fun r4 s4 M4 => ((r4 = 0 → Q (-3) s4 M4) ∧ (¬ (r4 = 0) → cV d yN_begin [.ref 58, .ref 15, .ref 27, .int x2] s4 M4 (fun s5 M5 => cI d yN_findOrder [.ref 58, .int x3] s5 M5 (fun r5 s6 M6 => cI d yint_bitCount [.int x3] s6 M6 (fun r6 s7 M7 => (((r6 ≤ r5) → cI d ymath_min [.int r5, .int (M7.1 o1 2)] s7 M7 (fun r7 s8 M8 => wG_lists d 108 [.ref 0, .null, .null, .null, .ref o1, .null, .int r7, .int 0] [] s8 M8 Q)) ∧ (¬ (r6 ≤ r5) → Q (-5) s7 M7))))))))) ∧ (¬ (r3 = 0) → Q (-6) s3 M3)))))))))) : cI (d + 1) yG_lists [.ref 0, .int x1, .int x2, .int x3] s M Q := by
  refine pm_toI (by decide) (Nat.le_of_ble_eq_true rfl) ?_
  show wG_lists d 0 [.ref 0, .int x1, .int x2, .int x3, .null, .null, .null, .null] [] s M Q
  refine s_aload_n (i := 0) (by decide +kernel) rfl (pn 1 rfl ?_)
  refine s_iload_n (i := 1) (by decide +kernel) rfl (pn 2 rfl ?_)
  refine s_callvI [.int x1] rfl (by decide +kernel) mv_11_240 np_141 (Nat.le_of_ble_eq_true rfl) lq_0 ((congrArg Prod.fst sh_0).trans oc_141) (cI_use h (fun r1 s1 M1 h => (pn 5 rfl ?_)))
  refine s_if_eq (off := 14) (tgt := 19) (by decide +kernel) rfl (fun c1 => ?_) (fun c1 => (pn 8 rfl ?_))
  · have h := h.1 c1
    refine t_bipush (by decide +kernel) kb_m2 (pn 21 rfl ?_)
    exact s_ireturn (st := []) (by decide +kernel) (Or.inl rfl) ⟨_, rfl, s1, rfl, h⟩
  · have h := h.2 c1
    refine s_aload_n (i := 0) (by decide +kernel) rfl (pn 9 rfl ?_)
    refine s_getfield (v := .ref 15) (by decide +kernel) fr_11_19 lq_0 (congrArg Prod.fst sh_0) (fv_ref pf_0_1) (pn 12 rfl ?_)
    refine s_iload_n (i := 2) (by decide +kernel) rfl (pn 13 rfl ?_)
    refine s_callvI [.int x2] rfl (by decide +kernel) mv_11_149 np_31 (Nat.le_of_ble_eq_true rfl) lq_15 ((congrArg Prod.fst sh_15).trans oc_31) (cI_use h (fun r2 s2 M2 h => (pn 16 rfl ?_)))
    refine t_if_ne (off := 6) (tgt := 22) (by decide +kernel) rfl (fun c2 => ?_) (fun c2 => (pn 19 rfl ?_))
    · have h := h.2 c2
      refine s_aload_n (i := 0) (by decide +kernel) rfl (pn 23 rfl ?_)
      refine s_getfield (v := .ref 38) (by decide +kernel) fr_11_39 lq_0 (congrArg Prod.fst sh_0) (fv_ref pf_0_7) (pn 26 rfl ?_)
      refine s_iload_n (i := 1) (by decide +kernel) rfl (pn 27 rfl ?_)
      obtain ⟨b1, h⟩ := h
      obtain ⟨o1, eo1, ho1⟩ : ∃ zz : Nat, zz = 117 + 2 * x1.toNatClampNeg ∧ isY zz := ⟨_, rfl, pq_38 (vp_nat b1)⟩
      refine t_aaload (x := o1) (by decide +kernel) ⟨lq_38, by rw [sh_38]; decide, by rw [sh_38]; decide⟩ (al_in sh_38 b1) (by rw [eo1]; exact pa_38 (vp_nat b1)) (pn 28 rfl ?_)
      have h := h o1 eo1 ho1
      refine s_astore (i := 4) (by decide +kernel) (Nat.le_of_ble_eq_true rfl) (pn 30 rfl (t_store (ls' := [.ref 0, .int x1, .int x2, .int x3, .ref o1, .null, .null, .null]) rfl ?_))
      refine s_aload (i := 4) (by decide +kernel) rfl (pn 32 rfl ?_)
      refine s_callvI [] rfl (by decide +kernel) mv_11_243 np_107 (Nat.le_of_ble_eq_true rfl) (ltY_0 ho1) ((congrArg Prod.fst (shY_0 ho1)).trans oc_107) (cI_use h (fun r3 s3 M3 h => (pn 35 rfl ?_)))
      refine s_if_eq (off := 6) (tgt := 41) (by decide +kernel) rfl (fun c3 => ?_) (fun c3 => (pn 38 rfl ?_))
      · have h := h.1 c3
        refine s_aload_n (i := 0) (by decide +kernel) rfl (pn 42 rfl ?_)
        refine s_getfield (v := .ref 15) (by decide +kernel) fr_11_19 lq_0 (congrArg Prod.fst sh_0) (fv_ref pf_0_1) (pn 45 rfl ?_)
        refine s_iload_n (i := 3) (by decide +kernel) rfl (pn 46 rfl ?_)
        refine s_callvI [.int x3] rfl (by decide +kernel) mv_11_383 np_36 (Nat.le_of_ble_eq_true rfl) lq_15 ((congrArg Prod.fst sh_15).trans oc_36) (cI_use h (fun r4 s4 M4 h => (pn 49 rfl ?_)))
        refine t_if_ne (off := 6) (tgt := 55) (by decide +kernel) rfl (fun c4 => ?_) (fun c4 => (pn 52 rfl ?_))
        · have h := h.2 c4
          refine s_aload_n (i := 0) (by decide +kernel) rfl (pn 56 rfl ?_)
          refine s_getfield (v := .ref 58) (by decide +kernel) fr_11_81 lq_0 (congrArg Prod.fst sh_0) (fv_ref pf_0_15) (pn 59 rfl ?_)
          refine s_aload_n (i := 0) (by decide +kernel) rfl (pn 60 rfl ?_)
          refine s_getfield (v := .ref 15) (by decide +kernel) fr_11_19 lq_0 (congrArg Prod.fst sh_0) (fv_ref pf_0_1) (pn 63 rfl ?_)
          refine s_aload_n (i := 0) (by decide +kernel) rfl (pn 64 rfl ?_)
          refine s_getfield (v := .ref 27) (by decide +kernel) fr_11_26 lq_0 (congrArg Prod.fst sh_0) (fv_ref pf_0_2) (pn 67 rfl ?_)
          refine s_iload_n (i := 2) (by decide +kernel) rfl (pn 68 rfl ?_)
          refine s_callvV [.ref 15, .ref 27, .int x2] rfl (by decide +kernel) mv_11_355 np_44 (Nat.le_of_ble_eq_true rfl) lq_58 ((congrArg Prod.fst sh_58).trans oc_44) (cV_use h (fun s5 M5 h => (pn 71 rfl ?_)))
          refine s_aload_n (i := 0) (by decide +kernel) rfl (pn 72 rfl ?_)
          refine s_getfield (v := .ref 58) (by decide +kernel) fr_11_81 lq_0 (congrArg Prod.fst sh_0) (fv_ref pf_0_15) (pn 75 rfl ?_)
          refine s_iload_n (i := 3) (by decide +kernel) rfl (pn 76 rfl ?_)
          refine s_callvI [.int x3] rfl (by decide +kernel) mv_11_361 np_48 (Nat.le_of_ble_eq_true rfl) lq_58 ((congrArg Prod.fst sh_58).trans oc_48) (cI_use h (fun r5 s6 M6 h => (pn 79 rfl ?_)))
          refine s_istore (i := 5) (by decide +kernel) (Nat.le_of_ble_eq_true rfl) (pn 81 rfl (t_store (ls' := [.ref 0, .int x1, .int x2, .int x3, .ref o1, .int r5, .null, .null]) rfl ?_))
          refine s_iload (i := 5) (by decide +kernel) rfl (pn 83 rfl ?_)
          refine s_iload_n (i := 3) (by decide +kernel) rfl (pn 84 rfl ?_)
          refine s_callsI [.int x3] rfl (by decide +kernel) ms_11_204 np_322 (Nat.le_of_ble_eq_true rfl) (cI_use h (fun r6 s7 M7 h => (pn 87 rfl ?_)))
          refine s_icmp_ge (off := 6) (tgt := 93) (by decide +kernel) rfl (fun c5 => ?_) (fun c5 => (pn 90 rfl ?_))
          · have h := h.1 c5
            refine s_iload (i := 5) (by decide +kernel) rfl (pn 95 rfl ?_)
            refine s_aload (i := 4) (by decide +kernel) rfl (pn 97 rfl ?_)
            refine s_getfield (v := .int (M7.1 o1 2)) (by decide +kernel) fr_11_424 (ltY_0 ho1) (congrArg Prod.fst (shY_0 ho1)) rfl (pn 100 rfl ?_)
            refine s_callsI [.int r5, .int (M7.1 o1 2)] rfl (by decide +kernel) ms_11_377 np_323 (Nat.le_of_ble_eq_true rfl) (cI_use h (fun r7 s8 M8 h => (pn 103 rfl ?_)))
            refine s_istore (i := 6) (by decide +kernel) (Nat.le_of_ble_eq_true rfl) (pn 105 rfl (t_store (ls' := [.ref 0, .int x1, .int x2, .int x3, .ref o1, .int r5, .int r7, .null]) rfl ?_))
            refine t_iconst (by decide +kernel) ki_0 (pn 106 rfl ?_)
            refine s_istore (i := 7) (by decide +kernel) (Nat.le_of_ble_eq_true rfl) (pn 108 rfl (t_store (ls' := [.ref 0, .int x1, .int x2, .int x3, .ref o1, .int r5, .int r7, .int 0]) rfl ?_))
            exact pm_weak [.ref 0, .null, .null, .null, .ref o1, .null, .int r7, .int 0] (pm_le_cons (Or.inr rfl) (pm_le_cons (Or.inl rfl) (pm_le_cons (Or.inl rfl) (pm_le_cons (Or.inl rfl) (pm_le_cons (Or.inr rfl) (pm_le_cons (Or.inl rfl) (pm_le_cons (Or.inr rfl) (pm_le_cons (Or.inr rfl) pm_le_nil)))))))) h
          · have h := h.2 c5
            refine t_bipush (by decide +kernel) kb_m5 (pn 92 rfl ?_)
            exact s_ireturn (st := []) (by decide +kernel) (Or.inl rfl) ⟨_, rfl, s7, rfl, h⟩
        · have h := h.1 c4
          refine t_bipush (by decide +kernel) kb_m3 (pn 54 rfl ?_)
          exact s_ireturn (st := []) (by decide +kernel) (Or.inl rfl) ⟨_, rfl, s4, rfl, h⟩
      · have h := h.2 c3
        refine t_bipush (by decide +kernel) kb_m6 (pn 40 rfl ?_)
        exact s_ireturn (st := []) (by decide +kernel) (Or.inl rfl) ⟨_, rfl, s3, rfl, h⟩
    · have h := h.1 c2
      refine t_bipush (by decide +kernel) kb_m2 (pn 21 rfl ?_)
      exact s_ireturn (st := []) (by decide +kernel) (Or.inl rfl) ⟨_, rfl, s2, rfl, h⟩
theorem sgG_lists_108 {d : Nat} {s : pm_S} {M : pm_M} {l6 : Int32} {l7 : Int32} {o1 : Nat} {Q : Int32 → pm_S → pm_M → Prop} (ho1 : isY o1) (h : (((l6 ≤ l7) → Q l6 s M) ∧ (¬ (l6 ≤ l7) → cI d yN_orderAt [.ref 58, .int l7] s M (fun r1 s1 M1 => cL d yY_put [.ref o1, .int l7, .long (r1.toInt64)] s1 M1 (fun r2 s2 M2 => wG_lists d 108 [.ref 0, .null, .null, .null, .ref o1, .null, .int l6, .int (l7 + 1)] [] s2 M2 Q))))) : wG_lists d 108 [.ref 0, .null, .null, .null, .ref o1, .null, .int l6, .int l7] [] s M Q := by
  refine s_iload (i := 7) (by decide +kernel) rfl (pn 110 rfl ?_)
  refine s_iload (i := 6) (by decide +kernel) rfl (pn 112 rfl ?_)
  refine s_icmp_ge (off := 27) (tgt := 139) (by decide +kernel) rfl (fun c1 => ?_) (fun c1 => (pn 115 rfl ?_))
  · have h := h.1 c1
    refine s_iload (i := 6) (by decide +kernel) rfl (pn 141 rfl ?_)
    exact s_ireturn (st := []) (by decide +kernel) (Or.inl rfl) ⟨_, rfl, s, rfl, h⟩
  · have h := h.2 c1
    refine s_aload (i := 4) (by decide +kernel) rfl (pn 117 rfl ?_)
    refine s_iload (i := 7) (by decide +kernel) rfl (pn 119 rfl ?_)
    refine s_aload_n (i := 0) (by decide +kernel) rfl (pn 120 rfl ?_)
    refine s_getfield (v := .ref 58) (by decide +kernel) fr_11_81 lq_0 (congrArg Prod.fst sh_0) (fv_ref pf_0_15) (pn 123 rfl ?_)
    refine s_iload (i := 7) (by decide +kernel) rfl (pn 125 rfl ?_)
    refine s_callvI [.int l7] rfl (by decide +kernel) mv_11_364 np_50 (Nat.le_of_ble_eq_true rfl) lq_58 ((congrArg Prod.fst sh_58).trans oc_50) (cI_use h (fun r1 s1 M1 h => (pn 128 rfl ?_)))
    refine s_i2l (by decide +kernel) (pn 129 rfl ?_)
    refine s_callvL [.int l7, .long (r1.toInt64)] rfl (by decide +kernel) mv_11_420 np_112 (Nat.le_of_ble_eq_true rfl) (ltY_0 ho1) ((congrArg Prod.fst (shY_0 ho1)).trans oc_112) (cL_use h (fun r2 s2 M2 h => (pn 132 rfl ?_)))
    refine s_pop2 (by decide +kernel) rfl (pn 133 rfl ?_)
    refine t_iinc (i := 7) (n := 1) (ls' := [.ref 0, .null, .null, .null, .ref o1, .null, .int l6, .int (l7 + 1)]) (by decide +kernel) rfl (Nat.le_of_ble_eq_true rfl) kn_1 rfl (pn 136 rfl ?_)
    refine s_goto (off := -28) (tgt := 108) (by decide +kernel) rfl ?_
    exact h
abbrev wG_image (d pc : Nat) (ls st : List Value) (s : pm_S) (M : pm_M) (Q : Int32 → pm_S → pm_M → Prop) : Prop := wI d prog_1_method_45_code 11 (some .int) false pc ls st s M Q
theorem enG_image {d : Nat} {s : pm_S} {M : pm_M} {x1 : Int32} {Q : Int32 → pm_S → pm_M → Prop}  (h : (((x1 < 0) → Q (-2) s M) ∧ (¬ (x1 < 0) → (((x1 < 2) → vp_in x1 2 ∧ ∀ o1 : Nat, o1 = 125 + 17 * x1.toNatClampNeg → isL o1 → cV d yL_become [.ref o1, .ref 15] s M (fun s1 M1 => vp_in x1 2 ∧ ∀ o2 : Nat, o2 = 137 + 17 * x1.toNatClampNeg → isS o2 → cV d yS_become [.ref o2, .ref 27] s1 M1 (fun s2 M2 => Q 0 s2 (pm_si M2 0 10 ((M2.1 0 10) ||| ((1 : Int32) <<< (x1 &&& 31))))))) ∧ (¬ (x1 < 2) → Q (-2) s M))))) : cI (d + 1) yG_image [.ref 0, .int x1] s M Q := by
  refine pm_toI (by decide) (Nat.le_of_ble_eq_true rfl) ?_
  show wG_image d 0 [.ref 0, .int x1] [] s M Q
  refine s_iload_n (i := 1) (by decide +kernel) rfl (pn 1 rfl ?_)
  refine s_if_lt (off := 8) (tgt := 9) (by decide +kernel) rfl (fun c1 => ?_) (fun c1 => (pn 4 rfl ?_))
  · have h := h.1 c1
    refine t_bipush (by decide +kernel) kb_m2 (pn 11 rfl ?_)
    exact s_ireturn (st := []) (by decide +kernel) (Or.inl rfl) ⟨_, rfl, s, rfl, h⟩
  · have h := h.2 c1
    refine s_iload_n (i := 1) (by decide +kernel) rfl (pn 5 rfl ?_)
    refine t_iconst (by decide +kernel) ki_2 (pn 6 rfl ?_)
    refine s_icmp_lt (off := 6) (tgt := 12) (by decide +kernel) rfl (fun c2 => ?_) (fun c2 => (pn 9 rfl ?_))
    · have h := h.1 c2
      refine s_aload_n (i := 0) (by decide +kernel) rfl (pn 13 rfl ?_)
      refine s_getfield (v := .ref 39) (by decide +kernel) fr_11_43 lq_0 (congrArg Prod.fst sh_0) (fv_ref pf_0_8) (pn 16 rfl ?_)
      refine s_iload_n (i := 1) (by decide +kernel) rfl (pn 17 rfl ?_)
      obtain ⟨b1, h⟩ := h
      obtain ⟨o1, eo1, ho1⟩ : ∃ zz : Nat, zz = 125 + 17 * x1.toNatClampNeg ∧ isL zz := ⟨_, rfl, pq_39 (vp_nat b1)⟩
      refine t_aaload (x := o1) (by decide +kernel) ⟨lq_39, by rw [sh_39]; decide, by rw [sh_39]; decide⟩ (al_in sh_39 b1) (by rw [eo1]; exact pa_39 (vp_nat b1)) (pn 18 rfl ?_)
      have h := h o1 eo1 ho1
      refine s_aload_n (i := 0) (by decide +kernel) rfl (pn 19 rfl ?_)
      refine s_getfield (v := .ref 15) (by decide +kernel) fr_11_19 lq_0 (congrArg Prod.fst sh_0) (fv_ref pf_0_1) (pn 22 rfl ?_)
      refine s_callvV [.ref 15] rfl (by decide +kernel) mv_11_117 np_30 (Nat.le_of_ble_eq_true rfl) (ltL_0 ho1) ((congrArg Prod.fst (shL_0 ho1)).trans oc_30) (cV_use h (fun s1 M1 h => (pn 25 rfl ?_)))
      refine s_aload_n (i := 0) (by decide +kernel) rfl (pn 26 rfl ?_)
      refine s_getfield (v := .ref 40) (by decide +kernel) fr_11_47 lq_0 (congrArg Prod.fst sh_0) (fv_ref pf_0_9) (pn 29 rfl ?_)
      refine s_iload_n (i := 1) (by decide +kernel) rfl (pn 30 rfl ?_)
      obtain ⟨b2, h⟩ := h
      obtain ⟨o2, eo2, ho2⟩ : ∃ zz : Nat, zz = 137 + 17 * x1.toNatClampNeg ∧ isS zz := ⟨_, rfl, pq_40 (vp_nat b2)⟩
      refine t_aaload (x := o2) (by decide +kernel) ⟨lq_40, by rw [sh_40]; decide, by rw [sh_40]; decide⟩ (al_in sh_40 b2) (by rw [eo2]; exact pa_40 (vp_nat b2)) (pn 31 rfl ?_)
      have h := h o2 eo2 ho2
      refine s_aload_n (i := 0) (by decide +kernel) rfl (pn 32 rfl ?_)
      refine s_getfield (v := .ref 27) (by decide +kernel) fr_11_26 lq_0 (congrArg Prod.fst sh_0) (fv_ref pf_0_2) (pn 35 rfl ?_)
      refine s_callvV [.ref 27] rfl (by decide +kernel) mv_11_186 np_83 (Nat.le_of_ble_eq_true rfl) (ltS_0 ho2) ((congrArg Prod.fst (shS_0 ho2)).trans oc_83) (cV_use h (fun s2 M2 h => (pn 38 rfl ?_)))
      refine s_aload_n (i := 0) (by decide +kernel) rfl (pn 39 rfl ?_)
      refine s_dup (by decide +kernel) rfl (pn 40 rfl ?_)
      refine s_getfield (v := .int (M2.1 0 10)) (by decide +kernel) fr_11_427 lq_0 (congrArg Prod.fst sh_0) rfl (pn 43 rfl ?_)
      refine t_iconst (by decide +kernel) ki_1 (pn 44 rfl ?_)
      refine s_iload_n (i := 1) (by decide +kernel) rfl (pn 45 rfl ?_)
      refine s_ishl (by decide +kernel) (pn 46 rfl ?_)
      refine s_ior (by decide +kernel) (pn 47 rfl ?_)
      refine s_putfieldI (by decide +kernel) fr_11_427 lq_0 (congrArg Prod.fst sh_0) (fun q => by cases q) (Or.inl rfl) (pn 50 rfl ?_)
      refine t_iconst (by decide +kernel) ki_0 (pn 51 rfl ?_)
      exact s_ireturn (st := []) (by decide +kernel) (Or.inl rfl) ⟨_, rfl, s2, rfl, h⟩
    · have h := h.2 c2
      refine t_bipush (by decide +kernel) kb_m2 (pn 11 rfl ?_)
      exact s_ireturn (st := []) (by decide +kernel) (Or.inl rfl) ⟨_, rfl, s, rfl, h⟩
abbrev wG_restore (d pc : Nat) (ls st : List Value) (s : pm_S) (M : pm_M) (Q : Int32 → pm_S → pm_M → Prop) : Prop := wI d prog_1_method_46_code 11 (some .int) false pc ls st s M Q
theorem enG_restore {d : Nat} {s : pm_S} {M : pm_M} {x1 : Int32} {Q : Int32 → pm_S → pm_M → Prop}  (h : (((x1 < 0) → Q (-2) s M) ∧ (¬ (x1 < 0) → (((x1 < 2) → (((((M.1 0 10) >>> (x1 &&& 31)) &&& 1) = 0 → Q (-5) s M) ∧ (¬ ((((M.1 0 10) >>> (x1 &&& 31)) &&& 1) = 0) → vp_in x1 2 ∧ ∀ o1 : Nat, o1 = 125 + 17 * x1.toNatClampNeg → isL o1 → cV d yL_become [.ref 15, .ref o1] s M (fun s1 M1 => vp_in x1 2 ∧ ∀ o2 : Nat, o2 = 137 + 17 * x1.toNatClampNeg → isS o2 → cV d yS_become [.ref 27, .ref o2] s1 M1 (fun s2 M2 => cV d yG_forgetPast [.ref 0] s2 M2 (fun s3 M3 => Q 0 s3 M3)))))) ∧ (¬ (x1 < 2) → Q (-2) s M))))) : cI (d + 1) yG_restore [.ref 0, .int x1] s M Q := by
  refine pm_toI (by decide) (Nat.le_of_ble_eq_true rfl) ?_
  show wG_restore d 0 [.ref 0, .int x1] [] s M Q
  refine s_iload_n (i := 1) (by decide +kernel) rfl (pn 1 rfl ?_)
  refine s_if_lt (off := 8) (tgt := 9) (by decide +kernel) rfl (fun c1 => ?_) (fun c1 => (pn 4 rfl ?_))
  · have h := h.1 c1
    refine t_bipush (by decide +kernel) kb_m2 (pn 11 rfl ?_)
    exact s_ireturn (st := []) (by decide +kernel) (Or.inl rfl) ⟨_, rfl, s, rfl, h⟩
  · have h := h.2 c1
    refine s_iload_n (i := 1) (by decide +kernel) rfl (pn 5 rfl ?_)
    refine t_iconst (by decide +kernel) ki_2 (pn 6 rfl ?_)
    refine s_icmp_lt (off := 6) (tgt := 12) (by decide +kernel) rfl (fun c2 => ?_) (fun c2 => (pn 9 rfl ?_))
    · have h := h.1 c2
      refine s_aload_n (i := 0) (by decide +kernel) rfl (pn 13 rfl ?_)
      refine s_getfield (v := .int (M.1 0 10)) (by decide +kernel) fr_11_427 lq_0 (congrArg Prod.fst sh_0) rfl (pn 16 rfl ?_)
      refine s_iload_n (i := 1) (by decide +kernel) rfl (pn 17 rfl ?_)
      refine s_ishr (by decide +kernel) (pn 18 rfl ?_)
      refine t_iconst (by decide +kernel) ki_1 (pn 19 rfl ?_)
      refine s_iand (by decide +kernel) (pn 20 rfl ?_)
      refine t_if_ne (off := 6) (tgt := 26) (by decide +kernel) rfl (fun c3 => ?_) (fun c3 => (pn 23 rfl ?_))
      · have h := h.2 c3
        refine s_aload_n (i := 0) (by decide +kernel) rfl (pn 27 rfl ?_)
        refine s_getfield (v := .ref 15) (by decide +kernel) fr_11_19 lq_0 (congrArg Prod.fst sh_0) (fv_ref pf_0_1) (pn 30 rfl ?_)
        refine s_aload_n (i := 0) (by decide +kernel) rfl (pn 31 rfl ?_)
        refine s_getfield (v := .ref 39) (by decide +kernel) fr_11_43 lq_0 (congrArg Prod.fst sh_0) (fv_ref pf_0_8) (pn 34 rfl ?_)
        refine s_iload_n (i := 1) (by decide +kernel) rfl (pn 35 rfl ?_)
        obtain ⟨b1, h⟩ := h
        obtain ⟨o1, eo1, ho1⟩ : ∃ zz : Nat, zz = 125 + 17 * x1.toNatClampNeg ∧ isL zz := ⟨_, rfl, pq_39 (vp_nat b1)⟩
        refine t_aaload (x := o1) (by decide +kernel) ⟨lq_39, by rw [sh_39]; decide, by rw [sh_39]; decide⟩ (al_in sh_39 b1) (by rw [eo1]; exact pa_39 (vp_nat b1)) (pn 36 rfl ?_)
        have h := h o1 eo1 ho1
        refine s_callvV [.ref o1] rfl (by decide +kernel) mv_11_117 np_30 (Nat.le_of_ble_eq_true rfl) lq_15 ((congrArg Prod.fst sh_15).trans oc_30) (cV_use h (fun s1 M1 h => (pn 39 rfl ?_)))
        refine s_aload_n (i := 0) (by decide +kernel) rfl (pn 40 rfl ?_)
        refine s_getfield (v := .ref 27) (by decide +kernel) fr_11_26 lq_0 (congrArg Prod.fst sh_0) (fv_ref pf_0_2) (pn 43 rfl ?_)
        refine s_aload_n (i := 0) (by decide +kernel) rfl (pn 44 rfl ?_)
        refine s_getfield (v := .ref 40) (by decide +kernel) fr_11_47 lq_0 (congrArg Prod.fst sh_0) (fv_ref pf_0_9) (pn 47 rfl ?_)
        refine s_iload_n (i := 1) (by decide +kernel) rfl (pn 48 rfl ?_)
        obtain ⟨b2, h⟩ := h
        obtain ⟨o2, eo2, ho2⟩ : ∃ zz : Nat, zz = 137 + 17 * x1.toNatClampNeg ∧ isS zz := ⟨_, rfl, pq_40 (vp_nat b2)⟩
        refine t_aaload (x := o2) (by decide +kernel) ⟨lq_40, by rw [sh_40]; decide, by rw [sh_40]; decide⟩ (al_in sh_40 b2) (by rw [eo2]; exact pa_40 (vp_nat b2)) (pn 49 rfl ?_)
        have h := h o2 eo2 ho2
        refine s_callvV [.ref o2] rfl (by decide +kernel) mv_11_186 np_83 (Nat.le_of_ble_eq_true rfl) lq_27 ((congrArg Prod.fst sh_27).trans oc_83) (cV_use h (fun s2 M2 h => (pn 52 rfl ?_)))
        refine s_aload_n (i := 0) (by decide +kernel) rfl (pn 53 rfl ?_)
        refine s_callvV [] rfl (by decide +kernel) mv_11_123 np_124 (Nat.le_of_ble_eq_true rfl) lq_0 ((congrArg Prod.fst sh_0).trans oc_124) (cV_use h (fun s3 M3 h => (pn 56 rfl ?_)))
        refine t_iconst (by decide +kernel) ki_0 (pn 57 rfl ?_)
        exact s_ireturn (st := []) (by decide +kernel) (Or.inl rfl) ⟨_, rfl, s3, rfl, h⟩
      · have h := h.1 c3
        refine t_bipush (by decide +kernel) kb_m5 (pn 25 rfl ?_)
        exact s_ireturn (st := []) (by decide +kernel) (Or.inl rfl) ⟨_, rfl, s, rfl, h⟩
    · have h := h.2 c2
      refine t_bipush (by decide +kernel) kb_m2 (pn 11 rfl ?_)
      exact s_ireturn (st := []) (by decide +kernel) (Or.inl rfl) ⟨_, rfl, s, rfl, h⟩
abbrev wG_count (d pc : Nat) (ls st : List Value) (s : pm_S) (M : pm_M) (Q : Int32 → pm_S → pm_M → Prop) : Prop := wI d prog_1_method_47_code 11 (some .int) false pc ls st s M Q
theorem enG_count {d : Nat} {s : pm_S} {M : pm_M} {x1 : Int32} {Q : Int32 → pm_S → pm_M → Prop}  (h : ((x1 = 0 → Q (M.1 15 0) s M) ∧ (¬ x1 = 0 → ((x1 = 1 → Q (M.1 15 1) s M) ∧ (¬ x1 = 1 → ((x1 = 2 → Q (M.1 15 2) s M) ∧ (¬ x1 = 2 → ((x1 = 3 → cI d yS_officeBits [.ref 27] s M (fun r1 s1 M1 => Q r1 s1 M1)) ∧ (¬ x1 = 3 → ((x1 = 4 → cI d yS_heldBits [.ref 27] s M (fun r2 s2 M2 => Q r2 s2 M2)) ∧ (¬ x1 = 4 → ((x1 = 5 → Q (M.1 27 4) s M) ∧ (¬ x1 = 5 → ((x1 = 6 → Q (M.1 27 5) s M) ∧ (¬ x1 = 6 → ((x1 = 7 → Q (M.1 0 6) s M) ∧ (¬ x1 = 7 → ((x1 = 8 → Q (M.1 1 1) s M) ∧ (¬ x1 = 8 → ((x1 = 9 → Q (M.1 15 3) s M) ∧ (¬ x1 = 9 → Q (-1) s M))))))))))))))))))))) : cI (d + 1) yG_count [.ref 0, .int x1] s M Q := by
  refine pm_toI (by decide) (Nat.le_of_ble_eq_true rfl) ?_
  show wG_count d 0 [.ref 0, .int x1] [] s M Q
  refine s_iload_n (i := 1) (by decide +kernel) rfl (pn 1 rfl ?_)
  by_cases c1 : x1 = 0
  · refine s_tableswitch (dflt := 132) (lo := 0) (hi := 9) (offs := #[55, 63, 71, 79, 87, 95, 103, 111, 116, 124]) (len := 55) (tgt := 56) (by decide +kernel) (by rw [c1]; decide) (by rw [c1]; decide) ?_
    have h := h.1 c1
    refine s_aload_n (i := 0) (by decide +kernel) rfl (pn 57 rfl ?_)
    refine s_getfield (v := .ref 15) (by decide +kernel) fr_11_19 lq_0 (congrArg Prod.fst sh_0) (fv_ref pf_0_1) (pn 60 rfl ?_)
    refine s_getfield (v := .int (M.1 15 0)) (by decide +kernel) fr_11_282 lq_15 (congrArg Prod.fst sh_15) rfl (pn 63 rfl ?_)
    exact s_ireturn (st := []) (by decide +kernel) (Or.inl rfl) ⟨_, rfl, s, rfl, h⟩
  have h := h.2 c1
  by_cases c2 : x1 = 1
  · refine s_tableswitch (dflt := 132) (lo := 0) (hi := 9) (offs := #[55, 63, 71, 79, 87, 95, 103, 111, 116, 124]) (len := 55) (tgt := 64) (by decide +kernel) (by rw [c2]; decide) (by rw [c2]; decide) ?_
    have h := h.1 c2
    refine s_aload_n (i := 0) (by decide +kernel) rfl (pn 65 rfl ?_)
    refine s_getfield (v := .ref 15) (by decide +kernel) fr_11_19 lq_0 (congrArg Prod.fst sh_0) (fv_ref pf_0_1) (pn 68 rfl ?_)
    refine s_getfield (v := .int (M.1 15 1)) (by decide +kernel) fr_11_327 lq_15 (congrArg Prod.fst sh_15) rfl (pn 71 rfl ?_)
    exact s_ireturn (st := []) (by decide +kernel) (Or.inl rfl) ⟨_, rfl, s, rfl, h⟩
  have h := h.2 c2
  by_cases c3 : x1 = 2
  · refine s_tableswitch (dflt := 132) (lo := 0) (hi := 9) (offs := #[55, 63, 71, 79, 87, 95, 103, 111, 116, 124]) (len := 55) (tgt := 72) (by decide +kernel) (by rw [c3]; decide) (by rw [c3]; decide) ?_
    have h := h.1 c3
    refine s_aload_n (i := 0) (by decide +kernel) rfl (pn 73 rfl ?_)
    refine s_getfield (v := .ref 15) (by decide +kernel) fr_11_19 lq_0 (congrArg Prod.fst sh_0) (fv_ref pf_0_1) (pn 76 rfl ?_)
    refine s_getfield (v := .int (M.1 15 2)) (by decide +kernel) fr_11_324 lq_15 (congrArg Prod.fst sh_15) rfl (pn 79 rfl ?_)
    exact s_ireturn (st := []) (by decide +kernel) (Or.inl rfl) ⟨_, rfl, s, rfl, h⟩
  have h := h.2 c3
  by_cases c4 : x1 = 3
  · refine s_tableswitch (dflt := 132) (lo := 0) (hi := 9) (offs := #[55, 63, 71, 79, 87, 95, 103, 111, 116, 124]) (len := 55) (tgt := 80) (by decide +kernel) (by rw [c4]; decide) (by rw [c4]; decide) ?_
    have h := h.1 c4
    refine s_aload_n (i := 0) (by decide +kernel) rfl (pn 81 rfl ?_)
    refine s_getfield (v := .ref 27) (by decide +kernel) fr_11_26 lq_0 (congrArg Prod.fst sh_0) (fv_ref pf_0_2) (pn 84 rfl ?_)
    refine s_callvI [] rfl (by decide +kernel) mv_11_200 np_86 (Nat.le_of_ble_eq_true rfl) lq_27 ((congrArg Prod.fst sh_27).trans oc_86) (cI_use h (fun r1 s1 M1 h => (pn 87 rfl ?_)))
    exact s_ireturn (st := []) (by decide +kernel) (Or.inl rfl) ⟨_, rfl, s1, rfl, h⟩
  have h := h.2 c4
  by_cases c5 : x1 = 4
  · refine s_tableswitch (dflt := 132) (lo := 0) (hi := 9) (offs := #[55, 63, 71, 79, 87, 95, 103, 111, 116, 124]) (len := 55) (tgt := 88) (by decide +kernel) (by rw [c5]; decide) (by rw [c5]; decide) ?_
    have h := h.1 c5
    refine s_aload_n (i := 0) (by decide +kernel) rfl (pn 89 rfl ?_)
    refine s_getfield (v := .ref 27) (by decide +kernel) fr_11_26 lq_0 (congrArg Prod.fst sh_0) (fv_ref pf_0_2) (pn 92 rfl ?_)
    refine s_callvI [] rfl (by decide +kernel) mv_11_430 np_100 (Nat.le_of_ble_eq_true rfl) lq_27 ((congrArg Prod.fst sh_27).trans oc_100) (cI_use h (fun r2 s2 M2 h => (pn 95 rfl ?_)))
    exact s_ireturn (st := []) (by decide +kernel) (Or.inl rfl) ⟨_, rfl, s2, rfl, h⟩
  have h := h.2 c5
  by_cases c6 : x1 = 5
  · refine s_tableswitch (dflt := 132) (lo := 0) (hi := 9) (offs := #[55, 63, 71, 79, 87, 95, 103, 111, 116, 124]) (len := 55) (tgt := 96) (by decide +kernel) (by rw [c6]; decide) (by rw [c6]; decide) ?_
    have h := h.1 c6
    refine s_aload_n (i := 0) (by decide +kernel) rfl (pn 97 rfl ?_)
    refine s_getfield (v := .ref 27) (by decide +kernel) fr_11_26 lq_0 (congrArg Prod.fst sh_0) (fv_ref pf_0_2) (pn 100 rfl ?_)
    refine s_getfield (v := .int (M.1 27 4)) (by decide +kernel) fr_11_173 lq_27 (congrArg Prod.fst sh_27) rfl (pn 103 rfl ?_)
    exact s_ireturn (st := []) (by decide +kernel) (Or.inl rfl) ⟨_, rfl, s, rfl, h⟩
  have h := h.2 c6
  by_cases c7 : x1 = 6
  · refine s_tableswitch (dflt := 132) (lo := 0) (hi := 9) (offs := #[55, 63, 71, 79, 87, 95, 103, 111, 116, 124]) (len := 55) (tgt := 104) (by decide +kernel) (by rw [c7]; decide) (by rw [c7]; decide) ?_
    have h := h.1 c7
    refine s_aload_n (i := 0) (by decide +kernel) rfl (pn 105 rfl ?_)
    refine s_getfield (v := .ref 27) (by decide +kernel) fr_11_26 lq_0 (congrArg Prod.fst sh_0) (fv_ref pf_0_2) (pn 108 rfl ?_)
    refine s_getfield (v := .int (M.1 27 5)) (by decide +kernel) fr_11_433 lq_27 (congrArg Prod.fst sh_27) rfl (pn 111 rfl ?_)
    exact s_ireturn (st := []) (by decide +kernel) (Or.inl rfl) ⟨_, rfl, s, rfl, h⟩
  have h := h.2 c7
  by_cases c8 : x1 = 7
  · refine s_tableswitch (dflt := 132) (lo := 0) (hi := 9) (offs := #[55, 63, 71, 79, 87, 95, 103, 111, 116, 124]) (len := 55) (tgt := 112) (by decide +kernel) (by rw [c8]; decide) (by rw [c8]; decide) ?_
    have h := h.1 c8
    refine s_aload_n (i := 0) (by decide +kernel) rfl (pn 113 rfl ?_)
    refine s_getfield (v := .int (M.1 0 6)) (by decide +kernel) fr_11_228 lq_0 (congrArg Prod.fst sh_0) rfl (pn 116 rfl ?_)
    exact s_ireturn (st := []) (by decide +kernel) (Or.inl rfl) ⟨_, rfl, s, rfl, h⟩
  have h := h.2 c8
  by_cases c9 : x1 = 8
  · refine s_tableswitch (dflt := 132) (lo := 0) (hi := 9) (offs := #[55, 63, 71, 79, 87, 95, 103, 111, 116, 124]) (len := 55) (tgt := 117) (by decide +kernel) (by rw [c9]; decide) (by rw [c9]; decide) ?_
    have h := h.1 c9
    refine s_aload_n (i := 0) (by decide +kernel) rfl (pn 118 rfl ?_)
    refine s_getfield (v := .ref 1) (by decide +kernel) fr_11_10 lq_0 (congrArg Prod.fst sh_0) (fv_ref pf_0_0) (pn 121 rfl ?_)
    refine s_getfield (v := .int (M.1 1 1)) (by decide +kernel) fr_11_93 lq_1 (congrArg Prod.fst sh_1) rfl (pn 124 rfl ?_)
    exact s_ireturn (st := []) (by decide +kernel) (Or.inl rfl) ⟨_, rfl, s, rfl, h⟩
  have h := h.2 c9
  by_cases c10 : x1 = 9
  · refine s_tableswitch (dflt := 132) (lo := 0) (hi := 9) (offs := #[55, 63, 71, 79, 87, 95, 103, 111, 116, 124]) (len := 55) (tgt := 125) (by decide +kernel) (by rw [c10]; decide) (by rw [c10]; decide) ?_
    have h := h.1 c10
    refine s_aload_n (i := 0) (by decide +kernel) rfl (pn 126 rfl ?_)
    refine s_getfield (v := .ref 15) (by decide +kernel) fr_11_19 lq_0 (congrArg Prod.fst sh_0) (fv_ref pf_0_1) (pn 129 rfl ?_)
    refine s_getfield (v := .int (M.1 15 3)) (by decide +kernel) fr_11_126 lq_15 (congrArg Prod.fst sh_15) rfl (pn 132 rfl ?_)
    exact s_ireturn (st := []) (by decide +kernel) (Or.inl rfl) ⟨_, rfl, s, rfl, h⟩
  have h := h.2 c10
  have k1 : wG_count d 133 [.ref 0, .int x1] [] s M Q := by
    refine t_iconst (by decide +kernel) ki_m1 (pn 134 rfl ?_)
    exact s_ireturn (st := []) (by decide +kernel) (Or.inl rfl) ⟨_, rfl, s, rfl, h⟩
  by_cases q0 : x1.toInt < 0 ∨ 9 < x1.toInt
  · exact t_tabledef (dflt := 132) (lo := 0) (hi := 9) (offs := #[55, 63, 71, 79, 87, 95, 103, 111, 116, 124]) (len := 55) (tgt := 133) (by decide +kernel) rfl q0 k1
  · rcases (show x1.toInt = 0 ∨ x1.toInt = 1 ∨ x1.toInt = 2 ∨ x1.toInt = 3 ∨ x1.toInt = 4 ∨ x1.toInt = 5 ∨ x1.toInt = 6 ∨ x1.toInt = 7 ∨ x1.toInt = 8 ∨ x1.toInt = 9 by omega) with q1 | q1 | q1 | q1 | q1 | q1 | q1 | q1 | q1 | q1
    · exact absurd (Int32.toInt_inj.mp (q1.trans (by decide))) c1
    · exact absurd (Int32.toInt_inj.mp (q1.trans (by decide))) c2
    · exact absurd (Int32.toInt_inj.mp (q1.trans (by decide))) c3
    · exact absurd (Int32.toInt_inj.mp (q1.trans (by decide))) c4
    · exact absurd (Int32.toInt_inj.mp (q1.trans (by decide))) c5
    · exact absurd (Int32.toInt_inj.mp (q1.trans (by decide))) c6
    · exact absurd (Int32.toInt_inj.mp (q1.trans (by decide))) c7
    · exact absurd (Int32.toInt_inj.mp (q1.trans (by decide))) c8
    · exact absurd (Int32.toInt_inj.mp (q1.trans (by decide))) c9
    · exact absurd (Int32.toInt_inj.mp (q1.trans (by decide))) c10
