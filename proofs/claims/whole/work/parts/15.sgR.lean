abbrev wR_append (d pc : Nat) (ls st : List Value) (s : pm_S) (M : pm_M) (Q : pm_S → pm_M → Prop) : Prop := wV d prog_8_method_2_code 6 none false pc ls st s M Q
theorem enR_append {d : Nat} {s : pm_S} {M : pm_M} {x1 : Int32} {Q : pm_S → pm_M → Prop}  (h : wR_append d 3 [.ref 1, .int x1, .int 24] [] s M Q) : cV (d + 1) yR_append [.ref 1, .int x1] s M Q := by
  refine pm_toV (by decide) (Nat.le_of_ble_eq_true rfl) ?_
  show wR_append d 0 [.ref 1, .int x1, .null] [] s M Q
  refine t_bipush (by decide +kernel) kb_24 (pn 2 rfl ?_)
  refine s_istore_n (i := 2) (by decide +kernel) (Nat.le_of_ble_eq_true rfl) (pn 3 rfl (t_store (ls' := [.ref 1, .int x1, .int 24]) rfl ?_))
  exact h
theorem sgR_append_3 {d : Nat} {s : pm_S} {M : pm_M} {l1 : Int32} {l2 : Int32} {Q : pm_S → pm_M → Prop}  (h : (((l2 < 0) → Q s M) ∧ (¬ (l2 < 0) → (((900 ≤ (M.1 1 1)) → Q s M) ∧ (¬ (900 ≤ (M.1 1 1)) → vp_in (M.1 1 1) 900 ∧ wR_append d 3 [.ref 1, .int l1, .int (l2 + (-8))] [] s (pm_si (pm_si M 14 (M.1 1 1).toNatClampNeg (((l1.toUInt32 >>> (l2.toUInt32 &&& Int32.toUInt32 31)).toInt32) &&& 255)) 1 1 ((M.1 1 1) + 1)) Q))))) : wR_append d 3 [.ref 1, .int l1, .int l2] [] s M Q := by
  refine s_iload_n (i := 2) (by decide +kernel) rfl (pn 4 rfl ?_)
  refine s_if_lt (off := 45) (tgt := 49) (by decide +kernel) rfl (fun c1 => ?_) (fun c1 => (pn 7 rfl ?_))
  · have h := h.1 c1
    exact s_return (st := []) (by decide +kernel) rfl ⟨rfl, s, rfl, h⟩
  · have h := h.2 c1
    refine s_aload_n (i := 0) (by decide +kernel) rfl (pn 8 rfl ?_)
    refine s_getfield (v := .int (M.1 1 1)) (by decide +kernel) fr_6_26 lq_1 (congrArg Prod.fst sh_1) rfl (pn 11 rfl ?_)
    refine t_sipush (by decide +kernel) ks_900 (pn 14 rfl ?_)
    refine s_icmp_ge (off := 35) (tgt := 49) (by decide +kernel) rfl (fun c3 => ?_) (fun c3 => (pn 17 rfl ?_))
    · have h := h.1 c3
      exact s_return (st := []) (by decide +kernel) rfl ⟨rfl, s, rfl, h⟩
    · have h := h.2 c3
      refine s_aload_n (i := 0) (by decide +kernel) rfl (pn 18 rfl ?_)
      refine s_getfield (v := .ref 14) (by decide +kernel) fr_6_22 lq_1 (congrArg Prod.fst sh_1) (fv_ref pf_1_4) (pn 21 rfl ?_)
      refine s_aload_n (i := 0) (by decide +kernel) rfl (pn 22 rfl ?_)
      refine s_getfield (v := .int (M.1 1 1)) (by decide +kernel) fr_6_26 lq_1 (congrArg Prod.fst sh_1) rfl (pn 25 rfl ?_)
      refine s_iload_n (i := 1) (by decide +kernel) rfl (pn 26 rfl ?_)
      refine s_iload_n (i := 2) (by decide +kernel) rfl (pn 27 rfl ?_)
      refine s_iushr (by decide +kernel) (pn 28 rfl ?_)
      refine t_sipush (by decide +kernel) ks_255 (pn 31 rfl ?_)
      refine s_iand (by decide +kernel) (pn 32 rfl ?_)
      obtain ⟨b1, h⟩ := h
      refine t_iastore (k := (M.1 1 1).toNatClampNeg) (by decide +kernel) ⟨lq_14, congrArg Prod.fst sh_14⟩ (al_in sh_14 b1) rfl (pn 33 rfl ?_)
      refine s_aload_n (i := 0) (by decide +kernel) rfl (pn 34 rfl ?_)
      refine s_dup (by decide +kernel) rfl (pn 35 rfl ?_)
      refine s_getfield (v := .int (M.1 1 1)) (by decide +kernel) fr_6_26 lq_1 (congrArg Prod.fst sh_1) rfl (pn 38 rfl ?_)
      refine t_iconst (by decide +kernel) ki_1 (pn 39 rfl ?_)
      refine s_iadd (by decide +kernel) (pn 40 rfl ?_)
      refine s_putfieldI (by decide +kernel) fr_6_26 lq_1 (congrArg Prod.fst sh_1) (fun q => by cases q) (Or.inl rfl) (pn 43 rfl ?_)
      refine t_iinc (i := 2) (n := -8) (ls' := [.ref 1, .int l1, .int (l2 + (-8))]) (by decide +kernel) rfl (Nat.le_of_ble_eq_true rfl) kn_m8 rfl (pn 46 rfl ?_)
      refine s_goto (off := -43) (tgt := 3) (by decide +kernel) rfl ?_
      exact h
abbrev wR_begin (d pc : Nat) (ls st : List Value) (s : pm_S) (M : pm_M) (Q : pm_S → pm_M → Prop) : Prop := wV d prog_8_method_3_code 6 none false pc ls st s M Q
theorem enR_begin {d : Nat} {s : pm_S} {M : pm_M} {x1 : Int32} {Q : pm_S → pm_M → Prop}  (h : cI d ymath_min [.int x1, .int (M.1 1 1)] s M (fun r1 s1 M1 => cI d ymath_max [.int 0, .int r1] s1 M1 (fun r2 s2 M2 => cV d yL_clear [.ref 2] s2 (pm_si (pm_si (pm_si (pm_si (pm_si (pm_si M2 1 5 r2) 1 1 0) 1 2 0) 1 3 (-1)) 1 6 0) 1 10 0) (fun s3 M3 => cV d yR_step [.ref 1] s3 M3 (fun s4 M4 => cV d yR_expect [.ref 1, .int 200] s4 M4 (fun s5 M5 => cI d yR_readNumber [.ref 1, .int 2, .int 8] s5 M5 (fun r3 s6 M6 => cV d yR_expect [.ref 1, .int 59] s6 (pm_si M6 2 0 r3) (fun s7 M7 => Q s7 (pm_si M7 2 3 1))))))))) : cV (d + 1) yR_begin [.ref 1, .int x1] s M Q := by
  refine pm_toV (by decide) (Nat.le_of_ble_eq_true rfl) ?_
  show wR_begin d 0 [.ref 1, .int x1] [] s M Q
  refine s_aload_n (i := 0) (by decide +kernel) rfl (pn 1 rfl ?_)
  refine t_iconst (by decide +kernel) ki_0 (pn 2 rfl ?_)
  refine s_iload_n (i := 1) (by decide +kernel) rfl (pn 3 rfl ?_)
  refine s_aload_n (i := 0) (by decide +kernel) rfl (pn 4 rfl ?_)
  refine s_getfield (v := .int (M.1 1 1)) (by decide +kernel) fr_6_26 lq_1 (congrArg Prod.fst sh_1) rfl (pn 7 rfl ?_)
  refine s_callsI [.int x1, .int (M.1 1 1)] rfl (by decide +kernel) ms_6_29 np_323 (Nat.le_of_ble_eq_true rfl) (cI_use h (fun r1 s1 M1 h => (pn 10 rfl ?_)))
  refine s_callsI [.int 0, .int r1] rfl (by decide +kernel) ms_6_35 np_324 (Nat.le_of_ble_eq_true rfl) (cI_use h (fun r2 s2 M2 h => (pn 13 rfl ?_)))
  refine s_putfieldI (by decide +kernel) fr_6_38 lq_1 (congrArg Prod.fst sh_1) (fun q => by cases q) (Or.inl rfl) (pn 16 rfl ?_)
  refine s_aload_n (i := 0) (by decide +kernel) rfl (pn 17 rfl ?_)
  refine t_iconst (by decide +kernel) ki_0 (pn 18 rfl ?_)
  refine s_putfieldI (by decide +kernel) fr_6_26 lq_1 (congrArg Prod.fst sh_1) (fun q => by cases q) (Or.inl rfl) (pn 21 rfl ?_)
  refine s_aload_n (i := 0) (by decide +kernel) rfl (pn 22 rfl ?_)
  refine t_iconst (by decide +kernel) ki_0 (pn 23 rfl ?_)
  refine s_putfieldI (by decide +kernel) fr_6_41 lq_1 (congrArg Prod.fst sh_1) (fun q => by cases q) (Or.inl rfl) (pn 26 rfl ?_)
  refine s_aload_n (i := 0) (by decide +kernel) rfl (pn 27 rfl ?_)
  refine t_iconst (by decide +kernel) ki_m1 (pn 28 rfl ?_)
  refine s_putfieldI (by decide +kernel) fr_6_18 lq_1 (congrArg Prod.fst sh_1) (fun q => by cases q) (Or.inl rfl) (pn 31 rfl ?_)
  refine s_aload_n (i := 0) (by decide +kernel) rfl (pn 32 rfl ?_)
  refine t_iconst (by decide +kernel) ki_0 (pn 33 rfl ?_)
  refine s_putfieldI (by decide +kernel) fr_6_44 lq_1 (congrArg Prod.fst sh_1) (fun q => by cases q) (Or.inl rfl) (pn 36 rfl ?_)
  refine s_aload_n (i := 0) (by decide +kernel) rfl (pn 37 rfl ?_)
  refine t_iconst (by decide +kernel) ki_0 (pn 38 rfl ?_)
  refine s_putfieldI (by decide +kernel) fr_6_47 lq_1 (congrArg Prod.fst sh_1) (fun q => by cases q) (Or.inl rfl) (pn 41 rfl ?_)
  refine s_aload_n (i := 0) (by decide +kernel) rfl (pn 42 rfl ?_)
  refine s_getfield (v := .ref 2) (by decide +kernel) fr_6_12 lq_1 (congrArg Prod.fst sh_1) (fv_ref pf_1_0) (pn 45 rfl ?_)
  refine s_callvV [] rfl (by decide +kernel) mv_6_50 np_24 (Nat.le_of_ble_eq_true rfl) lq_2 ((congrArg Prod.fst sh_2).trans oc_24) (cV_use h (fun s3 M3 h => (pn 48 rfl ?_)))
  refine s_aload_n (i := 0) (by decide +kernel) rfl (pn 49 rfl ?_)
  refine s_callvV [] rfl (by decide +kernel) mv_6_53 np_55 (Nat.le_of_ble_eq_true rfl) lq_1 ((congrArg Prod.fst sh_1).trans oc_55) (cV_use h (fun s4 M4 h => (pn 52 rfl ?_)))
  refine s_aload_n (i := 0) (by decide +kernel) rfl (pn 53 rfl ?_)
  refine t_sipush (by decide +kernel) ks_200 (pn 56 rfl ?_)
  refine s_callvV [.int 200] rfl (by decide +kernel) mv_6_56 np_62 (Nat.le_of_ble_eq_true rfl) lq_1 ((congrArg Prod.fst sh_1).trans oc_62) (cV_use h (fun s5 M5 h => (pn 59 rfl ?_)))
  refine s_aload_n (i := 0) (by decide +kernel) rfl (pn 60 rfl ?_)
  refine s_getfield (v := .ref 2) (by decide +kernel) fr_6_12 lq_1 (congrArg Prod.fst sh_1) (fv_ref pf_1_0) (pn 63 rfl ?_)
  refine s_aload_n (i := 0) (by decide +kernel) rfl (pn 64 rfl ?_)
  refine t_iconst (by decide +kernel) ki_2 (pn 65 rfl ?_)
  refine t_bipush (by decide +kernel) kb_8 (pn 67 rfl ?_)
  refine s_callvI [.int 2, .int 8] rfl (by decide +kernel) mv_6_60 np_63 (Nat.le_of_ble_eq_true rfl) lq_1 ((congrArg Prod.fst sh_1).trans oc_63) (cI_use h (fun r3 s6 M6 h => (pn 70 rfl ?_)))
  refine s_putfieldI (by decide +kernel) fr_6_63 lq_2 (congrArg Prod.fst sh_2) (fun q => by cases q) (Or.inl rfl) (pn 73 rfl ?_)
  refine s_aload_n (i := 0) (by decide +kernel) rfl (pn 74 rfl ?_)
  refine t_bipush (by decide +kernel) kb_59 (pn 76 rfl ?_)
  refine s_callvV [.int 59] rfl (by decide +kernel) mv_6_56 np_62 (Nat.le_of_ble_eq_true rfl) lq_1 ((congrArg Prod.fst sh_1).trans oc_62) (cV_use h (fun s7 M7 h => (pn 79 rfl ?_)))
  refine s_aload_n (i := 0) (by decide +kernel) rfl (pn 80 rfl ?_)
  refine s_getfield (v := .ref 2) (by decide +kernel) fr_6_12 lq_1 (congrArg Prod.fst sh_1) (fv_ref pf_1_0) (pn 83 rfl ?_)
  refine t_iconst (by decide +kernel) ki_1 (pn 84 rfl ?_)
  refine s_putfieldI (by decide +kernel) fr_6_66 lq_2 (congrArg Prod.fst sh_2) (fun q => by cases q) (Or.inl rfl) (pn 87 rfl ?_)
  exact s_return (st := []) (by decide +kernel) rfl ⟨rfl, s7, rfl, h⟩
abbrev wR_step (d pc : Nat) (ls st : List Value) (s : pm_S) (M : pm_M) (Q : pm_S → pm_M → Prop) : Prop := wV d prog_8_method_6_code 6 none false pc ls st s M Q
theorem enR_step {d : Nat} {s : pm_S} {M : pm_M}  {Q : pm_S → pm_M → Prop}  (h : ((((M.1 1 2) = 0) → wR_step d 8 [.ref 1] [] s M Q) ∧ (¬ ((M.1 1 2) = 0) → Q s M))) : cV (d + 1) yR_step [.ref 1] s M Q := by
  refine pm_toV (by decide) (Nat.le_of_ble_eq_true rfl) ?_
  show wR_step d 0 [.ref 1] [] s M Q
  refine s_aload_n (i := 0) (by decide +kernel) rfl (pn 1 rfl ?_)
  refine s_getfield (v := .int (M.1 1 2)) (by decide +kernel) fr_6_41 lq_1 (congrArg Prod.fst sh_1) rfl (pn 4 rfl ?_)
  refine s_if_eq (off := 4) (tgt := 8) (by decide +kernel) rfl (fun c1 => ?_) (fun c1 => (pn 7 rfl ?_))
  · have h := h.1 c1
    exact h
  · have h := h.2 c1
    exact s_return (st := []) (by decide +kernel) rfl ⟨rfl, s, rfl, h⟩
theorem sgR_step_8 {d : Nat} {s : pm_S} {M : pm_M}  {Q : pm_S → pm_M → Prop}  (h : ((((M.1 1 5) ≤ (M.1 1 6)) → wR_step d 60 [.ref 1] [] s M Q) ∧ (¬ ((M.1 1 5) ≤ (M.1 1 6)) → vp_in (M.1 1 6) 900 ∧ ((((M.1 14 (M.1 1 6).toNatClampNeg) = 32) → wR_step d 8 [.ref 1] [] s (pm_si M 1 6 ((M.1 1 6) + 1)) Q) ∧ (¬ ((M.1 14 (M.1 1 6).toNatClampNeg) = 32) → vp_in (M.1 1 6) 900 ∧ (((M.1 14 (M.1 1 6).toNatClampNeg) = 10 → wR_step d 8 [.ref 1] [] s (pm_si M 1 6 ((M.1 1 6) + 1)) Q) ∧ (¬ ((M.1 14 (M.1 1 6).toNatClampNeg) = 10) → wR_step d 60 [.ref 1] [] s M Q))))))) : wR_step d 8 [.ref 1] [] s M Q := by
  refine s_aload_n (i := 0) (by decide +kernel) rfl (pn 9 rfl ?_)
  refine s_getfield (v := .int (M.1 1 6)) (by decide +kernel) fr_6_44 lq_1 (congrArg Prod.fst sh_1) rfl (pn 12 rfl ?_)
  refine s_aload_n (i := 0) (by decide +kernel) rfl (pn 13 rfl ?_)
  refine s_getfield (v := .int (M.1 1 5)) (by decide +kernel) fr_6_38 lq_1 (congrArg Prod.fst sh_1) rfl (pn 16 rfl ?_)
  refine s_icmp_ge (off := 44) (tgt := 60) (by decide +kernel) rfl (fun c1 => ?_) (fun c1 => (pn 19 rfl ?_))
  · have h := h.1 c1
    exact h
  · have h := h.2 c1
    refine s_aload_n (i := 0) (by decide +kernel) rfl (pn 20 rfl ?_)
    refine s_getfield (v := .ref 14) (by decide +kernel) fr_6_22 lq_1 (congrArg Prod.fst sh_1) (fv_ref pf_1_4) (pn 23 rfl ?_)
    refine s_aload_n (i := 0) (by decide +kernel) rfl (pn 24 rfl ?_)
    refine s_getfield (v := .int (M.1 1 6)) (by decide +kernel) fr_6_44 lq_1 (congrArg Prod.fst sh_1) rfl (pn 27 rfl ?_)
    obtain ⟨b1, h⟩ := h
    refine t_iaload (v := M.1 14 (M.1 1 6).toNatClampNeg) (by decide +kernel) ⟨Or.inl lq_14, congrArg Prod.fst sh_14⟩ (al_in sh_14 b1) rfl (pn 28 rfl ?_)
    refine t_bipush (by decide +kernel) kb_32 (pn 30 rfl ?_)
    refine s_icmp_eq (off := 17) (tgt := 47) (by decide +kernel) rfl (fun c3 => ?_) (fun c3 => (pn 33 rfl ?_))
    · have h := h.1 c3
      refine s_aload_n (i := 0) (by decide +kernel) rfl (pn 48 rfl ?_)
      refine s_dup (by decide +kernel) rfl (pn 49 rfl ?_)
      refine s_getfield (v := .int (M.1 1 6)) (by decide +kernel) fr_6_44 lq_1 (congrArg Prod.fst sh_1) rfl (pn 52 rfl ?_)
      refine t_iconst (by decide +kernel) ki_1 (pn 53 rfl ?_)
      refine s_iadd (by decide +kernel) (pn 54 rfl ?_)
      refine s_putfieldI (by decide +kernel) fr_6_44 lq_1 (congrArg Prod.fst sh_1) (fun q => by cases q) (Or.inl rfl) (pn 57 rfl ?_)
      refine s_goto (off := -49) (tgt := 8) (by decide +kernel) rfl ?_
      exact h
    · have h := h.2 c3
      refine s_aload_n (i := 0) (by decide +kernel) rfl (pn 34 rfl ?_)
      refine s_getfield (v := .ref 14) (by decide +kernel) fr_6_22 lq_1 (congrArg Prod.fst sh_1) (fv_ref pf_1_4) (pn 37 rfl ?_)
      refine s_aload_n (i := 0) (by decide +kernel) rfl (pn 38 rfl ?_)
      refine s_getfield (v := .int (M.1 1 6)) (by decide +kernel) fr_6_44 lq_1 (congrArg Prod.fst sh_1) rfl (pn 41 rfl ?_)
      obtain ⟨b2, h⟩ := h
      refine t_iaload (v := M.1 14 (M.1 1 6).toNatClampNeg) (by decide +kernel) ⟨Or.inl lq_14, congrArg Prod.fst sh_14⟩ (al_in sh_14 b2) rfl (pn 42 rfl ?_)
      refine t_bipush (by decide +kernel) kb_10 (pn 44 rfl ?_)
      refine t_icmp_ne (off := 16) (tgt := 60) (by decide +kernel) rfl (fun c4 => ?_) (fun c4 => (pn 47 rfl ?_))
      · have h := h.2 c4
        exact h
      · have h := h.1 c4
        refine s_aload_n (i := 0) (by decide +kernel) rfl (pn 48 rfl ?_)
        refine s_dup (by decide +kernel) rfl (pn 49 rfl ?_)
        refine s_getfield (v := .int (M.1 1 6)) (by decide +kernel) fr_6_44 lq_1 (congrArg Prod.fst sh_1) rfl (pn 52 rfl ?_)
        refine t_iconst (by decide +kernel) ki_1 (pn 53 rfl ?_)
        refine s_iadd (by decide +kernel) (pn 54 rfl ?_)
        refine s_putfieldI (by decide +kernel) fr_6_44 lq_1 (congrArg Prod.fst sh_1) (fun q => by cases q) (Or.inl rfl) (pn 57 rfl ?_)
        refine s_goto (off := -49) (tgt := 8) (by decide +kernel) rfl ?_
        exact h
theorem sgR_step_60 {d : Nat} {s : pm_S} {M : pm_M}  {Q : pm_S → pm_M → Prop}  (h : ((((M.1 1 6) < (M.1 1 5)) → vp_in (M.1 1 6) 900 ∧ cI d yR_isLetter [.int (M.1 14 (M.1 1 6).toNatClampNeg)] s (pm_si M 1 8 (M.1 1 6)) (fun r1 s1 M1 => (((r1 = 0) → vp_in (M1.1 1 6) 900 ∧ cI d yR_isDigit [.int (M1.1 14 (M1.1 1 6).toNatClampNeg)] s1 M1 (fun r2 s2 M2 => (((r2 = 0) → vp_in (M2.1 1 6) 900 ∧ cI d yR_isSign [.int (M2.1 14 (M2.1 1 6).toNatClampNeg)] s2 M2 (fun r3 s3 M3 => (((r3 = 0) → cV d yR_fail [.ref 1, .int 1] s3 M3 (fun s4 M4 => Q s4 M4)) ∧ (¬ (r3 = 0) → vp_in (M3.1 1 6) 900 ∧ Q s3 (pm_si (pm_si M3 1 7 (M3.1 14 (M3.1 1 6).toNatClampNeg)) 1 6 ((M3.1 1 6) + 1)))))) ∧ (¬ (r2 = 0) → cV d yR_readDigits [.ref 1] s2 M2 (fun s5 M5 => Q s5 M5))))) ∧ (¬ (r1 = 0) → wR_step d 104 [.ref 1] [] s1 M1 Q)))) ∧ (¬ ((M.1 1 6) < (M.1 1 5)) → Q s (pm_si (pm_si M 1 8 (M.1 1 6)) 1 7 129)))) : wR_step d 60 [.ref 1] [] s M Q := by
  refine s_aload_n (i := 0) (by decide +kernel) rfl (pn 61 rfl ?_)
  refine s_aload_n (i := 0) (by decide +kernel) rfl (pn 62 rfl ?_)
  refine s_getfield (v := .int (M.1 1 6)) (by decide +kernel) fr_6_44 lq_1 (congrArg Prod.fst sh_1) rfl (pn 65 rfl ?_)
  refine s_putfieldI (by decide +kernel) fr_6_72 lq_1 (congrArg Prod.fst sh_1) (fun q => by cases q) (Or.inl rfl) (pn 68 rfl ?_)
  refine s_aload_n (i := 0) (by decide +kernel) rfl (pn 69 rfl ?_)
  refine s_getfield (v := .int (M.1 1 6)) (by decide +kernel) fr_6_44 lq_1 (congrArg Prod.fst sh_1) rfl (pn 72 rfl ?_)
  refine s_aload_n (i := 0) (by decide +kernel) rfl (pn 73 rfl ?_)
  refine s_getfield (v := .int (M.1 1 5)) (by decide +kernel) fr_6_38 lq_1 (congrArg Prod.fst sh_1) rfl (pn 76 rfl ?_)
  refine s_icmp_lt (off := 13) (tgt := 89) (by decide +kernel) rfl (fun c1 => ?_) (fun c1 => (pn 79 rfl ?_))
  · have h := h.1 c1
    refine s_aload_n (i := 0) (by decide +kernel) rfl (pn 90 rfl ?_)
    refine s_getfield (v := .ref 14) (by decide +kernel) fr_6_22 lq_1 (congrArg Prod.fst sh_1) (fv_ref pf_1_4) (pn 93 rfl ?_)
    refine s_aload_n (i := 0) (by decide +kernel) rfl (pn 94 rfl ?_)
    refine s_getfield (v := .int (M.1 1 6)) (by decide +kernel) fr_6_44 lq_1 (congrArg Prod.fst sh_1) rfl (pn 97 rfl ?_)
    obtain ⟨b1, h⟩ := h
    refine t_iaload (v := M.1 14 (M.1 1 6).toNatClampNeg) (by decide +kernel) ⟨Or.inl lq_14, congrArg Prod.fst sh_14⟩ (al_in sh_14 b1) rfl (pn 98 rfl ?_)
    refine s_callsI [.int (M.1 14 (M.1 1 6).toNatClampNeg)] rfl (by decide +kernel) ms_6_75 np_56 (Nat.le_of_ble_eq_true rfl) (cI_use h (fun r1 s1 M1 h => (pn 101 rfl ?_)))
    refine s_if_eq (off := 61) (tgt := 162) (by decide +kernel) rfl (fun c2 => ?_) (fun c2 => (pn 104 rfl ?_))
    · have h := h.1 c2
      refine s_aload_n (i := 0) (by decide +kernel) rfl (pn 163 rfl ?_)
      refine s_getfield (v := .ref 14) (by decide +kernel) fr_6_22 lq_1 (congrArg Prod.fst sh_1) (fv_ref pf_1_4) (pn 166 rfl ?_)
      refine s_aload_n (i := 0) (by decide +kernel) rfl (pn 167 rfl ?_)
      refine s_getfield (v := .int (M1.1 1 6)) (by decide +kernel) fr_6_44 lq_1 (congrArg Prod.fst sh_1) rfl (pn 170 rfl ?_)
      obtain ⟨b2, h⟩ := h
      refine t_iaload (v := M1.1 14 (M1.1 1 6).toNatClampNeg) (by decide +kernel) ⟨Or.inl lq_14, congrArg Prod.fst sh_14⟩ (al_in sh_14 b2) rfl (pn 171 rfl ?_)
      refine s_callsI [.int (M1.1 14 (M1.1 1 6).toNatClampNeg)] rfl (by decide +kernel) ms_6_82 np_58 (Nat.le_of_ble_eq_true rfl) (cI_use h (fun r2 s2 M2 h => (pn 174 rfl ?_)))
      refine s_if_eq (off := 10) (tgt := 184) (by decide +kernel) rfl (fun c3 => ?_) (fun c3 => (pn 177 rfl ?_))
      · have h := h.1 c3
        refine s_aload_n (i := 0) (by decide +kernel) rfl (pn 185 rfl ?_)
        refine s_getfield (v := .ref 14) (by decide +kernel) fr_6_22 lq_1 (congrArg Prod.fst sh_1) (fv_ref pf_1_4) (pn 188 rfl ?_)
        refine s_aload_n (i := 0) (by decide +kernel) rfl (pn 189 rfl ?_)
        refine s_getfield (v := .int (M2.1 1 6)) (by decide +kernel) fr_6_44 lq_1 (congrArg Prod.fst sh_1) rfl (pn 192 rfl ?_)
        obtain ⟨b3, h⟩ := h
        refine t_iaload (v := M2.1 14 (M2.1 1 6).toNatClampNeg) (by decide +kernel) ⟨Or.inl lq_14, congrArg Prod.fst sh_14⟩ (al_in sh_14 b3) rfl (pn 193 rfl ?_)
        refine s_callsI [.int (M2.1 14 (M2.1 1 6).toNatClampNeg)] rfl (by decide +kernel) ms_6_88 np_61 (Nat.le_of_ble_eq_true rfl) (cI_use h (fun r3 s3 M3 h => (pn 196 rfl ?_)))
        refine s_if_eq (off := 29) (tgt := 225) (by decide +kernel) rfl (fun c4 => ?_) (fun c4 => (pn 199 rfl ?_))
        · have h := h.1 c4
          refine s_aload_n (i := 0) (by decide +kernel) rfl (pn 226 rfl ?_)
          refine t_iconst (by decide +kernel) ki_1 (pn 227 rfl ?_)
          refine s_callvV [.int 1] rfl (by decide +kernel) mv_6_91 np_60 (Nat.le_of_ble_eq_true rfl) lq_1 ((congrArg Prod.fst sh_1).trans oc_60) (cV_use h (fun s4 M4 h => (pn 230 rfl ?_)))
          exact s_return (st := []) (by decide +kernel) rfl ⟨rfl, s4, rfl, h⟩
        · have h := h.2 c4
          refine s_aload_n (i := 0) (by decide +kernel) rfl (pn 200 rfl ?_)
          refine s_aload_n (i := 0) (by decide +kernel) rfl (pn 201 rfl ?_)
          refine s_getfield (v := .ref 14) (by decide +kernel) fr_6_22 lq_1 (congrArg Prod.fst sh_1) (fv_ref pf_1_4) (pn 204 rfl ?_)
          refine s_aload_n (i := 0) (by decide +kernel) rfl (pn 205 rfl ?_)
          refine s_getfield (v := .int (M3.1 1 6)) (by decide +kernel) fr_6_44 lq_1 (congrArg Prod.fst sh_1) rfl (pn 208 rfl ?_)
          obtain ⟨b4, h⟩ := h
          refine t_iaload (v := M3.1 14 (M3.1 1 6).toNatClampNeg) (by decide +kernel) ⟨Or.inl lq_14, congrArg Prod.fst sh_14⟩ (al_in sh_14 b4) rfl (pn 209 rfl ?_)
          refine s_putfieldI (by decide +kernel) fr_6_69 lq_1 (congrArg Prod.fst sh_1) (fun q => by cases q) (Or.inl rfl) (pn 212 rfl ?_)
          refine s_aload_n (i := 0) (by decide +kernel) rfl (pn 213 rfl ?_)
          refine s_dup (by decide +kernel) rfl (pn 214 rfl ?_)
          refine s_getfield (v := .int (M3.1 1 6)) (by decide +kernel) fr_6_44 lq_1 (congrArg Prod.fst sh_1) rfl (pn 217 rfl ?_)
          refine t_iconst (by decide +kernel) ki_1 (pn 218 rfl ?_)
          refine s_iadd (by decide +kernel) (pn 219 rfl ?_)
          refine s_putfieldI (by decide +kernel) fr_6_44 lq_1 (congrArg Prod.fst sh_1) (fun q => by cases q) (Or.inl rfl) (pn 222 rfl ?_)
          refine s_goto (off := 8) (tgt := 230) (by decide +kernel) rfl ?_
          exact s_return (st := []) (by decide +kernel) rfl ⟨rfl, s3, rfl, h⟩
      · have h := h.2 c3
        refine s_aload_n (i := 0) (by decide +kernel) rfl (pn 178 rfl ?_)
        refine s_callvV [] rfl (by decide +kernel) mv_6_85 np_59 (Nat.le_of_ble_eq_true rfl) lq_1 ((congrArg Prod.fst sh_1).trans oc_59) (cV_use h (fun s5 M5 h => (pn 181 rfl ?_)))
        refine s_goto (off := 49) (tgt := 230) (by decide +kernel) rfl ?_
        exact s_return (st := []) (by decide +kernel) rfl ⟨rfl, s5, rfl, h⟩
    · have h := h.2 c2
      exact h
  · have h := h.2 c1
    refine s_aload_n (i := 0) (by decide +kernel) rfl (pn 80 rfl ?_)
    refine t_sipush (by decide +kernel) ks_129 (pn 83 rfl ?_)
    refine s_putfieldI (by decide +kernel) fr_6_69 lq_1 (congrArg Prod.fst sh_1) (fun q => by cases q) (Or.inl rfl) (pn 86 rfl ?_)
    refine s_goto (off := 144) (tgt := 230) (by decide +kernel) rfl ?_
    exact s_return (st := []) (by decide +kernel) rfl ⟨rfl, s, rfl, h⟩
theorem sgR_step_104 {d : Nat} {s : pm_S} {M : pm_M}  {Q : pm_S → pm_M → Prop}  (h : ((((M.1 1 5) ≤ (M.1 1 6)) → cI d yR_wordFrom [.ref 1, .int (M.1 1 8), .int (M.1 1 6)] s M (fun r1 s1 M1 => Q s1 (pm_si M1 1 7 r1))) ∧ (¬ ((M.1 1 5) ≤ (M.1 1 6)) → vp_in (M.1 1 6) 900 ∧ cI d yR_isLetter [.int (M.1 14 (M.1 1 6).toNatClampNeg)] s M (fun r2 s2 M2 => (((r2 = 0) → cI d yR_wordFrom [.ref 1, .int (M2.1 1 8), .int (M2.1 1 6)] s2 M2 (fun r3 s3 M3 => Q s3 (pm_si M3 1 7 r3))) ∧ (¬ (r2 = 0) → wR_step d 104 [.ref 1] [] s2 (pm_si M2 1 6 ((M2.1 1 6) + 1)) Q)))))) : wR_step d 104 [.ref 1] [] s M Q := by
  refine s_aload_n (i := 0) (by decide +kernel) rfl (pn 105 rfl ?_)
  refine s_getfield (v := .int (M.1 1 6)) (by decide +kernel) fr_6_44 lq_1 (congrArg Prod.fst sh_1) rfl (pn 108 rfl ?_)
  refine s_aload_n (i := 0) (by decide +kernel) rfl (pn 109 rfl ?_)
  refine s_getfield (v := .int (M.1 1 5)) (by decide +kernel) fr_6_38 lq_1 (congrArg Prod.fst sh_1) rfl (pn 112 rfl ?_)
  refine s_icmp_ge (off := 31) (tgt := 143) (by decide +kernel) rfl (fun c1 => ?_) (fun c1 => (pn 115 rfl ?_))
  · have h := h.1 c1
    refine s_aload_n (i := 0) (by decide +kernel) rfl (pn 144 rfl ?_)
    refine s_aload_n (i := 0) (by decide +kernel) rfl (pn 145 rfl ?_)
    refine s_aload_n (i := 0) (by decide +kernel) rfl (pn 146 rfl ?_)
    refine s_getfield (v := .int (M.1 1 8)) (by decide +kernel) fr_6_72 lq_1 (congrArg Prod.fst sh_1) rfl (pn 149 rfl ?_)
    refine s_aload_n (i := 0) (by decide +kernel) rfl (pn 150 rfl ?_)
    refine s_getfield (v := .int (M.1 1 6)) (by decide +kernel) fr_6_44 lq_1 (congrArg Prod.fst sh_1) rfl (pn 153 rfl ?_)
    refine s_callvI [.int (M.1 1 8), .int (M.1 1 6)] rfl (by decide +kernel) mv_6_79 np_57 (Nat.le_of_ble_eq_true rfl) lq_1 ((congrArg Prod.fst sh_1).trans oc_57) (cI_use h (fun r1 s1 M1 h => (pn 156 rfl ?_)))
    refine s_putfieldI (by decide +kernel) fr_6_69 lq_1 (congrArg Prod.fst sh_1) (fun q => by cases q) (Or.inl rfl) (pn 159 rfl ?_)
    refine s_goto (off := 71) (tgt := 230) (by decide +kernel) rfl ?_
    exact s_return (st := []) (by decide +kernel) rfl ⟨rfl, s1, rfl, h⟩
  · have h := h.2 c1
    refine s_aload_n (i := 0) (by decide +kernel) rfl (pn 116 rfl ?_)
    refine s_getfield (v := .ref 14) (by decide +kernel) fr_6_22 lq_1 (congrArg Prod.fst sh_1) (fv_ref pf_1_4) (pn 119 rfl ?_)
    refine s_aload_n (i := 0) (by decide +kernel) rfl (pn 120 rfl ?_)
    refine s_getfield (v := .int (M.1 1 6)) (by decide +kernel) fr_6_44 lq_1 (congrArg Prod.fst sh_1) rfl (pn 123 rfl ?_)
    obtain ⟨b1, h⟩ := h
    refine t_iaload (v := M.1 14 (M.1 1 6).toNatClampNeg) (by decide +kernel) ⟨Or.inl lq_14, congrArg Prod.fst sh_14⟩ (al_in sh_14 b1) rfl (pn 124 rfl ?_)
    refine s_callsI [.int (M.1 14 (M.1 1 6).toNatClampNeg)] rfl (by decide +kernel) ms_6_75 np_56 (Nat.le_of_ble_eq_true rfl) (cI_use h (fun r2 s2 M2 h => (pn 127 rfl ?_)))
    refine s_if_eq (off := 16) (tgt := 143) (by decide +kernel) rfl (fun c2 => ?_) (fun c2 => (pn 130 rfl ?_))
    · have h := h.1 c2
      refine s_aload_n (i := 0) (by decide +kernel) rfl (pn 144 rfl ?_)
      refine s_aload_n (i := 0) (by decide +kernel) rfl (pn 145 rfl ?_)
      refine s_aload_n (i := 0) (by decide +kernel) rfl (pn 146 rfl ?_)
      refine s_getfield (v := .int (M2.1 1 8)) (by decide +kernel) fr_6_72 lq_1 (congrArg Prod.fst sh_1) rfl (pn 149 rfl ?_)
      refine s_aload_n (i := 0) (by decide +kernel) rfl (pn 150 rfl ?_)
      refine s_getfield (v := .int (M2.1 1 6)) (by decide +kernel) fr_6_44 lq_1 (congrArg Prod.fst sh_1) rfl (pn 153 rfl ?_)
      refine s_callvI [.int (M2.1 1 8), .int (M2.1 1 6)] rfl (by decide +kernel) mv_6_79 np_57 (Nat.le_of_ble_eq_true rfl) lq_1 ((congrArg Prod.fst sh_1).trans oc_57) (cI_use h (fun r3 s3 M3 h => (pn 156 rfl ?_)))
      refine s_putfieldI (by decide +kernel) fr_6_69 lq_1 (congrArg Prod.fst sh_1) (fun q => by cases q) (Or.inl rfl) (pn 159 rfl ?_)
      refine s_goto (off := 71) (tgt := 230) (by decide +kernel) rfl ?_
      exact s_return (st := []) (by decide +kernel) rfl ⟨rfl, s3, rfl, h⟩
    · have h := h.2 c2
      refine s_aload_n (i := 0) (by decide +kernel) rfl (pn 131 rfl ?_)
      refine s_dup (by decide +kernel) rfl (pn 132 rfl ?_)
      refine s_getfield (v := .int (M2.1 1 6)) (by decide +kernel) fr_6_44 lq_1 (congrArg Prod.fst sh_1) rfl (pn 135 rfl ?_)
      refine t_iconst (by decide +kernel) ki_1 (pn 136 rfl ?_)
      refine s_iadd (by decide +kernel) (pn 137 rfl ?_)
      refine s_putfieldI (by decide +kernel) fr_6_44 lq_1 (congrArg Prod.fst sh_1) (fun q => by cases q) (Or.inl rfl) (pn 140 rfl ?_)
      refine s_goto (off := -36) (tgt := 104) (by decide +kernel) rfl ?_
      exact h
abbrev wR_isLetter (d pc : Nat) (ls st : List Value) (s : pm_S) (M : pm_M) (Q : Int32 → pm_S → pm_M → Prop) : Prop := wI d prog_8_method_7_code 6 (some .boolean) false pc ls st s M Q
theorem enR_isLetter {d : Nat} {s : pm_S} {M : pm_M} {x1 : Int32} {Q : Int32 → pm_S → pm_M → Prop}  (h : Q ((if x1 < 97 then 0 else (if 122 < x1 then 0 else 1)) : Int32) s M) : cI (d + 1) yR_isLetter [.int x1] s M Q := by
  refine pm_toI (by decide) (Nat.le_of_ble_eq_true rfl) ?_
  show wR_isLetter d 0 [.int x1] [] s M Q
  refine s_iload_n (i := 0) (by decide +kernel) rfl (pn 1 rfl ?_)
  refine t_bipush (by decide +kernel) kb_97 (pn 3 rfl ?_)
  have k1 : ∀ (z1 : Int32) (z1e : z1 = ((if x1 < 97 then 0 else (if 122 < x1 then 0 else 1)) : Int32)), wR_isLetter d 17 [.int x1] [.int z1] s M Q := by
    intro z1 z1e
    subst z1e
    exact s_ireturn (st := []) (by decide +kernel) (Or.inr ⟨rfl, (or01 (Or.inl rfl) (or01 (Or.inl rfl) (Or.inr rfl)))⟩) ⟨_, rfl, s, rfl, h⟩
  refine s_icmp_lt (off := 13) (tgt := 16) (by decide +kernel) rfl (fun c1 => ?_) (fun c1 => (pn 6 rfl ?_))
  · refine t_iconst (by decide +kernel) ki_0 (pn 17 rfl ?_)
    exact k1 _ (by simp only [if_pos c1])
  · refine s_iload_n (i := 0) (by decide +kernel) rfl (pn 7 rfl ?_)
    refine t_bipush (by decide +kernel) kb_122 (pn 9 rfl ?_)
    refine s_icmp_gt (off := 7) (tgt := 16) (by decide +kernel) rfl (fun c2 => ?_) (fun c2 => (pn 12 rfl ?_))
    · refine t_iconst (by decide +kernel) ki_0 (pn 17 rfl ?_)
      exact k1 _ (by simp only [if_neg c1, if_pos c2])
    · refine t_iconst (by decide +kernel) ki_1 (pn 13 rfl ?_)
      refine s_goto (off := 4) (tgt := 17) (by decide +kernel) rfl ?_
      exact k1 _ (by simp only [if_neg c1, if_neg c2])
abbrev wR_wordFrom (d pc : Nat) (ls st : List Value) (s : pm_S) (M : pm_M) (Q : Int32 → pm_S → pm_M → Prop) : Prop := wI d prog_8_method_11_code 6 (some .int) false pc ls st s M Q
theorem enR_wordFrom {d : Nat} {s : pm_S} {M : pm_M} {x1 : Int32} {x2 : Int32} {Q : Int32 → pm_S → pm_M → Prop}  (h : wR_wordFrom d 13 [.ref 1, .int x1, .int x2, .int 200, .int x1, .int 1, .int 0, .null] [] s M Q) : cI (d + 1) yR_wordFrom [.ref 1, .int x1, .int x2] s M Q := by
  refine pm_toI (by decide) (Nat.le_of_ble_eq_true rfl) ?_
  show wR_wordFrom d 0 [.ref 1, .int x1, .int x2, .null, .null, .null, .null, .null] [] s M Q
  refine t_sipush (by decide +kernel) ks_200 (pn 3 rfl ?_)
  refine s_istore_n (i := 3) (by decide +kernel) (Nat.le_of_ble_eq_true rfl) (pn 4 rfl (t_store (ls' := [.ref 1, .int x1, .int x2, .int 200, .null, .null, .null, .null]) rfl ?_))
  refine s_iload_n (i := 1) (by decide +kernel) rfl (pn 5 rfl ?_)
  refine s_istore (i := 4) (by decide +kernel) (Nat.le_of_ble_eq_true rfl) (pn 7 rfl (t_store (ls' := [.ref 1, .int x1, .int x2, .int 200, .int x1, .null, .null, .null]) rfl ?_))
  refine t_iconst (by decide +kernel) ki_1 (pn 8 rfl ?_)
  refine s_istore (i := 5) (by decide +kernel) (Nat.le_of_ble_eq_true rfl) (pn 10 rfl (t_store (ls' := [.ref 1, .int x1, .int x2, .int 200, .int x1, .int 1, .null, .null]) rfl ?_))
  refine t_iconst (by decide +kernel) ki_0 (pn 11 rfl ?_)
  refine s_istore (i := 6) (by decide +kernel) (Nat.le_of_ble_eq_true rfl) (pn 13 rfl (t_store (ls' := [.ref 1, .int x1, .int x2, .int 200, .int x1, .int 1, .int 0, .null]) rfl ?_))
  exact h
theorem sgR_wordFrom_13 {d : Nat} {s : pm_S} {M : pm_M} {l1 : Int32} {l2 : Int32} {l3 : Int32} {l4 : Int32} {l5 : Int32} {l6 : Int32} {Q : Int32 → pm_S → pm_M → Prop}  (h : (((103 < l6) → Q 130 s M) ∧ (¬ (103 < l6) → (((103 ≤ l6) → wR_wordFrom d 45 [.ref 1, .int l1, .int l2, .int l3, .int l4, .int l5, .int l6, .null] [.int 32] s M Q) ∧ (¬ (103 ≤ l6) → vp_in l6 103 ∧ wR_wordFrom d 45 [.ref 1, .int l1, .int l2, .int l3, .int l4, .int l5, .int l6, .null] [.int (pm_sc 0 l6.toNatClampNeg)] s M Q))))) : wR_wordFrom d 13 [.ref 1, .int l1, .int l2, .int l3, .int l4, .int l5, .int l6, .null] [] s M Q := by
  refine s_iload (i := 6) (by decide +kernel) rfl (pn 15 rfl ?_)
  refine s_ldc (by decide +kernel) kc_6_97 (pn 17 rfl ?_)
  refine t_strlen (j := 0) (v := 103) (by decide +kernel) sv_6_99 (by decide) (Nat.le_of_ble_eq_true rfl) (by decide) (pn 20 rfl ?_)
  refine s_icmp_gt (off := 98) (tgt := 118) (by decide +kernel) rfl (fun c1 => ?_) (fun c1 => (pn 23 rfl ?_))
  · have h := h.1 c1
    refine t_sipush (by decide +kernel) ks_130 (pn 121 rfl ?_)
    exact s_ireturn (st := []) (by decide +kernel) (Or.inl rfl) ⟨_, rfl, s, rfl, h⟩
  · have h := h.2 c1
    refine s_iload (i := 6) (by decide +kernel) rfl (pn 25 rfl ?_)
    refine s_ldc (by decide +kernel) kc_6_97 (pn 27 rfl ?_)
    refine t_strlen (j := 0) (v := 103) (by decide +kernel) sv_6_99 (by decide) (Nat.le_of_ble_eq_true rfl) (by decide) (pn 30 rfl ?_)
    refine s_icmp_ge (off := 13) (tgt := 43) (by decide +kernel) rfl (fun c2 => ?_) (fun c2 => (pn 33 rfl ?_))
    · have h := h.1 c2
      refine t_bipush (by decide +kernel) kb_32 (pn 45 rfl ?_)
      exact h
    · have h := h.2 c2
      refine s_ldc (by decide +kernel) kc_6_97 (pn 35 rfl ?_)
      refine s_iload (i := 6) (by decide +kernel) rfl (pn 37 rfl ?_)
      obtain ⟨b1, h⟩ := h
      refine s_charAt (j := 0) (by decide +kernel) sv_6_104 (by decide) b1 (Nat.le_of_ble_eq_true rfl) (pn 40 rfl ?_)
      refine s_goto (off := 5) (tgt := 45) (by decide +kernel) rfl ?_
      exact h
theorem sgR_wordFrom_45 {d : Nat} {s : pm_S} {M : pm_M} {l1 : Int32} {l2 : Int32} {l3 : Int32} {l4 : Int32} {l5 : Int32} {l6 : Int32} {t0 : Int32} {Q : Int32 → pm_S → pm_M → Prop}  (h : (((t0 = 32) → (((l5 = 0) → wR_wordFrom d 13 [.ref 1, .int l1, .int l2, .int (l3 + 1), .int l1, .int 1, .int (l6 + 1), .null] [] s M Q) ∧ (¬ (l5 = 0) → ((l4 = l2 → Q l3 s M) ∧ (¬ (l4 = l2) → wR_wordFrom d 13 [.ref 1, .int l1, .int l2, .int (l3 + 1), .int l1, .int 1, .int (l6 + 1), .null] [] s M Q))))) ∧ (¬ (t0 = 32) → (¬ (l5 = 0) → (¬ (l2 ≤ l4) → vp_in l4 900)) ∧ (∀ v1 : Int32, v1 = ((if l5 = 0 then 0 else (if l2 ≤ l4 then 0 else (if (M.1 14 l4.toNatClampNeg) = t0 then 1 else 0))) : Int32) → wR_wordFrom d 13 [.ref 1, .int l1, .int l2, .int l3, .int (l4 + 1), .int v1, .int (l6 + 1), .null] [] s M Q)))) : wR_wordFrom d 45 [.ref 1, .int l1, .int l2, .int l3, .int l4, .int l5, .int l6, .null] [.int t0] s M Q := by
  refine s_istore (i := 7) (by decide +kernel) (Nat.le_of_ble_eq_true rfl) (pn 47 rfl (t_store (ls' := [.ref 1, .int l1, .int l2, .int l3, .int l4, .int l5, .int l6, .int t0]) rfl ?_))
  refine s_iload (i := 7) (by decide +kernel) rfl (pn 49 rfl ?_)
  refine t_bipush (by decide +kernel) kb_32 (pn 51 rfl ?_)
  refine s_icmp_eq (off := 39) (tgt := 90) (by decide +kernel) rfl (fun c1 => ?_) (fun c1 => (pn 54 rfl ?_))
  · have h := h.1 c1
    refine s_iload (i := 5) (by decide +kernel) rfl (pn 92 rfl ?_)
    refine s_if_eq (off := 11) (tgt := 103) (by decide +kernel) rfl (fun c2 => ?_) (fun c2 => (pn 95 rfl ?_))
    · have h := h.1 c2
      refine t_iinc (i := 3) (n := 1) (ls' := [.ref 1, .int l1, .int l2, .int (l3 + 1), .int l4, .int l5, .int l6, .int t0]) (by decide +kernel) rfl (Nat.le_of_ble_eq_true rfl) kn_1 rfl (pn 106 rfl ?_)
      refine s_iload_n (i := 1) (by decide +kernel) rfl (pn 107 rfl ?_)
      refine s_istore (i := 4) (by decide +kernel) (Nat.le_of_ble_eq_true rfl) (pn 109 rfl (t_store (ls' := [.ref 1, .int l1, .int l2, .int (l3 + 1), .int l1, .int l5, .int l6, .int t0]) rfl ?_))
      refine t_iconst (by decide +kernel) ki_1 (pn 110 rfl ?_)
      refine s_istore (i := 5) (by decide +kernel) (Nat.le_of_ble_eq_true rfl) (pn 112 rfl (t_store (ls' := [.ref 1, .int l1, .int l2, .int (l3 + 1), .int l1, .int 1, .int l6, .int t0]) rfl ?_))
      refine t_iinc (i := 6) (n := 1) (ls' := [.ref 1, .int l1, .int l2, .int (l3 + 1), .int l1, .int 1, .int (l6 + 1), .int t0]) (by decide +kernel) rfl (Nat.le_of_ble_eq_true rfl) kn_1 rfl (pn 115 rfl ?_)
      refine s_goto (off := -102) (tgt := 13) (by decide +kernel) rfl ?_
      exact pm_weak [.ref 1, .int l1, .int l2, .int (l3 + 1), .int l1, .int 1, .int (l6 + 1), .null] (pm_le_cons (Or.inr rfl) (pm_le_cons (Or.inr rfl) (pm_le_cons (Or.inr rfl) (pm_le_cons (Or.inr rfl) (pm_le_cons (Or.inr rfl) (pm_le_cons (Or.inr rfl) (pm_le_cons (Or.inr rfl) (pm_le_cons (Or.inl rfl) pm_le_nil)))))))) h
    · have h := h.2 c2
      refine s_iload (i := 4) (by decide +kernel) rfl (pn 97 rfl ?_)
      refine s_iload_n (i := 2) (by decide +kernel) rfl (pn 98 rfl ?_)
      refine t_icmp_ne (off := 5) (tgt := 103) (by decide +kernel) rfl (fun c3 => ?_) (fun c3 => (pn 101 rfl ?_))
      · have h := h.2 c3
        refine t_iinc (i := 3) (n := 1) (ls' := [.ref 1, .int l1, .int l2, .int (l3 + 1), .int l4, .int l5, .int l6, .int t0]) (by decide +kernel) rfl (Nat.le_of_ble_eq_true rfl) kn_1 rfl (pn 106 rfl ?_)
        refine s_iload_n (i := 1) (by decide +kernel) rfl (pn 107 rfl ?_)
        refine s_istore (i := 4) (by decide +kernel) (Nat.le_of_ble_eq_true rfl) (pn 109 rfl (t_store (ls' := [.ref 1, .int l1, .int l2, .int (l3 + 1), .int l1, .int l5, .int l6, .int t0]) rfl ?_))
        refine t_iconst (by decide +kernel) ki_1 (pn 110 rfl ?_)
        refine s_istore (i := 5) (by decide +kernel) (Nat.le_of_ble_eq_true rfl) (pn 112 rfl (t_store (ls' := [.ref 1, .int l1, .int l2, .int (l3 + 1), .int l1, .int 1, .int l6, .int t0]) rfl ?_))
        refine t_iinc (i := 6) (n := 1) (ls' := [.ref 1, .int l1, .int l2, .int (l3 + 1), .int l1, .int 1, .int (l6 + 1), .int t0]) (by decide +kernel) rfl (Nat.le_of_ble_eq_true rfl) kn_1 rfl (pn 115 rfl ?_)
        refine s_goto (off := -102) (tgt := 13) (by decide +kernel) rfl ?_
        exact pm_weak [.ref 1, .int l1, .int l2, .int (l3 + 1), .int l1, .int 1, .int (l6 + 1), .null] (pm_le_cons (Or.inr rfl) (pm_le_cons (Or.inr rfl) (pm_le_cons (Or.inr rfl) (pm_le_cons (Or.inr rfl) (pm_le_cons (Or.inr rfl) (pm_le_cons (Or.inr rfl) (pm_le_cons (Or.inr rfl) (pm_le_cons (Or.inl rfl) pm_le_nil)))))))) h
      · have h := h.1 c3
        refine s_iload_n (i := 3) (by decide +kernel) rfl (pn 102 rfl ?_)
        exact s_ireturn (st := []) (by decide +kernel) (Or.inl rfl) ⟨_, rfl, s, rfl, h⟩
  · have h := h.2 c1
    refine s_iload (i := 5) (by decide +kernel) rfl (pn 56 rfl ?_)
    obtain ⟨b1, h⟩ := h
    have k1 : ∀ (z1 : Int32) (z1e : z1 = ((if l5 = 0 then 0 else (if l2 ≤ l4 then 0 else (if (M.1 14 l4.toNatClampNeg) = t0 then 1 else 0))) : Int32)), wR_wordFrom d 82 [.ref 1, .int l1, .int l2, .int l3, .int l4, .int l5, .int l6, .int t0] [.int z1] s M Q := by
      intro z1 z1e
      subst z1e
      obtain ⟨v1, ev1⟩ : ∃ zz : Int32, zz = ((if l5 = 0 then 0 else (if l2 ≤ l4 then 0 else (if (M.1 14 l4.toNatClampNeg) = t0 then 1 else 0))) : Int32) := ⟨_, rfl⟩
      have h := h v1 ev1
      rw [← ev1]
      refine s_istore (i := 5) (by decide +kernel) (Nat.le_of_ble_eq_true rfl) (pn 84 rfl (t_store (ls' := [.ref 1, .int l1, .int l2, .int l3, .int l4, .int v1, .int l6, .int t0]) rfl ?_))
      refine t_iinc (i := 4) (n := 1) (ls' := [.ref 1, .int l1, .int l2, .int l3, .int (l4 + 1), .int v1, .int l6, .int t0]) (by decide +kernel) rfl (Nat.le_of_ble_eq_true rfl) kn_1 rfl (pn 87 rfl ?_)
      refine s_goto (off := 25) (tgt := 112) (by decide +kernel) rfl ?_
      refine t_iinc (i := 6) (n := 1) (ls' := [.ref 1, .int l1, .int l2, .int l3, .int (l4 + 1), .int v1, .int (l6 + 1), .int t0]) (by decide +kernel) rfl (Nat.le_of_ble_eq_true rfl) kn_1 rfl (pn 115 rfl ?_)
      refine s_goto (off := -102) (tgt := 13) (by decide +kernel) rfl ?_
      exact pm_weak [.ref 1, .int l1, .int l2, .int l3, .int (l4 + 1), .int v1, .int (l6 + 1), .null] (pm_le_cons (Or.inr rfl) (pm_le_cons (Or.inr rfl) (pm_le_cons (Or.inr rfl) (pm_le_cons (Or.inr rfl) (pm_le_cons (Or.inr rfl) (pm_le_cons (Or.inr rfl) (pm_le_cons (Or.inr rfl) (pm_le_cons (Or.inl rfl) pm_le_nil)))))))) h
    refine s_if_eq (off := 25) (tgt := 81) (by decide +kernel) rfl (fun c4 => ?_) (fun c4 => (pn 59 rfl ?_))
    · refine t_iconst (by decide +kernel) ki_0 (pn 82 rfl ?_)
      exact k1 _ (by simp only [if_pos c4])
    · refine s_iload (i := 4) (by decide +kernel) rfl (pn 61 rfl ?_)
      refine s_iload_n (i := 2) (by decide +kernel) rfl (pn 62 rfl ?_)
      refine s_icmp_ge (off := 19) (tgt := 81) (by decide +kernel) rfl (fun c5 => ?_) (fun c5 => (pn 65 rfl ?_))
      · refine t_iconst (by decide +kernel) ki_0 (pn 82 rfl ?_)
        exact k1 _ (by simp only [if_neg c4, if_pos c5])
      · refine s_aload_n (i := 0) (by decide +kernel) rfl (pn 66 rfl ?_)
        refine s_getfield (v := .ref 14) (by decide +kernel) fr_6_22 lq_1 (congrArg Prod.fst sh_1) (fv_ref pf_1_4) (pn 69 rfl ?_)
        refine s_iload (i := 4) (by decide +kernel) rfl (pn 71 rfl ?_)
        refine t_iaload (v := M.1 14 l4.toNatClampNeg) (by decide +kernel) ⟨Or.inl lq_14, congrArg Prod.fst sh_14⟩ (al_in sh_14 (b1 c4 c5)) rfl (pn 72 rfl ?_)
        refine s_iload (i := 7) (by decide +kernel) rfl (pn 74 rfl ?_)
        refine t_icmp_ne (off := 7) (tgt := 81) (by decide +kernel) rfl (fun c6 => ?_) (fun c6 => (pn 77 rfl ?_))
        · refine t_iconst (by decide +kernel) ki_0 (pn 82 rfl ?_)
          exact k1 _ (by simp only [if_neg c4, if_neg c5, if_neg c6])
        · refine t_iconst (by decide +kernel) ki_1 (pn 78 rfl ?_)
          refine s_goto (off := 4) (tgt := 82) (by decide +kernel) rfl ?_
          exact k1 _ (by simp only [if_neg c4, if_neg c5, if_pos c6])
abbrev wR_isDigit (d pc : Nat) (ls st : List Value) (s : pm_S) (M : pm_M) (Q : Int32 → pm_S → pm_M → Prop) : Prop := wI d prog_8_method_8_code 6 (some .boolean) false pc ls st s M Q
theorem enR_isDigit {d : Nat} {s : pm_S} {M : pm_M} {x1 : Int32} {Q : Int32 → pm_S → pm_M → Prop}  (h : Q ((if x1 < 48 then 0 else (if 57 < x1 then 0 else 1)) : Int32) s M) : cI (d + 1) yR_isDigit [.int x1] s M Q := by
  refine pm_toI (by decide) (Nat.le_of_ble_eq_true rfl) ?_
  show wR_isDigit d 0 [.int x1] [] s M Q
  refine s_iload_n (i := 0) (by decide +kernel) rfl (pn 1 rfl ?_)
  refine t_bipush (by decide +kernel) kb_48 (pn 3 rfl ?_)
  have k1 : ∀ (z1 : Int32) (z1e : z1 = ((if x1 < 48 then 0 else (if 57 < x1 then 0 else 1)) : Int32)), wR_isDigit d 17 [.int x1] [.int z1] s M Q := by
    intro z1 z1e
    subst z1e
    exact s_ireturn (st := []) (by decide +kernel) (Or.inr ⟨rfl, (or01 (Or.inl rfl) (or01 (Or.inl rfl) (Or.inr rfl)))⟩) ⟨_, rfl, s, rfl, h⟩
  refine s_icmp_lt (off := 13) (tgt := 16) (by decide +kernel) rfl (fun c1 => ?_) (fun c1 => (pn 6 rfl ?_))
  · refine t_iconst (by decide +kernel) ki_0 (pn 17 rfl ?_)
    exact k1 _ (by simp only [if_pos c1])
  · refine s_iload_n (i := 0) (by decide +kernel) rfl (pn 7 rfl ?_)
    refine t_bipush (by decide +kernel) kb_57 (pn 9 rfl ?_)
    refine s_icmp_gt (off := 7) (tgt := 16) (by decide +kernel) rfl (fun c2 => ?_) (fun c2 => (pn 12 rfl ?_))
    · refine t_iconst (by decide +kernel) ki_0 (pn 17 rfl ?_)
      exact k1 _ (by simp only [if_neg c1, if_pos c2])
    · refine t_iconst (by decide +kernel) ki_1 (pn 13 rfl ?_)
      refine s_goto (off := 4) (tgt := 17) (by decide +kernel) rfl ?_
      exact k1 _ (by simp only [if_neg c1, if_neg c2])
abbrev wR_readDigits (d pc : Nat) (ls st : List Value) (s : pm_S) (M : pm_M) (Q : pm_S → pm_M → Prop) : Prop := wV d prog_8_method_10_code 6 none false pc ls st s M Q
theorem enR_readDigits {d : Nat} {s : pm_S} {M : pm_M}  {Q : pm_S → pm_M → Prop}  (h : wR_readDigits d 5 [.ref 1] [] s (pm_si M 1 9 0) Q) : cV (d + 1) yR_readDigits [.ref 1] s M Q := by
  refine pm_toV (by decide) (Nat.le_of_ble_eq_true rfl) ?_
  show wR_readDigits d 0 [.ref 1] [] s M Q
  refine s_aload_n (i := 0) (by decide +kernel) rfl (pn 1 rfl ?_)
  refine t_iconst (by decide +kernel) ki_0 (pn 2 rfl ?_)
  refine s_putfieldI (by decide +kernel) fr_6_94 lq_1 (congrArg Prod.fst sh_1) (fun q => by cases q) (Or.inl rfl) (pn 5 rfl ?_)
  exact h
theorem sgR_readDigits_5 {d : Nat} {s : pm_S} {M : pm_M}  {Q : pm_S → pm_M → Prop}  (h : ((((M.1 1 5) ≤ (M.1 1 6)) → (((((M.1 1 6) - (M.1 1 8)) ≤ 3) → Q s (pm_si M 1 7 128)) ∧ (¬ (((M.1 1 6) - (M.1 1 8)) ≤ 3) → cV d yR_fail [.ref 1, .int 1] s (pm_si M 1 7 128) (fun s1 M1 => Q s1 M1)))) ∧ (¬ ((M.1 1 5) ≤ (M.1 1 6)) → vp_in (M.1 1 6) 900 ∧ cI d yR_isDigit [.int (M.1 14 (M.1 1 6).toNatClampNeg)] s M (fun r1 s2 M2 => (((r1 = 0) → (((((M2.1 1 6) - (M2.1 1 8)) ≤ 3) → Q s2 (pm_si M2 1 7 128)) ∧ (¬ (((M2.1 1 6) - (M2.1 1 8)) ≤ 3) → cV d yR_fail [.ref 1, .int 1] s2 (pm_si M2 1 7 128) (fun s3 M3 => Q s3 M3)))) ∧ (¬ (r1 = 0) → (((3 ≤ ((M2.1 1 6) - (M2.1 1 8))) → wR_readDigits d 5 [.ref 1] [] s2 (pm_si M2 1 6 ((M2.1 1 6) + 1)) Q) ∧ (¬ (3 ≤ ((M2.1 1 6) - (M2.1 1 8))) → vp_in (M2.1 1 6) 900 ∧ wR_readDigits d 5 [.ref 1] [] s2 (pm_si (pm_si M2 1 9 ((((M2.1 1 9) * 10) + (M2.1 14 (M2.1 1 6).toNatClampNeg)) - 48)) 1 6 ((M2.1 1 6) + 1)) Q)))))))) : wR_readDigits d 5 [.ref 1] [] s M Q := by
  refine s_aload_n (i := 0) (by decide +kernel) rfl (pn 6 rfl ?_)
  refine s_getfield (v := .int (M.1 1 6)) (by decide +kernel) fr_6_44 lq_1 (congrArg Prod.fst sh_1) rfl (pn 9 rfl ?_)
  refine s_aload_n (i := 0) (by decide +kernel) rfl (pn 10 rfl ?_)
  refine s_getfield (v := .int (M.1 1 5)) (by decide +kernel) fr_6_38 lq_1 (congrArg Prod.fst sh_1) rfl (pn 13 rfl ?_)
  refine s_icmp_ge (off := 68) (tgt := 81) (by decide +kernel) rfl (fun c1 => ?_) (fun c1 => (pn 16 rfl ?_))
  · have h := h.1 c1
    refine s_aload_n (i := 0) (by decide +kernel) rfl (pn 82 rfl ?_)
    refine t_sipush (by decide +kernel) ks_128 (pn 85 rfl ?_)
    refine s_putfieldI (by decide +kernel) fr_6_69 lq_1 (congrArg Prod.fst sh_1) (fun q => by cases q) (Or.inl rfl) (pn 88 rfl ?_)
    refine s_aload_n (i := 0) (by decide +kernel) rfl (pn 89 rfl ?_)
    refine s_getfield (v := .int (M.1 1 6)) (by decide +kernel) fr_6_44 lq_1 (congrArg Prod.fst sh_1) rfl (pn 92 rfl ?_)
    refine s_aload_n (i := 0) (by decide +kernel) rfl (pn 93 rfl ?_)
    refine s_getfield (v := .int (M.1 1 8)) (by decide +kernel) fr_6_72 lq_1 (congrArg Prod.fst sh_1) rfl (pn 96 rfl ?_)
    refine s_isub (by decide +kernel) (pn 97 rfl ?_)
    refine t_iconst (by decide +kernel) ki_3 (pn 98 rfl ?_)
    refine s_icmp_le (off := 8) (tgt := 106) (by decide +kernel) rfl (fun c2 => ?_) (fun c2 => (pn 101 rfl ?_))
    · have h := h.1 c2
      exact s_return (st := []) (by decide +kernel) rfl ⟨rfl, s, rfl, h⟩
    · have h := h.2 c2
      refine s_aload_n (i := 0) (by decide +kernel) rfl (pn 102 rfl ?_)
      refine t_iconst (by decide +kernel) ki_1 (pn 103 rfl ?_)
      refine s_callvV [.int 1] rfl (by decide +kernel) mv_6_91 np_60 (Nat.le_of_ble_eq_true rfl) lq_1 ((congrArg Prod.fst sh_1).trans oc_60) (cV_use h (fun s1 M1 h => (pn 106 rfl ?_)))
      exact s_return (st := []) (by decide +kernel) rfl ⟨rfl, s1, rfl, h⟩
  · have h := h.2 c1
    refine s_aload_n (i := 0) (by decide +kernel) rfl (pn 17 rfl ?_)
    refine s_getfield (v := .ref 14) (by decide +kernel) fr_6_22 lq_1 (congrArg Prod.fst sh_1) (fv_ref pf_1_4) (pn 20 rfl ?_)
    refine s_aload_n (i := 0) (by decide +kernel) rfl (pn 21 rfl ?_)
    refine s_getfield (v := .int (M.1 1 6)) (by decide +kernel) fr_6_44 lq_1 (congrArg Prod.fst sh_1) rfl (pn 24 rfl ?_)
    obtain ⟨b1, h⟩ := h
    refine t_iaload (v := M.1 14 (M.1 1 6).toNatClampNeg) (by decide +kernel) ⟨Or.inl lq_14, congrArg Prod.fst sh_14⟩ (al_in sh_14 b1) rfl (pn 25 rfl ?_)
    refine s_callsI [.int (M.1 14 (M.1 1 6).toNatClampNeg)] rfl (by decide +kernel) ms_6_82 np_58 (Nat.le_of_ble_eq_true rfl) (cI_use h (fun r1 s2 M2 h => (pn 28 rfl ?_)))
    refine s_if_eq (off := 53) (tgt := 81) (by decide +kernel) rfl (fun c3 => ?_) (fun c3 => (pn 31 rfl ?_))
    · have h := h.1 c3
      refine s_aload_n (i := 0) (by decide +kernel) rfl (pn 82 rfl ?_)
      refine t_sipush (by decide +kernel) ks_128 (pn 85 rfl ?_)
      refine s_putfieldI (by decide +kernel) fr_6_69 lq_1 (congrArg Prod.fst sh_1) (fun q => by cases q) (Or.inl rfl) (pn 88 rfl ?_)
      refine s_aload_n (i := 0) (by decide +kernel) rfl (pn 89 rfl ?_)
      refine s_getfield (v := .int (M2.1 1 6)) (by decide +kernel) fr_6_44 lq_1 (congrArg Prod.fst sh_1) rfl (pn 92 rfl ?_)
      refine s_aload_n (i := 0) (by decide +kernel) rfl (pn 93 rfl ?_)
      refine s_getfield (v := .int (M2.1 1 8)) (by decide +kernel) fr_6_72 lq_1 (congrArg Prod.fst sh_1) rfl (pn 96 rfl ?_)
      refine s_isub (by decide +kernel) (pn 97 rfl ?_)
      refine t_iconst (by decide +kernel) ki_3 (pn 98 rfl ?_)
      refine s_icmp_le (off := 8) (tgt := 106) (by decide +kernel) rfl (fun c5 => ?_) (fun c5 => (pn 101 rfl ?_))
      · have h := h.1 c5
        exact s_return (st := []) (by decide +kernel) rfl ⟨rfl, s2, rfl, h⟩
      · have h := h.2 c5
        refine s_aload_n (i := 0) (by decide +kernel) rfl (pn 102 rfl ?_)
        refine t_iconst (by decide +kernel) ki_1 (pn 103 rfl ?_)
        refine s_callvV [.int 1] rfl (by decide +kernel) mv_6_91 np_60 (Nat.le_of_ble_eq_true rfl) lq_1 ((congrArg Prod.fst sh_1).trans oc_60) (cV_use h (fun s3 M3 h => (pn 106 rfl ?_)))
        exact s_return (st := []) (by decide +kernel) rfl ⟨rfl, s3, rfl, h⟩
    · have h := h.2 c3
      refine s_aload_n (i := 0) (by decide +kernel) rfl (pn 32 rfl ?_)
      refine s_getfield (v := .int (M2.1 1 6)) (by decide +kernel) fr_6_44 lq_1 (congrArg Prod.fst sh_1) rfl (pn 35 rfl ?_)
      refine s_aload_n (i := 0) (by decide +kernel) rfl (pn 36 rfl ?_)
      refine s_getfield (v := .int (M2.1 1 8)) (by decide +kernel) fr_6_72 lq_1 (congrArg Prod.fst sh_1) rfl (pn 39 rfl ?_)
      refine s_isub (by decide +kernel) (pn 40 rfl ?_)
      refine t_iconst (by decide +kernel) ki_3 (pn 41 rfl ?_)
      refine s_icmp_ge (off := 27) (tgt := 68) (by decide +kernel) rfl (fun c6 => ?_) (fun c6 => (pn 44 rfl ?_))
      · have h := h.1 c6
        refine s_aload_n (i := 0) (by decide +kernel) rfl (pn 69 rfl ?_)
        refine s_dup (by decide +kernel) rfl (pn 70 rfl ?_)
        refine s_getfield (v := .int (M2.1 1 6)) (by decide +kernel) fr_6_44 lq_1 (congrArg Prod.fst sh_1) rfl (pn 73 rfl ?_)
        refine t_iconst (by decide +kernel) ki_1 (pn 74 rfl ?_)
        refine s_iadd (by decide +kernel) (pn 75 rfl ?_)
        refine s_putfieldI (by decide +kernel) fr_6_44 lq_1 (congrArg Prod.fst sh_1) (fun q => by cases q) (Or.inl rfl) (pn 78 rfl ?_)
        refine s_goto (off := -73) (tgt := 5) (by decide +kernel) rfl ?_
        exact h
      · have h := h.2 c6
        refine s_aload_n (i := 0) (by decide +kernel) rfl (pn 45 rfl ?_)
        refine s_aload_n (i := 0) (by decide +kernel) rfl (pn 46 rfl ?_)
        refine s_getfield (v := .int (M2.1 1 9)) (by decide +kernel) fr_6_94 lq_1 (congrArg Prod.fst sh_1) rfl (pn 49 rfl ?_)
        refine t_bipush (by decide +kernel) kb_10 (pn 51 rfl ?_)
        refine s_imul (by decide +kernel) (pn 52 rfl ?_)
        refine s_aload_n (i := 0) (by decide +kernel) rfl (pn 53 rfl ?_)
        refine s_getfield (v := .ref 14) (by decide +kernel) fr_6_22 lq_1 (congrArg Prod.fst sh_1) (fv_ref pf_1_4) (pn 56 rfl ?_)
        refine s_aload_n (i := 0) (by decide +kernel) rfl (pn 57 rfl ?_)
        refine s_getfield (v := .int (M2.1 1 6)) (by decide +kernel) fr_6_44 lq_1 (congrArg Prod.fst sh_1) rfl (pn 60 rfl ?_)
        obtain ⟨b2, h⟩ := h
        refine t_iaload (v := M2.1 14 (M2.1 1 6).toNatClampNeg) (by decide +kernel) ⟨Or.inl lq_14, congrArg Prod.fst sh_14⟩ (al_in sh_14 b2) rfl (pn 61 rfl ?_)
        refine s_iadd (by decide +kernel) (pn 62 rfl ?_)
        refine t_bipush (by decide +kernel) kb_48 (pn 64 rfl ?_)
        refine s_isub (by decide +kernel) (pn 65 rfl ?_)
        refine s_putfieldI (by decide +kernel) fr_6_94 lq_1 (congrArg Prod.fst sh_1) (fun q => by cases q) (Or.inl rfl) (pn 68 rfl ?_)
        refine s_aload_n (i := 0) (by decide +kernel) rfl (pn 69 rfl ?_)
        refine s_dup (by decide +kernel) rfl (pn 70 rfl ?_)
        refine s_getfield (v := .int (M2.1 1 6)) (by decide +kernel) fr_6_44 lq_1 (congrArg Prod.fst sh_1) rfl (pn 73 rfl ?_)
        refine t_iconst (by decide +kernel) ki_1 (pn 74 rfl ?_)
        refine s_iadd (by decide +kernel) (pn 75 rfl ?_)
        refine s_putfieldI (by decide +kernel) fr_6_44 lq_1 (congrArg Prod.fst sh_1) (fun q => by cases q) (Or.inl rfl) (pn 78 rfl ?_)
        refine s_goto (off := -73) (tgt := 5) (by decide +kernel) rfl ?_
        exact h
abbrev wR_fail (d pc : Nat) (ls st : List Value) (s : pm_S) (M : pm_M) (Q : pm_S → pm_M → Prop) : Prop := wV d prog_8_method_5_code 6 none false pc ls st s M Q
theorem enR_fail {d : Nat} {s : pm_S} {M : pm_M} {x1 : Int32} {Q : pm_S → pm_M → Prop}  (h : (((M.1 1 2) = 0 → Q s (pm_si (pm_si (pm_si M 1 2 x1) 1 3 (M.1 1 8)) 1 7 131)) ∧ (¬ ((M.1 1 2) = 0) → Q s (pm_si M 1 7 131)))) : cV (d + 1) yR_fail [.ref 1, .int x1] s M Q := by
  refine pm_toV (by decide) (Nat.le_of_ble_eq_true rfl) ?_
  show wR_fail d 0 [.ref 1, .int x1] [] s M Q
  refine s_aload_n (i := 0) (by decide +kernel) rfl (pn 1 rfl ?_)
  refine s_getfield (v := .int (M.1 1 2)) (by decide +kernel) fr_6_41 lq_1 (congrArg Prod.fst sh_1) rfl (pn 4 rfl ?_)
  refine t_if_ne (off := 16) (tgt := 20) (by decide +kernel) rfl (fun c1 => ?_) (fun c1 => (pn 7 rfl ?_))
  · have h := h.2 c1
    refine s_aload_n (i := 0) (by decide +kernel) rfl (pn 21 rfl ?_)
    refine t_sipush (by decide +kernel) ks_131 (pn 24 rfl ?_)
    refine s_putfieldI (by decide +kernel) fr_6_69 lq_1 (congrArg Prod.fst sh_1) (fun q => by cases q) (Or.inl rfl) (pn 27 rfl ?_)
    exact s_return (st := []) (by decide +kernel) rfl ⟨rfl, s, rfl, h⟩
  · have h := h.1 c1
    refine s_aload_n (i := 0) (by decide +kernel) rfl (pn 8 rfl ?_)
    refine s_iload_n (i := 1) (by decide +kernel) rfl (pn 9 rfl ?_)
    refine s_putfieldI (by decide +kernel) fr_6_41 lq_1 (congrArg Prod.fst sh_1) (fun q => by cases q) (Or.inl rfl) (pn 12 rfl ?_)
    refine s_aload_n (i := 0) (by decide +kernel) rfl (pn 13 rfl ?_)
    refine s_aload_n (i := 0) (by decide +kernel) rfl (pn 14 rfl ?_)
    refine s_getfield (v := .int (M.1 1 8)) (by decide +kernel) fr_6_72 lq_1 (congrArg Prod.fst sh_1) rfl (pn 17 rfl ?_)
    refine s_putfieldI (by decide +kernel) fr_6_18 lq_1 (congrArg Prod.fst sh_1) (fun q => by cases q) (Or.inl rfl) (pn 20 rfl ?_)
    refine s_aload_n (i := 0) (by decide +kernel) rfl (pn 21 rfl ?_)
    refine t_sipush (by decide +kernel) ks_131 (pn 24 rfl ?_)
    refine s_putfieldI (by decide +kernel) fr_6_69 lq_1 (congrArg Prod.fst sh_1) (fun q => by cases q) (Or.inl rfl) (pn 27 rfl ?_)
    exact s_return (st := []) (by decide +kernel) rfl ⟨rfl, s, rfl, h⟩
abbrev wR_isSign (d pc : Nat) (ls st : List Value) (s : pm_S) (M : pm_M) (Q : Int32 → pm_S → pm_M → Prop) : Prop := wI d prog_8_method_9_code 6 (some .boolean) false pc ls st s M Q
theorem enR_isSign {d : Nat} {s : pm_S} {M : pm_M} {x1 : Int32} {Q : Int32 → pm_S → pm_M → Prop}  (h : ((x1 = 40 → Q 1 s M) ∧ (¬ x1 = 40 → ((x1 = 41 → Q 1 s M) ∧ (¬ x1 = 41 → ((x1 = 42 → Q 1 s M) ∧ (¬ x1 = 42 → ((x1 = 43 → Q 1 s M) ∧ (¬ x1 = 43 → ((x1 = 45 → Q 1 s M) ∧ (¬ x1 = 45 → ((x1 = 58 → Q 1 s M) ∧ (¬ x1 = 58 → ((x1 = 59 → Q 1 s M) ∧ (¬ x1 = 59 → ((x1 = 60 → Q 1 s M) ∧ (¬ x1 = 60 → ((x1 = 61 → Q 1 s M) ∧ (¬ x1 = 61 → ((x1 = 62 → Q 1 s M) ∧ (¬ x1 = 62 → ((x1 = 91 → Q 1 s M) ∧ (¬ x1 = 91 → ((x1 = 93 → Q 1 s M) ∧ (¬ x1 = 93 → Q 0 s M))))))))))))))))))))))))) : cI (d + 1) yR_isSign [.int x1] s M Q := by
  refine pm_toI (by decide) (Nat.le_of_ble_eq_true rfl) ?_
  show wR_isSign d 0 [.int x1] [] s M Q
  refine s_iload_n (i := 0) (by decide +kernel) rfl (pn 1 rfl ?_)
  by_cases c1 : x1 = 40
  · refine s_lookupswitch (dflt := 109) (ps := #[(40, 107), (41, 107), (42, 107), (43, 107), (45, 107), (58, 107), (59, 107), (60, 107), (61, 107), (62, 107), (91, 107), (93, 107)]) (len := 107) (tgt := 108) (by decide +kernel) (by decide) (by rw [c1]; decide) ?_
    have h := h.1 c1
    refine t_iconst (by decide +kernel) ki_1 (pn 109 rfl ?_)
    exact s_ireturn (st := []) (by decide +kernel) (Or.inr ⟨rfl, (Or.inr rfl)⟩) ⟨_, rfl, s, rfl, h⟩
  have h := h.2 c1
  by_cases c2 : x1 = 41
  · refine s_lookupswitch (dflt := 109) (ps := #[(40, 107), (41, 107), (42, 107), (43, 107), (45, 107), (58, 107), (59, 107), (60, 107), (61, 107), (62, 107), (91, 107), (93, 107)]) (len := 107) (tgt := 108) (by decide +kernel) (by decide) (by rw [c2]; decide) ?_
    have h := h.1 c2
    refine t_iconst (by decide +kernel) ki_1 (pn 109 rfl ?_)
    exact s_ireturn (st := []) (by decide +kernel) (Or.inr ⟨rfl, (Or.inr rfl)⟩) ⟨_, rfl, s, rfl, h⟩
  have h := h.2 c2
  by_cases c3 : x1 = 42
  · refine s_lookupswitch (dflt := 109) (ps := #[(40, 107), (41, 107), (42, 107), (43, 107), (45, 107), (58, 107), (59, 107), (60, 107), (61, 107), (62, 107), (91, 107), (93, 107)]) (len := 107) (tgt := 108) (by decide +kernel) (by decide) (by rw [c3]; decide) ?_
    have h := h.1 c3
    refine t_iconst (by decide +kernel) ki_1 (pn 109 rfl ?_)
    exact s_ireturn (st := []) (by decide +kernel) (Or.inr ⟨rfl, (Or.inr rfl)⟩) ⟨_, rfl, s, rfl, h⟩
  have h := h.2 c3
  by_cases c4 : x1 = 43
  · refine s_lookupswitch (dflt := 109) (ps := #[(40, 107), (41, 107), (42, 107), (43, 107), (45, 107), (58, 107), (59, 107), (60, 107), (61, 107), (62, 107), (91, 107), (93, 107)]) (len := 107) (tgt := 108) (by decide +kernel) (by decide) (by rw [c4]; decide) ?_
    have h := h.1 c4
    refine t_iconst (by decide +kernel) ki_1 (pn 109 rfl ?_)
    exact s_ireturn (st := []) (by decide +kernel) (Or.inr ⟨rfl, (Or.inr rfl)⟩) ⟨_, rfl, s, rfl, h⟩
  have h := h.2 c4
  by_cases c5 : x1 = 45
  · refine s_lookupswitch (dflt := 109) (ps := #[(40, 107), (41, 107), (42, 107), (43, 107), (45, 107), (58, 107), (59, 107), (60, 107), (61, 107), (62, 107), (91, 107), (93, 107)]) (len := 107) (tgt := 108) (by decide +kernel) (by decide) (by rw [c5]; decide) ?_
    have h := h.1 c5
    refine t_iconst (by decide +kernel) ki_1 (pn 109 rfl ?_)
    exact s_ireturn (st := []) (by decide +kernel) (Or.inr ⟨rfl, (Or.inr rfl)⟩) ⟨_, rfl, s, rfl, h⟩
  have h := h.2 c5
  by_cases c6 : x1 = 58
  · refine s_lookupswitch (dflt := 109) (ps := #[(40, 107), (41, 107), (42, 107), (43, 107), (45, 107), (58, 107), (59, 107), (60, 107), (61, 107), (62, 107), (91, 107), (93, 107)]) (len := 107) (tgt := 108) (by decide +kernel) (by decide) (by rw [c6]; decide) ?_
    have h := h.1 c6
    refine t_iconst (by decide +kernel) ki_1 (pn 109 rfl ?_)
    exact s_ireturn (st := []) (by decide +kernel) (Or.inr ⟨rfl, (Or.inr rfl)⟩) ⟨_, rfl, s, rfl, h⟩
  have h := h.2 c6
  by_cases c7 : x1 = 59
  · refine s_lookupswitch (dflt := 109) (ps := #[(40, 107), (41, 107), (42, 107), (43, 107), (45, 107), (58, 107), (59, 107), (60, 107), (61, 107), (62, 107), (91, 107), (93, 107)]) (len := 107) (tgt := 108) (by decide +kernel) (by decide) (by rw [c7]; decide) ?_
    have h := h.1 c7
    refine t_iconst (by decide +kernel) ki_1 (pn 109 rfl ?_)
    exact s_ireturn (st := []) (by decide +kernel) (Or.inr ⟨rfl, (Or.inr rfl)⟩) ⟨_, rfl, s, rfl, h⟩
  have h := h.2 c7
  by_cases c8 : x1 = 60
  · refine s_lookupswitch (dflt := 109) (ps := #[(40, 107), (41, 107), (42, 107), (43, 107), (45, 107), (58, 107), (59, 107), (60, 107), (61, 107), (62, 107), (91, 107), (93, 107)]) (len := 107) (tgt := 108) (by decide +kernel) (by decide) (by rw [c8]; decide) ?_
    have h := h.1 c8
    refine t_iconst (by decide +kernel) ki_1 (pn 109 rfl ?_)
    exact s_ireturn (st := []) (by decide +kernel) (Or.inr ⟨rfl, (Or.inr rfl)⟩) ⟨_, rfl, s, rfl, h⟩
  have h := h.2 c8
  by_cases c9 : x1 = 61
  · refine s_lookupswitch (dflt := 109) (ps := #[(40, 107), (41, 107), (42, 107), (43, 107), (45, 107), (58, 107), (59, 107), (60, 107), (61, 107), (62, 107), (91, 107), (93, 107)]) (len := 107) (tgt := 108) (by decide +kernel) (by decide) (by rw [c9]; decide) ?_
    have h := h.1 c9
    refine t_iconst (by decide +kernel) ki_1 (pn 109 rfl ?_)
    exact s_ireturn (st := []) (by decide +kernel) (Or.inr ⟨rfl, (Or.inr rfl)⟩) ⟨_, rfl, s, rfl, h⟩
  have h := h.2 c9
  by_cases c10 : x1 = 62
  · refine s_lookupswitch (dflt := 109) (ps := #[(40, 107), (41, 107), (42, 107), (43, 107), (45, 107), (58, 107), (59, 107), (60, 107), (61, 107), (62, 107), (91, 107), (93, 107)]) (len := 107) (tgt := 108) (by decide +kernel) (by decide) (by rw [c10]; decide) ?_
    have h := h.1 c10
    refine t_iconst (by decide +kernel) ki_1 (pn 109 rfl ?_)
    exact s_ireturn (st := []) (by decide +kernel) (Or.inr ⟨rfl, (Or.inr rfl)⟩) ⟨_, rfl, s, rfl, h⟩
  have h := h.2 c10
  by_cases c11 : x1 = 91
  · refine s_lookupswitch (dflt := 109) (ps := #[(40, 107), (41, 107), (42, 107), (43, 107), (45, 107), (58, 107), (59, 107), (60, 107), (61, 107), (62, 107), (91, 107), (93, 107)]) (len := 107) (tgt := 108) (by decide +kernel) (by decide) (by rw [c11]; decide) ?_
    have h := h.1 c11
    refine t_iconst (by decide +kernel) ki_1 (pn 109 rfl ?_)
    exact s_ireturn (st := []) (by decide +kernel) (Or.inr ⟨rfl, (Or.inr rfl)⟩) ⟨_, rfl, s, rfl, h⟩
  have h := h.2 c11
  by_cases c12 : x1 = 93
  · refine s_lookupswitch (dflt := 109) (ps := #[(40, 107), (41, 107), (42, 107), (43, 107), (45, 107), (58, 107), (59, 107), (60, 107), (61, 107), (62, 107), (91, 107), (93, 107)]) (len := 107) (tgt := 108) (by decide +kernel) (by decide) (by rw [c12]; decide) ?_
    have h := h.1 c12
    refine t_iconst (by decide +kernel) ki_1 (pn 109 rfl ?_)
    exact s_ireturn (st := []) (by decide +kernel) (Or.inr ⟨rfl, (Or.inr rfl)⟩) ⟨_, rfl, s, rfl, h⟩
  have h := h.2 c12
  refine s_lookupswitch (dflt := 109) (ps := #[(40, 107), (41, 107), (42, 107), (43, 107), (45, 107), (58, 107), (59, 107), (60, 107), (61, 107), (62, 107), (91, 107), (93, 107)]) (len := 107) (tgt := 110) (by decide +kernel) (by decide) ?_ ?_
  · have e : Op.lookupswitch.offset [(40, 107), (41, 107), (42, 107), (43, 107), (45, 107), (58, 107), (59, 107), (60, 107), (61, 107), (62, 107), (91, 107), (93, 107)] 109 x1.toInt = 109 := (lv_osw (k := 40) (a := 40) c1 (by decide)).trans ((lv_osw (k := 41) (a := 41) c2 (by decide)).trans ((lv_osw (k := 42) (a := 42) c3 (by decide)).trans ((lv_osw (k := 43) (a := 43) c4 (by decide)).trans ((lv_osw (k := 45) (a := 45) c5 (by decide)).trans ((lv_osw (k := 58) (a := 58) c6 (by decide)).trans ((lv_osw (k := 59) (a := 59) c7 (by decide)).trans ((lv_osw (k := 60) (a := 60) c8 (by decide)).trans ((lv_osw (k := 61) (a := 61) c9 (by decide)).trans ((lv_osw (k := 62) (a := 62) c10 (by decide)).trans ((lv_osw (k := 91) (a := 91) c11 (by decide)).trans ((lv_osw (k := 93) (a := 93) c12 (by decide)).trans (rfl))))))))))))
    exact (congrArg (fun z : Int => (((1 : Nat) : Int) + z)) e).trans rfl
  · refine t_iconst (by decide +kernel) ki_0 (pn 111 rfl ?_)
    exact s_ireturn (st := []) (by decide +kernel) (Or.inr ⟨rfl, (Or.inl rfl)⟩) ⟨_, rfl, s, rfl, h⟩
abbrev wR_expect (d pc : Nat) (ls st : List Value) (s : pm_S) (M : pm_M) (Q : pm_S → pm_M → Prop) : Prop := wV d prog_8_method_12_code 6 none false pc ls st s M Q
theorem enR_expect {d : Nat} {s : pm_S} {M : pm_M} {x1 : Int32} {Q : pm_S → pm_M → Prop}  (h : (((M.1 1 7) = x1 → cV d yR_step [.ref 1] s M (fun s2 M2 => Q s2 M2)) ∧ (¬ ((M.1 1 7) = x1) → cV d yR_fail [.ref 1, .int 2] s M (fun s1 M1 => Q s1 M1)))) : cV (d + 1) yR_expect [.ref 1, .int x1] s M Q := by
  refine pm_toV (by decide) (Nat.le_of_ble_eq_true rfl) ?_
  show wR_expect d 0 [.ref 1, .int x1] [] s M Q
  refine s_aload_n (i := 0) (by decide +kernel) rfl (pn 1 rfl ?_)
  refine s_getfield (v := .int (M.1 1 7)) (by decide +kernel) fr_6_69 lq_1 (congrArg Prod.fst sh_1) rfl (pn 4 rfl ?_)
  refine s_iload_n (i := 1) (by decide +kernel) rfl (pn 5 rfl ?_)
  refine t_icmp_ne (off := 10) (tgt := 15) (by decide +kernel) rfl (fun c1 => ?_) (fun c1 => (pn 8 rfl ?_))
  · have h := h.2 c1
    refine s_aload_n (i := 0) (by decide +kernel) rfl (pn 16 rfl ?_)
    refine t_iconst (by decide +kernel) ki_2 (pn 17 rfl ?_)
    refine s_callvV [.int 2] rfl (by decide +kernel) mv_6_91 np_60 (Nat.le_of_ble_eq_true rfl) lq_1 ((congrArg Prod.fst sh_1).trans oc_60) (cV_use h (fun s1 M1 h => (pn 20 rfl ?_)))
    exact s_return (st := []) (by decide +kernel) rfl ⟨rfl, s1, rfl, h⟩
  · have h := h.1 c1
    refine s_aload_n (i := 0) (by decide +kernel) rfl (pn 9 rfl ?_)
    refine s_callvV [] rfl (by decide +kernel) mv_6_53 np_55 (Nat.le_of_ble_eq_true rfl) lq_1 ((congrArg Prod.fst sh_1).trans oc_55) (cV_use h (fun s2 M2 h => (pn 12 rfl ?_)))
    refine s_goto (off := 8) (tgt := 20) (by decide +kernel) rfl ?_
    exact s_return (st := []) (by decide +kernel) rfl ⟨rfl, s2, rfl, h⟩
abbrev wR_readNumber (d pc : Nat) (ls st : List Value) (s : pm_S) (M : pm_M) (Q : Int32 → pm_S → pm_M → Prop) : Prop := wI d prog_8_method_13_code 6 (some .int) false pc ls st s M Q
theorem enR_readNumber {d : Nat} {s : pm_S} {M : pm_M} {x1 : Int32} {x2 : Int32} {Q : Int32 → pm_S → pm_M → Prop}  (h : ((((M.1 1 7) = 128) → ((((M.1 1 9) < x1) → cV d yR_fail [.ref 1, .int 3] s M (fun s1 M1 => Q x1 s1 M1)) ∧ (¬ ((M.1 1 9) < x1) → ((((M.1 1 9) ≤ x2) → cV d yR_step [.ref 1] s M (fun s2 M2 => Q (M.1 1 9) s2 M2)) ∧ (¬ ((M.1 1 9) ≤ x2) → cV d yR_fail [.ref 1, .int 3] s M (fun s3 M3 => Q x1 s3 M3)))))) ∧ (¬ ((M.1 1 7) = 128) → cV d yR_fail [.ref 1, .int 2] s M (fun s4 M4 => Q x1 s4 M4)))) : cI (d + 1) yR_readNumber [.ref 1, .int x1, .int x2] s M Q := by
  refine pm_toI (by decide) (Nat.le_of_ble_eq_true rfl) ?_
  show wR_readNumber d 0 [.ref 1, .int x1, .int x2, .null] [] s M Q
  refine s_aload_n (i := 0) (by decide +kernel) rfl (pn 1 rfl ?_)
  refine s_getfield (v := .int (M.1 1 9)) (by decide +kernel) fr_6_94 lq_1 (congrArg Prod.fst sh_1) rfl (pn 4 rfl ?_)
  refine s_istore_n (i := 3) (by decide +kernel) (Nat.le_of_ble_eq_true rfl) (pn 5 rfl (t_store (ls' := [.ref 1, .int x1, .int x2, .int (M.1 1 9)]) rfl ?_))
  refine s_aload_n (i := 0) (by decide +kernel) rfl (pn 6 rfl ?_)
  refine s_getfield (v := .int (M.1 1 7)) (by decide +kernel) fr_6_69 lq_1 (congrArg Prod.fst sh_1) rfl (pn 9 rfl ?_)
  refine t_sipush (by decide +kernel) ks_128 (pn 12 rfl ?_)
  refine s_icmp_eq (off := 11) (tgt := 23) (by decide +kernel) rfl (fun c1 => ?_) (fun c1 => (pn 15 rfl ?_))
  · have h := h.1 c1
    refine s_iload_n (i := 3) (by decide +kernel) rfl (pn 24 rfl ?_)
    refine s_iload_n (i := 1) (by decide +kernel) rfl (pn 25 rfl ?_)
    refine s_icmp_lt (off := 8) (tgt := 33) (by decide +kernel) rfl (fun c2 => ?_) (fun c2 => (pn 28 rfl ?_))
    · have h := h.1 c2
      refine s_aload_n (i := 0) (by decide +kernel) rfl (pn 34 rfl ?_)
      refine t_iconst (by decide +kernel) ki_3 (pn 35 rfl ?_)
      refine s_callvV [.int 3] rfl (by decide +kernel) mv_6_91 np_60 (Nat.le_of_ble_eq_true rfl) lq_1 ((congrArg Prod.fst sh_1).trans oc_60) (cV_use h (fun s1 M1 h => (pn 38 rfl ?_)))
      refine s_goto (off := 9) (tgt := 47) (by decide +kernel) rfl ?_
      refine s_iload_n (i := 1) (by decide +kernel) rfl (pn 48 rfl ?_)
      exact s_ireturn (st := []) (by decide +kernel) (Or.inl rfl) ⟨_, rfl, s1, rfl, h⟩
    · have h := h.2 c2
      refine s_iload_n (i := 3) (by decide +kernel) rfl (pn 29 rfl ?_)
      refine s_iload_n (i := 2) (by decide +kernel) rfl (pn 30 rfl ?_)
      refine s_icmp_le (off := 11) (tgt := 41) (by decide +kernel) rfl (fun c3 => ?_) (fun c3 => (pn 33 rfl ?_))
      · have h := h.1 c3
        refine s_aload_n (i := 0) (by decide +kernel) rfl (pn 42 rfl ?_)
        refine s_callvV [] rfl (by decide +kernel) mv_6_53 np_55 (Nat.le_of_ble_eq_true rfl) lq_1 ((congrArg Prod.fst sh_1).trans oc_55) (cV_use h (fun s2 M2 h => (pn 45 rfl ?_)))
        refine s_iload_n (i := 3) (by decide +kernel) rfl (pn 46 rfl ?_)
        exact s_ireturn (st := []) (by decide +kernel) (Or.inl rfl) ⟨_, rfl, s2, rfl, h⟩
      · have h := h.2 c3
        refine s_aload_n (i := 0) (by decide +kernel) rfl (pn 34 rfl ?_)
        refine t_iconst (by decide +kernel) ki_3 (pn 35 rfl ?_)
        refine s_callvV [.int 3] rfl (by decide +kernel) mv_6_91 np_60 (Nat.le_of_ble_eq_true rfl) lq_1 ((congrArg Prod.fst sh_1).trans oc_60) (cV_use h (fun s3 M3 h => (pn 38 rfl ?_)))
        refine s_goto (off := 9) (tgt := 47) (by decide +kernel) rfl ?_
        refine s_iload_n (i := 1) (by decide +kernel) rfl (pn 48 rfl ?_)
        exact s_ireturn (st := []) (by decide +kernel) (Or.inl rfl) ⟨_, rfl, s3, rfl, h⟩
  · have h := h.2 c1
    refine s_aload_n (i := 0) (by decide +kernel) rfl (pn 16 rfl ?_)
    refine t_iconst (by decide +kernel) ki_2 (pn 17 rfl ?_)
    refine s_callvV [.int 2] rfl (by decide +kernel) mv_6_91 np_60 (Nat.le_of_ble_eq_true rfl) lq_1 ((congrArg Prod.fst sh_1).trans oc_60) (cV_use h (fun s4 M4 h => (pn 20 rfl ?_)))
    refine s_goto (off := 27) (tgt := 47) (by decide +kernel) rfl ?_
    refine s_iload_n (i := 1) (by decide +kernel) rfl (pn 48 rfl ?_)
    exact s_ireturn (st := []) (by decide +kernel) (Or.inl rfl) ⟨_, rfl, s4, rfl, h⟩
abbrev wR_goesOn (d pc : Nat) (ls st : List Value) (s : pm_S) (M : pm_M) (Q : Int32 → pm_S → pm_M → Prop) : Prop := wI d prog_8_method_4_code 6 (some .boolean) false pc ls st s M Q
theorem enR_goesOn {d : Nat} {s : pm_S} {M : pm_M}  {Q : Int32 → pm_S → pm_M → Prop}  (h : Q ((if (M.1 1 2) = 0 then (if (M.1 1 7) = 129 then 0 else 1) else 0) : Int32) s M) : cI (d + 1) yR_goesOn [.ref 1] s M Q := by
  refine pm_toI (by decide) (Nat.le_of_ble_eq_true rfl) ?_
  show wR_goesOn d 0 [.ref 1] [] s M Q
  refine s_aload_n (i := 0) (by decide +kernel) rfl (pn 1 rfl ?_)
  refine s_getfield (v := .int (M.1 1 2)) (by decide +kernel) fr_6_41 lq_1 (congrArg Prod.fst sh_1) rfl (pn 4 rfl ?_)
  have k1 : ∀ (z1 : Int32) (z1e : z1 = ((if (M.1 1 2) = 0 then (if (M.1 1 7) = 129 then 0 else 1) else 0) : Int32)), wR_goesOn d 22 [.ref 1] [.int z1] s M Q := by
    intro z1 z1e
    subst z1e
    exact s_ireturn (st := []) (by decide +kernel) (Or.inr ⟨rfl, (or01 (or01 (Or.inl rfl) (Or.inr rfl)) (Or.inl rfl))⟩) ⟨_, rfl, s, rfl, h⟩
  refine t_if_ne (off := 17) (tgt := 21) (by decide +kernel) rfl (fun c1 => ?_) (fun c1 => (pn 7 rfl ?_))
  · refine t_iconst (by decide +kernel) ki_0 (pn 22 rfl ?_)
    exact k1 _ (by simp only [if_neg c1])
  · refine s_aload_n (i := 0) (by decide +kernel) rfl (pn 8 rfl ?_)
    refine s_getfield (v := .int (M.1 1 7)) (by decide +kernel) fr_6_69 lq_1 (congrArg Prod.fst sh_1) rfl (pn 11 rfl ?_)
    refine t_sipush (by decide +kernel) ks_129 (pn 14 rfl ?_)
    refine s_icmp_eq (off := 7) (tgt := 21) (by decide +kernel) rfl (fun c2 => ?_) (fun c2 => (pn 17 rfl ?_))
    · refine t_iconst (by decide +kernel) ki_0 (pn 22 rfl ?_)
      exact k1 _ (by simp only [if_pos c1, if_pos c2])
    · refine t_iconst (by decide +kernel) ki_1 (pn 18 rfl ?_)
      refine s_goto (off := 4) (tgt := 22) (by decide +kernel) rfl ?_
      exact k1 _ (by simp only [if_pos c1, if_neg c2])
abbrev wR_readLine (d pc : Nat) (ls st : List Value) (s : pm_S) (M : pm_M) (Q : pm_S → pm_M → Prop) : Prop := wV d prog_8_method_14_code 6 none false pc ls st s M Q
theorem enR_readLine {d : Nat} {s : pm_S} {M : pm_M}  {Q : pm_S → pm_M → Prop}  (h : (((M.1 1 7) = 201 → cV d yR_readThing [.ref 1] s M (fun s1 M1 => cV d yR_expect [.ref 1, .int 59] s1 M1 (fun s2 M2 => Q s2 (pm_si M2 2 3 ((M2.1 2 3) + 1))))) ∧ (¬ (M.1 1 7) = 201 → (((M.1 1 7) = 202 → cV d yR_readPerson [.ref 1] s M (fun s3 M3 => cV d yR_expect [.ref 1, .int 59] s3 M3 (fun s4 M4 => Q s4 (pm_si M4 2 3 ((M4.1 2 3) + 1))))) ∧ (¬ (M.1 1 7) = 202 → (((M.1 1 7) = 203 → cV d yR_readLaw [.ref 1, .int ((if (M.1 1 7) = 204 then 1 else 0) : Int32)] s M (fun s5 M5 => cV d yR_expect [.ref 1, .int 59] s5 M5 (fun s6 M6 => Q s6 (pm_si M6 2 3 ((M6.1 2 3) + 1))))) ∧ (¬ (M.1 1 7) = 203 → (((M.1 1 7) = 204 → cV d yR_readLaw [.ref 1, .int ((if (M.1 1 7) = 204 then 1 else 0) : Int32)] s M (fun s7 M7 => cV d yR_expect [.ref 1, .int 59] s7 M7 (fun s8 M8 => Q s8 (pm_si M8 2 3 ((M8.1 2 3) + 1))))) ∧ (¬ (M.1 1 7) = 204 → (((M.1 1 7) = 205 → cV d yR_step [.ref 1] s M (fun s9 M9 => cI d yR_readNumber [.ref 1, .int 0, .int 10] s9 M9 (fun r1 s10 M10 => cV d yR_expect [.ref 1, .int 59] s10 (pm_si M10 2 4 r1) (fun s11 M11 => Q s11 (pm_si M11 2 3 ((M11.1 2 3) + 1)))))) ∧ (¬ (M.1 1 7) = 205 → cV d yR_fail [.ref 1, .int 2] s M (fun s12 M12 => cV d yR_expect [.ref 1, .int 59] s12 M12 (fun s13 M13 => Q s13 (pm_si M13 2 3 ((M13.1 2 3) + 1))))))))))))))) : cV (d + 1) yR_readLine [.ref 1] s M Q := by
  refine pm_toV (by decide) (Nat.le_of_ble_eq_true rfl) ?_
  show wR_readLine d 0 [.ref 1] [] s M Q
  refine s_aload_n (i := 0) (by decide +kernel) rfl (pn 1 rfl ?_)
  refine s_getfield (v := .int (M.1 1 7)) (by decide +kernel) fr_6_69 lq_1 (congrArg Prod.fst sh_1) rfl (pn 4 rfl ?_)
  by_cases c1 : (M.1 1 7) = 201
  · refine s_tableswitch (dflt := 93) (lo := 201) (hi := 205) (offs := #[36, 43, 50, 50, 72]) (len := 36) (tgt := 40) (by decide +kernel) (by rw [c1]; decide) (by rw [c1]; decide) ?_
    have h := h.1 c1
    refine s_aload_n (i := 0) (by decide +kernel) rfl (pn 41 rfl ?_)
    refine s_callvV [] rfl (by decide +kernel) mv_6_108 np_66 (Nat.le_of_ble_eq_true rfl) lq_1 ((congrArg Prod.fst sh_1).trans oc_66) (cV_use h (fun s1 M1 h => (pn 44 rfl ?_)))
    refine s_goto (off := 58) (tgt := 102) (by decide +kernel) rfl ?_
    refine s_aload_n (i := 0) (by decide +kernel) rfl (pn 103 rfl ?_)
    refine t_bipush (by decide +kernel) kb_59 (pn 105 rfl ?_)
    refine s_callvV [.int 59] rfl (by decide +kernel) mv_6_56 np_62 (Nat.le_of_ble_eq_true rfl) lq_1 ((congrArg Prod.fst sh_1).trans oc_62) (cV_use h (fun s2 M2 h => (pn 108 rfl ?_)))
    refine s_aload_n (i := 0) (by decide +kernel) rfl (pn 109 rfl ?_)
    refine s_getfield (v := .ref 2) (by decide +kernel) fr_6_12 lq_1 (congrArg Prod.fst sh_1) (fv_ref pf_1_0) (pn 112 rfl ?_)
    refine s_dup (by decide +kernel) rfl (pn 113 rfl ?_)
    refine s_getfield (v := .int (M2.1 2 3)) (by decide +kernel) fr_6_66 lq_2 (congrArg Prod.fst sh_2) rfl (pn 116 rfl ?_)
    refine t_iconst (by decide +kernel) ki_1 (pn 117 rfl ?_)
    refine s_iadd (by decide +kernel) (pn 118 rfl ?_)
    refine s_putfieldI (by decide +kernel) fr_6_66 lq_2 (congrArg Prod.fst sh_2) (fun q => by cases q) (Or.inl rfl) (pn 121 rfl ?_)
    exact s_return (st := []) (by decide +kernel) rfl ⟨rfl, s2, rfl, h⟩
  have h := h.2 c1
  by_cases c2 : (M.1 1 7) = 202
  · refine s_tableswitch (dflt := 93) (lo := 201) (hi := 205) (offs := #[36, 43, 50, 50, 72]) (len := 36) (tgt := 47) (by decide +kernel) (by rw [c2]; decide) (by rw [c2]; decide) ?_
    have h := h.1 c2
    refine s_aload_n (i := 0) (by decide +kernel) rfl (pn 48 rfl ?_)
    refine s_callvV [] rfl (by decide +kernel) mv_6_111 np_67 (Nat.le_of_ble_eq_true rfl) lq_1 ((congrArg Prod.fst sh_1).trans oc_67) (cV_use h (fun s3 M3 h => (pn 51 rfl ?_)))
    refine s_goto (off := 51) (tgt := 102) (by decide +kernel) rfl ?_
    refine s_aload_n (i := 0) (by decide +kernel) rfl (pn 103 rfl ?_)
    refine t_bipush (by decide +kernel) kb_59 (pn 105 rfl ?_)
    refine s_callvV [.int 59] rfl (by decide +kernel) mv_6_56 np_62 (Nat.le_of_ble_eq_true rfl) lq_1 ((congrArg Prod.fst sh_1).trans oc_62) (cV_use h (fun s4 M4 h => (pn 108 rfl ?_)))
    refine s_aload_n (i := 0) (by decide +kernel) rfl (pn 109 rfl ?_)
    refine s_getfield (v := .ref 2) (by decide +kernel) fr_6_12 lq_1 (congrArg Prod.fst sh_1) (fv_ref pf_1_0) (pn 112 rfl ?_)
    refine s_dup (by decide +kernel) rfl (pn 113 rfl ?_)
    refine s_getfield (v := .int (M4.1 2 3)) (by decide +kernel) fr_6_66 lq_2 (congrArg Prod.fst sh_2) rfl (pn 116 rfl ?_)
    refine t_iconst (by decide +kernel) ki_1 (pn 117 rfl ?_)
    refine s_iadd (by decide +kernel) (pn 118 rfl ?_)
    refine s_putfieldI (by decide +kernel) fr_6_66 lq_2 (congrArg Prod.fst sh_2) (fun q => by cases q) (Or.inl rfl) (pn 121 rfl ?_)
    exact s_return (st := []) (by decide +kernel) rfl ⟨rfl, s4, rfl, h⟩
  have h := h.2 c2
  by_cases c3 : (M.1 1 7) = 203
  · refine s_tableswitch (dflt := 93) (lo := 201) (hi := 205) (offs := #[36, 43, 50, 50, 72]) (len := 36) (tgt := 54) (by decide +kernel) (by rw [c3]; decide) (by rw [c3]; decide) ?_
    have h := h.1 c3
    refine s_aload_n (i := 0) (by decide +kernel) rfl (pn 55 rfl ?_)
    refine s_aload_n (i := 0) (by decide +kernel) rfl (pn 56 rfl ?_)
    refine s_getfield (v := .int (M.1 1 7)) (by decide +kernel) fr_6_69 lq_1 (congrArg Prod.fst sh_1) rfl (pn 59 rfl ?_)
    refine t_sipush (by decide +kernel) ks_204 (pn 62 rfl ?_)
    have k1 : ∀ (z1 : Int32) (z1e : z1 = ((if (M.1 1 7) = 204 then 1 else 0) : Int32)), wR_readLine d 70 [.ref 1] [.int z1, .ref 1] s M Q := by
      intro z1 z1e
      subst z1e
      refine s_callvV [.int ((if (M.1 1 7) = 204 then 1 else 0) : Int32)] rfl (by decide +kernel) mv_6_114 np_69 (Nat.le_of_ble_eq_true rfl) lq_1 ((congrArg Prod.fst sh_1).trans oc_69) (cV_use h (fun s5 M5 h => (pn 73 rfl ?_)))
      refine s_goto (off := 29) (tgt := 102) (by decide +kernel) rfl ?_
      refine s_aload_n (i := 0) (by decide +kernel) rfl (pn 103 rfl ?_)
      refine t_bipush (by decide +kernel) kb_59 (pn 105 rfl ?_)
      refine s_callvV [.int 59] rfl (by decide +kernel) mv_6_56 np_62 (Nat.le_of_ble_eq_true rfl) lq_1 ((congrArg Prod.fst sh_1).trans oc_62) (cV_use h (fun s6 M6 h => (pn 108 rfl ?_)))
      refine s_aload_n (i := 0) (by decide +kernel) rfl (pn 109 rfl ?_)
      refine s_getfield (v := .ref 2) (by decide +kernel) fr_6_12 lq_1 (congrArg Prod.fst sh_1) (fv_ref pf_1_0) (pn 112 rfl ?_)
      refine s_dup (by decide +kernel) rfl (pn 113 rfl ?_)
      refine s_getfield (v := .int (M6.1 2 3)) (by decide +kernel) fr_6_66 lq_2 (congrArg Prod.fst sh_2) rfl (pn 116 rfl ?_)
      refine t_iconst (by decide +kernel) ki_1 (pn 117 rfl ?_)
      refine s_iadd (by decide +kernel) (pn 118 rfl ?_)
      refine s_putfieldI (by decide +kernel) fr_6_66 lq_2 (congrArg Prod.fst sh_2) (fun q => by cases q) (Or.inl rfl) (pn 121 rfl ?_)
      exact s_return (st := []) (by decide +kernel) rfl ⟨rfl, s6, rfl, h⟩
    refine t_icmp_ne (off := 7) (tgt := 69) (by decide +kernel) rfl (fun c4 => ?_) (fun c4 => (pn 65 rfl ?_))
    · refine t_iconst (by decide +kernel) ki_0 (pn 70 rfl ?_)
      exact k1 _ (by simp only [if_neg c4])
    · refine t_iconst (by decide +kernel) ki_1 (pn 66 rfl ?_)
      refine s_goto (off := 4) (tgt := 70) (by decide +kernel) rfl ?_
      exact k1 _ (by simp only [if_pos c4])
  have h := h.2 c3
  by_cases c5 : (M.1 1 7) = 204
  · refine s_tableswitch (dflt := 93) (lo := 201) (hi := 205) (offs := #[36, 43, 50, 50, 72]) (len := 36) (tgt := 54) (by decide +kernel) (by rw [c5]; decide) (by rw [c5]; decide) ?_
    have h := h.1 c5
    refine s_aload_n (i := 0) (by decide +kernel) rfl (pn 55 rfl ?_)
    refine s_aload_n (i := 0) (by decide +kernel) rfl (pn 56 rfl ?_)
    refine s_getfield (v := .int (M.1 1 7)) (by decide +kernel) fr_6_69 lq_1 (congrArg Prod.fst sh_1) rfl (pn 59 rfl ?_)
    refine t_sipush (by decide +kernel) ks_204 (pn 62 rfl ?_)
    have k2 : ∀ (z2 : Int32) (z2e : z2 = ((if (M.1 1 7) = 204 then 1 else 0) : Int32)), wR_readLine d 70 [.ref 1] [.int z2, .ref 1] s M Q := by
      intro z2 z2e
      subst z2e
      refine s_callvV [.int ((if (M.1 1 7) = 204 then 1 else 0) : Int32)] rfl (by decide +kernel) mv_6_114 np_69 (Nat.le_of_ble_eq_true rfl) lq_1 ((congrArg Prod.fst sh_1).trans oc_69) (cV_use h (fun s7 M7 h => (pn 73 rfl ?_)))
      refine s_goto (off := 29) (tgt := 102) (by decide +kernel) rfl ?_
      refine s_aload_n (i := 0) (by decide +kernel) rfl (pn 103 rfl ?_)
      refine t_bipush (by decide +kernel) kb_59 (pn 105 rfl ?_)
      refine s_callvV [.int 59] rfl (by decide +kernel) mv_6_56 np_62 (Nat.le_of_ble_eq_true rfl) lq_1 ((congrArg Prod.fst sh_1).trans oc_62) (cV_use h (fun s8 M8 h => (pn 108 rfl ?_)))
      refine s_aload_n (i := 0) (by decide +kernel) rfl (pn 109 rfl ?_)
      refine s_getfield (v := .ref 2) (by decide +kernel) fr_6_12 lq_1 (congrArg Prod.fst sh_1) (fv_ref pf_1_0) (pn 112 rfl ?_)
      refine s_dup (by decide +kernel) rfl (pn 113 rfl ?_)
      refine s_getfield (v := .int (M8.1 2 3)) (by decide +kernel) fr_6_66 lq_2 (congrArg Prod.fst sh_2) rfl (pn 116 rfl ?_)
      refine t_iconst (by decide +kernel) ki_1 (pn 117 rfl ?_)
      refine s_iadd (by decide +kernel) (pn 118 rfl ?_)
      refine s_putfieldI (by decide +kernel) fr_6_66 lq_2 (congrArg Prod.fst sh_2) (fun q => by cases q) (Or.inl rfl) (pn 121 rfl ?_)
      exact s_return (st := []) (by decide +kernel) rfl ⟨rfl, s8, rfl, h⟩
    refine t_icmp_ne (off := 7) (tgt := 69) (by decide +kernel) rfl (fun c6 => ?_) (fun c6 => (pn 65 rfl ?_))
    · refine t_iconst (by decide +kernel) ki_0 (pn 70 rfl ?_)
      exact k2 _ (by simp only [if_neg c6])
    · refine t_iconst (by decide +kernel) ki_1 (pn 66 rfl ?_)
      refine s_goto (off := 4) (tgt := 70) (by decide +kernel) rfl ?_
      exact k2 _ (by simp only [if_pos c6])
  have h := h.2 c5
  by_cases c7 : (M.1 1 7) = 205
  · refine s_tableswitch (dflt := 93) (lo := 201) (hi := 205) (offs := #[36, 43, 50, 50, 72]) (len := 36) (tgt := 76) (by decide +kernel) (by rw [c7]; decide) (by rw [c7]; decide) ?_
    have h := h.1 c7
    refine s_aload_n (i := 0) (by decide +kernel) rfl (pn 77 rfl ?_)
    refine s_callvV [] rfl (by decide +kernel) mv_6_53 np_55 (Nat.le_of_ble_eq_true rfl) lq_1 ((congrArg Prod.fst sh_1).trans oc_55) (cV_use h (fun s9 M9 h => (pn 80 rfl ?_)))
    refine s_aload_n (i := 0) (by decide +kernel) rfl (pn 81 rfl ?_)
    refine s_getfield (v := .ref 2) (by decide +kernel) fr_6_12 lq_1 (congrArg Prod.fst sh_1) (fv_ref pf_1_0) (pn 84 rfl ?_)
    refine s_aload_n (i := 0) (by decide +kernel) rfl (pn 85 rfl ?_)
    refine t_iconst (by decide +kernel) ki_0 (pn 86 rfl ?_)
    refine t_bipush (by decide +kernel) kb_10 (pn 88 rfl ?_)
    refine s_callvI [.int 0, .int 10] rfl (by decide +kernel) mv_6_60 np_63 (Nat.le_of_ble_eq_true rfl) lq_1 ((congrArg Prod.fst sh_1).trans oc_63) (cI_use h (fun r1 s10 M10 h => (pn 91 rfl ?_)))
    refine s_putfieldI (by decide +kernel) fr_6_118 lq_2 (congrArg Prod.fst sh_2) (fun q => by cases q) (Or.inl rfl) (pn 94 rfl ?_)
    refine s_goto (off := 8) (tgt := 102) (by decide +kernel) rfl ?_
    refine s_aload_n (i := 0) (by decide +kernel) rfl (pn 103 rfl ?_)
    refine t_bipush (by decide +kernel) kb_59 (pn 105 rfl ?_)
    refine s_callvV [.int 59] rfl (by decide +kernel) mv_6_56 np_62 (Nat.le_of_ble_eq_true rfl) lq_1 ((congrArg Prod.fst sh_1).trans oc_62) (cV_use h (fun s11 M11 h => (pn 108 rfl ?_)))
    refine s_aload_n (i := 0) (by decide +kernel) rfl (pn 109 rfl ?_)
    refine s_getfield (v := .ref 2) (by decide +kernel) fr_6_12 lq_1 (congrArg Prod.fst sh_1) (fv_ref pf_1_0) (pn 112 rfl ?_)
    refine s_dup (by decide +kernel) rfl (pn 113 rfl ?_)
    refine s_getfield (v := .int (M11.1 2 3)) (by decide +kernel) fr_6_66 lq_2 (congrArg Prod.fst sh_2) rfl (pn 116 rfl ?_)
    refine t_iconst (by decide +kernel) ki_1 (pn 117 rfl ?_)
    refine s_iadd (by decide +kernel) (pn 118 rfl ?_)
    refine s_putfieldI (by decide +kernel) fr_6_66 lq_2 (congrArg Prod.fst sh_2) (fun q => by cases q) (Or.inl rfl) (pn 121 rfl ?_)
    exact s_return (st := []) (by decide +kernel) rfl ⟨rfl, s11, rfl, h⟩
  have h := h.2 c7
  have k3 : wR_readLine d 97 [.ref 1] [] s M Q := by
    refine s_aload_n (i := 0) (by decide +kernel) rfl (pn 98 rfl ?_)
    refine t_iconst (by decide +kernel) ki_2 (pn 99 rfl ?_)
    refine s_callvV [.int 2] rfl (by decide +kernel) mv_6_91 np_60 (Nat.le_of_ble_eq_true rfl) lq_1 ((congrArg Prod.fst sh_1).trans oc_60) (cV_use h (fun s12 M12 h => (pn 102 rfl ?_)))
    refine s_aload_n (i := 0) (by decide +kernel) rfl (pn 103 rfl ?_)
    refine t_bipush (by decide +kernel) kb_59 (pn 105 rfl ?_)
    refine s_callvV [.int 59] rfl (by decide +kernel) mv_6_56 np_62 (Nat.le_of_ble_eq_true rfl) lq_1 ((congrArg Prod.fst sh_1).trans oc_62) (cV_use h (fun s13 M13 h => (pn 108 rfl ?_)))
    refine s_aload_n (i := 0) (by decide +kernel) rfl (pn 109 rfl ?_)
    refine s_getfield (v := .ref 2) (by decide +kernel) fr_6_12 lq_1 (congrArg Prod.fst sh_1) (fv_ref pf_1_0) (pn 112 rfl ?_)
    refine s_dup (by decide +kernel) rfl (pn 113 rfl ?_)
    refine s_getfield (v := .int (M13.1 2 3)) (by decide +kernel) fr_6_66 lq_2 (congrArg Prod.fst sh_2) rfl (pn 116 rfl ?_)
    refine t_iconst (by decide +kernel) ki_1 (pn 117 rfl ?_)
    refine s_iadd (by decide +kernel) (pn 118 rfl ?_)
    refine s_putfieldI (by decide +kernel) fr_6_66 lq_2 (congrArg Prod.fst sh_2) (fun q => by cases q) (Or.inl rfl) (pn 121 rfl ?_)
    exact s_return (st := []) (by decide +kernel) rfl ⟨rfl, s13, rfl, h⟩
  by_cases q0 : (M.1 1 7).toInt < 201 ∨ 205 < (M.1 1 7).toInt
  · exact t_tabledef (dflt := 93) (lo := 201) (hi := 205) (offs := #[36, 43, 50, 50, 72]) (len := 36) (tgt := 97) (by decide +kernel) rfl q0 k3
  · rcases (show (M.1 1 7).toInt = 201 ∨ (M.1 1 7).toInt = 202 ∨ (M.1 1 7).toInt = 203 ∨ (M.1 1 7).toInt = 204 ∨ (M.1 1 7).toInt = 205 by omega) with q1 | q1 | q1 | q1 | q1
    · exact absurd (Int32.toInt_inj.mp (q1.trans (by decide))) c1
    · exact absurd (Int32.toInt_inj.mp (q1.trans (by decide))) c2
    · exact absurd (Int32.toInt_inj.mp (q1.trans (by decide))) c3
    · exact absurd (Int32.toInt_inj.mp (q1.trans (by decide))) c5
    · exact absurd (Int32.toInt_inj.mp (q1.trans (by decide))) c7
abbrev wR_readThing (d pc : Nat) (ls st : List Value) (s : pm_S) (M : pm_M) (Q : pm_S → pm_M → Prop) : Prop := wV d prog_8_method_15_code 6 none false pc ls st s M Q
theorem enR_readThing {d : Nat} {s : pm_S} {M : pm_M}  {Q : pm_S → pm_M → Prop}  (h : ((((M.1 2 1) < 8) → cV d yR_step [.ref 1] s M (fun s1 M1 => cV d yR_expect [.ref 1, .int 206] s1 M1 (fun s2 M2 => cI d yR_readNumber [.ref 1, .int 0, .int ((M2.1 2 0) - 1)] s2 M2 (fun r1 s3 M3 => cI d yL_addThing [.ref 2, .int r1] s3 M3 (fun r2 s4 M4 => wR_readThing d 53 [.ref 1, .int r2, .int 0, .null] [] s4 M4 Q))))) ∧ (¬ ((M.1 2 1) < 8) → cV d yR_fail [.ref 1, .int 4] s M (fun s5 M5 => Q s5 M5)))) : cV (d + 1) yR_readThing [.ref 1] s M Q := by
  refine pm_toV (by decide) (Nat.le_of_ble_eq_true rfl) ?_
  show wR_readThing d 0 [.ref 1, .null, .null, .null] [] s M Q
  refine s_aload_n (i := 0) (by decide +kernel) rfl (pn 1 rfl ?_)
  refine s_getfield (v := .ref 2) (by decide +kernel) fr_6_12 lq_1 (congrArg Prod.fst sh_1) (fv_ref pf_1_0) (pn 4 rfl ?_)
  refine s_getfield (v := .int (M.1 2 1)) (by decide +kernel) fr_6_121 lq_2 (congrArg Prod.fst sh_2) rfl (pn 7 rfl ?_)
  refine t_bipush (by decide +kernel) kb_8 (pn 9 rfl ?_)
  refine s_icmp_lt (off := 9) (tgt := 18) (by decide +kernel) rfl (fun c1 => ?_) (fun c1 => (pn 12 rfl ?_))
  · have h := h.1 c1
    refine s_aload_n (i := 0) (by decide +kernel) rfl (pn 19 rfl ?_)
    refine s_callvV [] rfl (by decide +kernel) mv_6_53 np_55 (Nat.le_of_ble_eq_true rfl) lq_1 ((congrArg Prod.fst sh_1).trans oc_55) (cV_use h (fun s1 M1 h => (pn 22 rfl ?_)))
    refine s_aload_n (i := 0) (by decide +kernel) rfl (pn 23 rfl ?_)
    refine t_sipush (by decide +kernel) ks_206 (pn 26 rfl ?_)
    refine s_callvV [.int 206] rfl (by decide +kernel) mv_6_56 np_62 (Nat.le_of_ble_eq_true rfl) lq_1 ((congrArg Prod.fst sh_1).trans oc_62) (cV_use h (fun s2 M2 h => (pn 29 rfl ?_)))
    refine s_aload_n (i := 0) (by decide +kernel) rfl (pn 30 rfl ?_)
    refine s_getfield (v := .ref 2) (by decide +kernel) fr_6_12 lq_1 (congrArg Prod.fst sh_1) (fv_ref pf_1_0) (pn 33 rfl ?_)
    refine s_aload_n (i := 0) (by decide +kernel) rfl (pn 34 rfl ?_)
    refine t_iconst (by decide +kernel) ki_0 (pn 35 rfl ?_)
    refine s_aload_n (i := 0) (by decide +kernel) rfl (pn 36 rfl ?_)
    refine s_getfield (v := .ref 2) (by decide +kernel) fr_6_12 lq_1 (congrArg Prod.fst sh_1) (fv_ref pf_1_0) (pn 39 rfl ?_)
    refine s_getfield (v := .int (M2.1 2 0)) (by decide +kernel) fr_6_63 lq_2 (congrArg Prod.fst sh_2) rfl (pn 42 rfl ?_)
    refine t_iconst (by decide +kernel) ki_1 (pn 43 rfl ?_)
    refine s_isub (by decide +kernel) (pn 44 rfl ?_)
    refine s_callvI [.int 0, .int ((M2.1 2 0) - 1)] rfl (by decide +kernel) mv_6_60 np_63 (Nat.le_of_ble_eq_true rfl) lq_1 ((congrArg Prod.fst sh_1).trans oc_63) (cI_use h (fun r1 s3 M3 h => (pn 47 rfl ?_)))
    refine s_callvI [.int r1] rfl (by decide +kernel) mv_6_124 np_25 (Nat.le_of_ble_eq_true rfl) lq_2 ((congrArg Prod.fst sh_2).trans oc_25) (cI_use h (fun r2 s4 M4 h => (pn 50 rfl ?_)))
    refine s_istore_n (i := 1) (by decide +kernel) (Nat.le_of_ble_eq_true rfl) (pn 51 rfl (t_store (ls' := [.ref 1, .int r2, .null, .null]) rfl ?_))
    refine t_iconst (by decide +kernel) ki_0 (pn 52 rfl ?_)
    refine s_istore_n (i := 2) (by decide +kernel) (Nat.le_of_ble_eq_true rfl) (pn 53 rfl (t_store (ls' := [.ref 1, .int r2, .int 0, .null]) rfl ?_))
    exact h
  · have h := h.2 c1
    refine s_aload_n (i := 0) (by decide +kernel) rfl (pn 13 rfl ?_)
    refine t_iconst (by decide +kernel) ki_4 (pn 14 rfl ?_)
    refine s_callvV [.int 4] rfl (by decide +kernel) mv_6_91 np_60 (Nat.le_of_ble_eq_true rfl) lq_1 ((congrArg Prod.fst sh_1).trans oc_60) (cV_use h (fun s5 M5 h => (pn 17 rfl ?_)))
    exact s_return (st := []) (by decide +kernel) rfl ⟨rfl, s5, rfl, h⟩
theorem sgR_readThing_53 {d : Nat} {s : pm_S} {M : pm_M} {l1 : Int32} {l2 : Int32} {Q : pm_S → pm_M → Prop}  (h : (((900 ≤ l2) → Q s M) ∧ (¬ (900 ≤ l2) → ((((M.1 1 7) = 207) → wR_readThing d 95 [.ref 1, .int l1, .int l2, .null] [.int ((if (M.1 1 7) = 207 then 1 else 0) : Int32)] s M Q) ∧ (¬ ((M.1 1 7) = 207) → (((M.1 1 7) = 208 → wR_readThing d 95 [.ref 1, .int l1, .int l2, .null] [.int ((if (M.1 1 7) = 207 then 1 else 0) : Int32)] s M Q) ∧ (¬ ((M.1 1 7) = 208) → Q s M))))))) : wR_readThing d 53 [.ref 1, .int l1, .int l2, .null] [] s M Q := by
  refine s_iload_n (i := 2) (by decide +kernel) rfl (pn 54 rfl ?_)
  refine t_sipush (by decide +kernel) ks_900 (pn 57 rfl ?_)
  refine s_icmp_ge (off := 88) (tgt := 145) (by decide +kernel) rfl (fun c1 => ?_) (fun c1 => (pn 60 rfl ?_))
  · have h := h.1 c1
    exact s_return (st := []) (by decide +kernel) rfl ⟨rfl, s, rfl, h⟩
  · have h := h.2 c1
    refine s_aload_n (i := 0) (by decide +kernel) rfl (pn 61 rfl ?_)
    refine s_getfield (v := .int (M.1 1 7)) (by decide +kernel) fr_6_69 lq_1 (congrArg Prod.fst sh_1) rfl (pn 64 rfl ?_)
    refine t_sipush (by decide +kernel) ks_207 (pn 67 rfl ?_)
    refine s_icmp_eq (off := 13) (tgt := 80) (by decide +kernel) rfl (fun c4 => ?_) (fun c4 => (pn 70 rfl ?_))
    · have h := h.1 c4
      refine s_aload_n (i := 0) (by decide +kernel) rfl (pn 81 rfl ?_)
      refine s_getfield (v := .int (M.1 1 7)) (by decide +kernel) fr_6_69 lq_1 (congrArg Prod.fst sh_1) rfl (pn 84 rfl ?_)
      refine t_sipush (by decide +kernel) ks_207 (pn 87 rfl ?_)
      have k1 : ∀ (z1 : Int32) (z1e : z1 = ((if (M.1 1 7) = 207 then 1 else 0) : Int32)), wR_readThing d 95 [.ref 1, .int l1, .int l2, .null] [.int z1] s M Q := by
        intro z1 z1e
        subst z1e
        exact h
      refine t_icmp_ne (off := 7) (tgt := 94) (by decide +kernel) rfl (fun c6 => ?_) (fun c6 => (pn 90 rfl ?_))
      · refine t_iconst (by decide +kernel) ki_0 (pn 95 rfl ?_)
        exact k1 _ (by simp only [if_neg c6])
      · refine t_iconst (by decide +kernel) ki_1 (pn 91 rfl ?_)
        refine s_goto (off := 4) (tgt := 95) (by decide +kernel) rfl ?_
        exact k1 _ (by simp only [if_pos c6])
    · have h := h.2 c4
      refine s_aload_n (i := 0) (by decide +kernel) rfl (pn 71 rfl ?_)
      refine s_getfield (v := .int (M.1 1 7)) (by decide +kernel) fr_6_69 lq_1 (congrArg Prod.fst sh_1) rfl (pn 74 rfl ?_)
      refine t_sipush (by decide +kernel) ks_208 (pn 77 rfl ?_)
      refine t_icmp_ne (off := 68) (tgt := 145) (by decide +kernel) rfl (fun c7 => ?_) (fun c7 => (pn 80 rfl ?_))
      · have h := h.2 c7
        exact s_return (st := []) (by decide +kernel) rfl ⟨rfl, s, rfl, h⟩
      · have h := h.1 c7
        refine s_aload_n (i := 0) (by decide +kernel) rfl (pn 81 rfl ?_)
        refine s_getfield (v := .int (M.1 1 7)) (by decide +kernel) fr_6_69 lq_1 (congrArg Prod.fst sh_1) rfl (pn 84 rfl ?_)
        refine t_sipush (by decide +kernel) ks_207 (pn 87 rfl ?_)
        have k2 : ∀ (z2 : Int32) (z2e : z2 = ((if (M.1 1 7) = 207 then 1 else 0) : Int32)), wR_readThing d 95 [.ref 1, .int l1, .int l2, .null] [.int z2] s M Q := by
          intro z2 z2e
          subst z2e
          exact h
        refine t_icmp_ne (off := 7) (tgt := 94) (by decide +kernel) rfl (fun c9 => ?_) (fun c9 => (pn 90 rfl ?_))
        · refine t_iconst (by decide +kernel) ki_0 (pn 95 rfl ?_)
          exact k2 _ (by simp only [if_neg c9])
        · refine t_iconst (by decide +kernel) ki_1 (pn 91 rfl ?_)
          refine s_goto (off := 4) (tgt := 95) (by decide +kernel) rfl ?_
          exact k2 _ (by simp only [if_pos c9])
theorem sgR_readThing_95 {d : Nat} {s : pm_S} {M : pm_M} {l1 : Int32} {l2 : Int32} {t0 : Int32} {Q : pm_S → pm_M → Prop}  (h : cV d yR_step [.ref 1] s M (fun s1 M1 => (((t0 = 0) → cI d yR_readNumber [.ref 1, .int 0, .int 9] s1 M1 (fun r1 s2 M2 => vp_in l1 8 ∧ wR_readThing d 53 [.ref 1, .int l1, .int (l2 + 1), .null] [] s2 (pm_si M2 5 l1.toNatClampNeg r1) Q)) ∧ (¬ (t0 = 0) → cI d yR_readNumber [.ref 1, .int 0, .int 9] s1 M1 (fun r2 s3 M3 => vp_in l1 8 ∧ wR_readThing d 53 [.ref 1, .int l1, .int (l2 + 1), .null] [] s3 (pm_si M3 4 l1.toNatClampNeg r2) Q))))) : wR_readThing d 95 [.ref 1, .int l1, .int l2, .null] [.int t0] s M Q := by
  refine s_istore_n (i := 3) (by decide +kernel) (Nat.le_of_ble_eq_true rfl) (pn 96 rfl (t_store (ls' := [.ref 1, .int l1, .int l2, .int t0]) rfl ?_))
  refine s_aload_n (i := 0) (by decide +kernel) rfl (pn 97 rfl ?_)
  refine s_callvV [] rfl (by decide +kernel) mv_6_53 np_55 (Nat.le_of_ble_eq_true rfl) lq_1 ((congrArg Prod.fst sh_1).trans oc_55) (cV_use h (fun s1 M1 h => (pn 100 rfl ?_)))
  refine s_iload_n (i := 3) (by decide +kernel) rfl (pn 101 rfl ?_)
  refine s_if_eq (off := 22) (tgt := 123) (by decide +kernel) rfl (fun c1 => ?_) (fun c1 => (pn 104 rfl ?_))
  · have h := h.1 c1
    refine s_aload_n (i := 0) (by decide +kernel) rfl (pn 124 rfl ?_)
    refine s_getfield (v := .ref 2) (by decide +kernel) fr_6_12 lq_1 (congrArg Prod.fst sh_1) (fv_ref pf_1_0) (pn 127 rfl ?_)
    refine s_getfield (v := .ref 5) (by decide +kernel) fr_6_131 lq_2 (congrArg Prod.fst sh_2) (fv_ref pf_2_7) (pn 130 rfl ?_)
    refine s_iload_n (i := 1) (by decide +kernel) rfl (pn 131 rfl ?_)
    refine s_aload_n (i := 0) (by decide +kernel) rfl (pn 132 rfl ?_)
    refine t_iconst (by decide +kernel) ki_0 (pn 133 rfl ?_)
    refine t_bipush (by decide +kernel) kb_9 (pn 135 rfl ?_)
    refine s_callvI [.int 0, .int 9] rfl (by decide +kernel) mv_6_60 np_63 (Nat.le_of_ble_eq_true rfl) lq_1 ((congrArg Prod.fst sh_1).trans oc_63) (cI_use h (fun r1 s2 M2 h => (pn 138 rfl ?_)))
    obtain ⟨b1, h⟩ := h
    refine t_iastore (k := l1.toNatClampNeg) (by decide +kernel) ⟨lq_5, congrArg Prod.fst sh_5⟩ (al_in sh_5 b1) rfl (pn 139 rfl ?_)
    refine t_iinc (i := 2) (n := 1) (ls' := [.ref 1, .int l1, .int (l2 + 1), .int t0]) (by decide +kernel) rfl (Nat.le_of_ble_eq_true rfl) kn_1 rfl (pn 142 rfl ?_)
    refine s_goto (off := -89) (tgt := 53) (by decide +kernel) rfl ?_
    exact pm_weak [.ref 1, .int l1, .int (l2 + 1), .null] (pm_le_cons (Or.inr rfl) (pm_le_cons (Or.inr rfl) (pm_le_cons (Or.inr rfl) (pm_le_cons (Or.inl rfl) pm_le_nil)))) h
  · have h := h.2 c1
    refine s_aload_n (i := 0) (by decide +kernel) rfl (pn 105 rfl ?_)
    refine s_getfield (v := .ref 2) (by decide +kernel) fr_6_12 lq_1 (congrArg Prod.fst sh_1) (fv_ref pf_1_0) (pn 108 rfl ?_)
    refine s_getfield (v := .ref 4) (by decide +kernel) fr_6_128 lq_2 (congrArg Prod.fst sh_2) (fv_ref pf_2_6) (pn 111 rfl ?_)
    refine s_iload_n (i := 1) (by decide +kernel) rfl (pn 112 rfl ?_)
    refine s_aload_n (i := 0) (by decide +kernel) rfl (pn 113 rfl ?_)
    refine t_iconst (by decide +kernel) ki_0 (pn 114 rfl ?_)
    refine t_bipush (by decide +kernel) kb_9 (pn 116 rfl ?_)
    refine s_callvI [.int 0, .int 9] rfl (by decide +kernel) mv_6_60 np_63 (Nat.le_of_ble_eq_true rfl) lq_1 ((congrArg Prod.fst sh_1).trans oc_63) (cI_use h (fun r2 s3 M3 h => (pn 119 rfl ?_)))
    obtain ⟨b2, h⟩ := h
    refine t_iastore (k := l1.toNatClampNeg) (by decide +kernel) ⟨lq_4, congrArg Prod.fst sh_4⟩ (al_in sh_4 b2) rfl (pn 120 rfl ?_)
    refine s_goto (off := 19) (tgt := 139) (by decide +kernel) rfl ?_
    refine t_iinc (i := 2) (n := 1) (ls' := [.ref 1, .int l1, .int (l2 + 1), .int t0]) (by decide +kernel) rfl (Nat.le_of_ble_eq_true rfl) kn_1 rfl (pn 142 rfl ?_)
    refine s_goto (off := -89) (tgt := 53) (by decide +kernel) rfl ?_
    exact pm_weak [.ref 1, .int l1, .int (l2 + 1), .null] (pm_le_cons (Or.inr rfl) (pm_le_cons (Or.inr rfl) (pm_le_cons (Or.inr rfl) (pm_le_cons (Or.inl rfl) pm_le_nil)))) h
abbrev wR_readPerson (d pc : Nat) (ls st : List Value) (s : pm_S) (M : pm_M) (Q : pm_S → pm_M → Prop) : Prop := wV d prog_8_method_16_code 6 none false pc ls st s M Q
theorem enR_readPerson {d : Nat} {s : pm_S} {M : pm_M}  {Q : pm_S → pm_M → Prop}  (h : ((((M.1 2 2) < 6) → cV d yR_step [.ref 1] s M (fun s1 M1 => cV d yR_expect [.ref 1, .int 206] s1 M1 (fun s2 M2 => cI d yR_readNumber [.ref 1, .int 0, .int ((M2.1 2 0) - 1)] s2 M2 (fun r1 s3 M3 => cI d yL_addPerson [.ref 2, .int r1] s3 M3 (fun r2 s4 M4 => wR_readPerson d 53 [.ref 1, .int r2, .int 0] [] s4 M4 Q))))) ∧ (¬ ((M.1 2 2) < 6) → cV d yR_fail [.ref 1, .int 4] s M (fun s5 M5 => Q s5 M5)))) : cV (d + 1) yR_readPerson [.ref 1] s M Q := by
  refine pm_toV (by decide) (Nat.le_of_ble_eq_true rfl) ?_
  show wR_readPerson d 0 [.ref 1, .null, .null] [] s M Q
  refine s_aload_n (i := 0) (by decide +kernel) rfl (pn 1 rfl ?_)
  refine s_getfield (v := .ref 2) (by decide +kernel) fr_6_12 lq_1 (congrArg Prod.fst sh_1) (fv_ref pf_1_0) (pn 4 rfl ?_)
  refine s_getfield (v := .int (M.1 2 2)) (by decide +kernel) fr_6_134 lq_2 (congrArg Prod.fst sh_2) rfl (pn 7 rfl ?_)
  refine t_bipush (by decide +kernel) kb_6 (pn 9 rfl ?_)
  refine s_icmp_lt (off := 9) (tgt := 18) (by decide +kernel) rfl (fun c1 => ?_) (fun c1 => (pn 12 rfl ?_))
  · have h := h.1 c1
    refine s_aload_n (i := 0) (by decide +kernel) rfl (pn 19 rfl ?_)
    refine s_callvV [] rfl (by decide +kernel) mv_6_53 np_55 (Nat.le_of_ble_eq_true rfl) lq_1 ((congrArg Prod.fst sh_1).trans oc_55) (cV_use h (fun s1 M1 h => (pn 22 rfl ?_)))
    refine s_aload_n (i := 0) (by decide +kernel) rfl (pn 23 rfl ?_)
    refine t_sipush (by decide +kernel) ks_206 (pn 26 rfl ?_)
    refine s_callvV [.int 206] rfl (by decide +kernel) mv_6_56 np_62 (Nat.le_of_ble_eq_true rfl) lq_1 ((congrArg Prod.fst sh_1).trans oc_62) (cV_use h (fun s2 M2 h => (pn 29 rfl ?_)))
    refine s_aload_n (i := 0) (by decide +kernel) rfl (pn 30 rfl ?_)
    refine s_getfield (v := .ref 2) (by decide +kernel) fr_6_12 lq_1 (congrArg Prod.fst sh_1) (fv_ref pf_1_0) (pn 33 rfl ?_)
    refine s_aload_n (i := 0) (by decide +kernel) rfl (pn 34 rfl ?_)
    refine t_iconst (by decide +kernel) ki_0 (pn 35 rfl ?_)
    refine s_aload_n (i := 0) (by decide +kernel) rfl (pn 36 rfl ?_)
    refine s_getfield (v := .ref 2) (by decide +kernel) fr_6_12 lq_1 (congrArg Prod.fst sh_1) (fv_ref pf_1_0) (pn 39 rfl ?_)
    refine s_getfield (v := .int (M2.1 2 0)) (by decide +kernel) fr_6_63 lq_2 (congrArg Prod.fst sh_2) rfl (pn 42 rfl ?_)
    refine t_iconst (by decide +kernel) ki_1 (pn 43 rfl ?_)
    refine s_isub (by decide +kernel) (pn 44 rfl ?_)
    refine s_callvI [.int 0, .int ((M2.1 2 0) - 1)] rfl (by decide +kernel) mv_6_60 np_63 (Nat.le_of_ble_eq_true rfl) lq_1 ((congrArg Prod.fst sh_1).trans oc_63) (cI_use h (fun r1 s3 M3 h => (pn 47 rfl ?_)))
    refine s_callvI [.int r1] rfl (by decide +kernel) mv_6_137 np_26 (Nat.le_of_ble_eq_true rfl) lq_2 ((congrArg Prod.fst sh_2).trans oc_26) (cI_use h (fun r2 s4 M4 h => (pn 50 rfl ?_)))
    refine s_istore_n (i := 1) (by decide +kernel) (Nat.le_of_ble_eq_true rfl) (pn 51 rfl (t_store (ls' := [.ref 1, .int r2, .null]) rfl ?_))
    refine t_iconst (by decide +kernel) ki_0 (pn 52 rfl ?_)
    refine s_istore_n (i := 2) (by decide +kernel) (Nat.le_of_ble_eq_true rfl) (pn 53 rfl (t_store (ls' := [.ref 1, .int r2, .int 0]) rfl ?_))
    exact h
  · have h := h.2 c1
    refine s_aload_n (i := 0) (by decide +kernel) rfl (pn 13 rfl ?_)
    refine t_iconst (by decide +kernel) ki_4 (pn 14 rfl ?_)
    refine s_callvV [.int 4] rfl (by decide +kernel) mv_6_91 np_60 (Nat.le_of_ble_eq_true rfl) lq_1 ((congrArg Prod.fst sh_1).trans oc_60) (cV_use h (fun s5 M5 h => (pn 17 rfl ?_)))
    exact s_return (st := []) (by decide +kernel) rfl ⟨rfl, s5, rfl, h⟩
theorem sgR_readPerson_53 {d : Nat} {s : pm_S} {M : pm_M} {l1 : Int32} {l2 : Int32} {Q : pm_S → pm_M → Prop}  (h : (((900 ≤ l2) → Q s M) ∧ (¬ (900 ≤ l2) → ((((M.1 1 7) = 209) → cV d yR_readFlag [.ref 1, .int l1] s M (fun s1 M1 => wR_readPerson d 53 [.ref 1, .int l1, .int (l2 + 1)] [] s1 M1 Q)) ∧ (¬ ((M.1 1 7) = 209) → ((((M.1 1 7) = 210) → cV d yR_readFlag [.ref 1, .int l1] s M (fun s2 M2 => wR_readPerson d 53 [.ref 1, .int l1, .int (l2 + 1)] [] s2 M2 Q)) ∧ (¬ ((M.1 1 7) = 210) → (((M.1 1 7) = 211 → cV d yR_readFlag [.ref 1, .int l1] s M (fun s3 M3 => wR_readPerson d 53 [.ref 1, .int l1, .int (l2 + 1)] [] s3 M3 Q)) ∧ (¬ ((M.1 1 7) = 211) → Q s M))))))))) : wR_readPerson d 53 [.ref 1, .int l1, .int l2] [] s M Q := by
  refine s_iload_n (i := 2) (by decide +kernel) rfl (pn 54 rfl ?_)
  refine t_sipush (by decide +kernel) ks_900 (pn 57 rfl ?_)
  refine s_icmp_ge (off := 44) (tgt := 101) (by decide +kernel) rfl (fun c1 => ?_) (fun c1 => (pn 60 rfl ?_))
  · have h := h.1 c1
    exact s_return (st := []) (by decide +kernel) rfl ⟨rfl, s, rfl, h⟩
  · have h := h.2 c1
    refine s_aload_n (i := 0) (by decide +kernel) rfl (pn 61 rfl ?_)
    refine s_getfield (v := .int (M.1 1 7)) (by decide +kernel) fr_6_69 lq_1 (congrArg Prod.fst sh_1) rfl (pn 64 rfl ?_)
    refine t_sipush (by decide +kernel) ks_209 (pn 67 rfl ?_)
    refine s_icmp_eq (off := 23) (tgt := 90) (by decide +kernel) rfl (fun c3 => ?_) (fun c3 => (pn 70 rfl ?_))
    · have h := h.1 c3
      refine s_aload_n (i := 0) (by decide +kernel) rfl (pn 91 rfl ?_)
      refine s_iload_n (i := 1) (by decide +kernel) rfl (pn 92 rfl ?_)
      refine s_callvV [.int l1] rfl (by decide +kernel) mv_6_140 np_68 (Nat.le_of_ble_eq_true rfl) lq_1 ((congrArg Prod.fst sh_1).trans oc_68) (cV_use h (fun s1 M1 h => (pn 95 rfl ?_)))
      refine t_iinc (i := 2) (n := 1) (ls' := [.ref 1, .int l1, .int (l2 + 1)]) (by decide +kernel) rfl (Nat.le_of_ble_eq_true rfl) kn_1 rfl (pn 98 rfl ?_)
      refine s_goto (off := -45) (tgt := 53) (by decide +kernel) rfl ?_
      exact h
    · have h := h.2 c3
      refine s_aload_n (i := 0) (by decide +kernel) rfl (pn 71 rfl ?_)
      refine s_getfield (v := .int (M.1 1 7)) (by decide +kernel) fr_6_69 lq_1 (congrArg Prod.fst sh_1) rfl (pn 74 rfl ?_)
      refine t_sipush (by decide +kernel) ks_210 (pn 77 rfl ?_)
      refine s_icmp_eq (off := 13) (tgt := 90) (by decide +kernel) rfl (fun c4 => ?_) (fun c4 => (pn 80 rfl ?_))
      · have h := h.1 c4
        refine s_aload_n (i := 0) (by decide +kernel) rfl (pn 91 rfl ?_)
        refine s_iload_n (i := 1) (by decide +kernel) rfl (pn 92 rfl ?_)
        refine s_callvV [.int l1] rfl (by decide +kernel) mv_6_140 np_68 (Nat.le_of_ble_eq_true rfl) lq_1 ((congrArg Prod.fst sh_1).trans oc_68) (cV_use h (fun s2 M2 h => (pn 95 rfl ?_)))
        refine t_iinc (i := 2) (n := 1) (ls' := [.ref 1, .int l1, .int (l2 + 1)]) (by decide +kernel) rfl (Nat.le_of_ble_eq_true rfl) kn_1 rfl (pn 98 rfl ?_)
        refine s_goto (off := -45) (tgt := 53) (by decide +kernel) rfl ?_
        exact h
      · have h := h.2 c4
        refine s_aload_n (i := 0) (by decide +kernel) rfl (pn 81 rfl ?_)
        refine s_getfield (v := .int (M.1 1 7)) (by decide +kernel) fr_6_69 lq_1 (congrArg Prod.fst sh_1) rfl (pn 84 rfl ?_)
        refine t_sipush (by decide +kernel) ks_211 (pn 87 rfl ?_)
        refine t_icmp_ne (off := 14) (tgt := 101) (by decide +kernel) rfl (fun c5 => ?_) (fun c5 => (pn 90 rfl ?_))
        · have h := h.2 c5
          exact s_return (st := []) (by decide +kernel) rfl ⟨rfl, s, rfl, h⟩
        · have h := h.1 c5
          refine s_aload_n (i := 0) (by decide +kernel) rfl (pn 91 rfl ?_)
          refine s_iload_n (i := 1) (by decide +kernel) rfl (pn 92 rfl ?_)
          refine s_callvV [.int l1] rfl (by decide +kernel) mv_6_140 np_68 (Nat.le_of_ble_eq_true rfl) lq_1 ((congrArg Prod.fst sh_1).trans oc_68) (cV_use h (fun s3 M3 h => (pn 95 rfl ?_)))
          refine t_iinc (i := 2) (n := 1) (ls' := [.ref 1, .int l1, .int (l2 + 1)]) (by decide +kernel) rfl (Nat.le_of_ble_eq_true rfl) kn_1 rfl (pn 98 rfl ?_)
          refine s_goto (off := -45) (tgt := 53) (by decide +kernel) rfl ?_
          exact h
abbrev wR_readFlag (d pc : Nat) (ls st : List Value) (s : pm_S) (M : pm_M) (Q : pm_S → pm_M → Prop) : Prop := wV d prog_8_method_17_code 6 none false pc ls st s M Q
theorem enR_readFlag {d : Nat} {s : pm_S} {M : pm_M} {x1 : Int32} {Q : pm_S → pm_M → Prop}  (h : cV d yR_step [.ref 1] s M (fun s1 M1 => (((M.1 1 7) = 209 → cI d yR_readNumber [.ref 1, .int 0, .int 9] s1 M1 (fun r5 s9 M9 => vp_in x1 6 ∧ Q s9 (pm_si M9 8 x1.toNatClampNeg r5))) ∧ (¬ ((M.1 1 7) = 209) → (((M.1 1 7) = 210 → cI d yR_readNumber [.ref 1, .int 0, .int 99] s1 M1 (fun r4 s8 M8 => vp_in x1 6 ∧ Q s8 (pm_si M8 9 x1.toNatClampNeg r4))) ∧ (¬ ((M.1 1 7) = 210) → (((M1.1 1 7) = 128 → cI d yL_canBeHeld [.ref 2, .int (M1.1 1 9)] s1 M1 (fun r2 s4 M4 => ((r2 = 0 → cV d yR_fail [.ref 1, .int 3] s4 M4 (fun s7 M7 => Q s7 M7)) ∧ (¬ (r2 = 0) → cI d yR_readNumber [.ref 1, .int 0, .int 7] s4 M4 (fun r3 s5 M5 => cV d yL_giveTo [.ref 2, .int x1, .int r3] s5 M5 (fun s6 M6 => Q s6 M6)))))) ∧ (¬ ((M1.1 1 7) = 128) → cI d yR_readNumber [.ref 1, .int 0, .int 7] s1 M1 (fun r1 s2 M2 => cV d yL_giveTo [.ref 2, .int x1, .int r1] s2 M2 (fun s3 M3 => Q s3 M3)))))))))) : cV (d + 1) yR_readFlag [.ref 1, .int x1] s M Q := by
  refine pm_toV (by decide) (Nat.le_of_ble_eq_true rfl) ?_
  show wR_readFlag d 0 [.ref 1, .int x1, .null] [] s M Q
  refine s_aload_n (i := 0) (by decide +kernel) rfl (pn 1 rfl ?_)
  refine s_getfield (v := .int (M.1 1 7)) (by decide +kernel) fr_6_69 lq_1 (congrArg Prod.fst sh_1) rfl (pn 4 rfl ?_)
  refine s_istore_n (i := 2) (by decide +kernel) (Nat.le_of_ble_eq_true rfl) (pn 5 rfl (t_store (ls' := [.ref 1, .int x1, .int (M.1 1 7)]) rfl ?_))
  refine s_aload_n (i := 0) (by decide +kernel) rfl (pn 6 rfl ?_)
  refine s_callvV [] rfl (by decide +kernel) mv_6_53 np_55 (Nat.le_of_ble_eq_true rfl) lq_1 ((congrArg Prod.fst sh_1).trans oc_55) (cV_use h (fun s1 M1 h => (pn 9 rfl ?_)))
  refine s_iload_n (i := 2) (by decide +kernel) rfl (pn 10 rfl ?_)
  refine t_sipush (by decide +kernel) ks_209 (pn 13 rfl ?_)
  refine t_icmp_ne (off := 22) (tgt := 35) (by decide +kernel) rfl (fun c1 => ?_) (fun c1 => (pn 16 rfl ?_))
  · have h := h.2 c1
    refine s_iload_n (i := 2) (by decide +kernel) rfl (pn 36 rfl ?_)
    refine t_sipush (by decide +kernel) ks_210 (pn 39 rfl ?_)
    refine t_icmp_ne (off := 22) (tgt := 61) (by decide +kernel) rfl (fun c4 => ?_) (fun c4 => (pn 42 rfl ?_))
    · have h := h.2 c4
      refine s_aload_n (i := 0) (by decide +kernel) rfl (pn 62 rfl ?_)
      refine s_getfield (v := .int (M1.1 1 7)) (by decide +kernel) fr_6_69 lq_1 (congrArg Prod.fst sh_1) rfl (pn 65 rfl ?_)
      refine t_sipush (by decide +kernel) ks_128 (pn 68 rfl ?_)
      refine t_icmp_ne (off := 25) (tgt := 93) (by decide +kernel) rfl (fun c6 => ?_) (fun c6 => (pn 71 rfl ?_))
      · have h := h.2 c6
        refine s_aload_n (i := 0) (by decide +kernel) rfl (pn 94 rfl ?_)
        refine s_getfield (v := .ref 2) (by decide +kernel) fr_6_12 lq_1 (congrArg Prod.fst sh_1) (fv_ref pf_1_0) (pn 97 rfl ?_)
        refine s_iload_n (i := 1) (by decide +kernel) rfl (pn 98 rfl ?_)
        refine s_aload_n (i := 0) (by decide +kernel) rfl (pn 99 rfl ?_)
        refine t_iconst (by decide +kernel) ki_0 (pn 100 rfl ?_)
        refine t_bipush (by decide +kernel) kb_7 (pn 102 rfl ?_)
        refine s_callvI [.int 0, .int 7] rfl (by decide +kernel) mv_6_60 np_63 (Nat.le_of_ble_eq_true rfl) lq_1 ((congrArg Prod.fst sh_1).trans oc_63) (cI_use h (fun r1 s2 M2 h => (pn 105 rfl ?_)))
        refine s_callvV [.int x1, .int r1] rfl (by decide +kernel) mv_6_152 np_29 (Nat.le_of_ble_eq_true rfl) lq_2 ((congrArg Prod.fst sh_2).trans oc_29) (cV_use h (fun s3 M3 h => (pn 108 rfl ?_)))
        exact s_return (st := []) (by decide +kernel) rfl ⟨rfl, s3, rfl, h⟩
      · have h := h.1 c6
        refine s_aload_n (i := 0) (by decide +kernel) rfl (pn 72 rfl ?_)
        refine s_getfield (v := .ref 2) (by decide +kernel) fr_6_12 lq_1 (congrArg Prod.fst sh_1) (fv_ref pf_1_0) (pn 75 rfl ?_)
        refine s_aload_n (i := 0) (by decide +kernel) rfl (pn 76 rfl ?_)
        refine s_getfield (v := .int (M1.1 1 9)) (by decide +kernel) fr_6_94 lq_1 (congrArg Prod.fst sh_1) rfl (pn 79 rfl ?_)
        refine s_callvI [.int (M1.1 1 9)] rfl (by decide +kernel) mv_6_149 np_27 (Nat.le_of_ble_eq_true rfl) lq_2 ((congrArg Prod.fst sh_2).trans oc_27) (cI_use h (fun r2 s4 M4 h => (pn 82 rfl ?_)))
        refine t_if_ne (off := 11) (tgt := 93) (by decide +kernel) rfl (fun c7 => ?_) (fun c7 => (pn 85 rfl ?_))
        · have h := h.2 c7
          refine s_aload_n (i := 0) (by decide +kernel) rfl (pn 94 rfl ?_)
          refine s_getfield (v := .ref 2) (by decide +kernel) fr_6_12 lq_1 (congrArg Prod.fst sh_1) (fv_ref pf_1_0) (pn 97 rfl ?_)
          refine s_iload_n (i := 1) (by decide +kernel) rfl (pn 98 rfl ?_)
          refine s_aload_n (i := 0) (by decide +kernel) rfl (pn 99 rfl ?_)
          refine t_iconst (by decide +kernel) ki_0 (pn 100 rfl ?_)
          refine t_bipush (by decide +kernel) kb_7 (pn 102 rfl ?_)
          refine s_callvI [.int 0, .int 7] rfl (by decide +kernel) mv_6_60 np_63 (Nat.le_of_ble_eq_true rfl) lq_1 ((congrArg Prod.fst sh_1).trans oc_63) (cI_use h (fun r3 s5 M5 h => (pn 105 rfl ?_)))
          refine s_callvV [.int x1, .int r3] rfl (by decide +kernel) mv_6_152 np_29 (Nat.le_of_ble_eq_true rfl) lq_2 ((congrArg Prod.fst sh_2).trans oc_29) (cV_use h (fun s6 M6 h => (pn 108 rfl ?_)))
          exact s_return (st := []) (by decide +kernel) rfl ⟨rfl, s6, rfl, h⟩
        · have h := h.1 c7
          refine s_aload_n (i := 0) (by decide +kernel) rfl (pn 86 rfl ?_)
          refine t_iconst (by decide +kernel) ki_3 (pn 87 rfl ?_)
          refine s_callvV [.int 3] rfl (by decide +kernel) mv_6_91 np_60 (Nat.le_of_ble_eq_true rfl) lq_1 ((congrArg Prod.fst sh_1).trans oc_60) (cV_use h (fun s7 M7 h => (pn 90 rfl ?_)))
          refine s_goto (off := 18) (tgt := 108) (by decide +kernel) rfl ?_
          exact s_return (st := []) (by decide +kernel) rfl ⟨rfl, s7, rfl, h⟩
    · have h := h.1 c4
      refine s_aload_n (i := 0) (by decide +kernel) rfl (pn 43 rfl ?_)
      refine s_getfield (v := .ref 2) (by decide +kernel) fr_6_12 lq_1 (congrArg Prod.fst sh_1) (fv_ref pf_1_0) (pn 46 rfl ?_)
      refine s_getfield (v := .ref 9) (by decide +kernel) fr_6_146 lq_2 (congrArg Prod.fst sh_2) (fv_ref pf_2_11) (pn 49 rfl ?_)
      refine s_iload_n (i := 1) (by decide +kernel) rfl (pn 50 rfl ?_)
      refine s_aload_n (i := 0) (by decide +kernel) rfl (pn 51 rfl ?_)
      refine t_iconst (by decide +kernel) ki_0 (pn 52 rfl ?_)
      refine t_bipush (by decide +kernel) kb_99 (pn 54 rfl ?_)
      refine s_callvI [.int 0, .int 99] rfl (by decide +kernel) mv_6_60 np_63 (Nat.le_of_ble_eq_true rfl) lq_1 ((congrArg Prod.fst sh_1).trans oc_63) (cI_use h (fun r4 s8 M8 h => (pn 57 rfl ?_)))
      obtain ⟨b1, h⟩ := h
      refine t_iastore (k := x1.toNatClampNeg) (by decide +kernel) ⟨lq_9, congrArg Prod.fst sh_9⟩ (al_in sh_9 b1) rfl (pn 58 rfl ?_)
      refine s_goto (off := 50) (tgt := 108) (by decide +kernel) rfl ?_
      exact s_return (st := []) (by decide +kernel) rfl ⟨rfl, s8, rfl, h⟩
  · have h := h.1 c1
    refine s_aload_n (i := 0) (by decide +kernel) rfl (pn 17 rfl ?_)
    refine s_getfield (v := .ref 2) (by decide +kernel) fr_6_12 lq_1 (congrArg Prod.fst sh_1) (fv_ref pf_1_0) (pn 20 rfl ?_)
    refine s_getfield (v := .ref 8) (by decide +kernel) fr_6_143 lq_2 (congrArg Prod.fst sh_2) (fv_ref pf_2_10) (pn 23 rfl ?_)
    refine s_iload_n (i := 1) (by decide +kernel) rfl (pn 24 rfl ?_)
    refine s_aload_n (i := 0) (by decide +kernel) rfl (pn 25 rfl ?_)
    refine t_iconst (by decide +kernel) ki_0 (pn 26 rfl ?_)
    refine t_bipush (by decide +kernel) kb_9 (pn 28 rfl ?_)
    refine s_callvI [.int 0, .int 9] rfl (by decide +kernel) mv_6_60 np_63 (Nat.le_of_ble_eq_true rfl) lq_1 ((congrArg Prod.fst sh_1).trans oc_63) (cI_use h (fun r5 s9 M9 h => (pn 31 rfl ?_)))
    obtain ⟨b2, h⟩ := h
    refine t_iastore (k := x1.toNatClampNeg) (by decide +kernel) ⟨lq_8, congrArg Prod.fst sh_8⟩ (al_in sh_8 b2) rfl (pn 32 rfl ?_)
    refine s_goto (off := 76) (tgt := 108) (by decide +kernel) rfl ?_
    exact s_return (st := []) (by decide +kernel) rfl ⟨rfl, s9, rfl, h⟩
abbrev wR_readLaw (d pc : Nat) (ls st : List Value) (s : pm_S) (M : pm_M) (Q : pm_S → pm_M → Prop) : Prop := wV d prog_8_method_18_code 6 none false pc ls st s M Q
theorem enR_readLaw {d : Nat} {s : pm_S} {M : pm_M} {x1 : Int32} {Q : pm_S → pm_M → Prop}  (h : (x1 = 0 ∨ x1 = 1) ∧ cV d yR_step [.ref 1] s (pm_si M 1 11 x1) (fun s1 M1 => cV d yR_expect [.ref 1, .int 58] s1 M1 (fun s2 M2 => cV d yR_readSum [.ref 1] s2 M2 (fun s3 M3 => (((x1 = 0) → Q s3 (pm_si (pm_si M3 10 4 (M2.1 10 3)) 10 5 (M3.1 10 3))) ∧ (¬ (x1 = 0) → Q s3 (pm_si (pm_si M3 10 6 (M2.1 10 3)) 10 7 (M3.1 10 3)))))))) : cV (d + 1) yR_readLaw [.ref 1, .int x1] s M Q := by
  refine pm_toV (by decide) (Nat.le_of_ble_eq_true rfl) ?_
  show wR_readLaw d 0 [.ref 1, .int x1, .null] [] s M Q
  refine s_aload_n (i := 0) (by decide +kernel) rfl (pn 1 rfl ?_)
  refine s_iload_n (i := 1) (by decide +kernel) rfl (pn 2 rfl ?_)
  obtain ⟨b1, h⟩ := h
  refine s_putfieldI (by decide +kernel) fr_6_156 lq_1 (congrArg Prod.fst sh_1) (fun q => by cases q) (Or.inr ⟨rfl, b1⟩) (pn 5 rfl ?_)
  refine s_aload_n (i := 0) (by decide +kernel) rfl (pn 6 rfl ?_)
  refine s_callvV [] rfl (by decide +kernel) mv_6_53 np_55 (Nat.le_of_ble_eq_true rfl) lq_1 ((congrArg Prod.fst sh_1).trans oc_55) (cV_use h (fun s1 M1 h => (pn 9 rfl ?_)))
  refine s_aload_n (i := 0) (by decide +kernel) rfl (pn 10 rfl ?_)
  refine t_bipush (by decide +kernel) kb_58 (pn 12 rfl ?_)
  refine s_callvV [.int 58] rfl (by decide +kernel) mv_6_56 np_62 (Nat.le_of_ble_eq_true rfl) lq_1 ((congrArg Prod.fst sh_1).trans oc_62) (cV_use h (fun s2 M2 h => (pn 15 rfl ?_)))
  refine s_aload_n (i := 0) (by decide +kernel) rfl (pn 16 rfl ?_)
  refine s_getfield (v := .ref 2) (by decide +kernel) fr_6_12 lq_1 (congrArg Prod.fst sh_1) (fv_ref pf_1_0) (pn 19 rfl ?_)
  refine s_getfield (v := .ref 10) (by decide +kernel) fr_6_160 lq_2 (congrArg Prod.fst sh_2) (fv_ref pf_2_12) (pn 22 rfl ?_)
  refine s_getfield (v := .int (M2.1 10 3)) (by decide +kernel) fr_6_164 lq_10 (congrArg Prod.fst sh_10) rfl (pn 25 rfl ?_)
  refine s_istore_n (i := 2) (by decide +kernel) (Nat.le_of_ble_eq_true rfl) (pn 26 rfl (t_store (ls' := [.ref 1, .int x1, .int (M2.1 10 3)]) rfl ?_))
  refine s_aload_n (i := 0) (by decide +kernel) rfl (pn 27 rfl ?_)
  refine s_callvV [] rfl (by decide +kernel) mv_6_169 np_70 (Nat.le_of_ble_eq_true rfl) lq_1 ((congrArg Prod.fst sh_1).trans oc_70) (cV_use h (fun s3 M3 h => (pn 30 rfl ?_)))
  refine s_iload_n (i := 1) (by decide +kernel) rfl (pn 31 rfl ?_)
  refine s_if_eq (off := 37) (tgt := 68) (by decide +kernel) rfl (fun c1 => ?_) (fun c1 => (pn 34 rfl ?_))
  · have h := h.1 c1
    refine s_aload_n (i := 0) (by decide +kernel) rfl (pn 69 rfl ?_)
    refine s_getfield (v := .ref 2) (by decide +kernel) fr_6_12 lq_1 (congrArg Prod.fst sh_1) (fv_ref pf_1_0) (pn 72 rfl ?_)
    refine s_getfield (v := .ref 10) (by decide +kernel) fr_6_160 lq_2 (congrArg Prod.fst sh_2) (fv_ref pf_2_12) (pn 75 rfl ?_)
    refine s_iload_n (i := 2) (by decide +kernel) rfl (pn 76 rfl ?_)
    refine s_putfieldI (by decide +kernel) fr_6_178 lq_10 (congrArg Prod.fst sh_10) (fun q => by cases q) (Or.inl rfl) (pn 79 rfl ?_)
    refine s_aload_n (i := 0) (by decide +kernel) rfl (pn 80 rfl ?_)
    refine s_getfield (v := .ref 2) (by decide +kernel) fr_6_12 lq_1 (congrArg Prod.fst sh_1) (fv_ref pf_1_0) (pn 83 rfl ?_)
    refine s_getfield (v := .ref 10) (by decide +kernel) fr_6_160 lq_2 (congrArg Prod.fst sh_2) (fv_ref pf_2_12) (pn 86 rfl ?_)
    refine s_aload_n (i := 0) (by decide +kernel) rfl (pn 87 rfl ?_)
    refine s_getfield (v := .ref 2) (by decide +kernel) fr_6_12 lq_1 (congrArg Prod.fst sh_1) (fv_ref pf_1_0) (pn 90 rfl ?_)
    refine s_getfield (v := .ref 10) (by decide +kernel) fr_6_160 lq_2 (congrArg Prod.fst sh_2) (fv_ref pf_2_12) (pn 93 rfl ?_)
    refine s_getfield (v := .int (M3.1 10 3)) (by decide +kernel) fr_6_164 lq_10 (congrArg Prod.fst sh_10) rfl (pn 96 rfl ?_)
    refine s_putfieldI (by decide +kernel) fr_6_181 lq_10 (congrArg Prod.fst sh_10) (fun q => by cases q) (Or.inl rfl) (pn 99 rfl ?_)
    exact s_return (st := []) (by decide +kernel) rfl ⟨rfl, s3, rfl, h⟩
  · have h := h.2 c1
    refine s_aload_n (i := 0) (by decide +kernel) rfl (pn 35 rfl ?_)
    refine s_getfield (v := .ref 2) (by decide +kernel) fr_6_12 lq_1 (congrArg Prod.fst sh_1) (fv_ref pf_1_0) (pn 38 rfl ?_)
    refine s_getfield (v := .ref 10) (by decide +kernel) fr_6_160 lq_2 (congrArg Prod.fst sh_2) (fv_ref pf_2_12) (pn 41 rfl ?_)
    refine s_iload_n (i := 2) (by decide +kernel) rfl (pn 42 rfl ?_)
    refine s_putfieldI (by decide +kernel) fr_6_172 lq_10 (congrArg Prod.fst sh_10) (fun q => by cases q) (Or.inl rfl) (pn 45 rfl ?_)
    refine s_aload_n (i := 0) (by decide +kernel) rfl (pn 46 rfl ?_)
    refine s_getfield (v := .ref 2) (by decide +kernel) fr_6_12 lq_1 (congrArg Prod.fst sh_1) (fv_ref pf_1_0) (pn 49 rfl ?_)
    refine s_getfield (v := .ref 10) (by decide +kernel) fr_6_160 lq_2 (congrArg Prod.fst sh_2) (fv_ref pf_2_12) (pn 52 rfl ?_)
    refine s_aload_n (i := 0) (by decide +kernel) rfl (pn 53 rfl ?_)
    refine s_getfield (v := .ref 2) (by decide +kernel) fr_6_12 lq_1 (congrArg Prod.fst sh_1) (fv_ref pf_1_0) (pn 56 rfl ?_)
    refine s_getfield (v := .ref 10) (by decide +kernel) fr_6_160 lq_2 (congrArg Prod.fst sh_2) (fv_ref pf_2_12) (pn 59 rfl ?_)
    refine s_getfield (v := .int (M3.1 10 3)) (by decide +kernel) fr_6_164 lq_10 (congrArg Prod.fst sh_10) rfl (pn 62 rfl ?_)
    refine s_putfieldI (by decide +kernel) fr_6_175 lq_10 (congrArg Prod.fst sh_10) (fun q => by cases q) (Or.inl rfl) (pn 65 rfl ?_)
    refine s_goto (off := 34) (tgt := 99) (by decide +kernel) rfl ?_
    exact s_return (st := []) (by decide +kernel) rfl ⟨rfl, s3, rfl, h⟩
abbrev wR_readSum (d pc : Nat) (ls st : List Value) (s : pm_S) (M : pm_M) (Q : pm_S → pm_M → Prop) : Prop := wV d prog_8_method_19_code 6 none false pc ls st s M Q
theorem enR_readSum {d : Nat} {s : pm_S} {M : pm_M}  {Q : pm_S → pm_M → Prop}  (h : cV d yR_readTerm [.ref 1] s M (fun s1 M1 => wR_readSum d 6 [.ref 1, .int 0, .null] [] s1 M1 Q)) : cV (d + 1) yR_readSum [.ref 1] s M Q := by
  refine pm_toV (by decide) (Nat.le_of_ble_eq_true rfl) ?_
  show wR_readSum d 0 [.ref 1, .null, .null] [] s M Q
  refine s_aload_n (i := 0) (by decide +kernel) rfl (pn 1 rfl ?_)
  refine s_callvV [] rfl (by decide +kernel) mv_6_184 np_71 (Nat.le_of_ble_eq_true rfl) lq_1 ((congrArg Prod.fst sh_1).trans oc_71) (cV_use h (fun s1 M1 h => (pn 4 rfl ?_)))
  refine t_iconst (by decide +kernel) ki_0 (pn 5 rfl ?_)
  refine s_istore_n (i := 1) (by decide +kernel) (Nat.le_of_ble_eq_true rfl) (pn 6 rfl (t_store (ls' := [.ref 1, .int 0, .null]) rfl ?_))
  exact h
theorem sgR_readSum_6 {d : Nat} {s : pm_S} {M : pm_M} {l1 : Int32} {Q : pm_S → pm_M → Prop}  (h : (((900 ≤ l1) → Q s M) ∧ (¬ (900 ≤ l1) → ((((M.1 1 7) = 43) → wR_readSum d 45 [.ref 1, .int l1, .null] [.int ((if (M.1 1 7) = 43 then 2 else 3) : Int32)] s M Q) ∧ (¬ ((M.1 1 7) = 43) → (((M.1 1 7) = 45 → wR_readSum d 45 [.ref 1, .int l1, .null] [.int ((if (M.1 1 7) = 43 then 2 else 3) : Int32)] s M Q) ∧ (¬ ((M.1 1 7) = 45) → Q s M))))))) : wR_readSum d 6 [.ref 1, .int l1, .null] [] s M Q := by
  refine s_iload_n (i := 1) (by decide +kernel) rfl (pn 7 rfl ?_)
  refine t_sipush (by decide +kernel) ks_900 (pn 10 rfl ?_)
  refine s_icmp_ge (off := 63) (tgt := 73) (by decide +kernel) rfl (fun c1 => ?_) (fun c1 => (pn 13 rfl ?_))
  · have h := h.1 c1
    exact s_return (st := []) (by decide +kernel) rfl ⟨rfl, s, rfl, h⟩
  · have h := h.2 c1
    refine s_aload_n (i := 0) (by decide +kernel) rfl (pn 14 rfl ?_)
    refine s_getfield (v := .int (M.1 1 7)) (by decide +kernel) fr_6_69 lq_1 (congrArg Prod.fst sh_1) rfl (pn 17 rfl ?_)
    refine t_bipush (by decide +kernel) kb_43 (pn 19 rfl ?_)
    refine s_icmp_eq (off := 12) (tgt := 31) (by decide +kernel) rfl (fun c4 => ?_) (fun c4 => (pn 22 rfl ?_))
    · have h := h.1 c4
      refine s_aload_n (i := 0) (by decide +kernel) rfl (pn 32 rfl ?_)
      refine s_getfield (v := .int (M.1 1 7)) (by decide +kernel) fr_6_69 lq_1 (congrArg Prod.fst sh_1) rfl (pn 35 rfl ?_)
      refine t_bipush (by decide +kernel) kb_43 (pn 37 rfl ?_)
      have k1 : ∀ (z1 : Int32) (z1e : z1 = ((if (M.1 1 7) = 43 then 2 else 3) : Int32)), wR_readSum d 45 [.ref 1, .int l1, .null] [.int z1] s M Q := by
        intro z1 z1e
        subst z1e
        exact h
      refine t_icmp_ne (off := 7) (tgt := 44) (by decide +kernel) rfl (fun c6 => ?_) (fun c6 => (pn 40 rfl ?_))
      · refine t_iconst (by decide +kernel) ki_3 (pn 45 rfl ?_)
        exact k1 _ (by simp only [if_neg c6])
      · refine t_iconst (by decide +kernel) ki_2 (pn 41 rfl ?_)
        refine s_goto (off := 4) (tgt := 45) (by decide +kernel) rfl ?_
        exact k1 _ (by simp only [if_pos c6])
    · have h := h.2 c4
      refine s_aload_n (i := 0) (by decide +kernel) rfl (pn 23 rfl ?_)
      refine s_getfield (v := .int (M.1 1 7)) (by decide +kernel) fr_6_69 lq_1 (congrArg Prod.fst sh_1) rfl (pn 26 rfl ?_)
      refine t_bipush (by decide +kernel) kb_45 (pn 28 rfl ?_)
      refine t_icmp_ne (off := 45) (tgt := 73) (by decide +kernel) rfl (fun c7 => ?_) (fun c7 => (pn 31 rfl ?_))
      · have h := h.2 c7
        exact s_return (st := []) (by decide +kernel) rfl ⟨rfl, s, rfl, h⟩
      · have h := h.1 c7
        refine s_aload_n (i := 0) (by decide +kernel) rfl (pn 32 rfl ?_)
        refine s_getfield (v := .int (M.1 1 7)) (by decide +kernel) fr_6_69 lq_1 (congrArg Prod.fst sh_1) rfl (pn 35 rfl ?_)
        refine t_bipush (by decide +kernel) kb_43 (pn 37 rfl ?_)
        have k2 : ∀ (z2 : Int32) (z2e : z2 = ((if (M.1 1 7) = 43 then 2 else 3) : Int32)), wR_readSum d 45 [.ref 1, .int l1, .null] [.int z2] s M Q := by
          intro z2 z2e
          subst z2e
          exact h
        refine t_icmp_ne (off := 7) (tgt := 44) (by decide +kernel) rfl (fun c9 => ?_) (fun c9 => (pn 40 rfl ?_))
        · refine t_iconst (by decide +kernel) ki_3 (pn 45 rfl ?_)
          exact k2 _ (by simp only [if_neg c9])
        · refine t_iconst (by decide +kernel) ki_2 (pn 41 rfl ?_)
          refine s_goto (off := 4) (tgt := 45) (by decide +kernel) rfl ?_
          exact k2 _ (by simp only [if_pos c9])
theorem sgR_readSum_45 {d : Nat} {s : pm_S} {M : pm_M} {l1 : Int32} {t0 : Int32} {Q : pm_S → pm_M → Prop}  (h : cV d yR_step [.ref 1] s M (fun s1 M1 => cV d yR_readTerm [.ref 1] s1 M1 (fun s2 M2 => cI d yW_add [.ref 10, .int t0, .int 0] s2 M2 (fun r1 s3 M3 => wR_readSum d 6 [.ref 1, .int (l1 + 1), .null] [] s3 M3 Q)))) : wR_readSum d 45 [.ref 1, .int l1, .null] [.int t0] s M Q := by
  refine s_istore_n (i := 2) (by decide +kernel) (Nat.le_of_ble_eq_true rfl) (pn 46 rfl (t_store (ls' := [.ref 1, .int l1, .int t0]) rfl ?_))
  refine s_aload_n (i := 0) (by decide +kernel) rfl (pn 47 rfl ?_)
  refine s_callvV [] rfl (by decide +kernel) mv_6_53 np_55 (Nat.le_of_ble_eq_true rfl) lq_1 ((congrArg Prod.fst sh_1).trans oc_55) (cV_use h (fun s1 M1 h => (pn 50 rfl ?_)))
  refine s_aload_n (i := 0) (by decide +kernel) rfl (pn 51 rfl ?_)
  refine s_callvV [] rfl (by decide +kernel) mv_6_184 np_71 (Nat.le_of_ble_eq_true rfl) lq_1 ((congrArg Prod.fst sh_1).trans oc_71) (cV_use h (fun s2 M2 h => (pn 54 rfl ?_)))
  refine s_aload_n (i := 0) (by decide +kernel) rfl (pn 55 rfl ?_)
  refine s_getfield (v := .ref 2) (by decide +kernel) fr_6_12 lq_1 (congrArg Prod.fst sh_1) (fv_ref pf_1_0) (pn 58 rfl ?_)
  refine s_getfield (v := .ref 10) (by decide +kernel) fr_6_160 lq_2 (congrArg Prod.fst sh_2) (fv_ref pf_2_12) (pn 61 rfl ?_)
  refine s_iload_n (i := 2) (by decide +kernel) rfl (pn 62 rfl ?_)
  refine t_iconst (by decide +kernel) ki_0 (pn 63 rfl ?_)
  refine s_callvI [.int t0, .int 0] rfl (by decide +kernel) mv_6_187 np_7 (Nat.le_of_ble_eq_true rfl) lq_10 ((congrArg Prod.fst sh_10).trans oc_7) (cI_use h (fun r1 s3 M3 h => (pn 66 rfl ?_)))
  refine s_pop (by decide +kernel) rfl (pn 67 rfl ?_)
  refine t_iinc (i := 1) (n := 1) (ls' := [.ref 1, .int (l1 + 1), .int t0]) (by decide +kernel) rfl (Nat.le_of_ble_eq_true rfl) kn_1 rfl (pn 70 rfl ?_)
  refine s_goto (off := -64) (tgt := 6) (by decide +kernel) rfl ?_
  exact pm_weak [.ref 1, .int (l1 + 1), .null] (pm_le_cons (Or.inr rfl) (pm_le_cons (Or.inr rfl) (pm_le_cons (Or.inl rfl) pm_le_nil))) h
abbrev wR_readTerm (d pc : Nat) (ls st : List Value) (s : pm_S) (M : pm_M) (Q : pm_S → pm_M → Prop) : Prop := wV d prog_8_method_20_code 6 none false pc ls st s M Q
theorem enR_readTerm {d : Nat} {s : pm_S} {M : pm_M}  {Q : pm_S → pm_M → Prop}  (h : cV d yR_readAtom [.ref 1] s M (fun s1 M1 => wR_readTerm d 6 [.ref 1, .int 0] [] s1 M1 Q)) : cV (d + 1) yR_readTerm [.ref 1] s M Q := by
  refine pm_toV (by decide) (Nat.le_of_ble_eq_true rfl) ?_
  show wR_readTerm d 0 [.ref 1, .null] [] s M Q
  refine s_aload_n (i := 0) (by decide +kernel) rfl (pn 1 rfl ?_)
  refine s_callvV [] rfl (by decide +kernel) mv_6_190 np_72 (Nat.le_of_ble_eq_true rfl) lq_1 ((congrArg Prod.fst sh_1).trans oc_72) (cV_use h (fun s1 M1 h => (pn 4 rfl ?_)))
  refine t_iconst (by decide +kernel) ki_0 (pn 5 rfl ?_)
  refine s_istore_n (i := 1) (by decide +kernel) (Nat.le_of_ble_eq_true rfl) (pn 6 rfl (t_store (ls' := [.ref 1, .int 0]) rfl ?_))
  exact h
theorem sgR_readTerm_6 {d : Nat} {s : pm_S} {M : pm_M} {l1 : Int32} {Q : pm_S → pm_M → Prop}  (h : (((900 ≤ l1) → Q s M) ∧ (¬ (900 ≤ l1) → (((M.1 1 7) = 42 → cV d yR_step [.ref 1] s M (fun s1 M1 => cV d yR_readAtom [.ref 1] s1 M1 (fun s2 M2 => cI d yW_add [.ref 10, .int 4, .int 0] s2 M2 (fun r1 s3 M3 => wR_readTerm d 6 [.ref 1, .int (l1 + 1)] [] s3 M3 Q)))) ∧ (¬ ((M.1 1 7) = 42) → Q s M))))) : wR_readTerm d 6 [.ref 1, .int l1] [] s M Q := by
  refine s_iload_n (i := 1) (by decide +kernel) rfl (pn 7 rfl ?_)
  refine t_sipush (by decide +kernel) ks_900 (pn 10 rfl ?_)
  refine s_icmp_ge (off := 39) (tgt := 49) (by decide +kernel) rfl (fun c1 => ?_) (fun c1 => (pn 13 rfl ?_))
  · have h := h.1 c1
    exact s_return (st := []) (by decide +kernel) rfl ⟨rfl, s, rfl, h⟩
  · have h := h.2 c1
    refine s_aload_n (i := 0) (by decide +kernel) rfl (pn 14 rfl ?_)
    refine s_getfield (v := .int (M.1 1 7)) (by decide +kernel) fr_6_69 lq_1 (congrArg Prod.fst sh_1) rfl (pn 17 rfl ?_)
    refine t_bipush (by decide +kernel) kb_42 (pn 19 rfl ?_)
    refine t_icmp_ne (off := 30) (tgt := 49) (by decide +kernel) rfl (fun c3 => ?_) (fun c3 => (pn 22 rfl ?_))
    · have h := h.2 c3
      exact s_return (st := []) (by decide +kernel) rfl ⟨rfl, s, rfl, h⟩
    · have h := h.1 c3
      refine s_aload_n (i := 0) (by decide +kernel) rfl (pn 23 rfl ?_)
      refine s_callvV [] rfl (by decide +kernel) mv_6_53 np_55 (Nat.le_of_ble_eq_true rfl) lq_1 ((congrArg Prod.fst sh_1).trans oc_55) (cV_use h (fun s1 M1 h => (pn 26 rfl ?_)))
      refine s_aload_n (i := 0) (by decide +kernel) rfl (pn 27 rfl ?_)
      refine s_callvV [] rfl (by decide +kernel) mv_6_190 np_72 (Nat.le_of_ble_eq_true rfl) lq_1 ((congrArg Prod.fst sh_1).trans oc_72) (cV_use h (fun s2 M2 h => (pn 30 rfl ?_)))
      refine s_aload_n (i := 0) (by decide +kernel) rfl (pn 31 rfl ?_)
      refine s_getfield (v := .ref 2) (by decide +kernel) fr_6_12 lq_1 (congrArg Prod.fst sh_1) (fv_ref pf_1_0) (pn 34 rfl ?_)
      refine s_getfield (v := .ref 10) (by decide +kernel) fr_6_160 lq_2 (congrArg Prod.fst sh_2) (fv_ref pf_2_12) (pn 37 rfl ?_)
      refine t_iconst (by decide +kernel) ki_4 (pn 38 rfl ?_)
      refine t_iconst (by decide +kernel) ki_0 (pn 39 rfl ?_)
      refine s_callvI [.int 4, .int 0] rfl (by decide +kernel) mv_6_187 np_7 (Nat.le_of_ble_eq_true rfl) lq_10 ((congrArg Prod.fst sh_10).trans oc_7) (cI_use h (fun r1 s3 M3 h => (pn 42 rfl ?_)))
      refine s_pop (by decide +kernel) rfl (pn 43 rfl ?_)
      refine t_iinc (i := 1) (n := 1) (ls' := [.ref 1, .int (l1 + 1)]) (by decide +kernel) rfl (Nat.le_of_ble_eq_true rfl) kn_1 rfl (pn 46 rfl ?_)
      refine s_goto (off := -40) (tgt := 6) (by decide +kernel) rfl ?_
      exact h
abbrev wR_readAtom (d pc : Nat) (ls st : List Value) (s : pm_S) (M : pm_M) (Q : pm_S → pm_M → Prop) : Prop := wV d prog_8_method_21_code 6 none false pc ls st s M Q
theorem enR_readAtom {d : Nat} {s : pm_S} {M : pm_M}  {Q : pm_S → pm_M → Prop}  (h : cI d yR_factOf [.ref 1, .int (M.1 1 7)] s M (fun r1 s1 M1 => (((M1.1 1 7) = 128 → cI d yW_add [.ref 10, .int 0, .int (M1.1 1 9)] s1 M1 (fun r5 s10 M10 => cV d yR_step [.ref 1] s10 M10 (fun s11 M11 => Q s11 M11))) ∧ (¬ ((M1.1 1 7) = 128) → (((r1 = (-1)) → (((M1.1 1 7) = 40 → cI d yR_goesIn [.ref 1] s1 M1 (fun r3 s5 M5 => (((r3 = 0) → Q s5 M5) ∧ (¬ (r3 = 0) → cV d yR_readSum [.ref 1] s5 M5 (fun s6 M6 => cV d yR_expect [.ref 1, .int 41] s6 M6 (fun s7 M7 => Q s7 (pm_si M7 1 10 ((M7.1 1 10) - 1)))))))) ∧ (¬ ((M1.1 1 7) = 40) → (((M1.1 1 7) = 214 → cI d yR_goesIn [.ref 1] s1 M1 (fun r2 s3 M3 => (((r2 = 0) → Q s3 M3) ∧ (¬ (r2 = 0) → cV d yR_readChoice [.ref 1] s3 M3 (fun s4 M4 => Q s4 (pm_si M4 1 10 ((M4.1 1 10) - 1))))))) ∧ (¬ ((M1.1 1 7) = 214) → cV d yR_fail [.ref 1, .int 2] s1 M1 (fun s2 M2 => Q s2 M2)))))) ∧ (¬ (r1 = (-1)) → cI d yW_add [.ref 10, .int 1, .int r1] s1 M1 (fun r4 s8 M8 => cV d yR_step [.ref 1] s8 M8 (fun s9 M9 => Q s9 M9)))))))) : cV (d + 1) yR_readAtom [.ref 1] s M Q := by
  refine pm_toV (by decide) (Nat.le_of_ble_eq_true rfl) ?_
  show wR_readAtom d 0 [.ref 1, .null] [] s M Q
  refine s_aload_n (i := 0) (by decide +kernel) rfl (pn 1 rfl ?_)
  refine s_aload_n (i := 0) (by decide +kernel) rfl (pn 2 rfl ?_)
  refine s_getfield (v := .int (M.1 1 7)) (by decide +kernel) fr_6_69 lq_1 (congrArg Prod.fst sh_1) rfl (pn 5 rfl ?_)
  refine s_callvI [.int (M.1 1 7)] rfl (by decide +kernel) mv_6_193 np_73 (Nat.le_of_ble_eq_true rfl) lq_1 ((congrArg Prod.fst sh_1).trans oc_73) (cI_use h (fun r1 s1 M1 h => (pn 8 rfl ?_)))
  refine s_istore_n (i := 1) (by decide +kernel) (Nat.le_of_ble_eq_true rfl) (pn 9 rfl (t_store (ls' := [.ref 1, .int r1]) rfl ?_))
  refine s_aload_n (i := 0) (by decide +kernel) rfl (pn 10 rfl ?_)
  refine s_getfield (v := .int (M1.1 1 7)) (by decide +kernel) fr_6_69 lq_1 (congrArg Prod.fst sh_1) rfl (pn 13 rfl ?_)
  refine t_sipush (by decide +kernel) ks_128 (pn 16 rfl ?_)
  refine t_icmp_ne (off := 26) (tgt := 42) (by decide +kernel) rfl (fun c1 => ?_) (fun c1 => (pn 19 rfl ?_))
  · have h := h.2 c1
    refine s_iload_n (i := 1) (by decide +kernel) rfl (pn 43 rfl ?_)
    refine t_iconst (by decide +kernel) ki_m1 (pn 44 rfl ?_)
    refine s_icmp_eq (off := 23) (tgt := 67) (by decide +kernel) rfl (fun c5 => ?_) (fun c5 => (pn 47 rfl ?_))
    · have h := h.1 c5
      refine s_aload_n (i := 0) (by decide +kernel) rfl (pn 68 rfl ?_)
      refine s_getfield (v := .int (M1.1 1 7)) (by decide +kernel) fr_6_69 lq_1 (congrArg Prod.fst sh_1) rfl (pn 71 rfl ?_)
      refine t_bipush (by decide +kernel) kb_40 (pn 73 rfl ?_)
      refine t_icmp_ne (off := 33) (tgt := 106) (by decide +kernel) rfl (fun c8 => ?_) (fun c8 => (pn 76 rfl ?_))
      · have h := h.2 c8
        refine s_aload_n (i := 0) (by decide +kernel) rfl (pn 107 rfl ?_)
        refine s_getfield (v := .int (M1.1 1 7)) (by decide +kernel) fr_6_69 lq_1 (congrArg Prod.fst sh_1) rfl (pn 110 rfl ?_)
        refine t_sipush (by decide +kernel) ks_214 (pn 113 rfl ?_)
        refine t_icmp_ne (off := 27) (tgt := 140) (by decide +kernel) rfl (fun c10 => ?_) (fun c10 => (pn 116 rfl ?_))
        · have h := h.2 c10
          refine s_aload_n (i := 0) (by decide +kernel) rfl (pn 141 rfl ?_)
          refine t_iconst (by decide +kernel) ki_2 (pn 142 rfl ?_)
          refine s_callvV [.int 2] rfl (by decide +kernel) mv_6_91 np_60 (Nat.le_of_ble_eq_true rfl) lq_1 ((congrArg Prod.fst sh_1).trans oc_60) (cV_use h (fun s2 M2 h => (pn 145 rfl ?_)))
          exact s_return (st := []) (by decide +kernel) rfl ⟨rfl, s2, rfl, h⟩
        · have h := h.1 c10
          refine s_aload_n (i := 0) (by decide +kernel) rfl (pn 117 rfl ?_)
          refine s_callvI [] rfl (by decide +kernel) mv_6_196 np_74 (Nat.le_of_ble_eq_true rfl) lq_1 ((congrArg Prod.fst sh_1).trans oc_74) (cI_use h (fun r2 s3 M3 h => (pn 120 rfl ?_)))
          refine s_if_eq (off := 25) (tgt := 145) (by decide +kernel) rfl (fun c11 => ?_) (fun c11 => (pn 123 rfl ?_))
          · have h := h.1 c11
            exact s_return (st := []) (by decide +kernel) rfl ⟨rfl, s3, rfl, h⟩
          · have h := h.2 c11
            refine s_aload_n (i := 0) (by decide +kernel) rfl (pn 124 rfl ?_)
            refine s_callvV [] rfl (by decide +kernel) mv_6_200 np_75 (Nat.le_of_ble_eq_true rfl) lq_1 ((congrArg Prod.fst sh_1).trans oc_75) (cV_use h (fun s4 M4 h => (pn 127 rfl ?_)))
            refine s_aload_n (i := 0) (by decide +kernel) rfl (pn 128 rfl ?_)
            refine s_dup (by decide +kernel) rfl (pn 129 rfl ?_)
            refine s_getfield (v := .int (M4.1 1 10)) (by decide +kernel) fr_6_47 lq_1 (congrArg Prod.fst sh_1) rfl (pn 132 rfl ?_)
            refine t_iconst (by decide +kernel) ki_1 (pn 133 rfl ?_)
            refine s_isub (by decide +kernel) (pn 134 rfl ?_)
            refine s_putfieldI (by decide +kernel) fr_6_47 lq_1 (congrArg Prod.fst sh_1) (fun q => by cases q) (Or.inl rfl) (pn 137 rfl ?_)
            refine s_goto (off := 8) (tgt := 145) (by decide +kernel) rfl ?_
            exact s_return (st := []) (by decide +kernel) rfl ⟨rfl, s4, rfl, h⟩
      · have h := h.1 c8
        refine s_aload_n (i := 0) (by decide +kernel) rfl (pn 77 rfl ?_)
        refine s_callvI [] rfl (by decide +kernel) mv_6_196 np_74 (Nat.le_of_ble_eq_true rfl) lq_1 ((congrArg Prod.fst sh_1).trans oc_74) (cI_use h (fun r3 s5 M5 h => (pn 80 rfl ?_)))
        refine s_if_eq (off := 65) (tgt := 145) (by decide +kernel) rfl (fun c12 => ?_) (fun c12 => (pn 83 rfl ?_))
        · have h := h.1 c12
          exact s_return (st := []) (by decide +kernel) rfl ⟨rfl, s5, rfl, h⟩
        · have h := h.2 c12
          refine s_aload_n (i := 0) (by decide +kernel) rfl (pn 84 rfl ?_)
          refine s_callvV [] rfl (by decide +kernel) mv_6_169 np_70 (Nat.le_of_ble_eq_true rfl) lq_1 ((congrArg Prod.fst sh_1).trans oc_70) (cV_use h (fun s6 M6 h => (pn 87 rfl ?_)))
          refine s_aload_n (i := 0) (by decide +kernel) rfl (pn 88 rfl ?_)
          refine t_bipush (by decide +kernel) kb_41 (pn 90 rfl ?_)
          refine s_callvV [.int 41] rfl (by decide +kernel) mv_6_56 np_62 (Nat.le_of_ble_eq_true rfl) lq_1 ((congrArg Prod.fst sh_1).trans oc_62) (cV_use h (fun s7 M7 h => (pn 93 rfl ?_)))
          refine s_aload_n (i := 0) (by decide +kernel) rfl (pn 94 rfl ?_)
          refine s_dup (by decide +kernel) rfl (pn 95 rfl ?_)
          refine s_getfield (v := .int (M7.1 1 10)) (by decide +kernel) fr_6_47 lq_1 (congrArg Prod.fst sh_1) rfl (pn 98 rfl ?_)
          refine t_iconst (by decide +kernel) ki_1 (pn 99 rfl ?_)
          refine s_isub (by decide +kernel) (pn 100 rfl ?_)
          refine s_putfieldI (by decide +kernel) fr_6_47 lq_1 (congrArg Prod.fst sh_1) (fun q => by cases q) (Or.inl rfl) (pn 103 rfl ?_)
          refine s_goto (off := 42) (tgt := 145) (by decide +kernel) rfl ?_
          exact s_return (st := []) (by decide +kernel) rfl ⟨rfl, s7, rfl, h⟩
    · have h := h.2 c5
      refine s_aload_n (i := 0) (by decide +kernel) rfl (pn 48 rfl ?_)
      refine s_getfield (v := .ref 2) (by decide +kernel) fr_6_12 lq_1 (congrArg Prod.fst sh_1) (fv_ref pf_1_0) (pn 51 rfl ?_)
      refine s_getfield (v := .ref 10) (by decide +kernel) fr_6_160 lq_2 (congrArg Prod.fst sh_2) (fv_ref pf_2_12) (pn 54 rfl ?_)
      refine t_iconst (by decide +kernel) ki_1 (pn 55 rfl ?_)
      refine s_iload_n (i := 1) (by decide +kernel) rfl (pn 56 rfl ?_)
      refine s_callvI [.int 1, .int r1] rfl (by decide +kernel) mv_6_187 np_7 (Nat.le_of_ble_eq_true rfl) lq_10 ((congrArg Prod.fst sh_10).trans oc_7) (cI_use h (fun r4 s8 M8 h => (pn 59 rfl ?_)))
      refine s_pop (by decide +kernel) rfl (pn 60 rfl ?_)
      refine s_aload_n (i := 0) (by decide +kernel) rfl (pn 61 rfl ?_)
      refine s_callvV [] rfl (by decide +kernel) mv_6_53 np_55 (Nat.le_of_ble_eq_true rfl) lq_1 ((congrArg Prod.fst sh_1).trans oc_55) (cV_use h (fun s9 M9 h => (pn 64 rfl ?_)))
      refine s_goto (off := 81) (tgt := 145) (by decide +kernel) rfl ?_
      exact s_return (st := []) (by decide +kernel) rfl ⟨rfl, s9, rfl, h⟩
  · have h := h.1 c1
    refine s_aload_n (i := 0) (by decide +kernel) rfl (pn 20 rfl ?_)
    refine s_getfield (v := .ref 2) (by decide +kernel) fr_6_12 lq_1 (congrArg Prod.fst sh_1) (fv_ref pf_1_0) (pn 23 rfl ?_)
    refine s_getfield (v := .ref 10) (by decide +kernel) fr_6_160 lq_2 (congrArg Prod.fst sh_2) (fv_ref pf_2_12) (pn 26 rfl ?_)
    refine t_iconst (by decide +kernel) ki_0 (pn 27 rfl ?_)
    refine s_aload_n (i := 0) (by decide +kernel) rfl (pn 28 rfl ?_)
    refine s_getfield (v := .int (M1.1 1 9)) (by decide +kernel) fr_6_94 lq_1 (congrArg Prod.fst sh_1) rfl (pn 31 rfl ?_)
    refine s_callvI [.int 0, .int (M1.1 1 9)] rfl (by decide +kernel) mv_6_187 np_7 (Nat.le_of_ble_eq_true rfl) lq_10 ((congrArg Prod.fst sh_10).trans oc_7) (cI_use h (fun r5 s10 M10 h => (pn 34 rfl ?_)))
    refine s_pop (by decide +kernel) rfl (pn 35 rfl ?_)
    refine s_aload_n (i := 0) (by decide +kernel) rfl (pn 36 rfl ?_)
    refine s_callvV [] rfl (by decide +kernel) mv_6_53 np_55 (Nat.le_of_ble_eq_true rfl) lq_1 ((congrArg Prod.fst sh_1).trans oc_55) (cV_use h (fun s11 M11 h => (pn 39 rfl ?_)))
    refine s_goto (off := 106) (tgt := 145) (by decide +kernel) rfl ?_
    exact s_return (st := []) (by decide +kernel) rfl ⟨rfl, s11, rfl, h⟩
abbrev wR_factOf (d pc : Nat) (ls st : List Value) (s : pm_S) (M : pm_M) (Q : Int32 → pm_S → pm_M → Prop) : Prop := wI d prog_8_method_22_code 6 (some .int) false pc ls st s M Q
theorem enR_factOf {d : Nat} {s : pm_S} {M : pm_M} {x1 : Int32} {Q : Int32 → pm_S → pm_M → Prop}  (h : ((x1 = 201 → Q 2 s M) ∧ (¬ x1 = 201 → ((x1 = 205 → Q ((if (M.1 1 11) = 0 then (-1) else 5) : Int32) s M) ∧ (¬ x1 = 205 → ((x1 = 207 → Q 3 s M) ∧ (¬ x1 = 207 → ((x1 = 208 → Q 4 s M) ∧ (¬ x1 = 208 → ((x1 = 209 → Q 1 s M) ∧ (¬ x1 = 209 → ((x1 = 212 → Q 0 s M) ∧ (¬ x1 = 212 → ((x1 = 213 → Q ((if (M.1 1 11) = 0 then (-1) else 6) : Int32) s M) ∧ (¬ x1 = 213 → Q (-1) s M))))))))))))))) : cI (d + 1) yR_factOf [.ref 1, .int x1] s M Q := by
  refine pm_toI (by decide) (Nat.le_of_ble_eq_true rfl) ?_
  show wR_factOf d 0 [.ref 1, .int x1] [] s M Q
  refine s_iload_n (i := 1) (by decide +kernel) rfl (pn 1 rfl ?_)
  by_cases c1 : x1 = 201
  · refine s_tableswitch (dflt := 104) (lo := 201) (hi := 213) (offs := #[71, 104, 104, 104, 77, 104, 73, 75, 69, 104, 104, 67, 90]) (len := 67) (tgt := 72) (by decide +kernel) (by rw [c1]; decide) (by rw [c1]; decide) ?_
    have h := h.1 c1
    refine t_iconst (by decide +kernel) ki_2 (pn 73 rfl ?_)
    exact s_ireturn (st := []) (by decide +kernel) (Or.inl rfl) ⟨_, rfl, s, rfl, h⟩
  have h := h.2 c1
  by_cases c2 : x1 = 205
  · refine s_tableswitch (dflt := 104) (lo := 201) (hi := 213) (offs := #[71, 104, 104, 104, 77, 104, 73, 75, 69, 104, 104, 67, 90]) (len := 67) (tgt := 78) (by decide +kernel) (by rw [c2]; decide) (by rw [c2]; decide) ?_
    have h := h.1 c2
    refine s_aload_n (i := 0) (by decide +kernel) rfl (pn 79 rfl ?_)
    refine s_getfield (v := .int (M.1 1 11)) (by decide +kernel) fr_6_156 lq_1 (congrArg Prod.fst sh_1) rfl (pn 82 rfl ?_)
    have k1 : ∀ (z1 : Int32) (z1e : z1 = ((if (M.1 1 11) = 0 then (-1) else 5) : Int32)), wR_factOf d 90 [.ref 1, .int x1] [.int z1] s M Q := by
      intro z1 z1e
      subst z1e
      exact s_ireturn (st := []) (by decide +kernel) (Or.inl rfl) ⟨_, rfl, s, rfl, h⟩
    refine s_if_eq (off := 7) (tgt := 89) (by decide +kernel) rfl (fun c3 => ?_) (fun c3 => (pn 85 rfl ?_))
    · refine t_iconst (by decide +kernel) ki_m1 (pn 90 rfl ?_)
      exact k1 _ (by simp only [if_pos c3])
    · refine t_iconst (by decide +kernel) ki_5 (pn 86 rfl ?_)
      refine s_goto (off := 4) (tgt := 90) (by decide +kernel) rfl ?_
      exact k1 _ (by simp only [if_neg c3])
  have h := h.2 c2
  by_cases c4 : x1 = 207
  · refine s_tableswitch (dflt := 104) (lo := 201) (hi := 213) (offs := #[71, 104, 104, 104, 77, 104, 73, 75, 69, 104, 104, 67, 90]) (len := 67) (tgt := 74) (by decide +kernel) (by rw [c4]; decide) (by rw [c4]; decide) ?_
    have h := h.1 c4
    refine t_iconst (by decide +kernel) ki_3 (pn 75 rfl ?_)
    exact s_ireturn (st := []) (by decide +kernel) (Or.inl rfl) ⟨_, rfl, s, rfl, h⟩
  have h := h.2 c4
  by_cases c5 : x1 = 208
  · refine s_tableswitch (dflt := 104) (lo := 201) (hi := 213) (offs := #[71, 104, 104, 104, 77, 104, 73, 75, 69, 104, 104, 67, 90]) (len := 67) (tgt := 76) (by decide +kernel) (by rw [c5]; decide) (by rw [c5]; decide) ?_
    have h := h.1 c5
    refine t_iconst (by decide +kernel) ki_4 (pn 77 rfl ?_)
    exact s_ireturn (st := []) (by decide +kernel) (Or.inl rfl) ⟨_, rfl, s, rfl, h⟩
  have h := h.2 c5
  by_cases c6 : x1 = 209
  · refine s_tableswitch (dflt := 104) (lo := 201) (hi := 213) (offs := #[71, 104, 104, 104, 77, 104, 73, 75, 69, 104, 104, 67, 90]) (len := 67) (tgt := 70) (by decide +kernel) (by rw [c6]; decide) (by rw [c6]; decide) ?_
    have h := h.1 c6
    refine t_iconst (by decide +kernel) ki_1 (pn 71 rfl ?_)
    exact s_ireturn (st := []) (by decide +kernel) (Or.inl rfl) ⟨_, rfl, s, rfl, h⟩
  have h := h.2 c6
  by_cases c7 : x1 = 212
  · refine s_tableswitch (dflt := 104) (lo := 201) (hi := 213) (offs := #[71, 104, 104, 104, 77, 104, 73, 75, 69, 104, 104, 67, 90]) (len := 67) (tgt := 68) (by decide +kernel) (by rw [c7]; decide) (by rw [c7]; decide) ?_
    have h := h.1 c7
    refine t_iconst (by decide +kernel) ki_0 (pn 69 rfl ?_)
    exact s_ireturn (st := []) (by decide +kernel) (Or.inl rfl) ⟨_, rfl, s, rfl, h⟩
  have h := h.2 c7
  by_cases c8 : x1 = 213
  · refine s_tableswitch (dflt := 104) (lo := 201) (hi := 213) (offs := #[71, 104, 104, 104, 77, 104, 73, 75, 69, 104, 104, 67, 90]) (len := 67) (tgt := 91) (by decide +kernel) (by rw [c8]; decide) (by rw [c8]; decide) ?_
    have h := h.1 c8
    refine s_aload_n (i := 0) (by decide +kernel) rfl (pn 92 rfl ?_)
    refine s_getfield (v := .int (M.1 1 11)) (by decide +kernel) fr_6_156 lq_1 (congrArg Prod.fst sh_1) rfl (pn 95 rfl ?_)
    have k2 : ∀ (z2 : Int32) (z2e : z2 = ((if (M.1 1 11) = 0 then (-1) else 6) : Int32)), wR_factOf d 104 [.ref 1, .int x1] [.int z2] s M Q := by
      intro z2 z2e
      subst z2e
      exact s_ireturn (st := []) (by decide +kernel) (Or.inl rfl) ⟨_, rfl, s, rfl, h⟩
    refine s_if_eq (off := 8) (tgt := 103) (by decide +kernel) rfl (fun c9 => ?_) (fun c9 => (pn 98 rfl ?_))
    · refine t_iconst (by decide +kernel) ki_m1 (pn 104 rfl ?_)
      exact k2 _ (by simp only [if_pos c9])
    · refine t_bipush (by decide +kernel) kb_6 (pn 100 rfl ?_)
      refine s_goto (off := 4) (tgt := 104) (by decide +kernel) rfl ?_
      exact k2 _ (by simp only [if_neg c9])
  have h := h.2 c8
  have k3 : wR_factOf d 105 [.ref 1, .int x1] [] s M Q := by
    refine t_iconst (by decide +kernel) ki_m1 (pn 106 rfl ?_)
    exact s_ireturn (st := []) (by decide +kernel) (Or.inl rfl) ⟨_, rfl, s, rfl, h⟩
  by_cases q0 : x1.toInt < 201 ∨ 213 < x1.toInt
  · exact t_tabledef (dflt := 104) (lo := 201) (hi := 213) (offs := #[71, 104, 104, 104, 77, 104, 73, 75, 69, 104, 104, 67, 90]) (len := 67) (tgt := 105) (by decide +kernel) rfl q0 k3
  · rcases (show x1.toInt = 201 ∨ x1.toInt = 202 ∨ x1.toInt = 203 ∨ x1.toInt = 204 ∨ x1.toInt = 205 ∨ x1.toInt = 206 ∨ x1.toInt = 207 ∨ x1.toInt = 208 ∨ x1.toInt = 209 ∨ x1.toInt = 210 ∨ x1.toInt = 211 ∨ x1.toInt = 212 ∨ x1.toInt = 213 by omega) with q1 | q1 | q1 | q1 | q1 | q1 | q1 | q1 | q1 | q1 | q1 | q1 | q1
    · exact absurd (Int32.toInt_inj.mp (q1.trans (by decide))) c1
    · exact t_tablehole (dflt := 104) (lo := 201) (hi := 213) (offs := #[71, 104, 104, 104, 77, 104, 73, 75, 69, 104, 104, 67, 90]) (len := 67) (tgt := 105) (by decide +kernel) q1 (by decide) (by decide) k3
    · exact t_tablehole (dflt := 104) (lo := 201) (hi := 213) (offs := #[71, 104, 104, 104, 77, 104, 73, 75, 69, 104, 104, 67, 90]) (len := 67) (tgt := 105) (by decide +kernel) q1 (by decide) (by decide) k3
    · exact t_tablehole (dflt := 104) (lo := 201) (hi := 213) (offs := #[71, 104, 104, 104, 77, 104, 73, 75, 69, 104, 104, 67, 90]) (len := 67) (tgt := 105) (by decide +kernel) q1 (by decide) (by decide) k3
    · exact absurd (Int32.toInt_inj.mp (q1.trans (by decide))) c2
    · exact t_tablehole (dflt := 104) (lo := 201) (hi := 213) (offs := #[71, 104, 104, 104, 77, 104, 73, 75, 69, 104, 104, 67, 90]) (len := 67) (tgt := 105) (by decide +kernel) q1 (by decide) (by decide) k3
    · exact absurd (Int32.toInt_inj.mp (q1.trans (by decide))) c4
    · exact absurd (Int32.toInt_inj.mp (q1.trans (by decide))) c5
    · exact absurd (Int32.toInt_inj.mp (q1.trans (by decide))) c6
    · exact t_tablehole (dflt := 104) (lo := 201) (hi := 213) (offs := #[71, 104, 104, 104, 77, 104, 73, 75, 69, 104, 104, 67, 90]) (len := 67) (tgt := 105) (by decide +kernel) q1 (by decide) (by decide) k3
    · exact t_tablehole (dflt := 104) (lo := 201) (hi := 213) (offs := #[71, 104, 104, 104, 77, 104, 73, 75, 69, 104, 104, 67, 90]) (len := 67) (tgt := 105) (by decide +kernel) q1 (by decide) (by decide) k3
    · exact absurd (Int32.toInt_inj.mp (q1.trans (by decide))) c7
    · exact absurd (Int32.toInt_inj.mp (q1.trans (by decide))) c8
abbrev wR_goesIn (d pc : Nat) (ls st : List Value) (s : pm_S) (M : pm_M) (Q : Int32 → pm_S → pm_M → Prop) : Prop := wI d prog_8_method_23_code 6 (some .boolean) false pc ls st s M Q
theorem enR_goesIn {d : Nat} {s : pm_S} {M : pm_M}  {Q : Int32 → pm_S → pm_M → Prop}  (h : ((((M.1 1 10) < 6) → cV d yR_step [.ref 1] s (pm_si M 1 10 ((M.1 1 10) + 1)) (fun s1 M1 => Q 1 s1 M1)) ∧ (¬ ((M.1 1 10) < 6) → cV d yR_fail [.ref 1, .int 4] s M (fun s2 M2 => Q 0 s2 M2)))) : cI (d + 1) yR_goesIn [.ref 1] s M Q := by
  refine pm_toI (by decide) (Nat.le_of_ble_eq_true rfl) ?_
  show wR_goesIn d 0 [.ref 1] [] s M Q
  refine s_aload_n (i := 0) (by decide +kernel) rfl (pn 1 rfl ?_)
  refine s_getfield (v := .int (M.1 1 10)) (by decide +kernel) fr_6_47 lq_1 (congrArg Prod.fst sh_1) rfl (pn 4 rfl ?_)
  refine t_bipush (by decide +kernel) kb_6 (pn 6 rfl ?_)
  refine s_icmp_lt (off := 10) (tgt := 16) (by decide +kernel) rfl (fun c1 => ?_) (fun c1 => (pn 9 rfl ?_))
  · have h := h.1 c1
    refine s_aload_n (i := 0) (by decide +kernel) rfl (pn 17 rfl ?_)
    refine s_dup (by decide +kernel) rfl (pn 18 rfl ?_)
    refine s_getfield (v := .int (M.1 1 10)) (by decide +kernel) fr_6_47 lq_1 (congrArg Prod.fst sh_1) rfl (pn 21 rfl ?_)
    refine t_iconst (by decide +kernel) ki_1 (pn 22 rfl ?_)
    refine s_iadd (by decide +kernel) (pn 23 rfl ?_)
    refine s_putfieldI (by decide +kernel) fr_6_47 lq_1 (congrArg Prod.fst sh_1) (fun q => by cases q) (Or.inl rfl) (pn 26 rfl ?_)
    refine s_aload_n (i := 0) (by decide +kernel) rfl (pn 27 rfl ?_)
    refine s_callvV [] rfl (by decide +kernel) mv_6_53 np_55 (Nat.le_of_ble_eq_true rfl) lq_1 ((congrArg Prod.fst sh_1).trans oc_55) (cV_use h (fun s1 M1 h => (pn 30 rfl ?_)))
    refine t_iconst (by decide +kernel) ki_1 (pn 31 rfl ?_)
    exact s_ireturn (st := []) (by decide +kernel) (Or.inr ⟨rfl, (Or.inr rfl)⟩) ⟨_, rfl, s1, rfl, h⟩
  · have h := h.2 c1
    refine s_aload_n (i := 0) (by decide +kernel) rfl (pn 10 rfl ?_)
    refine t_iconst (by decide +kernel) ki_4 (pn 11 rfl ?_)
    refine s_callvV [.int 4] rfl (by decide +kernel) mv_6_91 np_60 (Nat.le_of_ble_eq_true rfl) lq_1 ((congrArg Prod.fst sh_1).trans oc_60) (cV_use h (fun s2 M2 h => (pn 14 rfl ?_)))
    refine t_iconst (by decide +kernel) ki_0 (pn 15 rfl ?_)
    exact s_ireturn (st := []) (by decide +kernel) (Or.inr ⟨rfl, (Or.inl rfl)⟩) ⟨_, rfl, s2, rfl, h⟩
abbrev wR_readChoice (d pc : Nat) (ls st : List Value) (s : pm_S) (M : pm_M) (Q : pm_S → pm_M → Prop) : Prop := wV d prog_8_method_24_code 6 none false pc ls st s M Q
theorem enR_readChoice {d : Nat} {s : pm_S} {M : pm_M}  {Q : pm_S → pm_M → Prop}  (h : cV d yR_readTruth [.ref 1] s M (fun s1 M1 => cV d yR_expect [.ref 1, .int 215] s1 M1 (fun s2 M2 => cI d yW_add [.ref 10, .int 12, .int 0] s2 M2 (fun r1 s3 M3 => cV d yR_readSum [.ref 1] s3 M3 (fun s4 M4 => cV d yR_expect [.ref 1, .int 216] s4 M4 (fun s5 M5 => cI d yW_add [.ref 10, .int 11, .int 0] s5 M5 (fun r2 s6 M6 => cV d yW_aimToEnd [.ref 10, .int r1] s6 M6 (fun s7 M7 => cV d yR_readSum [.ref 1] s7 M7 (fun s8 M8 => cV d yR_expect [.ref 1, .int 217] s8 M8 (fun s9 M9 => cV d yW_aimToEnd [.ref 10, .int r2] s9 M9 (fun s10 M10 => Q s10 M10))))))))))) : cV (d + 1) yR_readChoice [.ref 1] s M Q := by
  refine pm_toV (by decide) (Nat.le_of_ble_eq_true rfl) ?_
  show wR_readChoice d 0 [.ref 1, .null, .null] [] s M Q
  refine s_aload_n (i := 0) (by decide +kernel) rfl (pn 1 rfl ?_)
  refine s_callvV [] rfl (by decide +kernel) mv_6_203 np_76 (Nat.le_of_ble_eq_true rfl) lq_1 ((congrArg Prod.fst sh_1).trans oc_76) (cV_use h (fun s1 M1 h => (pn 4 rfl ?_)))
  refine s_aload_n (i := 0) (by decide +kernel) rfl (pn 5 rfl ?_)
  refine t_sipush (by decide +kernel) ks_215 (pn 8 rfl ?_)
  refine s_callvV [.int 215] rfl (by decide +kernel) mv_6_56 np_62 (Nat.le_of_ble_eq_true rfl) lq_1 ((congrArg Prod.fst sh_1).trans oc_62) (cV_use h (fun s2 M2 h => (pn 11 rfl ?_)))
  refine s_aload_n (i := 0) (by decide +kernel) rfl (pn 12 rfl ?_)
  refine s_getfield (v := .ref 2) (by decide +kernel) fr_6_12 lq_1 (congrArg Prod.fst sh_1) (fv_ref pf_1_0) (pn 15 rfl ?_)
  refine s_getfield (v := .ref 10) (by decide +kernel) fr_6_160 lq_2 (congrArg Prod.fst sh_2) (fv_ref pf_2_12) (pn 18 rfl ?_)
  refine t_bipush (by decide +kernel) kb_12 (pn 20 rfl ?_)
  refine t_iconst (by decide +kernel) ki_0 (pn 21 rfl ?_)
  refine s_callvI [.int 12, .int 0] rfl (by decide +kernel) mv_6_187 np_7 (Nat.le_of_ble_eq_true rfl) lq_10 ((congrArg Prod.fst sh_10).trans oc_7) (cI_use h (fun r1 s3 M3 h => (pn 24 rfl ?_)))
  refine s_istore_n (i := 1) (by decide +kernel) (Nat.le_of_ble_eq_true rfl) (pn 25 rfl (t_store (ls' := [.ref 1, .int r1, .null]) rfl ?_))
  refine s_aload_n (i := 0) (by decide +kernel) rfl (pn 26 rfl ?_)
  refine s_callvV [] rfl (by decide +kernel) mv_6_169 np_70 (Nat.le_of_ble_eq_true rfl) lq_1 ((congrArg Prod.fst sh_1).trans oc_70) (cV_use h (fun s4 M4 h => (pn 29 rfl ?_)))
  refine s_aload_n (i := 0) (by decide +kernel) rfl (pn 30 rfl ?_)
  refine t_sipush (by decide +kernel) ks_216 (pn 33 rfl ?_)
  refine s_callvV [.int 216] rfl (by decide +kernel) mv_6_56 np_62 (Nat.le_of_ble_eq_true rfl) lq_1 ((congrArg Prod.fst sh_1).trans oc_62) (cV_use h (fun s5 M5 h => (pn 36 rfl ?_)))
  refine s_aload_n (i := 0) (by decide +kernel) rfl (pn 37 rfl ?_)
  refine s_getfield (v := .ref 2) (by decide +kernel) fr_6_12 lq_1 (congrArg Prod.fst sh_1) (fv_ref pf_1_0) (pn 40 rfl ?_)
  refine s_getfield (v := .ref 10) (by decide +kernel) fr_6_160 lq_2 (congrArg Prod.fst sh_2) (fv_ref pf_2_12) (pn 43 rfl ?_)
  refine t_bipush (by decide +kernel) kb_11 (pn 45 rfl ?_)
  refine t_iconst (by decide +kernel) ki_0 (pn 46 rfl ?_)
  refine s_callvI [.int 11, .int 0] rfl (by decide +kernel) mv_6_187 np_7 (Nat.le_of_ble_eq_true rfl) lq_10 ((congrArg Prod.fst sh_10).trans oc_7) (cI_use h (fun r2 s6 M6 h => (pn 49 rfl ?_)))
  refine s_istore_n (i := 2) (by decide +kernel) (Nat.le_of_ble_eq_true rfl) (pn 50 rfl (t_store (ls' := [.ref 1, .int r1, .int r2]) rfl ?_))
  refine s_aload_n (i := 0) (by decide +kernel) rfl (pn 51 rfl ?_)
  refine s_getfield (v := .ref 2) (by decide +kernel) fr_6_12 lq_1 (congrArg Prod.fst sh_1) (fv_ref pf_1_0) (pn 54 rfl ?_)
  refine s_getfield (v := .ref 10) (by decide +kernel) fr_6_160 lq_2 (congrArg Prod.fst sh_2) (fv_ref pf_2_12) (pn 57 rfl ?_)
  refine s_iload_n (i := 1) (by decide +kernel) rfl (pn 58 rfl ?_)
  refine s_callvV [.int r1] rfl (by decide +kernel) mv_6_206 np_8 (Nat.le_of_ble_eq_true rfl) lq_10 ((congrArg Prod.fst sh_10).trans oc_8) (cV_use h (fun s7 M7 h => (pn 61 rfl ?_)))
  refine s_aload_n (i := 0) (by decide +kernel) rfl (pn 62 rfl ?_)
  refine s_callvV [] rfl (by decide +kernel) mv_6_169 np_70 (Nat.le_of_ble_eq_true rfl) lq_1 ((congrArg Prod.fst sh_1).trans oc_70) (cV_use h (fun s8 M8 h => (pn 65 rfl ?_)))
  refine s_aload_n (i := 0) (by decide +kernel) rfl (pn 66 rfl ?_)
  refine t_sipush (by decide +kernel) ks_217 (pn 69 rfl ?_)
  refine s_callvV [.int 217] rfl (by decide +kernel) mv_6_56 np_62 (Nat.le_of_ble_eq_true rfl) lq_1 ((congrArg Prod.fst sh_1).trans oc_62) (cV_use h (fun s9 M9 h => (pn 72 rfl ?_)))
  refine s_aload_n (i := 0) (by decide +kernel) rfl (pn 73 rfl ?_)
  refine s_getfield (v := .ref 2) (by decide +kernel) fr_6_12 lq_1 (congrArg Prod.fst sh_1) (fv_ref pf_1_0) (pn 76 rfl ?_)
  refine s_getfield (v := .ref 10) (by decide +kernel) fr_6_160 lq_2 (congrArg Prod.fst sh_2) (fv_ref pf_2_12) (pn 79 rfl ?_)
  refine s_iload_n (i := 2) (by decide +kernel) rfl (pn 80 rfl ?_)
  refine s_callvV [.int r2] rfl (by decide +kernel) mv_6_206 np_8 (Nat.le_of_ble_eq_true rfl) lq_10 ((congrArg Prod.fst sh_10).trans oc_8) (cV_use h (fun s10 M10 h => (pn 83 rfl ?_)))
  exact s_return (st := []) (by decide +kernel) rfl ⟨rfl, s10, rfl, h⟩
abbrev wR_readTruth (d pc : Nat) (ls st : List Value) (s : pm_S) (M : pm_M) (Q : pm_S → pm_M → Prop) : Prop := wV d prog_8_method_25_code 6 none false pc ls st s M Q
theorem enR_readTruth {d : Nat} {s : pm_S} {M : pm_M}  {Q : pm_S → pm_M → Prop}  (h : cV d yR_readBoth [.ref 1] s M (fun s1 M1 => wR_readTruth d 6 [.ref 1, .int 0] [] s1 M1 Q)) : cV (d + 1) yR_readTruth [.ref 1] s M Q := by
  refine pm_toV (by decide) (Nat.le_of_ble_eq_true rfl) ?_
  show wR_readTruth d 0 [.ref 1, .null] [] s M Q
  refine s_aload_n (i := 0) (by decide +kernel) rfl (pn 1 rfl ?_)
  refine s_callvV [] rfl (by decide +kernel) mv_6_209 np_77 (Nat.le_of_ble_eq_true rfl) lq_1 ((congrArg Prod.fst sh_1).trans oc_77) (cV_use h (fun s1 M1 h => (pn 4 rfl ?_)))
  refine t_iconst (by decide +kernel) ki_0 (pn 5 rfl ?_)
  refine s_istore_n (i := 1) (by decide +kernel) (Nat.le_of_ble_eq_true rfl) (pn 6 rfl (t_store (ls' := [.ref 1, .int 0]) rfl ?_))
  exact h
theorem sgR_readTruth_6 {d : Nat} {s : pm_S} {M : pm_M} {l1 : Int32} {Q : pm_S → pm_M → Prop}  (h : (((900 ≤ l1) → Q s M) ∧ (¬ (900 ≤ l1) → (((M.1 1 7) = 220 → cV d yR_step [.ref 1] s M (fun s1 M1 => cV d yR_readBoth [.ref 1] s1 M1 (fun s2 M2 => cI d yW_add [.ref 10, .int 9, .int 0] s2 M2 (fun r1 s3 M3 => wR_readTruth d 6 [.ref 1, .int (l1 + 1)] [] s3 M3 Q)))) ∧ (¬ ((M.1 1 7) = 220) → Q s M))))) : wR_readTruth d 6 [.ref 1, .int l1] [] s M Q := by
  refine s_iload_n (i := 1) (by decide +kernel) rfl (pn 7 rfl ?_)
  refine t_sipush (by decide +kernel) ks_900 (pn 10 rfl ?_)
  refine s_icmp_ge (off := 41) (tgt := 51) (by decide +kernel) rfl (fun c1 => ?_) (fun c1 => (pn 13 rfl ?_))
  · have h := h.1 c1
    exact s_return (st := []) (by decide +kernel) rfl ⟨rfl, s, rfl, h⟩
  · have h := h.2 c1
    refine s_aload_n (i := 0) (by decide +kernel) rfl (pn 14 rfl ?_)
    refine s_getfield (v := .int (M.1 1 7)) (by decide +kernel) fr_6_69 lq_1 (congrArg Prod.fst sh_1) rfl (pn 17 rfl ?_)
    refine t_sipush (by decide +kernel) ks_220 (pn 20 rfl ?_)
    refine t_icmp_ne (off := 31) (tgt := 51) (by decide +kernel) rfl (fun c3 => ?_) (fun c3 => (pn 23 rfl ?_))
    · have h := h.2 c3
      exact s_return (st := []) (by decide +kernel) rfl ⟨rfl, s, rfl, h⟩
    · have h := h.1 c3
      refine s_aload_n (i := 0) (by decide +kernel) rfl (pn 24 rfl ?_)
      refine s_callvV [] rfl (by decide +kernel) mv_6_53 np_55 (Nat.le_of_ble_eq_true rfl) lq_1 ((congrArg Prod.fst sh_1).trans oc_55) (cV_use h (fun s1 M1 h => (pn 27 rfl ?_)))
      refine s_aload_n (i := 0) (by decide +kernel) rfl (pn 28 rfl ?_)
      refine s_callvV [] rfl (by decide +kernel) mv_6_209 np_77 (Nat.le_of_ble_eq_true rfl) lq_1 ((congrArg Prod.fst sh_1).trans oc_77) (cV_use h (fun s2 M2 h => (pn 31 rfl ?_)))
      refine s_aload_n (i := 0) (by decide +kernel) rfl (pn 32 rfl ?_)
      refine s_getfield (v := .ref 2) (by decide +kernel) fr_6_12 lq_1 (congrArg Prod.fst sh_1) (fv_ref pf_1_0) (pn 35 rfl ?_)
      refine s_getfield (v := .ref 10) (by decide +kernel) fr_6_160 lq_2 (congrArg Prod.fst sh_2) (fv_ref pf_2_12) (pn 38 rfl ?_)
      refine t_bipush (by decide +kernel) kb_9 (pn 40 rfl ?_)
      refine t_iconst (by decide +kernel) ki_0 (pn 41 rfl ?_)
      refine s_callvI [.int 9, .int 0] rfl (by decide +kernel) mv_6_187 np_7 (Nat.le_of_ble_eq_true rfl) lq_10 ((congrArg Prod.fst sh_10).trans oc_7) (cI_use h (fun r1 s3 M3 h => (pn 44 rfl ?_)))
      refine s_pop (by decide +kernel) rfl (pn 45 rfl ?_)
      refine t_iinc (i := 1) (n := 1) (ls' := [.ref 1, .int (l1 + 1)]) (by decide +kernel) rfl (Nat.le_of_ble_eq_true rfl) kn_1 rfl (pn 48 rfl ?_)
      refine s_goto (off := -42) (tgt := 6) (by decide +kernel) rfl ?_
      exact h
abbrev wR_readBoth (d pc : Nat) (ls st : List Value) (s : pm_S) (M : pm_M) (Q : pm_S → pm_M → Prop) : Prop := wV d prog_8_method_26_code 6 none false pc ls st s M Q
theorem enR_readBoth {d : Nat} {s : pm_S} {M : pm_M}  {Q : pm_S → pm_M → Prop}  (h : cV d yR_readUnit [.ref 1] s M (fun s1 M1 => wR_readBoth d 6 [.ref 1, .int 0] [] s1 M1 Q)) : cV (d + 1) yR_readBoth [.ref 1] s M Q := by
  refine pm_toV (by decide) (Nat.le_of_ble_eq_true rfl) ?_
  show wR_readBoth d 0 [.ref 1, .null] [] s M Q
  refine s_aload_n (i := 0) (by decide +kernel) rfl (pn 1 rfl ?_)
  refine s_callvV [] rfl (by decide +kernel) mv_6_212 np_78 (Nat.le_of_ble_eq_true rfl) lq_1 ((congrArg Prod.fst sh_1).trans oc_78) (cV_use h (fun s1 M1 h => (pn 4 rfl ?_)))
  refine t_iconst (by decide +kernel) ki_0 (pn 5 rfl ?_)
  refine s_istore_n (i := 1) (by decide +kernel) (Nat.le_of_ble_eq_true rfl) (pn 6 rfl (t_store (ls' := [.ref 1, .int 0]) rfl ?_))
  exact h
theorem sgR_readBoth_6 {d : Nat} {s : pm_S} {M : pm_M} {l1 : Int32} {Q : pm_S → pm_M → Prop}  (h : (((900 ≤ l1) → Q s M) ∧ (¬ (900 ≤ l1) → (((M.1 1 7) = 219 → cV d yR_step [.ref 1] s M (fun s1 M1 => cV d yR_readUnit [.ref 1] s1 M1 (fun s2 M2 => cI d yW_add [.ref 10, .int 8, .int 0] s2 M2 (fun r1 s3 M3 => wR_readBoth d 6 [.ref 1, .int (l1 + 1)] [] s3 M3 Q)))) ∧ (¬ ((M.1 1 7) = 219) → Q s M))))) : wR_readBoth d 6 [.ref 1, .int l1] [] s M Q := by
  refine s_iload_n (i := 1) (by decide +kernel) rfl (pn 7 rfl ?_)
  refine t_sipush (by decide +kernel) ks_900 (pn 10 rfl ?_)
  refine s_icmp_ge (off := 41) (tgt := 51) (by decide +kernel) rfl (fun c1 => ?_) (fun c1 => (pn 13 rfl ?_))
  · have h := h.1 c1
    exact s_return (st := []) (by decide +kernel) rfl ⟨rfl, s, rfl, h⟩
  · have h := h.2 c1
    refine s_aload_n (i := 0) (by decide +kernel) rfl (pn 14 rfl ?_)
    refine s_getfield (v := .int (M.1 1 7)) (by decide +kernel) fr_6_69 lq_1 (congrArg Prod.fst sh_1) rfl (pn 17 rfl ?_)
    refine t_sipush (by decide +kernel) ks_219 (pn 20 rfl ?_)
    refine t_icmp_ne (off := 31) (tgt := 51) (by decide +kernel) rfl (fun c3 => ?_) (fun c3 => (pn 23 rfl ?_))
    · have h := h.2 c3
      exact s_return (st := []) (by decide +kernel) rfl ⟨rfl, s, rfl, h⟩
    · have h := h.1 c3
      refine s_aload_n (i := 0) (by decide +kernel) rfl (pn 24 rfl ?_)
      refine s_callvV [] rfl (by decide +kernel) mv_6_53 np_55 (Nat.le_of_ble_eq_true rfl) lq_1 ((congrArg Prod.fst sh_1).trans oc_55) (cV_use h (fun s1 M1 h => (pn 27 rfl ?_)))
      refine s_aload_n (i := 0) (by decide +kernel) rfl (pn 28 rfl ?_)
      refine s_callvV [] rfl (by decide +kernel) mv_6_212 np_78 (Nat.le_of_ble_eq_true rfl) lq_1 ((congrArg Prod.fst sh_1).trans oc_78) (cV_use h (fun s2 M2 h => (pn 31 rfl ?_)))
      refine s_aload_n (i := 0) (by decide +kernel) rfl (pn 32 rfl ?_)
      refine s_getfield (v := .ref 2) (by decide +kernel) fr_6_12 lq_1 (congrArg Prod.fst sh_1) (fv_ref pf_1_0) (pn 35 rfl ?_)
      refine s_getfield (v := .ref 10) (by decide +kernel) fr_6_160 lq_2 (congrArg Prod.fst sh_2) (fv_ref pf_2_12) (pn 38 rfl ?_)
      refine t_bipush (by decide +kernel) kb_8 (pn 40 rfl ?_)
      refine t_iconst (by decide +kernel) ki_0 (pn 41 rfl ?_)
      refine s_callvI [.int 8, .int 0] rfl (by decide +kernel) mv_6_187 np_7 (Nat.le_of_ble_eq_true rfl) lq_10 ((congrArg Prod.fst sh_10).trans oc_7) (cI_use h (fun r1 s3 M3 h => (pn 44 rfl ?_)))
      refine s_pop (by decide +kernel) rfl (pn 45 rfl ?_)
      refine t_iinc (i := 1) (n := 1) (ls' := [.ref 1, .int (l1 + 1)]) (by decide +kernel) rfl (Nat.le_of_ble_eq_true rfl) kn_1 rfl (pn 48 rfl ?_)
      refine s_goto (off := -42) (tgt := 6) (by decide +kernel) rfl ?_
      exact h
abbrev wR_readUnit (d pc : Nat) (ls st : List Value) (s : pm_S) (M : pm_M) (Q : pm_S → pm_M → Prop) : Prop := wV d prog_8_method_27_code 6 none false pc ls st s M Q
theorem enR_readUnit {d : Nat} {s : pm_S} {M : pm_M}  {Q : pm_S → pm_M → Prop}  (h : (((M.1 1 7) = 218 → cI d yR_goesIn [.ref 1] s M (fun r2 s6 M6 => (((r2 = 0) → Q s6 M6) ∧ (¬ (r2 = 0) → cV d yR_readUnit [.ref 1] s6 M6 (fun s7 M7 => cI d yW_add [.ref 10, .int 10, .int 0] s7 M7 (fun r3 s8 M8 => Q s8 (pm_si M8 1 10 ((M8.1 1 10) - 1)))))))) ∧ (¬ ((M.1 1 7) = 218) → (((M.1 1 7) = 91 → cI d yR_goesIn [.ref 1] s M (fun r1 s3 M3 => (((r1 = 0) → Q s3 M3) ∧ (¬ (r1 = 0) → cV d yR_readTruth [.ref 1] s3 M3 (fun s4 M4 => cV d yR_expect [.ref 1, .int 93] s4 M4 (fun s5 M5 => Q s5 (pm_si M5 1 10 ((M5.1 1 10) - 1)))))))) ∧ (¬ ((M.1 1 7) = 91) → cV d yR_readSum [.ref 1] s M (fun s1 M1 => cV d yR_readComparison [.ref 1] s1 M1 (fun s2 M2 => Q s2 M2))))))) : cV (d + 1) yR_readUnit [.ref 1] s M Q := by
  refine pm_toV (by decide) (Nat.le_of_ble_eq_true rfl) ?_
  show wR_readUnit d 0 [.ref 1] [] s M Q
  refine s_aload_n (i := 0) (by decide +kernel) rfl (pn 1 rfl ?_)
  refine s_getfield (v := .int (M.1 1 7)) (by decide +kernel) fr_6_69 lq_1 (congrArg Prod.fst sh_1) rfl (pn 4 rfl ?_)
  refine t_sipush (by decide +kernel) ks_218 (pn 7 rfl ?_)
  refine t_icmp_ne (off := 41) (tgt := 48) (by decide +kernel) rfl (fun c1 => ?_) (fun c1 => (pn 10 rfl ?_))
  · have h := h.2 c1
    refine s_aload_n (i := 0) (by decide +kernel) rfl (pn 49 rfl ?_)
    refine s_getfield (v := .int (M.1 1 7)) (by decide +kernel) fr_6_69 lq_1 (congrArg Prod.fst sh_1) rfl (pn 52 rfl ?_)
    refine t_bipush (by decide +kernel) kb_91 (pn 54 rfl ?_)
    refine t_icmp_ne (off := 33) (tgt := 87) (by decide +kernel) rfl (fun c3 => ?_) (fun c3 => (pn 57 rfl ?_))
    · have h := h.2 c3
      refine s_aload_n (i := 0) (by decide +kernel) rfl (pn 88 rfl ?_)
      refine s_callvV [] rfl (by decide +kernel) mv_6_169 np_70 (Nat.le_of_ble_eq_true rfl) lq_1 ((congrArg Prod.fst sh_1).trans oc_70) (cV_use h (fun s1 M1 h => (pn 91 rfl ?_)))
      refine s_aload_n (i := 0) (by decide +kernel) rfl (pn 92 rfl ?_)
      refine s_callvV [] rfl (by decide +kernel) mv_6_215 np_79 (Nat.le_of_ble_eq_true rfl) lq_1 ((congrArg Prod.fst sh_1).trans oc_79) (cV_use h (fun s2 M2 h => (pn 95 rfl ?_)))
      exact s_return (st := []) (by decide +kernel) rfl ⟨rfl, s2, rfl, h⟩
    · have h := h.1 c3
      refine s_aload_n (i := 0) (by decide +kernel) rfl (pn 58 rfl ?_)
      refine s_callvI [] rfl (by decide +kernel) mv_6_196 np_74 (Nat.le_of_ble_eq_true rfl) lq_1 ((congrArg Prod.fst sh_1).trans oc_74) (cI_use h (fun r1 s3 M3 h => (pn 61 rfl ?_)))
      refine s_if_eq (off := 34) (tgt := 95) (by decide +kernel) rfl (fun c4 => ?_) (fun c4 => (pn 64 rfl ?_))
      · have h := h.1 c4
        exact s_return (st := []) (by decide +kernel) rfl ⟨rfl, s3, rfl, h⟩
      · have h := h.2 c4
        refine s_aload_n (i := 0) (by decide +kernel) rfl (pn 65 rfl ?_)
        refine s_callvV [] rfl (by decide +kernel) mv_6_203 np_76 (Nat.le_of_ble_eq_true rfl) lq_1 ((congrArg Prod.fst sh_1).trans oc_76) (cV_use h (fun s4 M4 h => (pn 68 rfl ?_)))
        refine s_aload_n (i := 0) (by decide +kernel) rfl (pn 69 rfl ?_)
        refine t_bipush (by decide +kernel) kb_93 (pn 71 rfl ?_)
        refine s_callvV [.int 93] rfl (by decide +kernel) mv_6_56 np_62 (Nat.le_of_ble_eq_true rfl) lq_1 ((congrArg Prod.fst sh_1).trans oc_62) (cV_use h (fun s5 M5 h => (pn 74 rfl ?_)))
        refine s_aload_n (i := 0) (by decide +kernel) rfl (pn 75 rfl ?_)
        refine s_dup (by decide +kernel) rfl (pn 76 rfl ?_)
        refine s_getfield (v := .int (M5.1 1 10)) (by decide +kernel) fr_6_47 lq_1 (congrArg Prod.fst sh_1) rfl (pn 79 rfl ?_)
        refine t_iconst (by decide +kernel) ki_1 (pn 80 rfl ?_)
        refine s_isub (by decide +kernel) (pn 81 rfl ?_)
        refine s_putfieldI (by decide +kernel) fr_6_47 lq_1 (congrArg Prod.fst sh_1) (fun q => by cases q) (Or.inl rfl) (pn 84 rfl ?_)
        refine s_goto (off := 11) (tgt := 95) (by decide +kernel) rfl ?_
        exact s_return (st := []) (by decide +kernel) rfl ⟨rfl, s5, rfl, h⟩
  · have h := h.1 c1
    refine s_aload_n (i := 0) (by decide +kernel) rfl (pn 11 rfl ?_)
    refine s_callvI [] rfl (by decide +kernel) mv_6_196 np_74 (Nat.le_of_ble_eq_true rfl) lq_1 ((congrArg Prod.fst sh_1).trans oc_74) (cI_use h (fun r2 s6 M6 h => (pn 14 rfl ?_)))
    refine s_if_eq (off := 81) (tgt := 95) (by decide +kernel) rfl (fun c5 => ?_) (fun c5 => (pn 17 rfl ?_))
    · have h := h.1 c5
      exact s_return (st := []) (by decide +kernel) rfl ⟨rfl, s6, rfl, h⟩
    · have h := h.2 c5
      refine s_aload_n (i := 0) (by decide +kernel) rfl (pn 18 rfl ?_)
      refine s_callvV [] rfl (by decide +kernel) mv_6_212 np_78 (Nat.le_of_ble_eq_true rfl) lq_1 ((congrArg Prod.fst sh_1).trans oc_78) (cV_use h (fun s7 M7 h => (pn 21 rfl ?_)))
      refine s_aload_n (i := 0) (by decide +kernel) rfl (pn 22 rfl ?_)
      refine s_getfield (v := .ref 2) (by decide +kernel) fr_6_12 lq_1 (congrArg Prod.fst sh_1) (fv_ref pf_1_0) (pn 25 rfl ?_)
      refine s_getfield (v := .ref 10) (by decide +kernel) fr_6_160 lq_2 (congrArg Prod.fst sh_2) (fv_ref pf_2_12) (pn 28 rfl ?_)
      refine t_bipush (by decide +kernel) kb_10 (pn 30 rfl ?_)
      refine t_iconst (by decide +kernel) ki_0 (pn 31 rfl ?_)
      refine s_callvI [.int 10, .int 0] rfl (by decide +kernel) mv_6_187 np_7 (Nat.le_of_ble_eq_true rfl) lq_10 ((congrArg Prod.fst sh_10).trans oc_7) (cI_use h (fun r3 s8 M8 h => (pn 34 rfl ?_)))
      refine s_pop (by decide +kernel) rfl (pn 35 rfl ?_)
      refine s_aload_n (i := 0) (by decide +kernel) rfl (pn 36 rfl ?_)
      refine s_dup (by decide +kernel) rfl (pn 37 rfl ?_)
      refine s_getfield (v := .int (M8.1 1 10)) (by decide +kernel) fr_6_47 lq_1 (congrArg Prod.fst sh_1) rfl (pn 40 rfl ?_)
      refine t_iconst (by decide +kernel) ki_1 (pn 41 rfl ?_)
      refine s_isub (by decide +kernel) (pn 42 rfl ?_)
      refine s_putfieldI (by decide +kernel) fr_6_47 lq_1 (congrArg Prod.fst sh_1) (fun q => by cases q) (Or.inl rfl) (pn 45 rfl ?_)
      refine s_goto (off := 50) (tgt := 95) (by decide +kernel) rfl ?_
      exact s_return (st := []) (by decide +kernel) rfl ⟨rfl, s8, rfl, h⟩
abbrev wR_readComparison (d pc : Nat) (ls st : List Value) (s : pm_S) (M : pm_M) (Q : pm_S → pm_M → Prop) : Prop := wV d prog_8_method_28_code 6 none false pc ls st s M Q
theorem enR_readComparison {d : Nat} {s : pm_S} {M : pm_M}  {Q : pm_S → pm_M → Prop}  (h : wR_readComparison d 29 [.ref 1, .null] [.int ((if (M.1 1 7) = 61 then 5 else (if (M.1 1 7) = 60 then 6 else 7)) : Int32)] s M Q) : cV (d + 1) yR_readComparison [.ref 1] s M Q := by
  refine pm_toV (by decide) (Nat.le_of_ble_eq_true rfl) ?_
  show wR_readComparison d 0 [.ref 1, .null] [] s M Q
  refine s_aload_n (i := 0) (by decide +kernel) rfl (pn 1 rfl ?_)
  refine s_getfield (v := .int (M.1 1 7)) (by decide +kernel) fr_6_69 lq_1 (congrArg Prod.fst sh_1) rfl (pn 4 rfl ?_)
  refine t_bipush (by decide +kernel) kb_61 (pn 6 rfl ?_)
  have k1 : ∀ (z1 : Int32) (z1e : z1 = ((if (M.1 1 7) = 61 then 5 else (if (M.1 1 7) = 60 then 6 else 7)) : Int32)), wR_readComparison d 29 [.ref 1, .null] [.int z1] s M Q := by
    intro z1 z1e
    subst z1e
    exact h
  refine t_icmp_ne (off := 7) (tgt := 13) (by decide +kernel) rfl (fun c1 => ?_) (fun c1 => (pn 9 rfl ?_))
  · refine s_aload_n (i := 0) (by decide +kernel) rfl (pn 14 rfl ?_)
    refine s_getfield (v := .int (M.1 1 7)) (by decide +kernel) fr_6_69 lq_1 (congrArg Prod.fst sh_1) rfl (pn 17 rfl ?_)
    refine t_bipush (by decide +kernel) kb_60 (pn 19 rfl ?_)
    refine t_icmp_ne (off := 8) (tgt := 27) (by decide +kernel) rfl (fun c2 => ?_) (fun c2 => (pn 22 rfl ?_))
    · refine t_bipush (by decide +kernel) kb_7 (pn 29 rfl ?_)
      exact k1 _ (by simp only [if_neg c1, if_neg c2])
    · refine t_bipush (by decide +kernel) kb_6 (pn 24 rfl ?_)
      refine s_goto (off := 5) (tgt := 29) (by decide +kernel) rfl ?_
      exact k1 _ (by simp only [if_neg c1, if_pos c2])
  · refine t_iconst (by decide +kernel) ki_5 (pn 10 rfl ?_)
    refine s_goto (off := 19) (tgt := 29) (by decide +kernel) rfl ?_
    exact k1 _ (by simp only [if_pos c1])
theorem sgR_readComparison_29 {d : Nat} {s : pm_S} {M : pm_M} {t0 : Int32} {Q : pm_S → pm_M → Prop}  (h : ((((M.1 1 7) = 61) → wR_readComparison d 63 [.ref 1, .int t0] [] s M Q) ∧ (¬ ((M.1 1 7) = 61) → ((((M.1 1 7) = 60) → wR_readComparison d 63 [.ref 1, .int t0] [] s M Q) ∧ (¬ ((M.1 1 7) = 60) → ((((M.1 1 7) = 62) → wR_readComparison d 63 [.ref 1, .int t0] [] s M Q) ∧ (¬ ((M.1 1 7) = 62) → cV d yR_fail [.ref 1, .int 2] s M (fun s1 M1 => Q s1 M1)))))))) : wR_readComparison d 29 [.ref 1, .null] [.int t0] s M Q := by
  refine s_istore_n (i := 1) (by decide +kernel) (Nat.le_of_ble_eq_true rfl) (pn 30 rfl (t_store (ls' := [.ref 1, .int t0]) rfl ?_))
  refine s_aload_n (i := 0) (by decide +kernel) rfl (pn 31 rfl ?_)
  refine s_getfield (v := .int (M.1 1 7)) (by decide +kernel) fr_6_69 lq_1 (congrArg Prod.fst sh_1) rfl (pn 34 rfl ?_)
  refine t_bipush (by decide +kernel) kb_61 (pn 36 rfl ?_)
  refine s_icmp_eq (off := 27) (tgt := 63) (by decide +kernel) rfl (fun c1 => ?_) (fun c1 => (pn 39 rfl ?_))
  · have h := h.1 c1
    exact h
  · have h := h.2 c1
    refine s_aload_n (i := 0) (by decide +kernel) rfl (pn 40 rfl ?_)
    refine s_getfield (v := .int (M.1 1 7)) (by decide +kernel) fr_6_69 lq_1 (congrArg Prod.fst sh_1) rfl (pn 43 rfl ?_)
    refine t_bipush (by decide +kernel) kb_60 (pn 45 rfl ?_)
    refine s_icmp_eq (off := 18) (tgt := 63) (by decide +kernel) rfl (fun c2 => ?_) (fun c2 => (pn 48 rfl ?_))
    · have h := h.1 c2
      exact h
    · have h := h.2 c2
      refine s_aload_n (i := 0) (by decide +kernel) rfl (pn 49 rfl ?_)
      refine s_getfield (v := .int (M.1 1 7)) (by decide +kernel) fr_6_69 lq_1 (congrArg Prod.fst sh_1) rfl (pn 52 rfl ?_)
      refine t_bipush (by decide +kernel) kb_62 (pn 54 rfl ?_)
      refine s_icmp_eq (off := 9) (tgt := 63) (by decide +kernel) rfl (fun c3 => ?_) (fun c3 => (pn 57 rfl ?_))
      · have h := h.1 c3
        exact h
      · have h := h.2 c3
        refine s_aload_n (i := 0) (by decide +kernel) rfl (pn 58 rfl ?_)
        refine t_iconst (by decide +kernel) ki_2 (pn 59 rfl ?_)
        refine s_callvV [.int 2] rfl (by decide +kernel) mv_6_91 np_60 (Nat.le_of_ble_eq_true rfl) lq_1 ((congrArg Prod.fst sh_1).trans oc_60) (cV_use h (fun s1 M1 h => (pn 62 rfl ?_)))
        exact s_return (st := []) (by decide +kernel) rfl ⟨rfl, s1, rfl, h⟩
theorem sgR_readComparison_63 {d : Nat} {s : pm_S} {M : pm_M} {l1 : Int32} {Q : pm_S → pm_M → Prop}  (h : cV d yR_step [.ref 1] s M (fun s1 M1 => cV d yR_readSum [.ref 1] s1 M1 (fun s2 M2 => cI d yW_add [.ref 10, .int l1, .int 0] s2 M2 (fun r1 s3 M3 => Q s3 M3)))) : wR_readComparison d 63 [.ref 1, .int l1] [] s M Q := by
  refine s_aload_n (i := 0) (by decide +kernel) rfl (pn 64 rfl ?_)
  refine s_callvV [] rfl (by decide +kernel) mv_6_53 np_55 (Nat.le_of_ble_eq_true rfl) lq_1 ((congrArg Prod.fst sh_1).trans oc_55) (cV_use h (fun s1 M1 h => (pn 67 rfl ?_)))
  refine s_aload_n (i := 0) (by decide +kernel) rfl (pn 68 rfl ?_)
  refine s_callvV [] rfl (by decide +kernel) mv_6_169 np_70 (Nat.le_of_ble_eq_true rfl) lq_1 ((congrArg Prod.fst sh_1).trans oc_70) (cV_use h (fun s2 M2 h => (pn 71 rfl ?_)))
  refine s_aload_n (i := 0) (by decide +kernel) rfl (pn 72 rfl ?_)
  refine s_getfield (v := .ref 2) (by decide +kernel) fr_6_12 lq_1 (congrArg Prod.fst sh_1) (fv_ref pf_1_0) (pn 75 rfl ?_)
  refine s_getfield (v := .ref 10) (by decide +kernel) fr_6_160 lq_2 (congrArg Prod.fst sh_2) (fv_ref pf_2_12) (pn 78 rfl ?_)
  refine s_iload_n (i := 1) (by decide +kernel) rfl (pn 79 rfl ?_)
  refine t_iconst (by decide +kernel) ki_0 (pn 80 rfl ?_)
  refine s_callvI [.int l1, .int 0] rfl (by decide +kernel) mv_6_187 np_7 (Nat.le_of_ble_eq_true rfl) lq_10 ((congrArg Prod.fst sh_10).trans oc_7) (cI_use h (fun r1 s3 M3 h => (pn 83 rfl ?_)))
  refine s_pop (by decide +kernel) rfl (pn 84 rfl ?_)
  exact s_return (st := []) (by decide +kernel) rfl ⟨rfl, s3, rfl, h⟩
