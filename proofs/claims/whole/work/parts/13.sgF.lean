abbrev wF_begin (d pc : Nat) (ls st : List Value) (s : pm_S) (M : pm_M) (Q : pm_S → pm_M → Prop) : Prop := wV d prog_4_method_2_code 2 none false pc ls st s M Q
theorem enF_begin {d : Nat} {s : pm_S} {M : pm_M}  {Q : pm_S → pm_M → Prop}  (h : cI d yS_holderBits [.ref 27] s (pm_si M 43 8 0) (fun r1 s1 M1 => Q s1 (pm_si M1 43 9 (r1 ^^^ (-1))))) : cV (d + 1) yF_begin [.ref 43, .ref 27] s M Q := by
  refine pm_toV (by decide) (Nat.le_of_ble_eq_true rfl) ?_
  show wF_begin d 0 [.ref 43, .ref 27] [] s M Q
  refine s_aload_n (i := 0) (by decide +kernel) rfl (pn 1 rfl ?_)
  refine t_iconst (by decide +kernel) ki_0 (pn 2 rfl ?_)
  refine s_putfieldI (by decide +kernel) fr_2_36 lq_43 (congrArg Prod.fst sh_43) (fun q => by cases q) (Or.inl rfl) (pn 5 rfl ?_)
  refine s_aload_n (i := 0) (by decide +kernel) rfl (pn 6 rfl ?_)
  refine s_aload_n (i := 1) (by decide +kernel) rfl (pn 7 rfl ?_)
  refine s_callvI [] rfl (by decide +kernel) mv_2_40 np_97 (Nat.le_of_ble_eq_true rfl) lq_27 ((congrArg Prod.fst sh_27).trans oc_97) (cI_use h (fun r1 s1 M1 h => (pn 10 rfl ?_)))
  refine t_iconst (by decide +kernel) ki_m1 (pn 11 rfl ?_)
  refine s_ixor (by decide +kernel) (pn 12 rfl ?_)
  refine s_putfieldI (by decide +kernel) fr_2_46 lq_43 (congrArg Prod.fst sh_43) (fun q => by cases q) (Or.inl rfl) (pn 15 rfl ?_)
  exact s_return (st := []) (by decide +kernel) rfl ⟨rfl, s1, rfl, h⟩
abbrev wF_add (d pc : Nat) (ls st : List Value) (s : pm_S) (M : pm_M) (Q : pm_S → pm_M → Prop) : Prop := wV d prog_4_method_3_code 2 none false pc ls st s M Q
theorem enF_add {d : Nat} {s : pm_S} {M : pm_M} {x1 : Int32} {Q : pm_S → pm_M → Prop}  (h : ((((M.1 43 8) < 3) → cI d yS_holderOf [.ref 27, .int x1] s M (fun r1 s1 M1 => (((r1 = (-1)) → vp_in (M1.1 43 8) 3 ∧ wF_add d 48 [.ref 43, .int x1, .null, .null, .int (M1.1 43 8)] [] s1 (pm_si M1 48 (M1.1 43 8).toNatClampNeg x1) Q) ∧ (¬ (r1 = (-1)) → vp_in (M1.1 43 8) 3 ∧ wF_add d 48 [.ref 43, .int x1, .null, .null, .int (M1.1 43 8)] [] s1 (pm_si (pm_si M1 43 9 ((M1.1 43 9) ||| ((1 : Int32) <<< (r1 &&& 31)))) 48 (M1.1 43 8).toNatClampNeg x1) Q)))) ∧ (¬ ((M.1 43 8) < 3) → Q s M))) : cV (d + 1) yF_add [.ref 43, .int x1, .ref 27] s M Q := by
  refine pm_toV (by decide) (Nat.le_of_ble_eq_true rfl) ?_
  show wF_add d 0 [.ref 43, .int x1, .ref 27, .null, .null] [] s M Q
  refine s_aload_n (i := 0) (by decide +kernel) rfl (pn 1 rfl ?_)
  refine s_getfield (v := .int (M.1 43 8)) (by decide +kernel) fr_2_36 lq_43 (congrArg Prod.fst sh_43) rfl (pn 4 rfl ?_)
  refine t_iconst (by decide +kernel) ki_3 (pn 5 rfl ?_)
  refine s_icmp_lt (off := 4) (tgt := 9) (by decide +kernel) rfl (fun c1 => ?_) (fun c1 => (pn 8 rfl ?_))
  · have h := h.1 c1
    refine s_aload_n (i := 2) (by decide +kernel) rfl (pn 10 rfl ?_)
    refine s_iload_n (i := 1) (by decide +kernel) rfl (pn 11 rfl ?_)
    refine s_callvI [.int x1] rfl (by decide +kernel) mv_2_49 np_99 (Nat.le_of_ble_eq_true rfl) lq_27 ((congrArg Prod.fst sh_27).trans oc_99) (cI_use h (fun r1 s1 M1 h => (pn 14 rfl ?_)))
    refine s_istore_n (i := 3) (by decide +kernel) (Nat.le_of_ble_eq_true rfl) (pn 15 rfl (t_store (ls' := [.ref 43, .int x1, .ref 27, .int r1, .null]) rfl ?_))
    refine s_iload_n (i := 3) (by decide +kernel) rfl (pn 16 rfl ?_)
    refine t_iconst (by decide +kernel) ki_m1 (pn 17 rfl ?_)
    refine s_icmp_eq (off := 15) (tgt := 32) (by decide +kernel) rfl (fun c2 => ?_) (fun c2 => (pn 20 rfl ?_))
    · have h := h.1 c2
      refine s_aload_n (i := 0) (by decide +kernel) rfl (pn 33 rfl ?_)
      refine s_getfield (v := .ref 48) (by decide +kernel) fr_2_24 lq_43 (congrArg Prod.fst sh_43) (fv_ref pf_43_4) (pn 36 rfl ?_)
      refine s_aload_n (i := 0) (by decide +kernel) rfl (pn 37 rfl ?_)
      refine s_getfield (v := .int (M1.1 43 8)) (by decide +kernel) fr_2_36 lq_43 (congrArg Prod.fst sh_43) rfl (pn 40 rfl ?_)
      refine s_iload_n (i := 1) (by decide +kernel) rfl (pn 41 rfl ?_)
      obtain ⟨b1, h⟩ := h
      refine t_iastore (k := (M1.1 43 8).toNatClampNeg) (by decide +kernel) ⟨lq_48, congrArg Prod.fst sh_48⟩ (al_in sh_48 b1) rfl (pn 42 rfl ?_)
      refine s_aload_n (i := 0) (by decide +kernel) rfl (pn 43 rfl ?_)
      refine s_getfield (v := .int (M1.1 43 8)) (by decide +kernel) fr_2_36 lq_43 (congrArg Prod.fst sh_43) rfl (pn 46 rfl ?_)
      refine s_istore (i := 4) (by decide +kernel) (Nat.le_of_ble_eq_true rfl) (pn 48 rfl (t_store (ls' := [.ref 43, .int x1, .ref 27, .int r1, .int (M1.1 43 8)]) rfl ?_))
      exact pm_weak [.ref 43, .int x1, .null, .null, .int (M1.1 43 8)] (pm_le_cons (Or.inr rfl) (pm_le_cons (Or.inr rfl) (pm_le_cons (Or.inl rfl) (pm_le_cons (Or.inl rfl) (pm_le_cons (Or.inr rfl) pm_le_nil))))) h
    · have h := h.2 c2
      refine s_aload_n (i := 0) (by decide +kernel) rfl (pn 21 rfl ?_)
      refine s_dup (by decide +kernel) rfl (pn 22 rfl ?_)
      refine s_getfield (v := .int (M1.1 43 9)) (by decide +kernel) fr_2_46 lq_43 (congrArg Prod.fst sh_43) rfl (pn 25 rfl ?_)
      refine t_iconst (by decide +kernel) ki_1 (pn 26 rfl ?_)
      refine s_iload_n (i := 3) (by decide +kernel) rfl (pn 27 rfl ?_)
      refine s_ishl (by decide +kernel) (pn 28 rfl ?_)
      refine s_ior (by decide +kernel) (pn 29 rfl ?_)
      refine s_putfieldI (by decide +kernel) fr_2_46 lq_43 (congrArg Prod.fst sh_43) (fun q => by cases q) (Or.inl rfl) (pn 32 rfl ?_)
      refine s_aload_n (i := 0) (by decide +kernel) rfl (pn 33 rfl ?_)
      refine s_getfield (v := .ref 48) (by decide +kernel) fr_2_24 lq_43 (congrArg Prod.fst sh_43) (fv_ref pf_43_4) (pn 36 rfl ?_)
      refine s_aload_n (i := 0) (by decide +kernel) rfl (pn 37 rfl ?_)
      refine s_getfield (v := .int (M1.1 43 8)) (by decide +kernel) fr_2_36 lq_43 (congrArg Prod.fst sh_43) rfl (pn 40 rfl ?_)
      refine s_iload_n (i := 1) (by decide +kernel) rfl (pn 41 rfl ?_)
      obtain ⟨b2, h⟩ := h
      refine t_iastore (k := (M1.1 43 8).toNatClampNeg) (by decide +kernel) ⟨lq_48, congrArg Prod.fst sh_48⟩ (al_in sh_48 b2) rfl (pn 42 rfl ?_)
      refine s_aload_n (i := 0) (by decide +kernel) rfl (pn 43 rfl ?_)
      refine s_getfield (v := .int (M1.1 43 8)) (by decide +kernel) fr_2_36 lq_43 (congrArg Prod.fst sh_43) rfl (pn 46 rfl ?_)
      refine s_istore (i := 4) (by decide +kernel) (Nat.le_of_ble_eq_true rfl) (pn 48 rfl (t_store (ls' := [.ref 43, .int x1, .ref 27, .int r1, .int (M1.1 43 8)]) rfl ?_))
      exact pm_weak [.ref 43, .int x1, .null, .null, .int (M1.1 43 8)] (pm_le_cons (Or.inr rfl) (pm_le_cons (Or.inr rfl) (pm_le_cons (Or.inl rfl) (pm_le_cons (Or.inl rfl) (pm_le_cons (Or.inr rfl) pm_le_nil))))) h
  · have h := h.2 c1
    exact s_return (st := []) (by decide +kernel) rfl ⟨rfl, s, rfl, h⟩
theorem sgF_add_48 {d : Nat} {s : pm_S} {M : pm_M} {l1 : Int32} {l4 : Int32} {Q : pm_S → pm_M → Prop}  (h : (((l4 ≤ 0) → vp_in l4 3 ∧ Q s (pm_si (pm_si M 51 l4.toNatClampNeg (M.1 43 8)) 43 8 ((M.1 43 8) + 1))) ∧ (¬ (l4 ≤ 0) → vp_in (l4 - 1) 3 ∧ vp_in (M.1 51 (l4 - 1).toNatClampNeg) 3 ∧ ((((M.1 48 (M.1 51 (l4 - 1).toNatClampNeg).toNatClampNeg) ≤ l1) → vp_in l4 3 ∧ Q s (pm_si (pm_si M 51 l4.toNatClampNeg (M.1 43 8)) 43 8 ((M.1 43 8) + 1))) ∧ (¬ ((M.1 48 (M.1 51 (l4 - 1).toNatClampNeg).toNatClampNeg) ≤ l1) → vp_in (l4 - 1) 3 ∧ vp_in l4 3 ∧ wF_add d 48 [.ref 43, .int l1, .null, .null, .int (l4 + (-1))] [] s (pm_si M 51 l4.toNatClampNeg (M.1 51 (l4 - 1).toNatClampNeg)) Q))))) : wF_add d 48 [.ref 43, .int l1, .null, .null, .int l4] [] s M Q := by
  refine s_iload (i := 4) (by decide +kernel) rfl (pn 50 rfl ?_)
  refine s_if_le (off := 43) (tgt := 93) (by decide +kernel) rfl (fun c1 => ?_) (fun c1 => (pn 53 rfl ?_))
  · have h := h.1 c1
    refine s_aload_n (i := 0) (by decide +kernel) rfl (pn 94 rfl ?_)
    refine s_getfield (v := .ref 51) (by decide +kernel) fr_2_33 lq_43 (congrArg Prod.fst sh_43) (fv_ref pf_43_7) (pn 97 rfl ?_)
    refine s_iload (i := 4) (by decide +kernel) rfl (pn 99 rfl ?_)
    refine s_aload_n (i := 0) (by decide +kernel) rfl (pn 100 rfl ?_)
    refine s_getfield (v := .int (M.1 43 8)) (by decide +kernel) fr_2_36 lq_43 (congrArg Prod.fst sh_43) rfl (pn 103 rfl ?_)
    obtain ⟨b1, h⟩ := h
    refine t_iastore (k := l4.toNatClampNeg) (by decide +kernel) ⟨lq_51, congrArg Prod.fst sh_51⟩ (al_in sh_51 b1) rfl (pn 104 rfl ?_)
    refine s_aload_n (i := 0) (by decide +kernel) rfl (pn 105 rfl ?_)
    refine s_dup (by decide +kernel) rfl (pn 106 rfl ?_)
    refine s_getfield (v := .int (M.1 43 8)) (by decide +kernel) fr_2_36 lq_43 (congrArg Prod.fst sh_43) rfl (pn 109 rfl ?_)
    refine t_iconst (by decide +kernel) ki_1 (pn 110 rfl ?_)
    refine s_iadd (by decide +kernel) (pn 111 rfl ?_)
    refine s_putfieldI (by decide +kernel) fr_2_36 lq_43 (congrArg Prod.fst sh_43) (fun q => by cases q) (Or.inl rfl) (pn 114 rfl ?_)
    exact s_return (st := []) (by decide +kernel) rfl ⟨rfl, s, rfl, h⟩
  · have h := h.2 c1
    refine s_aload_n (i := 0) (by decide +kernel) rfl (pn 54 rfl ?_)
    refine s_getfield (v := .ref 48) (by decide +kernel) fr_2_24 lq_43 (congrArg Prod.fst sh_43) (fv_ref pf_43_4) (pn 57 rfl ?_)
    refine s_aload_n (i := 0) (by decide +kernel) rfl (pn 58 rfl ?_)
    refine s_getfield (v := .ref 51) (by decide +kernel) fr_2_33 lq_43 (congrArg Prod.fst sh_43) (fv_ref pf_43_7) (pn 61 rfl ?_)
    refine s_iload (i := 4) (by decide +kernel) rfl (pn 63 rfl ?_)
    refine t_iconst (by decide +kernel) ki_1 (pn 64 rfl ?_)
    refine s_isub (by decide +kernel) (pn 65 rfl ?_)
    obtain ⟨b2, h⟩ := h
    refine t_iaload (v := M.1 51 (l4 - 1).toNatClampNeg) (by decide +kernel) ⟨Or.inl lq_51, congrArg Prod.fst sh_51⟩ (al_in sh_51 b2) rfl (pn 66 rfl ?_)
    obtain ⟨b3, h⟩ := h
    refine t_iaload (v := M.1 48 (M.1 51 (l4 - 1).toNatClampNeg).toNatClampNeg) (by decide +kernel) ⟨Or.inl lq_48, congrArg Prod.fst sh_48⟩ (al_in sh_48 b3) rfl (pn 67 rfl ?_)
    refine s_iload_n (i := 1) (by decide +kernel) rfl (pn 68 rfl ?_)
    refine s_icmp_le (off := 25) (tgt := 93) (by decide +kernel) rfl (fun c3 => ?_) (fun c3 => (pn 71 rfl ?_))
    · have h := h.1 c3
      refine s_aload_n (i := 0) (by decide +kernel) rfl (pn 94 rfl ?_)
      refine s_getfield (v := .ref 51) (by decide +kernel) fr_2_33 lq_43 (congrArg Prod.fst sh_43) (fv_ref pf_43_7) (pn 97 rfl ?_)
      refine s_iload (i := 4) (by decide +kernel) rfl (pn 99 rfl ?_)
      refine s_aload_n (i := 0) (by decide +kernel) rfl (pn 100 rfl ?_)
      refine s_getfield (v := .int (M.1 43 8)) (by decide +kernel) fr_2_36 lq_43 (congrArg Prod.fst sh_43) rfl (pn 103 rfl ?_)
      obtain ⟨b4, h⟩ := h
      refine t_iastore (k := l4.toNatClampNeg) (by decide +kernel) ⟨lq_51, congrArg Prod.fst sh_51⟩ (al_in sh_51 b4) rfl (pn 104 rfl ?_)
      refine s_aload_n (i := 0) (by decide +kernel) rfl (pn 105 rfl ?_)
      refine s_dup (by decide +kernel) rfl (pn 106 rfl ?_)
      refine s_getfield (v := .int (M.1 43 8)) (by decide +kernel) fr_2_36 lq_43 (congrArg Prod.fst sh_43) rfl (pn 109 rfl ?_)
      refine t_iconst (by decide +kernel) ki_1 (pn 110 rfl ?_)
      refine s_iadd (by decide +kernel) (pn 111 rfl ?_)
      refine s_putfieldI (by decide +kernel) fr_2_36 lq_43 (congrArg Prod.fst sh_43) (fun q => by cases q) (Or.inl rfl) (pn 114 rfl ?_)
      exact s_return (st := []) (by decide +kernel) rfl ⟨rfl, s, rfl, h⟩
    · have h := h.2 c3
      refine s_aload_n (i := 0) (by decide +kernel) rfl (pn 72 rfl ?_)
      refine s_getfield (v := .ref 51) (by decide +kernel) fr_2_33 lq_43 (congrArg Prod.fst sh_43) (fv_ref pf_43_7) (pn 75 rfl ?_)
      refine s_iload (i := 4) (by decide +kernel) rfl (pn 77 rfl ?_)
      refine s_aload_n (i := 0) (by decide +kernel) rfl (pn 78 rfl ?_)
      refine s_getfield (v := .ref 51) (by decide +kernel) fr_2_33 lq_43 (congrArg Prod.fst sh_43) (fv_ref pf_43_7) (pn 81 rfl ?_)
      refine s_iload (i := 4) (by decide +kernel) rfl (pn 83 rfl ?_)
      refine t_iconst (by decide +kernel) ki_1 (pn 84 rfl ?_)
      refine s_isub (by decide +kernel) (pn 85 rfl ?_)
      obtain ⟨b5, h⟩ := h
      refine t_iaload (v := M.1 51 (l4 - 1).toNatClampNeg) (by decide +kernel) ⟨Or.inl lq_51, congrArg Prod.fst sh_51⟩ (al_in sh_51 b5) rfl (pn 86 rfl ?_)
      obtain ⟨b6, h⟩ := h
      refine t_iastore (k := l4.toNatClampNeg) (by decide +kernel) ⟨lq_51, congrArg Prod.fst sh_51⟩ (al_in sh_51 b6) rfl (pn 87 rfl ?_)
      refine t_iinc (i := 4) (n := -1) (ls' := [.ref 43, .int l1, .null, .null, .int (l4 + (-1))]) (by decide +kernel) rfl (Nat.le_of_ble_eq_true rfl) kn_m1 rfl (pn 90 rfl ?_)
      refine s_goto (off := -42) (tgt := 48) (by decide +kernel) rfl ?_
      exact h
abbrev wF_start (d pc : Nat) (ls st : List Value) (s : pm_S) (M : pm_M) (Q : pm_S → pm_M → Prop) : Prop := wV d prog_4_method_4_code 2 none false pc ls st s M Q
theorem enF_start {d : Nat} {s : pm_S} {M : pm_M} {x1 : Int32} {x2 : Int32} {Q : pm_S → pm_M → Prop}  (h : (((x1 < 0) → Q s M) ∧ (¬ (x1 < 0) → ((((M.1 43 8) ≤ x1) → Q s M) ∧ (¬ ((M.1 43 8) ≤ x1) → vp_in x1 3 ∧ Q s (pm_si M 49 x1.toNatClampNeg x2)))))) : cV (d + 1) yF_start [.ref 43, .int x1, .int x2] s M Q := by
  refine pm_toV (by decide) (Nat.le_of_ble_eq_true rfl) ?_
  show wF_start d 0 [.ref 43, .int x1, .int x2] [] s M Q
  refine s_iload_n (i := 1) (by decide +kernel) rfl (pn 1 rfl ?_)
  refine s_if_lt (off := 18) (tgt := 19) (by decide +kernel) rfl (fun c1 => ?_) (fun c1 => (pn 4 rfl ?_))
  · have h := h.1 c1
    exact s_return (st := []) (by decide +kernel) rfl ⟨rfl, s, rfl, h⟩
  · have h := h.2 c1
    refine s_iload_n (i := 1) (by decide +kernel) rfl (pn 5 rfl ?_)
    refine s_aload_n (i := 0) (by decide +kernel) rfl (pn 6 rfl ?_)
    refine s_getfield (v := .int (M.1 43 8)) (by decide +kernel) fr_2_36 lq_43 (congrArg Prod.fst sh_43) rfl (pn 9 rfl ?_)
    refine s_icmp_ge (off := 10) (tgt := 19) (by decide +kernel) rfl (fun c3 => ?_) (fun c3 => (pn 12 rfl ?_))
    · have h := h.1 c3
      exact s_return (st := []) (by decide +kernel) rfl ⟨rfl, s, rfl, h⟩
    · have h := h.2 c3
      refine s_aload_n (i := 0) (by decide +kernel) rfl (pn 13 rfl ?_)
      refine s_getfield (v := .ref 49) (by decide +kernel) fr_2_27 lq_43 (congrArg Prod.fst sh_43) (fv_ref pf_43_5) (pn 16 rfl ?_)
      refine s_iload_n (i := 1) (by decide +kernel) rfl (pn 17 rfl ?_)
      refine s_iload_n (i := 2) (by decide +kernel) rfl (pn 18 rfl ?_)
      obtain ⟨b1, h⟩ := h
      refine t_iastore (k := x1.toNatClampNeg) (by decide +kernel) ⟨lq_49, congrArg Prod.fst sh_49⟩ (al_in sh_49 b1) rfl (pn 19 rfl ?_)
      exact s_return (st := []) (by decide +kernel) rfl ⟨rfl, s, rfl, h⟩
abbrev wF_travel (d pc : Nat) (ls st : List Value) (s : pm_S) (M : pm_M) (Q : pm_S → pm_M → Prop) : Prop := wV d prog_4_method_5_code 2 none false pc ls st s M Q
theorem enF_travel {d : Nat} {s : pm_S} {M : pm_M}  {Q : pm_S → pm_M → Prop}  (h : wF_travel d 10 [.ref 43, .ref 15, .ref 41, .int 0, .null, .null, .null] [] s (pm_si M 43 10 (M.1 43 9)) Q) : cV (d + 1) yF_travel [.ref 43, .ref 15, .ref 41] s M Q := by
  refine pm_toV (by decide) (Nat.le_of_ble_eq_true rfl) ?_
  show wF_travel d 0 [.ref 43, .ref 15, .ref 41, .null, .null, .null, .null] [] s M Q
  refine s_aload_n (i := 0) (by decide +kernel) rfl (pn 1 rfl ?_)
  refine s_aload_n (i := 0) (by decide +kernel) rfl (pn 2 rfl ?_)
  refine s_getfield (v := .int (M.1 43 9)) (by decide +kernel) fr_2_46 lq_43 (congrArg Prod.fst sh_43) rfl (pn 5 rfl ?_)
  refine s_putfieldI (by decide +kernel) fr_2_53 lq_43 (congrArg Prod.fst sh_43) (fun q => by cases q) (Or.inl rfl) (pn 8 rfl ?_)
  refine t_iconst (by decide +kernel) ki_0 (pn 9 rfl ?_)
  refine s_istore_n (i := 3) (by decide +kernel) (Nat.le_of_ble_eq_true rfl) (pn 10 rfl (t_store (ls' := [.ref 43, .ref 15, .ref 41, .int 0, .null, .null, .null]) rfl ?_))
  exact h
theorem sgF_travel_10 {d : Nat} {s : pm_S} {M : pm_M} {l3 : Int32} {Q : pm_S → pm_M → Prop}  (h : ((((M.1 43 8) ≤ l3) → wF_travel d 58 [.ref 43, .ref 15, .ref 41, .int (M.1 43 8), .int 1, .null, .null] [] s M Q) ∧ (¬ ((M.1 43 8) ≤ l3) → vp_in l3 3 ∧ vp_in l3 3 ∧ vp_in l3 3 ∧ vp_in l3 3 ∧ wF_travel d 10 [.ref 43, .ref 15, .ref 41, .int (l3 + 1), .null, .null, .null] [] s (pm_si (pm_si (pm_si M 50 l3.toNatClampNeg (M.1 49 l3.toNatClampNeg)) 44 l3.toNatClampNeg (-1)) 45 l3.toNatClampNeg 0) Q))) : wF_travel d 10 [.ref 43, .ref 15, .ref 41, .int l3, .null, .null, .null] [] s M Q := by
  refine s_iload_n (i := 3) (by decide +kernel) rfl (pn 11 rfl ?_)
  refine s_aload_n (i := 0) (by decide +kernel) rfl (pn 12 rfl ?_)
  refine s_getfield (v := .int (M.1 43 8)) (by decide +kernel) fr_2_36 lq_43 (congrArg Prod.fst sh_43) rfl (pn 15 rfl ?_)
  refine s_icmp_ge (off := 35) (tgt := 50) (by decide +kernel) rfl (fun c1 => ?_) (fun c1 => (pn 18 rfl ?_))
  · have h := h.1 c1
    refine s_aload_n (i := 0) (by decide +kernel) rfl (pn 51 rfl ?_)
    refine s_getfield (v := .int (M.1 43 8)) (by decide +kernel) fr_2_36 lq_43 (congrArg Prod.fst sh_43) rfl (pn 54 rfl ?_)
    refine s_istore_n (i := 3) (by decide +kernel) (Nat.le_of_ble_eq_true rfl) (pn 55 rfl (t_store (ls' := [.ref 43, .ref 15, .ref 41, .int (M.1 43 8), .null, .null, .null]) rfl ?_))
    refine t_iconst (by decide +kernel) ki_1 (pn 56 rfl ?_)
    refine s_istore (i := 4) (by decide +kernel) (Nat.le_of_ble_eq_true rfl) (pn 58 rfl (t_store (ls' := [.ref 43, .ref 15, .ref 41, .int (M.1 43 8), .int 1, .null, .null]) rfl ?_))
    exact h
  · have h := h.2 c1
    refine s_aload_n (i := 0) (by decide +kernel) rfl (pn 19 rfl ?_)
    refine s_getfield (v := .ref 50) (by decide +kernel) fr_2_30 lq_43 (congrArg Prod.fst sh_43) (fv_ref pf_43_6) (pn 22 rfl ?_)
    refine s_iload_n (i := 3) (by decide +kernel) rfl (pn 23 rfl ?_)
    refine s_aload_n (i := 0) (by decide +kernel) rfl (pn 24 rfl ?_)
    refine s_getfield (v := .ref 49) (by decide +kernel) fr_2_27 lq_43 (congrArg Prod.fst sh_43) (fv_ref pf_43_5) (pn 27 rfl ?_)
    refine s_iload_n (i := 3) (by decide +kernel) rfl (pn 28 rfl ?_)
    obtain ⟨b1, h⟩ := h
    refine t_iaload (v := M.1 49 l3.toNatClampNeg) (by decide +kernel) ⟨Or.inl lq_49, congrArg Prod.fst sh_49⟩ (al_in sh_49 b1) rfl (pn 29 rfl ?_)
    obtain ⟨b2, h⟩ := h
    refine t_iastore (k := l3.toNatClampNeg) (by decide +kernel) ⟨lq_50, congrArg Prod.fst sh_50⟩ (al_in sh_50 b2) rfl (pn 30 rfl ?_)
    refine s_aload_n (i := 0) (by decide +kernel) rfl (pn 31 rfl ?_)
    refine s_getfield (v := .ref 44) (by decide +kernel) fr_2_9 lq_43 (congrArg Prod.fst sh_43) (fv_ref pf_43_0) (pn 34 rfl ?_)
    refine s_iload_n (i := 3) (by decide +kernel) rfl (pn 35 rfl ?_)
    refine t_iconst (by decide +kernel) ki_m1 (pn 36 rfl ?_)
    obtain ⟨b3, h⟩ := h
    refine t_iastore (k := l3.toNatClampNeg) (by decide +kernel) ⟨lq_44, congrArg Prod.fst sh_44⟩ (al_in sh_44 b3) rfl (pn 37 rfl ?_)
    refine s_aload_n (i := 0) (by decide +kernel) rfl (pn 38 rfl ?_)
    refine s_getfield (v := .ref 45) (by decide +kernel) fr_2_15 lq_43 (congrArg Prod.fst sh_43) (fv_ref pf_43_1) (pn 41 rfl ?_)
    refine s_iload_n (i := 3) (by decide +kernel) rfl (pn 42 rfl ?_)
    refine t_iconst (by decide +kernel) ki_0 (pn 43 rfl ?_)
    obtain ⟨b4, h⟩ := h
    refine t_iastore (k := l3.toNatClampNeg) (by decide +kernel) ⟨lq_45, congrArg Prod.fst sh_45⟩ (al_in sh_45 b4) rfl (pn 44 rfl ?_)
    refine t_iinc (i := 3) (n := 1) (ls' := [.ref 43, .ref 15, .ref 41, .int (l3 + 1), .null, .null, .null]) (by decide +kernel) rfl (Nat.le_of_ble_eq_true rfl) kn_1 rfl (pn 47 rfl ?_)
    refine s_goto (off := -37) (tgt := 10) (by decide +kernel) rfl ?_
    exact h
theorem sgF_travel_58 {d : Nat} {s : pm_S} {M : pm_M} {l3 : Int32} {l4 : Int32} {Q : pm_S → pm_M → Prop}  (h : (((8 < l4) → Q s M) ∧ (¬ (8 < l4) → (((l3 ≤ 0) → Q s M) ∧ (¬ (l3 ≤ 0) → wF_travel d 72 [.ref 43, .ref 15, .ref 41, .int l3, .int l4, .int 0, .null] [] s M Q))))) : wF_travel d 58 [.ref 43, .ref 15, .ref 41, .int l3, .int l4, .null, .null] [] s M Q := by
  refine s_iload (i := 4) (by decide +kernel) rfl (pn 60 rfl ?_)
  refine t_bipush (by decide +kernel) kb_8 (pn 62 rfl ?_)
  refine s_icmp_gt (off := 73) (tgt := 135) (by decide +kernel) rfl (fun c1 => ?_) (fun c1 => (pn 65 rfl ?_))
  · have h := h.1 c1
    exact s_return (st := []) (by decide +kernel) rfl ⟨rfl, s, rfl, h⟩
  · have h := h.2 c1
    refine s_iload_n (i := 3) (by decide +kernel) rfl (pn 66 rfl ?_)
    refine s_if_le (off := 69) (tgt := 135) (by decide +kernel) rfl (fun c3 => ?_) (fun c3 => (pn 69 rfl ?_))
    · have h := h.1 c3
      exact s_return (st := []) (by decide +kernel) rfl ⟨rfl, s, rfl, h⟩
    · have h := h.2 c3
      refine t_iconst (by decide +kernel) ki_0 (pn 70 rfl ?_)
      refine s_istore (i := 5) (by decide +kernel) (Nat.le_of_ble_eq_true rfl) (pn 72 rfl (t_store (ls' := [.ref 43, .ref 15, .ref 41, .int l3, .int l4, .int 0, .null]) rfl ?_))
      exact h
theorem sgF_travel_72 {d : Nat} {s : pm_S} {M : pm_M} {l3 : Int32} {l4 : Int32} {l5 : Int32} {Q : pm_S → pm_M → Prop}  (h : ((((M.1 43 8) ≤ l5) → wF_travel d 58 [.ref 43, .ref 15, .ref 41, .int l3, .int (l4 + 1), .null, .null] [] s M Q) ∧ (¬ ((M.1 43 8) ≤ l5) → vp_in l5 3 ∧ vp_in (M.1 51 l5.toNatClampNeg) 3 ∧ (((M.1 45 (M.1 51 l5.toNatClampNeg).toNatClampNeg) = 0 → cI d yF_arrives [.ref 43, .ref 15, .ref 41, .int (M.1 51 l5.toNatClampNeg)] s M (fun r1 s1 M1 => (((r1 = 0) → wF_travel d 72 [.ref 43, .ref 15, .ref 41, .int l3, .int l4, .int (l5 + 1), .null] [] s1 M1 Q) ∧ (¬ (r1 = 0) → vp_in (M.1 51 l5.toNatClampNeg) 3 ∧ wF_travel d 72 [.ref 43, .ref 15, .ref 41, .int (l3 + (-1)), .int l4, .int (l5 + 1), .null] [] s1 (pm_si M1 45 (M.1 51 l5.toNatClampNeg).toNatClampNeg l4) Q)))) ∧ (¬ ((M.1 45 (M.1 51 l5.toNatClampNeg).toNatClampNeg) = 0) → wF_travel d 72 [.ref 43, .ref 15, .ref 41, .int l3, .int l4, .int (l5 + 1), .null] [] s M Q))))) : wF_travel d 72 [.ref 43, .ref 15, .ref 41, .int l3, .int l4, .int l5, .null] [] s M Q := by
  refine s_iload (i := 5) (by decide +kernel) rfl (pn 74 rfl ?_)
  refine s_aload_n (i := 0) (by decide +kernel) rfl (pn 75 rfl ?_)
  refine s_getfield (v := .int (M.1 43 8)) (by decide +kernel) fr_2_36 lq_43 (congrArg Prod.fst sh_43) rfl (pn 78 rfl ?_)
  refine s_icmp_ge (off := 51) (tgt := 129) (by decide +kernel) rfl (fun c1 => ?_) (fun c1 => (pn 81 rfl ?_))
  · have h := h.1 c1
    refine t_iinc (i := 4) (n := 1) (ls' := [.ref 43, .ref 15, .ref 41, .int l3, .int (l4 + 1), .int l5, .null]) (by decide +kernel) rfl (Nat.le_of_ble_eq_true rfl) kn_1 rfl (pn 132 rfl ?_)
    refine s_goto (off := -74) (tgt := 58) (by decide +kernel) rfl ?_
    exact pm_weak [.ref 43, .ref 15, .ref 41, .int l3, .int (l4 + 1), .null, .null] (pm_le_cons (Or.inr rfl) (pm_le_cons (Or.inr rfl) (pm_le_cons (Or.inr rfl) (pm_le_cons (Or.inr rfl) (pm_le_cons (Or.inr rfl) (pm_le_cons (Or.inl rfl) (pm_le_cons (Or.inl rfl) pm_le_nil))))))) h
  · have h := h.2 c1
    refine s_aload_n (i := 0) (by decide +kernel) rfl (pn 82 rfl ?_)
    refine s_getfield (v := .ref 51) (by decide +kernel) fr_2_33 lq_43 (congrArg Prod.fst sh_43) (fv_ref pf_43_7) (pn 85 rfl ?_)
    refine s_iload (i := 5) (by decide +kernel) rfl (pn 87 rfl ?_)
    obtain ⟨b1, h⟩ := h
    refine t_iaload (v := M.1 51 l5.toNatClampNeg) (by decide +kernel) ⟨Or.inl lq_51, congrArg Prod.fst sh_51⟩ (al_in sh_51 b1) rfl (pn 88 rfl ?_)
    refine s_istore (i := 6) (by decide +kernel) (Nat.le_of_ble_eq_true rfl) (pn 90 rfl (t_store (ls' := [.ref 43, .ref 15, .ref 41, .int l3, .int l4, .int l5, .int (M.1 51 l5.toNatClampNeg)]) rfl ?_))
    refine s_aload_n (i := 0) (by decide +kernel) rfl (pn 91 rfl ?_)
    refine s_getfield (v := .ref 45) (by decide +kernel) fr_2_15 lq_43 (congrArg Prod.fst sh_43) (fv_ref pf_43_1) (pn 94 rfl ?_)
    refine s_iload (i := 6) (by decide +kernel) rfl (pn 96 rfl ?_)
    obtain ⟨b2, h⟩ := h
    refine t_iaload (v := M.1 45 (M.1 51 l5.toNatClampNeg).toNatClampNeg) (by decide +kernel) ⟨Or.inl lq_45, congrArg Prod.fst sh_45⟩ (al_in sh_45 b2) rfl (pn 97 rfl ?_)
    refine t_if_ne (off := 26) (tgt := 123) (by decide +kernel) rfl (fun c2 => ?_) (fun c2 => (pn 100 rfl ?_))
    · have h := h.2 c2
      refine t_iinc (i := 5) (n := 1) (ls' := [.ref 43, .ref 15, .ref 41, .int l3, .int l4, .int (l5 + 1), .int (M.1 51 l5.toNatClampNeg)]) (by decide +kernel) rfl (Nat.le_of_ble_eq_true rfl) kn_1 rfl (pn 126 rfl ?_)
      refine s_goto (off := -54) (tgt := 72) (by decide +kernel) rfl ?_
      exact pm_weak [.ref 43, .ref 15, .ref 41, .int l3, .int l4, .int (l5 + 1), .null] (pm_le_cons (Or.inr rfl) (pm_le_cons (Or.inr rfl) (pm_le_cons (Or.inr rfl) (pm_le_cons (Or.inr rfl) (pm_le_cons (Or.inr rfl) (pm_le_cons (Or.inr rfl) (pm_le_cons (Or.inl rfl) pm_le_nil))))))) h
    · have h := h.1 c2
      refine s_aload_n (i := 0) (by decide +kernel) rfl (pn 101 rfl ?_)
      refine s_aload_n (i := 1) (by decide +kernel) rfl (pn 102 rfl ?_)
      refine s_aload_n (i := 2) (by decide +kernel) rfl (pn 103 rfl ?_)
      refine s_iload (i := 6) (by decide +kernel) rfl (pn 105 rfl ?_)
      refine s_callvI [.ref 15, .ref 41, .int (M.1 51 l5.toNatClampNeg)] rfl (by decide +kernel) mv_2_56 np_19 (Nat.le_of_ble_eq_true rfl) lq_43 ((congrArg Prod.fst sh_43).trans oc_19) (cI_use h (fun r1 s1 M1 h => (pn 108 rfl ?_)))
      refine s_if_eq (off := 15) (tgt := 123) (by decide +kernel) rfl (fun c3 => ?_) (fun c3 => (pn 111 rfl ?_))
      · have h := h.1 c3
        refine t_iinc (i := 5) (n := 1) (ls' := [.ref 43, .ref 15, .ref 41, .int l3, .int l4, .int (l5 + 1), .int (M.1 51 l5.toNatClampNeg)]) (by decide +kernel) rfl (Nat.le_of_ble_eq_true rfl) kn_1 rfl (pn 126 rfl ?_)
        refine s_goto (off := -54) (tgt := 72) (by decide +kernel) rfl ?_
        exact pm_weak [.ref 43, .ref 15, .ref 41, .int l3, .int l4, .int (l5 + 1), .null] (pm_le_cons (Or.inr rfl) (pm_le_cons (Or.inr rfl) (pm_le_cons (Or.inr rfl) (pm_le_cons (Or.inr rfl) (pm_le_cons (Or.inr rfl) (pm_le_cons (Or.inr rfl) (pm_le_cons (Or.inl rfl) pm_le_nil))))))) h
      · have h := h.2 c3
        refine s_aload_n (i := 0) (by decide +kernel) rfl (pn 112 rfl ?_)
        refine s_getfield (v := .ref 45) (by decide +kernel) fr_2_15 lq_43 (congrArg Prod.fst sh_43) (fv_ref pf_43_1) (pn 115 rfl ?_)
        refine s_iload (i := 6) (by decide +kernel) rfl (pn 117 rfl ?_)
        refine s_iload (i := 4) (by decide +kernel) rfl (pn 119 rfl ?_)
        obtain ⟨b3, h⟩ := h
        refine t_iastore (k := (M.1 51 l5.toNatClampNeg).toNatClampNeg) (by decide +kernel) ⟨lq_45, congrArg Prod.fst sh_45⟩ (al_in sh_45 b3) rfl (pn 120 rfl ?_)
        refine t_iinc (i := 3) (n := -1) (ls' := [.ref 43, .ref 15, .ref 41, .int (l3 + (-1)), .int l4, .int l5, .int (M.1 51 l5.toNatClampNeg)]) (by decide +kernel) rfl (Nat.le_of_ble_eq_true rfl) kn_m1 rfl (pn 123 rfl ?_)
        refine t_iinc (i := 5) (n := 1) (ls' := [.ref 43, .ref 15, .ref 41, .int (l3 + (-1)), .int l4, .int (l5 + 1), .int (M.1 51 l5.toNatClampNeg)]) (by decide +kernel) rfl (Nat.le_of_ble_eq_true rfl) kn_1 rfl (pn 126 rfl ?_)
        refine s_goto (off := -54) (tgt := 72) (by decide +kernel) rfl ?_
        exact pm_weak [.ref 43, .ref 15, .ref 41, .int (l3 + (-1)), .int l4, .int (l5 + 1), .null] (pm_le_cons (Or.inr rfl) (pm_le_cons (Or.inr rfl) (pm_le_cons (Or.inr rfl) (pm_le_cons (Or.inr rfl) (pm_le_cons (Or.inr rfl) (pm_le_cons (Or.inr rfl) (pm_le_cons (Or.inl rfl) pm_le_nil))))))) h
abbrev wF_arrives (d pc : Nat) (ls st : List Value) (s : pm_S) (M : pm_M) (Q : Int32 → pm_S → pm_M → Prop) : Prop := wI d prog_4_method_6_code 2 (some .boolean) false pc ls st s M Q
theorem enF_arrives {d : Nat} {s : pm_S} {M : pm_M} {x3 : Int32} {Q : Int32 → pm_S → pm_M → Prop}  (h : vp_in x3 3 ∧ vp_in x3 3 ∧ vp_in x3 3 ∧ cI d yL_hasStation [.ref 15, .int ((pm_si M 50 x3.toNatClampNeg ((M.1 50 x3.toNatClampNeg) + 1)).1 50 x3.toNatClampNeg)] s (pm_si M 50 x3.toNatClampNeg ((M.1 50 x3.toNatClampNeg) + 1)) (fun r1 s1 M1 => ((r1 = 0 → Q 1 s1 M1) ∧ (¬ (r1 = 0) → wF_arrives d 31 [.ref 43, .ref 15, .ref 41, .int x3, .int 0, .int 0] [] s1 M1 Q)))) : cI (d + 1) yF_arrives [.ref 43, .ref 15, .ref 41, .int x3] s M Q := by
  refine pm_toI (by decide) (Nat.le_of_ble_eq_true rfl) ?_
  show wF_arrives d 0 [.ref 43, .ref 15, .ref 41, .int x3, .null, .null] [] s M Q
  refine s_aload_n (i := 0) (by decide +kernel) rfl (pn 1 rfl ?_)
  refine s_getfield (v := .ref 50) (by decide +kernel) fr_2_30 lq_43 (congrArg Prod.fst sh_43) (fv_ref pf_43_6) (pn 4 rfl ?_)
  refine s_iload_n (i := 3) (by decide +kernel) rfl (pn 5 rfl ?_)
  refine s_dup2 (by decide +kernel) rfl rfl (pn 6 rfl ?_)
  obtain ⟨b1, h⟩ := h
  refine t_iaload (v := M.1 50 x3.toNatClampNeg) (by decide +kernel) ⟨Or.inl lq_50, congrArg Prod.fst sh_50⟩ (al_in sh_50 b1) rfl (pn 7 rfl ?_)
  refine t_iconst (by decide +kernel) ki_1 (pn 8 rfl ?_)
  refine s_iadd (by decide +kernel) (pn 9 rfl ?_)
  obtain ⟨b2, h⟩ := h
  refine t_iastore (k := x3.toNatClampNeg) (by decide +kernel) ⟨lq_50, congrArg Prod.fst sh_50⟩ (al_in sh_50 b2) rfl (pn 10 rfl ?_)
  refine s_aload_n (i := 1) (by decide +kernel) rfl (pn 11 rfl ?_)
  refine s_aload_n (i := 0) (by decide +kernel) rfl (pn 12 rfl ?_)
  refine s_getfield (v := .ref 50) (by decide +kernel) fr_2_30 lq_43 (congrArg Prod.fst sh_43) (fv_ref pf_43_6) (pn 15 rfl ?_)
  refine s_iload_n (i := 3) (by decide +kernel) rfl (pn 16 rfl ?_)
  obtain ⟨b3, h⟩ := h
  refine t_iaload (v := (pm_si M 50 x3.toNatClampNeg ((M.1 50 x3.toNatClampNeg) + 1)).1 50 x3.toNatClampNeg) (by decide +kernel) ⟨Or.inl lq_50, congrArg Prod.fst sh_50⟩ (al_in sh_50 b3) rfl (pn 17 rfl ?_)
  refine s_callvI [.int ((pm_si M 50 x3.toNatClampNeg ((M.1 50 x3.toNatClampNeg) + 1)).1 50 x3.toNatClampNeg)] rfl (by decide +kernel) mv_2_60 np_35 (Nat.le_of_ble_eq_true rfl) lq_15 ((congrArg Prod.fst sh_15).trans oc_35) (cI_use h (fun r1 s1 M1 h => (pn 20 rfl ?_)))
  refine t_if_ne (off := 5) (tgt := 25) (by decide +kernel) rfl (fun c1 => ?_) (fun c1 => (pn 23 rfl ?_))
  · have h := h.2 c1
    refine t_iconst (by decide +kernel) ki_0 (pn 26 rfl ?_)
    refine s_istore (i := 4) (by decide +kernel) (Nat.le_of_ble_eq_true rfl) (pn 28 rfl (t_store (ls' := [.ref 43, .ref 15, .ref 41, .int x3, .int 0, .null]) rfl ?_))
    refine t_iconst (by decide +kernel) ki_0 (pn 29 rfl ?_)
    refine s_istore (i := 5) (by decide +kernel) (Nat.le_of_ble_eq_true rfl) (pn 31 rfl (t_store (ls' := [.ref 43, .ref 15, .ref 41, .int x3, .int 0, .int 0]) rfl ?_))
    exact h
  · have h := h.1 c1
    refine t_iconst (by decide +kernel) ki_1 (pn 24 rfl ?_)
    exact s_ireturn (st := []) (by decide +kernel) (Or.inr ⟨rfl, (Or.inr rfl)⟩) ⟨_, rfl, s1, rfl, h⟩
theorem sgF_arrives_31 {d : Nat} {s : pm_S} {M : pm_M} {l3 : Int32} {l4 : Int32} {l5 : Int32} {Q : Int32 → pm_S → pm_M → Prop}  (h : (((6 ≤ l5) → wF_arrives d 121 [.ref 43, .null, .null, .int l3, .null, .null] [] s M Q) ∧ (¬ (6 ≤ l5) → cI d yL_hasPerson [.ref 15, .int l5] s M (fun r1 s1 M1 => (((r1 = 0) → wF_arrives d 121 [.ref 43, .null, .null, .int l3, .null, .null] [] s1 M1 Q) ∧ (¬ (r1 = 0) → vp_in l5 6 ∧ vp_in l3 3 ∧ (((M1.1 20 l5.toNatClampNeg) = (M1.1 50 l3.toNatClampNeg) → (((((M1.1 43 10) >>> (l5 &&& 31)) &&& 1) = 1 → vp_in l3 3 ∧ cI d yK_of [.ref 41, .int l5, .int (M1.1 48 l3.toNatClampNeg)] s1 M1 (fun r2 s2 M2 => (((r2 ≤ l4) → wF_arrives d 31 [.ref 43, .ref 15, .ref 41, .int l3, .int l4, .int (l5 + 1)] [] s2 M2 Q) ∧ (¬ (r2 ≤ l4) → vp_in l3 3 ∧ cI d yK_of [.ref 41, .int l5, .int (M2.1 48 l3.toNatClampNeg)] s2 M2 (fun r3 s3 M3 => vp_in l3 3 ∧ wF_arrives d 31 [.ref 43, .ref 15, .ref 41, .int l3, .int r3, .int (l5 + 1)] [] s3 (pm_si M3 44 l3.toNatClampNeg l5) Q))))) ∧ (¬ ((((M1.1 43 10) >>> (l5 &&& 31)) &&& 1) = 1) → wF_arrives d 31 [.ref 43, .ref 15, .ref 41, .int l3, .int l4, .int (l5 + 1)] [] s1 M1 Q))) ∧ (¬ ((M1.1 20 l5.toNatClampNeg) = (M1.1 50 l3.toNatClampNeg)) → wF_arrives d 31 [.ref 43, .ref 15, .ref 41, .int l3, .int l4, .int (l5 + 1)] [] s1 M1 Q)))))))) : wF_arrives d 31 [.ref 43, .ref 15, .ref 41, .int l3, .int l4, .int l5] [] s M Q := by
  refine s_iload (i := 5) (by decide +kernel) rfl (pn 33 rfl ?_)
  refine t_bipush (by decide +kernel) kb_6 (pn 35 rfl ?_)
  refine s_icmp_ge (off := 86) (tgt := 121) (by decide +kernel) rfl (fun c1 => ?_) (fun c1 => (pn 38 rfl ?_))
  · have h := h.1 c1
    exact pm_weak [.ref 43, .null, .null, .int l3, .null, .null] (pm_le_cons (Or.inr rfl) (pm_le_cons (Or.inl rfl) (pm_le_cons (Or.inl rfl) (pm_le_cons (Or.inr rfl) (pm_le_cons (Or.inl rfl) (pm_le_cons (Or.inl rfl) pm_le_nil)))))) h
  · have h := h.2 c1
    refine s_aload_n (i := 1) (by decide +kernel) rfl (pn 39 rfl ?_)
    refine s_iload (i := 5) (by decide +kernel) rfl (pn 41 rfl ?_)
    refine s_callvI [.int l5] rfl (by decide +kernel) mv_2_66 np_31 (Nat.le_of_ble_eq_true rfl) lq_15 ((congrArg Prod.fst sh_15).trans oc_31) (cI_use h (fun r1 s1 M1 h => (pn 44 rfl ?_)))
    refine s_if_eq (off := 77) (tgt := 121) (by decide +kernel) rfl (fun c2 => ?_) (fun c2 => (pn 47 rfl ?_))
    · have h := h.1 c2
      exact pm_weak [.ref 43, .null, .null, .int l3, .null, .null] (pm_le_cons (Or.inr rfl) (pm_le_cons (Or.inl rfl) (pm_le_cons (Or.inl rfl) (pm_le_cons (Or.inr rfl) (pm_le_cons (Or.inl rfl) (pm_le_cons (Or.inl rfl) pm_le_nil)))))) h
    · have h := h.2 c2
      refine s_aload_n (i := 1) (by decide +kernel) rfl (pn 48 rfl ?_)
      refine s_getfield (v := .ref 20) (by decide +kernel) fr_2_69 lq_15 (congrArg Prod.fst sh_15) (fv_ref pf_15_9) (pn 51 rfl ?_)
      refine s_iload (i := 5) (by decide +kernel) rfl (pn 53 rfl ?_)
      obtain ⟨b1, h⟩ := h
      refine t_iaload (v := M1.1 20 l5.toNatClampNeg) (by decide +kernel) ⟨Or.inl lq_20, congrArg Prod.fst sh_20⟩ (al_in sh_20 b1) rfl (pn 54 rfl ?_)
      refine s_aload_n (i := 0) (by decide +kernel) rfl (pn 55 rfl ?_)
      refine s_getfield (v := .ref 50) (by decide +kernel) fr_2_30 lq_43 (congrArg Prod.fst sh_43) (fv_ref pf_43_6) (pn 58 rfl ?_)
      refine s_iload_n (i := 3) (by decide +kernel) rfl (pn 59 rfl ?_)
      obtain ⟨b2, h⟩ := h
      refine t_iaload (v := M1.1 50 l3.toNatClampNeg) (by decide +kernel) ⟨Or.inl lq_50, congrArg Prod.fst sh_50⟩ (al_in sh_50 b2) rfl (pn 60 rfl ?_)
      refine t_icmp_ne (off := 55) (tgt := 115) (by decide +kernel) rfl (fun c4 => ?_) (fun c4 => (pn 63 rfl ?_))
      · have h := h.2 c4
        refine t_iinc (i := 5) (n := 1) (ls' := [.ref 43, .ref 15, .ref 41, .int l3, .int l4, .int (l5 + 1)]) (by decide +kernel) rfl (Nat.le_of_ble_eq_true rfl) kn_1 rfl (pn 118 rfl ?_)
        refine s_goto (off := -87) (tgt := 31) (by decide +kernel) rfl ?_
        exact h
      · have h := h.1 c4
        refine s_aload_n (i := 0) (by decide +kernel) rfl (pn 64 rfl ?_)
        refine s_getfield (v := .int (M1.1 43 10)) (by decide +kernel) fr_2_53 lq_43 (congrArg Prod.fst sh_43) rfl (pn 67 rfl ?_)
        refine s_iload (i := 5) (by decide +kernel) rfl (pn 69 rfl ?_)
        refine s_ishr (by decide +kernel) (pn 70 rfl ?_)
        refine t_iconst (by decide +kernel) ki_1 (pn 71 rfl ?_)
        refine s_iand (by decide +kernel) (pn 72 rfl ?_)
        refine t_iconst (by decide +kernel) ki_1 (pn 73 rfl ?_)
        refine t_icmp_ne (off := 42) (tgt := 115) (by decide +kernel) rfl (fun c6 => ?_) (fun c6 => (pn 76 rfl ?_))
        · have h := h.2 c6
          refine t_iinc (i := 5) (n := 1) (ls' := [.ref 43, .ref 15, .ref 41, .int l3, .int l4, .int (l5 + 1)]) (by decide +kernel) rfl (Nat.le_of_ble_eq_true rfl) kn_1 rfl (pn 118 rfl ?_)
          refine s_goto (off := -87) (tgt := 31) (by decide +kernel) rfl ?_
          exact h
        · have h := h.1 c6
          refine s_aload_n (i := 2) (by decide +kernel) rfl (pn 77 rfl ?_)
          refine s_iload (i := 5) (by decide +kernel) rfl (pn 79 rfl ?_)
          refine s_aload_n (i := 0) (by decide +kernel) rfl (pn 80 rfl ?_)
          refine s_getfield (v := .ref 48) (by decide +kernel) fr_2_24 lq_43 (congrArg Prod.fst sh_43) (fv_ref pf_43_4) (pn 83 rfl ?_)
          refine s_iload_n (i := 3) (by decide +kernel) rfl (pn 84 rfl ?_)
          obtain ⟨b3, h⟩ := h
          refine t_iaload (v := M1.1 48 l3.toNatClampNeg) (by decide +kernel) ⟨Or.inl lq_48, congrArg Prod.fst sh_48⟩ (al_in sh_48 b3) rfl (pn 85 rfl ?_)
          refine s_callvI [.int l5, .int (M1.1 48 l3.toNatClampNeg)] rfl (by decide +kernel) mv_2_72 np_2 (Nat.le_of_ble_eq_true rfl) lq_41 ((congrArg Prod.fst sh_41).trans oc_2) (cI_use h (fun r2 s2 M2 h => (pn 88 rfl ?_)))
          refine s_iload (i := 4) (by decide +kernel) rfl (pn 90 rfl ?_)
          refine s_icmp_le (off := 25) (tgt := 115) (by decide +kernel) rfl (fun c7 => ?_) (fun c7 => (pn 93 rfl ?_))
          · have h := h.1 c7
            refine t_iinc (i := 5) (n := 1) (ls' := [.ref 43, .ref 15, .ref 41, .int l3, .int l4, .int (l5 + 1)]) (by decide +kernel) rfl (Nat.le_of_ble_eq_true rfl) kn_1 rfl (pn 118 rfl ?_)
            refine s_goto (off := -87) (tgt := 31) (by decide +kernel) rfl ?_
            exact h
          · have h := h.2 c7
            refine s_aload_n (i := 2) (by decide +kernel) rfl (pn 94 rfl ?_)
            refine s_iload (i := 5) (by decide +kernel) rfl (pn 96 rfl ?_)
            refine s_aload_n (i := 0) (by decide +kernel) rfl (pn 97 rfl ?_)
            refine s_getfield (v := .ref 48) (by decide +kernel) fr_2_24 lq_43 (congrArg Prod.fst sh_43) (fv_ref pf_43_4) (pn 100 rfl ?_)
            refine s_iload_n (i := 3) (by decide +kernel) rfl (pn 101 rfl ?_)
            obtain ⟨b4, h⟩ := h
            refine t_iaload (v := M2.1 48 l3.toNatClampNeg) (by decide +kernel) ⟨Or.inl lq_48, congrArg Prod.fst sh_48⟩ (al_in sh_48 b4) rfl (pn 102 rfl ?_)
            refine s_callvI [.int l5, .int (M2.1 48 l3.toNatClampNeg)] rfl (by decide +kernel) mv_2_72 np_2 (Nat.le_of_ble_eq_true rfl) lq_41 ((congrArg Prod.fst sh_41).trans oc_2) (cI_use h (fun r3 s3 M3 h => (pn 105 rfl ?_)))
            refine s_istore (i := 4) (by decide +kernel) (Nat.le_of_ble_eq_true rfl) (pn 107 rfl (t_store (ls' := [.ref 43, .ref 15, .ref 41, .int l3, .int r3, .int l5]) rfl ?_))
            refine s_aload_n (i := 0) (by decide +kernel) rfl (pn 108 rfl ?_)
            refine s_getfield (v := .ref 44) (by decide +kernel) fr_2_9 lq_43 (congrArg Prod.fst sh_43) (fv_ref pf_43_0) (pn 111 rfl ?_)
            refine s_iload_n (i := 3) (by decide +kernel) rfl (pn 112 rfl ?_)
            refine s_iload (i := 5) (by decide +kernel) rfl (pn 114 rfl ?_)
            obtain ⟨b5, h⟩ := h
            refine t_iastore (k := l3.toNatClampNeg) (by decide +kernel) ⟨lq_44, congrArg Prod.fst sh_44⟩ (al_in sh_44 b5) rfl (pn 115 rfl ?_)
            refine t_iinc (i := 5) (n := 1) (ls' := [.ref 43, .ref 15, .ref 41, .int l3, .int r3, .int (l5 + 1)]) (by decide +kernel) rfl (Nat.le_of_ble_eq_true rfl) kn_1 rfl (pn 118 rfl ?_)
            refine s_goto (off := -87) (tgt := 31) (by decide +kernel) rfl ?_
            exact h
theorem sgF_arrives_121 {d : Nat} {s : pm_S} {M : pm_M} {l3 : Int32} {Q : Int32 → pm_S → pm_M → Prop}  (h : vp_in l3 3 ∧ (((M.1 44 l3.toNatClampNeg) = (-1) → Q 0 s M) ∧ (¬ ((M.1 44 l3.toNatClampNeg) = (-1)) → vp_in l3 3 ∧ Q 1 s (pm_si M 43 10 ((M.1 43 10) &&& (((1 : Int32) <<< ((M.1 44 l3.toNatClampNeg) &&& 31)) ^^^ (-1))))))) : wF_arrives d 121 [.ref 43, .null, .null, .int l3, .null, .null] [] s M Q := by
  refine s_aload_n (i := 0) (by decide +kernel) rfl (pn 122 rfl ?_)
  refine s_getfield (v := .ref 44) (by decide +kernel) fr_2_9 lq_43 (congrArg Prod.fst sh_43) (fv_ref pf_43_0) (pn 125 rfl ?_)
  refine s_iload_n (i := 3) (by decide +kernel) rfl (pn 126 rfl ?_)
  obtain ⟨b1, h⟩ := h
  refine t_iaload (v := M.1 44 l3.toNatClampNeg) (by decide +kernel) ⟨Or.inl lq_44, congrArg Prod.fst sh_44⟩ (al_in sh_44 b1) rfl (pn 127 rfl ?_)
  refine t_iconst (by decide +kernel) ki_m1 (pn 128 rfl ?_)
  refine t_icmp_ne (off := 5) (tgt := 133) (by decide +kernel) rfl (fun c1 => ?_) (fun c1 => (pn 131 rfl ?_))
  · have h := h.2 c1
    refine s_aload_n (i := 0) (by decide +kernel) rfl (pn 134 rfl ?_)
    refine s_dup (by decide +kernel) rfl (pn 135 rfl ?_)
    refine s_getfield (v := .int (M.1 43 10)) (by decide +kernel) fr_2_53 lq_43 (congrArg Prod.fst sh_43) rfl (pn 138 rfl ?_)
    refine t_iconst (by decide +kernel) ki_1 (pn 139 rfl ?_)
    refine s_aload_n (i := 0) (by decide +kernel) rfl (pn 140 rfl ?_)
    refine s_getfield (v := .ref 44) (by decide +kernel) fr_2_9 lq_43 (congrArg Prod.fst sh_43) (fv_ref pf_43_0) (pn 143 rfl ?_)
    refine s_iload_n (i := 3) (by decide +kernel) rfl (pn 144 rfl ?_)
    obtain ⟨b2, h⟩ := h
    refine t_iaload (v := M.1 44 l3.toNatClampNeg) (by decide +kernel) ⟨Or.inl lq_44, congrArg Prod.fst sh_44⟩ (al_in sh_44 b2) rfl (pn 145 rfl ?_)
    refine s_ishl (by decide +kernel) (pn 146 rfl ?_)
    refine t_iconst (by decide +kernel) ki_m1 (pn 147 rfl ?_)
    refine s_ixor (by decide +kernel) (pn 148 rfl ?_)
    refine s_iand (by decide +kernel) (pn 149 rfl ?_)
    refine s_putfieldI (by decide +kernel) fr_2_53 lq_43 (congrArg Prod.fst sh_43) (fun q => by cases q) (Or.inl rfl) (pn 152 rfl ?_)
    refine t_iconst (by decide +kernel) ki_1 (pn 153 rfl ?_)
    exact s_ireturn (st := []) (by decide +kernel) (Or.inr ⟨rfl, (Or.inr rfl)⟩) ⟨_, rfl, s, rfl, h⟩
  · have h := h.1 c1
    refine t_iconst (by decide +kernel) ki_0 (pn 132 rfl ?_)
    exact s_ireturn (st := []) (by decide +kernel) (Or.inr ⟨rfl, (Or.inl rfl)⟩) ⟨_, rfl, s, rfl, h⟩
abbrev wF_searchPlans (d pc : Nat) (ls st : List Value) (s : pm_S) (M : pm_M) (Q : Int32 → pm_S → pm_M → Prop) : Prop := wI d prog_4_method_7_code 2 (some .int) false pc ls st s M Q
theorem enF_searchPlans {d : Nat} {s : pm_S} {M : pm_M} {x3 : Int32} {Q : Int32 → pm_S → pm_M → Prop}  (h : wF_searchPlans d 6 [.ref 43, .ref 15, .ref 41, .int x3, .int 1, .int 0, .null] [] s M Q) : cI (d + 1) yF_searchPlans [.ref 43, .ref 15, .ref 41, .int x3] s M Q := by
  refine pm_toI (by decide) (Nat.le_of_ble_eq_true rfl) ?_
  show wF_searchPlans d 0 [.ref 43, .ref 15, .ref 41, .int x3, .null, .null, .null] [] s M Q
  refine t_iconst (by decide +kernel) ki_1 (pn 1 rfl ?_)
  refine s_istore (i := 4) (by decide +kernel) (Nat.le_of_ble_eq_true rfl) (pn 3 rfl (t_store (ls' := [.ref 43, .ref 15, .ref 41, .int x3, .int 1, .null, .null]) rfl ?_))
  refine t_iconst (by decide +kernel) ki_0 (pn 4 rfl ?_)
  refine s_istore (i := 5) (by decide +kernel) (Nat.le_of_ble_eq_true rfl) (pn 6 rfl (t_store (ls' := [.ref 43, .ref 15, .ref 41, .int x3, .int 1, .int 0, .null]) rfl ?_))
  exact h
theorem sgF_searchPlans_6 {d : Nat} {s : pm_S} {M : pm_M} {l3 : Int32} {l4 : Int32} {l5 : Int32} {Q : Int32 → pm_S → pm_M → Prop}  (h : ((((M.1 43 8) ≤ l5) → wF_searchPlans d 36 [.ref 43, .ref 15, .ref 41, .int l3, .int l4, .int 0, .int 0] [] s M Q) ∧ (¬ ((M.1 43 8) ≤ l5) → wF_searchPlans d 6 [.ref 43, .ref 15, .ref 41, .int l3, .int (l4 * (M.1 15 0)), .int (l5 + 1), .null] [] s M Q))) : wF_searchPlans d 6 [.ref 43, .ref 15, .ref 41, .int l3, .int l4, .int l5, .null] [] s M Q := by
  refine s_iload (i := 5) (by decide +kernel) rfl (pn 8 rfl ?_)
  refine s_aload_n (i := 0) (by decide +kernel) rfl (pn 9 rfl ?_)
  refine s_getfield (v := .int (M.1 43 8)) (by decide +kernel) fr_2_36 lq_43 (congrArg Prod.fst sh_43) rfl (pn 12 rfl ?_)
  refine s_icmp_ge (off := 18) (tgt := 30) (by decide +kernel) rfl (fun c1 => ?_) (fun c1 => (pn 15 rfl ?_))
  · have h := h.1 c1
    refine t_iconst (by decide +kernel) ki_0 (pn 31 rfl ?_)
    refine s_istore (i := 5) (by decide +kernel) (Nat.le_of_ble_eq_true rfl) (pn 33 rfl (t_store (ls' := [.ref 43, .ref 15, .ref 41, .int l3, .int l4, .int 0, .null]) rfl ?_))
    refine t_iconst (by decide +kernel) ki_0 (pn 34 rfl ?_)
    refine s_istore (i := 6) (by decide +kernel) (Nat.le_of_ble_eq_true rfl) (pn 36 rfl (t_store (ls' := [.ref 43, .ref 15, .ref 41, .int l3, .int l4, .int 0, .int 0]) rfl ?_))
    exact h
  · have h := h.2 c1
    refine s_iload (i := 4) (by decide +kernel) rfl (pn 17 rfl ?_)
    refine s_aload_n (i := 1) (by decide +kernel) rfl (pn 18 rfl ?_)
    refine s_getfield (v := .int (M.1 15 0)) (by decide +kernel) fr_2_78 lq_15 (congrArg Prod.fst sh_15) rfl (pn 21 rfl ?_)
    refine s_imul (by decide +kernel) (pn 22 rfl ?_)
    refine s_istore (i := 4) (by decide +kernel) (Nat.le_of_ble_eq_true rfl) (pn 24 rfl (t_store (ls' := [.ref 43, .ref 15, .ref 41, .int l3, .int (l4 * (M.1 15 0)), .int l5, .null]) rfl ?_))
    refine t_iinc (i := 5) (n := 1) (ls' := [.ref 43, .ref 15, .ref 41, .int l3, .int (l4 * (M.1 15 0)), .int (l5 + 1), .null]) (by decide +kernel) rfl (Nat.le_of_ble_eq_true rfl) kn_1 rfl (pn 27 rfl ?_)
    refine s_goto (off := -21) (tgt := 6) (by decide +kernel) rfl ?_
    exact h
theorem sgF_searchPlans_36 {d : Nat} {s : pm_S} {M : pm_M} {l3 : Int32} {l4 : Int32} {l5 : Int32} {l6 : Int32} {Q : Int32 → pm_S → pm_M → Prop}  (h : (((l4 ≤ l6) → Q l5 s M) ∧ (¬ (l4 ≤ l6) → cV d yF_spell [.ref 43, .int l6, .int (M.1 15 0)] s M (fun s1 M1 => cI d yF_wouldDo [.ref 43, .ref 15, .ref 41] s1 M1 (fun r1 s2 M2 => (((r1 = 0) → wF_searchPlans d 36 [.ref 43, .ref 15, .ref 41, .int l3, .int l4, .int l5, .int (l6 + 1)] [] s2 M2 Q) ∧ (¬ (r1 = 0) → (((l5 + 1) = 1 → (∀ m1 : pm_M, m1 = (pm_ri M2 47 (va_cpy (M2.1 49) (M2.1 47) 0 0 3)) → (((l3 = 0) → wF_searchPlans d 36 [.ref 43, .ref 15, .ref 41, .int l3, .int l4, .int (l5 + 1), .int (l6 + 1)] [] s2 m1 Q) ∧ (¬ (l3 = 0) → Q (l5 + 1) s2 m1)))) ∧ (¬ ((l5 + 1) = 1) → (((l3 = 0) → wF_searchPlans d 36 [.ref 43, .ref 15, .ref 41, .int l3, .int l4, .int (l5 + 1), .int (l6 + 1)] [] s2 M2 Q) ∧ (¬ (l3 = 0) → Q (l5 + 1) s2 M2))))))))))) : wF_searchPlans d 36 [.ref 43, .ref 15, .ref 41, .int l3, .int l4, .int l5, .int l6] [] s M Q := by
  refine s_iload (i := 6) (by decide +kernel) rfl (pn 38 rfl ?_)
  refine s_iload (i := 4) (by decide +kernel) rfl (pn 40 rfl ?_)
  refine s_icmp_ge (off := 58) (tgt := 98) (by decide +kernel) rfl (fun c1 => ?_) (fun c1 => (pn 43 rfl ?_))
  · have h := h.1 c1
    refine s_iload (i := 5) (by decide +kernel) rfl (pn 100 rfl ?_)
    exact s_ireturn (st := []) (by decide +kernel) (Or.inl rfl) ⟨_, rfl, s, rfl, h⟩
  · have h := h.2 c1
    refine s_aload_n (i := 0) (by decide +kernel) rfl (pn 44 rfl ?_)
    refine s_iload (i := 6) (by decide +kernel) rfl (pn 46 rfl ?_)
    refine s_aload_n (i := 1) (by decide +kernel) rfl (pn 47 rfl ?_)
    refine s_getfield (v := .int (M.1 15 0)) (by decide +kernel) fr_2_78 lq_15 (congrArg Prod.fst sh_15) rfl (pn 50 rfl ?_)
    refine s_callvV [.int l6, .int (M.1 15 0)] rfl (by decide +kernel) mv_2_81 np_21 (Nat.le_of_ble_eq_true rfl) lq_43 ((congrArg Prod.fst sh_43).trans oc_21) (cV_use h (fun s1 M1 h => (pn 53 rfl ?_)))
    refine s_aload_n (i := 0) (by decide +kernel) rfl (pn 54 rfl ?_)
    refine s_aload_n (i := 1) (by decide +kernel) rfl (pn 55 rfl ?_)
    refine s_aload_n (i := 2) (by decide +kernel) rfl (pn 56 rfl ?_)
    refine s_callvI [.ref 15, .ref 41] rfl (by decide +kernel) mv_2_85 np_22 (Nat.le_of_ble_eq_true rfl) lq_43 ((congrArg Prod.fst sh_43).trans oc_22) (cI_use h (fun r1 s2 M2 h => (pn 59 rfl ?_)))
    refine s_if_eq (off := 33) (tgt := 92) (by decide +kernel) rfl (fun c2 => ?_) (fun c2 => (pn 62 rfl ?_))
    · have h := h.1 c2
      refine t_iinc (i := 6) (n := 1) (ls' := [.ref 43, .ref 15, .ref 41, .int l3, .int l4, .int l5, .int (l6 + 1)]) (by decide +kernel) rfl (Nat.le_of_ble_eq_true rfl) kn_1 rfl (pn 95 rfl ?_)
      refine s_goto (off := -59) (tgt := 36) (by decide +kernel) rfl ?_
      exact h
    · have h := h.2 c2
      refine t_iinc (i := 5) (n := 1) (ls' := [.ref 43, .ref 15, .ref 41, .int l3, .int l4, .int (l5 + 1), .int l6]) (by decide +kernel) rfl (Nat.le_of_ble_eq_true rfl) kn_1 rfl (pn 65 rfl ?_)
      refine s_iload (i := 5) (by decide +kernel) rfl (pn 67 rfl ?_)
      refine t_iconst (by decide +kernel) ki_1 (pn 68 rfl ?_)
      refine t_icmp_ne (off := 17) (tgt := 85) (by decide +kernel) rfl (fun c3 => ?_) (fun c3 => (pn 71 rfl ?_))
      · have h := h.2 c3
        refine s_iload_n (i := 3) (by decide +kernel) rfl (pn 86 rfl ?_)
        refine s_if_eq (off := 6) (tgt := 92) (by decide +kernel) rfl (fun c4 => ?_) (fun c4 => (pn 89 rfl ?_))
        · have h := h.1 c4
          refine t_iinc (i := 6) (n := 1) (ls' := [.ref 43, .ref 15, .ref 41, .int l3, .int l4, .int (l5 + 1), .int (l6 + 1)]) (by decide +kernel) rfl (Nat.le_of_ble_eq_true rfl) kn_1 rfl (pn 95 rfl ?_)
          refine s_goto (off := -59) (tgt := 36) (by decide +kernel) rfl ?_
          exact h
        · have h := h.2 c4
          refine s_iload (i := 5) (by decide +kernel) rfl (pn 91 rfl ?_)
          exact s_ireturn (st := []) (by decide +kernel) (Or.inl rfl) ⟨_, rfl, s2, rfl, h⟩
      · have h := h.1 c3
        refine s_aload_n (i := 0) (by decide +kernel) rfl (pn 72 rfl ?_)
        refine s_getfield (v := .ref 49) (by decide +kernel) fr_2_27 lq_43 (congrArg Prod.fst sh_43) (fv_ref pf_43_5) (pn 75 rfl ?_)
        refine t_iconst (by decide +kernel) ki_0 (pn 76 rfl ?_)
        refine s_aload_n (i := 0) (by decide +kernel) rfl (pn 77 rfl ?_)
        refine s_getfield (v := .ref 47) (by decide +kernel) fr_2_21 lq_43 (congrArg Prod.fst sh_43) (fv_ref pf_43_3) (pn 80 rfl ?_)
        refine t_iconst (by decide +kernel) ki_0 (pn 81 rfl ?_)
        refine t_iconst (by decide +kernel) ki_3 (pn 82 rfl ?_)
        refine t_arraycopy (k1 := 0) (k2 := 0) (k3 := 3) (by decide +kernel) ac_2_89 lq_49 lq_47 (congrArg Prod.fst sh_49) (congrArg Prod.fst sh_47) (by decide) (by decide) (by decide) (ac_le sh_49 (by decide)) (ac_le sh_47 (by decide)) (Nat.le_of_ble_eq_true rfl) tn_0 tn_0 tn_3 (pn 85 rfl ?_)
        obtain ⟨m1, em1⟩ : ∃ zz : pm_M, zz = (pm_ri M2 47 (va_cpy (M2.1 49) (M2.1 47) 0 0 3)) := ⟨_, rfl⟩
        have h := h m1 em1
        rw [← em1]
        refine s_iload_n (i := 3) (by decide +kernel) rfl (pn 86 rfl ?_)
        refine s_if_eq (off := 6) (tgt := 92) (by decide +kernel) rfl (fun c5 => ?_) (fun c5 => (pn 89 rfl ?_))
        · have h := h.1 c5
          refine t_iinc (i := 6) (n := 1) (ls' := [.ref 43, .ref 15, .ref 41, .int l3, .int l4, .int (l5 + 1), .int (l6 + 1)]) (by decide +kernel) rfl (Nat.le_of_ble_eq_true rfl) kn_1 rfl (pn 95 rfl ?_)
          refine s_goto (off := -59) (tgt := 36) (by decide +kernel) rfl ?_
          exact h
        · have h := h.2 c5
          refine s_iload (i := 5) (by decide +kernel) rfl (pn 91 rfl ?_)
          exact s_ireturn (st := []) (by decide +kernel) (Or.inl rfl) ⟨_, rfl, s2, rfl, h⟩
abbrev wF_spell (d pc : Nat) (ls st : List Value) (s : pm_S) (M : pm_M) (Q : pm_S → pm_M → Prop) : Prop := wV d prog_4_method_8_code 2 none false pc ls st s M Q
theorem enF_spell {d : Nat} {s : pm_S} {M : pm_M} {x1 : Int32} {x2 : Int32} {Q : pm_S → pm_M → Prop}  (h : wF_spell d 10 [.ref 43, .null, .int x2, .int x1, .int ((M.1 43 8) - 1)] [] s M Q) : cV (d + 1) yF_spell [.ref 43, .int x1, .int x2] s M Q := by
  refine pm_toV (by decide) (Nat.le_of_ble_eq_true rfl) ?_
  show wF_spell d 0 [.ref 43, .int x1, .int x2, .null, .null] [] s M Q
  refine s_iload_n (i := 1) (by decide +kernel) rfl (pn 1 rfl ?_)
  refine s_istore_n (i := 3) (by decide +kernel) (Nat.le_of_ble_eq_true rfl) (pn 2 rfl (t_store (ls' := [.ref 43, .int x1, .int x2, .int x1, .null]) rfl ?_))
  refine s_aload_n (i := 0) (by decide +kernel) rfl (pn 3 rfl ?_)
  refine s_getfield (v := .int (M.1 43 8)) (by decide +kernel) fr_2_36 lq_43 (congrArg Prod.fst sh_43) rfl (pn 6 rfl ?_)
  refine t_iconst (by decide +kernel) ki_1 (pn 7 rfl ?_)
  refine s_isub (by decide +kernel) (pn 8 rfl ?_)
  refine s_istore (i := 4) (by decide +kernel) (Nat.le_of_ble_eq_true rfl) (pn 10 rfl (t_store (ls' := [.ref 43, .int x1, .int x2, .int x1, .int ((M.1 43 8) - 1)]) rfl ?_))
  exact pm_weak [.ref 43, .null, .int x2, .int x1, .int ((M.1 43 8) - 1)] (pm_le_cons (Or.inr rfl) (pm_le_cons (Or.inl rfl) (pm_le_cons (Or.inr rfl) (pm_le_cons (Or.inr rfl) (pm_le_cons (Or.inr rfl) pm_le_nil))))) h
theorem sgF_spell_10 {d : Nat} {s : pm_S} {M : pm_M} {l2 : Int32} {l3 : Int32} {l4 : Int32} {Q : pm_S → pm_M → Prop}  (h : (((l4 < 0) → Q s M) ∧ (¬ (l4 < 0) → cI d ymath_max [.int l2, .int 1] s M (fun r1 s1 M1 => cI d ymath_floorMod [.int l3, .int r1] s1 M1 (fun r2 s2 M2 => vp_in l4 3 ∧ cI d ymath_max [.int l2, .int 1] s2 (pm_si M2 49 l4.toNatClampNeg r2) (fun r3 s3 M3 => (¬ r3 = 0) ∧ wF_spell d 10 [.ref 43, .null, .int l2, .int (l3 / r3), .int (l4 + (-1))] [] s3 M3 Q)))))) : wF_spell d 10 [.ref 43, .null, .int l2, .int l3, .int l4] [] s M Q := by
  refine s_iload (i := 4) (by decide +kernel) rfl (pn 12 rfl ?_)
  refine s_if_lt (off := 33) (tgt := 45) (by decide +kernel) rfl (fun c1 => ?_) (fun c1 => (pn 15 rfl ?_))
  · have h := h.1 c1
    exact s_return (st := []) (by decide +kernel) rfl ⟨rfl, s, rfl, h⟩
  · have h := h.2 c1
    refine s_aload_n (i := 0) (by decide +kernel) rfl (pn 16 rfl ?_)
    refine s_getfield (v := .ref 49) (by decide +kernel) fr_2_27 lq_43 (congrArg Prod.fst sh_43) (fv_ref pf_43_5) (pn 19 rfl ?_)
    refine s_iload (i := 4) (by decide +kernel) rfl (pn 21 rfl ?_)
    refine s_iload_n (i := 3) (by decide +kernel) rfl (pn 22 rfl ?_)
    refine s_iload_n (i := 2) (by decide +kernel) rfl (pn 23 rfl ?_)
    refine t_iconst (by decide +kernel) ki_1 (pn 24 rfl ?_)
    refine s_callsI [.int l2, .int 1] rfl (by decide +kernel) ms_2_95 np_324 (Nat.le_of_ble_eq_true rfl) (cI_use h (fun r1 s1 M1 h => (pn 27 rfl ?_)))
    refine s_callsI [.int l3, .int r1] rfl (by decide +kernel) ms_2_100 np_325 (Nat.le_of_ble_eq_true rfl) (cI_use h (fun r2 s2 M2 h => (pn 30 rfl ?_)))
    obtain ⟨b1, h⟩ := h
    refine t_iastore (k := l4.toNatClampNeg) (by decide +kernel) ⟨lq_49, congrArg Prod.fst sh_49⟩ (al_in sh_49 b1) rfl (pn 31 rfl ?_)
    refine s_iload_n (i := 3) (by decide +kernel) rfl (pn 32 rfl ?_)
    refine s_iload_n (i := 2) (by decide +kernel) rfl (pn 33 rfl ?_)
    refine t_iconst (by decide +kernel) ki_1 (pn 34 rfl ?_)
    refine s_callsI [.int l2, .int 1] rfl (by decide +kernel) ms_2_95 np_324 (Nat.le_of_ble_eq_true rfl) (cI_use h (fun r3 s3 M3 h => (pn 37 rfl ?_)))
    obtain ⟨b2, h⟩ := h
    refine s_idiv (by decide +kernel) b2 (pn 38 rfl ?_)
    refine s_istore_n (i := 3) (by decide +kernel) (Nat.le_of_ble_eq_true rfl) (pn 39 rfl (t_store (ls' := [.ref 43, .null, .int l2, .int (l3 / r3), .int l4]) rfl ?_))
    refine t_iinc (i := 4) (n := -1) (ls' := [.ref 43, .null, .int l2, .int (l3 / r3), .int (l4 + (-1))]) (by decide +kernel) rfl (Nat.le_of_ble_eq_true rfl) kn_m1 rfl (pn 42 rfl ?_)
    refine s_goto (off := -32) (tgt := 10) (by decide +kernel) rfl ?_
    exact h
abbrev wF_wouldDo (d pc : Nat) (ls st : List Value) (s : pm_S) (M : pm_M) (Q : Int32 → pm_S → pm_M → Prop) : Prop := wI d prog_4_method_9_code 2 (some .boolean) false pc ls st s M Q
theorem enF_wouldDo {d : Nat} {s : pm_S} {M : pm_M}  {Q : Int32 → pm_S → pm_M → Prop}  (h : cV d yF_travel [.ref 43, .ref 15, .ref 41] s M (fun s1 M1 => wF_wouldDo d 8 [.ref 43, .null, .null, .int 0] [] s1 M1 Q)) : cI (d + 1) yF_wouldDo [.ref 43, .ref 15, .ref 41] s M Q := by
  refine pm_toI (by decide) (Nat.le_of_ble_eq_true rfl) ?_
  show wF_wouldDo d 0 [.ref 43, .ref 15, .ref 41, .null] [] s M Q
  refine s_aload_n (i := 0) (by decide +kernel) rfl (pn 1 rfl ?_)
  refine s_aload_n (i := 1) (by decide +kernel) rfl (pn 2 rfl ?_)
  refine s_aload_n (i := 2) (by decide +kernel) rfl (pn 3 rfl ?_)
  refine s_callvV [.ref 15, .ref 41] rfl (by decide +kernel) mv_2_103 np_18 (Nat.le_of_ble_eq_true rfl) lq_43 ((congrArg Prod.fst sh_43).trans oc_18) (cV_use h (fun s1 M1 h => (pn 6 rfl ?_)))
  refine t_iconst (by decide +kernel) ki_0 (pn 7 rfl ?_)
  refine s_istore_n (i := 3) (by decide +kernel) (Nat.le_of_ble_eq_true rfl) (pn 8 rfl (t_store (ls' := [.ref 43, .ref 15, .ref 41, .int 0]) rfl ?_))
  exact pm_weak [.ref 43, .null, .null, .int 0] (pm_le_cons (Or.inr rfl) (pm_le_cons (Or.inl rfl) (pm_le_cons (Or.inl rfl) (pm_le_cons (Or.inr rfl) pm_le_nil)))) h
theorem sgF_wouldDo_8 {d : Nat} {s : pm_S} {M : pm_M} {l3 : Int32} {Q : Int32 → pm_S → pm_M → Prop}  (h : ((((M.1 43 8) ≤ l3) → Q 1 s M) ∧ (¬ ((M.1 43 8) ≤ l3) → vp_in l3 3 ∧ vp_in l3 3 ∧ ((((M.1 44 l3.toNatClampNeg) = (M.1 46 l3.toNatClampNeg)) → wF_wouldDo d 8 [.ref 43, .null, .null, .int (l3 + 1)] [] s M Q) ∧ (¬ ((M.1 44 l3.toNatClampNeg) = (M.1 46 l3.toNatClampNeg)) → Q 0 s M))))) : wF_wouldDo d 8 [.ref 43, .null, .null, .int l3] [] s M Q := by
  refine s_iload_n (i := 3) (by decide +kernel) rfl (pn 9 rfl ?_)
  refine s_aload_n (i := 0) (by decide +kernel) rfl (pn 10 rfl ?_)
  refine s_getfield (v := .int (M.1 43 8)) (by decide +kernel) fr_2_36 lq_43 (congrArg Prod.fst sh_43) rfl (pn 13 rfl ?_)
  refine s_icmp_ge (off := 26) (tgt := 39) (by decide +kernel) rfl (fun c1 => ?_) (fun c1 => (pn 16 rfl ?_))
  · have h := h.1 c1
    refine t_iconst (by decide +kernel) ki_1 (pn 40 rfl ?_)
    exact s_ireturn (st := []) (by decide +kernel) (Or.inr ⟨rfl, (Or.inr rfl)⟩) ⟨_, rfl, s, rfl, h⟩
  · have h := h.2 c1
    refine s_aload_n (i := 0) (by decide +kernel) rfl (pn 17 rfl ?_)
    refine s_getfield (v := .ref 44) (by decide +kernel) fr_2_9 lq_43 (congrArg Prod.fst sh_43) (fv_ref pf_43_0) (pn 20 rfl ?_)
    refine s_iload_n (i := 3) (by decide +kernel) rfl (pn 21 rfl ?_)
    obtain ⟨b1, h⟩ := h
    refine t_iaload (v := M.1 44 l3.toNatClampNeg) (by decide +kernel) ⟨Or.inl lq_44, congrArg Prod.fst sh_44⟩ (al_in sh_44 b1) rfl (pn 22 rfl ?_)
    refine s_aload_n (i := 0) (by decide +kernel) rfl (pn 23 rfl ?_)
    refine s_getfield (v := .ref 46) (by decide +kernel) fr_2_18 lq_43 (congrArg Prod.fst sh_43) (fv_ref pf_43_2) (pn 26 rfl ?_)
    refine s_iload_n (i := 3) (by decide +kernel) rfl (pn 27 rfl ?_)
    obtain ⟨b2, h⟩ := h
    refine t_iaload (v := M.1 46 l3.toNatClampNeg) (by decide +kernel) ⟨Or.inl lq_46, congrArg Prod.fst sh_46⟩ (al_in sh_46 b2) rfl (pn 28 rfl ?_)
    refine s_icmp_eq (off := 5) (tgt := 33) (by decide +kernel) rfl (fun c2 => ?_) (fun c2 => (pn 31 rfl ?_))
    · have h := h.1 c2
      refine t_iinc (i := 3) (n := 1) (ls' := [.ref 43, .null, .null, .int (l3 + 1)]) (by decide +kernel) rfl (Nat.le_of_ble_eq_true rfl) kn_1 rfl (pn 36 rfl ?_)
      refine s_goto (off := -28) (tgt := 8) (by decide +kernel) rfl ?_
      exact h
    · have h := h.2 c2
      refine t_iconst (by decide +kernel) ki_0 (pn 32 rfl ?_)
      exact s_ireturn (st := []) (by decide +kernel) (Or.inr ⟨rfl, (Or.inl rfl)⟩) ⟨_, rfl, s, rfl, h⟩
abbrev wH_weighMatchings (d pc : Nat) (ls st : List Value) (s : pm_S) (M : pm_M) (Q : pm_S → pm_M → Prop) : Prop := wV d prog_12_method_2_code 10 none false pc ls st s M Q
theorem enH_weighMatchings {d : Nat} {s : pm_S} {M : pm_M}  {Q : pm_S → pm_M → Prop}  (h : cV d yarr_fill_IIII [.ref 53, .int ((M.1 15 2) * 256), .int (((M.1 15 2) + 1) * 256), .int 0] s M (fun s1 M1 => wH_weighMatchings d 33 [.ref 52, .ref 15, .ref 41, .int ((M1.1 15 2) - 1), .null, .null, .null] [] s1 M1 Q)) : cV (d + 1) yH_weighMatchings [.ref 52, .ref 15, .ref 41] s M Q := by
  refine pm_toV (by decide) (Nat.le_of_ble_eq_true rfl) ?_
  show wH_weighMatchings d 0 [.ref 52, .ref 15, .ref 41, .null, .null, .null, .null] [] s M Q
  refine s_aload_n (i := 0) (by decide +kernel) rfl (pn 1 rfl ?_)
  refine s_getfield (v := .ref 53) (by decide +kernel) fr_10_9 lq_52 (congrArg Prod.fst sh_52) (fv_ref pf_52_0) (pn 4 rfl ?_)
  refine s_aload_n (i := 1) (by decide +kernel) rfl (pn 5 rfl ?_)
  refine s_getfield (v := .int (M.1 15 2)) (by decide +kernel) fr_10_15 lq_15 (congrArg Prod.fst sh_15) rfl (pn 8 rfl ?_)
  refine t_sipush (by decide +kernel) ks_256 (pn 11 rfl ?_)
  refine s_imul (by decide +kernel) (pn 12 rfl ?_)
  refine s_aload_n (i := 1) (by decide +kernel) rfl (pn 13 rfl ?_)
  refine s_getfield (v := .int (M.1 15 2)) (by decide +kernel) fr_10_15 lq_15 (congrArg Prod.fst sh_15) rfl (pn 16 rfl ?_)
  refine t_iconst (by decide +kernel) ki_1 (pn 17 rfl ?_)
  refine s_iadd (by decide +kernel) (pn 18 rfl ?_)
  refine t_sipush (by decide +kernel) ks_256 (pn 21 rfl ?_)
  refine s_imul (by decide +kernel) (pn 22 rfl ?_)
  refine t_iconst (by decide +kernel) ki_0 (pn 23 rfl ?_)
  refine s_callsV [.ref 53, .int ((M.1 15 2) * 256), .int (((M.1 15 2) + 1) * 256), .int 0] rfl (by decide +kernel) ms_10_21 np_327 (Nat.le_of_ble_eq_true rfl) (cV_use h (fun s1 M1 h => (pn 26 rfl ?_)))
  refine s_aload_n (i := 1) (by decide +kernel) rfl (pn 27 rfl ?_)
  refine s_getfield (v := .int (M1.1 15 2)) (by decide +kernel) fr_10_15 lq_15 (congrArg Prod.fst sh_15) rfl (pn 30 rfl ?_)
  refine t_iconst (by decide +kernel) ki_1 (pn 31 rfl ?_)
  refine s_isub (by decide +kernel) (pn 32 rfl ?_)
  refine s_istore_n (i := 3) (by decide +kernel) (Nat.le_of_ble_eq_true rfl) (pn 33 rfl (t_store (ls' := [.ref 52, .ref 15, .ref 41, .int ((M1.1 15 2) - 1), .null, .null, .null]) rfl ?_))
  exact h
theorem sgH_weighMatchings_33 {d : Nat} {s : pm_S} {M : pm_M} {l3 : Int32} {Q : pm_S → pm_M → Prop}  (h : (((l3 < 0) → Q s M) ∧ (¬ (l3 < 0) → wH_weighMatchings d 40 [.ref 52, .ref 15, .ref 41, .int l3, .int 0, .null, .null] [] s M Q))) : wH_weighMatchings d 33 [.ref 52, .ref 15, .ref 41, .int l3, .null, .null, .null] [] s M Q := by
  refine s_iload_n (i := 3) (by decide +kernel) rfl (pn 34 rfl ?_)
  refine s_if_lt (off := 96) (tgt := 130) (by decide +kernel) rfl (fun c1 => ?_) (fun c1 => (pn 37 rfl ?_))
  · have h := h.1 c1
    exact s_return (st := []) (by decide +kernel) rfl ⟨rfl, s, rfl, h⟩
  · have h := h.2 c1
    refine t_iconst (by decide +kernel) ki_0 (pn 38 rfl ?_)
    refine s_istore (i := 4) (by decide +kernel) (Nat.le_of_ble_eq_true rfl) (pn 40 rfl (t_store (ls' := [.ref 52, .ref 15, .ref 41, .int l3, .int 0, .null, .null]) rfl ?_))
    exact h
theorem sgH_weighMatchings_40 {d : Nat} {s : pm_S} {M : pm_M} {l3 : Int32} {l4 : Int32} {Q : pm_S → pm_M → Prop}  (h : (((((1 : Int32) <<< ((M.1 15 1) &&& 31)) ≤ l4) → wH_weighMatchings d 33 [.ref 52, .ref 15, .ref 41, .int (l3 + (-1)), .null, .null, .null] [] s M Q) ∧ (¬ (((1 : Int32) <<< ((M.1 15 1) &&& 31)) ≤ l4) → vp_in (((l3 + 1) * 256) + l4) 1792 ∧ wH_weighMatchings d 71 [.ref 52, .ref 15, .ref 41, .int l3, .int l4, .int (M.1 53 (((l3 + 1) * 256) + l4).toNatClampNeg), .int 0] [] s M Q))) : wH_weighMatchings d 40 [.ref 52, .ref 15, .ref 41, .int l3, .int l4, .null, .null] [] s M Q := by
  refine s_iload (i := 4) (by decide +kernel) rfl (pn 42 rfl ?_)
  refine t_iconst (by decide +kernel) ki_1 (pn 43 rfl ?_)
  refine s_aload_n (i := 1) (by decide +kernel) rfl (pn 44 rfl ?_)
  refine s_getfield (v := .int (M.1 15 1)) (by decide +kernel) fr_10_27 lq_15 (congrArg Prod.fst sh_15) rfl (pn 47 rfl ?_)
  refine s_ishl (by decide +kernel) (pn 48 rfl ?_)
  refine s_icmp_ge (off := 76) (tgt := 124) (by decide +kernel) rfl (fun c1 => ?_) (fun c1 => (pn 51 rfl ?_))
  · have h := h.1 c1
    refine t_iinc (i := 3) (n := -1) (ls' := [.ref 52, .ref 15, .ref 41, .int (l3 + (-1)), .int l4, .null, .null]) (by decide +kernel) rfl (Nat.le_of_ble_eq_true rfl) kn_m1 rfl (pn 127 rfl ?_)
    refine s_goto (off := -94) (tgt := 33) (by decide +kernel) rfl ?_
    exact pm_weak [.ref 52, .ref 15, .ref 41, .int (l3 + (-1)), .null, .null, .null] (pm_le_cons (Or.inr rfl) (pm_le_cons (Or.inr rfl) (pm_le_cons (Or.inr rfl) (pm_le_cons (Or.inr rfl) (pm_le_cons (Or.inl rfl) (pm_le_cons (Or.inl rfl) (pm_le_cons (Or.inl rfl) pm_le_nil))))))) h
  · have h := h.2 c1
    refine s_aload_n (i := 0) (by decide +kernel) rfl (pn 52 rfl ?_)
    refine s_getfield (v := .ref 53) (by decide +kernel) fr_10_9 lq_52 (congrArg Prod.fst sh_52) (fv_ref pf_52_0) (pn 55 rfl ?_)
    refine s_iload_n (i := 3) (by decide +kernel) rfl (pn 56 rfl ?_)
    refine t_iconst (by decide +kernel) ki_1 (pn 57 rfl ?_)
    refine s_iadd (by decide +kernel) (pn 58 rfl ?_)
    refine t_sipush (by decide +kernel) ks_256 (pn 61 rfl ?_)
    refine s_imul (by decide +kernel) (pn 62 rfl ?_)
    refine s_iload (i := 4) (by decide +kernel) rfl (pn 64 rfl ?_)
    refine s_iadd (by decide +kernel) (pn 65 rfl ?_)
    obtain ⟨b1, h⟩ := h
    refine t_iaload (v := M.1 53 (((l3 + 1) * 256) + l4).toNatClampNeg) (by decide +kernel) ⟨Or.inl lq_53, congrArg Prod.fst sh_53⟩ (al_in sh_53 b1) rfl (pn 66 rfl ?_)
    refine s_istore (i := 5) (by decide +kernel) (Nat.le_of_ble_eq_true rfl) (pn 68 rfl (t_store (ls' := [.ref 52, .ref 15, .ref 41, .int l3, .int l4, .int (M.1 53 (((l3 + 1) * 256) + l4).toNatClampNeg), .null]) rfl ?_))
    refine t_iconst (by decide +kernel) ki_0 (pn 69 rfl ?_)
    refine s_istore (i := 6) (by decide +kernel) (Nat.le_of_ble_eq_true rfl) (pn 71 rfl (t_store (ls' := [.ref 52, .ref 15, .ref 41, .int l3, .int l4, .int (M.1 53 (((l3 + 1) * 256) + l4).toNatClampNeg), .int 0]) rfl ?_))
    exact h
theorem sgH_weighMatchings_71 {d : Nat} {s : pm_S} {M : pm_M} {l3 : Int32} {l4 : Int32} {l5 : Int32} {l6 : Int32} {Q : pm_S → pm_M → Prop}  (h : ((((M.1 15 1) ≤ l6) → vp_in ((l3 * 256) + l4) 1792 ∧ wH_weighMatchings d 40 [.ref 52, .ref 15, .ref 41, .int l3, .int (l4 + 1), .null, .null] [] s (pm_si M 53 ((l3 * 256) + l4).toNatClampNeg l5) Q) ∧ (¬ ((M.1 15 1) ≤ l6) → cI d yH_sumWith [.ref 52, .ref 41, .int l3, .int l6, .int l4] s M (fun r1 s1 M1 => cI d ymath_max [.int l5, .int r1] s1 M1 (fun r2 s2 M2 => wH_weighMatchings d 71 [.ref 52, .ref 15, .ref 41, .int l3, .int l4, .int r2, .int (l6 + 1)] [] s2 M2 Q))))) : wH_weighMatchings d 71 [.ref 52, .ref 15, .ref 41, .int l3, .int l4, .int l5, .int l6] [] s M Q := by
  refine s_iload (i := 6) (by decide +kernel) rfl (pn 73 rfl ?_)
  refine s_aload_n (i := 1) (by decide +kernel) rfl (pn 74 rfl ?_)
  refine s_getfield (v := .int (M.1 15 1)) (by decide +kernel) fr_10_27 lq_15 (congrArg Prod.fst sh_15) rfl (pn 77 rfl ?_)
  refine s_icmp_ge (off := 26) (tgt := 103) (by decide +kernel) rfl (fun c1 => ?_) (fun c1 => (pn 80 rfl ?_))
  · have h := h.1 c1
    refine s_aload_n (i := 0) (by decide +kernel) rfl (pn 104 rfl ?_)
    refine s_getfield (v := .ref 53) (by decide +kernel) fr_10_9 lq_52 (congrArg Prod.fst sh_52) (fv_ref pf_52_0) (pn 107 rfl ?_)
    refine s_iload_n (i := 3) (by decide +kernel) rfl (pn 108 rfl ?_)
    refine t_sipush (by decide +kernel) ks_256 (pn 111 rfl ?_)
    refine s_imul (by decide +kernel) (pn 112 rfl ?_)
    refine s_iload (i := 4) (by decide +kernel) rfl (pn 114 rfl ?_)
    refine s_iadd (by decide +kernel) (pn 115 rfl ?_)
    refine s_iload (i := 5) (by decide +kernel) rfl (pn 117 rfl ?_)
    obtain ⟨b1, h⟩ := h
    refine t_iastore (k := ((l3 * 256) + l4).toNatClampNeg) (by decide +kernel) ⟨lq_53, congrArg Prod.fst sh_53⟩ (al_in sh_53 b1) rfl (pn 118 rfl ?_)
    refine t_iinc (i := 4) (n := 1) (ls' := [.ref 52, .ref 15, .ref 41, .int l3, .int (l4 + 1), .int l5, .int l6]) (by decide +kernel) rfl (Nat.le_of_ble_eq_true rfl) kn_1 rfl (pn 121 rfl ?_)
    refine s_goto (off := -81) (tgt := 40) (by decide +kernel) rfl ?_
    exact pm_weak [.ref 52, .ref 15, .ref 41, .int l3, .int (l4 + 1), .null, .null] (pm_le_cons (Or.inr rfl) (pm_le_cons (Or.inr rfl) (pm_le_cons (Or.inr rfl) (pm_le_cons (Or.inr rfl) (pm_le_cons (Or.inr rfl) (pm_le_cons (Or.inl rfl) (pm_le_cons (Or.inl rfl) pm_le_nil))))))) h
  · have h := h.2 c1
    refine s_iload (i := 5) (by decide +kernel) rfl (pn 82 rfl ?_)
    refine s_aload_n (i := 0) (by decide +kernel) rfl (pn 83 rfl ?_)
    refine s_aload_n (i := 2) (by decide +kernel) rfl (pn 84 rfl ?_)
    refine s_iload_n (i := 3) (by decide +kernel) rfl (pn 85 rfl ?_)
    refine s_iload (i := 6) (by decide +kernel) rfl (pn 87 rfl ?_)
    refine s_iload (i := 4) (by decide +kernel) rfl (pn 89 rfl ?_)
    refine s_callvI [.ref 41, .int l3, .int l6, .int l4] rfl (by decide +kernel) mv_10_30 np_116 (Nat.le_of_ble_eq_true rfl) lq_52 ((congrArg Prod.fst sh_52).trans oc_116) (cI_use h (fun r1 s1 M1 h => (pn 92 rfl ?_)))
    refine s_callsI [.int l5, .int r1] rfl (by decide +kernel) ms_10_34 np_324 (Nat.le_of_ble_eq_true rfl) (cI_use h (fun r2 s2 M2 h => (pn 95 rfl ?_)))
    refine s_istore (i := 5) (by decide +kernel) (Nat.le_of_ble_eq_true rfl) (pn 97 rfl (t_store (ls' := [.ref 52, .ref 15, .ref 41, .int l3, .int l4, .int r2, .int l6]) rfl ?_))
    refine t_iinc (i := 6) (n := 1) (ls' := [.ref 52, .ref 15, .ref 41, .int l3, .int l4, .int r2, .int (l6 + 1)]) (by decide +kernel) rfl (Nat.le_of_ble_eq_true rfl) kn_1 rfl (pn 100 rfl ?_)
    refine s_goto (off := -29) (tgt := 71) (by decide +kernel) rfl ?_
    exact h
abbrev wH_sumWith (d pc : Nat) (ls st : List Value) (s : pm_S) (M : pm_M) (Q : Int32 → pm_S → pm_M → Prop) : Prop := wI d prog_12_method_3_code 10 (some .int) false pc ls st s M Q
theorem enH_sumWith {d : Nat} {s : pm_S} {M : pm_M} {x2 : Int32} {x3 : Int32} {x4 : Int32} {Q : Int32 → pm_S → pm_M → Prop}  (h : (((((x4 >>> (x3 &&& 31)) &&& 1) = 1) → Q (-1) s M) ∧ (¬ (((x4 >>> (x3 &&& 31)) &&& 1) = 1) → cI d yK_of [.ref 41, .int x2, .int x3] s M (fun r1 s1 M1 => (((0 < r1) → cI d yK_of [.ref 41, .int x2, .int x3] s1 M1 (fun r2 s2 M2 => vp_in (((x2 + 1) * 256) + (x4 ||| ((1 : Int32) <<< (x3 &&& 31)))) 1792 ∧ Q (r2 + (M2.1 53 (((x2 + 1) * 256) + (x4 ||| ((1 : Int32) <<< (x3 &&& 31)))).toNatClampNeg)) s2 M2)) ∧ (¬ (0 < r1) → Q (-1) s1 M1)))))) : cI (d + 1) yH_sumWith [.ref 52, .ref 41, .int x2, .int x3, .int x4] s M Q := by
  refine pm_toI (by decide) (Nat.le_of_ble_eq_true rfl) ?_
  show wH_sumWith d 0 [.ref 52, .ref 41, .int x2, .int x3, .int x4] [] s M Q
  refine s_iload (i := 4) (by decide +kernel) rfl (pn 2 rfl ?_)
  refine s_iload_n (i := 3) (by decide +kernel) rfl (pn 3 rfl ?_)
  refine s_ishr (by decide +kernel) (pn 4 rfl ?_)
  refine t_iconst (by decide +kernel) ki_1 (pn 5 rfl ?_)
  refine s_iand (by decide +kernel) (pn 6 rfl ?_)
  refine t_iconst (by decide +kernel) ki_1 (pn 7 rfl ?_)
  refine s_icmp_eq (off := 12) (tgt := 19) (by decide +kernel) rfl (fun c1 => ?_) (fun c1 => (pn 10 rfl ?_))
  · have h := h.1 c1
    refine t_iconst (by decide +kernel) ki_m1 (pn 20 rfl ?_)
    exact s_ireturn (st := []) (by decide +kernel) (Or.inl rfl) ⟨_, rfl, s, rfl, h⟩
  · have h := h.2 c1
    refine s_aload_n (i := 1) (by decide +kernel) rfl (pn 11 rfl ?_)
    refine s_iload_n (i := 2) (by decide +kernel) rfl (pn 12 rfl ?_)
    refine s_iload_n (i := 3) (by decide +kernel) rfl (pn 13 rfl ?_)
    refine s_callvI [.int x2, .int x3] rfl (by decide +kernel) mv_10_40 np_2 (Nat.le_of_ble_eq_true rfl) lq_41 ((congrArg Prod.fst sh_41).trans oc_2) (cI_use h (fun r1 s1 M1 h => (pn 16 rfl ?_)))
    refine s_if_gt (off := 5) (tgt := 21) (by decide +kernel) rfl (fun c2 => ?_) (fun c2 => (pn 19 rfl ?_))
    · have h := h.1 c2
      refine s_aload_n (i := 1) (by decide +kernel) rfl (pn 22 rfl ?_)
      refine s_iload_n (i := 2) (by decide +kernel) rfl (pn 23 rfl ?_)
      refine s_iload_n (i := 3) (by decide +kernel) rfl (pn 24 rfl ?_)
      refine s_callvI [.int x2, .int x3] rfl (by decide +kernel) mv_10_40 np_2 (Nat.le_of_ble_eq_true rfl) lq_41 ((congrArg Prod.fst sh_41).trans oc_2) (cI_use h (fun r2 s2 M2 h => (pn 27 rfl ?_)))
      refine s_aload_n (i := 0) (by decide +kernel) rfl (pn 28 rfl ?_)
      refine s_getfield (v := .ref 53) (by decide +kernel) fr_10_9 lq_52 (congrArg Prod.fst sh_52) (fv_ref pf_52_0) (pn 31 rfl ?_)
      refine s_iload_n (i := 2) (by decide +kernel) rfl (pn 32 rfl ?_)
      refine t_iconst (by decide +kernel) ki_1 (pn 33 rfl ?_)
      refine s_iadd (by decide +kernel) (pn 34 rfl ?_)
      refine t_sipush (by decide +kernel) ks_256 (pn 37 rfl ?_)
      refine s_imul (by decide +kernel) (pn 38 rfl ?_)
      refine s_iload (i := 4) (by decide +kernel) rfl (pn 40 rfl ?_)
      refine t_iconst (by decide +kernel) ki_1 (pn 41 rfl ?_)
      refine s_iload_n (i := 3) (by decide +kernel) rfl (pn 42 rfl ?_)
      refine s_ishl (by decide +kernel) (pn 43 rfl ?_)
      refine s_ior (by decide +kernel) (pn 44 rfl ?_)
      refine s_iadd (by decide +kernel) (pn 45 rfl ?_)
      obtain ⟨b1, h⟩ := h
      refine t_iaload (v := M2.1 53 (((x2 + 1) * 256) + (x4 ||| ((1 : Int32) <<< (x3 &&& 31)))).toNatClampNeg) (by decide +kernel) ⟨Or.inl lq_53, congrArg Prod.fst sh_53⟩ (al_in sh_53 b1) rfl (pn 46 rfl ?_)
      refine s_iadd (by decide +kernel) (pn 47 rfl ?_)
      exact s_ireturn (st := []) (by decide +kernel) (Or.inl rfl) ⟨_, rfl, s2, rfl, h⟩
    · have h := h.2 c2
      refine t_iconst (by decide +kernel) ki_m1 (pn 20 rfl ?_)
      exact s_ireturn (st := []) (by decide +kernel) (Or.inl rfl) ⟨_, rfl, s1, rfl, h⟩
abbrev wH_givenTo (d pc : Nat) (ls st : List Value) (s : pm_S) (M : pm_M) (Q : Int32 → pm_S → pm_M → Prop) : Prop := wI d prog_12_method_4_code 10 (some .int) false pc ls st s M Q
theorem enH_givenTo {d : Nat} {s : pm_S} {M : pm_M} {x1 : Int32} {Q : Int32 → pm_S → pm_M → Prop}  (h : wH_givenTo d 9 [.ref 52, .int x1, .ref 15, .ref 41, .int 0, .int (-1), .int 0, .null] [] s M Q) : cI (d + 1) yH_givenTo [.ref 52, .int x1, .ref 15, .ref 41] s M Q := by
  refine pm_toI (by decide) (Nat.le_of_ble_eq_true rfl) ?_
  show wH_givenTo d 0 [.ref 52, .int x1, .ref 15, .ref 41, .null, .null, .null, .null] [] s M Q
  refine t_iconst (by decide +kernel) ki_0 (pn 1 rfl ?_)
  refine s_istore (i := 4) (by decide +kernel) (Nat.le_of_ble_eq_true rfl) (pn 3 rfl (t_store (ls' := [.ref 52, .int x1, .ref 15, .ref 41, .int 0, .null, .null, .null]) rfl ?_))
  refine t_iconst (by decide +kernel) ki_m1 (pn 4 rfl ?_)
  refine s_istore (i := 5) (by decide +kernel) (Nat.le_of_ble_eq_true rfl) (pn 6 rfl (t_store (ls' := [.ref 52, .int x1, .ref 15, .ref 41, .int 0, .int (-1), .null, .null]) rfl ?_))
  refine t_iconst (by decide +kernel) ki_0 (pn 7 rfl ?_)
  refine s_istore (i := 6) (by decide +kernel) (Nat.le_of_ble_eq_true rfl) (pn 9 rfl (t_store (ls' := [.ref 52, .int x1, .ref 15, .ref 41, .int 0, .int (-1), .int 0, .null]) rfl ?_))
  exact h
theorem sgH_givenTo_9 {d : Nat} {s : pm_S} {M : pm_M} {l1 : Int32} {l4 : Int32} {l5 : Int32} {l6 : Int32} {Q : Int32 → pm_S → pm_M → Prop}  (h : (((l1 < l6) → Q l5 s M) ∧ (¬ (l1 < l6) → ((((M.1 15 2) ≤ l6) → Q l5 s M) ∧ (¬ ((M.1 15 2) ≤ l6) → wH_givenTo d 30 [.ref 52, .int l1, .ref 15, .ref 41, .int l4, .int (-1), .int l6, .int 0] [] s M Q))))) : wH_givenTo d 9 [.ref 52, .int l1, .ref 15, .ref 41, .int l4, .int l5, .int l6, .null] [] s M Q := by
  refine s_iload (i := 6) (by decide +kernel) rfl (pn 11 rfl ?_)
  refine s_iload_n (i := 1) (by decide +kernel) rfl (pn 12 rfl ?_)
  refine s_icmp_gt (off := 96) (tgt := 108) (by decide +kernel) rfl (fun c1 => ?_) (fun c1 => (pn 15 rfl ?_))
  · have h := h.1 c1
    refine s_iload (i := 5) (by decide +kernel) rfl (pn 110 rfl ?_)
    exact s_ireturn (st := []) (by decide +kernel) (Or.inl rfl) ⟨_, rfl, s, rfl, h⟩
  · have h := h.2 c1
    refine s_iload (i := 6) (by decide +kernel) rfl (pn 17 rfl ?_)
    refine s_aload_n (i := 2) (by decide +kernel) rfl (pn 18 rfl ?_)
    refine s_getfield (v := .int (M.1 15 2)) (by decide +kernel) fr_10_15 lq_15 (congrArg Prod.fst sh_15) rfl (pn 21 rfl ?_)
    refine s_icmp_ge (off := 87) (tgt := 108) (by decide +kernel) rfl (fun c3 => ?_) (fun c3 => (pn 24 rfl ?_))
    · have h := h.1 c3
      refine s_iload (i := 5) (by decide +kernel) rfl (pn 110 rfl ?_)
      exact s_ireturn (st := []) (by decide +kernel) (Or.inl rfl) ⟨_, rfl, s, rfl, h⟩
    · have h := h.2 c3
      refine t_iconst (by decide +kernel) ki_m1 (pn 25 rfl ?_)
      refine s_istore (i := 5) (by decide +kernel) (Nat.le_of_ble_eq_true rfl) (pn 27 rfl (t_store (ls' := [.ref 52, .int l1, .ref 15, .ref 41, .int l4, .int (-1), .int l6, .null]) rfl ?_))
      refine t_iconst (by decide +kernel) ki_0 (pn 28 rfl ?_)
      refine s_istore (i := 7) (by decide +kernel) (Nat.le_of_ble_eq_true rfl) (pn 30 rfl (t_store (ls' := [.ref 52, .int l1, .ref 15, .ref 41, .int l4, .int (-1), .int l6, .int 0]) rfl ?_))
      exact h
theorem sgH_givenTo_30 {d : Nat} {s : pm_S} {M : pm_M} {l1 : Int32} {l4 : Int32} {l5 : Int32} {l6 : Int32} {l7 : Int32} {Q : Int32 → pm_S → pm_M → Prop}  (h : ((((M.1 15 1) ≤ l7) → (∀ v1 : Int32, v1 = l4 ||| ((if l5 = (-1) then 0 else ((1 : Int32) <<< (l5 &&& 31))) : Int32) → wH_givenTo d 9 [.ref 52, .int l1, .ref 15, .ref 41, .int v1, .int l5, .int (l6 + 1), .null] [] s M Q)) ∧ (¬ ((M.1 15 1) ≤ l7) → ((l5 = (-1) → cI d yH_sumWith [.ref 52, .ref 41, .int l6, .int l7, .int l4] s M (fun r1 s1 M1 => vp_in ((l6 * 256) + l4) 1792 ∧ wH_givenTo d 30 [.ref 52, .int l1, .ref 15, .ref 41, .int l4, .int ((if r1 = (M1.1 53 ((l6 * 256) + l4).toNatClampNeg) then l7 else l5) : Int32), .int l6, .int (l7 + 1)] [] s1 M1 Q)) ∧ (¬ (l5 = (-1)) → (∀ v2 : Int32, v2 = l4 ||| ((if l5 = (-1) then 0 else ((1 : Int32) <<< (l5 &&& 31))) : Int32) → wH_givenTo d 9 [.ref 52, .int l1, .ref 15, .ref 41, .int v2, .int l5, .int (l6 + 1), .null] [] s M Q)))))) : wH_givenTo d 30 [.ref 52, .int l1, .ref 15, .ref 41, .int l4, .int l5, .int l6, .int l7] [] s M Q := by
  refine s_iload (i := 7) (by decide +kernel) rfl (pn 32 rfl ?_)
  refine s_aload_n (i := 2) (by decide +kernel) rfl (pn 33 rfl ?_)
  refine s_getfield (v := .int (M.1 15 1)) (by decide +kernel) fr_10_27 lq_15 (congrArg Prod.fst sh_15) rfl (pn 36 rfl ?_)
  refine s_icmp_ge (off := 47) (tgt := 83) (by decide +kernel) rfl (fun c1 => ?_) (fun c1 => (pn 39 rfl ?_))
  · have h := h.1 c1
    refine s_iload (i := 4) (by decide +kernel) rfl (pn 85 rfl ?_)
    refine s_iload (i := 5) (by decide +kernel) rfl (pn 87 rfl ?_)
    refine t_iconst (by decide +kernel) ki_m1 (pn 88 rfl ?_)
    have k1 : ∀ (z1 : Int32) (z1e : z1 = ((if l5 = (-1) then 0 else ((1 : Int32) <<< (l5 &&& 31))) : Int32)), wH_givenTo d 99 [.ref 52, .int l1, .ref 15, .ref 41, .int l4, .int l5, .int l6, .int l7] [.int z1, .int l4] s M Q := by
      intro z1 z1e
      subst z1e
      refine s_ior (by decide +kernel) (pn 100 rfl ?_)
      obtain ⟨v1, ev1⟩ : ∃ zz : Int32, zz = l4 ||| ((if l5 = (-1) then 0 else ((1 : Int32) <<< (l5 &&& 31))) : Int32) := ⟨_, rfl⟩
      have h := h v1 ev1
      rw [← ev1]
      refine s_istore (i := 4) (by decide +kernel) (Nat.le_of_ble_eq_true rfl) (pn 102 rfl (t_store (ls' := [.ref 52, .int l1, .ref 15, .ref 41, .int v1, .int l5, .int l6, .int l7]) rfl ?_))
      refine t_iinc (i := 6) (n := 1) (ls' := [.ref 52, .int l1, .ref 15, .ref 41, .int v1, .int l5, .int (l6 + 1), .int l7]) (by decide +kernel) rfl (Nat.le_of_ble_eq_true rfl) kn_1 rfl (pn 105 rfl ?_)
      refine s_goto (off := -96) (tgt := 9) (by decide +kernel) rfl ?_
      exact pm_weak [.ref 52, .int l1, .ref 15, .ref 41, .int v1, .int l5, .int (l6 + 1), .null] (pm_le_cons (Or.inr rfl) (pm_le_cons (Or.inr rfl) (pm_le_cons (Or.inr rfl) (pm_le_cons (Or.inr rfl) (pm_le_cons (Or.inr rfl) (pm_le_cons (Or.inr rfl) (pm_le_cons (Or.inr rfl) (pm_le_cons (Or.inl rfl) pm_le_nil)))))))) h
    refine t_icmp_ne (off := 7) (tgt := 95) (by decide +kernel) rfl (fun c3 => ?_) (fun c3 => (pn 91 rfl ?_))
    · refine t_iconst (by decide +kernel) ki_1 (pn 96 rfl ?_)
      refine s_iload (i := 5) (by decide +kernel) rfl (pn 98 rfl ?_)
      refine s_ishl (by decide +kernel) (pn 99 rfl ?_)
      exact k1 _ (by simp only [if_neg c3])
    · refine t_iconst (by decide +kernel) ki_0 (pn 92 rfl ?_)
      refine s_goto (off := 7) (tgt := 99) (by decide +kernel) rfl ?_
      exact k1 _ (by simp only [if_pos c3])
  · have h := h.2 c1
    refine s_iload (i := 5) (by decide +kernel) rfl (pn 41 rfl ?_)
    refine t_iconst (by decide +kernel) ki_m1 (pn 42 rfl ?_)
    refine t_icmp_ne (off := 41) (tgt := 83) (by decide +kernel) rfl (fun c4 => ?_) (fun c4 => (pn 45 rfl ?_))
    · have h := h.2 c4
      refine s_iload (i := 4) (by decide +kernel) rfl (pn 85 rfl ?_)
      refine s_iload (i := 5) (by decide +kernel) rfl (pn 87 rfl ?_)
      refine t_iconst (by decide +kernel) ki_m1 (pn 88 rfl ?_)
      have k2 : ∀ (z2 : Int32) (z2e : z2 = ((if l5 = (-1) then 0 else ((1 : Int32) <<< (l5 &&& 31))) : Int32)), wH_givenTo d 99 [.ref 52, .int l1, .ref 15, .ref 41, .int l4, .int l5, .int l6, .int l7] [.int z2, .int l4] s M Q := by
        intro z2 z2e
        subst z2e
        refine s_ior (by decide +kernel) (pn 100 rfl ?_)
        obtain ⟨v2, ev2⟩ : ∃ zz : Int32, zz = l4 ||| ((if l5 = (-1) then 0 else ((1 : Int32) <<< (l5 &&& 31))) : Int32) := ⟨_, rfl⟩
        have h := h v2 ev2
        rw [← ev2]
        refine s_istore (i := 4) (by decide +kernel) (Nat.le_of_ble_eq_true rfl) (pn 102 rfl (t_store (ls' := [.ref 52, .int l1, .ref 15, .ref 41, .int v2, .int l5, .int l6, .int l7]) rfl ?_))
        refine t_iinc (i := 6) (n := 1) (ls' := [.ref 52, .int l1, .ref 15, .ref 41, .int v2, .int l5, .int (l6 + 1), .int l7]) (by decide +kernel) rfl (Nat.le_of_ble_eq_true rfl) kn_1 rfl (pn 105 rfl ?_)
        refine s_goto (off := -96) (tgt := 9) (by decide +kernel) rfl ?_
        exact pm_weak [.ref 52, .int l1, .ref 15, .ref 41, .int v2, .int l5, .int (l6 + 1), .null] (pm_le_cons (Or.inr rfl) (pm_le_cons (Or.inr rfl) (pm_le_cons (Or.inr rfl) (pm_le_cons (Or.inr rfl) (pm_le_cons (Or.inr rfl) (pm_le_cons (Or.inr rfl) (pm_le_cons (Or.inr rfl) (pm_le_cons (Or.inl rfl) pm_le_nil)))))))) h
      refine t_icmp_ne (off := 7) (tgt := 95) (by decide +kernel) rfl (fun c5 => ?_) (fun c5 => (pn 91 rfl ?_))
      · refine t_iconst (by decide +kernel) ki_1 (pn 96 rfl ?_)
        refine s_iload (i := 5) (by decide +kernel) rfl (pn 98 rfl ?_)
        refine s_ishl (by decide +kernel) (pn 99 rfl ?_)
        exact k2 _ (by simp only [if_neg c5])
      · refine t_iconst (by decide +kernel) ki_0 (pn 92 rfl ?_)
        refine s_goto (off := 7) (tgt := 99) (by decide +kernel) rfl ?_
        exact k2 _ (by simp only [if_pos c5])
    · have h := h.1 c4
      refine s_aload_n (i := 0) (by decide +kernel) rfl (pn 46 rfl ?_)
      refine s_aload_n (i := 3) (by decide +kernel) rfl (pn 47 rfl ?_)
      refine s_iload (i := 6) (by decide +kernel) rfl (pn 49 rfl ?_)
      refine s_iload (i := 7) (by decide +kernel) rfl (pn 51 rfl ?_)
      refine s_iload (i := 4) (by decide +kernel) rfl (pn 53 rfl ?_)
      refine s_callvI [.ref 41, .int l6, .int l7, .int l4] rfl (by decide +kernel) mv_10_30 np_116 (Nat.le_of_ble_eq_true rfl) lq_52 ((congrArg Prod.fst sh_52).trans oc_116) (cI_use h (fun r1 s1 M1 h => (pn 56 rfl ?_)))
      refine s_aload_n (i := 0) (by decide +kernel) rfl (pn 57 rfl ?_)
      refine s_getfield (v := .ref 53) (by decide +kernel) fr_10_9 lq_52 (congrArg Prod.fst sh_52) (fv_ref pf_52_0) (pn 60 rfl ?_)
      refine s_iload (i := 6) (by decide +kernel) rfl (pn 62 rfl ?_)
      refine t_sipush (by decide +kernel) ks_256 (pn 65 rfl ?_)
      refine s_imul (by decide +kernel) (pn 66 rfl ?_)
      refine s_iload (i := 4) (by decide +kernel) rfl (pn 68 rfl ?_)
      refine s_iadd (by decide +kernel) (pn 69 rfl ?_)
      obtain ⟨b1, h⟩ := h
      refine t_iaload (v := M1.1 53 ((l6 * 256) + l4).toNatClampNeg) (by decide +kernel) ⟨Or.inl lq_53, congrArg Prod.fst sh_53⟩ (al_in sh_53 b1) rfl (pn 70 rfl ?_)
      have k3 : ∀ (z3 : Int32) (z3e : z3 = ((if r1 = (M1.1 53 ((l6 * 256) + l4).toNatClampNeg) then l7 else l5) : Int32)), wH_givenTo d 77 [.ref 52, .int l1, .ref 15, .ref 41, .int l4, .int z3, .int l6, .int l7] [] s1 M1 Q := by
        intro z3 z3e
        subst z3e
        refine t_iinc (i := 7) (n := 1) (ls' := [.ref 52, .int l1, .ref 15, .ref 41, .int l4, .int ((if r1 = (M1.1 53 ((l6 * 256) + l4).toNatClampNeg) then l7 else l5) : Int32), .int l6, .int (l7 + 1)]) (by decide +kernel) rfl (Nat.le_of_ble_eq_true rfl) kn_1 rfl (pn 80 rfl ?_)
        refine s_goto (off := -50) (tgt := 30) (by decide +kernel) rfl ?_
        exact h
      refine t_icmp_ne (off := 7) (tgt := 77) (by decide +kernel) rfl (fun c6 => ?_) (fun c6 => (pn 73 rfl ?_))
      · exact k3 _ (by simp only [if_neg c6])
      · refine s_iload (i := 7) (by decide +kernel) rfl (pn 75 rfl ?_)
        refine s_istore (i := 5) (by decide +kernel) (Nat.le_of_ble_eq_true rfl) (pn 77 rfl (t_store (ls' := [.ref 52, .int l1, .ref 15, .ref 41, .int l4, .int l7, .int l6, .int l7]) rfl ?_))
        exact k3 _ (by simp only [if_pos c6])
abbrev wH_waysForAll (d pc : Nat) (ls st : List Value) (s : pm_S) (M : pm_M) (Q : Int32 → pm_S → pm_M → Prop) : Prop := wI d prog_12_method_5_code 10 (some .int) false pc ls st s M Q
theorem enH_waysForAll {d : Nat} {s : pm_S} {M : pm_M}  {Q : Int32 → pm_S → pm_M → Prop}  (h : cV d yarr_fill_IIII [.ref 53, .int 0, .int 256, .int 0] s M (fun s1 M1 => wH_waysForAll d 24 [.ref 52, .ref 15, .ref 41, .int 0, .int 0, .null, .null] [] s1 (pm_si M1 53 0 1) Q)) : cI (d + 1) yH_waysForAll [.ref 52, .ref 15, .ref 41] s M Q := by
  refine pm_toI (by decide) (Nat.le_of_ble_eq_true rfl) ?_
  show wH_waysForAll d 0 [.ref 52, .ref 15, .ref 41, .null, .null, .null, .null] [] s M Q
  refine s_aload_n (i := 0) (by decide +kernel) rfl (pn 1 rfl ?_)
  refine s_getfield (v := .ref 53) (by decide +kernel) fr_10_9 lq_52 (congrArg Prod.fst sh_52) (fv_ref pf_52_0) (pn 4 rfl ?_)
  refine t_iconst (by decide +kernel) ki_0 (pn 5 rfl ?_)
  refine t_sipush (by decide +kernel) ks_256 (pn 8 rfl ?_)
  refine t_iconst (by decide +kernel) ki_0 (pn 9 rfl ?_)
  refine s_callsV [.ref 53, .int 0, .int 256, .int 0] rfl (by decide +kernel) ms_10_21 np_327 (Nat.le_of_ble_eq_true rfl) (cV_use h (fun s1 M1 h => (pn 12 rfl ?_)))
  refine s_aload_n (i := 0) (by decide +kernel) rfl (pn 13 rfl ?_)
  refine s_getfield (v := .ref 53) (by decide +kernel) fr_10_9 lq_52 (congrArg Prod.fst sh_52) (fv_ref pf_52_0) (pn 16 rfl ?_)
  refine t_iconst (by decide +kernel) ki_0 (pn 17 rfl ?_)
  refine t_iconst (by decide +kernel) ki_1 (pn 18 rfl ?_)
  refine t_iastore (k := 0) (by decide +kernel) ⟨lq_53, congrArg Prod.fst sh_53⟩ (al_in sh_53 (vp_lit (n := 1792) tn_0 (by decide) (by decide))) tn_0 (pn 19 rfl ?_)
  refine t_iconst (by decide +kernel) ki_0 (pn 20 rfl ?_)
  refine s_istore_n (i := 3) (by decide +kernel) (Nat.le_of_ble_eq_true rfl) (pn 21 rfl (t_store (ls' := [.ref 52, .ref 15, .ref 41, .int 0, .null, .null, .null]) rfl ?_))
  refine t_iconst (by decide +kernel) ki_0 (pn 22 rfl ?_)
  refine s_istore (i := 4) (by decide +kernel) (Nat.le_of_ble_eq_true rfl) (pn 24 rfl (t_store (ls' := [.ref 52, .ref 15, .ref 41, .int 0, .int 0, .null, .null]) rfl ?_))
  exact h
theorem sgH_waysForAll_24 {d : Nat} {s : pm_S} {M : pm_M} {l3 : Int32} {l4 : Int32} {Q : Int32 → pm_S → pm_M → Prop}  (h : (((((1 : Int32) <<< ((M.1 15 1) &&& 31)) ≤ l4) → Q l3 s M) ∧ (¬ (((1 : Int32) <<< ((M.1 15 1) &&& 31)) ≤ l4) → cI d yint_bitCount [.int l4] s M (fun r1 s1 M1 => ((r1 = (M1.1 15 2)) → vp_in l4 1792) ∧ wH_waysForAll d 64 [.ref 52, .ref 15, .ref 41, .int ((if r1 = (M1.1 15 2) then (l3 + (M1.1 53 l4.toNatClampNeg)) else l3) : Int32), .int l4, .int r1, .int 0] [] s1 M1 Q)))) : wH_waysForAll d 24 [.ref 52, .ref 15, .ref 41, .int l3, .int l4, .null, .null] [] s M Q := by
  refine s_iload (i := 4) (by decide +kernel) rfl (pn 26 rfl ?_)
  refine t_iconst (by decide +kernel) ki_1 (pn 27 rfl ?_)
  refine s_aload_n (i := 1) (by decide +kernel) rfl (pn 28 rfl ?_)
  refine s_getfield (v := .int (M.1 15 1)) (by decide +kernel) fr_10_27 lq_15 (congrArg Prod.fst sh_15) rfl (pn 31 rfl ?_)
  refine s_ishl (by decide +kernel) (pn 32 rfl ?_)
  refine s_icmp_ge (off := 105) (tgt := 137) (by decide +kernel) rfl (fun c1 => ?_) (fun c1 => (pn 35 rfl ?_))
  · have h := h.1 c1
    refine s_iload_n (i := 3) (by decide +kernel) rfl (pn 138 rfl ?_)
    exact s_ireturn (st := []) (by decide +kernel) (Or.inl rfl) ⟨_, rfl, s, rfl, h⟩
  · have h := h.2 c1
    refine s_iload (i := 4) (by decide +kernel) rfl (pn 37 rfl ?_)
    refine s_callsI [.int l4] rfl (by decide +kernel) ms_10_45 np_322 (Nat.le_of_ble_eq_true rfl) (cI_use h (fun r1 s1 M1 h => (pn 40 rfl ?_)))
    refine s_istore (i := 5) (by decide +kernel) (Nat.le_of_ble_eq_true rfl) (pn 42 rfl (t_store (ls' := [.ref 52, .ref 15, .ref 41, .int l3, .int l4, .int r1, .null]) rfl ?_))
    refine s_iload (i := 5) (by decide +kernel) rfl (pn 44 rfl ?_)
    refine s_aload_n (i := 1) (by decide +kernel) rfl (pn 45 rfl ?_)
    refine s_getfield (v := .int (M1.1 15 2)) (by decide +kernel) fr_10_15 lq_15 (congrArg Prod.fst sh_15) rfl (pn 48 rfl ?_)
    obtain ⟨b1, h⟩ := h
    have k1 : ∀ (z1 : Int32) (z1e : z1 = ((if r1 = (M1.1 15 2) then (l3 + (M1.1 53 l4.toNatClampNeg)) else l3) : Int32)), wH_waysForAll d 61 [.ref 52, .ref 15, .ref 41, .int z1, .int l4, .int r1, .null] [] s1 M1 Q := by
      intro z1 z1e
      subst z1e
      refine t_iconst (by decide +kernel) ki_0 (pn 62 rfl ?_)
      refine s_istore (i := 6) (by decide +kernel) (Nat.le_of_ble_eq_true rfl) (pn 64 rfl (t_store (ls' := [.ref 52, .ref 15, .ref 41, .int ((if r1 = (M1.1 15 2) then (l3 + (M1.1 53 l4.toNatClampNeg)) else l3) : Int32), .int l4, .int r1, .int 0]) rfl ?_))
      exact h
    refine t_icmp_ne (off := 13) (tgt := 61) (by decide +kernel) rfl (fun c2 => ?_) (fun c2 => (pn 51 rfl ?_))
    · exact k1 _ (by simp only [if_neg c2])
    · refine s_iload_n (i := 3) (by decide +kernel) rfl (pn 52 rfl ?_)
      refine s_aload_n (i := 0) (by decide +kernel) rfl (pn 53 rfl ?_)
      refine s_getfield (v := .ref 53) (by decide +kernel) fr_10_9 lq_52 (congrArg Prod.fst sh_52) (fv_ref pf_52_0) (pn 56 rfl ?_)
      refine s_iload (i := 4) (by decide +kernel) rfl (pn 58 rfl ?_)
      refine t_iaload (v := M1.1 53 l4.toNatClampNeg) (by decide +kernel) ⟨Or.inl lq_53, congrArg Prod.fst sh_53⟩ (al_in sh_53 (b1 c2)) rfl (pn 59 rfl ?_)
      refine s_iadd (by decide +kernel) (pn 60 rfl ?_)
      refine s_istore_n (i := 3) (by decide +kernel) (Nat.le_of_ble_eq_true rfl) (pn 61 rfl (t_store (ls' := [.ref 52, .ref 15, .ref 41, .int (l3 + (M1.1 53 l4.toNatClampNeg)), .int l4, .int r1, .null]) rfl ?_))
      exact k1 _ (by simp only [if_pos c2])
theorem sgH_waysForAll_64 {d : Nat} {s : pm_S} {M : pm_M} {l3 : Int32} {l4 : Int32} {l5 : Int32} {l6 : Int32} {Q : Int32 → pm_S → pm_M → Prop}  (h : ((((M.1 15 1) ≤ l6) → wH_waysForAll d 24 [.ref 52, .ref 15, .ref 41, .int l3, .int (l4 + 1), .null, .null] [] s M Q) ∧ (¬ ((M.1 15 1) ≤ l6) → ((((M.1 15 2) ≤ l5) → wH_waysForAll d 24 [.ref 52, .ref 15, .ref 41, .int l3, .int (l4 + 1), .null, .null] [] s M Q) ∧ (¬ ((M.1 15 2) ≤ l5) → ((((l4 >>> (l6 &&& 31)) &&& 1) = 0 → cI d yK_of [.ref 41, .int l5, .int l6] s M (fun r1 s1 M1 => (((r1 ≤ 0) → wH_waysForAll d 64 [.ref 52, .ref 15, .ref 41, .int l3, .int l4, .int l5, .int (l6 + 1)] [] s1 M1 Q) ∧ (¬ (r1 ≤ 0) → vp_in (l4 ||| ((1 : Int32) <<< (l6 &&& 31))) 1792 ∧ vp_in l4 1792 ∧ vp_in (l4 ||| ((1 : Int32) <<< (l6 &&& 31))) 1792 ∧ wH_waysForAll d 64 [.ref 52, .ref 15, .ref 41, .int l3, .int l4, .int l5, .int (l6 + 1)] [] s1 (pm_si M1 53 (l4 ||| ((1 : Int32) <<< (l6 &&& 31))).toNatClampNeg ((M1.1 53 (l4 ||| ((1 : Int32) <<< (l6 &&& 31))).toNatClampNeg) + (M1.1 53 l4.toNatClampNeg))) Q)))) ∧ (¬ (((l4 >>> (l6 &&& 31)) &&& 1) = 0) → wH_waysForAll d 64 [.ref 52, .ref 15, .ref 41, .int l3, .int l4, .int l5, .int (l6 + 1)] [] s M Q))))))) : wH_waysForAll d 64 [.ref 52, .ref 15, .ref 41, .int l3, .int l4, .int l5, .int l6] [] s M Q := by
  refine s_iload (i := 6) (by decide +kernel) rfl (pn 66 rfl ?_)
  refine s_aload_n (i := 1) (by decide +kernel) rfl (pn 67 rfl ?_)
  refine s_getfield (v := .int (M.1 15 1)) (by decide +kernel) fr_10_27 lq_15 (congrArg Prod.fst sh_15) rfl (pn 70 rfl ?_)
  refine s_icmp_ge (off := 61) (tgt := 131) (by decide +kernel) rfl (fun c1 => ?_) (fun c1 => (pn 73 rfl ?_))
  · have h := h.1 c1
    refine t_iinc (i := 4) (n := 1) (ls' := [.ref 52, .ref 15, .ref 41, .int l3, .int (l4 + 1), .int l5, .int l6]) (by decide +kernel) rfl (Nat.le_of_ble_eq_true rfl) kn_1 rfl (pn 134 rfl ?_)
    refine s_goto (off := -110) (tgt := 24) (by decide +kernel) rfl ?_
    exact pm_weak [.ref 52, .ref 15, .ref 41, .int l3, .int (l4 + 1), .null, .null] (pm_le_cons (Or.inr rfl) (pm_le_cons (Or.inr rfl) (pm_le_cons (Or.inr rfl) (pm_le_cons (Or.inr rfl) (pm_le_cons (Or.inr rfl) (pm_le_cons (Or.inl rfl) (pm_le_cons (Or.inl rfl) pm_le_nil))))))) h
  · have h := h.2 c1
    refine s_iload (i := 5) (by decide +kernel) rfl (pn 75 rfl ?_)
    refine s_aload_n (i := 1) (by decide +kernel) rfl (pn 76 rfl ?_)
    refine s_getfield (v := .int (M.1 15 2)) (by decide +kernel) fr_10_15 lq_15 (congrArg Prod.fst sh_15) rfl (pn 79 rfl ?_)
    refine s_icmp_ge (off := 52) (tgt := 131) (by decide +kernel) rfl (fun c4 => ?_) (fun c4 => (pn 82 rfl ?_))
    · have h := h.1 c4
      refine t_iinc (i := 4) (n := 1) (ls' := [.ref 52, .ref 15, .ref 41, .int l3, .int (l4 + 1), .int l5, .int l6]) (by decide +kernel) rfl (Nat.le_of_ble_eq_true rfl) kn_1 rfl (pn 134 rfl ?_)
      refine s_goto (off := -110) (tgt := 24) (by decide +kernel) rfl ?_
      exact pm_weak [.ref 52, .ref 15, .ref 41, .int l3, .int (l4 + 1), .null, .null] (pm_le_cons (Or.inr rfl) (pm_le_cons (Or.inr rfl) (pm_le_cons (Or.inr rfl) (pm_le_cons (Or.inr rfl) (pm_le_cons (Or.inr rfl) (pm_le_cons (Or.inl rfl) (pm_le_cons (Or.inl rfl) pm_le_nil))))))) h
    · have h := h.2 c4
      refine s_iload (i := 4) (by decide +kernel) rfl (pn 84 rfl ?_)
      refine s_iload (i := 6) (by decide +kernel) rfl (pn 86 rfl ?_)
      refine s_ishr (by decide +kernel) (pn 87 rfl ?_)
      refine t_iconst (by decide +kernel) ki_1 (pn 88 rfl ?_)
      refine s_iand (by decide +kernel) (pn 89 rfl ?_)
      refine t_if_ne (off := 36) (tgt := 125) (by decide +kernel) rfl (fun c6 => ?_) (fun c6 => (pn 92 rfl ?_))
      · have h := h.2 c6
        refine t_iinc (i := 6) (n := 1) (ls' := [.ref 52, .ref 15, .ref 41, .int l3, .int l4, .int l5, .int (l6 + 1)]) (by decide +kernel) rfl (Nat.le_of_ble_eq_true rfl) kn_1 rfl (pn 128 rfl ?_)
        refine s_goto (off := -64) (tgt := 64) (by decide +kernel) rfl ?_
        exact h
      · have h := h.1 c6
        refine s_aload_n (i := 2) (by decide +kernel) rfl (pn 93 rfl ?_)
        refine s_iload (i := 5) (by decide +kernel) rfl (pn 95 rfl ?_)
        refine s_iload (i := 6) (by decide +kernel) rfl (pn 97 rfl ?_)
        refine s_callvI [.int l5, .int l6] rfl (by decide +kernel) mv_10_40 np_2 (Nat.le_of_ble_eq_true rfl) lq_41 ((congrArg Prod.fst sh_41).trans oc_2) (cI_use h (fun r1 s1 M1 h => (pn 100 rfl ?_)))
        refine s_if_le (off := 25) (tgt := 125) (by decide +kernel) rfl (fun c7 => ?_) (fun c7 => (pn 103 rfl ?_))
        · have h := h.1 c7
          refine t_iinc (i := 6) (n := 1) (ls' := [.ref 52, .ref 15, .ref 41, .int l3, .int l4, .int l5, .int (l6 + 1)]) (by decide +kernel) rfl (Nat.le_of_ble_eq_true rfl) kn_1 rfl (pn 128 rfl ?_)
          refine s_goto (off := -64) (tgt := 64) (by decide +kernel) rfl ?_
          exact h
        · have h := h.2 c7
          refine s_aload_n (i := 0) (by decide +kernel) rfl (pn 104 rfl ?_)
          refine s_getfield (v := .ref 53) (by decide +kernel) fr_10_9 lq_52 (congrArg Prod.fst sh_52) (fv_ref pf_52_0) (pn 107 rfl ?_)
          refine s_iload (i := 4) (by decide +kernel) rfl (pn 109 rfl ?_)
          refine t_iconst (by decide +kernel) ki_1 (pn 110 rfl ?_)
          refine s_iload (i := 6) (by decide +kernel) rfl (pn 112 rfl ?_)
          refine s_ishl (by decide +kernel) (pn 113 rfl ?_)
          refine s_ior (by decide +kernel) (pn 114 rfl ?_)
          refine s_dup2 (by decide +kernel) rfl rfl (pn 115 rfl ?_)
          obtain ⟨b1, h⟩ := h
          refine t_iaload (v := M1.1 53 (l4 ||| ((1 : Int32) <<< (l6 &&& 31))).toNatClampNeg) (by decide +kernel) ⟨Or.inl lq_53, congrArg Prod.fst sh_53⟩ (al_in sh_53 b1) rfl (pn 116 rfl ?_)
          refine s_aload_n (i := 0) (by decide +kernel) rfl (pn 117 rfl ?_)
          refine s_getfield (v := .ref 53) (by decide +kernel) fr_10_9 lq_52 (congrArg Prod.fst sh_52) (fv_ref pf_52_0) (pn 120 rfl ?_)
          refine s_iload (i := 4) (by decide +kernel) rfl (pn 122 rfl ?_)
          obtain ⟨b2, h⟩ := h
          refine t_iaload (v := M1.1 53 l4.toNatClampNeg) (by decide +kernel) ⟨Or.inl lq_53, congrArg Prod.fst sh_53⟩ (al_in sh_53 b2) rfl (pn 123 rfl ?_)
          refine s_iadd (by decide +kernel) (pn 124 rfl ?_)
          obtain ⟨b3, h⟩ := h
          refine t_iastore (k := (l4 ||| ((1 : Int32) <<< (l6 &&& 31))).toNatClampNeg) (by decide +kernel) ⟨lq_53, congrArg Prod.fst sh_53⟩ (al_in sh_53 b3) rfl (pn 125 rfl ?_)
          refine t_iinc (i := 6) (n := 1) (ls' := [.ref 52, .ref 15, .ref 41, .int l3, .int l4, .int l5, .int (l6 + 1)]) (by decide +kernel) rfl (Nat.le_of_ble_eq_true rfl) kn_1 rfl (pn 128 rfl ?_)
          refine s_goto (off := -64) (tgt := 64) (by decide +kernel) rfl ?_
          exact h
abbrev wH_playOut (d pc : Nat) (ls st : List Value) (s : pm_S) (M : pm_M) (Q : pm_S → pm_M → Prop) : Prop := wV d prog_12_method_6_code 10 none false pc ls st s M Q
theorem enH_playOut {d : Nat} {s : pm_S} {M : pm_M} {x2 : Int32} {x3 : Int32} {x4 : Int32} {Q : pm_S → pm_M → Prop}  (h : wH_playOut d 10 [.ref 52, .ref 41, .int x2, .int x3, .int x4, .int 1, .null] [] s (pm_si M 53 0 0) Q) : cV (d + 1) yH_playOut [.ref 52, .ref 41, .int x2, .int x3, .int x4] s M Q := by
  refine pm_toV (by decide) (Nat.le_of_ble_eq_true rfl) ?_
  show wH_playOut d 0 [.ref 52, .ref 41, .int x2, .int x3, .int x4, .null, .null] [] s M Q
  refine s_aload_n (i := 0) (by decide +kernel) rfl (pn 1 rfl ?_)
  refine s_getfield (v := .ref 53) (by decide +kernel) fr_10_9 lq_52 (congrArg Prod.fst sh_52) (fv_ref pf_52_0) (pn 4 rfl ?_)
  refine t_iconst (by decide +kernel) ki_0 (pn 5 rfl ?_)
  refine t_iconst (by decide +kernel) ki_0 (pn 6 rfl ?_)
  refine t_iastore (k := 0) (by decide +kernel) ⟨lq_53, congrArg Prod.fst sh_53⟩ (al_in sh_53 (vp_lit (n := 1792) tn_0 (by decide) (by decide))) tn_0 (pn 7 rfl ?_)
  refine t_iconst (by decide +kernel) ki_1 (pn 8 rfl ?_)
  refine s_istore (i := 5) (by decide +kernel) (Nat.le_of_ble_eq_true rfl) (pn 10 rfl (t_store (ls' := [.ref 52, .ref 41, .int x2, .int x3, .int x4, .int 1, .null]) rfl ?_))
  exact h
theorem sgH_playOut_10 {d : Nat} {s : pm_S} {M : pm_M} {l2 : Int32} {l3 : Int32} {l4 : Int32} {l5 : Int32} {Q : pm_S → pm_M → Prop}  (h : (((l4 < l5) → Q s M) ∧ (¬ (l4 < l5) → (((256 ≤ l5) → Q s M) ∧ (¬ (256 ≤ l5) → (((l5 &&& (l4 ^^^ (-1))) = 0 → cI d yint_bitCount [.int (l4 ^^^ l5)] s M (fun r1 s1 M1 => wH_playOut d 73 [.ref 52, .ref 41, .int l2, .int l3, .int l4, .int l5, .int ((if (r1 &&& 1) = 0 then 1 else 0) : Int32)] [.int ((if ((if (r1 &&& 1) = 0 then 1 else 0) : Int32) = 0 then l3 else l2) : Int32), .ref 41, .ref 52, .int l5, .ref 53] s1 M1 Q)) ∧ (¬ ((l5 &&& (l4 ^^^ (-1))) = 0) → wH_playOut d 10 [.ref 52, .ref 41, .int l2, .int l3, .int l4, .int (l5 + 1), .null] [] s M Q))))))) : wH_playOut d 10 [.ref 52, .ref 41, .int l2, .int l3, .int l4, .int l5, .null] [] s M Q := by
  refine s_iload (i := 5) (by decide +kernel) rfl (pn 12 rfl ?_)
  refine s_iload (i := 4) (by decide +kernel) rfl (pn 14 rfl ?_)
  refine s_icmp_gt (off := 81) (tgt := 95) (by decide +kernel) rfl (fun c1 => ?_) (fun c1 => (pn 17 rfl ?_))
  · have h := h.1 c1
    exact s_return (st := []) (by decide +kernel) rfl ⟨rfl, s, rfl, h⟩
  · have h := h.2 c1
    refine s_iload (i := 5) (by decide +kernel) rfl (pn 19 rfl ?_)
    refine t_sipush (by decide +kernel) ks_256 (pn 22 rfl ?_)
    refine s_icmp_ge (off := 73) (tgt := 95) (by decide +kernel) rfl (fun c4 => ?_) (fun c4 => (pn 25 rfl ?_))
    · have h := h.1 c4
      exact s_return (st := []) (by decide +kernel) rfl ⟨rfl, s, rfl, h⟩
    · have h := h.2 c4
      refine s_iload (i := 5) (by decide +kernel) rfl (pn 27 rfl ?_)
      refine s_iload (i := 4) (by decide +kernel) rfl (pn 29 rfl ?_)
      refine t_iconst (by decide +kernel) ki_m1 (pn 30 rfl ?_)
      refine s_ixor (by decide +kernel) (pn 31 rfl ?_)
      refine s_iand (by decide +kernel) (pn 32 rfl ?_)
      refine t_if_ne (off := 57) (tgt := 89) (by decide +kernel) rfl (fun c6 => ?_) (fun c6 => (pn 35 rfl ?_))
      · have h := h.2 c6
        refine t_iinc (i := 5) (n := 1) (ls' := [.ref 52, .ref 41, .int l2, .int l3, .int l4, .int (l5 + 1), .null]) (by decide +kernel) rfl (Nat.le_of_ble_eq_true rfl) kn_1 rfl (pn 92 rfl ?_)
        refine s_goto (off := -82) (tgt := 10) (by decide +kernel) rfl ?_
        exact h
      · have h := h.1 c6
        refine s_iload (i := 4) (by decide +kernel) rfl (pn 37 rfl ?_)
        refine s_iload (i := 5) (by decide +kernel) rfl (pn 39 rfl ?_)
        refine s_ixor (by decide +kernel) (pn 40 rfl ?_)
        refine s_callsI [.int (l4 ^^^ l5)] rfl (by decide +kernel) ms_10_45 np_322 (Nat.le_of_ble_eq_true rfl) (cI_use h (fun r1 s1 M1 h => (pn 43 rfl ?_)))
        refine t_iconst (by decide +kernel) ki_1 (pn 44 rfl ?_)
        refine s_iand (by decide +kernel) (pn 45 rfl ?_)
        have k1 : ∀ (z1 : Int32) (z1e : z1 = ((if (r1 &&& 1) = 0 then 1 else 0) : Int32)), wH_playOut d 53 [.ref 52, .ref 41, .int l2, .int l3, .int l4, .int l5, .null] [.int z1] s1 M1 Q := by
          intro z1 z1e
          subst z1e
          refine s_istore (i := 6) (by decide +kernel) (Nat.le_of_ble_eq_true rfl) (pn 55 rfl (t_store (ls' := [.ref 52, .ref 41, .int l2, .int l3, .int l4, .int l5, .int ((if (r1 &&& 1) = 0 then 1 else 0) : Int32)]) rfl ?_))
          refine s_aload_n (i := 0) (by decide +kernel) rfl (pn 56 rfl ?_)
          refine s_getfield (v := .ref 53) (by decide +kernel) fr_10_9 lq_52 (congrArg Prod.fst sh_52) (fv_ref pf_52_0) (pn 59 rfl ?_)
          refine s_iload (i := 5) (by decide +kernel) rfl (pn 61 rfl ?_)
          refine s_aload_n (i := 0) (by decide +kernel) rfl (pn 62 rfl ?_)
          refine s_aload_n (i := 1) (by decide +kernel) rfl (pn 63 rfl ?_)
          refine s_iload (i := 6) (by decide +kernel) rfl (pn 65 rfl ?_)
          have k2 : ∀ (z2 : Int32) (z2e : z2 = ((if ((if (r1 &&& 1) = 0 then 1 else 0) : Int32) = 0 then l3 else l2) : Int32)), wH_playOut d 73 [.ref 52, .ref 41, .int l2, .int l3, .int l4, .int l5, .int ((if (r1 &&& 1) = 0 then 1 else 0) : Int32)] [.int z2, .ref 41, .ref 52, .int l5, .ref 53] s1 M1 Q := by
            intro z2 z2e
            subst z2e
            exact h
          refine s_if_eq (off := 7) (tgt := 72) (by decide +kernel) rfl (fun c8 => ?_) (fun c8 => (pn 68 rfl ?_))
          · refine s_iload_n (i := 3) (by decide +kernel) rfl (pn 73 rfl ?_)
            exact k2 _ (by simp only [if_pos c8])
          · refine s_iload_n (i := 2) (by decide +kernel) rfl (pn 69 rfl ?_)
            refine s_goto (off := 4) (tgt := 73) (by decide +kernel) rfl ?_
            exact k2 _ (by simp only [if_neg c8])
        refine t_if_ne (off := 7) (tgt := 52) (by decide +kernel) rfl (fun c7 => ?_) (fun c7 => (pn 48 rfl ?_))
        · refine t_iconst (by decide +kernel) ki_0 (pn 53 rfl ?_)
          exact k1 _ (by simp only [if_neg c7])
        · refine t_iconst (by decide +kernel) ki_1 (pn 49 rfl ?_)
          refine s_goto (off := 4) (tgt := 53) (by decide +kernel) rfl ?_
          exact k1 _ (by simp only [if_pos c7])
theorem sgH_playOut_73 {d : Nat} {s : pm_S} {M : pm_M} {l2 : Int32} {l3 : Int32} {l4 : Int32} {l5 : Int32} {l6 : Int32} {t0 : Int32} {t3 : Int32} {Q : pm_S → pm_M → Prop}  (h : cI d yH_bestTurn [.ref 52, .ref 41, .int t0, .int ((if l6 = 0 then (-1) else 1) : Int32), .int l5] s M (fun r1 s1 M1 => vp_in t3 1792 ∧ wH_playOut d 10 [.ref 52, .ref 41, .int l2, .int l3, .int l4, .int (l5 + 1), .null] [] s1 (pm_si M1 53 t3.toNatClampNeg r1) Q)) : wH_playOut d 73 [.ref 52, .ref 41, .int l2, .int l3, .int l4, .int l5, .int l6] [.int t0, .ref 41, .ref 52, .int t3, .ref 53] s M Q := by
  refine s_iload (i := 6) (by decide +kernel) rfl (pn 75 rfl ?_)
  have k1 : ∀ (z1 : Int32) (z1e : z1 = ((if l6 = 0 then (-1) else 1) : Int32)), wH_playOut d 83 [.ref 52, .ref 41, .int l2, .int l3, .int l4, .int l5, .int l6] [.int z1, .int t0, .ref 41, .ref 52, .int t3, .ref 53] s M Q := by
    intro z1 z1e
    subst z1e
    refine s_iload (i := 5) (by decide +kernel) rfl (pn 85 rfl ?_)
    refine s_callvI [.ref 41, .int t0, .int ((if l6 = 0 then (-1) else 1) : Int32), .int l5] rfl (by decide +kernel) mv_10_51 np_120 (Nat.le_of_ble_eq_true rfl) lq_52 ((congrArg Prod.fst sh_52).trans oc_120) (cI_use h (fun r1 s1 M1 h => (pn 88 rfl ?_)))
    obtain ⟨b1, h⟩ := h
    refine t_iastore (k := t3.toNatClampNeg) (by decide +kernel) ⟨lq_53, congrArg Prod.fst sh_53⟩ (al_in sh_53 b1) rfl (pn 89 rfl ?_)
    refine t_iinc (i := 5) (n := 1) (ls' := [.ref 52, .ref 41, .int l2, .int l3, .int l4, .int (l5 + 1), .int l6]) (by decide +kernel) rfl (Nat.le_of_ble_eq_true rfl) kn_1 rfl (pn 92 rfl ?_)
    refine s_goto (off := -82) (tgt := 10) (by decide +kernel) rfl ?_
    exact pm_weak [.ref 52, .ref 41, .int l2, .int l3, .int l4, .int (l5 + 1), .null] (pm_le_cons (Or.inr rfl) (pm_le_cons (Or.inr rfl) (pm_le_cons (Or.inr rfl) (pm_le_cons (Or.inr rfl) (pm_le_cons (Or.inr rfl) (pm_le_cons (Or.inr rfl) (pm_le_cons (Or.inl rfl) pm_le_nil))))))) h
  refine s_if_eq (off := 7) (tgt := 82) (by decide +kernel) rfl (fun c1 => ?_) (fun c1 => (pn 78 rfl ?_))
  · refine t_iconst (by decide +kernel) ki_m1 (pn 83 rfl ?_)
    exact k1 _ (by simp only [if_pos c1])
  · refine t_iconst (by decide +kernel) ki_1 (pn 79 rfl ?_)
    refine s_goto (off := 4) (tgt := 83) (by decide +kernel) rfl ?_
    exact k1 _ (by simp only [if_neg c1])
abbrev wH_bestTurn (d pc : Nat) (ls st : List Value) (s : pm_S) (M : pm_M) (Q : Int32 → pm_S → pm_M → Prop) : Prop := wI d prog_12_method_7_code 10 (some .int) false pc ls st s M Q
theorem enH_bestTurn {d : Nat} {s : pm_S} {M : pm_M} {x2 : Int32} {x3 : Int32} {x4 : Int32} {Q : Int32 → pm_S → pm_M → Prop}  (h : wH_bestTurn d 7 [.ref 52, .ref 41, .int x2, .int x3, .int x4, .int (-99000003), .int 0] [] s M Q) : cI (d + 1) yH_bestTurn [.ref 52, .ref 41, .int x2, .int x3, .int x4] s M Q := by
  refine pm_toI (by decide) (Nat.le_of_ble_eq_true rfl) ?_
  show wH_bestTurn d 0 [.ref 52, .ref 41, .int x2, .int x3, .int x4, .null, .null] [] s M Q
  refine s_ldc (by decide +kernel) kc_10_54 (pn 2 rfl ?_)
  refine s_istore (i := 5) (by decide +kernel) (Nat.le_of_ble_eq_true rfl) (pn 4 rfl (t_store (ls' := [.ref 52, .ref 41, .int x2, .int x3, .int x4, .int (-99000003), .null]) rfl ?_))
  refine t_iconst (by decide +kernel) ki_0 (pn 5 rfl ?_)
  refine s_istore (i := 6) (by decide +kernel) (Nat.le_of_ble_eq_true rfl) (pn 7 rfl (t_store (ls' := [.ref 52, .ref 41, .int x2, .int x3, .int x4, .int (-99000003), .int 0]) rfl ?_))
  exact h
theorem sgH_bestTurn_7 {d : Nat} {s : pm_S} {M : pm_M} {l2 : Int32} {l3 : Int32} {l4 : Int32} {l5 : Int32} {l6 : Int32} {Q : Int32 → pm_S → pm_M → Prop}  (h : (((8 ≤ l6) → Q (l3 * l5) s M) ∧ (¬ (8 ≤ l6) → ((((l4 >>> (l6 &&& 31)) &&& 1) = 1 → cI d yK_of [.ref 41, .int l2, .int l6] s M (fun r1 s1 M1 => vp_in (l4 ^^^ ((1 : Int32) <<< (l6 &&& 31))) 1792 ∧ cI d ymath_max [.int l5, .int (r1 + (l3 * (M1.1 53 (l4 ^^^ ((1 : Int32) <<< (l6 &&& 31))).toNatClampNeg)))] s1 M1 (fun r2 s2 M2 => wH_bestTurn d 7 [.ref 52, .ref 41, .int l2, .int l3, .int l4, .int r2, .int (l6 + 1)] [] s2 M2 Q))) ∧ (¬ (((l4 >>> (l6 &&& 31)) &&& 1) = 1) → wH_bestTurn d 7 [.ref 52, .ref 41, .int l2, .int l3, .int l4, .int l5, .int (l6 + 1)] [] s M Q))))) : wH_bestTurn d 7 [.ref 52, .ref 41, .int l2, .int l3, .int l4, .int l5, .int l6] [] s M Q := by
  refine s_iload (i := 6) (by decide +kernel) rfl (pn 9 rfl ?_)
  refine t_bipush (by decide +kernel) kb_8 (pn 11 rfl ?_)
  refine s_icmp_ge (off := 49) (tgt := 60) (by decide +kernel) rfl (fun c1 => ?_) (fun c1 => (pn 14 rfl ?_))
  · have h := h.1 c1
    refine s_iload_n (i := 3) (by decide +kernel) rfl (pn 61 rfl ?_)
    refine s_iload (i := 5) (by decide +kernel) rfl (pn 63 rfl ?_)
    refine s_imul (by decide +kernel) (pn 64 rfl ?_)
    exact s_ireturn (st := []) (by decide +kernel) (Or.inl rfl) ⟨_, rfl, s, rfl, h⟩
  · have h := h.2 c1
    refine s_iload (i := 4) (by decide +kernel) rfl (pn 16 rfl ?_)
    refine s_iload (i := 6) (by decide +kernel) rfl (pn 18 rfl ?_)
    refine s_ishr (by decide +kernel) (pn 19 rfl ?_)
    refine t_iconst (by decide +kernel) ki_1 (pn 20 rfl ?_)
    refine s_iand (by decide +kernel) (pn 21 rfl ?_)
    refine t_iconst (by decide +kernel) ki_1 (pn 22 rfl ?_)
    refine t_icmp_ne (off := 32) (tgt := 54) (by decide +kernel) rfl (fun c2 => ?_) (fun c2 => (pn 25 rfl ?_))
    · have h := h.2 c2
      refine t_iinc (i := 6) (n := 1) (ls' := [.ref 52, .ref 41, .int l2, .int l3, .int l4, .int l5, .int (l6 + 1)]) (by decide +kernel) rfl (Nat.le_of_ble_eq_true rfl) kn_1 rfl (pn 57 rfl ?_)
      refine s_goto (off := -50) (tgt := 7) (by decide +kernel) rfl ?_
      exact h
    · have h := h.1 c2
      refine s_iload (i := 5) (by decide +kernel) rfl (pn 27 rfl ?_)
      refine s_aload_n (i := 1) (by decide +kernel) rfl (pn 28 rfl ?_)
      refine s_iload_n (i := 2) (by decide +kernel) rfl (pn 29 rfl ?_)
      refine s_iload (i := 6) (by decide +kernel) rfl (pn 31 rfl ?_)
      refine s_callvI [.int l2, .int l6] rfl (by decide +kernel) mv_10_40 np_2 (Nat.le_of_ble_eq_true rfl) lq_41 ((congrArg Prod.fst sh_41).trans oc_2) (cI_use h (fun r1 s1 M1 h => (pn 34 rfl ?_)))
      refine s_iload_n (i := 3) (by decide +kernel) rfl (pn 35 rfl ?_)
      refine s_aload_n (i := 0) (by decide +kernel) rfl (pn 36 rfl ?_)
      refine s_getfield (v := .ref 53) (by decide +kernel) fr_10_9 lq_52 (congrArg Prod.fst sh_52) (fv_ref pf_52_0) (pn 39 rfl ?_)
      refine s_iload (i := 4) (by decide +kernel) rfl (pn 41 rfl ?_)
      refine t_iconst (by decide +kernel) ki_1 (pn 42 rfl ?_)
      refine s_iload (i := 6) (by decide +kernel) rfl (pn 44 rfl ?_)
      refine s_ishl (by decide +kernel) (pn 45 rfl ?_)
      refine s_ixor (by decide +kernel) (pn 46 rfl ?_)
      obtain ⟨b1, h⟩ := h
      refine t_iaload (v := M1.1 53 (l4 ^^^ ((1 : Int32) <<< (l6 &&& 31))).toNatClampNeg) (by decide +kernel) ⟨Or.inl lq_53, congrArg Prod.fst sh_53⟩ (al_in sh_53 b1) rfl (pn 47 rfl ?_)
      refine s_imul (by decide +kernel) (pn 48 rfl ?_)
      refine s_iadd (by decide +kernel) (pn 49 rfl ?_)
      refine s_callsI [.int l5, .int (r1 + (l3 * (M1.1 53 (l4 ^^^ ((1 : Int32) <<< (l6 &&& 31))).toNatClampNeg)))] rfl (by decide +kernel) ms_10_34 np_324 (Nat.le_of_ble_eq_true rfl) (cI_use h (fun r2 s2 M2 h => (pn 52 rfl ?_)))
      refine s_istore (i := 5) (by decide +kernel) (Nat.le_of_ble_eq_true rfl) (pn 54 rfl (t_store (ls' := [.ref 52, .ref 41, .int l2, .int l3, .int l4, .int r2, .int l6]) rfl ?_))
      refine t_iinc (i := 6) (n := 1) (ls' := [.ref 52, .ref 41, .int l2, .int l3, .int l4, .int r2, .int (l6 + 1)]) (by decide +kernel) rfl (Nat.le_of_ble_eq_true rfl) kn_1 rfl (pn 57 rfl ?_)
      refine s_goto (off := -50) (tgt := 7) (by decide +kernel) rfl ?_
      exact h
abbrev wT_run (d pc : Nat) (ls st : List Value) (s : pm_S) (M : pm_M) (Q : Int32 → pm_S → pm_M → Prop) : Prop := wI d prog_10_method_2_code 8 (some .int) false pc ls st s M Q
theorem enT_run {d : Nat} {s : pm_S} {M : pm_M}  {Q : Int32 → pm_S → pm_M → Prop}  (h : wT_run d 6 [.ref 54, .null, .ref 27, .ref 41, .int 0, .int 0, .null, .null] [] s M Q) : cI (d + 1) yT_run [.ref 54, .ref 15, .ref 27, .ref 41] s M Q := by
  refine pm_toI (by decide) (Nat.le_of_ble_eq_true rfl) ?_
  show wT_run d 0 [.ref 54, .ref 15, .ref 27, .ref 41, .null, .null, .null, .null] [] s M Q
  refine t_iconst (by decide +kernel) ki_0 (pn 1 rfl ?_)
  refine s_istore (i := 4) (by decide +kernel) (Nat.le_of_ble_eq_true rfl) (pn 3 rfl (t_store (ls' := [.ref 54, .ref 15, .ref 27, .ref 41, .int 0, .null, .null, .null]) rfl ?_))
  refine t_iconst (by decide +kernel) ki_0 (pn 4 rfl ?_)
  refine s_istore (i := 5) (by decide +kernel) (Nat.le_of_ble_eq_true rfl) (pn 6 rfl (t_store (ls' := [.ref 54, .ref 15, .ref 27, .ref 41, .int 0, .int 0, .null, .null]) rfl ?_))
  exact pm_weak [.ref 54, .null, .ref 27, .ref 41, .int 0, .int 0, .null, .null] (pm_le_cons (Or.inr rfl) (pm_le_cons (Or.inl rfl) (pm_le_cons (Or.inr rfl) (pm_le_cons (Or.inr rfl) (pm_le_cons (Or.inr rfl) (pm_le_cons (Or.inr rfl) (pm_le_cons (Or.inl rfl) (pm_le_cons (Or.inl rfl) pm_le_nil)))))))) h
theorem sgT_run_6 {d : Nat} {s : pm_S} {M : pm_M} {l4 : Int32} {l5 : Int32} {Q : Int32 → pm_S → pm_M → Prop}  (h : (((6 ≤ l5) → wT_run d 70 [.ref 54, .null, .null, .ref 41, .int l4, .int 0, .int 0, .null] [] s M Q) ∧ (¬ (6 ≤ l5) → cI d yS_heldThing [.ref 27, .int l5] s M (fun r1 s1 M1 => vp_in l5 6 ∧ vp_in l5 6 ∧ vp_in l5 6 ∧ (∀ v1 : Int32, v1 = l4 ||| ((if ((pm_si M1 56 l5.toNatClampNeg r1).1 56 l5.toNatClampNeg) = (-1) then 0 else ((1 : Int32) <<< (l5 &&& 31))) : Int32) → wT_run d 6 [.ref 54, .null, .ref 27, .ref 41, .int v1, .int (l5 + 1), .null, .null] [] s1 (pm_si (pm_si M1 56 l5.toNatClampNeg r1) 55 l5.toNatClampNeg (-1)) Q))))) : wT_run d 6 [.ref 54, .null, .ref 27, .ref 41, .int l4, .int l5, .null, .null] [] s M Q := by
  refine s_iload (i := 5) (by decide +kernel) rfl (pn 8 rfl ?_)
  refine t_bipush (by decide +kernel) kb_6 (pn 10 rfl ?_)
  refine s_icmp_ge (off := 54) (tgt := 64) (by decide +kernel) rfl (fun c1 => ?_) (fun c1 => (pn 13 rfl ?_))
  · have h := h.1 c1
    refine t_iconst (by decide +kernel) ki_0 (pn 65 rfl ?_)
    refine s_istore (i := 5) (by decide +kernel) (Nat.le_of_ble_eq_true rfl) (pn 67 rfl (t_store (ls' := [.ref 54, .null, .ref 27, .ref 41, .int l4, .int 0, .null, .null]) rfl ?_))
    refine t_iconst (by decide +kernel) ki_0 (pn 68 rfl ?_)
    refine s_istore (i := 6) (by decide +kernel) (Nat.le_of_ble_eq_true rfl) (pn 70 rfl (t_store (ls' := [.ref 54, .null, .ref 27, .ref 41, .int l4, .int 0, .int 0, .null]) rfl ?_))
    exact pm_weak [.ref 54, .null, .null, .ref 41, .int l4, .int 0, .int 0, .null] (pm_le_cons (Or.inr rfl) (pm_le_cons (Or.inl rfl) (pm_le_cons (Or.inl rfl) (pm_le_cons (Or.inr rfl) (pm_le_cons (Or.inr rfl) (pm_le_cons (Or.inr rfl) (pm_le_cons (Or.inr rfl) (pm_le_cons (Or.inl rfl) pm_le_nil)))))))) h
  · have h := h.2 c1
    refine s_aload_n (i := 0) (by decide +kernel) rfl (pn 14 rfl ?_)
    refine s_getfield (v := .ref 56) (by decide +kernel) fr_8_15 lq_54 (congrArg Prod.fst sh_54) (fv_ref pf_54_1) (pn 17 rfl ?_)
    refine s_iload (i := 5) (by decide +kernel) rfl (pn 19 rfl ?_)
    refine s_aload_n (i := 2) (by decide +kernel) rfl (pn 20 rfl ?_)
    refine s_iload (i := 5) (by decide +kernel) rfl (pn 22 rfl ?_)
    refine s_callvI [.int l5] rfl (by decide +kernel) mv_8_21 np_82 (Nat.le_of_ble_eq_true rfl) lq_27 ((congrArg Prod.fst sh_27).trans oc_82) (cI_use h (fun r1 s1 M1 h => (pn 25 rfl ?_)))
    obtain ⟨b1, h⟩ := h
    refine t_iastore (k := l5.toNatClampNeg) (by decide +kernel) ⟨lq_56, congrArg Prod.fst sh_56⟩ (al_in sh_56 b1) rfl (pn 26 rfl ?_)
    refine s_aload_n (i := 0) (by decide +kernel) rfl (pn 27 rfl ?_)
    refine s_getfield (v := .ref 55) (by decide +kernel) fr_8_9 lq_54 (congrArg Prod.fst sh_54) (fv_ref pf_54_0) (pn 30 rfl ?_)
    refine s_iload (i := 5) (by decide +kernel) rfl (pn 32 rfl ?_)
    refine t_iconst (by decide +kernel) ki_m1 (pn 33 rfl ?_)
    obtain ⟨b2, h⟩ := h
    refine t_iastore (k := l5.toNatClampNeg) (by decide +kernel) ⟨lq_55, congrArg Prod.fst sh_55⟩ (al_in sh_55 b2) rfl (pn 34 rfl ?_)
    refine s_iload (i := 4) (by decide +kernel) rfl (pn 36 rfl ?_)
    refine s_aload_n (i := 0) (by decide +kernel) rfl (pn 37 rfl ?_)
    refine s_getfield (v := .ref 56) (by decide +kernel) fr_8_15 lq_54 (congrArg Prod.fst sh_54) (fv_ref pf_54_1) (pn 40 rfl ?_)
    refine s_iload (i := 5) (by decide +kernel) rfl (pn 42 rfl ?_)
    obtain ⟨b3, h⟩ := h
    refine t_iaload (v := (pm_si M1 56 l5.toNatClampNeg r1).1 56 l5.toNatClampNeg) (by decide +kernel) ⟨Or.inl lq_56, congrArg Prod.fst sh_56⟩ (al_in sh_56 b3) rfl (pn 43 rfl ?_)
    refine t_iconst (by decide +kernel) ki_m1 (pn 44 rfl ?_)
    have k1 : ∀ (z1 : Int32) (z1e : z1 = ((if ((pm_si M1 56 l5.toNatClampNeg r1).1 56 l5.toNatClampNeg) = (-1) then 0 else ((1 : Int32) <<< (l5 &&& 31))) : Int32)), wT_run d 55 [.ref 54, .null, .ref 27, .ref 41, .int l4, .int l5, .null, .null] [.int z1, .int l4] s1 (pm_si (pm_si M1 56 l5.toNatClampNeg r1) 55 l5.toNatClampNeg (-1)) Q := by
      intro z1 z1e
      subst z1e
      refine s_ior (by decide +kernel) (pn 56 rfl ?_)
      obtain ⟨v1, ev1⟩ : ∃ zz : Int32, zz = l4 ||| ((if ((pm_si M1 56 l5.toNatClampNeg r1).1 56 l5.toNatClampNeg) = (-1) then 0 else ((1 : Int32) <<< (l5 &&& 31))) : Int32) := ⟨_, rfl⟩
      have h := h v1 ev1
      rw [← ev1]
      refine s_istore (i := 4) (by decide +kernel) (Nat.le_of_ble_eq_true rfl) (pn 58 rfl (t_store (ls' := [.ref 54, .null, .ref 27, .ref 41, .int v1, .int l5, .null, .null]) rfl ?_))
      refine t_iinc (i := 5) (n := 1) (ls' := [.ref 54, .null, .ref 27, .ref 41, .int v1, .int (l5 + 1), .null, .null]) (by decide +kernel) rfl (Nat.le_of_ble_eq_true rfl) kn_1 rfl (pn 61 rfl ?_)
      refine s_goto (off := -55) (tgt := 6) (by decide +kernel) rfl ?_
      exact h
    refine t_icmp_ne (off := 7) (tgt := 51) (by decide +kernel) rfl (fun c2 => ?_) (fun c2 => (pn 47 rfl ?_))
    · refine t_iconst (by decide +kernel) ki_1 (pn 52 rfl ?_)
      refine s_iload (i := 5) (by decide +kernel) rfl (pn 54 rfl ?_)
      refine s_ishl (by decide +kernel) (pn 55 rfl ?_)
      exact k1 _ (by simp only [if_neg c2])
    · refine t_iconst (by decide +kernel) ki_0 (pn 48 rfl ?_)
      refine s_goto (off := 7) (tgt := 55) (by decide +kernel) rfl ?_
      exact k1 _ (by simp only [if_pos c2])
theorem sgT_run_70 {d : Nat} {s : pm_S} {M : pm_M} {l4 : Int32} {l5 : Int32} {l6 : Int32} {Q : Int32 → pm_S → pm_M → Prop}  (h : (((6 ≤ l6) → Q l5 s M) ∧ (¬ (6 ≤ l6) → (((l4 = 0) → Q l5 s M) ∧ (¬ (l4 = 0) → wT_run d 85 [.ref 54, .null, .null, .ref 41, .int l4, .int l5, .int l6, .int 0] [] s M Q))))) : wT_run d 70 [.ref 54, .null, .null, .ref 41, .int l4, .int l5, .int l6, .null] [] s M Q := by
  refine s_iload (i := 6) (by decide +kernel) rfl (pn 72 rfl ?_)
  refine t_bipush (by decide +kernel) kb_6 (pn 74 rfl ?_)
  refine s_icmp_ge (off := 78) (tgt := 152) (by decide +kernel) rfl (fun c1 => ?_) (fun c1 => (pn 77 rfl ?_))
  · have h := h.1 c1
    refine s_iload (i := 5) (by decide +kernel) rfl (pn 154 rfl ?_)
    exact s_ireturn (st := []) (by decide +kernel) (Or.inl rfl) ⟨_, rfl, s, rfl, h⟩
  · have h := h.2 c1
    refine s_iload (i := 4) (by decide +kernel) rfl (pn 79 rfl ?_)
    refine s_if_eq (off := 73) (tgt := 152) (by decide +kernel) rfl (fun c3 => ?_) (fun c3 => (pn 82 rfl ?_))
    · have h := h.1 c3
      refine s_iload (i := 5) (by decide +kernel) rfl (pn 154 rfl ?_)
      exact s_ireturn (st := []) (by decide +kernel) (Or.inl rfl) ⟨_, rfl, s, rfl, h⟩
    · have h := h.2 c3
      refine t_iconst (by decide +kernel) ki_0 (pn 83 rfl ?_)
      refine s_istore (i := 7) (by decide +kernel) (Nat.le_of_ble_eq_true rfl) (pn 85 rfl (t_store (ls' := [.ref 54, .null, .null, .ref 41, .int l4, .int l5, .int l6, .int 0]) rfl ?_))
      exact h
theorem sgT_run_85 {d : Nat} {s : pm_S} {M : pm_M} {l4 : Int32} {l5 : Int32} {l6 : Int32} {l7 : Int32} {Q : Int32 → pm_S → pm_M → Prop}  (h : (((6 ≤ l7) → cI d yT_settle [.ref 54, .int l4] s M (fun r1 s1 M1 => wT_run d 70 [.ref 54, .null, .null, .ref 41, .int (l4 &&& (r1 ^^^ (-1))), .int (l5 + 1), .int (l6 + 1), .null] [] s1 M1 Q)) ∧ (¬ (6 ≤ l7) → ((((l4 >>> (l7 &&& 31)) &&& 1) = 1 → cI d yT_choice [.ref 54, .ref 41, .int l7, .int l4] s M (fun r2 s2 M2 => vp_in l7 6 ∧ wT_run d 85 [.ref 54, .null, .null, .ref 41, .int l4, .int l5, .int l6, .int (l7 + 1)] [] s2 (pm_si M2 57 l7.toNatClampNeg r2) Q)) ∧ (¬ (((l4 >>> (l7 &&& 31)) &&& 1) = 1) → vp_in l7 6 ∧ wT_run d 85 [.ref 54, .null, .null, .ref 41, .int l4, .int l5, .int l6, .int (l7 + 1)] [] s (pm_si M 57 l7.toNatClampNeg l7) Q))))) : wT_run d 85 [.ref 54, .null, .null, .ref 41, .int l4, .int l5, .int l6, .int l7] [] s M Q := by
  refine s_iload (i := 7) (by decide +kernel) rfl (pn 87 rfl ?_)
  refine t_bipush (by decide +kernel) kb_6 (pn 89 rfl ?_)
  refine s_icmp_ge (off := 41) (tgt := 130) (by decide +kernel) rfl (fun c1 => ?_) (fun c1 => (pn 92 rfl ?_))
  · have h := h.1 c1
    refine s_iload (i := 4) (by decide +kernel) rfl (pn 132 rfl ?_)
    refine s_aload_n (i := 0) (by decide +kernel) rfl (pn 133 rfl ?_)
    refine s_iload (i := 4) (by decide +kernel) rfl (pn 135 rfl ?_)
    refine s_callvI [.int l4] rfl (by decide +kernel) mv_8_31 np_104 (Nat.le_of_ble_eq_true rfl) lq_54 ((congrArg Prod.fst sh_54).trans oc_104) (cI_use h (fun r1 s1 M1 h => (pn 138 rfl ?_)))
    refine t_iconst (by decide +kernel) ki_m1 (pn 139 rfl ?_)
    refine s_ixor (by decide +kernel) (pn 140 rfl ?_)
    refine s_iand (by decide +kernel) (pn 141 rfl ?_)
    refine s_istore (i := 4) (by decide +kernel) (Nat.le_of_ble_eq_true rfl) (pn 143 rfl (t_store (ls' := [.ref 54, .null, .null, .ref 41, .int (l4 &&& (r1 ^^^ (-1))), .int l5, .int l6, .int l7]) rfl ?_))
    refine t_iinc (i := 5) (n := 1) (ls' := [.ref 54, .null, .null, .ref 41, .int (l4 &&& (r1 ^^^ (-1))), .int (l5 + 1), .int l6, .int l7]) (by decide +kernel) rfl (Nat.le_of_ble_eq_true rfl) kn_1 rfl (pn 146 rfl ?_)
    refine t_iinc (i := 6) (n := 1) (ls' := [.ref 54, .null, .null, .ref 41, .int (l4 &&& (r1 ^^^ (-1))), .int (l5 + 1), .int (l6 + 1), .int l7]) (by decide +kernel) rfl (Nat.le_of_ble_eq_true rfl) kn_1 rfl (pn 149 rfl ?_)
    refine s_goto (off := -79) (tgt := 70) (by decide +kernel) rfl ?_
    exact pm_weak [.ref 54, .null, .null, .ref 41, .int (l4 &&& (r1 ^^^ (-1))), .int (l5 + 1), .int (l6 + 1), .null] (pm_le_cons (Or.inr rfl) (pm_le_cons (Or.inl rfl) (pm_le_cons (Or.inl rfl) (pm_le_cons (Or.inr rfl) (pm_le_cons (Or.inr rfl) (pm_le_cons (Or.inr rfl) (pm_le_cons (Or.inr rfl) (pm_le_cons (Or.inl rfl) pm_le_nil)))))))) h
  · have h := h.2 c1
    refine s_aload_n (i := 0) (by decide +kernel) rfl (pn 93 rfl ?_)
    refine s_getfield (v := .ref 57) (by decide +kernel) fr_8_18 lq_54 (congrArg Prod.fst sh_54) (fv_ref pf_54_2) (pn 96 rfl ?_)
    refine s_iload (i := 7) (by decide +kernel) rfl (pn 98 rfl ?_)
    refine s_iload (i := 4) (by decide +kernel) rfl (pn 100 rfl ?_)
    refine s_iload (i := 7) (by decide +kernel) rfl (pn 102 rfl ?_)
    refine s_ishr (by decide +kernel) (pn 103 rfl ?_)
    refine t_iconst (by decide +kernel) ki_1 (pn 104 rfl ?_)
    refine s_iand (by decide +kernel) (pn 105 rfl ?_)
    refine t_iconst (by decide +kernel) ki_1 (pn 106 rfl ?_)
    refine t_icmp_ne (off := 15) (tgt := 121) (by decide +kernel) rfl (fun c2 => ?_) (fun c2 => (pn 109 rfl ?_))
    · have h := h.2 c2
      refine s_iload (i := 7) (by decide +kernel) rfl (pn 123 rfl ?_)
      obtain ⟨b1, h⟩ := h
      refine t_iastore (k := l7.toNatClampNeg) (by decide +kernel) ⟨lq_57, congrArg Prod.fst sh_57⟩ (al_in sh_57 b1) rfl (pn 124 rfl ?_)
      refine t_iinc (i := 7) (n := 1) (ls' := [.ref 54, .null, .null, .ref 41, .int l4, .int l5, .int l6, .int (l7 + 1)]) (by decide +kernel) rfl (Nat.le_of_ble_eq_true rfl) kn_1 rfl (pn 127 rfl ?_)
      refine s_goto (off := -42) (tgt := 85) (by decide +kernel) rfl ?_
      exact h
    · have h := h.1 c2
      refine s_aload_n (i := 0) (by decide +kernel) rfl (pn 110 rfl ?_)
      refine s_aload_n (i := 3) (by decide +kernel) rfl (pn 111 rfl ?_)
      refine s_iload (i := 7) (by decide +kernel) rfl (pn 113 rfl ?_)
      refine s_iload (i := 4) (by decide +kernel) rfl (pn 115 rfl ?_)
      refine s_callvI [.ref 41, .int l7, .int l4] rfl (by decide +kernel) mv_8_27 np_103 (Nat.le_of_ble_eq_true rfl) lq_54 ((congrArg Prod.fst sh_54).trans oc_103) (cI_use h (fun r2 s2 M2 h => (pn 118 rfl ?_)))
      refine s_goto (off := 5) (tgt := 123) (by decide +kernel) rfl ?_
      obtain ⟨b2, h⟩ := h
      refine t_iastore (k := l7.toNatClampNeg) (by decide +kernel) ⟨lq_57, congrArg Prod.fst sh_57⟩ (al_in sh_57 b2) rfl (pn 124 rfl ?_)
      refine t_iinc (i := 7) (n := 1) (ls' := [.ref 54, .null, .null, .ref 41, .int l4, .int l5, .int l6, .int (l7 + 1)]) (by decide +kernel) rfl (Nat.le_of_ble_eq_true rfl) kn_1 rfl (pn 127 rfl ?_)
      refine s_goto (off := -42) (tgt := 85) (by decide +kernel) rfl ?_
      exact h
abbrev wT_choice (d pc : Nat) (ls st : List Value) (s : pm_S) (M : pm_M) (Q : Int32 → pm_S → pm_M → Prop) : Prop := wI d prog_10_method_3_code 8 (some .int) false pc ls st s M Q
theorem enT_choice {d : Nat} {s : pm_S} {M : pm_M} {x2 : Int32} {x3 : Int32} {Q : Int32 → pm_S → pm_M → Prop}  (h : vp_in x2 6 ∧ cI d yK_of [.ref 41, .int x2, .int (M.1 56 x2.toNatClampNeg)] s M (fun r1 s1 M1 => wT_choice d 19 [.ref 54, .ref 41, .int x2, .int x3, .int x2, .int r1, .int 0, .null] [] s1 M1 Q)) : cI (d + 1) yT_choice [.ref 54, .ref 41, .int x2, .int x3] s M Q := by
  refine pm_toI (by decide) (Nat.le_of_ble_eq_true rfl) ?_
  show wT_choice d 0 [.ref 54, .ref 41, .int x2, .int x3, .null, .null, .null, .null] [] s M Q
  refine s_iload_n (i := 2) (by decide +kernel) rfl (pn 1 rfl ?_)
  refine s_istore (i := 4) (by decide +kernel) (Nat.le_of_ble_eq_true rfl) (pn 3 rfl (t_store (ls' := [.ref 54, .ref 41, .int x2, .int x3, .int x2, .null, .null, .null]) rfl ?_))
  refine s_aload_n (i := 1) (by decide +kernel) rfl (pn 4 rfl ?_)
  refine s_iload_n (i := 2) (by decide +kernel) rfl (pn 5 rfl ?_)
  refine s_aload_n (i := 0) (by decide +kernel) rfl (pn 6 rfl ?_)
  refine s_getfield (v := .ref 56) (by decide +kernel) fr_8_15 lq_54 (congrArg Prod.fst sh_54) (fv_ref pf_54_1) (pn 9 rfl ?_)
  refine s_iload_n (i := 2) (by decide +kernel) rfl (pn 10 rfl ?_)
  obtain ⟨b1, h⟩ := h
  refine t_iaload (v := M.1 56 x2.toNatClampNeg) (by decide +kernel) ⟨Or.inl lq_56, congrArg Prod.fst sh_56⟩ (al_in sh_56 b1) rfl (pn 11 rfl ?_)
  refine s_callvI [.int x2, .int (M.1 56 x2.toNatClampNeg)] rfl (by decide +kernel) mv_8_34 np_2 (Nat.le_of_ble_eq_true rfl) lq_41 ((congrArg Prod.fst sh_41).trans oc_2) (cI_use h (fun r1 s1 M1 h => (pn 14 rfl ?_)))
  refine s_istore (i := 5) (by decide +kernel) (Nat.le_of_ble_eq_true rfl) (pn 16 rfl (t_store (ls' := [.ref 54, .ref 41, .int x2, .int x3, .int x2, .int r1, .null, .null]) rfl ?_))
  refine t_iconst (by decide +kernel) ki_0 (pn 17 rfl ?_)
  refine s_istore (i := 6) (by decide +kernel) (Nat.le_of_ble_eq_true rfl) (pn 19 rfl (t_store (ls' := [.ref 54, .ref 41, .int x2, .int x3, .int x2, .int r1, .int 0, .null]) rfl ?_))
  exact h
theorem sgT_choice_19 {d : Nat} {s : pm_S} {M : pm_M} {l2 : Int32} {l3 : Int32} {l4 : Int32} {l5 : Int32} {l6 : Int32} {Q : Int32 → pm_S → pm_M → Prop}  (h : (((6 ≤ l6) → Q l4 s M) ∧ (¬ (6 ≤ l6) → ((((l3 >>> (l6 &&& 31)) &&& 1) = 1 → vp_in l6 6 ∧ cI d yK_of [.ref 41, .int l2, .int (M.1 56 l6.toNatClampNeg)] s M (fun r1 s1 M1 => (¬ (l5 < r1) → ((r1 = l5) → (¬ (l4 = l2) → vp_in l6 6))) ∧ (¬ (l5 < r1) → ((r1 = l5) → (¬ (l4 = l2) → vp_in l4 6))) ∧ wT_choice d 19 [.ref 54, .ref 41, .int l2, .int l3, .int ((if l5 < r1 then l6 else (if r1 = l5 then (if l4 = l2 then l4 else (if (M1.1 56 l4.toNatClampNeg) ≤ (M1.1 56 l6.toNatClampNeg) then l4 else l6)) else l4)) : Int32), .int ((if l5 < r1 then r1 else (if r1 = l5 then (if l4 = l2 then l5 else (if (M1.1 56 l4.toNatClampNeg) ≤ (M1.1 56 l6.toNatClampNeg) then l5 else r1)) else l5)) : Int32), .int (l6 + 1), .null] [] s1 M1 Q)) ∧ (¬ (((l3 >>> (l6 &&& 31)) &&& 1) = 1) → wT_choice d 19 [.ref 54, .ref 41, .int l2, .int l3, .int l4, .int l5, .int (l6 + 1), .null] [] s M Q))))) : wT_choice d 19 [.ref 54, .ref 41, .int l2, .int l3, .int l4, .int l5, .int l6, .null] [] s M Q := by
  refine s_iload (i := 6) (by decide +kernel) rfl (pn 21 rfl ?_)
  refine t_bipush (by decide +kernel) kb_6 (pn 23 rfl ?_)
  refine s_icmp_ge (off := 78) (tgt := 101) (by decide +kernel) rfl (fun c1 => ?_) (fun c1 => (pn 26 rfl ?_))
  · have h := h.1 c1
    refine s_iload (i := 4) (by decide +kernel) rfl (pn 103 rfl ?_)
    exact s_ireturn (st := []) (by decide +kernel) (Or.inl rfl) ⟨_, rfl, s, rfl, h⟩
  · have h := h.2 c1
    refine s_iload_n (i := 3) (by decide +kernel) rfl (pn 27 rfl ?_)
    refine s_iload (i := 6) (by decide +kernel) rfl (pn 29 rfl ?_)
    refine s_ishr (by decide +kernel) (pn 30 rfl ?_)
    refine t_iconst (by decide +kernel) ki_1 (pn 31 rfl ?_)
    refine s_iand (by decide +kernel) (pn 32 rfl ?_)
    refine t_iconst (by decide +kernel) ki_1 (pn 33 rfl ?_)
    refine t_icmp_ne (off := 62) (tgt := 95) (by decide +kernel) rfl (fun c2 => ?_) (fun c2 => (pn 36 rfl ?_))
    · have h := h.2 c2
      refine t_iinc (i := 6) (n := 1) (ls' := [.ref 54, .ref 41, .int l2, .int l3, .int l4, .int l5, .int (l6 + 1), .null]) (by decide +kernel) rfl (Nat.le_of_ble_eq_true rfl) kn_1 rfl (pn 98 rfl ?_)
      refine s_goto (off := -79) (tgt := 19) (by decide +kernel) rfl ?_
      exact h
    · have h := h.1 c2
      refine s_aload_n (i := 1) (by decide +kernel) rfl (pn 37 rfl ?_)
      refine s_iload_n (i := 2) (by decide +kernel) rfl (pn 38 rfl ?_)
      refine s_aload_n (i := 0) (by decide +kernel) rfl (pn 39 rfl ?_)
      refine s_getfield (v := .ref 56) (by decide +kernel) fr_8_15 lq_54 (congrArg Prod.fst sh_54) (fv_ref pf_54_1) (pn 42 rfl ?_)
      refine s_iload (i := 6) (by decide +kernel) rfl (pn 44 rfl ?_)
      obtain ⟨b1, h⟩ := h
      refine t_iaload (v := M.1 56 l6.toNatClampNeg) (by decide +kernel) ⟨Or.inl lq_56, congrArg Prod.fst sh_56⟩ (al_in sh_56 b1) rfl (pn 45 rfl ?_)
      refine s_callvI [.int l2, .int (M.1 56 l6.toNatClampNeg)] rfl (by decide +kernel) mv_8_34 np_2 (Nat.le_of_ble_eq_true rfl) lq_41 ((congrArg Prod.fst sh_41).trans oc_2) (cI_use h (fun r1 s1 M1 h => (pn 48 rfl ?_)))
      refine s_istore (i := 7) (by decide +kernel) (Nat.le_of_ble_eq_true rfl) (pn 50 rfl (t_store (ls' := [.ref 54, .ref 41, .int l2, .int l3, .int l4, .int l5, .int l6, .int r1]) rfl ?_))
      refine s_iload (i := 7) (by decide +kernel) rfl (pn 52 rfl ?_)
      refine s_iload (i := 5) (by decide +kernel) rfl (pn 54 rfl ?_)
      obtain ⟨b2, h⟩ := h
      obtain ⟨b3, h⟩ := h
      have k1 : ∀ (z1 : Int32) (z1e : z1 = ((if l5 < r1 then l6 else (if r1 = l5 then (if l4 = l2 then l4 else (if (M1.1 56 l4.toNatClampNeg) ≤ (M1.1 56 l6.toNatClampNeg) then l4 else l6)) else l4)) : Int32)) (z2 : Int32) (z2e : z2 = ((if l5 < r1 then r1 else (if r1 = l5 then (if l4 = l2 then l5 else (if (M1.1 56 l4.toNatClampNeg) ≤ (M1.1 56 l6.toNatClampNeg) then l5 else r1)) else l5)) : Int32)), wT_choice d 95 [.ref 54, .ref 41, .int l2, .int l3, .int z1, .int z2, .int l6, .int r1] [] s1 M1 Q := by
        intro z1 z1e z2 z2e
        subst z1e z2e
        refine t_iinc (i := 6) (n := 1) (ls' := [.ref 54, .ref 41, .int l2, .int l3, .int ((if l5 < r1 then l6 else (if r1 = l5 then (if l4 = l2 then l4 else (if (M1.1 56 l4.toNatClampNeg) ≤ (M1.1 56 l6.toNatClampNeg) then l4 else l6)) else l4)) : Int32), .int ((if l5 < r1 then r1 else (if r1 = l5 then (if l4 = l2 then l5 else (if (M1.1 56 l4.toNatClampNeg) ≤ (M1.1 56 l6.toNatClampNeg) then l5 else r1)) else l5)) : Int32), .int (l6 + 1), .int r1]) (by decide +kernel) rfl (Nat.le_of_ble_eq_true rfl) kn_1 rfl (pn 98 rfl ?_)
        refine s_goto (off := -79) (tgt := 19) (by decide +kernel) rfl ?_
        exact pm_weak [.ref 54, .ref 41, .int l2, .int l3, .int ((if l5 < r1 then l6 else (if r1 = l5 then (if l4 = l2 then l4 else (if (M1.1 56 l4.toNatClampNeg) ≤ (M1.1 56 l6.toNatClampNeg) then l4 else l6)) else l4)) : Int32), .int ((if l5 < r1 then r1 else (if r1 = l5 then (if l4 = l2 then l5 else (if (M1.1 56 l4.toNatClampNeg) ≤ (M1.1 56 l6.toNatClampNeg) then l5 else r1)) else l5)) : Int32), .int (l6 + 1), .null] (pm_le_cons (Or.inr rfl) (pm_le_cons (Or.inr rfl) (pm_le_cons (Or.inr rfl) (pm_le_cons (Or.inr rfl) (pm_le_cons (Or.inr rfl) (pm_le_cons (Or.inr rfl) (pm_le_cons (Or.inr rfl) (pm_le_cons (Or.inl rfl) pm_le_nil)))))))) h
      refine s_icmp_gt (off := 33) (tgt := 87) (by decide +kernel) rfl (fun c3 => ?_) (fun c3 => (pn 57 rfl ?_))
      · refine s_iload (i := 7) (by decide +kernel) rfl (pn 89 rfl ?_)
        refine s_istore (i := 5) (by decide +kernel) (Nat.le_of_ble_eq_true rfl) (pn 91 rfl (t_store (ls' := [.ref 54, .ref 41, .int l2, .int l3, .int l4, .int r1, .int l6, .int r1]) rfl ?_))
        refine s_iload (i := 6) (by decide +kernel) rfl (pn 93 rfl ?_)
        refine s_istore (i := 4) (by decide +kernel) (Nat.le_of_ble_eq_true rfl) (pn 95 rfl (t_store (ls' := [.ref 54, .ref 41, .int l2, .int l3, .int l6, .int r1, .int l6, .int r1]) rfl ?_))
        exact k1 _ (by simp only [if_pos c3]) _ (by simp only [if_pos c3])
      · refine s_iload (i := 7) (by decide +kernel) rfl (pn 59 rfl ?_)
        refine s_iload (i := 5) (by decide +kernel) rfl (pn 61 rfl ?_)
        refine t_icmp_ne (off := 34) (tgt := 95) (by decide +kernel) rfl (fun c4 => ?_) (fun c4 => (pn 64 rfl ?_))
        · exact k1 _ (by simp only [if_neg c3, if_neg c4]) _ (by simp only [if_neg c3, if_neg c4])
        · refine s_iload (i := 4) (by decide +kernel) rfl (pn 66 rfl ?_)
          refine s_iload_n (i := 2) (by decide +kernel) rfl (pn 67 rfl ?_)
          refine s_icmp_eq (off := 28) (tgt := 95) (by decide +kernel) rfl (fun c5 => ?_) (fun c5 => (pn 70 rfl ?_))
          · exact k1 _ (by simp only [if_neg c3, if_pos c4, if_pos c5]) _ (by simp only [if_neg c3, if_pos c4, if_pos c5])
          · refine s_aload_n (i := 0) (by decide +kernel) rfl (pn 71 rfl ?_)
            refine s_getfield (v := .ref 56) (by decide +kernel) fr_8_15 lq_54 (congrArg Prod.fst sh_54) (fv_ref pf_54_1) (pn 74 rfl ?_)
            refine s_iload (i := 6) (by decide +kernel) rfl (pn 76 rfl ?_)
            refine t_iaload (v := M1.1 56 l6.toNatClampNeg) (by decide +kernel) ⟨Or.inl lq_56, congrArg Prod.fst sh_56⟩ (al_in sh_56 (b2 c3 c4 c5)) rfl (pn 77 rfl ?_)
            refine s_aload_n (i := 0) (by decide +kernel) rfl (pn 78 rfl ?_)
            refine s_getfield (v := .ref 56) (by decide +kernel) fr_8_15 lq_54 (congrArg Prod.fst sh_54) (fv_ref pf_54_1) (pn 81 rfl ?_)
            refine s_iload (i := 4) (by decide +kernel) rfl (pn 83 rfl ?_)
            refine t_iaload (v := M1.1 56 l4.toNatClampNeg) (by decide +kernel) ⟨Or.inl lq_56, congrArg Prod.fst sh_56⟩ (al_in sh_56 (b3 c3 c4 c5)) rfl (pn 84 rfl ?_)
            refine s_icmp_ge (off := 11) (tgt := 95) (by decide +kernel) rfl (fun c6 => ?_) (fun c6 => (pn 87 rfl ?_))
            · exact k1 _ (by simp only [if_neg c3, if_pos c4, if_neg c5, if_pos c6]) _ (by simp only [if_neg c3, if_pos c4, if_neg c5, if_pos c6])
            · refine s_iload (i := 7) (by decide +kernel) rfl (pn 89 rfl ?_)
              refine s_istore (i := 5) (by decide +kernel) (Nat.le_of_ble_eq_true rfl) (pn 91 rfl (t_store (ls' := [.ref 54, .ref 41, .int l2, .int l3, .int l4, .int r1, .int l6, .int r1]) rfl ?_))
              refine s_iload (i := 6) (by decide +kernel) rfl (pn 93 rfl ?_)
              refine s_istore (i := 4) (by decide +kernel) (Nat.le_of_ble_eq_true rfl) (pn 95 rfl (t_store (ls' := [.ref 54, .ref 41, .int l2, .int l3, .int l6, .int r1, .int l6, .int r1]) rfl ?_))
              exact k1 _ (by simp only [if_neg c3, if_pos c4, if_neg c5, if_neg c6]) _ (by simp only [if_neg c3, if_pos c4, if_neg c5, if_neg c6])
abbrev wT_settle (d pc : Nat) (ls st : List Value) (s : pm_S) (M : pm_M) (Q : Int32 → pm_S → pm_M → Prop) : Prop := wI d prog_10_method_4_code 8 (some .int) false pc ls st s M Q
theorem enT_settle {d : Nat} {s : pm_S} {M : pm_M} {x1 : Int32} {Q : Int32 → pm_S → pm_M → Prop}  (h : wT_settle d 4 [.ref 54, .int x1, .int 0, .int 0] [] s M Q) : cI (d + 1) yT_settle [.ref 54, .int x1] s M Q := by
  refine pm_toI (by decide) (Nat.le_of_ble_eq_true rfl) ?_
  show wT_settle d 0 [.ref 54, .int x1, .null, .null] [] s M Q
  refine t_iconst (by decide +kernel) ki_0 (pn 1 rfl ?_)
  refine s_istore_n (i := 2) (by decide +kernel) (Nat.le_of_ble_eq_true rfl) (pn 2 rfl (t_store (ls' := [.ref 54, .int x1, .int 0, .null]) rfl ?_))
  refine t_iconst (by decide +kernel) ki_0 (pn 3 rfl ?_)
  refine s_istore_n (i := 3) (by decide +kernel) (Nat.le_of_ble_eq_true rfl) (pn 4 rfl (t_store (ls' := [.ref 54, .int x1, .int 0, .int 0]) rfl ?_))
  exact h
theorem sgT_settle_4 {d : Nat} {s : pm_S} {M : pm_M} {l1 : Int32} {l2 : Int32} {l3 : Int32} {Q : Int32 → pm_S → pm_M → Prop}  (h : (((6 ≤ l3) → Q l2 s M) ∧ (¬ (6 ≤ l3) → ((((l1 >>> (l3 &&& 31)) &&& 1) = 1 → cI d yT_isOnRing [.ref 54, .int l3] s M (fun r1 s1 M1 => (((r1 = 0) → wT_settle d 4 [.ref 54, .int l1, .int l2, .int (l3 + 1)] [] s1 M1 Q) ∧ (¬ (r1 = 0) → vp_in l3 6 ∧ vp_in (M1.1 57 l3.toNatClampNeg) 6 ∧ vp_in l3 6 ∧ wT_settle d 4 [.ref 54, .int l1, .int (l2 ||| ((1 : Int32) <<< (l3 &&& 31))), .int (l3 + 1)] [] s1 (pm_si M1 55 l3.toNatClampNeg (M1.1 56 (M1.1 57 l3.toNatClampNeg).toNatClampNeg)) Q)))) ∧ (¬ (((l1 >>> (l3 &&& 31)) &&& 1) = 1) → wT_settle d 4 [.ref 54, .int l1, .int l2, .int (l3 + 1)] [] s M Q))))) : wT_settle d 4 [.ref 54, .int l1, .int l2, .int l3] [] s M Q := by
  refine s_iload_n (i := 3) (by decide +kernel) rfl (pn 5 rfl ?_)
  refine t_bipush (by decide +kernel) kb_6 (pn 7 rfl ?_)
  refine s_icmp_ge (off := 49) (tgt := 56) (by decide +kernel) rfl (fun c1 => ?_) (fun c1 => (pn 10 rfl ?_))
  · have h := h.1 c1
    refine s_iload_n (i := 2) (by decide +kernel) rfl (pn 57 rfl ?_)
    exact s_ireturn (st := []) (by decide +kernel) (Or.inl rfl) ⟨_, rfl, s, rfl, h⟩
  · have h := h.2 c1
    refine s_iload_n (i := 1) (by decide +kernel) rfl (pn 11 rfl ?_)
    refine s_iload_n (i := 3) (by decide +kernel) rfl (pn 12 rfl ?_)
    refine s_ishr (by decide +kernel) (pn 13 rfl ?_)
    refine t_iconst (by decide +kernel) ki_1 (pn 14 rfl ?_)
    refine s_iand (by decide +kernel) (pn 15 rfl ?_)
    refine t_iconst (by decide +kernel) ki_1 (pn 16 rfl ?_)
    refine t_icmp_ne (off := 34) (tgt := 50) (by decide +kernel) rfl (fun c2 => ?_) (fun c2 => (pn 19 rfl ?_))
    · have h := h.2 c2
      refine t_iinc (i := 3) (n := 1) (ls' := [.ref 54, .int l1, .int l2, .int (l3 + 1)]) (by decide +kernel) rfl (Nat.le_of_ble_eq_true rfl) kn_1 rfl (pn 53 rfl ?_)
      refine s_goto (off := -49) (tgt := 4) (by decide +kernel) rfl ?_
      exact h
    · have h := h.1 c2
      refine s_aload_n (i := 0) (by decide +kernel) rfl (pn 20 rfl ?_)
      refine s_iload_n (i := 3) (by decide +kernel) rfl (pn 21 rfl ?_)
      refine s_callvI [.int l3] rfl (by decide +kernel) mv_8_40 np_105 (Nat.le_of_ble_eq_true rfl) lq_54 ((congrArg Prod.fst sh_54).trans oc_105) (cI_use h (fun r1 s1 M1 h => (pn 24 rfl ?_)))
      refine s_if_eq (off := 26) (tgt := 50) (by decide +kernel) rfl (fun c3 => ?_) (fun c3 => (pn 27 rfl ?_))
      · have h := h.1 c3
        refine t_iinc (i := 3) (n := 1) (ls' := [.ref 54, .int l1, .int l2, .int (l3 + 1)]) (by decide +kernel) rfl (Nat.le_of_ble_eq_true rfl) kn_1 rfl (pn 53 rfl ?_)
        refine s_goto (off := -49) (tgt := 4) (by decide +kernel) rfl ?_
        exact h
      · have h := h.2 c3
        refine s_aload_n (i := 0) (by decide +kernel) rfl (pn 28 rfl ?_)
        refine s_getfield (v := .ref 55) (by decide +kernel) fr_8_9 lq_54 (congrArg Prod.fst sh_54) (fv_ref pf_54_0) (pn 31 rfl ?_)
        refine s_iload_n (i := 3) (by decide +kernel) rfl (pn 32 rfl ?_)
        refine s_aload_n (i := 0) (by decide +kernel) rfl (pn 33 rfl ?_)
        refine s_getfield (v := .ref 56) (by decide +kernel) fr_8_15 lq_54 (congrArg Prod.fst sh_54) (fv_ref pf_54_1) (pn 36 rfl ?_)
        refine s_aload_n (i := 0) (by decide +kernel) rfl (pn 37 rfl ?_)
        refine s_getfield (v := .ref 57) (by decide +kernel) fr_8_18 lq_54 (congrArg Prod.fst sh_54) (fv_ref pf_54_2) (pn 40 rfl ?_)
        refine s_iload_n (i := 3) (by decide +kernel) rfl (pn 41 rfl ?_)
        obtain ⟨b1, h⟩ := h
        refine t_iaload (v := M1.1 57 l3.toNatClampNeg) (by decide +kernel) ⟨Or.inl lq_57, congrArg Prod.fst sh_57⟩ (al_in sh_57 b1) rfl (pn 42 rfl ?_)
        obtain ⟨b2, h⟩ := h
        refine t_iaload (v := M1.1 56 (M1.1 57 l3.toNatClampNeg).toNatClampNeg) (by decide +kernel) ⟨Or.inl lq_56, congrArg Prod.fst sh_56⟩ (al_in sh_56 b2) rfl (pn 43 rfl ?_)
        obtain ⟨b3, h⟩ := h
        refine t_iastore (k := l3.toNatClampNeg) (by decide +kernel) ⟨lq_55, congrArg Prod.fst sh_55⟩ (al_in sh_55 b3) rfl (pn 44 rfl ?_)
        refine s_iload_n (i := 2) (by decide +kernel) rfl (pn 45 rfl ?_)
        refine t_iconst (by decide +kernel) ki_1 (pn 46 rfl ?_)
        refine s_iload_n (i := 3) (by decide +kernel) rfl (pn 47 rfl ?_)
        refine s_ishl (by decide +kernel) (pn 48 rfl ?_)
        refine s_ior (by decide +kernel) (pn 49 rfl ?_)
        refine s_istore_n (i := 2) (by decide +kernel) (Nat.le_of_ble_eq_true rfl) (pn 50 rfl (t_store (ls' := [.ref 54, .int l1, .int (l2 ||| ((1 : Int32) <<< (l3 &&& 31))), .int l3]) rfl ?_))
        refine t_iinc (i := 3) (n := 1) (ls' := [.ref 54, .int l1, .int (l2 ||| ((1 : Int32) <<< (l3 &&& 31))), .int (l3 + 1)]) (by decide +kernel) rfl (Nat.le_of_ble_eq_true rfl) kn_1 rfl (pn 53 rfl ?_)
        refine s_goto (off := -49) (tgt := 4) (by decide +kernel) rfl ?_
        exact h
abbrev wT_isOnRing (d pc : Nat) (ls st : List Value) (s : pm_S) (M : pm_M) (Q : Int32 → pm_S → pm_M → Prop) : Prop := wI d prog_10_method_5_code 8 (some .boolean) false pc ls st s M Q
theorem enT_isOnRing {d : Nat} {s : pm_S} {M : pm_M} {x1 : Int32} {Q : Int32 → pm_S → pm_M → Prop}  (h : vp_in x1 6 ∧ wT_isOnRing d 9 [.ref 54, .int x1, .int (M.1 57 x1.toNatClampNeg), .int 0] [] s M Q) : cI (d + 1) yT_isOnRing [.ref 54, .int x1] s M Q := by
  refine pm_toI (by decide) (Nat.le_of_ble_eq_true rfl) ?_
  show wT_isOnRing d 0 [.ref 54, .int x1, .null, .null] [] s M Q
  refine s_aload_n (i := 0) (by decide +kernel) rfl (pn 1 rfl ?_)
  refine s_getfield (v := .ref 57) (by decide +kernel) fr_8_18 lq_54 (congrArg Prod.fst sh_54) (fv_ref pf_54_2) (pn 4 rfl ?_)
  refine s_iload_n (i := 1) (by decide +kernel) rfl (pn 5 rfl ?_)
  obtain ⟨b1, h⟩ := h
  refine t_iaload (v := M.1 57 x1.toNatClampNeg) (by decide +kernel) ⟨Or.inl lq_57, congrArg Prod.fst sh_57⟩ (al_in sh_57 b1) rfl (pn 6 rfl ?_)
  refine s_istore_n (i := 2) (by decide +kernel) (Nat.le_of_ble_eq_true rfl) (pn 7 rfl (t_store (ls' := [.ref 54, .int x1, .int (M.1 57 x1.toNatClampNeg), .null]) rfl ?_))
  refine t_iconst (by decide +kernel) ki_0 (pn 8 rfl ?_)
  refine s_istore_n (i := 3) (by decide +kernel) (Nat.le_of_ble_eq_true rfl) (pn 9 rfl (t_store (ls' := [.ref 54, .int x1, .int (M.1 57 x1.toNatClampNeg), .int 0]) rfl ?_))
  exact h
theorem sgT_isOnRing_9 {d : Nat} {s : pm_S} {M : pm_M} {l1 : Int32} {l2 : Int32} {l3 : Int32} {Q : Int32 → pm_S → pm_M → Prop}  (h : (((6 ≤ l3) → Q ((if l2 = l1 then 1 else 0) : Int32) s M) ∧ (¬ (6 ≤ l3) → (((l2 = l1) → Q ((if l2 = l1 then 1 else 0) : Int32) s M) ∧ (¬ (l2 = l1) → vp_in l2 6 ∧ wT_isOnRing d 9 [.ref 54, .int l1, .int (M.1 57 l2.toNatClampNeg), .int (l3 + 1)] [] s M Q))))) : wT_isOnRing d 9 [.ref 54, .int l1, .int l2, .int l3] [] s M Q := by
  refine s_iload_n (i := 3) (by decide +kernel) rfl (pn 10 rfl ?_)
  refine t_bipush (by decide +kernel) kb_6 (pn 12 rfl ?_)
  refine s_icmp_ge (off := 21) (tgt := 33) (by decide +kernel) rfl (fun c1 => ?_) (fun c1 => (pn 15 rfl ?_))
  · have h := h.1 c1
    refine s_iload_n (i := 2) (by decide +kernel) rfl (pn 34 rfl ?_)
    refine s_iload_n (i := 1) (by decide +kernel) rfl (pn 35 rfl ?_)
    have k1 : ∀ (z1 : Int32) (z1e : z1 = ((if l2 = l1 then 1 else 0) : Int32)), wT_isOnRing d 43 [.ref 54, .int l1, .int l2, .int l3] [.int z1] s M Q := by
      intro z1 z1e
      subst z1e
      exact s_ireturn (st := []) (by decide +kernel) (Or.inr ⟨rfl, (or01 (Or.inr rfl) (Or.inl rfl))⟩) ⟨_, rfl, s, rfl, h⟩
    refine t_icmp_ne (off := 7) (tgt := 42) (by decide +kernel) rfl (fun c3 => ?_) (fun c3 => (pn 38 rfl ?_))
    · refine t_iconst (by decide +kernel) ki_0 (pn 43 rfl ?_)
      exact k1 _ (by simp only [if_neg c3])
    · refine t_iconst (by decide +kernel) ki_1 (pn 39 rfl ?_)
      refine s_goto (off := 4) (tgt := 43) (by decide +kernel) rfl ?_
      exact k1 _ (by simp only [if_pos c3])
  · have h := h.2 c1
    refine s_iload_n (i := 2) (by decide +kernel) rfl (pn 16 rfl ?_)
    refine s_iload_n (i := 1) (by decide +kernel) rfl (pn 17 rfl ?_)
    refine s_icmp_eq (off := 16) (tgt := 33) (by decide +kernel) rfl (fun c4 => ?_) (fun c4 => (pn 20 rfl ?_))
    · have h := h.1 c4
      refine s_iload_n (i := 2) (by decide +kernel) rfl (pn 34 rfl ?_)
      refine s_iload_n (i := 1) (by decide +kernel) rfl (pn 35 rfl ?_)
      have k2 : ∀ (z2 : Int32) (z2e : z2 = ((if l2 = l1 then 1 else 0) : Int32)), wT_isOnRing d 43 [.ref 54, .int l1, .int l2, .int l3] [.int z2] s M Q := by
        intro z2 z2e
        subst z2e
        exact s_ireturn (st := []) (by decide +kernel) (Or.inr ⟨rfl, (or01 (Or.inr rfl) (Or.inl rfl))⟩) ⟨_, rfl, s, rfl, h⟩
      refine t_icmp_ne (off := 7) (tgt := 42) (by decide +kernel) rfl (fun c5 => ?_) (fun c5 => (pn 38 rfl ?_))
      · refine t_iconst (by decide +kernel) ki_0 (pn 43 rfl ?_)
        exact k2 _ (by simp only [if_neg c5])
      · refine t_iconst (by decide +kernel) ki_1 (pn 39 rfl ?_)
        refine s_goto (off := 4) (tgt := 43) (by decide +kernel) rfl ?_
        exact k2 _ (by simp only [if_pos c5])
    · have h := h.2 c4
      refine s_aload_n (i := 0) (by decide +kernel) rfl (pn 21 rfl ?_)
      refine s_getfield (v := .ref 57) (by decide +kernel) fr_8_18 lq_54 (congrArg Prod.fst sh_54) (fv_ref pf_54_2) (pn 24 rfl ?_)
      refine s_iload_n (i := 2) (by decide +kernel) rfl (pn 25 rfl ?_)
      obtain ⟨b1, h⟩ := h
      refine t_iaload (v := M.1 57 l2.toNatClampNeg) (by decide +kernel) ⟨Or.inl lq_57, congrArg Prod.fst sh_57⟩ (al_in sh_57 b1) rfl (pn 26 rfl ?_)
      refine s_istore_n (i := 2) (by decide +kernel) (Nat.le_of_ble_eq_true rfl) (pn 27 rfl (t_store (ls' := [.ref 54, .int l1, .int (M.1 57 l2.toNatClampNeg), .int l3]) rfl ?_))
      refine t_iinc (i := 3) (n := 1) (ls' := [.ref 54, .int l1, .int (M.1 57 l2.toNatClampNeg), .int (l3 + 1)]) (by decide +kernel) rfl (Nat.le_of_ble_eq_true rfl) kn_1 rfl (pn 30 rfl ?_)
      refine s_goto (off := -21) (tgt := 9) (by decide +kernel) rfl ?_
      exact h
