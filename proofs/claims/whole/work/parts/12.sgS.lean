abbrev wS_begin (d pc : Nat) (ls st : List Value) (s : pm_S) (M : pm_M) (Q : pm_S → pm_M → Prop) : Prop := wV d prog_9_method_3_code 7 none false pc ls st s M Q
theorem enS_begin {d : Nat} {s : pm_S} {M : pm_M}  {Q : pm_S → pm_M → Prop}  (h : wS_begin d 2 [.ref 27, .ref 15, .int 0] [] s M Q) : cV (d + 1) yS_begin [.ref 27, .ref 15] s M Q := by
  refine pm_toV (by decide) (Nat.le_of_ble_eq_true rfl) ?_
  show wS_begin d 0 [.ref 27, .ref 15, .null] [] s M Q
  refine t_iconst (by decide +kernel) ki_0 (pn 1 rfl ?_)
  refine s_istore_n (i := 2) (by decide +kernel) (Nat.le_of_ble_eq_true rfl) (pn 2 rfl (t_store (ls' := [.ref 27, .ref 15, .int 0]) rfl ?_))
  exact h
theorem sgS_begin_2 {d : Nat} {s : pm_S} {M : pm_M} {l2 : Int32} {Q : pm_S → pm_M → Prop}  (h : (((8 ≤ l2) → wS_begin d 69 [.ref 27, .ref 15, .int 0] [] s M Q) ∧ (¬ (8 ≤ l2) → cI d yL_hasThing [.ref 15, .int l2] s M (fun r1 s1 M1 => (¬ (r1 = 0) → vp_in l2 8) ∧ (¬ (r1 = 0) → (¬ ((M1.1 19 l2.toNatClampNeg) = (-1)) → vp_in l2 8)) ∧ (¬ (r1 = 0) → (((M1.1 19 l2.toNatClampNeg) = (-1)) → vp_in l2 8)) ∧ vp_in l2 8 ∧ vp_in l2 8 ∧ wS_begin d 2 [.ref 27, .ref 15, .int (l2 + 1)] [] s1 (pm_si (pm_si M1 28 l2.toNatClampNeg ((if r1 = 0 then (-1) else (if (M1.1 19 l2.toNatClampNeg) = (-1) then (M1.1 16 l2.toNatClampNeg) else ((10 : Int32) + (M1.1 19 l2.toNatClampNeg)))) : Int32)) 29 l2.toNatClampNeg 0) Q)))) : wS_begin d 2 [.ref 27, .ref 15, .int l2] [] s M Q := by
  refine s_iload_n (i := 2) (by decide +kernel) rfl (pn 3 rfl ?_)
  refine t_bipush (by decide +kernel) kb_8 (pn 5 rfl ?_)
  refine s_icmp_ge (off := 62) (tgt := 67) (by decide +kernel) rfl (fun c1 => ?_) (fun c1 => (pn 8 rfl ?_))
  · have h := h.1 c1
    refine t_iconst (by decide +kernel) ki_0 (pn 68 rfl ?_)
    refine s_istore_n (i := 2) (by decide +kernel) (Nat.le_of_ble_eq_true rfl) (pn 69 rfl (t_store (ls' := [.ref 27, .ref 15, .int 0]) rfl ?_))
    exact h
  · have h := h.2 c1
    refine s_aload_n (i := 0) (by decide +kernel) rfl (pn 9 rfl ?_)
    refine s_getfield (v := .ref 28) (by decide +kernel) fr_7_9 lq_27 (congrArg Prod.fst sh_27) (fv_ref pf_27_0) (pn 12 rfl ?_)
    refine s_iload_n (i := 2) (by decide +kernel) rfl (pn 13 rfl ?_)
    refine s_aload_n (i := 1) (by decide +kernel) rfl (pn 14 rfl ?_)
    refine s_iload_n (i := 2) (by decide +kernel) rfl (pn 15 rfl ?_)
    refine s_callvI [.int l2] rfl (by decide +kernel) mv_7_40 np_28 (Nat.le_of_ble_eq_true rfl) lq_15 ((congrArg Prod.fst sh_15).trans oc_28) (cI_use h (fun r1 s1 M1 h => (pn 18 rfl ?_)))
    obtain ⟨b1, h⟩ := h
    obtain ⟨b2, h⟩ := h
    obtain ⟨b3, h⟩ := h
    have k1 : ∀ (z1 : Int32) (z1e : z1 = ((if r1 = 0 then (-1) else (if (M1.1 19 l2.toNatClampNeg) = (-1) then (M1.1 16 l2.toNatClampNeg) else ((10 : Int32) + (M1.1 19 l2.toNatClampNeg)))) : Int32)), wS_begin d 53 [.ref 27, .ref 15, .int l2] [.int z1, .int l2, .ref 28] s1 M1 Q := by
      intro z1 z1e
      subst z1e
      obtain ⟨b4, h⟩ := h
      refine t_iastore (k := l2.toNatClampNeg) (by decide +kernel) ⟨lq_28, congrArg Prod.fst sh_28⟩ (al_in sh_28 b4) rfl (pn 54 rfl ?_)
      refine s_aload_n (i := 0) (by decide +kernel) rfl (pn 55 rfl ?_)
      refine s_getfield (v := .ref 29) (by decide +kernel) fr_7_15 lq_27 (congrArg Prod.fst sh_27) (fv_ref pf_27_1) (pn 58 rfl ?_)
      refine s_iload_n (i := 2) (by decide +kernel) rfl (pn 59 rfl ?_)
      refine t_iconst (by decide +kernel) ki_0 (pn 60 rfl ?_)
      obtain ⟨b5, h⟩ := h
      refine t_iastore (k := l2.toNatClampNeg) (by decide +kernel) ⟨lq_29, congrArg Prod.fst sh_29⟩ (al_in sh_29 b5) rfl (pn 61 rfl ?_)
      refine t_iinc (i := 2) (n := 1) (ls' := [.ref 27, .ref 15, .int (l2 + 1)]) (by decide +kernel) rfl (Nat.le_of_ble_eq_true rfl) kn_1 rfl (pn 64 rfl ?_)
      refine s_goto (off := -62) (tgt := 2) (by decide +kernel) rfl ?_
      exact h
    refine t_if_ne (off := 7) (tgt := 25) (by decide +kernel) rfl (fun c2 => ?_) (fun c2 => (pn 21 rfl ?_))
    · refine s_aload_n (i := 1) (by decide +kernel) rfl (pn 26 rfl ?_)
      refine s_getfield (v := .ref 19) (by decide +kernel) fr_7_46 lq_15 (congrArg Prod.fst sh_15) (fv_ref pf_15_8) (pn 29 rfl ?_)
      refine s_iload_n (i := 2) (by decide +kernel) rfl (pn 30 rfl ?_)
      refine t_iaload (v := M1.1 19 l2.toNatClampNeg) (by decide +kernel) ⟨Or.inl lq_19, congrArg Prod.fst sh_19⟩ (al_in sh_19 (b1 c2)) rfl (pn 31 rfl ?_)
      refine t_iconst (by decide +kernel) ki_m1 (pn 32 rfl ?_)
      refine t_icmp_ne (off := 12) (tgt := 44) (by decide +kernel) rfl (fun c3 => ?_) (fun c3 => (pn 35 rfl ?_))
      · refine t_bipush (by decide +kernel) kb_10 (pn 46 rfl ?_)
        refine s_aload_n (i := 1) (by decide +kernel) rfl (pn 47 rfl ?_)
        refine s_getfield (v := .ref 19) (by decide +kernel) fr_7_46 lq_15 (congrArg Prod.fst sh_15) (fv_ref pf_15_8) (pn 50 rfl ?_)
        refine s_iload_n (i := 2) (by decide +kernel) rfl (pn 51 rfl ?_)
        refine t_iaload (v := M1.1 19 l2.toNatClampNeg) (by decide +kernel) ⟨Or.inl lq_19, congrArg Prod.fst sh_19⟩ (al_in sh_19 (b2 c2 c3)) rfl (pn 52 rfl ?_)
        refine s_iadd (by decide +kernel) (pn 53 rfl ?_)
        exact k1 _ (by simp only [if_neg c2, if_neg c3])
      · refine s_aload_n (i := 1) (by decide +kernel) rfl (pn 36 rfl ?_)
        refine s_getfield (v := .ref 16) (by decide +kernel) fr_7_49 lq_15 (congrArg Prod.fst sh_15) (fv_ref pf_15_5) (pn 39 rfl ?_)
        refine s_iload_n (i := 2) (by decide +kernel) rfl (pn 40 rfl ?_)
        refine t_iaload (v := M1.1 16 l2.toNatClampNeg) (by decide +kernel) ⟨Or.inl lq_16, congrArg Prod.fst sh_16⟩ (al_in sh_16 (b3 c2 c3)) rfl (pn 41 rfl ?_)
        refine s_goto (off := 12) (tgt := 53) (by decide +kernel) rfl ?_
        exact k1 _ (by simp only [if_neg c2, if_pos c3])
    · refine t_iconst (by decide +kernel) ki_m1 (pn 22 rfl ?_)
      refine s_goto (off := 31) (tgt := 53) (by decide +kernel) rfl ?_
      exact k1 _ (by simp only [if_pos c2])
theorem sgS_begin_69 {d : Nat} {s : pm_S} {M : pm_M} {l2 : Int32} {Q : pm_S → pm_M → Prop}  (h : (((6 ≤ l2) → Q s (pm_si (pm_si (pm_si M 27 4 0) 27 5 0) 27 6 0)) ∧ (¬ (6 ≤ l2) → cI d yL_hasPerson [.ref 15, .int l2] s M (fun r1 s1 M1 => (¬ (r1 = 0) → vp_in l2 6) ∧ vp_in l2 6 ∧ vp_in l2 6 ∧ wS_begin d 69 [.ref 27, .ref 15, .int (l2 + 1)] [] s1 (pm_si (pm_si M1 30 l2.toNatClampNeg ((if r1 = 0 then 0 else (M1.1 21 l2.toNatClampNeg)) : Int32)) 31 l2.toNatClampNeg 0) Q)))) : wS_begin d 69 [.ref 27, .ref 15, .int l2] [] s M Q := by
  refine s_iload_n (i := 2) (by decide +kernel) rfl (pn 70 rfl ?_)
  refine t_bipush (by decide +kernel) kb_6 (pn 72 rfl ?_)
  refine s_icmp_ge (off := 40) (tgt := 112) (by decide +kernel) rfl (fun c1 => ?_) (fun c1 => (pn 75 rfl ?_))
  · have h := h.1 c1
    refine s_aload_n (i := 0) (by decide +kernel) rfl (pn 113 rfl ?_)
    refine t_iconst (by decide +kernel) ki_0 (pn 114 rfl ?_)
    refine s_putfieldI (by decide +kernel) fr_7_30 lq_27 (congrArg Prod.fst sh_27) (fun q => by cases q) (Or.inl rfl) (pn 117 rfl ?_)
    refine s_aload_n (i := 0) (by decide +kernel) rfl (pn 118 rfl ?_)
    refine t_iconst (by decide +kernel) ki_0 (pn 119 rfl ?_)
    refine s_putfieldI (by decide +kernel) fr_7_34 lq_27 (congrArg Prod.fst sh_27) (fun q => by cases q) (Or.inl rfl) (pn 122 rfl ?_)
    refine s_aload_n (i := 0) (by decide +kernel) rfl (pn 123 rfl ?_)
    refine t_iconst (by decide +kernel) ki_0 (pn 124 rfl ?_)
    refine s_putfieldI (by decide +kernel) fr_7_37 lq_27 (congrArg Prod.fst sh_27) (fun q => by cases q) (Or.inl rfl) (pn 127 rfl ?_)
    exact s_return (st := []) (by decide +kernel) rfl ⟨rfl, s, rfl, h⟩
  · have h := h.2 c1
    refine s_aload_n (i := 0) (by decide +kernel) rfl (pn 76 rfl ?_)
    refine s_getfield (v := .ref 30) (by decide +kernel) fr_7_18 lq_27 (congrArg Prod.fst sh_27) (fv_ref pf_27_2) (pn 79 rfl ?_)
    refine s_iload_n (i := 2) (by decide +kernel) rfl (pn 80 rfl ?_)
    refine s_aload_n (i := 1) (by decide +kernel) rfl (pn 81 rfl ?_)
    refine s_iload_n (i := 2) (by decide +kernel) rfl (pn 82 rfl ?_)
    refine s_callvI [.int l2] rfl (by decide +kernel) mv_7_52 np_31 (Nat.le_of_ble_eq_true rfl) lq_15 ((congrArg Prod.fst sh_15).trans oc_31) (cI_use h (fun r1 s1 M1 h => (pn 85 rfl ?_)))
    obtain ⟨b1, h⟩ := h
    have k1 : ∀ (z1 : Int32) (z1e : z1 = ((if r1 = 0 then 0 else (M1.1 21 l2.toNatClampNeg)) : Int32)), wS_begin d 98 [.ref 27, .ref 15, .int l2] [.int z1, .int l2, .ref 30] s1 M1 Q := by
      intro z1 z1e
      subst z1e
      obtain ⟨b2, h⟩ := h
      refine t_iastore (k := l2.toNatClampNeg) (by decide +kernel) ⟨lq_30, congrArg Prod.fst sh_30⟩ (al_in sh_30 b2) rfl (pn 99 rfl ?_)
      refine s_aload_n (i := 0) (by decide +kernel) rfl (pn 100 rfl ?_)
      refine s_getfield (v := .ref 31) (by decide +kernel) fr_7_21 lq_27 (congrArg Prod.fst sh_27) (fv_ref pf_27_3) (pn 103 rfl ?_)
      refine s_iload_n (i := 2) (by decide +kernel) rfl (pn 104 rfl ?_)
      refine t_iconst (by decide +kernel) ki_0 (pn 105 rfl ?_)
      obtain ⟨b3, h⟩ := h
      refine t_iastore (k := l2.toNatClampNeg) (by decide +kernel) ⟨lq_31, congrArg Prod.fst sh_31⟩ (al_in sh_31 b3) rfl (pn 106 rfl ?_)
      refine t_iinc (i := 2) (n := 1) (ls' := [.ref 27, .ref 15, .int (l2 + 1)]) (by decide +kernel) rfl (Nat.le_of_ble_eq_true rfl) kn_1 rfl (pn 109 rfl ?_)
      refine s_goto (off := -40) (tgt := 69) (by decide +kernel) rfl ?_
      exact h
    refine s_if_eq (off := 12) (tgt := 97) (by decide +kernel) rfl (fun c2 => ?_) (fun c2 => (pn 88 rfl ?_))
    · refine t_iconst (by decide +kernel) ki_0 (pn 98 rfl ?_)
      exact k1 _ (by simp only [if_pos c2])
    · refine s_aload_n (i := 1) (by decide +kernel) rfl (pn 89 rfl ?_)
      refine s_getfield (v := .ref 21) (by decide +kernel) fr_7_55 lq_15 (congrArg Prod.fst sh_15) (fv_ref pf_15_10) (pn 92 rfl ?_)
      refine s_iload_n (i := 2) (by decide +kernel) rfl (pn 93 rfl ?_)
      refine t_iaload (v := M1.1 21 l2.toNatClampNeg) (by decide +kernel) ⟨Or.inl lq_21, congrArg Prod.fst sh_21⟩ (al_in sh_21 (b1 c2)) rfl (pn 94 rfl ?_)
      refine s_goto (off := 4) (tgt := 98) (by decide +kernel) rfl ?_
      exact k1 _ (by simp only [if_neg c2])
abbrev wS_heldThing (d pc : Nat) (ls st : List Value) (s : pm_S) (M : pm_M) (Q : Int32 → pm_S → pm_M → Prop) : Prop := wI d prog_9_method_4_code 7 (some .int) false pc ls st s M Q
theorem enS_heldThing {d : Nat} {s : pm_S} {M : pm_M} {o : Nat} {x1 : Int32} {Q : Int32 → pm_S → pm_M → Prop} (ho : isS o) (h : (((x1 < 0) → Q (-1) s M) ∧ (¬ (x1 < 0) → (((x1 < 6) → wS_heldThing d 14 [.ref o, .int x1, .int 0] [] s M Q) ∧ (¬ (x1 < 6) → Q (-1) s M))))) : cI (d + 1) yS_heldThing [.ref o, .int x1] s M Q := by
  refine pm_toI (by decide) (Nat.le_of_ble_eq_true rfl) ?_
  show wS_heldThing d 0 [.ref o, .int x1, .null] [] s M Q
  refine s_iload_n (i := 1) (by decide +kernel) rfl (pn 1 rfl ?_)
  refine s_if_lt (off := 9) (tgt := 10) (by decide +kernel) rfl (fun c1 => ?_) (fun c1 => (pn 4 rfl ?_))
  · have h := h.1 c1
    refine t_iconst (by decide +kernel) ki_m1 (pn 11 rfl ?_)
    exact s_ireturn (st := []) (by decide +kernel) (Or.inl rfl) ⟨_, rfl, s, rfl, h⟩
  · have h := h.2 c1
    refine s_iload_n (i := 1) (by decide +kernel) rfl (pn 5 rfl ?_)
    refine t_bipush (by decide +kernel) kb_6 (pn 7 rfl ?_)
    refine s_icmp_lt (off := 5) (tgt := 12) (by decide +kernel) rfl (fun c2 => ?_) (fun c2 => (pn 10 rfl ?_))
    · have h := h.1 c2
      refine t_iconst (by decide +kernel) ki_0 (pn 13 rfl ?_)
      refine s_istore_n (i := 2) (by decide +kernel) (Nat.le_of_ble_eq_true rfl) (pn 14 rfl (t_store (ls' := [.ref o, .int x1, .int 0]) rfl ?_))
      exact h
    · have h := h.2 c2
      refine t_iconst (by decide +kernel) ki_m1 (pn 11 rfl ?_)
      exact s_ireturn (st := []) (by decide +kernel) (Or.inl rfl) ⟨_, rfl, s, rfl, h⟩
theorem sgS_heldThing_14 {d : Nat} {s : pm_S} {M : pm_M} {l1 : Int32} {l2 : Int32} {o : Nat} {Q : Int32 → pm_S → pm_M → Prop} (ho : isS o) (h : (((8 ≤ l2) → Q (-1) s M) ∧ (¬ (8 ≤ l2) → vp_in l2 8 ∧ (((M.1 (o + 1) l2.toNatClampNeg) = ((10 : Int32) + l1) → Q l2 s M) ∧ (¬ ((M.1 (o + 1) l2.toNatClampNeg) = ((10 : Int32) + l1)) → wS_heldThing d 14 [.ref o, .int l1, .int (l2 + 1)] [] s M Q))))) : wS_heldThing d 14 [.ref o, .int l1, .int l2] [] s M Q := by
  refine s_iload_n (i := 2) (by decide +kernel) rfl (pn 15 rfl ?_)
  refine t_bipush (by decide +kernel) kb_8 (pn 17 rfl ?_)
  refine s_icmp_ge (off := 24) (tgt := 41) (by decide +kernel) rfl (fun c1 => ?_) (fun c1 => (pn 20 rfl ?_))
  · have h := h.1 c1
    refine t_iconst (by decide +kernel) ki_m1 (pn 42 rfl ?_)
    exact s_ireturn (st := []) (by decide +kernel) (Or.inl rfl) ⟨_, rfl, s, rfl, h⟩
  · have h := h.2 c1
    refine s_aload_n (i := 0) (by decide +kernel) rfl (pn 21 rfl ?_)
    refine s_getfield (v := .ref (o + 1)) (by decide +kernel) fr_7_9 (ltS_0 ho) (congrArg Prod.fst (shS_0 ho)) (fv_ref (pfS_0 ho)) (pn 24 rfl ?_)
    refine s_iload_n (i := 2) (by decide +kernel) rfl (pn 25 rfl ?_)
    obtain ⟨b1, h⟩ := h
    refine t_iaload (v := M.1 (o + 1) l2.toNatClampNeg) (by decide +kernel) ⟨Or.inl (ltS_1 ho), congrArg Prod.fst (shS_1 ho)⟩ (al_in (shS_1 ho) b1) rfl (pn 26 rfl ?_)
    refine t_bipush (by decide +kernel) kb_10 (pn 28 rfl ?_)
    refine s_iload_n (i := 1) (by decide +kernel) rfl (pn 29 rfl ?_)
    refine s_iadd (by decide +kernel) (pn 30 rfl ?_)
    refine t_icmp_ne (off := 5) (tgt := 35) (by decide +kernel) rfl (fun c2 => ?_) (fun c2 => (pn 33 rfl ?_))
    · have h := h.2 c2
      refine t_iinc (i := 2) (n := 1) (ls' := [.ref o, .int l1, .int (l2 + 1)]) (by decide +kernel) rfl (Nat.le_of_ble_eq_true rfl) kn_1 rfl (pn 38 rfl ?_)
      refine s_goto (off := -24) (tgt := 14) (by decide +kernel) rfl ?_
      exact h
    · have h := h.1 c2
      refine s_iload_n (i := 2) (by decide +kernel) rfl (pn 34 rfl ?_)
      exact s_ireturn (st := []) (by decide +kernel) (Or.inl rfl) ⟨_, rfl, s, rfl, h⟩
abbrev wS_become (d pc : Nat) (ls st : List Value) (s : pm_S) (M : pm_M) (Q : pm_S → pm_M → Prop) : Prop := wV d prog_9_method_2_code 7 none false pc ls st s M Q
theorem enS_become {d : Nat} {s : pm_S} {M : pm_M} {o : Nat} {q : Nat} {Q : pm_S → pm_M → Prop} (ho : isS o) (hq : isS q) (h : (∀ m1 : pm_M, m1 = (pm_ri M (o + 1) (va_cpy (M.1 (q + 1)) (M.1 (o + 1)) 0 0 8)) → (∀ m2 : pm_M, m2 = (pm_ri m1 (o + 2) (va_cpy (m1.1 (q + 2)) (m1.1 (o + 2)) 0 0 8)) → (∀ m3 : pm_M, m3 = (pm_ri m2 (o + 3) (va_cpy (m2.1 (q + 3)) (m2.1 (o + 3)) 0 0 6)) → (∀ m4 : pm_M, m4 = (pm_ri m3 (o + 4) (va_cpy (m3.1 (q + 4)) (m3.1 (o + 4)) 0 0 6)) → Q s (pm_si (pm_si (pm_si m4 o 4 (m4.1 q 4)) o 5 ((pm_si m4 o 4 (m4.1 q 4)).1 q 5)) o 6 ((pm_si (pm_si m4 o 4 (m4.1 q 4)) o 5 ((pm_si m4 o 4 (m4.1 q 4)).1 q 5)).1 q 6))))))) : cV (d + 1) yS_become [.ref o, .ref q] s M Q := by
  refine pm_toV (by decide) (Nat.le_of_ble_eq_true rfl) ?_
  show wS_become d 0 [.ref o, .ref q] [] s M Q
  refine s_aload_n (i := 1) (by decide +kernel) rfl (pn 1 rfl ?_)
  refine s_getfield (v := .ref (q + 1)) (by decide +kernel) fr_7_9 (ltS_0 hq) (congrArg Prod.fst (shS_0 hq)) (fv_ref (pfS_0 hq)) (pn 4 rfl ?_)
  refine t_iconst (by decide +kernel) ki_0 (pn 5 rfl ?_)
  refine s_aload_n (i := 0) (by decide +kernel) rfl (pn 6 rfl ?_)
  refine s_getfield (v := .ref (o + 1)) (by decide +kernel) fr_7_9 (ltS_0 ho) (congrArg Prod.fst (shS_0 ho)) (fv_ref (pfS_0 ho)) (pn 9 rfl ?_)
  refine t_iconst (by decide +kernel) ki_0 (pn 10 rfl ?_)
  refine t_bipush (by decide +kernel) kb_8 (pn 12 rfl ?_)
  refine t_arraycopy (k1 := 0) (k2 := 0) (k3 := 8) (by decide +kernel) ac_7_24 (ltS_1 hq) (ltS_1 ho) (congrArg Prod.fst (shS_1 hq)) (congrArg Prod.fst (shS_1 ho)) (by decide) (by decide) (by decide) (ac_le (shS_1 hq) (by decide)) (ac_le (shS_1 ho) (by decide)) (Nat.le_of_ble_eq_true rfl) tn_0 tn_0 tn_8 (pn 15 rfl ?_)
  obtain ⟨m1, em1⟩ : ∃ zz : pm_M, zz = (pm_ri M (o + 1) (va_cpy (M.1 (q + 1)) (M.1 (o + 1)) 0 0 8)) := ⟨_, rfl⟩
  have h := h m1 em1
  rw [← em1]
  refine s_aload_n (i := 1) (by decide +kernel) rfl (pn 16 rfl ?_)
  refine s_getfield (v := .ref (q + 2)) (by decide +kernel) fr_7_15 (ltS_0 hq) (congrArg Prod.fst (shS_0 hq)) (fv_ref (pfS_1 hq)) (pn 19 rfl ?_)
  refine t_iconst (by decide +kernel) ki_0 (pn 20 rfl ?_)
  refine s_aload_n (i := 0) (by decide +kernel) rfl (pn 21 rfl ?_)
  refine s_getfield (v := .ref (o + 2)) (by decide +kernel) fr_7_15 (ltS_0 ho) (congrArg Prod.fst (shS_0 ho)) (fv_ref (pfS_1 ho)) (pn 24 rfl ?_)
  refine t_iconst (by decide +kernel) ki_0 (pn 25 rfl ?_)
  refine t_bipush (by decide +kernel) kb_8 (pn 27 rfl ?_)
  refine t_arraycopy (k1 := 0) (k2 := 0) (k3 := 8) (by decide +kernel) ac_7_24 (ltS_2 hq) (ltS_2 ho) (congrArg Prod.fst (shS_2 hq)) (congrArg Prod.fst (shS_2 ho)) (by decide) (by decide) (by decide) (ac_le (shS_2 hq) (by decide)) (ac_le (shS_2 ho) (by decide)) (Nat.le_of_ble_eq_true rfl) tn_0 tn_0 tn_8 (pn 30 rfl ?_)
  obtain ⟨m2, em2⟩ : ∃ zz : pm_M, zz = (pm_ri m1 (o + 2) (va_cpy (m1.1 (q + 2)) (m1.1 (o + 2)) 0 0 8)) := ⟨_, rfl⟩
  have h := h m2 em2
  rw [← em2]
  refine s_aload_n (i := 1) (by decide +kernel) rfl (pn 31 rfl ?_)
  refine s_getfield (v := .ref (q + 3)) (by decide +kernel) fr_7_18 (ltS_0 hq) (congrArg Prod.fst (shS_0 hq)) (fv_ref (pfS_2 hq)) (pn 34 rfl ?_)
  refine t_iconst (by decide +kernel) ki_0 (pn 35 rfl ?_)
  refine s_aload_n (i := 0) (by decide +kernel) rfl (pn 36 rfl ?_)
  refine s_getfield (v := .ref (o + 3)) (by decide +kernel) fr_7_18 (ltS_0 ho) (congrArg Prod.fst (shS_0 ho)) (fv_ref (pfS_2 ho)) (pn 39 rfl ?_)
  refine t_iconst (by decide +kernel) ki_0 (pn 40 rfl ?_)
  refine t_bipush (by decide +kernel) kb_6 (pn 42 rfl ?_)
  refine t_arraycopy (k1 := 0) (k2 := 0) (k3 := 6) (by decide +kernel) ac_7_24 (ltS_3 hq) (ltS_3 ho) (congrArg Prod.fst (shS_3 hq)) (congrArg Prod.fst (shS_3 ho)) (by decide) (by decide) (by decide) (ac_le (shS_3 hq) (by decide)) (ac_le (shS_3 ho) (by decide)) (Nat.le_of_ble_eq_true rfl) tn_0 tn_0 tn_6 (pn 45 rfl ?_)
  obtain ⟨m3, em3⟩ : ∃ zz : pm_M, zz = (pm_ri m2 (o + 3) (va_cpy (m2.1 (q + 3)) (m2.1 (o + 3)) 0 0 6)) := ⟨_, rfl⟩
  have h := h m3 em3
  rw [← em3]
  refine s_aload_n (i := 1) (by decide +kernel) rfl (pn 46 rfl ?_)
  refine s_getfield (v := .ref (q + 4)) (by decide +kernel) fr_7_21 (ltS_0 hq) (congrArg Prod.fst (shS_0 hq)) (fv_ref (pfS_3 hq)) (pn 49 rfl ?_)
  refine t_iconst (by decide +kernel) ki_0 (pn 50 rfl ?_)
  refine s_aload_n (i := 0) (by decide +kernel) rfl (pn 51 rfl ?_)
  refine s_getfield (v := .ref (o + 4)) (by decide +kernel) fr_7_21 (ltS_0 ho) (congrArg Prod.fst (shS_0 ho)) (fv_ref (pfS_3 ho)) (pn 54 rfl ?_)
  refine t_iconst (by decide +kernel) ki_0 (pn 55 rfl ?_)
  refine t_bipush (by decide +kernel) kb_6 (pn 57 rfl ?_)
  refine t_arraycopy (k1 := 0) (k2 := 0) (k3 := 6) (by decide +kernel) ac_7_24 (ltS_4 hq) (ltS_4 ho) (congrArg Prod.fst (shS_4 hq)) (congrArg Prod.fst (shS_4 ho)) (by decide) (by decide) (by decide) (ac_le (shS_4 hq) (by decide)) (ac_le (shS_4 ho) (by decide)) (Nat.le_of_ble_eq_true rfl) tn_0 tn_0 tn_6 (pn 60 rfl ?_)
  obtain ⟨m4, em4⟩ : ∃ zz : pm_M, zz = (pm_ri m3 (o + 4) (va_cpy (m3.1 (q + 4)) (m3.1 (o + 4)) 0 0 6)) := ⟨_, rfl⟩
  have h := h m4 em4
  rw [← em4]
  refine s_aload_n (i := 0) (by decide +kernel) rfl (pn 61 rfl ?_)
  refine s_aload_n (i := 1) (by decide +kernel) rfl (pn 62 rfl ?_)
  refine s_getfield (v := .int (m4.1 q 4)) (by decide +kernel) fr_7_30 (ltS_0 hq) (congrArg Prod.fst (shS_0 hq)) rfl (pn 65 rfl ?_)
  refine s_putfieldI (by decide +kernel) fr_7_30 (ltS_0 ho) (congrArg Prod.fst (shS_0 ho)) (fun q => by cases q) (Or.inl rfl) (pn 68 rfl ?_)
  refine s_aload_n (i := 0) (by decide +kernel) rfl (pn 69 rfl ?_)
  refine s_aload_n (i := 1) (by decide +kernel) rfl (pn 70 rfl ?_)
  refine s_getfield (v := .int ((pm_si m4 o 4 (m4.1 q 4)).1 q 5)) (by decide +kernel) fr_7_34 (ltS_0 hq) (congrArg Prod.fst (shS_0 hq)) rfl (pn 73 rfl ?_)
  refine s_putfieldI (by decide +kernel) fr_7_34 (ltS_0 ho) (congrArg Prod.fst (shS_0 ho)) (fun q => by cases q) (Or.inl rfl) (pn 76 rfl ?_)
  refine s_aload_n (i := 0) (by decide +kernel) rfl (pn 77 rfl ?_)
  refine s_aload_n (i := 1) (by decide +kernel) rfl (pn 78 rfl ?_)
  refine s_getfield (v := .int ((pm_si (pm_si m4 o 4 (m4.1 q 4)) o 5 ((pm_si m4 o 4 (m4.1 q 4)).1 q 5)).1 q 6)) (by decide +kernel) fr_7_37 (ltS_0 hq) (congrArg Prod.fst (shS_0 hq)) rfl (pn 81 rfl ?_)
  refine s_putfieldI (by decide +kernel) fr_7_37 (ltS_0 ho) (congrArg Prod.fst (shS_0 ho)) (fun q => by cases q) (Or.inl rfl) (pn 84 rfl ?_)
  exact s_return (st := []) (by decide +kernel) rfl ⟨rfl, s, rfl, h⟩
abbrev wS_tryLeave (d pc : Nat) (ls st : List Value) (s : pm_S) (M : pm_M) (Q : Int32 → pm_S → pm_M → Prop) : Prop := wI d prog_9_method_11_code 7 (some .int) false pc ls st s M Q
theorem enS_tryLeave {d : Nat} {s : pm_S} {M : pm_M} {x2 : Int32} {Q : Int32 → pm_S → pm_M → Prop}  (h : cI d yL_hasPerson [.ref 15, .int x2] s M (fun r1 s1 M1 => ((r1 = 0 → Q 1 s1 M1) ∧ (¬ (r1 = 0) → cI d yS_heldThing [.ref 32, .int x2] s1 M1 (fun r2 s2 M2 => ((r2 = (-1) → Q 2 s2 M2) ∧ (¬ (r2 = (-1)) → vp_in x2 6 ∧ vp_in r2 8 ∧ Q 0 s2 (pm_si M2 33 r2.toNatClampNeg (M2.1 20 x2.toNatClampNeg))))))))) : cI (d + 1) yS_tryLeave [.ref 32, .ref 15, .int x2] s M Q := by
  refine pm_toI (by decide) (Nat.le_of_ble_eq_true rfl) ?_
  show wS_tryLeave d 0 [.ref 32, .ref 15, .int x2, .null] [] s M Q
  refine s_aload_n (i := 1) (by decide +kernel) rfl (pn 1 rfl ?_)
  refine s_iload_n (i := 2) (by decide +kernel) rfl (pn 2 rfl ?_)
  refine s_callvI [.int x2] rfl (by decide +kernel) mv_7_52 np_31 (Nat.le_of_ble_eq_true rfl) lq_15 ((congrArg Prod.fst sh_15).trans oc_31) (cI_use h (fun r1 s1 M1 h => (pn 5 rfl ?_)))
  refine t_if_ne (off := 5) (tgt := 10) (by decide +kernel) rfl (fun c1 => ?_) (fun c1 => (pn 8 rfl ?_))
  · have h := h.2 c1
    refine s_aload_n (i := 0) (by decide +kernel) rfl (pn 11 rfl ?_)
    refine s_iload_n (i := 2) (by decide +kernel) rfl (pn 12 rfl ?_)
    refine s_callvI [.int x2] rfl (by decide +kernel) mv_7_62 np_82 (Nat.le_of_ble_eq_true rfl) lq_32 ((congrArg Prod.fst sh_32).trans oc_82) (cI_use h (fun r2 s2 M2 h => (pn 15 rfl ?_)))
    refine s_istore_n (i := 3) (by decide +kernel) (Nat.le_of_ble_eq_true rfl) (pn 16 rfl (t_store (ls' := [.ref 32, .ref 15, .int x2, .int r2]) rfl ?_))
    refine s_iload_n (i := 3) (by decide +kernel) rfl (pn 17 rfl ?_)
    refine t_iconst (by decide +kernel) ki_m1 (pn 18 rfl ?_)
    refine t_icmp_ne (off := 5) (tgt := 23) (by decide +kernel) rfl (fun c2 => ?_) (fun c2 => (pn 21 rfl ?_))
    · have h := h.2 c2
      refine s_aload_n (i := 0) (by decide +kernel) rfl (pn 24 rfl ?_)
      refine s_getfield (v := .ref 33) (by decide +kernel) fr_7_9 lq_32 (congrArg Prod.fst sh_32) (fv_ref pf_32_0) (pn 27 rfl ?_)
      refine s_iload_n (i := 3) (by decide +kernel) rfl (pn 28 rfl ?_)
      refine s_aload_n (i := 1) (by decide +kernel) rfl (pn 29 rfl ?_)
      refine s_getfield (v := .ref 20) (by decide +kernel) fr_7_65 lq_15 (congrArg Prod.fst sh_15) (fv_ref pf_15_9) (pn 32 rfl ?_)
      refine s_iload_n (i := 2) (by decide +kernel) rfl (pn 33 rfl ?_)
      obtain ⟨b1, h⟩ := h
      refine t_iaload (v := M2.1 20 x2.toNatClampNeg) (by decide +kernel) ⟨Or.inl lq_20, congrArg Prod.fst sh_20⟩ (al_in sh_20 b1) rfl (pn 34 rfl ?_)
      obtain ⟨b2, h⟩ := h
      refine t_iastore (k := r2.toNatClampNeg) (by decide +kernel) ⟨lq_33, congrArg Prod.fst sh_33⟩ (al_in sh_33 b2) rfl (pn 35 rfl ?_)
      refine t_iconst (by decide +kernel) ki_0 (pn 36 rfl ?_)
      exact s_ireturn (st := []) (by decide +kernel) (Or.inl rfl) ⟨_, rfl, s2, rfl, h⟩
    · have h := h.1 c2
      refine t_iconst (by decide +kernel) ki_2 (pn 22 rfl ?_)
      exact s_ireturn (st := []) (by decide +kernel) (Or.inl rfl) ⟨_, rfl, s2, rfl, h⟩
  · have h := h.1 c1
    refine t_iconst (by decide +kernel) ki_1 (pn 9 rfl ?_)
    exact s_ireturn (st := []) (by decide +kernel) (Or.inl rfl) ⟨_, rfl, s1, rfl, h⟩
abbrev wS_tryFetch (d pc : Nat) (ls st : List Value) (s : pm_S) (M : pm_M) (Q : Int32 → pm_S → pm_M → Prop) : Prop := wI d prog_9_method_12_code 7 (some .int) false pc ls st s M Q
theorem enS_tryFetch {d : Nat} {s : pm_S} {M : pm_M} {x2 : Int32} {x3 : Int32} {Q : Int32 → pm_S → pm_M → Prop}  (h : cI d yL_hasPerson [.ref 15, .int x2] s M (fun r1 s1 M1 => (((r1 = 0) → Q 1 s1 M1) ∧ (¬ (r1 = 0) → cI d yL_hasThing [.ref 15, .int x3] s1 M1 (fun r2 s2 M2 => ((r2 = 0 → Q 1 s2 M2) ∧ (¬ (r2 = 0) → cI d yS_heldThing [.ref 32, .int x2] s2 M2 (fun r3 s3 M3 => (((r3 = (-1)) → vp_in x3 8 ∧ (((M3.1 33 x3.toNatClampNeg) = 99 → vp_in x2 6 ∧ cI d yL_claimBy [.ref 15, .int (M3.1 35 x2.toNatClampNeg), .int x2, .int x3] s3 M3 (fun r4 s4 M4 => (((0 < r4) → vp_in x3 8 ∧ Q 0 s4 (pm_si M4 33 x3.toNatClampNeg ((10 : Int32) + x2))) ∧ (¬ (0 < r4) → Q 3 s4 M4)))) ∧ (¬ ((M3.1 33 x3.toNatClampNeg) = 99) → Q 3 s3 M3))) ∧ (¬ (r3 = (-1)) → Q 2 s3 M3)))))))))) : cI (d + 1) yS_tryFetch [.ref 32, .ref 15, .int x2, .int x3] s M Q := by
  refine pm_toI (by decide) (Nat.le_of_ble_eq_true rfl) ?_
  show wS_tryFetch d 0 [.ref 32, .ref 15, .int x2, .int x3] [] s M Q
  refine s_aload_n (i := 1) (by decide +kernel) rfl (pn 1 rfl ?_)
  refine s_iload_n (i := 2) (by decide +kernel) rfl (pn 2 rfl ?_)
  refine s_callvI [.int x2] rfl (by decide +kernel) mv_7_52 np_31 (Nat.le_of_ble_eq_true rfl) lq_15 ((congrArg Prod.fst sh_15).trans oc_31) (cI_use h (fun r1 s1 M1 h => (pn 5 rfl ?_)))
  refine s_if_eq (off := 11) (tgt := 16) (by decide +kernel) rfl (fun c1 => ?_) (fun c1 => (pn 8 rfl ?_))
  · have h := h.1 c1
    refine t_iconst (by decide +kernel) ki_1 (pn 17 rfl ?_)
    exact s_ireturn (st := []) (by decide +kernel) (Or.inl rfl) ⟨_, rfl, s1, rfl, h⟩
  · have h := h.2 c1
    refine s_aload_n (i := 1) (by decide +kernel) rfl (pn 9 rfl ?_)
    refine s_iload_n (i := 3) (by decide +kernel) rfl (pn 10 rfl ?_)
    refine s_callvI [.int x3] rfl (by decide +kernel) mv_7_40 np_28 (Nat.le_of_ble_eq_true rfl) lq_15 ((congrArg Prod.fst sh_15).trans oc_28) (cI_use h (fun r2 s2 M2 h => (pn 13 rfl ?_)))
    refine t_if_ne (off := 5) (tgt := 18) (by decide +kernel) rfl (fun c2 => ?_) (fun c2 => (pn 16 rfl ?_))
    · have h := h.2 c2
      refine s_aload_n (i := 0) (by decide +kernel) rfl (pn 19 rfl ?_)
      refine s_iload_n (i := 2) (by decide +kernel) rfl (pn 20 rfl ?_)
      refine s_callvI [.int x2] rfl (by decide +kernel) mv_7_62 np_82 (Nat.le_of_ble_eq_true rfl) lq_32 ((congrArg Prod.fst sh_32).trans oc_82) (cI_use h (fun r3 s3 M3 h => (pn 23 rfl ?_)))
      refine t_iconst (by decide +kernel) ki_m1 (pn 24 rfl ?_)
      refine s_icmp_eq (off := 5) (tgt := 29) (by decide +kernel) rfl (fun c3 => ?_) (fun c3 => (pn 27 rfl ?_))
      · have h := h.1 c3
        refine s_aload_n (i := 0) (by decide +kernel) rfl (pn 30 rfl ?_)
        refine s_getfield (v := .ref 33) (by decide +kernel) fr_7_9 lq_32 (congrArg Prod.fst sh_32) (fv_ref pf_32_0) (pn 33 rfl ?_)
        refine s_iload_n (i := 3) (by decide +kernel) rfl (pn 34 rfl ?_)
        obtain ⟨b1, h⟩ := h
        refine t_iaload (v := M3.1 33 x3.toNatClampNeg) (by decide +kernel) ⟨Or.inl lq_33, congrArg Prod.fst sh_33⟩ (al_in sh_33 b1) rfl (pn 35 rfl ?_)
        refine t_bipush (by decide +kernel) kb_99 (pn 37 rfl ?_)
        refine t_icmp_ne (off := 18) (tgt := 55) (by decide +kernel) rfl (fun c4 => ?_) (fun c4 => (pn 40 rfl ?_))
        · have h := h.2 c4
          refine t_iconst (by decide +kernel) ki_3 (pn 56 rfl ?_)
          exact s_ireturn (st := []) (by decide +kernel) (Or.inl rfl) ⟨_, rfl, s3, rfl, h⟩
        · have h := h.1 c4
          refine s_aload_n (i := 1) (by decide +kernel) rfl (pn 41 rfl ?_)
          refine s_aload_n (i := 0) (by decide +kernel) rfl (pn 42 rfl ?_)
          refine s_getfield (v := .ref 35) (by decide +kernel) fr_7_18 lq_32 (congrArg Prod.fst sh_32) (fv_ref pf_32_2) (pn 45 rfl ?_)
          refine s_iload_n (i := 2) (by decide +kernel) rfl (pn 46 rfl ?_)
          obtain ⟨b2, h⟩ := h
          refine t_iaload (v := M3.1 35 x2.toNatClampNeg) (by decide +kernel) ⟨Or.inl lq_35, congrArg Prod.fst sh_35⟩ (al_in sh_35 b2) rfl (pn 47 rfl ?_)
          refine s_iload_n (i := 2) (by decide +kernel) rfl (pn 48 rfl ?_)
          refine s_iload_n (i := 3) (by decide +kernel) rfl (pn 49 rfl ?_)
          refine s_callvI [.int (M3.1 35 x2.toNatClampNeg), .int x2, .int x3] rfl (by decide +kernel) mv_7_68 np_32 (Nat.le_of_ble_eq_true rfl) lq_15 ((congrArg Prod.fst sh_15).trans oc_32) (cI_use h (fun r4 s4 M4 h => (pn 52 rfl ?_)))
          refine s_if_gt (off := 5) (tgt := 57) (by decide +kernel) rfl (fun c5 => ?_) (fun c5 => (pn 55 rfl ?_))
          · have h := h.1 c5
            refine s_aload_n (i := 0) (by decide +kernel) rfl (pn 58 rfl ?_)
            refine s_getfield (v := .ref 33) (by decide +kernel) fr_7_9 lq_32 (congrArg Prod.fst sh_32) (fv_ref pf_32_0) (pn 61 rfl ?_)
            refine s_iload_n (i := 3) (by decide +kernel) rfl (pn 62 rfl ?_)
            refine t_bipush (by decide +kernel) kb_10 (pn 64 rfl ?_)
            refine s_iload_n (i := 2) (by decide +kernel) rfl (pn 65 rfl ?_)
            refine s_iadd (by decide +kernel) (pn 66 rfl ?_)
            obtain ⟨b3, h⟩ := h
            refine t_iastore (k := x3.toNatClampNeg) (by decide +kernel) ⟨lq_33, congrArg Prod.fst sh_33⟩ (al_in sh_33 b3) rfl (pn 67 rfl ?_)
            refine t_iconst (by decide +kernel) ki_0 (pn 68 rfl ?_)
            exact s_ireturn (st := []) (by decide +kernel) (Or.inl rfl) ⟨_, rfl, s4, rfl, h⟩
          · have h := h.2 c5
            refine t_iconst (by decide +kernel) ki_3 (pn 56 rfl ?_)
            exact s_ireturn (st := []) (by decide +kernel) (Or.inl rfl) ⟨_, rfl, s4, rfl, h⟩
      · have h := h.2 c3
        refine t_iconst (by decide +kernel) ki_2 (pn 28 rfl ?_)
        exact s_ireturn (st := []) (by decide +kernel) (Or.inl rfl) ⟨_, rfl, s3, rfl, h⟩
    · have h := h.1 c2
      refine t_iconst (by decide +kernel) ki_1 (pn 17 rfl ?_)
      exact s_ireturn (st := []) (by decide +kernel) (Or.inl rfl) ⟨_, rfl, s2, rfl, h⟩
abbrev wS_officeBits (d pc : Nat) (ls st : List Value) (s : pm_S) (M : pm_M) (Q : Int32 → pm_S → pm_M → Prop) : Prop := wI d prog_9_method_8_code 7 (some .int) false pc ls st s M Q
theorem enS_officeBits {d : Nat} {s : pm_S} {M : pm_M} {o : Nat} {Q : Int32 → pm_S → pm_M → Prop} (ho : isS o) (h : wS_officeBits d 4 [.ref o, .int 0, .int 0] [] s M Q) : cI (d + 1) yS_officeBits [.ref o] s M Q := by
  refine pm_toI (by decide) (Nat.le_of_ble_eq_true rfl) ?_
  show wS_officeBits d 0 [.ref o, .null, .null] [] s M Q
  refine t_iconst (by decide +kernel) ki_0 (pn 1 rfl ?_)
  refine s_istore_n (i := 1) (by decide +kernel) (Nat.le_of_ble_eq_true rfl) (pn 2 rfl (t_store (ls' := [.ref o, .int 0, .null]) rfl ?_))
  refine t_iconst (by decide +kernel) ki_0 (pn 3 rfl ?_)
  refine s_istore_n (i := 2) (by decide +kernel) (Nat.le_of_ble_eq_true rfl) (pn 4 rfl (t_store (ls' := [.ref o, .int 0, .int 0]) rfl ?_))
  exact h
theorem sgS_officeBits_4 {d : Nat} {s : pm_S} {M : pm_M} {l1 : Int32} {l2 : Int32} {o : Nat} {Q : Int32 → pm_S → pm_M → Prop} (ho : isS o) (h : (((8 ≤ l2) → Q l1 s M) ∧ (¬ (8 ≤ l2) → vp_in l2 8 ∧ wS_officeBits d 4 [.ref o, .int ((if (M.1 (o + 1) l2.toNatClampNeg) = 99 then (l1 ||| ((1 : Int32) <<< (l2 &&& 31))) else l1) : Int32), .int (l2 + 1)] [] s M Q))) : wS_officeBits d 4 [.ref o, .int l1, .int l2] [] s M Q := by
  refine s_iload_n (i := 2) (by decide +kernel) rfl (pn 5 rfl ?_)
  refine t_bipush (by decide +kernel) kb_8 (pn 7 rfl ?_)
  refine s_icmp_ge (off := 26) (tgt := 33) (by decide +kernel) rfl (fun c1 => ?_) (fun c1 => (pn 10 rfl ?_))
  · have h := h.1 c1
    refine s_iload_n (i := 1) (by decide +kernel) rfl (pn 34 rfl ?_)
    exact s_ireturn (st := []) (by decide +kernel) (Or.inl rfl) ⟨_, rfl, s, rfl, h⟩
  · have h := h.2 c1
    refine s_aload_n (i := 0) (by decide +kernel) rfl (pn 11 rfl ?_)
    refine s_getfield (v := .ref (o + 1)) (by decide +kernel) fr_7_9 (ltS_0 ho) (congrArg Prod.fst (shS_0 ho)) (fv_ref (pfS_0 ho)) (pn 14 rfl ?_)
    refine s_iload_n (i := 2) (by decide +kernel) rfl (pn 15 rfl ?_)
    obtain ⟨b1, h⟩ := h
    refine t_iaload (v := M.1 (o + 1) l2.toNatClampNeg) (by decide +kernel) ⟨Or.inl (ltS_1 ho), congrArg Prod.fst (shS_1 ho)⟩ (al_in (shS_1 ho) b1) rfl (pn 16 rfl ?_)
    refine t_bipush (by decide +kernel) kb_99 (pn 18 rfl ?_)
    have k1 : ∀ (z1 : Int32) (z1e : z1 = ((if (M.1 (o + 1) l2.toNatClampNeg) = 99 then (l1 ||| ((1 : Int32) <<< (l2 &&& 31))) else l1) : Int32)), wS_officeBits d 27 [.ref o, .int z1, .int l2] [] s M Q := by
      intro z1 z1e
      subst z1e
      refine t_iinc (i := 2) (n := 1) (ls' := [.ref o, .int ((if (M.1 (o + 1) l2.toNatClampNeg) = 99 then (l1 ||| ((1 : Int32) <<< (l2 &&& 31))) else l1) : Int32), .int (l2 + 1)]) (by decide +kernel) rfl (Nat.le_of_ble_eq_true rfl) kn_1 rfl (pn 30 rfl ?_)
      refine s_goto (off := -26) (tgt := 4) (by decide +kernel) rfl ?_
      exact h
    refine t_icmp_ne (off := 9) (tgt := 27) (by decide +kernel) rfl (fun c2 => ?_) (fun c2 => (pn 21 rfl ?_))
    · exact k1 _ (by simp only [if_neg c2])
    · refine s_iload_n (i := 1) (by decide +kernel) rfl (pn 22 rfl ?_)
      refine t_iconst (by decide +kernel) ki_1 (pn 23 rfl ?_)
      refine s_iload_n (i := 2) (by decide +kernel) rfl (pn 24 rfl ?_)
      refine s_ishl (by decide +kernel) (pn 25 rfl ?_)
      refine s_ior (by decide +kernel) (pn 26 rfl ?_)
      refine s_istore_n (i := 1) (by decide +kernel) (Nat.le_of_ble_eq_true rfl) (pn 27 rfl (t_store (ls' := [.ref o, .int (l1 ||| ((1 : Int32) <<< (l2 &&& 31))), .int l2]) rfl ?_))
      exact k1 _ (by simp only [if_pos c2])
abbrev wS_tryOpen (d pc : Nat) (ls st : List Value) (s : pm_S) (M : pm_M) (Q : Int32 → pm_S → pm_M → Prop) : Prop := wI d prog_9_method_13_code 7 (some .int) false pc ls st s M Q
theorem enS_tryOpen {d : Nat} {s : pm_S} {M : pm_M} {x2 : Int32} {Q : Int32 → pm_S → pm_M → Prop}  (h : cI d yL_hasPerson [.ref 15, .int x2] s M (fun r1 s1 M1 => ((r1 = 0 → Q 1 s1 M1) ∧ (¬ (r1 = 0) → cI d yS_heldThing [.ref 32, .int x2] s1 M1 (fun r2 s2 M2 => ((r2 = (-1) → Q 2 s2 M2) ∧ (¬ (r2 = (-1)) → vp_in x2 6 ∧ vp_in x2 6 ∧ vp_in x2 6 ∧ cI d yL_burdenOf [.ref 15, .int (M2.1 35 x2.toNatClampNeg), .int x2, .int r2, .int (M2.1 32 4), .int (M2.1 36 x2.toNatClampNeg)] s2 M2 (fun r3 s3 M3 => vp_in x2 6 ∧ (((((M2.1 36 x2.toNatClampNeg) + r3) ≤ (M3.1 22 x2.toNatClampNeg)) → vp_in x2 6 ∧ vp_in r2 8 ∧ vp_in r2 8 ∧ Q 0 s3 (pm_si (pm_si M3 36 x2.toNatClampNeg ((M2.1 36 x2.toNatClampNeg) + r3)) 34 r2.toNatClampNeg ((M3.1 34 r2.toNatClampNeg) + 1))) ∧ (¬ (((M2.1 36 x2.toNatClampNeg) + r3) ≤ (M3.1 22 x2.toNatClampNeg)) → Q 3 s3 M3)))))))))) : cI (d + 1) yS_tryOpen [.ref 32, .ref 15, .int x2] s M Q := by
  refine pm_toI (by decide) (Nat.le_of_ble_eq_true rfl) ?_
  show wS_tryOpen d 0 [.ref 32, .ref 15, .int x2, .null, .null] [] s M Q
  refine s_aload_n (i := 1) (by decide +kernel) rfl (pn 1 rfl ?_)
  refine s_iload_n (i := 2) (by decide +kernel) rfl (pn 2 rfl ?_)
  refine s_callvI [.int x2] rfl (by decide +kernel) mv_7_52 np_31 (Nat.le_of_ble_eq_true rfl) lq_15 ((congrArg Prod.fst sh_15).trans oc_31) (cI_use h (fun r1 s1 M1 h => (pn 5 rfl ?_)))
  refine t_if_ne (off := 5) (tgt := 10) (by decide +kernel) rfl (fun c1 => ?_) (fun c1 => (pn 8 rfl ?_))
  · have h := h.2 c1
    refine s_aload_n (i := 0) (by decide +kernel) rfl (pn 11 rfl ?_)
    refine s_iload_n (i := 2) (by decide +kernel) rfl (pn 12 rfl ?_)
    refine s_callvI [.int x2] rfl (by decide +kernel) mv_7_62 np_82 (Nat.le_of_ble_eq_true rfl) lq_32 ((congrArg Prod.fst sh_32).trans oc_82) (cI_use h (fun r2 s2 M2 h => (pn 15 rfl ?_)))
    refine s_istore_n (i := 3) (by decide +kernel) (Nat.le_of_ble_eq_true rfl) (pn 16 rfl (t_store (ls' := [.ref 32, .ref 15, .int x2, .int r2, .null]) rfl ?_))
    refine s_iload_n (i := 3) (by decide +kernel) rfl (pn 17 rfl ?_)
    refine t_iconst (by decide +kernel) ki_m1 (pn 18 rfl ?_)
    refine t_icmp_ne (off := 5) (tgt := 23) (by decide +kernel) rfl (fun c2 => ?_) (fun c2 => (pn 21 rfl ?_))
    · have h := h.2 c2
      refine s_aload_n (i := 0) (by decide +kernel) rfl (pn 24 rfl ?_)
      refine s_getfield (v := .ref 36) (by decide +kernel) fr_7_21 lq_32 (congrArg Prod.fst sh_32) (fv_ref pf_32_3) (pn 27 rfl ?_)
      refine s_iload_n (i := 2) (by decide +kernel) rfl (pn 28 rfl ?_)
      obtain ⟨b1, h⟩ := h
      refine t_iaload (v := M2.1 36 x2.toNatClampNeg) (by decide +kernel) ⟨Or.inl lq_36, congrArg Prod.fst sh_36⟩ (al_in sh_36 b1) rfl (pn 29 rfl ?_)
      refine s_aload_n (i := 1) (by decide +kernel) rfl (pn 30 rfl ?_)
      refine s_aload_n (i := 0) (by decide +kernel) rfl (pn 31 rfl ?_)
      refine s_getfield (v := .ref 35) (by decide +kernel) fr_7_18 lq_32 (congrArg Prod.fst sh_32) (fv_ref pf_32_2) (pn 34 rfl ?_)
      refine s_iload_n (i := 2) (by decide +kernel) rfl (pn 35 rfl ?_)
      obtain ⟨b2, h⟩ := h
      refine t_iaload (v := M2.1 35 x2.toNatClampNeg) (by decide +kernel) ⟨Or.inl lq_35, congrArg Prod.fst sh_35⟩ (al_in sh_35 b2) rfl (pn 36 rfl ?_)
      refine s_iload_n (i := 2) (by decide +kernel) rfl (pn 37 rfl ?_)
      refine s_iload_n (i := 3) (by decide +kernel) rfl (pn 38 rfl ?_)
      refine s_aload_n (i := 0) (by decide +kernel) rfl (pn 39 rfl ?_)
      refine s_getfield (v := .int (M2.1 32 4)) (by decide +kernel) fr_7_30 lq_32 (congrArg Prod.fst sh_32) rfl (pn 42 rfl ?_)
      refine s_aload_n (i := 0) (by decide +kernel) rfl (pn 43 rfl ?_)
      refine s_getfield (v := .ref 36) (by decide +kernel) fr_7_21 lq_32 (congrArg Prod.fst sh_32) (fv_ref pf_32_3) (pn 46 rfl ?_)
      refine s_iload_n (i := 2) (by decide +kernel) rfl (pn 47 rfl ?_)
      obtain ⟨b3, h⟩ := h
      refine t_iaload (v := M2.1 36 x2.toNatClampNeg) (by decide +kernel) ⟨Or.inl lq_36, congrArg Prod.fst sh_36⟩ (al_in sh_36 b3) rfl (pn 48 rfl ?_)
      refine s_callvI [.int (M2.1 35 x2.toNatClampNeg), .int x2, .int r2, .int (M2.1 32 4), .int (M2.1 36 x2.toNatClampNeg)] rfl (by decide +kernel) mv_7_72 np_34 (Nat.le_of_ble_eq_true rfl) lq_15 ((congrArg Prod.fst sh_15).trans oc_34) (cI_use h (fun r3 s3 M3 h => (pn 51 rfl ?_)))
      refine s_iadd (by decide +kernel) (pn 52 rfl ?_)
      refine s_istore (i := 4) (by decide +kernel) (Nat.le_of_ble_eq_true rfl) (pn 54 rfl (t_store (ls' := [.ref 32, .ref 15, .int x2, .int r2, .int ((M2.1 36 x2.toNatClampNeg) + r3)]) rfl ?_))
      refine s_iload (i := 4) (by decide +kernel) rfl (pn 56 rfl ?_)
      refine s_aload_n (i := 1) (by decide +kernel) rfl (pn 57 rfl ?_)
      refine s_getfield (v := .ref 22) (by decide +kernel) fr_7_76 lq_15 (congrArg Prod.fst sh_15) (fv_ref pf_15_11) (pn 60 rfl ?_)
      refine s_iload_n (i := 2) (by decide +kernel) rfl (pn 61 rfl ?_)
      obtain ⟨b4, h⟩ := h
      refine t_iaload (v := M3.1 22 x2.toNatClampNeg) (by decide +kernel) ⟨Or.inl lq_22, congrArg Prod.fst sh_22⟩ (al_in sh_22 b4) rfl (pn 62 rfl ?_)
      refine s_icmp_le (off := 5) (tgt := 67) (by decide +kernel) rfl (fun c3 => ?_) (fun c3 => (pn 65 rfl ?_))
      · have h := h.1 c3
        refine s_aload_n (i := 0) (by decide +kernel) rfl (pn 68 rfl ?_)
        refine s_getfield (v := .ref 36) (by decide +kernel) fr_7_21 lq_32 (congrArg Prod.fst sh_32) (fv_ref pf_32_3) (pn 71 rfl ?_)
        refine s_iload_n (i := 2) (by decide +kernel) rfl (pn 72 rfl ?_)
        refine s_iload (i := 4) (by decide +kernel) rfl (pn 74 rfl ?_)
        obtain ⟨b5, h⟩ := h
        refine t_iastore (k := x2.toNatClampNeg) (by decide +kernel) ⟨lq_36, congrArg Prod.fst sh_36⟩ (al_in sh_36 b5) rfl (pn 75 rfl ?_)
        refine s_aload_n (i := 0) (by decide +kernel) rfl (pn 76 rfl ?_)
        refine s_getfield (v := .ref 34) (by decide +kernel) fr_7_15 lq_32 (congrArg Prod.fst sh_32) (fv_ref pf_32_1) (pn 79 rfl ?_)
        refine s_iload_n (i := 3) (by decide +kernel) rfl (pn 80 rfl ?_)
        refine s_dup2 (by decide +kernel) rfl rfl (pn 81 rfl ?_)
        obtain ⟨b6, h⟩ := h
        refine t_iaload (v := M3.1 34 r2.toNatClampNeg) (by decide +kernel) ⟨Or.inl lq_34, congrArg Prod.fst sh_34⟩ (al_in sh_34 b6) rfl (pn 82 rfl ?_)
        refine t_iconst (by decide +kernel) ki_1 (pn 83 rfl ?_)
        refine s_iadd (by decide +kernel) (pn 84 rfl ?_)
        obtain ⟨b7, h⟩ := h
        refine t_iastore (k := r2.toNatClampNeg) (by decide +kernel) ⟨lq_34, congrArg Prod.fst sh_34⟩ (al_in sh_34 b7) rfl (pn 85 rfl ?_)
        refine t_iconst (by decide +kernel) ki_0 (pn 86 rfl ?_)
        exact s_ireturn (st := []) (by decide +kernel) (Or.inl rfl) ⟨_, rfl, s3, rfl, h⟩
      · have h := h.2 c3
        refine t_iconst (by decide +kernel) ki_3 (pn 66 rfl ?_)
        exact s_ireturn (st := []) (by decide +kernel) (Or.inl rfl) ⟨_, rfl, s3, rfl, h⟩
    · have h := h.1 c2
      refine t_iconst (by decide +kernel) ki_2 (pn 22 rfl ?_)
      exact s_ireturn (st := []) (by decide +kernel) (Or.inl rfl) ⟨_, rfl, s2, rfl, h⟩
  · have h := h.1 c1
    refine t_iconst (by decide +kernel) ki_1 (pn 9 rfl ?_)
    exact s_ireturn (st := []) (by decide +kernel) (Or.inl rfl) ⟨_, rfl, s1, rfl, h⟩
abbrev wS_borneBy (d pc : Nat) (ls st : List Value) (s : pm_S) (M : pm_M) (Q : Int32 → pm_S → pm_M → Prop) : Prop := wI d prog_9_method_7_code 7 (some .int) false pc ls st s M Q
theorem enS_borneBy {d : Nat} {s : pm_S} {M : pm_M} {x1 : Int32} {Q : Int32 → pm_S → pm_M → Prop}  (h : (¬ (x1 < 0) → (¬ (6 ≤ x1) → vp_in x1 6)) ∧ Q ((if x1 < 0 then 0 else (if 6 ≤ x1 then 0 else (M.1 36 x1.toNatClampNeg))) : Int32) s M) : cI (d + 1) yS_borneBy [.ref 32, .int x1] s M Q := by
  refine pm_toI (by decide) (Nat.le_of_ble_eq_true rfl) ?_
  show wS_borneBy d 0 [.ref 32, .int x1] [] s M Q
  refine s_iload_n (i := 1) (by decide +kernel) rfl (pn 1 rfl ?_)
  obtain ⟨b1, h⟩ := h
  have k1 : ∀ (z1 : Int32) (z1e : z1 = ((if x1 < 0 then 0 else (if 6 ≤ x1 then 0 else (M.1 36 x1.toNatClampNeg))) : Int32)), wS_borneBy d 20 [.ref 32, .int x1] [.int z1] s M Q := by
    intro z1 z1e
    subst z1e
    exact s_ireturn (st := []) (by decide +kernel) (Or.inl rfl) ⟨_, rfl, s, rfl, h⟩
  refine s_if_lt (off := 18) (tgt := 19) (by decide +kernel) rfl (fun c1 => ?_) (fun c1 => (pn 4 rfl ?_))
  · refine t_iconst (by decide +kernel) ki_0 (pn 20 rfl ?_)
    exact k1 _ (by simp only [if_pos c1])
  · refine s_iload_n (i := 1) (by decide +kernel) rfl (pn 5 rfl ?_)
    refine t_bipush (by decide +kernel) kb_6 (pn 7 rfl ?_)
    refine s_icmp_ge (off := 12) (tgt := 19) (by decide +kernel) rfl (fun c2 => ?_) (fun c2 => (pn 10 rfl ?_))
    · refine t_iconst (by decide +kernel) ki_0 (pn 20 rfl ?_)
      exact k1 _ (by simp only [if_neg c1, if_pos c2])
    · refine s_aload_n (i := 0) (by decide +kernel) rfl (pn 11 rfl ?_)
      refine s_getfield (v := .ref 36) (by decide +kernel) fr_7_21 lq_32 (congrArg Prod.fst sh_32) (fv_ref pf_32_3) (pn 14 rfl ?_)
      refine s_iload_n (i := 1) (by decide +kernel) rfl (pn 15 rfl ?_)
      refine t_iaload (v := M.1 36 x1.toNatClampNeg) (by decide +kernel) ⟨Or.inl lq_36, congrArg Prod.fst sh_36⟩ (al_in sh_36 (b1 c1 c2)) rfl (pn 16 rfl ?_)
      refine s_goto (off := 4) (tgt := 20) (by decide +kernel) rfl ?_
      exact k1 _ (by simp only [if_neg c1, if_neg c2])
abbrev wS_trySwap (d pc : Nat) (ls st : List Value) (s : pm_S) (M : pm_M) (Q : Int32 → pm_S → pm_M → Prop) : Prop := wI d prog_9_method_14_code 7 (some .int) false pc ls st s M Q
theorem enS_trySwap {d : Nat} {s : pm_S} {M : pm_M} {x2 : Int32} {x3 : Int32} {Q : Int32 → pm_S → pm_M → Prop}  (h : cI d yL_hasPerson [.ref 15, .int x2] s M (fun r1 s1 M1 => (((r1 = 0) → Q 1 s1 M1) ∧ (¬ (r1 = 0) → cI d yL_hasPerson [.ref 15, .int x3] s1 M1 (fun r2 s2 M2 => (((r2 = 0) → Q 1 s2 M2) ∧ (¬ (r2 = 0) → ((x2 = x3 → Q 1 s2 M2) ∧ (¬ (x2 = x3) → cI d yS_heldThing [.ref 32, .int x2] s2 M2 (fun r3 s3 M3 => cI d yS_heldThing [.ref 32, .int x3] s3 M3 (fun r4 s4 M4 => (((r3 = (-1)) → Q 2 s4 M4) ∧ (¬ (r3 = (-1)) → ((r4 = (-1) → Q 2 s4 M4) ∧ (¬ (r4 = (-1)) → vp_in r3 8 ∧ vp_in r4 8 ∧ Q 0 s4 (pm_si (pm_si M4 33 r3.toNatClampNeg ((10 : Int32) + x3)) 33 r4.toNatClampNeg ((10 : Int32) + x2))))))))))))))))) : cI (d + 1) yS_trySwap [.ref 32, .ref 15, .int x2, .int x3] s M Q := by
  refine pm_toI (by decide) (Nat.le_of_ble_eq_true rfl) ?_
  show wS_trySwap d 0 [.ref 32, .ref 15, .int x2, .int x3, .null, .null] [] s M Q
  refine s_aload_n (i := 1) (by decide +kernel) rfl (pn 1 rfl ?_)
  refine s_iload_n (i := 2) (by decide +kernel) rfl (pn 2 rfl ?_)
  refine s_callvI [.int x2] rfl (by decide +kernel) mv_7_52 np_31 (Nat.le_of_ble_eq_true rfl) lq_15 ((congrArg Prod.fst sh_15).trans oc_31) (cI_use h (fun r1 s1 M1 h => (pn 5 rfl ?_)))
  refine s_if_eq (off := 16) (tgt := 21) (by decide +kernel) rfl (fun c1 => ?_) (fun c1 => (pn 8 rfl ?_))
  · have h := h.1 c1
    refine t_iconst (by decide +kernel) ki_1 (pn 22 rfl ?_)
    exact s_ireturn (st := []) (by decide +kernel) (Or.inl rfl) ⟨_, rfl, s1, rfl, h⟩
  · have h := h.2 c1
    refine s_aload_n (i := 1) (by decide +kernel) rfl (pn 9 rfl ?_)
    refine s_iload_n (i := 3) (by decide +kernel) rfl (pn 10 rfl ?_)
    refine s_callvI [.int x3] rfl (by decide +kernel) mv_7_52 np_31 (Nat.le_of_ble_eq_true rfl) lq_15 ((congrArg Prod.fst sh_15).trans oc_31) (cI_use h (fun r2 s2 M2 h => (pn 13 rfl ?_)))
    refine s_if_eq (off := 8) (tgt := 21) (by decide +kernel) rfl (fun c2 => ?_) (fun c2 => (pn 16 rfl ?_))
    · have h := h.1 c2
      refine t_iconst (by decide +kernel) ki_1 (pn 22 rfl ?_)
      exact s_ireturn (st := []) (by decide +kernel) (Or.inl rfl) ⟨_, rfl, s2, rfl, h⟩
    · have h := h.2 c2
      refine s_iload_n (i := 2) (by decide +kernel) rfl (pn 17 rfl ?_)
      refine s_iload_n (i := 3) (by decide +kernel) rfl (pn 18 rfl ?_)
      refine t_icmp_ne (off := 5) (tgt := 23) (by decide +kernel) rfl (fun c3 => ?_) (fun c3 => (pn 21 rfl ?_))
      · have h := h.2 c3
        refine s_aload_n (i := 0) (by decide +kernel) rfl (pn 24 rfl ?_)
        refine s_iload_n (i := 2) (by decide +kernel) rfl (pn 25 rfl ?_)
        refine s_callvI [.int x2] rfl (by decide +kernel) mv_7_62 np_82 (Nat.le_of_ble_eq_true rfl) lq_32 ((congrArg Prod.fst sh_32).trans oc_82) (cI_use h (fun r3 s3 M3 h => (pn 28 rfl ?_)))
        refine s_istore (i := 4) (by decide +kernel) (Nat.le_of_ble_eq_true rfl) (pn 30 rfl (t_store (ls' := [.ref 32, .ref 15, .int x2, .int x3, .int r3, .null]) rfl ?_))
        refine s_aload_n (i := 0) (by decide +kernel) rfl (pn 31 rfl ?_)
        refine s_iload_n (i := 3) (by decide +kernel) rfl (pn 32 rfl ?_)
        refine s_callvI [.int x3] rfl (by decide +kernel) mv_7_62 np_82 (Nat.le_of_ble_eq_true rfl) lq_32 ((congrArg Prod.fst sh_32).trans oc_82) (cI_use h (fun r4 s4 M4 h => (pn 35 rfl ?_)))
        refine s_istore (i := 5) (by decide +kernel) (Nat.le_of_ble_eq_true rfl) (pn 37 rfl (t_store (ls' := [.ref 32, .ref 15, .int x2, .int x3, .int r3, .int r4]) rfl ?_))
        refine s_iload (i := 4) (by decide +kernel) rfl (pn 39 rfl ?_)
        refine t_iconst (by decide +kernel) ki_m1 (pn 40 rfl ?_)
        refine s_icmp_eq (off := 9) (tgt := 49) (by decide +kernel) rfl (fun c4 => ?_) (fun c4 => (pn 43 rfl ?_))
        · have h := h.1 c4
          refine t_iconst (by decide +kernel) ki_2 (pn 50 rfl ?_)
          exact s_ireturn (st := []) (by decide +kernel) (Or.inl rfl) ⟨_, rfl, s4, rfl, h⟩
        · have h := h.2 c4
          refine s_iload (i := 5) (by decide +kernel) rfl (pn 45 rfl ?_)
          refine t_iconst (by decide +kernel) ki_m1 (pn 46 rfl ?_)
          refine t_icmp_ne (off := 5) (tgt := 51) (by decide +kernel) rfl (fun c5 => ?_) (fun c5 => (pn 49 rfl ?_))
          · have h := h.2 c5
            refine s_aload_n (i := 0) (by decide +kernel) rfl (pn 52 rfl ?_)
            refine s_getfield (v := .ref 33) (by decide +kernel) fr_7_9 lq_32 (congrArg Prod.fst sh_32) (fv_ref pf_32_0) (pn 55 rfl ?_)
            refine s_iload (i := 4) (by decide +kernel) rfl (pn 57 rfl ?_)
            refine t_bipush (by decide +kernel) kb_10 (pn 59 rfl ?_)
            refine s_iload_n (i := 3) (by decide +kernel) rfl (pn 60 rfl ?_)
            refine s_iadd (by decide +kernel) (pn 61 rfl ?_)
            obtain ⟨b1, h⟩ := h
            refine t_iastore (k := r3.toNatClampNeg) (by decide +kernel) ⟨lq_33, congrArg Prod.fst sh_33⟩ (al_in sh_33 b1) rfl (pn 62 rfl ?_)
            refine s_aload_n (i := 0) (by decide +kernel) rfl (pn 63 rfl ?_)
            refine s_getfield (v := .ref 33) (by decide +kernel) fr_7_9 lq_32 (congrArg Prod.fst sh_32) (fv_ref pf_32_0) (pn 66 rfl ?_)
            refine s_iload (i := 5) (by decide +kernel) rfl (pn 68 rfl ?_)
            refine t_bipush (by decide +kernel) kb_10 (pn 70 rfl ?_)
            refine s_iload_n (i := 2) (by decide +kernel) rfl (pn 71 rfl ?_)
            refine s_iadd (by decide +kernel) (pn 72 rfl ?_)
            obtain ⟨b2, h⟩ := h
            refine t_iastore (k := r4.toNatClampNeg) (by decide +kernel) ⟨lq_33, congrArg Prod.fst sh_33⟩ (al_in sh_33 b2) rfl (pn 73 rfl ?_)
            refine t_iconst (by decide +kernel) ki_0 (pn 74 rfl ?_)
            exact s_ireturn (st := []) (by decide +kernel) (Or.inl rfl) ⟨_, rfl, s4, rfl, h⟩
          · have h := h.1 c5
            refine t_iconst (by decide +kernel) ki_2 (pn 50 rfl ?_)
            exact s_ireturn (st := []) (by decide +kernel) (Or.inl rfl) ⟨_, rfl, s4, rfl, h⟩
      · have h := h.1 c3
        refine t_iconst (by decide +kernel) ki_1 (pn 22 rfl ?_)
        exact s_ireturn (st := []) (by decide +kernel) (Or.inl rfl) ⟨_, rfl, s2, rfl, h⟩
abbrev wS_markOf (d pc : Nat) (ls st : List Value) (s : pm_S) (M : pm_M) (Q : Int32 → pm_S → pm_M → Prop) : Prop := wI d prog_9_method_6_code 7 (some .int) false pc ls st s M Q
theorem enS_markOf {d : Nat} {s : pm_S} {M : pm_M} {x1 : Int32} {Q : Int32 → pm_S → pm_M → Prop}  (h : (¬ (x1 < 0) → (¬ (6 ≤ x1) → vp_in x1 6)) ∧ Q ((if x1 < 0 then 0 else (if 6 ≤ x1 then 0 else (M.1 30 x1.toNatClampNeg))) : Int32) s M) : cI (d + 1) yS_markOf [.ref 27, .int x1] s M Q := by
  refine pm_toI (by decide) (Nat.le_of_ble_eq_true rfl) ?_
  show wS_markOf d 0 [.ref 27, .int x1] [] s M Q
  refine s_iload_n (i := 1) (by decide +kernel) rfl (pn 1 rfl ?_)
  obtain ⟨b1, h⟩ := h
  have k1 : ∀ (z1 : Int32) (z1e : z1 = ((if x1 < 0 then 0 else (if 6 ≤ x1 then 0 else (M.1 30 x1.toNatClampNeg))) : Int32)), wS_markOf d 20 [.ref 27, .int x1] [.int z1] s M Q := by
    intro z1 z1e
    subst z1e
    exact s_ireturn (st := []) (by decide +kernel) (Or.inl rfl) ⟨_, rfl, s, rfl, h⟩
  refine s_if_lt (off := 18) (tgt := 19) (by decide +kernel) rfl (fun c1 => ?_) (fun c1 => (pn 4 rfl ?_))
  · refine t_iconst (by decide +kernel) ki_0 (pn 20 rfl ?_)
    exact k1 _ (by simp only [if_pos c1])
  · refine s_iload_n (i := 1) (by decide +kernel) rfl (pn 5 rfl ?_)
    refine t_bipush (by decide +kernel) kb_6 (pn 7 rfl ?_)
    refine s_icmp_ge (off := 12) (tgt := 19) (by decide +kernel) rfl (fun c2 => ?_) (fun c2 => (pn 10 rfl ?_))
    · refine t_iconst (by decide +kernel) ki_0 (pn 20 rfl ?_)
      exact k1 _ (by simp only [if_neg c1, if_pos c2])
    · refine s_aload_n (i := 0) (by decide +kernel) rfl (pn 11 rfl ?_)
      refine s_getfield (v := .ref 30) (by decide +kernel) fr_7_18 lq_27 (congrArg Prod.fst sh_27) (fv_ref pf_27_2) (pn 14 rfl ?_)
      refine s_iload_n (i := 1) (by decide +kernel) rfl (pn 15 rfl ?_)
      refine t_iaload (v := M.1 30 x1.toNatClampNeg) (by decide +kernel) ⟨Or.inl lq_30, congrArg Prod.fst sh_30⟩ (al_in sh_30 (b1 c1 c2)) rfl (pn 16 rfl ?_)
      refine s_goto (off := 4) (tgt := 20) (by decide +kernel) rfl ?_
      exact k1 _ (by simp only [if_neg c1, if_neg c2])
abbrev wS_tryMark (d pc : Nat) (ls st : List Value) (s : pm_S) (M : pm_M) (Q : Int32 → pm_S → pm_M → Prop) : Prop := wI d prog_9_method_15_code 7 (some .int) false pc ls st s M Q
theorem enS_tryMark {d : Nat} {s : pm_S} {M : pm_M} {x2 : Int32} {x3 : Int32} {Q : Int32 → pm_S → pm_M → Prop}  (h : cI d yL_hasPerson [.ref 15, .int x2] s M (fun r1 s1 M1 => (((r1 = 0) → Q 1 s1 M1) ∧ (¬ (r1 = 0) → (((x3 < 0) → Q 1 s1 M1) ∧ (¬ (x3 < 0) → (((x3 < 10) → vp_in x2 6 ∧ Q 0 s1 (pm_si M1 35 x2.toNatClampNeg x3)) ∧ (¬ (x3 < 10) → Q 1 s1 M1)))))))) : cI (d + 1) yS_tryMark [.ref 32, .ref 15, .int x2, .int x3] s M Q := by
  refine pm_toI (by decide) (Nat.le_of_ble_eq_true rfl) ?_
  show wS_tryMark d 0 [.ref 32, .ref 15, .int x2, .int x3] [] s M Q
  refine s_aload_n (i := 1) (by decide +kernel) rfl (pn 1 rfl ?_)
  refine s_iload_n (i := 2) (by decide +kernel) rfl (pn 2 rfl ?_)
  refine s_callvI [.int x2] rfl (by decide +kernel) mv_7_52 np_31 (Nat.le_of_ble_eq_true rfl) lq_15 ((congrArg Prod.fst sh_15).trans oc_31) (cI_use h (fun r1 s1 M1 h => (pn 5 rfl ?_)))
  refine s_if_eq (off := 13) (tgt := 18) (by decide +kernel) rfl (fun c1 => ?_) (fun c1 => (pn 8 rfl ?_))
  · have h := h.1 c1
    refine t_iconst (by decide +kernel) ki_1 (pn 19 rfl ?_)
    exact s_ireturn (st := []) (by decide +kernel) (Or.inl rfl) ⟨_, rfl, s1, rfl, h⟩
  · have h := h.2 c1
    refine s_iload_n (i := 3) (by decide +kernel) rfl (pn 9 rfl ?_)
    refine s_if_lt (off := 9) (tgt := 18) (by decide +kernel) rfl (fun c2 => ?_) (fun c2 => (pn 12 rfl ?_))
    · have h := h.1 c2
      refine t_iconst (by decide +kernel) ki_1 (pn 19 rfl ?_)
      exact s_ireturn (st := []) (by decide +kernel) (Or.inl rfl) ⟨_, rfl, s1, rfl, h⟩
    · have h := h.2 c2
      refine s_iload_n (i := 3) (by decide +kernel) rfl (pn 13 rfl ?_)
      refine t_bipush (by decide +kernel) kb_10 (pn 15 rfl ?_)
      refine s_icmp_lt (off := 5) (tgt := 20) (by decide +kernel) rfl (fun c3 => ?_) (fun c3 => (pn 18 rfl ?_))
      · have h := h.1 c3
        refine s_aload_n (i := 0) (by decide +kernel) rfl (pn 21 rfl ?_)
        refine s_getfield (v := .ref 35) (by decide +kernel) fr_7_18 lq_32 (congrArg Prod.fst sh_32) (fv_ref pf_32_2) (pn 24 rfl ?_)
        refine s_iload_n (i := 2) (by decide +kernel) rfl (pn 25 rfl ?_)
        refine s_iload_n (i := 3) (by decide +kernel) rfl (pn 26 rfl ?_)
        obtain ⟨b1, h⟩ := h
        refine t_iastore (k := x2.toNatClampNeg) (by decide +kernel) ⟨lq_35, congrArg Prod.fst sh_35⟩ (al_in sh_35 b1) rfl (pn 27 rfl ?_)
        refine t_iconst (by decide +kernel) ki_0 (pn 28 rfl ?_)
        exact s_ireturn (st := []) (by decide +kernel) (Or.inl rfl) ⟨_, rfl, s1, rfl, h⟩
      · have h := h.2 c3
        refine t_iconst (by decide +kernel) ki_1 (pn 19 rfl ?_)
        exact s_ireturn (st := []) (by decide +kernel) (Or.inl rfl) ⟨_, rfl, s1, rfl, h⟩
abbrev wS_passDay (d pc : Nat) (ls st : List Value) (s : pm_S) (M : pm_M) (Q : Int32 → pm_S → pm_M → Prop) : Prop := wI d prog_9_method_20_code 7 (some .int) false pc ls st s M Q
theorem enS_passDay {d : Nat} {s : pm_S} {M : pm_M}  {Q : Int32 → pm_S → pm_M → Prop}  (h : cI d yS_draw [.ref 32] s M (fun r1 s1 M1 => cV d yarr_fill_II [.ref 36, .int 0] s1 (pm_si M1 32 4 ((if (M1.1 15 4) ≤ (r1 - r1 / 10 * 10) then 0 else 1) : Int32)) (fun s2 M2 => wS_passDay d 35 [.ref 32, .ref 15, .int 0, .int 0] [] s2 M2 Q))) : cI (d + 1) yS_passDay [.ref 32, .ref 15] s M Q := by
  refine pm_toI (by decide) (Nat.le_of_ble_eq_true rfl) ?_
  show wS_passDay d 0 [.ref 32, .ref 15, .null, .null] [] s M Q
  refine s_aload_n (i := 0) (by decide +kernel) rfl (pn 1 rfl ?_)
  refine s_aload_n (i := 0) (by decide +kernel) rfl (pn 2 rfl ?_)
  refine s_callvI [] rfl (by decide +kernel) mv_7_130 np_93 (Nat.le_of_ble_eq_true rfl) lq_32 ((congrArg Prod.fst sh_32).trans oc_93) (cI_use h (fun r1 s1 M1 h => (pn 5 rfl ?_)))
  refine t_bipush (by decide +kernel) kb_10 (pn 7 rfl ?_)
  refine s_irem (by decide +kernel) (by decide) (pn 8 rfl ?_)
  refine s_aload_n (i := 1) (by decide +kernel) rfl (pn 9 rfl ?_)
  refine s_getfield (v := .int (M1.1 15 4)) (by decide +kernel) fr_7_135 lq_15 (congrArg Prod.fst sh_15) rfl (pn 12 rfl ?_)
  have k1 : ∀ (z1 : Int32) (z1e : z1 = ((if (M1.1 15 4) ≤ (r1 - r1 / 10 * 10) then 0 else 1) : Int32)), wS_passDay d 20 [.ref 32, .ref 15, .null, .null] [.int z1, .ref 32] s1 M1 Q := by
    intro z1 z1e
    subst z1e
    refine s_putfieldI (by decide +kernel) fr_7_30 lq_32 (congrArg Prod.fst sh_32) (fun q => by cases q) (Or.inl rfl) (pn 23 rfl ?_)
    refine s_aload_n (i := 0) (by decide +kernel) rfl (pn 24 rfl ?_)
    refine s_getfield (v := .ref 36) (by decide +kernel) fr_7_21 lq_32 (congrArg Prod.fst sh_32) (fv_ref pf_32_3) (pn 27 rfl ?_)
    refine t_iconst (by decide +kernel) ki_0 (pn 28 rfl ?_)
    refine s_callsV [.ref 36, .int 0] rfl (by decide +kernel) ms_7_138 np_326 (Nat.le_of_ble_eq_true rfl) (cV_use h (fun s2 M2 h => (pn 31 rfl ?_)))
    refine t_iconst (by decide +kernel) ki_0 (pn 32 rfl ?_)
    refine s_istore_n (i := 2) (by decide +kernel) (Nat.le_of_ble_eq_true rfl) (pn 33 rfl (t_store (ls' := [.ref 32, .ref 15, .int 0, .null]) rfl ?_))
    refine t_iconst (by decide +kernel) ki_0 (pn 34 rfl ?_)
    refine s_istore_n (i := 3) (by decide +kernel) (Nat.le_of_ble_eq_true rfl) (pn 35 rfl (t_store (ls' := [.ref 32, .ref 15, .int 0, .int 0]) rfl ?_))
    exact h
  refine s_icmp_ge (off := 7) (tgt := 19) (by decide +kernel) rfl (fun c1 => ?_) (fun c1 => (pn 15 rfl ?_))
  · refine t_iconst (by decide +kernel) ki_0 (pn 20 rfl ?_)
    exact k1 _ (by simp only [if_pos c1])
  · refine t_iconst (by decide +kernel) ki_1 (pn 16 rfl ?_)
    refine s_goto (off := 4) (tgt := 20) (by decide +kernel) rfl ?_
    exact k1 _ (by simp only [if_neg c1])
theorem sgS_passDay_35 {d : Nat} {s : pm_S} {M : pm_M} {l2 : Int32} {l3 : Int32} {Q : Int32 → pm_S → pm_M → Prop}  (h : (((8 ≤ l3) → Q l2 s (pm_si M 32 5 ((M.1 32 5) + 1))) ∧ (¬ (8 ≤ l3) → cI d yL_hasThing [.ref 15, .int l3] s M (fun r1 s1 M1 => (((r1 = 0) → Q l2 s1 (pm_si M1 32 5 ((M1.1 32 5) + 1))) ∧ (¬ (r1 = 0) → vp_in l3 8 ∧ ((((M1.1 33 l3.toNatClampNeg) < 0) → wS_passDay d 35 [.ref 32, .ref 15, .int l2, .int (l3 + 1)] [] s1 M1 Q) ∧ (¬ ((M1.1 33 l3.toNatClampNeg) < 0) → vp_in l3 8 ∧ (((8 ≤ (M1.1 33 l3.toNatClampNeg)) → wS_passDay d 35 [.ref 32, .ref 15, .int l2, .int (l3 + 1)] [] s1 M1 Q) ∧ (¬ (8 ≤ (M1.1 33 l3.toNatClampNeg)) → vp_in l3 8 ∧ cI d yS_nextPlace [.ref 32, .ref 15, .int l3, .int ((M1.1 33 l3.toNatClampNeg) + 1)] s1 M1 (fun r2 s2 M2 => vp_in l3 8 ∧ vp_in l3 8 ∧ (¬ (((pm_si M2 33 l3.toNatClampNeg r2).1 33 l3.toNatClampNeg) < 10) → vp_in l3 8) ∧ (∀ v1 : Int32, v1 = l2 + ((if ((pm_si M2 33 l3.toNatClampNeg r2).1 33 l3.toNatClampNeg) < 10 then 0 else (if ((pm_si M2 33 l3.toNatClampNeg r2).1 33 l3.toNatClampNeg) = 99 then 0 else 1)) : Int32) → wS_passDay d 35 [.ref 32, .ref 15, .int v1, .int (l3 + 1)] [] s2 (pm_si M2 33 l3.toNatClampNeg r2) Q)))))))))))) : wS_passDay d 35 [.ref 32, .ref 15, .int l2, .int l3] [] s M Q := by
  refine s_iload_n (i := 3) (by decide +kernel) rfl (pn 36 rfl ?_)
  refine t_bipush (by decide +kernel) kb_8 (pn 38 rfl ?_)
  refine s_icmp_ge (off := 87) (tgt := 125) (by decide +kernel) rfl (fun c1 => ?_) (fun c1 => (pn 41 rfl ?_))
  · have h := h.1 c1
    refine s_aload_n (i := 0) (by decide +kernel) rfl (pn 126 rfl ?_)
    refine s_dup (by decide +kernel) rfl (pn 127 rfl ?_)
    refine s_getfield (v := .int (M.1 32 5)) (by decide +kernel) fr_7_34 lq_32 (congrArg Prod.fst sh_32) rfl (pn 130 rfl ?_)
    refine t_iconst (by decide +kernel) ki_1 (pn 131 rfl ?_)
    refine s_iadd (by decide +kernel) (pn 132 rfl ?_)
    refine s_putfieldI (by decide +kernel) fr_7_34 lq_32 (congrArg Prod.fst sh_32) (fun q => by cases q) (Or.inl rfl) (pn 135 rfl ?_)
    refine s_iload_n (i := 2) (by decide +kernel) rfl (pn 136 rfl ?_)
    exact s_ireturn (st := []) (by decide +kernel) (Or.inl rfl) ⟨_, rfl, s, rfl, h⟩
  · have h := h.2 c1
    refine s_aload_n (i := 1) (by decide +kernel) rfl (pn 42 rfl ?_)
    refine s_iload_n (i := 3) (by decide +kernel) rfl (pn 43 rfl ?_)
    refine s_callvI [.int l3] rfl (by decide +kernel) mv_7_40 np_28 (Nat.le_of_ble_eq_true rfl) lq_15 ((congrArg Prod.fst sh_15).trans oc_28) (cI_use h (fun r1 s1 M1 h => (pn 46 rfl ?_)))
    refine s_if_eq (off := 79) (tgt := 125) (by decide +kernel) rfl (fun c2 => ?_) (fun c2 => (pn 49 rfl ?_))
    · have h := h.1 c2
      refine s_aload_n (i := 0) (by decide +kernel) rfl (pn 126 rfl ?_)
      refine s_dup (by decide +kernel) rfl (pn 127 rfl ?_)
      refine s_getfield (v := .int (M1.1 32 5)) (by decide +kernel) fr_7_34 lq_32 (congrArg Prod.fst sh_32) rfl (pn 130 rfl ?_)
      refine t_iconst (by decide +kernel) ki_1 (pn 131 rfl ?_)
      refine s_iadd (by decide +kernel) (pn 132 rfl ?_)
      refine s_putfieldI (by decide +kernel) fr_7_34 lq_32 (congrArg Prod.fst sh_32) (fun q => by cases q) (Or.inl rfl) (pn 135 rfl ?_)
      refine s_iload_n (i := 2) (by decide +kernel) rfl (pn 136 rfl ?_)
      exact s_ireturn (st := []) (by decide +kernel) (Or.inl rfl) ⟨_, rfl, s1, rfl, h⟩
    · have h := h.2 c2
      refine s_aload_n (i := 0) (by decide +kernel) rfl (pn 50 rfl ?_)
      refine s_getfield (v := .ref 33) (by decide +kernel) fr_7_9 lq_32 (congrArg Prod.fst sh_32) (fv_ref pf_32_0) (pn 53 rfl ?_)
      refine s_iload_n (i := 3) (by decide +kernel) rfl (pn 54 rfl ?_)
      obtain ⟨b1, h⟩ := h
      refine t_iaload (v := M1.1 33 l3.toNatClampNeg) (by decide +kernel) ⟨Or.inl lq_33, congrArg Prod.fst sh_33⟩ (al_in sh_33 b1) rfl (pn 55 rfl ?_)
      refine s_if_lt (off := 64) (tgt := 119) (by decide +kernel) rfl (fun c4 => ?_) (fun c4 => (pn 58 rfl ?_))
      · have h := h.1 c4
        refine t_iinc (i := 3) (n := 1) (ls' := [.ref 32, .ref 15, .int l2, .int (l3 + 1)]) (by decide +kernel) rfl (Nat.le_of_ble_eq_true rfl) kn_1 rfl (pn 122 rfl ?_)
        refine s_goto (off := -87) (tgt := 35) (by decide +kernel) rfl ?_
        exact h
      · have h := h.2 c4
        refine s_aload_n (i := 0) (by decide +kernel) rfl (pn 59 rfl ?_)
        refine s_getfield (v := .ref 33) (by decide +kernel) fr_7_9 lq_32 (congrArg Prod.fst sh_32) (fv_ref pf_32_0) (pn 62 rfl ?_)
        refine s_iload_n (i := 3) (by decide +kernel) rfl (pn 63 rfl ?_)
        obtain ⟨b2, h⟩ := h
        refine t_iaload (v := M1.1 33 l3.toNatClampNeg) (by decide +kernel) ⟨Or.inl lq_33, congrArg Prod.fst sh_33⟩ (al_in sh_33 b2) rfl (pn 64 rfl ?_)
        refine t_bipush (by decide +kernel) kb_8 (pn 66 rfl ?_)
        refine s_icmp_ge (off := 53) (tgt := 119) (by decide +kernel) rfl (fun c6 => ?_) (fun c6 => (pn 69 rfl ?_))
        · have h := h.1 c6
          refine t_iinc (i := 3) (n := 1) (ls' := [.ref 32, .ref 15, .int l2, .int (l3 + 1)]) (by decide +kernel) rfl (Nat.le_of_ble_eq_true rfl) kn_1 rfl (pn 122 rfl ?_)
          refine s_goto (off := -87) (tgt := 35) (by decide +kernel) rfl ?_
          exact h
        · have h := h.2 c6
          refine s_aload_n (i := 0) (by decide +kernel) rfl (pn 70 rfl ?_)
          refine s_getfield (v := .ref 33) (by decide +kernel) fr_7_9 lq_32 (congrArg Prod.fst sh_32) (fv_ref pf_32_0) (pn 73 rfl ?_)
          refine s_iload_n (i := 3) (by decide +kernel) rfl (pn 74 rfl ?_)
          refine s_aload_n (i := 0) (by decide +kernel) rfl (pn 75 rfl ?_)
          refine s_aload_n (i := 1) (by decide +kernel) rfl (pn 76 rfl ?_)
          refine s_iload_n (i := 3) (by decide +kernel) rfl (pn 77 rfl ?_)
          refine s_aload_n (i := 0) (by decide +kernel) rfl (pn 78 rfl ?_)
          refine s_getfield (v := .ref 33) (by decide +kernel) fr_7_9 lq_32 (congrArg Prod.fst sh_32) (fv_ref pf_32_0) (pn 81 rfl ?_)
          refine s_iload_n (i := 3) (by decide +kernel) rfl (pn 82 rfl ?_)
          obtain ⟨b3, h⟩ := h
          refine t_iaload (v := M1.1 33 l3.toNatClampNeg) (by decide +kernel) ⟨Or.inl lq_33, congrArg Prod.fst sh_33⟩ (al_in sh_33 b3) rfl (pn 83 rfl ?_)
          refine t_iconst (by decide +kernel) ki_1 (pn 84 rfl ?_)
          refine s_iadd (by decide +kernel) (pn 85 rfl ?_)
          refine s_callvI [.ref 15, .int l3, .int ((M1.1 33 l3.toNatClampNeg) + 1)] rfl (by decide +kernel) mv_7_144 np_94 (Nat.le_of_ble_eq_true rfl) lq_32 ((congrArg Prod.fst sh_32).trans oc_94) (cI_use h (fun r2 s2 M2 h => (pn 88 rfl ?_)))
          obtain ⟨b4, h⟩ := h
          refine t_iastore (k := l3.toNatClampNeg) (by decide +kernel) ⟨lq_33, congrArg Prod.fst sh_33⟩ (al_in sh_33 b4) rfl (pn 89 rfl ?_)
          refine s_iload_n (i := 2) (by decide +kernel) rfl (pn 90 rfl ?_)
          refine s_aload_n (i := 0) (by decide +kernel) rfl (pn 91 rfl ?_)
          refine s_getfield (v := .ref 33) (by decide +kernel) fr_7_9 lq_32 (congrArg Prod.fst sh_32) (fv_ref pf_32_0) (pn 94 rfl ?_)
          refine s_iload_n (i := 3) (by decide +kernel) rfl (pn 95 rfl ?_)
          obtain ⟨b5, h⟩ := h
          refine t_iaload (v := (pm_si M2 33 l3.toNatClampNeg r2).1 33 l3.toNatClampNeg) (by decide +kernel) ⟨Or.inl lq_33, congrArg Prod.fst sh_33⟩ (al_in sh_33 b5) rfl (pn 96 rfl ?_)
          refine t_bipush (by decide +kernel) kb_10 (pn 98 rfl ?_)
          obtain ⟨b6, h⟩ := h
          have k1 : ∀ (z1 : Int32) (z1e : z1 = ((if ((pm_si M2 33 l3.toNatClampNeg r2).1 33 l3.toNatClampNeg) < 10 then 0 else (if ((pm_si M2 33 l3.toNatClampNeg r2).1 33 l3.toNatClampNeg) = 99 then 0 else 1)) : Int32)), wS_passDay d 117 [.ref 32, .ref 15, .int l2, .int l3] [.int z1, .int l2] s2 (pm_si M2 33 l3.toNatClampNeg r2) Q := by
            intro z1 z1e
            subst z1e
            refine s_iadd (by decide +kernel) (pn 118 rfl ?_)
            obtain ⟨v1, ev1⟩ : ∃ zz : Int32, zz = l2 + ((if ((pm_si M2 33 l3.toNatClampNeg r2).1 33 l3.toNatClampNeg) < 10 then 0 else (if ((pm_si M2 33 l3.toNatClampNeg r2).1 33 l3.toNatClampNeg) = 99 then 0 else 1)) : Int32) := ⟨_, rfl⟩
            have h := h v1 ev1
            rw [← ev1]
            refine s_istore_n (i := 2) (by decide +kernel) (Nat.le_of_ble_eq_true rfl) (pn 119 rfl (t_store (ls' := [.ref 32, .ref 15, .int v1, .int l3]) rfl ?_))
            refine t_iinc (i := 3) (n := 1) (ls' := [.ref 32, .ref 15, .int v1, .int (l3 + 1)]) (by decide +kernel) rfl (Nat.le_of_ble_eq_true rfl) kn_1 rfl (pn 122 rfl ?_)
            refine s_goto (off := -87) (tgt := 35) (by decide +kernel) rfl ?_
            exact h
          refine s_icmp_lt (off := 18) (tgt := 116) (by decide +kernel) rfl (fun c7 => ?_) (fun c7 => (pn 101 rfl ?_))
          · refine t_iconst (by decide +kernel) ki_0 (pn 117 rfl ?_)
            exact k1 _ (by simp only [if_pos c7])
          · refine s_aload_n (i := 0) (by decide +kernel) rfl (pn 102 rfl ?_)
            refine s_getfield (v := .ref 33) (by decide +kernel) fr_7_9 lq_32 (congrArg Prod.fst sh_32) (fv_ref pf_32_0) (pn 105 rfl ?_)
            refine s_iload_n (i := 3) (by decide +kernel) rfl (pn 106 rfl ?_)
            refine t_iaload (v := (pm_si M2 33 l3.toNatClampNeg r2).1 33 l3.toNatClampNeg) (by decide +kernel) ⟨Or.inl lq_33, congrArg Prod.fst sh_33⟩ (al_in sh_33 (b6 c7)) rfl (pn 107 rfl ?_)
            refine t_bipush (by decide +kernel) kb_99 (pn 109 rfl ?_)
            refine s_icmp_eq (off := 7) (tgt := 116) (by decide +kernel) rfl (fun c8 => ?_) (fun c8 => (pn 112 rfl ?_))
            · refine t_iconst (by decide +kernel) ki_0 (pn 117 rfl ?_)
              exact k1 _ (by simp only [if_neg c7, if_pos c8])
            · refine t_iconst (by decide +kernel) ki_1 (pn 113 rfl ?_)
              refine s_goto (off := 4) (tgt := 117) (by decide +kernel) rfl ?_
              exact k1 _ (by simp only [if_neg c7, if_neg c8])
abbrev wS_draw (d pc : Nat) (ls st : List Value) (s : pm_S) (M : pm_M) (Q : Int32 → pm_S → pm_M → Prop) : Prop := wI d prog_9_method_19_code 7 (some .int) false pc ls st s M Q
theorem enS_draw {d : Nat} {s : pm_S} {M : pm_M}  {Q : Int32 → pm_S → pm_M → Prop}  (h : Q (((((1103515245 : Int32) * (M.1 32 6)) + 12345).toUInt32 >>> ((16 : Int32).toUInt32 &&& Int32.toUInt32 31)).toInt32) s (pm_si M 32 6 (((1103515245 : Int32) * (M.1 32 6)) + 12345))) : cI (d + 1) yS_draw [.ref 32] s M Q := by
  refine pm_toI (by decide) (Nat.le_of_ble_eq_true rfl) ?_
  show wS_draw d 0 [.ref 32] [] s M Q
  refine s_aload_n (i := 0) (by decide +kernel) rfl (pn 1 rfl ?_)
  refine s_ldc (by decide +kernel) kc_7_134 (pn 3 rfl ?_)
  refine s_aload_n (i := 0) (by decide +kernel) rfl (pn 4 rfl ?_)
  refine s_getfield (v := .int (M.1 32 6)) (by decide +kernel) fr_7_37 lq_32 (congrArg Prod.fst sh_32) rfl (pn 7 rfl ?_)
  refine s_imul (by decide +kernel) (pn 8 rfl ?_)
  refine t_sipush (by decide +kernel) ks_12345 (pn 11 rfl ?_)
  refine s_iadd (by decide +kernel) (pn 12 rfl ?_)
  refine s_putfieldI (by decide +kernel) fr_7_37 lq_32 (congrArg Prod.fst sh_32) (fun q => by cases q) (Or.inl rfl) (pn 15 rfl ?_)
  refine s_aload_n (i := 0) (by decide +kernel) rfl (pn 16 rfl ?_)
  refine s_getfield (v := .int (((1103515245 : Int32) * (M.1 32 6)) + 12345)) (by decide +kernel) fr_7_37 lq_32 (congrArg Prod.fst sh_32) rfl (pn 19 rfl ?_)
  refine t_bipush (by decide +kernel) kb_16 (pn 21 rfl ?_)
  refine s_iushr (by decide +kernel) (pn 22 rfl ?_)
  exact s_ireturn (st := []) (by decide +kernel) (Or.inl rfl) ⟨_, rfl, s, rfl, h⟩
abbrev wS_nextPlace (d pc : Nat) (ls st : List Value) (s : pm_S) (M : pm_M) (Q : Int32 → pm_S → pm_M → Prop) : Prop := wI d prog_9_method_21_code 7 (some .int) false pc ls st s M Q
theorem enS_nextPlace {d : Nat} {s : pm_S} {M : pm_M} {x2 : Int32} {x3 : Int32} {Q : Int32 → pm_S → pm_M → Prop}  (h : cI d yL_hasStation [.ref 15, .int x3] s M (fun r1 s1 M1 => ((r1 = 0 → Q 99 s1 M1) ∧ (¬ (r1 = 0) → wS_nextPlace d 20 [.ref 32, .ref 15, .int x2, .int x3, .int x3, .int 0, .int 0, .null] [] s1 M1 Q)))) : cI (d + 1) yS_nextPlace [.ref 32, .ref 15, .int x2, .int x3] s M Q := by
  refine pm_toI (by decide) (Nat.le_of_ble_eq_true rfl) ?_
  show wS_nextPlace d 0 [.ref 32, .ref 15, .int x2, .int x3, .null, .null, .null, .null] [] s M Q
  refine s_aload_n (i := 1) (by decide +kernel) rfl (pn 1 rfl ?_)
  refine s_iload_n (i := 3) (by decide +kernel) rfl (pn 2 rfl ?_)
  refine s_callvI [.int x3] rfl (by decide +kernel) mv_7_147 np_35 (Nat.le_of_ble_eq_true rfl) lq_15 ((congrArg Prod.fst sh_15).trans oc_35) (cI_use h (fun r1 s1 M1 h => (pn 5 rfl ?_)))
  refine t_if_ne (off := 6) (tgt := 11) (by decide +kernel) rfl (fun c1 => ?_) (fun c1 => (pn 8 rfl ?_))
  · have h := h.2 c1
    refine s_iload_n (i := 3) (by decide +kernel) rfl (pn 12 rfl ?_)
    refine s_istore (i := 4) (by decide +kernel) (Nat.le_of_ble_eq_true rfl) (pn 14 rfl (t_store (ls' := [.ref 32, .ref 15, .int x2, .int x3, .int x3, .null, .null, .null]) rfl ?_))
    refine t_iconst (by decide +kernel) ki_0 (pn 15 rfl ?_)
    refine s_istore (i := 5) (by decide +kernel) (Nat.le_of_ble_eq_true rfl) (pn 17 rfl (t_store (ls' := [.ref 32, .ref 15, .int x2, .int x3, .int x3, .int 0, .null, .null]) rfl ?_))
    refine t_iconst (by decide +kernel) ki_0 (pn 18 rfl ?_)
    refine s_istore (i := 6) (by decide +kernel) (Nat.le_of_ble_eq_true rfl) (pn 20 rfl (t_store (ls' := [.ref 32, .ref 15, .int x2, .int x3, .int x3, .int 0, .int 0, .null]) rfl ?_))
    exact h
  · have h := h.1 c1
    refine t_bipush (by decide +kernel) kb_99 (pn 10 rfl ?_)
    exact s_ireturn (st := []) (by decide +kernel) (Or.inl rfl) ⟨_, rfl, s1, rfl, h⟩
theorem sgS_nextPlace_20 {d : Nat} {s : pm_S} {M : pm_M} {l2 : Int32} {l3 : Int32} {l4 : Int32} {l5 : Int32} {l6 : Int32} {Q : Int32 → pm_S → pm_M → Prop}  (h : (((6 ≤ l6) → Q l4 s M) ∧ (¬ (6 ≤ l6) → cI d yL_hasPerson [.ref 15, .int l6] s M (fun r1 s1 M1 => (((r1 = 0) → Q l4 s1 M1) ∧ (¬ (r1 = 0) → vp_in l6 6 ∧ (((M1.1 20 l6.toNatClampNeg) = l3 → cI d yS_heldThing [.ref 32, .int l6] s1 M1 (fun r2 s2 M2 => ((r2 = (-1) → vp_in l6 6 ∧ cI d yL_claimBy [.ref 15, .int (M2.1 35 l6.toNatClampNeg), .int l6, .int l2] s2 M2 (fun r3 s3 M3 => wS_nextPlace d 20 [.ref 32, .ref 15, .int l2, .int l3, .int ((if r3 ≤ l5 then l4 else ((10 : Int32) + l6)) : Int32), .int ((if r3 ≤ l5 then l5 else r3) : Int32), .int (l6 + 1), .null] [] s3 M3 Q)) ∧ (¬ (r2 = (-1)) → wS_nextPlace d 20 [.ref 32, .ref 15, .int l2, .int l3, .int l4, .int l5, .int (l6 + 1), .null] [] s2 M2 Q)))) ∧ (¬ ((M1.1 20 l6.toNatClampNeg) = l3) → wS_nextPlace d 20 [.ref 32, .ref 15, .int l2, .int l3, .int l4, .int l5, .int (l6 + 1), .null] [] s1 M1 Q)))))))) : wS_nextPlace d 20 [.ref 32, .ref 15, .int l2, .int l3, .int l4, .int l5, .int l6, .null] [] s M Q := by
  refine s_iload (i := 6) (by decide +kernel) rfl (pn 22 rfl ?_)
  refine t_bipush (by decide +kernel) kb_6 (pn 24 rfl ?_)
  refine s_icmp_ge (off := 73) (tgt := 97) (by decide +kernel) rfl (fun c1 => ?_) (fun c1 => (pn 27 rfl ?_))
  · have h := h.1 c1
    refine s_iload (i := 4) (by decide +kernel) rfl (pn 99 rfl ?_)
    exact s_ireturn (st := []) (by decide +kernel) (Or.inl rfl) ⟨_, rfl, s, rfl, h⟩
  · have h := h.2 c1
    refine s_aload_n (i := 1) (by decide +kernel) rfl (pn 28 rfl ?_)
    refine s_iload (i := 6) (by decide +kernel) rfl (pn 30 rfl ?_)
    refine s_callvI [.int l6] rfl (by decide +kernel) mv_7_52 np_31 (Nat.le_of_ble_eq_true rfl) lq_15 ((congrArg Prod.fst sh_15).trans oc_31) (cI_use h (fun r1 s1 M1 h => (pn 33 rfl ?_)))
    refine s_if_eq (off := 64) (tgt := 97) (by decide +kernel) rfl (fun c2 => ?_) (fun c2 => (pn 36 rfl ?_))
    · have h := h.1 c2
      refine s_iload (i := 4) (by decide +kernel) rfl (pn 99 rfl ?_)
      exact s_ireturn (st := []) (by decide +kernel) (Or.inl rfl) ⟨_, rfl, s1, rfl, h⟩
    · have h := h.2 c2
      refine s_aload_n (i := 1) (by decide +kernel) rfl (pn 37 rfl ?_)
      refine s_getfield (v := .ref 20) (by decide +kernel) fr_7_65 lq_15 (congrArg Prod.fst sh_15) (fv_ref pf_15_9) (pn 40 rfl ?_)
      refine s_iload (i := 6) (by decide +kernel) rfl (pn 42 rfl ?_)
      obtain ⟨b1, h⟩ := h
      refine t_iaload (v := M1.1 20 l6.toNatClampNeg) (by decide +kernel) ⟨Or.inl lq_20, congrArg Prod.fst sh_20⟩ (al_in sh_20 b1) rfl (pn 43 rfl ?_)
      refine s_iload_n (i := 3) (by decide +kernel) rfl (pn 44 rfl ?_)
      refine t_icmp_ne (off := 47) (tgt := 91) (by decide +kernel) rfl (fun c4 => ?_) (fun c4 => (pn 47 rfl ?_))
      · have h := h.2 c4
        refine t_iinc (i := 6) (n := 1) (ls' := [.ref 32, .ref 15, .int l2, .int l3, .int l4, .int l5, .int (l6 + 1), .null]) (by decide +kernel) rfl (Nat.le_of_ble_eq_true rfl) kn_1 rfl (pn 94 rfl ?_)
        refine s_goto (off := -74) (tgt := 20) (by decide +kernel) rfl ?_
        exact h
      · have h := h.1 c4
        refine s_aload_n (i := 0) (by decide +kernel) rfl (pn 48 rfl ?_)
        refine s_iload (i := 6) (by decide +kernel) rfl (pn 50 rfl ?_)
        refine s_callvI [.int l6] rfl (by decide +kernel) mv_7_62 np_82 (Nat.le_of_ble_eq_true rfl) lq_32 ((congrArg Prod.fst sh_32).trans oc_82) (cI_use h (fun r2 s2 M2 h => (pn 53 rfl ?_)))
        refine t_iconst (by decide +kernel) ki_m1 (pn 54 rfl ?_)
        refine t_icmp_ne (off := 37) (tgt := 91) (by decide +kernel) rfl (fun c5 => ?_) (fun c5 => (pn 57 rfl ?_))
        · have h := h.2 c5
          refine t_iinc (i := 6) (n := 1) (ls' := [.ref 32, .ref 15, .int l2, .int l3, .int l4, .int l5, .int (l6 + 1), .null]) (by decide +kernel) rfl (Nat.le_of_ble_eq_true rfl) kn_1 rfl (pn 94 rfl ?_)
          refine s_goto (off := -74) (tgt := 20) (by decide +kernel) rfl ?_
          exact h
        · have h := h.1 c5
          refine s_aload_n (i := 1) (by decide +kernel) rfl (pn 58 rfl ?_)
          refine s_aload_n (i := 0) (by decide +kernel) rfl (pn 59 rfl ?_)
          refine s_getfield (v := .ref 35) (by decide +kernel) fr_7_18 lq_32 (congrArg Prod.fst sh_32) (fv_ref pf_32_2) (pn 62 rfl ?_)
          refine s_iload (i := 6) (by decide +kernel) rfl (pn 64 rfl ?_)
          obtain ⟨b2, h⟩ := h
          refine t_iaload (v := M2.1 35 l6.toNatClampNeg) (by decide +kernel) ⟨Or.inl lq_35, congrArg Prod.fst sh_35⟩ (al_in sh_35 b2) rfl (pn 65 rfl ?_)
          refine s_iload (i := 6) (by decide +kernel) rfl (pn 67 rfl ?_)
          refine s_iload_n (i := 2) (by decide +kernel) rfl (pn 68 rfl ?_)
          refine s_callvI [.int (M2.1 35 l6.toNatClampNeg), .int l6, .int l2] rfl (by decide +kernel) mv_7_68 np_32 (Nat.le_of_ble_eq_true rfl) lq_15 ((congrArg Prod.fst sh_15).trans oc_32) (cI_use h (fun r3 s3 M3 h => (pn 71 rfl ?_)))
          refine s_istore (i := 7) (by decide +kernel) (Nat.le_of_ble_eq_true rfl) (pn 73 rfl (t_store (ls' := [.ref 32, .ref 15, .int l2, .int l3, .int l4, .int l5, .int l6, .int r3]) rfl ?_))
          refine s_iload (i := 7) (by decide +kernel) rfl (pn 75 rfl ?_)
          refine s_iload (i := 5) (by decide +kernel) rfl (pn 77 rfl ?_)
          have k1 : ∀ (z1 : Int32) (z1e : z1 = ((if r3 ≤ l5 then l4 else ((10 : Int32) + l6)) : Int32)) (z2 : Int32) (z2e : z2 = ((if r3 ≤ l5 then l5 else r3) : Int32)), wS_nextPlace d 91 [.ref 32, .ref 15, .int l2, .int l3, .int z1, .int z2, .int l6, .int r3] [] s3 M3 Q := by
            intro z1 z1e z2 z2e
            subst z1e z2e
            refine t_iinc (i := 6) (n := 1) (ls' := [.ref 32, .ref 15, .int l2, .int l3, .int ((if r3 ≤ l5 then l4 else ((10 : Int32) + l6)) : Int32), .int ((if r3 ≤ l5 then l5 else r3) : Int32), .int (l6 + 1), .int r3]) (by decide +kernel) rfl (Nat.le_of_ble_eq_true rfl) kn_1 rfl (pn 94 rfl ?_)
            refine s_goto (off := -74) (tgt := 20) (by decide +kernel) rfl ?_
            exact pm_weak [.ref 32, .ref 15, .int l2, .int l3, .int ((if r3 ≤ l5 then l4 else ((10 : Int32) + l6)) : Int32), .int ((if r3 ≤ l5 then l5 else r3) : Int32), .int (l6 + 1), .null] (pm_le_cons (Or.inr rfl) (pm_le_cons (Or.inr rfl) (pm_le_cons (Or.inr rfl) (pm_le_cons (Or.inr rfl) (pm_le_cons (Or.inr rfl) (pm_le_cons (Or.inr rfl) (pm_le_cons (Or.inr rfl) (pm_le_cons (Or.inl rfl) pm_le_nil)))))))) h
          refine s_icmp_le (off := 14) (tgt := 91) (by decide +kernel) rfl (fun c6 => ?_) (fun c6 => (pn 80 rfl ?_))
          · exact k1 _ (by simp only [if_pos c6]) _ (by simp only [if_pos c6])
          · refine s_iload (i := 7) (by decide +kernel) rfl (pn 82 rfl ?_)
            refine s_istore (i := 5) (by decide +kernel) (Nat.le_of_ble_eq_true rfl) (pn 84 rfl (t_store (ls' := [.ref 32, .ref 15, .int l2, .int l3, .int l4, .int r3, .int l6, .int r3]) rfl ?_))
            refine t_bipush (by decide +kernel) kb_10 (pn 86 rfl ?_)
            refine s_iload (i := 6) (by decide +kernel) rfl (pn 88 rfl ?_)
            refine s_iadd (by decide +kernel) (pn 89 rfl ?_)
            refine s_istore (i := 4) (by decide +kernel) (Nat.le_of_ble_eq_true rfl) (pn 91 rfl (t_store (ls' := [.ref 32, .ref 15, .int l2, .int l3, .int ((10 : Int32) + l6), .int r3, .int l6, .int r3]) rfl ?_))
            exact k1 _ (by simp only [if_neg c6]) _ (by simp only [if_neg c6])
abbrev wS_doAll (d pc : Nat) (ls st : List Value) (s : pm_S) (M : pm_M) (Q : Int32 → pm_S → pm_M → Prop) : Prop := wI d prog_9_method_17_code 7 (some .int) false pc ls st s M Q
theorem enS_doAll {d : Nat} {s : pm_S} {M : pm_M} {t : Nat} {Q : Int32 → pm_S → pm_M → Prop} (ht : isY t) (h : wS_doAll d 7 [.ref 32, .ref 15, .ref t, .int 0] [] s (pm_si M 32 7 0) Q) : cI (d + 1) yS_doAll [.ref 32, .ref 15, .ref t] s M Q := by
  refine pm_toI (by decide) (Nat.le_of_ble_eq_true rfl) ?_
  show wS_doAll d 0 [.ref 32, .ref 15, .ref t, .null] [] s M Q
  refine s_aload_n (i := 0) (by decide +kernel) rfl (pn 1 rfl ?_)
  refine t_iconst (by decide +kernel) ki_0 (pn 2 rfl ?_)
  refine s_putfieldI (by decide +kernel) fr_7_108 lq_32 (congrArg Prod.fst sh_32) (fun q => by cases q) (Or.inl rfl) (pn 5 rfl ?_)
  refine t_iconst (by decide +kernel) ki_0 (pn 6 rfl ?_)
  refine s_istore_n (i := 3) (by decide +kernel) (Nat.le_of_ble_eq_true rfl) (pn 7 rfl (t_store (ls' := [.ref 32, .ref 15, .ref t, .int 0]) rfl ?_))
  exact h
theorem sgS_doAll_7 {d : Nat} {s : pm_S} {M : pm_M} {l3 : Int32} {t : Nat} {Q : Int32 → pm_S → pm_M → Prop} (ht : isY t) (h : ((((M.1 t 2) ≤ l3) → cI d ymath_max [.int 0, .int (M.1 t 2)] s M (fun r1 s1 M1 => Q r1 s1 M1)) ∧ (¬ ((M.1 t 2) ≤ l3) → cL d yY_at [.ref t, .int l3] s M (fun r2 s2 M2 => cI d yS_attempt [.ref 32, .ref 15, .long r2] s2 M2 (fun r3 s3 M3 => (((r3 = 0) → wS_doAll d 7 [.ref 32, .ref 15, .ref t, .int (l3 + 1)] [] s3 (pm_si M3 32 7 r3) Q) ∧ (¬ (r3 = 0) → Q l3 s3 (pm_si M3 32 7 r3)))))))) : wS_doAll d 7 [.ref 32, .ref 15, .ref t, .int l3] [] s M Q := by
  refine s_iload_n (i := 3) (by decide +kernel) rfl (pn 8 rfl ?_)
  refine s_aload_n (i := 2) (by decide +kernel) rfl (pn 9 rfl ?_)
  refine s_getfield (v := .int (M.1 t 2)) (by decide +kernel) fr_7_111 (ltY_0 ht) (congrArg Prod.fst (shY_0 ht)) rfl (pn 12 rfl ?_)
  refine s_icmp_ge (off := 32) (tgt := 44) (by decide +kernel) rfl (fun c1 => ?_) (fun c1 => (pn 15 rfl ?_))
  · have h := h.1 c1
    refine t_iconst (by decide +kernel) ki_0 (pn 45 rfl ?_)
    refine s_aload_n (i := 2) (by decide +kernel) rfl (pn 46 rfl ?_)
    refine s_getfield (v := .int (M.1 t 2)) (by decide +kernel) fr_7_111 (ltY_0 ht) (congrArg Prod.fst (shY_0 ht)) rfl (pn 49 rfl ?_)
    refine s_callsI [.int 0, .int (M.1 t 2)] rfl (by decide +kernel) ms_7_124 np_324 (Nat.le_of_ble_eq_true rfl) (cI_use h (fun r1 s1 M1 h => (pn 52 rfl ?_)))
    exact s_ireturn (st := []) (by decide +kernel) (Or.inl rfl) ⟨_, rfl, s1, rfl, h⟩
  · have h := h.2 c1
    refine s_aload_n (i := 0) (by decide +kernel) rfl (pn 16 rfl ?_)
    refine s_aload_n (i := 0) (by decide +kernel) rfl (pn 17 rfl ?_)
    refine s_aload_n (i := 1) (by decide +kernel) rfl (pn 18 rfl ?_)
    refine s_aload_n (i := 2) (by decide +kernel) rfl (pn 19 rfl ?_)
    refine s_iload_n (i := 3) (by decide +kernel) rfl (pn 20 rfl ?_)
    refine s_callvL [.int l3] rfl (by decide +kernel) mv_7_116 np_108 (Nat.le_of_ble_eq_true rfl) (ltY_0 ht) ((congrArg Prod.fst (shY_0 ht)).trans oc_108) (cL_use h (fun r2 s2 M2 h => (pn 23 rfl ?_)))
    refine s_callvI [.ref 15, .long r2] rfl (by decide +kernel) mv_7_120 np_96 (Nat.le_of_ble_eq_true rfl) lq_32 ((congrArg Prod.fst sh_32).trans oc_96) (cI_use h (fun r3 s3 M3 h => (pn 26 rfl ?_)))
    refine s_putfieldI (by decide +kernel) fr_7_108 lq_32 (congrArg Prod.fst sh_32) (fun q => by cases q) (Or.inl rfl) (pn 29 rfl ?_)
    refine s_aload_n (i := 0) (by decide +kernel) rfl (pn 30 rfl ?_)
    refine s_getfield (v := .int r3) (by decide +kernel) fr_7_108 lq_32 (congrArg Prod.fst sh_32) rfl (pn 33 rfl ?_)
    refine s_if_eq (off := 5) (tgt := 38) (by decide +kernel) rfl (fun c2 => ?_) (fun c2 => (pn 36 rfl ?_))
    · have h := h.1 c2
      refine t_iinc (i := 3) (n := 1) (ls' := [.ref 32, .ref 15, .ref t, .int (l3 + 1)]) (by decide +kernel) rfl (Nat.le_of_ble_eq_true rfl) kn_1 rfl (pn 41 rfl ?_)
      refine s_goto (off := -34) (tgt := 7) (by decide +kernel) rfl ?_
      exact h
    · have h := h.2 c2
      refine s_iload_n (i := 3) (by decide +kernel) rfl (pn 37 rfl ?_)
      exact s_ireturn (st := []) (by decide +kernel) (Or.inl rfl) ⟨_, rfl, s3, rfl, h⟩
abbrev wS_attempt (d pc : Nat) (ls st : List Value) (s : pm_S) (M : pm_M) (Q : Int32 → pm_S → pm_M → Prop) : Prop := wI d prog_9_method_16_code 7 (some .int) false pc ls st s M Q
theorem enS_attempt {d : Nat} {s : pm_S} {M : pm_M} {x2 : Int64} {Q : Int32 → pm_S → pm_M → Prop}  (h : ((x2 = (-1) → cI d yS_passDay [.ref 32, .ref 15] s M (fun r1 s1 M1 => Q 0 s1 M1)) ∧ (¬ (x2 = (-1)) → (((x2 < 0) → Q 1 s M) ∧ (¬ (x2 < 0) → (((400 ≤ x2) → Q 1 s M) ∧ (¬ (400 ≤ x2) → (((x2 < 20) → wS_attempt d 48 [.ref 32, .ref 15, .long x2, .null, .null, .null] [] s M Q) ∧ (¬ (x2 < 20) → (((100 ≤ x2) → wS_attempt d 48 [.ref 32, .ref 15, .long x2, .null, .null, .null] [] s M Q) ∧ (¬ (100 ≤ x2) → Q 1 s M))))))))))) : cI (d + 1) yS_attempt [.ref 32, .ref 15, .long x2] s M Q := by
  refine pm_toI (by decide) (Nat.le_of_ble_eq_true rfl) ?_
  show wS_attempt d 0 [.ref 32, .ref 15, .long x2, .null, .null, .null] [] s M Q
  refine s_lload_n (i := 2) (by decide +kernel) rfl (pn 1 rfl ?_)
  refine s_ldc2_w (by decide +kernel) kl_7_79 (pn 4 rfl ?_)
  refine t_lc_ne (off := 11) (tgt := 16) (by decide +kernel) (by decide +kernel) rfl (fun c1 => ?_) (fun c1 => (pn 8 rfl ?_))
  · have h := h.2 c1
    refine s_lload_n (i := 2) (by decide +kernel) rfl (pn 17 rfl ?_)
    refine t_lconst (n := 0) (v := 0) (by decide +kernel) rfl (pn 18 rfl ?_)
    refine t_lc_lt (off := 27) (tgt := 46) (by decide +kernel) (by decide +kernel) rfl (fun c2 => ?_) (fun c2 => (pn 22 rfl ?_))
    · have h := h.1 c2
      refine t_iconst (by decide +kernel) ki_1 (pn 47 rfl ?_)
      exact s_ireturn (st := []) (by decide +kernel) (Or.inl rfl) ⟨_, rfl, s, rfl, h⟩
    · have h := h.2 c2
      refine s_lload_n (i := 2) (by decide +kernel) rfl (pn 23 rfl ?_)
      refine s_ldc2_w (by decide +kernel) kl_7_85 (pn 26 rfl ?_)
      refine t_lc_ge (off := 19) (tgt := 46) (by decide +kernel) (by decide +kernel) rfl (fun c3 => ?_) (fun c3 => (pn 30 rfl ?_))
      · have h := h.1 c3
        refine t_iconst (by decide +kernel) ki_1 (pn 47 rfl ?_)
        exact s_ireturn (st := []) (by decide +kernel) (Or.inl rfl) ⟨_, rfl, s, rfl, h⟩
      · have h := h.2 c3
        refine s_lload_n (i := 2) (by decide +kernel) rfl (pn 31 rfl ?_)
        refine s_ldc2_w (by decide +kernel) kl_7_87 (pn 34 rfl ?_)
        refine t_lc_lt (off := 13) (tgt := 48) (by decide +kernel) (by decide +kernel) rfl (fun c4 => ?_) (fun c4 => (pn 38 rfl ?_))
        · have h := h.1 c4
          exact h
        · have h := h.2 c4
          refine s_lload_n (i := 2) (by decide +kernel) rfl (pn 39 rfl ?_)
          refine s_ldc2_w (by decide +kernel) kl_7_89 (pn 42 rfl ?_)
          refine t_lc_ge (off := 5) (tgt := 48) (by decide +kernel) (by decide +kernel) rfl (fun c5 => ?_) (fun c5 => (pn 46 rfl ?_))
          · have h := h.1 c5
            exact h
          · have h := h.2 c5
            refine t_iconst (by decide +kernel) ki_1 (pn 47 rfl ?_)
            exact s_ireturn (st := []) (by decide +kernel) (Or.inl rfl) ⟨_, rfl, s, rfl, h⟩
  · have h := h.1 c1
    refine s_aload_n (i := 0) (by decide +kernel) rfl (pn 9 rfl ?_)
    refine s_aload_n (i := 1) (by decide +kernel) rfl (pn 10 rfl ?_)
    refine s_callvI [.ref 15] rfl (by decide +kernel) mv_7_81 np_92 (Nat.le_of_ble_eq_true rfl) lq_32 ((congrArg Prod.fst sh_32).trans oc_92) (cI_use h (fun r1 s1 M1 h => (pn 13 rfl ?_)))
    refine s_pop (by decide +kernel) rfl (pn 14 rfl ?_)
    refine t_iconst (by decide +kernel) ki_0 (pn 15 rfl ?_)
    exact s_ireturn (st := []) (by decide +kernel) (Or.inl rfl) ⟨_, rfl, s1, rfl, h⟩
theorem sgS_attempt_48 {d : Nat} {s : pm_S} {M : pm_M} {l2 : Int64} {Q : Int32 → pm_S → pm_M → Prop}  (h : (((20 ≤ (l2.toInt32)) → (((200 ≤ (l2.toInt32)) → (((300 ≤ (l2.toInt32)) → cI d yS_tryMark [.ref 32, .ref 15, .int (((l2.toInt32) - (l2.toInt32) / 100 * 100) / 10), .int ((l2.toInt32) - (l2.toInt32) / 10 * 10)] s M (fun r1 s1 M1 => Q r1 s1 M1)) ∧ (¬ (300 ≤ (l2.toInt32)) → cI d yS_trySwap [.ref 32, .ref 15, .int (((l2.toInt32) - (l2.toInt32) / 100 * 100) / 10), .int ((l2.toInt32) - (l2.toInt32) / 10 * 10)] s M (fun r2 s2 M2 => Q r2 s2 M2)))) ∧ (¬ (200 ≤ (l2.toInt32)) → cI d yS_tryFetch [.ref 32, .ref 15, .int (((l2.toInt32) - (l2.toInt32) / 100 * 100) / 10), .int ((l2.toInt32) - (l2.toInt32) / 10 * 10)] s M (fun r3 s3 M3 => Q r3 s3 M3)))) ∧ (¬ (20 ≤ (l2.toInt32)) → (((10 ≤ (l2.toInt32)) → cI d yS_tryOpen [.ref 32, .ref 15, .int ((l2.toInt32) - 10)] s M (fun r4 s4 M4 => Q r4 s4 M4)) ∧ (¬ (10 ≤ (l2.toInt32)) → cI d yS_tryLeave [.ref 32, .ref 15, .int (l2.toInt32)] s M (fun r5 s5 M5 => Q r5 s5 M5)))))) : wS_attempt d 48 [.ref 32, .ref 15, .long l2, .null, .null, .null] [] s M Q := by
  refine s_lload_n (i := 2) (by decide +kernel) rfl (pn 49 rfl ?_)
  refine s_l2i (by decide +kernel) (pn 50 rfl ?_)
  refine s_istore (i := 4) (by decide +kernel) (Nat.le_of_ble_eq_true rfl) (pn 52 rfl (t_store (ls' := [.ref 32, .ref 15, .long l2, .null, .int (l2.toInt32), .null]) rfl ?_))
  refine s_iload (i := 4) (by decide +kernel) rfl (pn 54 rfl ?_)
  refine t_bipush (by decide +kernel) kb_20 (pn 56 rfl ?_)
  refine s_icmp_ge (off := 31) (tgt := 87) (by decide +kernel) rfl (fun c1 => ?_) (fun c1 => (pn 59 rfl ?_))
  · have h := h.1 c1
    refine s_iload (i := 4) (by decide +kernel) rfl (pn 89 rfl ?_)
    refine t_bipush (by decide +kernel) kb_100 (pn 91 rfl ?_)
    refine s_irem (by decide +kernel) (by decide) (pn 92 rfl ?_)
    refine t_bipush (by decide +kernel) kb_10 (pn 94 rfl ?_)
    refine s_idiv (by decide +kernel) (by decide) (pn 95 rfl ?_)
    refine s_istore (i := 5) (by decide +kernel) (Nat.le_of_ble_eq_true rfl) (pn 97 rfl (t_store (ls' := [.ref 32, .ref 15, .long l2, .null, .int (l2.toInt32), .int (((l2.toInt32) - (l2.toInt32) / 100 * 100) / 10)]) rfl ?_))
    refine s_iload (i := 4) (by decide +kernel) rfl (pn 99 rfl ?_)
    refine t_sipush (by decide +kernel) ks_200 (pn 102 rfl ?_)
    refine s_icmp_ge (off := 16) (tgt := 118) (by decide +kernel) rfl (fun c2 => ?_) (fun c2 => (pn 105 rfl ?_))
    · have h := h.1 c2
      refine s_iload (i := 4) (by decide +kernel) rfl (pn 120 rfl ?_)
      refine t_sipush (by decide +kernel) ks_300 (pn 123 rfl ?_)
      refine s_icmp_ge (off := 18) (tgt := 141) (by decide +kernel) rfl (fun c3 => ?_) (fun c3 => (pn 126 rfl ?_))
      · have h := h.1 c3
        refine s_aload_n (i := 0) (by decide +kernel) rfl (pn 142 rfl ?_)
        refine s_aload_n (i := 1) (by decide +kernel) rfl (pn 143 rfl ?_)
        refine s_iload (i := 5) (by decide +kernel) rfl (pn 145 rfl ?_)
        refine s_iload (i := 4) (by decide +kernel) rfl (pn 147 rfl ?_)
        refine t_bipush (by decide +kernel) kb_10 (pn 149 rfl ?_)
        refine s_irem (by decide +kernel) (by decide) (pn 150 rfl ?_)
        refine s_callvI [.ref 15, .int (((l2.toInt32) - (l2.toInt32) / 100 * 100) / 10), .int ((l2.toInt32) - (l2.toInt32) / 10 * 10)] rfl (by decide +kernel) mv_7_105 np_91 (Nat.le_of_ble_eq_true rfl) lq_32 ((congrArg Prod.fst sh_32).trans oc_91) (cI_use h (fun r1 s1 M1 h => (pn 153 rfl ?_)))
        exact s_ireturn (st := []) (by decide +kernel) (Or.inl rfl) ⟨_, rfl, s1, rfl, h⟩
      · have h := h.2 c3
        refine s_aload_n (i := 0) (by decide +kernel) rfl (pn 127 rfl ?_)
        refine s_aload_n (i := 1) (by decide +kernel) rfl (pn 128 rfl ?_)
        refine s_iload (i := 5) (by decide +kernel) rfl (pn 130 rfl ?_)
        refine s_iload (i := 4) (by decide +kernel) rfl (pn 132 rfl ?_)
        refine t_bipush (by decide +kernel) kb_10 (pn 134 rfl ?_)
        refine s_irem (by decide +kernel) (by decide) (pn 135 rfl ?_)
        refine s_callvI [.ref 15, .int (((l2.toInt32) - (l2.toInt32) / 100 * 100) / 10), .int ((l2.toInt32) - (l2.toInt32) / 10 * 10)] rfl (by decide +kernel) mv_7_102 np_89 (Nat.le_of_ble_eq_true rfl) lq_32 ((congrArg Prod.fst sh_32).trans oc_89) (cI_use h (fun r2 s2 M2 h => (pn 138 rfl ?_)))
        refine s_goto (off := 15) (tgt := 153) (by decide +kernel) rfl ?_
        exact s_ireturn (st := []) (by decide +kernel) (Or.inl rfl) ⟨_, rfl, s2, rfl, h⟩
    · have h := h.2 c2
      refine s_aload_n (i := 0) (by decide +kernel) rfl (pn 106 rfl ?_)
      refine s_aload_n (i := 1) (by decide +kernel) rfl (pn 107 rfl ?_)
      refine s_iload (i := 5) (by decide +kernel) rfl (pn 109 rfl ?_)
      refine s_iload (i := 4) (by decide +kernel) rfl (pn 111 rfl ?_)
      refine t_bipush (by decide +kernel) kb_10 (pn 113 rfl ?_)
      refine s_irem (by decide +kernel) (by decide) (pn 114 rfl ?_)
      refine s_callvI [.ref 15, .int (((l2.toInt32) - (l2.toInt32) / 100 * 100) / 10), .int ((l2.toInt32) - (l2.toInt32) / 10 * 10)] rfl (by decide +kernel) mv_7_98 np_85 (Nat.le_of_ble_eq_true rfl) lq_32 ((congrArg Prod.fst sh_32).trans oc_85) (cI_use h (fun r3 s3 M3 h => (pn 117 rfl ?_)))
      exact s_ireturn (st := []) (by decide +kernel) (Or.inl rfl) ⟨_, rfl, s3, rfl, h⟩
  · have h := h.2 c1
    refine s_iload (i := 4) (by decide +kernel) rfl (pn 61 rfl ?_)
    refine t_bipush (by decide +kernel) kb_10 (pn 63 rfl ?_)
    refine s_icmp_ge (off := 13) (tgt := 76) (by decide +kernel) rfl (fun c4 => ?_) (fun c4 => (pn 66 rfl ?_))
    · have h := h.1 c4
      refine s_aload_n (i := 0) (by decide +kernel) rfl (pn 77 rfl ?_)
      refine s_aload_n (i := 1) (by decide +kernel) rfl (pn 78 rfl ?_)
      refine s_iload (i := 4) (by decide +kernel) rfl (pn 80 rfl ?_)
      refine t_bipush (by decide +kernel) kb_10 (pn 82 rfl ?_)
      refine s_isub (by decide +kernel) (pn 83 rfl ?_)
      refine s_callvI [.ref 15, .int ((l2.toInt32) - 10)] rfl (by decide +kernel) mv_7_95 np_87 (Nat.le_of_ble_eq_true rfl) lq_32 ((congrArg Prod.fst sh_32).trans oc_87) (cI_use h (fun r4 s4 M4 h => (pn 86 rfl ?_)))
      exact s_ireturn (st := []) (by decide +kernel) (Or.inl rfl) ⟨_, rfl, s4, rfl, h⟩
    · have h := h.2 c4
      refine s_aload_n (i := 0) (by decide +kernel) rfl (pn 67 rfl ?_)
      refine s_aload_n (i := 1) (by decide +kernel) rfl (pn 68 rfl ?_)
      refine s_iload (i := 4) (by decide +kernel) rfl (pn 70 rfl ?_)
      refine s_callvI [.ref 15, .int (l2.toInt32)] rfl (by decide +kernel) mv_7_91 np_84 (Nat.le_of_ble_eq_true rfl) lq_32 ((congrArg Prod.fst sh_32).trans oc_84) (cI_use h (fun r5 s5 M5 h => (pn 73 rfl ?_)))
      refine s_goto (off := 13) (tgt := 86) (by decide +kernel) rfl ?_
      exact s_ireturn (st := []) (by decide +kernel) (Or.inl rfl) ⟨_, rfl, s5, rfl, h⟩
abbrev wS_holderBits (d pc : Nat) (ls st : List Value) (s : pm_S) (M : pm_M) (Q : Int32 → pm_S → pm_M → Prop) : Prop := wI d prog_9_method_10_code 7 (some .int) false pc ls st s M Q
theorem enS_holderBits {d : Nat} {s : pm_S} {M : pm_M} {o : Nat} {Q : Int32 → pm_S → pm_M → Prop} (ho : isS o) (h : wS_holderBits d 4 [.ref o, .int 0, .int 0] [] s M Q) : cI (d + 1) yS_holderBits [.ref o] s M Q := by
  refine pm_toI (by decide) (Nat.le_of_ble_eq_true rfl) ?_
  show wS_holderBits d 0 [.ref o, .null, .null] [] s M Q
  refine t_iconst (by decide +kernel) ki_0 (pn 1 rfl ?_)
  refine s_istore_n (i := 1) (by decide +kernel) (Nat.le_of_ble_eq_true rfl) (pn 2 rfl (t_store (ls' := [.ref o, .int 0, .null]) rfl ?_))
  refine t_iconst (by decide +kernel) ki_0 (pn 3 rfl ?_)
  refine s_istore_n (i := 2) (by decide +kernel) (Nat.le_of_ble_eq_true rfl) (pn 4 rfl (t_store (ls' := [.ref o, .int 0, .int 0]) rfl ?_))
  exact h
theorem sgS_holderBits_4 {d : Nat} {s : pm_S} {M : pm_M} {l1 : Int32} {l2 : Int32} {o : Nat} {Q : Int32 → pm_S → pm_M → Prop} (ho : isS o) (h : (((6 ≤ l2) → Q l1 s M) ∧ (¬ (6 ≤ l2) → cI d yS_heldThing [.ref o, .int l2] s M (fun r1 s1 M1 => wS_holderBits d 4 [.ref o, .int ((if r1 = (-1) then l1 else (l1 ||| ((1 : Int32) <<< (l2 &&& 31)))) : Int32), .int (l2 + 1)] [] s1 M1 Q)))) : wS_holderBits d 4 [.ref o, .int l1, .int l2] [] s M Q := by
  refine s_iload_n (i := 2) (by decide +kernel) rfl (pn 5 rfl ?_)
  refine t_bipush (by decide +kernel) kb_6 (pn 7 rfl ?_)
  refine s_icmp_ge (off := 24) (tgt := 31) (by decide +kernel) rfl (fun c1 => ?_) (fun c1 => (pn 10 rfl ?_))
  · have h := h.1 c1
    refine s_iload_n (i := 1) (by decide +kernel) rfl (pn 32 rfl ?_)
    exact s_ireturn (st := []) (by decide +kernel) (Or.inl rfl) ⟨_, rfl, s, rfl, h⟩
  · have h := h.2 c1
    refine s_aload_n (i := 0) (by decide +kernel) rfl (pn 11 rfl ?_)
    refine s_iload_n (i := 2) (by decide +kernel) rfl (pn 12 rfl ?_)
    refine s_callvI [.int l2] rfl (by decide +kernel) mv_7_62 np_82 (Nat.le_of_ble_eq_true rfl) (ltS_0 ho) ((congrArg Prod.fst (shS_0 ho)).trans oc_82) (cI_use h (fun r1 s1 M1 h => (pn 15 rfl ?_)))
    refine t_iconst (by decide +kernel) ki_m1 (pn 16 rfl ?_)
    have k1 : ∀ (z1 : Int32) (z1e : z1 = ((if r1 = (-1) then l1 else (l1 ||| ((1 : Int32) <<< (l2 &&& 31)))) : Int32)), wS_holderBits d 25 [.ref o, .int z1, .int l2] [] s1 M1 Q := by
      intro z1 z1e
      subst z1e
      refine t_iinc (i := 2) (n := 1) (ls' := [.ref o, .int ((if r1 = (-1) then l1 else (l1 ||| ((1 : Int32) <<< (l2 &&& 31)))) : Int32), .int (l2 + 1)]) (by decide +kernel) rfl (Nat.le_of_ble_eq_true rfl) kn_1 rfl (pn 28 rfl ?_)
      refine s_goto (off := -24) (tgt := 4) (by decide +kernel) rfl ?_
      exact h
    refine s_icmp_eq (off := 9) (tgt := 25) (by decide +kernel) rfl (fun c2 => ?_) (fun c2 => (pn 19 rfl ?_))
    · exact k1 _ (by simp only [if_pos c2])
    · refine s_iload_n (i := 1) (by decide +kernel) rfl (pn 20 rfl ?_)
      refine t_iconst (by decide +kernel) ki_1 (pn 21 rfl ?_)
      refine s_iload_n (i := 2) (by decide +kernel) rfl (pn 22 rfl ?_)
      refine s_ishl (by decide +kernel) (pn 23 rfl ?_)
      refine s_ior (by decide +kernel) (pn 24 rfl ?_)
      refine s_istore_n (i := 1) (by decide +kernel) (Nat.le_of_ble_eq_true rfl) (pn 25 rfl (t_store (ls' := [.ref o, .int (l1 ||| ((1 : Int32) <<< (l2 &&& 31))), .int l2]) rfl ?_))
      exact k1 _ (by simp only [if_neg c2])
abbrev wS_seasonDeed (d pc : Nat) (ls st : List Value) (s : pm_S) (M : pm_M) (Q : Int32 → pm_S → pm_M → Prop) : Prop := wI d prog_9_method_18_code 7 (some .int) false pc ls st s M Q
theorem enS_seasonDeed {d : Nat} {s : pm_S} {M : pm_M}  {Q : Int32 → pm_S → pm_M → Prop}  (h : cI d yS_draw [.ref 32] s M (fun r1 s1 M1 => (((2 ≤ (r1 - r1 / 6 * 6)) → cI d yS_draw [.ref 32] s1 M1 (fun r2 s2 M2 => (((r1 - r1 / 6 * 6) = 2 → cI d yS_attempt [.ref 32, .ref 15, .long ((r2 - r2 / 6 * 6).toInt64)] s2 M2 (fun r3 s3 M3 => Q r3 s3 M3)) ∧ (¬ (r1 - r1 / 6 * 6) = 2 → (((r1 - r1 / 6 * 6) = 3 → cI d yS_attempt [.ref 32, .ref 15, .long (((10 : Int32) + (r2 - r2 / 6 * 6)).toInt64)] s2 M2 (fun r4 s4 M4 => Q r4 s4 M4)) ∧ (¬ (r1 - r1 / 6 * 6) = 3 → (((r1 - r1 / 6 * 6) = 4 → cI d yS_draw [.ref 32] s2 M2 (fun r5 s5 M5 => cI d yS_attempt [.ref 32, .ref 15, .long ((((100 : Int32) + ((10 : Int32) * (r2 - r2 / 6 * 6))) + (r5 - r5 / 8 * 8)).toInt64)] s5 M5 (fun r6 s6 M6 => Q r6 s6 M6))) ∧ (¬ (r1 - r1 / 6 * 6) = 4 → cI d yS_draw [.ref 32] s2 M2 (fun r7 s7 M7 => cI d yS_attempt [.ref 32, .ref 15, .long ((((200 : Int32) + ((10 : Int32) * (r2 - r2 / 6 * 6))) + (r7 - r7 / 6 * 6)).toInt64)] s7 M7 (fun r8 s8 M8 => Q r8 s8 M8)))))))))) ∧ (¬ (2 ≤ (r1 - r1 / 6 * 6)) → cI d yS_attempt [.ref 32, .ref 15, .long (-1)] s1 M1 (fun r9 s9 M9 => Q r9 s9 M9))))) : cI (d + 1) yS_seasonDeed [.ref 32, .ref 15] s M Q := by
  refine pm_toI (by decide) (Nat.le_of_ble_eq_true rfl) ?_
  show wS_seasonDeed d 0 [.ref 32, .ref 15, .null, .null] [] s M Q
  refine s_aload_n (i := 0) (by decide +kernel) rfl (pn 1 rfl ?_)
  refine s_callvI [] rfl (by decide +kernel) mv_7_130 np_93 (Nat.le_of_ble_eq_true rfl) lq_32 ((congrArg Prod.fst sh_32).trans oc_93) (cI_use h (fun r1 s1 M1 h => (pn 4 rfl ?_)))
  refine t_bipush (by decide +kernel) kb_6 (pn 6 rfl ?_)
  refine s_irem (by decide +kernel) (by decide) (pn 7 rfl ?_)
  refine s_istore_n (i := 2) (by decide +kernel) (Nat.le_of_ble_eq_true rfl) (pn 8 rfl (t_store (ls' := [.ref 32, .ref 15, .int (r1 - r1 / 6 * 6), .null]) rfl ?_))
  refine s_iload_n (i := 2) (by decide +kernel) rfl (pn 9 rfl ?_)
  refine t_iconst (by decide +kernel) ki_2 (pn 10 rfl ?_)
  refine s_icmp_ge (off := 12) (tgt := 22) (by decide +kernel) rfl (fun c1 => ?_) (fun c1 => (pn 13 rfl ?_))
  · have h := h.1 c1
    refine s_aload_n (i := 0) (by decide +kernel) rfl (pn 23 rfl ?_)
    refine s_callvI [] rfl (by decide +kernel) mv_7_130 np_93 (Nat.le_of_ble_eq_true rfl) lq_32 ((congrArg Prod.fst sh_32).trans oc_93) (cI_use h (fun r2 s2 M2 h => (pn 26 rfl ?_)))
    refine t_bipush (by decide +kernel) kb_6 (pn 28 rfl ?_)
    refine s_irem (by decide +kernel) (by decide) (pn 29 rfl ?_)
    refine s_istore_n (i := 3) (by decide +kernel) (Nat.le_of_ble_eq_true rfl) (pn 30 rfl (t_store (ls' := [.ref 32, .ref 15, .int (r1 - r1 / 6 * 6), .int (r2 - r2 / 6 * 6)]) rfl ?_))
    refine s_iload_n (i := 2) (by decide +kernel) rfl (pn 31 rfl ?_)
    by_cases c2 : (r1 - r1 / 6 * 6) = 2
    · refine s_tableswitch (dflt := 66) (lo := 2) (hi := 4) (offs := #[25, 33, 44]) (len := 25) (tgt := 56) (by decide +kernel) (by rw [c2]; decide) (by rw [c2]; decide) ?_
      have h := h.1 c2
      refine s_aload_n (i := 0) (by decide +kernel) rfl (pn 57 rfl ?_)
      refine s_aload_n (i := 1) (by decide +kernel) rfl (pn 58 rfl ?_)
      refine s_iload_n (i := 3) (by decide +kernel) rfl (pn 59 rfl ?_)
      refine s_i2l (by decide +kernel) (pn 60 rfl ?_)
      refine s_callvI [.ref 15, .long ((r2 - r2 / 6 * 6).toInt64)] rfl (by decide +kernel) mv_7_120 np_96 (Nat.le_of_ble_eq_true rfl) lq_32 ((congrArg Prod.fst sh_32).trans oc_96) (cI_use h (fun r3 s3 M3 h => (pn 63 rfl ?_)))
      exact s_ireturn (st := []) (by decide +kernel) (Or.inl rfl) ⟨_, rfl, s3, rfl, h⟩
    have h := h.2 c2
    by_cases c3 : (r1 - r1 / 6 * 6) = 3
    · refine s_tableswitch (dflt := 66) (lo := 2) (hi := 4) (offs := #[25, 33, 44]) (len := 25) (tgt := 64) (by decide +kernel) (by rw [c3]; decide) (by rw [c3]; decide) ?_
      have h := h.1 c3
      refine s_aload_n (i := 0) (by decide +kernel) rfl (pn 65 rfl ?_)
      refine s_aload_n (i := 1) (by decide +kernel) rfl (pn 66 rfl ?_)
      refine t_bipush (by decide +kernel) kb_10 (pn 68 rfl ?_)
      refine s_iload_n (i := 3) (by decide +kernel) rfl (pn 69 rfl ?_)
      refine s_iadd (by decide +kernel) (pn 70 rfl ?_)
      refine s_i2l (by decide +kernel) (pn 71 rfl ?_)
      refine s_callvI [.ref 15, .long (((10 : Int32) + (r2 - r2 / 6 * 6)).toInt64)] rfl (by decide +kernel) mv_7_120 np_96 (Nat.le_of_ble_eq_true rfl) lq_32 ((congrArg Prod.fst sh_32).trans oc_96) (cI_use h (fun r4 s4 M4 h => (pn 74 rfl ?_)))
      exact s_ireturn (st := []) (by decide +kernel) (Or.inl rfl) ⟨_, rfl, s4, rfl, h⟩
    have h := h.2 c3
    by_cases c4 : (r1 - r1 / 6 * 6) = 4
    · refine s_tableswitch (dflt := 66) (lo := 2) (hi := 4) (offs := #[25, 33, 44]) (len := 25) (tgt := 75) (by decide +kernel) (by rw [c4]; decide) (by rw [c4]; decide) ?_
      have h := h.1 c4
      refine s_aload_n (i := 0) (by decide +kernel) rfl (pn 76 rfl ?_)
      refine s_aload_n (i := 1) (by decide +kernel) rfl (pn 77 rfl ?_)
      refine t_bipush (by decide +kernel) kb_100 (pn 79 rfl ?_)
      refine t_bipush (by decide +kernel) kb_10 (pn 81 rfl ?_)
      refine s_iload_n (i := 3) (by decide +kernel) rfl (pn 82 rfl ?_)
      refine s_imul (by decide +kernel) (pn 83 rfl ?_)
      refine s_iadd (by decide +kernel) (pn 84 rfl ?_)
      refine s_aload_n (i := 0) (by decide +kernel) rfl (pn 85 rfl ?_)
      refine s_callvI [] rfl (by decide +kernel) mv_7_130 np_93 (Nat.le_of_ble_eq_true rfl) lq_32 ((congrArg Prod.fst sh_32).trans oc_93) (cI_use h (fun r5 s5 M5 h => (pn 88 rfl ?_)))
      refine t_bipush (by decide +kernel) kb_8 (pn 90 rfl ?_)
      refine s_irem (by decide +kernel) (by decide) (pn 91 rfl ?_)
      refine s_iadd (by decide +kernel) (pn 92 rfl ?_)
      refine s_i2l (by decide +kernel) (pn 93 rfl ?_)
      refine s_callvI [.ref 15, .long ((((100 : Int32) + ((10 : Int32) * (r2 - r2 / 6 * 6))) + (r5 - r5 / 8 * 8)).toInt64)] rfl (by decide +kernel) mv_7_120 np_96 (Nat.le_of_ble_eq_true rfl) lq_32 ((congrArg Prod.fst sh_32).trans oc_96) (cI_use h (fun r6 s6 M6 h => (pn 96 rfl ?_)))
      exact s_ireturn (st := []) (by decide +kernel) (Or.inl rfl) ⟨_, rfl, s6, rfl, h⟩
    have h := h.2 c4
    have k1 : wS_seasonDeed d 97 [.ref 32, .ref 15, .int (r1 - r1 / 6 * 6), .int (r2 - r2 / 6 * 6)] [] s2 M2 Q := by
      refine s_aload_n (i := 0) (by decide +kernel) rfl (pn 98 rfl ?_)
      refine s_aload_n (i := 1) (by decide +kernel) rfl (pn 99 rfl ?_)
      refine t_sipush (by decide +kernel) ks_200 (pn 102 rfl ?_)
      refine t_bipush (by decide +kernel) kb_10 (pn 104 rfl ?_)
      refine s_iload_n (i := 3) (by decide +kernel) rfl (pn 105 rfl ?_)
      refine s_imul (by decide +kernel) (pn 106 rfl ?_)
      refine s_iadd (by decide +kernel) (pn 107 rfl ?_)
      refine s_aload_n (i := 0) (by decide +kernel) rfl (pn 108 rfl ?_)
      refine s_callvI [] rfl (by decide +kernel) mv_7_130 np_93 (Nat.le_of_ble_eq_true rfl) lq_32 ((congrArg Prod.fst sh_32).trans oc_93) (cI_use h (fun r7 s7 M7 h => (pn 111 rfl ?_)))
      refine t_bipush (by decide +kernel) kb_6 (pn 113 rfl ?_)
      refine s_irem (by decide +kernel) (by decide) (pn 114 rfl ?_)
      refine s_iadd (by decide +kernel) (pn 115 rfl ?_)
      refine s_i2l (by decide +kernel) (pn 116 rfl ?_)
      refine s_callvI [.ref 15, .long ((((200 : Int32) + ((10 : Int32) * (r2 - r2 / 6 * 6))) + (r7 - r7 / 6 * 6)).toInt64)] rfl (by decide +kernel) mv_7_120 np_96 (Nat.le_of_ble_eq_true rfl) lq_32 ((congrArg Prod.fst sh_32).trans oc_96) (cI_use h (fun r8 s8 M8 h => (pn 119 rfl ?_)))
      exact s_ireturn (st := []) (by decide +kernel) (Or.inl rfl) ⟨_, rfl, s8, rfl, h⟩
    by_cases q0 : (r1 - r1 / 6 * 6).toInt < 2 ∨ 4 < (r1 - r1 / 6 * 6).toInt
    · exact t_tabledef (dflt := 66) (lo := 2) (hi := 4) (offs := #[25, 33, 44]) (len := 25) (tgt := 97) (by decide +kernel) rfl q0 k1
    · rcases (show (r1 - r1 / 6 * 6).toInt = 2 ∨ (r1 - r1 / 6 * 6).toInt = 3 ∨ (r1 - r1 / 6 * 6).toInt = 4 by omega) with q1 | q1 | q1
      · exact absurd (Int32.toInt_inj.mp (q1.trans (by decide))) c2
      · exact absurd (Int32.toInt_inj.mp (q1.trans (by decide))) c3
      · exact absurd (Int32.toInt_inj.mp (q1.trans (by decide))) c4
  · have h := h.2 c1
    refine s_aload_n (i := 0) (by decide +kernel) rfl (pn 14 rfl ?_)
    refine s_aload_n (i := 1) (by decide +kernel) rfl (pn 15 rfl ?_)
    refine s_ldc2_w (by decide +kernel) kl_7_79 (pn 18 rfl ?_)
    refine s_callvI [.ref 15, .long (-1)] rfl (by decide +kernel) mv_7_120 np_96 (Nat.le_of_ble_eq_true rfl) lq_32 ((congrArg Prod.fst sh_32).trans oc_96) (cI_use h (fun r9 s9 M9 h => (pn 21 rfl ?_)))
    exact s_ireturn (st := []) (by decide +kernel) (Or.inl rfl) ⟨_, rfl, s9, rfl, h⟩
abbrev wS_holderOf (d pc : Nat) (ls st : List Value) (s : pm_S) (M : pm_M) (Q : Int32 → pm_S → pm_M → Prop) : Prop := wI d prog_9_method_5_code 7 (some .int) false pc ls st s M Q
theorem enS_holderOf {d : Nat} {s : pm_S} {M : pm_M} {x1 : Int32} {Q : Int32 → pm_S → pm_M → Prop}  (h : (((x1 < 0) → Q (-1) s M) ∧ (¬ (x1 < 0) → (((8 ≤ x1) → Q (-1) s M) ∧ (¬ (8 ≤ x1) → vp_in x1 8 ∧ ((((M.1 28 x1.toNatClampNeg) < 10) → Q (-1) s M) ∧ (¬ ((M.1 28 x1.toNatClampNeg) < 10) → vp_in x1 8 ∧ ((((M.1 28 x1.toNatClampNeg) < 16) → vp_in x1 8 ∧ Q ((M.1 28 x1.toNatClampNeg) - 10) s M) ∧ (¬ ((M.1 28 x1.toNatClampNeg) < 16) → Q (-1) s M))))))))) : cI (d + 1) yS_holderOf [.ref 27, .int x1] s M Q := by
  refine pm_toI (by decide) (Nat.le_of_ble_eq_true rfl) ?_
  show wS_holderOf d 0 [.ref 27, .int x1] [] s M Q
  refine s_iload_n (i := 1) (by decide +kernel) rfl (pn 1 rfl ?_)
  refine s_if_lt (off := 31) (tgt := 32) (by decide +kernel) rfl (fun c1 => ?_) (fun c1 => (pn 4 rfl ?_))
  · have h := h.1 c1
    refine t_iconst (by decide +kernel) ki_m1 (pn 33 rfl ?_)
    exact s_ireturn (st := []) (by decide +kernel) (Or.inl rfl) ⟨_, rfl, s, rfl, h⟩
  · have h := h.2 c1
    refine s_iload_n (i := 1) (by decide +kernel) rfl (pn 5 rfl ?_)
    refine t_bipush (by decide +kernel) kb_8 (pn 7 rfl ?_)
    refine s_icmp_ge (off := 25) (tgt := 32) (by decide +kernel) rfl (fun c2 => ?_) (fun c2 => (pn 10 rfl ?_))
    · have h := h.1 c2
      refine t_iconst (by decide +kernel) ki_m1 (pn 33 rfl ?_)
      exact s_ireturn (st := []) (by decide +kernel) (Or.inl rfl) ⟨_, rfl, s, rfl, h⟩
    · have h := h.2 c2
      refine s_aload_n (i := 0) (by decide +kernel) rfl (pn 11 rfl ?_)
      refine s_getfield (v := .ref 28) (by decide +kernel) fr_7_9 lq_27 (congrArg Prod.fst sh_27) (fv_ref pf_27_0) (pn 14 rfl ?_)
      refine s_iload_n (i := 1) (by decide +kernel) rfl (pn 15 rfl ?_)
      obtain ⟨b1, h⟩ := h
      refine t_iaload (v := M.1 28 x1.toNatClampNeg) (by decide +kernel) ⟨Or.inl lq_28, congrArg Prod.fst sh_28⟩ (al_in sh_28 b1) rfl (pn 16 rfl ?_)
      refine t_bipush (by decide +kernel) kb_10 (pn 18 rfl ?_)
      refine s_icmp_lt (off := 14) (tgt := 32) (by decide +kernel) rfl (fun c3 => ?_) (fun c3 => (pn 21 rfl ?_))
      · have h := h.1 c3
        refine t_iconst (by decide +kernel) ki_m1 (pn 33 rfl ?_)
        exact s_ireturn (st := []) (by decide +kernel) (Or.inl rfl) ⟨_, rfl, s, rfl, h⟩
      · have h := h.2 c3
        refine s_aload_n (i := 0) (by decide +kernel) rfl (pn 22 rfl ?_)
        refine s_getfield (v := .ref 28) (by decide +kernel) fr_7_9 lq_27 (congrArg Prod.fst sh_27) (fv_ref pf_27_0) (pn 25 rfl ?_)
        refine s_iload_n (i := 1) (by decide +kernel) rfl (pn 26 rfl ?_)
        obtain ⟨b2, h⟩ := h
        refine t_iaload (v := M.1 28 x1.toNatClampNeg) (by decide +kernel) ⟨Or.inl lq_28, congrArg Prod.fst sh_28⟩ (al_in sh_28 b2) rfl (pn 27 rfl ?_)
        refine t_bipush (by decide +kernel) kb_16 (pn 29 rfl ?_)
        refine s_icmp_lt (off := 5) (tgt := 34) (by decide +kernel) rfl (fun c4 => ?_) (fun c4 => (pn 32 rfl ?_))
        · have h := h.1 c4
          refine s_aload_n (i := 0) (by decide +kernel) rfl (pn 35 rfl ?_)
          refine s_getfield (v := .ref 28) (by decide +kernel) fr_7_9 lq_27 (congrArg Prod.fst sh_27) (fv_ref pf_27_0) (pn 38 rfl ?_)
          refine s_iload_n (i := 1) (by decide +kernel) rfl (pn 39 rfl ?_)
          obtain ⟨b3, h⟩ := h
          refine t_iaload (v := M.1 28 x1.toNatClampNeg) (by decide +kernel) ⟨Or.inl lq_28, congrArg Prod.fst sh_28⟩ (al_in sh_28 b3) rfl (pn 40 rfl ?_)
          refine t_bipush (by decide +kernel) kb_10 (pn 42 rfl ?_)
          refine s_isub (by decide +kernel) (pn 43 rfl ?_)
          exact s_ireturn (st := []) (by decide +kernel) (Or.inl rfl) ⟨_, rfl, s, rfl, h⟩
        · have h := h.2 c4
          refine t_iconst (by decide +kernel) ki_m1 (pn 33 rfl ?_)
          exact s_ireturn (st := []) (by decide +kernel) (Or.inl rfl) ⟨_, rfl, s, rfl, h⟩
abbrev wS_heldBits (d pc : Nat) (ls st : List Value) (s : pm_S) (M : pm_M) (Q : Int32 → pm_S → pm_M → Prop) : Prop := wI d prog_9_method_9_code 7 (some .int) false pc ls st s M Q
theorem enS_heldBits {d : Nat} {s : pm_S} {M : pm_M}  {Q : Int32 → pm_S → pm_M → Prop}  (h : wS_heldBits d 4 [.ref 27, .int 0, .int 0] [] s M Q) : cI (d + 1) yS_heldBits [.ref 27] s M Q := by
  refine pm_toI (by decide) (Nat.le_of_ble_eq_true rfl) ?_
  show wS_heldBits d 0 [.ref 27, .null, .null] [] s M Q
  refine t_iconst (by decide +kernel) ki_0 (pn 1 rfl ?_)
  refine s_istore_n (i := 1) (by decide +kernel) (Nat.le_of_ble_eq_true rfl) (pn 2 rfl (t_store (ls' := [.ref 27, .int 0, .null]) rfl ?_))
  refine t_iconst (by decide +kernel) ki_0 (pn 3 rfl ?_)
  refine s_istore_n (i := 2) (by decide +kernel) (Nat.le_of_ble_eq_true rfl) (pn 4 rfl (t_store (ls' := [.ref 27, .int 0, .int 0]) rfl ?_))
  exact h
theorem sgS_heldBits_4 {d : Nat} {s : pm_S} {M : pm_M} {l1 : Int32} {l2 : Int32} {Q : Int32 → pm_S → pm_M → Prop}  (h : (((8 ≤ l2) → Q l1 s M) ∧ (¬ (8 ≤ l2) → cI d yS_holderOf [.ref 27, .int l2] s M (fun r1 s1 M1 => wS_heldBits d 4 [.ref 27, .int ((if r1 = (-1) then l1 else (l1 ||| ((1 : Int32) <<< (l2 &&& 31)))) : Int32), .int (l2 + 1)] [] s1 M1 Q)))) : wS_heldBits d 4 [.ref 27, .int l1, .int l2] [] s M Q := by
  refine s_iload_n (i := 2) (by decide +kernel) rfl (pn 5 rfl ?_)
  refine t_bipush (by decide +kernel) kb_8 (pn 7 rfl ?_)
  refine s_icmp_ge (off := 24) (tgt := 31) (by decide +kernel) rfl (fun c1 => ?_) (fun c1 => (pn 10 rfl ?_))
  · have h := h.1 c1
    refine s_iload_n (i := 1) (by decide +kernel) rfl (pn 32 rfl ?_)
    exact s_ireturn (st := []) (by decide +kernel) (Or.inl rfl) ⟨_, rfl, s, rfl, h⟩
  · have h := h.2 c1
    refine s_aload_n (i := 0) (by decide +kernel) rfl (pn 11 rfl ?_)
    refine s_iload_n (i := 2) (by decide +kernel) rfl (pn 12 rfl ?_)
    refine s_callvI [.int l2] rfl (by decide +kernel) mv_7_58 np_99 (Nat.le_of_ble_eq_true rfl) lq_27 ((congrArg Prod.fst sh_27).trans oc_99) (cI_use h (fun r1 s1 M1 h => (pn 15 rfl ?_)))
    refine t_iconst (by decide +kernel) ki_m1 (pn 16 rfl ?_)
    have k1 : ∀ (z1 : Int32) (z1e : z1 = ((if r1 = (-1) then l1 else (l1 ||| ((1 : Int32) <<< (l2 &&& 31)))) : Int32)), wS_heldBits d 25 [.ref 27, .int z1, .int l2] [] s1 M1 Q := by
      intro z1 z1e
      subst z1e
      refine t_iinc (i := 2) (n := 1) (ls' := [.ref 27, .int ((if r1 = (-1) then l1 else (l1 ||| ((1 : Int32) <<< (l2 &&& 31)))) : Int32), .int (l2 + 1)]) (by decide +kernel) rfl (Nat.le_of_ble_eq_true rfl) kn_1 rfl (pn 28 rfl ?_)
      refine s_goto (off := -24) (tgt := 4) (by decide +kernel) rfl ?_
      exact h
    refine s_icmp_eq (off := 9) (tgt := 25) (by decide +kernel) rfl (fun c2 => ?_) (fun c2 => (pn 19 rfl ?_))
    · exact k1 _ (by simp only [if_pos c2])
    · refine s_iload_n (i := 1) (by decide +kernel) rfl (pn 20 rfl ?_)
      refine t_iconst (by decide +kernel) ki_1 (pn 21 rfl ?_)
      refine s_iload_n (i := 2) (by decide +kernel) rfl (pn 22 rfl ?_)
      refine s_ishl (by decide +kernel) (pn 23 rfl ?_)
      refine s_ior (by decide +kernel) (pn 24 rfl ?_)
      refine s_istore_n (i := 1) (by decide +kernel) (Nat.le_of_ble_eq_true rfl) (pn 25 rfl (t_store (ls' := [.ref 27, .int (l1 ||| ((1 : Int32) <<< (l2 &&& 31))), .int l2]) rfl ?_))
      exact k1 _ (by simp only [if_neg c2])
