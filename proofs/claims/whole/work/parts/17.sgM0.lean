abbrev wM_plain (d pc : Nat) (ls st : List Value) (s : pm_S) (M : pm_M) (Q : pm_S → pm_M → Prop) : Prop := wV d prog_14_method_4_code 12 none false pc ls st s M Q
theorem enM_plain {d : Nat} {s : pm_S} {M : pm_M} {a1 : Nat} {a1n : Nat} {Q : pm_S → pm_M → Prop} (ha1 : a1 < 185 ∧ (EE s).2.2.1 a1 = (0, a1n)) (h : wM_plain d 2 [.ref a1, .int 0] [] s M Q) : cV (d + 1) yM_plain [.ref a1] s M Q := by
  refine pm_toV (by decide) (Nat.le_of_ble_eq_true rfl) ?_
  show wM_plain d 0 [.ref a1, .null] [] s M Q
  refine t_iconst (by decide +kernel) ki_0 (pn 1 rfl ?_)
  refine s_istore_n (i := 1) (by decide +kernel) (Nat.le_of_ble_eq_true rfl) (pn 2 rfl (t_store (ls' := [.ref a1, .int 0]) rfl ?_))
  exact h
theorem sgM_plain_2 {d : Nat} {s : pm_S} {M : pm_M} {l1 : Int32} {a1 : Nat} {a1n : Nat} {Q : pm_S → pm_M → Prop} (ha1 : a1 < 185 ∧ (EE s).2.2.1 a1 = (0, a1n)) (h : (((1290 ≤ l1) → vp_in 1 a1n ∧ Q s (pm_si M a1 1 2)) ∧ (¬ (1290 ≤ l1) → vp_in l1 a1n ∧ wM_plain d 2 [.ref a1, .int (l1 + 1)] [] s (pm_si M a1 l1.toNatClampNeg 0) Q))) : wM_plain d 2 [.ref a1, .int l1] [] s M Q := by
  refine s_iload_n (i := 1) (by decide +kernel) rfl (pn 3 rfl ?_)
  refine t_sipush (by decide +kernel) ks_1290 (pn 6 rfl ?_)
  refine s_icmp_ge (off := 13) (tgt := 19) (by decide +kernel) rfl (fun c1 => ?_) (fun c1 => (pn 9 rfl ?_))
  · have h := h.1 c1
    refine s_aload_n (i := 0) (by decide +kernel) rfl (pn 20 rfl ?_)
    refine t_iconst (by decide +kernel) ki_1 (pn 21 rfl ?_)
    refine t_iconst (by decide +kernel) ki_2 (pn 22 rfl ?_)
    obtain ⟨b1, h⟩ := h
    refine t_iastore (k := 1) (by decide +kernel) ⟨(show a1 < (EE s).1 from ha1.1), congrArg Prod.fst ha1.2⟩ (al_in ha1.2 b1) tn_1 (pn 23 rfl ?_)
    exact s_return (st := []) (by decide +kernel) rfl ⟨rfl, s, rfl, h⟩
  · have h := h.2 c1
    refine s_aload_n (i := 0) (by decide +kernel) rfl (pn 10 rfl ?_)
    refine s_iload_n (i := 1) (by decide +kernel) rfl (pn 11 rfl ?_)
    refine t_iconst (by decide +kernel) ki_0 (pn 12 rfl ?_)
    obtain ⟨b2, h⟩ := h
    refine t_iastore (k := l1.toNatClampNeg) (by decide +kernel) ⟨(show a1 < (EE s).1 from ha1.1), congrArg Prod.fst ha1.2⟩ (al_in ha1.2 b2) rfl (pn 13 rfl ?_)
    refine t_iinc (i := 1) (n := 1) (ls' := [.ref a1, .int (l1 + 1)]) (by decide +kernel) rfl (Nat.le_of_ble_eq_true rfl) kn_1 rfl (pn 16 rfl ?_)
    refine s_goto (off := -14) (tgt := 2) (by decide +kernel) rfl ?_
    exact h
abbrev wM_feed (d pc : Nat) (ls st : List Value) (s : pm_S) (M : pm_M) (Q : Int32 → pm_S → pm_M → Prop) : Prop := wI d prog_14_method_5_code 12 (some .int) false pc ls st s M Q
theorem enM_feed {d : Nat} {s : pm_S} {M : pm_M} {x1 : Int32} {x2 : Int32} {x3 : Int32} {x4 : Int32} {x5 : Int32} {Q : Int32 → pm_S → pm_M → Prop}  (h : (((((M.1 159 5) + 20) ≤ 900) → wM_feed d 24 [.ref 159, .int x1, .int x2, .int x3, .int x4, .int x5, .int 0, .null] [] s (pm_si M 159 0 0) Q) ∧ (¬ (((M.1 159 5) + 20) ≤ 900) → Q (-5) s (pm_si M 159 0 0)))) : cI (d + 1) yM_feed [.ref 159, .int x1, .int x2, .int x3, .int x4, .int x5] s M Q := by
  refine pm_toI (by decide) (Nat.le_of_ble_eq_true rfl) ?_
  show wM_feed d 0 [.ref 159, .int x1, .int x2, .int x3, .int x4, .int x5, .null, .null] [] s M Q
  refine s_aload_n (i := 0) (by decide +kernel) rfl (pn 1 rfl ?_)
  refine t_iconst (by decide +kernel) ki_0 (pn 2 rfl ?_)
  refine s_putfieldI (by decide +kernel) fr_12_1 lq_159 (congrArg Prod.fst sh_159) (fun q => by cases q) (Or.inl rfl) (pn 5 rfl ?_)
  refine s_aload_n (i := 0) (by decide +kernel) rfl (pn 6 rfl ?_)
  refine s_getfield (v := .int (M.1 159 5)) (by decide +kernel) fr_12_101 lq_159 (congrArg Prod.fst sh_159) rfl (pn 9 rfl ?_)
  refine t_bipush (by decide +kernel) kb_20 (pn 11 rfl ?_)
  refine s_iadd (by decide +kernel) (pn 12 rfl ?_)
  refine t_sipush (by decide +kernel) ks_900 (pn 15 rfl ?_)
  refine s_icmp_le (off := 6) (tgt := 21) (by decide +kernel) rfl (fun c1 => ?_) (fun c1 => (pn 18 rfl ?_))
  · have h := h.1 c1
    refine t_iconst (by decide +kernel) ki_0 (pn 22 rfl ?_)
    refine s_istore (i := 6) (by decide +kernel) (Nat.le_of_ble_eq_true rfl) (pn 24 rfl (t_store (ls' := [.ref 159, .int x1, .int x2, .int x3, .int x4, .int x5, .int 0, .null]) rfl ?_))
    exact h
  · have h := h.2 c1
    refine t_bipush (by decide +kernel) kb_m5 (pn 20 rfl ?_)
    exact s_ireturn (st := []) (by decide +kernel) (Or.inl rfl) ⟨_, rfl, s, rfl, h⟩
theorem sgM_feed_24 {d : Nat} {s : pm_S} {M : pm_M} {l1 : Int32} {l2 : Int32} {l3 : Int32} {l4 : Int32} {l5 : Int32} {l6 : Int32} {Q : Int32 → pm_S → pm_M → Prop}  (h : (((20 ≤ l6) → Q (M.1 159 5) s M) ∧ (¬ (20 ≤ l6) → wM_feed d 77 [.ref 159, .int l1, .int l2, .int l3, .int l4, .int l5, .int l6, .null] [.int ((if 4 ≤ l6 then (if 8 ≤ l6 then (if 12 ≤ l6 then (if 16 ≤ l6 then l5 else l4) else l3) else l2) else l1) : Int32)] s M Q))) : wM_feed d 24 [.ref 159, .int l1, .int l2, .int l3, .int l4, .int l5, .int l6, .null] [] s M Q := by
  refine s_iload (i := 6) (by decide +kernel) rfl (pn 26 rfl ?_)
  refine t_bipush (by decide +kernel) kb_20 (pn 28 rfl ?_)
  refine s_icmp_ge (off := 93) (tgt := 121) (by decide +kernel) rfl (fun c1 => ?_) (fun c1 => (pn 31 rfl ?_))
  · have h := h.1 c1
    refine s_aload_n (i := 0) (by decide +kernel) rfl (pn 122 rfl ?_)
    refine s_getfield (v := .int (M.1 159 5)) (by decide +kernel) fr_12_101 lq_159 (congrArg Prod.fst sh_159) rfl (pn 125 rfl ?_)
    exact s_ireturn (st := []) (by decide +kernel) (Or.inl rfl) ⟨_, rfl, s, rfl, h⟩
  · have h := h.2 c1
    refine s_iload (i := 6) (by decide +kernel) rfl (pn 33 rfl ?_)
    refine t_iconst (by decide +kernel) ki_4 (pn 34 rfl ?_)
    have k1 : ∀ (z1 : Int32) (z1e : z1 = ((if 4 ≤ l6 then (if 8 ≤ l6 then (if 12 ≤ l6 then (if 16 ≤ l6 then l5 else l4) else l3) else l2) else l1) : Int32)), wM_feed d 77 [.ref 159, .int l1, .int l2, .int l3, .int l4, .int l5, .int l6, .null] [.int z1] s M Q := by
      intro z1 z1e
      subst z1e
      exact h
    refine s_icmp_ge (off := 7) (tgt := 41) (by decide +kernel) rfl (fun c2 => ?_) (fun c2 => (pn 37 rfl ?_))
    · refine s_iload (i := 6) (by decide +kernel) rfl (pn 43 rfl ?_)
      refine t_bipush (by decide +kernel) kb_8 (pn 45 rfl ?_)
      refine s_icmp_ge (off := 7) (tgt := 52) (by decide +kernel) rfl (fun c3 => ?_) (fun c3 => (pn 48 rfl ?_))
      · refine s_iload (i := 6) (by decide +kernel) rfl (pn 54 rfl ?_)
        refine t_bipush (by decide +kernel) kb_12 (pn 56 rfl ?_)
        refine s_icmp_ge (off := 7) (tgt := 63) (by decide +kernel) rfl (fun c4 => ?_) (fun c4 => (pn 59 rfl ?_))
        · refine s_iload (i := 6) (by decide +kernel) rfl (pn 65 rfl ?_)
          refine t_bipush (by decide +kernel) kb_16 (pn 67 rfl ?_)
          refine s_icmp_ge (off := 8) (tgt := 75) (by decide +kernel) rfl (fun c5 => ?_) (fun c5 => (pn 70 rfl ?_))
          · refine s_iload (i := 5) (by decide +kernel) rfl (pn 77 rfl ?_)
            exact k1 _ (by simp only [if_pos c2, if_pos c3, if_pos c4, if_pos c5])
          · refine s_iload (i := 4) (by decide +kernel) rfl (pn 72 rfl ?_)
            refine s_goto (off := 5) (tgt := 77) (by decide +kernel) rfl ?_
            exact k1 _ (by simp only [if_pos c2, if_pos c3, if_pos c4, if_neg c5])
        · refine s_iload_n (i := 3) (by decide +kernel) rfl (pn 60 rfl ?_)
          refine s_goto (off := 17) (tgt := 77) (by decide +kernel) rfl ?_
          exact k1 _ (by simp only [if_pos c2, if_pos c3, if_neg c4])
      · refine s_iload_n (i := 2) (by decide +kernel) rfl (pn 49 rfl ?_)
        refine s_goto (off := 28) (tgt := 77) (by decide +kernel) rfl ?_
        exact k1 _ (by simp only [if_pos c2, if_neg c3])
    · refine s_iload_n (i := 1) (by decide +kernel) rfl (pn 38 rfl ?_)
      refine s_goto (off := 39) (tgt := 77) (by decide +kernel) rfl ?_
      exact k1 _ (by simp only [if_neg c2])
theorem sgM_feed_77 {d : Nat} {s : pm_S} {M : pm_M} {l1 : Int32} {l2 : Int32} {l3 : Int32} {l4 : Int32} {l5 : Int32} {l6 : Int32} {t0 : Int32} {Q : Int32 → pm_S → pm_M → Prop}  (h : vp_in (M.1 159 5) 900 ∧ wM_feed d 24 [.ref 159, .int l1, .int l2, .int l3, .int l4, .int l5, .int (l6 + 1), .null] [] s (pm_si (pm_si M 162 (M.1 159 5).toNatClampNeg ((t0 >>> (((24 : Int32) - ((8 : Int32) * (l6 - l6 / 4 * 4))) &&& 31)) &&& 255)) 159 5 ((M.1 159 5) + 1)) Q) : wM_feed d 77 [.ref 159, .int l1, .int l2, .int l3, .int l4, .int l5, .int l6, .null] [.int t0] s M Q := by
  refine s_istore (i := 7) (by decide +kernel) (Nat.le_of_ble_eq_true rfl) (pn 79 rfl (t_store (ls' := [.ref 159, .int l1, .int l2, .int l3, .int l4, .int l5, .int l6, .int t0]) rfl ?_))
  refine s_aload_n (i := 0) (by decide +kernel) rfl (pn 80 rfl ?_)
  refine s_getfield (v := .ref 162) (by decide +kernel) fr_12_21 lq_159 (congrArg Prod.fst sh_159) (fv_ref pf_159_3) (pn 83 rfl ?_)
  refine s_aload_n (i := 0) (by decide +kernel) rfl (pn 84 rfl ?_)
  refine s_getfield (v := .int (M.1 159 5)) (by decide +kernel) fr_12_101 lq_159 (congrArg Prod.fst sh_159) rfl (pn 87 rfl ?_)
  refine s_iload (i := 7) (by decide +kernel) rfl (pn 89 rfl ?_)
  refine t_bipush (by decide +kernel) kb_24 (pn 91 rfl ?_)
  refine t_bipush (by decide +kernel) kb_8 (pn 93 rfl ?_)
  refine s_iload (i := 6) (by decide +kernel) rfl (pn 95 rfl ?_)
  refine t_iconst (by decide +kernel) ki_4 (pn 96 rfl ?_)
  refine s_irem (by decide +kernel) (by decide) (pn 97 rfl ?_)
  refine s_imul (by decide +kernel) (pn 98 rfl ?_)
  refine s_isub (by decide +kernel) (pn 99 rfl ?_)
  refine s_ishr (by decide +kernel) (pn 100 rfl ?_)
  refine t_sipush (by decide +kernel) ks_255 (pn 103 rfl ?_)
  refine s_iand (by decide +kernel) (pn 104 rfl ?_)
  obtain ⟨b1, h⟩ := h
  refine t_iastore (k := (M.1 159 5).toNatClampNeg) (by decide +kernel) ⟨lq_162, congrArg Prod.fst sh_162⟩ (al_in sh_162 b1) rfl (pn 105 rfl ?_)
  refine s_aload_n (i := 0) (by decide +kernel) rfl (pn 106 rfl ?_)
  refine s_dup (by decide +kernel) rfl (pn 107 rfl ?_)
  refine s_getfield (v := .int (M.1 159 5)) (by decide +kernel) fr_12_101 lq_159 (congrArg Prod.fst sh_159) rfl (pn 110 rfl ?_)
  refine t_iconst (by decide +kernel) ki_1 (pn 111 rfl ?_)
  refine s_iadd (by decide +kernel) (pn 112 rfl ?_)
  refine s_putfieldI (by decide +kernel) fr_12_101 lq_159 (congrArg Prod.fst sh_159) (fun q => by cases q) (Or.inl rfl) (pn 115 rfl ?_)
  refine t_iinc (i := 6) (n := 1) (ls' := [.ref 159, .int l1, .int l2, .int l3, .int l4, .int l5, .int (l6 + 1), .int t0]) (by decide +kernel) rfl (Nat.le_of_ble_eq_true rfl) kn_1 rfl (pn 118 rfl ?_)
  refine s_goto (off := -94) (tgt := 24) (by decide +kernel) rfl ?_
  exact pm_weak [.ref 159, .int l1, .int l2, .int l3, .int l4, .int l5, .int (l6 + 1), .null] (pm_le_cons (Or.inr rfl) (pm_le_cons (Or.inr rfl) (pm_le_cons (Or.inr rfl) (pm_le_cons (Or.inr rfl) (pm_le_cons (Or.inr rfl) (pm_le_cons (Or.inr rfl) (pm_le_cons (Or.inr rfl) (pm_le_cons (Or.inl rfl) pm_le_nil)))))))) h
abbrev wM_line (d pc : Nat) (ls st : List Value) (s : pm_S) (M : pm_M) (Q : Int32 → pm_S → pm_M → Prop) : Prop := wI d prog_14_method_33_code 12 (some .int) false pc ls st s M Q
theorem enM_line {d : Nat} {s : pm_S} {M : pm_M} {x1 : Int32} {Q : Int32 → pm_S → pm_M → Prop}  (h : cI d yM_within [.long (x1.toInt64), .long 0, .long ((M.1 159 5).toInt64)] s (pm_si M 159 0 0) (fun r1 s1 M1 => ((r1 = 0 → Q (-3) s1 M1) ∧ (¬ (r1 = 0) → cV d yM_plain [.ref 163] s1 (pm_si (pm_si (pm_si (pm_si M1 159 8 x1) 159 5 0) 159 7 0) 159 11 0) (fun s2 M2 => cV d yM_next [.ref 159] s2 M2 (fun s3 M3 => cI d yM_eats [.ref 159, .int 0] s3 M3 (fun r2 s4 M4 => ((r2 = 0 → cV d yM_fails [.ref 159, .int 2] s4 M4 (fun s7 M7 => cI d yM_takesN [.ref 159, .int 2, .int 8] s7 M7 (fun r4 s8 M8 => cV d yM_ends [.ref 159] s8 (pm_si M8 163 1 r4) (fun s9 M9 => wM_line d 83 [.ref 159, .null, .null] [] s9 M9 Q)))) ∧ (¬ (r2 = 0) → cI d yM_takesN [.ref 159, .int 2, .int 8] s4 M4 (fun r3 s5 M5 => cV d yM_ends [.ref 159] s5 (pm_si M5 163 1 r3) (fun s6 M6 => wM_line d 83 [.ref 159, .null, .null] [] s6 M6 Q))))))))))) : cI (d + 1) yM_line [.ref 159, .int x1] s M Q := by
  refine pm_toI (by decide) (Nat.le_of_ble_eq_true rfl) ?_
  show wM_line d 0 [.ref 159, .int x1, .null] [] s M Q
  refine s_aload_n (i := 0) (by decide +kernel) rfl (pn 1 rfl ?_)
  refine t_iconst (by decide +kernel) ki_0 (pn 2 rfl ?_)
  refine s_putfieldI (by decide +kernel) fr_12_1 lq_159 (congrArg Prod.fst sh_159) (fun q => by cases q) (Or.inl rfl) (pn 5 rfl ?_)
  refine s_iload_n (i := 1) (by decide +kernel) rfl (pn 6 rfl ?_)
  refine s_i2l (by decide +kernel) (pn 7 rfl ?_)
  refine t_lconst (n := 0) (v := 0) (by decide +kernel) rfl (pn 8 rfl ?_)
  refine s_aload_n (i := 0) (by decide +kernel) rfl (pn 9 rfl ?_)
  refine s_getfield (v := .int (M.1 159 5)) (by decide +kernel) fr_12_101 lq_159 (congrArg Prod.fst sh_159) rfl (pn 12 rfl ?_)
  refine s_i2l (by decide +kernel) (pn 13 rfl ?_)
  refine s_callsI [.long (x1.toInt64), .long 0, .long ((M.1 159 5).toInt64)] rfl (by decide +kernel) ms_12_163 np_188 (Nat.le_of_ble_eq_true rfl) (cI_use h (fun r1 s1 M1 h => (pn 16 rfl ?_)))
  refine t_if_ne (off := 6) (tgt := 22) (by decide +kernel) rfl (fun c1 => ?_) (fun c1 => (pn 19 rfl ?_))
  · have h := h.2 c1
    refine s_aload_n (i := 0) (by decide +kernel) rfl (pn 23 rfl ?_)
    refine s_iload_n (i := 1) (by decide +kernel) rfl (pn 24 rfl ?_)
    refine s_putfieldI (by decide +kernel) fr_12_104 lq_159 (congrArg Prod.fst sh_159) (fun q => by cases q) (Or.inl rfl) (pn 27 rfl ?_)
    refine s_aload_n (i := 0) (by decide +kernel) rfl (pn 28 rfl ?_)
    refine t_iconst (by decide +kernel) ki_0 (pn 29 rfl ?_)
    refine s_putfieldI (by decide +kernel) fr_12_101 lq_159 (congrArg Prod.fst sh_159) (fun q => by cases q) (Or.inl rfl) (pn 32 rfl ?_)
    refine s_aload_n (i := 0) (by decide +kernel) rfl (pn 33 rfl ?_)
    refine t_iconst (by decide +kernel) ki_0 (pn 34 rfl ?_)
    refine s_putfieldI (by decide +kernel) fr_12_122 lq_159 (congrArg Prod.fst sh_159) (fun q => by cases q) (Or.inl rfl) (pn 37 rfl ?_)
    refine s_aload_n (i := 0) (by decide +kernel) rfl (pn 38 rfl ?_)
    refine t_iconst (by decide +kernel) ki_0 (pn 39 rfl ?_)
    refine s_putfieldI (by decide +kernel) fr_12_147 lq_159 (congrArg Prod.fst sh_159) (fun q => by cases q) (Or.inl rfl) (pn 42 rfl ?_)
    refine s_aload_n (i := 0) (by decide +kernel) rfl (pn 43 rfl ?_)
    refine s_getfield (v := .ref 163) (by decide +kernel) fr_12_24 lq_159 (congrArg Prod.fst sh_159) (fv_ref pf_159_4) (pn 46 rfl ?_)
    refine s_callsV [.ref 163] rfl (by decide +kernel) ms_12_97 np_185 (Nat.le_of_ble_eq_true rfl) (cV_use h (fun s2 M2 h => (pn 49 rfl ?_)))
    refine s_aload_n (i := 0) (by decide +kernel) rfl (pn 50 rfl ?_)
    refine s_callvV [] rfl (by decide +kernel) mv_12_156 np_189 (Nat.le_of_ble_eq_true rfl) lq_159 ((congrArg Prod.fst sh_159).trans oc_189) (cV_use h (fun s3 M3 h => (pn 53 rfl ?_)))
    refine s_aload_n (i := 0) (by decide +kernel) rfl (pn 54 rfl ?_)
    refine t_iconst (by decide +kernel) ki_0 (pn 55 rfl ?_)
    refine s_callvI [.int 0] rfl (by decide +kernel) mv_12_182 np_194 (Nat.le_of_ble_eq_true rfl) lq_159 ((congrArg Prod.fst sh_159).trans oc_194) (cI_use h (fun r2 s4 M4 h => (pn 58 rfl ?_)))
    refine t_if_ne (off := 8) (tgt := 66) (by decide +kernel) rfl (fun c2 => ?_) (fun c2 => (pn 61 rfl ?_))
    · have h := h.2 c2
      refine s_aload_n (i := 0) (by decide +kernel) rfl (pn 67 rfl ?_)
      refine s_getfield (v := .ref 163) (by decide +kernel) fr_12_24 lq_159 (congrArg Prod.fst sh_159) (fv_ref pf_159_4) (pn 70 rfl ?_)
      refine t_iconst (by decide +kernel) ki_1 (pn 71 rfl ?_)
      refine s_aload_n (i := 0) (by decide +kernel) rfl (pn 72 rfl ?_)
      refine t_iconst (by decide +kernel) ki_2 (pn 73 rfl ?_)
      refine t_bipush (by decide +kernel) kb_8 (pn 75 rfl ?_)
      refine s_callvI [.int 2, .int 8] rfl (by decide +kernel) mv_12_203 np_197 (Nat.le_of_ble_eq_true rfl) lq_159 ((congrArg Prod.fst sh_159).trans oc_197) (cI_use h (fun r3 s5 M5 h => (pn 78 rfl ?_)))
      refine t_iastore (k := 1) (by decide +kernel) ⟨lq_163, congrArg Prod.fst sh_163⟩ (al_in sh_163 (vp_lit (n := 1290) tn_1 (by decide) (by decide))) tn_1 (pn 79 rfl ?_)
      refine s_aload_n (i := 0) (by decide +kernel) rfl (pn 80 rfl ?_)
      refine s_callvV [] rfl (by decide +kernel) mv_12_222 np_198 (Nat.le_of_ble_eq_true rfl) lq_159 ((congrArg Prod.fst sh_159).trans oc_198) (cV_use h (fun s6 M6 h => (pn 83 rfl ?_)))
      exact pm_weak [.ref 159, .null, .null] (pm_le_cons (Or.inr rfl) (pm_le_cons (Or.inl rfl) (pm_le_cons (Or.inl rfl) pm_le_nil))) h
    · have h := h.1 c2
      refine s_aload_n (i := 0) (by decide +kernel) rfl (pn 62 rfl ?_)
      refine t_iconst (by decide +kernel) ki_2 (pn 63 rfl ?_)
      refine s_callvV [.int 2] rfl (by decide +kernel) mv_12_159 np_196 (Nat.le_of_ble_eq_true rfl) lq_159 ((congrArg Prod.fst sh_159).trans oc_196) (cV_use h (fun s7 M7 h => (pn 66 rfl ?_)))
      refine s_aload_n (i := 0) (by decide +kernel) rfl (pn 67 rfl ?_)
      refine s_getfield (v := .ref 163) (by decide +kernel) fr_12_24 lq_159 (congrArg Prod.fst sh_159) (fv_ref pf_159_4) (pn 70 rfl ?_)
      refine t_iconst (by decide +kernel) ki_1 (pn 71 rfl ?_)
      refine s_aload_n (i := 0) (by decide +kernel) rfl (pn 72 rfl ?_)
      refine t_iconst (by decide +kernel) ki_2 (pn 73 rfl ?_)
      refine t_bipush (by decide +kernel) kb_8 (pn 75 rfl ?_)
      refine s_callvI [.int 2, .int 8] rfl (by decide +kernel) mv_12_203 np_197 (Nat.le_of_ble_eq_true rfl) lq_159 ((congrArg Prod.fst sh_159).trans oc_197) (cI_use h (fun r4 s8 M8 h => (pn 78 rfl ?_)))
      refine t_iastore (k := 1) (by decide +kernel) ⟨lq_163, congrArg Prod.fst sh_163⟩ (al_in sh_163 (vp_lit (n := 1290) tn_1 (by decide) (by decide))) tn_1 (pn 79 rfl ?_)
      refine s_aload_n (i := 0) (by decide +kernel) rfl (pn 80 rfl ?_)
      refine s_callvV [] rfl (by decide +kernel) mv_12_222 np_198 (Nat.le_of_ble_eq_true rfl) lq_159 ((congrArg Prod.fst sh_159).trans oc_198) (cV_use h (fun s9 M9 h => (pn 83 rfl ?_)))
      exact pm_weak [.ref 159, .null, .null] (pm_le_cons (Or.inr rfl) (pm_le_cons (Or.inl rfl) (pm_le_cons (Or.inl rfl) pm_le_nil))) h
  · have h := h.1 c1
    refine t_bipush (by decide +kernel) kb_m3 (pn 21 rfl ?_)
    exact s_ireturn (st := []) (by decide +kernel) (Or.inl rfl) ⟨_, rfl, s1, rfl, h⟩
theorem sgM_line_83 {d : Nat} {s : pm_S} {M : pm_M}  {Q : Int32 → pm_S → pm_M → Prop}  (h : (((M.1 159 11) = 0 → ((((M.1 159 9) = 24) → wM_line d 110 [.ref 159, .null, .null] [] s M Q) ∧ (¬ ((M.1 159 9) = 24) → cV d yM_readLine [.ref 159] s M (fun s1 M1 => cV d yM_ends [.ref 159] s1 M1 (fun s2 M2 => wM_line d 83 [.ref 159, .null, .null] [] s2 M2 Q))))) ∧ (¬ ((M.1 159 11) = 0) → wM_line d 110 [.ref 159, .null, .null] [] s M Q))) : wM_line d 83 [.ref 159, .null, .null] [] s M Q := by
  refine s_aload_n (i := 0) (by decide +kernel) rfl (pn 84 rfl ?_)
  refine s_getfield (v := .int (M.1 159 11)) (by decide +kernel) fr_12_147 lq_159 (congrArg Prod.fst sh_159) rfl (pn 87 rfl ?_)
  refine t_if_ne (off := 23) (tgt := 110) (by decide +kernel) rfl (fun c1 => ?_) (fun c1 => (pn 90 rfl ?_))
  · have h := h.2 c1
    exact h
  · have h := h.1 c1
    refine s_aload_n (i := 0) (by decide +kernel) rfl (pn 91 rfl ?_)
    refine s_getfield (v := .int (M.1 159 9)) (by decide +kernel) fr_12_129 lq_159 (congrArg Prod.fst sh_159) rfl (pn 94 rfl ?_)
    refine t_bipush (by decide +kernel) kb_24 (pn 96 rfl ?_)
    refine s_icmp_eq (off := 14) (tgt := 110) (by decide +kernel) rfl (fun c3 => ?_) (fun c3 => (pn 99 rfl ?_))
    · have h := h.1 c3
      exact h
    · have h := h.2 c3
      refine s_aload_n (i := 0) (by decide +kernel) rfl (pn 100 rfl ?_)
      refine s_callvV [] rfl (by decide +kernel) mv_12_225 np_199 (Nat.le_of_ble_eq_true rfl) lq_159 ((congrArg Prod.fst sh_159).trans oc_199) (cV_use h (fun s1 M1 h => (pn 103 rfl ?_)))
      refine s_aload_n (i := 0) (by decide +kernel) rfl (pn 104 rfl ?_)
      refine s_callvV [] rfl (by decide +kernel) mv_12_222 np_198 (Nat.le_of_ble_eq_true rfl) lq_159 ((congrArg Prod.fst sh_159).trans oc_198) (cV_use h (fun s2 M2 h => (pn 107 rfl ?_)))
      refine s_goto (off := -24) (tgt := 83) (by decide +kernel) rfl ?_
      exact h
theorem sgM_line_110 {d : Nat} {s : pm_S} {M : pm_M}  {Q : Int32 → pm_S → pm_M → Prop}  (h : ((((M.1 159 11) = 0) → wM_line d 154 [.ref 159, .null, .int 0] [] s (pm_si (pm_si M 159 13 (M.1 159 11)) 159 14 ((if (M.1 159 11) = 0 then (-1) else (M.1 159 12)) : Int32)) Q) ∧ (¬ ((M.1 159 11) = 0) → Q (((-30) : Int32) - (M.1 159 11)) s (pm_si (pm_si M 159 13 (M.1 159 11)) 159 14 ((if (M.1 159 11) = 0 then (-1) else (M.1 159 12)) : Int32))))) : wM_line d 110 [.ref 159, .null, .null] [] s M Q := by
  refine s_aload_n (i := 0) (by decide +kernel) rfl (pn 111 rfl ?_)
  refine s_aload_n (i := 0) (by decide +kernel) rfl (pn 112 rfl ?_)
  refine s_getfield (v := .int (M.1 159 11)) (by decide +kernel) fr_12_147 lq_159 (congrArg Prod.fst sh_159) rfl (pn 115 rfl ?_)
  refine s_putfieldI (by decide +kernel) fr_12_228 lq_159 (congrArg Prod.fst sh_159) (fun q => by cases q) (Or.inl rfl) (pn 118 rfl ?_)
  refine s_aload_n (i := 0) (by decide +kernel) rfl (pn 119 rfl ?_)
  refine s_aload_n (i := 0) (by decide +kernel) rfl (pn 120 rfl ?_)
  refine s_getfield (v := .int (M.1 159 11)) (by decide +kernel) fr_12_147 lq_159 (congrArg Prod.fst sh_159) rfl (pn 123 rfl ?_)
  have k1 : ∀ (z1 : Int32) (z1e : z1 = ((if (M.1 159 11) = 0 then (-1) else (M.1 159 12)) : Int32)), wM_line d 134 [.ref 159, .null, .null] [.int z1, .ref 159] s (pm_si M 159 13 (M.1 159 11)) Q := by
    intro z1 z1e
    subst z1e
    refine s_putfieldI (by decide +kernel) fr_12_27 lq_159 (congrArg Prod.fst sh_159) (fun q => by cases q) (Or.inl rfl) (pn 137 rfl ?_)
    refine s_aload_n (i := 0) (by decide +kernel) rfl (pn 138 rfl ?_)
    refine s_getfield (v := .int (M.1 159 11)) (by decide +kernel) fr_12_147 lq_159 (congrArg Prod.fst sh_159) rfl (pn 141 rfl ?_)
    refine s_if_eq (off := 11) (tgt := 152) (by decide +kernel) rfl (fun c2 => ?_) (fun c2 => (pn 144 rfl ?_))
    · have h := h.1 c2
      refine t_iconst (by decide +kernel) ki_0 (pn 153 rfl ?_)
      refine s_istore_n (i := 2) (by decide +kernel) (Nat.le_of_ble_eq_true rfl) (pn 154 rfl (t_store (ls' := [.ref 159, .null, .int 0]) rfl ?_))
      exact h
    · have h := h.2 c2
      refine t_bipush (by decide +kernel) kb_m30 (pn 146 rfl ?_)
      refine s_aload_n (i := 0) (by decide +kernel) rfl (pn 147 rfl ?_)
      refine s_getfield (v := .int (M.1 159 11)) (by decide +kernel) fr_12_147 lq_159 (congrArg Prod.fst sh_159) rfl (pn 150 rfl ?_)
      refine s_isub (by decide +kernel) (pn 151 rfl ?_)
      exact s_ireturn (st := []) (by decide +kernel) (Or.inl rfl) ⟨_, rfl, s, rfl, h⟩
  refine t_if_ne (off := 7) (tgt := 130) (by decide +kernel) rfl (fun c1 => ?_) (fun c1 => (pn 126 rfl ?_))
  · refine s_aload_n (i := 0) (by decide +kernel) rfl (pn 131 rfl ?_)
    refine s_getfield (v := .int (M.1 159 12)) (by decide +kernel) fr_12_150 lq_159 (congrArg Prod.fst sh_159) rfl (pn 134 rfl ?_)
    exact k1 _ (by simp only [if_neg c1])
  · refine t_iconst (by decide +kernel) ki_m1 (pn 127 rfl ?_)
    refine s_goto (off := 7) (tgt := 134) (by decide +kernel) rfl ?_
    exact k1 _ (by simp only [if_pos c1])
theorem sgM_line_154 {d : Nat} {s : pm_S} {M : pm_M} {l2 : Int32} {Q : Int32 → pm_S → pm_M → Prop}  (h : (((1290 ≤ l2) → Q (M.1 160 0) s M) ∧ (¬ (1290 ≤ l2) → vp_in l2 1290 ∧ vp_in l2 3870 ∧ wM_line d 154 [.ref 159, .null, .int (l2 + 1)] [] s (pm_si M 160 l2.toNatClampNeg (M.1 163 l2.toNatClampNeg)) Q))) : wM_line d 154 [.ref 159, .null, .int l2] [] s M Q := by
  refine s_iload_n (i := 2) (by decide +kernel) rfl (pn 155 rfl ?_)
  refine t_sipush (by decide +kernel) ks_1290 (pn 158 rfl ?_)
  refine s_icmp_ge (off := 21) (tgt := 179) (by decide +kernel) rfl (fun c1 => ?_) (fun c1 => (pn 161 rfl ?_))
  · have h := h.1 c1
    refine s_aload_n (i := 0) (by decide +kernel) rfl (pn 180 rfl ?_)
    refine s_getfield (v := .ref 160) (by decide +kernel) fr_12_13 lq_159 (congrArg Prod.fst sh_159) (fv_ref pf_159_1) (pn 183 rfl ?_)
    refine t_iconst (by decide +kernel) ki_0 (pn 184 rfl ?_)
    refine t_iaload (v := M.1 160 0) (by decide +kernel) ⟨Or.inl lq_160, congrArg Prod.fst sh_160⟩ (al_in sh_160 (vp_lit (n := 3870) tn_0 (by decide) (by decide))) (by rw [tn_0] <;> rfl) (pn 185 rfl ?_)
    exact s_ireturn (st := []) (by decide +kernel) (Or.inl rfl) ⟨_, rfl, s, rfl, h⟩
  · have h := h.2 c1
    refine s_aload_n (i := 0) (by decide +kernel) rfl (pn 162 rfl ?_)
    refine s_getfield (v := .ref 160) (by decide +kernel) fr_12_13 lq_159 (congrArg Prod.fst sh_159) (fv_ref pf_159_1) (pn 165 rfl ?_)
    refine s_iload_n (i := 2) (by decide +kernel) rfl (pn 166 rfl ?_)
    refine s_aload_n (i := 0) (by decide +kernel) rfl (pn 167 rfl ?_)
    refine s_getfield (v := .ref 163) (by decide +kernel) fr_12_24 lq_159 (congrArg Prod.fst sh_159) (fv_ref pf_159_4) (pn 170 rfl ?_)
    refine s_iload_n (i := 2) (by decide +kernel) rfl (pn 171 rfl ?_)
    obtain ⟨b1, h⟩ := h
    refine t_iaload (v := M.1 163 l2.toNatClampNeg) (by decide +kernel) ⟨Or.inl lq_163, congrArg Prod.fst sh_163⟩ (al_in sh_163 b1) rfl (pn 172 rfl ?_)
    obtain ⟨b2, h⟩ := h
    refine t_iastore (k := l2.toNatClampNeg) (by decide +kernel) ⟨lq_160, congrArg Prod.fst sh_160⟩ (al_in sh_160 b2) rfl (pn 173 rfl ?_)
    refine t_iinc (i := 2) (n := 1) (ls' := [.ref 159, .null, .int (l2 + 1)]) (by decide +kernel) rfl (Nat.le_of_ble_eq_true rfl) kn_1 rfl (pn 176 rfl ?_)
    refine s_goto (off := -22) (tgt := 154) (by decide +kernel) rfl ?_
    exact h
abbrev wM_within (d pc : Nat) (ls st : List Value) (s : pm_S) (M : pm_M) (Q : Int32 → pm_S → pm_M → Prop) : Prop := wI d prog_14_method_2_code 12 (some .boolean) false pc ls st s M Q
theorem enM_within {d : Nat} {s : pm_S} {M : pm_M} {x1 : Int64} {x2 : Int64} {x3 : Int64} {Q : Int32 → pm_S → pm_M → Prop}  (h : Q ((if x1 < x2 then 0 else (if x3 < x1 then 0 else 1)) : Int32) s M) : cI (d + 1) yM_within [.long x1, .long x2, .long x3] s M Q := by
  refine pm_toI (by decide) (Nat.le_of_ble_eq_true rfl) ?_
  show wM_within d 0 [.long x1, .null, .long x2, .null, .long x3, .null] [] s M Q
  refine s_lload_n (i := 0) (by decide +kernel) rfl (pn 1 rfl ?_)
  refine s_lload_n (i := 2) (by decide +kernel) rfl (pn 2 rfl ?_)
  have k1 : ∀ (z1 : Int32) (z1e : z1 = ((if x1 < x2 then 0 else (if x3 < x1 then 0 else 1)) : Int32)), wM_within d 18 [.long x1, .null, .long x2, .null, .long x3, .null] [.int z1] s M Q := by
    intro z1 z1e
    subst z1e
    exact s_ireturn (st := []) (by decide +kernel) (Or.inr ⟨rfl, (or01 (Or.inl rfl) (or01 (Or.inl rfl) (Or.inr rfl)))⟩) ⟨_, rfl, s, rfl, h⟩
  refine t_lc_lt (off := 14) (tgt := 17) (by decide +kernel) (by decide +kernel) rfl (fun c1 => ?_) (fun c1 => (pn 6 rfl ?_))
  · refine t_iconst (by decide +kernel) ki_0 (pn 18 rfl ?_)
    exact k1 _ (by simp only [if_pos c1])
  · refine s_lload_n (i := 0) (by decide +kernel) rfl (pn 7 rfl ?_)
    refine s_lload (i := 4) (by decide +kernel) rfl (pn 9 rfl ?_)
    refine t_lc_gt (off := 7) (tgt := 17) (by decide +kernel) (by decide +kernel) rfl (fun c2 => ?_) (fun c2 => (pn 13 rfl ?_))
    · refine t_iconst (by decide +kernel) ki_0 (pn 18 rfl ?_)
      exact k1 _ (by simp only [if_neg c1, if_pos c2])
    · refine t_iconst (by decide +kernel) ki_1 (pn 14 rfl ?_)
      refine s_goto (off := 4) (tgt := 18) (by decide +kernel) rfl ?_
      exact k1 _ (by simp only [if_neg c1, if_neg c2])
abbrev wM_next (d pc : Nat) (ls st : List Value) (s : pm_S) (M : pm_M) (Q : pm_S → pm_M → Prop) : Prop := wV d prog_14_method_10_code 12 none false pc ls st s M Q
theorem enM_next {d : Nat} {s : pm_S} {M : pm_M}  {Q : pm_S → pm_M → Prop}  (h : wM_next d 8 [.ref 159, .null] [] s (pm_si M 159 6 (M.1 159 7)) Q) : cV (d + 1) yM_next [.ref 159] s M Q := by
  refine pm_toV (by decide) (Nat.le_of_ble_eq_true rfl) ?_
  show wM_next d 0 [.ref 159, .null] [] s M Q
  refine s_aload_n (i := 0) (by decide +kernel) rfl (pn 1 rfl ?_)
  refine s_aload_n (i := 0) (by decide +kernel) rfl (pn 2 rfl ?_)
  refine s_getfield (v := .int (M.1 159 7)) (by decide +kernel) fr_12_122 lq_159 (congrArg Prod.fst sh_159) rfl (pn 5 rfl ?_)
  refine s_putfieldI (by decide +kernel) fr_12_119 lq_159 (congrArg Prod.fst sh_159) (fun q => by cases q) (Or.inl rfl) (pn 8 rfl ?_)
  exact h
theorem sgM_next_8 {d : Nat} {s : pm_S} {M : pm_M}  {Q : pm_S → pm_M → Prop}  (h : cI d yM_see [.ref 159, .int (M.1 159 6)] s M (fun r1 s1 M1 => (((r1 = 10) → wM_next d 8 [.ref 159, .null] [] s1 (pm_si M1 159 6 ((M1.1 159 6) + 1)) Q) ∧ (¬ (r1 = 10) → cI d yM_see [.ref 159, .int (M1.1 159 6)] s1 M1 (fun r2 s2 M2 => ((r2 = 32 → wM_next d 8 [.ref 159, .null] [] s2 (pm_si M2 159 6 ((M2.1 159 6) + 1)) Q) ∧ (¬ (r2 = 32) → ((((M2.1 159 6) < (M2.1 159 8)) → cI d yM_see [.ref 159, .int (M2.1 159 6)] s2 (pm_si M2 159 7 (M2.1 159 6)) (fun r3 s3 M3 => cI d yM_isSmall [.int r3] s3 M3 (fun r4 s4 M4 => (((r4 = 0) → cI d yM_see [.ref 159, .int (M4.1 159 6)] s4 M4 (fun r5 s5 M5 => cI d yM_isDigit [.int r5] s5 M5 (fun r6 s6 M6 => (((r6 = 0) → wM_next d 254 [.ref 159, .int 0] [] s6 (pm_si (pm_si M6 159 7 ((M6.1 159 7) + 1)) 159 9 25) Q) ∧ (¬ (r6 = 0) → wM_next d 146 [.ref 159, .null] [] s6 (pm_si M6 159 10 0) Q))))) ∧ (¬ (r4 = 0) → wM_next d 89 [.ref 159, .null] [] s4 M4 Q))))) ∧ (¬ ((M2.1 159 6) < (M2.1 159 8)) → Q s2 (pm_si (pm_si M2 159 7 (M2.1 159 6)) 159 9 24)))))))))) : wM_next d 8 [.ref 159, .null] [] s M Q := by
  refine s_aload_n (i := 0) (by decide +kernel) rfl (pn 9 rfl ?_)
  refine s_aload_n (i := 0) (by decide +kernel) rfl (pn 10 rfl ?_)
  refine s_getfield (v := .int (M.1 159 6)) (by decide +kernel) fr_12_119 lq_159 (congrArg Prod.fst sh_159) rfl (pn 13 rfl ?_)
  refine s_callvI [.int (M.1 159 6)] rfl (by decide +kernel) mv_12_125 np_190 (Nat.le_of_ble_eq_true rfl) lq_159 ((congrArg Prod.fst sh_159).trans oc_190) (cI_use h (fun r1 s1 M1 h => (pn 16 rfl ?_)))
  refine t_bipush (by decide +kernel) kb_10 (pn 18 rfl ?_)
  refine s_icmp_eq (off := 16) (tgt := 34) (by decide +kernel) rfl (fun c1 => ?_) (fun c1 => (pn 21 rfl ?_))
  · have h := h.1 c1
    refine s_aload_n (i := 0) (by decide +kernel) rfl (pn 35 rfl ?_)
    refine s_dup (by decide +kernel) rfl (pn 36 rfl ?_)
    refine s_getfield (v := .int (M1.1 159 6)) (by decide +kernel) fr_12_119 lq_159 (congrArg Prod.fst sh_159) rfl (pn 39 rfl ?_)
    refine t_iconst (by decide +kernel) ki_1 (pn 40 rfl ?_)
    refine s_iadd (by decide +kernel) (pn 41 rfl ?_)
    refine s_putfieldI (by decide +kernel) fr_12_119 lq_159 (congrArg Prod.fst sh_159) (fun q => by cases q) (Or.inl rfl) (pn 44 rfl ?_)
    refine s_goto (off := -36) (tgt := 8) (by decide +kernel) rfl ?_
    exact h
  · have h := h.2 c1
    refine s_aload_n (i := 0) (by decide +kernel) rfl (pn 22 rfl ?_)
    refine s_aload_n (i := 0) (by decide +kernel) rfl (pn 23 rfl ?_)
    refine s_getfield (v := .int (M1.1 159 6)) (by decide +kernel) fr_12_119 lq_159 (congrArg Prod.fst sh_159) rfl (pn 26 rfl ?_)
    refine s_callvI [.int (M1.1 159 6)] rfl (by decide +kernel) mv_12_125 np_190 (Nat.le_of_ble_eq_true rfl) lq_159 ((congrArg Prod.fst sh_159).trans oc_190) (cI_use h (fun r2 s2 M2 h => (pn 29 rfl ?_)))
    refine t_bipush (by decide +kernel) kb_32 (pn 31 rfl ?_)
    refine t_icmp_ne (off := 16) (tgt := 47) (by decide +kernel) rfl (fun c2 => ?_) (fun c2 => (pn 34 rfl ?_))
    · have h := h.2 c2
      refine s_aload_n (i := 0) (by decide +kernel) rfl (pn 48 rfl ?_)
      refine s_aload_n (i := 0) (by decide +kernel) rfl (pn 49 rfl ?_)
      refine s_getfield (v := .int (M2.1 159 6)) (by decide +kernel) fr_12_119 lq_159 (congrArg Prod.fst sh_159) rfl (pn 52 rfl ?_)
      refine s_putfieldI (by decide +kernel) fr_12_122 lq_159 (congrArg Prod.fst sh_159) (fun q => by cases q) (Or.inl rfl) (pn 55 rfl ?_)
      refine s_aload_n (i := 0) (by decide +kernel) rfl (pn 56 rfl ?_)
      refine s_getfield (v := .int (M2.1 159 6)) (by decide +kernel) fr_12_119 lq_159 (congrArg Prod.fst sh_159) rfl (pn 59 rfl ?_)
      refine s_aload_n (i := 0) (by decide +kernel) rfl (pn 60 rfl ?_)
      refine s_getfield (v := .int (M2.1 159 8)) (by decide +kernel) fr_12_104 lq_159 (congrArg Prod.fst sh_159) rfl (pn 63 rfl ?_)
      refine s_icmp_lt (off := 12) (tgt := 75) (by decide +kernel) rfl (fun c3 => ?_) (fun c3 => (pn 66 rfl ?_))
      · have h := h.1 c3
        refine s_aload_n (i := 0) (by decide +kernel) rfl (pn 76 rfl ?_)
        refine s_aload_n (i := 0) (by decide +kernel) rfl (pn 77 rfl ?_)
        refine s_getfield (v := .int (M2.1 159 6)) (by decide +kernel) fr_12_119 lq_159 (congrArg Prod.fst sh_159) rfl (pn 80 rfl ?_)
        refine s_callvI [.int (M2.1 159 6)] rfl (by decide +kernel) mv_12_125 np_190 (Nat.le_of_ble_eq_true rfl) lq_159 ((congrArg Prod.fst sh_159).trans oc_190) (cI_use h (fun r3 s3 M3 h => (pn 83 rfl ?_)))
        refine s_callsI [.int r3] rfl (by decide +kernel) ms_12_132 np_191 (Nat.le_of_ble_eq_true rfl) (cI_use h (fun r4 s4 M4 h => (pn 86 rfl ?_)))
        refine s_if_eq (off := 41) (tgt := 127) (by decide +kernel) rfl (fun c4 => ?_) (fun c4 => (pn 89 rfl ?_))
        · have h := h.1 c4
          refine s_aload_n (i := 0) (by decide +kernel) rfl (pn 128 rfl ?_)
          refine s_aload_n (i := 0) (by decide +kernel) rfl (pn 129 rfl ?_)
          refine s_getfield (v := .int (M4.1 159 6)) (by decide +kernel) fr_12_119 lq_159 (congrArg Prod.fst sh_159) rfl (pn 132 rfl ?_)
          refine s_callvI [.int (M4.1 159 6)] rfl (by decide +kernel) mv_12_125 np_190 (Nat.le_of_ble_eq_true rfl) lq_159 ((congrArg Prod.fst sh_159).trans oc_190) (cI_use h (fun r5 s5 M5 h => (pn 135 rfl ?_)))
          refine s_callsI [.int r5] rfl (by decide +kernel) ms_12_139 np_193 (Nat.le_of_ble_eq_true rfl) (cI_use h (fun r6 s6 M6 h => (pn 138 rfl ?_)))
          refine s_if_eq (off := 98) (tgt := 236) (by decide +kernel) rfl (fun c5 => ?_) (fun c5 => (pn 141 rfl ?_))
          · have h := h.1 c5
            refine s_aload_n (i := 0) (by decide +kernel) rfl (pn 237 rfl ?_)
            refine s_dup (by decide +kernel) rfl (pn 238 rfl ?_)
            refine s_getfield (v := .int (M6.1 159 7)) (by decide +kernel) fr_12_122 lq_159 (congrArg Prod.fst sh_159) rfl (pn 241 rfl ?_)
            refine t_iconst (by decide +kernel) ki_1 (pn 242 rfl ?_)
            refine s_iadd (by decide +kernel) (pn 243 rfl ?_)
            refine s_putfieldI (by decide +kernel) fr_12_122 lq_159 (congrArg Prod.fst sh_159) (fun q => by cases q) (Or.inl rfl) (pn 246 rfl ?_)
            refine s_aload_n (i := 0) (by decide +kernel) rfl (pn 247 rfl ?_)
            refine t_bipush (by decide +kernel) kb_25 (pn 249 rfl ?_)
            refine s_putfieldI (by decide +kernel) fr_12_129 lq_159 (congrArg Prod.fst sh_159) (fun q => by cases q) (Or.inl rfl) (pn 252 rfl ?_)
            refine t_iconst (by decide +kernel) ki_0 (pn 253 rfl ?_)
            refine s_istore_n (i := 1) (by decide +kernel) (Nat.le_of_ble_eq_true rfl) (pn 254 rfl (t_store (ls' := [.ref 159, .int 0]) rfl ?_))
            exact h
          · have h := h.2 c5
            refine s_aload_n (i := 0) (by decide +kernel) rfl (pn 142 rfl ?_)
            refine t_iconst (by decide +kernel) ki_0 (pn 143 rfl ?_)
            refine s_putfieldI (by decide +kernel) fr_12_142 lq_159 (congrArg Prod.fst sh_159) (fun q => by cases q) (Or.inl rfl) (pn 146 rfl ?_)
            exact h
        · have h := h.2 c4
          exact h
      · have h := h.2 c3
        refine s_aload_n (i := 0) (by decide +kernel) rfl (pn 67 rfl ?_)
        refine t_bipush (by decide +kernel) kb_24 (pn 69 rfl ?_)
        refine s_putfieldI (by decide +kernel) fr_12_129 lq_159 (congrArg Prod.fst sh_159) (fun q => by cases q) (Or.inl rfl) (pn 72 rfl ?_)
        refine s_goto (off := 222) (tgt := 294) (by decide +kernel) rfl ?_
        exact s_return (st := []) (by decide +kernel) rfl ⟨rfl, s2, rfl, h⟩
    · have h := h.1 c2
      refine s_aload_n (i := 0) (by decide +kernel) rfl (pn 35 rfl ?_)
      refine s_dup (by decide +kernel) rfl (pn 36 rfl ?_)
      refine s_getfield (v := .int (M2.1 159 6)) (by decide +kernel) fr_12_119 lq_159 (congrArg Prod.fst sh_159) rfl (pn 39 rfl ?_)
      refine t_iconst (by decide +kernel) ki_1 (pn 40 rfl ?_)
      refine s_iadd (by decide +kernel) (pn 41 rfl ?_)
      refine s_putfieldI (by decide +kernel) fr_12_119 lq_159 (congrArg Prod.fst sh_159) (fun q => by cases q) (Or.inl rfl) (pn 44 rfl ?_)
      refine s_goto (off := -36) (tgt := 8) (by decide +kernel) rfl ?_
      exact h
theorem sgM_next_254 {d : Nat} {s : pm_S} {M : pm_M} {l1 : Int32} {Q : pm_S → pm_M → Prop}  (h : (((12 ≤ l1) → Q s M) ∧ (¬ (12 ≤ l1) → cI d yM_see [.ref 159, .int (M.1 159 6)] s M (fun r1 s1 M1 => vp_in l1 12 ∧ ((r1 = (pm_sc 2 l1.toNatClampNeg) → wM_next d 254 [.ref 159, .int (l1 + 1)] [] s1 (pm_si M1 159 9 ((30 : Int32) + l1)) Q) ∧ (¬ (r1 = (pm_sc 2 l1.toNatClampNeg)) → wM_next d 254 [.ref 159, .int (l1 + 1)] [] s1 M1 Q)))))) : wM_next d 254 [.ref 159, .int l1] [] s M Q := by
  refine s_iload_n (i := 1) (by decide +kernel) rfl (pn 255 rfl ?_)
  refine s_ldc (by decide +kernel) kc_12_145 (pn 257 rfl ?_)
  refine t_strlen (j := 2) (v := 12) (by decide +kernel) sv_12_109 (by decide) (Nat.le_of_ble_eq_true rfl) (by decide) (pn 260 rfl ?_)
  refine s_icmp_ge (off := 34) (tgt := 294) (by decide +kernel) rfl (fun c1 => ?_) (fun c1 => (pn 263 rfl ?_))
  · have h := h.1 c1
    exact s_return (st := []) (by decide +kernel) rfl ⟨rfl, s, rfl, h⟩
  · have h := h.2 c1
    refine s_aload_n (i := 0) (by decide +kernel) rfl (pn 264 rfl ?_)
    refine s_aload_n (i := 0) (by decide +kernel) rfl (pn 265 rfl ?_)
    refine s_getfield (v := .int (M.1 159 6)) (by decide +kernel) fr_12_119 lq_159 (congrArg Prod.fst sh_159) rfl (pn 268 rfl ?_)
    refine s_callvI [.int (M.1 159 6)] rfl (by decide +kernel) mv_12_125 np_190 (Nat.le_of_ble_eq_true rfl) lq_159 ((congrArg Prod.fst sh_159).trans oc_190) (cI_use h (fun r1 s1 M1 h => (pn 271 rfl ?_)))
    refine s_ldc (by decide +kernel) kc_12_145 (pn 273 rfl ?_)
    refine s_iload_n (i := 1) (by decide +kernel) rfl (pn 274 rfl ?_)
    obtain ⟨b1, h⟩ := h
    refine s_charAt (j := 2) (by decide +kernel) sv_12_115 (by decide) b1 (Nat.le_of_ble_eq_true rfl) (pn 277 rfl ?_)
    refine t_icmp_ne (off := 11) (tgt := 288) (by decide +kernel) rfl (fun c2 => ?_) (fun c2 => (pn 280 rfl ?_))
    · have h := h.2 c2
      refine t_iinc (i := 1) (n := 1) (ls' := [.ref 159, .int (l1 + 1)]) (by decide +kernel) rfl (Nat.le_of_ble_eq_true rfl) kn_1 rfl (pn 291 rfl ?_)
      refine s_goto (off := -37) (tgt := 254) (by decide +kernel) rfl ?_
      exact h
    · have h := h.1 c2
      refine s_aload_n (i := 0) (by decide +kernel) rfl (pn 281 rfl ?_)
      refine t_bipush (by decide +kernel) kb_30 (pn 283 rfl ?_)
      refine s_iload_n (i := 1) (by decide +kernel) rfl (pn 284 rfl ?_)
      refine s_iadd (by decide +kernel) (pn 285 rfl ?_)
      refine s_putfieldI (by decide +kernel) fr_12_129 lq_159 (congrArg Prod.fst sh_159) (fun q => by cases q) (Or.inl rfl) (pn 288 rfl ?_)
      refine t_iinc (i := 1) (n := 1) (ls' := [.ref 159, .int (l1 + 1)]) (by decide +kernel) rfl (Nat.le_of_ble_eq_true rfl) kn_1 rfl (pn 291 rfl ?_)
      refine s_goto (off := -37) (tgt := 254) (by decide +kernel) rfl ?_
      exact h
theorem sgM_next_146 {d : Nat} {s : pm_S} {M : pm_M}  {Q : pm_S → pm_M → Prop}  (h : cI d yM_see [.ref 159, .int (M.1 159 7)] s M (fun r1 s1 M1 => cI d yM_isDigit [.int r1] s1 M1 (fun r2 s2 M2 => (((r2 = 0) → Q s2 (pm_si M2 159 9 ((if ((M2.1 159 7) - (M2.1 159 6)) ≤ 3 then 23 else 25) : Int32))) ∧ (¬ (r2 = 0) → (((3 ≤ ((M2.1 159 7) - (M2.1 159 6))) → wM_next d 146 [.ref 159, .null] [] s2 (pm_si M2 159 7 ((M2.1 159 7) + 1)) Q) ∧ (¬ (3 ≤ ((M2.1 159 7) - (M2.1 159 6))) → cI d yM_see [.ref 159, .int (M2.1 159 7)] s2 M2 (fun r3 s3 M3 => wM_next d 146 [.ref 159, .null] [] s3 (pm_si (pm_si M3 159 10 ((((10 : Int32) * (M2.1 159 10)) + r3) - 48)) 159 7 ((M3.1 159 7) + 1)) Q)))))))) : wM_next d 146 [.ref 159, .null] [] s M Q := by
  refine s_aload_n (i := 0) (by decide +kernel) rfl (pn 147 rfl ?_)
  refine s_aload_n (i := 0) (by decide +kernel) rfl (pn 148 rfl ?_)
  refine s_getfield (v := .int (M.1 159 7)) (by decide +kernel) fr_12_122 lq_159 (congrArg Prod.fst sh_159) rfl (pn 151 rfl ?_)
  refine s_callvI [.int (M.1 159 7)] rfl (by decide +kernel) mv_12_125 np_190 (Nat.le_of_ble_eq_true rfl) lq_159 ((congrArg Prod.fst sh_159).trans oc_190) (cI_use h (fun r1 s1 M1 h => (pn 154 rfl ?_)))
  refine s_callsI [.int r1] rfl (by decide +kernel) ms_12_139 np_193 (Nat.le_of_ble_eq_true rfl) (cI_use h (fun r2 s2 M2 h => (pn 157 rfl ?_)))
  refine s_if_eq (off := 52) (tgt := 209) (by decide +kernel) rfl (fun c1 => ?_) (fun c1 => (pn 160 rfl ?_))
  · have h := h.1 c1
    refine s_aload_n (i := 0) (by decide +kernel) rfl (pn 210 rfl ?_)
    refine s_aload_n (i := 0) (by decide +kernel) rfl (pn 211 rfl ?_)
    refine s_getfield (v := .int (M2.1 159 7)) (by decide +kernel) fr_12_122 lq_159 (congrArg Prod.fst sh_159) rfl (pn 214 rfl ?_)
    refine s_aload_n (i := 0) (by decide +kernel) rfl (pn 215 rfl ?_)
    refine s_getfield (v := .int (M2.1 159 6)) (by decide +kernel) fr_12_119 lq_159 (congrArg Prod.fst sh_159) rfl (pn 218 rfl ?_)
    refine s_isub (by decide +kernel) (pn 219 rfl ?_)
    refine t_iconst (by decide +kernel) ki_3 (pn 220 rfl ?_)
    have k1 : ∀ (z1 : Int32) (z1e : z1 = ((if ((M2.1 159 7) - (M2.1 159 6)) ≤ 3 then 23 else 25) : Int32)), wM_next d 230 [.ref 159, .null] [.int z1, .ref 159] s2 M2 Q := by
      intro z1 z1e
      subst z1e
      refine s_putfieldI (by decide +kernel) fr_12_129 lq_159 (congrArg Prod.fst sh_159) (fun q => by cases q) (Or.inl rfl) (pn 233 rfl ?_)
      refine s_goto (off := 61) (tgt := 294) (by decide +kernel) rfl ?_
      exact s_return (st := []) (by decide +kernel) rfl ⟨rfl, s2, rfl, h⟩
    refine s_icmp_le (off := 8) (tgt := 228) (by decide +kernel) rfl (fun c2 => ?_) (fun c2 => (pn 223 rfl ?_))
    · refine t_bipush (by decide +kernel) kb_23 (pn 230 rfl ?_)
      exact k1 _ (by simp only [if_pos c2])
    · refine t_bipush (by decide +kernel) kb_25 (pn 225 rfl ?_)
      refine s_goto (off := 5) (tgt := 230) (by decide +kernel) rfl ?_
      exact k1 _ (by simp only [if_neg c2])
  · have h := h.2 c1
    refine s_aload_n (i := 0) (by decide +kernel) rfl (pn 161 rfl ?_)
    refine s_getfield (v := .int (M2.1 159 7)) (by decide +kernel) fr_12_122 lq_159 (congrArg Prod.fst sh_159) rfl (pn 164 rfl ?_)
    refine s_aload_n (i := 0) (by decide +kernel) rfl (pn 165 rfl ?_)
    refine s_getfield (v := .int (M2.1 159 6)) (by decide +kernel) fr_12_119 lq_159 (congrArg Prod.fst sh_159) rfl (pn 168 rfl ?_)
    refine s_isub (by decide +kernel) (pn 169 rfl ?_)
    refine t_iconst (by decide +kernel) ki_3 (pn 170 rfl ?_)
    refine s_icmp_ge (off := 26) (tgt := 196) (by decide +kernel) rfl (fun c3 => ?_) (fun c3 => (pn 173 rfl ?_))
    · have h := h.1 c3
      refine s_aload_n (i := 0) (by decide +kernel) rfl (pn 197 rfl ?_)
      refine s_dup (by decide +kernel) rfl (pn 198 rfl ?_)
      refine s_getfield (v := .int (M2.1 159 7)) (by decide +kernel) fr_12_122 lq_159 (congrArg Prod.fst sh_159) rfl (pn 201 rfl ?_)
      refine t_iconst (by decide +kernel) ki_1 (pn 202 rfl ?_)
      refine s_iadd (by decide +kernel) (pn 203 rfl ?_)
      refine s_putfieldI (by decide +kernel) fr_12_122 lq_159 (congrArg Prod.fst sh_159) (fun q => by cases q) (Or.inl rfl) (pn 206 rfl ?_)
      refine s_goto (off := -60) (tgt := 146) (by decide +kernel) rfl ?_
      exact h
    · have h := h.2 c3
      refine s_aload_n (i := 0) (by decide +kernel) rfl (pn 174 rfl ?_)
      refine t_bipush (by decide +kernel) kb_10 (pn 176 rfl ?_)
      refine s_aload_n (i := 0) (by decide +kernel) rfl (pn 177 rfl ?_)
      refine s_getfield (v := .int (M2.1 159 10)) (by decide +kernel) fr_12_142 lq_159 (congrArg Prod.fst sh_159) rfl (pn 180 rfl ?_)
      refine s_imul (by decide +kernel) (pn 181 rfl ?_)
      refine s_aload_n (i := 0) (by decide +kernel) rfl (pn 182 rfl ?_)
      refine s_aload_n (i := 0) (by decide +kernel) rfl (pn 183 rfl ?_)
      refine s_getfield (v := .int (M2.1 159 7)) (by decide +kernel) fr_12_122 lq_159 (congrArg Prod.fst sh_159) rfl (pn 186 rfl ?_)
      refine s_callvI [.int (M2.1 159 7)] rfl (by decide +kernel) mv_12_125 np_190 (Nat.le_of_ble_eq_true rfl) lq_159 ((congrArg Prod.fst sh_159).trans oc_190) (cI_use h (fun r3 s3 M3 h => (pn 189 rfl ?_)))
      refine s_iadd (by decide +kernel) (pn 190 rfl ?_)
      refine t_bipush (by decide +kernel) kb_48 (pn 192 rfl ?_)
      refine s_isub (by decide +kernel) (pn 193 rfl ?_)
      refine s_putfieldI (by decide +kernel) fr_12_142 lq_159 (congrArg Prod.fst sh_159) (fun q => by cases q) (Or.inl rfl) (pn 196 rfl ?_)
      refine s_aload_n (i := 0) (by decide +kernel) rfl (pn 197 rfl ?_)
      refine s_dup (by decide +kernel) rfl (pn 198 rfl ?_)
      refine s_getfield (v := .int (M3.1 159 7)) (by decide +kernel) fr_12_122 lq_159 (congrArg Prod.fst sh_159) rfl (pn 201 rfl ?_)
      refine t_iconst (by decide +kernel) ki_1 (pn 202 rfl ?_)
      refine s_iadd (by decide +kernel) (pn 203 rfl ?_)
      refine s_putfieldI (by decide +kernel) fr_12_122 lq_159 (congrArg Prod.fst sh_159) (fun q => by cases q) (Or.inl rfl) (pn 206 rfl ?_)
      refine s_goto (off := -60) (tgt := 146) (by decide +kernel) rfl ?_
      exact h
theorem sgM_next_89 {d : Nat} {s : pm_S} {M : pm_M}  {Q : pm_S → pm_M → Prop}  (h : cI d yM_see [.ref 159, .int (M.1 159 7)] s M (fun r1 s1 M1 => cI d yM_isSmall [.int r1] s1 M1 (fun r2 s2 M2 => (((r2 = 0) → cI d yM_keyAt [.ref 159] s2 M2 (fun r3 s3 M3 => Q s3 (pm_si M3 159 9 r3))) ∧ (¬ (r2 = 0) → wM_next d 89 [.ref 159, .null] [] s2 (pm_si M2 159 7 ((M2.1 159 7) + 1)) Q))))) : wM_next d 89 [.ref 159, .null] [] s M Q := by
  refine s_aload_n (i := 0) (by decide +kernel) rfl (pn 90 rfl ?_)
  refine s_aload_n (i := 0) (by decide +kernel) rfl (pn 91 rfl ?_)
  refine s_getfield (v := .int (M.1 159 7)) (by decide +kernel) fr_12_122 lq_159 (congrArg Prod.fst sh_159) rfl (pn 94 rfl ?_)
  refine s_callvI [.int (M.1 159 7)] rfl (by decide +kernel) mv_12_125 np_190 (Nat.le_of_ble_eq_true rfl) lq_159 ((congrArg Prod.fst sh_159).trans oc_190) (cI_use h (fun r1 s1 M1 h => (pn 97 rfl ?_)))
  refine s_callsI [.int r1] rfl (by decide +kernel) ms_12_132 np_191 (Nat.le_of_ble_eq_true rfl) (cI_use h (fun r2 s2 M2 h => (pn 100 rfl ?_)))
  refine s_if_eq (off := 16) (tgt := 116) (by decide +kernel) rfl (fun c1 => ?_) (fun c1 => (pn 103 rfl ?_))
  · have h := h.1 c1
    refine s_aload_n (i := 0) (by decide +kernel) rfl (pn 117 rfl ?_)
    refine s_aload_n (i := 0) (by decide +kernel) rfl (pn 118 rfl ?_)
    refine s_callvI [] rfl (by decide +kernel) mv_12_136 np_192 (Nat.le_of_ble_eq_true rfl) lq_159 ((congrArg Prod.fst sh_159).trans oc_192) (cI_use h (fun r3 s3 M3 h => (pn 121 rfl ?_)))
    refine s_putfieldI (by decide +kernel) fr_12_129 lq_159 (congrArg Prod.fst sh_159) (fun q => by cases q) (Or.inl rfl) (pn 124 rfl ?_)
    refine s_goto (off := 170) (tgt := 294) (by decide +kernel) rfl ?_
    exact s_return (st := []) (by decide +kernel) rfl ⟨rfl, s3, rfl, h⟩
  · have h := h.2 c1
    refine s_aload_n (i := 0) (by decide +kernel) rfl (pn 104 rfl ?_)
    refine s_dup (by decide +kernel) rfl (pn 105 rfl ?_)
    refine s_getfield (v := .int (M2.1 159 7)) (by decide +kernel) fr_12_122 lq_159 (congrArg Prod.fst sh_159) rfl (pn 108 rfl ?_)
    refine t_iconst (by decide +kernel) ki_1 (pn 109 rfl ?_)
    refine s_iadd (by decide +kernel) (pn 110 rfl ?_)
    refine s_putfieldI (by decide +kernel) fr_12_122 lq_159 (congrArg Prod.fst sh_159) (fun q => by cases q) (Or.inl rfl) (pn 113 rfl ?_)
    refine s_goto (off := -24) (tgt := 89) (by decide +kernel) rfl ?_
    exact h
abbrev wM_see (d pc : Nat) (ls st : List Value) (s : pm_S) (M : pm_M) (Q : Int32 → pm_S → pm_M → Prop) : Prop := wI d prog_14_method_6_code 12 (some .int) false pc ls st s M Q
theorem enM_see {d : Nat} {s : pm_S} {M : pm_M} {x1 : Int32} {Q : Int32 → pm_S → pm_M → Prop}  (h : (¬ ((M.1 159 8) ≤ x1) → vp_in x1 900) ∧ Q ((if (M.1 159 8) ≤ x1 then (-1) else (M.1 162 x1.toNatClampNeg)) : Int32) s M) : cI (d + 1) yM_see [.ref 159, .int x1] s M Q := by
  refine pm_toI (by decide) (Nat.le_of_ble_eq_true rfl) ?_
  show wM_see d 0 [.ref 159, .int x1] [] s M Q
  refine s_iload_n (i := 1) (by decide +kernel) rfl (pn 1 rfl ?_)
  refine s_aload_n (i := 0) (by decide +kernel) rfl (pn 2 rfl ?_)
  refine s_getfield (v := .int (M.1 159 8)) (by decide +kernel) fr_12_104 lq_159 (congrArg Prod.fst sh_159) rfl (pn 5 rfl ?_)
  obtain ⟨b1, h⟩ := h
  have k1 : ∀ (z1 : Int32) (z1e : z1 = ((if (M.1 159 8) ≤ x1 then (-1) else (M.1 162 x1.toNatClampNeg)) : Int32)), wM_see d 18 [.ref 159, .int x1] [.int z1] s M Q := by
    intro z1 z1e
    subst z1e
    exact s_ireturn (st := []) (by decide +kernel) (Or.inl rfl) ⟨_, rfl, s, rfl, h⟩
  refine s_icmp_ge (off := 12) (tgt := 17) (by decide +kernel) rfl (fun c1 => ?_) (fun c1 => (pn 8 rfl ?_))
  · refine t_iconst (by decide +kernel) ki_m1 (pn 18 rfl ?_)
    exact k1 _ (by simp only [if_pos c1])
  · refine s_aload_n (i := 0) (by decide +kernel) rfl (pn 9 rfl ?_)
    refine s_getfield (v := .ref 162) (by decide +kernel) fr_12_21 lq_159 (congrArg Prod.fst sh_159) (fv_ref pf_159_3) (pn 12 rfl ?_)
    refine s_iload_n (i := 1) (by decide +kernel) rfl (pn 13 rfl ?_)
    refine t_iaload (v := M.1 162 x1.toNatClampNeg) (by decide +kernel) ⟨Or.inl lq_162, congrArg Prod.fst sh_162⟩ (al_in sh_162 (b1 c1)) rfl (pn 14 rfl ?_)
    refine s_goto (off := 4) (tgt := 18) (by decide +kernel) rfl ?_
    exact k1 _ (by simp only [if_neg c1])
abbrev wM_isSmall (d pc : Nat) (ls st : List Value) (s : pm_S) (M : pm_M) (Q : Int32 → pm_S → pm_M → Prop) : Prop := wI d prog_14_method_7_code 12 (some .boolean) false pc ls st s M Q
theorem enM_isSmall {d : Nat} {s : pm_S} {M : pm_M} {x1 : Int32} {Q : Int32 → pm_S → pm_M → Prop}  (h : Q ((if x1 < 97 then 0 else (if 122 < x1 then 0 else 1)) : Int32) s M) : cI (d + 1) yM_isSmall [.int x1] s M Q := by
  refine pm_toI (by decide) (Nat.le_of_ble_eq_true rfl) ?_
  show wM_isSmall d 0 [.int x1] [] s M Q
  refine s_iload_n (i := 0) (by decide +kernel) rfl (pn 1 rfl ?_)
  refine t_bipush (by decide +kernel) kb_97 (pn 3 rfl ?_)
  have k1 : ∀ (z1 : Int32) (z1e : z1 = ((if x1 < 97 then 0 else (if 122 < x1 then 0 else 1)) : Int32)), wM_isSmall d 17 [.int x1] [.int z1] s M Q := by
    intro z1 z1e
    subst z1e
    exact s_ireturn (st := []) (by decide +kernel) (Or.inr ⟨rfl, (or01 (Or.inl rfl) (or01 (Or.inl rfl) (Or.inr rfl)))⟩) ⟨_, rfl, s, rfl, h⟩
  refine s_icmp_lt (off := 13) (tgt := 16) (by decide +kernel) rfl (fun c1 => ?_) (fun c1 => (pn 6 rfl ?_))
  · refine t_iconst (by decide +kernel) ki_0 (pn 17 rfl ?_)
    exact k1 _ (by simp only [if_pos c1])
  · refine s_iload_n (i := 0) (by decide +kernel) rfl (pn 7 rfl ?_)
    refine t_bipush (by decide +kernel) kb_122 (pn 9 rfl ?_)
    refine s_icmp_gt (off := 7) (tgt := 16) (by decide +kernel) rfl (fun c2 => ?_) (fun c2 => (pn 12 rfl ?_))
    · refine t_iconst (by decide +kernel) ki_0 (pn 17 rfl ?_)
      exact k1 _ (by simp only [if_neg c1, if_pos c2])
    · refine t_iconst (by decide +kernel) ki_1 (pn 13 rfl ?_)
      refine s_goto (off := 4) (tgt := 17) (by decide +kernel) rfl ?_
      exact k1 _ (by simp only [if_neg c1, if_neg c2])
abbrev wM_keyAt (d pc : Nat) (ls st : List Value) (s : pm_S) (M : pm_M) (Q : Int32 → pm_S → pm_M → Prop) : Prop := wI d prog_14_method_9_code 12 (some .int) false pc ls st s M Q
theorem enM_keyAt {d : Nat} {s : pm_S} {M : pm_M}  {Q : Int32 → pm_S → pm_M → Prop}  (h : wM_keyAt d 4 [.ref 159, .int 0, .int 1, .null] [] s M Q) : cI (d + 1) yM_keyAt [.ref 159] s M Q := by
  refine pm_toI (by decide) (Nat.le_of_ble_eq_true rfl) ?_
  show wM_keyAt d 0 [.ref 159, .null, .null, .null] [] s M Q
  refine t_iconst (by decide +kernel) ki_0 (pn 1 rfl ?_)
  refine s_istore_n (i := 1) (by decide +kernel) (Nat.le_of_ble_eq_true rfl) (pn 2 rfl (t_store (ls' := [.ref 159, .int 0, .null, .null]) rfl ?_))
  refine t_iconst (by decide +kernel) ki_1 (pn 3 rfl ?_)
  refine s_istore_n (i := 2) (by decide +kernel) (Nat.le_of_ble_eq_true rfl) (pn 4 rfl (t_store (ls' := [.ref 159, .int 0, .int 1, .null]) rfl ?_))
  exact h
theorem sgM_keyAt_4 {d : Nat} {s : pm_S} {M : pm_M} {l1 : Int32} {l2 : Int32} {Q : Int32 → pm_S → pm_M → Prop}  (h : (((105 ≤ l2) → Q 22 s M) ∧ (¬ (105 ≤ l2) → wM_keyAt d 15 [.ref 159, .int l1, .int l2, .int 0] [] s M Q))) : wM_keyAt d 4 [.ref 159, .int l1, .int l2, .null] [] s M Q := by
  refine s_iload_n (i := 2) (by decide +kernel) rfl (pn 5 rfl ?_)
  refine s_ldc (by decide +kernel) kc_12_107 (pn 7 rfl ?_)
  refine t_strlen (j := 1) (v := 105) (by decide +kernel) sv_12_109 (by decide) (Nat.le_of_ble_eq_true rfl) (by decide) (pn 10 rfl ?_)
  refine s_icmp_ge (off := 113) (tgt := 123) (by decide +kernel) rfl (fun c1 => ?_) (fun c1 => (pn 13 rfl ?_))
  · have h := h.1 c1
    refine t_bipush (by decide +kernel) kb_22 (pn 125 rfl ?_)
    exact s_ireturn (st := []) (by decide +kernel) (Or.inl rfl) ⟨_, rfl, s, rfl, h⟩
  · have h := h.2 c1
    refine t_iconst (by decide +kernel) ki_0 (pn 14 rfl ?_)
    refine s_istore_n (i := 3) (by decide +kernel) (Nat.le_of_ble_eq_true rfl) (pn 15 rfl (t_store (ls' := [.ref 159, .int l1, .int l2, .int 0]) rfl ?_))
    exact h
theorem sgM_keyAt_15 {d : Nat} {s : pm_S} {M : pm_M} {l1 : Int32} {l2 : Int32} {l3 : Int32} {Q : Int32 → pm_S → pm_M → Prop}  (h : vp_in (l2 + l3) 105 ∧ ((((pm_sc 1 (l2 + l3).toNatClampNeg) = 32) → wM_keyAt d 69 [.ref 159, .int l1, .int l2, .int l3] [] s M Q) ∧ (¬ ((pm_sc 1 (l2 + l3).toNatClampNeg) = 32) → ((((M.1 159 7) ≤ ((M.1 159 6) + l3)) → wM_keyAt d 69 [.ref 159, .int l1, .int l2, .int l3] [] s M Q) ∧ (¬ ((M.1 159 7) ≤ ((M.1 159 6) + l3)) → vp_in ((M.1 159 6) + l3) 900 ∧ vp_in (l2 + l3) 105 ∧ (((M.1 162 ((M.1 159 6) + l3).toNatClampNeg) = (pm_sc 1 (l2 + l3).toNatClampNeg) → wM_keyAt d 15 [.ref 159, .int l1, .int l2, .int (l3 + 1)] [] s M Q) ∧ (¬ ((M.1 162 ((M.1 159 6) + l3).toNatClampNeg) = (pm_sc 1 (l2 + l3).toNatClampNeg)) → wM_keyAt d 69 [.ref 159, .int l1, .int l2, .int l3] [] s M Q))))))) : wM_keyAt d 15 [.ref 159, .int l1, .int l2, .int l3] [] s M Q := by
  refine s_ldc (by decide +kernel) kc_12_107 (pn 17 rfl ?_)
  refine s_iload_n (i := 2) (by decide +kernel) rfl (pn 18 rfl ?_)
  refine s_iload_n (i := 3) (by decide +kernel) rfl (pn 19 rfl ?_)
  refine s_iadd (by decide +kernel) (pn 20 rfl ?_)
  obtain ⟨b1, h⟩ := h
  refine s_charAt (j := 1) (by decide +kernel) sv_12_115 (by decide) b1 (Nat.le_of_ble_eq_true rfl) (pn 23 rfl ?_)
  refine t_bipush (by decide +kernel) kb_32 (pn 25 rfl ?_)
  refine s_icmp_eq (off := 44) (tgt := 69) (by decide +kernel) rfl (fun c1 => ?_) (fun c1 => (pn 28 rfl ?_))
  · have h := h.1 c1
    exact h
  · have h := h.2 c1
    refine s_aload_n (i := 0) (by decide +kernel) rfl (pn 29 rfl ?_)
    refine s_getfield (v := .int (M.1 159 6)) (by decide +kernel) fr_12_119 lq_159 (congrArg Prod.fst sh_159) rfl (pn 32 rfl ?_)
    refine s_iload_n (i := 3) (by decide +kernel) rfl (pn 33 rfl ?_)
    refine s_iadd (by decide +kernel) (pn 34 rfl ?_)
    refine s_aload_n (i := 0) (by decide +kernel) rfl (pn 35 rfl ?_)
    refine s_getfield (v := .int (M.1 159 7)) (by decide +kernel) fr_12_122 lq_159 (congrArg Prod.fst sh_159) rfl (pn 38 rfl ?_)
    refine s_icmp_ge (off := 31) (tgt := 69) (by decide +kernel) rfl (fun c3 => ?_) (fun c3 => (pn 41 rfl ?_))
    · have h := h.1 c3
      exact h
    · have h := h.2 c3
      refine s_aload_n (i := 0) (by decide +kernel) rfl (pn 42 rfl ?_)
      refine s_getfield (v := .ref 162) (by decide +kernel) fr_12_21 lq_159 (congrArg Prod.fst sh_159) (fv_ref pf_159_3) (pn 45 rfl ?_)
      refine s_aload_n (i := 0) (by decide +kernel) rfl (pn 46 rfl ?_)
      refine s_getfield (v := .int (M.1 159 6)) (by decide +kernel) fr_12_119 lq_159 (congrArg Prod.fst sh_159) rfl (pn 49 rfl ?_)
      refine s_iload_n (i := 3) (by decide +kernel) rfl (pn 50 rfl ?_)
      refine s_iadd (by decide +kernel) (pn 51 rfl ?_)
      obtain ⟨b2, h⟩ := h
      refine t_iaload (v := M.1 162 ((M.1 159 6) + l3).toNatClampNeg) (by decide +kernel) ⟨Or.inl lq_162, congrArg Prod.fst sh_162⟩ (al_in sh_162 b2) rfl (pn 52 rfl ?_)
      refine s_ldc (by decide +kernel) kc_12_107 (pn 54 rfl ?_)
      refine s_iload_n (i := 2) (by decide +kernel) rfl (pn 55 rfl ?_)
      refine s_iload_n (i := 3) (by decide +kernel) rfl (pn 56 rfl ?_)
      refine s_iadd (by decide +kernel) (pn 57 rfl ?_)
      obtain ⟨b3, h⟩ := h
      refine s_charAt (j := 1) (by decide +kernel) sv_12_115 (by decide) b3 (Nat.le_of_ble_eq_true rfl) (pn 60 rfl ?_)
      refine t_icmp_ne (off := 9) (tgt := 69) (by decide +kernel) rfl (fun c4 => ?_) (fun c4 => (pn 63 rfl ?_))
      · have h := h.2 c4
        exact h
      · have h := h.1 c4
        refine t_iinc (i := 3) (n := 1) (ls' := [.ref 159, .int l1, .int l2, .int (l3 + 1)]) (by decide +kernel) rfl (Nat.le_of_ble_eq_true rfl) kn_1 rfl (pn 66 rfl ?_)
        refine s_goto (off := -51) (tgt := 15) (by decide +kernel) rfl ?_
        exact h
theorem sgM_keyAt_69 {d : Nat} {s : pm_S} {M : pm_M} {l1 : Int32} {l2 : Int32} {l3 : Int32} {Q : Int32 → pm_S → pm_M → Prop}  (h : vp_in (l2 + l3) 105 ∧ (((pm_sc 1 (l2 + l3).toNatClampNeg) = 32 → ((((M.1 159 6) + l3) = (M.1 159 7) → Q l1 s M) ∧ (¬ (((M.1 159 6) + l3) = (M.1 159 7)) → wM_keyAt d 97 [.ref 159, .int l1, .int l2, .null] [] s M Q))) ∧ (¬ ((pm_sc 1 (l2 + l3).toNatClampNeg) = 32) → wM_keyAt d 97 [.ref 159, .int l1, .int l2, .null] [] s M Q))) : wM_keyAt d 69 [.ref 159, .int l1, .int l2, .int l3] [] s M Q := by
  refine s_ldc (by decide +kernel) kc_12_107 (pn 71 rfl ?_)
  refine s_iload_n (i := 2) (by decide +kernel) rfl (pn 72 rfl ?_)
  refine s_iload_n (i := 3) (by decide +kernel) rfl (pn 73 rfl ?_)
  refine s_iadd (by decide +kernel) (pn 74 rfl ?_)
  obtain ⟨b1, h⟩ := h
  refine s_charAt (j := 1) (by decide +kernel) sv_12_115 (by decide) b1 (Nat.le_of_ble_eq_true rfl) (pn 77 rfl ?_)
  refine t_bipush (by decide +kernel) kb_32 (pn 79 rfl ?_)
  refine t_icmp_ne (off := 18) (tgt := 97) (by decide +kernel) rfl (fun c1 => ?_) (fun c1 => (pn 82 rfl ?_))
  · have h := h.2 c1
    exact pm_weak [.ref 159, .int l1, .int l2, .null] (pm_le_cons (Or.inr rfl) (pm_le_cons (Or.inr rfl) (pm_le_cons (Or.inr rfl) (pm_le_cons (Or.inl rfl) pm_le_nil)))) h
  · have h := h.1 c1
    refine s_aload_n (i := 0) (by decide +kernel) rfl (pn 83 rfl ?_)
    refine s_getfield (v := .int (M.1 159 6)) (by decide +kernel) fr_12_119 lq_159 (congrArg Prod.fst sh_159) rfl (pn 86 rfl ?_)
    refine s_iload_n (i := 3) (by decide +kernel) rfl (pn 87 rfl ?_)
    refine s_iadd (by decide +kernel) (pn 88 rfl ?_)
    refine s_aload_n (i := 0) (by decide +kernel) rfl (pn 89 rfl ?_)
    refine s_getfield (v := .int (M.1 159 7)) (by decide +kernel) fr_12_122 lq_159 (congrArg Prod.fst sh_159) rfl (pn 92 rfl ?_)
    refine t_icmp_ne (off := 5) (tgt := 97) (by decide +kernel) rfl (fun c2 => ?_) (fun c2 => (pn 95 rfl ?_))
    · have h := h.2 c2
      exact pm_weak [.ref 159, .int l1, .int l2, .null] (pm_le_cons (Or.inr rfl) (pm_le_cons (Or.inr rfl) (pm_le_cons (Or.inr rfl) (pm_le_cons (Or.inl rfl) pm_le_nil)))) h
    · have h := h.1 c2
      refine s_iload_n (i := 1) (by decide +kernel) rfl (pn 96 rfl ?_)
      exact s_ireturn (st := []) (by decide +kernel) (Or.inl rfl) ⟨_, rfl, s, rfl, h⟩
theorem sgM_keyAt_97 {d : Nat} {s : pm_S} {M : pm_M} {l1 : Int32} {l2 : Int32} {Q : Int32 → pm_S → pm_M → Prop}  (h : vp_in l2 105 ∧ ((((pm_sc 1 l2.toNatClampNeg) = 32) → wM_keyAt d 4 [.ref 159, .int (l1 + 1), .int (l2 + 1), .null] [] s M Q) ∧ (¬ ((pm_sc 1 l2.toNatClampNeg) = 32) → wM_keyAt d 97 [.ref 159, .int l1, .int (l2 + 1), .null] [] s M Q))) : wM_keyAt d 97 [.ref 159, .int l1, .int l2, .null] [] s M Q := by
  refine s_ldc (by decide +kernel) kc_12_107 (pn 99 rfl ?_)
  refine s_iload_n (i := 2) (by decide +kernel) rfl (pn 100 rfl ?_)
  obtain ⟨b1, h⟩ := h
  refine s_charAt (j := 1) (by decide +kernel) sv_12_115 (by decide) b1 (Nat.le_of_ble_eq_true rfl) (pn 103 rfl ?_)
  refine t_bipush (by decide +kernel) kb_32 (pn 105 rfl ?_)
  refine s_icmp_eq (off := 9) (tgt := 114) (by decide +kernel) rfl (fun c1 => ?_) (fun c1 => (pn 108 rfl ?_))
  · have h := h.1 c1
    refine t_iinc (i := 2) (n := 1) (ls' := [.ref 159, .int l1, .int (l2 + 1), .null]) (by decide +kernel) rfl (Nat.le_of_ble_eq_true rfl) kn_1 rfl (pn 117 rfl ?_)
    refine t_iinc (i := 1) (n := 1) (ls' := [.ref 159, .int (l1 + 1), .int (l2 + 1), .null]) (by decide +kernel) rfl (Nat.le_of_ble_eq_true rfl) kn_1 rfl (pn 120 rfl ?_)
    refine s_goto (off := -116) (tgt := 4) (by decide +kernel) rfl ?_
    exact h
  · have h := h.2 c1
    refine t_iinc (i := 2) (n := 1) (ls' := [.ref 159, .int l1, .int (l2 + 1), .null]) (by decide +kernel) rfl (Nat.le_of_ble_eq_true rfl) kn_1 rfl (pn 111 rfl ?_)
    refine s_goto (off := -14) (tgt := 97) (by decide +kernel) rfl ?_
    exact h
abbrev wM_isDigit (d pc : Nat) (ls st : List Value) (s : pm_S) (M : pm_M) (Q : Int32 → pm_S → pm_M → Prop) : Prop := wI d prog_14_method_8_code 12 (some .boolean) false pc ls st s M Q
theorem enM_isDigit {d : Nat} {s : pm_S} {M : pm_M} {x1 : Int32} {Q : Int32 → pm_S → pm_M → Prop}  (h : Q ((if x1 < 48 then 0 else (if 57 < x1 then 0 else 1)) : Int32) s M) : cI (d + 1) yM_isDigit [.int x1] s M Q := by
  refine pm_toI (by decide) (Nat.le_of_ble_eq_true rfl) ?_
  show wM_isDigit d 0 [.int x1] [] s M Q
  refine s_iload_n (i := 0) (by decide +kernel) rfl (pn 1 rfl ?_)
  refine t_bipush (by decide +kernel) kb_48 (pn 3 rfl ?_)
  have k1 : ∀ (z1 : Int32) (z1e : z1 = ((if x1 < 48 then 0 else (if 57 < x1 then 0 else 1)) : Int32)), wM_isDigit d 17 [.int x1] [.int z1] s M Q := by
    intro z1 z1e
    subst z1e
    exact s_ireturn (st := []) (by decide +kernel) (Or.inr ⟨rfl, (or01 (Or.inl rfl) (or01 (Or.inl rfl) (Or.inr rfl)))⟩) ⟨_, rfl, s, rfl, h⟩
  refine s_icmp_lt (off := 13) (tgt := 16) (by decide +kernel) rfl (fun c1 => ?_) (fun c1 => (pn 6 rfl ?_))
  · refine t_iconst (by decide +kernel) ki_0 (pn 17 rfl ?_)
    exact k1 _ (by simp only [if_pos c1])
  · refine s_iload_n (i := 0) (by decide +kernel) rfl (pn 7 rfl ?_)
    refine t_bipush (by decide +kernel) kb_57 (pn 9 rfl ?_)
    refine s_icmp_gt (off := 7) (tgt := 16) (by decide +kernel) rfl (fun c2 => ?_) (fun c2 => (pn 12 rfl ?_))
    · refine t_iconst (by decide +kernel) ki_0 (pn 17 rfl ?_)
      exact k1 _ (by simp only [if_neg c1, if_pos c2])
    · refine t_iconst (by decide +kernel) ki_1 (pn 13 rfl ?_)
      refine s_goto (off := 4) (tgt := 17) (by decide +kernel) rfl ?_
      exact k1 _ (by simp only [if_neg c1, if_neg c2])
abbrev wM_eats (d pc : Nat) (ls st : List Value) (s : pm_S) (M : pm_M) (Q : Int32 → pm_S → pm_M → Prop) : Prop := wI d prog_14_method_13_code 12 (some .boolean) false pc ls st s M Q
theorem enM_eats {d : Nat} {s : pm_S} {M : pm_M} {x1 : Int32} {Q : Int32 → pm_S → pm_M → Prop}  (h : cI d yM_is [.ref 159, .int x1] s M (fun r1 s1 M1 => ((r1 = 0 → Q 0 s1 M1) ∧ (¬ (r1 = 0) → cV d yM_next [.ref 159] s1 M1 (fun s2 M2 => Q 1 s2 M2))))) : cI (d + 1) yM_eats [.ref 159, .int x1] s M Q := by
  refine pm_toI (by decide) (Nat.le_of_ble_eq_true rfl) ?_
  show wM_eats d 0 [.ref 159, .int x1] [] s M Q
  refine s_aload_n (i := 0) (by decide +kernel) rfl (pn 1 rfl ?_)
  refine s_iload_n (i := 1) (by decide +kernel) rfl (pn 2 rfl ?_)
  refine s_callvI [.int x1] rfl (by decide +kernel) mv_12_153 np_195 (Nat.le_of_ble_eq_true rfl) lq_159 ((congrArg Prod.fst sh_159).trans oc_195) (cI_use h (fun r1 s1 M1 h => (pn 5 rfl ?_)))
  refine t_if_ne (off := 5) (tgt := 10) (by decide +kernel) rfl (fun c1 => ?_) (fun c1 => (pn 8 rfl ?_))
  · have h := h.2 c1
    refine s_aload_n (i := 0) (by decide +kernel) rfl (pn 11 rfl ?_)
    refine s_callvV [] rfl (by decide +kernel) mv_12_156 np_189 (Nat.le_of_ble_eq_true rfl) lq_159 ((congrArg Prod.fst sh_159).trans oc_189) (cV_use h (fun s2 M2 h => (pn 14 rfl ?_)))
    refine t_iconst (by decide +kernel) ki_1 (pn 15 rfl ?_)
    exact s_ireturn (st := []) (by decide +kernel) (Or.inr ⟨rfl, (Or.inr rfl)⟩) ⟨_, rfl, s2, rfl, h⟩
  · have h := h.1 c1
    refine t_iconst (by decide +kernel) ki_0 (pn 9 rfl ?_)
    exact s_ireturn (st := []) (by decide +kernel) (Or.inr ⟨rfl, (Or.inl rfl)⟩) ⟨_, rfl, s1, rfl, h⟩
abbrev wM_is (d pc : Nat) (ls st : List Value) (s : pm_S) (M : pm_M) (Q : Int32 → pm_S → pm_M → Prop) : Prop := wI d prog_14_method_12_code 12 (some .boolean) false pc ls st s M Q
theorem enM_is {d : Nat} {s : pm_S} {M : pm_M} {x1 : Int32} {Q : Int32 → pm_S → pm_M → Prop}  (h : Q ((if (M.1 159 11) = 0 then (if (M.1 159 9) = x1 then 1 else 0) else 0) : Int32) s M) : cI (d + 1) yM_is [.ref 159, .int x1] s M Q := by
  refine pm_toI (by decide) (Nat.le_of_ble_eq_true rfl) ?_
  show wM_is d 0 [.ref 159, .int x1] [] s M Q
  refine s_aload_n (i := 0) (by decide +kernel) rfl (pn 1 rfl ?_)
  refine s_getfield (v := .int (M.1 159 11)) (by decide +kernel) fr_12_147 lq_159 (congrArg Prod.fst sh_159) rfl (pn 4 rfl ?_)
  have k1 : ∀ (z1 : Int32) (z1e : z1 = ((if (M.1 159 11) = 0 then (if (M.1 159 9) = x1 then 1 else 0) else 0) : Int32)), wM_is d 20 [.ref 159, .int x1] [.int z1] s M Q := by
    intro z1 z1e
    subst z1e
    exact s_ireturn (st := []) (by decide +kernel) (Or.inr ⟨rfl, (or01 (or01 (Or.inr rfl) (Or.inl rfl)) (Or.inl rfl))⟩) ⟨_, rfl, s, rfl, h⟩
  refine t_if_ne (off := 15) (tgt := 19) (by decide +kernel) rfl (fun c1 => ?_) (fun c1 => (pn 7 rfl ?_))
  · refine t_iconst (by decide +kernel) ki_0 (pn 20 rfl ?_)
    exact k1 _ (by simp only [if_neg c1])
  · refine s_aload_n (i := 0) (by decide +kernel) rfl (pn 8 rfl ?_)
    refine s_getfield (v := .int (M.1 159 9)) (by decide +kernel) fr_12_129 lq_159 (congrArg Prod.fst sh_159) rfl (pn 11 rfl ?_)
    refine s_iload_n (i := 1) (by decide +kernel) rfl (pn 12 rfl ?_)
    refine t_icmp_ne (off := 7) (tgt := 19) (by decide +kernel) rfl (fun c2 => ?_) (fun c2 => (pn 15 rfl ?_))
    · refine t_iconst (by decide +kernel) ki_0 (pn 20 rfl ?_)
      exact k1 _ (by simp only [if_pos c1, if_neg c2])
    · refine t_iconst (by decide +kernel) ki_1 (pn 16 rfl ?_)
      refine s_goto (off := 4) (tgt := 20) (by decide +kernel) rfl ?_
      exact k1 _ (by simp only [if_pos c1, if_pos c2])
abbrev wM_fails (d pc : Nat) (ls st : List Value) (s : pm_S) (M : pm_M) (Q : pm_S → pm_M → Prop) : Prop := wV d prog_14_method_11_code 12 none false pc ls st s M Q
theorem enM_fails {d : Nat} {s : pm_S} {M : pm_M} {x1 : Int32} {Q : pm_S → pm_M → Prop}  (h : ((((M.1 159 11) = 0) → Q s (pm_si (pm_si M 159 11 ((if (M.1 159 9) = 25 then 1 else x1) : Int32)) 159 12 (M.1 159 6))) ∧ (¬ ((M.1 159 11) = 0) → Q s M))) : cV (d + 1) yM_fails [.ref 159, .int x1] s M Q := by
  refine pm_toV (by decide) (Nat.le_of_ble_eq_true rfl) ?_
  show wM_fails d 0 [.ref 159, .int x1] [] s M Q
  refine s_aload_n (i := 0) (by decide +kernel) rfl (pn 1 rfl ?_)
  refine s_getfield (v := .int (M.1 159 11)) (by decide +kernel) fr_12_147 lq_159 (congrArg Prod.fst sh_159) rfl (pn 4 rfl ?_)
  refine s_if_eq (off := 4) (tgt := 8) (by decide +kernel) rfl (fun c1 => ?_) (fun c1 => (pn 7 rfl ?_))
  · have h := h.1 c1
    refine s_aload_n (i := 0) (by decide +kernel) rfl (pn 9 rfl ?_)
    refine s_aload_n (i := 0) (by decide +kernel) rfl (pn 10 rfl ?_)
    refine s_getfield (v := .int (M.1 159 9)) (by decide +kernel) fr_12_129 lq_159 (congrArg Prod.fst sh_159) rfl (pn 13 rfl ?_)
    refine t_bipush (by decide +kernel) kb_25 (pn 15 rfl ?_)
    have k1 : ∀ (z1 : Int32) (z1e : z1 = ((if (M.1 159 9) = 25 then 1 else x1) : Int32)), wM_fails d 23 [.ref 159, .int x1] [.int z1, .ref 159] s M Q := by
      intro z1 z1e
      subst z1e
      refine s_putfieldI (by decide +kernel) fr_12_147 lq_159 (congrArg Prod.fst sh_159) (fun q => by cases q) (Or.inl rfl) (pn 26 rfl ?_)
      refine s_aload_n (i := 0) (by decide +kernel) rfl (pn 27 rfl ?_)
      refine s_aload_n (i := 0) (by decide +kernel) rfl (pn 28 rfl ?_)
      refine s_getfield (v := .int (M.1 159 6)) (by decide +kernel) fr_12_119 lq_159 (congrArg Prod.fst sh_159) rfl (pn 31 rfl ?_)
      refine s_putfieldI (by decide +kernel) fr_12_150 lq_159 (congrArg Prod.fst sh_159) (fun q => by cases q) (Or.inl rfl) (pn 34 rfl ?_)
      exact s_return (st := []) (by decide +kernel) rfl ⟨rfl, s, rfl, h⟩
    refine t_icmp_ne (off := 7) (tgt := 22) (by decide +kernel) rfl (fun c2 => ?_) (fun c2 => (pn 18 rfl ?_))
    · refine s_iload_n (i := 1) (by decide +kernel) rfl (pn 23 rfl ?_)
      exact k1 _ (by simp only [if_neg c2])
    · refine t_iconst (by decide +kernel) ki_1 (pn 19 rfl ?_)
      refine s_goto (off := 4) (tgt := 23) (by decide +kernel) rfl ?_
      exact k1 _ (by simp only [if_pos c2])
  · have h := h.2 c1
    exact s_return (st := []) (by decide +kernel) rfl ⟨rfl, s, rfl, h⟩
abbrev wM_takesN (d pc : Nat) (ls st : List Value) (s : pm_S) (M : pm_M) (Q : Int32 → pm_S → pm_M → Prop) : Prop := wI d prog_14_method_14_code 12 (some .int) false pc ls st s M Q
theorem enM_takesN {d : Nat} {s : pm_S} {M : pm_M} {x1 : Int32} {x2 : Int32} {Q : Int32 → pm_S → pm_M → Prop}  (h : cI d yM_is [.ref 159, .int 23] s M (fun r1 s1 M1 => ((r1 = 0 → cV d yM_fails [.ref 159, .int 2] s1 M1 (fun s6 M6 => (((M6.1 159 11) = 0 → cV d yM_next [.ref 159] s6 M6 (fun s7 M7 => Q (M6.1 159 10) s7 M7)) ∧ (¬ ((M6.1 159 11) = 0) → Q (M6.1 159 10) s6 M6)))) ∧ (¬ (r1 = 0) → cI d yM_within [.long ((M1.1 159 10).toInt64), .long (x1.toInt64), .long (x2.toInt64)] s1 M1 (fun r2 s2 M2 => ((r2 = 0 → cV d yM_fails [.ref 159, .int 3] s2 M2 (fun s4 M4 => (((M4.1 159 11) = 0 → cV d yM_next [.ref 159] s4 M4 (fun s5 M5 => Q (M4.1 159 10) s5 M5)) ∧ (¬ ((M4.1 159 11) = 0) → Q (M4.1 159 10) s4 M4)))) ∧ (¬ (r2 = 0) → (((M2.1 159 11) = 0 → cV d yM_next [.ref 159] s2 M2 (fun s3 M3 => Q (M2.1 159 10) s3 M3)) ∧ (¬ ((M2.1 159 11) = 0) → Q (M2.1 159 10) s2 M2))))))))) : cI (d + 1) yM_takesN [.ref 159, .int x1, .int x2] s M Q := by
  refine pm_toI (by decide) (Nat.le_of_ble_eq_true rfl) ?_
  show wM_takesN d 0 [.ref 159, .int x1, .int x2, .null] [] s M Q
  refine s_aload_n (i := 0) (by decide +kernel) rfl (pn 1 rfl ?_)
  refine t_bipush (by decide +kernel) kb_23 (pn 3 rfl ?_)
  refine s_callvI [.int 23] rfl (by decide +kernel) mv_12_153 np_195 (Nat.le_of_ble_eq_true rfl) lq_159 ((congrArg Prod.fst sh_159).trans oc_195) (cI_use h (fun r1 s1 M1 h => (pn 6 rfl ?_)))
  refine t_if_ne (off := 11) (tgt := 17) (by decide +kernel) rfl (fun c1 => ?_) (fun c1 => (pn 9 rfl ?_))
  · have h := h.2 c1
    refine s_aload_n (i := 0) (by decide +kernel) rfl (pn 18 rfl ?_)
    refine s_getfield (v := .int (M1.1 159 10)) (by decide +kernel) fr_12_142 lq_159 (congrArg Prod.fst sh_159) rfl (pn 21 rfl ?_)
    refine s_i2l (by decide +kernel) (pn 22 rfl ?_)
    refine s_iload_n (i := 1) (by decide +kernel) rfl (pn 23 rfl ?_)
    refine s_i2l (by decide +kernel) (pn 24 rfl ?_)
    refine s_iload_n (i := 2) (by decide +kernel) rfl (pn 25 rfl ?_)
    refine s_i2l (by decide +kernel) (pn 26 rfl ?_)
    refine s_callsI [.long ((M1.1 159 10).toInt64), .long (x1.toInt64), .long (x2.toInt64)] rfl (by decide +kernel) ms_12_163 np_188 (Nat.le_of_ble_eq_true rfl) (cI_use h (fun r2 s2 M2 h => (pn 29 rfl ?_)))
    refine t_if_ne (off := 8) (tgt := 37) (by decide +kernel) rfl (fun c2 => ?_) (fun c2 => (pn 32 rfl ?_))
    · have h := h.2 c2
      refine s_aload_n (i := 0) (by decide +kernel) rfl (pn 38 rfl ?_)
      refine s_getfield (v := .int (M2.1 159 10)) (by decide +kernel) fr_12_142 lq_159 (congrArg Prod.fst sh_159) rfl (pn 41 rfl ?_)
      refine s_istore_n (i := 3) (by decide +kernel) (Nat.le_of_ble_eq_true rfl) (pn 42 rfl (t_store (ls' := [.ref 159, .int x1, .int x2, .int (M2.1 159 10)]) rfl ?_))
      refine s_aload_n (i := 0) (by decide +kernel) rfl (pn 43 rfl ?_)
      refine s_getfield (v := .int (M2.1 159 11)) (by decide +kernel) fr_12_147 lq_159 (congrArg Prod.fst sh_159) rfl (pn 46 rfl ?_)
      refine t_if_ne (off := 7) (tgt := 53) (by decide +kernel) rfl (fun c3 => ?_) (fun c3 => (pn 49 rfl ?_))
      · have h := h.2 c3
        refine s_iload_n (i := 3) (by decide +kernel) rfl (pn 54 rfl ?_)
        exact s_ireturn (st := []) (by decide +kernel) (Or.inl rfl) ⟨_, rfl, s2, rfl, h⟩
      · have h := h.1 c3
        refine s_aload_n (i := 0) (by decide +kernel) rfl (pn 50 rfl ?_)
        refine s_callvV [] rfl (by decide +kernel) mv_12_156 np_189 (Nat.le_of_ble_eq_true rfl) lq_159 ((congrArg Prod.fst sh_159).trans oc_189) (cV_use h (fun s3 M3 h => (pn 53 rfl ?_)))
        refine s_iload_n (i := 3) (by decide +kernel) rfl (pn 54 rfl ?_)
        exact s_ireturn (st := []) (by decide +kernel) (Or.inl rfl) ⟨_, rfl, s3, rfl, h⟩
    · have h := h.1 c2
      refine s_aload_n (i := 0) (by decide +kernel) rfl (pn 33 rfl ?_)
      refine t_iconst (by decide +kernel) ki_3 (pn 34 rfl ?_)
      refine s_callvV [.int 3] rfl (by decide +kernel) mv_12_159 np_196 (Nat.le_of_ble_eq_true rfl) lq_159 ((congrArg Prod.fst sh_159).trans oc_196) (cV_use h (fun s4 M4 h => (pn 37 rfl ?_)))
      refine s_aload_n (i := 0) (by decide +kernel) rfl (pn 38 rfl ?_)
      refine s_getfield (v := .int (M4.1 159 10)) (by decide +kernel) fr_12_142 lq_159 (congrArg Prod.fst sh_159) rfl (pn 41 rfl ?_)
      refine s_istore_n (i := 3) (by decide +kernel) (Nat.le_of_ble_eq_true rfl) (pn 42 rfl (t_store (ls' := [.ref 159, .int x1, .int x2, .int (M4.1 159 10)]) rfl ?_))
      refine s_aload_n (i := 0) (by decide +kernel) rfl (pn 43 rfl ?_)
      refine s_getfield (v := .int (M4.1 159 11)) (by decide +kernel) fr_12_147 lq_159 (congrArg Prod.fst sh_159) rfl (pn 46 rfl ?_)
      refine t_if_ne (off := 7) (tgt := 53) (by decide +kernel) rfl (fun c4 => ?_) (fun c4 => (pn 49 rfl ?_))
      · have h := h.2 c4
        refine s_iload_n (i := 3) (by decide +kernel) rfl (pn 54 rfl ?_)
        exact s_ireturn (st := []) (by decide +kernel) (Or.inl rfl) ⟨_, rfl, s4, rfl, h⟩
      · have h := h.1 c4
        refine s_aload_n (i := 0) (by decide +kernel) rfl (pn 50 rfl ?_)
        refine s_callvV [] rfl (by decide +kernel) mv_12_156 np_189 (Nat.le_of_ble_eq_true rfl) lq_159 ((congrArg Prod.fst sh_159).trans oc_189) (cV_use h (fun s5 M5 h => (pn 53 rfl ?_)))
        refine s_iload_n (i := 3) (by decide +kernel) rfl (pn 54 rfl ?_)
        exact s_ireturn (st := []) (by decide +kernel) (Or.inl rfl) ⟨_, rfl, s5, rfl, h⟩
  · have h := h.1 c1
    refine s_aload_n (i := 0) (by decide +kernel) rfl (pn 10 rfl ?_)
    refine t_iconst (by decide +kernel) ki_2 (pn 11 rfl ?_)
    refine s_callvV [.int 2] rfl (by decide +kernel) mv_12_159 np_196 (Nat.le_of_ble_eq_true rfl) lq_159 ((congrArg Prod.fst sh_159).trans oc_196) (cV_use h (fun s6 M6 h => (pn 14 rfl ?_)))
    refine s_goto (off := 23) (tgt := 37) (by decide +kernel) rfl ?_
    refine s_aload_n (i := 0) (by decide +kernel) rfl (pn 38 rfl ?_)
    refine s_getfield (v := .int (M6.1 159 10)) (by decide +kernel) fr_12_142 lq_159 (congrArg Prod.fst sh_159) rfl (pn 41 rfl ?_)
    refine s_istore_n (i := 3) (by decide +kernel) (Nat.le_of_ble_eq_true rfl) (pn 42 rfl (t_store (ls' := [.ref 159, .int x1, .int x2, .int (M6.1 159 10)]) rfl ?_))
    refine s_aload_n (i := 0) (by decide +kernel) rfl (pn 43 rfl ?_)
    refine s_getfield (v := .int (M6.1 159 11)) (by decide +kernel) fr_12_147 lq_159 (congrArg Prod.fst sh_159) rfl (pn 46 rfl ?_)
    refine t_if_ne (off := 7) (tgt := 53) (by decide +kernel) rfl (fun c5 => ?_) (fun c5 => (pn 49 rfl ?_))
    · have h := h.2 c5
      refine s_iload_n (i := 3) (by decide +kernel) rfl (pn 54 rfl ?_)
      exact s_ireturn (st := []) (by decide +kernel) (Or.inl rfl) ⟨_, rfl, s6, rfl, h⟩
    · have h := h.1 c5
      refine s_aload_n (i := 0) (by decide +kernel) rfl (pn 50 rfl ?_)
      refine s_callvV [] rfl (by decide +kernel) mv_12_156 np_189 (Nat.le_of_ble_eq_true rfl) lq_159 ((congrArg Prod.fst sh_159).trans oc_189) (cV_use h (fun s7 M7 h => (pn 53 rfl ?_)))
      refine s_iload_n (i := 3) (by decide +kernel) rfl (pn 54 rfl ?_)
      exact s_ireturn (st := []) (by decide +kernel) (Or.inl rfl) ⟨_, rfl, s7, rfl, h⟩
abbrev wM_ends (d pc : Nat) (ls st : List Value) (s : pm_S) (M : pm_M) (Q : pm_S → pm_M → Prop) : Prop := wV d prog_14_method_32_code 12 none false pc ls st s M Q
theorem enM_ends {d : Nat} {s : pm_S} {M : pm_M}  {Q : pm_S → pm_M → Prop}  (h : cI d yM_eats [.ref 159, .int 30] s M (fun r1 s1 M1 => ((r1 = 0 → cV d yM_fails [.ref 159, .int 2] s1 M1 (fun s2 M2 => Q s2 (pm_si M2 163 0 ((M2.1 163 0) + 1)))) ∧ (¬ (r1 = 0) → Q s1 (pm_si M1 163 0 ((M1.1 163 0) + 1)))))) : cV (d + 1) yM_ends [.ref 159] s M Q := by
  refine pm_toV (by decide) (Nat.le_of_ble_eq_true rfl) ?_
  show wM_ends d 0 [.ref 159] [] s M Q
  refine s_aload_n (i := 0) (by decide +kernel) rfl (pn 1 rfl ?_)
  refine t_bipush (by decide +kernel) kb_30 (pn 3 rfl ?_)
  refine s_callvI [.int 30] rfl (by decide +kernel) mv_12_182 np_194 (Nat.le_of_ble_eq_true rfl) lq_159 ((congrArg Prod.fst sh_159).trans oc_194) (cI_use h (fun r1 s1 M1 h => (pn 6 rfl ?_)))
  refine t_if_ne (off := 8) (tgt := 14) (by decide +kernel) rfl (fun c1 => ?_) (fun c1 => (pn 9 rfl ?_))
  · have h := h.2 c1
    refine s_aload_n (i := 0) (by decide +kernel) rfl (pn 15 rfl ?_)
    refine s_getfield (v := .ref 163) (by decide +kernel) fr_12_24 lq_159 (congrArg Prod.fst sh_159) (fv_ref pf_159_4) (pn 18 rfl ?_)
    refine t_iconst (by decide +kernel) ki_0 (pn 19 rfl ?_)
    refine s_dup2 (by decide +kernel) rfl rfl (pn 20 rfl ?_)
    refine t_iaload (v := M1.1 163 0) (by decide +kernel) ⟨Or.inl lq_163, congrArg Prod.fst sh_163⟩ (al_in sh_163 (vp_lit (n := 1290) tn_0 (by decide) (by decide))) (by rw [tn_0] <;> rfl) (pn 21 rfl ?_)
    refine t_iconst (by decide +kernel) ki_1 (pn 22 rfl ?_)
    refine s_iadd (by decide +kernel) (pn 23 rfl ?_)
    refine t_iastore (k := 0) (by decide +kernel) ⟨lq_163, congrArg Prod.fst sh_163⟩ (al_in sh_163 (vp_lit (n := 1290) tn_0 (by decide) (by decide))) tn_0 (pn 24 rfl ?_)
    exact s_return (st := []) (by decide +kernel) rfl ⟨rfl, s1, rfl, h⟩
  · have h := h.1 c1
    refine s_aload_n (i := 0) (by decide +kernel) rfl (pn 10 rfl ?_)
    refine t_iconst (by decide +kernel) ki_2 (pn 11 rfl ?_)
    refine s_callvV [.int 2] rfl (by decide +kernel) mv_12_159 np_196 (Nat.le_of_ble_eq_true rfl) lq_159 ((congrArg Prod.fst sh_159).trans oc_196) (cV_use h (fun s2 M2 h => (pn 14 rfl ?_)))
    refine s_aload_n (i := 0) (by decide +kernel) rfl (pn 15 rfl ?_)
    refine s_getfield (v := .ref 163) (by decide +kernel) fr_12_24 lq_159 (congrArg Prod.fst sh_159) (fv_ref pf_159_4) (pn 18 rfl ?_)
    refine t_iconst (by decide +kernel) ki_0 (pn 19 rfl ?_)
    refine s_dup2 (by decide +kernel) rfl rfl (pn 20 rfl ?_)
    refine t_iaload (v := M2.1 163 0) (by decide +kernel) ⟨Or.inl lq_163, congrArg Prod.fst sh_163⟩ (al_in sh_163 (vp_lit (n := 1290) tn_0 (by decide) (by decide))) (by rw [tn_0] <;> rfl) (pn 21 rfl ?_)
    refine t_iconst (by decide +kernel) ki_1 (pn 22 rfl ?_)
    refine s_iadd (by decide +kernel) (pn 23 rfl ?_)
    refine t_iastore (k := 0) (by decide +kernel) ⟨lq_163, congrArg Prod.fst sh_163⟩ (al_in sh_163 (vp_lit (n := 1290) tn_0 (by decide) (by decide))) tn_0 (pn 24 rfl ?_)
    exact s_return (st := []) (by decide +kernel) rfl ⟨rfl, s2, rfl, h⟩
abbrev wM_readLine (d pc : Nat) (ls st : List Value) (s : pm_S) (M : pm_M) (Q : pm_S → pm_M → Prop) : Prop := wV d prog_14_method_31_code 12 none false pc ls st s M Q
theorem enM_readLine {d : Nat} {s : pm_S} {M : pm_M}  {Q : pm_S → pm_M → Prop}  (h : ((((M.1 159 11) = 0) → cI d yM_is [.ref 159, .int 1] s M (fun r1 s1 M1 => (((r1 = 0) → cI d yM_is [.ref 159, .int 5] s1 M1 (fun r2 s2 M2 => (((r2 = 0) → cI d yM_is [.ref 159, .int 9] s2 M2 (fun r3 s3 M3 => ((r3 = 0 → cI d yM_is [.ref 159, .int 10] s3 M3 (fun r4 s5 M5 => (((r4 = 0) → cI d yM_eats [.ref 159, .int 11] s5 M5 (fun r5 s6 M6 => (((r5 = 0) → cV d yM_fails [.ref 159, .int 2] s6 M6 (fun s7 M7 => Q s7 M7)) ∧ (¬ (r5 = 0) → cI d yM_takesN [.ref 159, .int 0, .int 10] s6 M6 (fun r6 s8 M8 => Q s8 (pm_si M8 163 4 r6)))))) ∧ (¬ (r4 = 0) → cV d yM_readLaw [.ref 159, .int ((M5.1 159 9) - 9)] s5 M5 (fun s9 M9 => Q s9 M9))))) ∧ (¬ (r3 = 0) → cV d yM_readLaw [.ref 159, .int ((M3.1 159 9) - 9)] s3 M3 (fun s4 M4 => Q s4 M4))))) ∧ (¬ (r2 = 0) → cV d yM_readPerson [.ref 159] s2 M2 (fun s10 M10 => Q s10 M10))))) ∧ (¬ (r1 = 0) → cV d yM_readThing [.ref 159] s1 M1 (fun s11 M11 => Q s11 M11))))) ∧ (¬ ((M.1 159 11) = 0) → Q s M))) : cV (d + 1) yM_readLine [.ref 159] s M Q := by
  refine pm_toV (by decide) (Nat.le_of_ble_eq_true rfl) ?_
  show wM_readLine d 0 [.ref 159] [] s M Q
  refine s_aload_n (i := 0) (by decide +kernel) rfl (pn 1 rfl ?_)
  refine s_getfield (v := .int (M.1 159 11)) (by decide +kernel) fr_12_147 lq_159 (congrArg Prod.fst sh_159) rfl (pn 4 rfl ?_)
  refine s_if_eq (off := 4) (tgt := 8) (by decide +kernel) rfl (fun c1 => ?_) (fun c1 => (pn 7 rfl ?_))
  · have h := h.1 c1
    refine s_aload_n (i := 0) (by decide +kernel) rfl (pn 9 rfl ?_)
    refine t_iconst (by decide +kernel) ki_1 (pn 10 rfl ?_)
    refine s_callvI [.int 1] rfl (by decide +kernel) mv_12_153 np_195 (Nat.le_of_ble_eq_true rfl) lq_159 ((congrArg Prod.fst sh_159).trans oc_195) (cI_use h (fun r1 s1 M1 h => (pn 13 rfl ?_)))
    refine s_if_eq (off := 10) (tgt := 23) (by decide +kernel) rfl (fun c2 => ?_) (fun c2 => (pn 16 rfl ?_))
    · have h := h.1 c2
      refine s_aload_n (i := 0) (by decide +kernel) rfl (pn 24 rfl ?_)
      refine t_iconst (by decide +kernel) ki_5 (pn 25 rfl ?_)
      refine s_callvI [.int 5] rfl (by decide +kernel) mv_12_153 np_195 (Nat.le_of_ble_eq_true rfl) lq_159 ((congrArg Prod.fst sh_159).trans oc_195) (cI_use h (fun r2 s2 M2 h => (pn 28 rfl ?_)))
      refine s_if_eq (off := 10) (tgt := 38) (by decide +kernel) rfl (fun c3 => ?_) (fun c3 => (pn 31 rfl ?_))
      · have h := h.1 c3
        refine s_aload_n (i := 0) (by decide +kernel) rfl (pn 39 rfl ?_)
        refine t_bipush (by decide +kernel) kb_9 (pn 41 rfl ?_)
        refine s_callvI [.int 9] rfl (by decide +kernel) mv_12_153 np_195 (Nat.le_of_ble_eq_true rfl) lq_159 ((congrArg Prod.fst sh_159).trans oc_195) (cI_use h (fun r3 s3 M3 h => (pn 44 rfl ?_)))
        refine t_if_ne (off := 12) (tgt := 56) (by decide +kernel) rfl (fun c4 => ?_) (fun c4 => (pn 47 rfl ?_))
        · have h := h.2 c4
          refine s_aload_n (i := 0) (by decide +kernel) rfl (pn 57 rfl ?_)
          refine s_aload_n (i := 0) (by decide +kernel) rfl (pn 58 rfl ?_)
          refine s_getfield (v := .int (M3.1 159 9)) (by decide +kernel) fr_12_129 lq_159 (congrArg Prod.fst sh_159) rfl (pn 61 rfl ?_)
          refine t_bipush (by decide +kernel) kb_9 (pn 63 rfl ?_)
          refine s_isub (by decide +kernel) (pn 64 rfl ?_)
          refine s_callvV [.int ((M3.1 159 9) - 9)] rfl (by decide +kernel) mv_12_219 np_204 (Nat.le_of_ble_eq_true rfl) lq_159 ((congrArg Prod.fst sh_159).trans oc_204) (cV_use h (fun s4 M4 h => (pn 67 rfl ?_)))
          refine s_goto (off := 33) (tgt := 100) (by decide +kernel) rfl ?_
          exact s_return (st := []) (by decide +kernel) rfl ⟨rfl, s4, rfl, h⟩
        · have h := h.1 c4
          refine s_aload_n (i := 0) (by decide +kernel) rfl (pn 48 rfl ?_)
          refine t_bipush (by decide +kernel) kb_10 (pn 50 rfl ?_)
          refine s_callvI [.int 10] rfl (by decide +kernel) mv_12_153 np_195 (Nat.le_of_ble_eq_true rfl) lq_159 ((congrArg Prod.fst sh_159).trans oc_195) (cI_use h (fun r4 s5 M5 h => (pn 53 rfl ?_)))
          refine s_if_eq (off := 17) (tgt := 70) (by decide +kernel) rfl (fun c5 => ?_) (fun c5 => (pn 56 rfl ?_))
          · have h := h.1 c5
            refine s_aload_n (i := 0) (by decide +kernel) rfl (pn 71 rfl ?_)
            refine t_bipush (by decide +kernel) kb_11 (pn 73 rfl ?_)
            refine s_callvI [.int 11] rfl (by decide +kernel) mv_12_182 np_194 (Nat.le_of_ble_eq_true rfl) lq_159 ((congrArg Prod.fst sh_159).trans oc_194) (cI_use h (fun r5 s6 M6 h => (pn 76 rfl ?_)))
            refine s_if_eq (off := 19) (tgt := 95) (by decide +kernel) rfl (fun c6 => ?_) (fun c6 => (pn 79 rfl ?_))
            · have h := h.1 c6
              refine s_aload_n (i := 0) (by decide +kernel) rfl (pn 96 rfl ?_)
              refine t_iconst (by decide +kernel) ki_2 (pn 97 rfl ?_)
              refine s_callvV [.int 2] rfl (by decide +kernel) mv_12_159 np_196 (Nat.le_of_ble_eq_true rfl) lq_159 ((congrArg Prod.fst sh_159).trans oc_196) (cV_use h (fun s7 M7 h => (pn 100 rfl ?_)))
              exact s_return (st := []) (by decide +kernel) rfl ⟨rfl, s7, rfl, h⟩
            · have h := h.2 c6
              refine s_aload_n (i := 0) (by decide +kernel) rfl (pn 80 rfl ?_)
              refine s_getfield (v := .ref 163) (by decide +kernel) fr_12_24 lq_159 (congrArg Prod.fst sh_159) (fv_ref pf_159_4) (pn 83 rfl ?_)
              refine t_iconst (by decide +kernel) ki_4 (pn 84 rfl ?_)
              refine s_aload_n (i := 0) (by decide +kernel) rfl (pn 85 rfl ?_)
              refine t_iconst (by decide +kernel) ki_0 (pn 86 rfl ?_)
              refine t_bipush (by decide +kernel) kb_10 (pn 88 rfl ?_)
              refine s_callvI [.int 0, .int 10] rfl (by decide +kernel) mv_12_203 np_197 (Nat.le_of_ble_eq_true rfl) lq_159 ((congrArg Prod.fst sh_159).trans oc_197) (cI_use h (fun r6 s8 M8 h => (pn 91 rfl ?_)))
              refine t_iastore (k := 4) (by decide +kernel) ⟨lq_163, congrArg Prod.fst sh_163⟩ (al_in sh_163 (vp_lit (n := 1290) tn_4 (by decide) (by decide))) tn_4 (pn 92 rfl ?_)
              refine s_goto (off := 8) (tgt := 100) (by decide +kernel) rfl ?_
              exact s_return (st := []) (by decide +kernel) rfl ⟨rfl, s8, rfl, h⟩
          · have h := h.2 c5
            refine s_aload_n (i := 0) (by decide +kernel) rfl (pn 57 rfl ?_)
            refine s_aload_n (i := 0) (by decide +kernel) rfl (pn 58 rfl ?_)
            refine s_getfield (v := .int (M5.1 159 9)) (by decide +kernel) fr_12_129 lq_159 (congrArg Prod.fst sh_159) rfl (pn 61 rfl ?_)
            refine t_bipush (by decide +kernel) kb_9 (pn 63 rfl ?_)
            refine s_isub (by decide +kernel) (pn 64 rfl ?_)
            refine s_callvV [.int ((M5.1 159 9) - 9)] rfl (by decide +kernel) mv_12_219 np_204 (Nat.le_of_ble_eq_true rfl) lq_159 ((congrArg Prod.fst sh_159).trans oc_204) (cV_use h (fun s9 M9 h => (pn 67 rfl ?_)))
            refine s_goto (off := 33) (tgt := 100) (by decide +kernel) rfl ?_
            exact s_return (st := []) (by decide +kernel) rfl ⟨rfl, s9, rfl, h⟩
      · have h := h.2 c3
        refine s_aload_n (i := 0) (by decide +kernel) rfl (pn 32 rfl ?_)
        refine s_callvV [] rfl (by decide +kernel) mv_12_216 np_201 (Nat.le_of_ble_eq_true rfl) lq_159 ((congrArg Prod.fst sh_159).trans oc_201) (cV_use h (fun s10 M10 h => (pn 35 rfl ?_)))
        refine s_goto (off := 65) (tgt := 100) (by decide +kernel) rfl ?_
        exact s_return (st := []) (by decide +kernel) rfl ⟨rfl, s10, rfl, h⟩
    · have h := h.2 c2
      refine s_aload_n (i := 0) (by decide +kernel) rfl (pn 17 rfl ?_)
      refine s_callvV [] rfl (by decide +kernel) mv_12_213 np_200 (Nat.le_of_ble_eq_true rfl) lq_159 ((congrArg Prod.fst sh_159).trans oc_200) (cV_use h (fun s11 M11 h => (pn 20 rfl ?_)))
      refine s_goto (off := 80) (tgt := 100) (by decide +kernel) rfl ?_
      exact s_return (st := []) (by decide +kernel) rfl ⟨rfl, s11, rfl, h⟩
  · have h := h.2 c1
    exact s_return (st := []) (by decide +kernel) rfl ⟨rfl, s, rfl, h⟩
abbrev wM_readThing (d pc : Nat) (ls st : List Value) (s : pm_S) (M : pm_M) (Q : pm_S → pm_M → Prop) : Prop := wV d prog_14_method_26_code 12 none false pc ls st s M Q
theorem enM_readThing {d : Nat} {s : pm_S} {M : pm_M}  {Q : pm_S → pm_M → Prop}  (h : (((M.1 163 2) = 8 → cV d yM_fails [.ref 159, .int 4] s M (fun s1 M1 => wM_readThing d 18 [.ref 159, .int (M.1 163 2), .null] [] s1 M1 Q)) ∧ (¬ ((M.1 163 2) = 8) → wM_readThing d 18 [.ref 159, .int (M.1 163 2), .null] [] s M Q))) : cV (d + 1) yM_readThing [.ref 159] s M Q := by
  refine pm_toV (by decide) (Nat.le_of_ble_eq_true rfl) ?_
  show wM_readThing d 0 [.ref 159, .null, .null] [] s M Q
  refine s_aload_n (i := 0) (by decide +kernel) rfl (pn 1 rfl ?_)
  refine s_getfield (v := .ref 163) (by decide +kernel) fr_12_24 lq_159 (congrArg Prod.fst sh_159) (fv_ref pf_159_4) (pn 4 rfl ?_)
  refine t_iconst (by decide +kernel) ki_2 (pn 5 rfl ?_)
  refine t_iaload (v := M.1 163 2) (by decide +kernel) ⟨Or.inl lq_163, congrArg Prod.fst sh_163⟩ (al_in sh_163 (vp_lit (n := 1290) tn_2 (by decide) (by decide))) (by rw [tn_2] <;> rfl) (pn 6 rfl ?_)
  refine s_istore_n (i := 1) (by decide +kernel) (Nat.le_of_ble_eq_true rfl) (pn 7 rfl (t_store (ls' := [.ref 159, .int (M.1 163 2), .null]) rfl ?_))
  refine s_iload_n (i := 1) (by decide +kernel) rfl (pn 8 rfl ?_)
  refine t_bipush (by decide +kernel) kb_8 (pn 10 rfl ?_)
  refine t_icmp_ne (off := 8) (tgt := 18) (by decide +kernel) rfl (fun c1 => ?_) (fun c1 => (pn 13 rfl ?_))
  · have h := h.2 c1
    exact h
  · have h := h.1 c1
    refine s_aload_n (i := 0) (by decide +kernel) rfl (pn 14 rfl ?_)
    refine t_iconst (by decide +kernel) ki_4 (pn 15 rfl ?_)
    refine s_callvV [.int 4] rfl (by decide +kernel) mv_12_159 np_196 (Nat.le_of_ble_eq_true rfl) lq_159 ((congrArg Prod.fst sh_159).trans oc_196) (cV_use h (fun s1 M1 h => (pn 18 rfl ?_)))
    exact h
theorem sgM_readThing_18 {d : Nat} {s : pm_S} {M : pm_M} {l1 : Int32} {Q : pm_S → pm_M → Prop}  (h : ((((M.1 159 11) = 0) → cV d yM_next [.ref 159] s M (fun s1 M1 => cI d yM_eats [.ref 159, .int 2] s1 M1 (fun r1 s2 M2 => ((r1 = 0 → cV d yM_fails [.ref 159, .int 2] s2 M2 (fun s3 M3 => wM_readThing d 43 [.ref 159, .int l1, .null] [] s3 M3 Q)) ∧ (¬ (r1 = 0) → wM_readThing d 43 [.ref 159, .int l1, .null] [] s2 M2 Q))))) ∧ (¬ ((M.1 159 11) = 0) → Q s M))) : wM_readThing d 18 [.ref 159, .int l1, .null] [] s M Q := by
  refine s_aload_n (i := 0) (by decide +kernel) rfl (pn 19 rfl ?_)
  refine s_getfield (v := .int (M.1 159 11)) (by decide +kernel) fr_12_147 lq_159 (congrArg Prod.fst sh_159) rfl (pn 22 rfl ?_)
  refine s_if_eq (off := 4) (tgt := 26) (by decide +kernel) rfl (fun c1 => ?_) (fun c1 => (pn 25 rfl ?_))
  · have h := h.1 c1
    refine s_aload_n (i := 0) (by decide +kernel) rfl (pn 27 rfl ?_)
    refine s_callvV [] rfl (by decide +kernel) mv_12_156 np_189 (Nat.le_of_ble_eq_true rfl) lq_159 ((congrArg Prod.fst sh_159).trans oc_189) (cV_use h (fun s1 M1 h => (pn 30 rfl ?_)))
    refine s_aload_n (i := 0) (by decide +kernel) rfl (pn 31 rfl ?_)
    refine t_iconst (by decide +kernel) ki_2 (pn 32 rfl ?_)
    refine s_callvI [.int 2] rfl (by decide +kernel) mv_12_182 np_194 (Nat.le_of_ble_eq_true rfl) lq_159 ((congrArg Prod.fst sh_159).trans oc_194) (cI_use h (fun r1 s2 M2 h => (pn 35 rfl ?_)))
    refine t_if_ne (off := 8) (tgt := 43) (by decide +kernel) rfl (fun c2 => ?_) (fun c2 => (pn 38 rfl ?_))
    · have h := h.2 c2
      exact h
    · have h := h.1 c2
      refine s_aload_n (i := 0) (by decide +kernel) rfl (pn 39 rfl ?_)
      refine t_iconst (by decide +kernel) ki_2 (pn 40 rfl ?_)
      refine s_callvV [.int 2] rfl (by decide +kernel) mv_12_159 np_196 (Nat.le_of_ble_eq_true rfl) lq_159 ((congrArg Prod.fst sh_159).trans oc_196) (cV_use h (fun s3 M3 h => (pn 43 rfl ?_)))
      exact h
  · have h := h.2 c1
    exact s_return (st := []) (by decide +kernel) rfl ⟨rfl, s, rfl, h⟩
theorem sgM_readThing_43 {d : Nat} {s : pm_S} {M : pm_M} {l1 : Int32} {Q : pm_S → pm_M → Prop}  (h : cI d yM_takesN [.ref 159, .int 0, .int ((M.1 163 1) - 1)] s M (fun r1 s1 M1 => vp_in ((11 : Int32) + l1) 1290 ∧ vp_in ((11 : Int32) + l1) 1290 ∧ vp_in ((50 : Int32) + l1) 1290 ∧ wM_readThing d 83 [.ref 159, .int l1, .null] [] s1 (pm_si (pm_si M1 163 ((11 : Int32) + l1).toNatClampNeg r1) 163 ((50 : Int32) + l1).toNatClampNeg ((pm_si M1 163 ((11 : Int32) + l1).toNatClampNeg r1).1 163 ((11 : Int32) + l1).toNatClampNeg)) Q)) : wM_readThing d 43 [.ref 159, .int l1, .null] [] s M Q := by
  refine s_aload_n (i := 0) (by decide +kernel) rfl (pn 44 rfl ?_)
  refine s_getfield (v := .ref 163) (by decide +kernel) fr_12_24 lq_159 (congrArg Prod.fst sh_159) (fv_ref pf_159_4) (pn 47 rfl ?_)
  refine t_bipush (by decide +kernel) kb_11 (pn 49 rfl ?_)
  refine s_iload_n (i := 1) (by decide +kernel) rfl (pn 50 rfl ?_)
  refine s_iadd (by decide +kernel) (pn 51 rfl ?_)
  refine s_aload_n (i := 0) (by decide +kernel) rfl (pn 52 rfl ?_)
  refine t_iconst (by decide +kernel) ki_0 (pn 53 rfl ?_)
  refine s_aload_n (i := 0) (by decide +kernel) rfl (pn 54 rfl ?_)
  refine s_getfield (v := .ref 163) (by decide +kernel) fr_12_24 lq_159 (congrArg Prod.fst sh_159) (fv_ref pf_159_4) (pn 57 rfl ?_)
  refine t_iconst (by decide +kernel) ki_1 (pn 58 rfl ?_)
  refine t_iaload (v := M.1 163 1) (by decide +kernel) ⟨Or.inl lq_163, congrArg Prod.fst sh_163⟩ (al_in sh_163 (vp_lit (n := 1290) tn_1 (by decide) (by decide))) (by rw [tn_1] <;> rfl) (pn 59 rfl ?_)
  refine t_iconst (by decide +kernel) ki_1 (pn 60 rfl ?_)
  refine s_isub (by decide +kernel) (pn 61 rfl ?_)
  refine s_callvI [.int 0, .int ((M.1 163 1) - 1)] rfl (by decide +kernel) mv_12_203 np_197 (Nat.le_of_ble_eq_true rfl) lq_159 ((congrArg Prod.fst sh_159).trans oc_197) (cI_use h (fun r1 s1 M1 h => (pn 64 rfl ?_)))
  obtain ⟨b1, h⟩ := h
  refine t_iastore (k := ((11 : Int32) + l1).toNatClampNeg) (by decide +kernel) ⟨lq_163, congrArg Prod.fst sh_163⟩ (al_in sh_163 b1) rfl (pn 65 rfl ?_)
  refine s_aload_n (i := 0) (by decide +kernel) rfl (pn 66 rfl ?_)
  refine s_getfield (v := .ref 163) (by decide +kernel) fr_12_24 lq_159 (congrArg Prod.fst sh_159) (fv_ref pf_159_4) (pn 69 rfl ?_)
  refine t_bipush (by decide +kernel) kb_50 (pn 71 rfl ?_)
  refine s_iload_n (i := 1) (by decide +kernel) rfl (pn 72 rfl ?_)
  refine s_iadd (by decide +kernel) (pn 73 rfl ?_)
  refine s_aload_n (i := 0) (by decide +kernel) rfl (pn 74 rfl ?_)
  refine s_getfield (v := .ref 163) (by decide +kernel) fr_12_24 lq_159 (congrArg Prod.fst sh_159) (fv_ref pf_159_4) (pn 77 rfl ?_)
  refine t_bipush (by decide +kernel) kb_11 (pn 79 rfl ?_)
  refine s_iload_n (i := 1) (by decide +kernel) rfl (pn 80 rfl ?_)
  refine s_iadd (by decide +kernel) (pn 81 rfl ?_)
  obtain ⟨b2, h⟩ := h
  refine t_iaload (v := (pm_si M1 163 ((11 : Int32) + l1).toNatClampNeg r1).1 163 ((11 : Int32) + l1).toNatClampNeg) (by decide +kernel) ⟨Or.inl lq_163, congrArg Prod.fst sh_163⟩ (al_in sh_163 b2) rfl (pn 82 rfl ?_)
  obtain ⟨b3, h⟩ := h
  refine t_iastore (k := ((50 : Int32) + l1).toNatClampNeg) (by decide +kernel) ⟨lq_163, congrArg Prod.fst sh_163⟩ (al_in sh_163 b3) rfl (pn 83 rfl ?_)
  exact h
theorem sgM_readThing_83 {d : Nat} {s : pm_S} {M : pm_M} {l1 : Int32} {Q : pm_S → pm_M → Prop}  (h : (((M.1 159 11) = 0 → cI d yM_is [.ref 159, .int 3] s M (fun r1 s1 M1 => ((r1 = 0 → cI d yM_is [.ref 159, .int 4] s1 M1 (fun r2 s2 M2 => (((r2 = 0) → (((M2.1 159 11) = 0 → Q s2 (pm_si M2 163 2 ((M2.1 163 2) + 1))) ∧ (¬ ((M2.1 159 11) = 0) → Q s2 M2))) ∧ (¬ (r2 = 0) → wM_readThing d 106 [.ref 159, .int l1, .null] [] s2 M2 Q)))) ∧ (¬ (r1 = 0) → wM_readThing d 106 [.ref 159, .int l1, .null] [] s1 M1 Q)))) ∧ (¬ ((M.1 159 11) = 0) → (((M.1 159 11) = 0 → Q s (pm_si M 163 2 ((M.1 163 2) + 1))) ∧ (¬ ((M.1 159 11) = 0) → Q s M))))) : wM_readThing d 83 [.ref 159, .int l1, .null] [] s M Q := by
  refine s_aload_n (i := 0) (by decide +kernel) rfl (pn 84 rfl ?_)
  refine s_getfield (v := .int (M.1 159 11)) (by decide +kernel) fr_12_147 lq_159 (congrArg Prod.fst sh_159) rfl (pn 87 rfl ?_)
  refine t_if_ne (off := 57) (tgt := 144) (by decide +kernel) rfl (fun c1 => ?_) (fun c1 => (pn 90 rfl ?_))
  · have h := h.2 c1
    refine s_aload_n (i := 0) (by decide +kernel) rfl (pn 145 rfl ?_)
    refine s_getfield (v := .int (M.1 159 11)) (by decide +kernel) fr_12_147 lq_159 (congrArg Prod.fst sh_159) rfl (pn 148 rfl ?_)
    refine t_if_ne (off := 13) (tgt := 161) (by decide +kernel) rfl (fun c2 => ?_) (fun c2 => (pn 151 rfl ?_))
    · have h := h.2 c2
      exact s_return (st := []) (by decide +kernel) rfl ⟨rfl, s, rfl, h⟩
    · have h := h.1 c2
      refine s_aload_n (i := 0) (by decide +kernel) rfl (pn 152 rfl ?_)
      refine s_getfield (v := .ref 163) (by decide +kernel) fr_12_24 lq_159 (congrArg Prod.fst sh_159) (fv_ref pf_159_4) (pn 155 rfl ?_)
      refine t_iconst (by decide +kernel) ki_2 (pn 156 rfl ?_)
      refine s_dup2 (by decide +kernel) rfl rfl (pn 157 rfl ?_)
      refine t_iaload (v := M.1 163 2) (by decide +kernel) ⟨Or.inl lq_163, congrArg Prod.fst sh_163⟩ (al_in sh_163 (vp_lit (n := 1290) tn_2 (by decide) (by decide))) (by rw [tn_2] <;> rfl) (pn 158 rfl ?_)
      refine t_iconst (by decide +kernel) ki_1 (pn 159 rfl ?_)
      refine s_iadd (by decide +kernel) (pn 160 rfl ?_)
      refine t_iastore (k := 2) (by decide +kernel) ⟨lq_163, congrArg Prod.fst sh_163⟩ (al_in sh_163 (vp_lit (n := 1290) tn_2 (by decide) (by decide))) tn_2 (pn 161 rfl ?_)
      exact s_return (st := []) (by decide +kernel) rfl ⟨rfl, s, rfl, h⟩
  · have h := h.1 c1
    refine s_aload_n (i := 0) (by decide +kernel) rfl (pn 91 rfl ?_)
    refine t_iconst (by decide +kernel) ki_3 (pn 92 rfl ?_)
    refine s_callvI [.int 3] rfl (by decide +kernel) mv_12_153 np_195 (Nat.le_of_ble_eq_true rfl) lq_159 ((congrArg Prod.fst sh_159).trans oc_195) (cI_use h (fun r1 s1 M1 h => (pn 95 rfl ?_)))
    refine t_if_ne (off := 11) (tgt := 106) (by decide +kernel) rfl (fun c3 => ?_) (fun c3 => (pn 98 rfl ?_))
    · have h := h.2 c3
      exact h
    · have h := h.1 c3
      refine s_aload_n (i := 0) (by decide +kernel) rfl (pn 99 rfl ?_)
      refine t_iconst (by decide +kernel) ki_4 (pn 100 rfl ?_)
      refine s_callvI [.int 4] rfl (by decide +kernel) mv_12_153 np_195 (Nat.le_of_ble_eq_true rfl) lq_159 ((congrArg Prod.fst sh_159).trans oc_195) (cI_use h (fun r2 s2 M2 h => (pn 103 rfl ?_)))
      refine s_if_eq (off := 41) (tgt := 144) (by decide +kernel) rfl (fun c4 => ?_) (fun c4 => (pn 106 rfl ?_))
      · have h := h.1 c4
        refine s_aload_n (i := 0) (by decide +kernel) rfl (pn 145 rfl ?_)
        refine s_getfield (v := .int (M2.1 159 11)) (by decide +kernel) fr_12_147 lq_159 (congrArg Prod.fst sh_159) rfl (pn 148 rfl ?_)
        refine t_if_ne (off := 13) (tgt := 161) (by decide +kernel) rfl (fun c5 => ?_) (fun c5 => (pn 151 rfl ?_))
        · have h := h.2 c5
          exact s_return (st := []) (by decide +kernel) rfl ⟨rfl, s2, rfl, h⟩
        · have h := h.1 c5
          refine s_aload_n (i := 0) (by decide +kernel) rfl (pn 152 rfl ?_)
          refine s_getfield (v := .ref 163) (by decide +kernel) fr_12_24 lq_159 (congrArg Prod.fst sh_159) (fv_ref pf_159_4) (pn 155 rfl ?_)
          refine t_iconst (by decide +kernel) ki_2 (pn 156 rfl ?_)
          refine s_dup2 (by decide +kernel) rfl rfl (pn 157 rfl ?_)
          refine t_iaload (v := M2.1 163 2) (by decide +kernel) ⟨Or.inl lq_163, congrArg Prod.fst sh_163⟩ (al_in sh_163 (vp_lit (n := 1290) tn_2 (by decide) (by decide))) (by rw [tn_2] <;> rfl) (pn 158 rfl ?_)
          refine t_iconst (by decide +kernel) ki_1 (pn 159 rfl ?_)
          refine s_iadd (by decide +kernel) (pn 160 rfl ?_)
          refine t_iastore (k := 2) (by decide +kernel) ⟨lq_163, congrArg Prod.fst sh_163⟩ (al_in sh_163 (vp_lit (n := 1290) tn_2 (by decide) (by decide))) tn_2 (pn 161 rfl ?_)
          exact s_return (st := []) (by decide +kernel) rfl ⟨rfl, s2, rfl, h⟩
      · have h := h.2 c4
        exact h
theorem sgM_readThing_106 {d : Nat} {s : pm_S} {M : pm_M} {l1 : Int32} {Q : pm_S → pm_M → Prop}  (h : cI d yM_is [.ref 159, .int 3] s M (fun r1 s1 M1 => cV d yM_next [.ref 159] s1 M1 (fun s2 M2 => cI d yM_takesN [.ref 159, .int 0, .int 9] s2 M2 (fun r2 s3 M3 => vp_in (((if r1 = 0 then 27 else 19) : Int32) + l1) 1290 ∧ wM_readThing d 83 [.ref 159, .int l1, .null] [] s3 (pm_si M3 163 (((if r1 = 0 then 27 else 19) : Int32) + l1).toNatClampNeg r2) Q)))) : wM_readThing d 106 [.ref 159, .int l1, .null] [] s M Q := by
  refine s_aload_n (i := 0) (by decide +kernel) rfl (pn 107 rfl ?_)
  refine t_iconst (by decide +kernel) ki_3 (pn 108 rfl ?_)
  refine s_callvI [.int 3] rfl (by decide +kernel) mv_12_153 np_195 (Nat.le_of_ble_eq_true rfl) lq_159 ((congrArg Prod.fst sh_159).trans oc_195) (cI_use h (fun r1 s1 M1 h => (pn 111 rfl ?_)))
  have k1 : ∀ (z1 : Int32) (z1e : z1 = ((if r1 = 0 then 27 else 19) : Int32)), wM_readThing d 121 [.ref 159, .int l1, .null] [.int z1] s1 M1 Q := by
    intro z1 z1e
    subst z1e
    refine s_istore_n (i := 2) (by decide +kernel) (Nat.le_of_ble_eq_true rfl) (pn 122 rfl (t_store (ls' := [.ref 159, .int l1, .int ((if r1 = 0 then 27 else 19) : Int32)]) rfl ?_))
    refine s_aload_n (i := 0) (by decide +kernel) rfl (pn 123 rfl ?_)
    refine s_callvV [] rfl (by decide +kernel) mv_12_156 np_189 (Nat.le_of_ble_eq_true rfl) lq_159 ((congrArg Prod.fst sh_159).trans oc_189) (cV_use h (fun s2 M2 h => (pn 126 rfl ?_)))
    refine s_aload_n (i := 0) (by decide +kernel) rfl (pn 127 rfl ?_)
    refine s_getfield (v := .ref 163) (by decide +kernel) fr_12_24 lq_159 (congrArg Prod.fst sh_159) (fv_ref pf_159_4) (pn 130 rfl ?_)
    refine s_iload_n (i := 2) (by decide +kernel) rfl (pn 131 rfl ?_)
    refine s_iload_n (i := 1) (by decide +kernel) rfl (pn 132 rfl ?_)
    refine s_iadd (by decide +kernel) (pn 133 rfl ?_)
    refine s_aload_n (i := 0) (by decide +kernel) rfl (pn 134 rfl ?_)
    refine t_iconst (by decide +kernel) ki_0 (pn 135 rfl ?_)
    refine t_bipush (by decide +kernel) kb_9 (pn 137 rfl ?_)
    refine s_callvI [.int 0, .int 9] rfl (by decide +kernel) mv_12_203 np_197 (Nat.le_of_ble_eq_true rfl) lq_159 ((congrArg Prod.fst sh_159).trans oc_197) (cI_use h (fun r2 s3 M3 h => (pn 140 rfl ?_)))
    obtain ⟨b1, h⟩ := h
    refine t_iastore (k := (((if r1 = 0 then 27 else 19) : Int32) + l1).toNatClampNeg) (by decide +kernel) ⟨lq_163, congrArg Prod.fst sh_163⟩ (al_in sh_163 b1) rfl (pn 141 rfl ?_)
    refine s_goto (off := -58) (tgt := 83) (by decide +kernel) rfl ?_
    exact pm_weak [.ref 159, .int l1, .null] (pm_le_cons (Or.inr rfl) (pm_le_cons (Or.inr rfl) (pm_le_cons (Or.inl rfl) pm_le_nil))) h
  refine s_if_eq (off := 8) (tgt := 119) (by decide +kernel) rfl (fun c1 => ?_) (fun c1 => (pn 114 rfl ?_))
  · refine t_bipush (by decide +kernel) kb_27 (pn 121 rfl ?_)
    exact k1 _ (by simp only [if_pos c1])
  · refine t_bipush (by decide +kernel) kb_19 (pn 116 rfl ?_)
    refine s_goto (off := 5) (tgt := 121) (by decide +kernel) rfl ?_
    exact k1 _ (by simp only [if_neg c1])
abbrev wM_readPerson (d pc : Nat) (ls st : List Value) (s : pm_S) (M : pm_M) (Q : pm_S → pm_M → Prop) : Prop := wV d prog_14_method_29_code 12 none false pc ls st s M Q
theorem enM_readPerson {d : Nat} {s : pm_S} {M : pm_M}  {Q : pm_S → pm_M → Prop}  (h : (((M.1 163 3) = 6 → cV d yM_fails [.ref 159, .int 4] s M (fun s1 M1 => wM_readPerson d 18 [.ref 159, .int (M.1 163 3)] [] s1 M1 Q)) ∧ (¬ ((M.1 163 3) = 6) → wM_readPerson d 18 [.ref 159, .int (M.1 163 3)] [] s M Q))) : cV (d + 1) yM_readPerson [.ref 159] s M Q := by
  refine pm_toV (by decide) (Nat.le_of_ble_eq_true rfl) ?_
  show wM_readPerson d 0 [.ref 159, .null] [] s M Q
  refine s_aload_n (i := 0) (by decide +kernel) rfl (pn 1 rfl ?_)
  refine s_getfield (v := .ref 163) (by decide +kernel) fr_12_24 lq_159 (congrArg Prod.fst sh_159) (fv_ref pf_159_4) (pn 4 rfl ?_)
  refine t_iconst (by decide +kernel) ki_3 (pn 5 rfl ?_)
  refine t_iaload (v := M.1 163 3) (by decide +kernel) ⟨Or.inl lq_163, congrArg Prod.fst sh_163⟩ (al_in sh_163 (vp_lit (n := 1290) tn_3 (by decide) (by decide))) (by rw [tn_3] <;> rfl) (pn 6 rfl ?_)
  refine s_istore_n (i := 1) (by decide +kernel) (Nat.le_of_ble_eq_true rfl) (pn 7 rfl (t_store (ls' := [.ref 159, .int (M.1 163 3)]) rfl ?_))
  refine s_iload_n (i := 1) (by decide +kernel) rfl (pn 8 rfl ?_)
  refine t_bipush (by decide +kernel) kb_6 (pn 10 rfl ?_)
  refine t_icmp_ne (off := 8) (tgt := 18) (by decide +kernel) rfl (fun c1 => ?_) (fun c1 => (pn 13 rfl ?_))
  · have h := h.2 c1
    exact h
  · have h := h.1 c1
    refine s_aload_n (i := 0) (by decide +kernel) rfl (pn 14 rfl ?_)
    refine t_iconst (by decide +kernel) ki_4 (pn 15 rfl ?_)
    refine s_callvV [.int 4] rfl (by decide +kernel) mv_12_159 np_196 (Nat.le_of_ble_eq_true rfl) lq_159 ((congrArg Prod.fst sh_159).trans oc_196) (cV_use h (fun s1 M1 h => (pn 18 rfl ?_)))
    exact h
theorem sgM_readPerson_18 {d : Nat} {s : pm_S} {M : pm_M} {l1 : Int32} {Q : pm_S → pm_M → Prop}  (h : ((((M.1 159 11) = 0) → cV d yM_next [.ref 159] s M (fun s1 M1 => cI d yM_eats [.ref 159, .int 2] s1 M1 (fun r1 s2 M2 => ((r1 = 0 → cV d yM_fails [.ref 159, .int 2] s2 M2 (fun s3 M3 => wM_readPerson d 43 [.ref 159, .int l1] [] s3 M3 Q)) ∧ (¬ (r1 = 0) → wM_readPerson d 43 [.ref 159, .int l1] [] s2 M2 Q))))) ∧ (¬ ((M.1 159 11) = 0) → Q s M))) : wM_readPerson d 18 [.ref 159, .int l1] [] s M Q := by
  refine s_aload_n (i := 0) (by decide +kernel) rfl (pn 19 rfl ?_)
  refine s_getfield (v := .int (M.1 159 11)) (by decide +kernel) fr_12_147 lq_159 (congrArg Prod.fst sh_159) rfl (pn 22 rfl ?_)
  refine s_if_eq (off := 4) (tgt := 26) (by decide +kernel) rfl (fun c1 => ?_) (fun c1 => (pn 25 rfl ?_))
  · have h := h.1 c1
    refine s_aload_n (i := 0) (by decide +kernel) rfl (pn 27 rfl ?_)
    refine s_callvV [] rfl (by decide +kernel) mv_12_156 np_189 (Nat.le_of_ble_eq_true rfl) lq_159 ((congrArg Prod.fst sh_159).trans oc_189) (cV_use h (fun s1 M1 h => (pn 30 rfl ?_)))
    refine s_aload_n (i := 0) (by decide +kernel) rfl (pn 31 rfl ?_)
    refine t_iconst (by decide +kernel) ki_2 (pn 32 rfl ?_)
    refine s_callvI [.int 2] rfl (by decide +kernel) mv_12_182 np_194 (Nat.le_of_ble_eq_true rfl) lq_159 ((congrArg Prod.fst sh_159).trans oc_194) (cI_use h (fun r1 s2 M2 h => (pn 35 rfl ?_)))
    refine t_if_ne (off := 8) (tgt := 43) (by decide +kernel) rfl (fun c2 => ?_) (fun c2 => (pn 38 rfl ?_))
    · have h := h.2 c2
      exact h
    · have h := h.1 c2
      refine s_aload_n (i := 0) (by decide +kernel) rfl (pn 39 rfl ?_)
      refine t_iconst (by decide +kernel) ki_2 (pn 40 rfl ?_)
      refine s_callvV [.int 2] rfl (by decide +kernel) mv_12_159 np_196 (Nat.le_of_ble_eq_true rfl) lq_159 ((congrArg Prod.fst sh_159).trans oc_196) (cV_use h (fun s3 M3 h => (pn 43 rfl ?_)))
      exact h
  · have h := h.2 c1
    exact s_return (st := []) (by decide +kernel) rfl ⟨rfl, s, rfl, h⟩
theorem sgM_readPerson_43 {d : Nat} {s : pm_S} {M : pm_M} {l1 : Int32} {Q : pm_S → pm_M → Prop}  (h : cI d yM_takesN [.ref 159, .int 0, .int ((M.1 163 1) - 1)] s M (fun r1 s1 M1 => vp_in ((35 : Int32) + l1) 1290 ∧ vp_in ((41 : Int32) + l1) 1290 ∧ wM_readPerson d 76 [.ref 159, .int l1] [] s1 (pm_si (pm_si M1 163 ((35 : Int32) + l1).toNatClampNeg r1) 163 ((41 : Int32) + l1).toNatClampNeg 10) Q)) : wM_readPerson d 43 [.ref 159, .int l1] [] s M Q := by
  refine s_aload_n (i := 0) (by decide +kernel) rfl (pn 44 rfl ?_)
  refine s_getfield (v := .ref 163) (by decide +kernel) fr_12_24 lq_159 (congrArg Prod.fst sh_159) (fv_ref pf_159_4) (pn 47 rfl ?_)
  refine t_bipush (by decide +kernel) kb_35 (pn 49 rfl ?_)
  refine s_iload_n (i := 1) (by decide +kernel) rfl (pn 50 rfl ?_)
  refine s_iadd (by decide +kernel) (pn 51 rfl ?_)
  refine s_aload_n (i := 0) (by decide +kernel) rfl (pn 52 rfl ?_)
  refine t_iconst (by decide +kernel) ki_0 (pn 53 rfl ?_)
  refine s_aload_n (i := 0) (by decide +kernel) rfl (pn 54 rfl ?_)
  refine s_getfield (v := .ref 163) (by decide +kernel) fr_12_24 lq_159 (congrArg Prod.fst sh_159) (fv_ref pf_159_4) (pn 57 rfl ?_)
  refine t_iconst (by decide +kernel) ki_1 (pn 58 rfl ?_)
  refine t_iaload (v := M.1 163 1) (by decide +kernel) ⟨Or.inl lq_163, congrArg Prod.fst sh_163⟩ (al_in sh_163 (vp_lit (n := 1290) tn_1 (by decide) (by decide))) (by rw [tn_1] <;> rfl) (pn 59 rfl ?_)
  refine t_iconst (by decide +kernel) ki_1 (pn 60 rfl ?_)
  refine s_isub (by decide +kernel) (pn 61 rfl ?_)
  refine s_callvI [.int 0, .int ((M.1 163 1) - 1)] rfl (by decide +kernel) mv_12_203 np_197 (Nat.le_of_ble_eq_true rfl) lq_159 ((congrArg Prod.fst sh_159).trans oc_197) (cI_use h (fun r1 s1 M1 h => (pn 64 rfl ?_)))
  obtain ⟨b1, h⟩ := h
  refine t_iastore (k := ((35 : Int32) + l1).toNatClampNeg) (by decide +kernel) ⟨lq_163, congrArg Prod.fst sh_163⟩ (al_in sh_163 b1) rfl (pn 65 rfl ?_)
  refine s_aload_n (i := 0) (by decide +kernel) rfl (pn 66 rfl ?_)
  refine s_getfield (v := .ref 163) (by decide +kernel) fr_12_24 lq_159 (congrArg Prod.fst sh_159) (fv_ref pf_159_4) (pn 69 rfl ?_)
  refine t_bipush (by decide +kernel) kb_41 (pn 71 rfl ?_)
  refine s_iload_n (i := 1) (by decide +kernel) rfl (pn 72 rfl ?_)
  refine s_iadd (by decide +kernel) (pn 73 rfl ?_)
  refine t_bipush (by decide +kernel) kb_10 (pn 75 rfl ?_)
  obtain ⟨b2, h⟩ := h
  refine t_iastore (k := ((41 : Int32) + l1).toNatClampNeg) (by decide +kernel) ⟨lq_163, congrArg Prod.fst sh_163⟩ (al_in sh_163 b2) rfl (pn 76 rfl ?_)
  exact h
theorem sgM_readPerson_76 {d : Nat} {s : pm_S} {M : pm_M} {l1 : Int32} {Q : pm_S → pm_M → Prop}  (h : (((M.1 159 11) = 0 → cI d yM_readFlag [.ref 159, .int l1] s M (fun r1 s1 M1 => (((r1 = 0) → (((M1.1 159 11) = 0 → Q s1 (pm_si M1 163 3 ((M1.1 163 3) + 1))) ∧ (¬ ((M1.1 159 11) = 0) → Q s1 M1))) ∧ (¬ (r1 = 0) → wM_readPerson d 76 [.ref 159, .int l1] [] s1 M1 Q)))) ∧ (¬ ((M.1 159 11) = 0) → (((M.1 159 11) = 0 → Q s (pm_si M 163 3 ((M.1 163 3) + 1))) ∧ (¬ ((M.1 159 11) = 0) → Q s M))))) : wM_readPerson d 76 [.ref 159, .int l1] [] s M Q := by
  refine s_aload_n (i := 0) (by decide +kernel) rfl (pn 77 rfl ?_)
  refine s_getfield (v := .int (M.1 159 11)) (by decide +kernel) fr_12_147 lq_159 (congrArg Prod.fst sh_159) rfl (pn 80 rfl ?_)
  refine t_if_ne (off := 14) (tgt := 94) (by decide +kernel) rfl (fun c1 => ?_) (fun c1 => (pn 83 rfl ?_))
  · have h := h.2 c1
    refine s_aload_n (i := 0) (by decide +kernel) rfl (pn 95 rfl ?_)
    refine s_getfield (v := .int (M.1 159 11)) (by decide +kernel) fr_12_147 lq_159 (congrArg Prod.fst sh_159) rfl (pn 98 rfl ?_)
    refine t_if_ne (off := 13) (tgt := 111) (by decide +kernel) rfl (fun c2 => ?_) (fun c2 => (pn 101 rfl ?_))
    · have h := h.2 c2
      exact s_return (st := []) (by decide +kernel) rfl ⟨rfl, s, rfl, h⟩
    · have h := h.1 c2
      refine s_aload_n (i := 0) (by decide +kernel) rfl (pn 102 rfl ?_)
      refine s_getfield (v := .ref 163) (by decide +kernel) fr_12_24 lq_159 (congrArg Prod.fst sh_159) (fv_ref pf_159_4) (pn 105 rfl ?_)
      refine t_iconst (by decide +kernel) ki_3 (pn 106 rfl ?_)
      refine s_dup2 (by decide +kernel) rfl rfl (pn 107 rfl ?_)
      refine t_iaload (v := M.1 163 3) (by decide +kernel) ⟨Or.inl lq_163, congrArg Prod.fst sh_163⟩ (al_in sh_163 (vp_lit (n := 1290) tn_3 (by decide) (by decide))) (by rw [tn_3] <;> rfl) (pn 108 rfl ?_)
      refine t_iconst (by decide +kernel) ki_1 (pn 109 rfl ?_)
      refine s_iadd (by decide +kernel) (pn 110 rfl ?_)
      refine t_iastore (k := 3) (by decide +kernel) ⟨lq_163, congrArg Prod.fst sh_163⟩ (al_in sh_163 (vp_lit (n := 1290) tn_3 (by decide) (by decide))) tn_3 (pn 111 rfl ?_)
      exact s_return (st := []) (by decide +kernel) rfl ⟨rfl, s, rfl, h⟩
  · have h := h.1 c1
    refine s_aload_n (i := 0) (by decide +kernel) rfl (pn 84 rfl ?_)
    refine s_iload_n (i := 1) (by decide +kernel) rfl (pn 85 rfl ?_)
    refine s_callvI [.int l1] rfl (by decide +kernel) mv_12_210 np_202 (Nat.le_of_ble_eq_true rfl) lq_159 ((congrArg Prod.fst sh_159).trans oc_202) (cI_use h (fun r1 s1 M1 h => (pn 88 rfl ?_)))
    refine s_if_eq (off := 6) (tgt := 94) (by decide +kernel) rfl (fun c3 => ?_) (fun c3 => (pn 91 rfl ?_))
    · have h := h.1 c3
      refine s_aload_n (i := 0) (by decide +kernel) rfl (pn 95 rfl ?_)
      refine s_getfield (v := .int (M1.1 159 11)) (by decide +kernel) fr_12_147 lq_159 (congrArg Prod.fst sh_159) rfl (pn 98 rfl ?_)
      refine t_if_ne (off := 13) (tgt := 111) (by decide +kernel) rfl (fun c4 => ?_) (fun c4 => (pn 101 rfl ?_))
      · have h := h.2 c4
        exact s_return (st := []) (by decide +kernel) rfl ⟨rfl, s1, rfl, h⟩
      · have h := h.1 c4
        refine s_aload_n (i := 0) (by decide +kernel) rfl (pn 102 rfl ?_)
        refine s_getfield (v := .ref 163) (by decide +kernel) fr_12_24 lq_159 (congrArg Prod.fst sh_159) (fv_ref pf_159_4) (pn 105 rfl ?_)
        refine t_iconst (by decide +kernel) ki_3 (pn 106 rfl ?_)
        refine s_dup2 (by decide +kernel) rfl rfl (pn 107 rfl ?_)
        refine t_iaload (v := M1.1 163 3) (by decide +kernel) ⟨Or.inl lq_163, congrArg Prod.fst sh_163⟩ (al_in sh_163 (vp_lit (n := 1290) tn_3 (by decide) (by decide))) (by rw [tn_3] <;> rfl) (pn 108 rfl ?_)
        refine t_iconst (by decide +kernel) ki_1 (pn 109 rfl ?_)
        refine s_iadd (by decide +kernel) (pn 110 rfl ?_)
        refine t_iastore (k := 3) (by decide +kernel) ⟨lq_163, congrArg Prod.fst sh_163⟩ (al_in sh_163 (vp_lit (n := 1290) tn_3 (by decide) (by decide))) tn_3 (pn 111 rfl ?_)
        exact s_return (st := []) (by decide +kernel) rfl ⟨rfl, s1, rfl, h⟩
    · have h := h.2 c3
      refine s_goto (off := -15) (tgt := 76) (by decide +kernel) rfl ?_
      exact h
abbrev wM_readFlag (d pc : Nat) (ls st : List Value) (s : pm_S) (M : pm_M) (Q : Int32 → pm_S → pm_M → Prop) : Prop := wI d prog_14_method_28_code 12 (some .boolean) false pc ls st s M Q
theorem enM_readFlag {d : Nat} {s : pm_S} {M : pm_M} {x1 : Int32} {Q : Int32 → pm_S → pm_M → Prop}  (h : cI d yM_eats [.ref 159, .int 6] s M (fun r1 s1 M1 => (((r1 = 0) → cI d yM_eats [.ref 159, .int 7] s1 M1 (fun r2 s2 M2 => (((r2 = 0) → cI d yM_eats [.ref 159, .int 8] s2 M2 (fun r3 s3 M3 => (((r3 = 0) → Q 0 s3 M3) ∧ (¬ (r3 = 0) → cV d yM_readHolds [.ref 159, .int x1] s3 M3 (fun s4 M4 => Q ((if (M4.1 159 11) = 0 then 1 else 0) : Int32) s4 M4))))) ∧ (¬ (r2 = 0) → cI d yM_takesN [.ref 159, .int 0, .int 99] s2 M2 (fun r4 s5 M5 => vp_in ((41 : Int32) + x1) 1290 ∧ Q ((if (M5.1 159 11) = 0 then 1 else 0) : Int32) s5 (pm_si M5 163 ((41 : Int32) + x1).toNatClampNeg r4)))))) ∧ (¬ (r1 = 0) → cI d yM_takesN [.ref 159, .int 0, .int 9] s1 M1 (fun r5 s6 M6 => vp_in ((66 : Int32) + x1) 1290 ∧ Q ((if (M6.1 159 11) = 0 then 1 else 0) : Int32) s6 (pm_si M6 163 ((66 : Int32) + x1).toNatClampNeg r5)))))) : cI (d + 1) yM_readFlag [.ref 159, .int x1] s M Q := by
  refine pm_toI (by decide) (Nat.le_of_ble_eq_true rfl) ?_
  show wM_readFlag d 0 [.ref 159, .int x1] [] s M Q
  refine s_aload_n (i := 0) (by decide +kernel) rfl (pn 1 rfl ?_)
  refine t_bipush (by decide +kernel) kb_6 (pn 3 rfl ?_)
  refine s_callvI [.int 6] rfl (by decide +kernel) mv_12_182 np_194 (Nat.le_of_ble_eq_true rfl) lq_159 ((congrArg Prod.fst sh_159).trans oc_194) (cI_use h (fun r1 s1 M1 h => (pn 6 rfl ?_)))
  refine s_if_eq (off := 22) (tgt := 28) (by decide +kernel) rfl (fun c1 => ?_) (fun c1 => (pn 9 rfl ?_))
  · have h := h.1 c1
    refine s_aload_n (i := 0) (by decide +kernel) rfl (pn 29 rfl ?_)
    refine t_bipush (by decide +kernel) kb_7 (pn 31 rfl ?_)
    refine s_callvI [.int 7] rfl (by decide +kernel) mv_12_182 np_194 (Nat.le_of_ble_eq_true rfl) lq_159 ((congrArg Prod.fst sh_159).trans oc_194) (cI_use h (fun r2 s2 M2 h => (pn 34 rfl ?_)))
    refine s_if_eq (off := 22) (tgt := 56) (by decide +kernel) rfl (fun c2 => ?_) (fun c2 => (pn 37 rfl ?_))
    · have h := h.1 c2
      refine s_aload_n (i := 0) (by decide +kernel) rfl (pn 57 rfl ?_)
      refine t_bipush (by decide +kernel) kb_8 (pn 59 rfl ?_)
      refine s_callvI [.int 8] rfl (by decide +kernel) mv_12_182 np_194 (Nat.le_of_ble_eq_true rfl) lq_159 ((congrArg Prod.fst sh_159).trans oc_194) (cI_use h (fun r3 s3 M3 h => (pn 62 rfl ?_)))
      refine s_if_eq (off := 11) (tgt := 73) (by decide +kernel) rfl (fun c3 => ?_) (fun c3 => (pn 65 rfl ?_))
      · have h := h.1 c3
        refine t_iconst (by decide +kernel) ki_0 (pn 74 rfl ?_)
        exact s_ireturn (st := []) (by decide +kernel) (Or.inr ⟨rfl, (Or.inl rfl)⟩) ⟨_, rfl, s3, rfl, h⟩
      · have h := h.2 c3
        refine s_aload_n (i := 0) (by decide +kernel) rfl (pn 66 rfl ?_)
        refine s_iload_n (i := 1) (by decide +kernel) rfl (pn 67 rfl ?_)
        refine s_callvV [.int x1] rfl (by decide +kernel) mv_12_207 np_203 (Nat.le_of_ble_eq_true rfl) lq_159 ((congrArg Prod.fst sh_159).trans oc_203) (cV_use h (fun s4 M4 h => (pn 70 rfl ?_)))
        refine s_goto (off := 5) (tgt := 75) (by decide +kernel) rfl ?_
        refine s_aload_n (i := 0) (by decide +kernel) rfl (pn 76 rfl ?_)
        refine s_getfield (v := .int (M4.1 159 11)) (by decide +kernel) fr_12_147 lq_159 (congrArg Prod.fst sh_159) rfl (pn 79 rfl ?_)
        have k1 : ∀ (z1 : Int32) (z1e : z1 = ((if (M4.1 159 11) = 0 then 1 else 0) : Int32)), wM_readFlag d 87 [.ref 159, .int x1] [.int z1] s4 M4 Q := by
          intro z1 z1e
          subst z1e
          exact s_ireturn (st := []) (by decide +kernel) (Or.inr ⟨rfl, (or01 (Or.inr rfl) (Or.inl rfl))⟩) ⟨_, rfl, s4, rfl, h⟩
        refine t_if_ne (off := 7) (tgt := 86) (by decide +kernel) rfl (fun c4 => ?_) (fun c4 => (pn 82 rfl ?_))
        · refine t_iconst (by decide +kernel) ki_0 (pn 87 rfl ?_)
          exact k1 _ (by simp only [if_neg c4])
        · refine t_iconst (by decide +kernel) ki_1 (pn 83 rfl ?_)
          refine s_goto (off := 4) (tgt := 87) (by decide +kernel) rfl ?_
          exact k1 _ (by simp only [if_pos c4])
    · have h := h.2 c2
      refine s_aload_n (i := 0) (by decide +kernel) rfl (pn 38 rfl ?_)
      refine s_getfield (v := .ref 163) (by decide +kernel) fr_12_24 lq_159 (congrArg Prod.fst sh_159) (fv_ref pf_159_4) (pn 41 rfl ?_)
      refine t_bipush (by decide +kernel) kb_41 (pn 43 rfl ?_)
      refine s_iload_n (i := 1) (by decide +kernel) rfl (pn 44 rfl ?_)
      refine s_iadd (by decide +kernel) (pn 45 rfl ?_)
      refine s_aload_n (i := 0) (by decide +kernel) rfl (pn 46 rfl ?_)
      refine t_iconst (by decide +kernel) ki_0 (pn 47 rfl ?_)
      refine t_bipush (by decide +kernel) kb_99 (pn 49 rfl ?_)
      refine s_callvI [.int 0, .int 99] rfl (by decide +kernel) mv_12_203 np_197 (Nat.le_of_ble_eq_true rfl) lq_159 ((congrArg Prod.fst sh_159).trans oc_197) (cI_use h (fun r4 s5 M5 h => (pn 52 rfl ?_)))
      obtain ⟨b1, h⟩ := h
      refine t_iastore (k := ((41 : Int32) + x1).toNatClampNeg) (by decide +kernel) ⟨lq_163, congrArg Prod.fst sh_163⟩ (al_in sh_163 b1) rfl (pn 53 rfl ?_)
      refine s_goto (off := 22) (tgt := 75) (by decide +kernel) rfl ?_
      refine s_aload_n (i := 0) (by decide +kernel) rfl (pn 76 rfl ?_)
      refine s_getfield (v := .int (M5.1 159 11)) (by decide +kernel) fr_12_147 lq_159 (congrArg Prod.fst sh_159) rfl (pn 79 rfl ?_)
      have k2 : ∀ (z2 : Int32) (z2e : z2 = ((if (M5.1 159 11) = 0 then 1 else 0) : Int32)), wM_readFlag d 87 [.ref 159, .int x1] [.int z2] s5 (pm_si M5 163 ((41 : Int32) + x1).toNatClampNeg r4) Q := by
        intro z2 z2e
        subst z2e
        exact s_ireturn (st := []) (by decide +kernel) (Or.inr ⟨rfl, (or01 (Or.inr rfl) (Or.inl rfl))⟩) ⟨_, rfl, s5, rfl, h⟩
      refine t_if_ne (off := 7) (tgt := 86) (by decide +kernel) rfl (fun c5 => ?_) (fun c5 => (pn 82 rfl ?_))
      · refine t_iconst (by decide +kernel) ki_0 (pn 87 rfl ?_)
        exact k2 _ (by simp only [if_neg c5])
      · refine t_iconst (by decide +kernel) ki_1 (pn 83 rfl ?_)
        refine s_goto (off := 4) (tgt := 87) (by decide +kernel) rfl ?_
        exact k2 _ (by simp only [if_pos c5])
  · have h := h.2 c1
    refine s_aload_n (i := 0) (by decide +kernel) rfl (pn 10 rfl ?_)
    refine s_getfield (v := .ref 163) (by decide +kernel) fr_12_24 lq_159 (congrArg Prod.fst sh_159) (fv_ref pf_159_4) (pn 13 rfl ?_)
    refine t_bipush (by decide +kernel) kb_66 (pn 15 rfl ?_)
    refine s_iload_n (i := 1) (by decide +kernel) rfl (pn 16 rfl ?_)
    refine s_iadd (by decide +kernel) (pn 17 rfl ?_)
    refine s_aload_n (i := 0) (by decide +kernel) rfl (pn 18 rfl ?_)
    refine t_iconst (by decide +kernel) ki_0 (pn 19 rfl ?_)
    refine t_bipush (by decide +kernel) kb_9 (pn 21 rfl ?_)
    refine s_callvI [.int 0, .int 9] rfl (by decide +kernel) mv_12_203 np_197 (Nat.le_of_ble_eq_true rfl) lq_159 ((congrArg Prod.fst sh_159).trans oc_197) (cI_use h (fun r5 s6 M6 h => (pn 24 rfl ?_)))
    obtain ⟨b2, h⟩ := h
    refine t_iastore (k := ((66 : Int32) + x1).toNatClampNeg) (by decide +kernel) ⟨lq_163, congrArg Prod.fst sh_163⟩ (al_in sh_163 b2) rfl (pn 25 rfl ?_)
    refine s_goto (off := 50) (tgt := 75) (by decide +kernel) rfl ?_
    refine s_aload_n (i := 0) (by decide +kernel) rfl (pn 76 rfl ?_)
    refine s_getfield (v := .int (M6.1 159 11)) (by decide +kernel) fr_12_147 lq_159 (congrArg Prod.fst sh_159) rfl (pn 79 rfl ?_)
    have k3 : ∀ (z3 : Int32) (z3e : z3 = ((if (M6.1 159 11) = 0 then 1 else 0) : Int32)), wM_readFlag d 87 [.ref 159, .int x1] [.int z3] s6 (pm_si M6 163 ((66 : Int32) + x1).toNatClampNeg r5) Q := by
      intro z3 z3e
      subst z3e
      exact s_ireturn (st := []) (by decide +kernel) (Or.inr ⟨rfl, (or01 (Or.inr rfl) (Or.inl rfl))⟩) ⟨_, rfl, s6, rfl, h⟩
    refine t_if_ne (off := 7) (tgt := 86) (by decide +kernel) rfl (fun c6 => ?_) (fun c6 => (pn 82 rfl ?_))
    · refine t_iconst (by decide +kernel) ki_0 (pn 87 rfl ?_)
      exact k3 _ (by simp only [if_neg c6])
    · refine t_iconst (by decide +kernel) ki_1 (pn 83 rfl ?_)
      refine s_goto (off := 4) (tgt := 87) (by decide +kernel) rfl ?_
      exact k3 _ (by simp only [if_pos c6])
abbrev wM_readHolds (d pc : Nat) (ls st : List Value) (s : pm_S) (M : pm_M) (Q : pm_S → pm_M → Prop) : Prop := wV d prog_14_method_27_code 12 none false pc ls st s M Q
theorem enM_readHolds {d : Nat} {s : pm_S} {M : pm_M} {x1 : Int32} {Q : pm_S → pm_M → Prop}  (h : cI d yM_is [.ref 159, .int 23] s M (fun r1 s1 M1 => (((r1 = 0) → cI d yM_takesN [.ref 159, .int 0, .int ((M1.1 163 2) - 1)] s1 M1 (fun r2 s2 M2 => ((((M2.1 159 11) = 0) → wM_readHolds d 68 [.ref 159, .int x1, .int r2, .int 0] [] s2 M2 Q) ∧ (¬ ((M2.1 159 11) = 0) → Q s2 M2)))) ∧ (¬ (r1 = 0) → ((((M1.1 163 2) ≤ (M1.1 159 10)) → cI d yM_takesN [.ref 159, .int 0, .int ((M1.1 163 2) - 1)] s1 M1 (fun r3 s3 M3 => ((((M3.1 159 11) = 0) → wM_readHolds d 68 [.ref 159, .int x1, .int r3, .int 0] [] s3 M3 Q) ∧ (¬ ((M3.1 159 11) = 0) → Q s3 M3)))) ∧ (¬ ((M1.1 163 2) ≤ (M1.1 159 10)) → vp_in ((50 : Int32) + (M1.1 159 10)) 1290 ∧ ((((M1.1 163 ((50 : Int32) + (M1.1 159 10)).toNatClampNeg) < 10) → cI d yM_takesN [.ref 159, .int 0, .int ((M1.1 163 2) - 1)] s1 M1 (fun r4 s4 M4 => ((((M4.1 159 11) = 0) → wM_readHolds d 68 [.ref 159, .int x1, .int r4, .int 0] [] s4 M4 Q) ∧ (¬ ((M4.1 159 11) = 0) → Q s4 M4)))) ∧ (¬ ((M1.1 163 ((50 : Int32) + (M1.1 159 10)).toNatClampNeg) < 10) → cV d yM_fails [.ref 159, .int 3] s1 M1 (fun s5 M5 => cI d yM_takesN [.ref 159, .int 0, .int ((M5.1 163 2) - 1)] s5 M5 (fun r5 s6 M6 => ((((M6.1 159 11) = 0) → wM_readHolds d 68 [.ref 159, .int x1, .int r5, .int 0] [] s6 M6 Q) ∧ (¬ ((M6.1 159 11) = 0) → Q s6 M6)))))))))))) : cV (d + 1) yM_readHolds [.ref 159, .int x1] s M Q := by
  refine pm_toV (by decide) (Nat.le_of_ble_eq_true rfl) ?_
  show wM_readHolds d 0 [.ref 159, .int x1, .null, .null] [] s M Q
  refine s_aload_n (i := 0) (by decide +kernel) rfl (pn 1 rfl ?_)
  refine t_bipush (by decide +kernel) kb_23 (pn 3 rfl ?_)
  refine s_callvI [.int 23] rfl (by decide +kernel) mv_12_153 np_195 (Nat.le_of_ble_eq_true rfl) lq_159 ((congrArg Prod.fst sh_159).trans oc_195) (cI_use h (fun r1 s1 M1 h => (pn 6 rfl ?_)))
  refine s_if_eq (off := 38) (tgt := 44) (by decide +kernel) rfl (fun c1 => ?_) (fun c1 => (pn 9 rfl ?_))
  · have h := h.1 c1
    refine s_aload_n (i := 0) (by decide +kernel) rfl (pn 45 rfl ?_)
    refine t_iconst (by decide +kernel) ki_0 (pn 46 rfl ?_)
    refine s_aload_n (i := 0) (by decide +kernel) rfl (pn 47 rfl ?_)
    refine s_getfield (v := .ref 163) (by decide +kernel) fr_12_24 lq_159 (congrArg Prod.fst sh_159) (fv_ref pf_159_4) (pn 50 rfl ?_)
    refine t_iconst (by decide +kernel) ki_2 (pn 51 rfl ?_)
    refine t_iaload (v := M1.1 163 2) (by decide +kernel) ⟨Or.inl lq_163, congrArg Prod.fst sh_163⟩ (al_in sh_163 (vp_lit (n := 1290) tn_2 (by decide) (by decide))) (by rw [tn_2] <;> rfl) (pn 52 rfl ?_)
    refine t_iconst (by decide +kernel) ki_1 (pn 53 rfl ?_)
    refine s_isub (by decide +kernel) (pn 54 rfl ?_)
    refine s_callvI [.int 0, .int ((M1.1 163 2) - 1)] rfl (by decide +kernel) mv_12_203 np_197 (Nat.le_of_ble_eq_true rfl) lq_159 ((congrArg Prod.fst sh_159).trans oc_197) (cI_use h (fun r2 s2 M2 h => (pn 57 rfl ?_)))
    refine s_istore_n (i := 2) (by decide +kernel) (Nat.le_of_ble_eq_true rfl) (pn 58 rfl (t_store (ls' := [.ref 159, .int x1, .int r2, .null]) rfl ?_))
    refine s_aload_n (i := 0) (by decide +kernel) rfl (pn 59 rfl ?_)
    refine s_getfield (v := .int (M2.1 159 11)) (by decide +kernel) fr_12_147 lq_159 (congrArg Prod.fst sh_159) rfl (pn 62 rfl ?_)
    refine s_if_eq (off := 4) (tgt := 66) (by decide +kernel) rfl (fun c4 => ?_) (fun c4 => (pn 65 rfl ?_))
    · have h := h.1 c4
      refine t_iconst (by decide +kernel) ki_0 (pn 67 rfl ?_)
      refine s_istore_n (i := 3) (by decide +kernel) (Nat.le_of_ble_eq_true rfl) (pn 68 rfl (t_store (ls' := [.ref 159, .int x1, .int r2, .int 0]) rfl ?_))
      exact h
    · have h := h.2 c4
      exact s_return (st := []) (by decide +kernel) rfl ⟨rfl, s2, rfl, h⟩
  · have h := h.2 c1
    refine s_aload_n (i := 0) (by decide +kernel) rfl (pn 10 rfl ?_)
    refine s_getfield (v := .int (M1.1 159 10)) (by decide +kernel) fr_12_142 lq_159 (congrArg Prod.fst sh_159) rfl (pn 13 rfl ?_)
    refine s_aload_n (i := 0) (by decide +kernel) rfl (pn 14 rfl ?_)
    refine s_getfield (v := .ref 163) (by decide +kernel) fr_12_24 lq_159 (congrArg Prod.fst sh_159) (fv_ref pf_159_4) (pn 17 rfl ?_)
    refine t_iconst (by decide +kernel) ki_2 (pn 18 rfl ?_)
    refine t_iaload (v := M1.1 163 2) (by decide +kernel) ⟨Or.inl lq_163, congrArg Prod.fst sh_163⟩ (al_in sh_163 (vp_lit (n := 1290) tn_2 (by decide) (by decide))) (by rw [tn_2] <;> rfl) (pn 19 rfl ?_)
    refine s_icmp_ge (off := 25) (tgt := 44) (by decide +kernel) rfl (fun c5 => ?_) (fun c5 => (pn 22 rfl ?_))
    · have h := h.1 c5
      refine s_aload_n (i := 0) (by decide +kernel) rfl (pn 45 rfl ?_)
      refine t_iconst (by decide +kernel) ki_0 (pn 46 rfl ?_)
      refine s_aload_n (i := 0) (by decide +kernel) rfl (pn 47 rfl ?_)
      refine s_getfield (v := .ref 163) (by decide +kernel) fr_12_24 lq_159 (congrArg Prod.fst sh_159) (fv_ref pf_159_4) (pn 50 rfl ?_)
      refine t_iconst (by decide +kernel) ki_2 (pn 51 rfl ?_)
      refine t_iaload (v := M1.1 163 2) (by decide +kernel) ⟨Or.inl lq_163, congrArg Prod.fst sh_163⟩ (al_in sh_163 (vp_lit (n := 1290) tn_2 (by decide) (by decide))) (by rw [tn_2] <;> rfl) (pn 52 rfl ?_)
      refine t_iconst (by decide +kernel) ki_1 (pn 53 rfl ?_)
      refine s_isub (by decide +kernel) (pn 54 rfl ?_)
      refine s_callvI [.int 0, .int ((M1.1 163 2) - 1)] rfl (by decide +kernel) mv_12_203 np_197 (Nat.le_of_ble_eq_true rfl) lq_159 ((congrArg Prod.fst sh_159).trans oc_197) (cI_use h (fun r3 s3 M3 h => (pn 57 rfl ?_)))
      refine s_istore_n (i := 2) (by decide +kernel) (Nat.le_of_ble_eq_true rfl) (pn 58 rfl (t_store (ls' := [.ref 159, .int x1, .int r3, .null]) rfl ?_))
      refine s_aload_n (i := 0) (by decide +kernel) rfl (pn 59 rfl ?_)
      refine s_getfield (v := .int (M3.1 159 11)) (by decide +kernel) fr_12_147 lq_159 (congrArg Prod.fst sh_159) rfl (pn 62 rfl ?_)
      refine s_if_eq (off := 4) (tgt := 66) (by decide +kernel) rfl (fun c7 => ?_) (fun c7 => (pn 65 rfl ?_))
      · have h := h.1 c7
        refine t_iconst (by decide +kernel) ki_0 (pn 67 rfl ?_)
        refine s_istore_n (i := 3) (by decide +kernel) (Nat.le_of_ble_eq_true rfl) (pn 68 rfl (t_store (ls' := [.ref 159, .int x1, .int r3, .int 0]) rfl ?_))
        exact h
      · have h := h.2 c7
        exact s_return (st := []) (by decide +kernel) rfl ⟨rfl, s3, rfl, h⟩
    · have h := h.2 c5
      refine s_aload_n (i := 0) (by decide +kernel) rfl (pn 23 rfl ?_)
      refine s_getfield (v := .ref 163) (by decide +kernel) fr_12_24 lq_159 (congrArg Prod.fst sh_159) (fv_ref pf_159_4) (pn 26 rfl ?_)
      refine t_bipush (by decide +kernel) kb_50 (pn 28 rfl ?_)
      refine s_aload_n (i := 0) (by decide +kernel) rfl (pn 29 rfl ?_)
      refine s_getfield (v := .int (M1.1 159 10)) (by decide +kernel) fr_12_142 lq_159 (congrArg Prod.fst sh_159) rfl (pn 32 rfl ?_)
      refine s_iadd (by decide +kernel) (pn 33 rfl ?_)
      obtain ⟨b1, h⟩ := h
      refine t_iaload (v := M1.1 163 ((50 : Int32) + (M1.1 159 10)).toNatClampNeg) (by decide +kernel) ⟨Or.inl lq_163, congrArg Prod.fst sh_163⟩ (al_in sh_163 b1) rfl (pn 34 rfl ?_)
      refine t_bipush (by decide +kernel) kb_10 (pn 36 rfl ?_)
      refine s_icmp_lt (off := 8) (tgt := 44) (by decide +kernel) rfl (fun c8 => ?_) (fun c8 => (pn 39 rfl ?_))
      · have h := h.1 c8
        refine s_aload_n (i := 0) (by decide +kernel) rfl (pn 45 rfl ?_)
        refine t_iconst (by decide +kernel) ki_0 (pn 46 rfl ?_)
        refine s_aload_n (i := 0) (by decide +kernel) rfl (pn 47 rfl ?_)
        refine s_getfield (v := .ref 163) (by decide +kernel) fr_12_24 lq_159 (congrArg Prod.fst sh_159) (fv_ref pf_159_4) (pn 50 rfl ?_)
        refine t_iconst (by decide +kernel) ki_2 (pn 51 rfl ?_)
        refine t_iaload (v := M1.1 163 2) (by decide +kernel) ⟨Or.inl lq_163, congrArg Prod.fst sh_163⟩ (al_in sh_163 (vp_lit (n := 1290) tn_2 (by decide) (by decide))) (by rw [tn_2] <;> rfl) (pn 52 rfl ?_)
        refine t_iconst (by decide +kernel) ki_1 (pn 53 rfl ?_)
        refine s_isub (by decide +kernel) (pn 54 rfl ?_)
        refine s_callvI [.int 0, .int ((M1.1 163 2) - 1)] rfl (by decide +kernel) mv_12_203 np_197 (Nat.le_of_ble_eq_true rfl) lq_159 ((congrArg Prod.fst sh_159).trans oc_197) (cI_use h (fun r4 s4 M4 h => (pn 57 rfl ?_)))
        refine s_istore_n (i := 2) (by decide +kernel) (Nat.le_of_ble_eq_true rfl) (pn 58 rfl (t_store (ls' := [.ref 159, .int x1, .int r4, .null]) rfl ?_))
        refine s_aload_n (i := 0) (by decide +kernel) rfl (pn 59 rfl ?_)
        refine s_getfield (v := .int (M4.1 159 11)) (by decide +kernel) fr_12_147 lq_159 (congrArg Prod.fst sh_159) rfl (pn 62 rfl ?_)
        refine s_if_eq (off := 4) (tgt := 66) (by decide +kernel) rfl (fun c9 => ?_) (fun c9 => (pn 65 rfl ?_))
        · have h := h.1 c9
          refine t_iconst (by decide +kernel) ki_0 (pn 67 rfl ?_)
          refine s_istore_n (i := 3) (by decide +kernel) (Nat.le_of_ble_eq_true rfl) (pn 68 rfl (t_store (ls' := [.ref 159, .int x1, .int r4, .int 0]) rfl ?_))
          exact h
        · have h := h.2 c9
          exact s_return (st := []) (by decide +kernel) rfl ⟨rfl, s4, rfl, h⟩
      · have h := h.2 c8
        refine s_aload_n (i := 0) (by decide +kernel) rfl (pn 40 rfl ?_)
        refine t_iconst (by decide +kernel) ki_3 (pn 41 rfl ?_)
        refine s_callvV [.int 3] rfl (by decide +kernel) mv_12_159 np_196 (Nat.le_of_ble_eq_true rfl) lq_159 ((congrArg Prod.fst sh_159).trans oc_196) (cV_use h (fun s5 M5 h => (pn 44 rfl ?_)))
        refine s_aload_n (i := 0) (by decide +kernel) rfl (pn 45 rfl ?_)
        refine t_iconst (by decide +kernel) ki_0 (pn 46 rfl ?_)
        refine s_aload_n (i := 0) (by decide +kernel) rfl (pn 47 rfl ?_)
        refine s_getfield (v := .ref 163) (by decide +kernel) fr_12_24 lq_159 (congrArg Prod.fst sh_159) (fv_ref pf_159_4) (pn 50 rfl ?_)
        refine t_iconst (by decide +kernel) ki_2 (pn 51 rfl ?_)
        refine t_iaload (v := M5.1 163 2) (by decide +kernel) ⟨Or.inl lq_163, congrArg Prod.fst sh_163⟩ (al_in sh_163 (vp_lit (n := 1290) tn_2 (by decide) (by decide))) (by rw [tn_2] <;> rfl) (pn 52 rfl ?_)
        refine t_iconst (by decide +kernel) ki_1 (pn 53 rfl ?_)
        refine s_isub (by decide +kernel) (pn 54 rfl ?_)
        refine s_callvI [.int 0, .int ((M5.1 163 2) - 1)] rfl (by decide +kernel) mv_12_203 np_197 (Nat.le_of_ble_eq_true rfl) lq_159 ((congrArg Prod.fst sh_159).trans oc_197) (cI_use h (fun r5 s6 M6 h => (pn 57 rfl ?_)))
        refine s_istore_n (i := 2) (by decide +kernel) (Nat.le_of_ble_eq_true rfl) (pn 58 rfl (t_store (ls' := [.ref 159, .int x1, .int r5, .null]) rfl ?_))
        refine s_aload_n (i := 0) (by decide +kernel) rfl (pn 59 rfl ?_)
        refine s_getfield (v := .int (M6.1 159 11)) (by decide +kernel) fr_12_147 lq_159 (congrArg Prod.fst sh_159) rfl (pn 62 rfl ?_)
        refine s_if_eq (off := 4) (tgt := 66) (by decide +kernel) rfl (fun c10 => ?_) (fun c10 => (pn 65 rfl ?_))
        · have h := h.1 c10
          refine t_iconst (by decide +kernel) ki_0 (pn 67 rfl ?_)
          refine s_istore_n (i := 3) (by decide +kernel) (Nat.le_of_ble_eq_true rfl) (pn 68 rfl (t_store (ls' := [.ref 159, .int x1, .int r5, .int 0]) rfl ?_))
          exact h
        · have h := h.2 c10
          exact s_return (st := []) (by decide +kernel) rfl ⟨rfl, s6, rfl, h⟩
theorem sgM_readHolds_68 {d : Nat} {s : pm_S} {M : pm_M} {l1 : Int32} {l2 : Int32} {l3 : Int32} {Q : pm_S → pm_M → Prop}  (h : ((((M.1 163 2) ≤ l3) → vp_in ((50 : Int32) + l2) 1290 ∧ Q s (pm_si M 163 ((50 : Int32) + l2).toNatClampNeg ((10 : Int32) + l1))) ∧ (¬ ((M.1 163 2) ≤ l3) → vp_in ((50 : Int32) + l3) 1290 ∧ (((M.1 163 ((50 : Int32) + l3).toNatClampNeg) = ((10 : Int32) + l1) → vp_in ((11 : Int32) + l3) 1290 ∧ vp_in ((50 : Int32) + l3) 1290 ∧ wM_readHolds d 68 [.ref 159, .int l1, .int l2, .int (l3 + 1)] [] s (pm_si M 163 ((50 : Int32) + l3).toNatClampNeg (M.1 163 ((11 : Int32) + l3).toNatClampNeg)) Q) ∧ (¬ ((M.1 163 ((50 : Int32) + l3).toNatClampNeg) = ((10 : Int32) + l1)) → wM_readHolds d 68 [.ref 159, .int l1, .int l2, .int (l3 + 1)] [] s M Q))))) : wM_readHolds d 68 [.ref 159, .int l1, .int l2, .int l3] [] s M Q := by
  refine s_iload_n (i := 3) (by decide +kernel) rfl (pn 69 rfl ?_)
  refine s_aload_n (i := 0) (by decide +kernel) rfl (pn 70 rfl ?_)
  refine s_getfield (v := .ref 163) (by decide +kernel) fr_12_24 lq_159 (congrArg Prod.fst sh_159) (fv_ref pf_159_4) (pn 73 rfl ?_)
  refine t_iconst (by decide +kernel) ki_2 (pn 74 rfl ?_)
  refine t_iaload (v := M.1 163 2) (by decide +kernel) ⟨Or.inl lq_163, congrArg Prod.fst sh_163⟩ (al_in sh_163 (vp_lit (n := 1290) tn_2 (by decide) (by decide))) (by rw [tn_2] <;> rfl) (pn 75 rfl ?_)
  refine s_icmp_ge (off := 43) (tgt := 118) (by decide +kernel) rfl (fun c1 => ?_) (fun c1 => (pn 78 rfl ?_))
  · have h := h.1 c1
    refine s_aload_n (i := 0) (by decide +kernel) rfl (pn 119 rfl ?_)
    refine s_getfield (v := .ref 163) (by decide +kernel) fr_12_24 lq_159 (congrArg Prod.fst sh_159) (fv_ref pf_159_4) (pn 122 rfl ?_)
    refine t_bipush (by decide +kernel) kb_50 (pn 124 rfl ?_)
    refine s_iload_n (i := 2) (by decide +kernel) rfl (pn 125 rfl ?_)
    refine s_iadd (by decide +kernel) (pn 126 rfl ?_)
    refine t_bipush (by decide +kernel) kb_10 (pn 128 rfl ?_)
    refine s_iload_n (i := 1) (by decide +kernel) rfl (pn 129 rfl ?_)
    refine s_iadd (by decide +kernel) (pn 130 rfl ?_)
    obtain ⟨b1, h⟩ := h
    refine t_iastore (k := ((50 : Int32) + l2).toNatClampNeg) (by decide +kernel) ⟨lq_163, congrArg Prod.fst sh_163⟩ (al_in sh_163 b1) rfl (pn 131 rfl ?_)
    exact s_return (st := []) (by decide +kernel) rfl ⟨rfl, s, rfl, h⟩
  · have h := h.2 c1
    refine s_aload_n (i := 0) (by decide +kernel) rfl (pn 79 rfl ?_)
    refine s_getfield (v := .ref 163) (by decide +kernel) fr_12_24 lq_159 (congrArg Prod.fst sh_159) (fv_ref pf_159_4) (pn 82 rfl ?_)
    refine t_bipush (by decide +kernel) kb_50 (pn 84 rfl ?_)
    refine s_iload_n (i := 3) (by decide +kernel) rfl (pn 85 rfl ?_)
    refine s_iadd (by decide +kernel) (pn 86 rfl ?_)
    obtain ⟨b2, h⟩ := h
    refine t_iaload (v := M.1 163 ((50 : Int32) + l3).toNatClampNeg) (by decide +kernel) ⟨Or.inl lq_163, congrArg Prod.fst sh_163⟩ (al_in sh_163 b2) rfl (pn 87 rfl ?_)
    refine t_bipush (by decide +kernel) kb_10 (pn 89 rfl ?_)
    refine s_iload_n (i := 1) (by decide +kernel) rfl (pn 90 rfl ?_)
    refine s_iadd (by decide +kernel) (pn 91 rfl ?_)
    refine t_icmp_ne (off := 21) (tgt := 112) (by decide +kernel) rfl (fun c2 => ?_) (fun c2 => (pn 94 rfl ?_))
    · have h := h.2 c2
      refine t_iinc (i := 3) (n := 1) (ls' := [.ref 159, .int l1, .int l2, .int (l3 + 1)]) (by decide +kernel) rfl (Nat.le_of_ble_eq_true rfl) kn_1 rfl (pn 115 rfl ?_)
      refine s_goto (off := -47) (tgt := 68) (by decide +kernel) rfl ?_
      exact h
    · have h := h.1 c2
      refine s_aload_n (i := 0) (by decide +kernel) rfl (pn 95 rfl ?_)
      refine s_getfield (v := .ref 163) (by decide +kernel) fr_12_24 lq_159 (congrArg Prod.fst sh_159) (fv_ref pf_159_4) (pn 98 rfl ?_)
      refine t_bipush (by decide +kernel) kb_50 (pn 100 rfl ?_)
      refine s_iload_n (i := 3) (by decide +kernel) rfl (pn 101 rfl ?_)
      refine s_iadd (by decide +kernel) (pn 102 rfl ?_)
      refine s_aload_n (i := 0) (by decide +kernel) rfl (pn 103 rfl ?_)
      refine s_getfield (v := .ref 163) (by decide +kernel) fr_12_24 lq_159 (congrArg Prod.fst sh_159) (fv_ref pf_159_4) (pn 106 rfl ?_)
      refine t_bipush (by decide +kernel) kb_11 (pn 108 rfl ?_)
      refine s_iload_n (i := 3) (by decide +kernel) rfl (pn 109 rfl ?_)
      refine s_iadd (by decide +kernel) (pn 110 rfl ?_)
      obtain ⟨b3, h⟩ := h
      refine t_iaload (v := M.1 163 ((11 : Int32) + l3).toNatClampNeg) (by decide +kernel) ⟨Or.inl lq_163, congrArg Prod.fst sh_163⟩ (al_in sh_163 b3) rfl (pn 111 rfl ?_)
      obtain ⟨b4, h⟩ := h
      refine t_iastore (k := ((50 : Int32) + l3).toNatClampNeg) (by decide +kernel) ⟨lq_163, congrArg Prod.fst sh_163⟩ (al_in sh_163 b4) rfl (pn 112 rfl ?_)
      refine t_iinc (i := 3) (n := 1) (ls' := [.ref 159, .int l1, .int l2, .int (l3 + 1)]) (by decide +kernel) rfl (Nat.le_of_ble_eq_true rfl) kn_1 rfl (pn 115 rfl ?_)
      refine s_goto (off := -47) (tgt := 68) (by decide +kernel) rfl ?_
      exact h
abbrev wM_readLaw (d pc : Nat) (ls st : List Value) (s : pm_S) (M : pm_M) (Q : pm_S → pm_M → Prop) : Prop := wV d prog_14_method_30_code 12 none false pc ls st s M Q
theorem enM_readLaw {d : Nat} {s : pm_S} {M : pm_M} {x1 : Int32} {Q : pm_S → pm_M → Prop}  (h : cV d yM_next [.ref 159] s M (fun s1 M1 => cI d yM_eats [.ref 159, .int 31] s1 M1 (fun r1 s2 M2 => ((r1 = 0 → cV d yM_fails [.ref 159, .int 2] s2 M2 (fun s3 M3 => wM_readLaw d 18 [.ref 159, .int x1, .null] [] s3 M3 Q)) ∧ (¬ (r1 = 0) → wM_readLaw d 18 [.ref 159, .int x1, .null] [] s2 M2 Q))))) : cV (d + 1) yM_readLaw [.ref 159, .int x1] s M Q := by
  refine pm_toV (by decide) (Nat.le_of_ble_eq_true rfl) ?_
  show wM_readLaw d 0 [.ref 159, .int x1, .null] [] s M Q
  refine s_aload_n (i := 0) (by decide +kernel) rfl (pn 1 rfl ?_)
  refine s_callvV [] rfl (by decide +kernel) mv_12_156 np_189 (Nat.le_of_ble_eq_true rfl) lq_159 ((congrArg Prod.fst sh_159).trans oc_189) (cV_use h (fun s1 M1 h => (pn 4 rfl ?_)))
  refine s_aload_n (i := 0) (by decide +kernel) rfl (pn 5 rfl ?_)
  refine t_bipush (by decide +kernel) kb_31 (pn 7 rfl ?_)
  refine s_callvI [.int 31] rfl (by decide +kernel) mv_12_182 np_194 (Nat.le_of_ble_eq_true rfl) lq_159 ((congrArg Prod.fst sh_159).trans oc_194) (cI_use h (fun r1 s2 M2 h => (pn 10 rfl ?_)))
  refine t_if_ne (off := 8) (tgt := 18) (by decide +kernel) rfl (fun c1 => ?_) (fun c1 => (pn 13 rfl ?_))
  · have h := h.2 c1
    exact h
  · have h := h.1 c1
    refine s_aload_n (i := 0) (by decide +kernel) rfl (pn 14 rfl ?_)
    refine t_iconst (by decide +kernel) ki_2 (pn 15 rfl ?_)
    refine s_callvV [.int 2] rfl (by decide +kernel) mv_12_159 np_196 (Nat.le_of_ble_eq_true rfl) lq_159 ((congrArg Prod.fst sh_159).trans oc_196) (cV_use h (fun s3 M3 h => (pn 18 rfl ?_)))
    exact h
theorem sgM_readLaw_18 {d : Nat} {s : pm_S} {M : pm_M} {l1 : Int32} {Q : pm_S → pm_M → Prop}  (h : cV d yM_readSum [.ref 159, .int 0] s (pm_si M 159 15 l1) (fun s1 M1 => ((((M1.1 159 11) = 0) → vp_in ((5 : Int32) + l1) 1290 ∧ vp_in ((7 : Int32) + l1) 1290 ∧ vp_in ((9 : Int32) + l1) 1290 ∧ Q s1 (pm_si (pm_si (pm_si M1 163 ((5 : Int32) + l1).toNatClampNeg 1) 163 ((7 : Int32) + l1).toNatClampNeg (M.1 163 389)) 163 ((9 : Int32) + l1).toNatClampNeg (((pm_si (pm_si M1 163 ((5 : Int32) + l1).toNatClampNeg 1) 163 ((7 : Int32) + l1).toNatClampNeg (M.1 163 389)).1 163 389) - (M.1 163 389)))) ∧ (¬ ((M1.1 159 11) = 0) → Q s1 M1)))) : wM_readLaw d 18 [.ref 159, .int l1, .null] [] s M Q := by
  refine s_aload_n (i := 0) (by decide +kernel) rfl (pn 19 rfl ?_)
  refine s_getfield (v := .ref 163) (by decide +kernel) fr_12_24 lq_159 (congrArg Prod.fst sh_159) (fv_ref pf_159_4) (pn 22 rfl ?_)
  refine t_sipush (by decide +kernel) ks_389 (pn 25 rfl ?_)
  refine t_iaload (v := M.1 163 389) (by decide +kernel) ⟨Or.inl lq_163, congrArg Prod.fst sh_163⟩ (al_in sh_163 (vp_lit (n := 1290) tn_389 (by decide) (by decide))) (by rw [tn_389] <;> rfl) (pn 26 rfl ?_)
  refine s_istore_n (i := 2) (by decide +kernel) (Nat.le_of_ble_eq_true rfl) (pn 27 rfl (t_store (ls' := [.ref 159, .int l1, .int (M.1 163 389)]) rfl ?_))
  refine s_aload_n (i := 0) (by decide +kernel) rfl (pn 28 rfl ?_)
  refine s_iload_n (i := 1) (by decide +kernel) rfl (pn 29 rfl ?_)
  refine s_putfieldI (by decide +kernel) fr_12_167 lq_159 (congrArg Prod.fst sh_159) (fun q => by cases q) (Or.inl rfl) (pn 32 rfl ?_)
  refine s_aload_n (i := 0) (by decide +kernel) rfl (pn 33 rfl ?_)
  refine t_iconst (by decide +kernel) ki_0 (pn 34 rfl ?_)
  refine s_callvV [.int 0] rfl (by decide +kernel) mv_12_179 np_205 (Nat.le_of_ble_eq_true rfl) lq_159 ((congrArg Prod.fst sh_159).trans oc_205) (cV_use h (fun s1 M1 h => (pn 37 rfl ?_)))
  refine s_aload_n (i := 0) (by decide +kernel) rfl (pn 38 rfl ?_)
  refine s_getfield (v := .int (M1.1 159 11)) (by decide +kernel) fr_12_147 lq_159 (congrArg Prod.fst sh_159) rfl (pn 41 rfl ?_)
  refine s_if_eq (off := 4) (tgt := 45) (by decide +kernel) rfl (fun c1 => ?_) (fun c1 => (pn 44 rfl ?_))
  · have h := h.1 c1
    refine s_aload_n (i := 0) (by decide +kernel) rfl (pn 46 rfl ?_)
    refine s_getfield (v := .ref 163) (by decide +kernel) fr_12_24 lq_159 (congrArg Prod.fst sh_159) (fv_ref pf_159_4) (pn 49 rfl ?_)
    refine t_iconst (by decide +kernel) ki_5 (pn 50 rfl ?_)
    refine s_iload_n (i := 1) (by decide +kernel) rfl (pn 51 rfl ?_)
    refine s_iadd (by decide +kernel) (pn 52 rfl ?_)
    refine t_iconst (by decide +kernel) ki_1 (pn 53 rfl ?_)
    obtain ⟨b1, h⟩ := h
    refine t_iastore (k := ((5 : Int32) + l1).toNatClampNeg) (by decide +kernel) ⟨lq_163, congrArg Prod.fst sh_163⟩ (al_in sh_163 b1) rfl (pn 54 rfl ?_)
    refine s_aload_n (i := 0) (by decide +kernel) rfl (pn 55 rfl ?_)
    refine s_getfield (v := .ref 163) (by decide +kernel) fr_12_24 lq_159 (congrArg Prod.fst sh_159) (fv_ref pf_159_4) (pn 58 rfl ?_)
    refine t_bipush (by decide +kernel) kb_7 (pn 60 rfl ?_)
    refine s_iload_n (i := 1) (by decide +kernel) rfl (pn 61 rfl ?_)
    refine s_iadd (by decide +kernel) (pn 62 rfl ?_)
    refine s_iload_n (i := 2) (by decide +kernel) rfl (pn 63 rfl ?_)
    obtain ⟨b2, h⟩ := h
    refine t_iastore (k := ((7 : Int32) + l1).toNatClampNeg) (by decide +kernel) ⟨lq_163, congrArg Prod.fst sh_163⟩ (al_in sh_163 b2) rfl (pn 64 rfl ?_)
    refine s_aload_n (i := 0) (by decide +kernel) rfl (pn 65 rfl ?_)
    refine s_getfield (v := .ref 163) (by decide +kernel) fr_12_24 lq_159 (congrArg Prod.fst sh_159) (fv_ref pf_159_4) (pn 68 rfl ?_)
    refine t_bipush (by decide +kernel) kb_9 (pn 70 rfl ?_)
    refine s_iload_n (i := 1) (by decide +kernel) rfl (pn 71 rfl ?_)
    refine s_iadd (by decide +kernel) (pn 72 rfl ?_)
    refine s_aload_n (i := 0) (by decide +kernel) rfl (pn 73 rfl ?_)
    refine s_getfield (v := .ref 163) (by decide +kernel) fr_12_24 lq_159 (congrArg Prod.fst sh_159) (fv_ref pf_159_4) (pn 76 rfl ?_)
    refine t_sipush (by decide +kernel) ks_389 (pn 79 rfl ?_)
    refine t_iaload (v := (pm_si (pm_si M1 163 ((5 : Int32) + l1).toNatClampNeg 1) 163 ((7 : Int32) + l1).toNatClampNeg (M.1 163 389)).1 163 389) (by decide +kernel) ⟨Or.inl lq_163, congrArg Prod.fst sh_163⟩ (al_in sh_163 (vp_lit (n := 1290) tn_389 (by decide) (by decide))) (by rw [tn_389] <;> rfl) (pn 80 rfl ?_)
    refine s_iload_n (i := 2) (by decide +kernel) rfl (pn 81 rfl ?_)
    refine s_isub (by decide +kernel) (pn 82 rfl ?_)
    obtain ⟨b3, h⟩ := h
    refine t_iastore (k := ((9 : Int32) + l1).toNatClampNeg) (by decide +kernel) ⟨lq_163, congrArg Prod.fst sh_163⟩ (al_in sh_163 b3) rfl (pn 83 rfl ?_)
    exact s_return (st := []) (by decide +kernel) rfl ⟨rfl, s1, rfl, h⟩
  · have h := h.2 c1
    exact s_return (st := []) (by decide +kernel) rfl ⟨rfl, s1, rfl, h⟩
abbrev wM_readSum (d pc : Nat) (ls st : List Value) (s : pm_S) (M : pm_M) (Q : pm_S → pm_M → Prop) : Prop := wV d prog_14_method_22_code 12 none false pc ls st s M Q
theorem enM_readSum {d : Nat} {s : pm_S} {M : pm_M} {x1 : Int32} {Q : pm_S → pm_M → Prop}  (h : cV d yM_readTerm [.ref 159, .int x1] s M (fun s1 M1 => wM_readSum d 5 [.ref 159, .int x1, .null] [] s1 M1 Q)) : cV (d + 1) yM_readSum [.ref 159, .int x1] s M Q := by
  refine pm_toV (by decide) (Nat.le_of_ble_eq_true rfl) ?_
  show wM_readSum d 0 [.ref 159, .int x1, .null] [] s M Q
  refine s_aload_n (i := 0) (by decide +kernel) rfl (pn 1 rfl ?_)
  refine s_iload_n (i := 1) (by decide +kernel) rfl (pn 2 rfl ?_)
  refine s_callvV [.int x1] rfl (by decide +kernel) mv_12_194 np_206 (Nat.le_of_ble_eq_true rfl) lq_159 ((congrArg Prod.fst sh_159).trans oc_206) (cV_use h (fun s1 M1 h => (pn 5 rfl ?_)))
  exact h
theorem sgM_readSum_5 {d : Nat} {s : pm_S} {M : pm_M} {l1 : Int32} {Q : pm_S → pm_M → Prop}  (h : cI d yM_is [.ref 159, .int 32] s M (fun r1 s1 M1 => ((r1 = 0 → cI d yM_is [.ref 159, .int 33] s1 M1 (fun r2 s2 M2 => (((r2 = 0) → Q s2 M2) ∧ (¬ (r2 = 0) → wM_readSum d 23 [.ref 159, .int l1, .null] [] s2 M2 Q)))) ∧ (¬ (r1 = 0) → wM_readSum d 23 [.ref 159, .int l1, .null] [] s1 M1 Q)))) : wM_readSum d 5 [.ref 159, .int l1, .null] [] s M Q := by
  refine s_aload_n (i := 0) (by decide +kernel) rfl (pn 6 rfl ?_)
  refine t_bipush (by decide +kernel) kb_32 (pn 8 rfl ?_)
  refine s_callvI [.int 32] rfl (by decide +kernel) mv_12_153 np_195 (Nat.le_of_ble_eq_true rfl) lq_159 ((congrArg Prod.fst sh_159).trans oc_195) (cI_use h (fun r1 s1 M1 h => (pn 11 rfl ?_)))
  refine t_if_ne (off := 12) (tgt := 23) (by decide +kernel) rfl (fun c1 => ?_) (fun c1 => (pn 14 rfl ?_))
  · have h := h.2 c1
    exact h
  · have h := h.1 c1
    refine s_aload_n (i := 0) (by decide +kernel) rfl (pn 15 rfl ?_)
    refine t_bipush (by decide +kernel) kb_33 (pn 17 rfl ?_)
    refine s_callvI [.int 33] rfl (by decide +kernel) mv_12_153 np_195 (Nat.le_of_ble_eq_true rfl) lq_159 ((congrArg Prod.fst sh_159).trans oc_195) (cI_use h (fun r2 s2 M2 h => (pn 20 rfl ?_)))
    refine s_if_eq (off := 39) (tgt := 59) (by decide +kernel) rfl (fun c2 => ?_) (fun c2 => (pn 23 rfl ?_))
    · have h := h.1 c2
      exact s_return (st := []) (by decide +kernel) rfl ⟨rfl, s2, rfl, h⟩
    · have h := h.2 c2
      exact h
theorem sgM_readSum_23 {d : Nat} {s : pm_S} {M : pm_M} {l1 : Int32} {Q : pm_S → pm_M → Prop}  (h : cV d yM_next [.ref 159] s M (fun s1 M1 => cV d yM_readTerm [.ref 159, .int l1] s1 M1 (fun s2 M2 => cV d yM_codes [.ref 159, .int ((if (M.1 159 9) = 32 then 3000 else 3001) : Int32)] s2 M2 (fun s3 M3 => wM_readSum d 5 [.ref 159, .int l1, .null] [] s3 M3 Q)))) : wM_readSum d 23 [.ref 159, .int l1, .null] [] s M Q := by
  refine s_aload_n (i := 0) (by decide +kernel) rfl (pn 24 rfl ?_)
  refine s_getfield (v := .int (M.1 159 9)) (by decide +kernel) fr_12_129 lq_159 (congrArg Prod.fst sh_159) rfl (pn 27 rfl ?_)
  refine t_bipush (by decide +kernel) kb_32 (pn 29 rfl ?_)
  have k1 : ∀ (z1 : Int32) (z1e : z1 = ((if (M.1 159 9) = 32 then 3000 else 3001) : Int32)), wM_readSum d 41 [.ref 159, .int l1, .null] [.int z1] s M Q := by
    intro z1 z1e
    subst z1e
    refine s_istore_n (i := 2) (by decide +kernel) (Nat.le_of_ble_eq_true rfl) (pn 42 rfl (t_store (ls' := [.ref 159, .int l1, .int ((if (M.1 159 9) = 32 then 3000 else 3001) : Int32)]) rfl ?_))
    refine s_aload_n (i := 0) (by decide +kernel) rfl (pn 43 rfl ?_)
    refine s_callvV [] rfl (by decide +kernel) mv_12_156 np_189 (Nat.le_of_ble_eq_true rfl) lq_159 ((congrArg Prod.fst sh_159).trans oc_189) (cV_use h (fun s1 M1 h => (pn 46 rfl ?_)))
    refine s_aload_n (i := 0) (by decide +kernel) rfl (pn 47 rfl ?_)
    refine s_iload_n (i := 1) (by decide +kernel) rfl (pn 48 rfl ?_)
    refine s_callvV [.int l1] rfl (by decide +kernel) mv_12_194 np_206 (Nat.le_of_ble_eq_true rfl) lq_159 ((congrArg Prod.fst sh_159).trans oc_206) (cV_use h (fun s2 M2 h => (pn 51 rfl ?_)))
    refine s_aload_n (i := 0) (by decide +kernel) rfl (pn 52 rfl ?_)
    refine s_iload_n (i := 2) (by decide +kernel) rfl (pn 53 rfl ?_)
    refine s_callvV [.int ((if (M.1 159 9) = 32 then 3000 else 3001) : Int32)] rfl (by decide +kernel) mv_12_170 np_208 (Nat.le_of_ble_eq_true rfl) lq_159 ((congrArg Prod.fst sh_159).trans oc_208) (cV_use h (fun s3 M3 h => (pn 56 rfl ?_)))
    refine s_goto (off := -51) (tgt := 5) (by decide +kernel) rfl ?_
    exact pm_weak [.ref 159, .int l1, .null] (pm_le_cons (Or.inr rfl) (pm_le_cons (Or.inr rfl) (pm_le_cons (Or.inl rfl) pm_le_nil))) h
  refine t_icmp_ne (off := 9) (tgt := 38) (by decide +kernel) rfl (fun c1 => ?_) (fun c1 => (pn 32 rfl ?_))
  · refine t_sipush (by decide +kernel) ks_3001 (pn 41 rfl ?_)
    exact k1 _ (by simp only [if_neg c1])
  · refine t_sipush (by decide +kernel) ks_3000 (pn 35 rfl ?_)
    refine s_goto (off := 6) (tgt := 41) (by decide +kernel) rfl ?_
    exact k1 _ (by simp only [if_pos c1])
abbrev wM_readTerm (d pc : Nat) (ls st : List Value) (s : pm_S) (M : pm_M) (Q : pm_S → pm_M → Prop) : Prop := wV d prog_14_method_21_code 12 none false pc ls st s M Q
theorem enM_readTerm {d : Nat} {s : pm_S} {M : pm_M} {x1 : Int32} {Q : pm_S → pm_M → Prop}  (h : cV d yM_readAtom [.ref 159, .int x1] s M (fun s1 M1 => wM_readTerm d 5 [.ref 159, .int x1] [] s1 M1 Q)) : cV (d + 1) yM_readTerm [.ref 159, .int x1] s M Q := by
  refine pm_toV (by decide) (Nat.le_of_ble_eq_true rfl) ?_
  show wM_readTerm d 0 [.ref 159, .int x1] [] s M Q
  refine s_aload_n (i := 0) (by decide +kernel) rfl (pn 1 rfl ?_)
  refine s_iload_n (i := 1) (by decide +kernel) rfl (pn 2 rfl ?_)
  refine s_callvV [.int x1] rfl (by decide +kernel) mv_12_191 np_207 (Nat.le_of_ble_eq_true rfl) lq_159 ((congrArg Prod.fst sh_159).trans oc_207) (cV_use h (fun s1 M1 h => (pn 5 rfl ?_)))
  exact h
theorem sgM_readTerm_5 {d : Nat} {s : pm_S} {M : pm_M} {l1 : Int32} {Q : pm_S → pm_M → Prop}  (h : cI d yM_eats [.ref 159, .int 34] s M (fun r1 s1 M1 => (((r1 = 0) → Q s1 M1) ∧ (¬ (r1 = 0) → cV d yM_readAtom [.ref 159, .int l1] s1 M1 (fun s2 M2 => cV d yM_codes [.ref 159, .int 3002] s2 M2 (fun s3 M3 => wM_readTerm d 5 [.ref 159, .int l1] [] s3 M3 Q)))))) : wM_readTerm d 5 [.ref 159, .int l1] [] s M Q := by
  refine s_aload_n (i := 0) (by decide +kernel) rfl (pn 6 rfl ?_)
  refine t_bipush (by decide +kernel) kb_34 (pn 8 rfl ?_)
  refine s_callvI [.int 34] rfl (by decide +kernel) mv_12_182 np_194 (Nat.le_of_ble_eq_true rfl) lq_159 ((congrArg Prod.fst sh_159).trans oc_194) (cI_use h (fun r1 s1 M1 h => (pn 11 rfl ?_)))
  refine s_if_eq (off := 18) (tgt := 29) (by decide +kernel) rfl (fun c1 => ?_) (fun c1 => (pn 14 rfl ?_))
  · have h := h.1 c1
    exact s_return (st := []) (by decide +kernel) rfl ⟨rfl, s1, rfl, h⟩
  · have h := h.2 c1
    refine s_aload_n (i := 0) (by decide +kernel) rfl (pn 15 rfl ?_)
    refine s_iload_n (i := 1) (by decide +kernel) rfl (pn 16 rfl ?_)
    refine s_callvV [.int l1] rfl (by decide +kernel) mv_12_191 np_207 (Nat.le_of_ble_eq_true rfl) lq_159 ((congrArg Prod.fst sh_159).trans oc_207) (cV_use h (fun s2 M2 h => (pn 19 rfl ?_)))
    refine s_aload_n (i := 0) (by decide +kernel) rfl (pn 20 rfl ?_)
    refine t_sipush (by decide +kernel) ks_3002 (pn 23 rfl ?_)
    refine s_callvV [.int 3002] rfl (by decide +kernel) mv_12_170 np_208 (Nat.le_of_ble_eq_true rfl) lq_159 ((congrArg Prod.fst sh_159).trans oc_208) (cV_use h (fun s3 M3 h => (pn 26 rfl ?_)))
    refine s_goto (off := -21) (tgt := 5) (by decide +kernel) rfl ?_
    exact h
abbrev wM_readAtom (d pc : Nat) (ls st : List Value) (s : pm_S) (M : pm_M) (Q : pm_S → pm_M → Prop) : Prop := wV d prog_14_method_19_code 12 none false pc ls st s M Q
theorem enM_readAtom {d : Nat} {s : pm_S} {M : pm_M} {x1 : Int32} {Q : pm_S → pm_M → Prop}  (h : cI d yM_is [.ref 159, .int 23] s M (fun r1 s1 M1 => (((r1 = 0) → (((M1.1 159 11) = 0 → cI d yM_wordOf [.ref 159, .int (M1.1 159 9)] s1 M1 (fun r2 s2 M2 => (((r2 = (-1)) → wM_readAtom d 66 [.ref 159, .int x1] [] s2 M2 Q) ∧ (¬ (r2 = (-1)) → cI d yM_wordOf [.ref 159, .int (M2.1 159 9)] s2 M2 (fun r3 s3 M3 => cV d yM_codes [.ref 159, .int ((1000 : Int32) + r3)] s3 M3 (fun s4 M4 => cV d yM_next [.ref 159] s4 M4 (fun s5 M5 => Q s5 M5))))))) ∧ (¬ ((M1.1 159 11) = 0) → wM_readAtom d 66 [.ref 159, .int x1] [] s1 M1 Q))) ∧ (¬ (r1 = 0) → cV d yM_codes [.ref 159, .int (M1.1 159 10)] s1 M1 (fun s6 M6 => cV d yM_next [.ref 159] s6 M6 (fun s7 M7 => Q s7 M7)))))) : cV (d + 1) yM_readAtom [.ref 159, .int x1] s M Q := by
  refine pm_toV (by decide) (Nat.le_of_ble_eq_true rfl) ?_
  show wM_readAtom d 0 [.ref 159, .int x1] [] s M Q
  refine s_aload_n (i := 0) (by decide +kernel) rfl (pn 1 rfl ?_)
  refine t_bipush (by decide +kernel) kb_23 (pn 3 rfl ?_)
  refine s_callvI [.int 23] rfl (by decide +kernel) mv_12_153 np_195 (Nat.le_of_ble_eq_true rfl) lq_159 ((congrArg Prod.fst sh_159).trans oc_195) (cI_use h (fun r1 s1 M1 h => (pn 6 rfl ?_)))
  refine s_if_eq (off := 18) (tgt := 24) (by decide +kernel) rfl (fun c1 => ?_) (fun c1 => (pn 9 rfl ?_))
  · have h := h.1 c1
    refine s_aload_n (i := 0) (by decide +kernel) rfl (pn 25 rfl ?_)
    refine s_getfield (v := .int (M1.1 159 11)) (by decide +kernel) fr_12_147 lq_159 (congrArg Prod.fst sh_159) rfl (pn 28 rfl ?_)
    refine t_if_ne (off := 38) (tgt := 66) (by decide +kernel) rfl (fun c2 => ?_) (fun c2 => (pn 31 rfl ?_))
    · have h := h.2 c2
      exact h
    · have h := h.1 c2
      refine s_aload_n (i := 0) (by decide +kernel) rfl (pn 32 rfl ?_)
      refine s_aload_n (i := 0) (by decide +kernel) rfl (pn 33 rfl ?_)
      refine s_getfield (v := .int (M1.1 159 9)) (by decide +kernel) fr_12_129 lq_159 (congrArg Prod.fst sh_159) rfl (pn 36 rfl ?_)
      refine s_callvI [.int (M1.1 159 9)] rfl (by decide +kernel) mv_12_173 np_209 (Nat.le_of_ble_eq_true rfl) lq_159 ((congrArg Prod.fst sh_159).trans oc_209) (cI_use h (fun r2 s2 M2 h => (pn 39 rfl ?_)))
      refine t_iconst (by decide +kernel) ki_m1 (pn 40 rfl ?_)
      refine s_icmp_eq (off := 26) (tgt := 66) (by decide +kernel) rfl (fun c3 => ?_) (fun c3 => (pn 43 rfl ?_))
      · have h := h.1 c3
        exact h
      · have h := h.2 c3
        refine s_aload_n (i := 0) (by decide +kernel) rfl (pn 44 rfl ?_)
        refine t_sipush (by decide +kernel) ks_1000 (pn 47 rfl ?_)
        refine s_aload_n (i := 0) (by decide +kernel) rfl (pn 48 rfl ?_)
        refine s_aload_n (i := 0) (by decide +kernel) rfl (pn 49 rfl ?_)
        refine s_getfield (v := .int (M2.1 159 9)) (by decide +kernel) fr_12_129 lq_159 (congrArg Prod.fst sh_159) rfl (pn 52 rfl ?_)
        refine s_callvI [.int (M2.1 159 9)] rfl (by decide +kernel) mv_12_173 np_209 (Nat.le_of_ble_eq_true rfl) lq_159 ((congrArg Prod.fst sh_159).trans oc_209) (cI_use h (fun r3 s3 M3 h => (pn 55 rfl ?_)))
        refine s_iadd (by decide +kernel) (pn 56 rfl ?_)
        refine s_callvV [.int ((1000 : Int32) + r3)] rfl (by decide +kernel) mv_12_170 np_208 (Nat.le_of_ble_eq_true rfl) lq_159 ((congrArg Prod.fst sh_159).trans oc_208) (cV_use h (fun s4 M4 h => (pn 59 rfl ?_)))
        refine s_aload_n (i := 0) (by decide +kernel) rfl (pn 60 rfl ?_)
        refine s_callvV [] rfl (by decide +kernel) mv_12_156 np_189 (Nat.le_of_ble_eq_true rfl) lq_159 ((congrArg Prod.fst sh_159).trans oc_189) (cV_use h (fun s5 M5 h => (pn 63 rfl ?_)))
        refine s_goto (off := 67) (tgt := 130) (by decide +kernel) rfl ?_
        exact s_return (st := []) (by decide +kernel) rfl ⟨rfl, s5, rfl, h⟩
  · have h := h.2 c1
    refine s_aload_n (i := 0) (by decide +kernel) rfl (pn 10 rfl ?_)
    refine s_aload_n (i := 0) (by decide +kernel) rfl (pn 11 rfl ?_)
    refine s_getfield (v := .int (M1.1 159 10)) (by decide +kernel) fr_12_142 lq_159 (congrArg Prod.fst sh_159) rfl (pn 14 rfl ?_)
    refine s_callvV [.int (M1.1 159 10)] rfl (by decide +kernel) mv_12_170 np_208 (Nat.le_of_ble_eq_true rfl) lq_159 ((congrArg Prod.fst sh_159).trans oc_208) (cV_use h (fun s6 M6 h => (pn 17 rfl ?_)))
    refine s_aload_n (i := 0) (by decide +kernel) rfl (pn 18 rfl ?_)
    refine s_callvV [] rfl (by decide +kernel) mv_12_156 np_189 (Nat.le_of_ble_eq_true rfl) lq_159 ((congrArg Prod.fst sh_159).trans oc_189) (cV_use h (fun s7 M7 h => (pn 21 rfl ?_)))
    refine s_goto (off := 109) (tgt := 130) (by decide +kernel) rfl ?_
    exact s_return (st := []) (by decide +kernel) rfl ⟨rfl, s7, rfl, h⟩
theorem sgM_readAtom_66 {d : Nat} {s : pm_S} {M : pm_M} {l1 : Int32} {Q : pm_S → pm_M → Prop}  (h : cI d yM_is [.ref 159, .int 35] s M (fun r1 s1 M1 => (((r1 = 0) → cI d yM_is [.ref 159, .int 12] s1 M1 (fun r2 s2 M2 => (((r2 = 0) → cV d yM_fails [.ref 159, .int 2] s2 M2 (fun s3 M3 => Q s3 M3)) ∧ (¬ (r2 = 0) → cV d yM_readIf [.ref 159, .int l1] s2 M2 (fun s4 M4 => Q s4 M4))))) ∧ (¬ (r1 = 0) → cI d yM_goesIn [.ref 159, .int l1] s1 M1 (fun r3 s5 M5 => ((r3 = 0 → Q s5 M5) ∧ (¬ (r3 = 0) → cV d yM_readSum [.ref 159, .int (l1 + 1)] s5 M5 (fun s6 M6 => cI d yM_eats [.ref 159, .int 36] s6 M6 (fun r4 s7 M7 => ((r4 = 0 → cV d yM_fails [.ref 159, .int 2] s7 M7 (fun s8 M8 => Q s8 M8)) ∧ (¬ (r4 = 0) → Q s7 M7))))))))))) : wM_readAtom d 66 [.ref 159, .int l1] [] s M Q := by
  refine s_aload_n (i := 0) (by decide +kernel) rfl (pn 67 rfl ?_)
  refine t_bipush (by decide +kernel) kb_35 (pn 69 rfl ?_)
  refine s_callvI [.int 35] rfl (by decide +kernel) mv_12_153 np_195 (Nat.le_of_ble_eq_true rfl) lq_159 ((congrArg Prod.fst sh_159).trans oc_195) (cI_use h (fun r1 s1 M1 h => (pn 72 rfl ?_)))
  refine s_if_eq (off := 36) (tgt := 108) (by decide +kernel) rfl (fun c1 => ?_) (fun c1 => (pn 75 rfl ?_))
  · have h := h.1 c1
    refine s_aload_n (i := 0) (by decide +kernel) rfl (pn 109 rfl ?_)
    refine t_bipush (by decide +kernel) kb_12 (pn 111 rfl ?_)
    refine s_callvI [.int 12] rfl (by decide +kernel) mv_12_153 np_195 (Nat.le_of_ble_eq_true rfl) lq_159 ((congrArg Prod.fst sh_159).trans oc_195) (cI_use h (fun r2 s2 M2 h => (pn 114 rfl ?_)))
    refine s_if_eq (off := 11) (tgt := 125) (by decide +kernel) rfl (fun c2 => ?_) (fun c2 => (pn 117 rfl ?_))
    · have h := h.1 c2
      refine s_aload_n (i := 0) (by decide +kernel) rfl (pn 126 rfl ?_)
      refine t_iconst (by decide +kernel) ki_2 (pn 127 rfl ?_)
      refine s_callvV [.int 2] rfl (by decide +kernel) mv_12_159 np_196 (Nat.le_of_ble_eq_true rfl) lq_159 ((congrArg Prod.fst sh_159).trans oc_196) (cV_use h (fun s3 M3 h => (pn 130 rfl ?_)))
      exact s_return (st := []) (by decide +kernel) rfl ⟨rfl, s3, rfl, h⟩
    · have h := h.2 c2
      refine s_aload_n (i := 0) (by decide +kernel) rfl (pn 118 rfl ?_)
      refine s_iload_n (i := 1) (by decide +kernel) rfl (pn 119 rfl ?_)
      refine s_callvV [.int l1] rfl (by decide +kernel) mv_12_185 np_211 (Nat.le_of_ble_eq_true rfl) lq_159 ((congrArg Prod.fst sh_159).trans oc_211) (cV_use h (fun s4 M4 h => (pn 122 rfl ?_)))
      refine s_goto (off := 8) (tgt := 130) (by decide +kernel) rfl ?_
      exact s_return (st := []) (by decide +kernel) rfl ⟨rfl, s4, rfl, h⟩
  · have h := h.2 c1
    refine s_aload_n (i := 0) (by decide +kernel) rfl (pn 76 rfl ?_)
    refine s_iload_n (i := 1) (by decide +kernel) rfl (pn 77 rfl ?_)
    refine s_callvI [.int l1] rfl (by decide +kernel) mv_12_176 np_210 (Nat.le_of_ble_eq_true rfl) lq_159 ((congrArg Prod.fst sh_159).trans oc_210) (cI_use h (fun r3 s5 M5 h => (pn 80 rfl ?_)))
    refine t_if_ne (off := 4) (tgt := 84) (by decide +kernel) rfl (fun c3 => ?_) (fun c3 => (pn 83 rfl ?_))
    · have h := h.2 c3
      refine s_aload_n (i := 0) (by decide +kernel) rfl (pn 85 rfl ?_)
      refine s_iload_n (i := 1) (by decide +kernel) rfl (pn 86 rfl ?_)
      refine t_iconst (by decide +kernel) ki_1 (pn 87 rfl ?_)
      refine s_iadd (by decide +kernel) (pn 88 rfl ?_)
      refine s_callvV [.int (l1 + 1)] rfl (by decide +kernel) mv_12_179 np_205 (Nat.le_of_ble_eq_true rfl) lq_159 ((congrArg Prod.fst sh_159).trans oc_205) (cV_use h (fun s6 M6 h => (pn 91 rfl ?_)))
      refine s_aload_n (i := 0) (by decide +kernel) rfl (pn 92 rfl ?_)
      refine t_bipush (by decide +kernel) kb_36 (pn 94 rfl ?_)
      refine s_callvI [.int 36] rfl (by decide +kernel) mv_12_182 np_194 (Nat.le_of_ble_eq_true rfl) lq_159 ((congrArg Prod.fst sh_159).trans oc_194) (cI_use h (fun r4 s7 M7 h => (pn 97 rfl ?_)))
      refine t_if_ne (off := 33) (tgt := 130) (by decide +kernel) rfl (fun c4 => ?_) (fun c4 => (pn 100 rfl ?_))
      · have h := h.2 c4
        exact s_return (st := []) (by decide +kernel) rfl ⟨rfl, s7, rfl, h⟩
      · have h := h.1 c4
        refine s_aload_n (i := 0) (by decide +kernel) rfl (pn 101 rfl ?_)
        refine t_iconst (by decide +kernel) ki_2 (pn 102 rfl ?_)
        refine s_callvV [.int 2] rfl (by decide +kernel) mv_12_159 np_196 (Nat.le_of_ble_eq_true rfl) lq_159 ((congrArg Prod.fst sh_159).trans oc_196) (cV_use h (fun s8 M8 h => (pn 105 rfl ?_)))
        refine s_goto (off := 25) (tgt := 130) (by decide +kernel) rfl ?_
        exact s_return (st := []) (by decide +kernel) rfl ⟨rfl, s8, rfl, h⟩
    · have h := h.1 c3
      exact s_return (st := []) (by decide +kernel) rfl ⟨rfl, s5, rfl, h⟩
abbrev wM_codes (d pc : Nat) (ls st : List Value) (s : pm_S) (M : pm_M) (Q : pm_S → pm_M → Prop) : Prop := wV d prog_14_method_17_code 12 none false pc ls st s M Q
theorem enM_codes {d : Nat} {s : pm_S} {M : pm_M} {x1 : Int32} {Q : pm_S → pm_M → Prop}  (h : ((((M.1 159 11) = 0) → vp_in ((390 : Int32) + (M.1 163 389)) 1290 ∧ Q s (pm_si (pm_si M 163 ((390 : Int32) + (M.1 163 389)).toNatClampNeg x1) 163 389 (((pm_si M 163 ((390 : Int32) + (M.1 163 389)).toNatClampNeg x1).1 163 389) + 1))) ∧ (¬ ((M.1 159 11) = 0) → Q s M))) : cV (d + 1) yM_codes [.ref 159, .int x1] s M Q := by
  refine pm_toV (by decide) (Nat.le_of_ble_eq_true rfl) ?_
  show wM_codes d 0 [.ref 159, .int x1] [] s M Q
  refine s_aload_n (i := 0) (by decide +kernel) rfl (pn 1 rfl ?_)
  refine s_getfield (v := .int (M.1 159 11)) (by decide +kernel) fr_12_147 lq_159 (congrArg Prod.fst sh_159) rfl (pn 4 rfl ?_)
  refine s_if_eq (off := 4) (tgt := 8) (by decide +kernel) rfl (fun c1 => ?_) (fun c1 => (pn 7 rfl ?_))
  · have h := h.1 c1
    refine s_aload_n (i := 0) (by decide +kernel) rfl (pn 9 rfl ?_)
    refine s_getfield (v := .ref 163) (by decide +kernel) fr_12_24 lq_159 (congrArg Prod.fst sh_159) (fv_ref pf_159_4) (pn 12 rfl ?_)
    refine t_sipush (by decide +kernel) ks_390 (pn 15 rfl ?_)
    refine s_aload_n (i := 0) (by decide +kernel) rfl (pn 16 rfl ?_)
    refine s_getfield (v := .ref 163) (by decide +kernel) fr_12_24 lq_159 (congrArg Prod.fst sh_159) (fv_ref pf_159_4) (pn 19 rfl ?_)
    refine t_sipush (by decide +kernel) ks_389 (pn 22 rfl ?_)
    refine t_iaload (v := M.1 163 389) (by decide +kernel) ⟨Or.inl lq_163, congrArg Prod.fst sh_163⟩ (al_in sh_163 (vp_lit (n := 1290) tn_389 (by decide) (by decide))) (by rw [tn_389] <;> rfl) (pn 23 rfl ?_)
    refine s_iadd (by decide +kernel) (pn 24 rfl ?_)
    refine s_iload_n (i := 1) (by decide +kernel) rfl (pn 25 rfl ?_)
    obtain ⟨b1, h⟩ := h
    refine t_iastore (k := ((390 : Int32) + (M.1 163 389)).toNatClampNeg) (by decide +kernel) ⟨lq_163, congrArg Prod.fst sh_163⟩ (al_in sh_163 b1) rfl (pn 26 rfl ?_)
    refine s_aload_n (i := 0) (by decide +kernel) rfl (pn 27 rfl ?_)
    refine s_getfield (v := .ref 163) (by decide +kernel) fr_12_24 lq_159 (congrArg Prod.fst sh_159) (fv_ref pf_159_4) (pn 30 rfl ?_)
    refine t_sipush (by decide +kernel) ks_389 (pn 33 rfl ?_)
    refine s_dup2 (by decide +kernel) rfl rfl (pn 34 rfl ?_)
    refine t_iaload (v := (pm_si M 163 ((390 : Int32) + (M.1 163 389)).toNatClampNeg x1).1 163 389) (by decide +kernel) ⟨Or.inl lq_163, congrArg Prod.fst sh_163⟩ (al_in sh_163 (vp_lit (n := 1290) tn_389 (by decide) (by decide))) (by rw [tn_389] <;> rfl) (pn 35 rfl ?_)
    refine t_iconst (by decide +kernel) ki_1 (pn 36 rfl ?_)
    refine s_iadd (by decide +kernel) (pn 37 rfl ?_)
    refine t_iastore (k := 389) (by decide +kernel) ⟨lq_163, congrArg Prod.fst sh_163⟩ (al_in sh_163 (vp_lit (n := 1290) tn_389 (by decide) (by decide))) tn_389 (pn 38 rfl ?_)
    exact s_return (st := []) (by decide +kernel) rfl ⟨rfl, s, rfl, h⟩
  · have h := h.2 c1
    exact s_return (st := []) (by decide +kernel) rfl ⟨rfl, s, rfl, h⟩
abbrev wM_wordOf (d pc : Nat) (ls st : List Value) (s : pm_S) (M : pm_M) (Q : Int32 → pm_S → pm_M → Prop) : Prop := wI d prog_14_method_16_code 12 (some .int) false pc ls st s M Q
theorem enM_wordOf {d : Nat} {s : pm_S} {M : pm_M} {x1 : Int32} {Q : Int32 → pm_S → pm_M → Prop}  (h : ((x1 = 1 → Q 2 s M) ∧ (¬ x1 = 1 → ((x1 = 3 → Q 3 s M) ∧ (¬ x1 = 3 → ((x1 = 4 → Q 4 s M) ∧ (¬ x1 = 4 → ((x1 = 6 → Q 1 s M) ∧ (¬ x1 = 6 → ((x1 = 11 → Q ((if (M.1 159 15) = 1 then 5 else (-1)) : Int32) s M) ∧ (¬ x1 = 11 → ((x1 = 16 → Q 0 s M) ∧ (¬ x1 = 16 → ((x1 = 17 → Q ((if (M.1 159 15) = 1 then 6 else (-1)) : Int32) s M) ∧ (¬ x1 = 17 → Q (-1) s M))))))))))))))) : cI (d + 1) yM_wordOf [.ref 159, .int x1] s M Q := by
  refine pm_toI (by decide) (Nat.le_of_ble_eq_true rfl) ?_
  show wM_wordOf d 0 [.ref 159, .int x1] [] s M Q
  refine s_iload_n (i := 1) (by decide +kernel) rfl (pn 1 rfl ?_)
  by_cases c1 : x1 = 1
  · refine s_tableswitch (dflt := 122) (lo := 1) (hi := 17) (offs := #[87, 122, 89, 91, 122, 85, 122, 122, 122, 122, 93, 122, 122, 122, 122, 83, 107]) (len := 83) (tgt := 88) (by decide +kernel) (by rw [c1]; decide) (by rw [c1]; decide) ?_
    have h := h.1 c1
    refine t_iconst (by decide +kernel) ki_2 (pn 89 rfl ?_)
    exact s_ireturn (st := []) (by decide +kernel) (Or.inl rfl) ⟨_, rfl, s, rfl, h⟩
  have h := h.2 c1
  by_cases c2 : x1 = 3
  · refine s_tableswitch (dflt := 122) (lo := 1) (hi := 17) (offs := #[87, 122, 89, 91, 122, 85, 122, 122, 122, 122, 93, 122, 122, 122, 122, 83, 107]) (len := 83) (tgt := 90) (by decide +kernel) (by rw [c2]; decide) (by rw [c2]; decide) ?_
    have h := h.1 c2
    refine t_iconst (by decide +kernel) ki_3 (pn 91 rfl ?_)
    exact s_ireturn (st := []) (by decide +kernel) (Or.inl rfl) ⟨_, rfl, s, rfl, h⟩
  have h := h.2 c2
  by_cases c3 : x1 = 4
  · refine s_tableswitch (dflt := 122) (lo := 1) (hi := 17) (offs := #[87, 122, 89, 91, 122, 85, 122, 122, 122, 122, 93, 122, 122, 122, 122, 83, 107]) (len := 83) (tgt := 92) (by decide +kernel) (by rw [c3]; decide) (by rw [c3]; decide) ?_
    have h := h.1 c3
    refine t_iconst (by decide +kernel) ki_4 (pn 93 rfl ?_)
    exact s_ireturn (st := []) (by decide +kernel) (Or.inl rfl) ⟨_, rfl, s, rfl, h⟩
  have h := h.2 c3
  by_cases c4 : x1 = 6
  · refine s_tableswitch (dflt := 122) (lo := 1) (hi := 17) (offs := #[87, 122, 89, 91, 122, 85, 122, 122, 122, 122, 93, 122, 122, 122, 122, 83, 107]) (len := 83) (tgt := 86) (by decide +kernel) (by rw [c4]; decide) (by rw [c4]; decide) ?_
    have h := h.1 c4
    refine t_iconst (by decide +kernel) ki_1 (pn 87 rfl ?_)
    exact s_ireturn (st := []) (by decide +kernel) (Or.inl rfl) ⟨_, rfl, s, rfl, h⟩
  have h := h.2 c4
  by_cases c5 : x1 = 11
  · refine s_tableswitch (dflt := 122) (lo := 1) (hi := 17) (offs := #[87, 122, 89, 91, 122, 85, 122, 122, 122, 122, 93, 122, 122, 122, 122, 83, 107]) (len := 83) (tgt := 94) (by decide +kernel) (by rw [c5]; decide) (by rw [c5]; decide) ?_
    have h := h.1 c5
    refine s_aload_n (i := 0) (by decide +kernel) rfl (pn 95 rfl ?_)
    refine s_getfield (v := .int (M.1 159 15)) (by decide +kernel) fr_12_167 lq_159 (congrArg Prod.fst sh_159) rfl (pn 98 rfl ?_)
    refine t_iconst (by decide +kernel) ki_1 (pn 99 rfl ?_)
    have k1 : ∀ (z1 : Int32) (z1e : z1 = ((if (M.1 159 15) = 1 then 5 else (-1)) : Int32)), wM_wordOf d 107 [.ref 159, .int x1] [.int z1] s M Q := by
      intro z1 z1e
      subst z1e
      exact s_ireturn (st := []) (by decide +kernel) (Or.inl rfl) ⟨_, rfl, s, rfl, h⟩
    refine t_icmp_ne (off := 7) (tgt := 106) (by decide +kernel) rfl (fun c6 => ?_) (fun c6 => (pn 102 rfl ?_))
    · refine t_iconst (by decide +kernel) ki_m1 (pn 107 rfl ?_)
      exact k1 _ (by simp only [if_neg c6])
    · refine t_iconst (by decide +kernel) ki_5 (pn 103 rfl ?_)
      refine s_goto (off := 4) (tgt := 107) (by decide +kernel) rfl ?_
      exact k1 _ (by simp only [if_pos c6])
  have h := h.2 c5
  by_cases c7 : x1 = 16
  · refine s_tableswitch (dflt := 122) (lo := 1) (hi := 17) (offs := #[87, 122, 89, 91, 122, 85, 122, 122, 122, 122, 93, 122, 122, 122, 122, 83, 107]) (len := 83) (tgt := 84) (by decide +kernel) (by rw [c7]; decide) (by rw [c7]; decide) ?_
    have h := h.1 c7
    refine t_iconst (by decide +kernel) ki_0 (pn 85 rfl ?_)
    exact s_ireturn (st := []) (by decide +kernel) (Or.inl rfl) ⟨_, rfl, s, rfl, h⟩
  have h := h.2 c7
  by_cases c8 : x1 = 17
  · refine s_tableswitch (dflt := 122) (lo := 1) (hi := 17) (offs := #[87, 122, 89, 91, 122, 85, 122, 122, 122, 122, 93, 122, 122, 122, 122, 83, 107]) (len := 83) (tgt := 108) (by decide +kernel) (by rw [c8]; decide) (by rw [c8]; decide) ?_
    have h := h.1 c8
    refine s_aload_n (i := 0) (by decide +kernel) rfl (pn 109 rfl ?_)
    refine s_getfield (v := .int (M.1 159 15)) (by decide +kernel) fr_12_167 lq_159 (congrArg Prod.fst sh_159) rfl (pn 112 rfl ?_)
    refine t_iconst (by decide +kernel) ki_1 (pn 113 rfl ?_)
    have k2 : ∀ (z2 : Int32) (z2e : z2 = ((if (M.1 159 15) = 1 then 6 else (-1)) : Int32)), wM_wordOf d 122 [.ref 159, .int x1] [.int z2] s M Q := by
      intro z2 z2e
      subst z2e
      exact s_ireturn (st := []) (by decide +kernel) (Or.inl rfl) ⟨_, rfl, s, rfl, h⟩
    refine t_icmp_ne (off := 8) (tgt := 121) (by decide +kernel) rfl (fun c9 => ?_) (fun c9 => (pn 116 rfl ?_))
    · refine t_iconst (by decide +kernel) ki_m1 (pn 122 rfl ?_)
      exact k2 _ (by simp only [if_neg c9])
    · refine t_bipush (by decide +kernel) kb_6 (pn 118 rfl ?_)
      refine s_goto (off := 4) (tgt := 122) (by decide +kernel) rfl ?_
      exact k2 _ (by simp only [if_pos c9])
  have h := h.2 c8
  have k3 : wM_wordOf d 123 [.ref 159, .int x1] [] s M Q := by
    refine t_iconst (by decide +kernel) ki_m1 (pn 124 rfl ?_)
    exact s_ireturn (st := []) (by decide +kernel) (Or.inl rfl) ⟨_, rfl, s, rfl, h⟩
  by_cases q0 : x1.toInt < 1 ∨ 17 < x1.toInt
  · exact t_tabledef (dflt := 122) (lo := 1) (hi := 17) (offs := #[87, 122, 89, 91, 122, 85, 122, 122, 122, 122, 93, 122, 122, 122, 122, 83, 107]) (len := 83) (tgt := 123) (by decide +kernel) rfl q0 k3
  · rcases (show x1.toInt = 1 ∨ x1.toInt = 2 ∨ x1.toInt = 3 ∨ x1.toInt = 4 ∨ x1.toInt = 5 ∨ x1.toInt = 6 ∨ x1.toInt = 7 ∨ x1.toInt = 8 ∨ x1.toInt = 9 ∨ x1.toInt = 10 ∨ x1.toInt = 11 ∨ x1.toInt = 12 ∨ x1.toInt = 13 ∨ x1.toInt = 14 ∨ x1.toInt = 15 ∨ x1.toInt = 16 ∨ x1.toInt = 17 by omega) with q1 | q1 | q1 | q1 | q1 | q1 | q1 | q1 | q1 | q1 | q1 | q1 | q1 | q1 | q1 | q1 | q1
    · exact absurd (Int32.toInt_inj.mp (q1.trans (by decide))) c1
    · exact t_tablehole (dflt := 122) (lo := 1) (hi := 17) (offs := #[87, 122, 89, 91, 122, 85, 122, 122, 122, 122, 93, 122, 122, 122, 122, 83, 107]) (len := 83) (tgt := 123) (by decide +kernel) q1 (by decide) (by decide) k3
    · exact absurd (Int32.toInt_inj.mp (q1.trans (by decide))) c2
    · exact absurd (Int32.toInt_inj.mp (q1.trans (by decide))) c3
    · exact t_tablehole (dflt := 122) (lo := 1) (hi := 17) (offs := #[87, 122, 89, 91, 122, 85, 122, 122, 122, 122, 93, 122, 122, 122, 122, 83, 107]) (len := 83) (tgt := 123) (by decide +kernel) q1 (by decide) (by decide) k3
    · exact absurd (Int32.toInt_inj.mp (q1.trans (by decide))) c4
    · exact t_tablehole (dflt := 122) (lo := 1) (hi := 17) (offs := #[87, 122, 89, 91, 122, 85, 122, 122, 122, 122, 93, 122, 122, 122, 122, 83, 107]) (len := 83) (tgt := 123) (by decide +kernel) q1 (by decide) (by decide) k3
    · exact t_tablehole (dflt := 122) (lo := 1) (hi := 17) (offs := #[87, 122, 89, 91, 122, 85, 122, 122, 122, 122, 93, 122, 122, 122, 122, 83, 107]) (len := 83) (tgt := 123) (by decide +kernel) q1 (by decide) (by decide) k3
    · exact t_tablehole (dflt := 122) (lo := 1) (hi := 17) (offs := #[87, 122, 89, 91, 122, 85, 122, 122, 122, 122, 93, 122, 122, 122, 122, 83, 107]) (len := 83) (tgt := 123) (by decide +kernel) q1 (by decide) (by decide) k3
    · exact t_tablehole (dflt := 122) (lo := 1) (hi := 17) (offs := #[87, 122, 89, 91, 122, 85, 122, 122, 122, 122, 93, 122, 122, 122, 122, 83, 107]) (len := 83) (tgt := 123) (by decide +kernel) q1 (by decide) (by decide) k3
    · exact absurd (Int32.toInt_inj.mp (q1.trans (by decide))) c5
    · exact t_tablehole (dflt := 122) (lo := 1) (hi := 17) (offs := #[87, 122, 89, 91, 122, 85, 122, 122, 122, 122, 93, 122, 122, 122, 122, 83, 107]) (len := 83) (tgt := 123) (by decide +kernel) q1 (by decide) (by decide) k3
    · exact t_tablehole (dflt := 122) (lo := 1) (hi := 17) (offs := #[87, 122, 89, 91, 122, 85, 122, 122, 122, 122, 93, 122, 122, 122, 122, 83, 107]) (len := 83) (tgt := 123) (by decide +kernel) q1 (by decide) (by decide) k3
    · exact t_tablehole (dflt := 122) (lo := 1) (hi := 17) (offs := #[87, 122, 89, 91, 122, 85, 122, 122, 122, 122, 93, 122, 122, 122, 122, 83, 107]) (len := 83) (tgt := 123) (by decide +kernel) q1 (by decide) (by decide) k3
    · exact t_tablehole (dflt := 122) (lo := 1) (hi := 17) (offs := #[87, 122, 89, 91, 122, 85, 122, 122, 122, 122, 93, 122, 122, 122, 122, 83, 107]) (len := 83) (tgt := 123) (by decide +kernel) q1 (by decide) (by decide) k3
    · exact absurd (Int32.toInt_inj.mp (q1.trans (by decide))) c7
    · exact absurd (Int32.toInt_inj.mp (q1.trans (by decide))) c8
abbrev wM_goesIn (d pc : Nat) (ls st : List Value) (s : pm_S) (M : pm_M) (Q : Int32 → pm_S → pm_M → Prop) : Prop := wI d prog_14_method_18_code 12 (some .boolean) false pc ls st s M Q
theorem enM_goesIn {d : Nat} {s : pm_S} {M : pm_M} {x1 : Int32} {Q : Int32 → pm_S → pm_M → Prop}  (h : ((x1 = 6 → cV d yM_fails [.ref 159, .int 4] s M (fun s1 M1 => wM_goesIn d 11 [.ref 159, .null] [] s1 M1 Q)) ∧ (¬ (x1 = 6) → wM_goesIn d 11 [.ref 159, .null] [] s M Q))) : cI (d + 1) yM_goesIn [.ref 159, .int x1] s M Q := by
  refine pm_toI (by decide) (Nat.le_of_ble_eq_true rfl) ?_
  show wM_goesIn d 0 [.ref 159, .int x1] [] s M Q
  refine s_iload_n (i := 1) (by decide +kernel) rfl (pn 1 rfl ?_)
  refine t_bipush (by decide +kernel) kb_6 (pn 3 rfl ?_)
  refine t_icmp_ne (off := 8) (tgt := 11) (by decide +kernel) rfl (fun c1 => ?_) (fun c1 => (pn 6 rfl ?_))
  · have h := h.2 c1
    exact pm_weak [.ref 159, .null] (pm_le_cons (Or.inr rfl) (pm_le_cons (Or.inl rfl) pm_le_nil)) h
  · have h := h.1 c1
    refine s_aload_n (i := 0) (by decide +kernel) rfl (pn 7 rfl ?_)
    refine t_iconst (by decide +kernel) ki_4 (pn 8 rfl ?_)
    refine s_callvV [.int 4] rfl (by decide +kernel) mv_12_159 np_196 (Nat.le_of_ble_eq_true rfl) lq_159 ((congrArg Prod.fst sh_159).trans oc_196) (cV_use h (fun s1 M1 h => (pn 11 rfl ?_)))
    exact pm_weak [.ref 159, .null] (pm_le_cons (Or.inr rfl) (pm_le_cons (Or.inl rfl) pm_le_nil)) h
theorem sgM_goesIn_11 {d : Nat} {s : pm_S} {M : pm_M}  {Q : Int32 → pm_S → pm_M → Prop}  (h : (((M.1 159 11) = 0 → cV d yM_next [.ref 159] s M (fun s1 M1 => Q ((if (M1.1 159 11) = 0 then 1 else 0) : Int32) s1 M1)) ∧ (¬ ((M.1 159 11) = 0) → Q ((if (M.1 159 11) = 0 then 1 else 0) : Int32) s M))) : wM_goesIn d 11 [.ref 159, .null] [] s M Q := by
  refine s_aload_n (i := 0) (by decide +kernel) rfl (pn 12 rfl ?_)
  refine s_getfield (v := .int (M.1 159 11)) (by decide +kernel) fr_12_147 lq_159 (congrArg Prod.fst sh_159) rfl (pn 15 rfl ?_)
  refine t_if_ne (off := 7) (tgt := 22) (by decide +kernel) rfl (fun c1 => ?_) (fun c1 => (pn 18 rfl ?_))
  · have h := h.2 c1
    refine s_aload_n (i := 0) (by decide +kernel) rfl (pn 23 rfl ?_)
    refine s_getfield (v := .int (M.1 159 11)) (by decide +kernel) fr_12_147 lq_159 (congrArg Prod.fst sh_159) rfl (pn 26 rfl ?_)
    have k1 : ∀ (z1 : Int32) (z1e : z1 = ((if (M.1 159 11) = 0 then 1 else 0) : Int32)), wM_goesIn d 34 [.ref 159, .null] [.int z1] s M Q := by
      intro z1 z1e
      subst z1e
      exact s_ireturn (st := []) (by decide +kernel) (Or.inr ⟨rfl, (or01 (Or.inr rfl) (Or.inl rfl))⟩) ⟨_, rfl, s, rfl, h⟩
    refine t_if_ne (off := 7) (tgt := 33) (by decide +kernel) rfl (fun c2 => ?_) (fun c2 => (pn 29 rfl ?_))
    · refine t_iconst (by decide +kernel) ki_0 (pn 34 rfl ?_)
      exact k1 _ (by simp only [if_neg c2])
    · refine t_iconst (by decide +kernel) ki_1 (pn 30 rfl ?_)
      refine s_goto (off := 4) (tgt := 34) (by decide +kernel) rfl ?_
      exact k1 _ (by simp only [if_pos c2])
  · have h := h.1 c1
    refine s_aload_n (i := 0) (by decide +kernel) rfl (pn 19 rfl ?_)
    refine s_callvV [] rfl (by decide +kernel) mv_12_156 np_189 (Nat.le_of_ble_eq_true rfl) lq_159 ((congrArg Prod.fst sh_159).trans oc_189) (cV_use h (fun s1 M1 h => (pn 22 rfl ?_)))
    refine s_aload_n (i := 0) (by decide +kernel) rfl (pn 23 rfl ?_)
    refine s_getfield (v := .int (M1.1 159 11)) (by decide +kernel) fr_12_147 lq_159 (congrArg Prod.fst sh_159) rfl (pn 26 rfl ?_)
    have k2 : ∀ (z2 : Int32) (z2e : z2 = ((if (M1.1 159 11) = 0 then 1 else 0) : Int32)), wM_goesIn d 34 [.ref 159, .null] [.int z2] s1 M1 Q := by
      intro z2 z2e
      subst z2e
      exact s_ireturn (st := []) (by decide +kernel) (Or.inr ⟨rfl, (or01 (Or.inr rfl) (Or.inl rfl))⟩) ⟨_, rfl, s1, rfl, h⟩
    refine t_if_ne (off := 7) (tgt := 33) (by decide +kernel) rfl (fun c3 => ?_) (fun c3 => (pn 29 rfl ?_))
    · refine t_iconst (by decide +kernel) ki_0 (pn 34 rfl ?_)
      exact k2 _ (by simp only [if_neg c3])
    · refine t_iconst (by decide +kernel) ki_1 (pn 30 rfl ?_)
      refine s_goto (off := 4) (tgt := 34) (by decide +kernel) rfl ?_
      exact k2 _ (by simp only [if_pos c3])
abbrev wM_readIf (d pc : Nat) (ls st : List Value) (s : pm_S) (M : pm_M) (Q : pm_S → pm_M → Prop) : Prop := wV d prog_14_method_20_code 12 none false pc ls st s M Q
theorem enM_readIf {d : Nat} {s : pm_S} {M : pm_M} {x1 : Int32} {Q : pm_S → pm_M → Prop}  (h : cI d yM_goesIn [.ref 159, .int x1] s M (fun r1 s1 M1 => ((r1 = 0 → Q s1 M1) ∧ (¬ (r1 = 0) → cV d yM_readTruth [.ref 159, .int (x1 + 1)] s1 M1 (fun s2 M2 => cI d yM_eats [.ref 159, .int 13] s2 M2 (fun r2 s3 M3 => ((r2 = 0 → cV d yM_fails [.ref 159, .int 2] s3 M3 (fun s4 M4 => wM_readIf d 30 [.ref 159, .int x1] [] s4 M4 Q)) ∧ (¬ (r2 = 0) → wM_readIf d 30 [.ref 159, .int x1] [] s3 M3 Q)))))))) : cV (d + 1) yM_readIf [.ref 159, .int x1] s M Q := by
  refine pm_toV (by decide) (Nat.le_of_ble_eq_true rfl) ?_
  show wM_readIf d 0 [.ref 159, .int x1] [] s M Q
  refine s_aload_n (i := 0) (by decide +kernel) rfl (pn 1 rfl ?_)
  refine s_iload_n (i := 1) (by decide +kernel) rfl (pn 2 rfl ?_)
  refine s_callvI [.int x1] rfl (by decide +kernel) mv_12_176 np_210 (Nat.le_of_ble_eq_true rfl) lq_159 ((congrArg Prod.fst sh_159).trans oc_210) (cI_use h (fun r1 s1 M1 h => (pn 5 rfl ?_)))
  refine t_if_ne (off := 4) (tgt := 9) (by decide +kernel) rfl (fun c1 => ?_) (fun c1 => (pn 8 rfl ?_))
  · have h := h.2 c1
    refine s_aload_n (i := 0) (by decide +kernel) rfl (pn 10 rfl ?_)
    refine s_iload_n (i := 1) (by decide +kernel) rfl (pn 11 rfl ?_)
    refine t_iconst (by decide +kernel) ki_1 (pn 12 rfl ?_)
    refine s_iadd (by decide +kernel) (pn 13 rfl ?_)
    refine s_callvV [.int (x1 + 1)] rfl (by decide +kernel) mv_12_188 np_212 (Nat.le_of_ble_eq_true rfl) lq_159 ((congrArg Prod.fst sh_159).trans oc_212) (cV_use h (fun s2 M2 h => (pn 16 rfl ?_)))
    refine s_aload_n (i := 0) (by decide +kernel) rfl (pn 17 rfl ?_)
    refine t_bipush (by decide +kernel) kb_13 (pn 19 rfl ?_)
    refine s_callvI [.int 13] rfl (by decide +kernel) mv_12_182 np_194 (Nat.le_of_ble_eq_true rfl) lq_159 ((congrArg Prod.fst sh_159).trans oc_194) (cI_use h (fun r2 s3 M3 h => (pn 22 rfl ?_)))
    refine t_if_ne (off := 8) (tgt := 30) (by decide +kernel) rfl (fun c2 => ?_) (fun c2 => (pn 25 rfl ?_))
    · have h := h.2 c2
      exact h
    · have h := h.1 c2
      refine s_aload_n (i := 0) (by decide +kernel) rfl (pn 26 rfl ?_)
      refine t_iconst (by decide +kernel) ki_2 (pn 27 rfl ?_)
      refine s_callvV [.int 2] rfl (by decide +kernel) mv_12_159 np_196 (Nat.le_of_ble_eq_true rfl) lq_159 ((congrArg Prod.fst sh_159).trans oc_196) (cV_use h (fun s4 M4 h => (pn 30 rfl ?_)))
      exact h
  · have h := h.1 c1
    exact s_return (st := []) (by decide +kernel) rfl ⟨rfl, s1, rfl, h⟩
theorem sgM_readIf_30 {d : Nat} {s : pm_S} {M : pm_M} {l1 : Int32} {Q : pm_S → pm_M → Prop}  (h : cV d yM_readSum [.ref 159, .int (l1 + 1)] s M (fun s1 M1 => cI d yM_eats [.ref 159, .int 14] s1 M1 (fun r1 s2 M2 => ((r1 = 0 → cV d yM_fails [.ref 159, .int 2] s2 M2 (fun s3 M3 => wM_readIf d 51 [.ref 159, .int l1] [] s3 M3 Q)) ∧ (¬ (r1 = 0) → wM_readIf d 51 [.ref 159, .int l1] [] s2 M2 Q))))) : wM_readIf d 30 [.ref 159, .int l1] [] s M Q := by
  refine s_aload_n (i := 0) (by decide +kernel) rfl (pn 31 rfl ?_)
  refine s_iload_n (i := 1) (by decide +kernel) rfl (pn 32 rfl ?_)
  refine t_iconst (by decide +kernel) ki_1 (pn 33 rfl ?_)
  refine s_iadd (by decide +kernel) (pn 34 rfl ?_)
  refine s_callvV [.int (l1 + 1)] rfl (by decide +kernel) mv_12_179 np_205 (Nat.le_of_ble_eq_true rfl) lq_159 ((congrArg Prod.fst sh_159).trans oc_205) (cV_use h (fun s1 M1 h => (pn 37 rfl ?_)))
  refine s_aload_n (i := 0) (by decide +kernel) rfl (pn 38 rfl ?_)
  refine t_bipush (by decide +kernel) kb_14 (pn 40 rfl ?_)
  refine s_callvI [.int 14] rfl (by decide +kernel) mv_12_182 np_194 (Nat.le_of_ble_eq_true rfl) lq_159 ((congrArg Prod.fst sh_159).trans oc_194) (cI_use h (fun r1 s2 M2 h => (pn 43 rfl ?_)))
  refine t_if_ne (off := 8) (tgt := 51) (by decide +kernel) rfl (fun c1 => ?_) (fun c1 => (pn 46 rfl ?_))
  · have h := h.2 c1
    exact h
  · have h := h.1 c1
    refine s_aload_n (i := 0) (by decide +kernel) rfl (pn 47 rfl ?_)
    refine t_iconst (by decide +kernel) ki_2 (pn 48 rfl ?_)
    refine s_callvV [.int 2] rfl (by decide +kernel) mv_12_159 np_196 (Nat.le_of_ble_eq_true rfl) lq_159 ((congrArg Prod.fst sh_159).trans oc_196) (cV_use h (fun s3 M3 h => (pn 51 rfl ?_)))
    exact h
theorem sgM_readIf_51 {d : Nat} {s : pm_S} {M : pm_M} {l1 : Int32} {Q : pm_S → pm_M → Prop}  (h : cV d yM_readSum [.ref 159, .int (l1 + 1)] s M (fun s1 M1 => cI d yM_eats [.ref 159, .int 15] s1 M1 (fun r1 s2 M2 => ((r1 = 0 → cV d yM_fails [.ref 159, .int 2] s2 M2 (fun s4 M4 => cV d yM_codes [.ref 159, .int 3009] s4 M4 (fun s5 M5 => Q s5 M5))) ∧ (¬ (r1 = 0) → cV d yM_codes [.ref 159, .int 3009] s2 M2 (fun s3 M3 => Q s3 M3)))))) : wM_readIf d 51 [.ref 159, .int l1] [] s M Q := by
  refine s_aload_n (i := 0) (by decide +kernel) rfl (pn 52 rfl ?_)
  refine s_iload_n (i := 1) (by decide +kernel) rfl (pn 53 rfl ?_)
  refine t_iconst (by decide +kernel) ki_1 (pn 54 rfl ?_)
  refine s_iadd (by decide +kernel) (pn 55 rfl ?_)
  refine s_callvV [.int (l1 + 1)] rfl (by decide +kernel) mv_12_179 np_205 (Nat.le_of_ble_eq_true rfl) lq_159 ((congrArg Prod.fst sh_159).trans oc_205) (cV_use h (fun s1 M1 h => (pn 58 rfl ?_)))
  refine s_aload_n (i := 0) (by decide +kernel) rfl (pn 59 rfl ?_)
  refine t_bipush (by decide +kernel) kb_15 (pn 61 rfl ?_)
  refine s_callvI [.int 15] rfl (by decide +kernel) mv_12_182 np_194 (Nat.le_of_ble_eq_true rfl) lq_159 ((congrArg Prod.fst sh_159).trans oc_194) (cI_use h (fun r1 s2 M2 h => (pn 64 rfl ?_)))
  refine t_if_ne (off := 8) (tgt := 72) (by decide +kernel) rfl (fun c1 => ?_) (fun c1 => (pn 67 rfl ?_))
  · have h := h.2 c1
    refine s_aload_n (i := 0) (by decide +kernel) rfl (pn 73 rfl ?_)
    refine t_sipush (by decide +kernel) ks_3009 (pn 76 rfl ?_)
    refine s_callvV [.int 3009] rfl (by decide +kernel) mv_12_170 np_208 (Nat.le_of_ble_eq_true rfl) lq_159 ((congrArg Prod.fst sh_159).trans oc_208) (cV_use h (fun s3 M3 h => (pn 79 rfl ?_)))
    exact s_return (st := []) (by decide +kernel) rfl ⟨rfl, s3, rfl, h⟩
  · have h := h.1 c1
    refine s_aload_n (i := 0) (by decide +kernel) rfl (pn 68 rfl ?_)
    refine t_iconst (by decide +kernel) ki_2 (pn 69 rfl ?_)
    refine s_callvV [.int 2] rfl (by decide +kernel) mv_12_159 np_196 (Nat.le_of_ble_eq_true rfl) lq_159 ((congrArg Prod.fst sh_159).trans oc_196) (cV_use h (fun s4 M4 h => (pn 72 rfl ?_)))
    refine s_aload_n (i := 0) (by decide +kernel) rfl (pn 73 rfl ?_)
    refine t_sipush (by decide +kernel) ks_3009 (pn 76 rfl ?_)
    refine s_callvV [.int 3009] rfl (by decide +kernel) mv_12_170 np_208 (Nat.le_of_ble_eq_true rfl) lq_159 ((congrArg Prod.fst sh_159).trans oc_208) (cV_use h (fun s5 M5 h => (pn 79 rfl ?_)))
    exact s_return (st := []) (by decide +kernel) rfl ⟨rfl, s5, rfl, h⟩
abbrev wM_readTruth (d pc : Nat) (ls st : List Value) (s : pm_S) (M : pm_M) (Q : pm_S → pm_M → Prop) : Prop := wV d prog_14_method_25_code 12 none false pc ls st s M Q
theorem enM_readTruth {d : Nat} {s : pm_S} {M : pm_M} {x1 : Int32} {Q : pm_S → pm_M → Prop}  (h : cV d yM_readBoth [.ref 159, .int x1] s M (fun s1 M1 => wM_readTruth d 5 [.ref 159, .int x1] [] s1 M1 Q)) : cV (d + 1) yM_readTruth [.ref 159, .int x1] s M Q := by
  refine pm_toV (by decide) (Nat.le_of_ble_eq_true rfl) ?_
  show wM_readTruth d 0 [.ref 159, .int x1] [] s M Q
  refine s_aload_n (i := 0) (by decide +kernel) rfl (pn 1 rfl ?_)
  refine s_iload_n (i := 1) (by decide +kernel) rfl (pn 2 rfl ?_)
  refine s_callvV [.int x1] rfl (by decide +kernel) mv_12_200 np_213 (Nat.le_of_ble_eq_true rfl) lq_159 ((congrArg Prod.fst sh_159).trans oc_213) (cV_use h (fun s1 M1 h => (pn 5 rfl ?_)))
  exact h
theorem sgM_readTruth_5 {d : Nat} {s : pm_S} {M : pm_M} {l1 : Int32} {Q : pm_S → pm_M → Prop}  (h : cI d yM_eats [.ref 159, .int 19] s M (fun r1 s1 M1 => (((r1 = 0) → Q s1 M1) ∧ (¬ (r1 = 0) → cV d yM_readBoth [.ref 159, .int l1] s1 M1 (fun s2 M2 => cV d yM_codes [.ref 159, .int 3008] s2 M2 (fun s3 M3 => wM_readTruth d 5 [.ref 159, .int l1] [] s3 M3 Q)))))) : wM_readTruth d 5 [.ref 159, .int l1] [] s M Q := by
  refine s_aload_n (i := 0) (by decide +kernel) rfl (pn 6 rfl ?_)
  refine t_bipush (by decide +kernel) kb_19 (pn 8 rfl ?_)
  refine s_callvI [.int 19] rfl (by decide +kernel) mv_12_182 np_194 (Nat.le_of_ble_eq_true rfl) lq_159 ((congrArg Prod.fst sh_159).trans oc_194) (cI_use h (fun r1 s1 M1 h => (pn 11 rfl ?_)))
  refine s_if_eq (off := 18) (tgt := 29) (by decide +kernel) rfl (fun c1 => ?_) (fun c1 => (pn 14 rfl ?_))
  · have h := h.1 c1
    exact s_return (st := []) (by decide +kernel) rfl ⟨rfl, s1, rfl, h⟩
  · have h := h.2 c1
    refine s_aload_n (i := 0) (by decide +kernel) rfl (pn 15 rfl ?_)
    refine s_iload_n (i := 1) (by decide +kernel) rfl (pn 16 rfl ?_)
    refine s_callvV [.int l1] rfl (by decide +kernel) mv_12_200 np_213 (Nat.le_of_ble_eq_true rfl) lq_159 ((congrArg Prod.fst sh_159).trans oc_213) (cV_use h (fun s2 M2 h => (pn 19 rfl ?_)))
    refine s_aload_n (i := 0) (by decide +kernel) rfl (pn 20 rfl ?_)
    refine t_sipush (by decide +kernel) ks_3008 (pn 23 rfl ?_)
    refine s_callvV [.int 3008] rfl (by decide +kernel) mv_12_170 np_208 (Nat.le_of_ble_eq_true rfl) lq_159 ((congrArg Prod.fst sh_159).trans oc_208) (cV_use h (fun s3 M3 h => (pn 26 rfl ?_)))
    refine s_goto (off := -21) (tgt := 5) (by decide +kernel) rfl ?_
    exact h
