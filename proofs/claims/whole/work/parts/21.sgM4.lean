abbrev wM_inADay (d pc : Nat) (ls st : List Value) (s : pm_S) (M : pm_M) (Q : Int32 → pm_S → pm_M → Prop) : Prop := wI d prog_14_method_115_code 12 (some .int) false pc ls st s M Q
theorem enM_inADay {d : Nat} {s : pm_S} {M : pm_M} {x1 : Int32} {x2 : Int32} {Q : Int32 → pm_S → pm_M → Prop}  (h : cI d yM_isPerson [.ref 159, .long (x1.toInt64)] s (pm_si M 159 0 0) (fun r1 s1 M1 => ((r1 = 0 → Q (-2) s1 M1) ∧ (¬ (r1 = 0) → cI d yM_isSet [.ref 159, .int x2] s1 M1 (fun r2 s2 M2 => ((r2 = 0 → Q (-3) s2 M2) ∧ (¬ (r2 = 0) → wM_inADay d 30 [.ref 159, .int x1, .int x2, .int 0, .null, .null, .null, .null, .null] [] s2 M2 Q))))))) : cI (d + 1) yM_inADay [.ref 159, .int x1, .int x2] s M Q := by
  refine pm_toI (by decide) (Nat.le_of_ble_eq_true rfl) ?_
  show wM_inADay d 0 [.ref 159, .int x1, .int x2, .null, .null, .null, .null, .null, .null] [] s M Q
  refine s_aload_n (i := 0) (by decide +kernel) rfl (pn 1 rfl ?_)
  refine t_iconst (by decide +kernel) ki_0 (pn 2 rfl ?_)
  refine s_putfieldI (by decide +kernel) fr_12_1 lq_159 (congrArg Prod.fst sh_159) (fun q => by cases q) (Or.inl rfl) (pn 5 rfl ?_)
  refine s_aload_n (i := 0) (by decide +kernel) rfl (pn 6 rfl ?_)
  refine s_iload_n (i := 1) (by decide +kernel) rfl (pn 7 rfl ?_)
  refine s_i2l (by decide +kernel) (pn 8 rfl ?_)
  refine s_callvI [.long (x1.toInt64)] rfl (by decide +kernel) mv_12_231 np_219 (Nat.le_of_ble_eq_true rfl) lq_159 ((congrArg Prod.fst sh_159).trans oc_219) (cI_use h (fun r1 s1 M1 h => (pn 11 rfl ?_)))
  refine t_if_ne (off := 6) (tgt := 17) (by decide +kernel) rfl (fun c1 => ?_) (fun c1 => (pn 14 rfl ?_))
  · have h := h.2 c1
    refine s_aload_n (i := 0) (by decide +kernel) rfl (pn 18 rfl ?_)
    refine s_iload_n (i := 2) (by decide +kernel) rfl (pn 19 rfl ?_)
    refine s_callvI [.int x2] rfl (by decide +kernel) mv_12_435 np_291 (Nat.le_of_ble_eq_true rfl) lq_159 ((congrArg Prod.fst sh_159).trans oc_291) (cI_use h (fun r2 s2 M2 h => (pn 22 rfl ?_)))
    refine t_if_ne (off := 6) (tgt := 28) (by decide +kernel) rfl (fun c2 => ?_) (fun c2 => (pn 25 rfl ?_))
    · have h := h.2 c2
      refine t_iconst (by decide +kernel) ki_0 (pn 29 rfl ?_)
      refine s_istore_n (i := 3) (by decide +kernel) (Nat.le_of_ble_eq_true rfl) (pn 30 rfl (t_store (ls' := [.ref 159, .int x1, .int x2, .int 0, .null, .null, .null, .null, .null]) rfl ?_))
      exact h
    · have h := h.1 c2
      refine t_bipush (by decide +kernel) kb_m3 (pn 27 rfl ?_)
      exact s_ireturn (st := []) (by decide +kernel) (Or.inl rfl) ⟨_, rfl, s2, rfl, h⟩
  · have h := h.1 c1
    refine t_bipush (by decide +kernel) kb_m2 (pn 16 rfl ?_)
    exact s_ireturn (st := []) (by decide +kernel) (Or.inl rfl) ⟨_, rfl, s1, rfl, h⟩
theorem sgM_inADay_30 {d : Nat} {s : pm_S} {M : pm_M} {l1 : Int32} {l2 : Int32} {l3 : Int32} {Q : Int32 → pm_S → pm_M → Prop}  (h : (((25600 ≤ l3) → wM_inADay d 63 [.ref 159, .int l1, .int l2, .int 0, .int 0, .null, .null, .null, .null] [] s M Q) ∧ (¬ (25600 ≤ l3) → vp_in l3 25600 ∧ wM_inADay d 30 [.ref 159, .int l1, .int l2, .int (l3 + 1), .null, .null, .null, .null, .null] [] s (pm_si M 178 l3.toNatClampNeg ((if l3 = 0 then 1 else 0) : Int32)) Q))) : wM_inADay d 30 [.ref 159, .int l1, .int l2, .int l3, .null, .null, .null, .null, .null] [] s M Q := by
  refine s_iload_n (i := 3) (by decide +kernel) rfl (pn 31 rfl ?_)
  refine t_sipush (by decide +kernel) ks_25600 (pn 34 rfl ?_)
  refine s_icmp_ge (off := 24) (tgt := 58) (by decide +kernel) rfl (fun c1 => ?_) (fun c1 => (pn 37 rfl ?_))
  · have h := h.1 c1
    refine t_iconst (by decide +kernel) ki_0 (pn 59 rfl ?_)
    refine s_istore_n (i := 3) (by decide +kernel) (Nat.le_of_ble_eq_true rfl) (pn 60 rfl (t_store (ls' := [.ref 159, .int l1, .int l2, .int 0, .null, .null, .null, .null, .null]) rfl ?_))
    refine t_iconst (by decide +kernel) ki_0 (pn 61 rfl ?_)
    refine s_istore (i := 4) (by decide +kernel) (Nat.le_of_ble_eq_true rfl) (pn 63 rfl (t_store (ls' := [.ref 159, .int l1, .int l2, .int 0, .int 0, .null, .null, .null, .null]) rfl ?_))
    exact h
  · have h := h.2 c1
    refine s_aload_n (i := 0) (by decide +kernel) rfl (pn 38 rfl ?_)
    refine s_getfield (v := .ref 178) (by decide +kernel) fr_12_75 lq_159 (congrArg Prod.fst sh_159) (fv_ref pf_159_35) (pn 41 rfl ?_)
    refine s_iload_n (i := 3) (by decide +kernel) rfl (pn 42 rfl ?_)
    refine s_iload_n (i := 3) (by decide +kernel) rfl (pn 43 rfl ?_)
    have k1 : ∀ (z1 : Int32) (z1e : z1 = ((if l3 = 0 then 1 else 0) : Int32)), wM_inADay d 51 [.ref 159, .int l1, .int l2, .int l3, .null, .null, .null, .null, .null] [.int z1, .int l3, .ref 178] s M Q := by
      intro z1 z1e
      subst z1e
      obtain ⟨b1, h⟩ := h
      refine t_bastore (k := l3.toNatClampNeg) (by decide +kernel) ⟨lq_178, congrArg Prod.fst sh_178⟩ (al_in sh_178 b1) rfl (or01 (Or.inr rfl) (Or.inl rfl)) (pn 52 rfl ?_)
      refine t_iinc (i := 3) (n := 1) (ls' := [.ref 159, .int l1, .int l2, .int (l3 + 1), .null, .null, .null, .null, .null]) (by decide +kernel) rfl (Nat.le_of_ble_eq_true rfl) kn_1 rfl (pn 55 rfl ?_)
      refine s_goto (off := -25) (tgt := 30) (by decide +kernel) rfl ?_
      exact h
    refine t_if_ne (off := 7) (tgt := 50) (by decide +kernel) rfl (fun c2 => ?_) (fun c2 => (pn 46 rfl ?_))
    · refine t_iconst (by decide +kernel) ki_0 (pn 51 rfl ?_)
      exact k1 _ (by simp only [if_neg c2])
    · refine t_iconst (by decide +kernel) ki_1 (pn 47 rfl ?_)
      refine s_goto (off := 4) (tgt := 51) (by decide +kernel) rfl ?_
      exact k1 _ (by simp only [if_pos c2])
theorem sgM_inADay_63 {d : Nat} {s : pm_S} {M : pm_M} {l1 : Int32} {l2 : Int32} {l3 : Int32} {l4 : Int32} {Q : Int32 → pm_S → pm_M → Prop}  (h : (((l2 < l4) → Q l3 s M) ∧ (¬ (l2 < l4) → ((((l4 &&& (l2 ^^^ (-1))) = 0) → wM_inADay d 87 [.ref 159, .int l1, .int l2, .int l3, .int l4, .int 0, .int 0, .null, .null] [] s M Q) ∧ (¬ ((l4 &&& (l2 ^^^ (-1))) = 0) → wM_inADay d 63 [.ref 159, .int l1, .int l2, .int l3, .int (l4 + 1), .null, .null, .null, .null] [] s M Q))))) : wM_inADay d 63 [.ref 159, .int l1, .int l2, .int l3, .int l4, .null, .null, .null, .null] [] s M Q := by
  refine s_iload (i := 4) (by decide +kernel) rfl (pn 65 rfl ?_)
  refine s_iload_n (i := 2) (by decide +kernel) rfl (pn 66 rfl ?_)
  refine s_icmp_gt (off := 167) (tgt := 233) (by decide +kernel) rfl (fun c1 => ?_) (fun c1 => (pn 69 rfl ?_))
  · have h := h.1 c1
    refine s_iload_n (i := 3) (by decide +kernel) rfl (pn 234 rfl ?_)
    exact s_ireturn (st := []) (by decide +kernel) (Or.inl rfl) ⟨_, rfl, s, rfl, h⟩
  · have h := h.2 c1
    refine s_iload (i := 4) (by decide +kernel) rfl (pn 71 rfl ?_)
    refine s_iload_n (i := 2) (by decide +kernel) rfl (pn 72 rfl ?_)
    refine t_iconst (by decide +kernel) ki_m1 (pn 73 rfl ?_)
    refine s_ixor (by decide +kernel) (pn 74 rfl ?_)
    refine s_iand (by decide +kernel) (pn 75 rfl ?_)
    refine s_if_eq (off := 6) (tgt := 81) (by decide +kernel) rfl (fun c2 => ?_) (fun c2 => (pn 78 rfl ?_))
    · have h := h.1 c2
      refine t_iconst (by decide +kernel) ki_0 (pn 82 rfl ?_)
      refine s_istore (i := 5) (by decide +kernel) (Nat.le_of_ble_eq_true rfl) (pn 84 rfl (t_store (ls' := [.ref 159, .int l1, .int l2, .int l3, .int l4, .int 0, .null, .null, .null]) rfl ?_))
      refine t_iconst (by decide +kernel) ki_0 (pn 85 rfl ?_)
      refine s_istore (i := 6) (by decide +kernel) (Nat.le_of_ble_eq_true rfl) (pn 87 rfl (t_store (ls' := [.ref 159, .int l1, .int l2, .int l3, .int l4, .int 0, .int 0, .null, .null]) rfl ?_))
      exact h
    · have h := h.2 c2
      refine s_goto (off := 149) (tgt := 227) (by decide +kernel) rfl ?_
      refine t_iinc (i := 4) (n := 1) (ls' := [.ref 159, .int l1, .int l2, .int l3, .int (l4 + 1), .null, .null, .null, .null]) (by decide +kernel) rfl (Nat.le_of_ble_eq_true rfl) kn_1 rfl (pn 230 rfl ?_)
      refine s_goto (off := -167) (tgt := 63) (by decide +kernel) rfl ?_
      exact h
theorem sgM_inADay_87 {d : Nat} {s : pm_S} {M : pm_M} {l1 : Int32} {l2 : Int32} {l3 : Int32} {l4 : Int32} {l5 : Int32} {l6 : Int32} {Q : Int32 → pm_S → pm_M → Prop}  (h : (((99 < l6) → (((l5 = 0) → wM_inADay d 63 [.ref 159, .int l1, .int l2, .int l3, .int (l4 + 1), .null, .null, .null, .null] [] s M Q) ∧ (¬ (l5 = 0) → cI d yM_bitsOf [.int l4] s M (fun r1 s1 M1 => cI d yM_bitsOf [.int l3] s1 M1 (fun r2 s2 M2 => wM_inADay d 63 [.ref 159, .int l1, .int l2, .int ((if r1 ≤ r2 then l3 else l4) : Int32), .int (l4 + 1), .null, .null, .null, .null] [] s2 M2 Q))))) ∧ (¬ (99 < l6) → vp_in (((100 : Int32) * l4) + l6) 25600 ∧ (((M.1 178 (((100 : Int32) * l4) + l6).toNatClampNeg) = 0 → wM_inADay d 87 [.ref 159, .int l1, .int l2, .int l3, .int l4, .int l5, .int (l6 + 1), .null, .null] [] s M Q) ∧ (¬ ((M.1 178 (((100 : Int32) * l4) + l6).toNatClampNeg) = 0) → wM_inADay d 119 [.ref 159, .int l1, .int l2, .int l3, .int l4, .int 1, .int l6, .int 0, .null] [] s M Q))))) : wM_inADay d 87 [.ref 159, .int l1, .int l2, .int l3, .int l4, .int l5, .int l6, .null, .null] [] s M Q := by
  refine s_iload (i := 6) (by decide +kernel) rfl (pn 89 rfl ?_)
  refine t_bipush (by decide +kernel) kb_99 (pn 91 rfl ?_)
  refine s_icmp_gt (off := 116) (tgt := 207) (by decide +kernel) rfl (fun c1 => ?_) (fun c1 => (pn 94 rfl ?_))
  · have h := h.1 c1
    refine s_iload (i := 5) (by decide +kernel) rfl (pn 209 rfl ?_)
    refine s_if_eq (off := 18) (tgt := 227) (by decide +kernel) rfl (fun c2 => ?_) (fun c2 => (pn 212 rfl ?_))
    · have h := h.1 c2
      refine t_iinc (i := 4) (n := 1) (ls' := [.ref 159, .int l1, .int l2, .int l3, .int (l4 + 1), .int l5, .int l6, .null, .null]) (by decide +kernel) rfl (Nat.le_of_ble_eq_true rfl) kn_1 rfl (pn 230 rfl ?_)
      refine s_goto (off := -167) (tgt := 63) (by decide +kernel) rfl ?_
      exact pm_weak [.ref 159, .int l1, .int l2, .int l3, .int (l4 + 1), .null, .null, .null, .null] (pm_le_cons (Or.inr rfl) (pm_le_cons (Or.inr rfl) (pm_le_cons (Or.inr rfl) (pm_le_cons (Or.inr rfl) (pm_le_cons (Or.inr rfl) (pm_le_cons (Or.inl rfl) (pm_le_cons (Or.inl rfl) (pm_le_cons (Or.inl rfl) (pm_le_cons (Or.inl rfl) pm_le_nil))))))))) h
    · have h := h.2 c2
      refine s_iload (i := 4) (by decide +kernel) rfl (pn 214 rfl ?_)
      refine s_callsI [.int l4] rfl (by decide +kernel) ms_12_297 np_237 (Nat.le_of_ble_eq_true rfl) (cI_use h (fun r1 s1 M1 h => (pn 217 rfl ?_)))
      refine s_iload_n (i := 3) (by decide +kernel) rfl (pn 218 rfl ?_)
      refine s_callsI [.int l3] rfl (by decide +kernel) ms_12_297 np_237 (Nat.le_of_ble_eq_true rfl) (cI_use h (fun r2 s2 M2 h => (pn 221 rfl ?_)))
      have k1 : ∀ (z1 : Int32) (z1e : z1 = ((if r1 ≤ r2 then l3 else l4) : Int32)), wM_inADay d 227 [.ref 159, .int l1, .int l2, .int z1, .int l4, .int l5, .int l6, .null, .null] [] s2 M2 Q := by
        intro z1 z1e
        subst z1e
        refine t_iinc (i := 4) (n := 1) (ls' := [.ref 159, .int l1, .int l2, .int ((if r1 ≤ r2 then l3 else l4) : Int32), .int (l4 + 1), .int l5, .int l6, .null, .null]) (by decide +kernel) rfl (Nat.le_of_ble_eq_true rfl) kn_1 rfl (pn 230 rfl ?_)
        refine s_goto (off := -167) (tgt := 63) (by decide +kernel) rfl ?_
        exact pm_weak [.ref 159, .int l1, .int l2, .int ((if r1 ≤ r2 then l3 else l4) : Int32), .int (l4 + 1), .null, .null, .null, .null] (pm_le_cons (Or.inr rfl) (pm_le_cons (Or.inr rfl) (pm_le_cons (Or.inr rfl) (pm_le_cons (Or.inr rfl) (pm_le_cons (Or.inr rfl) (pm_le_cons (Or.inl rfl) (pm_le_cons (Or.inl rfl) (pm_le_cons (Or.inl rfl) (pm_le_cons (Or.inl rfl) pm_le_nil))))))))) h
      refine s_icmp_le (off := 6) (tgt := 227) (by decide +kernel) rfl (fun c3 => ?_) (fun c3 => (pn 224 rfl ?_))
      · exact k1 _ (by simp only [if_pos c3])
      · refine s_iload (i := 4) (by decide +kernel) rfl (pn 226 rfl ?_)
        refine s_istore_n (i := 3) (by decide +kernel) (Nat.le_of_ble_eq_true rfl) (pn 227 rfl (t_store (ls' := [.ref 159, .int l1, .int l2, .int l4, .int l4, .int l5, .int l6, .null, .null]) rfl ?_))
        exact k1 _ (by simp only [if_neg c3])
  · have h := h.2 c1
    refine s_aload_n (i := 0) (by decide +kernel) rfl (pn 95 rfl ?_)
    refine s_getfield (v := .ref 178) (by decide +kernel) fr_12_75 lq_159 (congrArg Prod.fst sh_159) (fv_ref pf_159_35) (pn 98 rfl ?_)
    refine t_bipush (by decide +kernel) kb_100 (pn 100 rfl ?_)
    refine s_iload (i := 4) (by decide +kernel) rfl (pn 102 rfl ?_)
    refine s_imul (by decide +kernel) (pn 103 rfl ?_)
    refine s_iload (i := 6) (by decide +kernel) rfl (pn 105 rfl ?_)
    refine s_iadd (by decide +kernel) (pn 106 rfl ?_)
    obtain ⟨b1, h⟩ := h
    refine t_baload (v := M.1 178 (((100 : Int32) * l4) + l6).toNatClampNeg) (by decide +kernel) ⟨lq_178, congrArg Prod.fst sh_178⟩ (al_in sh_178 b1) rfl (pn 107 rfl ?_)
    refine t_if_ne (off := 6) (tgt := 113) (by decide +kernel) rfl (fun c4 => ?_) (fun c4 => (pn 110 rfl ?_))
    · have h := h.2 c4
      refine t_iconst (by decide +kernel) ki_1 (pn 114 rfl ?_)
      refine s_istore (i := 5) (by decide +kernel) (Nat.le_of_ble_eq_true rfl) (pn 116 rfl (t_store (ls' := [.ref 159, .int l1, .int l2, .int l3, .int l4, .int 1, .int l6, .null, .null]) rfl ?_))
      refine t_iconst (by decide +kernel) ki_0 (pn 117 rfl ?_)
      refine s_istore (i := 7) (by decide +kernel) (Nat.le_of_ble_eq_true rfl) (pn 119 rfl (t_store (ls' := [.ref 159, .int l1, .int l2, .int l3, .int l4, .int 1, .int l6, .int 0, .null]) rfl ?_))
      exact h
    · have h := h.1 c4
      refine s_goto (off := 91) (tgt := 201) (by decide +kernel) rfl ?_
      refine t_iinc (i := 6) (n := 1) (ls' := [.ref 159, .int l1, .int l2, .int l3, .int l4, .int l5, .int (l6 + 1), .null, .null]) (by decide +kernel) rfl (Nat.le_of_ble_eq_true rfl) kn_1 rfl (pn 204 rfl ?_)
      refine s_goto (off := -117) (tgt := 87) (by decide +kernel) rfl ?_
      exact h
theorem sgM_inADay_119 {d : Nat} {s : pm_S} {M : pm_M} {l1 : Int32} {l2 : Int32} {l3 : Int32} {l4 : Int32} {l5 : Int32} {l6 : Int32} {l7 : Int32} {Q : Int32 → pm_S → pm_M → Prop}  (h : (((8 ≤ l7) → wM_inADay d 87 [.ref 159, .int l1, .int l2, .int l3, .int l4, .int l5, .int (l6 + 1), .null, .null] [] s M Q) ∧ (¬ (8 ≤ l7) → cI d yM_isIn [.long ((l2 &&& (l4 ^^^ (-1))).toInt64), .int l7] s M (fun r1 s1 M1 => (((r1 = 0) → wM_inADay d 160 [.ref 159, .int l1, .int l2, .int l3, .int l4, .int l5, .int l6, .int l7, .null] [.int 268435456] s1 M1 Q) ∧ (¬ (r1 = 0) → cI d yM_burdenOf [.ref 159, .int l1, .int l7, .int 0, .int l6] s1 M1 (fun r2 s2 M2 => wM_inADay d 160 [.ref 159, .int l1, .int l2, .int l3, .int l4, .int l5, .int l6, .int l7, .null] [.int (l6 + r2)] s2 M2 Q))))))) : wM_inADay d 119 [.ref 159, .int l1, .int l2, .int l3, .int l4, .int l5, .int l6, .int l7, .null] [] s M Q := by
  refine s_iload (i := 7) (by decide +kernel) rfl (pn 121 rfl ?_)
  refine t_bipush (by decide +kernel) kb_8 (pn 123 rfl ?_)
  refine s_icmp_ge (off := 78) (tgt := 201) (by decide +kernel) rfl (fun c1 => ?_) (fun c1 => (pn 126 rfl ?_))
  · have h := h.1 c1
    refine t_iinc (i := 6) (n := 1) (ls' := [.ref 159, .int l1, .int l2, .int l3, .int l4, .int l5, .int (l6 + 1), .int l7, .null]) (by decide +kernel) rfl (Nat.le_of_ble_eq_true rfl) kn_1 rfl (pn 204 rfl ?_)
    refine s_goto (off := -117) (tgt := 87) (by decide +kernel) rfl ?_
    exact pm_weak [.ref 159, .int l1, .int l2, .int l3, .int l4, .int l5, .int (l6 + 1), .null, .null] (pm_le_cons (Or.inr rfl) (pm_le_cons (Or.inr rfl) (pm_le_cons (Or.inr rfl) (pm_le_cons (Or.inr rfl) (pm_le_cons (Or.inr rfl) (pm_le_cons (Or.inr rfl) (pm_le_cons (Or.inr rfl) (pm_le_cons (Or.inl rfl) (pm_le_cons (Or.inl rfl) pm_le_nil))))))))) h
  · have h := h.2 c1
    refine s_iload_n (i := 2) (by decide +kernel) rfl (pn 127 rfl ?_)
    refine s_iload (i := 4) (by decide +kernel) rfl (pn 129 rfl ?_)
    refine t_iconst (by decide +kernel) ki_m1 (pn 130 rfl ?_)
    refine s_ixor (by decide +kernel) (pn 131 rfl ?_)
    refine s_iand (by decide +kernel) (pn 132 rfl ?_)
    refine s_i2l (by decide +kernel) (pn 133 rfl ?_)
    refine s_iload (i := 7) (by decide +kernel) rfl (pn 135 rfl ?_)
    refine s_callsI [.long ((l2 &&& (l4 ^^^ (-1))).toInt64), .int l7] rfl (by decide +kernel) ms_12_390 np_278 (Nat.le_of_ble_eq_true rfl) (cI_use h (fun r1 s1 M1 h => (pn 138 rfl ?_)))
    refine s_if_eq (off := 19) (tgt := 157) (by decide +kernel) rfl (fun c2 => ?_) (fun c2 => (pn 141 rfl ?_))
    · have h := h.1 c2
      refine s_ldc_w (by decide +kernel) kc_12_421 (pn 160 rfl ?_)
      exact h
    · have h := h.2 c2
      refine s_iload (i := 6) (by decide +kernel) rfl (pn 143 rfl ?_)
      refine s_aload_n (i := 0) (by decide +kernel) rfl (pn 144 rfl ?_)
      refine s_iload_n (i := 1) (by decide +kernel) rfl (pn 145 rfl ?_)
      refine s_iload (i := 7) (by decide +kernel) rfl (pn 147 rfl ?_)
      refine t_iconst (by decide +kernel) ki_0 (pn 148 rfl ?_)
      refine s_iload (i := 6) (by decide +kernel) rfl (pn 150 rfl ?_)
      refine s_callvI [.int l1, .int l7, .int 0, .int l6] rfl (by decide +kernel) mv_12_246 np_227 (Nat.le_of_ble_eq_true rfl) lq_159 ((congrArg Prod.fst sh_159).trans oc_227) (cI_use h (fun r2 s2 M2 h => (pn 153 rfl ?_)))
      refine s_iadd (by decide +kernel) (pn 154 rfl ?_)
      refine s_goto (off := 6) (tgt := 160) (by decide +kernel) rfl ?_
      exact h
theorem sgM_inADay_160 {d : Nat} {s : pm_S} {M : pm_M} {l1 : Int32} {l2 : Int32} {l3 : Int32} {l4 : Int32} {l5 : Int32} {l6 : Int32} {l7 : Int32} {t0 : Int32} {Q : Int32 → pm_S → pm_M → Prop}  (h : vp_in ((41 : Int32) + l1) 3870 ∧ ((((M.1 160 ((41 : Int32) + l1).toNatClampNeg) < t0) → wM_inADay d 119 [.ref 159, .int l1, .int l2, .int l3, .int l4, .int l5, .int l6, .int (l7 + 1), .null] [] s M Q) ∧ (¬ ((M.1 160 ((41 : Int32) + l1).toNatClampNeg) < t0) → vp_in (((100 : Int32) * (l4 ||| ((1 : Int32) <<< (l7 &&& 31)))) + t0) 25600 ∧ wM_inADay d 119 [.ref 159, .int l1, .int l2, .int l3, .int l4, .int l5, .int l6, .int (l7 + 1), .null] [] s (pm_si M 178 (((100 : Int32) * (l4 ||| ((1 : Int32) <<< (l7 &&& 31)))) + t0).toNatClampNeg 1) Q))) : wM_inADay d 160 [.ref 159, .int l1, .int l2, .int l3, .int l4, .int l5, .int l6, .int l7, .null] [.int t0] s M Q := by
  refine s_istore (i := 8) (by decide +kernel) (Nat.le_of_ble_eq_true rfl) (pn 162 rfl (t_store (ls' := [.ref 159, .int l1, .int l2, .int l3, .int l4, .int l5, .int l6, .int l7, .int t0]) rfl ?_))
  refine s_iload (i := 8) (by decide +kernel) rfl (pn 164 rfl ?_)
  refine s_aload_n (i := 0) (by decide +kernel) rfl (pn 165 rfl ?_)
  refine s_getfield (v := .ref 160) (by decide +kernel) fr_12_13 lq_159 (congrArg Prod.fst sh_159) (fv_ref pf_159_1) (pn 168 rfl ?_)
  refine t_bipush (by decide +kernel) kb_41 (pn 170 rfl ?_)
  refine s_iload_n (i := 1) (by decide +kernel) rfl (pn 171 rfl ?_)
  refine s_iadd (by decide +kernel) (pn 172 rfl ?_)
  obtain ⟨b1, h⟩ := h
  refine t_iaload (v := M.1 160 ((41 : Int32) + l1).toNatClampNeg) (by decide +kernel) ⟨Or.inl lq_160, congrArg Prod.fst sh_160⟩ (al_in sh_160 b1) rfl (pn 173 rfl ?_)
  refine s_icmp_gt (off := 22) (tgt := 195) (by decide +kernel) rfl (fun c1 => ?_) (fun c1 => (pn 176 rfl ?_))
  · have h := h.1 c1
    refine t_iinc (i := 7) (n := 1) (ls' := [.ref 159, .int l1, .int l2, .int l3, .int l4, .int l5, .int l6, .int (l7 + 1), .int t0]) (by decide +kernel) rfl (Nat.le_of_ble_eq_true rfl) kn_1 rfl (pn 198 rfl ?_)
    refine s_goto (off := -79) (tgt := 119) (by decide +kernel) rfl ?_
    exact pm_weak [.ref 159, .int l1, .int l2, .int l3, .int l4, .int l5, .int l6, .int (l7 + 1), .null] (pm_le_cons (Or.inr rfl) (pm_le_cons (Or.inr rfl) (pm_le_cons (Or.inr rfl) (pm_le_cons (Or.inr rfl) (pm_le_cons (Or.inr rfl) (pm_le_cons (Or.inr rfl) (pm_le_cons (Or.inr rfl) (pm_le_cons (Or.inr rfl) (pm_le_cons (Or.inl rfl) pm_le_nil))))))))) h
  · have h := h.2 c1
    refine s_aload_n (i := 0) (by decide +kernel) rfl (pn 177 rfl ?_)
    refine s_getfield (v := .ref 178) (by decide +kernel) fr_12_75 lq_159 (congrArg Prod.fst sh_159) (fv_ref pf_159_35) (pn 180 rfl ?_)
    refine t_bipush (by decide +kernel) kb_100 (pn 182 rfl ?_)
    refine s_iload (i := 4) (by decide +kernel) rfl (pn 184 rfl ?_)
    refine t_iconst (by decide +kernel) ki_1 (pn 185 rfl ?_)
    refine s_iload (i := 7) (by decide +kernel) rfl (pn 187 rfl ?_)
    refine s_ishl (by decide +kernel) (pn 188 rfl ?_)
    refine s_ior (by decide +kernel) (pn 189 rfl ?_)
    refine s_imul (by decide +kernel) (pn 190 rfl ?_)
    refine s_iload (i := 8) (by decide +kernel) rfl (pn 192 rfl ?_)
    refine s_iadd (by decide +kernel) (pn 193 rfl ?_)
    refine t_iconst (by decide +kernel) ki_1 (pn 194 rfl ?_)
    obtain ⟨b2, h⟩ := h
    refine t_bastore (k := (((100 : Int32) * (l4 ||| ((1 : Int32) <<< (l7 &&& 31)))) + t0).toNatClampNeg) (by decide +kernel) ⟨lq_178, congrArg Prod.fst sh_178⟩ (al_in sh_178 b2) rfl (Or.inr rfl) (pn 195 rfl ?_)
    refine t_iinc (i := 7) (n := 1) (ls' := [.ref 159, .int l1, .int l2, .int l3, .int l4, .int l5, .int l6, .int (l7 + 1), .int t0]) (by decide +kernel) rfl (Nat.le_of_ble_eq_true rfl) kn_1 rfl (pn 198 rfl ?_)
    refine s_goto (off := -79) (tgt := 119) (by decide +kernel) rfl ?_
    exact pm_weak [.ref 159, .int l1, .int l2, .int l3, .int l4, .int l5, .int l6, .int (l7 + 1), .null] (pm_le_cons (Or.inr rfl) (pm_le_cons (Or.inr rfl) (pm_le_cons (Or.inr rfl) (pm_le_cons (Or.inr rfl) (pm_le_cons (Or.inr rfl) (pm_le_cons (Or.inr rfl) (pm_le_cons (Or.inr rfl) (pm_le_cons (Or.inr rfl) (pm_le_cons (Or.inl rfl) pm_le_nil))))))))) h
abbrev wM_marks (d pc : Nat) (ls st : List Value) (s : pm_S) (M : pm_M) (Q : Int32 → pm_S → pm_M → Prop) : Prop := wI d prog_14_method_120_code 12 (some .int) false pc ls st s M Q
theorem enM_marks {d : Nat} {s : pm_S} {M : pm_M} {x1 : Int32} {x2 : Int32} {Q : Int32 → pm_S → pm_M → Prop}  (h : cI d yM_noAnswers [.ref 159, .int x1, .int x2] s (pm_si M 159 0 0) (fun r1 s1 M1 => (((r1 = 0) → cI d yM_marksOf [.ref 159, .int x1, .int x2] s1 M1 (fun r2 s2 M2 => Q r2 s2 M2)) ∧ (¬ (r1 = 0) → Q r1 s1 M1)))) : cI (d + 1) yM_marks [.ref 159, .int x1, .int x2] s M Q := by
  refine pm_toI (by decide) (Nat.le_of_ble_eq_true rfl) ?_
  show wM_marks d 0 [.ref 159, .int x1, .int x2, .null] [] s M Q
  refine s_aload_n (i := 0) (by decide +kernel) rfl (pn 1 rfl ?_)
  refine t_iconst (by decide +kernel) ki_0 (pn 2 rfl ?_)
  refine s_putfieldI (by decide +kernel) fr_12_1 lq_159 (congrArg Prod.fst sh_159) (fun q => by cases q) (Or.inl rfl) (pn 5 rfl ?_)
  refine s_aload_n (i := 0) (by decide +kernel) rfl (pn 6 rfl ?_)
  refine s_iload_n (i := 1) (by decide +kernel) rfl (pn 7 rfl ?_)
  refine s_iload_n (i := 2) (by decide +kernel) rfl (pn 8 rfl ?_)
  refine s_callvI [.int x1, .int x2] rfl (by decide +kernel) mv_12_449 np_299 (Nat.le_of_ble_eq_true rfl) lq_159 ((congrArg Prod.fst sh_159).trans oc_299) (cI_use h (fun r1 s1 M1 h => (pn 11 rfl ?_)))
  refine s_istore_n (i := 3) (by decide +kernel) (Nat.le_of_ble_eq_true rfl) (pn 12 rfl (t_store (ls' := [.ref 159, .int x1, .int x2, .int r1]) rfl ?_))
  refine s_iload_n (i := 3) (by decide +kernel) rfl (pn 13 rfl ?_)
  refine s_if_eq (off := 7) (tgt := 20) (by decide +kernel) rfl (fun c1 => ?_) (fun c1 => (pn 16 rfl ?_))
  · have h := h.1 c1
    refine s_aload_n (i := 0) (by decide +kernel) rfl (pn 21 rfl ?_)
    refine s_iload_n (i := 1) (by decide +kernel) rfl (pn 22 rfl ?_)
    refine s_iload_n (i := 2) (by decide +kernel) rfl (pn 23 rfl ?_)
    refine s_callvI [.int x1, .int x2] rfl (by decide +kernel) mv_12_452 np_301 (Nat.le_of_ble_eq_true rfl) lq_159 ((congrArg Prod.fst sh_159).trans oc_301) (cI_use h (fun r2 s2 M2 h => (pn 26 rfl ?_)))
    exact s_ireturn (st := []) (by decide +kernel) (Or.inl rfl) ⟨_, rfl, s2, rfl, h⟩
  · have h := h.2 c1
    refine s_iload_n (i := 3) (by decide +kernel) rfl (pn 17 rfl ?_)
    refine s_goto (off := 9) (tgt := 26) (by decide +kernel) rfl ?_
    exact s_ireturn (st := []) (by decide +kernel) (Or.inl rfl) ⟨_, rfl, s1, rfl, h⟩
abbrev wM_noAnswers (d pc : Nat) (ls st : List Value) (s : pm_S) (M : pm_M) (Q : Int32 → pm_S → pm_M → Prop) : Prop := wI d prog_14_method_117_code 12 (some .int) false pc ls st s M Q
theorem enM_noAnswers {d : Nat} {s : pm_S} {M : pm_M} {x1 : Int32} {x2 : Int32} {Q : Int32 → pm_S → pm_M → Prop}  (h : cI d yM_within [.long (x1.toInt64), .long 0, .long 3] s M (fun r1 s1 M1 => (((r1 = 0) → Q (-2) s1 M1) ∧ (¬ (r1 = 0) → cI d yM_isPerson [.ref 159, .long (x2.toInt64)] s1 M1 (fun r2 s2 M2 => ((r2 = 0 → Q (-2) s2 M2) ∧ (¬ (r2 = 0) → cI d yM_noRow [.ref 159, .int x1, .int 16] s2 M2 (fun r3 s3 M3 => (((r3 = 0) → wM_noAnswers d 41 [.ref 159, .int x1, .null, .null, .int 0] [] s3 M3 Q) ∧ (¬ (r3 = 0) → Q r3 s3 M3)))))))))) : cI (d + 1) yM_noAnswers [.ref 159, .int x1, .int x2] s M Q := by
  refine pm_toI (by decide) (Nat.le_of_ble_eq_true rfl) ?_
  show wM_noAnswers d 0 [.ref 159, .int x1, .int x2, .null, .null] [] s M Q
  refine s_iload_n (i := 1) (by decide +kernel) rfl (pn 1 rfl ?_)
  refine s_i2l (by decide +kernel) (pn 2 rfl ?_)
  refine t_lconst (n := 0) (v := 0) (by decide +kernel) rfl (pn 3 rfl ?_)
  refine s_ldc2_w (by decide +kernel) kl_12_347 (pn 6 rfl ?_)
  refine s_callsI [.long (x1.toInt64), .long 0, .long 3] rfl (by decide +kernel) ms_12_163 np_188 (Nat.le_of_ble_eq_true rfl) (cI_use h (fun r1 s1 M1 h => (pn 9 rfl ?_)))
  refine s_if_eq (off := 12) (tgt := 21) (by decide +kernel) rfl (fun c1 => ?_) (fun c1 => (pn 12 rfl ?_))
  · have h := h.1 c1
    refine t_bipush (by decide +kernel) kb_m2 (pn 23 rfl ?_)
    exact s_ireturn (st := []) (by decide +kernel) (Or.inl rfl) ⟨_, rfl, s1, rfl, h⟩
  · have h := h.2 c1
    refine s_aload_n (i := 0) (by decide +kernel) rfl (pn 13 rfl ?_)
    refine s_iload_n (i := 2) (by decide +kernel) rfl (pn 14 rfl ?_)
    refine s_i2l (by decide +kernel) (pn 15 rfl ?_)
    refine s_callvI [.long (x2.toInt64)] rfl (by decide +kernel) mv_12_231 np_219 (Nat.le_of_ble_eq_true rfl) lq_159 ((congrArg Prod.fst sh_159).trans oc_219) (cI_use h (fun r2 s2 M2 h => (pn 18 rfl ?_)))
    refine t_if_ne (off := 6) (tgt := 24) (by decide +kernel) rfl (fun c2 => ?_) (fun c2 => (pn 21 rfl ?_))
    · have h := h.2 c2
      refine s_aload_n (i := 0) (by decide +kernel) rfl (pn 25 rfl ?_)
      refine s_iload_n (i := 1) (by decide +kernel) rfl (pn 26 rfl ?_)
      refine t_bipush (by decide +kernel) kb_16 (pn 28 rfl ?_)
      refine s_callvI [.int x1, .int 16] rfl (by decide +kernel) mv_12_441 np_300 (Nat.le_of_ble_eq_true rfl) lq_159 ((congrArg Prod.fst sh_159).trans oc_300) (cI_use h (fun r3 s3 M3 h => (pn 31 rfl ?_)))
      refine s_istore_n (i := 3) (by decide +kernel) (Nat.le_of_ble_eq_true rfl) (pn 32 rfl (t_store (ls' := [.ref 159, .int x1, .int x2, .int r3, .null]) rfl ?_))
      refine s_iload_n (i := 3) (by decide +kernel) rfl (pn 33 rfl ?_)
      refine s_if_eq (off := 5) (tgt := 38) (by decide +kernel) rfl (fun c3 => ?_) (fun c3 => (pn 36 rfl ?_))
      · have h := h.1 c3
        refine t_iconst (by decide +kernel) ki_0 (pn 39 rfl ?_)
        refine s_istore (i := 4) (by decide +kernel) (Nat.le_of_ble_eq_true rfl) (pn 41 rfl (t_store (ls' := [.ref 159, .int x1, .int x2, .int r3, .int 0]) rfl ?_))
        exact pm_weak [.ref 159, .int x1, .null, .null, .int 0] (pm_le_cons (Or.inr rfl) (pm_le_cons (Or.inr rfl) (pm_le_cons (Or.inl rfl) (pm_le_cons (Or.inl rfl) (pm_le_cons (Or.inr rfl) pm_le_nil))))) h
      · have h := h.2 c3
        refine s_iload_n (i := 3) (by decide +kernel) rfl (pn 37 rfl ?_)
        exact s_ireturn (st := []) (by decide +kernel) (Or.inl rfl) ⟨_, rfl, s3, rfl, h⟩
    · have h := h.1 c2
      refine t_bipush (by decide +kernel) kb_m2 (pn 23 rfl ?_)
      exact s_ireturn (st := []) (by decide +kernel) (Or.inl rfl) ⟨_, rfl, s2, rfl, h⟩
theorem sgM_noAnswers_41 {d : Nat} {s : pm_S} {M : pm_M} {l1 : Int32} {l4 : Int32} {Q : Int32 → pm_S → pm_M → Prop}  (h : vp_in l1 4 ∧ ((((M.1 183 l1.toNatClampNeg) ≤ l4) → Q 0 s M) ∧ (¬ ((M.1 183 l1.toNatClampNeg) ≤ l4) → vp_in (((40 : Int32) * l1) + l4) 160 ∧ cI d yM_within [.long (M.2 184 (((40 : Int32) * l1) + l4).toNatClampNeg), .long 0, .long ((((2 : Int32) * (M.1 160 2)) - 1).toInt64)] s M (fun r1 s1 M1 => ((r1 = 0 → Q (-3) s1 M1) ∧ (¬ (r1 = 0) → wM_noAnswers d 41 [.ref 159, .int l1, .null, .null, .int (l4 + 1)] [] s1 M1 Q)))))) : wM_noAnswers d 41 [.ref 159, .int l1, .null, .null, .int l4] [] s M Q := by
  refine s_iload (i := 4) (by decide +kernel) rfl (pn 43 rfl ?_)
  refine s_aload_n (i := 0) (by decide +kernel) rfl (pn 44 rfl ?_)
  refine s_getfield (v := .ref 183) (by decide +kernel) fr_12_91 lq_159 (congrArg Prod.fst sh_159) (fv_ref pf_159_40) (pn 47 rfl ?_)
  refine s_iload_n (i := 1) (by decide +kernel) rfl (pn 48 rfl ?_)
  obtain ⟨b1, h⟩ := h
  refine t_iaload (v := M.1 183 l1.toNatClampNeg) (by decide +kernel) ⟨Or.inl lq_183, congrArg Prod.fst sh_183⟩ (al_in sh_183 b1) rfl (pn 49 rfl ?_)
  refine s_icmp_ge (off := 42) (tgt := 91) (by decide +kernel) rfl (fun c1 => ?_) (fun c1 => (pn 52 rfl ?_))
  · have h := h.1 c1
    refine t_iconst (by decide +kernel) ki_0 (pn 92 rfl ?_)
    exact s_ireturn (st := []) (by decide +kernel) (Or.inl rfl) ⟨_, rfl, s, rfl, h⟩
  · have h := h.2 c1
    refine s_aload_n (i := 0) (by decide +kernel) rfl (pn 53 rfl ?_)
    refine s_getfield (v := .ref 184) (by decide +kernel) fr_12_94 lq_159 (congrArg Prod.fst sh_159) (fv_ref pf_159_41) (pn 56 rfl ?_)
    refine t_bipush (by decide +kernel) kb_40 (pn 58 rfl ?_)
    refine s_iload_n (i := 1) (by decide +kernel) rfl (pn 59 rfl ?_)
    refine s_imul (by decide +kernel) (pn 60 rfl ?_)
    refine s_iload (i := 4) (by decide +kernel) rfl (pn 62 rfl ?_)
    refine s_iadd (by decide +kernel) (pn 63 rfl ?_)
    obtain ⟨b2, h⟩ := h
    refine t_laload (v := M.2 184 (((40 : Int32) * l1) + l4).toNatClampNeg) (by decide +kernel) ⟨lq_184, congrArg Prod.fst sh_184⟩ (al_in sh_184 b2) rfl (pn 64 rfl ?_)
    refine t_lconst (n := 0) (v := 0) (by decide +kernel) rfl (pn 65 rfl ?_)
    refine t_iconst (by decide +kernel) ki_2 (pn 66 rfl ?_)
    refine s_aload_n (i := 0) (by decide +kernel) rfl (pn 67 rfl ?_)
    refine s_getfield (v := .ref 160) (by decide +kernel) fr_12_13 lq_159 (congrArg Prod.fst sh_159) (fv_ref pf_159_1) (pn 70 rfl ?_)
    refine t_iconst (by decide +kernel) ki_2 (pn 71 rfl ?_)
    refine t_iaload (v := M.1 160 2) (by decide +kernel) ⟨Or.inl lq_160, congrArg Prod.fst sh_160⟩ (al_in sh_160 (vp_lit (n := 3870) tn_2 (by decide) (by decide))) (by rw [tn_2] <;> rfl) (pn 72 rfl ?_)
    refine s_imul (by decide +kernel) (pn 73 rfl ?_)
    refine t_iconst (by decide +kernel) ki_1 (pn 74 rfl ?_)
    refine s_isub (by decide +kernel) (pn 75 rfl ?_)
    refine s_i2l (by decide +kernel) (pn 76 rfl ?_)
    refine s_callsI [.long (M.2 184 (((40 : Int32) * l1) + l4).toNatClampNeg), .long 0, .long ((((2 : Int32) * (M.1 160 2)) - 1).toInt64)] rfl (by decide +kernel) ms_12_163 np_188 (Nat.le_of_ble_eq_true rfl) (cI_use h (fun r1 s1 M1 h => (pn 79 rfl ?_)))
    refine t_if_ne (off := 6) (tgt := 85) (by decide +kernel) rfl (fun c2 => ?_) (fun c2 => (pn 82 rfl ?_))
    · have h := h.2 c2
      refine t_iinc (i := 4) (n := 1) (ls' := [.ref 159, .int l1, .null, .null, .int (l4 + 1)]) (by decide +kernel) rfl (Nat.le_of_ble_eq_true rfl) kn_1 rfl (pn 88 rfl ?_)
      refine s_goto (off := -47) (tgt := 41) (by decide +kernel) rfl ?_
      exact h
    · have h := h.1 c2
      refine t_bipush (by decide +kernel) kb_m3 (pn 84 rfl ?_)
      exact s_ireturn (st := []) (by decide +kernel) (Or.inl rfl) ⟨_, rfl, s1, rfl, h⟩
abbrev wM_noRow (d pc : Nat) (ls st : List Value) (s : pm_S) (M : pm_M) (Q : Int32 → pm_S → pm_M → Prop) : Prop := wI d prog_14_method_116_code 12 (some .int) false pc ls st s M Q
theorem enM_noRow {d : Nat} {s : pm_S} {M : pm_M} {x1 : Int32} {x2 : Int32} {Q : Int32 → pm_S → pm_M → Prop}  (h : cI d yM_noTray [.ref 159, .int x1] s M (fun r1 s1 M1 => (((r1 = 0) → vp_in x1 4 ∧ cI d yM_within [.long ((M1.1 183 x1.toNatClampNeg).toInt64), .long 1, .long (x2.toInt64)] s1 M1 (fun r2 s2 M2 => Q ((if r2 = 0 then (-4) else 0) : Int32) s2 M2)) ∧ (¬ (r1 = 0) → Q r1 s1 M1)))) : cI (d + 1) yM_noRow [.ref 159, .int x1, .int x2] s M Q := by
  refine pm_toI (by decide) (Nat.le_of_ble_eq_true rfl) ?_
  show wM_noRow d 0 [.ref 159, .int x1, .int x2, .null] [] s M Q
  refine s_aload_n (i := 0) (by decide +kernel) rfl (pn 1 rfl ?_)
  refine s_iload_n (i := 1) (by decide +kernel) rfl (pn 2 rfl ?_)
  refine s_callvI [.int x1] rfl (by decide +kernel) mv_12_349 np_253 (Nat.le_of_ble_eq_true rfl) lq_159 ((congrArg Prod.fst sh_159).trans oc_253) (cI_use h (fun r1 s1 M1 h => (pn 5 rfl ?_)))
  refine s_istore_n (i := 3) (by decide +kernel) (Nat.le_of_ble_eq_true rfl) (pn 6 rfl (t_store (ls' := [.ref 159, .int x1, .int x2, .int r1]) rfl ?_))
  refine s_iload_n (i := 3) (by decide +kernel) rfl (pn 7 rfl ?_)
  refine s_if_eq (off := 5) (tgt := 12) (by decide +kernel) rfl (fun c1 => ?_) (fun c1 => (pn 10 rfl ?_))
  · have h := h.1 c1
    refine s_aload_n (i := 0) (by decide +kernel) rfl (pn 13 rfl ?_)
    refine s_getfield (v := .ref 183) (by decide +kernel) fr_12_91 lq_159 (congrArg Prod.fst sh_159) (fv_ref pf_159_40) (pn 16 rfl ?_)
    refine s_iload_n (i := 1) (by decide +kernel) rfl (pn 17 rfl ?_)
    obtain ⟨b1, h⟩ := h
    refine t_iaload (v := M1.1 183 x1.toNatClampNeg) (by decide +kernel) ⟨Or.inl lq_183, congrArg Prod.fst sh_183⟩ (al_in sh_183 b1) rfl (pn 18 rfl ?_)
    refine s_i2l (by decide +kernel) (pn 19 rfl ?_)
    refine t_lconst (n := 1) (v := 1) (by decide +kernel) rfl (pn 20 rfl ?_)
    refine s_iload_n (i := 2) (by decide +kernel) rfl (pn 21 rfl ?_)
    refine s_i2l (by decide +kernel) (pn 22 rfl ?_)
    refine s_callsI [.long ((M1.1 183 x1.toNatClampNeg).toInt64), .long 1, .long (x2.toInt64)] rfl (by decide +kernel) ms_12_163 np_188 (Nat.le_of_ble_eq_true rfl) (cI_use h (fun r2 s2 M2 h => (pn 25 rfl ?_)))
    have k1 : ∀ (z1 : Int32) (z1e : z1 = ((if r2 = 0 then (-4) else 0) : Int32)), wM_noRow d 34 [.ref 159, .int x1, .int x2, .int r1] [.int z1] s2 M2 Q := by
      intro z1 z1e
      subst z1e
      exact s_ireturn (st := []) (by decide +kernel) (Or.inl rfl) ⟨_, rfl, s2, rfl, h⟩
    refine s_if_eq (off := 7) (tgt := 32) (by decide +kernel) rfl (fun c2 => ?_) (fun c2 => (pn 28 rfl ?_))
    · refine t_bipush (by decide +kernel) kb_m4 (pn 34 rfl ?_)
      exact k1 _ (by simp only [if_pos c2])
    · refine t_iconst (by decide +kernel) ki_0 (pn 29 rfl ?_)
      refine s_goto (off := 5) (tgt := 34) (by decide +kernel) rfl ?_
      exact k1 _ (by simp only [if_neg c2])
  · have h := h.2 c1
    refine s_iload_n (i := 3) (by decide +kernel) rfl (pn 11 rfl ?_)
    exact s_ireturn (st := []) (by decide +kernel) (Or.inl rfl) ⟨_, rfl, s1, rfl, h⟩
abbrev wM_marksOf (d pc : Nat) (ls st : List Value) (s : pm_S) (M : pm_M) (Q : Int32 → pm_S → pm_M → Prop) : Prop := wI d prog_14_method_119_code 12 (some .int) false pc ls st s M Q
theorem enM_marksOf {d : Nat} {s : pm_S} {M : pm_M} {x1 : Int32} {x2 : Int32} {Q : Int32 → pm_S → pm_M → Prop}  (h : wM_marksOf d 5 [.ref 159, .int x1, .int x2, .int 0, .int 0, .null, .null] [] s M Q) : cI (d + 1) yM_marksOf [.ref 159, .int x1, .int x2] s M Q := by
  refine pm_toI (by decide) (Nat.le_of_ble_eq_true rfl) ?_
  show wM_marksOf d 0 [.ref 159, .int x1, .int x2, .null, .null, .null, .null] [] s M Q
  refine t_iconst (by decide +kernel) ki_0 (pn 1 rfl ?_)
  refine s_istore_n (i := 3) (by decide +kernel) (Nat.le_of_ble_eq_true rfl) (pn 2 rfl (t_store (ls' := [.ref 159, .int x1, .int x2, .int 0, .null, .null, .null]) rfl ?_))
  refine t_iconst (by decide +kernel) ki_0 (pn 3 rfl ?_)
  refine s_istore (i := 4) (by decide +kernel) (Nat.le_of_ble_eq_true rfl) (pn 5 rfl (t_store (ls' := [.ref 159, .int x1, .int x2, .int 0, .int 0, .null, .null]) rfl ?_))
  exact h
theorem sgM_marksOf_5 {d : Nat} {s : pm_S} {M : pm_M} {l1 : Int32} {l2 : Int32} {l3 : Int32} {l4 : Int32} {Q : Int32 → pm_S → pm_M → Prop}  (h : (((10 ≤ l4) → Q l3 s M) ∧ (¬ (10 ≤ l4) → wM_marksOf d 18 [.ref 159, .int l1, .int l2, .int l3, .int l4, .int 1, .int 0] [] s M Q))) : wM_marksOf d 5 [.ref 159, .int l1, .int l2, .int l3, .int l4, .null, .null] [] s M Q := by
  refine s_iload (i := 4) (by decide +kernel) rfl (pn 7 rfl ?_)
  refine t_bipush (by decide +kernel) kb_10 (pn 9 rfl ?_)
  refine s_icmp_ge (off := 109) (tgt := 118) (by decide +kernel) rfl (fun c1 => ?_) (fun c1 => (pn 12 rfl ?_))
  · have h := h.1 c1
    refine s_iload_n (i := 3) (by decide +kernel) rfl (pn 119 rfl ?_)
    exact s_ireturn (st := []) (by decide +kernel) (Or.inl rfl) ⟨_, rfl, s, rfl, h⟩
  · have h := h.2 c1
    refine t_iconst (by decide +kernel) ki_1 (pn 13 rfl ?_)
    refine s_istore (i := 5) (by decide +kernel) (Nat.le_of_ble_eq_true rfl) (pn 15 rfl (t_store (ls' := [.ref 159, .int l1, .int l2, .int l3, .int l4, .int 1, .null]) rfl ?_))
    refine t_iconst (by decide +kernel) ki_0 (pn 16 rfl ?_)
    refine s_istore (i := 6) (by decide +kernel) (Nat.le_of_ble_eq_true rfl) (pn 18 rfl (t_store (ls' := [.ref 159, .int l1, .int l2, .int l3, .int l4, .int 1, .int 0]) rfl ?_))
    exact h
theorem sgM_marksOf_18 {d : Nat} {s : pm_S} {M : pm_M} {l1 : Int32} {l2 : Int32} {l3 : Int32} {l4 : Int32} {l5 : Int32} {l6 : Int32} {Q : Int32 → pm_S → pm_M → Prop}  (h : vp_in l1 4 ∧ ((((M.1 183 l1.toNatClampNeg) ≤ l6) → wM_marksOf d 5 [.ref 159, .int l1, .int l2, .int (l3 ||| ((if l5 = 0 then 0 else ((1 : Int32) <<< (l4 &&& 31))) : Int32)), .int (l4 + 1), .null, .null] [] s M Q) ∧ (¬ ((M.1 183 l1.toNatClampNeg) ≤ l6) → vp_in (((40 : Int32) * l1) + l6) 160 ∧ cI d yM_claimsBy [.ref 159, .int l2, .int l4, .int (((M.2 184 (((40 : Int32) * l1) + l6).toNatClampNeg).toInt32) / 2)] s M (fun r1 s1 M1 => vp_in (((40 : Int32) * l1) + l6) 160 ∧ (∀ v1 : Int32, v1 = l5 &&& ((if r1 = ((if ((M1.2 184 (((40 : Int32) * l1) + l6).toNatClampNeg) - (M1.2 184 (((40 : Int32) * l1) + l6).toNatClampNeg) / 2 * 2) = 1 then 1 else 0) : Int32) then 1 else 0) : Int32) → wM_marksOf d 18 [.ref 159, .int l1, .int l2, .int l3, .int l4, .int v1, .int (l6 + 1)] [] s1 M1 Q))))) : wM_marksOf d 18 [.ref 159, .int l1, .int l2, .int l3, .int l4, .int l5, .int l6] [] s M Q := by
  refine s_iload (i := 6) (by decide +kernel) rfl (pn 20 rfl ?_)
  refine s_aload_n (i := 0) (by decide +kernel) rfl (pn 21 rfl ?_)
  refine s_getfield (v := .ref 183) (by decide +kernel) fr_12_91 lq_159 (congrArg Prod.fst sh_159) (fv_ref pf_159_40) (pn 24 rfl ?_)
  refine s_iload_n (i := 1) (by decide +kernel) rfl (pn 25 rfl ?_)
  obtain ⟨b1, h⟩ := h
  refine t_iaload (v := M.1 183 l1.toNatClampNeg) (by decide +kernel) ⟨Or.inl lq_183, congrArg Prod.fst sh_183⟩ (al_in sh_183 b1) rfl (pn 26 rfl ?_)
  refine s_icmp_ge (off := 70) (tgt := 96) (by decide +kernel) rfl (fun c1 => ?_) (fun c1 => (pn 29 rfl ?_))
  · have h := h.1 c1
    refine s_iload_n (i := 3) (by decide +kernel) rfl (pn 97 rfl ?_)
    refine s_iload (i := 5) (by decide +kernel) rfl (pn 99 rfl ?_)
    have k1 : ∀ (z1 : Int32) (z1e : z1 = ((if l5 = 0 then 0 else ((1 : Int32) <<< (l4 &&& 31))) : Int32)), wM_marksOf d 110 [.ref 159, .int l1, .int l2, .int l3, .int l4, .int l5, .int l6] [.int z1, .int l3] s M Q := by
      intro z1 z1e
      subst z1e
      refine s_ior (by decide +kernel) (pn 111 rfl ?_)
      refine s_istore_n (i := 3) (by decide +kernel) (Nat.le_of_ble_eq_true rfl) (pn 112 rfl (t_store (ls' := [.ref 159, .int l1, .int l2, .int (l3 ||| ((if l5 = 0 then 0 else ((1 : Int32) <<< (l4 &&& 31))) : Int32)), .int l4, .int l5, .int l6]) rfl ?_))
      refine t_iinc (i := 4) (n := 1) (ls' := [.ref 159, .int l1, .int l2, .int (l3 ||| ((if l5 = 0 then 0 else ((1 : Int32) <<< (l4 &&& 31))) : Int32)), .int (l4 + 1), .int l5, .int l6]) (by decide +kernel) rfl (Nat.le_of_ble_eq_true rfl) kn_1 rfl (pn 115 rfl ?_)
      refine s_goto (off := -110) (tgt := 5) (by decide +kernel) rfl ?_
      exact pm_weak [.ref 159, .int l1, .int l2, .int (l3 ||| ((if l5 = 0 then 0 else ((1 : Int32) <<< (l4 &&& 31))) : Int32)), .int (l4 + 1), .null, .null] (pm_le_cons (Or.inr rfl) (pm_le_cons (Or.inr rfl) (pm_le_cons (Or.inr rfl) (pm_le_cons (Or.inr rfl) (pm_le_cons (Or.inr rfl) (pm_le_cons (Or.inl rfl) (pm_le_cons (Or.inl rfl) pm_le_nil))))))) h
    refine s_if_eq (off := 10) (tgt := 109) (by decide +kernel) rfl (fun c2 => ?_) (fun c2 => (pn 102 rfl ?_))
    · refine t_iconst (by decide +kernel) ki_0 (pn 110 rfl ?_)
      exact k1 _ (by simp only [if_pos c2])
    · refine t_iconst (by decide +kernel) ki_1 (pn 103 rfl ?_)
      refine s_iload (i := 4) (by decide +kernel) rfl (pn 105 rfl ?_)
      refine s_ishl (by decide +kernel) (pn 106 rfl ?_)
      refine s_goto (off := 4) (tgt := 110) (by decide +kernel) rfl ?_
      exact k1 _ (by simp only [if_neg c2])
  · have h := h.2 c1
    refine s_iload (i := 5) (by decide +kernel) rfl (pn 31 rfl ?_)
    refine s_aload_n (i := 0) (by decide +kernel) rfl (pn 32 rfl ?_)
    refine s_iload_n (i := 2) (by decide +kernel) rfl (pn 33 rfl ?_)
    refine s_iload (i := 4) (by decide +kernel) rfl (pn 35 rfl ?_)
    refine s_aload_n (i := 0) (by decide +kernel) rfl (pn 36 rfl ?_)
    refine s_getfield (v := .ref 184) (by decide +kernel) fr_12_94 lq_159 (congrArg Prod.fst sh_159) (fv_ref pf_159_41) (pn 39 rfl ?_)
    refine t_bipush (by decide +kernel) kb_40 (pn 41 rfl ?_)
    refine s_iload_n (i := 1) (by decide +kernel) rfl (pn 42 rfl ?_)
    refine s_imul (by decide +kernel) (pn 43 rfl ?_)
    refine s_iload (i := 6) (by decide +kernel) rfl (pn 45 rfl ?_)
    refine s_iadd (by decide +kernel) (pn 46 rfl ?_)
    obtain ⟨b2, h⟩ := h
    refine t_laload (v := M.2 184 (((40 : Int32) * l1) + l6).toNatClampNeg) (by decide +kernel) ⟨lq_184, congrArg Prod.fst sh_184⟩ (al_in sh_184 b2) rfl (pn 47 rfl ?_)
    refine s_l2i (by decide +kernel) (pn 48 rfl ?_)
    refine t_iconst (by decide +kernel) ki_2 (pn 49 rfl ?_)
    refine s_idiv (by decide +kernel) (by decide) (pn 50 rfl ?_)
    refine s_callvI [.int l2, .int l4, .int (((M.2 184 (((40 : Int32) * l1) + l6).toNatClampNeg).toInt32) / 2)] rfl (by decide +kernel) mv_12_444 np_302 (Nat.le_of_ble_eq_true rfl) lq_159 ((congrArg Prod.fst sh_159).trans oc_302) (cI_use h (fun r1 s1 M1 h => (pn 53 rfl ?_)))
    refine s_aload_n (i := 0) (by decide +kernel) rfl (pn 54 rfl ?_)
    refine s_getfield (v := .ref 184) (by decide +kernel) fr_12_94 lq_159 (congrArg Prod.fst sh_159) (fv_ref pf_159_41) (pn 57 rfl ?_)
    refine t_bipush (by decide +kernel) kb_40 (pn 59 rfl ?_)
    refine s_iload_n (i := 1) (by decide +kernel) rfl (pn 60 rfl ?_)
    refine s_imul (by decide +kernel) (pn 61 rfl ?_)
    refine s_iload (i := 6) (by decide +kernel) rfl (pn 63 rfl ?_)
    refine s_iadd (by decide +kernel) (pn 64 rfl ?_)
    obtain ⟨b3, h⟩ := h
    refine t_laload (v := M1.2 184 (((40 : Int32) * l1) + l6).toNatClampNeg) (by decide +kernel) ⟨lq_184, congrArg Prod.fst sh_184⟩ (al_in sh_184 b3) rfl (pn 65 rfl ?_)
    refine s_ldc2_w (by decide +kernel) kl_12_447 (pn 68 rfl ?_)
    refine s_lrem (by decide +kernel) (by decide) (pn 69 rfl ?_)
    refine t_lconst (n := 1) (v := 1) (by decide +kernel) rfl (pn 70 rfl ?_)
    have k2 : ∀ (z2 : Int32) (z2e : z2 = ((if ((M1.2 184 (((40 : Int32) * l1) + l6).toNatClampNeg) - (M1.2 184 (((40 : Int32) * l1) + l6).toNatClampNeg) / 2 * 2) = 1 then 1 else 0) : Int32)), wM_marksOf d 79 [.ref 159, .int l1, .int l2, .int l3, .int l4, .int l5, .int l6] [.int z2, .int r1, .int l5] s1 M1 Q := by
      intro z2 z2e
      subst z2e
      have k3 : ∀ (z3 : Int32) (z3e : z3 = ((if r1 = ((if ((M1.2 184 (((40 : Int32) * l1) + l6).toNatClampNeg) - (M1.2 184 (((40 : Int32) * l1) + l6).toNatClampNeg) / 2 * 2) = 1 then 1 else 0) : Int32) then 1 else 0) : Int32)), wM_marksOf d 87 [.ref 159, .int l1, .int l2, .int l3, .int l4, .int l5, .int l6] [.int z3, .int l5] s1 M1 Q := by
        intro z3 z3e
        subst z3e
        refine s_iand (by decide +kernel) (pn 88 rfl ?_)
        obtain ⟨v1, ev1⟩ : ∃ zz : Int32, zz = l5 &&& ((if r1 = ((if ((M1.2 184 (((40 : Int32) * l1) + l6).toNatClampNeg) - (M1.2 184 (((40 : Int32) * l1) + l6).toNatClampNeg) / 2 * 2) = 1 then 1 else 0) : Int32) then 1 else 0) : Int32) := ⟨_, rfl⟩
        have h := h v1 ev1
        rw [← ev1]
        refine s_istore (i := 5) (by decide +kernel) (Nat.le_of_ble_eq_true rfl) (pn 90 rfl (t_store (ls' := [.ref 159, .int l1, .int l2, .int l3, .int l4, .int v1, .int l6]) rfl ?_))
        refine t_iinc (i := 6) (n := 1) (ls' := [.ref 159, .int l1, .int l2, .int l3, .int l4, .int v1, .int (l6 + 1)]) (by decide +kernel) rfl (Nat.le_of_ble_eq_true rfl) kn_1 rfl (pn 93 rfl ?_)
        refine s_goto (off := -75) (tgt := 18) (by decide +kernel) rfl ?_
        exact h
      refine t_icmp_ne (off := 7) (tgt := 86) (by decide +kernel) rfl (fun c4 => ?_) (fun c4 => (pn 82 rfl ?_))
      · refine t_iconst (by decide +kernel) ki_0 (pn 87 rfl ?_)
        exact k3 _ (by simp only [if_neg c4])
      · refine t_iconst (by decide +kernel) ki_1 (pn 83 rfl ?_)
        refine s_goto (off := 4) (tgt := 87) (by decide +kernel) rfl ?_
        exact k3 _ (by simp only [if_pos c4])
    refine t_lc_ne (off := 7) (tgt := 78) (by decide +kernel) (by decide +kernel) rfl (fun c3 => ?_) (fun c3 => (pn 74 rfl ?_))
    · refine t_iconst (by decide +kernel) ki_0 (pn 79 rfl ?_)
      exact k2 _ (by simp only [if_neg c3])
    · refine t_iconst (by decide +kernel) ki_1 (pn 75 rfl ?_)
      refine s_goto (off := 4) (tgt := 79) (by decide +kernel) rfl ?_
      exact k2 _ (by simp only [if_pos c3])
abbrev wM_claimsBy (d pc : Nat) (ls st : List Value) (s : pm_S) (M : pm_M) (Q : Int32 → pm_S → pm_M → Prop) : Prop := wI d prog_14_method_118_code 12 (some .boolean) false pc ls st s M Q
theorem enM_claimsBy {d : Nat} {s : pm_S} {M : pm_M} {x1 : Int32} {x2 : Int32} {x3 : Int32} {Q : Int32 → pm_S → pm_M → Prop}  (h : vp_in ((66 : Int32) + x1) 3870 ∧ vp_in ((66 : Int32) + x1) 3870 ∧ cI d yM_claimsOf [.ref 159, .int x1, .int x3] s (pm_si M 160 ((66 : Int32) + x1).toNatClampNeg x2) (fun r1 s1 M1 => vp_in ((66 : Int32) + x1) 3870 ∧ Q ((if r1 ≤ 0 then 0 else 1) : Int32) s1 (pm_si M1 160 ((66 : Int32) + x1).toNatClampNeg (M.1 160 ((66 : Int32) + x1).toNatClampNeg)))) : cI (d + 1) yM_claimsBy [.ref 159, .int x1, .int x2, .int x3] s M Q := by
  refine pm_toI (by decide) (Nat.le_of_ble_eq_true rfl) ?_
  show wM_claimsBy d 0 [.ref 159, .int x1, .int x2, .int x3, .null, .null] [] s M Q
  refine s_aload_n (i := 0) (by decide +kernel) rfl (pn 1 rfl ?_)
  refine s_getfield (v := .ref 160) (by decide +kernel) fr_12_13 lq_159 (congrArg Prod.fst sh_159) (fv_ref pf_159_1) (pn 4 rfl ?_)
  refine t_bipush (by decide +kernel) kb_66 (pn 6 rfl ?_)
  refine s_iload_n (i := 1) (by decide +kernel) rfl (pn 7 rfl ?_)
  refine s_iadd (by decide +kernel) (pn 8 rfl ?_)
  obtain ⟨b1, h⟩ := h
  refine t_iaload (v := M.1 160 ((66 : Int32) + x1).toNatClampNeg) (by decide +kernel) ⟨Or.inl lq_160, congrArg Prod.fst sh_160⟩ (al_in sh_160 b1) rfl (pn 9 rfl ?_)
  refine s_istore (i := 4) (by decide +kernel) (Nat.le_of_ble_eq_true rfl) (pn 11 rfl (t_store (ls' := [.ref 159, .int x1, .int x2, .int x3, .int (M.1 160 ((66 : Int32) + x1).toNatClampNeg), .null]) rfl ?_))
  refine s_aload_n (i := 0) (by decide +kernel) rfl (pn 12 rfl ?_)
  refine s_getfield (v := .ref 160) (by decide +kernel) fr_12_13 lq_159 (congrArg Prod.fst sh_159) (fv_ref pf_159_1) (pn 15 rfl ?_)
  refine t_bipush (by decide +kernel) kb_66 (pn 17 rfl ?_)
  refine s_iload_n (i := 1) (by decide +kernel) rfl (pn 18 rfl ?_)
  refine s_iadd (by decide +kernel) (pn 19 rfl ?_)
  refine s_iload_n (i := 2) (by decide +kernel) rfl (pn 20 rfl ?_)
  obtain ⟨b2, h⟩ := h
  refine t_iastore (k := ((66 : Int32) + x1).toNatClampNeg) (by decide +kernel) ⟨lq_160, congrArg Prod.fst sh_160⟩ (al_in sh_160 b2) rfl (pn 21 rfl ?_)
  refine s_aload_n (i := 0) (by decide +kernel) rfl (pn 22 rfl ?_)
  refine s_iload_n (i := 1) (by decide +kernel) rfl (pn 23 rfl ?_)
  refine s_iload_n (i := 3) (by decide +kernel) rfl (pn 24 rfl ?_)
  refine s_callvI [.int x1, .int x3] rfl (by decide +kernel) mv_12_256 np_222 (Nat.le_of_ble_eq_true rfl) lq_159 ((congrArg Prod.fst sh_159).trans oc_222) (cI_use h (fun r1 s1 M1 h => (pn 27 rfl ?_)))
  have k1 : ∀ (z1 : Int32) (z1e : z1 = ((if r1 ≤ 0 then 0 else 1) : Int32)), wM_claimsBy d 35 [.ref 159, .int x1, .int x2, .int x3, .int (M.1 160 ((66 : Int32) + x1).toNatClampNeg), .null] [.int z1] s1 M1 Q := by
    intro z1 z1e
    subst z1e
    refine s_istore (i := 5) (by decide +kernel) (Nat.le_of_ble_eq_true rfl) (pn 37 rfl (t_store (ls' := [.ref 159, .int x1, .int x2, .int x3, .int (M.1 160 ((66 : Int32) + x1).toNatClampNeg), .int ((if r1 ≤ 0 then 0 else 1) : Int32)]) rfl ?_))
    refine s_aload_n (i := 0) (by decide +kernel) rfl (pn 38 rfl ?_)
    refine s_getfield (v := .ref 160) (by decide +kernel) fr_12_13 lq_159 (congrArg Prod.fst sh_159) (fv_ref pf_159_1) (pn 41 rfl ?_)
    refine t_bipush (by decide +kernel) kb_66 (pn 43 rfl ?_)
    refine s_iload_n (i := 1) (by decide +kernel) rfl (pn 44 rfl ?_)
    refine s_iadd (by decide +kernel) (pn 45 rfl ?_)
    refine s_iload (i := 4) (by decide +kernel) rfl (pn 47 rfl ?_)
    obtain ⟨b3, h⟩ := h
    refine t_iastore (k := ((66 : Int32) + x1).toNatClampNeg) (by decide +kernel) ⟨lq_160, congrArg Prod.fst sh_160⟩ (al_in sh_160 b3) rfl (pn 48 rfl ?_)
    refine s_iload (i := 5) (by decide +kernel) rfl (pn 50 rfl ?_)
    exact s_ireturn (st := []) (by decide +kernel) (Or.inr ⟨rfl, (or01 (Or.inl rfl) (Or.inr rfl))⟩) ⟨_, rfl, s1, rfl, h⟩
  refine s_if_le (off := 7) (tgt := 34) (by decide +kernel) rfl (fun c1 => ?_) (fun c1 => (pn 30 rfl ?_))
  · refine t_iconst (by decide +kernel) ki_0 (pn 35 rfl ?_)
    exact k1 _ (by simp only [if_pos c1])
  · refine t_iconst (by decide +kernel) ki_1 (pn 31 rfl ?_)
    refine s_goto (off := 4) (tgt := 35) (by decide +kernel) rfl ?_
    exact k1 _ (by simp only [if_neg c1])
abbrev wM_show (d pc : Nat) (ls st : List Value) (s : pm_S) (M : pm_M) (Q : Int32 → pm_S → pm_M → Prop) : Prop := wI d prog_14_method_121_code 12 (some .int) false pc ls st s M Q
theorem enM_show {d : Nat} {s : pm_S} {M : pm_M} {x1 : Int32} {x2 : Int32} {Q : Int32 → pm_S → pm_M → Prop}  (h : cI d yM_noAnswers [.ref 159, .int x1, .int x2] s (pm_si M 159 0 0) (fun r1 s1 M1 => (((r1 = 0) → cI d yM_marksOf [.ref 159, .int x1, .int x2] s1 M1 (fun r2 s2 M2 => wM_show d 35 [.ref 159, .null, .int x2, .null, .int r2, .int (-1), .int (-1), .int 0, .null, .null] [] s2 M2 Q)) ∧ (¬ (r1 = 0) → Q r1 s1 M1)))) : cI (d + 1) yM_show [.ref 159, .int x1, .int x2] s M Q := by
  refine pm_toI (by decide) (Nat.le_of_ble_eq_true rfl) ?_
  show wM_show d 0 [.ref 159, .int x1, .int x2, .null, .null, .null, .null, .null, .null, .null] [] s M Q
  refine s_aload_n (i := 0) (by decide +kernel) rfl (pn 1 rfl ?_)
  refine t_iconst (by decide +kernel) ki_0 (pn 2 rfl ?_)
  refine s_putfieldI (by decide +kernel) fr_12_1 lq_159 (congrArg Prod.fst sh_159) (fun q => by cases q) (Or.inl rfl) (pn 5 rfl ?_)
  refine s_aload_n (i := 0) (by decide +kernel) rfl (pn 6 rfl ?_)
  refine s_iload_n (i := 1) (by decide +kernel) rfl (pn 7 rfl ?_)
  refine s_iload_n (i := 2) (by decide +kernel) rfl (pn 8 rfl ?_)
  refine s_callvI [.int x1, .int x2] rfl (by decide +kernel) mv_12_449 np_299 (Nat.le_of_ble_eq_true rfl) lq_159 ((congrArg Prod.fst sh_159).trans oc_299) (cI_use h (fun r1 s1 M1 h => (pn 11 rfl ?_)))
  refine s_istore_n (i := 3) (by decide +kernel) (Nat.le_of_ble_eq_true rfl) (pn 12 rfl (t_store (ls' := [.ref 159, .int x1, .int x2, .int r1, .null, .null, .null, .null, .null, .null]) rfl ?_))
  refine s_iload_n (i := 3) (by decide +kernel) rfl (pn 13 rfl ?_)
  refine s_if_eq (off := 5) (tgt := 18) (by decide +kernel) rfl (fun c1 => ?_) (fun c1 => (pn 16 rfl ?_))
  · have h := h.1 c1
    refine s_aload_n (i := 0) (by decide +kernel) rfl (pn 19 rfl ?_)
    refine s_iload_n (i := 1) (by decide +kernel) rfl (pn 20 rfl ?_)
    refine s_iload_n (i := 2) (by decide +kernel) rfl (pn 21 rfl ?_)
    refine s_callvI [.int x1, .int x2] rfl (by decide +kernel) mv_12_452 np_301 (Nat.le_of_ble_eq_true rfl) lq_159 ((congrArg Prod.fst sh_159).trans oc_301) (cI_use h (fun r2 s2 M2 h => (pn 24 rfl ?_)))
    refine s_istore (i := 4) (by decide +kernel) (Nat.le_of_ble_eq_true rfl) (pn 26 rfl (t_store (ls' := [.ref 159, .int x1, .int x2, .int r1, .int r2, .null, .null, .null, .null, .null]) rfl ?_))
    refine t_iconst (by decide +kernel) ki_m1 (pn 27 rfl ?_)
    refine s_istore (i := 5) (by decide +kernel) (Nat.le_of_ble_eq_true rfl) (pn 29 rfl (t_store (ls' := [.ref 159, .int x1, .int x2, .int r1, .int r2, .int (-1), .null, .null, .null, .null]) rfl ?_))
    refine t_iconst (by decide +kernel) ki_m1 (pn 30 rfl ?_)
    refine s_istore (i := 6) (by decide +kernel) (Nat.le_of_ble_eq_true rfl) (pn 32 rfl (t_store (ls' := [.ref 159, .int x1, .int x2, .int r1, .int r2, .int (-1), .int (-1), .null, .null, .null]) rfl ?_))
    refine t_iconst (by decide +kernel) ki_0 (pn 33 rfl ?_)
    refine s_istore (i := 7) (by decide +kernel) (Nat.le_of_ble_eq_true rfl) (pn 35 rfl (t_store (ls' := [.ref 159, .int x1, .int x2, .int r1, .int r2, .int (-1), .int (-1), .int 0, .null, .null]) rfl ?_))
    exact pm_weak [.ref 159, .null, .int x2, .null, .int r2, .int (-1), .int (-1), .int 0, .null, .null] (pm_le_cons (Or.inr rfl) (pm_le_cons (Or.inl rfl) (pm_le_cons (Or.inr rfl) (pm_le_cons (Or.inl rfl) (pm_le_cons (Or.inr rfl) (pm_le_cons (Or.inr rfl) (pm_le_cons (Or.inr rfl) (pm_le_cons (Or.inr rfl) (pm_le_cons (Or.inl rfl) (pm_le_cons (Or.inl rfl) pm_le_nil)))))))))) h
  · have h := h.2 c1
    refine s_iload_n (i := 3) (by decide +kernel) rfl (pn 17 rfl ?_)
    exact s_ireturn (st := []) (by decide +kernel) (Or.inl rfl) ⟨_, rfl, s1, rfl, h⟩
theorem sgM_show_35 {d : Nat} {s : pm_S} {M : pm_M} {l2 : Int32} {l4 : Int32} {l5 : Int32} {l6 : Int32} {l7 : Int32} {Q : Int32 → pm_S → pm_M → Prop}  (h : ((((M.1 160 2) ≤ l7) → Q l5 s M) ∧ (¬ ((M.1 160 2) ≤ l7) → (((l4 = 0) → Q l5 s M) ∧ (¬ (l4 = 0) → wM_show d 57 [.ref 159, .null, .int l2, .null, .int l4, .int l5, .int l6, .int l7, .int 0, .int 0] [] s M Q))))) : wM_show d 35 [.ref 159, .null, .int l2, .null, .int l4, .int l5, .int l6, .int l7, .null, .null] [] s M Q := by
  refine s_iload (i := 7) (by decide +kernel) rfl (pn 37 rfl ?_)
  refine s_aload_n (i := 0) (by decide +kernel) rfl (pn 38 rfl ?_)
  refine s_getfield (v := .ref 160) (by decide +kernel) fr_12_13 lq_159 (congrArg Prod.fst sh_159) (fv_ref pf_159_1) (pn 41 rfl ?_)
  refine t_iconst (by decide +kernel) ki_2 (pn 42 rfl ?_)
  refine t_iaload (v := M.1 160 2) (by decide +kernel) ⟨Or.inl lq_160, congrArg Prod.fst sh_160⟩ (al_in sh_160 (vp_lit (n := 3870) tn_2 (by decide) (by decide))) (by rw [tn_2] <;> rfl) (pn 43 rfl ?_)
  refine s_icmp_ge (off := 112) (tgt := 155) (by decide +kernel) rfl (fun c1 => ?_) (fun c1 => (pn 46 rfl ?_))
  · have h := h.1 c1
    refine s_iload (i := 5) (by decide +kernel) rfl (pn 157 rfl ?_)
    exact s_ireturn (st := []) (by decide +kernel) (Or.inl rfl) ⟨_, rfl, s, rfl, h⟩
  · have h := h.2 c1
    refine s_iload (i := 4) (by decide +kernel) rfl (pn 48 rfl ?_)
    refine s_if_eq (off := 107) (tgt := 155) (by decide +kernel) rfl (fun c3 => ?_) (fun c3 => (pn 51 rfl ?_))
    · have h := h.1 c3
      refine s_iload (i := 5) (by decide +kernel) rfl (pn 157 rfl ?_)
      exact s_ireturn (st := []) (by decide +kernel) (Or.inl rfl) ⟨_, rfl, s, rfl, h⟩
    · have h := h.2 c3
      refine t_iconst (by decide +kernel) ki_0 (pn 52 rfl ?_)
      refine s_istore (i := 8) (by decide +kernel) (Nat.le_of_ble_eq_true rfl) (pn 54 rfl (t_store (ls' := [.ref 159, .null, .int l2, .null, .int l4, .int l5, .int l6, .int l7, .int 0, .null]) rfl ?_))
      refine t_iconst (by decide +kernel) ki_0 (pn 55 rfl ?_)
      refine s_istore (i := 9) (by decide +kernel) (Nat.le_of_ble_eq_true rfl) (pn 57 rfl (t_store (ls' := [.ref 159, .null, .int l2, .null, .int l4, .int l5, .int l6, .int l7, .int 0, .int 0]) rfl ?_))
      exact h
theorem sgM_show_57 {d : Nat} {s : pm_S} {M : pm_M} {l2 : Int32} {l4 : Int32} {l5 : Int32} {l6 : Int32} {l7 : Int32} {l8 : Int32} {l9 : Int32} {Q : Int32 → pm_S → pm_M → Prop}  (h : (((10 ≤ l9) → cI d yM_bitsOf [.int l4] s M (fun r1 s1 M1 => ((((r1 - l8) ≤ l8) → cI d yM_bitsOf [.int l4] s1 M1 (fun r2 s2 M2 => wM_show d 35 [.ref 159, .null, .int l2, .null, .int l4, .int ((if l6 < (r2 - l8) then l7 else l5) : Int32), .int ((if l6 < (r2 - l8) then (r2 - l8) else l6) : Int32), .int (l7 + 1), .null, .null] [] s2 M2 Q)) ∧ (¬ ((r1 - l8) ≤ l8) → wM_show d 35 [.ref 159, .null, .int l2, .null, .int l4, .int ((if l6 < l8 then l7 else l5) : Int32), .int ((if l6 < l8 then l8 else l6) : Int32), .int (l7 + 1), .null, .null] [] s1 M1 Q)))) ∧ (¬ (10 ≤ l9) → cI d yM_isIn [.long (l4.toInt64), .int l9] s M (fun r3 s3 M3 => (((r3 = 0) → wM_show d 57 [.ref 159, .null, .int l2, .null, .int l4, .int l5, .int l6, .int l7, .int (l8 + 0), .int (l9 + 1)] [] s3 M3 Q) ∧ (¬ (r3 = 0) → cI d yM_claimsBy [.ref 159, .int l2, .int l9, .int l7] s3 M3 (fun r4 s4 M4 => wM_show d 57 [.ref 159, .null, .int l2, .null, .int l4, .int l5, .int l6, .int l7, .int (l8 + ((if r4 = 0 then 0 else 1) : Int32)), .int (l9 + 1)] [] s4 M4 Q))))))) : wM_show d 57 [.ref 159, .null, .int l2, .null, .int l4, .int l5, .int l6, .int l7, .int l8, .int l9] [] s M Q := by
  refine s_iload (i := 9) (by decide +kernel) rfl (pn 59 rfl ?_)
  refine t_bipush (by decide +kernel) kb_10 (pn 61 rfl ?_)
  refine s_icmp_ge (off := 42) (tgt := 103) (by decide +kernel) rfl (fun c1 => ?_) (fun c1 => (pn 64 rfl ?_))
  · have h := h.1 c1
    refine s_iload (i := 8) (by decide +kernel) rfl (pn 105 rfl ?_)
    refine s_iload (i := 4) (by decide +kernel) rfl (pn 107 rfl ?_)
    refine s_callsI [.int l4] rfl (by decide +kernel) ms_12_297 np_237 (Nat.le_of_ble_eq_true rfl) (cI_use h (fun r1 s1 M1 h => (pn 110 rfl ?_)))
    refine s_iload (i := 8) (by decide +kernel) rfl (pn 112 rfl ?_)
    refine s_isub (by decide +kernel) (pn 113 rfl ?_)
    refine s_icmp_ge (off := 8) (tgt := 121) (by decide +kernel) rfl (fun c2 => ?_) (fun c2 => (pn 116 rfl ?_))
    · have h := h.1 c2
      refine s_iload (i := 4) (by decide +kernel) rfl (pn 123 rfl ?_)
      refine s_callsI [.int l4] rfl (by decide +kernel) ms_12_297 np_237 (Nat.le_of_ble_eq_true rfl) (cI_use h (fun r2 s2 M2 h => (pn 126 rfl ?_)))
      refine s_iload (i := 8) (by decide +kernel) rfl (pn 128 rfl ?_)
      refine s_isub (by decide +kernel) (pn 129 rfl ?_)
      refine s_istore (i := 9) (by decide +kernel) (Nat.le_of_ble_eq_true rfl) (pn 131 rfl (t_store (ls' := [.ref 159, .null, .int l2, .null, .int l4, .int l5, .int l6, .int l7, .int l8, .int (r2 - l8)]) rfl ?_))
      refine s_iload (i := 9) (by decide +kernel) rfl (pn 133 rfl ?_)
      refine s_iload (i := 6) (by decide +kernel) rfl (pn 135 rfl ?_)
      have k1 : ∀ (z1 : Int32) (z1e : z1 = ((if l6 < (r2 - l8) then l7 else l5) : Int32)) (z2 : Int32) (z2e : z2 = ((if l6 < (r2 - l8) then (r2 - l8) else l6) : Int32)), wM_show d 149 [.ref 159, .null, .int l2, .null, .int l4, .int z1, .int z2, .int l7, .int l8, .int (r2 - l8)] [] s2 M2 Q := by
        intro z1 z1e z2 z2e
        subst z1e z2e
        refine t_iinc (i := 7) (n := 1) (ls' := [.ref 159, .null, .int l2, .null, .int l4, .int ((if l6 < (r2 - l8) then l7 else l5) : Int32), .int ((if l6 < (r2 - l8) then (r2 - l8) else l6) : Int32), .int (l7 + 1), .int l8, .int (r2 - l8)]) (by decide +kernel) rfl (Nat.le_of_ble_eq_true rfl) kn_1 rfl (pn 152 rfl ?_)
        refine s_goto (off := -117) (tgt := 35) (by decide +kernel) rfl ?_
        exact pm_weak [.ref 159, .null, .int l2, .null, .int l4, .int ((if l6 < (r2 - l8) then l7 else l5) : Int32), .int ((if l6 < (r2 - l8) then (r2 - l8) else l6) : Int32), .int (l7 + 1), .null, .null] (pm_le_cons (Or.inr rfl) (pm_le_cons (Or.inl rfl) (pm_le_cons (Or.inr rfl) (pm_le_cons (Or.inl rfl) (pm_le_cons (Or.inr rfl) (pm_le_cons (Or.inr rfl) (pm_le_cons (Or.inr rfl) (pm_le_cons (Or.inr rfl) (pm_le_cons (Or.inl rfl) (pm_le_cons (Or.inl rfl) pm_le_nil)))))))))) h
      refine s_icmp_gt (off := 6) (tgt := 141) (by decide +kernel) rfl (fun c3 => ?_) (fun c3 => (pn 138 rfl ?_))
      · refine s_iload (i := 7) (by decide +kernel) rfl (pn 143 rfl ?_)
        refine s_istore (i := 5) (by decide +kernel) (Nat.le_of_ble_eq_true rfl) (pn 145 rfl (t_store (ls' := [.ref 159, .null, .int l2, .null, .int l4, .int l7, .int l6, .int l7, .int l8, .int (r2 - l8)]) rfl ?_))
        refine s_iload (i := 9) (by decide +kernel) rfl (pn 147 rfl ?_)
        refine s_istore (i := 6) (by decide +kernel) (Nat.le_of_ble_eq_true rfl) (pn 149 rfl (t_store (ls' := [.ref 159, .null, .int l2, .null, .int l4, .int l7, .int (r2 - l8), .int l7, .int l8, .int (r2 - l8)]) rfl ?_))
        exact k1 _ (by simp only [if_pos c3]) _ (by simp only [if_pos c3])
      · refine s_goto (off := 11) (tgt := 149) (by decide +kernel) rfl ?_
        exact k1 _ (by simp only [if_neg c3]) _ (by simp only [if_neg c3])
    · have h := h.2 c2
      refine s_iload (i := 8) (by decide +kernel) rfl (pn 118 rfl ?_)
      refine s_goto (off := 11) (tgt := 129) (by decide +kernel) rfl ?_
      refine s_istore (i := 9) (by decide +kernel) (Nat.le_of_ble_eq_true rfl) (pn 131 rfl (t_store (ls' := [.ref 159, .null, .int l2, .null, .int l4, .int l5, .int l6, .int l7, .int l8, .int l8]) rfl ?_))
      refine s_iload (i := 9) (by decide +kernel) rfl (pn 133 rfl ?_)
      refine s_iload (i := 6) (by decide +kernel) rfl (pn 135 rfl ?_)
      have k2 : ∀ (z3 : Int32) (z3e : z3 = ((if l6 < l8 then l7 else l5) : Int32)) (z4 : Int32) (z4e : z4 = ((if l6 < l8 then l8 else l6) : Int32)), wM_show d 149 [.ref 159, .null, .int l2, .null, .int l4, .int z3, .int z4, .int l7, .int l8, .int l8] [] s1 M1 Q := by
        intro z3 z3e z4 z4e
        subst z3e z4e
        refine t_iinc (i := 7) (n := 1) (ls' := [.ref 159, .null, .int l2, .null, .int l4, .int ((if l6 < l8 then l7 else l5) : Int32), .int ((if l6 < l8 then l8 else l6) : Int32), .int (l7 + 1), .int l8, .int l8]) (by decide +kernel) rfl (Nat.le_of_ble_eq_true rfl) kn_1 rfl (pn 152 rfl ?_)
        refine s_goto (off := -117) (tgt := 35) (by decide +kernel) rfl ?_
        exact pm_weak [.ref 159, .null, .int l2, .null, .int l4, .int ((if l6 < l8 then l7 else l5) : Int32), .int ((if l6 < l8 then l8 else l6) : Int32), .int (l7 + 1), .null, .null] (pm_le_cons (Or.inr rfl) (pm_le_cons (Or.inl rfl) (pm_le_cons (Or.inr rfl) (pm_le_cons (Or.inl rfl) (pm_le_cons (Or.inr rfl) (pm_le_cons (Or.inr rfl) (pm_le_cons (Or.inr rfl) (pm_le_cons (Or.inr rfl) (pm_le_cons (Or.inl rfl) (pm_le_cons (Or.inl rfl) pm_le_nil)))))))))) h
      refine s_icmp_gt (off := 6) (tgt := 141) (by decide +kernel) rfl (fun c4 => ?_) (fun c4 => (pn 138 rfl ?_))
      · refine s_iload (i := 7) (by decide +kernel) rfl (pn 143 rfl ?_)
        refine s_istore (i := 5) (by decide +kernel) (Nat.le_of_ble_eq_true rfl) (pn 145 rfl (t_store (ls' := [.ref 159, .null, .int l2, .null, .int l4, .int l7, .int l6, .int l7, .int l8, .int l8]) rfl ?_))
        refine s_iload (i := 9) (by decide +kernel) rfl (pn 147 rfl ?_)
        refine s_istore (i := 6) (by decide +kernel) (Nat.le_of_ble_eq_true rfl) (pn 149 rfl (t_store (ls' := [.ref 159, .null, .int l2, .null, .int l4, .int l7, .int l8, .int l7, .int l8, .int l8]) rfl ?_))
        exact k2 _ (by simp only [if_pos c4]) _ (by simp only [if_pos c4])
      · refine s_goto (off := 11) (tgt := 149) (by decide +kernel) rfl ?_
        exact k2 _ (by simp only [if_neg c4]) _ (by simp only [if_neg c4])
  · have h := h.2 c1
    refine s_iload (i := 8) (by decide +kernel) rfl (pn 66 rfl ?_)
    refine s_iload (i := 4) (by decide +kernel) rfl (pn 68 rfl ?_)
    refine s_i2l (by decide +kernel) (pn 69 rfl ?_)
    refine s_iload (i := 9) (by decide +kernel) rfl (pn 71 rfl ?_)
    refine s_callsI [.long (l4.toInt64), .int l9] rfl (by decide +kernel) ms_12_390 np_278 (Nat.le_of_ble_eq_true rfl) (cI_use h (fun r3 s3 M3 h => (pn 74 rfl ?_)))
    refine s_if_eq (off := 19) (tgt := 93) (by decide +kernel) rfl (fun c5 => ?_) (fun c5 => (pn 77 rfl ?_))
    · have h := h.1 c5
      refine t_iconst (by decide +kernel) ki_0 (pn 94 rfl ?_)
      refine s_iadd (by decide +kernel) (pn 95 rfl ?_)
      refine s_istore (i := 8) (by decide +kernel) (Nat.le_of_ble_eq_true rfl) (pn 97 rfl (t_store (ls' := [.ref 159, .null, .int l2, .null, .int l4, .int l5, .int l6, .int l7, .int (l8 + 0), .int l9]) rfl ?_))
      refine t_iinc (i := 9) (n := 1) (ls' := [.ref 159, .null, .int l2, .null, .int l4, .int l5, .int l6, .int l7, .int (l8 + 0), .int (l9 + 1)]) (by decide +kernel) rfl (Nat.le_of_ble_eq_true rfl) kn_1 rfl (pn 100 rfl ?_)
      refine s_goto (off := -43) (tgt := 57) (by decide +kernel) rfl ?_
      exact h
    · have h := h.2 c5
      refine s_aload_n (i := 0) (by decide +kernel) rfl (pn 78 rfl ?_)
      refine s_iload_n (i := 2) (by decide +kernel) rfl (pn 79 rfl ?_)
      refine s_iload (i := 9) (by decide +kernel) rfl (pn 81 rfl ?_)
      refine s_iload (i := 7) (by decide +kernel) rfl (pn 83 rfl ?_)
      refine s_callvI [.int l2, .int l9, .int l7] rfl (by decide +kernel) mv_12_444 np_302 (Nat.le_of_ble_eq_true rfl) lq_159 ((congrArg Prod.fst sh_159).trans oc_302) (cI_use h (fun r4 s4 M4 h => (pn 86 rfl ?_)))
      have k3 : ∀ (z5 : Int32) (z5e : z5 = ((if r4 = 0 then 0 else 1) : Int32)), wM_show d 94 [.ref 159, .null, .int l2, .null, .int l4, .int l5, .int l6, .int l7, .int l8, .int l9] [.int z5, .int l8] s4 M4 Q := by
        intro z5 z5e
        subst z5e
        refine s_iadd (by decide +kernel) (pn 95 rfl ?_)
        refine s_istore (i := 8) (by decide +kernel) (Nat.le_of_ble_eq_true rfl) (pn 97 rfl (t_store (ls' := [.ref 159, .null, .int l2, .null, .int l4, .int l5, .int l6, .int l7, .int (l8 + ((if r4 = 0 then 0 else 1) : Int32)), .int l9]) rfl ?_))
        refine t_iinc (i := 9) (n := 1) (ls' := [.ref 159, .null, .int l2, .null, .int l4, .int l5, .int l6, .int l7, .int (l8 + ((if r4 = 0 then 0 else 1) : Int32)), .int (l9 + 1)]) (by decide +kernel) rfl (Nat.le_of_ble_eq_true rfl) kn_1 rfl (pn 100 rfl ?_)
        refine s_goto (off := -43) (tgt := 57) (by decide +kernel) rfl ?_
        exact h
      refine s_if_eq (off := 7) (tgt := 93) (by decide +kernel) rfl (fun c6 => ?_) (fun c6 => (pn 89 rfl ?_))
      · refine t_iconst (by decide +kernel) ki_0 (pn 94 rfl ?_)
        exact k3 _ (by simp only [if_pos c6])
      · refine t_iconst (by decide +kernel) ki_1 (pn 90 rfl ?_)
        refine s_goto (off := 4) (tgt := 94) (by decide +kernel) rfl ?_
        exact k3 _ (by simp only [if_neg c6])
abbrev wM_game (d pc : Nat) (ls st : List Value) (s : pm_S) (M : pm_M) (Q : Int32 → pm_S → pm_M → Prop) : Prop := wI d prog_14_method_124_code 12 (some .int) false pc ls st s M Q
theorem enM_game {d : Nat} {s : pm_S} {M : pm_M} {x1 : Int32} {x2 : Int32} {x3 : Int32} {Q : Int32 → pm_S → pm_M → Prop}  (h : cI d yM_areTwo [.ref 159, .long (x1.toInt64), .long (x2.toInt64)] s (pm_si M 159 0 0) (fun r1 s1 M1 => ((r1 = 0 → Q (-99000002) s1 M1) ∧ (¬ (r1 = 0) → cI d yM_isSet [.ref 159, .int x3] s1 M1 (fun r2 s2 M2 => ((r2 = 0 → Q (-99000003) s2 M2) ∧ (¬ (r2 = 0) → cV d yM_laysGame [.ref 159, .int x1, .int x2, .int x3] s2 M2 (fun s3 M3 => vp_in x3 256 ∧ Q (M3.1 179 x3.toNatClampNeg) s3 M3)))))))) : cI (d + 1) yM_game [.ref 159, .int x1, .int x2, .int x3] s M Q := by
  refine pm_toI (by decide) (Nat.le_of_ble_eq_true rfl) ?_
  show wM_game d 0 [.ref 159, .int x1, .int x2, .int x3] [] s M Q
  refine s_aload_n (i := 0) (by decide +kernel) rfl (pn 1 rfl ?_)
  refine t_iconst (by decide +kernel) ki_0 (pn 2 rfl ?_)
  refine s_putfieldI (by decide +kernel) fr_12_1 lq_159 (congrArg Prod.fst sh_159) (fun q => by cases q) (Or.inl rfl) (pn 5 rfl ?_)
  refine s_aload_n (i := 0) (by decide +kernel) rfl (pn 6 rfl ?_)
  refine s_iload_n (i := 1) (by decide +kernel) rfl (pn 7 rfl ?_)
  refine s_i2l (by decide +kernel) (pn 8 rfl ?_)
  refine s_iload_n (i := 2) (by decide +kernel) rfl (pn 9 rfl ?_)
  refine s_i2l (by decide +kernel) (pn 10 rfl ?_)
  refine s_callvI [.long (x1.toInt64), .long (x2.toInt64)] rfl (by decide +kernel) mv_12_267 np_243 (Nat.le_of_ble_eq_true rfl) lq_159 ((congrArg Prod.fst sh_159).trans oc_243) (cI_use h (fun r1 s1 M1 h => (pn 13 rfl ?_)))
  refine t_if_ne (off := 7) (tgt := 20) (by decide +kernel) rfl (fun c1 => ?_) (fun c1 => (pn 16 rfl ?_))
  · have h := h.2 c1
    refine s_aload_n (i := 0) (by decide +kernel) rfl (pn 21 rfl ?_)
    refine s_iload_n (i := 3) (by decide +kernel) rfl (pn 22 rfl ?_)
    refine s_callvI [.int x3] rfl (by decide +kernel) mv_12_435 np_291 (Nat.le_of_ble_eq_true rfl) lq_159 ((congrArg Prod.fst sh_159).trans oc_291) (cI_use h (fun r2 s2 M2 h => (pn 25 rfl ?_)))
    refine t_if_ne (off := 7) (tgt := 32) (by decide +kernel) rfl (fun c2 => ?_) (fun c2 => (pn 28 rfl ?_))
    · have h := h.2 c2
      refine s_aload_n (i := 0) (by decide +kernel) rfl (pn 33 rfl ?_)
      refine s_iload_n (i := 1) (by decide +kernel) rfl (pn 34 rfl ?_)
      refine s_iload_n (i := 2) (by decide +kernel) rfl (pn 35 rfl ?_)
      refine s_iload_n (i := 3) (by decide +kernel) rfl (pn 36 rfl ?_)
      refine s_callvV [.int x1, .int x2, .int x3] rfl (by decide +kernel) mv_12_460 np_305 (Nat.le_of_ble_eq_true rfl) lq_159 ((congrArg Prod.fst sh_159).trans oc_305) (cV_use h (fun s3 M3 h => (pn 39 rfl ?_)))
      refine s_aload_n (i := 0) (by decide +kernel) rfl (pn 40 rfl ?_)
      refine s_getfield (v := .ref 179) (by decide +kernel) fr_12_78 lq_159 (congrArg Prod.fst sh_159) (fv_ref pf_159_36) (pn 43 rfl ?_)
      refine s_iload_n (i := 3) (by decide +kernel) rfl (pn 44 rfl ?_)
      obtain ⟨b1, h⟩ := h
      refine t_iaload (v := M3.1 179 x3.toNatClampNeg) (by decide +kernel) ⟨Or.inl lq_179, congrArg Prod.fst sh_179⟩ (al_in sh_179 b1) rfl (pn 45 rfl ?_)
      exact s_ireturn (st := []) (by decide +kernel) (Or.inl rfl) ⟨_, rfl, s3, rfl, h⟩
    · have h := h.1 c2
      refine s_ldc_w (by decide +kernel) kc_12_459 (pn 31 rfl ?_)
      exact s_ireturn (st := []) (by decide +kernel) (Or.inl rfl) ⟨_, rfl, s2, rfl, h⟩
  · have h := h.1 c1
    refine s_ldc_w (by decide +kernel) kc_12_259 (pn 19 rfl ?_)
    exact s_ireturn (st := []) (by decide +kernel) (Or.inl rfl) ⟨_, rfl, s1, rfl, h⟩
abbrev wM_laysGame (d pc : Nat) (ls st : List Value) (s : pm_S) (M : pm_M) (Q : pm_S → pm_M → Prop) : Prop := wV d prog_14_method_123_code 12 none false pc ls st s M Q
theorem enM_laysGame {d : Nat} {s : pm_S} {M : pm_M} {x1 : Int32} {x2 : Int32} {x3 : Int32} {Q : pm_S → pm_M → Prop}  (h : wM_laysGame d 10 [.ref 159, .int x1, .int x2, .int x3, .int 1, .null, .null, .null, .null] [] s (pm_si M 179 0 0) Q) : cV (d + 1) yM_laysGame [.ref 159, .int x1, .int x2, .int x3] s M Q := by
  refine pm_toV (by decide) (Nat.le_of_ble_eq_true rfl) ?_
  show wM_laysGame d 0 [.ref 159, .int x1, .int x2, .int x3, .null, .null, .null, .null, .null] [] s M Q
  refine s_aload_n (i := 0) (by decide +kernel) rfl (pn 1 rfl ?_)
  refine s_getfield (v := .ref 179) (by decide +kernel) fr_12_78 lq_159 (congrArg Prod.fst sh_159) (fv_ref pf_159_36) (pn 4 rfl ?_)
  refine t_iconst (by decide +kernel) ki_0 (pn 5 rfl ?_)
  refine t_iconst (by decide +kernel) ki_0 (pn 6 rfl ?_)
  refine t_iastore (k := 0) (by decide +kernel) ⟨lq_179, congrArg Prod.fst sh_179⟩ (al_in sh_179 (vp_lit (n := 256) tn_0 (by decide) (by decide))) tn_0 (pn 7 rfl ?_)
  refine t_iconst (by decide +kernel) ki_1 (pn 8 rfl ?_)
  refine s_istore (i := 4) (by decide +kernel) (Nat.le_of_ble_eq_true rfl) (pn 10 rfl (t_store (ls' := [.ref 159, .int x1, .int x2, .int x3, .int 1, .null, .null, .null, .null]) rfl ?_))
  exact h
theorem sgM_laysGame_10 {d : Nat} {s : pm_S} {M : pm_M} {l1 : Int32} {l2 : Int32} {l3 : Int32} {l4 : Int32} {Q : pm_S → pm_M → Prop}  (h : (((l3 < l4) → Q s M) ∧ (¬ (l3 < l4) → ((((l4 &&& (l3 ^^^ (-1))) = 0) → cI d yM_bitsOf [.int (l3 &&& (l4 ^^^ (-1)))] s M (fun r1 s1 M1 => (∀ v1 : Int32, v1 = ((if ((if (r1 - r1 / 2 * 2) = 0 then 1 else 0) : Int32) = 0 then 268435456 else (-268435456)) : Int32) → wM_laysGame d 68 [.ref 159, .int l1, .int l2, .int l3, .int l4, .int ((if (r1 - r1 / 2 * 2) = 0 then 1 else 0) : Int32), .int v1, .int 0, .null] [] s1 M1 Q))) ∧ (¬ ((l4 &&& (l3 ^^^ (-1))) = 0) → wM_laysGame d 10 [.ref 159, .int l1, .int l2, .int l3, .int (l4 + 1), .null, .null, .null, .null] [] s M Q))))) : wM_laysGame d 10 [.ref 159, .int l1, .int l2, .int l3, .int l4, .null, .null, .null, .null] [] s M Q := by
  refine s_iload (i := 4) (by decide +kernel) rfl (pn 12 rfl ?_)
  refine s_iload_n (i := 3) (by decide +kernel) rfl (pn 13 rfl ?_)
  refine s_icmp_gt (off := 148) (tgt := 161) (by decide +kernel) rfl (fun c1 => ?_) (fun c1 => (pn 16 rfl ?_))
  · have h := h.1 c1
    exact s_return (st := []) (by decide +kernel) rfl ⟨rfl, s, rfl, h⟩
  · have h := h.2 c1
    refine s_iload (i := 4) (by decide +kernel) rfl (pn 18 rfl ?_)
    refine s_iload_n (i := 3) (by decide +kernel) rfl (pn 19 rfl ?_)
    refine t_iconst (by decide +kernel) ki_m1 (pn 20 rfl ?_)
    refine s_ixor (by decide +kernel) (pn 21 rfl ?_)
    refine s_iand (by decide +kernel) (pn 22 rfl ?_)
    refine s_if_eq (off := 6) (tgt := 28) (by decide +kernel) rfl (fun c2 => ?_) (fun c2 => (pn 25 rfl ?_))
    · have h := h.1 c2
      refine s_iload_n (i := 3) (by decide +kernel) rfl (pn 29 rfl ?_)
      refine s_iload (i := 4) (by decide +kernel) rfl (pn 31 rfl ?_)
      refine t_iconst (by decide +kernel) ki_m1 (pn 32 rfl ?_)
      refine s_ixor (by decide +kernel) (pn 33 rfl ?_)
      refine s_iand (by decide +kernel) (pn 34 rfl ?_)
      refine s_callsI [.int (l3 &&& (l4 ^^^ (-1)))] rfl (by decide +kernel) ms_12_297 np_237 (Nat.le_of_ble_eq_true rfl) (cI_use h (fun r1 s1 M1 h => (pn 37 rfl ?_)))
      refine t_iconst (by decide +kernel) ki_2 (pn 38 rfl ?_)
      refine s_irem (by decide +kernel) (by decide) (pn 39 rfl ?_)
      have k1 : ∀ (z1 : Int32) (z1e : z1 = ((if (r1 - r1 / 2 * 2) = 0 then 1 else 0) : Int32)), wM_laysGame d 47 [.ref 159, .int l1, .int l2, .int l3, .int l4, .null, .null, .null, .null] [.int z1] s1 M1 Q := by
        intro z1 z1e
        subst z1e
        refine s_istore (i := 5) (by decide +kernel) (Nat.le_of_ble_eq_true rfl) (pn 49 rfl (t_store (ls' := [.ref 159, .int l1, .int l2, .int l3, .int l4, .int ((if (r1 - r1 / 2 * 2) = 0 then 1 else 0) : Int32), .null, .null, .null]) rfl ?_))
        refine s_iload (i := 5) (by decide +kernel) rfl (pn 51 rfl ?_)
        have k2 : ∀ (z2 : Int32) (z2e : z2 = ((if ((if (r1 - r1 / 2 * 2) = 0 then 1 else 0) : Int32) = 0 then 268435456 else (-268435456)) : Int32)), wM_laysGame d 63 [.ref 159, .int l1, .int l2, .int l3, .int l4, .int ((if (r1 - r1 / 2 * 2) = 0 then 1 else 0) : Int32), .null, .null, .null] [.int z2] s1 M1 Q := by
          intro z2 z2e
          subst z2e
          obtain ⟨v1, ev1⟩ : ∃ zz : Int32, zz = ((if ((if (r1 - r1 / 2 * 2) = 0 then 1 else 0) : Int32) = 0 then 268435456 else (-268435456)) : Int32) := ⟨_, rfl⟩
          have h := h v1 ev1
          rw [← ev1]
          refine s_istore (i := 6) (by decide +kernel) (Nat.le_of_ble_eq_true rfl) (pn 65 rfl (t_store (ls' := [.ref 159, .int l1, .int l2, .int l3, .int l4, .int ((if (r1 - r1 / 2 * 2) = 0 then 1 else 0) : Int32), .int v1, .null, .null]) rfl ?_))
          refine t_iconst (by decide +kernel) ki_0 (pn 66 rfl ?_)
          refine s_istore (i := 7) (by decide +kernel) (Nat.le_of_ble_eq_true rfl) (pn 68 rfl (t_store (ls' := [.ref 159, .int l1, .int l2, .int l3, .int l4, .int ((if (r1 - r1 / 2 * 2) = 0 then 1 else 0) : Int32), .int v1, .int 0, .null]) rfl ?_))
          exact h
        refine s_if_eq (off := 9) (tgt := 60) (by decide +kernel) rfl (fun c4 => ?_) (fun c4 => (pn 54 rfl ?_))
        · refine s_ldc_w (by decide +kernel) kc_12_421 (pn 63 rfl ?_)
          exact k2 _ (by simp only [if_pos c4])
        · refine s_ldc_w (by decide +kernel) kc_12_403 (pn 57 rfl ?_)
          refine s_goto (off := 6) (tgt := 63) (by decide +kernel) rfl ?_
          exact k2 _ (by simp only [if_neg c4])
      refine t_if_ne (off := 7) (tgt := 46) (by decide +kernel) rfl (fun c3 => ?_) (fun c3 => (pn 42 rfl ?_))
      · refine t_iconst (by decide +kernel) ki_0 (pn 47 rfl ?_)
        exact k1 _ (by simp only [if_neg c3])
      · refine t_iconst (by decide +kernel) ki_1 (pn 43 rfl ?_)
        refine s_goto (off := 4) (tgt := 47) (by decide +kernel) rfl ?_
        exact k1 _ (by simp only [if_pos c3])
    · have h := h.2 c2
      refine s_goto (off := 130) (tgt := 155) (by decide +kernel) rfl ?_
      refine t_iinc (i := 4) (n := 1) (ls' := [.ref 159, .int l1, .int l2, .int l3, .int (l4 + 1), .null, .null, .null, .null]) (by decide +kernel) rfl (Nat.le_of_ble_eq_true rfl) kn_1 rfl (pn 158 rfl ?_)
      refine s_goto (off := -148) (tgt := 10) (by decide +kernel) rfl ?_
      exact h
theorem sgM_laysGame_68 {d : Nat} {s : pm_S} {M : pm_M} {l1 : Int32} {l2 : Int32} {l3 : Int32} {l4 : Int32} {l5 : Int32} {l6 : Int32} {l7 : Int32} {Q : pm_S → pm_M → Prop}  (h : (((8 ≤ l7) → vp_in l4 256 ∧ wM_laysGame d 10 [.ref 159, .int l1, .int l2, .int l3, .int (l4 + 1), .null, .null, .null, .null] [] s (pm_si M 179 l4.toNatClampNeg l6) Q) ∧ (¬ (8 ≤ l7) → cI d yM_isIn [.long (l4.toInt64), .int l7] s M (fun r1 s1 M1 => ((r1 = 0 → wM_laysGame d 68 [.ref 159, .int l1, .int l2, .int l3, .int l4, .int l5, .int l6, .int (l7 + 1), .null] [] s1 M1 Q) ∧ (¬ (r1 = 0) → cI d yM_chosen [.ref 159, .int l1, .int l2, .int l3, .int l4, .int l7] s1 M1 (fun r2 s2 M2 => (∀ v1 : Int32, v1 = ((if l5 = 0 then (if l6 ≤ r2 then l6 else r2) else (if r2 ≤ l6 then l6 else r2)) : Int32) → wM_laysGame d 68 [.ref 159, .int l1, .int l2, .int l3, .int l4, .int l5, .int v1, .int (l7 + 1), .null] [] s2 M2 Q)))))))) : wM_laysGame d 68 [.ref 159, .int l1, .int l2, .int l3, .int l4, .int l5, .int l6, .int l7, .null] [] s M Q := by
  refine s_iload (i := 7) (by decide +kernel) rfl (pn 70 rfl ?_)
  refine t_bipush (by decide +kernel) kb_8 (pn 72 rfl ?_)
  refine s_icmp_ge (off := 74) (tgt := 146) (by decide +kernel) rfl (fun c1 => ?_) (fun c1 => (pn 75 rfl ?_))
  · have h := h.1 c1
    refine s_aload_n (i := 0) (by decide +kernel) rfl (pn 147 rfl ?_)
    refine s_getfield (v := .ref 179) (by decide +kernel) fr_12_78 lq_159 (congrArg Prod.fst sh_159) (fv_ref pf_159_36) (pn 150 rfl ?_)
    refine s_iload (i := 4) (by decide +kernel) rfl (pn 152 rfl ?_)
    refine s_iload (i := 6) (by decide +kernel) rfl (pn 154 rfl ?_)
    obtain ⟨b1, h⟩ := h
    refine t_iastore (k := l4.toNatClampNeg) (by decide +kernel) ⟨lq_179, congrArg Prod.fst sh_179⟩ (al_in sh_179 b1) rfl (pn 155 rfl ?_)
    refine t_iinc (i := 4) (n := 1) (ls' := [.ref 159, .int l1, .int l2, .int l3, .int (l4 + 1), .int l5, .int l6, .int l7, .null]) (by decide +kernel) rfl (Nat.le_of_ble_eq_true rfl) kn_1 rfl (pn 158 rfl ?_)
    refine s_goto (off := -148) (tgt := 10) (by decide +kernel) rfl ?_
    exact pm_weak [.ref 159, .int l1, .int l2, .int l3, .int (l4 + 1), .null, .null, .null, .null] (pm_le_cons (Or.inr rfl) (pm_le_cons (Or.inr rfl) (pm_le_cons (Or.inr rfl) (pm_le_cons (Or.inr rfl) (pm_le_cons (Or.inr rfl) (pm_le_cons (Or.inl rfl) (pm_le_cons (Or.inl rfl) (pm_le_cons (Or.inl rfl) (pm_le_cons (Or.inl rfl) pm_le_nil))))))))) h
  · have h := h.2 c1
    refine s_iload (i := 4) (by decide +kernel) rfl (pn 77 rfl ?_)
    refine s_i2l (by decide +kernel) (pn 78 rfl ?_)
    refine s_iload (i := 7) (by decide +kernel) rfl (pn 80 rfl ?_)
    refine s_callsI [.long (l4.toInt64), .int l7] rfl (by decide +kernel) ms_12_390 np_278 (Nat.le_of_ble_eq_true rfl) (cI_use h (fun r1 s1 M1 h => (pn 83 rfl ?_)))
    refine t_if_ne (off := 6) (tgt := 89) (by decide +kernel) rfl (fun c2 => ?_) (fun c2 => (pn 86 rfl ?_))
    · have h := h.2 c2
      refine s_aload_n (i := 0) (by decide +kernel) rfl (pn 90 rfl ?_)
      refine s_iload_n (i := 1) (by decide +kernel) rfl (pn 91 rfl ?_)
      refine s_iload_n (i := 2) (by decide +kernel) rfl (pn 92 rfl ?_)
      refine s_iload_n (i := 3) (by decide +kernel) rfl (pn 93 rfl ?_)
      refine s_iload (i := 4) (by decide +kernel) rfl (pn 95 rfl ?_)
      refine s_iload (i := 7) (by decide +kernel) rfl (pn 97 rfl ?_)
      refine s_callvI [.int l1, .int l2, .int l3, .int l4, .int l7] rfl (by decide +kernel) mv_12_455 np_306 (Nat.le_of_ble_eq_true rfl) lq_159 ((congrArg Prod.fst sh_159).trans oc_306) (cI_use h (fun r2 s2 M2 h => (pn 100 rfl ?_)))
      refine s_istore (i := 8) (by decide +kernel) (Nat.le_of_ble_eq_true rfl) (pn 102 rfl (t_store (ls' := [.ref 159, .int l1, .int l2, .int l3, .int l4, .int l5, .int l6, .int l7, .int r2]) rfl ?_))
      refine s_iload (i := 5) (by decide +kernel) rfl (pn 104 rfl ?_)
      have k1 : ∀ (z1 : Int32) (z1e : z1 = ((if l5 = 0 then (if l6 ≤ r2 then l6 else r2) else (if r2 ≤ l6 then l6 else r2)) : Int32)), wM_laysGame d 138 [.ref 159, .int l1, .int l2, .int l3, .int l4, .int l5, .int l6, .int l7, .int r2] [.int z1] s2 M2 Q := by
        intro z1 z1e
        subst z1e
        obtain ⟨v1, ev1⟩ : ∃ zz : Int32, zz = ((if l5 = 0 then (if l6 ≤ r2 then l6 else r2) else (if r2 ≤ l6 then l6 else r2)) : Int32) := ⟨_, rfl⟩
        have h := h v1 ev1
        rw [← ev1]
        refine s_istore (i := 6) (by decide +kernel) (Nat.le_of_ble_eq_true rfl) (pn 140 rfl (t_store (ls' := [.ref 159, .int l1, .int l2, .int l3, .int l4, .int l5, .int v1, .int l7, .int r2]) rfl ?_))
        refine t_iinc (i := 7) (n := 1) (ls' := [.ref 159, .int l1, .int l2, .int l3, .int l4, .int l5, .int v1, .int (l7 + 1), .int r2]) (by decide +kernel) rfl (Nat.le_of_ble_eq_true rfl) kn_1 rfl (pn 143 rfl ?_)
        refine s_goto (off := -75) (tgt := 68) (by decide +kernel) rfl ?_
        exact pm_weak [.ref 159, .int l1, .int l2, .int l3, .int l4, .int l5, .int v1, .int (l7 + 1), .null] (pm_le_cons (Or.inr rfl) (pm_le_cons (Or.inr rfl) (pm_le_cons (Or.inr rfl) (pm_le_cons (Or.inr rfl) (pm_le_cons (Or.inr rfl) (pm_le_cons (Or.inr rfl) (pm_le_cons (Or.inr rfl) (pm_le_cons (Or.inr rfl) (pm_le_cons (Or.inl rfl) pm_le_nil))))))))) h
      refine s_if_eq (off := 20) (tgt := 124) (by decide +kernel) rfl (fun c3 => ?_) (fun c3 => (pn 107 rfl ?_))
      · refine s_iload (i := 8) (by decide +kernel) rfl (pn 126 rfl ?_)
        refine s_iload (i := 6) (by decide +kernel) rfl (pn 128 rfl ?_)
        refine s_icmp_ge (off := 8) (tgt := 136) (by decide +kernel) rfl (fun c4 => ?_) (fun c4 => (pn 131 rfl ?_))
        · refine s_iload (i := 6) (by decide +kernel) rfl (pn 138 rfl ?_)
          exact k1 _ (by simp only [if_pos c3, if_pos c4])
        · refine s_iload (i := 8) (by decide +kernel) rfl (pn 133 rfl ?_)
          refine s_goto (off := 5) (tgt := 138) (by decide +kernel) rfl ?_
          exact k1 _ (by simp only [if_pos c3, if_neg c4])
      · refine s_iload (i := 8) (by decide +kernel) rfl (pn 109 rfl ?_)
        refine s_iload (i := 6) (by decide +kernel) rfl (pn 111 rfl ?_)
        refine s_icmp_le (off := 8) (tgt := 119) (by decide +kernel) rfl (fun c5 => ?_) (fun c5 => (pn 114 rfl ?_))
        · refine s_iload (i := 6) (by decide +kernel) rfl (pn 121 rfl ?_)
          refine s_goto (off := 17) (tgt := 138) (by decide +kernel) rfl ?_
          exact k1 _ (by simp only [if_neg c3, if_pos c5])
        · refine s_iload (i := 8) (by decide +kernel) rfl (pn 116 rfl ?_)
          refine s_goto (off := 22) (tgt := 138) (by decide +kernel) rfl ?_
          exact k1 _ (by simp only [if_neg c3, if_neg c5])
    · have h := h.1 c2
      refine s_goto (off := 54) (tgt := 140) (by decide +kernel) rfl ?_
      refine t_iinc (i := 7) (n := 1) (ls' := [.ref 159, .int l1, .int l2, .int l3, .int l4, .int l5, .int l6, .int (l7 + 1), .null]) (by decide +kernel) rfl (Nat.le_of_ble_eq_true rfl) kn_1 rfl (pn 143 rfl ?_)
      refine s_goto (off := -75) (tgt := 68) (by decide +kernel) rfl ?_
      exact h
abbrev wM_chosen (d pc : Nat) (ls st : List Value) (s : pm_S) (M : pm_M) (Q : Int32 → pm_S → pm_M → Prop) : Prop := wI d prog_14_method_122_code 12 (some .int) false pc ls st s M Q
theorem enM_chosen {d : Nat} {s : pm_S} {M : pm_M} {x1 : Int32} {x2 : Int32} {x3 : Int32} {x4 : Int32} {x5 : Int32} {Q : Int32 → pm_S → pm_M → Prop}  (h : cI d yM_bitsOf [.int (x3 &&& (x4 ^^^ (-1)))] s M (fun r1 s1 M1 => wM_chosen d 19 [.ref 159, .int x1, .int x2, .null, .int x4, .int x5, .null, .null] [.int ((if (r1 - r1 / 2 * 2) = 0 then 1 else 0) : Int32)] s1 M1 Q)) : cI (d + 1) yM_chosen [.ref 159, .int x1, .int x2, .int x3, .int x4, .int x5] s M Q := by
  refine pm_toI (by decide) (Nat.le_of_ble_eq_true rfl) ?_
  show wM_chosen d 0 [.ref 159, .int x1, .int x2, .int x3, .int x4, .int x5, .null, .null] [] s M Q
  refine s_iload_n (i := 3) (by decide +kernel) rfl (pn 1 rfl ?_)
  refine s_iload (i := 4) (by decide +kernel) rfl (pn 3 rfl ?_)
  refine t_iconst (by decide +kernel) ki_m1 (pn 4 rfl ?_)
  refine s_ixor (by decide +kernel) (pn 5 rfl ?_)
  refine s_iand (by decide +kernel) (pn 6 rfl ?_)
  refine s_callsI [.int (x3 &&& (x4 ^^^ (-1)))] rfl (by decide +kernel) ms_12_297 np_237 (Nat.le_of_ble_eq_true rfl) (cI_use h (fun r1 s1 M1 h => (pn 9 rfl ?_)))
  refine t_iconst (by decide +kernel) ki_2 (pn 10 rfl ?_)
  refine s_irem (by decide +kernel) (by decide) (pn 11 rfl ?_)
  have k1 : ∀ (z1 : Int32) (z1e : z1 = ((if (r1 - r1 / 2 * 2) = 0 then 1 else 0) : Int32)), wM_chosen d 19 [.ref 159, .int x1, .int x2, .int x3, .int x4, .int x5, .null, .null] [.int z1] s1 M1 Q := by
    intro z1 z1e
    subst z1e
    exact pm_weak [.ref 159, .int x1, .int x2, .null, .int x4, .int x5, .null, .null] (pm_le_cons (Or.inr rfl) (pm_le_cons (Or.inr rfl) (pm_le_cons (Or.inr rfl) (pm_le_cons (Or.inl rfl) (pm_le_cons (Or.inr rfl) (pm_le_cons (Or.inr rfl) (pm_le_cons (Or.inl rfl) (pm_le_cons (Or.inl rfl) pm_le_nil)))))))) h
  refine t_if_ne (off := 7) (tgt := 18) (by decide +kernel) rfl (fun c1 => ?_) (fun c1 => (pn 14 rfl ?_))
  · refine t_iconst (by decide +kernel) ki_0 (pn 19 rfl ?_)
    exact k1 _ (by simp only [if_neg c1])
  · refine t_iconst (by decide +kernel) ki_1 (pn 15 rfl ?_)
    refine s_goto (off := 4) (tgt := 19) (by decide +kernel) rfl ?_
    exact k1 _ (by simp only [if_pos c1])
theorem sgM_chosen_19 {d : Nat} {s : pm_S} {M : pm_M} {l1 : Int32} {l2 : Int32} {l4 : Int32} {l5 : Int32} {t0 : Int32} {Q : Int32 → pm_S → pm_M → Prop}  (h : vp_in (l4 &&& (((1 : Int32) <<< (l5 &&& 31)) ^^^ (-1))) 256 ∧ (∀ v1 : Int32, v1 = M.1 179 (l4 &&& (((1 : Int32) <<< (l5 &&& 31)) ^^^ (-1))).toNatClampNeg → (((t0 = 0) → cI d yM_claimsOf [.ref 159, .int l2, .int l5] s M (fun r1 s1 M1 => Q (v1 - r1) s1 M1)) ∧ (¬ (t0 = 0) → cI d yM_claimsOf [.ref 159, .int l1, .int l5] s M (fun r2 s2 M2 => Q (v1 + r2) s2 M2))))) : wM_chosen d 19 [.ref 159, .int l1, .int l2, .null, .int l4, .int l5, .null, .null] [.int t0] s M Q := by
  refine s_istore (i := 6) (by decide +kernel) (Nat.le_of_ble_eq_true rfl) (pn 21 rfl (t_store (ls' := [.ref 159, .int l1, .int l2, .null, .int l4, .int l5, .int t0, .null]) rfl ?_))
  refine s_aload_n (i := 0) (by decide +kernel) rfl (pn 22 rfl ?_)
  refine s_getfield (v := .ref 179) (by decide +kernel) fr_12_78 lq_159 (congrArg Prod.fst sh_159) (fv_ref pf_159_36) (pn 25 rfl ?_)
  refine s_iload (i := 4) (by decide +kernel) rfl (pn 27 rfl ?_)
  refine t_iconst (by decide +kernel) ki_1 (pn 28 rfl ?_)
  refine s_iload (i := 5) (by decide +kernel) rfl (pn 30 rfl ?_)
  refine s_ishl (by decide +kernel) (pn 31 rfl ?_)
  refine t_iconst (by decide +kernel) ki_m1 (pn 32 rfl ?_)
  refine s_ixor (by decide +kernel) (pn 33 rfl ?_)
  refine s_iand (by decide +kernel) (pn 34 rfl ?_)
  obtain ⟨b1, h⟩ := h
  refine t_iaload (v := M.1 179 (l4 &&& (((1 : Int32) <<< (l5 &&& 31)) ^^^ (-1))).toNatClampNeg) (by decide +kernel) ⟨Or.inl lq_179, congrArg Prod.fst sh_179⟩ (al_in sh_179 b1) rfl (pn 35 rfl ?_)
  obtain ⟨v1, ev1⟩ : ∃ zz : Int32, zz = M.1 179 (l4 &&& (((1 : Int32) <<< (l5 &&& 31)) ^^^ (-1))).toNatClampNeg := ⟨_, rfl⟩
  have h := h v1 ev1
  rw [← ev1]
  refine s_istore (i := 7) (by decide +kernel) (Nat.le_of_ble_eq_true rfl) (pn 37 rfl (t_store (ls' := [.ref 159, .int l1, .int l2, .null, .int l4, .int l5, .int t0, .int v1]) rfl ?_))
  refine s_iload (i := 6) (by decide +kernel) rfl (pn 39 rfl ?_)
  refine s_if_eq (off := 16) (tgt := 55) (by decide +kernel) rfl (fun c1 => ?_) (fun c1 => (pn 42 rfl ?_))
  · have h := h.1 c1
    refine s_iload (i := 7) (by decide +kernel) rfl (pn 57 rfl ?_)
    refine s_aload_n (i := 0) (by decide +kernel) rfl (pn 58 rfl ?_)
    refine s_iload_n (i := 2) (by decide +kernel) rfl (pn 59 rfl ?_)
    refine s_iload (i := 5) (by decide +kernel) rfl (pn 61 rfl ?_)
    refine s_callvI [.int l2, .int l5] rfl (by decide +kernel) mv_12_256 np_222 (Nat.le_of_ble_eq_true rfl) lq_159 ((congrArg Prod.fst sh_159).trans oc_222) (cI_use h (fun r1 s1 M1 h => (pn 64 rfl ?_)))
    refine s_isub (by decide +kernel) (pn 65 rfl ?_)
    exact s_ireturn (st := []) (by decide +kernel) (Or.inl rfl) ⟨_, rfl, s1, rfl, h⟩
  · have h := h.2 c1
    refine s_iload (i := 7) (by decide +kernel) rfl (pn 44 rfl ?_)
    refine s_aload_n (i := 0) (by decide +kernel) rfl (pn 45 rfl ?_)
    refine s_iload_n (i := 1) (by decide +kernel) rfl (pn 46 rfl ?_)
    refine s_iload (i := 5) (by decide +kernel) rfl (pn 48 rfl ?_)
    refine s_callvI [.int l1, .int l5] rfl (by decide +kernel) mv_12_256 np_222 (Nat.le_of_ble_eq_true rfl) lq_159 ((congrArg Prod.fst sh_159).trans oc_222) (cI_use h (fun r2 s2 M2 h => (pn 51 rfl ?_)))
    refine s_iadd (by decide +kernel) (pn 52 rfl ?_)
    refine s_goto (off := 13) (tgt := 65) (by decide +kernel) rfl ?_
    exact s_ireturn (st := []) (by decide +kernel) (Or.inl rfl) ⟨_, rfl, s2, rfl, h⟩
abbrev wM_picks (d pc : Nat) (ls st : List Value) (s : pm_S) (M : pm_M) (Q : Int32 → pm_S → pm_M → Prop) : Prop := wI d prog_14_method_125_code 12 (some .int) false pc ls st s M Q
theorem enM_picks {d : Nat} {s : pm_S} {M : pm_M} {x1 : Int32} {x2 : Int32} {x3 : Int32} {Q : Int32 → pm_S → pm_M → Prop}  (h : cI d yM_areTwo [.ref 159, .long (x1.toInt64), .long (x2.toInt64)] s (pm_si M 159 0 0) (fun r1 s1 M1 => ((r1 = 0 → Q (-2) s1 M1) ∧ (¬ (r1 = 0) → cI d yM_isSet [.ref 159, .int x3] s1 M1 (fun r2 s2 M2 => ((r2 = 0 → Q (-3) s2 M2) ∧ (¬ (r2 = 0) → cV d yM_laysGame [.ref 159, .int x1, .int x2, .int x3] s2 M2 (fun s3 M3 => wM_picks d 40 [.ref 159, .int x1, .int x2, .int x3, .int 0] [] s3 M3 Q)))))))) : cI (d + 1) yM_picks [.ref 159, .int x1, .int x2, .int x3] s M Q := by
  refine pm_toI (by decide) (Nat.le_of_ble_eq_true rfl) ?_
  show wM_picks d 0 [.ref 159, .int x1, .int x2, .int x3, .null] [] s M Q
  refine s_aload_n (i := 0) (by decide +kernel) rfl (pn 1 rfl ?_)
  refine t_iconst (by decide +kernel) ki_0 (pn 2 rfl ?_)
  refine s_putfieldI (by decide +kernel) fr_12_1 lq_159 (congrArg Prod.fst sh_159) (fun q => by cases q) (Or.inl rfl) (pn 5 rfl ?_)
  refine s_aload_n (i := 0) (by decide +kernel) rfl (pn 6 rfl ?_)
  refine s_iload_n (i := 1) (by decide +kernel) rfl (pn 7 rfl ?_)
  refine s_i2l (by decide +kernel) (pn 8 rfl ?_)
  refine s_iload_n (i := 2) (by decide +kernel) rfl (pn 9 rfl ?_)
  refine s_i2l (by decide +kernel) (pn 10 rfl ?_)
  refine s_callvI [.long (x1.toInt64), .long (x2.toInt64)] rfl (by decide +kernel) mv_12_267 np_243 (Nat.le_of_ble_eq_true rfl) lq_159 ((congrArg Prod.fst sh_159).trans oc_243) (cI_use h (fun r1 s1 M1 h => (pn 13 rfl ?_)))
  refine t_if_ne (off := 6) (tgt := 19) (by decide +kernel) rfl (fun c1 => ?_) (fun c1 => (pn 16 rfl ?_))
  · have h := h.2 c1
    refine s_aload_n (i := 0) (by decide +kernel) rfl (pn 20 rfl ?_)
    refine s_iload_n (i := 3) (by decide +kernel) rfl (pn 21 rfl ?_)
    refine s_callvI [.int x3] rfl (by decide +kernel) mv_12_435 np_291 (Nat.le_of_ble_eq_true rfl) lq_159 ((congrArg Prod.fst sh_159).trans oc_291) (cI_use h (fun r2 s2 M2 h => (pn 24 rfl ?_)))
    refine t_if_ne (off := 6) (tgt := 30) (by decide +kernel) rfl (fun c2 => ?_) (fun c2 => (pn 27 rfl ?_))
    · have h := h.2 c2
      refine s_aload_n (i := 0) (by decide +kernel) rfl (pn 31 rfl ?_)
      refine s_iload_n (i := 1) (by decide +kernel) rfl (pn 32 rfl ?_)
      refine s_iload_n (i := 2) (by decide +kernel) rfl (pn 33 rfl ?_)
      refine s_iload_n (i := 3) (by decide +kernel) rfl (pn 34 rfl ?_)
      refine s_callvV [.int x1, .int x2, .int x3] rfl (by decide +kernel) mv_12_460 np_305 (Nat.le_of_ble_eq_true rfl) lq_159 ((congrArg Prod.fst sh_159).trans oc_305) (cV_use h (fun s3 M3 h => (pn 37 rfl ?_)))
      refine t_iconst (by decide +kernel) ki_0 (pn 38 rfl ?_)
      refine s_istore (i := 4) (by decide +kernel) (Nat.le_of_ble_eq_true rfl) (pn 40 rfl (t_store (ls' := [.ref 159, .int x1, .int x2, .int x3, .int 0]) rfl ?_))
      exact h
    · have h := h.1 c2
      refine t_bipush (by decide +kernel) kb_m3 (pn 29 rfl ?_)
      exact s_ireturn (st := []) (by decide +kernel) (Or.inl rfl) ⟨_, rfl, s2, rfl, h⟩
  · have h := h.1 c1
    refine t_bipush (by decide +kernel) kb_m2 (pn 18 rfl ?_)
    exact s_ireturn (st := []) (by decide +kernel) (Or.inl rfl) ⟨_, rfl, s1, rfl, h⟩
theorem sgM_picks_40 {d : Nat} {s : pm_S} {M : pm_M} {l1 : Int32} {l2 : Int32} {l3 : Int32} {l4 : Int32} {Q : Int32 → pm_S → pm_M → Prop}  (h : ((((M.1 160 2) ≤ l4) → Q (-1) s M) ∧ (¬ ((M.1 160 2) ≤ l4) → cI d yM_isIn [.long (l3.toInt64), .int l4] s M (fun r1 s1 M1 => (((r1 = 0) → wM_picks d 40 [.ref 159, .int l1, .int l2, .int l3, .int (l4 + 1)] [] s1 M1 Q) ∧ (¬ (r1 = 0) → cI d yM_chosen [.ref 159, .int l1, .int l2, .int l3, .int l3, .int l4] s1 M1 (fun r2 s2 M2 => vp_in l3 256 ∧ ((r2 = (M2.1 179 l3.toNatClampNeg) → Q l4 s2 M2) ∧ (¬ (r2 = (M2.1 179 l3.toNatClampNeg)) → wM_picks d 40 [.ref 159, .int l1, .int l2, .int l3, .int (l4 + 1)] [] s2 M2 Q))))))))) : wM_picks d 40 [.ref 159, .int l1, .int l2, .int l3, .int l4] [] s M Q := by
  refine s_iload (i := 4) (by decide +kernel) rfl (pn 42 rfl ?_)
  refine s_aload_n (i := 0) (by decide +kernel) rfl (pn 43 rfl ?_)
  refine s_getfield (v := .ref 160) (by decide +kernel) fr_12_13 lq_159 (congrArg Prod.fst sh_159) (fv_ref pf_159_1) (pn 46 rfl ?_)
  refine t_iconst (by decide +kernel) ki_2 (pn 47 rfl ?_)
  refine t_iaload (v := M.1 160 2) (by decide +kernel) ⟨Or.inl lq_160, congrArg Prod.fst sh_160⟩ (al_in sh_160 (vp_lit (n := 3870) tn_2 (by decide) (by decide))) (by rw [tn_2] <;> rfl) (pn 48 rfl ?_)
  refine s_icmp_ge (off := 41) (tgt := 89) (by decide +kernel) rfl (fun c1 => ?_) (fun c1 => (pn 51 rfl ?_))
  · have h := h.1 c1
    refine t_iconst (by decide +kernel) ki_m1 (pn 90 rfl ?_)
    exact s_ireturn (st := []) (by decide +kernel) (Or.inl rfl) ⟨_, rfl, s, rfl, h⟩
  · have h := h.2 c1
    refine s_iload_n (i := 3) (by decide +kernel) rfl (pn 52 rfl ?_)
    refine s_i2l (by decide +kernel) (pn 53 rfl ?_)
    refine s_iload (i := 4) (by decide +kernel) rfl (pn 55 rfl ?_)
    refine s_callsI [.long (l3.toInt64), .int l4] rfl (by decide +kernel) ms_12_390 np_278 (Nat.le_of_ble_eq_true rfl) (cI_use h (fun r1 s1 M1 h => (pn 58 rfl ?_)))
    refine s_if_eq (off := 25) (tgt := 83) (by decide +kernel) rfl (fun c2 => ?_) (fun c2 => (pn 61 rfl ?_))
    · have h := h.1 c2
      refine t_iinc (i := 4) (n := 1) (ls' := [.ref 159, .int l1, .int l2, .int l3, .int (l4 + 1)]) (by decide +kernel) rfl (Nat.le_of_ble_eq_true rfl) kn_1 rfl (pn 86 rfl ?_)
      refine s_goto (off := -46) (tgt := 40) (by decide +kernel) rfl ?_
      exact h
    · have h := h.2 c2
      refine s_aload_n (i := 0) (by decide +kernel) rfl (pn 62 rfl ?_)
      refine s_iload_n (i := 1) (by decide +kernel) rfl (pn 63 rfl ?_)
      refine s_iload_n (i := 2) (by decide +kernel) rfl (pn 64 rfl ?_)
      refine s_iload_n (i := 3) (by decide +kernel) rfl (pn 65 rfl ?_)
      refine s_iload_n (i := 3) (by decide +kernel) rfl (pn 66 rfl ?_)
      refine s_iload (i := 4) (by decide +kernel) rfl (pn 68 rfl ?_)
      refine s_callvI [.int l1, .int l2, .int l3, .int l3, .int l4] rfl (by decide +kernel) mv_12_455 np_306 (Nat.le_of_ble_eq_true rfl) lq_159 ((congrArg Prod.fst sh_159).trans oc_306) (cI_use h (fun r2 s2 M2 h => (pn 71 rfl ?_)))
      refine s_aload_n (i := 0) (by decide +kernel) rfl (pn 72 rfl ?_)
      refine s_getfield (v := .ref 179) (by decide +kernel) fr_12_78 lq_159 (congrArg Prod.fst sh_159) (fv_ref pf_159_36) (pn 75 rfl ?_)
      refine s_iload_n (i := 3) (by decide +kernel) rfl (pn 76 rfl ?_)
      obtain ⟨b1, h⟩ := h
      refine t_iaload (v := M2.1 179 l3.toNatClampNeg) (by decide +kernel) ⟨Or.inl lq_179, congrArg Prod.fst sh_179⟩ (al_in sh_179 b1) rfl (pn 77 rfl ?_)
      refine t_icmp_ne (off := 6) (tgt := 83) (by decide +kernel) rfl (fun c3 => ?_) (fun c3 => (pn 80 rfl ?_))
      · have h := h.2 c3
        refine t_iinc (i := 4) (n := 1) (ls' := [.ref 159, .int l1, .int l2, .int l3, .int (l4 + 1)]) (by decide +kernel) rfl (Nat.le_of_ble_eq_true rfl) kn_1 rfl (pn 86 rfl ?_)
        refine s_goto (off := -46) (tgt := 40) (by decide +kernel) rfl ?_
        exact h
      · have h := h.1 c3
        refine s_iload (i := 4) (by decide +kernel) rfl (pn 82 rfl ?_)
        exact s_ireturn (st := []) (by decide +kernel) (Or.inl rfl) ⟨_, rfl, s2, rfl, h⟩
abbrev wM_chance (d pc : Nat) (ls st : List Value) (s : pm_S) (M : pm_M) (Q : Int64 → pm_S → pm_M → Prop) : Prop := wL d prog_14_method_130_code 12 (some .long) false pc ls st s M Q
theorem enM_chance {d : Nat} {s : pm_S} {M : pm_M} {x1 : Int32} {x2 : Int32} {x3 : Int32} {Q : Int64 → pm_S → pm_M → Prop}  (h : cI d yM_within [.long (x3.toInt64), .long 0, .long 1] s (pm_si M 159 0 0) (fun r1 s1 M1 => ((r1 = 0 → Q (-2) s1 M1) ∧ (¬ (r1 = 0) → cI d yM_noChance [.ref 159, .int x1, .int x2] s1 M1 (fun r2 s2 M2 => (((r2 = 0) → cV d yM_laysBorne [.ref 159, .int x1, .int x2] s2 M2 (fun s3 M3 => wM_chance d 48 [.ref 159, .int x1, .int x2, .int x3, .null, .long 0, .null, .int 0, .null] [] s3 M3 Q)) ∧ (¬ (r2 = 0) → Q (r2.toInt64) s2 M2))))))) : cL (d + 1) yM_chance [.ref 159, .int x1, .int x2, .int x3] s M Q := by
  refine pm_toL (by decide) (Nat.le_of_ble_eq_true rfl) ?_
  show wM_chance d 0 [.ref 159, .int x1, .int x2, .int x3, .null, .null, .null, .null, .null] [] s M Q
  refine s_aload_n (i := 0) (by decide +kernel) rfl (pn 1 rfl ?_)
  refine t_iconst (by decide +kernel) ki_0 (pn 2 rfl ?_)
  refine s_putfieldI (by decide +kernel) fr_12_1 lq_159 (congrArg Prod.fst sh_159) (fun q => by cases q) (Or.inl rfl) (pn 5 rfl ?_)
  refine s_iload_n (i := 3) (by decide +kernel) rfl (pn 6 rfl ?_)
  refine s_i2l (by decide +kernel) (pn 7 rfl ?_)
  refine t_lconst (n := 0) (v := 0) (by decide +kernel) rfl (pn 8 rfl ?_)
  refine t_lconst (n := 1) (v := 1) (by decide +kernel) rfl (pn 9 rfl ?_)
  refine s_callsI [.long (x3.toInt64), .long 0, .long 1] rfl (by decide +kernel) ms_12_163 np_188 (Nat.le_of_ble_eq_true rfl) (cI_use h (fun r1 s1 M1 h => (pn 12 rfl ?_)))
  refine t_if_ne (off := 7) (tgt := 19) (by decide +kernel) rfl (fun c1 => ?_) (fun c1 => (pn 15 rfl ?_))
  · have h := h.2 c1
    refine s_aload_n (i := 0) (by decide +kernel) rfl (pn 20 rfl ?_)
    refine s_iload_n (i := 1) (by decide +kernel) rfl (pn 21 rfl ?_)
    refine s_iload_n (i := 2) (by decide +kernel) rfl (pn 22 rfl ?_)
    refine s_callvI [.int x1, .int x2] rfl (by decide +kernel) mv_12_470 np_309 (Nat.le_of_ble_eq_true rfl) lq_159 ((congrArg Prod.fst sh_159).trans oc_309) (cI_use h (fun r2 s2 M2 h => (pn 25 rfl ?_)))
    refine s_istore (i := 4) (by decide +kernel) (Nat.le_of_ble_eq_true rfl) (pn 27 rfl (t_store (ls' := [.ref 159, .int x1, .int x2, .int x3, .int r2, .null, .null, .null, .null]) rfl ?_))
    refine s_iload (i := 4) (by decide +kernel) rfl (pn 29 rfl ?_)
    refine s_if_eq (off := 7) (tgt := 36) (by decide +kernel) rfl (fun c2 => ?_) (fun c2 => (pn 32 rfl ?_))
    · have h := h.1 c2
      refine s_aload_n (i := 0) (by decide +kernel) rfl (pn 37 rfl ?_)
      refine s_iload_n (i := 1) (by decide +kernel) rfl (pn 38 rfl ?_)
      refine s_iload_n (i := 2) (by decide +kernel) rfl (pn 39 rfl ?_)
      refine s_callvV [.int x1, .int x2] rfl (by decide +kernel) mv_12_473 np_310 (Nat.le_of_ble_eq_true rfl) lq_159 ((congrArg Prod.fst sh_159).trans oc_310) (cV_use h (fun s3 M3 h => (pn 42 rfl ?_)))
      refine t_lconst (n := 0) (v := 0) (by decide +kernel) rfl (pn 43 rfl ?_)
      refine s_lstore (i := 5) (by decide +kernel) (Nat.le_of_ble_eq_true rfl) (pn 45 rfl (t_store (ls' := [.ref 159, .int x1, .int x2, .int x3, .int r2, .long 0, .null, .null, .null]) rfl ?_))
      refine t_iconst (by decide +kernel) ki_0 (pn 46 rfl ?_)
      refine s_istore (i := 7) (by decide +kernel) (Nat.le_of_ble_eq_true rfl) (pn 48 rfl (t_store (ls' := [.ref 159, .int x1, .int x2, .int x3, .int r2, .long 0, .null, .int 0, .null]) rfl ?_))
      exact pm_weak [.ref 159, .int x1, .int x2, .int x3, .null, .long 0, .null, .int 0, .null] (pm_le_cons (Or.inr rfl) (pm_le_cons (Or.inr rfl) (pm_le_cons (Or.inr rfl) (pm_le_cons (Or.inr rfl) (pm_le_cons (Or.inl rfl) (pm_le_cons (Or.inr rfl) (pm_le_cons (Or.inl rfl) (pm_le_cons (Or.inr rfl) (pm_le_cons (Or.inl rfl) pm_le_nil))))))))) h
    · have h := h.2 c2
      refine s_iload (i := 4) (by decide +kernel) rfl (pn 34 rfl ?_)
      refine s_i2l (by decide +kernel) (pn 35 rfl ?_)
      exact s_lreturn (st := []) (by decide +kernel) rfl ⟨_, rfl, s2, rfl, h⟩
  · have h := h.1 c1
    refine s_ldc2_w (by decide +kernel) kl_12_468 (pn 18 rfl ?_)
    exact s_lreturn (st := []) (by decide +kernel) rfl ⟨_, rfl, s1, rfl, h⟩
theorem sgM_chance_48 {d : Nat} {s : pm_S} {M : pm_M} {l1 : Int32} {l2 : Int32} {l3 : Int32} {l5 : Int64} {l7 : Int32} {Q : Int64 → pm_S → pm_M → Prop}  (h : vp_in ((41 : Int32) + l2) 3870 ∧ ((((M.1 160 ((41 : Int32) + l2).toNatClampNeg) < l7) → vp_in l1 4 ∧ cL d yM_tens [.int (M.1 183 l1.toNatClampNeg)] s M (fun r1 s1 M1 => cL d yM_common [.long l5, .long r1] s1 M1 (fun r2 s2 M2 => ((l3 = 0 → (¬ r2 = 0) ∧ Q (l5 / r2) s2 M2) ∧ (¬ (l3 = 0) → vp_in l1 4 ∧ cL d yM_tens [.int (M2.1 183 l1.toNatClampNeg)] s2 M2 (fun r3 s3 M3 => (¬ r2 = 0) ∧ Q (r3 / r2) s3 M3)))))) ∧ (¬ ((M.1 160 ((41 : Int32) + l2).toNatClampNeg) < l7) → vp_in l7 1000 ∧ wM_chance d 48 [.ref 159, .int l1, .int l2, .int l3, .null, .long (l5 + (M.2 180 l7.toNatClampNeg)), .null, .int (l7 + 1), .null] [] s M Q))) : wM_chance d 48 [.ref 159, .int l1, .int l2, .int l3, .null, .long l5, .null, .int l7, .null] [] s M Q := by
  refine s_iload (i := 7) (by decide +kernel) rfl (pn 50 rfl ?_)
  refine s_aload_n (i := 0) (by decide +kernel) rfl (pn 51 rfl ?_)
  refine s_getfield (v := .ref 160) (by decide +kernel) fr_12_13 lq_159 (congrArg Prod.fst sh_159) (fv_ref pf_159_1) (pn 54 rfl ?_)
  refine t_bipush (by decide +kernel) kb_41 (pn 56 rfl ?_)
  refine s_iload_n (i := 2) (by decide +kernel) rfl (pn 57 rfl ?_)
  refine s_iadd (by decide +kernel) (pn 58 rfl ?_)
  obtain ⟨b1, h⟩ := h
  refine t_iaload (v := M.1 160 ((41 : Int32) + l2).toNatClampNeg) (by decide +kernel) ⟨Or.inl lq_160, congrArg Prod.fst sh_160⟩ (al_in sh_160 b1) rfl (pn 59 rfl ?_)
  refine s_icmp_gt (off := 21) (tgt := 80) (by decide +kernel) rfl (fun c1 => ?_) (fun c1 => (pn 62 rfl ?_))
  · have h := h.1 c1
    refine s_lload (i := 5) (by decide +kernel) rfl (pn 82 rfl ?_)
    refine s_aload_n (i := 0) (by decide +kernel) rfl (pn 83 rfl ?_)
    refine s_getfield (v := .ref 183) (by decide +kernel) fr_12_91 lq_159 (congrArg Prod.fst sh_159) (fv_ref pf_159_40) (pn 86 rfl ?_)
    refine s_iload_n (i := 1) (by decide +kernel) rfl (pn 87 rfl ?_)
    obtain ⟨b2, h⟩ := h
    refine t_iaload (v := M.1 183 l1.toNatClampNeg) (by decide +kernel) ⟨Or.inl lq_183, congrArg Prod.fst sh_183⟩ (al_in sh_183 b2) rfl (pn 88 rfl ?_)
    refine s_callsL [.int (M.1 183 l1.toNatClampNeg)] rfl (by decide +kernel) ms_12_476 np_311 (Nat.le_of_ble_eq_true rfl) (cL_use h (fun r1 s1 M1 h => (pn 91 rfl ?_)))
    refine s_callsL [.long l5, .long r1] rfl (by decide +kernel) ms_12_464 np_312 (Nat.le_of_ble_eq_true rfl) (cL_use h (fun r2 s2 M2 h => (pn 94 rfl ?_)))
    refine s_lstore (i := 7) (by decide +kernel) (Nat.le_of_ble_eq_true rfl) (pn 96 rfl (t_store (ls' := [.ref 159, .int l1, .int l2, .int l3, .null, .long l5, .null, .long r2, .null]) rfl ?_))
    refine s_iload_n (i := 3) (by decide +kernel) rfl (pn 97 rfl ?_)
    refine t_if_ne (off := 8) (tgt := 105) (by decide +kernel) rfl (fun c2 => ?_) (fun c2 => (pn 100 rfl ?_))
    · have h := h.2 c2
      refine s_aload_n (i := 0) (by decide +kernel) rfl (pn 106 rfl ?_)
      refine s_getfield (v := .ref 183) (by decide +kernel) fr_12_91 lq_159 (congrArg Prod.fst sh_159) (fv_ref pf_159_40) (pn 109 rfl ?_)
      refine s_iload_n (i := 1) (by decide +kernel) rfl (pn 110 rfl ?_)
      obtain ⟨b3, h⟩ := h
      refine t_iaload (v := M2.1 183 l1.toNatClampNeg) (by decide +kernel) ⟨Or.inl lq_183, congrArg Prod.fst sh_183⟩ (al_in sh_183 b3) rfl (pn 111 rfl ?_)
      refine s_callsL [.int (M2.1 183 l1.toNatClampNeg)] rfl (by decide +kernel) ms_12_476 np_311 (Nat.le_of_ble_eq_true rfl) (cL_use h (fun r3 s3 M3 h => (pn 114 rfl ?_)))
      refine s_lload (i := 7) (by decide +kernel) rfl (pn 116 rfl ?_)
      obtain ⟨b4, h⟩ := h
      refine s_ldiv (by decide +kernel) b4 (pn 117 rfl ?_)
      exact s_lreturn (st := []) (by decide +kernel) rfl ⟨_, rfl, s3, rfl, h⟩
    · have h := h.1 c2
      refine s_lload (i := 5) (by decide +kernel) rfl (pn 102 rfl ?_)
      refine s_goto (off := 12) (tgt := 114) (by decide +kernel) rfl ?_
      refine s_lload (i := 7) (by decide +kernel) rfl (pn 116 rfl ?_)
      obtain ⟨b5, h⟩ := h
      refine s_ldiv (by decide +kernel) b5 (pn 117 rfl ?_)
      exact s_lreturn (st := []) (by decide +kernel) rfl ⟨_, rfl, s2, rfl, h⟩
  · have h := h.2 c1
    refine s_lload (i := 5) (by decide +kernel) rfl (pn 64 rfl ?_)
    refine s_aload_n (i := 0) (by decide +kernel) rfl (pn 65 rfl ?_)
    refine s_getfield (v := .ref 180) (by decide +kernel) fr_12_81 lq_159 (congrArg Prod.fst sh_159) (fv_ref pf_159_37) (pn 68 rfl ?_)
    refine s_iload (i := 7) (by decide +kernel) rfl (pn 70 rfl ?_)
    obtain ⟨b6, h⟩ := h
    refine t_laload (v := M.2 180 l7.toNatClampNeg) (by decide +kernel) ⟨lq_180, congrArg Prod.fst sh_180⟩ (al_in sh_180 b6) rfl (pn 71 rfl ?_)
    refine s_ladd (by decide +kernel) (pn 72 rfl ?_)
    refine s_lstore (i := 5) (by decide +kernel) (Nat.le_of_ble_eq_true rfl) (pn 74 rfl (t_store (ls' := [.ref 159, .int l1, .int l2, .int l3, .null, .long (l5 + (M.2 180 l7.toNatClampNeg)), .null, .int l7, .null]) rfl ?_))
    refine t_iinc (i := 7) (n := 1) (ls' := [.ref 159, .int l1, .int l2, .int l3, .null, .long (l5 + (M.2 180 l7.toNatClampNeg)), .null, .int (l7 + 1), .null]) (by decide +kernel) rfl (Nat.le_of_ble_eq_true rfl) kn_1 rfl (pn 77 rfl ?_)
    refine s_goto (off := -29) (tgt := 48) (by decide +kernel) rfl ?_
    exact h
abbrev wM_noChance (d pc : Nat) (ls st : List Value) (s : pm_S) (M : pm_M) (Q : Int32 → pm_S → pm_M → Prop) : Prop := wI d prog_14_method_126_code 12 (some .int) false pc ls st s M Q
theorem enM_noChance {d : Nat} {s : pm_S} {M : pm_M} {x1 : Int32} {x2 : Int32} {Q : Int32 → pm_S → pm_M → Prop}  (h : cI d yM_within [.long (x1.toInt64), .long 0, .long 3] s M (fun r1 s1 M1 => (((r1 = 0) → Q (-2) s1 M1) ∧ (¬ (r1 = 0) → cI d yM_isPerson [.ref 159, .long (x2.toInt64)] s1 M1 (fun r2 s2 M2 => ((r2 = 0 → Q (-2) s2 M2) ∧ (¬ (r2 = 0) → cI d yM_noRow [.ref 159, .int x1, .int 10] s2 M2 (fun r3 s3 M3 => (((r3 = 0) → wM_noChance d 41 [.ref 159, .int x1, .null, .null, .int 0] [] s3 M3 Q) ∧ (¬ (r3 = 0) → Q r3 s3 M3)))))))))) : cI (d + 1) yM_noChance [.ref 159, .int x1, .int x2] s M Q := by
  refine pm_toI (by decide) (Nat.le_of_ble_eq_true rfl) ?_
  show wM_noChance d 0 [.ref 159, .int x1, .int x2, .null, .null] [] s M Q
  refine s_iload_n (i := 1) (by decide +kernel) rfl (pn 1 rfl ?_)
  refine s_i2l (by decide +kernel) (pn 2 rfl ?_)
  refine t_lconst (n := 0) (v := 0) (by decide +kernel) rfl (pn 3 rfl ?_)
  refine s_ldc2_w (by decide +kernel) kl_12_347 (pn 6 rfl ?_)
  refine s_callsI [.long (x1.toInt64), .long 0, .long 3] rfl (by decide +kernel) ms_12_163 np_188 (Nat.le_of_ble_eq_true rfl) (cI_use h (fun r1 s1 M1 h => (pn 9 rfl ?_)))
  refine s_if_eq (off := 12) (tgt := 21) (by decide +kernel) rfl (fun c1 => ?_) (fun c1 => (pn 12 rfl ?_))
  · have h := h.1 c1
    refine t_bipush (by decide +kernel) kb_m2 (pn 23 rfl ?_)
    exact s_ireturn (st := []) (by decide +kernel) (Or.inl rfl) ⟨_, rfl, s1, rfl, h⟩
  · have h := h.2 c1
    refine s_aload_n (i := 0) (by decide +kernel) rfl (pn 13 rfl ?_)
    refine s_iload_n (i := 2) (by decide +kernel) rfl (pn 14 rfl ?_)
    refine s_i2l (by decide +kernel) (pn 15 rfl ?_)
    refine s_callvI [.long (x2.toInt64)] rfl (by decide +kernel) mv_12_231 np_219 (Nat.le_of_ble_eq_true rfl) lq_159 ((congrArg Prod.fst sh_159).trans oc_219) (cI_use h (fun r2 s2 M2 h => (pn 18 rfl ?_)))
    refine t_if_ne (off := 6) (tgt := 24) (by decide +kernel) rfl (fun c2 => ?_) (fun c2 => (pn 21 rfl ?_))
    · have h := h.2 c2
      refine s_aload_n (i := 0) (by decide +kernel) rfl (pn 25 rfl ?_)
      refine s_iload_n (i := 1) (by decide +kernel) rfl (pn 26 rfl ?_)
      refine t_bipush (by decide +kernel) kb_10 (pn 28 rfl ?_)
      refine s_callvI [.int x1, .int 10] rfl (by decide +kernel) mv_12_441 np_300 (Nat.le_of_ble_eq_true rfl) lq_159 ((congrArg Prod.fst sh_159).trans oc_300) (cI_use h (fun r3 s3 M3 h => (pn 31 rfl ?_)))
      refine s_istore_n (i := 3) (by decide +kernel) (Nat.le_of_ble_eq_true rfl) (pn 32 rfl (t_store (ls' := [.ref 159, .int x1, .int x2, .int r3, .null]) rfl ?_))
      refine s_iload_n (i := 3) (by decide +kernel) rfl (pn 33 rfl ?_)
      refine s_if_eq (off := 5) (tgt := 38) (by decide +kernel) rfl (fun c3 => ?_) (fun c3 => (pn 36 rfl ?_))
      · have h := h.1 c3
        refine t_iconst (by decide +kernel) ki_0 (pn 39 rfl ?_)
        refine s_istore (i := 4) (by decide +kernel) (Nat.le_of_ble_eq_true rfl) (pn 41 rfl (t_store (ls' := [.ref 159, .int x1, .int x2, .int r3, .int 0]) rfl ?_))
        exact pm_weak [.ref 159, .int x1, .null, .null, .int 0] (pm_le_cons (Or.inr rfl) (pm_le_cons (Or.inr rfl) (pm_le_cons (Or.inl rfl) (pm_le_cons (Or.inl rfl) (pm_le_cons (Or.inr rfl) pm_le_nil))))) h
      · have h := h.2 c3
        refine s_iload_n (i := 3) (by decide +kernel) rfl (pn 37 rfl ?_)
        exact s_ireturn (st := []) (by decide +kernel) (Or.inl rfl) ⟨_, rfl, s3, rfl, h⟩
    · have h := h.1 c2
      refine t_bipush (by decide +kernel) kb_m2 (pn 23 rfl ?_)
      exact s_ireturn (st := []) (by decide +kernel) (Or.inl rfl) ⟨_, rfl, s2, rfl, h⟩
theorem sgM_noChance_41 {d : Nat} {s : pm_S} {M : pm_M} {l1 : Int32} {l4 : Int32} {Q : Int32 → pm_S → pm_M → Prop}  (h : vp_in l1 4 ∧ ((((M.1 183 l1.toNatClampNeg) ≤ l4) → Q 0 s M) ∧ (¬ ((M.1 183 l1.toNatClampNeg) ≤ l4) → vp_in (((40 : Int32) * l1) + l4) 160 ∧ cI d yM_isThing [.ref 159, .long (M.2 184 (((40 : Int32) * l1) + l4).toNatClampNeg)] s M (fun r1 s1 M1 => ((r1 = 0 → Q (-3) s1 M1) ∧ (¬ (r1 = 0) → wM_noChance d 41 [.ref 159, .int l1, .null, .null, .int (l4 + 1)] [] s1 M1 Q)))))) : wM_noChance d 41 [.ref 159, .int l1, .null, .null, .int l4] [] s M Q := by
  refine s_iload (i := 4) (by decide +kernel) rfl (pn 43 rfl ?_)
  refine s_aload_n (i := 0) (by decide +kernel) rfl (pn 44 rfl ?_)
  refine s_getfield (v := .ref 183) (by decide +kernel) fr_12_91 lq_159 (congrArg Prod.fst sh_159) (fv_ref pf_159_40) (pn 47 rfl ?_)
  refine s_iload_n (i := 1) (by decide +kernel) rfl (pn 48 rfl ?_)
  obtain ⟨b1, h⟩ := h
  refine t_iaload (v := M.1 183 l1.toNatClampNeg) (by decide +kernel) ⟨Or.inl lq_183, congrArg Prod.fst sh_183⟩ (al_in sh_183 b1) rfl (pn 49 rfl ?_)
  refine s_icmp_ge (off := 31) (tgt := 80) (by decide +kernel) rfl (fun c1 => ?_) (fun c1 => (pn 52 rfl ?_))
  · have h := h.1 c1
    refine t_iconst (by decide +kernel) ki_0 (pn 81 rfl ?_)
    exact s_ireturn (st := []) (by decide +kernel) (Or.inl rfl) ⟨_, rfl, s, rfl, h⟩
  · have h := h.2 c1
    refine s_aload_n (i := 0) (by decide +kernel) rfl (pn 53 rfl ?_)
    refine s_aload_n (i := 0) (by decide +kernel) rfl (pn 54 rfl ?_)
    refine s_getfield (v := .ref 184) (by decide +kernel) fr_12_94 lq_159 (congrArg Prod.fst sh_159) (fv_ref pf_159_41) (pn 57 rfl ?_)
    refine t_bipush (by decide +kernel) kb_40 (pn 59 rfl ?_)
    refine s_iload_n (i := 1) (by decide +kernel) rfl (pn 60 rfl ?_)
    refine s_imul (by decide +kernel) (pn 61 rfl ?_)
    refine s_iload (i := 4) (by decide +kernel) rfl (pn 63 rfl ?_)
    refine s_iadd (by decide +kernel) (pn 64 rfl ?_)
    obtain ⟨b2, h⟩ := h
    refine t_laload (v := M.2 184 (((40 : Int32) * l1) + l4).toNatClampNeg) (by decide +kernel) ⟨lq_184, congrArg Prod.fst sh_184⟩ (al_in sh_184 b2) rfl (pn 65 rfl ?_)
    refine s_callvI [.long (M.2 184 (((40 : Int32) * l1) + l4).toNatClampNeg)] rfl (by decide +kernel) mv_12_250 np_217 (Nat.le_of_ble_eq_true rfl) lq_159 ((congrArg Prod.fst sh_159).trans oc_217) (cI_use h (fun r1 s1 M1 h => (pn 68 rfl ?_)))
    refine t_if_ne (off := 6) (tgt := 74) (by decide +kernel) rfl (fun c2 => ?_) (fun c2 => (pn 71 rfl ?_))
    · have h := h.2 c2
      refine t_iinc (i := 4) (n := 1) (ls' := [.ref 159, .int l1, .null, .null, .int (l4 + 1)]) (by decide +kernel) rfl (Nat.le_of_ble_eq_true rfl) kn_1 rfl (pn 77 rfl ?_)
      refine s_goto (off := -36) (tgt := 41) (by decide +kernel) rfl ?_
      exact h
    · have h := h.1 c2
      refine t_bipush (by decide +kernel) kb_m3 (pn 73 rfl ?_)
      exact s_ireturn (st := []) (by decide +kernel) (Or.inl rfl) ⟨_, rfl, s1, rfl, h⟩
abbrev wM_laysBorne (d pc : Nat) (ls st : List Value) (s : pm_S) (M : pm_M) (Q : pm_S → pm_M → Prop) : Prop := wV d prog_14_method_127_code 12 none false pc ls st s M Q
theorem enM_laysBorne {d : Nat} {s : pm_S} {M : pm_M} {x1 : Int32} {x2 : Int32} {Q : pm_S → pm_M → Prop}  (h : wM_laysBorne d 2 [.ref 159, .int x1, .int x2, .int 0, .null, .null] [] s M Q) : cV (d + 1) yM_laysBorne [.ref 159, .int x1, .int x2] s M Q := by
  refine pm_toV (by decide) (Nat.le_of_ble_eq_true rfl) ?_
  show wM_laysBorne d 0 [.ref 159, .int x1, .int x2, .null, .null, .null] [] s M Q
  refine t_iconst (by decide +kernel) ki_0 (pn 1 rfl ?_)
  refine s_istore_n (i := 3) (by decide +kernel) (Nat.le_of_ble_eq_true rfl) (pn 2 rfl (t_store (ls' := [.ref 159, .int x1, .int x2, .int 0, .null, .null]) rfl ?_))
  exact h
theorem sgM_laysBorne_2 {d : Nat} {s : pm_S} {M : pm_M} {l1 : Int32} {l2 : Int32} {l3 : Int32} {Q : pm_S → pm_M → Prop}  (h : (((1000 ≤ l3) → wM_laysBorne d 32 [.ref 159, .int l1, .int l2, .int 0, .null, .null] [] s M Q) ∧ (¬ (1000 ≤ l3) → vp_in l3 1000 ∧ wM_laysBorne d 2 [.ref 159, .int l1, .int l2, .int (l3 + 1), .null, .null] [] s (pm_sj M 180 l3.toNatClampNeg ((if l3 = 0 then 1 else 0) : Int64)) Q))) : wM_laysBorne d 2 [.ref 159, .int l1, .int l2, .int l3, .null, .null] [] s M Q := by
  refine s_iload_n (i := 3) (by decide +kernel) rfl (pn 3 rfl ?_)
  refine t_sipush (by decide +kernel) ks_1000 (pn 6 rfl ?_)
  refine s_icmp_ge (off := 24) (tgt := 30) (by decide +kernel) rfl (fun c1 => ?_) (fun c1 => (pn 9 rfl ?_))
  · have h := h.1 c1
    refine t_iconst (by decide +kernel) ki_0 (pn 31 rfl ?_)
    refine s_istore_n (i := 3) (by decide +kernel) (Nat.le_of_ble_eq_true rfl) (pn 32 rfl (t_store (ls' := [.ref 159, .int l1, .int l2, .int 0, .null, .null]) rfl ?_))
    exact h
  · have h := h.2 c1
    refine s_aload_n (i := 0) (by decide +kernel) rfl (pn 10 rfl ?_)
    refine s_getfield (v := .ref 180) (by decide +kernel) fr_12_81 lq_159 (congrArg Prod.fst sh_159) (fv_ref pf_159_37) (pn 13 rfl ?_)
    refine s_iload_n (i := 3) (by decide +kernel) rfl (pn 14 rfl ?_)
    refine s_iload_n (i := 3) (by decide +kernel) rfl (pn 15 rfl ?_)
    have k1 : ∀ (z1 : Int64) (z1e : z1 = ((if l3 = 0 then 1 else 0) : Int64)), wM_laysBorne d 23 [.ref 159, .int l1, .int l2, .int l3, .null, .null] [.long z1, .int l3, .ref 180] s M Q := by
      intro z1 z1e
      subst z1e
      obtain ⟨b1, h⟩ := h
      refine t_lastore (k := l3.toNatClampNeg) (by decide +kernel) ⟨lq_180, congrArg Prod.fst sh_180⟩ (al_in sh_180 b1) rfl (pn 24 rfl ?_)
      refine t_iinc (i := 3) (n := 1) (ls' := [.ref 159, .int l1, .int l2, .int (l3 + 1), .null, .null]) (by decide +kernel) rfl (Nat.le_of_ble_eq_true rfl) kn_1 rfl (pn 27 rfl ?_)
      refine s_goto (off := -25) (tgt := 2) (by decide +kernel) rfl ?_
      exact h
    refine t_if_ne (off := 7) (tgt := 22) (by decide +kernel) rfl (fun c2 => ?_) (fun c2 => (pn 18 rfl ?_))
    · refine t_lconst (n := 0) (v := 0) (by decide +kernel) rfl (pn 23 rfl ?_)
      exact k1 _ (by simp only [if_neg c2])
    · refine t_lconst (n := 1) (v := 1) (by decide +kernel) rfl (pn 19 rfl ?_)
      refine s_goto (off := 4) (tgt := 23) (by decide +kernel) rfl ?_
      exact k1 _ (by simp only [if_pos c2])
theorem sgM_laysBorne_32 {d : Nat} {s : pm_S} {M : pm_M} {l1 : Int32} {l2 : Int32} {l3 : Int32} {Q : pm_S → pm_M → Prop}  (h : vp_in l1 4 ∧ ((((M.1 183 l1.toNatClampNeg) ≤ l3) → Q s M) ∧ (¬ ((M.1 183 l1.toNatClampNeg) ≤ l3) → vp_in (((40 : Int32) * l1) + l3) 160 ∧ wM_laysBorne d 59 [.ref 159, .int l1, .int l2, .int l3, .int ((M.2 184 (((40 : Int32) * l1) + l3).toNatClampNeg).toInt32), .int 0] [] s M Q))) : wM_laysBorne d 32 [.ref 159, .int l1, .int l2, .int l3, .null, .null] [] s M Q := by
  refine s_iload_n (i := 3) (by decide +kernel) rfl (pn 33 rfl ?_)
  refine s_aload_n (i := 0) (by decide +kernel) rfl (pn 34 rfl ?_)
  refine s_getfield (v := .ref 183) (by decide +kernel) fr_12_91 lq_159 (congrArg Prod.fst sh_159) (fv_ref pf_159_40) (pn 37 rfl ?_)
  refine s_iload_n (i := 1) (by decide +kernel) rfl (pn 38 rfl ?_)
  obtain ⟨b1, h⟩ := h
  refine t_iaload (v := M.1 183 l1.toNatClampNeg) (by decide +kernel) ⟨Or.inl lq_183, congrArg Prod.fst sh_183⟩ (al_in sh_183 b1) rfl (pn 39 rfl ?_)
  refine s_icmp_ge (off := 186) (tgt := 225) (by decide +kernel) rfl (fun c1 => ?_) (fun c1 => (pn 42 rfl ?_))
  · have h := h.1 c1
    exact s_return (st := []) (by decide +kernel) rfl ⟨rfl, s, rfl, h⟩
  · have h := h.2 c1
    refine s_aload_n (i := 0) (by decide +kernel) rfl (pn 43 rfl ?_)
    refine s_getfield (v := .ref 184) (by decide +kernel) fr_12_94 lq_159 (congrArg Prod.fst sh_159) (fv_ref pf_159_41) (pn 46 rfl ?_)
    refine t_bipush (by decide +kernel) kb_40 (pn 48 rfl ?_)
    refine s_iload_n (i := 1) (by decide +kernel) rfl (pn 49 rfl ?_)
    refine s_imul (by decide +kernel) (pn 50 rfl ?_)
    refine s_iload_n (i := 3) (by decide +kernel) rfl (pn 51 rfl ?_)
    refine s_iadd (by decide +kernel) (pn 52 rfl ?_)
    obtain ⟨b2, h⟩ := h
    refine t_laload (v := M.2 184 (((40 : Int32) * l1) + l3).toNatClampNeg) (by decide +kernel) ⟨lq_184, congrArg Prod.fst sh_184⟩ (al_in sh_184 b2) rfl (pn 53 rfl ?_)
    refine s_l2i (by decide +kernel) (pn 54 rfl ?_)
    refine s_istore (i := 4) (by decide +kernel) (Nat.le_of_ble_eq_true rfl) (pn 56 rfl (t_store (ls' := [.ref 159, .int l1, .int l2, .int l3, .int ((M.2 184 (((40 : Int32) * l1) + l3).toNatClampNeg).toInt32), .null]) rfl ?_))
    refine t_iconst (by decide +kernel) ki_0 (pn 57 rfl ?_)
    refine s_istore (i := 5) (by decide +kernel) (Nat.le_of_ble_eq_true rfl) (pn 59 rfl (t_store (ls' := [.ref 159, .int l1, .int l2, .int l3, .int ((M.2 184 (((40 : Int32) * l1) + l3).toNatClampNeg).toInt32), .int 0]) rfl ?_))
    exact h
theorem sgM_laysBorne_59 {d : Nat} {s : pm_S} {M : pm_M} {l1 : Int32} {l2 : Int32} {l3 : Int32} {l4 : Int32} {l5 : Int32} {Q : pm_S → pm_M → Prop}  (h : (((1000 ≤ l5) → wM_laysBorne d 84 [.ref 159, .int l1, .int l2, .int l3, .int l4, .int 0] [] s M Q) ∧ (¬ (1000 ≤ l5) → vp_in l5 1000 ∧ wM_laysBorne d 59 [.ref 159, .int l1, .int l2, .int l3, .int l4, .int (l5 + 1)] [] s (pm_sj M 181 l5.toNatClampNeg 0) Q))) : wM_laysBorne d 59 [.ref 159, .int l1, .int l2, .int l3, .int l4, .int l5] [] s M Q := by
  refine s_iload (i := 5) (by decide +kernel) rfl (pn 61 rfl ?_)
  refine t_sipush (by decide +kernel) ks_1000 (pn 64 rfl ?_)
  refine s_icmp_ge (off := 17) (tgt := 81) (by decide +kernel) rfl (fun c1 => ?_) (fun c1 => (pn 67 rfl ?_))
  · have h := h.1 c1
    refine t_iconst (by decide +kernel) ki_0 (pn 82 rfl ?_)
    refine s_istore (i := 5) (by decide +kernel) (Nat.le_of_ble_eq_true rfl) (pn 84 rfl (t_store (ls' := [.ref 159, .int l1, .int l2, .int l3, .int l4, .int 0]) rfl ?_))
    exact h
  · have h := h.2 c1
    refine s_aload_n (i := 0) (by decide +kernel) rfl (pn 68 rfl ?_)
    refine s_getfield (v := .ref 181) (by decide +kernel) fr_12_85 lq_159 (congrArg Prod.fst sh_159) (fv_ref pf_159_38) (pn 71 rfl ?_)
    refine s_iload (i := 5) (by decide +kernel) rfl (pn 73 rfl ?_)
    refine t_lconst (n := 0) (v := 0) (by decide +kernel) rfl (pn 74 rfl ?_)
    obtain ⟨b1, h⟩ := h
    refine t_lastore (k := l5.toNatClampNeg) (by decide +kernel) ⟨lq_181, congrArg Prod.fst sh_181⟩ (al_in sh_181 b1) rfl (pn 75 rfl ?_)
    refine t_iinc (i := 5) (n := 1) (ls' := [.ref 159, .int l1, .int l2, .int l3, .int l4, .int (l5 + 1)]) (by decide +kernel) rfl (Nat.le_of_ble_eq_true rfl) kn_1 rfl (pn 78 rfl ?_)
    refine s_goto (off := -19) (tgt := 59) (by decide +kernel) rfl ?_
    exact h
theorem sgM_laysBorne_84 {d : Nat} {s : pm_S} {M : pm_M} {l1 : Int32} {l2 : Int32} {l3 : Int32} {l4 : Int32} {l5 : Int32} {Q : pm_S → pm_M → Prop}  (h : (((1000 ≤ l5) → wM_laysBorne d 191 [.ref 159, .int l1, .int l2, .int l3, .null, .int 0] [] s M Q) ∧ (¬ (1000 ≤ l5) → vp_in l5 1000 ∧ (((M.2 180 l5.toNatClampNeg) = 0 → wM_laysBorne d 84 [.ref 159, .int l1, .int l2, .int l3, .int l4, .int (l5 + 1)] [] s M Q) ∧ (¬ ((M.2 180 l5.toNatClampNeg) = 0) → cI d yM_burdenOf [.ref 159, .int l2, .int l4, .int 0, .int l5] s M (fun r1 s1 M1 => vp_in (l5 + r1) 1000 ∧ vp_in l5 1000 ∧ vp_in (l5 + r1) 1000 ∧ cI d yM_burdenOf [.ref 159, .int l2, .int l4, .int 1, .int l5] s1 (pm_sj M1 181 (l5 + r1).toNatClampNeg ((M1.2 181 (l5 + r1).toNatClampNeg) + ((M1.2 180 l5.toNatClampNeg) * (((10 : Int32) - (M1.1 160 4)).toInt64)))) (fun r2 s2 M2 => vp_in (l5 + r2) 1000 ∧ vp_in l5 1000 ∧ vp_in (l5 + r2) 1000 ∧ wM_laysBorne d 84 [.ref 159, .int l1, .int l2, .int l3, .int l4, .int (l5 + 1)] [] s2 (pm_sj M2 181 (l5 + r2).toNatClampNeg ((M2.2 181 (l5 + r2).toNatClampNeg) + ((M2.2 180 l5.toNatClampNeg) * ((M2.1 160 4).toInt64)))) Q))))))) : wM_laysBorne d 84 [.ref 159, .int l1, .int l2, .int l3, .int l4, .int l5] [] s M Q := by
  refine s_iload (i := 5) (by decide +kernel) rfl (pn 86 rfl ?_)
  refine t_sipush (by decide +kernel) ks_1000 (pn 89 rfl ?_)
  refine s_icmp_ge (off := 99) (tgt := 188) (by decide +kernel) rfl (fun c1 => ?_) (fun c1 => (pn 92 rfl ?_))
  · have h := h.1 c1
    refine t_iconst (by decide +kernel) ki_0 (pn 189 rfl ?_)
    refine s_istore (i := 5) (by decide +kernel) (Nat.le_of_ble_eq_true rfl) (pn 191 rfl (t_store (ls' := [.ref 159, .int l1, .int l2, .int l3, .int l4, .int 0]) rfl ?_))
    exact pm_weak [.ref 159, .int l1, .int l2, .int l3, .null, .int 0] (pm_le_cons (Or.inr rfl) (pm_le_cons (Or.inr rfl) (pm_le_cons (Or.inr rfl) (pm_le_cons (Or.inr rfl) (pm_le_cons (Or.inl rfl) (pm_le_cons (Or.inr rfl) pm_le_nil)))))) h
  · have h := h.2 c1
    refine s_aload_n (i := 0) (by decide +kernel) rfl (pn 93 rfl ?_)
    refine s_getfield (v := .ref 180) (by decide +kernel) fr_12_81 lq_159 (congrArg Prod.fst sh_159) (fv_ref pf_159_37) (pn 96 rfl ?_)
    refine s_iload (i := 5) (by decide +kernel) rfl (pn 98 rfl ?_)
    obtain ⟨b1, h⟩ := h
    refine t_laload (v := M.2 180 l5.toNatClampNeg) (by decide +kernel) ⟨lq_180, congrArg Prod.fst sh_180⟩ (al_in sh_180 b1) rfl (pn 99 rfl ?_)
    refine t_lconst (n := 0) (v := 0) (by decide +kernel) rfl (pn 100 rfl ?_)
    refine t_lc_ne (off := 6) (tgt := 107) (by decide +kernel) (by decide +kernel) rfl (fun c2 => ?_) (fun c2 => (pn 104 rfl ?_))
    · have h := h.2 c2
      refine s_aload_n (i := 0) (by decide +kernel) rfl (pn 108 rfl ?_)
      refine s_getfield (v := .ref 181) (by decide +kernel) fr_12_85 lq_159 (congrArg Prod.fst sh_159) (fv_ref pf_159_38) (pn 111 rfl ?_)
      refine s_iload (i := 5) (by decide +kernel) rfl (pn 113 rfl ?_)
      refine s_aload_n (i := 0) (by decide +kernel) rfl (pn 114 rfl ?_)
      refine s_iload_n (i := 2) (by decide +kernel) rfl (pn 115 rfl ?_)
      refine s_iload (i := 4) (by decide +kernel) rfl (pn 117 rfl ?_)
      refine t_iconst (by decide +kernel) ki_0 (pn 118 rfl ?_)
      refine s_iload (i := 5) (by decide +kernel) rfl (pn 120 rfl ?_)
      refine s_callvI [.int l2, .int l4, .int 0, .int l5] rfl (by decide +kernel) mv_12_246 np_227 (Nat.le_of_ble_eq_true rfl) lq_159 ((congrArg Prod.fst sh_159).trans oc_227) (cI_use h (fun r1 s1 M1 h => (pn 123 rfl ?_)))
      refine s_iadd (by decide +kernel) (pn 124 rfl ?_)
      refine s_dup2 (by decide +kernel) rfl rfl (pn 125 rfl ?_)
      obtain ⟨b2, h⟩ := h
      refine t_laload (v := M1.2 181 (l5 + r1).toNatClampNeg) (by decide +kernel) ⟨lq_181, congrArg Prod.fst sh_181⟩ (al_in sh_181 b2) rfl (pn 126 rfl ?_)
      refine s_aload_n (i := 0) (by decide +kernel) rfl (pn 127 rfl ?_)
      refine s_getfield (v := .ref 180) (by decide +kernel) fr_12_81 lq_159 (congrArg Prod.fst sh_159) (fv_ref pf_159_37) (pn 130 rfl ?_)
      refine s_iload (i := 5) (by decide +kernel) rfl (pn 132 rfl ?_)
      obtain ⟨b3, h⟩ := h
      refine t_laload (v := M1.2 180 l5.toNatClampNeg) (by decide +kernel) ⟨lq_180, congrArg Prod.fst sh_180⟩ (al_in sh_180 b3) rfl (pn 133 rfl ?_)
      refine t_bipush (by decide +kernel) kb_10 (pn 135 rfl ?_)
      refine s_aload_n (i := 0) (by decide +kernel) rfl (pn 136 rfl ?_)
      refine s_getfield (v := .ref 160) (by decide +kernel) fr_12_13 lq_159 (congrArg Prod.fst sh_159) (fv_ref pf_159_1) (pn 139 rfl ?_)
      refine t_iconst (by decide +kernel) ki_4 (pn 140 rfl ?_)
      refine t_iaload (v := M1.1 160 4) (by decide +kernel) ⟨Or.inl lq_160, congrArg Prod.fst sh_160⟩ (al_in sh_160 (vp_lit (n := 3870) tn_4 (by decide) (by decide))) (by rw [tn_4] <;> rfl) (pn 141 rfl ?_)
      refine s_isub (by decide +kernel) (pn 142 rfl ?_)
      refine s_i2l (by decide +kernel) (pn 143 rfl ?_)
      refine s_lmul (by decide +kernel) (pn 144 rfl ?_)
      refine s_ladd (by decide +kernel) (pn 145 rfl ?_)
      obtain ⟨b4, h⟩ := h
      refine t_lastore (k := (l5 + r1).toNatClampNeg) (by decide +kernel) ⟨lq_181, congrArg Prod.fst sh_181⟩ (al_in sh_181 b4) rfl (pn 146 rfl ?_)
      refine s_aload_n (i := 0) (by decide +kernel) rfl (pn 147 rfl ?_)
      refine s_getfield (v := .ref 181) (by decide +kernel) fr_12_85 lq_159 (congrArg Prod.fst sh_159) (fv_ref pf_159_38) (pn 150 rfl ?_)
      refine s_iload (i := 5) (by decide +kernel) rfl (pn 152 rfl ?_)
      refine s_aload_n (i := 0) (by decide +kernel) rfl (pn 153 rfl ?_)
      refine s_iload_n (i := 2) (by decide +kernel) rfl (pn 154 rfl ?_)
      refine s_iload (i := 4) (by decide +kernel) rfl (pn 156 rfl ?_)
      refine t_iconst (by decide +kernel) ki_1 (pn 157 rfl ?_)
      refine s_iload (i := 5) (by decide +kernel) rfl (pn 159 rfl ?_)
      refine s_callvI [.int l2, .int l4, .int 1, .int l5] rfl (by decide +kernel) mv_12_246 np_227 (Nat.le_of_ble_eq_true rfl) lq_159 ((congrArg Prod.fst sh_159).trans oc_227) (cI_use h (fun r2 s2 M2 h => (pn 162 rfl ?_)))
      refine s_iadd (by decide +kernel) (pn 163 rfl ?_)
      refine s_dup2 (by decide +kernel) rfl rfl (pn 164 rfl ?_)
      obtain ⟨b5, h⟩ := h
      refine t_laload (v := M2.2 181 (l5 + r2).toNatClampNeg) (by decide +kernel) ⟨lq_181, congrArg Prod.fst sh_181⟩ (al_in sh_181 b5) rfl (pn 165 rfl ?_)
      refine s_aload_n (i := 0) (by decide +kernel) rfl (pn 166 rfl ?_)
      refine s_getfield (v := .ref 180) (by decide +kernel) fr_12_81 lq_159 (congrArg Prod.fst sh_159) (fv_ref pf_159_37) (pn 169 rfl ?_)
      refine s_iload (i := 5) (by decide +kernel) rfl (pn 171 rfl ?_)
      obtain ⟨b6, h⟩ := h
      refine t_laload (v := M2.2 180 l5.toNatClampNeg) (by decide +kernel) ⟨lq_180, congrArg Prod.fst sh_180⟩ (al_in sh_180 b6) rfl (pn 172 rfl ?_)
      refine s_aload_n (i := 0) (by decide +kernel) rfl (pn 173 rfl ?_)
      refine s_getfield (v := .ref 160) (by decide +kernel) fr_12_13 lq_159 (congrArg Prod.fst sh_159) (fv_ref pf_159_1) (pn 176 rfl ?_)
      refine t_iconst (by decide +kernel) ki_4 (pn 177 rfl ?_)
      refine t_iaload (v := M2.1 160 4) (by decide +kernel) ⟨Or.inl lq_160, congrArg Prod.fst sh_160⟩ (al_in sh_160 (vp_lit (n := 3870) tn_4 (by decide) (by decide))) (by rw [tn_4] <;> rfl) (pn 178 rfl ?_)
      refine s_i2l (by decide +kernel) (pn 179 rfl ?_)
      refine s_lmul (by decide +kernel) (pn 180 rfl ?_)
      refine s_ladd (by decide +kernel) (pn 181 rfl ?_)
      obtain ⟨b7, h⟩ := h
      refine t_lastore (k := (l5 + r2).toNatClampNeg) (by decide +kernel) ⟨lq_181, congrArg Prod.fst sh_181⟩ (al_in sh_181 b7) rfl (pn 182 rfl ?_)
      refine t_iinc (i := 5) (n := 1) (ls' := [.ref 159, .int l1, .int l2, .int l3, .int l4, .int (l5 + 1)]) (by decide +kernel) rfl (Nat.le_of_ble_eq_true rfl) kn_1 rfl (pn 185 rfl ?_)
      refine s_goto (off := -101) (tgt := 84) (by decide +kernel) rfl ?_
      exact h
    · have h := h.1 c2
      refine s_goto (off := 78) (tgt := 182) (by decide +kernel) rfl ?_
      refine t_iinc (i := 5) (n := 1) (ls' := [.ref 159, .int l1, .int l2, .int l3, .int l4, .int (l5 + 1)]) (by decide +kernel) rfl (Nat.le_of_ble_eq_true rfl) kn_1 rfl (pn 185 rfl ?_)
      refine s_goto (off := -101) (tgt := 84) (by decide +kernel) rfl ?_
      exact h
theorem sgM_laysBorne_191 {d : Nat} {s : pm_S} {M : pm_M} {l1 : Int32} {l2 : Int32} {l3 : Int32} {l5 : Int32} {Q : pm_S → pm_M → Prop}  (h : (((1000 ≤ l5) → wM_laysBorne d 32 [.ref 159, .int l1, .int l2, .int (l3 + 1), .null, .null] [] s M Q) ∧ (¬ (1000 ≤ l5) → vp_in l5 1000 ∧ vp_in l5 1000 ∧ wM_laysBorne d 191 [.ref 159, .int l1, .int l2, .int l3, .null, .int (l5 + 1)] [] s (pm_sj M 180 l5.toNatClampNeg (M.2 181 l5.toNatClampNeg)) Q))) : wM_laysBorne d 191 [.ref 159, .int l1, .int l2, .int l3, .null, .int l5] [] s M Q := by
  refine s_iload (i := 5) (by decide +kernel) rfl (pn 193 rfl ?_)
  refine t_sipush (by decide +kernel) ks_1000 (pn 196 rfl ?_)
  refine s_icmp_ge (off := 23) (tgt := 219) (by decide +kernel) rfl (fun c1 => ?_) (fun c1 => (pn 199 rfl ?_))
  · have h := h.1 c1
    refine t_iinc (i := 3) (n := 1) (ls' := [.ref 159, .int l1, .int l2, .int (l3 + 1), .null, .int l5]) (by decide +kernel) rfl (Nat.le_of_ble_eq_true rfl) kn_1 rfl (pn 222 rfl ?_)
    refine s_goto (off := -190) (tgt := 32) (by decide +kernel) rfl ?_
    exact pm_weak [.ref 159, .int l1, .int l2, .int (l3 + 1), .null, .null] (pm_le_cons (Or.inr rfl) (pm_le_cons (Or.inr rfl) (pm_le_cons (Or.inr rfl) (pm_le_cons (Or.inr rfl) (pm_le_cons (Or.inl rfl) (pm_le_cons (Or.inl rfl) pm_le_nil)))))) h
  · have h := h.2 c1
    refine s_aload_n (i := 0) (by decide +kernel) rfl (pn 200 rfl ?_)
    refine s_getfield (v := .ref 180) (by decide +kernel) fr_12_81 lq_159 (congrArg Prod.fst sh_159) (fv_ref pf_159_37) (pn 203 rfl ?_)
    refine s_iload (i := 5) (by decide +kernel) rfl (pn 205 rfl ?_)
    refine s_aload_n (i := 0) (by decide +kernel) rfl (pn 206 rfl ?_)
    refine s_getfield (v := .ref 181) (by decide +kernel) fr_12_85 lq_159 (congrArg Prod.fst sh_159) (fv_ref pf_159_38) (pn 209 rfl ?_)
    refine s_iload (i := 5) (by decide +kernel) rfl (pn 211 rfl ?_)
    obtain ⟨b1, h⟩ := h
    refine t_laload (v := M.2 181 l5.toNatClampNeg) (by decide +kernel) ⟨lq_181, congrArg Prod.fst sh_181⟩ (al_in sh_181 b1) rfl (pn 212 rfl ?_)
    obtain ⟨b2, h⟩ := h
    refine t_lastore (k := l5.toNatClampNeg) (by decide +kernel) ⟨lq_180, congrArg Prod.fst sh_180⟩ (al_in sh_180 b2) rfl (pn 213 rfl ?_)
    refine t_iinc (i := 5) (n := 1) (ls' := [.ref 159, .int l1, .int l2, .int l3, .null, .int (l5 + 1)]) (by decide +kernel) rfl (Nat.le_of_ble_eq_true rfl) kn_1 rfl (pn 216 rfl ?_)
    refine s_goto (off := -25) (tgt := 191) (by decide +kernel) rfl ?_
    exact h
abbrev wM_tens (d pc : Nat) (ls st : List Value) (s : pm_S) (M : pm_M) (Q : Int64 → pm_S → pm_M → Prop) : Prop := wL d prog_14_method_128_code 12 (some .long) false pc ls st s M Q
theorem enM_tens {d : Nat} {s : pm_S} {M : pm_M} {x1 : Int32} {Q : Int64 → pm_S → pm_M → Prop}  (h : wM_tens d 4 [.int x1, .long 1, .null, .int 0] [] s M Q) : cL (d + 1) yM_tens [.int x1] s M Q := by
  refine pm_toL (by decide) (Nat.le_of_ble_eq_true rfl) ?_
  show wM_tens d 0 [.int x1, .null, .null, .null] [] s M Q
  refine t_lconst (n := 1) (v := 1) (by decide +kernel) rfl (pn 1 rfl ?_)
  refine s_lstore_n (i := 1) (by decide +kernel) (Nat.le_of_ble_eq_true rfl) (pn 2 rfl (t_store (ls' := [.int x1, .long 1, .null, .null]) rfl ?_))
  refine t_iconst (by decide +kernel) ki_0 (pn 3 rfl ?_)
  refine s_istore_n (i := 3) (by decide +kernel) (Nat.le_of_ble_eq_true rfl) (pn 4 rfl (t_store (ls' := [.int x1, .long 1, .null, .int 0]) rfl ?_))
  exact h
theorem sgM_tens_4 {d : Nat} {s : pm_S} {M : pm_M} {l0 : Int32} {l1 : Int64} {l3 : Int32} {Q : Int64 → pm_S → pm_M → Prop}  (h : (((l0 ≤ l3) → Q l1 s M) ∧ (¬ (l0 ≤ l3) → wM_tens d 4 [.int l0, .long (l1 * 10), .null, .int (l3 + 1)] [] s M Q))) : wM_tens d 4 [.int l0, .long l1, .null, .int l3] [] s M Q := by
  refine s_iload_n (i := 3) (by decide +kernel) rfl (pn 5 rfl ?_)
  refine s_iload_n (i := 0) (by decide +kernel) rfl (pn 6 rfl ?_)
  refine s_icmp_ge (off := 15) (tgt := 21) (by decide +kernel) rfl (fun c1 => ?_) (fun c1 => (pn 9 rfl ?_))
  · have h := h.1 c1
    refine s_lload_n (i := 1) (by decide +kernel) rfl (pn 22 rfl ?_)
    exact s_lreturn (st := []) (by decide +kernel) rfl ⟨_, rfl, s, rfl, h⟩
  · have h := h.2 c1
    refine s_lload_n (i := 1) (by decide +kernel) rfl (pn 10 rfl ?_)
    refine s_ldc2_w (by decide +kernel) kl_12_320 (pn 13 rfl ?_)
    refine s_lmul (by decide +kernel) (pn 14 rfl ?_)
    refine s_lstore_n (i := 1) (by decide +kernel) (Nat.le_of_ble_eq_true rfl) (pn 15 rfl (t_store (ls' := [.int l0, .long (l1 * 10), .null, .int l3]) rfl ?_))
    refine t_iinc (i := 3) (n := 1) (ls' := [.int l0, .long (l1 * 10), .null, .int (l3 + 1)]) (by decide +kernel) rfl (Nat.le_of_ble_eq_true rfl) kn_1 rfl (pn 18 rfl ?_)
    refine s_goto (off := -14) (tgt := 4) (by decide +kernel) rfl ?_
    exact h
abbrev wM_common (d pc : Nat) (ls st : List Value) (s : pm_S) (M : pm_M) (Q : Int64 → pm_S → pm_M → Prop) : Prop := wL d prog_14_method_129_code 12 (some .long) false pc ls st s M Q
theorem enM_common {d : Nat} {s : pm_S} {M : pm_M} {x1 : Int64} {x2 : Int64} {Q : Int64 → pm_S → pm_M → Prop}  (h : ((x2 = 0 → Q x1 s M) ∧ (¬ (x2 = 0) → (¬ x2 = 0) ∧ cL d yM_common [.long x2, .long (x1 - x1 / x2 * x2)] s M (fun r1 s1 M1 => Q r1 s1 M1)))) : cL (d + 1) yM_common [.long x1, .long x2] s M Q := by
  refine pm_toL (by decide) (Nat.le_of_ble_eq_true rfl) ?_
  show wM_common d 0 [.long x1, .null, .long x2, .null] [] s M Q
  refine s_lload_n (i := 2) (by decide +kernel) rfl (pn 1 rfl ?_)
  refine t_lconst (n := 0) (v := 0) (by decide +kernel) rfl (pn 2 rfl ?_)
  refine t_lc_ne (off := 7) (tgt := 10) (by decide +kernel) (by decide +kernel) rfl (fun c1 => ?_) (fun c1 => (pn 6 rfl ?_))
  · have h := h.2 c1
    refine s_lload_n (i := 2) (by decide +kernel) rfl (pn 11 rfl ?_)
    refine s_lload_n (i := 0) (by decide +kernel) rfl (pn 12 rfl ?_)
    refine s_lload_n (i := 2) (by decide +kernel) rfl (pn 13 rfl ?_)
    obtain ⟨b1, h⟩ := h
    refine s_lrem (by decide +kernel) b1 (pn 14 rfl ?_)
    refine s_callsL [.long x2, .long (x1 - x1 / x2 * x2)] rfl (by decide +kernel) ms_12_464 np_312 (Nat.le_of_ble_eq_true rfl) (cL_use h (fun r1 s1 M1 h => (pn 17 rfl ?_)))
    exact s_lreturn (st := []) (by decide +kernel) rfl ⟨_, rfl, s1, rfl, h⟩
  · have h := h.1 c1
    refine s_lload_n (i := 0) (by decide +kernel) rfl (pn 7 rfl ?_)
    refine s_goto (off := 10) (tgt := 17) (by decide +kernel) rfl ?_
    exact s_lreturn (st := []) (by decide +kernel) rfl ⟨_, rfl, s, rfl, h⟩
abbrev wM_bearing (d pc : Nat) (ls st : List Value) (s : pm_S) (M : pm_M) (Q : Int32 → pm_S → pm_M → Prop) : Prop := wI d prog_14_method_131_code 12 (some .int) false pc ls st s M Q
theorem enM_bearing {d : Nat} {s : pm_S} {M : pm_M} {x1 : Int32} {x2 : Int32} {x3 : Int32} {Q : Int32 → pm_S → pm_M → Prop}  (h : cI d yM_noChance [.ref 159, .int x1, .int x2] s (pm_si M 159 0 0) (fun r1 s1 M1 => (((r1 = 0) → cI d yM_within [.long (x3.toInt64), .long 0, .long 100] s1 M1 (fun r2 s2 M2 => ((r2 = 0 → Q (-3) s2 M2) ∧ (¬ (r2 = 0) → cV d yM_laysBorne [.ref 159, .int x1, .int x2] s2 M2 (fun s3 M3 => wM_bearing d 48 [.ref 159, .int x1, .null, .int x3, .null, .long 0, .null, .int 0] [] s3 M3 Q))))) ∧ (¬ (r1 = 0) → Q r1 s1 M1)))) : cI (d + 1) yM_bearing [.ref 159, .int x1, .int x2, .int x3] s M Q := by
  refine pm_toI (by decide) (Nat.le_of_ble_eq_true rfl) ?_
  show wM_bearing d 0 [.ref 159, .int x1, .int x2, .int x3, .null, .null, .null, .null] [] s M Q
  refine s_aload_n (i := 0) (by decide +kernel) rfl (pn 1 rfl ?_)
  refine t_iconst (by decide +kernel) ki_0 (pn 2 rfl ?_)
  refine s_putfieldI (by decide +kernel) fr_12_1 lq_159 (congrArg Prod.fst sh_159) (fun q => by cases q) (Or.inl rfl) (pn 5 rfl ?_)
  refine s_aload_n (i := 0) (by decide +kernel) rfl (pn 6 rfl ?_)
  refine s_iload_n (i := 1) (by decide +kernel) rfl (pn 7 rfl ?_)
  refine s_iload_n (i := 2) (by decide +kernel) rfl (pn 8 rfl ?_)
  refine s_callvI [.int x1, .int x2] rfl (by decide +kernel) mv_12_470 np_309 (Nat.le_of_ble_eq_true rfl) lq_159 ((congrArg Prod.fst sh_159).trans oc_309) (cI_use h (fun r1 s1 M1 h => (pn 11 rfl ?_)))
  refine s_istore (i := 4) (by decide +kernel) (Nat.le_of_ble_eq_true rfl) (pn 13 rfl (t_store (ls' := [.ref 159, .int x1, .int x2, .int x3, .int r1, .null, .null, .null]) rfl ?_))
  refine s_iload (i := 4) (by decide +kernel) rfl (pn 15 rfl ?_)
  refine s_if_eq (off := 6) (tgt := 21) (by decide +kernel) rfl (fun c1 => ?_) (fun c1 => (pn 18 rfl ?_))
  · have h := h.1 c1
    refine s_iload_n (i := 3) (by decide +kernel) rfl (pn 22 rfl ?_)
    refine s_i2l (by decide +kernel) (pn 23 rfl ?_)
    refine t_lconst (n := 0) (v := 0) (by decide +kernel) rfl (pn 24 rfl ?_)
    refine s_ldc2_w (by decide +kernel) kl_12_326 (pn 27 rfl ?_)
    refine s_callsI [.long (x3.toInt64), .long 0, .long 100] rfl (by decide +kernel) ms_12_163 np_188 (Nat.le_of_ble_eq_true rfl) (cI_use h (fun r2 s2 M2 h => (pn 30 rfl ?_)))
    refine t_if_ne (off := 6) (tgt := 36) (by decide +kernel) rfl (fun c2 => ?_) (fun c2 => (pn 33 rfl ?_))
    · have h := h.2 c2
      refine s_aload_n (i := 0) (by decide +kernel) rfl (pn 37 rfl ?_)
      refine s_iload_n (i := 1) (by decide +kernel) rfl (pn 38 rfl ?_)
      refine s_iload_n (i := 2) (by decide +kernel) rfl (pn 39 rfl ?_)
      refine s_callvV [.int x1, .int x2] rfl (by decide +kernel) mv_12_473 np_310 (Nat.le_of_ble_eq_true rfl) lq_159 ((congrArg Prod.fst sh_159).trans oc_310) (cV_use h (fun s3 M3 h => (pn 42 rfl ?_)))
      refine t_lconst (n := 0) (v := 0) (by decide +kernel) rfl (pn 43 rfl ?_)
      refine s_lstore (i := 5) (by decide +kernel) (Nat.le_of_ble_eq_true rfl) (pn 45 rfl (t_store (ls' := [.ref 159, .int x1, .int x2, .int x3, .int r1, .long 0, .null, .null]) rfl ?_))
      refine t_iconst (by decide +kernel) ki_0 (pn 46 rfl ?_)
      refine s_istore (i := 7) (by decide +kernel) (Nat.le_of_ble_eq_true rfl) (pn 48 rfl (t_store (ls' := [.ref 159, .int x1, .int x2, .int x3, .int r1, .long 0, .null, .int 0]) rfl ?_))
      exact pm_weak [.ref 159, .int x1, .null, .int x3, .null, .long 0, .null, .int 0] (pm_le_cons (Or.inr rfl) (pm_le_cons (Or.inr rfl) (pm_le_cons (Or.inl rfl) (pm_le_cons (Or.inr rfl) (pm_le_cons (Or.inl rfl) (pm_le_cons (Or.inr rfl) (pm_le_cons (Or.inl rfl) (pm_le_cons (Or.inr rfl) pm_le_nil)))))))) h
    · have h := h.1 c2
      refine t_bipush (by decide +kernel) kb_m3 (pn 35 rfl ?_)
      exact s_ireturn (st := []) (by decide +kernel) (Or.inl rfl) ⟨_, rfl, s2, rfl, h⟩
  · have h := h.2 c1
    refine s_iload (i := 4) (by decide +kernel) rfl (pn 20 rfl ?_)
    exact s_ireturn (st := []) (by decide +kernel) (Or.inl rfl) ⟨_, rfl, s1, rfl, h⟩
theorem sgM_bearing_48 {d : Nat} {s : pm_S} {M : pm_M} {l1 : Int32} {l3 : Int32} {l5 : Int64} {l7 : Int32} {Q : Int32 → pm_S → pm_M → Prop}  (h : (((1000 ≤ l7) → Q (-1) s M) ∧ (¬ (1000 ≤ l7) → vp_in l7 1000 ∧ vp_in l1 4 ∧ cL d yM_tens [.int (M.1 183 l1.toNatClampNeg)] s M (fun r1 s1 M1 => (((((l5 + (M.2 180 l7.toNatClampNeg)) * 100) < ((l3.toInt64) * r1)) → wM_bearing d 48 [.ref 159, .int l1, .null, .int l3, .null, .long (l5 + (M.2 180 l7.toNatClampNeg)), .null, .int (l7 + 1)] [] s1 M1 Q) ∧ (¬ (((l5 + (M.2 180 l7.toNatClampNeg)) * 100) < ((l3.toInt64) * r1)) → Q l7 s1 M1)))))) : wM_bearing d 48 [.ref 159, .int l1, .null, .int l3, .null, .long l5, .null, .int l7] [] s M Q := by
  refine s_iload (i := 7) (by decide +kernel) rfl (pn 50 rfl ?_)
  refine t_sipush (by decide +kernel) ks_1000 (pn 53 rfl ?_)
  refine s_icmp_ge (off := 46) (tgt := 99) (by decide +kernel) rfl (fun c1 => ?_) (fun c1 => (pn 56 rfl ?_))
  · have h := h.1 c1
    refine t_iconst (by decide +kernel) ki_m1 (pn 100 rfl ?_)
    exact s_ireturn (st := []) (by decide +kernel) (Or.inl rfl) ⟨_, rfl, s, rfl, h⟩
  · have h := h.2 c1
    refine s_lload (i := 5) (by decide +kernel) rfl (pn 58 rfl ?_)
    refine s_aload_n (i := 0) (by decide +kernel) rfl (pn 59 rfl ?_)
    refine s_getfield (v := .ref 180) (by decide +kernel) fr_12_81 lq_159 (congrArg Prod.fst sh_159) (fv_ref pf_159_37) (pn 62 rfl ?_)
    refine s_iload (i := 7) (by decide +kernel) rfl (pn 64 rfl ?_)
    obtain ⟨b1, h⟩ := h
    refine t_laload (v := M.2 180 l7.toNatClampNeg) (by decide +kernel) ⟨lq_180, congrArg Prod.fst sh_180⟩ (al_in sh_180 b1) rfl (pn 65 rfl ?_)
    refine s_ladd (by decide +kernel) (pn 66 rfl ?_)
    refine s_lstore (i := 5) (by decide +kernel) (Nat.le_of_ble_eq_true rfl) (pn 68 rfl (t_store (ls' := [.ref 159, .int l1, .null, .int l3, .null, .long (l5 + (M.2 180 l7.toNatClampNeg)), .null, .int l7]) rfl ?_))
    refine s_lload (i := 5) (by decide +kernel) rfl (pn 70 rfl ?_)
    refine s_ldc2_w (by decide +kernel) kl_12_326 (pn 73 rfl ?_)
    refine s_lmul (by decide +kernel) (pn 74 rfl ?_)
    refine s_iload_n (i := 3) (by decide +kernel) rfl (pn 75 rfl ?_)
    refine s_i2l (by decide +kernel) (pn 76 rfl ?_)
    refine s_aload_n (i := 0) (by decide +kernel) rfl (pn 77 rfl ?_)
    refine s_getfield (v := .ref 183) (by decide +kernel) fr_12_91 lq_159 (congrArg Prod.fst sh_159) (fv_ref pf_159_40) (pn 80 rfl ?_)
    refine s_iload_n (i := 1) (by decide +kernel) rfl (pn 81 rfl ?_)
    obtain ⟨b2, h⟩ := h
    refine t_iaload (v := M.1 183 l1.toNatClampNeg) (by decide +kernel) ⟨Or.inl lq_183, congrArg Prod.fst sh_183⟩ (al_in sh_183 b2) rfl (pn 82 rfl ?_)
    refine s_callsL [.int (M.1 183 l1.toNatClampNeg)] rfl (by decide +kernel) ms_12_476 np_311 (Nat.le_of_ble_eq_true rfl) (cL_use h (fun r1 s1 M1 h => (pn 85 rfl ?_)))
    refine s_lmul (by decide +kernel) (pn 86 rfl ?_)
    refine t_lc_lt (off := 6) (tgt := 93) (by decide +kernel) (by decide +kernel) rfl (fun c2 => ?_) (fun c2 => (pn 90 rfl ?_))
    · have h := h.1 c2
      refine t_iinc (i := 7) (n := 1) (ls' := [.ref 159, .int l1, .null, .int l3, .null, .long (l5 + (M.2 180 l7.toNatClampNeg)), .null, .int (l7 + 1)]) (by decide +kernel) rfl (Nat.le_of_ble_eq_true rfl) kn_1 rfl (pn 96 rfl ?_)
      refine s_goto (off := -48) (tgt := 48) (by decide +kernel) rfl ?_
      exact h
    · have h := h.2 c2
      refine s_iload (i := 7) (by decide +kernel) rfl (pn 92 rfl ?_)
      exact s_ireturn (st := []) (by decide +kernel) (Or.inl rfl) ⟨_, rfl, s1, rfl, h⟩
abbrev wM_numbers (d pc : Nat) (ls st : List Value) (s : pm_S) (M : pm_M) (Q : Int32 → pm_S → pm_M → Prop) : Prop := wI d prog_14_method_133_code 12 (some .int) false pc ls st s M Q
theorem enM_numbers {d : Nat} {s : pm_S} {M : pm_M} {x1 : Int32} {x2 : Int32} {x3 : Int32} {Q : Int32 → pm_S → pm_M → Prop}  (h : cI d yM_within [.long (x1.toInt64), .long 0, .long 3] s (pm_si M 159 0 0) (fun r1 s1 M1 => (((r1 = 0) → Q (-2) s1 M1) ∧ (¬ (r1 = 0) → cI d yM_within [.long (x2.toInt64), .long 0, .long 3] s1 M1 (fun r2 s2 M2 => ((r2 = 0 → Q (-2) s2 M2) ∧ (¬ (r2 = 0) → cI d yM_within [.long (x3.toInt64), .long 0, .long 40] s2 M2 (fun r3 s3 M3 => ((r3 = 0 → Q (-3) s3 M3) ∧ (¬ (r3 = 0) → vp_in x1 4 ∧ vp_in x1 4 ∧ wM_numbers d 64 [.ref 159, .int x1, .null, .int x3, .int 0] [] s3 (pm_si (pm_si M3 182 x1.toNatClampNeg x2) 183 x1.toNatClampNeg x3) Q)))))))))) : cI (d + 1) yM_numbers [.ref 159, .int x1, .int x2, .int x3] s M Q := by
  refine pm_toI (by decide) (Nat.le_of_ble_eq_true rfl) ?_
  show wM_numbers d 0 [.ref 159, .int x1, .int x2, .int x3, .null] [] s M Q
  refine s_aload_n (i := 0) (by decide +kernel) rfl (pn 1 rfl ?_)
  refine t_iconst (by decide +kernel) ki_0 (pn 2 rfl ?_)
  refine s_putfieldI (by decide +kernel) fr_12_1 lq_159 (congrArg Prod.fst sh_159) (fun q => by cases q) (Or.inl rfl) (pn 5 rfl ?_)
  refine s_iload_n (i := 1) (by decide +kernel) rfl (pn 6 rfl ?_)
  refine s_i2l (by decide +kernel) (pn 7 rfl ?_)
  refine t_lconst (n := 0) (v := 0) (by decide +kernel) rfl (pn 8 rfl ?_)
  refine s_ldc2_w (by decide +kernel) kl_12_347 (pn 11 rfl ?_)
  refine s_callsI [.long (x1.toInt64), .long 0, .long 3] rfl (by decide +kernel) ms_12_163 np_188 (Nat.le_of_ble_eq_true rfl) (cI_use h (fun r1 s1 M1 h => (pn 14 rfl ?_)))
  refine s_if_eq (off := 15) (tgt := 29) (by decide +kernel) rfl (fun c1 => ?_) (fun c1 => (pn 17 rfl ?_))
  · have h := h.1 c1
    refine t_bipush (by decide +kernel) kb_m2 (pn 31 rfl ?_)
    exact s_ireturn (st := []) (by decide +kernel) (Or.inl rfl) ⟨_, rfl, s1, rfl, h⟩
  · have h := h.2 c1
    refine s_iload_n (i := 2) (by decide +kernel) rfl (pn 18 rfl ?_)
    refine s_i2l (by decide +kernel) (pn 19 rfl ?_)
    refine t_lconst (n := 0) (v := 0) (by decide +kernel) rfl (pn 20 rfl ?_)
    refine s_ldc2_w (by decide +kernel) kl_12_347 (pn 23 rfl ?_)
    refine s_callsI [.long (x2.toInt64), .long 0, .long 3] rfl (by decide +kernel) ms_12_163 np_188 (Nat.le_of_ble_eq_true rfl) (cI_use h (fun r2 s2 M2 h => (pn 26 rfl ?_)))
    refine t_if_ne (off := 6) (tgt := 32) (by decide +kernel) rfl (fun c2 => ?_) (fun c2 => (pn 29 rfl ?_))
    · have h := h.2 c2
      refine s_iload_n (i := 3) (by decide +kernel) rfl (pn 33 rfl ?_)
      refine s_i2l (by decide +kernel) (pn 34 rfl ?_)
      refine t_lconst (n := 0) (v := 0) (by decide +kernel) rfl (pn 35 rfl ?_)
      refine s_ldc2_w (by decide +kernel) kl_12_361 (pn 38 rfl ?_)
      refine s_callsI [.long (x3.toInt64), .long 0, .long 40] rfl (by decide +kernel) ms_12_163 np_188 (Nat.le_of_ble_eq_true rfl) (cI_use h (fun r3 s3 M3 h => (pn 41 rfl ?_)))
      refine t_if_ne (off := 6) (tgt := 47) (by decide +kernel) rfl (fun c3 => ?_) (fun c3 => (pn 44 rfl ?_))
      · have h := h.2 c3
        refine s_aload_n (i := 0) (by decide +kernel) rfl (pn 48 rfl ?_)
        refine s_getfield (v := .ref 182) (by decide +kernel) fr_12_88 lq_159 (congrArg Prod.fst sh_159) (fv_ref pf_159_39) (pn 51 rfl ?_)
        refine s_iload_n (i := 1) (by decide +kernel) rfl (pn 52 rfl ?_)
        refine s_iload_n (i := 2) (by decide +kernel) rfl (pn 53 rfl ?_)
        obtain ⟨b1, h⟩ := h
        refine t_iastore (k := x1.toNatClampNeg) (by decide +kernel) ⟨lq_182, congrArg Prod.fst sh_182⟩ (al_in sh_182 b1) rfl (pn 54 rfl ?_)
        refine s_aload_n (i := 0) (by decide +kernel) rfl (pn 55 rfl ?_)
        refine s_getfield (v := .ref 183) (by decide +kernel) fr_12_91 lq_159 (congrArg Prod.fst sh_159) (fv_ref pf_159_40) (pn 58 rfl ?_)
        refine s_iload_n (i := 1) (by decide +kernel) rfl (pn 59 rfl ?_)
        refine s_iload_n (i := 3) (by decide +kernel) rfl (pn 60 rfl ?_)
        obtain ⟨b2, h⟩ := h
        refine t_iastore (k := x1.toNatClampNeg) (by decide +kernel) ⟨lq_183, congrArg Prod.fst sh_183⟩ (al_in sh_183 b2) rfl (pn 61 rfl ?_)
        refine t_iconst (by decide +kernel) ki_0 (pn 62 rfl ?_)
        refine s_istore (i := 4) (by decide +kernel) (Nat.le_of_ble_eq_true rfl) (pn 64 rfl (t_store (ls' := [.ref 159, .int x1, .int x2, .int x3, .int 0]) rfl ?_))
        exact pm_weak [.ref 159, .int x1, .null, .int x3, .int 0] (pm_le_cons (Or.inr rfl) (pm_le_cons (Or.inr rfl) (pm_le_cons (Or.inl rfl) (pm_le_cons (Or.inr rfl) (pm_le_cons (Or.inr rfl) pm_le_nil))))) h
      · have h := h.1 c3
        refine t_bipush (by decide +kernel) kb_m3 (pn 46 rfl ?_)
        exact s_ireturn (st := []) (by decide +kernel) (Or.inl rfl) ⟨_, rfl, s3, rfl, h⟩
    · have h := h.1 c2
      refine t_bipush (by decide +kernel) kb_m2 (pn 31 rfl ?_)
      exact s_ireturn (st := []) (by decide +kernel) (Or.inl rfl) ⟨_, rfl, s2, rfl, h⟩
theorem sgM_numbers_64 {d : Nat} {s : pm_S} {M : pm_M} {l1 : Int32} {l3 : Int32} {l4 : Int32} {Q : Int32 → pm_S → pm_M → Prop}  (h : (((l3 ≤ l4) → Q 0 s M) ∧ (¬ (l3 ≤ l4) → vp_in (((40 : Int32) * l1) + l4) 160 ∧ wM_numbers d 64 [.ref 159, .int l1, .null, .int l3, .int (l4 + 1)] [] s (pm_sj M 184 (((40 : Int32) * l1) + l4).toNatClampNeg 0) Q))) : wM_numbers d 64 [.ref 159, .int l1, .null, .int l3, .int l4] [] s M Q := by
  refine s_iload (i := 4) (by decide +kernel) rfl (pn 66 rfl ?_)
  refine s_iload_n (i := 3) (by decide +kernel) rfl (pn 67 rfl ?_)
  refine s_icmp_ge (off := 22) (tgt := 89) (by decide +kernel) rfl (fun c1 => ?_) (fun c1 => (pn 70 rfl ?_))
  · have h := h.1 c1
    refine t_iconst (by decide +kernel) ki_0 (pn 90 rfl ?_)
    exact s_ireturn (st := []) (by decide +kernel) (Or.inl rfl) ⟨_, rfl, s, rfl, h⟩
  · have h := h.2 c1
    refine s_aload_n (i := 0) (by decide +kernel) rfl (pn 71 rfl ?_)
    refine s_getfield (v := .ref 184) (by decide +kernel) fr_12_94 lq_159 (congrArg Prod.fst sh_159) (fv_ref pf_159_41) (pn 74 rfl ?_)
    refine t_bipush (by decide +kernel) kb_40 (pn 76 rfl ?_)
    refine s_iload_n (i := 1) (by decide +kernel) rfl (pn 77 rfl ?_)
    refine s_imul (by decide +kernel) (pn 78 rfl ?_)
    refine s_iload (i := 4) (by decide +kernel) rfl (pn 80 rfl ?_)
    refine s_iadd (by decide +kernel) (pn 81 rfl ?_)
    refine t_lconst (n := 0) (v := 0) (by decide +kernel) rfl (pn 82 rfl ?_)
    obtain ⟨b1, h⟩ := h
    refine t_lastore (k := (((40 : Int32) * l1) + l4).toNatClampNeg) (by decide +kernel) ⟨lq_184, congrArg Prod.fst sh_184⟩ (al_in sh_184 b1) rfl (pn 83 rfl ?_)
    refine t_iinc (i := 4) (n := 1) (ls' := [.ref 159, .int l1, .null, .int l3, .int (l4 + 1)]) (by decide +kernel) rfl (Nat.le_of_ble_eq_true rfl) kn_1 rfl (pn 86 rfl ?_)
    refine s_goto (off := -22) (tgt := 64) (by decide +kernel) rfl ?_
    exact h
abbrev wM_write (d pc : Nat) (ls st : List Value) (s : pm_S) (M : pm_M) (Q : Int64 → pm_S → pm_M → Prop) : Prop := wL d prog_14_method_134_code 12 (some .long) false pc ls st s M Q
theorem enM_write {d : Nat} {s : pm_S} {M : pm_M} {x1 : Int32} {x2 : Int32} {x3 : Int64} {Q : Int64 → pm_S → pm_M → Prop}  (h : cI d yM_noTray [.ref 159, .int x1] s (pm_si M 159 0 0) (fun r1 s1 M1 => (((r1 = 0) → vp_in x1 4 ∧ cI d yM_within [.long (x2.toInt64), .long 0, .long (((M1.1 183 x1.toNatClampNeg) - 1).toInt64)] s1 M1 (fun r2 s2 M2 => ((r2 = 0 → Q (-7) s2 M2) ∧ (¬ (r2 = 0) → vp_in x1 4 ∧ cL d yM_cut [.long x3, .int (M2.1 182 x1.toNatClampNeg)] s2 M2 (fun r3 s3 M3 => vp_in (((40 : Int32) * x1) + x2) 160 ∧ vp_in (((40 : Int32) * x1) + x2) 160 ∧ Q ((pm_sj M3 184 (((40 : Int32) * x1) + x2).toNatClampNeg r3).2 184 (((40 : Int32) * x1) + x2).toNatClampNeg) s3 (pm_sj M3 184 (((40 : Int32) * x1) + x2).toNatClampNeg r3)))))) ∧ (¬ (r1 = 0) → Q (r1.toInt64) s1 M1)))) : cL (d + 1) yM_write [.ref 159, .int x1, .int x2, .long x3] s M Q := by
  refine pm_toL (by decide) (Nat.le_of_ble_eq_true rfl) ?_
  show wM_write d 0 [.ref 159, .int x1, .int x2, .long x3, .null, .null] [] s M Q
  refine s_aload_n (i := 0) (by decide +kernel) rfl (pn 1 rfl ?_)
  refine t_iconst (by decide +kernel) ki_0 (pn 2 rfl ?_)
  refine s_putfieldI (by decide +kernel) fr_12_1 lq_159 (congrArg Prod.fst sh_159) (fun q => by cases q) (Or.inl rfl) (pn 5 rfl ?_)
  refine s_aload_n (i := 0) (by decide +kernel) rfl (pn 6 rfl ?_)
  refine s_iload_n (i := 1) (by decide +kernel) rfl (pn 7 rfl ?_)
  refine s_callvI [.int x1] rfl (by decide +kernel) mv_12_349 np_253 (Nat.le_of_ble_eq_true rfl) lq_159 ((congrArg Prod.fst sh_159).trans oc_253) (cI_use h (fun r1 s1 M1 h => (pn 10 rfl ?_)))
  refine s_istore (i := 5) (by decide +kernel) (Nat.le_of_ble_eq_true rfl) (pn 12 rfl (t_store (ls' := [.ref 159, .int x1, .int x2, .long x3, .null, .int r1]) rfl ?_))
  refine s_iload (i := 5) (by decide +kernel) rfl (pn 14 rfl ?_)
  refine s_if_eq (off := 7) (tgt := 21) (by decide +kernel) rfl (fun c1 => ?_) (fun c1 => (pn 17 rfl ?_))
  · have h := h.1 c1
    refine s_iload_n (i := 2) (by decide +kernel) rfl (pn 22 rfl ?_)
    refine s_i2l (by decide +kernel) (pn 23 rfl ?_)
    refine t_lconst (n := 0) (v := 0) (by decide +kernel) rfl (pn 24 rfl ?_)
    refine s_aload_n (i := 0) (by decide +kernel) rfl (pn 25 rfl ?_)
    refine s_getfield (v := .ref 183) (by decide +kernel) fr_12_91 lq_159 (congrArg Prod.fst sh_159) (fv_ref pf_159_40) (pn 28 rfl ?_)
    refine s_iload_n (i := 1) (by decide +kernel) rfl (pn 29 rfl ?_)
    obtain ⟨b1, h⟩ := h
    refine t_iaload (v := M1.1 183 x1.toNatClampNeg) (by decide +kernel) ⟨Or.inl lq_183, congrArg Prod.fst sh_183⟩ (al_in sh_183 b1) rfl (pn 30 rfl ?_)
    refine t_iconst (by decide +kernel) ki_1 (pn 31 rfl ?_)
    refine s_isub (by decide +kernel) (pn 32 rfl ?_)
    refine s_i2l (by decide +kernel) (pn 33 rfl ?_)
    refine s_callsI [.long (x2.toInt64), .long 0, .long (((M1.1 183 x1.toNatClampNeg) - 1).toInt64)] rfl (by decide +kernel) ms_12_163 np_188 (Nat.le_of_ble_eq_true rfl) (cI_use h (fun r2 s2 M2 h => (pn 36 rfl ?_)))
    refine t_if_ne (off := 7) (tgt := 43) (by decide +kernel) rfl (fun c2 => ?_) (fun c2 => (pn 39 rfl ?_))
    · have h := h.2 c2
      refine s_aload_n (i := 0) (by decide +kernel) rfl (pn 44 rfl ?_)
      refine s_getfield (v := .ref 184) (by decide +kernel) fr_12_94 lq_159 (congrArg Prod.fst sh_159) (fv_ref pf_159_41) (pn 47 rfl ?_)
      refine t_bipush (by decide +kernel) kb_40 (pn 49 rfl ?_)
      refine s_iload_n (i := 1) (by decide +kernel) rfl (pn 50 rfl ?_)
      refine s_imul (by decide +kernel) (pn 51 rfl ?_)
      refine s_iload_n (i := 2) (by decide +kernel) rfl (pn 52 rfl ?_)
      refine s_iadd (by decide +kernel) (pn 53 rfl ?_)
      refine s_lload_n (i := 3) (by decide +kernel) rfl (pn 54 rfl ?_)
      refine s_aload_n (i := 0) (by decide +kernel) rfl (pn 55 rfl ?_)
      refine s_getfield (v := .ref 182) (by decide +kernel) fr_12_88 lq_159 (congrArg Prod.fst sh_159) (fv_ref pf_159_39) (pn 58 rfl ?_)
      refine s_iload_n (i := 1) (by decide +kernel) rfl (pn 59 rfl ?_)
      obtain ⟨b2, h⟩ := h
      refine t_iaload (v := M2.1 182 x1.toNatClampNeg) (by decide +kernel) ⟨Or.inl lq_182, congrArg Prod.fst sh_182⟩ (al_in sh_182 b2) rfl (pn 60 rfl ?_)
      refine s_callsL [.long x3, .int (M2.1 182 x1.toNatClampNeg)] rfl (by decide +kernel) ms_12_482 np_316 (Nat.le_of_ble_eq_true rfl) (cL_use h (fun r3 s3 M3 h => (pn 63 rfl ?_)))
      obtain ⟨b3, h⟩ := h
      refine t_lastore (k := (((40 : Int32) * x1) + x2).toNatClampNeg) (by decide +kernel) ⟨lq_184, congrArg Prod.fst sh_184⟩ (al_in sh_184 b3) rfl (pn 64 rfl ?_)
      refine s_aload_n (i := 0) (by decide +kernel) rfl (pn 65 rfl ?_)
      refine s_getfield (v := .ref 184) (by decide +kernel) fr_12_94 lq_159 (congrArg Prod.fst sh_159) (fv_ref pf_159_41) (pn 68 rfl ?_)
      refine t_bipush (by decide +kernel) kb_40 (pn 70 rfl ?_)
      refine s_iload_n (i := 1) (by decide +kernel) rfl (pn 71 rfl ?_)
      refine s_imul (by decide +kernel) (pn 72 rfl ?_)
      refine s_iload_n (i := 2) (by decide +kernel) rfl (pn 73 rfl ?_)
      refine s_iadd (by decide +kernel) (pn 74 rfl ?_)
      obtain ⟨b4, h⟩ := h
      refine t_laload (v := (pm_sj M3 184 (((40 : Int32) * x1) + x2).toNatClampNeg r3).2 184 (((40 : Int32) * x1) + x2).toNatClampNeg) (by decide +kernel) ⟨lq_184, congrArg Prod.fst sh_184⟩ (al_in sh_184 b4) rfl (pn 75 rfl ?_)
      exact s_lreturn (st := []) (by decide +kernel) rfl ⟨_, rfl, s3, rfl, h⟩
    · have h := h.1 c2
      refine s_ldc2_w (by decide +kernel) kl_12_480 (pn 42 rfl ?_)
      exact s_lreturn (st := []) (by decide +kernel) rfl ⟨_, rfl, s2, rfl, h⟩
  · have h := h.2 c1
    refine s_iload (i := 5) (by decide +kernel) rfl (pn 19 rfl ?_)
    refine s_i2l (by decide +kernel) (pn 20 rfl ?_)
    exact s_lreturn (st := []) (by decide +kernel) rfl ⟨_, rfl, s1, rfl, h⟩
abbrev wM_cut (d pc : Nat) (ls st : List Value) (s : pm_S) (M : pm_M) (Q : Int64 → pm_S → pm_M → Prop) : Prop := wL d prog_14_method_132_code 12 (some .long) false pc ls st s M Q
theorem enM_cut {d : Nat} {s : pm_S} {M : pm_M} {x1 : Int64} {x2 : Int32} {Q : Int64 → pm_S → pm_M → Prop}  (h : Q ((if x2 = 0 then (((x1.toInt32).toInt8.toInt32).toInt64) else (if x2 = 1 then (((x1.toInt32).toInt16.toInt32).toInt64) else (if x2 = 2 then ((x1.toInt32).toInt64) else x1))) : Int64) s M) : cL (d + 1) yM_cut [.long x1, .int x2] s M Q := by
  refine pm_toL (by decide) (Nat.le_of_ble_eq_true rfl) ?_
  show wM_cut d 0 [.long x1, .null, .int x2] [] s M Q
  refine s_iload_n (i := 2) (by decide +kernel) rfl (pn 1 rfl ?_)
  have k1 : ∀ (z1 : Int64) (z1e : z1 = ((if x2 = 0 then (((x1.toInt32).toInt8.toInt32).toInt64) else (if x2 = 1 then (((x1.toInt32).toInt16.toInt32).toInt64) else (if x2 = 2 then ((x1.toInt32).toInt64) else x1))) : Int64)), wM_cut d 35 [.long x1, .null, .int x2] [.long z1] s M Q := by
    intro z1 z1e
    subst z1e
    exact s_lreturn (st := []) (by decide +kernel) rfl ⟨_, rfl, s, rfl, h⟩
  refine t_if_ne (off := 10) (tgt := 11) (by decide +kernel) rfl (fun c1 => ?_) (fun c1 => (pn 4 rfl ?_))
  · refine s_iload_n (i := 2) (by decide +kernel) rfl (pn 12 rfl ?_)
    refine t_iconst (by decide +kernel) ki_1 (pn 13 rfl ?_)
    refine t_icmp_ne (off := 10) (tgt := 23) (by decide +kernel) rfl (fun c2 => ?_) (fun c2 => (pn 16 rfl ?_))
    · refine s_iload_n (i := 2) (by decide +kernel) rfl (pn 24 rfl ?_)
      refine t_iconst (by decide +kernel) ki_2 (pn 25 rfl ?_)
      refine t_icmp_ne (off := 9) (tgt := 34) (by decide +kernel) rfl (fun c3 => ?_) (fun c3 => (pn 28 rfl ?_))
      · refine s_lload_n (i := 0) (by decide +kernel) rfl (pn 35 rfl ?_)
        exact k1 _ (by simp only [if_neg c1, if_neg c2, if_neg c3])
      · refine s_lload_n (i := 0) (by decide +kernel) rfl (pn 29 rfl ?_)
        refine s_l2i (by decide +kernel) (pn 30 rfl ?_)
        refine s_i2l (by decide +kernel) (pn 31 rfl ?_)
        refine s_goto (off := 4) (tgt := 35) (by decide +kernel) rfl ?_
        exact k1 _ (by simp only [if_neg c1, if_neg c2, if_pos c3])
    · refine s_lload_n (i := 0) (by decide +kernel) rfl (pn 17 rfl ?_)
      refine s_l2i (by decide +kernel) (pn 18 rfl ?_)
      refine s_i2s (by decide +kernel) (pn 19 rfl ?_)
      refine s_i2l (by decide +kernel) (pn 20 rfl ?_)
      refine s_goto (off := 15) (tgt := 35) (by decide +kernel) rfl ?_
      exact k1 _ (by simp only [if_neg c1, if_pos c2])
  · refine s_lload_n (i := 0) (by decide +kernel) rfl (pn 5 rfl ?_)
    refine s_l2i (by decide +kernel) (pn 6 rfl ?_)
    refine s_i2b (by decide +kernel) (pn 7 rfl ?_)
    refine s_i2l (by decide +kernel) (pn 8 rfl ?_)
    refine s_goto (off := 27) (tgt := 35) (by decide +kernel) rfl ?_
    exact k1 _ (by simp only [if_pos c1])
abbrev wM_lists (d pc : Nat) (ls st : List Value) (s : pm_S) (M : pm_M) (Q : Int32 → pm_S → pm_M → Prop) : Prop := wI d prog_14_method_135_code 12 (some .int) false pc ls st s M Q
theorem enM_lists {d : Nat} {s : pm_S} {M : pm_M} {x1 : Int32} {x2 : Int32} {x3 : Int32} {Q : Int32 → pm_S → pm_M → Prop}  (h : cI d yM_within [.long (x1.toInt64), .long 0, .long 3] s (pm_si M 159 0 0) (fun r1 s1 M1 => (((r1 = 0) → Q (-2) s1 M1) ∧ (¬ (r1 = 0) → cI d yM_isPerson [.ref 159, .long (x2.toInt64)] s1 M1 (fun r2 s2 M2 => ((r2 = 0 → Q (-2) s2 M2) ∧ (¬ (r2 = 0) → cI d yM_noTray [.ref 159, .int x1] s2 M2 (fun r3 s3 M3 => (((r3 = 0) → cI d yM_isSet [.ref 159, .int x3] s3 M3 (fun r4 s4 M4 => ((r4 = 0 → Q (-3) s4 M4) ∧ (¬ (r4 = 0) → cI d yM_laysOpening [.ref 159, .int x2, .int x3] s4 M4 (fun r5 s5 M5 => ((r5 = (-1) → Q (-5) s5 M5) ∧ (¬ (r5 = (-1)) → cI d yM_bitsOf [.int x3] s5 M5 (fun r6 s6 M6 => vp_in x1 4 ∧ ((((M6.1 183 x1.toNatClampNeg) ≤ r6) → vp_in x1 4 ∧ wM_lists d 99 [.ref 159, .int x1, .null, .null, .null, .int (M6.1 183 x1.toNatClampNeg), .int 0] [] s6 M6 Q) ∧ (¬ ((M6.1 183 x1.toNatClampNeg) ≤ r6) → cI d yM_bitsOf [.int x3] s6 M6 (fun r7 s7 M7 => wM_lists d 99 [.ref 159, .int x1, .null, .null, .null, .int r7, .int 0] [] s7 M7 Q))))))))))) ∧ (¬ (r3 = 0) → Q r3 s3 M3)))))))))) : cI (d + 1) yM_lists [.ref 159, .int x1, .int x2, .int x3] s M Q := by
  refine pm_toI (by decide) (Nat.le_of_ble_eq_true rfl) ?_
  show wM_lists d 0 [.ref 159, .int x1, .int x2, .int x3, .null, .null, .null] [] s M Q
  refine s_aload_n (i := 0) (by decide +kernel) rfl (pn 1 rfl ?_)
  refine t_iconst (by decide +kernel) ki_0 (pn 2 rfl ?_)
  refine s_putfieldI (by decide +kernel) fr_12_1 lq_159 (congrArg Prod.fst sh_159) (fun q => by cases q) (Or.inl rfl) (pn 5 rfl ?_)
  refine s_iload_n (i := 1) (by decide +kernel) rfl (pn 6 rfl ?_)
  refine s_i2l (by decide +kernel) (pn 7 rfl ?_)
  refine t_lconst (n := 0) (v := 0) (by decide +kernel) rfl (pn 8 rfl ?_)
  refine s_ldc2_w (by decide +kernel) kl_12_347 (pn 11 rfl ?_)
  refine s_callsI [.long (x1.toInt64), .long 0, .long 3] rfl (by decide +kernel) ms_12_163 np_188 (Nat.le_of_ble_eq_true rfl) (cI_use h (fun r1 s1 M1 h => (pn 14 rfl ?_)))
  refine s_if_eq (off := 12) (tgt := 26) (by decide +kernel) rfl (fun c1 => ?_) (fun c1 => (pn 17 rfl ?_))
  · have h := h.1 c1
    refine t_bipush (by decide +kernel) kb_m2 (pn 28 rfl ?_)
    exact s_ireturn (st := []) (by decide +kernel) (Or.inl rfl) ⟨_, rfl, s1, rfl, h⟩
  · have h := h.2 c1
    refine s_aload_n (i := 0) (by decide +kernel) rfl (pn 18 rfl ?_)
    refine s_iload_n (i := 2) (by decide +kernel) rfl (pn 19 rfl ?_)
    refine s_i2l (by decide +kernel) (pn 20 rfl ?_)
    refine s_callvI [.long (x2.toInt64)] rfl (by decide +kernel) mv_12_231 np_219 (Nat.le_of_ble_eq_true rfl) lq_159 ((congrArg Prod.fst sh_159).trans oc_219) (cI_use h (fun r2 s2 M2 h => (pn 23 rfl ?_)))
    refine t_if_ne (off := 6) (tgt := 29) (by decide +kernel) rfl (fun c2 => ?_) (fun c2 => (pn 26 rfl ?_))
    · have h := h.2 c2
      refine s_aload_n (i := 0) (by decide +kernel) rfl (pn 30 rfl ?_)
      refine s_iload_n (i := 1) (by decide +kernel) rfl (pn 31 rfl ?_)
      refine s_callvI [.int x1] rfl (by decide +kernel) mv_12_349 np_253 (Nat.le_of_ble_eq_true rfl) lq_159 ((congrArg Prod.fst sh_159).trans oc_253) (cI_use h (fun r3 s3 M3 h => (pn 34 rfl ?_)))
      refine s_istore (i := 4) (by decide +kernel) (Nat.le_of_ble_eq_true rfl) (pn 36 rfl (t_store (ls' := [.ref 159, .int x1, .int x2, .int x3, .int r3, .null, .null]) rfl ?_))
      refine s_iload (i := 4) (by decide +kernel) rfl (pn 38 rfl ?_)
      refine s_if_eq (off := 6) (tgt := 44) (by decide +kernel) rfl (fun c3 => ?_) (fun c3 => (pn 41 rfl ?_))
      · have h := h.1 c3
        refine s_aload_n (i := 0) (by decide +kernel) rfl (pn 45 rfl ?_)
        refine s_iload_n (i := 3) (by decide +kernel) rfl (pn 46 rfl ?_)
        refine s_callvI [.int x3] rfl (by decide +kernel) mv_12_435 np_291 (Nat.le_of_ble_eq_true rfl) lq_159 ((congrArg Prod.fst sh_159).trans oc_291) (cI_use h (fun r4 s4 M4 h => (pn 49 rfl ?_)))
        refine t_if_ne (off := 6) (tgt := 55) (by decide +kernel) rfl (fun c4 => ?_) (fun c4 => (pn 52 rfl ?_))
        · have h := h.2 c4
          refine s_aload_n (i := 0) (by decide +kernel) rfl (pn 56 rfl ?_)
          refine s_iload_n (i := 2) (by decide +kernel) rfl (pn 57 rfl ?_)
          refine s_iload_n (i := 3) (by decide +kernel) rfl (pn 58 rfl ?_)
          refine s_callvI [.int x2, .int x3] rfl (by decide +kernel) mv_12_438 np_292 (Nat.le_of_ble_eq_true rfl) lq_159 ((congrArg Prod.fst sh_159).trans oc_292) (cI_use h (fun r5 s5 M5 h => (pn 61 rfl ?_)))
          refine t_iconst (by decide +kernel) ki_m1 (pn 62 rfl ?_)
          refine t_icmp_ne (off := 6) (tgt := 68) (by decide +kernel) rfl (fun c5 => ?_) (fun c5 => (pn 65 rfl ?_))
          · have h := h.2 c5
            refine s_iload_n (i := 3) (by decide +kernel) rfl (pn 69 rfl ?_)
            refine s_callsI [.int x3] rfl (by decide +kernel) ms_12_297 np_237 (Nat.le_of_ble_eq_true rfl) (cI_use h (fun r6 s6 M6 h => (pn 72 rfl ?_)))
            refine s_aload_n (i := 0) (by decide +kernel) rfl (pn 73 rfl ?_)
            refine s_getfield (v := .ref 183) (by decide +kernel) fr_12_91 lq_159 (congrArg Prod.fst sh_159) (fv_ref pf_159_40) (pn 76 rfl ?_)
            refine s_iload_n (i := 1) (by decide +kernel) rfl (pn 77 rfl ?_)
            obtain ⟨b1, h⟩ := h
            refine t_iaload (v := M6.1 183 x1.toNatClampNeg) (by decide +kernel) ⟨Or.inl lq_183, congrArg Prod.fst sh_183⟩ (al_in sh_183 b1) rfl (pn 78 rfl ?_)
            refine s_icmp_ge (off := 10) (tgt := 88) (by decide +kernel) rfl (fun c6 => ?_) (fun c6 => (pn 81 rfl ?_))
            · have h := h.1 c6
              refine s_aload_n (i := 0) (by decide +kernel) rfl (pn 89 rfl ?_)
              refine s_getfield (v := .ref 183) (by decide +kernel) fr_12_91 lq_159 (congrArg Prod.fst sh_159) (fv_ref pf_159_40) (pn 92 rfl ?_)
              refine s_iload_n (i := 1) (by decide +kernel) rfl (pn 93 rfl ?_)
              obtain ⟨b2, h⟩ := h
              refine t_iaload (v := M6.1 183 x1.toNatClampNeg) (by decide +kernel) ⟨Or.inl lq_183, congrArg Prod.fst sh_183⟩ (al_in sh_183 b2) rfl (pn 94 rfl ?_)
              refine s_istore (i := 5) (by decide +kernel) (Nat.le_of_ble_eq_true rfl) (pn 96 rfl (t_store (ls' := [.ref 159, .int x1, .int x2, .int x3, .int r3, .int (M6.1 183 x1.toNatClampNeg), .null]) rfl ?_))
              refine t_iconst (by decide +kernel) ki_0 (pn 97 rfl ?_)
              refine s_istore (i := 6) (by decide +kernel) (Nat.le_of_ble_eq_true rfl) (pn 99 rfl (t_store (ls' := [.ref 159, .int x1, .int x2, .int x3, .int r3, .int (M6.1 183 x1.toNatClampNeg), .int 0]) rfl ?_))
              exact pm_weak [.ref 159, .int x1, .null, .null, .null, .int (M6.1 183 x1.toNatClampNeg), .int 0] (pm_le_cons (Or.inr rfl) (pm_le_cons (Or.inr rfl) (pm_le_cons (Or.inl rfl) (pm_le_cons (Or.inl rfl) (pm_le_cons (Or.inl rfl) (pm_le_cons (Or.inr rfl) (pm_le_cons (Or.inr rfl) pm_le_nil))))))) h
            · have h := h.2 c6
              refine s_iload_n (i := 3) (by decide +kernel) rfl (pn 82 rfl ?_)
              refine s_callsI [.int x3] rfl (by decide +kernel) ms_12_297 np_237 (Nat.le_of_ble_eq_true rfl) (cI_use h (fun r7 s7 M7 h => (pn 85 rfl ?_)))
              refine s_goto (off := 9) (tgt := 94) (by decide +kernel) rfl ?_
              refine s_istore (i := 5) (by decide +kernel) (Nat.le_of_ble_eq_true rfl) (pn 96 rfl (t_store (ls' := [.ref 159, .int x1, .int x2, .int x3, .int r3, .int r7, .null]) rfl ?_))
              refine t_iconst (by decide +kernel) ki_0 (pn 97 rfl ?_)
              refine s_istore (i := 6) (by decide +kernel) (Nat.le_of_ble_eq_true rfl) (pn 99 rfl (t_store (ls' := [.ref 159, .int x1, .int x2, .int x3, .int r3, .int r7, .int 0]) rfl ?_))
              exact pm_weak [.ref 159, .int x1, .null, .null, .null, .int r7, .int 0] (pm_le_cons (Or.inr rfl) (pm_le_cons (Or.inr rfl) (pm_le_cons (Or.inl rfl) (pm_le_cons (Or.inl rfl) (pm_le_cons (Or.inl rfl) (pm_le_cons (Or.inr rfl) (pm_le_cons (Or.inr rfl) pm_le_nil))))))) h
          · have h := h.1 c5
            refine t_bipush (by decide +kernel) kb_m5 (pn 67 rfl ?_)
            exact s_ireturn (st := []) (by decide +kernel) (Or.inl rfl) ⟨_, rfl, s5, rfl, h⟩
        · have h := h.1 c4
          refine t_bipush (by decide +kernel) kb_m3 (pn 54 rfl ?_)
          exact s_ireturn (st := []) (by decide +kernel) (Or.inl rfl) ⟨_, rfl, s4, rfl, h⟩
      · have h := h.2 c3
        refine s_iload (i := 4) (by decide +kernel) rfl (pn 43 rfl ?_)
        exact s_ireturn (st := []) (by decide +kernel) (Or.inl rfl) ⟨_, rfl, s3, rfl, h⟩
    · have h := h.1 c2
      refine t_bipush (by decide +kernel) kb_m2 (pn 28 rfl ?_)
      exact s_ireturn (st := []) (by decide +kernel) (Or.inl rfl) ⟨_, rfl, s2, rfl, h⟩
theorem sgM_lists_99 {d : Nat} {s : pm_S} {M : pm_M} {l1 : Int32} {l5 : Int32} {l6 : Int32} {Q : Int32 → pm_S → pm_M → Prop}  (h : (((l5 ≤ l6) → Q l5 s M) ∧ (¬ (l5 ≤ l6) → vp_in l6 8 ∧ vp_in (((40 : Int32) * l1) + l6) 160 ∧ wM_lists d 99 [.ref 159, .int l1, .null, .null, .null, .int l5, .int (l6 + 1)] [] s (pm_sj M 184 (((40 : Int32) * l1) + l6).toNatClampNeg ((M.1 177 l6.toNatClampNeg).toInt64)) Q))) : wM_lists d 99 [.ref 159, .int l1, .null, .null, .null, .int l5, .int l6] [] s M Q := by
  refine s_iload (i := 6) (by decide +kernel) rfl (pn 101 rfl ?_)
  refine s_iload (i := 5) (by decide +kernel) rfl (pn 103 rfl ?_)
  refine s_icmp_ge (off := 29) (tgt := 132) (by decide +kernel) rfl (fun c1 => ?_) (fun c1 => (pn 106 rfl ?_))
  · have h := h.1 c1
    refine s_iload (i := 5) (by decide +kernel) rfl (pn 134 rfl ?_)
    exact s_ireturn (st := []) (by decide +kernel) (Or.inl rfl) ⟨_, rfl, s, rfl, h⟩
  · have h := h.2 c1
    refine s_aload_n (i := 0) (by decide +kernel) rfl (pn 107 rfl ?_)
    refine s_getfield (v := .ref 184) (by decide +kernel) fr_12_94 lq_159 (congrArg Prod.fst sh_159) (fv_ref pf_159_41) (pn 110 rfl ?_)
    refine t_bipush (by decide +kernel) kb_40 (pn 112 rfl ?_)
    refine s_iload_n (i := 1) (by decide +kernel) rfl (pn 113 rfl ?_)
    refine s_imul (by decide +kernel) (pn 114 rfl ?_)
    refine s_iload (i := 6) (by decide +kernel) rfl (pn 116 rfl ?_)
    refine s_iadd (by decide +kernel) (pn 117 rfl ?_)
    refine s_aload_n (i := 0) (by decide +kernel) rfl (pn 118 rfl ?_)
    refine s_getfield (v := .ref 177) (by decide +kernel) fr_12_72 lq_159 (congrArg Prod.fst sh_159) (fv_ref pf_159_33) (pn 121 rfl ?_)
    refine s_iload (i := 6) (by decide +kernel) rfl (pn 123 rfl ?_)
    obtain ⟨b1, h⟩ := h
    refine t_iaload (v := M.1 177 l6.toNatClampNeg) (by decide +kernel) ⟨Or.inl lq_177, congrArg Prod.fst sh_177⟩ (al_in sh_177 b1) rfl (pn 124 rfl ?_)
    refine s_i2l (by decide +kernel) (pn 125 rfl ?_)
    obtain ⟨b2, h⟩ := h
    refine t_lastore (k := (((40 : Int32) * l1) + l6).toNatClampNeg) (by decide +kernel) ⟨lq_184, congrArg Prod.fst sh_184⟩ (al_in sh_184 b2) rfl (pn 126 rfl ?_)
    refine t_iinc (i := 6) (n := 1) (ls' := [.ref 159, .int l1, .null, .null, .null, .int l5, .int (l6 + 1)]) (by decide +kernel) rfl (Nat.le_of_ble_eq_true rfl) kn_1 rfl (pn 129 rfl ?_)
    refine s_goto (off := -30) (tgt := 99) (by decide +kernel) rfl ?_
    exact h
abbrev wM_image (d pc : Nat) (ls st : List Value) (s : pm_S) (M : pm_M) (Q : Int32 → pm_S → pm_M → Prop) : Prop := wI d prog_14_method_136_code 12 (some .int) false pc ls st s M Q
theorem enM_image {d : Nat} {s : pm_S} {M : pm_M} {x1 : Int32} {Q : Int32 → pm_S → pm_M → Prop}  (h : cI d yM_within [.long (x1.toInt64), .long 0, .long 1] s (pm_si M 159 0 0) (fun r1 s1 M1 => ((r1 = 0 → Q (-2) s1 M1) ∧ (¬ (r1 = 0) → wM_image d 20 [.ref 159, .int x1, .int 0] [] s1 M1 Q)))) : cI (d + 1) yM_image [.ref 159, .int x1] s M Q := by
  refine pm_toI (by decide) (Nat.le_of_ble_eq_true rfl) ?_
  show wM_image d 0 [.ref 159, .int x1, .null] [] s M Q
  refine s_aload_n (i := 0) (by decide +kernel) rfl (pn 1 rfl ?_)
  refine t_iconst (by decide +kernel) ki_0 (pn 2 rfl ?_)
  refine s_putfieldI (by decide +kernel) fr_12_1 lq_159 (congrArg Prod.fst sh_159) (fun q => by cases q) (Or.inl rfl) (pn 5 rfl ?_)
  refine s_iload_n (i := 1) (by decide +kernel) rfl (pn 6 rfl ?_)
  refine s_i2l (by decide +kernel) (pn 7 rfl ?_)
  refine t_lconst (n := 0) (v := 0) (by decide +kernel) rfl (pn 8 rfl ?_)
  refine t_lconst (n := 1) (v := 1) (by decide +kernel) rfl (pn 9 rfl ?_)
  refine s_callsI [.long (x1.toInt64), .long 0, .long 1] rfl (by decide +kernel) ms_12_163 np_188 (Nat.le_of_ble_eq_true rfl) (cI_use h (fun r1 s1 M1 h => (pn 12 rfl ?_)))
  refine t_if_ne (off := 6) (tgt := 18) (by decide +kernel) rfl (fun c1 => ?_) (fun c1 => (pn 15 rfl ?_))
  · have h := h.2 c1
    refine t_iconst (by decide +kernel) ki_0 (pn 19 rfl ?_)
    refine s_istore_n (i := 2) (by decide +kernel) (Nat.le_of_ble_eq_true rfl) (pn 20 rfl (t_store (ls' := [.ref 159, .int x1, .int 0]) rfl ?_))
    exact h
  · have h := h.1 c1
    refine t_bipush (by decide +kernel) kb_m2 (pn 17 rfl ?_)
    exact s_ireturn (st := []) (by decide +kernel) (Or.inl rfl) ⟨_, rfl, s1, rfl, h⟩
theorem sgM_image_20 {d : Nat} {s : pm_S} {M : pm_M} {l1 : Int32} {l2 : Int32} {Q : Int32 → pm_S → pm_M → Prop}  (h : (((1290 ≤ l2) → vp_in l1 2 ∧ Q 0 s (pm_si M 161 l1.toNatClampNeg 1)) ∧ (¬ (1290 ≤ l2) → vp_in l2 3870 ∧ vp_in (((1290 : Int32) * (l1 + 1)) + l2) 3870 ∧ wM_image d 20 [.ref 159, .int l1, .int (l2 + 1)] [] s (pm_si M 160 (((1290 : Int32) * (l1 + 1)) + l2).toNatClampNeg (M.1 160 l2.toNatClampNeg)) Q))) : wM_image d 20 [.ref 159, .int l1, .int l2] [] s M Q := by
  refine s_iload_n (i := 2) (by decide +kernel) rfl (pn 21 rfl ?_)
  refine t_sipush (by decide +kernel) ks_1290 (pn 24 rfl ?_)
  refine s_icmp_ge (off := 29) (tgt := 53) (by decide +kernel) rfl (fun c1 => ?_) (fun c1 => (pn 27 rfl ?_))
  · have h := h.1 c1
    refine s_aload_n (i := 0) (by decide +kernel) rfl (pn 54 rfl ?_)
    refine s_getfield (v := .ref 161) (by decide +kernel) fr_12_17 lq_159 (congrArg Prod.fst sh_159) (fv_ref pf_159_2) (pn 57 rfl ?_)
    refine s_iload_n (i := 1) (by decide +kernel) rfl (pn 58 rfl ?_)
    refine t_iconst (by decide +kernel) ki_1 (pn 59 rfl ?_)
    obtain ⟨b1, h⟩ := h
    refine t_bastore (k := l1.toNatClampNeg) (by decide +kernel) ⟨lq_161, congrArg Prod.fst sh_161⟩ (al_in sh_161 b1) rfl (Or.inr rfl) (pn 60 rfl ?_)
    refine t_iconst (by decide +kernel) ki_0 (pn 61 rfl ?_)
    exact s_ireturn (st := []) (by decide +kernel) (Or.inl rfl) ⟨_, rfl, s, rfl, h⟩
  · have h := h.2 c1
    refine s_aload_n (i := 0) (by decide +kernel) rfl (pn 28 rfl ?_)
    refine s_getfield (v := .ref 160) (by decide +kernel) fr_12_13 lq_159 (congrArg Prod.fst sh_159) (fv_ref pf_159_1) (pn 31 rfl ?_)
    refine t_sipush (by decide +kernel) ks_1290 (pn 34 rfl ?_)
    refine s_iload_n (i := 1) (by decide +kernel) rfl (pn 35 rfl ?_)
    refine t_iconst (by decide +kernel) ki_1 (pn 36 rfl ?_)
    refine s_iadd (by decide +kernel) (pn 37 rfl ?_)
    refine s_imul (by decide +kernel) (pn 38 rfl ?_)
    refine s_iload_n (i := 2) (by decide +kernel) rfl (pn 39 rfl ?_)
    refine s_iadd (by decide +kernel) (pn 40 rfl ?_)
    refine s_aload_n (i := 0) (by decide +kernel) rfl (pn 41 rfl ?_)
    refine s_getfield (v := .ref 160) (by decide +kernel) fr_12_13 lq_159 (congrArg Prod.fst sh_159) (fv_ref pf_159_1) (pn 44 rfl ?_)
    refine s_iload_n (i := 2) (by decide +kernel) rfl (pn 45 rfl ?_)
    obtain ⟨b2, h⟩ := h
    refine t_iaload (v := M.1 160 l2.toNatClampNeg) (by decide +kernel) ⟨Or.inl lq_160, congrArg Prod.fst sh_160⟩ (al_in sh_160 b2) rfl (pn 46 rfl ?_)
    obtain ⟨b3, h⟩ := h
    refine t_iastore (k := (((1290 : Int32) * (l1 + 1)) + l2).toNatClampNeg) (by decide +kernel) ⟨lq_160, congrArg Prod.fst sh_160⟩ (al_in sh_160 b3) rfl (pn 47 rfl ?_)
    refine t_iinc (i := 2) (n := 1) (ls' := [.ref 159, .int l1, .int (l2 + 1)]) (by decide +kernel) rfl (Nat.le_of_ble_eq_true rfl) kn_1 rfl (pn 50 rfl ?_)
    refine s_goto (off := -30) (tgt := 20) (by decide +kernel) rfl ?_
    exact h
abbrev wM_restore (d pc : Nat) (ls st : List Value) (s : pm_S) (M : pm_M) (Q : Int32 → pm_S → pm_M → Prop) : Prop := wI d prog_14_method_137_code 12 (some .int) false pc ls st s M Q
theorem enM_restore {d : Nat} {s : pm_S} {M : pm_M} {x1 : Int32} {Q : Int32 → pm_S → pm_M → Prop}  (h : cI d yM_within [.long (x1.toInt64), .long 0, .long 1] s (pm_si M 159 0 0) (fun r1 s1 M1 => ((r1 = 0 → Q (-2) s1 M1) ∧ (¬ (r1 = 0) → vp_in x1 2 ∧ (((M1.1 161 x1.toNatClampNeg) = 0 → Q (-5) s1 M1) ∧ (¬ ((M1.1 161 x1.toNatClampNeg) = 0) → wM_restore d 32 [.ref 159, .int x1, .int 0] [] s1 M1 Q)))))) : cI (d + 1) yM_restore [.ref 159, .int x1] s M Q := by
  refine pm_toI (by decide) (Nat.le_of_ble_eq_true rfl) ?_
  show wM_restore d 0 [.ref 159, .int x1, .null] [] s M Q
  refine s_aload_n (i := 0) (by decide +kernel) rfl (pn 1 rfl ?_)
  refine t_iconst (by decide +kernel) ki_0 (pn 2 rfl ?_)
  refine s_putfieldI (by decide +kernel) fr_12_1 lq_159 (congrArg Prod.fst sh_159) (fun q => by cases q) (Or.inl rfl) (pn 5 rfl ?_)
  refine s_iload_n (i := 1) (by decide +kernel) rfl (pn 6 rfl ?_)
  refine s_i2l (by decide +kernel) (pn 7 rfl ?_)
  refine t_lconst (n := 0) (v := 0) (by decide +kernel) rfl (pn 8 rfl ?_)
  refine t_lconst (n := 1) (v := 1) (by decide +kernel) rfl (pn 9 rfl ?_)
  refine s_callsI [.long (x1.toInt64), .long 0, .long 1] rfl (by decide +kernel) ms_12_163 np_188 (Nat.le_of_ble_eq_true rfl) (cI_use h (fun r1 s1 M1 h => (pn 12 rfl ?_)))
  refine t_if_ne (off := 6) (tgt := 18) (by decide +kernel) rfl (fun c1 => ?_) (fun c1 => (pn 15 rfl ?_))
  · have h := h.2 c1
    refine s_aload_n (i := 0) (by decide +kernel) rfl (pn 19 rfl ?_)
    refine s_getfield (v := .ref 161) (by decide +kernel) fr_12_17 lq_159 (congrArg Prod.fst sh_159) (fv_ref pf_159_2) (pn 22 rfl ?_)
    refine s_iload_n (i := 1) (by decide +kernel) rfl (pn 23 rfl ?_)
    obtain ⟨b1, h⟩ := h
    refine t_baload (v := M1.1 161 x1.toNatClampNeg) (by decide +kernel) ⟨lq_161, congrArg Prod.fst sh_161⟩ (al_in sh_161 b1) rfl (pn 24 rfl ?_)
    refine t_if_ne (off := 6) (tgt := 30) (by decide +kernel) rfl (fun c2 => ?_) (fun c2 => (pn 27 rfl ?_))
    · have h := h.2 c2
      refine t_iconst (by decide +kernel) ki_0 (pn 31 rfl ?_)
      refine s_istore_n (i := 2) (by decide +kernel) (Nat.le_of_ble_eq_true rfl) (pn 32 rfl (t_store (ls' := [.ref 159, .int x1, .int 0]) rfl ?_))
      exact h
    · have h := h.1 c2
      refine t_bipush (by decide +kernel) kb_m5 (pn 29 rfl ?_)
      exact s_ireturn (st := []) (by decide +kernel) (Or.inl rfl) ⟨_, rfl, s1, rfl, h⟩
  · have h := h.1 c1
    refine t_bipush (by decide +kernel) kb_m2 (pn 17 rfl ?_)
    exact s_ireturn (st := []) (by decide +kernel) (Or.inl rfl) ⟨_, rfl, s1, rfl, h⟩
theorem sgM_restore_32 {d : Nat} {s : pm_S} {M : pm_M} {l1 : Int32} {l2 : Int32} {Q : Int32 → pm_S → pm_M → Prop}  (h : (((1290 ≤ l2) → Q 0 s (pm_si M 160 78 0)) ∧ (¬ (1290 ≤ l2) → vp_in (((1290 : Int32) * (l1 + 1)) + l2) 3870 ∧ vp_in l2 3870 ∧ wM_restore d 32 [.ref 159, .int l1, .int (l2 + 1)] [] s (pm_si M 160 l2.toNatClampNeg (M.1 160 (((1290 : Int32) * (l1 + 1)) + l2).toNatClampNeg)) Q))) : wM_restore d 32 [.ref 159, .int l1, .int l2] [] s M Q := by
  refine s_iload_n (i := 2) (by decide +kernel) rfl (pn 33 rfl ?_)
  refine t_sipush (by decide +kernel) ks_1290 (pn 36 rfl ?_)
  refine s_icmp_ge (off := 29) (tgt := 65) (by decide +kernel) rfl (fun c1 => ?_) (fun c1 => (pn 39 rfl ?_))
  · have h := h.1 c1
    refine s_aload_n (i := 0) (by decide +kernel) rfl (pn 66 rfl ?_)
    refine s_getfield (v := .ref 160) (by decide +kernel) fr_12_13 lq_159 (congrArg Prod.fst sh_159) (fv_ref pf_159_1) (pn 69 rfl ?_)
    refine t_bipush (by decide +kernel) kb_78 (pn 71 rfl ?_)
    refine t_iconst (by decide +kernel) ki_0 (pn 72 rfl ?_)
    refine t_iastore (k := 78) (by decide +kernel) ⟨lq_160, congrArg Prod.fst sh_160⟩ (al_in sh_160 (vp_lit (n := 3870) tn_78 (by decide) (by decide))) tn_78 (pn 73 rfl ?_)
    refine t_iconst (by decide +kernel) ki_0 (pn 74 rfl ?_)
    exact s_ireturn (st := []) (by decide +kernel) (Or.inl rfl) ⟨_, rfl, s, rfl, h⟩
  · have h := h.2 c1
    refine s_aload_n (i := 0) (by decide +kernel) rfl (pn 40 rfl ?_)
    refine s_getfield (v := .ref 160) (by decide +kernel) fr_12_13 lq_159 (congrArg Prod.fst sh_159) (fv_ref pf_159_1) (pn 43 rfl ?_)
    refine s_iload_n (i := 2) (by decide +kernel) rfl (pn 44 rfl ?_)
    refine s_aload_n (i := 0) (by decide +kernel) rfl (pn 45 rfl ?_)
    refine s_getfield (v := .ref 160) (by decide +kernel) fr_12_13 lq_159 (congrArg Prod.fst sh_159) (fv_ref pf_159_1) (pn 48 rfl ?_)
    refine t_sipush (by decide +kernel) ks_1290 (pn 51 rfl ?_)
    refine s_iload_n (i := 1) (by decide +kernel) rfl (pn 52 rfl ?_)
    refine t_iconst (by decide +kernel) ki_1 (pn 53 rfl ?_)
    refine s_iadd (by decide +kernel) (pn 54 rfl ?_)
    refine s_imul (by decide +kernel) (pn 55 rfl ?_)
    refine s_iload_n (i := 2) (by decide +kernel) rfl (pn 56 rfl ?_)
    refine s_iadd (by decide +kernel) (pn 57 rfl ?_)
    obtain ⟨b1, h⟩ := h
    refine t_iaload (v := M.1 160 (((1290 : Int32) * (l1 + 1)) + l2).toNatClampNeg) (by decide +kernel) ⟨Or.inl lq_160, congrArg Prod.fst sh_160⟩ (al_in sh_160 b1) rfl (pn 58 rfl ?_)
    obtain ⟨b2, h⟩ := h
    refine t_iastore (k := l2.toNatClampNeg) (by decide +kernel) ⟨lq_160, congrArg Prod.fst sh_160⟩ (al_in sh_160 b2) rfl (pn 59 rfl ?_)
    refine t_iinc (i := 2) (n := 1) (ls' := [.ref 159, .int l1, .int (l2 + 1)]) (by decide +kernel) rfl (Nat.le_of_ble_eq_true rfl) kn_1 rfl (pn 62 rfl ?_)
    refine s_goto (off := -30) (tgt := 32) (by decide +kernel) rfl ?_
    exact h
abbrev wM_count (d pc : Nat) (ls st : List Value) (s : pm_S) (M : pm_M) (Q : Int32 → pm_S → pm_M → Prop) : Prop := wI d prog_14_method_139_code 12 (some .int) false pc ls st s M Q
theorem enM_count {d : Nat} {s : pm_S} {M : pm_M} {x1 : Int32} {Q : Int32 → pm_S → pm_M → Prop}  (h : ((x1 = 0 → Q (M.1 160 1) s (pm_si M 159 0 0)) ∧ (¬ x1 = 0 → ((x1 = 1 → Q (M.1 160 2) s (pm_si M 159 0 0)) ∧ (¬ x1 = 1 → ((x1 = 2 → Q (M.1 160 3) s (pm_si M 159 0 0)) ∧ (¬ x1 = 2 → ((x1 = 3 → cI d yM_officeSet [.ref 159] s (pm_si M 159 0 0) (fun r1 s1 M1 => Q r1 s1 M1)) ∧ (¬ x1 = 3 → ((x1 = 4 → cI d yM_heldSet [.ref 159] s (pm_si M 159 0 0) (fun r2 s2 M2 => Q r2 s2 M2)) ∧ (¬ x1 = 4 → ((x1 = 5 → Q (M.1 160 47) s (pm_si M 159 0 0)) ∧ (¬ x1 = 5 → ((x1 = 6 → Q (M.1 160 48) s (pm_si M 159 0 0)) ∧ (¬ x1 = 6 → ((x1 = 7 → Q (M.1 160 78) s (pm_si M 159 0 0)) ∧ (¬ x1 = 7 → ((x1 = 8 → Q (M.1 159 5) s (pm_si M 159 0 0)) ∧ (¬ x1 = 8 → ((x1 = 9 → Q (M.1 160 0) s (pm_si M 159 0 0)) ∧ (¬ x1 = 9 → Q (-1) s (pm_si M 159 0 0)))))))))))))))))))))) : cI (d + 1) yM_count [.ref 159, .int x1] s M Q := by
  refine pm_toI (by decide) (Nat.le_of_ble_eq_true rfl) ?_
  show wM_count d 0 [.ref 159, .int x1] [] s M Q
  refine s_aload_n (i := 0) (by decide +kernel) rfl (pn 1 rfl ?_)
  refine t_iconst (by decide +kernel) ki_0 (pn 2 rfl ?_)
  refine s_putfieldI (by decide +kernel) fr_12_1 lq_159 (congrArg Prod.fst sh_159) (fun q => by cases q) (Or.inl rfl) (pn 5 rfl ?_)
  refine s_iload_n (i := 1) (by decide +kernel) rfl (pn 6 rfl ?_)
  by_cases c1 : x1 = 0
  · refine s_tableswitch (dflt := 121) (lo := 0) (hi := 9) (offs := #[54, 61, 68, 75, 80, 85, 93, 101, 109, 114]) (len := 54) (tgt := 60) (by decide +kernel) (by rw [c1]; decide) (by rw [c1]; decide) ?_
    have h := h.1 c1
    refine s_aload_n (i := 0) (by decide +kernel) rfl (pn 61 rfl ?_)
    refine s_getfield (v := .ref 160) (by decide +kernel) fr_12_13 lq_159 (congrArg Prod.fst sh_159) (fv_ref pf_159_1) (pn 64 rfl ?_)
    refine t_iconst (by decide +kernel) ki_1 (pn 65 rfl ?_)
    refine t_iaload (v := M.1 160 1) (by decide +kernel) ⟨Or.inl lq_160, congrArg Prod.fst sh_160⟩ (al_in sh_160 (vp_lit (n := 3870) tn_1 (by decide) (by decide))) (by rw [tn_1] <;> rfl) (pn 66 rfl ?_)
    exact s_ireturn (st := []) (by decide +kernel) (Or.inl rfl) ⟨_, rfl, s, rfl, h⟩
  have h := h.2 c1
  by_cases c2 : x1 = 1
  · refine s_tableswitch (dflt := 121) (lo := 0) (hi := 9) (offs := #[54, 61, 68, 75, 80, 85, 93, 101, 109, 114]) (len := 54) (tgt := 67) (by decide +kernel) (by rw [c2]; decide) (by rw [c2]; decide) ?_
    have h := h.1 c2
    refine s_aload_n (i := 0) (by decide +kernel) rfl (pn 68 rfl ?_)
    refine s_getfield (v := .ref 160) (by decide +kernel) fr_12_13 lq_159 (congrArg Prod.fst sh_159) (fv_ref pf_159_1) (pn 71 rfl ?_)
    refine t_iconst (by decide +kernel) ki_2 (pn 72 rfl ?_)
    refine t_iaload (v := M.1 160 2) (by decide +kernel) ⟨Or.inl lq_160, congrArg Prod.fst sh_160⟩ (al_in sh_160 (vp_lit (n := 3870) tn_2 (by decide) (by decide))) (by rw [tn_2] <;> rfl) (pn 73 rfl ?_)
    exact s_ireturn (st := []) (by decide +kernel) (Or.inl rfl) ⟨_, rfl, s, rfl, h⟩
  have h := h.2 c2
  by_cases c3 : x1 = 2
  · refine s_tableswitch (dflt := 121) (lo := 0) (hi := 9) (offs := #[54, 61, 68, 75, 80, 85, 93, 101, 109, 114]) (len := 54) (tgt := 74) (by decide +kernel) (by rw [c3]; decide) (by rw [c3]; decide) ?_
    have h := h.1 c3
    refine s_aload_n (i := 0) (by decide +kernel) rfl (pn 75 rfl ?_)
    refine s_getfield (v := .ref 160) (by decide +kernel) fr_12_13 lq_159 (congrArg Prod.fst sh_159) (fv_ref pf_159_1) (pn 78 rfl ?_)
    refine t_iconst (by decide +kernel) ki_3 (pn 79 rfl ?_)
    refine t_iaload (v := M.1 160 3) (by decide +kernel) ⟨Or.inl lq_160, congrArg Prod.fst sh_160⟩ (al_in sh_160 (vp_lit (n := 3870) tn_3 (by decide) (by decide))) (by rw [tn_3] <;> rfl) (pn 80 rfl ?_)
    exact s_ireturn (st := []) (by decide +kernel) (Or.inl rfl) ⟨_, rfl, s, rfl, h⟩
  have h := h.2 c3
  by_cases c4 : x1 = 3
  · refine s_tableswitch (dflt := 121) (lo := 0) (hi := 9) (offs := #[54, 61, 68, 75, 80, 85, 93, 101, 109, 114]) (len := 54) (tgt := 81) (by decide +kernel) (by rw [c4]; decide) (by rw [c4]; decide) ?_
    have h := h.1 c4
    refine s_aload_n (i := 0) (by decide +kernel) rfl (pn 82 rfl ?_)
    refine s_callvI [] rfl (by decide +kernel) mv_12_294 np_236 (Nat.le_of_ble_eq_true rfl) lq_159 ((congrArg Prod.fst sh_159).trans oc_236) (cI_use h (fun r1 s1 M1 h => (pn 85 rfl ?_)))
    exact s_ireturn (st := []) (by decide +kernel) (Or.inl rfl) ⟨_, rfl, s1, rfl, h⟩
  have h := h.2 c4
  by_cases c5 : x1 = 4
  · refine s_tableswitch (dflt := 121) (lo := 0) (hi := 9) (offs := #[54, 61, 68, 75, 80, 85, 93, 101, 109, 114]) (len := 54) (tgt := 86) (by decide +kernel) (by rw [c5]; decide) (by rw [c5]; decide) ?_
    have h := h.1 c5
    refine s_aload_n (i := 0) (by decide +kernel) rfl (pn 87 rfl ?_)
    refine s_callvI [] rfl (by decide +kernel) mv_12_488 np_321 (Nat.le_of_ble_eq_true rfl) lq_159 ((congrArg Prod.fst sh_159).trans oc_321) (cI_use h (fun r2 s2 M2 h => (pn 90 rfl ?_)))
    exact s_ireturn (st := []) (by decide +kernel) (Or.inl rfl) ⟨_, rfl, s2, rfl, h⟩
  have h := h.2 c5
  by_cases c6 : x1 = 5
  · refine s_tableswitch (dflt := 121) (lo := 0) (hi := 9) (offs := #[54, 61, 68, 75, 80, 85, 93, 101, 109, 114]) (len := 54) (tgt := 91) (by decide +kernel) (by rw [c6]; decide) (by rw [c6]; decide) ?_
    have h := h.1 c6
    refine s_aload_n (i := 0) (by decide +kernel) rfl (pn 92 rfl ?_)
    refine s_getfield (v := .ref 160) (by decide +kernel) fr_12_13 lq_159 (congrArg Prod.fst sh_159) (fv_ref pf_159_1) (pn 95 rfl ?_)
    refine t_bipush (by decide +kernel) kb_47 (pn 97 rfl ?_)
    refine t_iaload (v := M.1 160 47) (by decide +kernel) ⟨Or.inl lq_160, congrArg Prod.fst sh_160⟩ (al_in sh_160 (vp_lit (n := 3870) tn_47 (by decide) (by decide))) (by rw [tn_47] <;> rfl) (pn 98 rfl ?_)
    exact s_ireturn (st := []) (by decide +kernel) (Or.inl rfl) ⟨_, rfl, s, rfl, h⟩
  have h := h.2 c6
  by_cases c7 : x1 = 6
  · refine s_tableswitch (dflt := 121) (lo := 0) (hi := 9) (offs := #[54, 61, 68, 75, 80, 85, 93, 101, 109, 114]) (len := 54) (tgt := 99) (by decide +kernel) (by rw [c7]; decide) (by rw [c7]; decide) ?_
    have h := h.1 c7
    refine s_aload_n (i := 0) (by decide +kernel) rfl (pn 100 rfl ?_)
    refine s_getfield (v := .ref 160) (by decide +kernel) fr_12_13 lq_159 (congrArg Prod.fst sh_159) (fv_ref pf_159_1) (pn 103 rfl ?_)
    refine t_bipush (by decide +kernel) kb_48 (pn 105 rfl ?_)
    refine t_iaload (v := M.1 160 48) (by decide +kernel) ⟨Or.inl lq_160, congrArg Prod.fst sh_160⟩ (al_in sh_160 (vp_lit (n := 3870) tn_48 (by decide) (by decide))) (by rw [tn_48] <;> rfl) (pn 106 rfl ?_)
    exact s_ireturn (st := []) (by decide +kernel) (Or.inl rfl) ⟨_, rfl, s, rfl, h⟩
  have h := h.2 c7
  by_cases c8 : x1 = 7
  · refine s_tableswitch (dflt := 121) (lo := 0) (hi := 9) (offs := #[54, 61, 68, 75, 80, 85, 93, 101, 109, 114]) (len := 54) (tgt := 107) (by decide +kernel) (by rw [c8]; decide) (by rw [c8]; decide) ?_
    have h := h.1 c8
    refine s_aload_n (i := 0) (by decide +kernel) rfl (pn 108 rfl ?_)
    refine s_getfield (v := .ref 160) (by decide +kernel) fr_12_13 lq_159 (congrArg Prod.fst sh_159) (fv_ref pf_159_1) (pn 111 rfl ?_)
    refine t_bipush (by decide +kernel) kb_78 (pn 113 rfl ?_)
    refine t_iaload (v := M.1 160 78) (by decide +kernel) ⟨Or.inl lq_160, congrArg Prod.fst sh_160⟩ (al_in sh_160 (vp_lit (n := 3870) tn_78 (by decide) (by decide))) (by rw [tn_78] <;> rfl) (pn 114 rfl ?_)
    exact s_ireturn (st := []) (by decide +kernel) (Or.inl rfl) ⟨_, rfl, s, rfl, h⟩
  have h := h.2 c8
  by_cases c9 : x1 = 8
  · refine s_tableswitch (dflt := 121) (lo := 0) (hi := 9) (offs := #[54, 61, 68, 75, 80, 85, 93, 101, 109, 114]) (len := 54) (tgt := 115) (by decide +kernel) (by rw [c9]; decide) (by rw [c9]; decide) ?_
    have h := h.1 c9
    refine s_aload_n (i := 0) (by decide +kernel) rfl (pn 116 rfl ?_)
    refine s_getfield (v := .int (M.1 159 5)) (by decide +kernel) fr_12_101 lq_159 (congrArg Prod.fst sh_159) rfl (pn 119 rfl ?_)
    exact s_ireturn (st := []) (by decide +kernel) (Or.inl rfl) ⟨_, rfl, s, rfl, h⟩
  have h := h.2 c9
  by_cases c10 : x1 = 9
  · refine s_tableswitch (dflt := 121) (lo := 0) (hi := 9) (offs := #[54, 61, 68, 75, 80, 85, 93, 101, 109, 114]) (len := 54) (tgt := 120) (by decide +kernel) (by rw [c10]; decide) (by rw [c10]; decide) ?_
    have h := h.1 c10
    refine s_aload_n (i := 0) (by decide +kernel) rfl (pn 121 rfl ?_)
    refine s_getfield (v := .ref 160) (by decide +kernel) fr_12_13 lq_159 (congrArg Prod.fst sh_159) (fv_ref pf_159_1) (pn 124 rfl ?_)
    refine t_iconst (by decide +kernel) ki_0 (pn 125 rfl ?_)
    refine t_iaload (v := M.1 160 0) (by decide +kernel) ⟨Or.inl lq_160, congrArg Prod.fst sh_160⟩ (al_in sh_160 (vp_lit (n := 3870) tn_0 (by decide) (by decide))) (by rw [tn_0] <;> rfl) (pn 126 rfl ?_)
    exact s_ireturn (st := []) (by decide +kernel) (Or.inl rfl) ⟨_, rfl, s, rfl, h⟩
  have h := h.2 c10
  have k1 : wM_count d 127 [.ref 159, .int x1] [] s (pm_si M 159 0 0) Q := by
    refine t_iconst (by decide +kernel) ki_m1 (pn 128 rfl ?_)
    exact s_ireturn (st := []) (by decide +kernel) (Or.inl rfl) ⟨_, rfl, s, rfl, h⟩
  by_cases q0 : x1.toInt < 0 ∨ 9 < x1.toInt
  · exact t_tabledef (dflt := 121) (lo := 0) (hi := 9) (offs := #[54, 61, 68, 75, 80, 85, 93, 101, 109, 114]) (len := 54) (tgt := 127) (by decide +kernel) rfl q0 k1
  · rcases (show x1.toInt = 0 ∨ x1.toInt = 1 ∨ x1.toInt = 2 ∨ x1.toInt = 3 ∨ x1.toInt = 4 ∨ x1.toInt = 5 ∨ x1.toInt = 6 ∨ x1.toInt = 7 ∨ x1.toInt = 8 ∨ x1.toInt = 9 by omega) with q1 | q1 | q1 | q1 | q1 | q1 | q1 | q1 | q1 | q1
    · exact absurd (Int32.toInt_inj.mp (q1.trans (by decide))) c1
    · exact absurd (Int32.toInt_inj.mp (q1.trans (by decide))) c2
    · exact absurd (Int32.toInt_inj.mp (q1.trans (by decide))) c3
    · exact absurd (Int32.toInt_inj.mp (q1.trans (by decide))) c4
    · exact absurd (Int32.toInt_inj.mp (q1.trans (by decide))) c5
    · exact absurd (Int32.toInt_inj.mp (q1.trans (by decide))) c6
    · exact absurd (Int32.toInt_inj.mp (q1.trans (by decide))) c7
    · exact absurd (Int32.toInt_inj.mp (q1.trans (by decide))) c8
    · exact absurd (Int32.toInt_inj.mp (q1.trans (by decide))) c9
    · exact absurd (Int32.toInt_inj.mp (q1.trans (by decide))) c10
abbrev wM_heldSet (d pc : Nat) (ls st : List Value) (s : pm_S) (M : pm_M) (Q : Int32 → pm_S → pm_M → Prop) : Prop := wI d prog_14_method_138_code 12 (some .int) false pc ls st s M Q
theorem enM_heldSet {d : Nat} {s : pm_S} {M : pm_M}  {Q : Int32 → pm_S → pm_M → Prop}  (h : wM_heldSet d 4 [.ref 159, .int 0, .int 0] [] s M Q) : cI (d + 1) yM_heldSet [.ref 159] s M Q := by
  refine pm_toI (by decide) (Nat.le_of_ble_eq_true rfl) ?_
  show wM_heldSet d 0 [.ref 159, .null, .null] [] s M Q
  refine t_iconst (by decide +kernel) ki_0 (pn 1 rfl ?_)
  refine s_istore_n (i := 1) (by decide +kernel) (Nat.le_of_ble_eq_true rfl) (pn 2 rfl (t_store (ls' := [.ref 159, .int 0, .null]) rfl ?_))
  refine t_iconst (by decide +kernel) ki_0 (pn 3 rfl ?_)
  refine s_istore_n (i := 2) (by decide +kernel) (Nat.le_of_ble_eq_true rfl) (pn 4 rfl (t_store (ls' := [.ref 159, .int 0, .int 0]) rfl ?_))
  exact h
theorem sgM_heldSet_4 {d : Nat} {s : pm_S} {M : pm_M} {l1 : Int32} {l2 : Int32} {Q : Int32 → pm_S → pm_M → Prop}  (h : ((((M.1 160 2) ≤ l2) → Q l1 s M) ∧ (¬ ((M.1 160 2) ≤ l2) → vp_in ((50 : Int32) + l2) 3870 ∧ cI d yM_within [.long ((M.1 160 ((50 : Int32) + l2).toNatClampNeg).toInt64), .long 10, .long 16] s M (fun r1 s1 M1 => wM_heldSet d 4 [.ref 159, .int (l1 ||| ((if r1 = 0 then 0 else ((1 : Int32) <<< (l2 &&& 31))) : Int32)), .int (l2 + 1)] [] s1 M1 Q)))) : wM_heldSet d 4 [.ref 159, .int l1, .int l2] [] s M Q := by
  refine s_iload_n (i := 2) (by decide +kernel) rfl (pn 5 rfl ?_)
  refine s_aload_n (i := 0) (by decide +kernel) rfl (pn 6 rfl ?_)
  refine s_getfield (v := .ref 160) (by decide +kernel) fr_12_13 lq_159 (congrArg Prod.fst sh_159) (fv_ref pf_159_1) (pn 9 rfl ?_)
  refine t_iconst (by decide +kernel) ki_2 (pn 10 rfl ?_)
  refine t_iaload (v := M.1 160 2) (by decide +kernel) ⟨Or.inl lq_160, congrArg Prod.fst sh_160⟩ (al_in sh_160 (vp_lit (n := 3870) tn_2 (by decide) (by decide))) (by rw [tn_2] <;> rfl) (pn 11 rfl ?_)
  refine s_icmp_ge (off := 41) (tgt := 52) (by decide +kernel) rfl (fun c1 => ?_) (fun c1 => (pn 14 rfl ?_))
  · have h := h.1 c1
    refine s_iload_n (i := 1) (by decide +kernel) rfl (pn 53 rfl ?_)
    exact s_ireturn (st := []) (by decide +kernel) (Or.inl rfl) ⟨_, rfl, s, rfl, h⟩
  · have h := h.2 c1
    refine s_iload_n (i := 1) (by decide +kernel) rfl (pn 15 rfl ?_)
    refine s_aload_n (i := 0) (by decide +kernel) rfl (pn 16 rfl ?_)
    refine s_getfield (v := .ref 160) (by decide +kernel) fr_12_13 lq_159 (congrArg Prod.fst sh_159) (fv_ref pf_159_1) (pn 19 rfl ?_)
    refine t_bipush (by decide +kernel) kb_50 (pn 21 rfl ?_)
    refine s_iload_n (i := 2) (by decide +kernel) rfl (pn 22 rfl ?_)
    refine s_iadd (by decide +kernel) (pn 23 rfl ?_)
    obtain ⟨b1, h⟩ := h
    refine t_iaload (v := M.1 160 ((50 : Int32) + l2).toNatClampNeg) (by decide +kernel) ⟨Or.inl lq_160, congrArg Prod.fst sh_160⟩ (al_in sh_160 b1) rfl (pn 24 rfl ?_)
    refine s_i2l (by decide +kernel) (pn 25 rfl ?_)
    refine s_ldc2_w (by decide +kernel) kl_12_320 (pn 28 rfl ?_)
    refine s_ldc2_w (by decide +kernel) kl_12_486 (pn 31 rfl ?_)
    refine s_callsI [.long ((M.1 160 ((50 : Int32) + l2).toNatClampNeg).toInt64), .long 10, .long 16] rfl (by decide +kernel) ms_12_163 np_188 (Nat.le_of_ble_eq_true rfl) (cI_use h (fun r1 s1 M1 h => (pn 34 rfl ?_)))
    have k1 : ∀ (z1 : Int32) (z1e : z1 = ((if r1 = 0 then 0 else ((1 : Int32) <<< (l2 &&& 31))) : Int32)), wM_heldSet d 44 [.ref 159, .int l1, .int l2] [.int z1, .int l1] s1 M1 Q := by
      intro z1 z1e
      subst z1e
      refine s_ior (by decide +kernel) (pn 45 rfl ?_)
      refine s_istore_n (i := 1) (by decide +kernel) (Nat.le_of_ble_eq_true rfl) (pn 46 rfl (t_store (ls' := [.ref 159, .int (l1 ||| ((if r1 = 0 then 0 else ((1 : Int32) <<< (l2 &&& 31))) : Int32)), .int l2]) rfl ?_))
      refine t_iinc (i := 2) (n := 1) (ls' := [.ref 159, .int (l1 ||| ((if r1 = 0 then 0 else ((1 : Int32) <<< (l2 &&& 31))) : Int32)), .int (l2 + 1)]) (by decide +kernel) rfl (Nat.le_of_ble_eq_true rfl) kn_1 rfl (pn 49 rfl ?_)
      refine s_goto (off := -45) (tgt := 4) (by decide +kernel) rfl ?_
      exact h
    refine s_if_eq (off := 9) (tgt := 43) (by decide +kernel) rfl (fun c2 => ?_) (fun c2 => (pn 37 rfl ?_))
    · refine t_iconst (by decide +kernel) ki_0 (pn 44 rfl ?_)
      exact k1 _ (by simp only [if_pos c2])
    · refine t_iconst (by decide +kernel) ki_1 (pn 38 rfl ?_)
      refine s_iload_n (i := 2) (by decide +kernel) rfl (pn 39 rfl ?_)
      refine s_ishl (by decide +kernel) (pn 40 rfl ?_)
      refine s_goto (off := 4) (tgt := 44) (by decide +kernel) rfl ?_
      exact k1 _ (by simp only [if_neg c2])
