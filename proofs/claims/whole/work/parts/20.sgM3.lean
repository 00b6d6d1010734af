abbrev wM_noPlan (d pc : Nat) (ls st : List Value) (s : pm_S) (M : pm_M) (Q : Int32 → pm_S → pm_M → Prop) : Prop := wI d prog_14_method_87_code 12 (some .int) false pc ls st s M Q
theorem enM_noPlan {d : Nat} {s : pm_S} {M : pm_M} {x1 : Int32} {Q : Int32 → pm_S → pm_M → Prop}  (h : cI d yM_noTray [.ref 159, .int x1] s M (fun r1 s1 M1 => (((r1 = 0) → vp_in x1 4 ∧ cI d yM_within [.long ((M1.1 183 x1.toNatClampNeg).toInt64), .long 1, .long 3] s1 M1 (fun r2 s2 M2 => ((r2 = 0 → Q (-4) s2 M2) ∧ (¬ (r2 = 0) → wM_noPlan d 40 [.ref 159, .int x1, .null, .int 0, .int 0, .int 0, .null, .null, .null, .null] [] s2 M2 Q)))) ∧ (¬ (r1 = 0) → Q r1 s1 M1)))) : cI (d + 1) yM_noPlan [.ref 159, .int x1] s M Q := by
  refine pm_toI (by decide) (Nat.le_of_ble_eq_true rfl) ?_
  show wM_noPlan d 0 [.ref 159, .int x1, .null, .null, .null, .null, .null, .null, .null, .null] [] s M Q
  refine s_aload_n (i := 0) (by decide +kernel) rfl (pn 1 rfl ?_)
  refine s_iload_n (i := 1) (by decide +kernel) rfl (pn 2 rfl ?_)
  refine s_callvI [.int x1] rfl (by decide +kernel) mv_12_349 np_253 (Nat.le_of_ble_eq_true rfl) lq_159 ((congrArg Prod.fst sh_159).trans oc_253) (cI_use h (fun r1 s1 M1 h => (pn 5 rfl ?_)))
  refine s_istore_n (i := 2) (by decide +kernel) (Nat.le_of_ble_eq_true rfl) (pn 6 rfl (t_store (ls' := [.ref 159, .int x1, .int r1, .null, .null, .null, .null, .null, .null, .null]) rfl ?_))
  refine s_iload_n (i := 2) (by decide +kernel) rfl (pn 7 rfl ?_)
  refine s_if_eq (off := 5) (tgt := 12) (by decide +kernel) rfl (fun c1 => ?_) (fun c1 => (pn 10 rfl ?_))
  · have h := h.1 c1
    refine s_aload_n (i := 0) (by decide +kernel) rfl (pn 13 rfl ?_)
    refine s_getfield (v := .ref 183) (by decide +kernel) fr_12_91 lq_159 (congrArg Prod.fst sh_159) (fv_ref pf_159_40) (pn 16 rfl ?_)
    refine s_iload_n (i := 1) (by decide +kernel) rfl (pn 17 rfl ?_)
    obtain ⟨b1, h⟩ := h
    refine t_iaload (v := M1.1 183 x1.toNatClampNeg) (by decide +kernel) ⟨Or.inl lq_183, congrArg Prod.fst sh_183⟩ (al_in sh_183 b1) rfl (pn 18 rfl ?_)
    refine s_i2l (by decide +kernel) (pn 19 rfl ?_)
    refine t_lconst (n := 1) (v := 1) (by decide +kernel) rfl (pn 20 rfl ?_)
    refine s_ldc2_w (by decide +kernel) kl_12_347 (pn 23 rfl ?_)
    refine s_callsI [.long ((M1.1 183 x1.toNatClampNeg).toInt64), .long 1, .long 3] rfl (by decide +kernel) ms_12_163 np_188 (Nat.le_of_ble_eq_true rfl) (cI_use h (fun r2 s2 M2 h => (pn 26 rfl ?_)))
    refine t_if_ne (off := 6) (tgt := 32) (by decide +kernel) rfl (fun c2 => ?_) (fun c2 => (pn 29 rfl ?_))
    · have h := h.2 c2
      refine t_iconst (by decide +kernel) ki_0 (pn 33 rfl ?_)
      refine s_istore_n (i := 3) (by decide +kernel) (Nat.le_of_ble_eq_true rfl) (pn 34 rfl (t_store (ls' := [.ref 159, .int x1, .int r1, .int 0, .null, .null, .null, .null, .null, .null]) rfl ?_))
      refine t_iconst (by decide +kernel) ki_0 (pn 35 rfl ?_)
      refine s_istore (i := 4) (by decide +kernel) (Nat.le_of_ble_eq_true rfl) (pn 37 rfl (t_store (ls' := [.ref 159, .int x1, .int r1, .int 0, .int 0, .null, .null, .null, .null, .null]) rfl ?_))
      refine t_iconst (by decide +kernel) ki_0 (pn 38 rfl ?_)
      refine s_istore (i := 5) (by decide +kernel) (Nat.le_of_ble_eq_true rfl) (pn 40 rfl (t_store (ls' := [.ref 159, .int x1, .int r1, .int 0, .int 0, .int 0, .null, .null, .null, .null]) rfl ?_))
      exact pm_weak [.ref 159, .int x1, .null, .int 0, .int 0, .int 0, .null, .null, .null, .null] (pm_le_cons (Or.inr rfl) (pm_le_cons (Or.inr rfl) (pm_le_cons (Or.inl rfl) (pm_le_cons (Or.inr rfl) (pm_le_cons (Or.inr rfl) (pm_le_cons (Or.inr rfl) (pm_le_cons (Or.inl rfl) (pm_le_cons (Or.inl rfl) (pm_le_cons (Or.inl rfl) (pm_le_cons (Or.inl rfl) pm_le_nil)))))))))) h
    · have h := h.1 c2
      refine t_bipush (by decide +kernel) kb_m4 (pn 31 rfl ?_)
      exact s_ireturn (st := []) (by decide +kernel) (Or.inl rfl) ⟨_, rfl, s2, rfl, h⟩
  · have h := h.2 c1
    refine s_iload_n (i := 2) (by decide +kernel) rfl (pn 11 rfl ?_)
    exact s_ireturn (st := []) (by decide +kernel) (Or.inl rfl) ⟨_, rfl, s1, rfl, h⟩
theorem sgM_noPlan_40 {d : Nat} {s : pm_S} {M : pm_M} {l1 : Int32} {l3 : Int32} {l4 : Int32} {l5 : Int32} {Q : Int32 → pm_S → pm_M → Prop}  (h : vp_in l1 4 ∧ ((((M.1 183 l1.toNatClampNeg) ≤ l5) → Q 0 s M) ∧ (¬ ((M.1 183 l1.toNatClampNeg) ≤ l5) → vp_in (((40 : Int32) * l1) + l5) 160 ∧ ((((M.2 184 (((40 : Int32) * l1) + l5).toNatClampNeg) < 0) → Q (-3) s M) ∧ (¬ ((M.2 184 (((40 : Int32) * l1) + l5).toNatClampNeg) < 0) → cI d yM_isThing [.ref 159, .long ((M.2 184 (((40 : Int32) * l1) + l5).toNatClampNeg) / 10)] s M (fun r1 s1 M1 => (((r1 = 0) → Q (-3) s1 M1) ∧ (¬ (r1 = 0) → cI d yM_isPerson [.ref 159, .long ((M.2 184 (((40 : Int32) * l1) + l5).toNatClampNeg) - (M.2 184 (((40 : Int32) * l1) + l5).toNatClampNeg) / 10 * 10)] s1 M1 (fun r2 s2 M2 => ((r2 = 0 → Q (-3) s2 M2) ∧ (¬ (r2 = 0) → (∀ v1 : Int32, v1 = (1 : Int32) <<< ((((M.2 184 (((40 : Int32) * l1) + l5).toNatClampNeg) / 10).toInt32) &&& 31) → (∀ v2 : Int32, v2 = (1 : Int32) <<< ((((M.2 184 (((40 : Int32) * l1) + l5).toNatClampNeg) - (M.2 184 (((40 : Int32) * l1) + l5).toNatClampNeg) / 10 * 10).toInt32) &&& 31) → (((((l3 &&& v1) ||| (l4 &&& v2)) = 0) → wM_noPlan d 40 [.ref 159, .int l1, .null, .int (l3 ||| v1), .int (l4 ||| v2), .int (l5 + 1), .null, .null, .null, .null] [] s2 M2 Q) ∧ (¬ (((l3 &&& v1) ||| (l4 &&& v2)) = 0) → Q (-3) s2 M2))))))))))))))) : wM_noPlan d 40 [.ref 159, .int l1, .null, .int l3, .int l4, .int l5, .null, .null, .null, .null] [] s M Q := by
  refine s_iload (i := 5) (by decide +kernel) rfl (pn 42 rfl ?_)
  refine s_aload_n (i := 0) (by decide +kernel) rfl (pn 43 rfl ?_)
  refine s_getfield (v := .ref 183) (by decide +kernel) fr_12_91 lq_159 (congrArg Prod.fst sh_159) (fv_ref pf_159_40) (pn 46 rfl ?_)
  refine s_iload_n (i := 1) (by decide +kernel) rfl (pn 47 rfl ?_)
  obtain ⟨b1, h⟩ := h
  refine t_iaload (v := M.1 183 l1.toNatClampNeg) (by decide +kernel) ⟨Or.inl lq_183, congrArg Prod.fst sh_183⟩ (al_in sh_183 b1) rfl (pn 48 rfl ?_)
  refine s_icmp_ge (off := 109) (tgt := 157) (by decide +kernel) rfl (fun c1 => ?_) (fun c1 => (pn 51 rfl ?_))
  · have h := h.1 c1
    refine t_iconst (by decide +kernel) ki_0 (pn 158 rfl ?_)
    exact s_ireturn (st := []) (by decide +kernel) (Or.inl rfl) ⟨_, rfl, s, rfl, h⟩
  · have h := h.2 c1
    refine s_aload_n (i := 0) (by decide +kernel) rfl (pn 52 rfl ?_)
    refine s_getfield (v := .ref 184) (by decide +kernel) fr_12_94 lq_159 (congrArg Prod.fst sh_159) (fv_ref pf_159_41) (pn 55 rfl ?_)
    refine t_bipush (by decide +kernel) kb_40 (pn 57 rfl ?_)
    refine s_iload_n (i := 1) (by decide +kernel) rfl (pn 58 rfl ?_)
    refine s_imul (by decide +kernel) (pn 59 rfl ?_)
    refine s_iload (i := 5) (by decide +kernel) rfl (pn 61 rfl ?_)
    refine s_iadd (by decide +kernel) (pn 62 rfl ?_)
    obtain ⟨b2, h⟩ := h
    refine t_laload (v := M.2 184 (((40 : Int32) * l1) + l5).toNatClampNeg) (by decide +kernel) ⟨lq_184, congrArg Prod.fst sh_184⟩ (al_in sh_184 b2) rfl (pn 63 rfl ?_)
    refine s_lstore (i := 6) (by decide +kernel) (Nat.le_of_ble_eq_true rfl) (pn 65 rfl (t_store (ls' := [.ref 159, .int l1, .null, .int l3, .int l4, .int l5, .long (M.2 184 (((40 : Int32) * l1) + l5).toNatClampNeg), .null, .null, .null]) rfl ?_))
    refine s_lload (i := 6) (by decide +kernel) rfl (pn 67 rfl ?_)
    refine t_lconst (n := 0) (v := 0) (by decide +kernel) rfl (pn 68 rfl ?_)
    refine t_lc_lt (off := 29) (tgt := 98) (by decide +kernel) (by decide +kernel) rfl (fun c2 => ?_) (fun c2 => (pn 72 rfl ?_))
    · have h := h.1 c2
      refine t_bipush (by decide +kernel) kb_m3 (pn 100 rfl ?_)
      exact s_ireturn (st := []) (by decide +kernel) (Or.inl rfl) ⟨_, rfl, s, rfl, h⟩
    · have h := h.2 c2
      refine s_aload_n (i := 0) (by decide +kernel) rfl (pn 73 rfl ?_)
      refine s_lload (i := 6) (by decide +kernel) rfl (pn 75 rfl ?_)
      refine s_ldc2_w (by decide +kernel) kl_12_320 (pn 78 rfl ?_)
      refine s_ldiv (by decide +kernel) (by decide) (pn 79 rfl ?_)
      refine s_callvI [.long ((M.2 184 (((40 : Int32) * l1) + l5).toNatClampNeg) / 10)] rfl (by decide +kernel) mv_12_250 np_217 (Nat.le_of_ble_eq_true rfl) lq_159 ((congrArg Prod.fst sh_159).trans oc_217) (cI_use h (fun r1 s1 M1 h => (pn 82 rfl ?_)))
      refine s_if_eq (off := 16) (tgt := 98) (by decide +kernel) rfl (fun c3 => ?_) (fun c3 => (pn 85 rfl ?_))
      · have h := h.1 c3
        refine t_bipush (by decide +kernel) kb_m3 (pn 100 rfl ?_)
        exact s_ireturn (st := []) (by decide +kernel) (Or.inl rfl) ⟨_, rfl, s1, rfl, h⟩
      · have h := h.2 c3
        refine s_aload_n (i := 0) (by decide +kernel) rfl (pn 86 rfl ?_)
        refine s_lload (i := 6) (by decide +kernel) rfl (pn 88 rfl ?_)
        refine s_ldc2_w (by decide +kernel) kl_12_320 (pn 91 rfl ?_)
        refine s_lrem (by decide +kernel) (by decide) (pn 92 rfl ?_)
        refine s_callvI [.long ((M.2 184 (((40 : Int32) * l1) + l5).toNatClampNeg) - (M.2 184 (((40 : Int32) * l1) + l5).toNatClampNeg) / 10 * 10)] rfl (by decide +kernel) mv_12_231 np_219 (Nat.le_of_ble_eq_true rfl) lq_159 ((congrArg Prod.fst sh_159).trans oc_219) (cI_use h (fun r2 s2 M2 h => (pn 95 rfl ?_)))
        refine t_if_ne (off := 6) (tgt := 101) (by decide +kernel) rfl (fun c4 => ?_) (fun c4 => (pn 98 rfl ?_))
        · have h := h.2 c4
          refine t_iconst (by decide +kernel) ki_1 (pn 102 rfl ?_)
          refine s_lload (i := 6) (by decide +kernel) rfl (pn 104 rfl ?_)
          refine s_ldc2_w (by decide +kernel) kl_12_320 (pn 107 rfl ?_)
          refine s_ldiv (by decide +kernel) (by decide) (pn 108 rfl ?_)
          refine s_l2i (by decide +kernel) (pn 109 rfl ?_)
          refine s_ishl (by decide +kernel) (pn 110 rfl ?_)
          obtain ⟨v1, ev1⟩ : ∃ zz : Int32, zz = (1 : Int32) <<< ((((M.2 184 (((40 : Int32) * l1) + l5).toNatClampNeg) / 10).toInt32) &&& 31) := ⟨_, rfl⟩
          have h := h v1 ev1
          rw [← ev1]
          refine s_istore (i := 8) (by decide +kernel) (Nat.le_of_ble_eq_true rfl) (pn 112 rfl (t_store (ls' := [.ref 159, .int l1, .null, .int l3, .int l4, .int l5, .long (M.2 184 (((40 : Int32) * l1) + l5).toNatClampNeg), .null, .int v1, .null]) rfl ?_))
          refine t_iconst (by decide +kernel) ki_1 (pn 113 rfl ?_)
          refine s_lload (i := 6) (by decide +kernel) rfl (pn 115 rfl ?_)
          refine s_ldc2_w (by decide +kernel) kl_12_320 (pn 118 rfl ?_)
          refine s_lrem (by decide +kernel) (by decide) (pn 119 rfl ?_)
          refine s_l2i (by decide +kernel) (pn 120 rfl ?_)
          refine s_ishl (by decide +kernel) (pn 121 rfl ?_)
          obtain ⟨v2, ev2⟩ : ∃ zz : Int32, zz = (1 : Int32) <<< ((((M.2 184 (((40 : Int32) * l1) + l5).toNatClampNeg) - (M.2 184 (((40 : Int32) * l1) + l5).toNatClampNeg) / 10 * 10).toInt32) &&& 31) := ⟨_, rfl⟩
          have h := h v2 ev2
          rw [← ev2]
          refine s_istore (i := 9) (by decide +kernel) (Nat.le_of_ble_eq_true rfl) (pn 123 rfl (t_store (ls' := [.ref 159, .int l1, .null, .int l3, .int l4, .int l5, .long (M.2 184 (((40 : Int32) * l1) + l5).toNatClampNeg), .null, .int v1, .int v2]) rfl ?_))
          refine s_iload_n (i := 3) (by decide +kernel) rfl (pn 124 rfl ?_)
          refine s_iload (i := 8) (by decide +kernel) rfl (pn 126 rfl ?_)
          refine s_iand (by decide +kernel) (pn 127 rfl ?_)
          refine s_iload (i := 4) (by decide +kernel) rfl (pn 129 rfl ?_)
          refine s_iload (i := 9) (by decide +kernel) rfl (pn 131 rfl ?_)
          refine s_iand (by decide +kernel) (pn 132 rfl ?_)
          refine s_ior (by decide +kernel) (pn 133 rfl ?_)
          refine s_if_eq (off := 6) (tgt := 139) (by decide +kernel) rfl (fun c5 => ?_) (fun c5 => (pn 136 rfl ?_))
          · have h := h.1 c5
            refine s_iload_n (i := 3) (by decide +kernel) rfl (pn 140 rfl ?_)
            refine s_iload (i := 8) (by decide +kernel) rfl (pn 142 rfl ?_)
            refine s_ior (by decide +kernel) (pn 143 rfl ?_)
            refine s_istore_n (i := 3) (by decide +kernel) (Nat.le_of_ble_eq_true rfl) (pn 144 rfl (t_store (ls' := [.ref 159, .int l1, .null, .int (l3 ||| v1), .int l4, .int l5, .long (M.2 184 (((40 : Int32) * l1) + l5).toNatClampNeg), .null, .int v1, .int v2]) rfl ?_))
            refine s_iload (i := 4) (by decide +kernel) rfl (pn 146 rfl ?_)
            refine s_iload (i := 9) (by decide +kernel) rfl (pn 148 rfl ?_)
            refine s_ior (by decide +kernel) (pn 149 rfl ?_)
            refine s_istore (i := 4) (by decide +kernel) (Nat.le_of_ble_eq_true rfl) (pn 151 rfl (t_store (ls' := [.ref 159, .int l1, .null, .int (l3 ||| v1), .int (l4 ||| v2), .int l5, .long (M.2 184 (((40 : Int32) * l1) + l5).toNatClampNeg), .null, .int v1, .int v2]) rfl ?_))
            refine t_iinc (i := 5) (n := 1) (ls' := [.ref 159, .int l1, .null, .int (l3 ||| v1), .int (l4 ||| v2), .int (l5 + 1), .long (M.2 184 (((40 : Int32) * l1) + l5).toNatClampNeg), .null, .int v1, .int v2]) (by decide +kernel) rfl (Nat.le_of_ble_eq_true rfl) kn_1 rfl (pn 154 rfl ?_)
            refine s_goto (off := -114) (tgt := 40) (by decide +kernel) rfl ?_
            exact pm_weak [.ref 159, .int l1, .null, .int (l3 ||| v1), .int (l4 ||| v2), .int (l5 + 1), .null, .null, .null, .null] (pm_le_cons (Or.inr rfl) (pm_le_cons (Or.inr rfl) (pm_le_cons (Or.inl rfl) (pm_le_cons (Or.inr rfl) (pm_le_cons (Or.inr rfl) (pm_le_cons (Or.inr rfl) (pm_le_cons (Or.inl rfl) (pm_le_cons (Or.inl rfl) (pm_le_cons (Or.inl rfl) (pm_le_cons (Or.inl rfl) pm_le_nil)))))))))) h
          · have h := h.2 c5
            refine t_bipush (by decide +kernel) kb_m3 (pn 138 rfl ?_)
            exact s_ireturn (st := []) (by decide +kernel) (Or.inl rfl) ⟨_, rfl, s2, rfl, h⟩
        · have h := h.1 c4
          refine t_bipush (by decide +kernel) kb_m3 (pn 100 rfl ?_)
          exact s_ireturn (st := []) (by decide +kernel) (Or.inl rfl) ⟨_, rfl, s2, rfl, h⟩
abbrev wM_rowsOf (d pc : Nat) (ls st : List Value) (s : pm_S) (M : pm_M) (Q : Int32 → pm_S → pm_M → Prop) : Prop := wI d prog_14_method_90_code 12 (some .int) false pc ls st s M Q
theorem enM_rowsOf {d : Nat} {s : pm_S} {M : pm_M} {x1 : Int32} {Q : Int32 → pm_S → pm_M → Prop}  (h : wM_rowsOf d 4 [.ref 159, .int x1, .int 1, .int 0] [] s M Q) : cI (d + 1) yM_rowsOf [.ref 159, .int x1] s M Q := by
  refine pm_toI (by decide) (Nat.le_of_ble_eq_true rfl) ?_
  show wM_rowsOf d 0 [.ref 159, .int x1, .null, .null] [] s M Q
  refine t_iconst (by decide +kernel) ki_1 (pn 1 rfl ?_)
  refine s_istore_n (i := 2) (by decide +kernel) (Nat.le_of_ble_eq_true rfl) (pn 2 rfl (t_store (ls' := [.ref 159, .int x1, .int 1, .null]) rfl ?_))
  refine t_iconst (by decide +kernel) ki_0 (pn 3 rfl ?_)
  refine s_istore_n (i := 3) (by decide +kernel) (Nat.le_of_ble_eq_true rfl) (pn 4 rfl (t_store (ls' := [.ref 159, .int x1, .int 1, .int 0]) rfl ?_))
  exact h
theorem sgM_rowsOf_4 {d : Nat} {s : pm_S} {M : pm_M} {l1 : Int32} {l2 : Int32} {l3 : Int32} {Q : Int32 → pm_S → pm_M → Prop}  (h : (((l1 ≤ l3) → Q l2 s M) ∧ (¬ (l1 ≤ l3) → wM_rowsOf d 4 [.ref 159, .int l1, .int (l2 * (M.1 160 1)), .int (l3 + 1)] [] s M Q))) : wM_rowsOf d 4 [.ref 159, .int l1, .int l2, .int l3] [] s M Q := by
  refine s_iload_n (i := 3) (by decide +kernel) rfl (pn 5 rfl ?_)
  refine s_iload_n (i := 1) (by decide +kernel) rfl (pn 6 rfl ?_)
  refine s_icmp_ge (off := 18) (tgt := 24) (by decide +kernel) rfl (fun c1 => ?_) (fun c1 => (pn 9 rfl ?_))
  · have h := h.1 c1
    refine s_iload_n (i := 2) (by decide +kernel) rfl (pn 25 rfl ?_)
    exact s_ireturn (st := []) (by decide +kernel) (Or.inl rfl) ⟨_, rfl, s, rfl, h⟩
  · have h := h.2 c1
    refine s_iload_n (i := 2) (by decide +kernel) rfl (pn 10 rfl ?_)
    refine s_aload_n (i := 0) (by decide +kernel) rfl (pn 11 rfl ?_)
    refine s_getfield (v := .ref 160) (by decide +kernel) fr_12_13 lq_159 (congrArg Prod.fst sh_159) (fv_ref pf_159_1) (pn 14 rfl ?_)
    refine t_iconst (by decide +kernel) ki_1 (pn 15 rfl ?_)
    refine t_iaload (v := M.1 160 1) (by decide +kernel) ⟨Or.inl lq_160, congrArg Prod.fst sh_160⟩ (al_in sh_160 (vp_lit (n := 3870) tn_1 (by decide) (by decide))) (by rw [tn_1] <;> rfl) (pn 16 rfl ?_)
    refine s_imul (by decide +kernel) (pn 17 rfl ?_)
    refine s_istore_n (i := 2) (by decide +kernel) (Nat.le_of_ble_eq_true rfl) (pn 18 rfl (t_store (ls' := [.ref 159, .int l1, .int (l2 * (M.1 160 1)), .int l3]) rfl ?_))
    refine t_iinc (i := 3) (n := 1) (ls' := [.ref 159, .int l1, .int (l2 * (M.1 160 1)), .int (l3 + 1)]) (by decide +kernel) rfl (Nat.le_of_ble_eq_true rfl) kn_1 rfl (pn 21 rfl ?_)
    refine s_goto (off := -17) (tgt := 4) (by decide +kernel) rfl ?_
    exact h
abbrev wM_laysLeft (d pc : Nat) (ls st : List Value) (s : pm_S) (M : pm_M) (Q : pm_S → pm_M → Prop) : Prop := wV d prog_14_method_89_code 12 none false pc ls st s M Q
theorem enM_laysLeft {d : Nat} {s : pm_S} {M : pm_M} {x1 : Int32} {x2 : Int32} {Q : pm_S → pm_M → Prop}  (h : wM_laysLeft d 7 [.ref 159, .null, .null, .int x2, .int (x1 - 1)] [] s M Q) : cV (d + 1) yM_laysLeft [.ref 159, .int x1, .int x2] s M Q := by
  refine pm_toV (by decide) (Nat.le_of_ble_eq_true rfl) ?_
  show wM_laysLeft d 0 [.ref 159, .int x1, .int x2, .null, .null] [] s M Q
  refine s_iload_n (i := 2) (by decide +kernel) rfl (pn 1 rfl ?_)
  refine s_istore_n (i := 3) (by decide +kernel) (Nat.le_of_ble_eq_true rfl) (pn 2 rfl (t_store (ls' := [.ref 159, .int x1, .int x2, .int x2, .null]) rfl ?_))
  refine s_iload_n (i := 1) (by decide +kernel) rfl (pn 3 rfl ?_)
  refine t_iconst (by decide +kernel) ki_1 (pn 4 rfl ?_)
  refine s_isub (by decide +kernel) (pn 5 rfl ?_)
  refine s_istore (i := 4) (by decide +kernel) (Nat.le_of_ble_eq_true rfl) (pn 7 rfl (t_store (ls' := [.ref 159, .int x1, .int x2, .int x2, .int (x1 - 1)]) rfl ?_))
  exact pm_weak [.ref 159, .null, .null, .int x2, .int (x1 - 1)] (pm_le_cons (Or.inr rfl) (pm_le_cons (Or.inl rfl) (pm_le_cons (Or.inl rfl) (pm_le_cons (Or.inr rfl) (pm_le_cons (Or.inr rfl) pm_le_nil))))) h
theorem sgM_laysLeft_7 {d : Nat} {s : pm_S} {M : pm_M} {l3 : Int32} {l4 : Int32} {Q : pm_S → pm_M → Prop}  (h : (((l4 < 0) → Q s M) ∧ (¬ (l4 < 0) → (¬ (M.1 160 1) = 0) ∧ vp_in l4 3 ∧ (¬ (M.1 160 1) = 0) ∧ wM_laysLeft d 7 [.ref 159, .null, .null, .int (l3 / (M.1 160 1)), .int (l4 + (-1))] [] s (pm_si M 167 l4.toNatClampNeg (l3 - l3 / (M.1 160 1) * (M.1 160 1))) Q))) : wM_laysLeft d 7 [.ref 159, .null, .null, .int l3, .int l4] [] s M Q := by
  refine s_iload (i := 4) (by decide +kernel) rfl (pn 9 rfl ?_)
  refine s_if_lt (off := 33) (tgt := 42) (by decide +kernel) rfl (fun c1 => ?_) (fun c1 => (pn 12 rfl ?_))
  · have h := h.1 c1
    exact s_return (st := []) (by decide +kernel) rfl ⟨rfl, s, rfl, h⟩
  · have h := h.2 c1
    refine s_aload_n (i := 0) (by decide +kernel) rfl (pn 13 rfl ?_)
    refine s_getfield (v := .ref 167) (by decide +kernel) fr_12_39 lq_159 (congrArg Prod.fst sh_159) (fv_ref pf_159_21) (pn 16 rfl ?_)
    refine s_iload (i := 4) (by decide +kernel) rfl (pn 18 rfl ?_)
    refine s_iload_n (i := 3) (by decide +kernel) rfl (pn 19 rfl ?_)
    refine s_aload_n (i := 0) (by decide +kernel) rfl (pn 20 rfl ?_)
    refine s_getfield (v := .ref 160) (by decide +kernel) fr_12_13 lq_159 (congrArg Prod.fst sh_159) (fv_ref pf_159_1) (pn 23 rfl ?_)
    refine t_iconst (by decide +kernel) ki_1 (pn 24 rfl ?_)
    refine t_iaload (v := M.1 160 1) (by decide +kernel) ⟨Or.inl lq_160, congrArg Prod.fst sh_160⟩ (al_in sh_160 (vp_lit (n := 3870) tn_1 (by decide) (by decide))) (by rw [tn_1] <;> rfl) (pn 25 rfl ?_)
    obtain ⟨b1, h⟩ := h
    refine s_irem (by decide +kernel) b1 (pn 26 rfl ?_)
    obtain ⟨b2, h⟩ := h
    refine t_iastore (k := l4.toNatClampNeg) (by decide +kernel) ⟨lq_167, congrArg Prod.fst sh_167⟩ (al_in sh_167 b2) rfl (pn 27 rfl ?_)
    refine s_iload_n (i := 3) (by decide +kernel) rfl (pn 28 rfl ?_)
    refine s_aload_n (i := 0) (by decide +kernel) rfl (pn 29 rfl ?_)
    refine s_getfield (v := .ref 160) (by decide +kernel) fr_12_13 lq_159 (congrArg Prod.fst sh_159) (fv_ref pf_159_1) (pn 32 rfl ?_)
    refine t_iconst (by decide +kernel) ki_1 (pn 33 rfl ?_)
    refine t_iaload (v := M.1 160 1) (by decide +kernel) ⟨Or.inl lq_160, congrArg Prod.fst sh_160⟩ (al_in sh_160 (vp_lit (n := 3870) tn_1 (by decide) (by decide))) (by rw [tn_1] <;> rfl) (pn 34 rfl ?_)
    obtain ⟨b3, h⟩ := h
    refine s_idiv (by decide +kernel) b3 (pn 35 rfl ?_)
    refine s_istore_n (i := 3) (by decide +kernel) (Nat.le_of_ble_eq_true rfl) (pn 36 rfl (t_store (ls' := [.ref 159, .null, .null, .int (l3 / (M.1 160 1)), .int l4]) rfl ?_))
    refine t_iinc (i := 4) (n := -1) (ls' := [.ref 159, .null, .null, .int (l3 / (M.1 160 1)), .int (l4 + (-1))]) (by decide +kernel) rfl (Nat.le_of_ble_eq_true rfl) kn_m1 rfl (pn 39 rfl ?_)
    refine s_goto (off := -32) (tgt := 7) (by decide +kernel) rfl ?_
    exact h
abbrev wM_isPlan (d pc : Nat) (ls st : List Value) (s : pm_S) (M : pm_M) (Q : Int32 → pm_S → pm_M → Prop) : Prop := wI d prog_14_method_88_code 12 (some .boolean) false pc ls st s M Q
theorem enM_isPlan {d : Nat} {s : pm_S} {M : pm_M} {x1 : Int32} {Q : Int32 → pm_S → pm_M → Prop}  (h : cV d yM_clears [.ref 159] s M (fun s1 M1 => wM_isPlan d 6 [.ref 159, .int x1, .int 0, .null] [] s1 M1 Q)) : cI (d + 1) yM_isPlan [.ref 159, .int x1] s M Q := by
  refine pm_toI (by decide) (Nat.le_of_ble_eq_true rfl) ?_
  show wM_isPlan d 0 [.ref 159, .int x1, .null, .null] [] s M Q
  refine s_aload_n (i := 0) (by decide +kernel) rfl (pn 1 rfl ?_)
  refine s_callvV [] rfl (by decide +kernel) mv_12_366 np_265 (Nat.le_of_ble_eq_true rfl) lq_159 ((congrArg Prod.fst sh_159).trans oc_265) (cV_use h (fun s1 M1 h => (pn 4 rfl ?_)))
  refine t_iconst (by decide +kernel) ki_0 (pn 5 rfl ?_)
  refine s_istore_n (i := 2) (by decide +kernel) (Nat.le_of_ble_eq_true rfl) (pn 6 rfl (t_store (ls' := [.ref 159, .int x1, .int 0, .null]) rfl ?_))
  exact h
theorem sgM_isPlan_6 {d : Nat} {s : pm_S} {M : pm_M} {l1 : Int32} {l2 : Int32} {Q : Int32 → pm_S → pm_M → Prop}  (h : vp_in l1 4 ∧ ((((M.1 183 l1.toNatClampNeg) ≤ l2) → wM_isPlan d 53 [.ref 159, .int l1, .int 0, .null] [] s M Q) ∧ (¬ ((M.1 183 l1.toNatClampNeg) ≤ l2) → vp_in (((40 : Int32) * l1) + l2) 160 ∧ vp_in l2 3 ∧ vp_in ((50 : Int32) + (((M.2 184 (((40 : Int32) * l1) + l2).toNatClampNeg).toInt32) / 10)) 3870 ∧ wM_isPlan d 6 [.ref 159, .int l1, .int (l2 + 1), .null] [] s (pm_si M 160 ((50 : Int32) + (((M.2 184 (((40 : Int32) * l1) + l2).toNatClampNeg).toInt32) / 10)).toNatClampNeg (M.1 167 l2.toNatClampNeg)) Q))) : wM_isPlan d 6 [.ref 159, .int l1, .int l2, .null] [] s M Q := by
  refine s_iload_n (i := 2) (by decide +kernel) rfl (pn 7 rfl ?_)
  refine s_aload_n (i := 0) (by decide +kernel) rfl (pn 8 rfl ?_)
  refine s_getfield (v := .ref 183) (by decide +kernel) fr_12_91 lq_159 (congrArg Prod.fst sh_159) (fv_ref pf_159_40) (pn 11 rfl ?_)
  refine s_iload_n (i := 1) (by decide +kernel) rfl (pn 12 rfl ?_)
  obtain ⟨b1, h⟩ := h
  refine t_iaload (v := M.1 183 l1.toNatClampNeg) (by decide +kernel) ⟨Or.inl lq_183, congrArg Prod.fst sh_183⟩ (al_in sh_183 b1) rfl (pn 13 rfl ?_)
  refine s_icmp_ge (off := 38) (tgt := 51) (by decide +kernel) rfl (fun c1 => ?_) (fun c1 => (pn 16 rfl ?_))
  · have h := h.1 c1
    refine t_iconst (by decide +kernel) ki_0 (pn 52 rfl ?_)
    refine s_istore_n (i := 2) (by decide +kernel) (Nat.le_of_ble_eq_true rfl) (pn 53 rfl (t_store (ls' := [.ref 159, .int l1, .int 0, .null]) rfl ?_))
    exact h
  · have h := h.2 c1
    refine s_aload_n (i := 0) (by decide +kernel) rfl (pn 17 rfl ?_)
    refine s_getfield (v := .ref 160) (by decide +kernel) fr_12_13 lq_159 (congrArg Prod.fst sh_159) (fv_ref pf_159_1) (pn 20 rfl ?_)
    refine t_bipush (by decide +kernel) kb_50 (pn 22 rfl ?_)
    refine s_aload_n (i := 0) (by decide +kernel) rfl (pn 23 rfl ?_)
    refine s_getfield (v := .ref 184) (by decide +kernel) fr_12_94 lq_159 (congrArg Prod.fst sh_159) (fv_ref pf_159_41) (pn 26 rfl ?_)
    refine t_bipush (by decide +kernel) kb_40 (pn 28 rfl ?_)
    refine s_iload_n (i := 1) (by decide +kernel) rfl (pn 29 rfl ?_)
    refine s_imul (by decide +kernel) (pn 30 rfl ?_)
    refine s_iload_n (i := 2) (by decide +kernel) rfl (pn 31 rfl ?_)
    refine s_iadd (by decide +kernel) (pn 32 rfl ?_)
    obtain ⟨b2, h⟩ := h
    refine t_laload (v := M.2 184 (((40 : Int32) * l1) + l2).toNatClampNeg) (by decide +kernel) ⟨lq_184, congrArg Prod.fst sh_184⟩ (al_in sh_184 b2) rfl (pn 33 rfl ?_)
    refine s_l2i (by decide +kernel) (pn 34 rfl ?_)
    refine t_bipush (by decide +kernel) kb_10 (pn 36 rfl ?_)
    refine s_idiv (by decide +kernel) (by decide) (pn 37 rfl ?_)
    refine s_iadd (by decide +kernel) (pn 38 rfl ?_)
    refine s_aload_n (i := 0) (by decide +kernel) rfl (pn 39 rfl ?_)
    refine s_getfield (v := .ref 167) (by decide +kernel) fr_12_39 lq_159 (congrArg Prod.fst sh_159) (fv_ref pf_159_21) (pn 42 rfl ?_)
    refine s_iload_n (i := 2) (by decide +kernel) rfl (pn 43 rfl ?_)
    obtain ⟨b3, h⟩ := h
    refine t_iaload (v := M.1 167 l2.toNatClampNeg) (by decide +kernel) ⟨Or.inl lq_167, congrArg Prod.fst sh_167⟩ (al_in sh_167 b3) rfl (pn 44 rfl ?_)
    obtain ⟨b4, h⟩ := h
    refine t_iastore (k := ((50 : Int32) + (((M.2 184 (((40 : Int32) * l1) + l2).toNatClampNeg).toInt32) / 10)).toNatClampNeg) (by decide +kernel) ⟨lq_160, congrArg Prod.fst sh_160⟩ (al_in sh_160 b4) rfl (pn 45 rfl ?_)
    refine t_iinc (i := 2) (n := 1) (ls' := [.ref 159, .int l1, .int (l2 + 1), .null]) (by decide +kernel) rfl (Nat.le_of_ble_eq_true rfl) kn_1 rfl (pn 48 rfl ?_)
    refine s_goto (off := -42) (tgt := 6) (by decide +kernel) rfl ?_
    exact h
theorem sgM_isPlan_53 {d : Nat} {s : pm_S} {M : pm_M} {l1 : Int32} {l2 : Int32} {Q : Int32 → pm_S → pm_M → Prop}  (h : (((8 < l2) → wM_isPlan d 74 [.ref 159, .int l1, .int 1, .int 0] [] s M Q) ∧ (¬ (8 < l2) → cI d yM_rolls [.ref 159] s M (fun r1 s1 M1 => wM_isPlan d 53 [.ref 159, .int l1, .int (l2 + 1), .null] [] s1 M1 Q)))) : wM_isPlan d 53 [.ref 159, .int l1, .int l2, .null] [] s M Q := by
  refine s_iload_n (i := 2) (by decide +kernel) rfl (pn 54 rfl ?_)
  refine t_bipush (by decide +kernel) kb_8 (pn 56 rfl ?_)
  refine s_icmp_gt (off := 14) (tgt := 70) (by decide +kernel) rfl (fun c1 => ?_) (fun c1 => (pn 59 rfl ?_))
  · have h := h.1 c1
    refine t_iconst (by decide +kernel) ki_1 (pn 71 rfl ?_)
    refine s_istore_n (i := 2) (by decide +kernel) (Nat.le_of_ble_eq_true rfl) (pn 72 rfl (t_store (ls' := [.ref 159, .int l1, .int 1, .null]) rfl ?_))
    refine t_iconst (by decide +kernel) ki_0 (pn 73 rfl ?_)
    refine s_istore_n (i := 3) (by decide +kernel) (Nat.le_of_ble_eq_true rfl) (pn 74 rfl (t_store (ls' := [.ref 159, .int l1, .int 1, .int 0]) rfl ?_))
    exact h
  · have h := h.2 c1
    refine s_aload_n (i := 0) (by decide +kernel) rfl (pn 60 rfl ?_)
    refine s_callvI [] rfl (by decide +kernel) mv_12_278 np_249 (Nat.le_of_ble_eq_true rfl) lq_159 ((congrArg Prod.fst sh_159).trans oc_249) (cI_use h (fun r1 s1 M1 h => (pn 63 rfl ?_)))
    refine s_pop (by decide +kernel) rfl (pn 64 rfl ?_)
    refine t_iinc (i := 2) (n := 1) (ls' := [.ref 159, .int l1, .int (l2 + 1), .null]) (by decide +kernel) rfl (Nat.le_of_ble_eq_true rfl) kn_1 rfl (pn 67 rfl ?_)
    refine s_goto (off := -14) (tgt := 53) (by decide +kernel) rfl ?_
    exact h
theorem sgM_isPlan_74 {d : Nat} {s : pm_S} {M : pm_M} {l1 : Int32} {l2 : Int32} {l3 : Int32} {Q : Int32 → pm_S → pm_M → Prop}  (h : vp_in l1 4 ∧ ((((M.1 183 l1.toNatClampNeg) ≤ l3) → cV d yM_isAgain [.ref 159] s M (fun s1 M1 => (l2 = 0 ∨ l2 = 1) ∧ Q l2 s1 M1)) ∧ (¬ ((M.1 183 l1.toNatClampNeg) ≤ l3) → vp_in (((40 : Int32) * l1) + l3) 160 ∧ vp_in ((50 : Int32) + (((M.2 184 (((40 : Int32) * l1) + l3).toNatClampNeg).toInt32) / 10)) 3870 ∧ vp_in (((40 : Int32) * l1) + l3) 160 ∧ (∀ v1 : Int32, v1 = l2 &&& ((if ((M.1 160 ((50 : Int32) + (((M.2 184 (((40 : Int32) * l1) + l3).toNatClampNeg).toInt32) / 10)).toNatClampNeg).toInt64) = ((10 : Int64) + ((M.2 184 (((40 : Int32) * l1) + l3).toNatClampNeg) - (M.2 184 (((40 : Int32) * l1) + l3).toNatClampNeg) / 10 * 10)) then 1 else 0) : Int32) → wM_isPlan d 74 [.ref 159, .int l1, .int v1, .int (l3 + 1)] [] s M Q)))) : wM_isPlan d 74 [.ref 159, .int l1, .int l2, .int l3] [] s M Q := by
  refine s_iload_n (i := 3) (by decide +kernel) rfl (pn 75 rfl ?_)
  refine s_aload_n (i := 0) (by decide +kernel) rfl (pn 76 rfl ?_)
  refine s_getfield (v := .ref 183) (by decide +kernel) fr_12_91 lq_159 (congrArg Prod.fst sh_159) (fv_ref pf_159_40) (pn 79 rfl ?_)
  refine s_iload_n (i := 1) (by decide +kernel) rfl (pn 80 rfl ?_)
  obtain ⟨b1, h⟩ := h
  refine t_iaload (v := M.1 183 l1.toNatClampNeg) (by decide +kernel) ⟨Or.inl lq_183, congrArg Prod.fst sh_183⟩ (al_in sh_183 b1) rfl (pn 81 rfl ?_)
  refine s_icmp_ge (off := 64) (tgt := 145) (by decide +kernel) rfl (fun c1 => ?_) (fun c1 => (pn 84 rfl ?_))
  · have h := h.1 c1
    refine s_aload_n (i := 0) (by decide +kernel) rfl (pn 146 rfl ?_)
    refine s_callvV [] rfl (by decide +kernel) mv_12_358 np_258 (Nat.le_of_ble_eq_true rfl) lq_159 ((congrArg Prod.fst sh_159).trans oc_258) (cV_use h (fun s1 M1 h => (pn 149 rfl ?_)))
    refine s_iload_n (i := 2) (by decide +kernel) rfl (pn 150 rfl ?_)
    obtain ⟨b2, h⟩ := h
    exact s_ireturn (st := []) (by decide +kernel) (Or.inr ⟨rfl, b2⟩) ⟨_, rfl, s1, rfl, h⟩
  · have h := h.2 c1
    refine s_iload_n (i := 2) (by decide +kernel) rfl (pn 85 rfl ?_)
    refine s_aload_n (i := 0) (by decide +kernel) rfl (pn 86 rfl ?_)
    refine s_getfield (v := .ref 160) (by decide +kernel) fr_12_13 lq_159 (congrArg Prod.fst sh_159) (fv_ref pf_159_1) (pn 89 rfl ?_)
    refine t_bipush (by decide +kernel) kb_50 (pn 91 rfl ?_)
    refine s_aload_n (i := 0) (by decide +kernel) rfl (pn 92 rfl ?_)
    refine s_getfield (v := .ref 184) (by decide +kernel) fr_12_94 lq_159 (congrArg Prod.fst sh_159) (fv_ref pf_159_41) (pn 95 rfl ?_)
    refine t_bipush (by decide +kernel) kb_40 (pn 97 rfl ?_)
    refine s_iload_n (i := 1) (by decide +kernel) rfl (pn 98 rfl ?_)
    refine s_imul (by decide +kernel) (pn 99 rfl ?_)
    refine s_iload_n (i := 3) (by decide +kernel) rfl (pn 100 rfl ?_)
    refine s_iadd (by decide +kernel) (pn 101 rfl ?_)
    obtain ⟨b3, h⟩ := h
    refine t_laload (v := M.2 184 (((40 : Int32) * l1) + l3).toNatClampNeg) (by decide +kernel) ⟨lq_184, congrArg Prod.fst sh_184⟩ (al_in sh_184 b3) rfl (pn 102 rfl ?_)
    refine s_l2i (by decide +kernel) (pn 103 rfl ?_)
    refine t_bipush (by decide +kernel) kb_10 (pn 105 rfl ?_)
    refine s_idiv (by decide +kernel) (by decide) (pn 106 rfl ?_)
    refine s_iadd (by decide +kernel) (pn 107 rfl ?_)
    obtain ⟨b4, h⟩ := h
    refine t_iaload (v := M.1 160 ((50 : Int32) + (((M.2 184 (((40 : Int32) * l1) + l3).toNatClampNeg).toInt32) / 10)).toNatClampNeg) (by decide +kernel) ⟨Or.inl lq_160, congrArg Prod.fst sh_160⟩ (al_in sh_160 b4) rfl (pn 108 rfl ?_)
    refine s_i2l (by decide +kernel) (pn 109 rfl ?_)
    refine s_ldc2_w (by decide +kernel) kl_12_320 (pn 112 rfl ?_)
    refine s_aload_n (i := 0) (by decide +kernel) rfl (pn 113 rfl ?_)
    refine s_getfield (v := .ref 184) (by decide +kernel) fr_12_94 lq_159 (congrArg Prod.fst sh_159) (fv_ref pf_159_41) (pn 116 rfl ?_)
    refine t_bipush (by decide +kernel) kb_40 (pn 118 rfl ?_)
    refine s_iload_n (i := 1) (by decide +kernel) rfl (pn 119 rfl ?_)
    refine s_imul (by decide +kernel) (pn 120 rfl ?_)
    refine s_iload_n (i := 3) (by decide +kernel) rfl (pn 121 rfl ?_)
    refine s_iadd (by decide +kernel) (pn 122 rfl ?_)
    obtain ⟨b5, h⟩ := h
    refine t_laload (v := M.2 184 (((40 : Int32) * l1) + l3).toNatClampNeg) (by decide +kernel) ⟨lq_184, congrArg Prod.fst sh_184⟩ (al_in sh_184 b5) rfl (pn 123 rfl ?_)
    refine s_ldc2_w (by decide +kernel) kl_12_320 (pn 126 rfl ?_)
    refine s_lrem (by decide +kernel) (by decide) (pn 127 rfl ?_)
    refine s_ladd (by decide +kernel) (pn 128 rfl ?_)
    have k1 : ∀ (z1 : Int32) (z1e : z1 = ((if ((M.1 160 ((50 : Int32) + (((M.2 184 (((40 : Int32) * l1) + l3).toNatClampNeg).toInt32) / 10)).toNatClampNeg).toInt64) = ((10 : Int64) + ((M.2 184 (((40 : Int32) * l1) + l3).toNatClampNeg) - (M.2 184 (((40 : Int32) * l1) + l3).toNatClampNeg) / 10 * 10)) then 1 else 0) : Int32)), wM_isPlan d 137 [.ref 159, .int l1, .int l2, .int l3] [.int z1, .int l2] s M Q := by
      intro z1 z1e
      subst z1e
      refine s_iand (by decide +kernel) (pn 138 rfl ?_)
      obtain ⟨v1, ev1⟩ : ∃ zz : Int32, zz = l2 &&& ((if ((M.1 160 ((50 : Int32) + (((M.2 184 (((40 : Int32) * l1) + l3).toNatClampNeg).toInt32) / 10)).toNatClampNeg).toInt64) = ((10 : Int64) + ((M.2 184 (((40 : Int32) * l1) + l3).toNatClampNeg) - (M.2 184 (((40 : Int32) * l1) + l3).toNatClampNeg) / 10 * 10)) then 1 else 0) : Int32) := ⟨_, rfl⟩
      have h := h v1 ev1
      rw [← ev1]
      refine s_istore_n (i := 2) (by decide +kernel) (Nat.le_of_ble_eq_true rfl) (pn 139 rfl (t_store (ls' := [.ref 159, .int l1, .int v1, .int l3]) rfl ?_))
      refine t_iinc (i := 3) (n := 1) (ls' := [.ref 159, .int l1, .int v1, .int (l3 + 1)]) (by decide +kernel) rfl (Nat.le_of_ble_eq_true rfl) kn_1 rfl (pn 142 rfl ?_)
      refine s_goto (off := -68) (tgt := 74) (by decide +kernel) rfl ?_
      exact h
    refine t_lc_ne (off := 7) (tgt := 136) (by decide +kernel) (by decide +kernel) rfl (fun c2 => ?_) (fun c2 => (pn 132 rfl ?_))
    · refine t_iconst (by decide +kernel) ki_0 (pn 137 rfl ?_)
      exact k1 _ (by simp only [if_neg c2])
    · refine t_iconst (by decide +kernel) ki_1 (pn 133 rfl ?_)
      refine s_goto (off := 4) (tgt := 137) (by decide +kernel) rfl ?_
      exact k1 _ (by simp only [if_pos c2])
abbrev wM_plans (d pc : Nat) (ls st : List Value) (s : pm_S) (M : pm_M) (Q : Int32 → pm_S → pm_M → Prop) : Prop := wI d prog_14_method_92_code 12 (some .int) false pc ls st s M Q
theorem enM_plans {d : Nat} {s : pm_S} {M : pm_M} {x1 : Int32} {Q : Int32 → pm_S → pm_M → Prop}  (h : cI d yM_noPlan [.ref 159, .int x1] s (pm_si M 159 0 0) (fun r1 s1 M1 => (((r1 = 0) → wM_plans d 22 [.ref 159, .int x1, .null, .int 0, .int 0] [] s1 M1 Q) ∧ (¬ (r1 = 0) → Q r1 s1 M1)))) : cI (d + 1) yM_plans [.ref 159, .int x1] s M Q := by
  refine pm_toI (by decide) (Nat.le_of_ble_eq_true rfl) ?_
  show wM_plans d 0 [.ref 159, .int x1, .null, .null, .null] [] s M Q
  refine s_aload_n (i := 0) (by decide +kernel) rfl (pn 1 rfl ?_)
  refine t_iconst (by decide +kernel) ki_0 (pn 2 rfl ?_)
  refine s_putfieldI (by decide +kernel) fr_12_1 lq_159 (congrArg Prod.fst sh_159) (fun q => by cases q) (Or.inl rfl) (pn 5 rfl ?_)
  refine s_aload_n (i := 0) (by decide +kernel) rfl (pn 6 rfl ?_)
  refine s_iload_n (i := 1) (by decide +kernel) rfl (pn 7 rfl ?_)
  refine s_callvI [.int x1] rfl (by decide +kernel) mv_12_378 np_269 (Nat.le_of_ble_eq_true rfl) lq_159 ((congrArg Prod.fst sh_159).trans oc_269) (cI_use h (fun r1 s1 M1 h => (pn 10 rfl ?_)))
  refine s_istore_n (i := 2) (by decide +kernel) (Nat.le_of_ble_eq_true rfl) (pn 11 rfl (t_store (ls' := [.ref 159, .int x1, .int r1, .null, .null]) rfl ?_))
  refine s_iload_n (i := 2) (by decide +kernel) rfl (pn 12 rfl ?_)
  refine s_if_eq (off := 5) (tgt := 17) (by decide +kernel) rfl (fun c1 => ?_) (fun c1 => (pn 15 rfl ?_))
  · have h := h.1 c1
    refine t_iconst (by decide +kernel) ki_0 (pn 18 rfl ?_)
    refine s_istore_n (i := 3) (by decide +kernel) (Nat.le_of_ble_eq_true rfl) (pn 19 rfl (t_store (ls' := [.ref 159, .int x1, .int r1, .int 0, .null]) rfl ?_))
    refine t_iconst (by decide +kernel) ki_0 (pn 20 rfl ?_)
    refine s_istore (i := 4) (by decide +kernel) (Nat.le_of_ble_eq_true rfl) (pn 22 rfl (t_store (ls' := [.ref 159, .int x1, .int r1, .int 0, .int 0]) rfl ?_))
    exact pm_weak [.ref 159, .int x1, .null, .int 0, .int 0] (pm_le_cons (Or.inr rfl) (pm_le_cons (Or.inr rfl) (pm_le_cons (Or.inl rfl) (pm_le_cons (Or.inr rfl) (pm_le_cons (Or.inr rfl) pm_le_nil))))) h
  · have h := h.2 c1
    refine s_iload_n (i := 2) (by decide +kernel) rfl (pn 16 rfl ?_)
    exact s_ireturn (st := []) (by decide +kernel) (Or.inl rfl) ⟨_, rfl, s1, rfl, h⟩
theorem sgM_plans_22 {d : Nat} {s : pm_S} {M : pm_M} {l1 : Int32} {l3 : Int32} {l4 : Int32} {Q : Int32 → pm_S → pm_M → Prop}  (h : vp_in l1 4 ∧ cI d yM_rowsOf [.ref 159, .int (M.1 183 l1.toNatClampNeg)] s M (fun r1 s1 M1 => (((r1 ≤ l4) → Q l3 s1 M1) ∧ (¬ (r1 ≤ l4) → vp_in l1 4 ∧ cV d yM_laysLeft [.ref 159, .int (M1.1 183 l1.toNatClampNeg), .int l4] s1 M1 (fun s2 M2 => cI d yM_isPlan [.ref 159, .int l1] s2 M2 (fun r2 s3 M3 => wM_plans d 22 [.ref 159, .int l1, .null, .int (l3 + ((if r2 = 0 then 0 else 1) : Int32)), .int (l4 + 1)] [] s3 M3 Q)))))) : wM_plans d 22 [.ref 159, .int l1, .null, .int l3, .int l4] [] s M Q := by
  refine s_iload (i := 4) (by decide +kernel) rfl (pn 24 rfl ?_)
  refine s_aload_n (i := 0) (by decide +kernel) rfl (pn 25 rfl ?_)
  refine s_aload_n (i := 0) (by decide +kernel) rfl (pn 26 rfl ?_)
  refine s_getfield (v := .ref 183) (by decide +kernel) fr_12_91 lq_159 (congrArg Prod.fst sh_159) (fv_ref pf_159_40) (pn 29 rfl ?_)
  refine s_iload_n (i := 1) (by decide +kernel) rfl (pn 30 rfl ?_)
  obtain ⟨b1, h⟩ := h
  refine t_iaload (v := M.1 183 l1.toNatClampNeg) (by decide +kernel) ⟨Or.inl lq_183, congrArg Prod.fst sh_183⟩ (al_in sh_183 b1) rfl (pn 31 rfl ?_)
  refine s_callvI [.int (M.1 183 l1.toNatClampNeg)] rfl (by decide +kernel) mv_12_381 np_270 (Nat.le_of_ble_eq_true rfl) lq_159 ((congrArg Prod.fst sh_159).trans oc_270) (cI_use h (fun r1 s1 M1 h => (pn 34 rfl ?_)))
  refine s_icmp_ge (off := 37) (tgt := 71) (by decide +kernel) rfl (fun c1 => ?_) (fun c1 => (pn 37 rfl ?_))
  · have h := h.1 c1
    refine s_iload_n (i := 3) (by decide +kernel) rfl (pn 72 rfl ?_)
    exact s_ireturn (st := []) (by decide +kernel) (Or.inl rfl) ⟨_, rfl, s1, rfl, h⟩
  · have h := h.2 c1
    refine s_aload_n (i := 0) (by decide +kernel) rfl (pn 38 rfl ?_)
    refine s_aload_n (i := 0) (by decide +kernel) rfl (pn 39 rfl ?_)
    refine s_getfield (v := .ref 183) (by decide +kernel) fr_12_91 lq_159 (congrArg Prod.fst sh_159) (fv_ref pf_159_40) (pn 42 rfl ?_)
    refine s_iload_n (i := 1) (by decide +kernel) rfl (pn 43 rfl ?_)
    obtain ⟨b2, h⟩ := h
    refine t_iaload (v := M1.1 183 l1.toNatClampNeg) (by decide +kernel) ⟨Or.inl lq_183, congrArg Prod.fst sh_183⟩ (al_in sh_183 b2) rfl (pn 44 rfl ?_)
    refine s_iload (i := 4) (by decide +kernel) rfl (pn 46 rfl ?_)
    refine s_callvV [.int (M1.1 183 l1.toNatClampNeg), .int l4] rfl (by decide +kernel) mv_12_384 np_271 (Nat.le_of_ble_eq_true rfl) lq_159 ((congrArg Prod.fst sh_159).trans oc_271) (cV_use h (fun s2 M2 h => (pn 49 rfl ?_)))
    refine s_iload_n (i := 3) (by decide +kernel) rfl (pn 50 rfl ?_)
    refine s_aload_n (i := 0) (by decide +kernel) rfl (pn 51 rfl ?_)
    refine s_iload_n (i := 1) (by decide +kernel) rfl (pn 52 rfl ?_)
    refine s_callvI [.int l1] rfl (by decide +kernel) mv_12_387 np_272 (Nat.le_of_ble_eq_true rfl) lq_159 ((congrArg Prod.fst sh_159).trans oc_272) (cI_use h (fun r2 s3 M3 h => (pn 55 rfl ?_)))
    have k1 : ∀ (z1 : Int32) (z1e : z1 = ((if r2 = 0 then 0 else 1) : Int32)), wM_plans d 63 [.ref 159, .int l1, .null, .int l3, .int l4] [.int z1, .int l3] s3 M3 Q := by
      intro z1 z1e
      subst z1e
      refine s_iadd (by decide +kernel) (pn 64 rfl ?_)
      refine s_istore_n (i := 3) (by decide +kernel) (Nat.le_of_ble_eq_true rfl) (pn 65 rfl (t_store (ls' := [.ref 159, .int l1, .null, .int (l3 + ((if r2 = 0 then 0 else 1) : Int32)), .int l4]) rfl ?_))
      refine t_iinc (i := 4) (n := 1) (ls' := [.ref 159, .int l1, .null, .int (l3 + ((if r2 = 0 then 0 else 1) : Int32)), .int (l4 + 1)]) (by decide +kernel) rfl (Nat.le_of_ble_eq_true rfl) kn_1 rfl (pn 68 rfl ?_)
      refine s_goto (off := -46) (tgt := 22) (by decide +kernel) rfl ?_
      exact h
    refine s_if_eq (off := 7) (tgt := 62) (by decide +kernel) rfl (fun c2 => ?_) (fun c2 => (pn 58 rfl ?_))
    · refine t_iconst (by decide +kernel) ki_0 (pn 63 rfl ?_)
      exact k1 _ (by simp only [if_pos c2])
    · refine t_iconst (by decide +kernel) ki_1 (pn 59 rfl ?_)
      refine s_goto (off := 4) (tgt := 63) (by decide +kernel) rfl ?_
      exact k1 _ (by simp only [if_neg c2])
abbrev wM_match (d pc : Nat) (ls st : List Value) (s : pm_S) (M : pm_M) (Q : Int32 → pm_S → pm_M → Prop) : Prop := wI d prog_14_method_96_code 12 (some .int) false pc ls st s M Q
theorem enM_match {d : Nat} {s : pm_S} {M : pm_M} {x1 : Int32} {Q : Int32 → pm_S → pm_M → Prop}  (h : (((x1 = 0) → cV d yM_laysMatching [.ref 159] s (pm_si M 159 0 0) (fun s1 M1 => ((x1 = 0 → Q (M1.1 168 0) s1 M1) ∧ (¬ (x1 = 0) → wM_match d 49 [.ref 159, .int x1, .int 0, .int 0, .null] [] s1 M1 Q)))) ∧ (¬ (x1 = 0) → (((x1 < 10) → Q (-2) s (pm_si M 159 0 0)) ∧ (¬ (x1 < 10) → cI d yM_isPerson [.ref 159, .long ((x1 - 10).toInt64)] s (pm_si M 159 0 0) (fun r1 s2 M2 => ((r1 = 0 → Q (-2) s2 M2) ∧ (¬ (r1 = 0) → cV d yM_laysMatching [.ref 159] s2 M2 (fun s3 M3 => ((x1 = 0 → Q (M3.1 168 0) s3 M3) ∧ (¬ (x1 = 0) → wM_match d 49 [.ref 159, .int x1, .int 0, .int 0, .null] [] s3 M3 Q))))))))))) : cI (d + 1) yM_match [.ref 159, .int x1] s M Q := by
  refine pm_toI (by decide) (Nat.le_of_ble_eq_true rfl) ?_
  show wM_match d 0 [.ref 159, .int x1, .null, .null, .null] [] s M Q
  refine s_aload_n (i := 0) (by decide +kernel) rfl (pn 1 rfl ?_)
  refine t_iconst (by decide +kernel) ki_0 (pn 2 rfl ?_)
  refine s_putfieldI (by decide +kernel) fr_12_1 lq_159 (congrArg Prod.fst sh_159) (fun q => by cases q) (Or.inl rfl) (pn 5 rfl ?_)
  refine s_iload_n (i := 1) (by decide +kernel) rfl (pn 6 rfl ?_)
  refine s_if_eq (off := 24) (tgt := 30) (by decide +kernel) rfl (fun c1 => ?_) (fun c1 => (pn 9 rfl ?_))
  · have h := h.1 c1
    refine s_aload_n (i := 0) (by decide +kernel) rfl (pn 31 rfl ?_)
    refine s_callvV [] rfl (by decide +kernel) mv_12_400 np_275 (Nat.le_of_ble_eq_true rfl) lq_159 ((congrArg Prod.fst sh_159).trans oc_275) (cV_use h (fun s1 M1 h => (pn 34 rfl ?_)))
    refine s_iload_n (i := 1) (by decide +kernel) rfl (pn 35 rfl ?_)
    refine t_if_ne (off := 10) (tgt := 45) (by decide +kernel) rfl (fun c2 => ?_) (fun c2 => (pn 38 rfl ?_))
    · have h := h.2 c2
      refine t_iconst (by decide +kernel) ki_0 (pn 46 rfl ?_)
      refine s_istore_n (i := 2) (by decide +kernel) (Nat.le_of_ble_eq_true rfl) (pn 47 rfl (t_store (ls' := [.ref 159, .int x1, .int 0, .null, .null]) rfl ?_))
      refine t_iconst (by decide +kernel) ki_0 (pn 48 rfl ?_)
      refine s_istore_n (i := 3) (by decide +kernel) (Nat.le_of_ble_eq_true rfl) (pn 49 rfl (t_store (ls' := [.ref 159, .int x1, .int 0, .int 0, .null]) rfl ?_))
      exact h
    · have h := h.1 c2
      refine s_aload_n (i := 0) (by decide +kernel) rfl (pn 39 rfl ?_)
      refine s_getfield (v := .ref 168) (by decide +kernel) fr_12_42 lq_159 (congrArg Prod.fst sh_159) (fv_ref pf_159_22) (pn 42 rfl ?_)
      refine t_iconst (by decide +kernel) ki_0 (pn 43 rfl ?_)
      refine t_iaload (v := M1.1 168 0) (by decide +kernel) ⟨Or.inl lq_168, congrArg Prod.fst sh_168⟩ (al_in sh_168 (vp_lit (n := 1792) tn_0 (by decide) (by decide))) (by rw [tn_0] <;> rfl) (pn 44 rfl ?_)
      exact s_ireturn (st := []) (by decide +kernel) (Or.inl rfl) ⟨_, rfl, s1, rfl, h⟩
  · have h := h.2 c1
    refine s_iload_n (i := 1) (by decide +kernel) rfl (pn 10 rfl ?_)
    refine t_bipush (by decide +kernel) kb_10 (pn 12 rfl ?_)
    refine s_icmp_lt (off := 15) (tgt := 27) (by decide +kernel) rfl (fun c3 => ?_) (fun c3 => (pn 15 rfl ?_))
    · have h := h.1 c3
      refine t_bipush (by decide +kernel) kb_m2 (pn 29 rfl ?_)
      exact s_ireturn (st := []) (by decide +kernel) (Or.inl rfl) ⟨_, rfl, s, rfl, h⟩
    · have h := h.2 c3
      refine s_aload_n (i := 0) (by decide +kernel) rfl (pn 16 rfl ?_)
      refine s_iload_n (i := 1) (by decide +kernel) rfl (pn 17 rfl ?_)
      refine t_bipush (by decide +kernel) kb_10 (pn 19 rfl ?_)
      refine s_isub (by decide +kernel) (pn 20 rfl ?_)
      refine s_i2l (by decide +kernel) (pn 21 rfl ?_)
      refine s_callvI [.long ((x1 - 10).toInt64)] rfl (by decide +kernel) mv_12_231 np_219 (Nat.le_of_ble_eq_true rfl) lq_159 ((congrArg Prod.fst sh_159).trans oc_219) (cI_use h (fun r1 s2 M2 h => (pn 24 rfl ?_)))
      refine t_if_ne (off := 6) (tgt := 30) (by decide +kernel) rfl (fun c4 => ?_) (fun c4 => (pn 27 rfl ?_))
      · have h := h.2 c4
        refine s_aload_n (i := 0) (by decide +kernel) rfl (pn 31 rfl ?_)
        refine s_callvV [] rfl (by decide +kernel) mv_12_400 np_275 (Nat.le_of_ble_eq_true rfl) lq_159 ((congrArg Prod.fst sh_159).trans oc_275) (cV_use h (fun s3 M3 h => (pn 34 rfl ?_)))
        refine s_iload_n (i := 1) (by decide +kernel) rfl (pn 35 rfl ?_)
        refine t_if_ne (off := 10) (tgt := 45) (by decide +kernel) rfl (fun c5 => ?_) (fun c5 => (pn 38 rfl ?_))
        · have h := h.2 c5
          refine t_iconst (by decide +kernel) ki_0 (pn 46 rfl ?_)
          refine s_istore_n (i := 2) (by decide +kernel) (Nat.le_of_ble_eq_true rfl) (pn 47 rfl (t_store (ls' := [.ref 159, .int x1, .int 0, .null, .null]) rfl ?_))
          refine t_iconst (by decide +kernel) ki_0 (pn 48 rfl ?_)
          refine s_istore_n (i := 3) (by decide +kernel) (Nat.le_of_ble_eq_true rfl) (pn 49 rfl (t_store (ls' := [.ref 159, .int x1, .int 0, .int 0, .null]) rfl ?_))
          exact h
        · have h := h.1 c5
          refine s_aload_n (i := 0) (by decide +kernel) rfl (pn 39 rfl ?_)
          refine s_getfield (v := .ref 168) (by decide +kernel) fr_12_42 lq_159 (congrArg Prod.fst sh_159) (fv_ref pf_159_22) (pn 42 rfl ?_)
          refine t_iconst (by decide +kernel) ki_0 (pn 43 rfl ?_)
          refine t_iaload (v := M3.1 168 0) (by decide +kernel) ⟨Or.inl lq_168, congrArg Prod.fst sh_168⟩ (al_in sh_168 (vp_lit (n := 1792) tn_0 (by decide) (by decide))) (by rw [tn_0] <;> rfl) (pn 44 rfl ?_)
          exact s_ireturn (st := []) (by decide +kernel) (Or.inl rfl) ⟨_, rfl, s3, rfl, h⟩
      · have h := h.1 c4
        refine t_bipush (by decide +kernel) kb_m2 (pn 29 rfl ?_)
        exact s_ireturn (st := []) (by decide +kernel) (Or.inl rfl) ⟨_, rfl, s2, rfl, h⟩
theorem sgM_match_49 {d : Nat} {s : pm_S} {M : pm_M} {l1 : Int32} {l2 : Int32} {l3 : Int32} {Q : Int32 → pm_S → pm_M → Prop}  (h : wM_match d 52 [.ref 159, .int l1, .int l2, .int l3, .int 0] [] s M Q) : wM_match d 49 [.ref 159, .int l1, .int l2, .int l3, .null] [] s M Q := by
  refine t_iconst (by decide +kernel) ki_0 (pn 50 rfl ?_)
  refine s_istore (i := 4) (by decide +kernel) (Nat.le_of_ble_eq_true rfl) (pn 52 rfl (t_store (ls' := [.ref 159, .int l1, .int l2, .int l3, .int 0]) rfl ?_))
  exact h
theorem sgM_match_52 {d : Nat} {s : pm_S} {M : pm_M} {l1 : Int32} {l2 : Int32} {l3 : Int32} {l4 : Int32} {Q : Int32 → pm_S → pm_M → Prop}  (h : ((((M.1 160 2) ≤ l4) → wM_match d 123 [.ref 159, .int l1, .int l2, .int l3, .int l4] [] s M Q) ∧ (¬ ((M.1 160 2) ≤ l4) → cI d yM_claimed [.ref 159, .int l3, .int l4, .int l2] s M (fun r1 s1 M1 => (((r1 ≤ 0) → wM_match d 52 [.ref 159, .int l1, .int l2, .int l3, .int (l4 + 1)] [] s1 M1 Q) ∧ (¬ (r1 ≤ 0) → cI d yM_claimed [.ref 159, .int l3, .int l4, .int l2] s1 M1 (fun r2 s2 M2 => vp_in (((256 : Int32) * (l3 + 1)) + (l2 ||| ((1 : Int32) <<< (l4 &&& 31)))) 1792 ∧ vp_in (((256 : Int32) * l3) + l2) 1792 ∧ ((((r2 + (M2.1 168 (((256 : Int32) * (l3 + 1)) + (l2 ||| ((1 : Int32) <<< (l4 &&& 31)))).toNatClampNeg)) = (M2.1 168 (((256 : Int32) * l3) + l2).toNatClampNeg)) → wM_match d 123 [.ref 159, .int l1, .int l2, .int l3, .int l4] [] s2 M2 Q) ∧ (¬ ((r2 + (M2.1 168 (((256 : Int32) * (l3 + 1)) + (l2 ||| ((1 : Int32) <<< (l4 &&& 31)))).toNatClampNeg)) = (M2.1 168 (((256 : Int32) * l3) + l2).toNatClampNeg)) → wM_match d 52 [.ref 159, .int l1, .int l2, .int l3, .int (l4 + 1)] [] s2 M2 Q))))))))) : wM_match d 52 [.ref 159, .int l1, .int l2, .int l3, .int l4] [] s M Q := by
  refine s_iload (i := 4) (by decide +kernel) rfl (pn 54 rfl ?_)
  refine s_aload_n (i := 0) (by decide +kernel) rfl (pn 55 rfl ?_)
  refine s_getfield (v := .ref 160) (by decide +kernel) fr_12_13 lq_159 (congrArg Prod.fst sh_159) (fv_ref pf_159_1) (pn 58 rfl ?_)
  refine t_iconst (by decide +kernel) ki_2 (pn 59 rfl ?_)
  refine t_iaload (v := M.1 160 2) (by decide +kernel) ⟨Or.inl lq_160, congrArg Prod.fst sh_160⟩ (al_in sh_160 (vp_lit (n := 3870) tn_2 (by decide) (by decide))) (by rw [tn_2] <;> rfl) (pn 60 rfl ?_)
  refine s_icmp_ge (off := 63) (tgt := 123) (by decide +kernel) rfl (fun c1 => ?_) (fun c1 => (pn 63 rfl ?_))
  · have h := h.1 c1
    exact h
  · have h := h.2 c1
    refine s_aload_n (i := 0) (by decide +kernel) rfl (pn 64 rfl ?_)
    refine s_iload_n (i := 3) (by decide +kernel) rfl (pn 65 rfl ?_)
    refine s_iload (i := 4) (by decide +kernel) rfl (pn 67 rfl ?_)
    refine s_iload_n (i := 2) (by decide +kernel) rfl (pn 68 rfl ?_)
    refine s_callvI [.int l3, .int l4, .int l2] rfl (by decide +kernel) mv_12_397 np_277 (Nat.le_of_ble_eq_true rfl) lq_159 ((congrArg Prod.fst sh_159).trans oc_277) (cI_use h (fun r1 s1 M1 h => (pn 71 rfl ?_)))
    refine s_if_le (off := 46) (tgt := 117) (by decide +kernel) rfl (fun c2 => ?_) (fun c2 => (pn 74 rfl ?_))
    · have h := h.1 c2
      refine t_iinc (i := 4) (n := 1) (ls' := [.ref 159, .int l1, .int l2, .int l3, .int (l4 + 1)]) (by decide +kernel) rfl (Nat.le_of_ble_eq_true rfl) kn_1 rfl (pn 120 rfl ?_)
      refine s_goto (off := -68) (tgt := 52) (by decide +kernel) rfl ?_
      exact h
    · have h := h.2 c2
      refine s_aload_n (i := 0) (by decide +kernel) rfl (pn 75 rfl ?_)
      refine s_iload_n (i := 3) (by decide +kernel) rfl (pn 76 rfl ?_)
      refine s_iload (i := 4) (by decide +kernel) rfl (pn 78 rfl ?_)
      refine s_iload_n (i := 2) (by decide +kernel) rfl (pn 79 rfl ?_)
      refine s_callvI [.int l3, .int l4, .int l2] rfl (by decide +kernel) mv_12_397 np_277 (Nat.le_of_ble_eq_true rfl) lq_159 ((congrArg Prod.fst sh_159).trans oc_277) (cI_use h (fun r2 s2 M2 h => (pn 82 rfl ?_)))
      refine s_aload_n (i := 0) (by decide +kernel) rfl (pn 83 rfl ?_)
      refine s_getfield (v := .ref 168) (by decide +kernel) fr_12_42 lq_159 (congrArg Prod.fst sh_159) (fv_ref pf_159_22) (pn 86 rfl ?_)
      refine t_sipush (by decide +kernel) ks_256 (pn 89 rfl ?_)
      refine s_iload_n (i := 3) (by decide +kernel) rfl (pn 90 rfl ?_)
      refine t_iconst (by decide +kernel) ki_1 (pn 91 rfl ?_)
      refine s_iadd (by decide +kernel) (pn 92 rfl ?_)
      refine s_imul (by decide +kernel) (pn 93 rfl ?_)
      refine s_iload_n (i := 2) (by decide +kernel) rfl (pn 94 rfl ?_)
      refine t_iconst (by decide +kernel) ki_1 (pn 95 rfl ?_)
      refine s_iload (i := 4) (by decide +kernel) rfl (pn 97 rfl ?_)
      refine s_ishl (by decide +kernel) (pn 98 rfl ?_)
      refine s_ior (by decide +kernel) (pn 99 rfl ?_)
      refine s_iadd (by decide +kernel) (pn 100 rfl ?_)
      obtain ⟨b1, h⟩ := h
      refine t_iaload (v := M2.1 168 (((256 : Int32) * (l3 + 1)) + (l2 ||| ((1 : Int32) <<< (l4 &&& 31)))).toNatClampNeg) (by decide +kernel) ⟨Or.inl lq_168, congrArg Prod.fst sh_168⟩ (al_in sh_168 b1) rfl (pn 101 rfl ?_)
      refine s_iadd (by decide +kernel) (pn 102 rfl ?_)
      refine s_aload_n (i := 0) (by decide +kernel) rfl (pn 103 rfl ?_)
      refine s_getfield (v := .ref 168) (by decide +kernel) fr_12_42 lq_159 (congrArg Prod.fst sh_159) (fv_ref pf_159_22) (pn 106 rfl ?_)
      refine t_sipush (by decide +kernel) ks_256 (pn 109 rfl ?_)
      refine s_iload_n (i := 3) (by decide +kernel) rfl (pn 110 rfl ?_)
      refine s_imul (by decide +kernel) (pn 111 rfl ?_)
      refine s_iload_n (i := 2) (by decide +kernel) rfl (pn 112 rfl ?_)
      refine s_iadd (by decide +kernel) (pn 113 rfl ?_)
      obtain ⟨b2, h⟩ := h
      refine t_iaload (v := M2.1 168 (((256 : Int32) * l3) + l2).toNatClampNeg) (by decide +kernel) ⟨Or.inl lq_168, congrArg Prod.fst sh_168⟩ (al_in sh_168 b2) rfl (pn 114 rfl ?_)
      refine s_icmp_eq (off := 9) (tgt := 123) (by decide +kernel) rfl (fun c3 => ?_) (fun c3 => (pn 117 rfl ?_))
      · have h := h.1 c3
        exact h
      · have h := h.2 c3
        refine t_iinc (i := 4) (n := 1) (ls' := [.ref 159, .int l1, .int l2, .int l3, .int (l4 + 1)]) (by decide +kernel) rfl (Nat.le_of_ble_eq_true rfl) kn_1 rfl (pn 120 rfl ?_)
        refine s_goto (off := -68) (tgt := 52) (by decide +kernel) rfl ?_
        exact h
theorem sgM_match_123 {d : Nat} {s : pm_S} {M : pm_M} {l1 : Int32} {l2 : Int32} {l3 : Int32} {l4 : Int32} {Q : Int32 → pm_S → pm_M → Prop}  (h : ((l3 = (l1 - 10) → Q ((if (M.1 160 2) ≤ l4 then (-1) else l4) : Int32) s M) ∧ (¬ (l3 = (l1 - 10)) → (∀ v1 : Int32, v1 = l2 ||| ((if (M.1 160 2) ≤ l4 then 0 else ((1 : Int32) <<< (l4 &&& 31))) : Int32) → wM_match d 49 [.ref 159, .int l1, .int v1, .int (l3 + 1), .null] [] s M Q)))) : wM_match d 123 [.ref 159, .int l1, .int l2, .int l3, .int l4] [] s M Q := by
  refine s_iload_n (i := 3) (by decide +kernel) rfl (pn 124 rfl ?_)
  refine s_iload_n (i := 1) (by decide +kernel) rfl (pn 125 rfl ?_)
  refine t_bipush (by decide +kernel) kb_10 (pn 127 rfl ?_)
  refine s_isub (by decide +kernel) (pn 128 rfl ?_)
  refine t_icmp_ne (off := 21) (tgt := 149) (by decide +kernel) rfl (fun c1 => ?_) (fun c1 => (pn 131 rfl ?_))
  · have h := h.2 c1
    refine s_iload_n (i := 2) (by decide +kernel) rfl (pn 150 rfl ?_)
    refine s_iload (i := 4) (by decide +kernel) rfl (pn 152 rfl ?_)
    refine s_aload_n (i := 0) (by decide +kernel) rfl (pn 153 rfl ?_)
    refine s_getfield (v := .ref 160) (by decide +kernel) fr_12_13 lq_159 (congrArg Prod.fst sh_159) (fv_ref pf_159_1) (pn 156 rfl ?_)
    refine t_iconst (by decide +kernel) ki_2 (pn 157 rfl ?_)
    refine t_iaload (v := M.1 160 2) (by decide +kernel) ⟨Or.inl lq_160, congrArg Prod.fst sh_160⟩ (al_in sh_160 (vp_lit (n := 3870) tn_2 (by decide) (by decide))) (by rw [tn_2] <;> rfl) (pn 158 rfl ?_)
    have k1 : ∀ (z1 : Int32) (z1e : z1 = ((if (M.1 160 2) ≤ l4 then 0 else ((1 : Int32) <<< (l4 &&& 31))) : Int32)), wM_match d 169 [.ref 159, .int l1, .int l2, .int l3, .int l4] [.int z1, .int l2] s M Q := by
      intro z1 z1e
      subst z1e
      refine s_ior (by decide +kernel) (pn 170 rfl ?_)
      obtain ⟨v1, ev1⟩ : ∃ zz : Int32, zz = l2 ||| ((if (M.1 160 2) ≤ l4 then 0 else ((1 : Int32) <<< (l4 &&& 31))) : Int32) := ⟨_, rfl⟩
      have h := h v1 ev1
      rw [← ev1]
      refine s_istore_n (i := 2) (by decide +kernel) (Nat.le_of_ble_eq_true rfl) (pn 171 rfl (t_store (ls' := [.ref 159, .int l1, .int v1, .int l3, .int l4]) rfl ?_))
      refine t_iinc (i := 3) (n := 1) (ls' := [.ref 159, .int l1, .int v1, .int (l3 + 1), .int l4]) (by decide +kernel) rfl (Nat.le_of_ble_eq_true rfl) kn_1 rfl (pn 174 rfl ?_)
      refine s_goto (off := -125) (tgt := 49) (by decide +kernel) rfl ?_
      exact pm_weak [.ref 159, .int l1, .int v1, .int (l3 + 1), .null] (pm_le_cons (Or.inr rfl) (pm_le_cons (Or.inr rfl) (pm_le_cons (Or.inr rfl) (pm_le_cons (Or.inr rfl) (pm_le_cons (Or.inl rfl) pm_le_nil))))) h
    refine s_icmp_ge (off := 10) (tgt := 168) (by decide +kernel) rfl (fun c2 => ?_) (fun c2 => (pn 161 rfl ?_))
    · refine t_iconst (by decide +kernel) ki_0 (pn 169 rfl ?_)
      exact k1 _ (by simp only [if_pos c2])
    · refine t_iconst (by decide +kernel) ki_1 (pn 162 rfl ?_)
      refine s_iload (i := 4) (by decide +kernel) rfl (pn 164 rfl ?_)
      refine s_ishl (by decide +kernel) (pn 165 rfl ?_)
      refine s_goto (off := 4) (tgt := 169) (by decide +kernel) rfl ?_
      exact k1 _ (by simp only [if_neg c2])
  · have h := h.1 c1
    refine s_iload (i := 4) (by decide +kernel) rfl (pn 133 rfl ?_)
    refine s_aload_n (i := 0) (by decide +kernel) rfl (pn 134 rfl ?_)
    refine s_getfield (v := .ref 160) (by decide +kernel) fr_12_13 lq_159 (congrArg Prod.fst sh_159) (fv_ref pf_159_1) (pn 137 rfl ?_)
    refine t_iconst (by decide +kernel) ki_2 (pn 138 rfl ?_)
    refine t_iaload (v := M.1 160 2) (by decide +kernel) ⟨Or.inl lq_160, congrArg Prod.fst sh_160⟩ (al_in sh_160 (vp_lit (n := 3870) tn_2 (by decide) (by decide))) (by rw [tn_2] <;> rfl) (pn 139 rfl ?_)
    have k2 : ∀ (z2 : Int32) (z2e : z2 = ((if (M.1 160 2) ≤ l4 then (-1) else l4) : Int32)), wM_match d 148 [.ref 159, .int l1, .int l2, .int l3, .int l4] [.int z2] s M Q := by
      intro z2 z2e
      subst z2e
      exact s_ireturn (st := []) (by decide +kernel) (Or.inl rfl) ⟨_, rfl, s, rfl, h⟩
    refine s_icmp_ge (off := 8) (tgt := 147) (by decide +kernel) rfl (fun c3 => ?_) (fun c3 => (pn 142 rfl ?_))
    · refine t_iconst (by decide +kernel) ki_m1 (pn 148 rfl ?_)
      exact k2 _ (by simp only [if_pos c3])
    · refine s_iload (i := 4) (by decide +kernel) rfl (pn 144 rfl ?_)
      refine s_goto (off := 4) (tgt := 148) (by decide +kernel) rfl ?_
      exact k2 _ (by simp only [if_neg c3])
abbrev wM_laysMatching (d pc : Nat) (ls st : List Value) (s : pm_S) (M : pm_M) (Q : pm_S → pm_M → Prop) : Prop := wV d prog_14_method_94_code 12 none false pc ls st s M Q
theorem enM_laysMatching {d : Nat} {s : pm_S} {M : pm_M}  {Q : pm_S → pm_M → Prop}  (h : wM_laysMatching d 2 [.ref 159, .int 0, .null] [] s M Q) : cV (d + 1) yM_laysMatching [.ref 159] s M Q := by
  refine pm_toV (by decide) (Nat.le_of_ble_eq_true rfl) ?_
  show wM_laysMatching d 0 [.ref 159, .null, .null] [] s M Q
  refine t_iconst (by decide +kernel) ki_0 (pn 1 rfl ?_)
  refine s_istore_n (i := 1) (by decide +kernel) (Nat.le_of_ble_eq_true rfl) (pn 2 rfl (t_store (ls' := [.ref 159, .int 0, .null]) rfl ?_))
  exact h
theorem sgM_laysMatching_2 {d : Nat} {s : pm_S} {M : pm_M} {l1 : Int32} {Q : pm_S → pm_M → Prop}  (h : ((((M.1 160 3) ≤ l1) → wM_laysMatching d 55 [.ref 159, .int 0, .null] [] s M Q) ∧ (¬ ((M.1 160 3) ≤ l1) → wM_laysMatching d 14 [.ref 159, .int l1, .int 0] [] s M Q))) : wM_laysMatching d 2 [.ref 159, .int l1, .null] [] s M Q := by
  refine s_iload_n (i := 1) (by decide +kernel) rfl (pn 3 rfl ?_)
  refine s_aload_n (i := 0) (by decide +kernel) rfl (pn 4 rfl ?_)
  refine s_getfield (v := .ref 160) (by decide +kernel) fr_12_13 lq_159 (congrArg Prod.fst sh_159) (fv_ref pf_159_1) (pn 7 rfl ?_)
  refine t_iconst (by decide +kernel) ki_3 (pn 8 rfl ?_)
  refine t_iaload (v := M.1 160 3) (by decide +kernel) ⟨Or.inl lq_160, congrArg Prod.fst sh_160⟩ (al_in sh_160 (vp_lit (n := 3870) tn_3 (by decide) (by decide))) (by rw [tn_3] <;> rfl) (pn 9 rfl ?_)
  refine s_icmp_ge (off := 44) (tgt := 53) (by decide +kernel) rfl (fun c1 => ?_) (fun c1 => (pn 12 rfl ?_))
  · have h := h.1 c1
    refine t_iconst (by decide +kernel) ki_0 (pn 54 rfl ?_)
    refine s_istore_n (i := 1) (by decide +kernel) (Nat.le_of_ble_eq_true rfl) (pn 55 rfl (t_store (ls' := [.ref 159, .int 0, .null]) rfl ?_))
    exact h
  · have h := h.2 c1
    refine t_iconst (by decide +kernel) ki_0 (pn 13 rfl ?_)
    refine s_istore_n (i := 2) (by decide +kernel) (Nat.le_of_ble_eq_true rfl) (pn 14 rfl (t_store (ls' := [.ref 159, .int l1, .int 0]) rfl ?_))
    exact h
theorem sgM_laysMatching_55 {d : Nat} {s : pm_S} {M : pm_M} {l1 : Int32} {Q : pm_S → pm_M → Prop}  (h : (((256 ≤ l1) → wM_laysMatching d 131 [.ref 159, .int ((M.1 160 3) - 1), .null] [] s M Q) ∧ (¬ (256 ≤ l1) → vp_in (((256 : Int32) * (M.1 160 3)) + l1) 1792 ∧ vp_in (((256 : Int32) * (M.1 160 3)) + l1) 1792 ∧ vp_in (((256 : Int32) * (M.1 160 3)) + l1) 1792 ∧ wM_laysMatching d 55 [.ref 159, .int (l1 + 1), .null] [] s (pm_si (pm_si (pm_si M 168 (((256 : Int32) * (M.1 160 3)) + l1).toNatClampNeg 0) 169 (((256 : Int32) * (M.1 160 3)) + l1).toNatClampNeg 0) 170 (((256 : Int32) * (M.1 160 3)) + l1).toNatClampNeg 1) Q))) : wM_laysMatching d 55 [.ref 159, .int l1, .null] [] s M Q := by
  refine s_iload_n (i := 1) (by decide +kernel) rfl (pn 56 rfl ?_)
  refine t_sipush (by decide +kernel) ks_256 (pn 59 rfl ?_)
  refine s_icmp_ge (off := 63) (tgt := 122) (by decide +kernel) rfl (fun c1 => ?_) (fun c1 => (pn 62 rfl ?_))
  · have h := h.1 c1
    refine s_aload_n (i := 0) (by decide +kernel) rfl (pn 123 rfl ?_)
    refine s_getfield (v := .ref 160) (by decide +kernel) fr_12_13 lq_159 (congrArg Prod.fst sh_159) (fv_ref pf_159_1) (pn 126 rfl ?_)
    refine t_iconst (by decide +kernel) ki_3 (pn 127 rfl ?_)
    refine t_iaload (v := M.1 160 3) (by decide +kernel) ⟨Or.inl lq_160, congrArg Prod.fst sh_160⟩ (al_in sh_160 (vp_lit (n := 3870) tn_3 (by decide) (by decide))) (by rw [tn_3] <;> rfl) (pn 128 rfl ?_)
    refine t_iconst (by decide +kernel) ki_1 (pn 129 rfl ?_)
    refine s_isub (by decide +kernel) (pn 130 rfl ?_)
    refine s_istore_n (i := 1) (by decide +kernel) (Nat.le_of_ble_eq_true rfl) (pn 131 rfl (t_store (ls' := [.ref 159, .int ((M.1 160 3) - 1), .null]) rfl ?_))
    exact h
  · have h := h.2 c1
    refine s_aload_n (i := 0) (by decide +kernel) rfl (pn 63 rfl ?_)
    refine s_getfield (v := .ref 168) (by decide +kernel) fr_12_42 lq_159 (congrArg Prod.fst sh_159) (fv_ref pf_159_22) (pn 66 rfl ?_)
    refine t_sipush (by decide +kernel) ks_256 (pn 69 rfl ?_)
    refine s_aload_n (i := 0) (by decide +kernel) rfl (pn 70 rfl ?_)
    refine s_getfield (v := .ref 160) (by decide +kernel) fr_12_13 lq_159 (congrArg Prod.fst sh_159) (fv_ref pf_159_1) (pn 73 rfl ?_)
    refine t_iconst (by decide +kernel) ki_3 (pn 74 rfl ?_)
    refine t_iaload (v := M.1 160 3) (by decide +kernel) ⟨Or.inl lq_160, congrArg Prod.fst sh_160⟩ (al_in sh_160 (vp_lit (n := 3870) tn_3 (by decide) (by decide))) (by rw [tn_3] <;> rfl) (pn 75 rfl ?_)
    refine s_imul (by decide +kernel) (pn 76 rfl ?_)
    refine s_iload_n (i := 1) (by decide +kernel) rfl (pn 77 rfl ?_)
    refine s_iadd (by decide +kernel) (pn 78 rfl ?_)
    refine t_iconst (by decide +kernel) ki_0 (pn 79 rfl ?_)
    obtain ⟨b1, h⟩ := h
    refine t_iastore (k := (((256 : Int32) * (M.1 160 3)) + l1).toNatClampNeg) (by decide +kernel) ⟨lq_168, congrArg Prod.fst sh_168⟩ (al_in sh_168 b1) rfl (pn 80 rfl ?_)
    refine s_aload_n (i := 0) (by decide +kernel) rfl (pn 81 rfl ?_)
    refine s_getfield (v := .ref 169) (by decide +kernel) fr_12_45 lq_159 (congrArg Prod.fst sh_159) (fv_ref pf_159_23) (pn 84 rfl ?_)
    refine t_sipush (by decide +kernel) ks_256 (pn 87 rfl ?_)
    refine s_aload_n (i := 0) (by decide +kernel) rfl (pn 88 rfl ?_)
    refine s_getfield (v := .ref 160) (by decide +kernel) fr_12_13 lq_159 (congrArg Prod.fst sh_159) (fv_ref pf_159_1) (pn 91 rfl ?_)
    refine t_iconst (by decide +kernel) ki_3 (pn 92 rfl ?_)
    refine t_iaload (v := M.1 160 3) (by decide +kernel) ⟨Or.inl lq_160, congrArg Prod.fst sh_160⟩ (al_in sh_160 (vp_lit (n := 3870) tn_3 (by decide) (by decide))) (by rw [tn_3] <;> rfl) (pn 93 rfl ?_)
    refine s_imul (by decide +kernel) (pn 94 rfl ?_)
    refine s_iload_n (i := 1) (by decide +kernel) rfl (pn 95 rfl ?_)
    refine s_iadd (by decide +kernel) (pn 96 rfl ?_)
    refine t_iconst (by decide +kernel) ki_0 (pn 97 rfl ?_)
    obtain ⟨b2, h⟩ := h
    refine t_iastore (k := (((256 : Int32) * (M.1 160 3)) + l1).toNatClampNeg) (by decide +kernel) ⟨lq_169, congrArg Prod.fst sh_169⟩ (al_in sh_169 b2) rfl (pn 98 rfl ?_)
    refine s_aload_n (i := 0) (by decide +kernel) rfl (pn 99 rfl ?_)
    refine s_getfield (v := .ref 170) (by decide +kernel) fr_12_48 lq_159 (congrArg Prod.fst sh_159) (fv_ref pf_159_24) (pn 102 rfl ?_)
    refine t_sipush (by decide +kernel) ks_256 (pn 105 rfl ?_)
    refine s_aload_n (i := 0) (by decide +kernel) rfl (pn 106 rfl ?_)
    refine s_getfield (v := .ref 160) (by decide +kernel) fr_12_13 lq_159 (congrArg Prod.fst sh_159) (fv_ref pf_159_1) (pn 109 rfl ?_)
    refine t_iconst (by decide +kernel) ki_3 (pn 110 rfl ?_)
    refine t_iaload (v := M.1 160 3) (by decide +kernel) ⟨Or.inl lq_160, congrArg Prod.fst sh_160⟩ (al_in sh_160 (vp_lit (n := 3870) tn_3 (by decide) (by decide))) (by rw [tn_3] <;> rfl) (pn 111 rfl ?_)
    refine s_imul (by decide +kernel) (pn 112 rfl ?_)
    refine s_iload_n (i := 1) (by decide +kernel) rfl (pn 113 rfl ?_)
    refine s_iadd (by decide +kernel) (pn 114 rfl ?_)
    refine t_iconst (by decide +kernel) ki_1 (pn 115 rfl ?_)
    obtain ⟨b3, h⟩ := h
    refine t_iastore (k := (((256 : Int32) * (M.1 160 3)) + l1).toNatClampNeg) (by decide +kernel) ⟨lq_170, congrArg Prod.fst sh_170⟩ (al_in sh_170 b3) rfl (pn 116 rfl ?_)
    refine t_iinc (i := 1) (n := 1) (ls' := [.ref 159, .int (l1 + 1), .null]) (by decide +kernel) rfl (Nat.le_of_ble_eq_true rfl) kn_1 rfl (pn 119 rfl ?_)
    refine s_goto (off := -64) (tgt := 55) (by decide +kernel) rfl ?_
    exact h
theorem sgM_laysMatching_14 {d : Nat} {s : pm_S} {M : pm_M} {l1 : Int32} {l2 : Int32} {Q : pm_S → pm_M → Prop}  (h : ((((M.1 160 2) ≤ l2) → wM_laysMatching d 2 [.ref 159, .int (l1 + 1), .null] [] s M Q) ∧ (¬ ((M.1 160 2) ≤ l2) → cI d yM_claimsOf [.ref 159, .int l1, .int l2] s M (fun r1 s1 M1 => vp_in (((8 : Int32) * l1) + l2) 48 ∧ wM_laysMatching d 14 [.ref 159, .int l1, .int (l2 + 1)] [] s1 (pm_si M1 171 (((8 : Int32) * l1) + l2).toNatClampNeg r1) Q)))) : wM_laysMatching d 14 [.ref 159, .int l1, .int l2] [] s M Q := by
  refine s_iload_n (i := 2) (by decide +kernel) rfl (pn 15 rfl ?_)
  refine s_aload_n (i := 0) (by decide +kernel) rfl (pn 16 rfl ?_)
  refine s_getfield (v := .ref 160) (by decide +kernel) fr_12_13 lq_159 (congrArg Prod.fst sh_159) (fv_ref pf_159_1) (pn 19 rfl ?_)
  refine t_iconst (by decide +kernel) ki_2 (pn 20 rfl ?_)
  refine t_iaload (v := M.1 160 2) (by decide +kernel) ⟨Or.inl lq_160, congrArg Prod.fst sh_160⟩ (al_in sh_160 (vp_lit (n := 3870) tn_2 (by decide) (by decide))) (by rw [tn_2] <;> rfl) (pn 21 rfl ?_)
  refine s_icmp_ge (off := 26) (tgt := 47) (by decide +kernel) rfl (fun c1 => ?_) (fun c1 => (pn 24 rfl ?_))
  · have h := h.1 c1
    refine t_iinc (i := 1) (n := 1) (ls' := [.ref 159, .int (l1 + 1), .int l2]) (by decide +kernel) rfl (Nat.le_of_ble_eq_true rfl) kn_1 rfl (pn 50 rfl ?_)
    refine s_goto (off := -48) (tgt := 2) (by decide +kernel) rfl ?_
    exact pm_weak [.ref 159, .int (l1 + 1), .null] (pm_le_cons (Or.inr rfl) (pm_le_cons (Or.inr rfl) (pm_le_cons (Or.inl rfl) pm_le_nil))) h
  · have h := h.2 c1
    refine s_aload_n (i := 0) (by decide +kernel) rfl (pn 25 rfl ?_)
    refine s_getfield (v := .ref 171) (by decide +kernel) fr_12_51 lq_159 (congrArg Prod.fst sh_159) (fv_ref pf_159_25) (pn 28 rfl ?_)
    refine t_bipush (by decide +kernel) kb_8 (pn 30 rfl ?_)
    refine s_iload_n (i := 1) (by decide +kernel) rfl (pn 31 rfl ?_)
    refine s_imul (by decide +kernel) (pn 32 rfl ?_)
    refine s_iload_n (i := 2) (by decide +kernel) rfl (pn 33 rfl ?_)
    refine s_iadd (by decide +kernel) (pn 34 rfl ?_)
    refine s_aload_n (i := 0) (by decide +kernel) rfl (pn 35 rfl ?_)
    refine s_iload_n (i := 1) (by decide +kernel) rfl (pn 36 rfl ?_)
    refine s_iload_n (i := 2) (by decide +kernel) rfl (pn 37 rfl ?_)
    refine s_callvI [.int l1, .int l2] rfl (by decide +kernel) mv_12_256 np_222 (Nat.le_of_ble_eq_true rfl) lq_159 ((congrArg Prod.fst sh_159).trans oc_222) (cI_use h (fun r1 s1 M1 h => (pn 40 rfl ?_)))
    obtain ⟨b1, h⟩ := h
    refine t_iastore (k := (((8 : Int32) * l1) + l2).toNatClampNeg) (by decide +kernel) ⟨lq_171, congrArg Prod.fst sh_171⟩ (al_in sh_171 b1) rfl (pn 41 rfl ?_)
    refine t_iinc (i := 2) (n := 1) (ls' := [.ref 159, .int l1, .int (l2 + 1)]) (by decide +kernel) rfl (Nat.le_of_ble_eq_true rfl) kn_1 rfl (pn 44 rfl ?_)
    refine s_goto (off := -30) (tgt := 14) (by decide +kernel) rfl ?_
    exact h
theorem sgM_laysMatching_131 {d : Nat} {s : pm_S} {M : pm_M} {l1 : Int32} {Q : pm_S → pm_M → Prop}  (h : (((l1 < 0) → Q s M) ∧ (¬ (l1 < 0) → wM_laysMatching d 137 [.ref 159, .int l1, .int 0] [] s M Q))) : wM_laysMatching d 131 [.ref 159, .int l1, .null] [] s M Q := by
  refine s_iload_n (i := 1) (by decide +kernel) rfl (pn 132 rfl ?_)
  refine s_if_lt (off := 35) (tgt := 167) (by decide +kernel) rfl (fun c1 => ?_) (fun c1 => (pn 135 rfl ?_))
  · have h := h.1 c1
    exact s_return (st := []) (by decide +kernel) rfl ⟨rfl, s, rfl, h⟩
  · have h := h.2 c1
    refine t_iconst (by decide +kernel) ki_0 (pn 136 rfl ?_)
    refine s_istore_n (i := 2) (by decide +kernel) (Nat.le_of_ble_eq_true rfl) (pn 137 rfl (t_store (ls' := [.ref 159, .int l1, .int 0]) rfl ?_))
    exact h
theorem sgM_laysMatching_137 {d : Nat} {s : pm_S} {M : pm_M} {l1 : Int32} {l2 : Int32} {Q : pm_S → pm_M → Prop}  (h : (((((1 : Int32) <<< ((M.1 160 2) &&& 31)) ≤ l2) → wM_laysMatching d 131 [.ref 159, .int (l1 + (-1)), .null] [] s M Q) ∧ (¬ (((1 : Int32) <<< ((M.1 160 2) &&& 31)) ≤ l2) → cV d yM_laysGiven [.ref 159, .int l1, .int l2] s M (fun s1 M1 => wM_laysMatching d 137 [.ref 159, .int l1, .int (l2 + 1)] [] s1 M1 Q)))) : wM_laysMatching d 137 [.ref 159, .int l1, .int l2] [] s M Q := by
  refine s_iload_n (i := 2) (by decide +kernel) rfl (pn 138 rfl ?_)
  refine t_iconst (by decide +kernel) ki_1 (pn 139 rfl ?_)
  refine s_aload_n (i := 0) (by decide +kernel) rfl (pn 140 rfl ?_)
  refine s_getfield (v := .ref 160) (by decide +kernel) fr_12_13 lq_159 (congrArg Prod.fst sh_159) (fv_ref pf_159_1) (pn 143 rfl ?_)
  refine t_iconst (by decide +kernel) ki_2 (pn 144 rfl ?_)
  refine t_iaload (v := M.1 160 2) (by decide +kernel) ⟨Or.inl lq_160, congrArg Prod.fst sh_160⟩ (al_in sh_160 (vp_lit (n := 3870) tn_2 (by decide) (by decide))) (by rw [tn_2] <;> rfl) (pn 145 rfl ?_)
  refine s_ishl (by decide +kernel) (pn 146 rfl ?_)
  refine s_icmp_ge (off := 15) (tgt := 161) (by decide +kernel) rfl (fun c1 => ?_) (fun c1 => (pn 149 rfl ?_))
  · have h := h.1 c1
    refine t_iinc (i := 1) (n := -1) (ls' := [.ref 159, .int (l1 + (-1)), .int l2]) (by decide +kernel) rfl (Nat.le_of_ble_eq_true rfl) kn_m1 rfl (pn 164 rfl ?_)
    refine s_goto (off := -33) (tgt := 131) (by decide +kernel) rfl ?_
    exact pm_weak [.ref 159, .int (l1 + (-1)), .null] (pm_le_cons (Or.inr rfl) (pm_le_cons (Or.inr rfl) (pm_le_cons (Or.inl rfl) pm_le_nil))) h
  · have h := h.2 c1
    refine s_aload_n (i := 0) (by decide +kernel) rfl (pn 150 rfl ?_)
    refine s_iload_n (i := 1) (by decide +kernel) rfl (pn 151 rfl ?_)
    refine s_iload_n (i := 2) (by decide +kernel) rfl (pn 152 rfl ?_)
    refine s_callvV [.int l1, .int l2] rfl (by decide +kernel) mv_12_394 np_276 (Nat.le_of_ble_eq_true rfl) lq_159 ((congrArg Prod.fst sh_159).trans oc_276) (cV_use h (fun s1 M1 h => (pn 155 rfl ?_)))
    refine t_iinc (i := 2) (n := 1) (ls' := [.ref 159, .int l1, .int (l2 + 1)]) (by decide +kernel) rfl (Nat.le_of_ble_eq_true rfl) kn_1 rfl (pn 158 rfl ?_)
    refine s_goto (off := -21) (tgt := 137) (by decide +kernel) rfl ?_
    exact h
abbrev wM_laysGiven (d pc : Nat) (ls st : List Value) (s : pm_S) (M : pm_M) (Q : pm_S → pm_M → Prop) : Prop := wV d prog_14_method_95_code 12 none false pc ls st s M Q
theorem enM_laysGiven {d : Nat} {s : pm_S} {M : pm_M} {x1 : Int32} {x2 : Int32} {Q : pm_S → pm_M → Prop}  (h : vp_in (((256 : Int32) * (x1 + 1)) + x2) 1792 ∧ vp_in (((256 : Int32) * (x1 + 1)) + x2) 1792 ∧ wM_laysGiven d 34 [.ref 159, .int x1, .int x2, .int ((256 : Int32) * (x1 + 1)), .int (M.1 168 (((256 : Int32) * (x1 + 1)) + x2).toNatClampNeg), .int (M.1 169 (((256 : Int32) * (x1 + 1)) + x2).toNatClampNeg), .int 0, .int 0, .null, .null] [] s M Q) : cV (d + 1) yM_laysGiven [.ref 159, .int x1, .int x2] s M Q := by
  refine pm_toV (by decide) (Nat.le_of_ble_eq_true rfl) ?_
  show wM_laysGiven d 0 [.ref 159, .int x1, .int x2, .null, .null, .null, .null, .null, .null, .null] [] s M Q
  refine t_sipush (by decide +kernel) ks_256 (pn 3 rfl ?_)
  refine s_iload_n (i := 1) (by decide +kernel) rfl (pn 4 rfl ?_)
  refine t_iconst (by decide +kernel) ki_1 (pn 5 rfl ?_)
  refine s_iadd (by decide +kernel) (pn 6 rfl ?_)
  refine s_imul (by decide +kernel) (pn 7 rfl ?_)
  refine s_istore_n (i := 3) (by decide +kernel) (Nat.le_of_ble_eq_true rfl) (pn 8 rfl (t_store (ls' := [.ref 159, .int x1, .int x2, .int ((256 : Int32) * (x1 + 1)), .null, .null, .null, .null, .null, .null]) rfl ?_))
  refine s_aload_n (i := 0) (by decide +kernel) rfl (pn 9 rfl ?_)
  refine s_getfield (v := .ref 168) (by decide +kernel) fr_12_42 lq_159 (congrArg Prod.fst sh_159) (fv_ref pf_159_22) (pn 12 rfl ?_)
  refine s_iload_n (i := 3) (by decide +kernel) rfl (pn 13 rfl ?_)
  refine s_iload_n (i := 2) (by decide +kernel) rfl (pn 14 rfl ?_)
  refine s_iadd (by decide +kernel) (pn 15 rfl ?_)
  obtain ⟨b1, h⟩ := h
  refine t_iaload (v := M.1 168 (((256 : Int32) * (x1 + 1)) + x2).toNatClampNeg) (by decide +kernel) ⟨Or.inl lq_168, congrArg Prod.fst sh_168⟩ (al_in sh_168 b1) rfl (pn 16 rfl ?_)
  refine s_istore (i := 4) (by decide +kernel) (Nat.le_of_ble_eq_true rfl) (pn 18 rfl (t_store (ls' := [.ref 159, .int x1, .int x2, .int ((256 : Int32) * (x1 + 1)), .int (M.1 168 (((256 : Int32) * (x1 + 1)) + x2).toNatClampNeg), .null, .null, .null, .null, .null]) rfl ?_))
  refine s_aload_n (i := 0) (by decide +kernel) rfl (pn 19 rfl ?_)
  refine s_getfield (v := .ref 169) (by decide +kernel) fr_12_45 lq_159 (congrArg Prod.fst sh_159) (fv_ref pf_159_23) (pn 22 rfl ?_)
  refine s_iload_n (i := 3) (by decide +kernel) rfl (pn 23 rfl ?_)
  refine s_iload_n (i := 2) (by decide +kernel) rfl (pn 24 rfl ?_)
  refine s_iadd (by decide +kernel) (pn 25 rfl ?_)
  obtain ⟨b2, h⟩ := h
  refine t_iaload (v := M.1 169 (((256 : Int32) * (x1 + 1)) + x2).toNatClampNeg) (by decide +kernel) ⟨Or.inl lq_169, congrArg Prod.fst sh_169⟩ (al_in sh_169 b2) rfl (pn 26 rfl ?_)
  refine s_istore (i := 5) (by decide +kernel) (Nat.le_of_ble_eq_true rfl) (pn 28 rfl (t_store (ls' := [.ref 159, .int x1, .int x2, .int ((256 : Int32) * (x1 + 1)), .int (M.1 168 (((256 : Int32) * (x1 + 1)) + x2).toNatClampNeg), .int (M.1 169 (((256 : Int32) * (x1 + 1)) + x2).toNatClampNeg), .null, .null, .null, .null]) rfl ?_))
  refine t_iconst (by decide +kernel) ki_0 (pn 29 rfl ?_)
  refine s_istore (i := 6) (by decide +kernel) (Nat.le_of_ble_eq_true rfl) (pn 31 rfl (t_store (ls' := [.ref 159, .int x1, .int x2, .int ((256 : Int32) * (x1 + 1)), .int (M.1 168 (((256 : Int32) * (x1 + 1)) + x2).toNatClampNeg), .int (M.1 169 (((256 : Int32) * (x1 + 1)) + x2).toNatClampNeg), .int 0, .null, .null, .null]) rfl ?_))
  refine t_iconst (by decide +kernel) ki_0 (pn 32 rfl ?_)
  refine s_istore (i := 7) (by decide +kernel) (Nat.le_of_ble_eq_true rfl) (pn 34 rfl (t_store (ls' := [.ref 159, .int x1, .int x2, .int ((256 : Int32) * (x1 + 1)), .int (M.1 168 (((256 : Int32) * (x1 + 1)) + x2).toNatClampNeg), .int (M.1 169 (((256 : Int32) * (x1 + 1)) + x2).toNatClampNeg), .int 0, .int 0, .null, .null]) rfl ?_))
  exact h
theorem sgM_laysGiven_34 {d : Nat} {s : pm_S} {M : pm_M} {l1 : Int32} {l2 : Int32} {l3 : Int32} {l4 : Int32} {l5 : Int32} {l6 : Int32} {l7 : Int32} {Q : pm_S → pm_M → Prop}  (h : ((((M.1 160 2) ≤ l7) → vp_in (((256 : Int32) * l1) + l2) 1792 ∧ vp_in (((256 : Int32) * l1) + l2) 1792 ∧ vp_in (((256 : Int32) * l1) + l2) 1792 ∧ Q s (pm_si (pm_si (pm_si M 168 (((256 : Int32) * l1) + l2).toNatClampNeg l4) 169 (((256 : Int32) * l1) + l2).toNatClampNeg l5) 170 (((256 : Int32) * l1) + l2).toNatClampNeg l6)) ∧ (¬ ((M.1 160 2) ≤ l7) → cI d yM_claimed [.ref 159, .int l1, .int l7, .int l2] s M (fun r1 s1 M1 => (((0 < r1) → vp_in (l3 + (l2 ||| ((1 : Int32) <<< (l7 &&& 31)))) 1792 ∧ (¬ ((r1 + (M1.1 168 (l3 + (l2 ||| ((1 : Int32) <<< (l7 &&& 31)))).toNatClampNeg)) ≤ l4) → vp_in (l3 + (l2 ||| ((1 : Int32) <<< (l7 &&& 31)))) 1792) ∧ wM_laysGiven d 103 [.ref 159, .int l1, .int l2, .int l3, .null, .int l5, .int l6, .int l7, .null, .int (l3 + (l2 ||| ((1 : Int32) <<< (l7 &&& 31))))] [.int ((if (r1 + (M1.1 168 (l3 + (l2 ||| ((1 : Int32) <<< (l7 &&& 31)))).toNatClampNeg)) ≤ l4 then l4 else (r1 + (M1.1 168 (l3 + (l2 ||| ((1 : Int32) <<< (l7 &&& 31)))).toNatClampNeg))) : Int32)] s1 M1 Q) ∧ (¬ (0 < r1) → wM_laysGiven d 34 [.ref 159, .int l1, .int l2, .int l3, .int l4, .int l5, .int l6, .int (l7 + 1), .null, .null] [] s1 M1 Q)))))) : wM_laysGiven d 34 [.ref 159, .int l1, .int l2, .int l3, .int l4, .int l5, .int l6, .int l7, .null, .null] [] s M Q := by
  refine s_iload (i := 7) (by decide +kernel) rfl (pn 36 rfl ?_)
  refine s_aload_n (i := 0) (by decide +kernel) rfl (pn 37 rfl ?_)
  refine s_getfield (v := .ref 160) (by decide +kernel) fr_12_13 lq_159 (congrArg Prod.fst sh_159) (fv_ref pf_159_1) (pn 40 rfl ?_)
  refine t_iconst (by decide +kernel) ki_2 (pn 41 rfl ?_)
  refine t_iaload (v := M.1 160 2) (by decide +kernel) ⟨Or.inl lq_160, congrArg Prod.fst sh_160⟩ (al_in sh_160 (vp_lit (n := 3870) tn_2 (by decide) (by decide))) (by rw [tn_2] <;> rfl) (pn 42 rfl ?_)
  refine s_icmp_ge (off := 111) (tgt := 153) (by decide +kernel) rfl (fun c1 => ?_) (fun c1 => (pn 45 rfl ?_))
  · have h := h.1 c1
    refine s_aload_n (i := 0) (by decide +kernel) rfl (pn 154 rfl ?_)
    refine s_getfield (v := .ref 168) (by decide +kernel) fr_12_42 lq_159 (congrArg Prod.fst sh_159) (fv_ref pf_159_22) (pn 157 rfl ?_)
    refine t_sipush (by decide +kernel) ks_256 (pn 160 rfl ?_)
    refine s_iload_n (i := 1) (by decide +kernel) rfl (pn 161 rfl ?_)
    refine s_imul (by decide +kernel) (pn 162 rfl ?_)
    refine s_iload_n (i := 2) (by decide +kernel) rfl (pn 163 rfl ?_)
    refine s_iadd (by decide +kernel) (pn 164 rfl ?_)
    refine s_iload (i := 4) (by decide +kernel) rfl (pn 166 rfl ?_)
    obtain ⟨b1, h⟩ := h
    refine t_iastore (k := (((256 : Int32) * l1) + l2).toNatClampNeg) (by decide +kernel) ⟨lq_168, congrArg Prod.fst sh_168⟩ (al_in sh_168 b1) rfl (pn 167 rfl ?_)
    refine s_aload_n (i := 0) (by decide +kernel) rfl (pn 168 rfl ?_)
    refine s_getfield (v := .ref 169) (by decide +kernel) fr_12_45 lq_159 (congrArg Prod.fst sh_159) (fv_ref pf_159_23) (pn 171 rfl ?_)
    refine t_sipush (by decide +kernel) ks_256 (pn 174 rfl ?_)
    refine s_iload_n (i := 1) (by decide +kernel) rfl (pn 175 rfl ?_)
    refine s_imul (by decide +kernel) (pn 176 rfl ?_)
    refine s_iload_n (i := 2) (by decide +kernel) rfl (pn 177 rfl ?_)
    refine s_iadd (by decide +kernel) (pn 178 rfl ?_)
    refine s_iload (i := 5) (by decide +kernel) rfl (pn 180 rfl ?_)
    obtain ⟨b2, h⟩ := h
    refine t_iastore (k := (((256 : Int32) * l1) + l2).toNatClampNeg) (by decide +kernel) ⟨lq_169, congrArg Prod.fst sh_169⟩ (al_in sh_169 b2) rfl (pn 181 rfl ?_)
    refine s_aload_n (i := 0) (by decide +kernel) rfl (pn 182 rfl ?_)
    refine s_getfield (v := .ref 170) (by decide +kernel) fr_12_48 lq_159 (congrArg Prod.fst sh_159) (fv_ref pf_159_24) (pn 185 rfl ?_)
    refine t_sipush (by decide +kernel) ks_256 (pn 188 rfl ?_)
    refine s_iload_n (i := 1) (by decide +kernel) rfl (pn 189 rfl ?_)
    refine s_imul (by decide +kernel) (pn 190 rfl ?_)
    refine s_iload_n (i := 2) (by decide +kernel) rfl (pn 191 rfl ?_)
    refine s_iadd (by decide +kernel) (pn 192 rfl ?_)
    refine s_iload (i := 6) (by decide +kernel) rfl (pn 194 rfl ?_)
    obtain ⟨b3, h⟩ := h
    refine t_iastore (k := (((256 : Int32) * l1) + l2).toNatClampNeg) (by decide +kernel) ⟨lq_170, congrArg Prod.fst sh_170⟩ (al_in sh_170 b3) rfl (pn 195 rfl ?_)
    exact s_return (st := []) (by decide +kernel) rfl ⟨rfl, s, rfl, h⟩
  · have h := h.2 c1
    refine s_aload_n (i := 0) (by decide +kernel) rfl (pn 46 rfl ?_)
    refine s_iload_n (i := 1) (by decide +kernel) rfl (pn 47 rfl ?_)
    refine s_iload (i := 7) (by decide +kernel) rfl (pn 49 rfl ?_)
    refine s_iload_n (i := 2) (by decide +kernel) rfl (pn 50 rfl ?_)
    refine s_callvI [.int l1, .int l7, .int l2] rfl (by decide +kernel) mv_12_397 np_277 (Nat.le_of_ble_eq_true rfl) lq_159 ((congrArg Prod.fst sh_159).trans oc_277) (cI_use h (fun r1 s1 M1 h => (pn 53 rfl ?_)))
    refine s_istore (i := 8) (by decide +kernel) (Nat.le_of_ble_eq_true rfl) (pn 55 rfl (t_store (ls' := [.ref 159, .int l1, .int l2, .int l3, .int l4, .int l5, .int l6, .int l7, .int r1, .null]) rfl ?_))
    refine s_iload (i := 8) (by decide +kernel) rfl (pn 57 rfl ?_)
    refine s_if_gt (off := 6) (tgt := 63) (by decide +kernel) rfl (fun c2 => ?_) (fun c2 => (pn 60 rfl ?_))
    · have h := h.1 c2
      refine s_iload_n (i := 3) (by decide +kernel) rfl (pn 64 rfl ?_)
      refine s_iload_n (i := 2) (by decide +kernel) rfl (pn 65 rfl ?_)
      refine t_iconst (by decide +kernel) ki_1 (pn 66 rfl ?_)
      refine s_iload (i := 7) (by decide +kernel) rfl (pn 68 rfl ?_)
      refine s_ishl (by decide +kernel) (pn 69 rfl ?_)
      refine s_ior (by decide +kernel) (pn 70 rfl ?_)
      refine s_iadd (by decide +kernel) (pn 71 rfl ?_)
      refine s_istore (i := 9) (by decide +kernel) (Nat.le_of_ble_eq_true rfl) (pn 73 rfl (t_store (ls' := [.ref 159, .int l1, .int l2, .int l3, .int l4, .int l5, .int l6, .int l7, .int r1, .int (l3 + (l2 ||| ((1 : Int32) <<< (l7 &&& 31))))]) rfl ?_))
      refine s_iload (i := 8) (by decide +kernel) rfl (pn 75 rfl ?_)
      refine s_aload_n (i := 0) (by decide +kernel) rfl (pn 76 rfl ?_)
      refine s_getfield (v := .ref 168) (by decide +kernel) fr_12_42 lq_159 (congrArg Prod.fst sh_159) (fv_ref pf_159_22) (pn 79 rfl ?_)
      refine s_iload (i := 9) (by decide +kernel) rfl (pn 81 rfl ?_)
      obtain ⟨b4, h⟩ := h
      refine t_iaload (v := M1.1 168 (l3 + (l2 ||| ((1 : Int32) <<< (l7 &&& 31)))).toNatClampNeg) (by decide +kernel) ⟨Or.inl lq_168, congrArg Prod.fst sh_168⟩ (al_in sh_168 b4) rfl (pn 82 rfl ?_)
      refine s_iadd (by decide +kernel) (pn 83 rfl ?_)
      refine s_iload (i := 4) (by decide +kernel) rfl (pn 85 rfl ?_)
      obtain ⟨b5, h⟩ := h
      have k1 : ∀ (z1 : Int32) (z1e : z1 = ((if (r1 + (M1.1 168 (l3 + (l2 ||| ((1 : Int32) <<< (l7 &&& 31)))).toNatClampNeg)) ≤ l4 then l4 else (r1 + (M1.1 168 (l3 + (l2 ||| ((1 : Int32) <<< (l7 &&& 31)))).toNatClampNeg))) : Int32)), wM_laysGiven d 103 [.ref 159, .int l1, .int l2, .int l3, .int l4, .int l5, .int l6, .int l7, .int r1, .int (l3 + (l2 ||| ((1 : Int32) <<< (l7 &&& 31))))] [.int z1] s1 M1 Q := by
        intro z1 z1e
        subst z1e
        exact pm_weak [.ref 159, .int l1, .int l2, .int l3, .null, .int l5, .int l6, .int l7, .null, .int (l3 + (l2 ||| ((1 : Int32) <<< (l7 &&& 31))))] (pm_le_cons (Or.inr rfl) (pm_le_cons (Or.inr rfl) (pm_le_cons (Or.inr rfl) (pm_le_cons (Or.inr rfl) (pm_le_cons (Or.inl rfl) (pm_le_cons (Or.inr rfl) (pm_le_cons (Or.inr rfl) (pm_le_cons (Or.inr rfl) (pm_le_cons (Or.inl rfl) (pm_le_cons (Or.inr rfl) pm_le_nil)))))))))) h
      refine s_icmp_le (off := 16) (tgt := 101) (by decide +kernel) rfl (fun c4 => ?_) (fun c4 => (pn 88 rfl ?_))
      · refine s_iload (i := 4) (by decide +kernel) rfl (pn 103 rfl ?_)
        exact k1 _ (by simp only [if_pos c4])
      · refine s_iload (i := 8) (by decide +kernel) rfl (pn 90 rfl ?_)
        refine s_aload_n (i := 0) (by decide +kernel) rfl (pn 91 rfl ?_)
        refine s_getfield (v := .ref 168) (by decide +kernel) fr_12_42 lq_159 (congrArg Prod.fst sh_159) (fv_ref pf_159_22) (pn 94 rfl ?_)
        refine s_iload (i := 9) (by decide +kernel) rfl (pn 96 rfl ?_)
        refine t_iaload (v := M1.1 168 (l3 + (l2 ||| ((1 : Int32) <<< (l7 &&& 31)))).toNatClampNeg) (by decide +kernel) ⟨Or.inl lq_168, congrArg Prod.fst sh_168⟩ (al_in sh_168 (b5 c4)) rfl (pn 97 rfl ?_)
        refine s_iadd (by decide +kernel) (pn 98 rfl ?_)
        refine s_goto (off := 5) (tgt := 103) (by decide +kernel) rfl ?_
        exact k1 _ (by simp only [if_neg c4])
    · have h := h.2 c2
      refine s_goto (off := 87) (tgt := 147) (by decide +kernel) rfl ?_
      refine t_iinc (i := 7) (n := 1) (ls' := [.ref 159, .int l1, .int l2, .int l3, .int l4, .int l5, .int l6, .int (l7 + 1), .int r1, .null]) (by decide +kernel) rfl (Nat.le_of_ble_eq_true rfl) kn_1 rfl (pn 150 rfl ?_)
      refine s_goto (off := -116) (tgt := 34) (by decide +kernel) rfl ?_
      exact pm_weak [.ref 159, .int l1, .int l2, .int l3, .int l4, .int l5, .int l6, .int (l7 + 1), .null, .null] (pm_le_cons (Or.inr rfl) (pm_le_cons (Or.inr rfl) (pm_le_cons (Or.inr rfl) (pm_le_cons (Or.inr rfl) (pm_le_cons (Or.inr rfl) (pm_le_cons (Or.inr rfl) (pm_le_cons (Or.inr rfl) (pm_le_cons (Or.inr rfl) (pm_le_cons (Or.inl rfl) (pm_le_cons (Or.inl rfl) pm_le_nil)))))))))) h
theorem sgM_laysGiven_103 {d : Nat} {s : pm_S} {M : pm_M} {l1 : Int32} {l2 : Int32} {l3 : Int32} {l5 : Int32} {l6 : Int32} {l7 : Int32} {l9 : Int32} {t0 : Int32} {Q : pm_S → pm_M → Prop}  (h : vp_in l9 1792 ∧ (¬ (((1 : Int32) + (M.1 169 l9.toNatClampNeg)) ≤ l5) → vp_in l9 1792) ∧ (∀ v1 : Int32, v1 = ((if ((1 : Int32) + (M.1 169 l9.toNatClampNeg)) ≤ l5 then l5 else ((1 : Int32) + (M.1 169 l9.toNatClampNeg))) : Int32) → vp_in l9 1792 ∧ wM_laysGiven d 34 [.ref 159, .int l1, .int l2, .int l3, .int t0, .int v1, .int (l6 + (M.1 170 l9.toNatClampNeg)), .int (l7 + 1), .null, .null] [] s M Q)) : wM_laysGiven d 103 [.ref 159, .int l1, .int l2, .int l3, .null, .int l5, .int l6, .int l7, .null, .int l9] [.int t0] s M Q := by
  refine s_istore (i := 4) (by decide +kernel) (Nat.le_of_ble_eq_true rfl) (pn 105 rfl (t_store (ls' := [.ref 159, .int l1, .int l2, .int l3, .int t0, .int l5, .int l6, .int l7, .null, .int l9]) rfl ?_))
  refine t_iconst (by decide +kernel) ki_1 (pn 106 rfl ?_)
  refine s_aload_n (i := 0) (by decide +kernel) rfl (pn 107 rfl ?_)
  refine s_getfield (v := .ref 169) (by decide +kernel) fr_12_45 lq_159 (congrArg Prod.fst sh_159) (fv_ref pf_159_23) (pn 110 rfl ?_)
  refine s_iload (i := 9) (by decide +kernel) rfl (pn 112 rfl ?_)
  obtain ⟨b1, h⟩ := h
  refine t_iaload (v := M.1 169 l9.toNatClampNeg) (by decide +kernel) ⟨Or.inl lq_169, congrArg Prod.fst sh_169⟩ (al_in sh_169 b1) rfl (pn 113 rfl ?_)
  refine s_iadd (by decide +kernel) (pn 114 rfl ?_)
  refine s_iload (i := 5) (by decide +kernel) rfl (pn 116 rfl ?_)
  obtain ⟨b2, h⟩ := h
  have k1 : ∀ (z1 : Int32) (z1e : z1 = ((if ((1 : Int32) + (M.1 169 l9.toNatClampNeg)) ≤ l5 then l5 else ((1 : Int32) + (M.1 169 l9.toNatClampNeg))) : Int32)), wM_laysGiven d 133 [.ref 159, .int l1, .int l2, .int l3, .int t0, .int l5, .int l6, .int l7, .null, .int l9] [.int z1] s M Q := by
    intro z1 z1e
    subst z1e
    obtain ⟨v1, ev1⟩ : ∃ zz : Int32, zz = ((if ((1 : Int32) + (M.1 169 l9.toNatClampNeg)) ≤ l5 then l5 else ((1 : Int32) + (M.1 169 l9.toNatClampNeg))) : Int32) := ⟨_, rfl⟩
    have h := h v1 ev1
    rw [← ev1]
    refine s_istore (i := 5) (by decide +kernel) (Nat.le_of_ble_eq_true rfl) (pn 135 rfl (t_store (ls' := [.ref 159, .int l1, .int l2, .int l3, .int t0, .int v1, .int l6, .int l7, .null, .int l9]) rfl ?_))
    refine s_iload (i := 6) (by decide +kernel) rfl (pn 137 rfl ?_)
    refine s_aload_n (i := 0) (by decide +kernel) rfl (pn 138 rfl ?_)
    refine s_getfield (v := .ref 170) (by decide +kernel) fr_12_48 lq_159 (congrArg Prod.fst sh_159) (fv_ref pf_159_24) (pn 141 rfl ?_)
    refine s_iload (i := 9) (by decide +kernel) rfl (pn 143 rfl ?_)
    obtain ⟨b3, h⟩ := h
    refine t_iaload (v := M.1 170 l9.toNatClampNeg) (by decide +kernel) ⟨Or.inl lq_170, congrArg Prod.fst sh_170⟩ (al_in sh_170 b3) rfl (pn 144 rfl ?_)
    refine s_iadd (by decide +kernel) (pn 145 rfl ?_)
    refine s_istore (i := 6) (by decide +kernel) (Nat.le_of_ble_eq_true rfl) (pn 147 rfl (t_store (ls' := [.ref 159, .int l1, .int l2, .int l3, .int t0, .int v1, .int (l6 + (M.1 170 l9.toNatClampNeg)), .int l7, .null, .int l9]) rfl ?_))
    refine t_iinc (i := 7) (n := 1) (ls' := [.ref 159, .int l1, .int l2, .int l3, .int t0, .int v1, .int (l6 + (M.1 170 l9.toNatClampNeg)), .int (l7 + 1), .null, .int l9]) (by decide +kernel) rfl (Nat.le_of_ble_eq_true rfl) kn_1 rfl (pn 150 rfl ?_)
    refine s_goto (off := -116) (tgt := 34) (by decide +kernel) rfl ?_
    exact pm_weak [.ref 159, .int l1, .int l2, .int l3, .int t0, .int v1, .int (l6 + (M.1 170 l9.toNatClampNeg)), .int (l7 + 1), .null, .null] (pm_le_cons (Or.inr rfl) (pm_le_cons (Or.inr rfl) (pm_le_cons (Or.inr rfl) (pm_le_cons (Or.inr rfl) (pm_le_cons (Or.inr rfl) (pm_le_cons (Or.inr rfl) (pm_le_cons (Or.inr rfl) (pm_le_cons (Or.inr rfl) (pm_le_cons (Or.inl rfl) (pm_le_cons (Or.inl rfl) pm_le_nil)))))))))) h
  refine s_icmp_le (off := 15) (tgt := 131) (by decide +kernel) rfl (fun c1 => ?_) (fun c1 => (pn 119 rfl ?_))
  · refine s_iload (i := 5) (by decide +kernel) rfl (pn 133 rfl ?_)
    exact k1 _ (by simp only [if_pos c1])
  · refine t_iconst (by decide +kernel) ki_1 (pn 120 rfl ?_)
    refine s_aload_n (i := 0) (by decide +kernel) rfl (pn 121 rfl ?_)
    refine s_getfield (v := .ref 169) (by decide +kernel) fr_12_45 lq_159 (congrArg Prod.fst sh_159) (fv_ref pf_159_23) (pn 124 rfl ?_)
    refine s_iload (i := 9) (by decide +kernel) rfl (pn 126 rfl ?_)
    refine t_iaload (v := M.1 169 l9.toNatClampNeg) (by decide +kernel) ⟨Or.inl lq_169, congrArg Prod.fst sh_169⟩ (al_in sh_169 (b2 c1)) rfl (pn 127 rfl ?_)
    refine s_iadd (by decide +kernel) (pn 128 rfl ?_)
    refine s_goto (off := 5) (tgt := 133) (by decide +kernel) rfl ?_
    exact k1 _ (by simp only [if_neg c1])
abbrev wM_claimed (d pc : Nat) (ls st : List Value) (s : pm_S) (M : pm_M) (Q : Int32 → pm_S → pm_M → Prop) : Prop := wI d prog_14_method_93_code 12 (some .int) false pc ls st s M Q
theorem enM_claimed {d : Nat} {s : pm_S} {M : pm_M} {x1 : Int32} {x2 : Int32} {x3 : Int32} {Q : Int32 → pm_S → pm_M → Prop}  (h : cI d yM_isIn [.long (x3.toInt64), .int x2] s M (fun r1 s1 M1 => ((r1 = 0) → vp_in (((8 : Int32) * x1) + x2) 48) ∧ Q ((if r1 = 0 then (M1.1 171 (((8 : Int32) * x1) + x2).toNatClampNeg) else 0) : Int32) s1 M1)) : cI (d + 1) yM_claimed [.ref 159, .int x1, .int x2, .int x3] s M Q := by
  refine pm_toI (by decide) (Nat.le_of_ble_eq_true rfl) ?_
  show wM_claimed d 0 [.ref 159, .int x1, .int x2, .int x3] [] s M Q
  refine s_iload_n (i := 3) (by decide +kernel) rfl (pn 1 rfl ?_)
  refine s_i2l (by decide +kernel) (pn 2 rfl ?_)
  refine s_iload_n (i := 2) (by decide +kernel) rfl (pn 3 rfl ?_)
  refine s_callsI [.long (x3.toInt64), .int x2] rfl (by decide +kernel) ms_12_390 np_278 (Nat.le_of_ble_eq_true rfl) (cI_use h (fun r1 s1 M1 h => (pn 6 rfl ?_)))
  obtain ⟨b1, h⟩ := h
  have k1 : ∀ (z1 : Int32) (z1e : z1 = ((if r1 = 0 then (M1.1 171 (((8 : Int32) * x1) + x2).toNatClampNeg) else 0) : Int32)), wM_claimed d 24 [.ref 159, .int x1, .int x2, .int x3] [.int z1] s1 M1 Q := by
    intro z1 z1e
    subst z1e
    exact s_ireturn (st := []) (by decide +kernel) (Or.inl rfl) ⟨_, rfl, s1, rfl, h⟩
  refine s_if_eq (off := 7) (tgt := 13) (by decide +kernel) rfl (fun c1 => ?_) (fun c1 => (pn 9 rfl ?_))
  · refine s_aload_n (i := 0) (by decide +kernel) rfl (pn 14 rfl ?_)
    refine s_getfield (v := .ref 171) (by decide +kernel) fr_12_51 lq_159 (congrArg Prod.fst sh_159) (fv_ref pf_159_25) (pn 17 rfl ?_)
    refine t_bipush (by decide +kernel) kb_8 (pn 19 rfl ?_)
    refine s_iload_n (i := 1) (by decide +kernel) rfl (pn 20 rfl ?_)
    refine s_imul (by decide +kernel) (pn 21 rfl ?_)
    refine s_iload_n (i := 2) (by decide +kernel) rfl (pn 22 rfl ?_)
    refine s_iadd (by decide +kernel) (pn 23 rfl ?_)
    refine t_iaload (v := M1.1 171 (((8 : Int32) * x1) + x2).toNatClampNeg) (by decide +kernel) ⟨Or.inl lq_171, congrArg Prod.fst sh_171⟩ (al_in sh_171 (b1 c1)) rfl (pn 24 rfl ?_)
    exact k1 _ (by simp only [if_pos c1])
  · refine t_iconst (by decide +kernel) ki_0 (pn 10 rfl ?_)
    refine s_goto (off := 14) (tgt := 24) (by decide +kernel) rfl ?_
    exact k1 _ (by simp only [if_neg c1])
abbrev wM_isIn (d pc : Nat) (ls st : List Value) (s : pm_S) (M : pm_M) (Q : Int32 → pm_S → pm_M → Prop) : Prop := wI d prog_14_method_15_code 12 (some .boolean) false pc ls st s M Q
theorem enM_isIn {d : Nat} {s : pm_S} {M : pm_M} {x1 : Int64} {x2 : Int32} {Q : Int32 → pm_S → pm_M → Prop}  (h : Q ((if ((x1 >>> (x2.toInt64 &&& 63)) &&& 1) = 1 then 1 else 0) : Int32) s M) : cI (d + 1) yM_isIn [.long x1, .int x2] s M Q := by
  refine pm_toI (by decide) (Nat.le_of_ble_eq_true rfl) ?_
  show wM_isIn d 0 [.long x1, .null, .int x2] [] s M Q
  refine s_lload_n (i := 0) (by decide +kernel) rfl (pn 1 rfl ?_)
  refine s_iload_n (i := 2) (by decide +kernel) rfl (pn 2 rfl ?_)
  refine s_lshr (by decide +kernel) (pn 3 rfl ?_)
  refine t_lconst (n := 1) (v := 1) (by decide +kernel) rfl (pn 4 rfl ?_)
  refine s_land (by decide +kernel) (pn 5 rfl ?_)
  refine t_lconst (n := 1) (v := 1) (by decide +kernel) rfl (pn 6 rfl ?_)
  have k1 : ∀ (z1 : Int32) (z1e : z1 = ((if ((x1 >>> (x2.toInt64 &&& 63)) &&& 1) = 1 then 1 else 0) : Int32)), wM_isIn d 15 [.long x1, .null, .int x2] [.int z1] s M Q := by
    intro z1 z1e
    subst z1e
    exact s_ireturn (st := []) (by decide +kernel) (Or.inr ⟨rfl, (or01 (Or.inr rfl) (Or.inl rfl))⟩) ⟨_, rfl, s, rfl, h⟩
  refine t_lc_ne (off := 7) (tgt := 14) (by decide +kernel) (by decide +kernel) rfl (fun c1 => ?_) (fun c1 => (pn 10 rfl ?_))
  · refine t_iconst (by decide +kernel) ki_0 (pn 15 rfl ?_)
    exact k1 _ (by simp only [if_neg c1])
  · refine t_iconst (by decide +kernel) ki_1 (pn 11 rfl ?_)
    refine s_goto (off := 4) (tgt := 15) (by decide +kernel) rfl ?_
    exact k1 _ (by simp only [if_pos c1])
abbrev wM_matchings (d pc : Nat) (ls st : List Value) (s : pm_S) (M : pm_M) (Q : Int32 → pm_S → pm_M → Prop) : Prop := wI d prog_14_method_97_code 12 (some .int) false pc ls st s M Q
theorem enM_matchings {d : Nat} {s : pm_S} {M : pm_M}  {Q : Int32 → pm_S → pm_M → Prop}  (h : cV d yM_laysMatching [.ref 159] s (pm_si M 159 0 0) (fun s1 M1 => Q (M1.1 170 0) s1 M1)) : cI (d + 1) yM_matchings [.ref 159] s M Q := by
  refine pm_toI (by decide) (Nat.le_of_ble_eq_true rfl) ?_
  show wM_matchings d 0 [.ref 159] [] s M Q
  refine s_aload_n (i := 0) (by decide +kernel) rfl (pn 1 rfl ?_)
  refine t_iconst (by decide +kernel) ki_0 (pn 2 rfl ?_)
  refine s_putfieldI (by decide +kernel) fr_12_1 lq_159 (congrArg Prod.fst sh_159) (fun q => by cases q) (Or.inl rfl) (pn 5 rfl ?_)
  refine s_aload_n (i := 0) (by decide +kernel) rfl (pn 6 rfl ?_)
  refine s_callvV [] rfl (by decide +kernel) mv_12_400 np_275 (Nat.le_of_ble_eq_true rfl) lq_159 ((congrArg Prod.fst sh_159).trans oc_275) (cV_use h (fun s1 M1 h => (pn 9 rfl ?_)))
  refine s_aload_n (i := 0) (by decide +kernel) rfl (pn 10 rfl ?_)
  refine s_getfield (v := .ref 170) (by decide +kernel) fr_12_48 lq_159 (congrArg Prod.fst sh_159) (fv_ref pf_159_24) (pn 13 rfl ?_)
  refine t_iconst (by decide +kernel) ki_0 (pn 14 rfl ?_)
  refine t_iaload (v := M1.1 170 0) (by decide +kernel) ⟨Or.inl lq_170, congrArg Prod.fst sh_170⟩ (al_in sh_170 (vp_lit (n := 1792) tn_0 (by decide) (by decide))) (by rw [tn_0] <;> rfl) (pn 15 rfl ?_)
  exact s_ireturn (st := []) (by decide +kernel) (Or.inl rfl) ⟨_, rfl, s1, rfl, h⟩
abbrev wM_without (d pc : Nat) (ls st : List Value) (s : pm_S) (M : pm_M) (Q : Int32 → pm_S → pm_M → Prop) : Prop := wI d prog_14_method_99_code 12 (some .int) false pc ls st s M Q
theorem enM_without {d : Nat} {s : pm_S} {M : pm_M}  {Q : Int32 → pm_S → pm_M → Prop}  (h : cV d yM_laysMatching [.ref 159] s (pm_si M 159 0 0) (fun s1 M1 => wM_without d 13 [.ref 159, .int 0, .int 0] [] s1 M1 Q)) : cI (d + 1) yM_without [.ref 159] s M Q := by
  refine pm_toI (by decide) (Nat.le_of_ble_eq_true rfl) ?_
  show wM_without d 0 [.ref 159, .null, .null] [] s M Q
  refine s_aload_n (i := 0) (by decide +kernel) rfl (pn 1 rfl ?_)
  refine t_iconst (by decide +kernel) ki_0 (pn 2 rfl ?_)
  refine s_putfieldI (by decide +kernel) fr_12_1 lq_159 (congrArg Prod.fst sh_159) (fun q => by cases q) (Or.inl rfl) (pn 5 rfl ?_)
  refine s_aload_n (i := 0) (by decide +kernel) rfl (pn 6 rfl ?_)
  refine s_callvV [] rfl (by decide +kernel) mv_12_400 np_275 (Nat.le_of_ble_eq_true rfl) lq_159 ((congrArg Prod.fst sh_159).trans oc_275) (cV_use h (fun s1 M1 h => (pn 9 rfl ?_)))
  refine t_iconst (by decide +kernel) ki_0 (pn 10 rfl ?_)
  refine s_istore_n (i := 1) (by decide +kernel) (Nat.le_of_ble_eq_true rfl) (pn 11 rfl (t_store (ls' := [.ref 159, .int 0, .null]) rfl ?_))
  refine t_iconst (by decide +kernel) ki_0 (pn 12 rfl ?_)
  refine s_istore_n (i := 2) (by decide +kernel) (Nat.le_of_ble_eq_true rfl) (pn 13 rfl (t_store (ls' := [.ref 159, .int 0, .int 0]) rfl ?_))
  exact h
theorem sgM_without_13 {d : Nat} {s : pm_S} {M : pm_M} {l1 : Int32} {l2 : Int32} {Q : Int32 → pm_S → pm_M → Prop}  (h : ((((M.1 160 3) ≤ l2) → Q l1 s (pm_si M 159 26 (-1))) ∧ (¬ ((M.1 160 3) ≤ l2) → cI d yM_mostGiven [.ref 159, .int 0, .int 0] s (pm_si M 159 26 l2) (fun r1 s1 M1 => (∀ v1 : Int32, v1 = l1 ||| ((if (M1.1 169 0) ≤ r1 then 0 else ((1 : Int32) <<< (l2 &&& 31))) : Int32) → wM_without d 13 [.ref 159, .int v1, .int (l2 + 1)] [] s1 M1 Q))))) : wM_without d 13 [.ref 159, .int l1, .int l2] [] s M Q := by
  refine s_iload_n (i := 2) (by decide +kernel) rfl (pn 14 rfl ?_)
  refine s_aload_n (i := 0) (by decide +kernel) rfl (pn 15 rfl ?_)
  refine s_getfield (v := .ref 160) (by decide +kernel) fr_12_13 lq_159 (congrArg Prod.fst sh_159) (fv_ref pf_159_1) (pn 18 rfl ?_)
  refine t_iconst (by decide +kernel) ki_3 (pn 19 rfl ?_)
  refine t_iaload (v := M.1 160 3) (by decide +kernel) ⟨Or.inl lq_160, congrArg Prod.fst sh_160⟩ (al_in sh_160 (vp_lit (n := 3870) tn_3 (by decide) (by decide))) (by rw [tn_3] <;> rfl) (pn 20 rfl ?_)
  refine s_icmp_ge (off := 39) (tgt := 59) (by decide +kernel) rfl (fun c1 => ?_) (fun c1 => (pn 23 rfl ?_))
  · have h := h.1 c1
    refine s_aload_n (i := 0) (by decide +kernel) rfl (pn 60 rfl ?_)
    refine t_iconst (by decide +kernel) ki_m1 (pn 61 rfl ?_)
    refine s_putfieldI (by decide +kernel) fr_12_54 lq_159 (congrArg Prod.fst sh_159) (fun q => by cases q) (Or.inl rfl) (pn 64 rfl ?_)
    refine s_iload_n (i := 1) (by decide +kernel) rfl (pn 65 rfl ?_)
    exact s_ireturn (st := []) (by decide +kernel) (Or.inl rfl) ⟨_, rfl, s, rfl, h⟩
  · have h := h.2 c1
    refine s_aload_n (i := 0) (by decide +kernel) rfl (pn 24 rfl ?_)
    refine s_iload_n (i := 2) (by decide +kernel) rfl (pn 25 rfl ?_)
    refine s_putfieldI (by decide +kernel) fr_12_54 lq_159 (congrArg Prod.fst sh_159) (fun q => by cases q) (Or.inl rfl) (pn 28 rfl ?_)
    refine s_iload_n (i := 1) (by decide +kernel) rfl (pn 29 rfl ?_)
    refine s_aload_n (i := 0) (by decide +kernel) rfl (pn 30 rfl ?_)
    refine t_iconst (by decide +kernel) ki_0 (pn 31 rfl ?_)
    refine t_iconst (by decide +kernel) ki_0 (pn 32 rfl ?_)
    refine s_callvI [.int 0, .int 0] rfl (by decide +kernel) mv_12_404 np_281 (Nat.le_of_ble_eq_true rfl) lq_159 ((congrArg Prod.fst sh_159).trans oc_281) (cI_use h (fun r1 s1 M1 h => (pn 35 rfl ?_)))
    refine s_aload_n (i := 0) (by decide +kernel) rfl (pn 36 rfl ?_)
    refine s_getfield (v := .ref 169) (by decide +kernel) fr_12_45 lq_159 (congrArg Prod.fst sh_159) (fv_ref pf_159_23) (pn 39 rfl ?_)
    refine t_iconst (by decide +kernel) ki_0 (pn 40 rfl ?_)
    refine t_iaload (v := M1.1 169 0) (by decide +kernel) ⟨Or.inl lq_169, congrArg Prod.fst sh_169⟩ (al_in sh_169 (vp_lit (n := 1792) tn_0 (by decide) (by decide))) (by rw [tn_0] <;> rfl) (pn 41 rfl ?_)
    have k1 : ∀ (z1 : Int32) (z1e : z1 = ((if (M1.1 169 0) ≤ r1 then 0 else ((1 : Int32) <<< (l2 &&& 31))) : Int32)), wM_without d 51 [.ref 159, .int l1, .int l2] [.int z1, .int l1] s1 M1 Q := by
      intro z1 z1e
      subst z1e
      refine s_ior (by decide +kernel) (pn 52 rfl ?_)
      obtain ⟨v1, ev1⟩ : ∃ zz : Int32, zz = l1 ||| ((if (M1.1 169 0) ≤ r1 then 0 else ((1 : Int32) <<< (l2 &&& 31))) : Int32) := ⟨_, rfl⟩
      have h := h v1 ev1
      rw [← ev1]
      refine s_istore_n (i := 1) (by decide +kernel) (Nat.le_of_ble_eq_true rfl) (pn 53 rfl (t_store (ls' := [.ref 159, .int v1, .int l2]) rfl ?_))
      refine t_iinc (i := 2) (n := 1) (ls' := [.ref 159, .int v1, .int (l2 + 1)]) (by decide +kernel) rfl (Nat.le_of_ble_eq_true rfl) kn_1 rfl (pn 56 rfl ?_)
      refine s_goto (off := -43) (tgt := 13) (by decide +kernel) rfl ?_
      exact h
    refine s_icmp_ge (off := 9) (tgt := 50) (by decide +kernel) rfl (fun c2 => ?_) (fun c2 => (pn 44 rfl ?_))
    · refine t_iconst (by decide +kernel) ki_0 (pn 51 rfl ?_)
      exact k1 _ (by simp only [if_pos c2])
    · refine t_iconst (by decide +kernel) ki_1 (pn 45 rfl ?_)
      refine s_iload_n (i := 2) (by decide +kernel) rfl (pn 46 rfl ?_)
      refine s_ishl (by decide +kernel) (pn 47 rfl ?_)
      refine s_goto (off := 4) (tgt := 51) (by decide +kernel) rfl ?_
      exact k1 _ (by simp only [if_neg c2])
abbrev wM_mostGiven (d pc : Nat) (ls st : List Value) (s : pm_S) (M : pm_M) (Q : Int32 → pm_S → pm_M → Prop) : Prop := wI d prog_14_method_98_code 12 (some .int) false pc ls st s M Q
theorem enM_mostGiven {d : Nat} {s : pm_S} {M : pm_M} {x1 : Int32} {x2 : Int32} {Q : Int32 → pm_S → pm_M → Prop}  (h : ((x1 = (M.1 160 3) → Q 0 s M) ∧ (¬ (x1 = (M.1 160 3)) → ((x1 = (M.1 159 26) → wM_mostGiven d 38 [.ref 159, .int x1, .int x2, .int (-268435456), .int 0, .null] [] s M Q) ∧ (¬ (x1 = (M.1 159 26)) → cI d yM_mostGiven [.ref 159, .int (x1 + 1), .int x2] s M (fun r1 s1 M1 => wM_mostGiven d 38 [.ref 159, .int x1, .int x2, .int r1, .int 0, .null] [] s1 M1 Q)))))) : cI (d + 1) yM_mostGiven [.ref 159, .int x1, .int x2] s M Q := by
  refine pm_toI (by decide) (Nat.le_of_ble_eq_true rfl) ?_
  show wM_mostGiven d 0 [.ref 159, .int x1, .int x2, .null, .null, .null] [] s M Q
  refine s_iload_n (i := 1) (by decide +kernel) rfl (pn 1 rfl ?_)
  refine s_aload_n (i := 0) (by decide +kernel) rfl (pn 2 rfl ?_)
  refine s_getfield (v := .ref 160) (by decide +kernel) fr_12_13 lq_159 (congrArg Prod.fst sh_159) (fv_ref pf_159_1) (pn 5 rfl ?_)
  refine t_iconst (by decide +kernel) ki_3 (pn 6 rfl ?_)
  refine t_iaload (v := M.1 160 3) (by decide +kernel) ⟨Or.inl lq_160, congrArg Prod.fst sh_160⟩ (al_in sh_160 (vp_lit (n := 3870) tn_3 (by decide) (by decide))) (by rw [tn_3] <;> rfl) (pn 7 rfl ?_)
  refine t_icmp_ne (off := 5) (tgt := 12) (by decide +kernel) rfl (fun c1 => ?_) (fun c1 => (pn 10 rfl ?_))
  · have h := h.2 c1
    refine s_iload_n (i := 1) (by decide +kernel) rfl (pn 13 rfl ?_)
    refine s_aload_n (i := 0) (by decide +kernel) rfl (pn 14 rfl ?_)
    refine s_getfield (v := .int (M.1 159 26)) (by decide +kernel) fr_12_54 lq_159 (congrArg Prod.fst sh_159) rfl (pn 17 rfl ?_)
    refine t_icmp_ne (off := 9) (tgt := 26) (by decide +kernel) rfl (fun c2 => ?_) (fun c2 => (pn 20 rfl ?_))
    · have h := h.2 c2
      refine s_aload_n (i := 0) (by decide +kernel) rfl (pn 27 rfl ?_)
      refine s_iload_n (i := 1) (by decide +kernel) rfl (pn 28 rfl ?_)
      refine t_iconst (by decide +kernel) ki_1 (pn 29 rfl ?_)
      refine s_iadd (by decide +kernel) (pn 30 rfl ?_)
      refine s_iload_n (i := 2) (by decide +kernel) rfl (pn 31 rfl ?_)
      refine s_callvI [.int (x1 + 1), .int x2] rfl (by decide +kernel) mv_12_404 np_281 (Nat.le_of_ble_eq_true rfl) lq_159 ((congrArg Prod.fst sh_159).trans oc_281) (cI_use h (fun r1 s1 M1 h => (pn 34 rfl ?_)))
      refine s_istore_n (i := 3) (by decide +kernel) (Nat.le_of_ble_eq_true rfl) (pn 35 rfl (t_store (ls' := [.ref 159, .int x1, .int x2, .int r1, .null, .null]) rfl ?_))
      refine t_iconst (by decide +kernel) ki_0 (pn 36 rfl ?_)
      refine s_istore (i := 4) (by decide +kernel) (Nat.le_of_ble_eq_true rfl) (pn 38 rfl (t_store (ls' := [.ref 159, .int x1, .int x2, .int r1, .int 0, .null]) rfl ?_))
      exact h
    · have h := h.1 c2
      refine s_ldc_w (by decide +kernel) kc_12_403 (pn 23 rfl ?_)
      refine s_goto (off := 11) (tgt := 34) (by decide +kernel) rfl ?_
      refine s_istore_n (i := 3) (by decide +kernel) (Nat.le_of_ble_eq_true rfl) (pn 35 rfl (t_store (ls' := [.ref 159, .int x1, .int x2, .int (-268435456), .null, .null]) rfl ?_))
      refine t_iconst (by decide +kernel) ki_0 (pn 36 rfl ?_)
      refine s_istore (i := 4) (by decide +kernel) (Nat.le_of_ble_eq_true rfl) (pn 38 rfl (t_store (ls' := [.ref 159, .int x1, .int x2, .int (-268435456), .int 0, .null]) rfl ?_))
      exact h
  · have h := h.1 c1
    refine t_iconst (by decide +kernel) ki_0 (pn 11 rfl ?_)
    exact s_ireturn (st := []) (by decide +kernel) (Or.inl rfl) ⟨_, rfl, s, rfl, h⟩
theorem sgM_mostGiven_38 {d : Nat} {s : pm_S} {M : pm_M} {l1 : Int32} {l2 : Int32} {l3 : Int32} {l4 : Int32} {Q : Int32 → pm_S → pm_M → Prop}  (h : ((((M.1 160 2) ≤ l4) → Q l3 s M) ∧ (¬ ((M.1 160 2) ≤ l4) → cI d yM_claimed [.ref 159, .int l1, .int l4, .int l2] s M (fun r1 s1 M1 => (((r1 ≤ 0) → wM_mostGiven d 38 [.ref 159, .int l1, .int l2, .int ((if ((-268435456) : Int32) ≤ l3 then l3 else (-268435456)) : Int32), .int (l4 + 1), .null] [] s1 M1 Q) ∧ (¬ (r1 ≤ 0) → cI d yM_mostGiven [.ref 159, .int (l1 + 1), .int (l2 ||| ((1 : Int32) <<< (l4 &&& 31)))] s1 M1 (fun r2 s2 M2 => wM_mostGiven d 38 [.ref 159, .int l1, .int l2, .int ((if ((1 : Int32) + r2) ≤ l3 then l3 else ((1 : Int32) + r2)) : Int32), .int (l4 + 1), .null] [] s2 M2 Q))))))) : wM_mostGiven d 38 [.ref 159, .int l1, .int l2, .int l3, .int l4, .null] [] s M Q := by
  refine s_iload (i := 4) (by decide +kernel) rfl (pn 40 rfl ?_)
  refine s_aload_n (i := 0) (by decide +kernel) rfl (pn 41 rfl ?_)
  refine s_getfield (v := .ref 160) (by decide +kernel) fr_12_13 lq_159 (congrArg Prod.fst sh_159) (fv_ref pf_159_1) (pn 44 rfl ?_)
  refine t_iconst (by decide +kernel) ki_2 (pn 45 rfl ?_)
  refine t_iaload (v := M.1 160 2) (by decide +kernel) ⟨Or.inl lq_160, congrArg Prod.fst sh_160⟩ (al_in sh_160 (vp_lit (n := 3870) tn_2 (by decide) (by decide))) (by rw [tn_2] <;> rfl) (pn 46 rfl ?_)
  refine s_icmp_ge (off := 56) (tgt := 102) (by decide +kernel) rfl (fun c1 => ?_) (fun c1 => (pn 49 rfl ?_))
  · have h := h.1 c1
    refine s_iload_n (i := 3) (by decide +kernel) rfl (pn 103 rfl ?_)
    exact s_ireturn (st := []) (by decide +kernel) (Or.inl rfl) ⟨_, rfl, s, rfl, h⟩
  · have h := h.2 c1
    refine s_aload_n (i := 0) (by decide +kernel) rfl (pn 50 rfl ?_)
    refine s_iload_n (i := 1) (by decide +kernel) rfl (pn 51 rfl ?_)
    refine s_iload (i := 4) (by decide +kernel) rfl (pn 53 rfl ?_)
    refine s_iload_n (i := 2) (by decide +kernel) rfl (pn 54 rfl ?_)
    refine s_callvI [.int l1, .int l4, .int l2] rfl (by decide +kernel) mv_12_397 np_277 (Nat.le_of_ble_eq_true rfl) lq_159 ((congrArg Prod.fst sh_159).trans oc_277) (cI_use h (fun r1 s1 M1 h => (pn 57 rfl ?_)))
    refine s_if_le (off := 21) (tgt := 78) (by decide +kernel) rfl (fun c2 => ?_) (fun c2 => (pn 60 rfl ?_))
    · have h := h.1 c2
      refine s_ldc_w (by decide +kernel) kc_12_403 (pn 81 rfl ?_)
      refine s_istore (i := 5) (by decide +kernel) (Nat.le_of_ble_eq_true rfl) (pn 83 rfl (t_store (ls' := [.ref 159, .int l1, .int l2, .int l3, .int l4, .int (-268435456)]) rfl ?_))
      refine s_iload (i := 5) (by decide +kernel) rfl (pn 85 rfl ?_)
      refine s_iload_n (i := 3) (by decide +kernel) rfl (pn 86 rfl ?_)
      have k1 : ∀ (z1 : Int32) (z1e : z1 = ((if ((-268435456) : Int32) ≤ l3 then l3 else (-268435456)) : Int32)), wM_mostGiven d 95 [.ref 159, .int l1, .int l2, .int l3, .int l4, .int (-268435456)] [.int z1] s1 M1 Q := by
        intro z1 z1e
        subst z1e
        refine s_istore_n (i := 3) (by decide +kernel) (Nat.le_of_ble_eq_true rfl) (pn 96 rfl (t_store (ls' := [.ref 159, .int l1, .int l2, .int ((if ((-268435456) : Int32) ≤ l3 then l3 else (-268435456)) : Int32), .int l4, .int (-268435456)]) rfl ?_))
        refine t_iinc (i := 4) (n := 1) (ls' := [.ref 159, .int l1, .int l2, .int ((if ((-268435456) : Int32) ≤ l3 then l3 else (-268435456)) : Int32), .int (l4 + 1), .int (-268435456)]) (by decide +kernel) rfl (Nat.le_of_ble_eq_true rfl) kn_1 rfl (pn 99 rfl ?_)
        refine s_goto (off := -61) (tgt := 38) (by decide +kernel) rfl ?_
        exact pm_weak [.ref 159, .int l1, .int l2, .int ((if ((-268435456) : Int32) ≤ l3 then l3 else (-268435456)) : Int32), .int (l4 + 1), .null] (pm_le_cons (Or.inr rfl) (pm_le_cons (Or.inr rfl) (pm_le_cons (Or.inr rfl) (pm_le_cons (Or.inr rfl) (pm_le_cons (Or.inr rfl) (pm_le_cons (Or.inl rfl) pm_le_nil)))))) h
      refine s_icmp_le (off := 8) (tgt := 94) (by decide +kernel) rfl (fun c3 => ?_) (fun c3 => (pn 89 rfl ?_))
      · refine s_iload_n (i := 3) (by decide +kernel) rfl (pn 95 rfl ?_)
        exact k1 _ (by simp only [if_pos c3])
      · refine s_iload (i := 5) (by decide +kernel) rfl (pn 91 rfl ?_)
        refine s_goto (off := 4) (tgt := 95) (by decide +kernel) rfl ?_
        exact k1 _ (by simp only [if_neg c3])
    · have h := h.2 c2
      refine t_iconst (by decide +kernel) ki_1 (pn 61 rfl ?_)
      refine s_aload_n (i := 0) (by decide +kernel) rfl (pn 62 rfl ?_)
      refine s_iload_n (i := 1) (by decide +kernel) rfl (pn 63 rfl ?_)
      refine t_iconst (by decide +kernel) ki_1 (pn 64 rfl ?_)
      refine s_iadd (by decide +kernel) (pn 65 rfl ?_)
      refine s_iload_n (i := 2) (by decide +kernel) rfl (pn 66 rfl ?_)
      refine t_iconst (by decide +kernel) ki_1 (pn 67 rfl ?_)
      refine s_iload (i := 4) (by decide +kernel) rfl (pn 69 rfl ?_)
      refine s_ishl (by decide +kernel) (pn 70 rfl ?_)
      refine s_ior (by decide +kernel) (pn 71 rfl ?_)
      refine s_callvI [.int (l1 + 1), .int (l2 ||| ((1 : Int32) <<< (l4 &&& 31)))] rfl (by decide +kernel) mv_12_404 np_281 (Nat.le_of_ble_eq_true rfl) lq_159 ((congrArg Prod.fst sh_159).trans oc_281) (cI_use h (fun r2 s2 M2 h => (pn 74 rfl ?_)))
      refine s_iadd (by decide +kernel) (pn 75 rfl ?_)
      refine s_goto (off := 6) (tgt := 81) (by decide +kernel) rfl ?_
      refine s_istore (i := 5) (by decide +kernel) (Nat.le_of_ble_eq_true rfl) (pn 83 rfl (t_store (ls' := [.ref 159, .int l1, .int l2, .int l3, .int l4, .int ((1 : Int32) + r2)]) rfl ?_))
      refine s_iload (i := 5) (by decide +kernel) rfl (pn 85 rfl ?_)
      refine s_iload_n (i := 3) (by decide +kernel) rfl (pn 86 rfl ?_)
      have k2 : ∀ (z2 : Int32) (z2e : z2 = ((if ((1 : Int32) + r2) ≤ l3 then l3 else ((1 : Int32) + r2)) : Int32)), wM_mostGiven d 95 [.ref 159, .int l1, .int l2, .int l3, .int l4, .int ((1 : Int32) + r2)] [.int z2] s2 M2 Q := by
        intro z2 z2e
        subst z2e
        refine s_istore_n (i := 3) (by decide +kernel) (Nat.le_of_ble_eq_true rfl) (pn 96 rfl (t_store (ls' := [.ref 159, .int l1, .int l2, .int ((if ((1 : Int32) + r2) ≤ l3 then l3 else ((1 : Int32) + r2)) : Int32), .int l4, .int ((1 : Int32) + r2)]) rfl ?_))
        refine t_iinc (i := 4) (n := 1) (ls' := [.ref 159, .int l1, .int l2, .int ((if ((1 : Int32) + r2) ≤ l3 then l3 else ((1 : Int32) + r2)) : Int32), .int (l4 + 1), .int ((1 : Int32) + r2)]) (by decide +kernel) rfl (Nat.le_of_ble_eq_true rfl) kn_1 rfl (pn 99 rfl ?_)
        refine s_goto (off := -61) (tgt := 38) (by decide +kernel) rfl ?_
        exact pm_weak [.ref 159, .int l1, .int l2, .int ((if ((1 : Int32) + r2) ≤ l3 then l3 else ((1 : Int32) + r2)) : Int32), .int (l4 + 1), .null] (pm_le_cons (Or.inr rfl) (pm_le_cons (Or.inr rfl) (pm_le_cons (Or.inr rfl) (pm_le_cons (Or.inr rfl) (pm_le_cons (Or.inr rfl) (pm_le_cons (Or.inl rfl) pm_le_nil)))))) h
      refine s_icmp_le (off := 8) (tgt := 94) (by decide +kernel) rfl (fun c4 => ?_) (fun c4 => (pn 89 rfl ?_))
      · refine s_iload_n (i := 3) (by decide +kernel) rfl (pn 95 rfl ?_)
        exact k2 _ (by simp only [if_pos c4])
      · refine s_iload (i := 5) (by decide +kernel) rfl (pn 91 rfl ?_)
        refine s_goto (off := 4) (tgt := 95) (by decide +kernel) rfl ?_
        exact k2 _ (by simp only [if_neg c4])
abbrev wM_fetches (d pc : Nat) (ls st : List Value) (s : pm_S) (M : pm_M) (Q : Int32 → pm_S → pm_M → Prop) : Prop := wI d prog_14_method_100_code 12 (some .int) false pc ls st s M Q
theorem enM_fetches {d : Nat} {s : pm_S} {M : pm_M} {x1 : Int32} {x2 : Int32} {Q : Int32 → pm_S → pm_M → Prop}  (h : cI d yM_isThing [.ref 159, .long (x1.toInt64)] s (pm_si M 159 0 0) (fun r1 s1 M1 => (((r1 = 0) → Q (-2) s1 M1) ∧ (¬ (r1 = 0) → cI d yM_within [.long (x2.toInt64), .long 0, .long 1] s1 M1 (fun r2 s2 M2 => ((r2 = 0 → Q (-2) s2 M2) ∧ (¬ (r2 = 0) → wM_fetches d 38 [.ref 159, .int x1, .int x2, .int (-1), .int 0, .int 0, .int 0, .null] [] s2 M2 Q))))))) : cI (d + 1) yM_fetches [.ref 159, .int x1, .int x2] s M Q := by
  refine pm_toI (by decide) (Nat.le_of_ble_eq_true rfl) ?_
  show wM_fetches d 0 [.ref 159, .int x1, .int x2, .null, .null, .null, .null, .null] [] s M Q
  refine s_aload_n (i := 0) (by decide +kernel) rfl (pn 1 rfl ?_)
  refine t_iconst (by decide +kernel) ki_0 (pn 2 rfl ?_)
  refine s_putfieldI (by decide +kernel) fr_12_1 lq_159 (congrArg Prod.fst sh_159) (fun q => by cases q) (Or.inl rfl) (pn 5 rfl ?_)
  refine s_aload_n (i := 0) (by decide +kernel) rfl (pn 6 rfl ?_)
  refine s_iload_n (i := 1) (by decide +kernel) rfl (pn 7 rfl ?_)
  refine s_i2l (by decide +kernel) (pn 8 rfl ?_)
  refine s_callvI [.long (x1.toInt64)] rfl (by decide +kernel) mv_12_250 np_217 (Nat.le_of_ble_eq_true rfl) lq_159 ((congrArg Prod.fst sh_159).trans oc_217) (cI_use h (fun r1 s1 M1 h => (pn 11 rfl ?_)))
  refine s_if_eq (off := 13) (tgt := 24) (by decide +kernel) rfl (fun c1 => ?_) (fun c1 => (pn 14 rfl ?_))
  · have h := h.1 c1
    refine t_bipush (by decide +kernel) kb_m2 (pn 26 rfl ?_)
    exact s_ireturn (st := []) (by decide +kernel) (Or.inl rfl) ⟨_, rfl, s1, rfl, h⟩
  · have h := h.2 c1
    refine s_iload_n (i := 2) (by decide +kernel) rfl (pn 15 rfl ?_)
    refine s_i2l (by decide +kernel) (pn 16 rfl ?_)
    refine t_lconst (n := 0) (v := 0) (by decide +kernel) rfl (pn 17 rfl ?_)
    refine t_lconst (n := 1) (v := 1) (by decide +kernel) rfl (pn 18 rfl ?_)
    refine s_callsI [.long (x2.toInt64), .long 0, .long 1] rfl (by decide +kernel) ms_12_163 np_188 (Nat.le_of_ble_eq_true rfl) (cI_use h (fun r2 s2 M2 h => (pn 21 rfl ?_)))
    refine t_if_ne (off := 6) (tgt := 27) (by decide +kernel) rfl (fun c2 => ?_) (fun c2 => (pn 24 rfl ?_))
    · have h := h.2 c2
      refine t_iconst (by decide +kernel) ki_m1 (pn 28 rfl ?_)
      refine s_istore_n (i := 3) (by decide +kernel) (Nat.le_of_ble_eq_true rfl) (pn 29 rfl (t_store (ls' := [.ref 159, .int x1, .int x2, .int (-1), .null, .null, .null, .null]) rfl ?_))
      refine t_iconst (by decide +kernel) ki_0 (pn 30 rfl ?_)
      refine s_istore (i := 4) (by decide +kernel) (Nat.le_of_ble_eq_true rfl) (pn 32 rfl (t_store (ls' := [.ref 159, .int x1, .int x2, .int (-1), .int 0, .null, .null, .null]) rfl ?_))
      refine t_iconst (by decide +kernel) ki_0 (pn 33 rfl ?_)
      refine s_istore (i := 5) (by decide +kernel) (Nat.le_of_ble_eq_true rfl) (pn 35 rfl (t_store (ls' := [.ref 159, .int x1, .int x2, .int (-1), .int 0, .int 0, .null, .null]) rfl ?_))
      refine t_iconst (by decide +kernel) ki_0 (pn 36 rfl ?_)
      refine s_istore (i := 6) (by decide +kernel) (Nat.le_of_ble_eq_true rfl) (pn 38 rfl (t_store (ls' := [.ref 159, .int x1, .int x2, .int (-1), .int 0, .int 0, .int 0, .null]) rfl ?_))
      exact h
    · have h := h.1 c2
      refine t_bipush (by decide +kernel) kb_m2 (pn 26 rfl ?_)
      exact s_ireturn (st := []) (by decide +kernel) (Or.inl rfl) ⟨_, rfl, s2, rfl, h⟩
theorem sgM_fetches_38 {d : Nat} {s : pm_S} {M : pm_M} {l1 : Int32} {l2 : Int32} {l3 : Int32} {l4 : Int32} {l5 : Int32} {l6 : Int32} {Q : Int32 → pm_S → pm_M → Prop}  (h : ((((M.1 160 3) ≤ l6) → Q ((if l2 = 0 then l3 else l5) : Int32) s M) ∧ (¬ ((M.1 160 3) ≤ l6) → cI d yM_claimsOf [.ref 159, .int l6, .int l1] s M (fun r1 s1 M1 => (((r1 ≤ l4) → wM_fetches d 38 [.ref 159, .int l1, .int l2, .int l3, .int l4, .int ((if r1 ≤ l5 then l5 else r1) : Int32), .int (l6 + 1), .null] [] s1 M1 Q) ∧ (¬ (r1 ≤ l4) → wM_fetches d 38 [.ref 159, .int l1, .int l2, .int l6, .int r1, .int l4, .int (l6 + 1), .null] [] s1 M1 Q)))))) : wM_fetches d 38 [.ref 159, .int l1, .int l2, .int l3, .int l4, .int l5, .int l6, .null] [] s M Q := by
  refine s_iload (i := 6) (by decide +kernel) rfl (pn 40 rfl ?_)
  refine s_aload_n (i := 0) (by decide +kernel) rfl (pn 41 rfl ?_)
  refine s_getfield (v := .ref 160) (by decide +kernel) fr_12_13 lq_159 (congrArg Prod.fst sh_159) (fv_ref pf_159_1) (pn 44 rfl ?_)
  refine t_iconst (by decide +kernel) ki_3 (pn 45 rfl ?_)
  refine t_iaload (v := M.1 160 3) (by decide +kernel) ⟨Or.inl lq_160, congrArg Prod.fst sh_160⟩ (al_in sh_160 (vp_lit (n := 3870) tn_3 (by decide) (by decide))) (by rw [tn_3] <;> rfl) (pn 46 rfl ?_)
  refine s_icmp_ge (off := 50) (tgt := 96) (by decide +kernel) rfl (fun c1 => ?_) (fun c1 => (pn 49 rfl ?_))
  · have h := h.1 c1
    refine s_iload_n (i := 2) (by decide +kernel) rfl (pn 97 rfl ?_)
    have k1 : ∀ (z1 : Int32) (z1e : z1 = ((if l2 = 0 then l3 else l5) : Int32)), wM_fetches d 106 [.ref 159, .int l1, .int l2, .int l3, .int l4, .int l5, .int l6, .null] [.int z1] s M Q := by
      intro z1 z1e
      subst z1e
      exact s_ireturn (st := []) (by decide +kernel) (Or.inl rfl) ⟨_, rfl, s, rfl, h⟩
    refine t_if_ne (off := 7) (tgt := 104) (by decide +kernel) rfl (fun c2 => ?_) (fun c2 => (pn 100 rfl ?_))
    · refine s_iload (i := 5) (by decide +kernel) rfl (pn 106 rfl ?_)
      exact k1 _ (by simp only [if_neg c2])
    · refine s_iload_n (i := 3) (by decide +kernel) rfl (pn 101 rfl ?_)
      refine s_goto (off := 5) (tgt := 106) (by decide +kernel) rfl ?_
      exact k1 _ (by simp only [if_pos c2])
  · have h := h.2 c1
    refine s_aload_n (i := 0) (by decide +kernel) rfl (pn 50 rfl ?_)
    refine s_iload (i := 6) (by decide +kernel) rfl (pn 52 rfl ?_)
    refine s_iload_n (i := 1) (by decide +kernel) rfl (pn 53 rfl ?_)
    refine s_callvI [.int l6, .int l1] rfl (by decide +kernel) mv_12_256 np_222 (Nat.le_of_ble_eq_true rfl) lq_159 ((congrArg Prod.fst sh_159).trans oc_222) (cI_use h (fun r1 s1 M1 h => (pn 56 rfl ?_)))
    refine s_istore (i := 7) (by decide +kernel) (Nat.le_of_ble_eq_true rfl) (pn 58 rfl (t_store (ls' := [.ref 159, .int l1, .int l2, .int l3, .int l4, .int l5, .int l6, .int r1]) rfl ?_))
    refine s_iload (i := 7) (by decide +kernel) rfl (pn 60 rfl ?_)
    refine s_iload (i := 4) (by decide +kernel) rfl (pn 62 rfl ?_)
    refine s_icmp_le (off := 17) (tgt := 79) (by decide +kernel) rfl (fun c3 => ?_) (fun c3 => (pn 65 rfl ?_))
    · have h := h.1 c3
      refine s_iload (i := 7) (by decide +kernel) rfl (pn 81 rfl ?_)
      refine s_iload (i := 5) (by decide +kernel) rfl (pn 83 rfl ?_)
      have k2 : ∀ (z5 : Int32) (z5e : z5 = ((if r1 ≤ l5 then l5 else r1) : Int32)), wM_fetches d 90 [.ref 159, .int l1, .int l2, .int l3, .int l4, .int z5, .int l6, .int r1] [] s1 M1 Q := by
        intro z5 z5e
        subst z5e
        refine t_iinc (i := 6) (n := 1) (ls' := [.ref 159, .int l1, .int l2, .int l3, .int l4, .int ((if r1 ≤ l5 then l5 else r1) : Int32), .int (l6 + 1), .int r1]) (by decide +kernel) rfl (Nat.le_of_ble_eq_true rfl) kn_1 rfl (pn 93 rfl ?_)
        refine s_goto (off := -55) (tgt := 38) (by decide +kernel) rfl ?_
        exact pm_weak [.ref 159, .int l1, .int l2, .int l3, .int l4, .int ((if r1 ≤ l5 then l5 else r1) : Int32), .int (l6 + 1), .null] (pm_le_cons (Or.inr rfl) (pm_le_cons (Or.inr rfl) (pm_le_cons (Or.inr rfl) (pm_le_cons (Or.inr rfl) (pm_le_cons (Or.inr rfl) (pm_le_cons (Or.inr rfl) (pm_le_cons (Or.inr rfl) (pm_le_cons (Or.inl rfl) pm_le_nil)))))))) h
      refine s_icmp_le (off := 7) (tgt := 90) (by decide +kernel) rfl (fun c5 => ?_) (fun c5 => (pn 86 rfl ?_))
      · exact k2 _ (by simp only [if_pos c5])
      · refine s_iload (i := 7) (by decide +kernel) rfl (pn 88 rfl ?_)
        refine s_istore (i := 5) (by decide +kernel) (Nat.le_of_ble_eq_true rfl) (pn 90 rfl (t_store (ls' := [.ref 159, .int l1, .int l2, .int l3, .int l4, .int r1, .int l6, .int r1]) rfl ?_))
        exact k2 _ (by simp only [if_neg c5])
    · have h := h.2 c3
      refine s_iload (i := 4) (by decide +kernel) rfl (pn 67 rfl ?_)
      refine s_istore (i := 5) (by decide +kernel) (Nat.le_of_ble_eq_true rfl) (pn 69 rfl (t_store (ls' := [.ref 159, .int l1, .int l2, .int l3, .int l4, .int l4, .int l6, .int r1]) rfl ?_))
      refine s_iload (i := 6) (by decide +kernel) rfl (pn 71 rfl ?_)
      refine s_istore_n (i := 3) (by decide +kernel) (Nat.le_of_ble_eq_true rfl) (pn 72 rfl (t_store (ls' := [.ref 159, .int l1, .int l2, .int l6, .int l4, .int l4, .int l6, .int r1]) rfl ?_))
      refine s_iload (i := 7) (by decide +kernel) rfl (pn 74 rfl ?_)
      refine s_istore (i := 4) (by decide +kernel) (Nat.le_of_ble_eq_true rfl) (pn 76 rfl (t_store (ls' := [.ref 159, .int l1, .int l2, .int l6, .int r1, .int l4, .int l6, .int r1]) rfl ?_))
      refine s_goto (off := 14) (tgt := 90) (by decide +kernel) rfl ?_
      refine t_iinc (i := 6) (n := 1) (ls' := [.ref 159, .int l1, .int l2, .int l6, .int r1, .int l4, .int (l6 + 1), .int r1]) (by decide +kernel) rfl (Nat.le_of_ble_eq_true rfl) kn_1 rfl (pn 93 rfl ?_)
      refine s_goto (off := -55) (tgt := 38) (by decide +kernel) rfl ?_
      exact pm_weak [.ref 159, .int l1, .int l2, .int l6, .int r1, .int l4, .int (l6 + 1), .null] (pm_le_cons (Or.inr rfl) (pm_le_cons (Or.inr rfl) (pm_le_cons (Or.inr rfl) (pm_le_cons (Or.inr rfl) (pm_le_cons (Or.inr rfl) (pm_le_cons (Or.inr rfl) (pm_le_cons (Or.inr rfl) (pm_le_cons (Or.inl rfl) pm_le_nil)))))))) h
abbrev wM_trade (d pc : Nat) (ls st : List Value) (s : pm_S) (M : pm_M) (Q : Int32 → pm_S → pm_M → Prop) : Prop := wI d prog_14_method_104_code 12 (some .int) false pc ls st s M Q
theorem enM_trade {d : Nat} {s : pm_S} {M : pm_M} {x1 : Int32} {Q : Int32 → pm_S → pm_M → Prop}  (h : cI d yM_isPerson [.ref 159, .long (x1.toInt64)] s (pm_si M 159 0 0) (fun r1 s1 M1 => ((r1 = 0 → Q (-2) s1 M1) ∧ (¬ (r1 = 0) → cV d yM_laysTrade [.ref 159] s1 M1 (fun s2 M2 => vp_in x1 6 ∧ Q (M2.1 173 x1.toNatClampNeg) s2 M2))))) : cI (d + 1) yM_trade [.ref 159, .int x1] s M Q := by
  refine pm_toI (by decide) (Nat.le_of_ble_eq_true rfl) ?_
  show wM_trade d 0 [.ref 159, .int x1] [] s M Q
  refine s_aload_n (i := 0) (by decide +kernel) rfl (pn 1 rfl ?_)
  refine t_iconst (by decide +kernel) ki_0 (pn 2 rfl ?_)
  refine s_putfieldI (by decide +kernel) fr_12_1 lq_159 (congrArg Prod.fst sh_159) (fun q => by cases q) (Or.inl rfl) (pn 5 rfl ?_)
  refine s_aload_n (i := 0) (by decide +kernel) rfl (pn 6 rfl ?_)
  refine s_iload_n (i := 1) (by decide +kernel) rfl (pn 7 rfl ?_)
  refine s_i2l (by decide +kernel) (pn 8 rfl ?_)
  refine s_callvI [.long (x1.toInt64)] rfl (by decide +kernel) mv_12_231 np_219 (Nat.le_of_ble_eq_true rfl) lq_159 ((congrArg Prod.fst sh_159).trans oc_219) (cI_use h (fun r1 s1 M1 h => (pn 11 rfl ?_)))
  refine t_if_ne (off := 6) (tgt := 17) (by decide +kernel) rfl (fun c1 => ?_) (fun c1 => (pn 14 rfl ?_))
  · have h := h.2 c1
    refine s_aload_n (i := 0) (by decide +kernel) rfl (pn 18 rfl ?_)
    refine s_callvV [] rfl (by decide +kernel) mv_12_418 np_284 (Nat.le_of_ble_eq_true rfl) lq_159 ((congrArg Prod.fst sh_159).trans oc_284) (cV_use h (fun s2 M2 h => (pn 21 rfl ?_)))
    refine s_aload_n (i := 0) (by decide +kernel) rfl (pn 22 rfl ?_)
    refine s_getfield (v := .ref 173) (by decide +kernel) fr_12_60 lq_159 (congrArg Prod.fst sh_159) (fv_ref pf_159_28) (pn 25 rfl ?_)
    refine s_iload_n (i := 1) (by decide +kernel) rfl (pn 26 rfl ?_)
    obtain ⟨b1, h⟩ := h
    refine t_iaload (v := M2.1 173 x1.toNatClampNeg) (by decide +kernel) ⟨Or.inl lq_173, congrArg Prod.fst sh_173⟩ (al_in sh_173 b1) rfl (pn 27 rfl ?_)
    exact s_ireturn (st := []) (by decide +kernel) (Or.inl rfl) ⟨_, rfl, s2, rfl, h⟩
  · have h := h.1 c1
    refine t_bipush (by decide +kernel) kb_m2 (pn 16 rfl ?_)
    exact s_ireturn (st := []) (by decide +kernel) (Or.inl rfl) ⟨_, rfl, s1, rfl, h⟩
abbrev wM_laysTrade (d pc : Nat) (ls st : List Value) (s : pm_S) (M : pm_M) (Q : pm_S → pm_M → Prop) : Prop := wV d prog_14_method_103_code 12 none false pc ls st s M Q
theorem enM_laysTrade {d : Nat} {s : pm_S} {M : pm_M}  {Q : pm_S → pm_M → Prop}  (h : cI d yM_holders [.ref 159] s M (fun r1 s1 M1 => wM_laysTrade d 12 [.ref 159, .int r1, .int 0, .null] [] s1 (pm_si M1 159 29 0) Q)) : cV (d + 1) yM_laysTrade [.ref 159] s M Q := by
  refine pm_toV (by decide) (Nat.le_of_ble_eq_true rfl) ?_
  show wM_laysTrade d 0 [.ref 159, .null, .null, .null] [] s M Q
  refine s_aload_n (i := 0) (by decide +kernel) rfl (pn 1 rfl ?_)
  refine s_callvI [] rfl (by decide +kernel) mv_12_355 np_257 (Nat.le_of_ble_eq_true rfl) lq_159 ((congrArg Prod.fst sh_159).trans oc_257) (cI_use h (fun r1 s1 M1 h => (pn 4 rfl ?_)))
  refine s_istore_n (i := 1) (by decide +kernel) (Nat.le_of_ble_eq_true rfl) (pn 5 rfl (t_store (ls' := [.ref 159, .int r1, .null, .null]) rfl ?_))
  refine s_aload_n (i := 0) (by decide +kernel) rfl (pn 6 rfl ?_)
  refine t_iconst (by decide +kernel) ki_0 (pn 7 rfl ?_)
  refine s_putfieldI (by decide +kernel) fr_12_409 lq_159 (congrArg Prod.fst sh_159) (fun q => by cases q) (Or.inl rfl) (pn 10 rfl ?_)
  refine t_iconst (by decide +kernel) ki_0 (pn 11 rfl ?_)
  refine s_istore_n (i := 2) (by decide +kernel) (Nat.le_of_ble_eq_true rfl) (pn 12 rfl (t_store (ls' := [.ref 159, .int r1, .int 0, .null]) rfl ?_))
  exact h
theorem sgM_laysTrade_12 {d : Nat} {s : pm_S} {M : pm_M} {l1 : Int32} {l2 : Int32} {Q : pm_S → pm_M → Prop}  (h : (((6 ≤ l2) → wM_laysTrade d 31 [.ref 159, .int l1, .null, .null] [] s M Q) ∧ (¬ (6 ≤ l2) → vp_in l2 6 ∧ wM_laysTrade d 12 [.ref 159, .int l1, .int (l2 + 1), .null] [] s (pm_si M 173 l2.toNatClampNeg (-1)) Q))) : wM_laysTrade d 12 [.ref 159, .int l1, .int l2, .null] [] s M Q := by
  refine s_iload_n (i := 2) (by decide +kernel) rfl (pn 13 rfl ?_)
  refine t_bipush (by decide +kernel) kb_6 (pn 15 rfl ?_)
  refine s_icmp_ge (off := 16) (tgt := 31) (by decide +kernel) rfl (fun c1 => ?_) (fun c1 => (pn 18 rfl ?_))
  · have h := h.1 c1
    exact pm_weak [.ref 159, .int l1, .null, .null] (pm_le_cons (Or.inr rfl) (pm_le_cons (Or.inr rfl) (pm_le_cons (Or.inl rfl) (pm_le_cons (Or.inl rfl) pm_le_nil)))) h
  · have h := h.2 c1
    refine s_aload_n (i := 0) (by decide +kernel) rfl (pn 19 rfl ?_)
    refine s_getfield (v := .ref 173) (by decide +kernel) fr_12_60 lq_159 (congrArg Prod.fst sh_159) (fv_ref pf_159_28) (pn 22 rfl ?_)
    refine s_iload_n (i := 2) (by decide +kernel) rfl (pn 23 rfl ?_)
    refine t_iconst (by decide +kernel) ki_m1 (pn 24 rfl ?_)
    obtain ⟨b1, h⟩ := h
    refine t_iastore (k := l2.toNatClampNeg) (by decide +kernel) ⟨lq_173, congrArg Prod.fst sh_173⟩ (al_in sh_173 b1) rfl (pn 25 rfl ?_)
    refine t_iinc (i := 2) (n := 1) (ls' := [.ref 159, .int l1, .int (l2 + 1), .null]) (by decide +kernel) rfl (Nat.le_of_ble_eq_true rfl) kn_1 rfl (pn 28 rfl ?_)
    refine s_goto (off := -16) (tgt := 12) (by decide +kernel) rfl ?_
    exact h
theorem sgM_laysTrade_31 {d : Nat} {s : pm_S} {M : pm_M} {l1 : Int32} {Q : pm_S → pm_M → Prop}  (h : (((l1 = 0) → Q s M) ∧ (¬ (l1 = 0) → wM_laysTrade d 37 [.ref 159, .int l1, .int 0, .null] [] s M Q))) : wM_laysTrade d 31 [.ref 159, .int l1, .null, .null] [] s M Q := by
  refine s_iload_n (i := 1) (by decide +kernel) rfl (pn 32 rfl ?_)
  refine s_if_eq (off := 123) (tgt := 155) (by decide +kernel) rfl (fun c1 => ?_) (fun c1 => (pn 35 rfl ?_))
  · have h := h.1 c1
    exact s_return (st := []) (by decide +kernel) rfl ⟨rfl, s, rfl, h⟩
  · have h := h.2 c1
    refine t_iconst (by decide +kernel) ki_0 (pn 36 rfl ?_)
    refine s_istore_n (i := 2) (by decide +kernel) (Nat.le_of_ble_eq_true rfl) (pn 37 rfl (t_store (ls' := [.ref 159, .int l1, .int 0, .null]) rfl ?_))
    exact h
theorem sgM_laysTrade_37 {d : Nat} {s : pm_S} {M : pm_M} {l1 : Int32} {l2 : Int32} {Q : pm_S → pm_M → Prop}  (h : ((((M.1 160 3) ≤ l2) → wM_laysTrade d 78 [.ref 159, .int l1, .int 0, .int 0] [] s M Q) ∧ (¬ ((M.1 160 3) ≤ l2) → cI d yM_isIn [.long (l1.toInt64), .int l2] s M (fun r1 s1 M1 => (((r1 = 0) → wM_laysTrade d 37 [.ref 159, .int l1, .int (l2 + 1), .null] [] s1 M1 Q) ∧ (¬ (r1 = 0) → cI d yM_pointed [.ref 159, .int l2, .int l1] s1 M1 (fun r2 s2 M2 => vp_in l2 6 ∧ wM_laysTrade d 37 [.ref 159, .int l1, .int (l2 + 1), .null] [] s2 (pm_si M2 172 l2.toNatClampNeg r2) Q))))))) : wM_laysTrade d 37 [.ref 159, .int l1, .int l2, .null] [] s M Q := by
  refine s_iload_n (i := 2) (by decide +kernel) rfl (pn 38 rfl ?_)
  refine s_aload_n (i := 0) (by decide +kernel) rfl (pn 39 rfl ?_)
  refine s_getfield (v := .ref 160) (by decide +kernel) fr_12_13 lq_159 (congrArg Prod.fst sh_159) (fv_ref pf_159_1) (pn 42 rfl ?_)
  refine t_iconst (by decide +kernel) ki_3 (pn 43 rfl ?_)
  refine t_iaload (v := M.1 160 3) (by decide +kernel) ⟨Or.inl lq_160, congrArg Prod.fst sh_160⟩ (al_in sh_160 (vp_lit (n := 3870) tn_3 (by decide) (by decide))) (by rw [tn_3] <;> rfl) (pn 44 rfl ?_)
  refine s_icmp_ge (off := 30) (tgt := 74) (by decide +kernel) rfl (fun c1 => ?_) (fun c1 => (pn 47 rfl ?_))
  · have h := h.1 c1
    refine t_iconst (by decide +kernel) ki_0 (pn 75 rfl ?_)
    refine s_istore_n (i := 2) (by decide +kernel) (Nat.le_of_ble_eq_true rfl) (pn 76 rfl (t_store (ls' := [.ref 159, .int l1, .int 0, .null]) rfl ?_))
    refine t_iconst (by decide +kernel) ki_0 (pn 77 rfl ?_)
    refine s_istore_n (i := 3) (by decide +kernel) (Nat.le_of_ble_eq_true rfl) (pn 78 rfl (t_store (ls' := [.ref 159, .int l1, .int 0, .int 0]) rfl ?_))
    exact h
  · have h := h.2 c1
    refine s_iload_n (i := 1) (by decide +kernel) rfl (pn 48 rfl ?_)
    refine s_i2l (by decide +kernel) (pn 49 rfl ?_)
    refine s_iload_n (i := 2) (by decide +kernel) rfl (pn 50 rfl ?_)
    refine s_callsI [.long (l1.toInt64), .int l2] rfl (by decide +kernel) ms_12_390 np_278 (Nat.le_of_ble_eq_true rfl) (cI_use h (fun r1 s1 M1 h => (pn 53 rfl ?_)))
    refine s_if_eq (off := 15) (tgt := 68) (by decide +kernel) rfl (fun c2 => ?_) (fun c2 => (pn 56 rfl ?_))
    · have h := h.1 c2
      refine t_iinc (i := 2) (n := 1) (ls' := [.ref 159, .int l1, .int (l2 + 1), .null]) (by decide +kernel) rfl (Nat.le_of_ble_eq_true rfl) kn_1 rfl (pn 71 rfl ?_)
      refine s_goto (off := -34) (tgt := 37) (by decide +kernel) rfl ?_
      exact h
    · have h := h.2 c2
      refine s_aload_n (i := 0) (by decide +kernel) rfl (pn 57 rfl ?_)
      refine s_getfield (v := .ref 172) (by decide +kernel) fr_12_57 lq_159 (congrArg Prod.fst sh_159) (fv_ref pf_159_27) (pn 60 rfl ?_)
      refine s_iload_n (i := 2) (by decide +kernel) rfl (pn 61 rfl ?_)
      refine s_aload_n (i := 0) (by decide +kernel) rfl (pn 62 rfl ?_)
      refine s_iload_n (i := 2) (by decide +kernel) rfl (pn 63 rfl ?_)
      refine s_iload_n (i := 1) (by decide +kernel) rfl (pn 64 rfl ?_)
      refine s_callvI [.int l2, .int l1] rfl (by decide +kernel) mv_12_412 np_285 (Nat.le_of_ble_eq_true rfl) lq_159 ((congrArg Prod.fst sh_159).trans oc_285) (cI_use h (fun r2 s2 M2 h => (pn 67 rfl ?_)))
      obtain ⟨b1, h⟩ := h
      refine t_iastore (k := l2.toNatClampNeg) (by decide +kernel) ⟨lq_172, congrArg Prod.fst sh_172⟩ (al_in sh_172 b1) rfl (pn 68 rfl ?_)
      refine t_iinc (i := 2) (n := 1) (ls' := [.ref 159, .int l1, .int (l2 + 1), .null]) (by decide +kernel) rfl (Nat.le_of_ble_eq_true rfl) kn_1 rfl (pn 71 rfl ?_)
      refine s_goto (off := -34) (tgt := 37) (by decide +kernel) rfl ?_
      exact h
theorem sgM_laysTrade_78 {d : Nat} {s : pm_S} {M : pm_M} {l1 : Int32} {l2 : Int32} {l3 : Int32} {Q : pm_S → pm_M → Prop}  (h : ((((M.1 160 3) ≤ l3) → wM_laysTrade d 31 [.ref 159, .int (l1 &&& (l2 ^^^ (-1))), .null, .null] [] s (pm_si M 159 29 ((M.1 159 29) + 1)) Q) ∧ (¬ ((M.1 160 3) ≤ l3) → cI d yM_isIn [.long (l1.toInt64), .int l3] s M (fun r1 s1 M1 => (((r1 = 0) → wM_laysTrade d 78 [.ref 159, .int l1, .int l2, .int (l3 + 1)] [] s1 M1 Q) ∧ (¬ (r1 = 0) → cI d yM_isRing [.ref 159, .int l3] s1 M1 (fun r2 s2 M2 => ((r2 = 0 → wM_laysTrade d 78 [.ref 159, .int l1, .int l2, .int (l3 + 1)] [] s2 M2 Q) ∧ (¬ (r2 = 0) → vp_in l3 6 ∧ cI d yM_heldBy [.ref 159, .int (M2.1 172 l3.toNatClampNeg)] s2 M2 (fun r3 s3 M3 => vp_in l3 6 ∧ wM_laysTrade d 78 [.ref 159, .int l1, .int (l2 ||| ((1 : Int32) <<< (l3 &&& 31))), .int (l3 + 1)] [] s3 (pm_si M3 173 l3.toNatClampNeg r3) Q)))))))))) : wM_laysTrade d 78 [.ref 159, .int l1, .int l2, .int l3] [] s M Q := by
  refine s_iload_n (i := 3) (by decide +kernel) rfl (pn 79 rfl ?_)
  refine s_aload_n (i := 0) (by decide +kernel) rfl (pn 80 rfl ?_)
  refine s_getfield (v := .ref 160) (by decide +kernel) fr_12_13 lq_159 (congrArg Prod.fst sh_159) (fv_ref pf_159_1) (pn 83 rfl ?_)
  refine t_iconst (by decide +kernel) ki_3 (pn 84 rfl ?_)
  refine t_iaload (v := M.1 160 3) (by decide +kernel) ⟨Or.inl lq_160, congrArg Prod.fst sh_160⟩ (al_in sh_160 (vp_lit (n := 3870) tn_3 (by decide) (by decide))) (by rw [tn_3] <;> rfl) (pn 85 rfl ?_)
  refine s_icmp_ge (off := 51) (tgt := 136) (by decide +kernel) rfl (fun c1 => ?_) (fun c1 => (pn 88 rfl ?_))
  · have h := h.1 c1
    refine s_iload_n (i := 1) (by decide +kernel) rfl (pn 137 rfl ?_)
    refine s_iload_n (i := 2) (by decide +kernel) rfl (pn 138 rfl ?_)
    refine t_iconst (by decide +kernel) ki_m1 (pn 139 rfl ?_)
    refine s_ixor (by decide +kernel) (pn 140 rfl ?_)
    refine s_iand (by decide +kernel) (pn 141 rfl ?_)
    refine s_istore_n (i := 1) (by decide +kernel) (Nat.le_of_ble_eq_true rfl) (pn 142 rfl (t_store (ls' := [.ref 159, .int (l1 &&& (l2 ^^^ (-1))), .int l2, .int l3]) rfl ?_))
    refine s_aload_n (i := 0) (by decide +kernel) rfl (pn 143 rfl ?_)
    refine s_dup (by decide +kernel) rfl (pn 144 rfl ?_)
    refine s_getfield (v := .int (M.1 159 29)) (by decide +kernel) fr_12_409 lq_159 (congrArg Prod.fst sh_159) rfl (pn 147 rfl ?_)
    refine t_iconst (by decide +kernel) ki_1 (pn 148 rfl ?_)
    refine s_iadd (by decide +kernel) (pn 149 rfl ?_)
    refine s_putfieldI (by decide +kernel) fr_12_409 lq_159 (congrArg Prod.fst sh_159) (fun q => by cases q) (Or.inl rfl) (pn 152 rfl ?_)
    refine s_goto (off := -121) (tgt := 31) (by decide +kernel) rfl ?_
    exact pm_weak [.ref 159, .int (l1 &&& (l2 ^^^ (-1))), .null, .null] (pm_le_cons (Or.inr rfl) (pm_le_cons (Or.inr rfl) (pm_le_cons (Or.inl rfl) (pm_le_cons (Or.inl rfl) pm_le_nil)))) h
  · have h := h.2 c1
    refine s_iload_n (i := 1) (by decide +kernel) rfl (pn 89 rfl ?_)
    refine s_i2l (by decide +kernel) (pn 90 rfl ?_)
    refine s_iload_n (i := 3) (by decide +kernel) rfl (pn 91 rfl ?_)
    refine s_callsI [.long (l1.toInt64), .int l3] rfl (by decide +kernel) ms_12_390 np_278 (Nat.le_of_ble_eq_true rfl) (cI_use h (fun r1 s1 M1 h => (pn 94 rfl ?_)))
    refine s_if_eq (off := 36) (tgt := 130) (by decide +kernel) rfl (fun c2 => ?_) (fun c2 => (pn 97 rfl ?_))
    · have h := h.1 c2
      refine t_iinc (i := 3) (n := 1) (ls' := [.ref 159, .int l1, .int l2, .int (l3 + 1)]) (by decide +kernel) rfl (Nat.le_of_ble_eq_true rfl) kn_1 rfl (pn 133 rfl ?_)
      refine s_goto (off := -55) (tgt := 78) (by decide +kernel) rfl ?_
      exact h
    · have h := h.2 c2
      refine s_aload_n (i := 0) (by decide +kernel) rfl (pn 98 rfl ?_)
      refine s_iload_n (i := 3) (by decide +kernel) rfl (pn 99 rfl ?_)
      refine s_callvI [.int l3] rfl (by decide +kernel) mv_12_415 np_286 (Nat.le_of_ble_eq_true rfl) lq_159 ((congrArg Prod.fst sh_159).trans oc_286) (cI_use h (fun r2 s2 M2 h => (pn 102 rfl ?_)))
      refine t_if_ne (off := 6) (tgt := 108) (by decide +kernel) rfl (fun c3 => ?_) (fun c3 => (pn 105 rfl ?_))
      · have h := h.2 c3
        refine s_iload_n (i := 2) (by decide +kernel) rfl (pn 109 rfl ?_)
        refine t_iconst (by decide +kernel) ki_1 (pn 110 rfl ?_)
        refine s_iload_n (i := 3) (by decide +kernel) rfl (pn 111 rfl ?_)
        refine s_ishl (by decide +kernel) (pn 112 rfl ?_)
        refine s_ior (by decide +kernel) (pn 113 rfl ?_)
        refine s_istore_n (i := 2) (by decide +kernel) (Nat.le_of_ble_eq_true rfl) (pn 114 rfl (t_store (ls' := [.ref 159, .int l1, .int (l2 ||| ((1 : Int32) <<< (l3 &&& 31))), .int l3]) rfl ?_))
        refine s_aload_n (i := 0) (by decide +kernel) rfl (pn 115 rfl ?_)
        refine s_getfield (v := .ref 173) (by decide +kernel) fr_12_60 lq_159 (congrArg Prod.fst sh_159) (fv_ref pf_159_28) (pn 118 rfl ?_)
        refine s_iload_n (i := 3) (by decide +kernel) rfl (pn 119 rfl ?_)
        refine s_aload_n (i := 0) (by decide +kernel) rfl (pn 120 rfl ?_)
        refine s_aload_n (i := 0) (by decide +kernel) rfl (pn 121 rfl ?_)
        refine s_getfield (v := .ref 172) (by decide +kernel) fr_12_57 lq_159 (congrArg Prod.fst sh_159) (fv_ref pf_159_27) (pn 124 rfl ?_)
        refine s_iload_n (i := 3) (by decide +kernel) rfl (pn 125 rfl ?_)
        obtain ⟨b1, h⟩ := h
        refine t_iaload (v := M2.1 172 l3.toNatClampNeg) (by decide +kernel) ⟨Or.inl lq_172, congrArg Prod.fst sh_172⟩ (al_in sh_172 b1) rfl (pn 126 rfl ?_)
        refine s_callvI [.int (M2.1 172 l3.toNatClampNeg)] rfl (by decide +kernel) mv_12_253 np_220 (Nat.le_of_ble_eq_true rfl) lq_159 ((congrArg Prod.fst sh_159).trans oc_220) (cI_use h (fun r3 s3 M3 h => (pn 129 rfl ?_)))
        obtain ⟨b2, h⟩ := h
        refine t_iastore (k := l3.toNatClampNeg) (by decide +kernel) ⟨lq_173, congrArg Prod.fst sh_173⟩ (al_in sh_173 b2) rfl (pn 130 rfl ?_)
        refine t_iinc (i := 3) (n := 1) (ls' := [.ref 159, .int l1, .int (l2 ||| ((1 : Int32) <<< (l3 &&& 31))), .int (l3 + 1)]) (by decide +kernel) rfl (Nat.le_of_ble_eq_true rfl) kn_1 rfl (pn 133 rfl ?_)
        refine s_goto (off := -55) (tgt := 78) (by decide +kernel) rfl ?_
        exact h
      · have h := h.1 c3
        refine s_goto (off := 25) (tgt := 130) (by decide +kernel) rfl ?_
        refine t_iinc (i := 3) (n := 1) (ls' := [.ref 159, .int l1, .int l2, .int (l3 + 1)]) (by decide +kernel) rfl (Nat.le_of_ble_eq_true rfl) kn_1 rfl (pn 133 rfl ?_)
        refine s_goto (off := -55) (tgt := 78) (by decide +kernel) rfl ?_
        exact h
abbrev wM_pointed (d pc : Nat) (ls st : List Value) (s : pm_S) (M : pm_M) (Q : Int32 → pm_S → pm_M → Prop) : Prop := wI d prog_14_method_101_code 12 (some .int) false pc ls st s M Q
theorem enM_pointed {d : Nat} {s : pm_S} {M : pm_M} {x1 : Int32} {x2 : Int32} {Q : Int32 → pm_S → pm_M → Prop}  (h : cI d yM_heldBy [.ref 159, .int x1] s M (fun r1 s1 M1 => wM_pointed d 12 [.ref 159, .int x1, .int x2, .int r1, .int r1, .int 0, .null] [] s1 M1 Q)) : cI (d + 1) yM_pointed [.ref 159, .int x1, .int x2] s M Q := by
  refine pm_toI (by decide) (Nat.le_of_ble_eq_true rfl) ?_
  show wM_pointed d 0 [.ref 159, .int x1, .int x2, .null, .null, .null, .null] [] s M Q
  refine s_aload_n (i := 0) (by decide +kernel) rfl (pn 1 rfl ?_)
  refine s_iload_n (i := 1) (by decide +kernel) rfl (pn 2 rfl ?_)
  refine s_callvI [.int x1] rfl (by decide +kernel) mv_12_253 np_220 (Nat.le_of_ble_eq_true rfl) lq_159 ((congrArg Prod.fst sh_159).trans oc_220) (cI_use h (fun r1 s1 M1 h => (pn 5 rfl ?_)))
  refine s_istore_n (i := 3) (by decide +kernel) (Nat.le_of_ble_eq_true rfl) (pn 6 rfl (t_store (ls' := [.ref 159, .int x1, .int x2, .int r1, .null, .null, .null]) rfl ?_))
  refine s_iload_n (i := 3) (by decide +kernel) rfl (pn 7 rfl ?_)
  refine s_istore (i := 4) (by decide +kernel) (Nat.le_of_ble_eq_true rfl) (pn 9 rfl (t_store (ls' := [.ref 159, .int x1, .int x2, .int r1, .int r1, .null, .null]) rfl ?_))
  refine t_iconst (by decide +kernel) ki_0 (pn 10 rfl ?_)
  refine s_istore (i := 5) (by decide +kernel) (Nat.le_of_ble_eq_true rfl) (pn 12 rfl (t_store (ls' := [.ref 159, .int x1, .int x2, .int r1, .int r1, .int 0, .null]) rfl ?_))
  exact h
theorem sgM_pointed_12 {d : Nat} {s : pm_S} {M : pm_M} {l1 : Int32} {l2 : Int32} {l3 : Int32} {l4 : Int32} {l5 : Int32} {Q : Int32 → pm_S → pm_M → Prop}  (h : ((((M.1 160 2) ≤ l5) → vp_in ((50 : Int32) + l4) 3870 ∧ Q ((M.1 160 ((50 : Int32) + l4).toNatClampNeg) - 10) s M) ∧ (¬ ((M.1 160 2) ≤ l5) → vp_in ((50 : Int32) + l5) 3870 ∧ cI d yM_within [.long (((M.1 160 ((50 : Int32) + l5).toNatClampNeg) - 10).toInt64), .long 0, .long 5] s M (fun r1 s1 M1 => (((r1 = 0) → wM_pointed d 12 [.ref 159, .int l1, .int l2, .int l3, .int l4, .int (l5 + 1), .null] [] s1 M1 Q) ∧ (¬ (r1 = 0) → cI d yM_isIn [.long (l2.toInt64), .int ((M.1 160 ((50 : Int32) + l5).toNatClampNeg) - 10)] s1 M1 (fun r2 s2 M2 => ((r2 = 0 → wM_pointed d 12 [.ref 159, .int l1, .int l2, .int l3, .int l4, .int (l5 + 1), .null] [] s2 M2 Q) ∧ (¬ (r2 = 0) → cI d yM_claimsOf [.ref 159, .int l1, .int l5] s2 M2 (fun r3 s3 M3 => cI d yM_claimsOf [.ref 159, .int l1, .int l4] s3 M3 (fun r4 s4 M4 => (((r4 < r3) → wM_pointed d 12 [.ref 159, .int l1, .int l2, .int l3, .int l5, .int (l5 + 1), .null] [] s4 M4 Q) ∧ (¬ (r4 < r3) → cI d yM_claimsOf [.ref 159, .int l1, .int l5] s4 M4 (fun r5 s5 M5 => cI d yM_claimsOf [.ref 159, .int l1, .int l4] s5 M5 (fun r6 s6 M6 => wM_pointed d 12 [.ref 159, .int l1, .int l2, .int l3, .int ((if r5 = r6 then (if l4 = l3 then l4 else (if l4 ≤ l5 then l4 else l5)) else l4) : Int32), .int (l5 + 1), .null] [] s6 M6 Q))))))))))))))) : wM_pointed d 12 [.ref 159, .int l1, .int l2, .int l3, .int l4, .int l5, .null] [] s M Q := by
  refine s_iload (i := 5) (by decide +kernel) rfl (pn 14 rfl ?_)
  refine s_aload_n (i := 0) (by decide +kernel) rfl (pn 15 rfl ?_)
  refine s_getfield (v := .ref 160) (by decide +kernel) fr_12_13 lq_159 (congrArg Prod.fst sh_159) (fv_ref pf_159_1) (pn 18 rfl ?_)
  refine t_iconst (by decide +kernel) ki_2 (pn 19 rfl ?_)
  refine t_iaload (v := M.1 160 2) (by decide +kernel) ⟨Or.inl lq_160, congrArg Prod.fst sh_160⟩ (al_in sh_160 (vp_lit (n := 3870) tn_2 (by decide) (by decide))) (by rw [tn_2] <;> rfl) (pn 20 rfl ?_)
  refine s_icmp_ge (off := 101) (tgt := 121) (by decide +kernel) rfl (fun c1 => ?_) (fun c1 => (pn 23 rfl ?_))
  · have h := h.1 c1
    refine s_aload_n (i := 0) (by decide +kernel) rfl (pn 122 rfl ?_)
    refine s_getfield (v := .ref 160) (by decide +kernel) fr_12_13 lq_159 (congrArg Prod.fst sh_159) (fv_ref pf_159_1) (pn 125 rfl ?_)
    refine t_bipush (by decide +kernel) kb_50 (pn 127 rfl ?_)
    refine s_iload (i := 4) (by decide +kernel) rfl (pn 129 rfl ?_)
    refine s_iadd (by decide +kernel) (pn 130 rfl ?_)
    obtain ⟨b1, h⟩ := h
    refine t_iaload (v := M.1 160 ((50 : Int32) + l4).toNatClampNeg) (by decide +kernel) ⟨Or.inl lq_160, congrArg Prod.fst sh_160⟩ (al_in sh_160 b1) rfl (pn 131 rfl ?_)
    refine t_bipush (by decide +kernel) kb_10 (pn 133 rfl ?_)
    refine s_isub (by decide +kernel) (pn 134 rfl ?_)
    exact s_ireturn (st := []) (by decide +kernel) (Or.inl rfl) ⟨_, rfl, s, rfl, h⟩
  · have h := h.2 c1
    refine s_aload_n (i := 0) (by decide +kernel) rfl (pn 24 rfl ?_)
    refine s_getfield (v := .ref 160) (by decide +kernel) fr_12_13 lq_159 (congrArg Prod.fst sh_159) (fv_ref pf_159_1) (pn 27 rfl ?_)
    refine t_bipush (by decide +kernel) kb_50 (pn 29 rfl ?_)
    refine s_iload (i := 5) (by decide +kernel) rfl (pn 31 rfl ?_)
    refine s_iadd (by decide +kernel) (pn 32 rfl ?_)
    obtain ⟨b2, h⟩ := h
    refine t_iaload (v := M.1 160 ((50 : Int32) + l5).toNatClampNeg) (by decide +kernel) ⟨Or.inl lq_160, congrArg Prod.fst sh_160⟩ (al_in sh_160 b2) rfl (pn 33 rfl ?_)
    refine t_bipush (by decide +kernel) kb_10 (pn 35 rfl ?_)
    refine s_isub (by decide +kernel) (pn 36 rfl ?_)
    refine s_istore (i := 6) (by decide +kernel) (Nat.le_of_ble_eq_true rfl) (pn 38 rfl (t_store (ls' := [.ref 159, .int l1, .int l2, .int l3, .int l4, .int l5, .int ((M.1 160 ((50 : Int32) + l5).toNatClampNeg) - 10)]) rfl ?_))
    refine s_iload (i := 6) (by decide +kernel) rfl (pn 40 rfl ?_)
    refine s_i2l (by decide +kernel) (pn 41 rfl ?_)
    refine t_lconst (n := 0) (v := 0) (by decide +kernel) rfl (pn 42 rfl ?_)
    refine s_ldc2_w (by decide +kernel) kl_12_407 (pn 45 rfl ?_)
    refine s_callsI [.long (((M.1 160 ((50 : Int32) + l5).toNatClampNeg) - 10).toInt64), .long 0, .long 5] rfl (by decide +kernel) ms_12_163 np_188 (Nat.le_of_ble_eq_true rfl) (cI_use h (fun r1 s1 M1 h => (pn 48 rfl ?_)))
    refine s_if_eq (off := 67) (tgt := 115) (by decide +kernel) rfl (fun c2 => ?_) (fun c2 => (pn 51 rfl ?_))
    · have h := h.1 c2
      refine t_iinc (i := 5) (n := 1) (ls' := [.ref 159, .int l1, .int l2, .int l3, .int l4, .int (l5 + 1), .int ((M.1 160 ((50 : Int32) + l5).toNatClampNeg) - 10)]) (by decide +kernel) rfl (Nat.le_of_ble_eq_true rfl) kn_1 rfl (pn 118 rfl ?_)
      refine s_goto (off := -106) (tgt := 12) (by decide +kernel) rfl ?_
      exact pm_weak [.ref 159, .int l1, .int l2, .int l3, .int l4, .int (l5 + 1), .null] (pm_le_cons (Or.inr rfl) (pm_le_cons (Or.inr rfl) (pm_le_cons (Or.inr rfl) (pm_le_cons (Or.inr rfl) (pm_le_cons (Or.inr rfl) (pm_le_cons (Or.inr rfl) (pm_le_cons (Or.inl rfl) pm_le_nil))))))) h
    · have h := h.2 c2
      refine s_iload_n (i := 2) (by decide +kernel) rfl (pn 52 rfl ?_)
      refine s_i2l (by decide +kernel) (pn 53 rfl ?_)
      refine s_iload (i := 6) (by decide +kernel) rfl (pn 55 rfl ?_)
      refine s_callsI [.long (l2.toInt64), .int ((M.1 160 ((50 : Int32) + l5).toNatClampNeg) - 10)] rfl (by decide +kernel) ms_12_390 np_278 (Nat.le_of_ble_eq_true rfl) (cI_use h (fun r2 s2 M2 h => (pn 58 rfl ?_)))
      refine t_if_ne (off := 6) (tgt := 64) (by decide +kernel) rfl (fun c3 => ?_) (fun c3 => (pn 61 rfl ?_))
      · have h := h.2 c3
        refine s_aload_n (i := 0) (by decide +kernel) rfl (pn 65 rfl ?_)
        refine s_iload_n (i := 1) (by decide +kernel) rfl (pn 66 rfl ?_)
        refine s_iload (i := 5) (by decide +kernel) rfl (pn 68 rfl ?_)
        refine s_callvI [.int l1, .int l5] rfl (by decide +kernel) mv_12_256 np_222 (Nat.le_of_ble_eq_true rfl) lq_159 ((congrArg Prod.fst sh_159).trans oc_222) (cI_use h (fun r3 s3 M3 h => (pn 71 rfl ?_)))
        refine s_aload_n (i := 0) (by decide +kernel) rfl (pn 72 rfl ?_)
        refine s_iload_n (i := 1) (by decide +kernel) rfl (pn 73 rfl ?_)
        refine s_iload (i := 4) (by decide +kernel) rfl (pn 75 rfl ?_)
        refine s_callvI [.int l1, .int l4] rfl (by decide +kernel) mv_12_256 np_222 (Nat.le_of_ble_eq_true rfl) lq_159 ((congrArg Prod.fst sh_159).trans oc_222) (cI_use h (fun r4 s4 M4 h => (pn 78 rfl ?_)))
        refine s_icmp_gt (off := 33) (tgt := 111) (by decide +kernel) rfl (fun c4 => ?_) (fun c4 => (pn 81 rfl ?_))
        · have h := h.1 c4
          refine s_iload (i := 5) (by decide +kernel) rfl (pn 113 rfl ?_)
          refine s_istore (i := 4) (by decide +kernel) (Nat.le_of_ble_eq_true rfl) (pn 115 rfl (t_store (ls' := [.ref 159, .int l1, .int l2, .int l3, .int l5, .int l5, .int ((M.1 160 ((50 : Int32) + l5).toNatClampNeg) - 10)]) rfl ?_))
          refine t_iinc (i := 5) (n := 1) (ls' := [.ref 159, .int l1, .int l2, .int l3, .int l5, .int (l5 + 1), .int ((M.1 160 ((50 : Int32) + l5).toNatClampNeg) - 10)]) (by decide +kernel) rfl (Nat.le_of_ble_eq_true rfl) kn_1 rfl (pn 118 rfl ?_)
          refine s_goto (off := -106) (tgt := 12) (by decide +kernel) rfl ?_
          exact pm_weak [.ref 159, .int l1, .int l2, .int l3, .int l5, .int (l5 + 1), .null] (pm_le_cons (Or.inr rfl) (pm_le_cons (Or.inr rfl) (pm_le_cons (Or.inr rfl) (pm_le_cons (Or.inr rfl) (pm_le_cons (Or.inr rfl) (pm_le_cons (Or.inr rfl) (pm_le_cons (Or.inl rfl) pm_le_nil))))))) h
        · have h := h.2 c4
          refine s_aload_n (i := 0) (by decide +kernel) rfl (pn 82 rfl ?_)
          refine s_iload_n (i := 1) (by decide +kernel) rfl (pn 83 rfl ?_)
          refine s_iload (i := 5) (by decide +kernel) rfl (pn 85 rfl ?_)
          refine s_callvI [.int l1, .int l5] rfl (by decide +kernel) mv_12_256 np_222 (Nat.le_of_ble_eq_true rfl) lq_159 ((congrArg Prod.fst sh_159).trans oc_222) (cI_use h (fun r5 s5 M5 h => (pn 88 rfl ?_)))
          refine s_aload_n (i := 0) (by decide +kernel) rfl (pn 89 rfl ?_)
          refine s_iload_n (i := 1) (by decide +kernel) rfl (pn 90 rfl ?_)
          refine s_iload (i := 4) (by decide +kernel) rfl (pn 92 rfl ?_)
          refine s_callvI [.int l1, .int l4] rfl (by decide +kernel) mv_12_256 np_222 (Nat.le_of_ble_eq_true rfl) lq_159 ((congrArg Prod.fst sh_159).trans oc_222) (cI_use h (fun r6 s6 M6 h => (pn 95 rfl ?_)))
          have k1 : ∀ (z1 : Int32) (z1e : z1 = ((if r5 = r6 then (if l4 = l3 then l4 else (if l4 ≤ l5 then l4 else l5)) else l4) : Int32)), wM_pointed d 115 [.ref 159, .int l1, .int l2, .int l3, .int z1, .int l5, .int ((M.1 160 ((50 : Int32) + l5).toNatClampNeg) - 10)] [] s6 M6 Q := by
            intro z1 z1e
            subst z1e
            refine t_iinc (i := 5) (n := 1) (ls' := [.ref 159, .int l1, .int l2, .int l3, .int ((if r5 = r6 then (if l4 = l3 then l4 else (if l4 ≤ l5 then l4 else l5)) else l4) : Int32), .int (l5 + 1), .int ((M.1 160 ((50 : Int32) + l5).toNatClampNeg) - 10)]) (by decide +kernel) rfl (Nat.le_of_ble_eq_true rfl) kn_1 rfl (pn 118 rfl ?_)
            refine s_goto (off := -106) (tgt := 12) (by decide +kernel) rfl ?_
            exact pm_weak [.ref 159, .int l1, .int l2, .int l3, .int ((if r5 = r6 then (if l4 = l3 then l4 else (if l4 ≤ l5 then l4 else l5)) else l4) : Int32), .int (l5 + 1), .null] (pm_le_cons (Or.inr rfl) (pm_le_cons (Or.inr rfl) (pm_le_cons (Or.inr rfl) (pm_le_cons (Or.inr rfl) (pm_le_cons (Or.inr rfl) (pm_le_cons (Or.inr rfl) (pm_le_cons (Or.inl rfl) pm_le_nil))))))) h
          refine t_icmp_ne (off := 20) (tgt := 115) (by decide +kernel) rfl (fun c5 => ?_) (fun c5 => (pn 98 rfl ?_))
          · exact k1 _ (by simp only [if_neg c5])
          · refine s_iload (i := 4) (by decide +kernel) rfl (pn 100 rfl ?_)
            refine s_iload_n (i := 3) (by decide +kernel) rfl (pn 101 rfl ?_)
            refine s_icmp_eq (off := 14) (tgt := 115) (by decide +kernel) rfl (fun c6 => ?_) (fun c6 => (pn 104 rfl ?_))
            · exact k1 _ (by simp only [if_pos c5, if_pos c6])
            · refine s_iload (i := 5) (by decide +kernel) rfl (pn 106 rfl ?_)
              refine s_iload (i := 4) (by decide +kernel) rfl (pn 108 rfl ?_)
              refine s_icmp_ge (off := 7) (tgt := 115) (by decide +kernel) rfl (fun c7 => ?_) (fun c7 => (pn 111 rfl ?_))
              · exact k1 _ (by simp only [if_pos c5, if_neg c6, if_pos c7])
              · refine s_iload (i := 5) (by decide +kernel) rfl (pn 113 rfl ?_)
                refine s_istore (i := 4) (by decide +kernel) (Nat.le_of_ble_eq_true rfl) (pn 115 rfl (t_store (ls' := [.ref 159, .int l1, .int l2, .int l3, .int l5, .int l5, .int ((M.1 160 ((50 : Int32) + l5).toNatClampNeg) - 10)]) rfl ?_))
                exact k1 _ (by simp only [if_pos c5, if_neg c6, if_neg c7])
      · have h := h.1 c3
        refine s_goto (off := 54) (tgt := 115) (by decide +kernel) rfl ?_
        refine t_iinc (i := 5) (n := 1) (ls' := [.ref 159, .int l1, .int l2, .int l3, .int l4, .int (l5 + 1), .int ((M.1 160 ((50 : Int32) + l5).toNatClampNeg) - 10)]) (by decide +kernel) rfl (Nat.le_of_ble_eq_true rfl) kn_1 rfl (pn 118 rfl ?_)
        refine s_goto (off := -106) (tgt := 12) (by decide +kernel) rfl ?_
        exact pm_weak [.ref 159, .int l1, .int l2, .int l3, .int l4, .int (l5 + 1), .null] (pm_le_cons (Or.inr rfl) (pm_le_cons (Or.inr rfl) (pm_le_cons (Or.inr rfl) (pm_le_cons (Or.inr rfl) (pm_le_cons (Or.inr rfl) (pm_le_cons (Or.inr rfl) (pm_le_cons (Or.inl rfl) pm_le_nil))))))) h
abbrev wM_isRing (d pc : Nat) (ls st : List Value) (s : pm_S) (M : pm_M) (Q : Int32 → pm_S → pm_M → Prop) : Prop := wI d prog_14_method_102_code 12 (some .boolean) false pc ls st s M Q
theorem enM_isRing {d : Nat} {s : pm_S} {M : pm_M} {x1 : Int32} {Q : Int32 → pm_S → pm_M → Prop}  (h : vp_in x1 6 ∧ wM_isRing d 9 [.ref 159, .int x1, .int (M.1 172 x1.toNatClampNeg), .int 0] [] s M Q) : cI (d + 1) yM_isRing [.ref 159, .int x1] s M Q := by
  refine pm_toI (by decide) (Nat.le_of_ble_eq_true rfl) ?_
  show wM_isRing d 0 [.ref 159, .int x1, .null, .null] [] s M Q
  refine s_aload_n (i := 0) (by decide +kernel) rfl (pn 1 rfl ?_)
  refine s_getfield (v := .ref 172) (by decide +kernel) fr_12_57 lq_159 (congrArg Prod.fst sh_159) (fv_ref pf_159_27) (pn 4 rfl ?_)
  refine s_iload_n (i := 1) (by decide +kernel) rfl (pn 5 rfl ?_)
  obtain ⟨b1, h⟩ := h
  refine t_iaload (v := M.1 172 x1.toNatClampNeg) (by decide +kernel) ⟨Or.inl lq_172, congrArg Prod.fst sh_172⟩ (al_in sh_172 b1) rfl (pn 6 rfl ?_)
  refine s_istore_n (i := 2) (by decide +kernel) (Nat.le_of_ble_eq_true rfl) (pn 7 rfl (t_store (ls' := [.ref 159, .int x1, .int (M.1 172 x1.toNatClampNeg), .null]) rfl ?_))
  refine t_iconst (by decide +kernel) ki_0 (pn 8 rfl ?_)
  refine s_istore_n (i := 3) (by decide +kernel) (Nat.le_of_ble_eq_true rfl) (pn 9 rfl (t_store (ls' := [.ref 159, .int x1, .int (M.1 172 x1.toNatClampNeg), .int 0]) rfl ?_))
  exact h
theorem sgM_isRing_9 {d : Nat} {s : pm_S} {M : pm_M} {l1 : Int32} {l2 : Int32} {l3 : Int32} {Q : Int32 → pm_S → pm_M → Prop}  (h : (((6 ≤ l3) → Q ((if l2 = l1 then 1 else 0) : Int32) s M) ∧ (¬ (6 ≤ l3) → (((l2 = l1) → Q ((if l2 = l1 then 1 else 0) : Int32) s M) ∧ (¬ (l2 = l1) → vp_in l2 6 ∧ wM_isRing d 9 [.ref 159, .int l1, .int (M.1 172 l2.toNatClampNeg), .int (l3 + 1)] [] s M Q))))) : wM_isRing d 9 [.ref 159, .int l1, .int l2, .int l3] [] s M Q := by
  refine s_iload_n (i := 3) (by decide +kernel) rfl (pn 10 rfl ?_)
  refine t_bipush (by decide +kernel) kb_6 (pn 12 rfl ?_)
  refine s_icmp_ge (off := 21) (tgt := 33) (by decide +kernel) rfl (fun c1 => ?_) (fun c1 => (pn 15 rfl ?_))
  · have h := h.1 c1
    refine s_iload_n (i := 2) (by decide +kernel) rfl (pn 34 rfl ?_)
    refine s_iload_n (i := 1) (by decide +kernel) rfl (pn 35 rfl ?_)
    have k1 : ∀ (z1 : Int32) (z1e : z1 = ((if l2 = l1 then 1 else 0) : Int32)), wM_isRing d 43 [.ref 159, .int l1, .int l2, .int l3] [.int z1] s M Q := by
      intro z1 z1e
      subst z1e
      exact s_ireturn (st := []) (by decide +kernel) (Or.inr ⟨rfl, (or01 (Or.inr rfl) (Or.inl rfl))⟩) ⟨_, rfl, s, rfl, h⟩
    refine t_icmp_ne (off := 7) (tgt := 42) (by decide +kernel) rfl (fun c3 => ?_) (fun c3 => (pn 38 rfl ?_))
    · refine t_iconst (by decide +kernel) ki_0 (pn 43 rfl ?_)
      exact k1 _ (by simp only [if_neg c3])
    · refine t_iconst (by decide +kernel) ki_1 (pn 39 rfl ?_)
      refine s_goto (off := 4) (tgt := 43) (by decide +kernel) rfl ?_
      exact k1 _ (by simp only [if_pos c3])
  · have h := h.2 c1
    refine s_iload_n (i := 2) (by decide +kernel) rfl (pn 16 rfl ?_)
    refine s_iload_n (i := 1) (by decide +kernel) rfl (pn 17 rfl ?_)
    refine s_icmp_eq (off := 16) (tgt := 33) (by decide +kernel) rfl (fun c4 => ?_) (fun c4 => (pn 20 rfl ?_))
    · have h := h.1 c4
      refine s_iload_n (i := 2) (by decide +kernel) rfl (pn 34 rfl ?_)
      refine s_iload_n (i := 1) (by decide +kernel) rfl (pn 35 rfl ?_)
      have k2 : ∀ (z2 : Int32) (z2e : z2 = ((if l2 = l1 then 1 else 0) : Int32)), wM_isRing d 43 [.ref 159, .int l1, .int l2, .int l3] [.int z2] s M Q := by
        intro z2 z2e
        subst z2e
        exact s_ireturn (st := []) (by decide +kernel) (Or.inr ⟨rfl, (or01 (Or.inr rfl) (Or.inl rfl))⟩) ⟨_, rfl, s, rfl, h⟩
      refine t_icmp_ne (off := 7) (tgt := 42) (by decide +kernel) rfl (fun c5 => ?_) (fun c5 => (pn 38 rfl ?_))
      · refine t_iconst (by decide +kernel) ki_0 (pn 43 rfl ?_)
        exact k2 _ (by simp only [if_neg c5])
      · refine t_iconst (by decide +kernel) ki_1 (pn 39 rfl ?_)
        refine s_goto (off := 4) (tgt := 43) (by decide +kernel) rfl ?_
        exact k2 _ (by simp only [if_pos c5])
    · have h := h.2 c4
      refine s_aload_n (i := 0) (by decide +kernel) rfl (pn 21 rfl ?_)
      refine s_getfield (v := .ref 172) (by decide +kernel) fr_12_57 lq_159 (congrArg Prod.fst sh_159) (fv_ref pf_159_27) (pn 24 rfl ?_)
      refine s_iload_n (i := 2) (by decide +kernel) rfl (pn 25 rfl ?_)
      obtain ⟨b1, h⟩ := h
      refine t_iaload (v := M.1 172 l2.toNatClampNeg) (by decide +kernel) ⟨Or.inl lq_172, congrArg Prod.fst sh_172⟩ (al_in sh_172 b1) rfl (pn 26 rfl ?_)
      refine s_istore_n (i := 2) (by decide +kernel) (Nat.le_of_ble_eq_true rfl) (pn 27 rfl (t_store (ls' := [.ref 159, .int l1, .int (M.1 172 l2.toNatClampNeg), .int l3]) rfl ?_))
      refine t_iinc (i := 3) (n := 1) (ls' := [.ref 159, .int l1, .int (M.1 172 l2.toNatClampNeg), .int (l3 + 1)]) (by decide +kernel) rfl (Nat.le_of_ble_eq_true rfl) kn_1 rfl (pn 30 rfl ?_)
      refine s_goto (off := -21) (tgt := 9) (by decide +kernel) rfl ?_
      exact h
abbrev wM_rounds (d pc : Nat) (ls st : List Value) (s : pm_S) (M : pm_M) (Q : Int32 → pm_S → pm_M → Prop) : Prop := wI d prog_14_method_105_code 12 (some .int) false pc ls st s M Q
theorem enM_rounds {d : Nat} {s : pm_S} {M : pm_M}  {Q : Int32 → pm_S → pm_M → Prop}  (h : cV d yM_laysTrade [.ref 159] s (pm_si M 159 0 0) (fun s1 M1 => Q (M1.1 159 29) s1 M1)) : cI (d + 1) yM_rounds [.ref 159] s M Q := by
  refine pm_toI (by decide) (Nat.le_of_ble_eq_true rfl) ?_
  show wM_rounds d 0 [.ref 159] [] s M Q
  refine s_aload_n (i := 0) (by decide +kernel) rfl (pn 1 rfl ?_)
  refine t_iconst (by decide +kernel) ki_0 (pn 2 rfl ?_)
  refine s_putfieldI (by decide +kernel) fr_12_1 lq_159 (congrArg Prod.fst sh_159) (fun q => by cases q) (Or.inl rfl) (pn 5 rfl ?_)
  refine s_aload_n (i := 0) (by decide +kernel) rfl (pn 6 rfl ?_)
  refine s_callvV [] rfl (by decide +kernel) mv_12_418 np_284 (Nat.le_of_ble_eq_true rfl) lq_159 ((congrArg Prod.fst sh_159).trans oc_284) (cV_use h (fun s1 M1 h => (pn 9 rfl ?_)))
  refine s_aload_n (i := 0) (by decide +kernel) rfl (pn 10 rfl ?_)
  refine s_getfield (v := .int (M1.1 159 29)) (by decide +kernel) fr_12_409 lq_159 (congrArg Prod.fst sh_159) rfl (pn 13 rfl ?_)
  exact s_ireturn (st := []) (by decide +kernel) (Or.inl rfl) ⟨_, rfl, s1, rfl, h⟩
abbrev wM_traders (d pc : Nat) (ls st : List Value) (s : pm_S) (M : pm_M) (Q : Int32 → pm_S → pm_M → Prop) : Prop := wI d prog_14_method_106_code 12 (some .int) false pc ls st s M Q
theorem enM_traders {d : Nat} {s : pm_S} {M : pm_M}  {Q : Int32 → pm_S → pm_M → Prop}  (h : cV d yM_laysTrade [.ref 159] s (pm_si M 159 0 0) (fun s1 M1 => wM_traders d 13 [.ref 159, .int 0, .int 0] [] s1 M1 Q)) : cI (d + 1) yM_traders [.ref 159] s M Q := by
  refine pm_toI (by decide) (Nat.le_of_ble_eq_true rfl) ?_
  show wM_traders d 0 [.ref 159, .null, .null] [] s M Q
  refine s_aload_n (i := 0) (by decide +kernel) rfl (pn 1 rfl ?_)
  refine t_iconst (by decide +kernel) ki_0 (pn 2 rfl ?_)
  refine s_putfieldI (by decide +kernel) fr_12_1 lq_159 (congrArg Prod.fst sh_159) (fun q => by cases q) (Or.inl rfl) (pn 5 rfl ?_)
  refine s_aload_n (i := 0) (by decide +kernel) rfl (pn 6 rfl ?_)
  refine s_callvV [] rfl (by decide +kernel) mv_12_418 np_284 (Nat.le_of_ble_eq_true rfl) lq_159 ((congrArg Prod.fst sh_159).trans oc_284) (cV_use h (fun s1 M1 h => (pn 9 rfl ?_)))
  refine t_iconst (by decide +kernel) ki_0 (pn 10 rfl ?_)
  refine s_istore_n (i := 1) (by decide +kernel) (Nat.le_of_ble_eq_true rfl) (pn 11 rfl (t_store (ls' := [.ref 159, .int 0, .null]) rfl ?_))
  refine t_iconst (by decide +kernel) ki_0 (pn 12 rfl ?_)
  refine s_istore_n (i := 2) (by decide +kernel) (Nat.le_of_ble_eq_true rfl) (pn 13 rfl (t_store (ls' := [.ref 159, .int 0, .int 0]) rfl ?_))
  exact h
theorem sgM_traders_13 {d : Nat} {s : pm_S} {M : pm_M} {l1 : Int32} {l2 : Int32} {Q : Int32 → pm_S → pm_M → Prop}  (h : ((((M.1 160 3) ≤ l2) → Q l1 s M) ∧ (¬ ((M.1 160 3) ≤ l2) → vp_in l2 6 ∧ cI d yM_heldBy [.ref 159, .int l2] s M (fun r1 s1 M1 => (∀ v1 : Int32, v1 = l1 ||| ((if (M.1 173 l2.toNatClampNeg) = r1 then 0 else ((1 : Int32) <<< (l2 &&& 31))) : Int32) → wM_traders d 13 [.ref 159, .int v1, .int (l2 + 1)] [] s1 M1 Q))))) : wM_traders d 13 [.ref 159, .int l1, .int l2] [] s M Q := by
  refine s_iload_n (i := 2) (by decide +kernel) rfl (pn 14 rfl ?_)
  refine s_aload_n (i := 0) (by decide +kernel) rfl (pn 15 rfl ?_)
  refine s_getfield (v := .ref 160) (by decide +kernel) fr_12_13 lq_159 (congrArg Prod.fst sh_159) (fv_ref pf_159_1) (pn 18 rfl ?_)
  refine t_iconst (by decide +kernel) ki_3 (pn 19 rfl ?_)
  refine t_iaload (v := M.1 160 3) (by decide +kernel) ⟨Or.inl lq_160, congrArg Prod.fst sh_160⟩ (al_in sh_160 (vp_lit (n := 3870) tn_3 (by decide) (by decide))) (by rw [tn_3] <;> rfl) (pn 20 rfl ?_)
  refine s_icmp_ge (off := 33) (tgt := 53) (by decide +kernel) rfl (fun c1 => ?_) (fun c1 => (pn 23 rfl ?_))
  · have h := h.1 c1
    refine s_iload_n (i := 1) (by decide +kernel) rfl (pn 54 rfl ?_)
    exact s_ireturn (st := []) (by decide +kernel) (Or.inl rfl) ⟨_, rfl, s, rfl, h⟩
  · have h := h.2 c1
    refine s_iload_n (i := 1) (by decide +kernel) rfl (pn 24 rfl ?_)
    refine s_aload_n (i := 0) (by decide +kernel) rfl (pn 25 rfl ?_)
    refine s_getfield (v := .ref 173) (by decide +kernel) fr_12_60 lq_159 (congrArg Prod.fst sh_159) (fv_ref pf_159_28) (pn 28 rfl ?_)
    refine s_iload_n (i := 2) (by decide +kernel) rfl (pn 29 rfl ?_)
    obtain ⟨b1, h⟩ := h
    refine t_iaload (v := M.1 173 l2.toNatClampNeg) (by decide +kernel) ⟨Or.inl lq_173, congrArg Prod.fst sh_173⟩ (al_in sh_173 b1) rfl (pn 30 rfl ?_)
    refine s_aload_n (i := 0) (by decide +kernel) rfl (pn 31 rfl ?_)
    refine s_iload_n (i := 2) (by decide +kernel) rfl (pn 32 rfl ?_)
    refine s_callvI [.int l2] rfl (by decide +kernel) mv_12_253 np_220 (Nat.le_of_ble_eq_true rfl) lq_159 ((congrArg Prod.fst sh_159).trans oc_220) (cI_use h (fun r1 s1 M1 h => (pn 35 rfl ?_)))
    have k1 : ∀ (z1 : Int32) (z1e : z1 = ((if (M.1 173 l2.toNatClampNeg) = r1 then 0 else ((1 : Int32) <<< (l2 &&& 31))) : Int32)), wM_traders d 45 [.ref 159, .int l1, .int l2] [.int z1, .int l1] s1 M1 Q := by
      intro z1 z1e
      subst z1e
      refine s_ior (by decide +kernel) (pn 46 rfl ?_)
      obtain ⟨v1, ev1⟩ : ∃ zz : Int32, zz = l1 ||| ((if (M.1 173 l2.toNatClampNeg) = r1 then 0 else ((1 : Int32) <<< (l2 &&& 31))) : Int32) := ⟨_, rfl⟩
      have h := h v1 ev1
      rw [← ev1]
      refine s_istore_n (i := 1) (by decide +kernel) (Nat.le_of_ble_eq_true rfl) (pn 47 rfl (t_store (ls' := [.ref 159, .int v1, .int l2]) rfl ?_))
      refine t_iinc (i := 2) (n := 1) (ls' := [.ref 159, .int v1, .int (l2 + 1)]) (by decide +kernel) rfl (Nat.le_of_ble_eq_true rfl) kn_1 rfl (pn 50 rfl ?_)
      refine s_goto (off := -37) (tgt := 13) (by decide +kernel) rfl ?_
      exact h
    refine t_icmp_ne (off := 7) (tgt := 42) (by decide +kernel) rfl (fun c2 => ?_) (fun c2 => (pn 38 rfl ?_))
    · refine t_iconst (by decide +kernel) ki_1 (pn 43 rfl ?_)
      refine s_iload_n (i := 2) (by decide +kernel) rfl (pn 44 rfl ?_)
      refine s_ishl (by decide +kernel) (pn 45 rfl ?_)
      exact k1 _ (by simp only [if_neg c2])
    · refine t_iconst (by decide +kernel) ki_0 (pn 39 rfl ?_)
      refine s_goto (off := 6) (tgt := 45) (by decide +kernel) rfl ?_
      exact k1 _ (by simp only [if_pos c2])
abbrev wM_bargain (d pc : Nat) (ls st : List Value) (s : pm_S) (M : pm_M) (Q : Int32 → pm_S → pm_M → Prop) : Prop := wI d prog_14_method_107_code 12 (some .int) false pc ls st s M Q
theorem enM_bargain {d : Nat} {s : pm_S} {M : pm_M}  {Q : Int32 → pm_S → pm_M → Prop}  (h : wM_bargain d 7 [.ref 159, .int 0, .null, .null, .null] [] s (pm_si M 159 0 0) Q) : cI (d + 1) yM_bargain [.ref 159] s M Q := by
  refine pm_toI (by decide) (Nat.le_of_ble_eq_true rfl) ?_
  show wM_bargain d 0 [.ref 159, .null, .null, .null, .null] [] s M Q
  refine s_aload_n (i := 0) (by decide +kernel) rfl (pn 1 rfl ?_)
  refine t_iconst (by decide +kernel) ki_0 (pn 2 rfl ?_)
  refine s_putfieldI (by decide +kernel) fr_12_1 lq_159 (congrArg Prod.fst sh_159) (fun q => by cases q) (Or.inl rfl) (pn 5 rfl ?_)
  refine t_iconst (by decide +kernel) ki_0 (pn 6 rfl ?_)
  refine s_istore_n (i := 1) (by decide +kernel) (Nat.le_of_ble_eq_true rfl) (pn 7 rfl (t_store (ls' := [.ref 159, .int 0, .null, .null, .null]) rfl ?_))
  exact h
theorem sgM_bargain_7 {d : Nat} {s : pm_S} {M : pm_M} {l1 : Int32} {Q : Int32 → pm_S → pm_M → Prop}  (h : ((((M.1 160 3) ≤ l1) → Q (-1) s M) ∧ (¬ ((M.1 160 3) ≤ l1) → wM_bargain d 21 [.ref 159, .int l1, .int (l1 + 1), .null, .null] [] s M Q))) : wM_bargain d 7 [.ref 159, .int l1, .null, .null, .null] [] s M Q := by
  refine s_iload_n (i := 1) (by decide +kernel) rfl (pn 8 rfl ?_)
  refine s_aload_n (i := 0) (by decide +kernel) rfl (pn 9 rfl ?_)
  refine s_getfield (v := .ref 160) (by decide +kernel) fr_12_13 lq_159 (congrArg Prod.fst sh_159) (fv_ref pf_159_1) (pn 12 rfl ?_)
  refine t_iconst (by decide +kernel) ki_3 (pn 13 rfl ?_)
  refine t_iaload (v := M.1 160 3) (by decide +kernel) ⟨Or.inl lq_160, congrArg Prod.fst sh_160⟩ (al_in sh_160 (vp_lit (n := 3870) tn_3 (by decide) (by decide))) (by rw [tn_3] <;> rfl) (pn 14 rfl ?_)
  refine s_icmp_ge (off := 92) (tgt := 106) (by decide +kernel) rfl (fun c1 => ?_) (fun c1 => (pn 17 rfl ?_))
  · have h := h.1 c1
    refine t_iconst (by decide +kernel) ki_m1 (pn 107 rfl ?_)
    exact s_ireturn (st := []) (by decide +kernel) (Or.inl rfl) ⟨_, rfl, s, rfl, h⟩
  · have h := h.2 c1
    refine s_iload_n (i := 1) (by decide +kernel) rfl (pn 18 rfl ?_)
    refine t_iconst (by decide +kernel) ki_1 (pn 19 rfl ?_)
    refine s_iadd (by decide +kernel) (pn 20 rfl ?_)
    refine s_istore_n (i := 2) (by decide +kernel) (Nat.le_of_ble_eq_true rfl) (pn 21 rfl (t_store (ls' := [.ref 159, .int l1, .int (l1 + 1), .null, .null]) rfl ?_))
    exact h
theorem sgM_bargain_21 {d : Nat} {s : pm_S} {M : pm_M} {l1 : Int32} {l2 : Int32} {Q : Int32 → pm_S → pm_M → Prop}  (h : ((((M.1 160 3) ≤ l2) → wM_bargain d 7 [.ref 159, .int (l1 + 1), .null, .null, .null] [] s M Q) ∧ (¬ ((M.1 160 3) ≤ l2) → cI d yM_heldBy [.ref 159, .int l1] s M (fun r1 s1 M1 => cI d yM_heldBy [.ref 159, .int l2] s1 M1 (fun r2 s2 M2 => (((r1 = (-1)) → wM_bargain d 21 [.ref 159, .int l1, .int (l2 + 1), .null, .null] [] s2 M2 Q) ∧ (¬ (r1 = (-1)) → (((r2 = (-1)) → wM_bargain d 21 [.ref 159, .int l1, .int (l2 + 1), .null, .null] [] s2 M2 Q) ∧ (¬ (r2 = (-1)) → cI d yM_claimsOf [.ref 159, .int l1, .int r2] s2 M2 (fun r3 s3 M3 => cI d yM_claimsOf [.ref 159, .int l1, .int r1] s3 M3 (fun r4 s4 M4 => (((r3 ≤ r4) → wM_bargain d 21 [.ref 159, .int l1, .int (l2 + 1), .null, .null] [] s4 M4 Q) ∧ (¬ (r3 ≤ r4) → cI d yM_claimsOf [.ref 159, .int l2, .int r1] s4 M4 (fun r5 s5 M5 => cI d yM_claimsOf [.ref 159, .int l2, .int r2] s5 M5 (fun r6 s6 M6 => (((r5 ≤ r6) → wM_bargain d 21 [.ref 159, .int l1, .int (l2 + 1), .null, .null] [] s6 M6 Q) ∧ (¬ (r5 ≤ r6) → Q (((10 : Int32) * l1) + l2) s6 M6))))))))))))))))) : wM_bargain d 21 [.ref 159, .int l1, .int l2, .null, .null] [] s M Q := by
  refine s_iload_n (i := 2) (by decide +kernel) rfl (pn 22 rfl ?_)
  refine s_aload_n (i := 0) (by decide +kernel) rfl (pn 23 rfl ?_)
  refine s_getfield (v := .ref 160) (by decide +kernel) fr_12_13 lq_159 (congrArg Prod.fst sh_159) (fv_ref pf_159_1) (pn 26 rfl ?_)
  refine t_iconst (by decide +kernel) ki_3 (pn 27 rfl ?_)
  refine t_iaload (v := M.1 160 3) (by decide +kernel) ⟨Or.inl lq_160, congrArg Prod.fst sh_160⟩ (al_in sh_160 (vp_lit (n := 3870) tn_3 (by decide) (by decide))) (by rw [tn_3] <;> rfl) (pn 28 rfl ?_)
  refine s_icmp_ge (off := 72) (tgt := 100) (by decide +kernel) rfl (fun c1 => ?_) (fun c1 => (pn 31 rfl ?_))
  · have h := h.1 c1
    refine t_iinc (i := 1) (n := 1) (ls' := [.ref 159, .int (l1 + 1), .int l2, .null, .null]) (by decide +kernel) rfl (Nat.le_of_ble_eq_true rfl) kn_1 rfl (pn 103 rfl ?_)
    refine s_goto (off := -96) (tgt := 7) (by decide +kernel) rfl ?_
    exact pm_weak [.ref 159, .int (l1 + 1), .null, .null, .null] (pm_le_cons (Or.inr rfl) (pm_le_cons (Or.inr rfl) (pm_le_cons (Or.inl rfl) (pm_le_cons (Or.inl rfl) (pm_le_cons (Or.inl rfl) pm_le_nil))))) h
  · have h := h.2 c1
    refine s_aload_n (i := 0) (by decide +kernel) rfl (pn 32 rfl ?_)
    refine s_iload_n (i := 1) (by decide +kernel) rfl (pn 33 rfl ?_)
    refine s_callvI [.int l1] rfl (by decide +kernel) mv_12_253 np_220 (Nat.le_of_ble_eq_true rfl) lq_159 ((congrArg Prod.fst sh_159).trans oc_220) (cI_use h (fun r1 s1 M1 h => (pn 36 rfl ?_)))
    refine s_istore_n (i := 3) (by decide +kernel) (Nat.le_of_ble_eq_true rfl) (pn 37 rfl (t_store (ls' := [.ref 159, .int l1, .int l2, .int r1, .null]) rfl ?_))
    refine s_aload_n (i := 0) (by decide +kernel) rfl (pn 38 rfl ?_)
    refine s_iload_n (i := 2) (by decide +kernel) rfl (pn 39 rfl ?_)
    refine s_callvI [.int l2] rfl (by decide +kernel) mv_12_253 np_220 (Nat.le_of_ble_eq_true rfl) lq_159 ((congrArg Prod.fst sh_159).trans oc_220) (cI_use h (fun r2 s2 M2 h => (pn 42 rfl ?_)))
    refine s_istore (i := 4) (by decide +kernel) (Nat.le_of_ble_eq_true rfl) (pn 44 rfl (t_store (ls' := [.ref 159, .int l1, .int l2, .int r1, .int r2]) rfl ?_))
    refine s_iload_n (i := 3) (by decide +kernel) rfl (pn 45 rfl ?_)
    refine t_iconst (by decide +kernel) ki_m1 (pn 46 rfl ?_)
    refine s_icmp_eq (off := 48) (tgt := 94) (by decide +kernel) rfl (fun c2 => ?_) (fun c2 => (pn 49 rfl ?_))
    · have h := h.1 c2
      refine t_iinc (i := 2) (n := 1) (ls' := [.ref 159, .int l1, .int (l2 + 1), .int r1, .int r2]) (by decide +kernel) rfl (Nat.le_of_ble_eq_true rfl) kn_1 rfl (pn 97 rfl ?_)
      refine s_goto (off := -76) (tgt := 21) (by decide +kernel) rfl ?_
      exact pm_weak [.ref 159, .int l1, .int (l2 + 1), .null, .null] (pm_le_cons (Or.inr rfl) (pm_le_cons (Or.inr rfl) (pm_le_cons (Or.inr rfl) (pm_le_cons (Or.inl rfl) (pm_le_cons (Or.inl rfl) pm_le_nil))))) h
    · have h := h.2 c2
      refine s_iload (i := 4) (by decide +kernel) rfl (pn 51 rfl ?_)
      refine t_iconst (by decide +kernel) ki_m1 (pn 52 rfl ?_)
      refine s_icmp_eq (off := 42) (tgt := 94) (by decide +kernel) rfl (fun c3 => ?_) (fun c3 => (pn 55 rfl ?_))
      · have h := h.1 c3
        refine t_iinc (i := 2) (n := 1) (ls' := [.ref 159, .int l1, .int (l2 + 1), .int r1, .int r2]) (by decide +kernel) rfl (Nat.le_of_ble_eq_true rfl) kn_1 rfl (pn 97 rfl ?_)
        refine s_goto (off := -76) (tgt := 21) (by decide +kernel) rfl ?_
        exact pm_weak [.ref 159, .int l1, .int (l2 + 1), .null, .null] (pm_le_cons (Or.inr rfl) (pm_le_cons (Or.inr rfl) (pm_le_cons (Or.inr rfl) (pm_le_cons (Or.inl rfl) (pm_le_cons (Or.inl rfl) pm_le_nil))))) h
      · have h := h.2 c3
        refine s_aload_n (i := 0) (by decide +kernel) rfl (pn 56 rfl ?_)
        refine s_iload_n (i := 1) (by decide +kernel) rfl (pn 57 rfl ?_)
        refine s_iload (i := 4) (by decide +kernel) rfl (pn 59 rfl ?_)
        refine s_callvI [.int l1, .int r2] rfl (by decide +kernel) mv_12_256 np_222 (Nat.le_of_ble_eq_true rfl) lq_159 ((congrArg Prod.fst sh_159).trans oc_222) (cI_use h (fun r3 s3 M3 h => (pn 62 rfl ?_)))
        refine s_aload_n (i := 0) (by decide +kernel) rfl (pn 63 rfl ?_)
        refine s_iload_n (i := 1) (by decide +kernel) rfl (pn 64 rfl ?_)
        refine s_iload_n (i := 3) (by decide +kernel) rfl (pn 65 rfl ?_)
        refine s_callvI [.int l1, .int r1] rfl (by decide +kernel) mv_12_256 np_222 (Nat.le_of_ble_eq_true rfl) lq_159 ((congrArg Prod.fst sh_159).trans oc_222) (cI_use h (fun r4 s4 M4 h => (pn 68 rfl ?_)))
        refine s_icmp_le (off := 26) (tgt := 94) (by decide +kernel) rfl (fun c4 => ?_) (fun c4 => (pn 71 rfl ?_))
        · have h := h.1 c4
          refine t_iinc (i := 2) (n := 1) (ls' := [.ref 159, .int l1, .int (l2 + 1), .int r1, .int r2]) (by decide +kernel) rfl (Nat.le_of_ble_eq_true rfl) kn_1 rfl (pn 97 rfl ?_)
          refine s_goto (off := -76) (tgt := 21) (by decide +kernel) rfl ?_
          exact pm_weak [.ref 159, .int l1, .int (l2 + 1), .null, .null] (pm_le_cons (Or.inr rfl) (pm_le_cons (Or.inr rfl) (pm_le_cons (Or.inr rfl) (pm_le_cons (Or.inl rfl) (pm_le_cons (Or.inl rfl) pm_le_nil))))) h
        · have h := h.2 c4
          refine s_aload_n (i := 0) (by decide +kernel) rfl (pn 72 rfl ?_)
          refine s_iload_n (i := 2) (by decide +kernel) rfl (pn 73 rfl ?_)
          refine s_iload_n (i := 3) (by decide +kernel) rfl (pn 74 rfl ?_)
          refine s_callvI [.int l2, .int r1] rfl (by decide +kernel) mv_12_256 np_222 (Nat.le_of_ble_eq_true rfl) lq_159 ((congrArg Prod.fst sh_159).trans oc_222) (cI_use h (fun r5 s5 M5 h => (pn 77 rfl ?_)))
          refine s_aload_n (i := 0) (by decide +kernel) rfl (pn 78 rfl ?_)
          refine s_iload_n (i := 2) (by decide +kernel) rfl (pn 79 rfl ?_)
          refine s_iload (i := 4) (by decide +kernel) rfl (pn 81 rfl ?_)
          refine s_callvI [.int l2, .int r2] rfl (by decide +kernel) mv_12_256 np_222 (Nat.le_of_ble_eq_true rfl) lq_159 ((congrArg Prod.fst sh_159).trans oc_222) (cI_use h (fun r6 s6 M6 h => (pn 84 rfl ?_)))
          refine s_icmp_le (off := 10) (tgt := 94) (by decide +kernel) rfl (fun c5 => ?_) (fun c5 => (pn 87 rfl ?_))
          · have h := h.1 c5
            refine t_iinc (i := 2) (n := 1) (ls' := [.ref 159, .int l1, .int (l2 + 1), .int r1, .int r2]) (by decide +kernel) rfl (Nat.le_of_ble_eq_true rfl) kn_1 rfl (pn 97 rfl ?_)
            refine s_goto (off := -76) (tgt := 21) (by decide +kernel) rfl ?_
            exact pm_weak [.ref 159, .int l1, .int (l2 + 1), .null, .null] (pm_le_cons (Or.inr rfl) (pm_le_cons (Or.inr rfl) (pm_le_cons (Or.inr rfl) (pm_le_cons (Or.inl rfl) (pm_le_cons (Or.inl rfl) pm_le_nil))))) h
          · have h := h.2 c5
            refine t_bipush (by decide +kernel) kb_10 (pn 89 rfl ?_)
            refine s_iload_n (i := 1) (by decide +kernel) rfl (pn 90 rfl ?_)
            refine s_imul (by decide +kernel) (pn 91 rfl ?_)
            refine s_iload_n (i := 2) (by decide +kernel) rfl (pn 92 rfl ?_)
            refine s_iadd (by decide +kernel) (pn 93 rfl ?_)
            exact s_ireturn (st := []) (by decide +kernel) (Or.inl rfl) ⟨_, rfl, s6, rfl, h⟩
abbrev wM_opening (d pc : Nat) (ls st : List Value) (s : pm_S) (M : pm_M) (Q : Int32 → pm_S → pm_M → Prop) : Prop := wI d prog_14_method_113_code 12 (some .int) false pc ls st s M Q
theorem enM_opening {d : Nat} {s : pm_S} {M : pm_M} {x1 : Int32} {x2 : Int32} {Q : Int32 → pm_S → pm_M → Prop}  (h : cI d yM_isPerson [.ref 159, .long (x1.toInt64)] s (pm_si M 159 0 0) (fun r1 s1 M1 => ((r1 = 0 → Q (-2) s1 M1) ∧ (¬ (r1 = 0) → cI d yM_isSet [.ref 159, .int x2] s1 M1 (fun r2 s2 M2 => (((r2 = 0) → Q (-3) s2 M2) ∧ (¬ (r2 = 0) → cI d yM_laysOpening [.ref 159, .int x1, .int x2] s2 M2 (fun r3 s3 M3 => Q r3 s3 M3)))))))) : cI (d + 1) yM_opening [.ref 159, .int x1, .int x2] s M Q := by
  refine pm_toI (by decide) (Nat.le_of_ble_eq_true rfl) ?_
  show wM_opening d 0 [.ref 159, .int x1, .int x2] [] s M Q
  refine s_aload_n (i := 0) (by decide +kernel) rfl (pn 1 rfl ?_)
  refine t_iconst (by decide +kernel) ki_0 (pn 2 rfl ?_)
  refine s_putfieldI (by decide +kernel) fr_12_1 lq_159 (congrArg Prod.fst sh_159) (fun q => by cases q) (Or.inl rfl) (pn 5 rfl ?_)
  refine s_aload_n (i := 0) (by decide +kernel) rfl (pn 6 rfl ?_)
  refine s_iload_n (i := 1) (by decide +kernel) rfl (pn 7 rfl ?_)
  refine s_i2l (by decide +kernel) (pn 8 rfl ?_)
  refine s_callvI [.long (x1.toInt64)] rfl (by decide +kernel) mv_12_231 np_219 (Nat.le_of_ble_eq_true rfl) lq_159 ((congrArg Prod.fst sh_159).trans oc_219) (cI_use h (fun r1 s1 M1 h => (pn 11 rfl ?_)))
  refine t_if_ne (off := 6) (tgt := 17) (by decide +kernel) rfl (fun c1 => ?_) (fun c1 => (pn 14 rfl ?_))
  · have h := h.2 c1
    refine s_aload_n (i := 0) (by decide +kernel) rfl (pn 18 rfl ?_)
    refine s_iload_n (i := 2) (by decide +kernel) rfl (pn 19 rfl ?_)
    refine s_callvI [.int x2] rfl (by decide +kernel) mv_12_435 np_291 (Nat.le_of_ble_eq_true rfl) lq_159 ((congrArg Prod.fst sh_159).trans oc_291) (cI_use h (fun r2 s2 M2 h => (pn 22 rfl ?_)))
    refine s_if_eq (off := 12) (tgt := 34) (by decide +kernel) rfl (fun c2 => ?_) (fun c2 => (pn 25 rfl ?_))
    · have h := h.1 c2
      refine t_bipush (by decide +kernel) kb_m3 (pn 36 rfl ?_)
      exact s_ireturn (st := []) (by decide +kernel) (Or.inl rfl) ⟨_, rfl, s2, rfl, h⟩
    · have h := h.2 c2
      refine s_aload_n (i := 0) (by decide +kernel) rfl (pn 26 rfl ?_)
      refine s_iload_n (i := 1) (by decide +kernel) rfl (pn 27 rfl ?_)
      refine s_iload_n (i := 2) (by decide +kernel) rfl (pn 28 rfl ?_)
      refine s_callvI [.int x1, .int x2] rfl (by decide +kernel) mv_12_438 np_292 (Nat.le_of_ble_eq_true rfl) lq_159 ((congrArg Prod.fst sh_159).trans oc_292) (cI_use h (fun r3 s3 M3 h => (pn 31 rfl ?_)))
      refine s_goto (off := 5) (tgt := 36) (by decide +kernel) rfl ?_
      exact s_ireturn (st := []) (by decide +kernel) (Or.inl rfl) ⟨_, rfl, s3, rfl, h⟩
  · have h := h.1 c1
    refine t_bipush (by decide +kernel) kb_m2 (pn 16 rfl ?_)
    exact s_ireturn (st := []) (by decide +kernel) (Or.inl rfl) ⟨_, rfl, s1, rfl, h⟩
abbrev wM_isSet (d pc : Nat) (ls st : List Value) (s : pm_S) (M : pm_M) (Q : Int32 → pm_S → pm_M → Prop) : Prop := wI d prog_14_method_108_code 12 (some .boolean) false pc ls st s M Q
theorem enM_isSet {d : Nat} {s : pm_S} {M : pm_M} {x1 : Int32} {Q : Int32 → pm_S → pm_M → Prop}  (h : Q ((if x1 < 0 then 0 else (if ((1 : Int32) <<< ((M.1 160 2) &&& 31)) ≤ x1 then 0 else 1)) : Int32) s M) : cI (d + 1) yM_isSet [.ref 159, .int x1] s M Q := by
  refine pm_toI (by decide) (Nat.le_of_ble_eq_true rfl) ?_
  show wM_isSet d 0 [.ref 159, .int x1] [] s M Q
  refine s_iload_n (i := 1) (by decide +kernel) rfl (pn 1 rfl ?_)
  have k1 : ∀ (z1 : Int32) (z1e : z1 = ((if x1 < 0 then 0 else (if ((1 : Int32) <<< ((M.1 160 2) &&& 31)) ≤ x1 then 0 else 1)) : Int32)), wM_isSet d 21 [.ref 159, .int x1] [.int z1] s M Q := by
    intro z1 z1e
    subst z1e
    exact s_ireturn (st := []) (by decide +kernel) (Or.inr ⟨rfl, (or01 (Or.inl rfl) (or01 (Or.inl rfl) (Or.inr rfl)))⟩) ⟨_, rfl, s, rfl, h⟩
  refine s_if_lt (off := 19) (tgt := 20) (by decide +kernel) rfl (fun c1 => ?_) (fun c1 => (pn 4 rfl ?_))
  · refine t_iconst (by decide +kernel) ki_0 (pn 21 rfl ?_)
    exact k1 _ (by simp only [if_pos c1])
  · refine s_iload_n (i := 1) (by decide +kernel) rfl (pn 5 rfl ?_)
    refine t_iconst (by decide +kernel) ki_1 (pn 6 rfl ?_)
    refine s_aload_n (i := 0) (by decide +kernel) rfl (pn 7 rfl ?_)
    refine s_getfield (v := .ref 160) (by decide +kernel) fr_12_13 lq_159 (congrArg Prod.fst sh_159) (fv_ref pf_159_1) (pn 10 rfl ?_)
    refine t_iconst (by decide +kernel) ki_2 (pn 11 rfl ?_)
    refine t_iaload (v := M.1 160 2) (by decide +kernel) ⟨Or.inl lq_160, congrArg Prod.fst sh_160⟩ (al_in sh_160 (vp_lit (n := 3870) tn_2 (by decide) (by decide))) (by rw [tn_2] <;> rfl) (pn 12 rfl ?_)
    refine s_ishl (by decide +kernel) (pn 13 rfl ?_)
    refine s_icmp_ge (off := 7) (tgt := 20) (by decide +kernel) rfl (fun c2 => ?_) (fun c2 => (pn 16 rfl ?_))
    · refine t_iconst (by decide +kernel) ki_0 (pn 21 rfl ?_)
      exact k1 _ (by simp only [if_neg c1, if_pos c2])
    · refine t_iconst (by decide +kernel) ki_1 (pn 17 rfl ?_)
      refine s_goto (off := 4) (tgt := 21) (by decide +kernel) rfl ?_
      exact k1 _ (by simp only [if_neg c1, if_neg c2])
abbrev wM_laysOpening (d pc : Nat) (ls st : List Value) (s : pm_S) (M : pm_M) (Q : Int32 → pm_S → pm_M → Prop) : Prop := wI d prog_14_method_112_code 12 (some .int) false pc ls st s M Q
theorem enM_laysOpening {d : Nat} {s : pm_S} {M : pm_M} {x1 : Int32} {x2 : Int32} {Q : Int32 → pm_S → pm_M → Prop}  (h : ((x2 = 0 → Q 0 s M) ∧ (¬ (x2 = 0) → cV d yM_laysMore [.ref 159, .int x1, .int x2] s M (fun s1 M1 => ((((M1.1 174 0) < 268435456) → wM_laysOpening d 36 [.ref 159, .int x1, .int x2, .int 0, .null, .null, .null] [] s1 (pm_si M1 159 34 (M1.1 174 0)) Q) ∧ (¬ ((M1.1 174 0) < 268435456) → Q (-1) s1 (pm_si M1 159 34 (M1.1 174 0)))))))) : cI (d + 1) yM_laysOpening [.ref 159, .int x1, .int x2] s M Q := by
  refine pm_toI (by decide) (Nat.le_of_ble_eq_true rfl) ?_
  show wM_laysOpening d 0 [.ref 159, .int x1, .int x2, .null, .null, .null, .null] [] s M Q
  refine s_iload_n (i := 2) (by decide +kernel) rfl (pn 1 rfl ?_)
  refine t_if_ne (off := 5) (tgt := 6) (by decide +kernel) rfl (fun c1 => ?_) (fun c1 => (pn 4 rfl ?_))
  · have h := h.2 c1
    refine s_aload_n (i := 0) (by decide +kernel) rfl (pn 7 rfl ?_)
    refine s_iload_n (i := 1) (by decide +kernel) rfl (pn 8 rfl ?_)
    refine s_iload_n (i := 2) (by decide +kernel) rfl (pn 9 rfl ?_)
    refine s_callvV [.int x1, .int x2] rfl (by decide +kernel) mv_12_428 np_293 (Nat.le_of_ble_eq_true rfl) lq_159 ((congrArg Prod.fst sh_159).trans oc_293) (cV_use h (fun s1 M1 h => (pn 12 rfl ?_)))
    refine s_aload_n (i := 0) (by decide +kernel) rfl (pn 13 rfl ?_)
    refine s_aload_n (i := 0) (by decide +kernel) rfl (pn 14 rfl ?_)
    refine s_getfield (v := .ref 174) (by decide +kernel) fr_12_63 lq_159 (congrArg Prod.fst sh_159) (fv_ref pf_159_30) (pn 17 rfl ?_)
    refine t_iconst (by decide +kernel) ki_0 (pn 18 rfl ?_)
    refine t_iaload (v := M1.1 174 0) (by decide +kernel) ⟨Or.inl lq_174, congrArg Prod.fst sh_174⟩ (al_in sh_174 (vp_lit (n := 25600) tn_0 (by decide) (by decide))) (by rw [tn_0] <;> rfl) (pn 19 rfl ?_)
    refine s_putfieldI (by decide +kernel) fr_12_425 lq_159 (congrArg Prod.fst sh_159) (fun q => by cases q) (Or.inl rfl) (pn 22 rfl ?_)
    refine s_aload_n (i := 0) (by decide +kernel) rfl (pn 23 rfl ?_)
    refine s_getfield (v := .int (M1.1 174 0)) (by decide +kernel) fr_12_425 lq_159 (congrArg Prod.fst sh_159) rfl (pn 26 rfl ?_)
    refine s_ldc_w (by decide +kernel) kc_12_421 (pn 29 rfl ?_)
    refine s_icmp_lt (off := 5) (tgt := 34) (by decide +kernel) rfl (fun c2 => ?_) (fun c2 => (pn 32 rfl ?_))
    · have h := h.1 c2
      refine t_iconst (by decide +kernel) ki_0 (pn 35 rfl ?_)
      refine s_istore_n (i := 3) (by decide +kernel) (Nat.le_of_ble_eq_true rfl) (pn 36 rfl (t_store (ls' := [.ref 159, .int x1, .int x2, .int 0, .null, .null, .null]) rfl ?_))
      exact h
    · have h := h.2 c2
      refine t_iconst (by decide +kernel) ki_m1 (pn 33 rfl ?_)
      exact s_ireturn (st := []) (by decide +kernel) (Or.inl rfl) ⟨_, rfl, s1, rfl, h⟩
  · have h := h.1 c1
    refine t_iconst (by decide +kernel) ki_0 (pn 5 rfl ?_)
    exact s_ireturn (st := []) (by decide +kernel) (Or.inl rfl) ⟨_, rfl, s, rfl, h⟩
theorem sgM_laysOpening_36 {d : Nat} {s : pm_S} {M : pm_M} {l1 : Int32} {l2 : Int32} {l3 : Int32} {Q : Int32 → pm_S → pm_M → Prop}  (h : (((99 < l3) → wM_laysOpening d 70 [.ref 159, .int l1, .int l2, .int 0, .int 0, .null, .null] [] s M Q) ∧ (¬ (99 < l3) → vp_in l3 100 ∧ wM_laysOpening d 36 [.ref 159, .int l1, .int l2, .int (l3 + 1), .null, .null, .null] [] s (pm_si M 175 l3.toNatClampNeg ((if l3 = 0 then 0 else 268435456) : Int32)) Q))) : wM_laysOpening d 36 [.ref 159, .int l1, .int l2, .int l3, .null, .null, .null] [] s M Q := by
  refine s_iload_n (i := 3) (by decide +kernel) rfl (pn 37 rfl ?_)
  refine t_bipush (by decide +kernel) kb_99 (pn 39 rfl ?_)
  refine s_icmp_gt (off := 26) (tgt := 65) (by decide +kernel) rfl (fun c1 => ?_) (fun c1 => (pn 42 rfl ?_))
  · have h := h.1 c1
    refine t_iconst (by decide +kernel) ki_0 (pn 66 rfl ?_)
    refine s_istore_n (i := 3) (by decide +kernel) (Nat.le_of_ble_eq_true rfl) (pn 67 rfl (t_store (ls' := [.ref 159, .int l1, .int l2, .int 0, .null, .null, .null]) rfl ?_))
    refine t_iconst (by decide +kernel) ki_0 (pn 68 rfl ?_)
    refine s_istore (i := 4) (by decide +kernel) (Nat.le_of_ble_eq_true rfl) (pn 70 rfl (t_store (ls' := [.ref 159, .int l1, .int l2, .int 0, .int 0, .null, .null]) rfl ?_))
    exact h
  · have h := h.2 c1
    refine s_aload_n (i := 0) (by decide +kernel) rfl (pn 43 rfl ?_)
    refine s_getfield (v := .ref 175) (by decide +kernel) fr_12_66 lq_159 (congrArg Prod.fst sh_159) (fv_ref pf_159_31) (pn 46 rfl ?_)
    refine s_iload_n (i := 3) (by decide +kernel) rfl (pn 47 rfl ?_)
    refine s_iload_n (i := 3) (by decide +kernel) rfl (pn 48 rfl ?_)
    have k1 : ∀ (z1 : Int32) (z1e : z1 = ((if l3 = 0 then 0 else 268435456) : Int32)), wM_laysOpening d 58 [.ref 159, .int l1, .int l2, .int l3, .null, .null, .null] [.int z1, .int l3, .ref 175] s M Q := by
      intro z1 z1e
      subst z1e
      obtain ⟨b1, h⟩ := h
      refine t_iastore (k := l3.toNatClampNeg) (by decide +kernel) ⟨lq_175, congrArg Prod.fst sh_175⟩ (al_in sh_175 b1) rfl (pn 59 rfl ?_)
      refine t_iinc (i := 3) (n := 1) (ls' := [.ref 159, .int l1, .int l2, .int (l3 + 1), .null, .null, .null]) (by decide +kernel) rfl (Nat.le_of_ble_eq_true rfl) kn_1 rfl (pn 62 rfl ?_)
      refine s_goto (off := -26) (tgt := 36) (by decide +kernel) rfl ?_
      exact h
    refine t_if_ne (off := 7) (tgt := 55) (by decide +kernel) rfl (fun c2 => ?_) (fun c2 => (pn 51 rfl ?_))
    · refine s_ldc_w (by decide +kernel) kc_12_421 (pn 58 rfl ?_)
      exact k1 _ (by simp only [if_neg c2])
    · refine t_iconst (by decide +kernel) ki_0 (pn 52 rfl ?_)
      refine s_goto (off := 6) (tgt := 58) (by decide +kernel) rfl ?_
      exact k1 _ (by simp only [if_pos c2])
theorem sgM_laysOpening_70 {d : Nat} {s : pm_S} {M : pm_M} {l1 : Int32} {l2 : Int32} {l3 : Int32} {l4 : Int32} {Q : Int32 → pm_S → pm_M → Prop}  (h : (((l3 = l2) → Q ((M.1 159 34) + 1) s M) ∧ (¬ (l3 = l2) → wM_laysOpening d 78 [.ref 159, .int l1, .int l2, .int l3, .int l4, .int 0, .null] [] s M Q))) : wM_laysOpening d 70 [.ref 159, .int l1, .int l2, .int l3, .int l4, .null, .null] [] s M Q := by
  refine s_iload_n (i := 3) (by decide +kernel) rfl (pn 71 rfl ?_)
  refine s_iload_n (i := 2) (by decide +kernel) rfl (pn 72 rfl ?_)
  refine s_icmp_eq (off := 89) (tgt := 161) (by decide +kernel) rfl (fun c1 => ?_) (fun c1 => (pn 75 rfl ?_))
  · have h := h.1 c1
    refine s_aload_n (i := 0) (by decide +kernel) rfl (pn 162 rfl ?_)
    refine s_getfield (v := .int (M.1 159 34)) (by decide +kernel) fr_12_425 lq_159 (congrArg Prod.fst sh_159) rfl (pn 165 rfl ?_)
    refine t_iconst (by decide +kernel) ki_1 (pn 166 rfl ?_)
    refine s_iadd (by decide +kernel) (pn 167 rfl ?_)
    exact s_ireturn (st := []) (by decide +kernel) (Or.inl rfl) ⟨_, rfl, s, rfl, h⟩
  · have h := h.2 c1
    refine t_iconst (by decide +kernel) ki_0 (pn 76 rfl ?_)
    refine s_istore (i := 5) (by decide +kernel) (Nat.le_of_ble_eq_true rfl) (pn 78 rfl (t_store (ls' := [.ref 159, .int l1, .int l2, .int l3, .int l4, .int 0, .null]) rfl ?_))
    exact h
theorem sgM_laysOpening_78 {d : Nat} {s : pm_S} {M : pm_M} {l1 : Int32} {l2 : Int32} {l3 : Int32} {l4 : Int32} {l5 : Int32} {Q : Int32 → pm_S → pm_M → Prop}  (h : cI d yM_isIn [.long ((l2 &&& (l3 ^^^ (-1))).toInt64), .int l5] s M (fun r1 s1 M1 => (((r1 = 0) → wM_laysOpening d 78 [.ref 159, .int l1, .int l2, .int l3, .int l4, .int (l5 + 1), .null] [] s1 M1 Q) ∧ (¬ (r1 = 0) → cI d yM_goesThing [.ref 159, .int l1, .int l3, .int l5] s1 M1 (fun r2 s2 M2 => ((r2 = 0 → wM_laysOpening d 78 [.ref 159, .int l1, .int l2, .int l3, .int l4, .int (l5 + 1), .null] [] s2 M2 Q) ∧ (¬ (r2 = 0) → vp_in l4 8 ∧ wM_laysOpening d 128 [.ref 159, .int l1, .int l2, .int (l3 ||| ((1 : Int32) <<< (l5 &&& 31))), .int l4, .null, .int 0] [] s2 (pm_si M2 177 l4.toNatClampNeg l5) Q))))))) : wM_laysOpening d 78 [.ref 159, .int l1, .int l2, .int l3, .int l4, .int l5, .null] [] s M Q := by
  refine s_iload_n (i := 2) (by decide +kernel) rfl (pn 79 rfl ?_)
  refine s_iload_n (i := 3) (by decide +kernel) rfl (pn 80 rfl ?_)
  refine t_iconst (by decide +kernel) ki_m1 (pn 81 rfl ?_)
  refine s_ixor (by decide +kernel) (pn 82 rfl ?_)
  refine s_iand (by decide +kernel) (pn 83 rfl ?_)
  refine s_i2l (by decide +kernel) (pn 84 rfl ?_)
  refine s_iload (i := 5) (by decide +kernel) rfl (pn 86 rfl ?_)
  refine s_callsI [.long ((l2 &&& (l3 ^^^ (-1))).toInt64), .int l5] rfl (by decide +kernel) ms_12_390 np_278 (Nat.le_of_ble_eq_true rfl) (cI_use h (fun r1 s1 M1 h => (pn 89 rfl ?_)))
  refine s_if_eq (off := 14) (tgt := 103) (by decide +kernel) rfl (fun c1 => ?_) (fun c1 => (pn 92 rfl ?_))
  · have h := h.1 c1
    refine t_iinc (i := 5) (n := 1) (ls' := [.ref 159, .int l1, .int l2, .int l3, .int l4, .int (l5 + 1), .null]) (by decide +kernel) rfl (Nat.le_of_ble_eq_true rfl) kn_1 rfl (pn 106 rfl ?_)
    refine s_goto (off := -28) (tgt := 78) (by decide +kernel) rfl ?_
    exact h
  · have h := h.2 c1
    refine s_aload_n (i := 0) (by decide +kernel) rfl (pn 93 rfl ?_)
    refine s_iload_n (i := 1) (by decide +kernel) rfl (pn 94 rfl ?_)
    refine s_iload_n (i := 3) (by decide +kernel) rfl (pn 95 rfl ?_)
    refine s_iload (i := 5) (by decide +kernel) rfl (pn 97 rfl ?_)
    refine s_callvI [.int l1, .int l3, .int l5] rfl (by decide +kernel) mv_12_431 np_295 (Nat.le_of_ble_eq_true rfl) lq_159 ((congrArg Prod.fst sh_159).trans oc_295) (cI_use h (fun r2 s2 M2 h => (pn 100 rfl ?_)))
    refine t_if_ne (off := 9) (tgt := 109) (by decide +kernel) rfl (fun c2 => ?_) (fun c2 => (pn 103 rfl ?_))
    · have h := h.2 c2
      refine s_aload_n (i := 0) (by decide +kernel) rfl (pn 110 rfl ?_)
      refine s_getfield (v := .ref 177) (by decide +kernel) fr_12_72 lq_159 (congrArg Prod.fst sh_159) (fv_ref pf_159_33) (pn 113 rfl ?_)
      refine s_iload (i := 4) (by decide +kernel) rfl (pn 115 rfl ?_)
      refine s_iload (i := 5) (by decide +kernel) rfl (pn 117 rfl ?_)
      obtain ⟨b1, h⟩ := h
      refine t_iastore (k := l4.toNatClampNeg) (by decide +kernel) ⟨lq_177, congrArg Prod.fst sh_177⟩ (al_in sh_177 b1) rfl (pn 118 rfl ?_)
      refine s_iload_n (i := 3) (by decide +kernel) rfl (pn 119 rfl ?_)
      refine t_iconst (by decide +kernel) ki_1 (pn 120 rfl ?_)
      refine s_iload (i := 5) (by decide +kernel) rfl (pn 122 rfl ?_)
      refine s_ishl (by decide +kernel) (pn 123 rfl ?_)
      refine s_ior (by decide +kernel) (pn 124 rfl ?_)
      refine s_istore_n (i := 3) (by decide +kernel) (Nat.le_of_ble_eq_true rfl) (pn 125 rfl (t_store (ls' := [.ref 159, .int l1, .int l2, .int (l3 ||| ((1 : Int32) <<< (l5 &&& 31))), .int l4, .int l5, .null]) rfl ?_))
      refine t_iconst (by decide +kernel) ki_0 (pn 126 rfl ?_)
      refine s_istore (i := 6) (by decide +kernel) (Nat.le_of_ble_eq_true rfl) (pn 128 rfl (t_store (ls' := [.ref 159, .int l1, .int l2, .int (l3 ||| ((1 : Int32) <<< (l5 &&& 31))), .int l4, .int l5, .int 0]) rfl ?_))
      exact pm_weak [.ref 159, .int l1, .int l2, .int (l3 ||| ((1 : Int32) <<< (l5 &&& 31))), .int l4, .null, .int 0] (pm_le_cons (Or.inr rfl) (pm_le_cons (Or.inr rfl) (pm_le_cons (Or.inr rfl) (pm_le_cons (Or.inr rfl) (pm_le_cons (Or.inr rfl) (pm_le_cons (Or.inl rfl) (pm_le_cons (Or.inr rfl) pm_le_nil))))))) h
    · have h := h.1 c2
      refine t_iinc (i := 5) (n := 1) (ls' := [.ref 159, .int l1, .int l2, .int l3, .int l4, .int (l5 + 1), .null]) (by decide +kernel) rfl (Nat.le_of_ble_eq_true rfl) kn_1 rfl (pn 106 rfl ?_)
      refine s_goto (off := -28) (tgt := 78) (by decide +kernel) rfl ?_
      exact h
theorem sgM_laysOpening_128 {d : Nat} {s : pm_S} {M : pm_M} {l1 : Int32} {l2 : Int32} {l3 : Int32} {l4 : Int32} {l6 : Int32} {Q : Int32 → pm_S → pm_M → Prop}  (h : (((99 < l6) → wM_laysOpening d 70 [.ref 159, .int l1, .int l2, .int l3, .int (l4 + 1), .null, .null] [] s M Q) ∧ (¬ (99 < l6) → vp_in l6 100 ∧ vp_in l6 100 ∧ wM_laysOpening d 128 [.ref 159, .int l1, .int l2, .int l3, .int l4, .null, .int (l6 + 1)] [] s (pm_si M 175 l6.toNatClampNeg (M.1 176 l6.toNatClampNeg)) Q))) : wM_laysOpening d 128 [.ref 159, .int l1, .int l2, .int l3, .int l4, .null, .int l6] [] s M Q := by
  refine s_iload (i := 6) (by decide +kernel) rfl (pn 130 rfl ?_)
  refine t_bipush (by decide +kernel) kb_99 (pn 132 rfl ?_)
  refine s_icmp_gt (off := 23) (tgt := 155) (by decide +kernel) rfl (fun c1 => ?_) (fun c1 => (pn 135 rfl ?_))
  · have h := h.1 c1
    refine t_iinc (i := 4) (n := 1) (ls' := [.ref 159, .int l1, .int l2, .int l3, .int (l4 + 1), .null, .int l6]) (by decide +kernel) rfl (Nat.le_of_ble_eq_true rfl) kn_1 rfl (pn 158 rfl ?_)
    refine s_goto (off := -88) (tgt := 70) (by decide +kernel) rfl ?_
    exact pm_weak [.ref 159, .int l1, .int l2, .int l3, .int (l4 + 1), .null, .null] (pm_le_cons (Or.inr rfl) (pm_le_cons (Or.inr rfl) (pm_le_cons (Or.inr rfl) (pm_le_cons (Or.inr rfl) (pm_le_cons (Or.inr rfl) (pm_le_cons (Or.inl rfl) (pm_le_cons (Or.inl rfl) pm_le_nil))))))) h
  · have h := h.2 c1
    refine s_aload_n (i := 0) (by decide +kernel) rfl (pn 136 rfl ?_)
    refine s_getfield (v := .ref 175) (by decide +kernel) fr_12_66 lq_159 (congrArg Prod.fst sh_159) (fv_ref pf_159_31) (pn 139 rfl ?_)
    refine s_iload (i := 6) (by decide +kernel) rfl (pn 141 rfl ?_)
    refine s_aload_n (i := 0) (by decide +kernel) rfl (pn 142 rfl ?_)
    refine s_getfield (v := .ref 176) (by decide +kernel) fr_12_69 lq_159 (congrArg Prod.fst sh_159) (fv_ref pf_159_32) (pn 145 rfl ?_)
    refine s_iload (i := 6) (by decide +kernel) rfl (pn 147 rfl ?_)
    obtain ⟨b1, h⟩ := h
    refine t_iaload (v := M.1 176 l6.toNatClampNeg) (by decide +kernel) ⟨Or.inl lq_176, congrArg Prod.fst sh_176⟩ (al_in sh_176 b1) rfl (pn 148 rfl ?_)
    obtain ⟨b2, h⟩ := h
    refine t_iastore (k := l6.toNatClampNeg) (by decide +kernel) ⟨lq_175, congrArg Prod.fst sh_175⟩ (al_in sh_175 b2) rfl (pn 149 rfl ?_)
    refine t_iinc (i := 6) (n := 1) (ls' := [.ref 159, .int l1, .int l2, .int l3, .int l4, .null, .int (l6 + 1)]) (by decide +kernel) rfl (Nat.le_of_ble_eq_true rfl) kn_1 rfl (pn 152 rfl ?_)
    refine s_goto (off := -24) (tgt := 128) (by decide +kernel) rfl ?_
    exact h
abbrev wM_laysMore (d pc : Nat) (ls st : List Value) (s : pm_S) (M : pm_M) (Q : pm_S → pm_M → Prop) : Prop := wV d prog_14_method_110_code 12 none false pc ls st s M Q
theorem enM_laysMore {d : Nat} {s : pm_S} {M : pm_M} {x1 : Int32} {x2 : Int32} {Q : pm_S → pm_M → Prop}  (h : wM_laysMore d 2 [.ref 159, .int x1, .int x2, .int x2, .null, .null, .null, .null] [] s M Q) : cV (d + 1) yM_laysMore [.ref 159, .int x1, .int x2] s M Q := by
  refine pm_toV (by decide) (Nat.le_of_ble_eq_true rfl) ?_
  show wM_laysMore d 0 [.ref 159, .int x1, .int x2, .null, .null, .null, .null, .null] [] s M Q
  refine s_iload_n (i := 2) (by decide +kernel) rfl (pn 1 rfl ?_)
  refine s_istore_n (i := 3) (by decide +kernel) (Nat.le_of_ble_eq_true rfl) (pn 2 rfl (t_store (ls' := [.ref 159, .int x1, .int x2, .int x2, .null, .null, .null, .null]) rfl ?_))
  exact h
theorem sgM_laysMore_2 {d : Nat} {s : pm_S} {M : pm_M} {l1 : Int32} {l2 : Int32} {l3 : Int32} {Q : pm_S → pm_M → Prop}  (h : (((l3 < 0) → Q s M) ∧ (¬ (l3 < 0) → ((((l3 &&& (l2 ^^^ (-1))) = 0) → wM_laysMore d 34 [.ref 159, .int l1, .int l2, .int l3, .int ((if l3 = l2 then 0 else 268435456) : Int32), .int 0, .null, .null] [] s M Q) ∧ (¬ ((l3 &&& (l2 ^^^ (-1))) = 0) → wM_laysMore d 2 [.ref 159, .int l1, .int l2, .int (l3 + (-1)), .null, .null, .null, .null] [] s M Q))))) : wM_laysMore d 2 [.ref 159, .int l1, .int l2, .int l3, .null, .null, .null, .null] [] s M Q := by
  refine s_iload_n (i := 3) (by decide +kernel) rfl (pn 3 rfl ?_)
  refine s_if_lt (off := 226) (tgt := 229) (by decide +kernel) rfl (fun c1 => ?_) (fun c1 => (pn 6 rfl ?_))
  · have h := h.1 c1
    exact s_return (st := []) (by decide +kernel) rfl ⟨rfl, s, rfl, h⟩
  · have h := h.2 c1
    refine s_iload_n (i := 3) (by decide +kernel) rfl (pn 7 rfl ?_)
    refine s_iload_n (i := 2) (by decide +kernel) rfl (pn 8 rfl ?_)
    refine t_iconst (by decide +kernel) ki_m1 (pn 9 rfl ?_)
    refine s_ixor (by decide +kernel) (pn 10 rfl ?_)
    refine s_iand (by decide +kernel) (pn 11 rfl ?_)
    refine s_if_eq (off := 6) (tgt := 17) (by decide +kernel) rfl (fun c2 => ?_) (fun c2 => (pn 14 rfl ?_))
    · have h := h.1 c2
      refine s_iload_n (i := 3) (by decide +kernel) rfl (pn 18 rfl ?_)
      refine s_iload_n (i := 2) (by decide +kernel) rfl (pn 19 rfl ?_)
      have k1 : ∀ (z1 : Int32) (z1e : z1 = ((if l3 = l2 then 0 else 268435456) : Int32)), wM_laysMore d 29 [.ref 159, .int l1, .int l2, .int l3, .null, .null, .null, .null] [.int z1] s M Q := by
        intro z1 z1e
        subst z1e
        refine s_istore (i := 4) (by decide +kernel) (Nat.le_of_ble_eq_true rfl) (pn 31 rfl (t_store (ls' := [.ref 159, .int l1, .int l2, .int l3, .int ((if l3 = l2 then 0 else 268435456) : Int32), .null, .null, .null]) rfl ?_))
        refine t_iconst (by decide +kernel) ki_0 (pn 32 rfl ?_)
        refine s_istore (i := 5) (by decide +kernel) (Nat.le_of_ble_eq_true rfl) (pn 34 rfl (t_store (ls' := [.ref 159, .int l1, .int l2, .int l3, .int ((if l3 = l2 then 0 else 268435456) : Int32), .int 0, .null, .null]) rfl ?_))
        exact h
      refine t_icmp_ne (off := 7) (tgt := 26) (by decide +kernel) rfl (fun c4 => ?_) (fun c4 => (pn 22 rfl ?_))
      · refine s_ldc_w (by decide +kernel) kc_12_421 (pn 29 rfl ?_)
        exact k1 _ (by simp only [if_neg c4])
      · refine t_iconst (by decide +kernel) ki_0 (pn 23 rfl ?_)
        refine s_goto (off := 6) (tgt := 29) (by decide +kernel) rfl ?_
        exact k1 _ (by simp only [if_pos c4])
    · have h := h.2 c2
      refine s_goto (off := 209) (tgt := 223) (by decide +kernel) rfl ?_
      refine t_iinc (i := 3) (n := -1) (ls' := [.ref 159, .int l1, .int l2, .int (l3 + (-1)), .null, .null, .null, .null]) (by decide +kernel) rfl (Nat.le_of_ble_eq_true rfl) kn_m1 rfl (pn 226 rfl ?_)
      refine s_goto (off := -224) (tgt := 2) (by decide +kernel) rfl ?_
      exact h
theorem sgM_laysMore_34 {d : Nat} {s : pm_S} {M : pm_M} {l1 : Int32} {l2 : Int32} {l3 : Int32} {l4 : Int32} {l5 : Int32} {Q : pm_S → pm_M → Prop}  (h : (((8 ≤ l5) → wM_laysMore d 94 [.ref 159, .int l1, .int l2, .int l3, .int l4, .int 0, .null, .null] [] s M Q) ∧ (¬ (8 ≤ l5) → cI d yM_isIn [.long ((l2 &&& (l3 ^^^ (-1))).toInt64), .int l5] s M (fun r1 s1 M1 => (((r1 = 0) → wM_laysMore d 34 [.ref 159, .int l1, .int l2, .int l3, .int l4, .int (l5 + 1), .null, .null] [] s1 M1 Q) ∧ (¬ (r1 = 0) → cI d yM_moreBy [.ref 159, .int l1, .int l3, .int 0, .int l5] s1 M1 (fun r2 s2 M2 => (((l4 ≤ r2) → wM_laysMore d 34 [.ref 159, .int l1, .int l2, .int l3, .int l4, .int (l5 + 1), .null, .null] [] s2 M2 Q) ∧ (¬ (l4 ≤ r2) → cI d yM_moreBy [.ref 159, .int l1, .int l3, .int 0, .int l5] s2 M2 (fun r3 s3 M3 => wM_laysMore d 34 [.ref 159, .int l1, .int l2, .int l3, .int r3, .int (l5 + 1), .null, .null] [] s3 M3 Q)))))))))) : wM_laysMore d 34 [.ref 159, .int l1, .int l2, .int l3, .int l4, .int l5, .null, .null] [] s M Q := by
  refine s_iload (i := 5) (by decide +kernel) rfl (pn 36 rfl ?_)
  refine t_bipush (by decide +kernel) kb_8 (pn 38 rfl ?_)
  refine s_icmp_ge (off := 53) (tgt := 91) (by decide +kernel) rfl (fun c1 => ?_) (fun c1 => (pn 41 rfl ?_))
  · have h := h.1 c1
    refine t_iconst (by decide +kernel) ki_0 (pn 92 rfl ?_)
    refine s_istore (i := 5) (by decide +kernel) (Nat.le_of_ble_eq_true rfl) (pn 94 rfl (t_store (ls' := [.ref 159, .int l1, .int l2, .int l3, .int l4, .int 0, .null, .null]) rfl ?_))
    exact h
  · have h := h.2 c1
    refine s_iload_n (i := 2) (by decide +kernel) rfl (pn 42 rfl ?_)
    refine s_iload_n (i := 3) (by decide +kernel) rfl (pn 43 rfl ?_)
    refine t_iconst (by decide +kernel) ki_m1 (pn 44 rfl ?_)
    refine s_ixor (by decide +kernel) (pn 45 rfl ?_)
    refine s_iand (by decide +kernel) (pn 46 rfl ?_)
    refine s_i2l (by decide +kernel) (pn 47 rfl ?_)
    refine s_iload (i := 5) (by decide +kernel) rfl (pn 49 rfl ?_)
    refine s_callsI [.long ((l2 &&& (l3 ^^^ (-1))).toInt64), .int l5] rfl (by decide +kernel) ms_12_390 np_278 (Nat.le_of_ble_eq_true rfl) (cI_use h (fun r1 s1 M1 h => (pn 52 rfl ?_)))
    refine s_if_eq (off := 33) (tgt := 85) (by decide +kernel) rfl (fun c2 => ?_) (fun c2 => (pn 55 rfl ?_))
    · have h := h.1 c2
      refine t_iinc (i := 5) (n := 1) (ls' := [.ref 159, .int l1, .int l2, .int l3, .int l4, .int (l5 + 1), .null, .null]) (by decide +kernel) rfl (Nat.le_of_ble_eq_true rfl) kn_1 rfl (pn 88 rfl ?_)
      refine s_goto (off := -54) (tgt := 34) (by decide +kernel) rfl ?_
      exact h
    · have h := h.2 c2
      refine s_aload_n (i := 0) (by decide +kernel) rfl (pn 56 rfl ?_)
      refine s_iload_n (i := 1) (by decide +kernel) rfl (pn 57 rfl ?_)
      refine s_iload_n (i := 3) (by decide +kernel) rfl (pn 58 rfl ?_)
      refine t_iconst (by decide +kernel) ki_0 (pn 59 rfl ?_)
      refine s_iload (i := 5) (by decide +kernel) rfl (pn 61 rfl ?_)
      refine s_callvI [.int l1, .int l3, .int 0, .int l5] rfl (by decide +kernel) mv_12_422 np_294 (Nat.le_of_ble_eq_true rfl) lq_159 ((congrArg Prod.fst sh_159).trans oc_294) (cI_use h (fun r2 s2 M2 h => (pn 64 rfl ?_)))
      refine s_iload (i := 4) (by decide +kernel) rfl (pn 66 rfl ?_)
      refine s_icmp_ge (off := 15) (tgt := 81) (by decide +kernel) rfl (fun c3 => ?_) (fun c3 => (pn 69 rfl ?_))
      · have h := h.1 c3
        refine s_iload (i := 4) (by decide +kernel) rfl (pn 83 rfl ?_)
        refine s_istore (i := 4) (by decide +kernel) (Nat.le_of_ble_eq_true rfl) (pn 85 rfl (t_store (ls' := [.ref 159, .int l1, .int l2, .int l3, .int l4, .int l5, .null, .null]) rfl ?_))
        refine t_iinc (i := 5) (n := 1) (ls' := [.ref 159, .int l1, .int l2, .int l3, .int l4, .int (l5 + 1), .null, .null]) (by decide +kernel) rfl (Nat.le_of_ble_eq_true rfl) kn_1 rfl (pn 88 rfl ?_)
        refine s_goto (off := -54) (tgt := 34) (by decide +kernel) rfl ?_
        exact h
      · have h := h.2 c3
        refine s_aload_n (i := 0) (by decide +kernel) rfl (pn 70 rfl ?_)
        refine s_iload_n (i := 1) (by decide +kernel) rfl (pn 71 rfl ?_)
        refine s_iload_n (i := 3) (by decide +kernel) rfl (pn 72 rfl ?_)
        refine t_iconst (by decide +kernel) ki_0 (pn 73 rfl ?_)
        refine s_iload (i := 5) (by decide +kernel) rfl (pn 75 rfl ?_)
        refine s_callvI [.int l1, .int l3, .int 0, .int l5] rfl (by decide +kernel) mv_12_422 np_294 (Nat.le_of_ble_eq_true rfl) lq_159 ((congrArg Prod.fst sh_159).trans oc_294) (cI_use h (fun r3 s3 M3 h => (pn 78 rfl ?_)))
        refine s_goto (off := 5) (tgt := 83) (by decide +kernel) rfl ?_
        refine s_istore (i := 4) (by decide +kernel) (Nat.le_of_ble_eq_true rfl) (pn 85 rfl (t_store (ls' := [.ref 159, .int l1, .int l2, .int l3, .int r3, .int l5, .null, .null]) rfl ?_))
        refine t_iinc (i := 5) (n := 1) (ls' := [.ref 159, .int l1, .int l2, .int l3, .int r3, .int (l5 + 1), .null, .null]) (by decide +kernel) rfl (Nat.le_of_ble_eq_true rfl) kn_1 rfl (pn 88 rfl ?_)
        refine s_goto (off := -54) (tgt := 34) (by decide +kernel) rfl ?_
        exact h
theorem sgM_laysMore_94 {d : Nat} {s : pm_S} {M : pm_M} {l1 : Int32} {l2 : Int32} {l3 : Int32} {l4 : Int32} {l5 : Int32} {Q : pm_S → pm_M → Prop}  (h : (((99 < l5) → vp_in ((100 : Int32) * l3) 25600 ∧ wM_laysMore d 2 [.ref 159, .int l1, .int l2, .int (l3 + (-1)), .null, .null, .null, .null] [] s (pm_si M 174 ((100 : Int32) * l3).toNatClampNeg l4) Q) ∧ (¬ (99 < l5) → wM_laysMore d 119 [.ref 159, .int l1, .int l2, .int l3, .int l4, .int l5, .int ((if l3 = l2 then 0 else (l4 + 1)) : Int32), .int 0] [] s M Q))) : wM_laysMore d 94 [.ref 159, .int l1, .int l2, .int l3, .int l4, .int l5, .null, .null] [] s M Q := by
  refine s_iload (i := 5) (by decide +kernel) rfl (pn 96 rfl ?_)
  refine t_bipush (by decide +kernel) kb_99 (pn 98 rfl ?_)
  refine s_icmp_gt (off := 114) (tgt := 212) (by decide +kernel) rfl (fun c1 => ?_) (fun c1 => (pn 101 rfl ?_))
  · have h := h.1 c1
    refine s_aload_n (i := 0) (by decide +kernel) rfl (pn 213 rfl ?_)
    refine s_getfield (v := .ref 174) (by decide +kernel) fr_12_63 lq_159 (congrArg Prod.fst sh_159) (fv_ref pf_159_30) (pn 216 rfl ?_)
    refine t_bipush (by decide +kernel) kb_100 (pn 218 rfl ?_)
    refine s_iload_n (i := 3) (by decide +kernel) rfl (pn 219 rfl ?_)
    refine s_imul (by decide +kernel) (pn 220 rfl ?_)
    refine s_iload (i := 4) (by decide +kernel) rfl (pn 222 rfl ?_)
    obtain ⟨b1, h⟩ := h
    refine t_iastore (k := ((100 : Int32) * l3).toNatClampNeg) (by decide +kernel) ⟨lq_174, congrArg Prod.fst sh_174⟩ (al_in sh_174 b1) rfl (pn 223 rfl ?_)
    refine t_iinc (i := 3) (n := -1) (ls' := [.ref 159, .int l1, .int l2, .int (l3 + (-1)), .int l4, .int l5, .null, .null]) (by decide +kernel) rfl (Nat.le_of_ble_eq_true rfl) kn_m1 rfl (pn 226 rfl ?_)
    refine s_goto (off := -224) (tgt := 2) (by decide +kernel) rfl ?_
    exact pm_weak [.ref 159, .int l1, .int l2, .int (l3 + (-1)), .null, .null, .null, .null] (pm_le_cons (Or.inr rfl) (pm_le_cons (Or.inr rfl) (pm_le_cons (Or.inr rfl) (pm_le_cons (Or.inr rfl) (pm_le_cons (Or.inl rfl) (pm_le_cons (Or.inl rfl) (pm_le_cons (Or.inl rfl) (pm_le_cons (Or.inl rfl) pm_le_nil)))))))) h
  · have h := h.2 c1
    refine s_iload_n (i := 3) (by decide +kernel) rfl (pn 102 rfl ?_)
    refine s_iload_n (i := 2) (by decide +kernel) rfl (pn 103 rfl ?_)
    have k1 : ∀ (z1 : Int32) (z1e : z1 = ((if l3 = l2 then 0 else (l4 + 1)) : Int32)), wM_laysMore d 114 [.ref 159, .int l1, .int l2, .int l3, .int l4, .int l5, .null, .null] [.int z1] s M Q := by
      intro z1 z1e
      subst z1e
      refine s_istore (i := 6) (by decide +kernel) (Nat.le_of_ble_eq_true rfl) (pn 116 rfl (t_store (ls' := [.ref 159, .int l1, .int l2, .int l3, .int l4, .int l5, .int ((if l3 = l2 then 0 else (l4 + 1)) : Int32), .null]) rfl ?_))
      refine t_iconst (by decide +kernel) ki_0 (pn 117 rfl ?_)
      refine s_istore (i := 7) (by decide +kernel) (Nat.le_of_ble_eq_true rfl) (pn 119 rfl (t_store (ls' := [.ref 159, .int l1, .int l2, .int l3, .int l4, .int l5, .int ((if l3 = l2 then 0 else (l4 + 1)) : Int32), .int 0]) rfl ?_))
      exact h
    refine t_icmp_ne (off := 7) (tgt := 110) (by decide +kernel) rfl (fun c2 => ?_) (fun c2 => (pn 106 rfl ?_))
    · refine s_iload (i := 4) (by decide +kernel) rfl (pn 112 rfl ?_)
      refine t_iconst (by decide +kernel) ki_1 (pn 113 rfl ?_)
      refine s_iadd (by decide +kernel) (pn 114 rfl ?_)
      exact k1 _ (by simp only [if_neg c2])
    · refine t_iconst (by decide +kernel) ki_0 (pn 107 rfl ?_)
      refine s_goto (off := 7) (tgt := 114) (by decide +kernel) rfl ?_
      exact k1 _ (by simp only [if_pos c2])
theorem sgM_laysMore_119 {d : Nat} {s : pm_S} {M : pm_M} {l1 : Int32} {l2 : Int32} {l3 : Int32} {l4 : Int32} {l5 : Int32} {l6 : Int32} {l7 : Int32} {Q : pm_S → pm_M → Prop}  (h : (((8 ≤ l7) → vp_in (((100 : Int32) * l3) + l5) 25600 ∧ wM_laysMore d 94 [.ref 159, .int l1, .int l2, .int l3, .int l4, .int (l5 + 1), .null, .null] [] s (pm_si M 174 (((100 : Int32) * l3) + l5).toNatClampNeg ((if 268435456 ≤ l6 then 268435456 else l6) : Int32)) Q) ∧ (¬ (8 ≤ l7) → cI d yM_isIn [.long ((l2 &&& (l3 ^^^ (-1))).toInt64), .int l7] s M (fun r1 s1 M1 => (((r1 = 0) → wM_laysMore d 119 [.ref 159, .int l1, .int l2, .int l3, .int l4, .int l5, .int l6, .int (l7 + 1)] [] s1 M1 Q) ∧ (¬ (r1 = 0) → cI d yM_moreBy [.ref 159, .int l1, .int l3, .int l5, .int l7] s1 M1 (fun r2 s2 M2 => (((l6 ≤ r2) → wM_laysMore d 119 [.ref 159, .int l1, .int l2, .int l3, .int l4, .int l5, .int l6, .int (l7 + 1)] [] s2 M2 Q) ∧ (¬ (l6 ≤ r2) → cI d yM_moreBy [.ref 159, .int l1, .int l3, .int l5, .int l7] s2 M2 (fun r3 s3 M3 => wM_laysMore d 119 [.ref 159, .int l1, .int l2, .int l3, .int l4, .int l5, .int r3, .int (l7 + 1)] [] s3 M3 Q)))))))))) : wM_laysMore d 119 [.ref 159, .int l1, .int l2, .int l3, .int l4, .int l5, .int l6, .int l7] [] s M Q := by
  refine s_iload (i := 7) (by decide +kernel) rfl (pn 121 rfl ?_)
  refine t_bipush (by decide +kernel) kb_8 (pn 123 rfl ?_)
  refine s_icmp_ge (off := 55) (tgt := 178) (by decide +kernel) rfl (fun c1 => ?_) (fun c1 => (pn 126 rfl ?_))
  · have h := h.1 c1
    refine s_aload_n (i := 0) (by decide +kernel) rfl (pn 179 rfl ?_)
    refine s_getfield (v := .ref 174) (by decide +kernel) fr_12_63 lq_159 (congrArg Prod.fst sh_159) (fv_ref pf_159_30) (pn 182 rfl ?_)
    refine t_bipush (by decide +kernel) kb_100 (pn 184 rfl ?_)
    refine s_iload_n (i := 3) (by decide +kernel) rfl (pn 185 rfl ?_)
    refine s_imul (by decide +kernel) (pn 186 rfl ?_)
    refine s_iload (i := 5) (by decide +kernel) rfl (pn 188 rfl ?_)
    refine s_iadd (by decide +kernel) (pn 189 rfl ?_)
    refine s_iload (i := 6) (by decide +kernel) rfl (pn 191 rfl ?_)
    refine s_ldc_w (by decide +kernel) kc_12_421 (pn 194 rfl ?_)
    have k1 : ∀ (z1 : Int32) (z1e : z1 = ((if 268435456 ≤ l6 then 268435456 else l6) : Int32)), wM_laysMore d 205 [.ref 159, .int l1, .int l2, .int l3, .int l4, .int l5, .int l6, .int l7] [.int z1, .int (((100 : Int32) * l3) + l5), .ref 174] s M Q := by
      intro z1 z1e
      subst z1e
      obtain ⟨b1, h⟩ := h
      refine t_iastore (k := (((100 : Int32) * l3) + l5).toNatClampNeg) (by decide +kernel) ⟨lq_174, congrArg Prod.fst sh_174⟩ (al_in sh_174 b1) rfl (pn 206 rfl ?_)
      refine t_iinc (i := 5) (n := 1) (ls' := [.ref 159, .int l1, .int l2, .int l3, .int l4, .int (l5 + 1), .int l6, .int l7]) (by decide +kernel) rfl (Nat.le_of_ble_eq_true rfl) kn_1 rfl (pn 209 rfl ?_)
      refine s_goto (off := -115) (tgt := 94) (by decide +kernel) rfl ?_
      exact pm_weak [.ref 159, .int l1, .int l2, .int l3, .int l4, .int (l5 + 1), .null, .null] (pm_le_cons (Or.inr rfl) (pm_le_cons (Or.inr rfl) (pm_le_cons (Or.inr rfl) (pm_le_cons (Or.inr rfl) (pm_le_cons (Or.inr rfl) (pm_le_cons (Or.inr rfl) (pm_le_cons (Or.inl rfl) (pm_le_cons (Or.inl rfl) pm_le_nil)))))))) h
    refine s_icmp_ge (off := 8) (tgt := 202) (by decide +kernel) rfl (fun c2 => ?_) (fun c2 => (pn 197 rfl ?_))
    · refine s_ldc_w (by decide +kernel) kc_12_421 (pn 205 rfl ?_)
      exact k1 _ (by simp only [if_pos c2])
    · refine s_iload (i := 6) (by decide +kernel) rfl (pn 199 rfl ?_)
      refine s_goto (off := 6) (tgt := 205) (by decide +kernel) rfl ?_
      exact k1 _ (by simp only [if_neg c2])
  · have h := h.2 c1
    refine s_iload_n (i := 2) (by decide +kernel) rfl (pn 127 rfl ?_)
    refine s_iload_n (i := 3) (by decide +kernel) rfl (pn 128 rfl ?_)
    refine t_iconst (by decide +kernel) ki_m1 (pn 129 rfl ?_)
    refine s_ixor (by decide +kernel) (pn 130 rfl ?_)
    refine s_iand (by decide +kernel) (pn 131 rfl ?_)
    refine s_i2l (by decide +kernel) (pn 132 rfl ?_)
    refine s_iload (i := 7) (by decide +kernel) rfl (pn 134 rfl ?_)
    refine s_callsI [.long ((l2 &&& (l3 ^^^ (-1))).toInt64), .int l7] rfl (by decide +kernel) ms_12_390 np_278 (Nat.le_of_ble_eq_true rfl) (cI_use h (fun r1 s1 M1 h => (pn 137 rfl ?_)))
    refine s_if_eq (off := 35) (tgt := 172) (by decide +kernel) rfl (fun c3 => ?_) (fun c3 => (pn 140 rfl ?_))
    · have h := h.1 c3
      refine t_iinc (i := 7) (n := 1) (ls' := [.ref 159, .int l1, .int l2, .int l3, .int l4, .int l5, .int l6, .int (l7 + 1)]) (by decide +kernel) rfl (Nat.le_of_ble_eq_true rfl) kn_1 rfl (pn 175 rfl ?_)
      refine s_goto (off := -56) (tgt := 119) (by decide +kernel) rfl ?_
      exact h
    · have h := h.2 c3
      refine s_aload_n (i := 0) (by decide +kernel) rfl (pn 141 rfl ?_)
      refine s_iload_n (i := 1) (by decide +kernel) rfl (pn 142 rfl ?_)
      refine s_iload_n (i := 3) (by decide +kernel) rfl (pn 143 rfl ?_)
      refine s_iload (i := 5) (by decide +kernel) rfl (pn 145 rfl ?_)
      refine s_iload (i := 7) (by decide +kernel) rfl (pn 147 rfl ?_)
      refine s_callvI [.int l1, .int l3, .int l5, .int l7] rfl (by decide +kernel) mv_12_422 np_294 (Nat.le_of_ble_eq_true rfl) lq_159 ((congrArg Prod.fst sh_159).trans oc_294) (cI_use h (fun r2 s2 M2 h => (pn 150 rfl ?_)))
      refine s_iload (i := 6) (by decide +kernel) rfl (pn 152 rfl ?_)
      refine s_icmp_ge (off := 16) (tgt := 168) (by decide +kernel) rfl (fun c4 => ?_) (fun c4 => (pn 155 rfl ?_))
      · have h := h.1 c4
        refine s_iload (i := 6) (by decide +kernel) rfl (pn 170 rfl ?_)
        refine s_istore (i := 6) (by decide +kernel) (Nat.le_of_ble_eq_true rfl) (pn 172 rfl (t_store (ls' := [.ref 159, .int l1, .int l2, .int l3, .int l4, .int l5, .int l6, .int l7]) rfl ?_))
        refine t_iinc (i := 7) (n := 1) (ls' := [.ref 159, .int l1, .int l2, .int l3, .int l4, .int l5, .int l6, .int (l7 + 1)]) (by decide +kernel) rfl (Nat.le_of_ble_eq_true rfl) kn_1 rfl (pn 175 rfl ?_)
        refine s_goto (off := -56) (tgt := 119) (by decide +kernel) rfl ?_
        exact h
      · have h := h.2 c4
        refine s_aload_n (i := 0) (by decide +kernel) rfl (pn 156 rfl ?_)
        refine s_iload_n (i := 1) (by decide +kernel) rfl (pn 157 rfl ?_)
        refine s_iload_n (i := 3) (by decide +kernel) rfl (pn 158 rfl ?_)
        refine s_iload (i := 5) (by decide +kernel) rfl (pn 160 rfl ?_)
        refine s_iload (i := 7) (by decide +kernel) rfl (pn 162 rfl ?_)
        refine s_callvI [.int l1, .int l3, .int l5, .int l7] rfl (by decide +kernel) mv_12_422 np_294 (Nat.le_of_ble_eq_true rfl) lq_159 ((congrArg Prod.fst sh_159).trans oc_294) (cI_use h (fun r3 s3 M3 h => (pn 165 rfl ?_)))
        refine s_goto (off := 5) (tgt := 170) (by decide +kernel) rfl ?_
        refine s_istore (i := 6) (by decide +kernel) (Nat.le_of_ble_eq_true rfl) (pn 172 rfl (t_store (ls' := [.ref 159, .int l1, .int l2, .int l3, .int l4, .int l5, .int r3, .int l7]) rfl ?_))
        refine t_iinc (i := 7) (n := 1) (ls' := [.ref 159, .int l1, .int l2, .int l3, .int l4, .int l5, .int r3, .int (l7 + 1)]) (by decide +kernel) rfl (Nat.le_of_ble_eq_true rfl) kn_1 rfl (pn 175 rfl ?_)
        refine s_goto (off := -56) (tgt := 119) (by decide +kernel) rfl ?_
        exact h
abbrev wM_moreBy (d pc : Nat) (ls st : List Value) (s : pm_S) (M : pm_M) (Q : Int32 → pm_S → pm_M → Prop) : Prop := wI d prog_14_method_109_code 12 (some .int) false pc ls st s M Q
theorem enM_moreBy {d : Nat} {s : pm_S} {M : pm_M} {x1 : Int32} {x2 : Int32} {x3 : Int32} {x4 : Int32} {Q : Int32 → pm_S → pm_M → Prop}  (h : cI d yM_burdenOf [.ref 159, .int x1, .int x4, .int 0, .int x3] s M (fun r1 s1 M1 => vp_in ((41 : Int32) + x1) 3870 ∧ (((x3 + r1) ≤ (M1.1 160 ((41 : Int32) + x1).toNatClampNeg)) → vp_in (((100 : Int32) * (x2 ||| ((1 : Int32) <<< (x4 &&& 31)))) + (x3 + r1)) 25600) ∧ Q ((if (x3 + r1) ≤ (M1.1 160 ((41 : Int32) + x1).toNatClampNeg) then (M1.1 174 (((100 : Int32) * (x2 ||| ((1 : Int32) <<< (x4 &&& 31)))) + (x3 + r1)).toNatClampNeg) else 268435456) : Int32) s1 M1)) : cI (d + 1) yM_moreBy [.ref 159, .int x1, .int x2, .int x3, .int x4] s M Q := by
  refine pm_toI (by decide) (Nat.le_of_ble_eq_true rfl) ?_
  show wM_moreBy d 0 [.ref 159, .int x1, .int x2, .int x3, .int x4, .null] [] s M Q
  refine s_iload_n (i := 3) (by decide +kernel) rfl (pn 1 rfl ?_)
  refine s_aload_n (i := 0) (by decide +kernel) rfl (pn 2 rfl ?_)
  refine s_iload_n (i := 1) (by decide +kernel) rfl (pn 3 rfl ?_)
  refine s_iload (i := 4) (by decide +kernel) rfl (pn 5 rfl ?_)
  refine t_iconst (by decide +kernel) ki_0 (pn 6 rfl ?_)
  refine s_iload_n (i := 3) (by decide +kernel) rfl (pn 7 rfl ?_)
  refine s_callvI [.int x1, .int x4, .int 0, .int x3] rfl (by decide +kernel) mv_12_246 np_227 (Nat.le_of_ble_eq_true rfl) lq_159 ((congrArg Prod.fst sh_159).trans oc_227) (cI_use h (fun r1 s1 M1 h => (pn 10 rfl ?_)))
  refine s_iadd (by decide +kernel) (pn 11 rfl ?_)
  refine s_istore (i := 5) (by decide +kernel) (Nat.le_of_ble_eq_true rfl) (pn 13 rfl (t_store (ls' := [.ref 159, .int x1, .int x2, .int x3, .int x4, .int (x3 + r1)]) rfl ?_))
  refine s_iload (i := 5) (by decide +kernel) rfl (pn 15 rfl ?_)
  refine s_aload_n (i := 0) (by decide +kernel) rfl (pn 16 rfl ?_)
  refine s_getfield (v := .ref 160) (by decide +kernel) fr_12_13 lq_159 (congrArg Prod.fst sh_159) (fv_ref pf_159_1) (pn 19 rfl ?_)
  refine t_bipush (by decide +kernel) kb_41 (pn 21 rfl ?_)
  refine s_iload_n (i := 1) (by decide +kernel) rfl (pn 22 rfl ?_)
  refine s_iadd (by decide +kernel) (pn 23 rfl ?_)
  obtain ⟨b1, h⟩ := h
  refine t_iaload (v := M1.1 160 ((41 : Int32) + x1).toNatClampNeg) (by decide +kernel) ⟨Or.inl lq_160, congrArg Prod.fst sh_160⟩ (al_in sh_160 b1) rfl (pn 24 rfl ?_)
  obtain ⟨b2, h⟩ := h
  have k1 : ∀ (z1 : Int32) (z1e : z1 = ((if (x3 + r1) ≤ (M1.1 160 ((41 : Int32) + x1).toNatClampNeg) then (M1.1 174 (((100 : Int32) * (x2 ||| ((1 : Int32) <<< (x4 &&& 31)))) + (x3 + r1)).toNatClampNeg) else 268435456) : Int32)), wM_moreBy d 50 [.ref 159, .int x1, .int x2, .int x3, .int x4, .int (x3 + r1)] [.int z1] s1 M1 Q := by
    intro z1 z1e
    subst z1e
    exact s_ireturn (st := []) (by decide +kernel) (Or.inl rfl) ⟨_, rfl, s1, rfl, h⟩
  refine s_icmp_le (off := 9) (tgt := 33) (by decide +kernel) rfl (fun c1 => ?_) (fun c1 => (pn 27 rfl ?_))
  · refine s_aload_n (i := 0) (by decide +kernel) rfl (pn 34 rfl ?_)
    refine s_getfield (v := .ref 174) (by decide +kernel) fr_12_63 lq_159 (congrArg Prod.fst sh_159) (fv_ref pf_159_30) (pn 37 rfl ?_)
    refine t_bipush (by decide +kernel) kb_100 (pn 39 rfl ?_)
    refine s_iload_n (i := 2) (by decide +kernel) rfl (pn 40 rfl ?_)
    refine t_iconst (by decide +kernel) ki_1 (pn 41 rfl ?_)
    refine s_iload (i := 4) (by decide +kernel) rfl (pn 43 rfl ?_)
    refine s_ishl (by decide +kernel) (pn 44 rfl ?_)
    refine s_ior (by decide +kernel) (pn 45 rfl ?_)
    refine s_imul (by decide +kernel) (pn 46 rfl ?_)
    refine s_iload (i := 5) (by decide +kernel) rfl (pn 48 rfl ?_)
    refine s_iadd (by decide +kernel) (pn 49 rfl ?_)
    refine t_iaload (v := M1.1 174 (((100 : Int32) * (x2 ||| ((1 : Int32) <<< (x4 &&& 31)))) + (x3 + r1)).toNatClampNeg) (by decide +kernel) ⟨Or.inl lq_174, congrArg Prod.fst sh_174⟩ (al_in sh_174 (b2 c1)) rfl (pn 50 rfl ?_)
    exact k1 _ (by simp only [if_pos c1])
  · refine s_ldc_w (by decide +kernel) kc_12_421 (pn 30 rfl ?_)
    refine s_goto (off := 20) (tgt := 50) (by decide +kernel) rfl ?_
    exact k1 _ (by simp only [if_neg c1])
abbrev wM_goesThing (d pc : Nat) (ls st : List Value) (s : pm_S) (M : pm_M) (Q : Int32 → pm_S → pm_M → Prop) : Prop := wI d prog_14_method_111_code 12 (some .boolean) false pc ls st s M Q
theorem enM_goesThing {d : Nat} {s : pm_S} {M : pm_M} {x1 : Int32} {x2 : Int32} {x3 : Int32} {Q : Int32 → pm_S → pm_M → Prop}  (h : wM_goesThing d 6 [.ref 159, .int x1, .int x2, .int x3, .int 0, .int 0, .null, .null, .null, .null] [] s M Q) : cI (d + 1) yM_goesThing [.ref 159, .int x1, .int x2, .int x3] s M Q := by
  refine pm_toI (by decide) (Nat.le_of_ble_eq_true rfl) ?_
  show wM_goesThing d 0 [.ref 159, .int x1, .int x2, .int x3, .null, .null, .null, .null, .null, .null] [] s M Q
  refine t_iconst (by decide +kernel) ki_0 (pn 1 rfl ?_)
  refine s_istore (i := 4) (by decide +kernel) (Nat.le_of_ble_eq_true rfl) (pn 3 rfl (t_store (ls' := [.ref 159, .int x1, .int x2, .int x3, .int 0, .null, .null, .null, .null, .null]) rfl ?_))
  refine t_iconst (by decide +kernel) ki_0 (pn 4 rfl ?_)
  refine s_istore (i := 5) (by decide +kernel) (Nat.le_of_ble_eq_true rfl) (pn 6 rfl (t_store (ls' := [.ref 159, .int x1, .int x2, .int x3, .int 0, .int 0, .null, .null, .null, .null]) rfl ?_))
  exact h
theorem sgM_goesThing_6 {d : Nat} {s : pm_S} {M : pm_M} {l1 : Int32} {l2 : Int32} {l3 : Int32} {l4 : Int32} {l5 : Int32} {Q : Int32 → pm_S → pm_M → Prop}  (h : (((99 < l5) → wM_goesThing d 32 [.ref 159, .int l1, .int l2, .int l3, .int l4, .int 0, .null, .null, .null, .null] [] s M Q) ∧ (¬ (99 < l5) → vp_in l5 100 ∧ wM_goesThing d 6 [.ref 159, .int l1, .int l2, .int l3, .int l4, .int (l5 + 1), .null, .null, .null, .null] [] s (pm_si M 176 l5.toNatClampNeg 268435456) Q))) : wM_goesThing d 6 [.ref 159, .int l1, .int l2, .int l3, .int l4, .int l5, .null, .null, .null, .null] [] s M Q := by
  refine s_iload (i := 5) (by decide +kernel) rfl (pn 8 rfl ?_)
  refine t_bipush (by decide +kernel) kb_99 (pn 10 rfl ?_)
  refine s_icmp_gt (off := 19) (tgt := 29) (by decide +kernel) rfl (fun c1 => ?_) (fun c1 => (pn 13 rfl ?_))
  · have h := h.1 c1
    refine t_iconst (by decide +kernel) ki_0 (pn 30 rfl ?_)
    refine s_istore (i := 5) (by decide +kernel) (Nat.le_of_ble_eq_true rfl) (pn 32 rfl (t_store (ls' := [.ref 159, .int l1, .int l2, .int l3, .int l4, .int 0, .null, .null, .null, .null]) rfl ?_))
    exact h
  · have h := h.2 c1
    refine s_aload_n (i := 0) (by decide +kernel) rfl (pn 14 rfl ?_)
    refine s_getfield (v := .ref 176) (by decide +kernel) fr_12_69 lq_159 (congrArg Prod.fst sh_159) (fv_ref pf_159_32) (pn 17 rfl ?_)
    refine s_iload (i := 5) (by decide +kernel) rfl (pn 19 rfl ?_)
    refine s_ldc_w (by decide +kernel) kc_12_421 (pn 22 rfl ?_)
    obtain ⟨b1, h⟩ := h
    refine t_iastore (k := l5.toNatClampNeg) (by decide +kernel) ⟨lq_176, congrArg Prod.fst sh_176⟩ (al_in sh_176 b1) rfl (pn 23 rfl ?_)
    refine t_iinc (i := 5) (n := 1) (ls' := [.ref 159, .int l1, .int l2, .int l3, .int l4, .int (l5 + 1), .null, .null, .null, .null]) (by decide +kernel) rfl (Nat.le_of_ble_eq_true rfl) kn_1 rfl (pn 26 rfl ?_)
    refine s_goto (off := -20) (tgt := 6) (by decide +kernel) rfl ?_
    exact h
theorem sgM_goesThing_32 {d : Nat} {s : pm_S} {M : pm_M} {l1 : Int32} {l2 : Int32} {l3 : Int32} {l4 : Int32} {l5 : Int32} {Q : Int32 → pm_S → pm_M → Prop}  (h : (((99 < l5) → (l4 = 0 ∨ l4 = 1) ∧ Q l4 s M) ∧ (¬ (99 < l5) → vp_in l5 100 ∧ ((((M.1 175 l5.toNatClampNeg) < 268435456) → wM_goesThing d 58 [.ref 159, .int l1, .int l2, .int l3, .int l4, .int l5, .int 0, .null, .null, .null] [] s M Q) ∧ (¬ ((M.1 175 l5.toNatClampNeg) < 268435456) → wM_goesThing d 32 [.ref 159, .int l1, .int l2, .int l3, .int l4, .int (l5 + 1), .null, .null, .null, .null] [] s M Q))))) : wM_goesThing d 32 [.ref 159, .int l1, .int l2, .int l3, .int l4, .int l5, .null, .null, .null, .null] [] s M Q := by
  refine s_iload (i := 5) (by decide +kernel) rfl (pn 34 rfl ?_)
  refine t_bipush (by decide +kernel) kb_99 (pn 36 rfl ?_)
  refine s_icmp_gt (off := 150) (tgt := 186) (by decide +kernel) rfl (fun c1 => ?_) (fun c1 => (pn 39 rfl ?_))
  · have h := h.1 c1
    refine s_iload (i := 4) (by decide +kernel) rfl (pn 188 rfl ?_)
    obtain ⟨b1, h⟩ := h
    exact s_ireturn (st := []) (by decide +kernel) (Or.inr ⟨rfl, b1⟩) ⟨_, rfl, s, rfl, h⟩
  · have h := h.2 c1
    refine s_aload_n (i := 0) (by decide +kernel) rfl (pn 40 rfl ?_)
    refine s_getfield (v := .ref 175) (by decide +kernel) fr_12_66 lq_159 (congrArg Prod.fst sh_159) (fv_ref pf_159_31) (pn 43 rfl ?_)
    refine s_iload (i := 5) (by decide +kernel) rfl (pn 45 rfl ?_)
    obtain ⟨b2, h⟩ := h
    refine t_iaload (v := M.1 175 l5.toNatClampNeg) (by decide +kernel) ⟨Or.inl lq_175, congrArg Prod.fst sh_175⟩ (al_in sh_175 b2) rfl (pn 46 rfl ?_)
    refine s_ldc_w (by decide +kernel) kc_12_421 (pn 49 rfl ?_)
    refine s_icmp_lt (off := 6) (tgt := 55) (by decide +kernel) rfl (fun c2 => ?_) (fun c2 => (pn 52 rfl ?_))
    · have h := h.1 c2
      refine t_iconst (by decide +kernel) ki_0 (pn 56 rfl ?_)
      refine s_istore (i := 6) (by decide +kernel) (Nat.le_of_ble_eq_true rfl) (pn 58 rfl (t_store (ls' := [.ref 159, .int l1, .int l2, .int l3, .int l4, .int l5, .int 0, .null, .null, .null]) rfl ?_))
      exact h
    · have h := h.2 c2
      refine s_goto (off := 128) (tgt := 180) (by decide +kernel) rfl ?_
      refine t_iinc (i := 5) (n := 1) (ls' := [.ref 159, .int l1, .int l2, .int l3, .int l4, .int (l5 + 1), .null, .null, .null, .null]) (by decide +kernel) rfl (Nat.le_of_ble_eq_true rfl) kn_1 rfl (pn 183 rfl ?_)
      refine s_goto (off := -151) (tgt := 32) (by decide +kernel) rfl ?_
      exact h
theorem sgM_goesThing_58 {d : Nat} {s : pm_S} {M : pm_M} {l1 : Int32} {l2 : Int32} {l3 : Int32} {l4 : Int32} {l5 : Int32} {l6 : Int32} {Q : Int32 → pm_S → pm_M → Prop}  (h : (((2 ≤ l6) → wM_goesThing d 32 [.ref 159, .int l1, .int l2, .int l3, .int l4, .int (l5 + 1), .null, .null, .null, .null] [] s M Q) ∧ (¬ (2 ≤ l6) → wM_goesThing d 75 [.ref 159, .int l1, .int l2, .int l3, .int l4, .int l5, .int l6, .null, .null, .null] [.int ((if l6 = 0 then l5 else 0) : Int32)] s M Q))) : wM_goesThing d 58 [.ref 159, .int l1, .int l2, .int l3, .int l4, .int l5, .int l6, .null, .null, .null] [] s M Q := by
  refine s_iload (i := 6) (by decide +kernel) rfl (pn 60 rfl ?_)
  refine t_iconst (by decide +kernel) ki_2 (pn 61 rfl ?_)
  refine s_icmp_ge (off := 119) (tgt := 180) (by decide +kernel) rfl (fun c1 => ?_) (fun c1 => (pn 64 rfl ?_))
  · have h := h.1 c1
    refine t_iinc (i := 5) (n := 1) (ls' := [.ref 159, .int l1, .int l2, .int l3, .int l4, .int (l5 + 1), .int l6, .null, .null, .null]) (by decide +kernel) rfl (Nat.le_of_ble_eq_true rfl) kn_1 rfl (pn 183 rfl ?_)
    refine s_goto (off := -151) (tgt := 32) (by decide +kernel) rfl ?_
    exact pm_weak [.ref 159, .int l1, .int l2, .int l3, .int l4, .int (l5 + 1), .null, .null, .null, .null] (pm_le_cons (Or.inr rfl) (pm_le_cons (Or.inr rfl) (pm_le_cons (Or.inr rfl) (pm_le_cons (Or.inr rfl) (pm_le_cons (Or.inr rfl) (pm_le_cons (Or.inr rfl) (pm_le_cons (Or.inl rfl) (pm_le_cons (Or.inl rfl) (pm_le_cons (Or.inl rfl) (pm_le_cons (Or.inl rfl) pm_le_nil)))))))))) h
  · have h := h.2 c1
    refine s_iload (i := 6) (by decide +kernel) rfl (pn 66 rfl ?_)
    have k1 : ∀ (z1 : Int32) (z1e : z1 = ((if l6 = 0 then l5 else 0) : Int32)), wM_goesThing d 75 [.ref 159, .int l1, .int l2, .int l3, .int l4, .int l5, .int l6, .null, .null, .null] [.int z1] s M Q := by
      intro z1 z1e
      subst z1e
      exact h
    refine t_if_ne (off := 8) (tgt := 74) (by decide +kernel) rfl (fun c3 => ?_) (fun c3 => (pn 69 rfl ?_))
    · refine t_iconst (by decide +kernel) ki_0 (pn 75 rfl ?_)
      exact k1 _ (by simp only [if_neg c3])
    · refine s_iload (i := 5) (by decide +kernel) rfl (pn 71 rfl ?_)
      refine s_goto (off := 4) (tgt := 75) (by decide +kernel) rfl ?_
      exact k1 _ (by simp only [if_pos c3])
theorem sgM_goesThing_75 {d : Nat} {s : pm_S} {M : pm_M} {l1 : Int32} {l2 : Int32} {l3 : Int32} {l4 : Int32} {l5 : Int32} {l6 : Int32} {t0 : Int32} {Q : Int32 → pm_S → pm_M → Prop}  (h : vp_in l5 100 ∧ cI d yM_moreBy [.ref 159, .int l1, .int l2, .int t0, .int l3] s M (fun r1 s1 M1 => (((268435456 ≤ r1) → wM_goesThing d 58 [.ref 159, .int l1, .int l2, .int l3, .int l4, .int l5, .int (l6 + 1), .null, .null, .null] [] s1 M1 Q) ∧ (¬ (268435456 ≤ r1) → cI d yM_moreBy [.ref 159, .int l1, .int l2, .int t0, .int l3] s1 M1 (fun r2 s2 M2 => ((((((M.1 175 l5.toNatClampNeg) + l6) + r2) = (M2.1 159 34)) → cI d yM_burdenOf [.ref 159, .int l1, .int l3, .int 0, .int t0] s2 M2 (fun r3 s3 M3 => vp_in (t0 + r3) 100 ∧ (((M3.1 176 (t0 + r3).toNatClampNeg) ≤ ((M.1 175 l5.toNatClampNeg) + l6)) → vp_in (t0 + r3) 100) ∧ vp_in (t0 + r3) 100 ∧ wM_goesThing d 58 [.ref 159, .int l1, .int l2, .int l3, .int 1, .int l5, .int (l6 + 1), .null, .null, .null] [] s3 (pm_si M3 176 (t0 + r3).toNatClampNeg ((if (M3.1 176 (t0 + r3).toNatClampNeg) ≤ ((M.1 175 l5.toNatClampNeg) + l6) then (M3.1 176 (t0 + r3).toNatClampNeg) else ((M.1 175 l5.toNatClampNeg) + l6)) : Int32)) Q)) ∧ (¬ ((((M.1 175 l5.toNatClampNeg) + l6) + r2) = (M2.1 159 34)) → wM_goesThing d 58 [.ref 159, .int l1, .int l2, .int l3, .int l4, .int l5, .int (l6 + 1), .null, .null, .null] [] s2 M2 Q))))))) : wM_goesThing d 75 [.ref 159, .int l1, .int l2, .int l3, .int l4, .int l5, .int l6, .null, .null, .null] [.int t0] s M Q := by
  refine s_istore (i := 7) (by decide +kernel) (Nat.le_of_ble_eq_true rfl) (pn 77 rfl (t_store (ls' := [.ref 159, .int l1, .int l2, .int l3, .int l4, .int l5, .int l6, .int t0, .null, .null]) rfl ?_))
  refine s_aload_n (i := 0) (by decide +kernel) rfl (pn 78 rfl ?_)
  refine s_getfield (v := .ref 175) (by decide +kernel) fr_12_66 lq_159 (congrArg Prod.fst sh_159) (fv_ref pf_159_31) (pn 81 rfl ?_)
  refine s_iload (i := 5) (by decide +kernel) rfl (pn 83 rfl ?_)
  obtain ⟨b1, h⟩ := h
  refine t_iaload (v := M.1 175 l5.toNatClampNeg) (by decide +kernel) ⟨Or.inl lq_175, congrArg Prod.fst sh_175⟩ (al_in sh_175 b1) rfl (pn 84 rfl ?_)
  refine s_iload (i := 6) (by decide +kernel) rfl (pn 86 rfl ?_)
  refine s_iadd (by decide +kernel) (pn 87 rfl ?_)
  refine s_istore (i := 8) (by decide +kernel) (Nat.le_of_ble_eq_true rfl) (pn 89 rfl (t_store (ls' := [.ref 159, .int l1, .int l2, .int l3, .int l4, .int l5, .int l6, .int t0, .int ((M.1 175 l5.toNatClampNeg) + l6), .null]) rfl ?_))
  refine s_aload_n (i := 0) (by decide +kernel) rfl (pn 90 rfl ?_)
  refine s_iload_n (i := 1) (by decide +kernel) rfl (pn 91 rfl ?_)
  refine s_iload_n (i := 2) (by decide +kernel) rfl (pn 92 rfl ?_)
  refine s_iload (i := 7) (by decide +kernel) rfl (pn 94 rfl ?_)
  refine s_iload_n (i := 3) (by decide +kernel) rfl (pn 95 rfl ?_)
  refine s_callvI [.int l1, .int l2, .int t0, .int l3] rfl (by decide +kernel) mv_12_422 np_294 (Nat.le_of_ble_eq_true rfl) lq_159 ((congrArg Prod.fst sh_159).trans oc_294) (cI_use h (fun r1 s1 M1 h => (pn 98 rfl ?_)))
  refine s_ldc_w (by decide +kernel) kc_12_421 (pn 101 rfl ?_)
  refine s_icmp_ge (off := 73) (tgt := 174) (by decide +kernel) rfl (fun c1 => ?_) (fun c1 => (pn 104 rfl ?_))
  · have h := h.1 c1
    refine t_iinc (i := 6) (n := 1) (ls' := [.ref 159, .int l1, .int l2, .int l3, .int l4, .int l5, .int (l6 + 1), .int t0, .int ((M.1 175 l5.toNatClampNeg) + l6), .null]) (by decide +kernel) rfl (Nat.le_of_ble_eq_true rfl) kn_1 rfl (pn 177 rfl ?_)
    refine s_goto (off := -119) (tgt := 58) (by decide +kernel) rfl ?_
    exact pm_weak [.ref 159, .int l1, .int l2, .int l3, .int l4, .int l5, .int (l6 + 1), .null, .null, .null] (pm_le_cons (Or.inr rfl) (pm_le_cons (Or.inr rfl) (pm_le_cons (Or.inr rfl) (pm_le_cons (Or.inr rfl) (pm_le_cons (Or.inr rfl) (pm_le_cons (Or.inr rfl) (pm_le_cons (Or.inr rfl) (pm_le_cons (Or.inl rfl) (pm_le_cons (Or.inl rfl) (pm_le_cons (Or.inl rfl) pm_le_nil)))))))))) h
  · have h := h.2 c1
    refine s_iload (i := 8) (by decide +kernel) rfl (pn 106 rfl ?_)
    refine s_aload_n (i := 0) (by decide +kernel) rfl (pn 107 rfl ?_)
    refine s_iload_n (i := 1) (by decide +kernel) rfl (pn 108 rfl ?_)
    refine s_iload_n (i := 2) (by decide +kernel) rfl (pn 109 rfl ?_)
    refine s_iload (i := 7) (by decide +kernel) rfl (pn 111 rfl ?_)
    refine s_iload_n (i := 3) (by decide +kernel) rfl (pn 112 rfl ?_)
    refine s_callvI [.int l1, .int l2, .int t0, .int l3] rfl (by decide +kernel) mv_12_422 np_294 (Nat.le_of_ble_eq_true rfl) lq_159 ((congrArg Prod.fst sh_159).trans oc_294) (cI_use h (fun r2 s2 M2 h => (pn 115 rfl ?_)))
    refine s_iadd (by decide +kernel) (pn 116 rfl ?_)
    refine s_aload_n (i := 0) (by decide +kernel) rfl (pn 117 rfl ?_)
    refine s_getfield (v := .int (M2.1 159 34)) (by decide +kernel) fr_12_425 lq_159 (congrArg Prod.fst sh_159) rfl (pn 120 rfl ?_)
    refine s_icmp_eq (off := 6) (tgt := 126) (by decide +kernel) rfl (fun c2 => ?_) (fun c2 => (pn 123 rfl ?_))
    · have h := h.1 c2
      refine s_iload (i := 7) (by decide +kernel) rfl (pn 128 rfl ?_)
      refine s_aload_n (i := 0) (by decide +kernel) rfl (pn 129 rfl ?_)
      refine s_iload_n (i := 1) (by decide +kernel) rfl (pn 130 rfl ?_)
      refine s_iload_n (i := 3) (by decide +kernel) rfl (pn 131 rfl ?_)
      refine t_iconst (by decide +kernel) ki_0 (pn 132 rfl ?_)
      refine s_iload (i := 7) (by decide +kernel) rfl (pn 134 rfl ?_)
      refine s_callvI [.int l1, .int l3, .int 0, .int t0] rfl (by decide +kernel) mv_12_246 np_227 (Nat.le_of_ble_eq_true rfl) lq_159 ((congrArg Prod.fst sh_159).trans oc_227) (cI_use h (fun r3 s3 M3 h => (pn 137 rfl ?_)))
      refine s_iadd (by decide +kernel) (pn 138 rfl ?_)
      refine s_istore (i := 9) (by decide +kernel) (Nat.le_of_ble_eq_true rfl) (pn 140 rfl (t_store (ls' := [.ref 159, .int l1, .int l2, .int l3, .int l4, .int l5, .int l6, .int t0, .int ((M.1 175 l5.toNatClampNeg) + l6), .int (t0 + r3)]) rfl ?_))
      refine s_aload_n (i := 0) (by decide +kernel) rfl (pn 141 rfl ?_)
      refine s_getfield (v := .ref 176) (by decide +kernel) fr_12_69 lq_159 (congrArg Prod.fst sh_159) (fv_ref pf_159_32) (pn 144 rfl ?_)
      refine s_iload (i := 9) (by decide +kernel) rfl (pn 146 rfl ?_)
      refine s_iload (i := 8) (by decide +kernel) rfl (pn 148 rfl ?_)
      refine s_aload_n (i := 0) (by decide +kernel) rfl (pn 149 rfl ?_)
      refine s_getfield (v := .ref 176) (by decide +kernel) fr_12_69 lq_159 (congrArg Prod.fst sh_159) (fv_ref pf_159_32) (pn 152 rfl ?_)
      refine s_iload (i := 9) (by decide +kernel) rfl (pn 154 rfl ?_)
      obtain ⟨b2, h⟩ := h
      refine t_iaload (v := M3.1 176 (t0 + r3).toNatClampNeg) (by decide +kernel) ⟨Or.inl lq_176, congrArg Prod.fst sh_176⟩ (al_in sh_176 b2) rfl (pn 155 rfl ?_)
      obtain ⟨b3, h⟩ := h
      have k1 : ∀ (z1 : Int32) (z1e : z1 = ((if (M3.1 176 (t0 + r3).toNatClampNeg) ≤ ((M.1 175 l5.toNatClampNeg) + l6) then (M3.1 176 (t0 + r3).toNatClampNeg) else ((M.1 175 l5.toNatClampNeg) + l6)) : Int32)), wM_goesThing d 170 [.ref 159, .int l1, .int l2, .int l3, .int l4, .int l5, .int l6, .int t0, .int ((M.1 175 l5.toNatClampNeg) + l6), .int (t0 + r3)] [.int z1, .int (t0 + r3), .ref 176] s3 M3 Q := by
        intro z1 z1e
        subst z1e
        obtain ⟨b4, h⟩ := h
        refine t_iastore (k := (t0 + r3).toNatClampNeg) (by decide +kernel) ⟨lq_176, congrArg Prod.fst sh_176⟩ (al_in sh_176 b4) rfl (pn 171 rfl ?_)
        refine t_iconst (by decide +kernel) ki_1 (pn 172 rfl ?_)
        refine s_istore (i := 4) (by decide +kernel) (Nat.le_of_ble_eq_true rfl) (pn 174 rfl (t_store (ls' := [.ref 159, .int l1, .int l2, .int l3, .int 1, .int l5, .int l6, .int t0, .int ((M.1 175 l5.toNatClampNeg) + l6), .int (t0 + r3)]) rfl ?_))
        refine t_iinc (i := 6) (n := 1) (ls' := [.ref 159, .int l1, .int l2, .int l3, .int 1, .int l5, .int (l6 + 1), .int t0, .int ((M.1 175 l5.toNatClampNeg) + l6), .int (t0 + r3)]) (by decide +kernel) rfl (Nat.le_of_ble_eq_true rfl) kn_1 rfl (pn 177 rfl ?_)
        refine s_goto (off := -119) (tgt := 58) (by decide +kernel) rfl ?_
        exact pm_weak [.ref 159, .int l1, .int l2, .int l3, .int 1, .int l5, .int (l6 + 1), .null, .null, .null] (pm_le_cons (Or.inr rfl) (pm_le_cons (Or.inr rfl) (pm_le_cons (Or.inr rfl) (pm_le_cons (Or.inr rfl) (pm_le_cons (Or.inr rfl) (pm_le_cons (Or.inr rfl) (pm_le_cons (Or.inr rfl) (pm_le_cons (Or.inl rfl) (pm_le_cons (Or.inl rfl) (pm_le_cons (Or.inl rfl) pm_le_nil)))))))))) h
      refine s_icmp_ge (off := 8) (tgt := 163) (by decide +kernel) rfl (fun c3 => ?_) (fun c3 => (pn 158 rfl ?_))
      · refine s_aload_n (i := 0) (by decide +kernel) rfl (pn 164 rfl ?_)
        refine s_getfield (v := .ref 176) (by decide +kernel) fr_12_69 lq_159 (congrArg Prod.fst sh_159) (fv_ref pf_159_32) (pn 167 rfl ?_)
        refine s_iload (i := 9) (by decide +kernel) rfl (pn 169 rfl ?_)
        refine t_iaload (v := M3.1 176 (t0 + r3).toNatClampNeg) (by decide +kernel) ⟨Or.inl lq_176, congrArg Prod.fst sh_176⟩ (al_in sh_176 (b3 c3)) rfl (pn 170 rfl ?_)
        exact k1 _ (by simp only [if_pos c3])
      · refine s_iload (i := 8) (by decide +kernel) rfl (pn 160 rfl ?_)
        refine s_goto (off := 10) (tgt := 170) (by decide +kernel) rfl ?_
        exact k1 _ (by simp only [if_neg c3])
    · have h := h.2 c2
      refine s_goto (off := 51) (tgt := 174) (by decide +kernel) rfl ?_
      refine t_iinc (i := 6) (n := 1) (ls' := [.ref 159, .int l1, .int l2, .int l3, .int l4, .int l5, .int (l6 + 1), .int t0, .int ((M.1 175 l5.toNatClampNeg) + l6), .null]) (by decide +kernel) rfl (Nat.le_of_ble_eq_true rfl) kn_1 rfl (pn 177 rfl ?_)
      refine s_goto (off := -119) (tgt := 58) (by decide +kernel) rfl ?_
      exact pm_weak [.ref 159, .int l1, .int l2, .int l3, .int l4, .int l5, .int (l6 + 1), .null, .null, .null] (pm_le_cons (Or.inr rfl) (pm_le_cons (Or.inr rfl) (pm_le_cons (Or.inr rfl) (pm_le_cons (Or.inr rfl) (pm_le_cons (Or.inr rfl) (pm_le_cons (Or.inr rfl) (pm_le_cons (Or.inr rfl) (pm_le_cons (Or.inl rfl) (pm_le_cons (Or.inl rfl) (pm_le_cons (Or.inl rfl) pm_le_nil)))))))))) h
abbrev wM_openedBy (d pc : Nat) (ls st : List Value) (s : pm_S) (M : pm_M) (Q : Int32 → pm_S → pm_M → Prop) : Prop := wI d prog_14_method_114_code 12 (some .int) false pc ls st s M Q
theorem enM_openedBy {d : Nat} {s : pm_S} {M : pm_M} {x1 : Int32} {x2 : Int32} {x3 : Int32} {Q : Int32 → pm_S → pm_M → Prop}  (h : cI d yM_isPerson [.ref 159, .long (x1.toInt64)] s (pm_si M 159 0 0) (fun r1 s1 M1 => ((r1 = 0 → Q (-2) s1 M1) ∧ (¬ (r1 = 0) → cI d yM_isSet [.ref 159, .int x2] s1 M1 (fun r2 s2 M2 => (((r2 = 0) → Q (-3) s2 M2) ∧ (¬ (r2 = 0) → (((0 ≤ x3) → cI d yM_laysOpening [.ref 159, .int x1, .int x2] s2 M2 (fun r3 s3 M3 => (((r3 = (-1)) → Q (-1) s3 M3) ∧ (¬ (r3 = (-1)) → cI d yM_bitsOf [.int x2] s3 M3 (fun r4 s4 M4 => ((x3 < r4) → vp_in x3 8) ∧ Q ((if x3 < r4 then (M4.1 177 x3.toNatClampNeg) else (-1)) : Int32) s4 M4))))) ∧ (¬ (0 ≤ x3) → Q (-3) s2 M2))))))))) : cI (d + 1) yM_openedBy [.ref 159, .int x1, .int x2, .int x3] s M Q := by
  refine pm_toI (by decide) (Nat.le_of_ble_eq_true rfl) ?_
  show wM_openedBy d 0 [.ref 159, .int x1, .int x2, .int x3] [] s M Q
  refine s_aload_n (i := 0) (by decide +kernel) rfl (pn 1 rfl ?_)
  refine t_iconst (by decide +kernel) ki_0 (pn 2 rfl ?_)
  refine s_putfieldI (by decide +kernel) fr_12_1 lq_159 (congrArg Prod.fst sh_159) (fun q => by cases q) (Or.inl rfl) (pn 5 rfl ?_)
  refine s_aload_n (i := 0) (by decide +kernel) rfl (pn 6 rfl ?_)
  refine s_iload_n (i := 1) (by decide +kernel) rfl (pn 7 rfl ?_)
  refine s_i2l (by decide +kernel) (pn 8 rfl ?_)
  refine s_callvI [.long (x1.toInt64)] rfl (by decide +kernel) mv_12_231 np_219 (Nat.le_of_ble_eq_true rfl) lq_159 ((congrArg Prod.fst sh_159).trans oc_219) (cI_use h (fun r1 s1 M1 h => (pn 11 rfl ?_)))
  refine t_if_ne (off := 6) (tgt := 17) (by decide +kernel) rfl (fun c1 => ?_) (fun c1 => (pn 14 rfl ?_))
  · have h := h.2 c1
    refine s_aload_n (i := 0) (by decide +kernel) rfl (pn 18 rfl ?_)
    refine s_iload_n (i := 2) (by decide +kernel) rfl (pn 19 rfl ?_)
    refine s_callvI [.int x2] rfl (by decide +kernel) mv_12_435 np_291 (Nat.le_of_ble_eq_true rfl) lq_159 ((congrArg Prod.fst sh_159).trans oc_291) (cI_use h (fun r2 s2 M2 h => (pn 22 rfl ?_)))
    refine s_if_eq (off := 7) (tgt := 29) (by decide +kernel) rfl (fun c2 => ?_) (fun c2 => (pn 25 rfl ?_))
    · have h := h.1 c2
      refine t_bipush (by decide +kernel) kb_m3 (pn 31 rfl ?_)
      exact s_ireturn (st := []) (by decide +kernel) (Or.inl rfl) ⟨_, rfl, s2, rfl, h⟩
    · have h := h.2 c2
      refine s_iload_n (i := 3) (by decide +kernel) rfl (pn 26 rfl ?_)
      refine s_if_ge (off := 6) (tgt := 32) (by decide +kernel) rfl (fun c3 => ?_) (fun c3 => (pn 29 rfl ?_))
      · have h := h.1 c3
        refine s_aload_n (i := 0) (by decide +kernel) rfl (pn 33 rfl ?_)
        refine s_iload_n (i := 1) (by decide +kernel) rfl (pn 34 rfl ?_)
        refine s_iload_n (i := 2) (by decide +kernel) rfl (pn 35 rfl ?_)
        refine s_callvI [.int x1, .int x2] rfl (by decide +kernel) mv_12_438 np_292 (Nat.le_of_ble_eq_true rfl) lq_159 ((congrArg Prod.fst sh_159).trans oc_292) (cI_use h (fun r3 s3 M3 h => (pn 38 rfl ?_)))
        refine t_iconst (by decide +kernel) ki_m1 (pn 39 rfl ?_)
        refine s_icmp_eq (off := 11) (tgt := 50) (by decide +kernel) rfl (fun c4 => ?_) (fun c4 => (pn 42 rfl ?_))
        · have h := h.1 c4
          refine t_iconst (by decide +kernel) ki_m1 (pn 51 rfl ?_)
          refine s_goto (off := 9) (tgt := 60) (by decide +kernel) rfl ?_
          exact s_ireturn (st := []) (by decide +kernel) (Or.inl rfl) ⟨_, rfl, s3, rfl, h⟩
        · have h := h.2 c4
          refine s_iload_n (i := 3) (by decide +kernel) rfl (pn 43 rfl ?_)
          refine s_iload_n (i := 2) (by decide +kernel) rfl (pn 44 rfl ?_)
          refine s_callsI [.int x2] rfl (by decide +kernel) ms_12_297 np_237 (Nat.le_of_ble_eq_true rfl) (cI_use h (fun r4 s4 M4 h => (pn 47 rfl ?_)))
          obtain ⟨b1, h⟩ := h
          have k1 : ∀ (z1 : Int32) (z1e : z1 = ((if x3 < r4 then (M4.1 177 x3.toNatClampNeg) else (-1)) : Int32)), wM_openedBy d 60 [.ref 159, .int x1, .int x2, .int x3] [.int z1] s4 M4 Q := by
            intro z1 z1e
            subst z1e
            exact s_ireturn (st := []) (by decide +kernel) (Or.inl rfl) ⟨_, rfl, s4, rfl, h⟩
          refine s_icmp_lt (off := 7) (tgt := 54) (by decide +kernel) rfl (fun c5 => ?_) (fun c5 => (pn 50 rfl ?_))
          · refine s_aload_n (i := 0) (by decide +kernel) rfl (pn 55 rfl ?_)
            refine s_getfield (v := .ref 177) (by decide +kernel) fr_12_72 lq_159 (congrArg Prod.fst sh_159) (fv_ref pf_159_33) (pn 58 rfl ?_)
            refine s_iload_n (i := 3) (by decide +kernel) rfl (pn 59 rfl ?_)
            refine t_iaload (v := M4.1 177 x3.toNatClampNeg) (by decide +kernel) ⟨Or.inl lq_177, congrArg Prod.fst sh_177⟩ (al_in sh_177 (b1 c5)) rfl (pn 60 rfl ?_)
            exact k1 _ (by simp only [if_pos c5])
          · refine t_iconst (by decide +kernel) ki_m1 (pn 51 rfl ?_)
            refine s_goto (off := 9) (tgt := 60) (by decide +kernel) rfl ?_
            exact k1 _ (by simp only [if_neg c5])
      · have h := h.2 c3
        refine t_bipush (by decide +kernel) kb_m3 (pn 31 rfl ?_)
        exact s_ireturn (st := []) (by decide +kernel) (Or.inl rfl) ⟨_, rfl, s2, rfl, h⟩
  · have h := h.1 c1
    refine t_bipush (by decide +kernel) kb_m2 (pn 16 rfl ?_)
    exact s_ireturn (st := []) (by decide +kernel) (Or.inl rfl) ⟨_, rfl, s1, rfl, h⟩
