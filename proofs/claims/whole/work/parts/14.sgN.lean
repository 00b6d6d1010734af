abbrev wN_begin (d pc : Nat) (ls st : List Value) (s : pm_S) (M : pm_M) (Q : pm_S → pm_M → Prop) : Prop := wV d prog_7_method_2_code 5 none false pc ls st s M Q
theorem enN_begin {d : Nat} {s : pm_S} {M : pm_M} {x3 : Int32} {Q : pm_S → pm_M → Prop}  (h : cI d yS_markOf [.ref 27, .int x3] (s.1, s.2.1, s.2.2.1, some 15, s.2.2.2.2.1, s.2.2.2.2.2) (pm_si M 58 7 x3) (fun r1 s1 M1 => cI d yL_hasPerson [.ref 15, .int x3] s1 (pm_si M1 58 6 r1) (fun r2 s2 M2 => (((r2 = 0) → wN_begin d 43 [.ref 58, .null, .null, .null] [.int 0, .ref 58] s2 M2 Q) ∧ (¬ (r2 = 0) → vp_in x3 6 ∧ cI d ymath_min [.int (M2.1 22 x3.toNatClampNeg), .int 99] s2 M2 (fun r3 s3 M3 => wN_begin d 43 [.ref 58, .null, .null, .null] [.int r3, .ref 58] s3 M3 Q)))))) : cV (d + 1) yN_begin [.ref 58, .ref 15, .ref 27, .int x3] s M Q := by
  refine pm_toV (by decide) (Nat.le_of_ble_eq_true rfl) ?_
  show wN_begin d 0 [.ref 58, .ref 15, .ref 27, .int x3] [] s M Q
  refine s_aload_n (i := 0) (by decide +kernel) rfl (pn 1 rfl ?_)
  refine s_aload_n (i := 1) (by decide +kernel) rfl (pn 2 rfl ?_)
  refine s_putfieldA (by decide +kernel) fr_5_27 lq_58 (congrArg Prod.fst sh_58) (fun q => by cases q) rfl (pn 5 rfl (sp_58_5 (s' := (s.1, s.2.1, s.2.2.1, some 15, s.2.2.2.2.1, s.2.2.2.2.2)) rfl ?_))
  refine s_aload_n (i := 0) (by decide +kernel) rfl (pn 6 rfl ?_)
  refine s_iload_n (i := 3) (by decide +kernel) rfl (pn 7 rfl ?_)
  refine s_putfieldI (by decide +kernel) fr_5_31 lq_58 (congrArg Prod.fst sh_58) (fun q => by cases q) (Or.inl rfl) (pn 10 rfl ?_)
  refine s_aload_n (i := 0) (by decide +kernel) rfl (pn 11 rfl ?_)
  refine s_aload_n (i := 2) (by decide +kernel) rfl (pn 12 rfl ?_)
  refine s_iload_n (i := 3) (by decide +kernel) rfl (pn 13 rfl ?_)
  refine s_callvI [.int x3] rfl (by decide +kernel) mv_5_35 np_90 (Nat.le_of_ble_eq_true rfl) lq_27 ((congrArg Prod.fst sh_27).trans oc_90) (cI_use h (fun r1 s1 M1 h => (pn 16 rfl ?_)))
  refine s_putfieldI (by decide +kernel) fr_5_41 lq_58 (congrArg Prod.fst sh_58) (fun q => by cases q) (Or.inl rfl) (pn 19 rfl ?_)
  refine s_aload_n (i := 0) (by decide +kernel) rfl (pn 20 rfl ?_)
  refine s_aload_n (i := 1) (by decide +kernel) rfl (pn 21 rfl ?_)
  refine s_iload_n (i := 3) (by decide +kernel) rfl (pn 22 rfl ?_)
  refine s_callvI [.int x3] rfl (by decide +kernel) mv_5_44 np_31 (Nat.le_of_ble_eq_true rfl) lq_15 ((congrArg Prod.fst sh_15).trans oc_31) (cI_use h (fun r2 s2 M2 h => (pn 25 rfl ?_)))
  refine s_if_eq (off := 17) (tgt := 42) (by decide +kernel) rfl (fun c1 => ?_) (fun c1 => (pn 28 rfl ?_))
  · have h := h.1 c1
    refine t_iconst (by decide +kernel) ki_0 (pn 43 rfl ?_)
    exact pm_weak [.ref 58, .null, .null, .null] (pm_le_cons (Or.inr rfl) (pm_le_cons (Or.inl rfl) (pm_le_cons (Or.inl rfl) (pm_le_cons (Or.inl rfl) pm_le_nil)))) h
  · have h := h.2 c1
    refine s_aload_n (i := 1) (by decide +kernel) rfl (pn 29 rfl ?_)
    refine s_getfield (v := .ref 22) (by decide +kernel) fr_5_50 lq_15 (congrArg Prod.fst sh_15) (fv_ref pf_15_11) (pn 32 rfl ?_)
    refine s_iload_n (i := 3) (by decide +kernel) rfl (pn 33 rfl ?_)
    obtain ⟨b1, h⟩ := h
    refine t_iaload (v := M2.1 22 x3.toNatClampNeg) (by decide +kernel) ⟨Or.inl lq_22, congrArg Prod.fst sh_22⟩ (al_in sh_22 b1) rfl (pn 34 rfl ?_)
    refine t_bipush (by decide +kernel) kb_99 (pn 36 rfl ?_)
    refine s_callsI [.int (M2.1 22 x3.toNatClampNeg), .int 99] rfl (by decide +kernel) ms_5_53 np_323 (Nat.le_of_ble_eq_true rfl) (cI_use h (fun r3 s3 M3 h => (pn 39 rfl ?_)))
    refine s_goto (off := 4) (tgt := 43) (by decide +kernel) rfl ?_
    exact pm_weak [.ref 58, .null, .null, .null] (pm_le_cons (Or.inr rfl) (pm_le_cons (Or.inl rfl) (pm_le_cons (Or.inl rfl) (pm_le_cons (Or.inl rfl) pm_le_nil)))) h
theorem sgN_begin_43 {d : Nat} {s : pm_S} {M : pm_M} {t0 : Int32} {Q : pm_S → pm_M → Prop}  (h : cV d yarr_fill_IIII [.ref 60, .int 0, .int ((t0 + 1) * 32), .int 0] s (pm_si M 58 8 t0) (fun s1 M1 => cV d yarr_fill_II [.ref 61, .int (-1)] s1 M1 (fun s2 M2 => Q s2 M2))) : wN_begin d 43 [.ref 58, .null, .null, .null] [.int t0, .ref 58] s M Q := by
  refine s_putfieldI (by decide +kernel) fr_5_59 lq_58 (congrArg Prod.fst sh_58) (fun q => by cases q) (Or.inl rfl) (pn 46 rfl ?_)
  refine s_aload_n (i := 0) (by decide +kernel) rfl (pn 47 rfl ?_)
  refine s_getfield (v := .ref 60) (by decide +kernel) fr_5_15 lq_58 (congrArg Prod.fst sh_58) (fv_ref pf_58_1) (pn 50 rfl ?_)
  refine t_iconst (by decide +kernel) ki_0 (pn 51 rfl ?_)
  refine s_aload_n (i := 0) (by decide +kernel) rfl (pn 52 rfl ?_)
  refine s_getfield (v := .int t0) (by decide +kernel) fr_5_59 lq_58 (congrArg Prod.fst sh_58) rfl (pn 55 rfl ?_)
  refine t_iconst (by decide +kernel) ki_1 (pn 56 rfl ?_)
  refine s_iadd (by decide +kernel) (pn 57 rfl ?_)
  refine t_bipush (by decide +kernel) kb_32 (pn 59 rfl ?_)
  refine s_imul (by decide +kernel) (pn 60 rfl ?_)
  refine t_iconst (by decide +kernel) ki_0 (pn 61 rfl ?_)
  refine s_callsV [.ref 60, .int 0, .int ((t0 + 1) * 32), .int 0] rfl (by decide +kernel) ms_5_61 np_327 (Nat.le_of_ble_eq_true rfl) (cV_use h (fun s1 M1 h => (pn 64 rfl ?_)))
  refine s_aload_n (i := 0) (by decide +kernel) rfl (pn 65 rfl ?_)
  refine s_getfield (v := .ref 61) (by decide +kernel) fr_5_18 lq_58 (congrArg Prod.fst sh_58) (fv_ref pf_58_2) (pn 68 rfl ?_)
  refine t_iconst (by decide +kernel) ki_m1 (pn 69 rfl ?_)
  refine s_callsV [.ref 61, .int (-1)] rfl (by decide +kernel) ms_5_67 np_326 (Nat.le_of_ble_eq_true rfl) (cV_use h (fun s2 M2 h => (pn 72 rfl ?_)))
  exact s_return (st := []) (by decide +kernel) rfl ⟨rfl, s2, rfl, h⟩
abbrev wN_fewestDays (d pc : Nat) (ls st : List Value) (s : pm_S) (M : pm_M) (Q : Int32 → pm_S → pm_M → Prop) : Prop := wI d prog_7_method_3_code 5 (some .int) false pc ls st s M Q
theorem enN_fewestDays {d : Nat} {s : pm_S} {M : pm_M} {x1 : Int32} {Q : Int32 → pm_S → pm_M → Prop}  (h : ((x1 = 0 → Q 0 s M) ∧ (¬ (x1 = 0) → cI d yN_furtherDays [.ref 58, .int x1, .int 0, .int 0] s M (fun r1 s1 M1 => Q ((if r1 < 14 then ((1 : Int32) + r1) else (-1)) : Int32) s1 M1)))) : cI (d + 1) yN_fewestDays [.ref 58, .int x1] s M Q := by
  refine pm_toI (by decide) (Nat.le_of_ble_eq_true rfl) ?_
  show wN_fewestDays d 0 [.ref 58, .int x1, .null] [] s M Q
  refine s_iload_n (i := 1) (by decide +kernel) rfl (pn 1 rfl ?_)
  refine t_if_ne (off := 5) (tgt := 6) (by decide +kernel) rfl (fun c1 => ?_) (fun c1 => (pn 4 rfl ?_))
  · have h := h.2 c1
    refine s_aload_n (i := 0) (by decide +kernel) rfl (pn 7 rfl ?_)
    refine s_iload_n (i := 1) (by decide +kernel) rfl (pn 8 rfl ?_)
    refine t_iconst (by decide +kernel) ki_0 (pn 9 rfl ?_)
    refine t_iconst (by decide +kernel) ki_0 (pn 10 rfl ?_)
    refine s_callvI [.int x1, .int 0, .int 0] rfl (by decide +kernel) mv_5_70 np_46 (Nat.le_of_ble_eq_true rfl) lq_58 ((congrArg Prod.fst sh_58).trans oc_46) (cI_use h (fun r1 s1 M1 h => (pn 13 rfl ?_)))
    refine s_istore_n (i := 2) (by decide +kernel) (Nat.le_of_ble_eq_true rfl) (pn 14 rfl (t_store (ls' := [.ref 58, .int x1, .int r1]) rfl ?_))
    refine s_iload_n (i := 2) (by decide +kernel) rfl (pn 15 rfl ?_)
    refine t_bipush (by decide +kernel) kb_14 (pn 17 rfl ?_)
    have k1 : ∀ (z1 : Int32) (z1e : z1 = ((if r1 < 14 then ((1 : Int32) + r1) else (-1)) : Int32)), wN_fewestDays d 27 [.ref 58, .int x1, .int r1] [.int z1] s1 M1 Q := by
      intro z1 z1e
      subst z1e
      exact s_ireturn (st := []) (by decide +kernel) (Or.inl rfl) ⟨_, rfl, s1, rfl, h⟩
    refine s_icmp_lt (off := 7) (tgt := 24) (by decide +kernel) rfl (fun c2 => ?_) (fun c2 => (pn 20 rfl ?_))
    · refine t_iconst (by decide +kernel) ki_1 (pn 25 rfl ?_)
      refine s_iload_n (i := 2) (by decide +kernel) rfl (pn 26 rfl ?_)
      refine s_iadd (by decide +kernel) (pn 27 rfl ?_)
      exact k1 _ (by simp only [if_pos c2])
    · refine t_iconst (by decide +kernel) ki_m1 (pn 21 rfl ?_)
      refine s_goto (off := 6) (tgt := 27) (by decide +kernel) rfl ?_
      exact k1 _ (by simp only [if_neg c2])
  · have h := h.1 c1
    refine t_iconst (by decide +kernel) ki_0 (pn 5 rfl ?_)
    exact s_ireturn (st := []) (by decide +kernel) (Or.inl rfl) ⟨_, rfl, s, rfl, h⟩
abbrev wN_furtherDays (d pc : Nat) (ls st : List Value) (s : pm_S) (M : pm_M) (Q : Int32 → pm_S → pm_M → Prop) : Prop := wI d prog_7_method_8_code 5 (some .int) false pc ls st s M Q
theorem enN_furtherDays {d : Nat} {s : pm_S} {M : pm_M} {x1 : Int32} {x2 : Int32} {x3 : Int32} {Q : Int32 → pm_S → pm_M → Prop}  (h : (((x1 ≤ 0) → Q 0 s M) ∧ (¬ (x1 ≤ 0) → (((x1 < 256) → (((x2 < 0) → Q 14 s M) ∧ (¬ (x2 < 0) → ((((M.1 58 8) < x2) → Q 14 s M) ∧ (¬ ((M.1 58 8) < x2) → (((x3 ≤ 18) → vp_in ((x2 * 32) + (x1 >>> ((3 : Int32) &&& 31))) 3200 ∧ (∀ v1 : Int32, v1 = (((M.1 60 ((x2 * 32) + (x1 >>> ((3 : Int32) &&& 31))).toNatClampNeg).toUInt32 >>> (((x1 &&& 7) * 4).toUInt32 &&& Int32.toUInt32 31)).toInt32) &&& 15 → (((v1 = 0) → (((x2 ≤ 0) → wN_furtherDays d 107 [.ref 58, .int x1, .int x2, .int x3, .int ((x2 * 32) + (x1 >>> ((3 : Int32) &&& 31))), .int ((x1 &&& 7) * 4), .null, .int 14, .int 0, .null] [] s M Q) ∧ (¬ (x2 ≤ 0) → cI d yN_furtherDays [.ref 58, .int x1, .int 0, .int (x3 + 1)] s M (fun r1 s1 M1 => cI d ymath_min [.int 14, .int ((1 : Int32) + r1)] s1 M1 (fun r2 s2 M2 => wN_furtherDays d 107 [.ref 58, .int x1, .int x2, .int x3, .int ((x2 * 32) + (x1 >>> ((3 : Int32) &&& 31))), .int ((x1 &&& 7) * 4), .null, .int r2, .int 0, .null] [] s2 M2 Q))))) ∧ (¬ (v1 = 0) → Q (v1 - 1) s M)))) ∧ (¬ (x3 ≤ 18) → Q 14 s M))))))) ∧ (¬ (x1 < 256) → Q 0 s M))))) : cI (d + 1) yN_furtherDays [.ref 58, .int x1, .int x2, .int x3] s M Q := by
  refine pm_toI (by decide) (Nat.le_of_ble_eq_true rfl) ?_
  show wN_furtherDays d 0 [.ref 58, .int x1, .int x2, .int x3, .null, .null, .null, .null, .null, .null] [] s M Q
  refine s_iload_n (i := 1) (by decide +kernel) rfl (pn 1 rfl ?_)
  refine s_if_le (off := 10) (tgt := 11) (by decide +kernel) rfl (fun c1 => ?_) (fun c1 => (pn 4 rfl ?_))
  · have h := h.1 c1
    refine t_iconst (by decide +kernel) ki_0 (pn 12 rfl ?_)
    exact s_ireturn (st := []) (by decide +kernel) (Or.inl rfl) ⟨_, rfl, s, rfl, h⟩
  · have h := h.2 c1
    refine s_iload_n (i := 1) (by decide +kernel) rfl (pn 5 rfl ?_)
    refine t_sipush (by decide +kernel) ks_256 (pn 8 rfl ?_)
    refine s_icmp_lt (off := 5) (tgt := 13) (by decide +kernel) rfl (fun c2 => ?_) (fun c2 => (pn 11 rfl ?_))
    · have h := h.1 c2
      refine s_iload_n (i := 2) (by decide +kernel) rfl (pn 14 rfl ?_)
      refine s_if_lt (off := 17) (tgt := 31) (by decide +kernel) rfl (fun c3 => ?_) (fun c3 => (pn 17 rfl ?_))
      · have h := h.1 c3
        refine t_bipush (by decide +kernel) kb_14 (pn 33 rfl ?_)
        exact s_ireturn (st := []) (by decide +kernel) (Or.inl rfl) ⟨_, rfl, s, rfl, h⟩
      · have h := h.2 c3
        refine s_iload_n (i := 2) (by decide +kernel) rfl (pn 18 rfl ?_)
        refine s_aload_n (i := 0) (by decide +kernel) rfl (pn 19 rfl ?_)
        refine s_getfield (v := .int (M.1 58 8)) (by decide +kernel) fr_5_59 lq_58 (congrArg Prod.fst sh_58) rfl (pn 22 rfl ?_)
        refine s_icmp_gt (off := 9) (tgt := 31) (by decide +kernel) rfl (fun c4 => ?_) (fun c4 => (pn 25 rfl ?_))
        · have h := h.1 c4
          refine t_bipush (by decide +kernel) kb_14 (pn 33 rfl ?_)
          exact s_ireturn (st := []) (by decide +kernel) (Or.inl rfl) ⟨_, rfl, s, rfl, h⟩
        · have h := h.2 c4
          refine s_iload_n (i := 3) (by decide +kernel) rfl (pn 26 rfl ?_)
          refine t_bipush (by decide +kernel) kb_18 (pn 28 rfl ?_)
          refine s_icmp_le (off := 6) (tgt := 34) (by decide +kernel) rfl (fun c5 => ?_) (fun c5 => (pn 31 rfl ?_))
          · have h := h.1 c5
            refine s_iload_n (i := 2) (by decide +kernel) rfl (pn 35 rfl ?_)
            refine t_bipush (by decide +kernel) kb_32 (pn 37 rfl ?_)
            refine s_imul (by decide +kernel) (pn 38 rfl ?_)
            refine s_iload_n (i := 1) (by decide +kernel) rfl (pn 39 rfl ?_)
            refine t_iconst (by decide +kernel) ki_3 (pn 40 rfl ?_)
            refine s_ishr (by decide +kernel) (pn 41 rfl ?_)
            refine s_iadd (by decide +kernel) (pn 42 rfl ?_)
            refine s_istore (i := 4) (by decide +kernel) (Nat.le_of_ble_eq_true rfl) (pn 44 rfl (t_store (ls' := [.ref 58, .int x1, .int x2, .int x3, .int ((x2 * 32) + (x1 >>> ((3 : Int32) &&& 31))), .null, .null, .null, .null, .null]) rfl ?_))
            refine s_iload_n (i := 1) (by decide +kernel) rfl (pn 45 rfl ?_)
            refine t_bipush (by decide +kernel) kb_7 (pn 47 rfl ?_)
            refine s_iand (by decide +kernel) (pn 48 rfl ?_)
            refine t_iconst (by decide +kernel) ki_4 (pn 49 rfl ?_)
            refine s_imul (by decide +kernel) (pn 50 rfl ?_)
            refine s_istore (i := 5) (by decide +kernel) (Nat.le_of_ble_eq_true rfl) (pn 52 rfl (t_store (ls' := [.ref 58, .int x1, .int x2, .int x3, .int ((x2 * 32) + (x1 >>> ((3 : Int32) &&& 31))), .int ((x1 &&& 7) * 4), .null, .null, .null, .null]) rfl ?_))
            refine s_aload_n (i := 0) (by decide +kernel) rfl (pn 53 rfl ?_)
            refine s_getfield (v := .ref 60) (by decide +kernel) fr_5_15 lq_58 (congrArg Prod.fst sh_58) (fv_ref pf_58_1) (pn 56 rfl ?_)
            refine s_iload (i := 4) (by decide +kernel) rfl (pn 58 rfl ?_)
            obtain ⟨b1, h⟩ := h
            refine t_iaload (v := M.1 60 ((x2 * 32) + (x1 >>> ((3 : Int32) &&& 31))).toNatClampNeg) (by decide +kernel) ⟨Or.inl lq_60, congrArg Prod.fst sh_60⟩ (al_in sh_60 b1) rfl (pn 59 rfl ?_)
            refine s_iload (i := 5) (by decide +kernel) rfl (pn 61 rfl ?_)
            refine s_iushr (by decide +kernel) (pn 62 rfl ?_)
            refine t_bipush (by decide +kernel) kb_15 (pn 64 rfl ?_)
            refine s_iand (by decide +kernel) (pn 65 rfl ?_)
            obtain ⟨v1, ev1⟩ : ∃ zz : Int32, zz = (((M.1 60 ((x2 * 32) + (x1 >>> ((3 : Int32) &&& 31))).toNatClampNeg).toUInt32 >>> (((x1 &&& 7) * 4).toUInt32 &&& Int32.toUInt32 31)).toInt32) &&& 15 := ⟨_, rfl⟩
            have h := h v1 ev1
            rw [← ev1]
            refine s_istore (i := 6) (by decide +kernel) (Nat.le_of_ble_eq_true rfl) (pn 67 rfl (t_store (ls' := [.ref 58, .int x1, .int x2, .int x3, .int ((x2 * 32) + (x1 >>> ((3 : Int32) &&& 31))), .int ((x1 &&& 7) * 4), .int v1, .null, .null, .null]) rfl ?_))
            refine s_iload (i := 6) (by decide +kernel) rfl (pn 69 rfl ?_)
            refine s_if_eq (off := 8) (tgt := 77) (by decide +kernel) rfl (fun c6 => ?_) (fun c6 => (pn 72 rfl ?_))
            · have h := h.1 c6
              refine s_iload_n (i := 2) (by decide +kernel) rfl (pn 78 rfl ?_)
              refine s_if_le (off := 22) (tgt := 100) (by decide +kernel) rfl (fun c7 => ?_) (fun c7 => (pn 81 rfl ?_))
              · have h := h.1 c7
                refine t_bipush (by decide +kernel) kb_14 (pn 102 rfl ?_)
                refine s_istore (i := 7) (by decide +kernel) (Nat.le_of_ble_eq_true rfl) (pn 104 rfl (t_store (ls' := [.ref 58, .int x1, .int x2, .int x3, .int ((x2 * 32) + (x1 >>> ((3 : Int32) &&& 31))), .int ((x1 &&& 7) * 4), .int v1, .int 14, .null, .null]) rfl ?_))
                refine t_iconst (by decide +kernel) ki_0 (pn 105 rfl ?_)
                refine s_istore (i := 8) (by decide +kernel) (Nat.le_of_ble_eq_true rfl) (pn 107 rfl (t_store (ls' := [.ref 58, .int x1, .int x2, .int x3, .int ((x2 * 32) + (x1 >>> ((3 : Int32) &&& 31))), .int ((x1 &&& 7) * 4), .int v1, .int 14, .int 0, .null]) rfl ?_))
                exact pm_weak [.ref 58, .int x1, .int x2, .int x3, .int ((x2 * 32) + (x1 >>> ((3 : Int32) &&& 31))), .int ((x1 &&& 7) * 4), .null, .int 14, .int 0, .null] (pm_le_cons (Or.inr rfl) (pm_le_cons (Or.inr rfl) (pm_le_cons (Or.inr rfl) (pm_le_cons (Or.inr rfl) (pm_le_cons (Or.inr rfl) (pm_le_cons (Or.inr rfl) (pm_le_cons (Or.inl rfl) (pm_le_cons (Or.inr rfl) (pm_le_cons (Or.inr rfl) (pm_le_cons (Or.inl rfl) pm_le_nil)))))))))) h
              · have h := h.2 c7
                refine t_bipush (by decide +kernel) kb_14 (pn 83 rfl ?_)
                refine t_iconst (by decide +kernel) ki_1 (pn 84 rfl ?_)
                refine s_aload_n (i := 0) (by decide +kernel) rfl (pn 85 rfl ?_)
                refine s_iload_n (i := 1) (by decide +kernel) rfl (pn 86 rfl ?_)
                refine t_iconst (by decide +kernel) ki_0 (pn 87 rfl ?_)
                refine s_iload_n (i := 3) (by decide +kernel) rfl (pn 88 rfl ?_)
                refine t_iconst (by decide +kernel) ki_1 (pn 89 rfl ?_)
                refine s_iadd (by decide +kernel) (pn 90 rfl ?_)
                refine s_callvI [.int x1, .int 0, .int (x3 + 1)] rfl (by decide +kernel) mv_5_70 np_46 (Nat.le_of_ble_eq_true rfl) lq_58 ((congrArg Prod.fst sh_58).trans oc_46) (cI_use h (fun r1 s1 M1 h => (pn 93 rfl ?_)))
                refine s_iadd (by decide +kernel) (pn 94 rfl ?_)
                refine s_callsI [.int 14, .int ((1 : Int32) + r1)] rfl (by decide +kernel) ms_5_53 np_323 (Nat.le_of_ble_eq_true rfl) (cI_use h (fun r2 s2 M2 h => (pn 97 rfl ?_)))
                refine s_goto (off := 5) (tgt := 102) (by decide +kernel) rfl ?_
                refine s_istore (i := 7) (by decide +kernel) (Nat.le_of_ble_eq_true rfl) (pn 104 rfl (t_store (ls' := [.ref 58, .int x1, .int x2, .int x3, .int ((x2 * 32) + (x1 >>> ((3 : Int32) &&& 31))), .int ((x1 &&& 7) * 4), .int v1, .int r2, .null, .null]) rfl ?_))
                refine t_iconst (by decide +kernel) ki_0 (pn 105 rfl ?_)
                refine s_istore (i := 8) (by decide +kernel) (Nat.le_of_ble_eq_true rfl) (pn 107 rfl (t_store (ls' := [.ref 58, .int x1, .int x2, .int x3, .int ((x2 * 32) + (x1 >>> ((3 : Int32) &&& 31))), .int ((x1 &&& 7) * 4), .int v1, .int r2, .int 0, .null]) rfl ?_))
                exact pm_weak [.ref 58, .int x1, .int x2, .int x3, .int ((x2 * 32) + (x1 >>> ((3 : Int32) &&& 31))), .int ((x1 &&& 7) * 4), .null, .int r2, .int 0, .null] (pm_le_cons (Or.inr rfl) (pm_le_cons (Or.inr rfl) (pm_le_cons (Or.inr rfl) (pm_le_cons (Or.inr rfl) (pm_le_cons (Or.inr rfl) (pm_le_cons (Or.inr rfl) (pm_le_cons (Or.inl rfl) (pm_le_cons (Or.inr rfl) (pm_le_cons (Or.inr rfl) (pm_le_cons (Or.inl rfl) pm_le_nil)))))))))) h
            · have h := h.2 c6
              refine s_iload (i := 6) (by decide +kernel) rfl (pn 74 rfl ?_)
              refine t_iconst (by decide +kernel) ki_1 (pn 75 rfl ?_)
              refine s_isub (by decide +kernel) (pn 76 rfl ?_)
              exact s_ireturn (st := []) (by decide +kernel) (Or.inl rfl) ⟨_, rfl, s, rfl, h⟩
          · have h := h.2 c5
            refine t_bipush (by decide +kernel) kb_14 (pn 33 rfl ?_)
            exact s_ireturn (st := []) (by decide +kernel) (Or.inl rfl) ⟨_, rfl, s, rfl, h⟩
    · have h := h.2 c2
      refine t_iconst (by decide +kernel) ki_0 (pn 12 rfl ?_)
      exact s_ireturn (st := []) (by decide +kernel) (Or.inl rfl) ⟨_, rfl, s, rfl, h⟩
theorem sgN_furtherDays_107 {d : Nat} {s : pm_S} {M : pm_M} {l1 : Int32} {l2 : Int32} {l3 : Int32} {l4 : Int32} {l5 : Int32} {l7 : Int32} {l8 : Int32} {Q : Int32 → pm_S → pm_M → Prop}  (h : (((8 ≤ l8) → vp_in l4 3200 ∧ vp_in l4 3200 ∧ Q l7 s (pm_si M 60 l4.toNatClampNeg ((M.1 60 l4.toNatClampNeg) ||| ((l7 + 1) <<< (l5 &&& 31))))) ∧ (¬ (8 ≤ l8) → (((l7 ≤ 0) → vp_in l4 3200 ∧ vp_in l4 3200 ∧ Q l7 s (pm_si M 60 l4.toNatClampNeg ((M.1 60 l4.toNatClampNeg) ||| ((l7 + 1) <<< (l5 &&& 31))))) ∧ (¬ (l7 ≤ 0) → ((((l1 >>> (l8 &&& 31)) &&& 1) = 1 → cI d yN_burdenAt [.ref 58, .int l8, .int l2] s M (fun r1 s1 M1 => ((((M1.1 58 8) < (l2 + r1)) → wN_furtherDays d 107 [.ref 58, .int l1, .int l2, .int l3, .int l4, .int l5, .null, .int l7, .int (l8 + 1), .null] [] s1 M1 Q) ∧ (¬ ((M1.1 58 8) < (l2 + r1)) → cI d yN_furtherDays [.ref 58, .int (l1 ^^^ ((1 : Int32) <<< (l8 &&& 31))), .int (l2 + r1), .int (l3 + 1)] s1 M1 (fun r2 s2 M2 => cI d ymath_min [.int l7, .int r2] s2 M2 (fun r3 s3 M3 => wN_furtherDays d 107 [.ref 58, .int l1, .int l2, .int l3, .int l4, .int l5, .null, .int r3, .int (l8 + 1), .null] [] s3 M3 Q)))))) ∧ (¬ (((l1 >>> (l8 &&& 31)) &&& 1) = 1) → wN_furtherDays d 107 [.ref 58, .int l1, .int l2, .int l3, .int l4, .int l5, .null, .int l7, .int (l8 + 1), .null] [] s M Q))))))) : wN_furtherDays d 107 [.ref 58, .int l1, .int l2, .int l3, .int l4, .int l5, .null, .int l7, .int l8, .null] [] s M Q := by
  refine s_iload (i := 8) (by decide +kernel) rfl (pn 109 rfl ?_)
  refine t_bipush (by decide +kernel) kb_8 (pn 111 rfl ?_)
  refine s_icmp_ge (off := 66) (tgt := 177) (by decide +kernel) rfl (fun c1 => ?_) (fun c1 => (pn 114 rfl ?_))
  · have h := h.1 c1
    refine s_aload_n (i := 0) (by decide +kernel) rfl (pn 178 rfl ?_)
    refine s_getfield (v := .ref 60) (by decide +kernel) fr_5_15 lq_58 (congrArg Prod.fst sh_58) (fv_ref pf_58_1) (pn 181 rfl ?_)
    refine s_iload (i := 4) (by decide +kernel) rfl (pn 183 rfl ?_)
    refine s_dup2 (by decide +kernel) rfl rfl (pn 184 rfl ?_)
    obtain ⟨b1, h⟩ := h
    refine t_iaload (v := M.1 60 l4.toNatClampNeg) (by decide +kernel) ⟨Or.inl lq_60, congrArg Prod.fst sh_60⟩ (al_in sh_60 b1) rfl (pn 185 rfl ?_)
    refine s_iload (i := 7) (by decide +kernel) rfl (pn 187 rfl ?_)
    refine t_iconst (by decide +kernel) ki_1 (pn 188 rfl ?_)
    refine s_iadd (by decide +kernel) (pn 189 rfl ?_)
    refine s_iload (i := 5) (by decide +kernel) rfl (pn 191 rfl ?_)
    refine s_ishl (by decide +kernel) (pn 192 rfl ?_)
    refine s_ior (by decide +kernel) (pn 193 rfl ?_)
    obtain ⟨b2, h⟩ := h
    refine t_iastore (k := l4.toNatClampNeg) (by decide +kernel) ⟨lq_60, congrArg Prod.fst sh_60⟩ (al_in sh_60 b2) rfl (pn 194 rfl ?_)
    refine s_iload (i := 7) (by decide +kernel) rfl (pn 196 rfl ?_)
    exact s_ireturn (st := []) (by decide +kernel) (Or.inl rfl) ⟨_, rfl, s, rfl, h⟩
  · have h := h.2 c1
    refine s_iload (i := 7) (by decide +kernel) rfl (pn 116 rfl ?_)
    refine s_if_le (off := 61) (tgt := 177) (by decide +kernel) rfl (fun c4 => ?_) (fun c4 => (pn 119 rfl ?_))
    · have h := h.1 c4
      refine s_aload_n (i := 0) (by decide +kernel) rfl (pn 178 rfl ?_)
      refine s_getfield (v := .ref 60) (by decide +kernel) fr_5_15 lq_58 (congrArg Prod.fst sh_58) (fv_ref pf_58_1) (pn 181 rfl ?_)
      refine s_iload (i := 4) (by decide +kernel) rfl (pn 183 rfl ?_)
      refine s_dup2 (by decide +kernel) rfl rfl (pn 184 rfl ?_)
      obtain ⟨b3, h⟩ := h
      refine t_iaload (v := M.1 60 l4.toNatClampNeg) (by decide +kernel) ⟨Or.inl lq_60, congrArg Prod.fst sh_60⟩ (al_in sh_60 b3) rfl (pn 185 rfl ?_)
      refine s_iload (i := 7) (by decide +kernel) rfl (pn 187 rfl ?_)
      refine t_iconst (by decide +kernel) ki_1 (pn 188 rfl ?_)
      refine s_iadd (by decide +kernel) (pn 189 rfl ?_)
      refine s_iload (i := 5) (by decide +kernel) rfl (pn 191 rfl ?_)
      refine s_ishl (by decide +kernel) (pn 192 rfl ?_)
      refine s_ior (by decide +kernel) (pn 193 rfl ?_)
      obtain ⟨b4, h⟩ := h
      refine t_iastore (k := l4.toNatClampNeg) (by decide +kernel) ⟨lq_60, congrArg Prod.fst sh_60⟩ (al_in sh_60 b4) rfl (pn 194 rfl ?_)
      refine s_iload (i := 7) (by decide +kernel) rfl (pn 196 rfl ?_)
      exact s_ireturn (st := []) (by decide +kernel) (Or.inl rfl) ⟨_, rfl, s, rfl, h⟩
    · have h := h.2 c4
      refine s_iload_n (i := 1) (by decide +kernel) rfl (pn 120 rfl ?_)
      refine s_iload (i := 8) (by decide +kernel) rfl (pn 122 rfl ?_)
      refine s_ishr (by decide +kernel) (pn 123 rfl ?_)
      refine t_iconst (by decide +kernel) ki_1 (pn 124 rfl ?_)
      refine s_iand (by decide +kernel) (pn 125 rfl ?_)
      refine t_iconst (by decide +kernel) ki_1 (pn 126 rfl ?_)
      refine t_icmp_ne (off := 45) (tgt := 171) (by decide +kernel) rfl (fun c6 => ?_) (fun c6 => (pn 129 rfl ?_))
      · have h := h.2 c6
        refine t_iinc (i := 8) (n := 1) (ls' := [.ref 58, .int l1, .int l2, .int l3, .int l4, .int l5, .null, .int l7, .int (l8 + 1), .null]) (by decide +kernel) rfl (Nat.le_of_ble_eq_true rfl) kn_1 rfl (pn 174 rfl ?_)
        refine s_goto (off := -67) (tgt := 107) (by decide +kernel) rfl ?_
        exact h
      · have h := h.1 c6
        refine s_iload_n (i := 2) (by decide +kernel) rfl (pn 130 rfl ?_)
        refine s_aload_n (i := 0) (by decide +kernel) rfl (pn 131 rfl ?_)
        refine s_iload (i := 8) (by decide +kernel) rfl (pn 133 rfl ?_)
        refine s_iload_n (i := 2) (by decide +kernel) rfl (pn 134 rfl ?_)
        refine s_callvI [.int l8, .int l2] rfl (by decide +kernel) mv_5_86 np_47 (Nat.le_of_ble_eq_true rfl) lq_58 ((congrArg Prod.fst sh_58).trans oc_47) (cI_use h (fun r1 s1 M1 h => (pn 137 rfl ?_)))
        refine s_iadd (by decide +kernel) (pn 138 rfl ?_)
        refine s_istore (i := 9) (by decide +kernel) (Nat.le_of_ble_eq_true rfl) (pn 140 rfl (t_store (ls' := [.ref 58, .int l1, .int l2, .int l3, .int l4, .int l5, .null, .int l7, .int l8, .int (l2 + r1)]) rfl ?_))
        refine s_iload (i := 9) (by decide +kernel) rfl (pn 142 rfl ?_)
        refine s_aload_n (i := 0) (by decide +kernel) rfl (pn 143 rfl ?_)
        refine s_getfield (v := .int (M1.1 58 8)) (by decide +kernel) fr_5_59 lq_58 (congrArg Prod.fst sh_58) rfl (pn 146 rfl ?_)
        refine s_icmp_gt (off := 25) (tgt := 171) (by decide +kernel) rfl (fun c7 => ?_) (fun c7 => (pn 149 rfl ?_))
        · have h := h.1 c7
          refine t_iinc (i := 8) (n := 1) (ls' := [.ref 58, .int l1, .int l2, .int l3, .int l4, .int l5, .null, .int l7, .int (l8 + 1), .int (l2 + r1)]) (by decide +kernel) rfl (Nat.le_of_ble_eq_true rfl) kn_1 rfl (pn 174 rfl ?_)
          refine s_goto (off := -67) (tgt := 107) (by decide +kernel) rfl ?_
          exact pm_weak [.ref 58, .int l1, .int l2, .int l3, .int l4, .int l5, .null, .int l7, .int (l8 + 1), .null] (pm_le_cons (Or.inr rfl) (pm_le_cons (Or.inr rfl) (pm_le_cons (Or.inr rfl) (pm_le_cons (Or.inr rfl) (pm_le_cons (Or.inr rfl) (pm_le_cons (Or.inr rfl) (pm_le_cons (Or.inl rfl) (pm_le_cons (Or.inr rfl) (pm_le_cons (Or.inr rfl) (pm_le_cons (Or.inl rfl) pm_le_nil)))))))))) h
        · have h := h.2 c7
          refine s_iload (i := 7) (by decide +kernel) rfl (pn 151 rfl ?_)
          refine s_aload_n (i := 0) (by decide +kernel) rfl (pn 152 rfl ?_)
          refine s_iload_n (i := 1) (by decide +kernel) rfl (pn 153 rfl ?_)
          refine t_iconst (by decide +kernel) ki_1 (pn 154 rfl ?_)
          refine s_iload (i := 8) (by decide +kernel) rfl (pn 156 rfl ?_)
          refine s_ishl (by decide +kernel) (pn 157 rfl ?_)
          refine s_ixor (by decide +kernel) (pn 158 rfl ?_)
          refine s_iload (i := 9) (by decide +kernel) rfl (pn 160 rfl ?_)
          refine s_iload_n (i := 3) (by decide +kernel) rfl (pn 161 rfl ?_)
          refine t_iconst (by decide +kernel) ki_1 (pn 162 rfl ?_)
          refine s_iadd (by decide +kernel) (pn 163 rfl ?_)
          refine s_callvI [.int (l1 ^^^ ((1 : Int32) <<< (l8 &&& 31))), .int (l2 + r1), .int (l3 + 1)] rfl (by decide +kernel) mv_5_70 np_46 (Nat.le_of_ble_eq_true rfl) lq_58 ((congrArg Prod.fst sh_58).trans oc_46) (cI_use h (fun r2 s2 M2 h => (pn 166 rfl ?_)))
          refine s_callsI [.int l7, .int r2] rfl (by decide +kernel) ms_5_53 np_323 (Nat.le_of_ble_eq_true rfl) (cI_use h (fun r3 s3 M3 h => (pn 169 rfl ?_)))
          refine s_istore (i := 7) (by decide +kernel) (Nat.le_of_ble_eq_true rfl) (pn 171 rfl (t_store (ls' := [.ref 58, .int l1, .int l2, .int l3, .int l4, .int l5, .null, .int r3, .int l8, .int (l2 + r1)]) rfl ?_))
          refine t_iinc (i := 8) (n := 1) (ls' := [.ref 58, .int l1, .int l2, .int l3, .int l4, .int l5, .null, .int r3, .int (l8 + 1), .int (l2 + r1)]) (by decide +kernel) rfl (Nat.le_of_ble_eq_true rfl) kn_1 rfl (pn 174 rfl ?_)
          refine s_goto (off := -67) (tgt := 107) (by decide +kernel) rfl ?_
          exact pm_weak [.ref 58, .int l1, .int l2, .int l3, .int l4, .int l5, .null, .int r3, .int (l8 + 1), .null] (pm_le_cons (Or.inr rfl) (pm_le_cons (Or.inr rfl) (pm_le_cons (Or.inr rfl) (pm_le_cons (Or.inr rfl) (pm_le_cons (Or.inr rfl) (pm_le_cons (Or.inr rfl) (pm_le_cons (Or.inl rfl) (pm_le_cons (Or.inr rfl) (pm_le_cons (Or.inr rfl) (pm_le_cons (Or.inl rfl) pm_le_nil)))))))))) h
abbrev wN_burdenAt (d pc : Nat) (ls st : List Value) (s : pm_S) (M : pm_M) (Q : Int32 → pm_S → pm_M → Prop) : Prop := wI d prog_7_method_9_code 5 (some .int) false pc ls st s M Q
theorem enN_burdenAt {d : Nat} {s : pm_S} {M : pm_M} {x1 : Int32} {x2 : Int32} {Q : Int32 → pm_S → pm_M → Prop}  (h : (((x1 < 0) → Q 100 s M) ∧ (¬ (x1 < 0) → (((8 ≤ x1) → Q 100 s M) ∧ (¬ (8 ≤ x1) → (((x2 < 0) → Q 100 s M) ∧ (¬ (x2 < 0) → (((100 ≤ x2) → Q 100 s M) ∧ (¬ (100 ≤ x2) → (s.2.2.2.1 = some 15) ∧ vp_in ((x1 * 100) + x2) 800 ∧ (((M.1 61 ((x1 * 100) + x2).toNatClampNeg) = (-1) → (s.2.2.2.1 = some 15) ∧ cI d yL_burdenOf [.ref 15, .int (M.1 58 6), .int (M.1 58 7), .int x1, .int 0, .int x2] s M (fun r1 s1 M1 => vp_in ((x1 * 100) + x2) 800 ∧ vp_in ((x1 * 100) + x2) 800 ∧ Q ((pm_si M1 61 ((x1 * 100) + x2).toNatClampNeg r1).1 61 ((x1 * 100) + x2).toNatClampNeg) s1 (pm_si M1 61 ((x1 * 100) + x2).toNatClampNeg r1))) ∧ (¬ ((M.1 61 ((x1 * 100) + x2).toNatClampNeg) = (-1)) → vp_in ((x1 * 100) + x2) 800 ∧ Q (M.1 61 ((x1 * 100) + x2).toNatClampNeg) s M))))))))))) : cI (d + 1) yN_burdenAt [.ref 58, .int x1, .int x2] s M Q := by
  refine pm_toI (by decide) (Nat.le_of_ble_eq_true rfl) ?_
  show wN_burdenAt d 0 [.ref 58, .int x1, .int x2, .null] [] s M Q
  refine s_iload_n (i := 1) (by decide +kernel) rfl (pn 1 rfl ?_)
  refine s_if_lt (off := 26) (tgt := 27) (by decide +kernel) rfl (fun c1 => ?_) (fun c1 => (pn 4 rfl ?_))
  · have h := h.1 c1
    refine t_bipush (by decide +kernel) kb_100 (pn 29 rfl ?_)
    exact s_ireturn (st := []) (by decide +kernel) (Or.inl rfl) ⟨_, rfl, s, rfl, h⟩
  · have h := h.2 c1
    refine s_iload_n (i := 1) (by decide +kernel) rfl (pn 5 rfl ?_)
    refine t_bipush (by decide +kernel) kb_8 (pn 7 rfl ?_)
    refine s_icmp_ge (off := 20) (tgt := 27) (by decide +kernel) rfl (fun c2 => ?_) (fun c2 => (pn 10 rfl ?_))
    · have h := h.1 c2
      refine t_bipush (by decide +kernel) kb_100 (pn 29 rfl ?_)
      exact s_ireturn (st := []) (by decide +kernel) (Or.inl rfl) ⟨_, rfl, s, rfl, h⟩
    · have h := h.2 c2
      refine s_iload_n (i := 2) (by decide +kernel) rfl (pn 11 rfl ?_)
      refine s_if_lt (off := 16) (tgt := 27) (by decide +kernel) rfl (fun c3 => ?_) (fun c3 => (pn 14 rfl ?_))
      · have h := h.1 c3
        refine t_bipush (by decide +kernel) kb_100 (pn 29 rfl ?_)
        exact s_ireturn (st := []) (by decide +kernel) (Or.inl rfl) ⟨_, rfl, s, rfl, h⟩
      · have h := h.2 c3
        refine s_iload_n (i := 2) (by decide +kernel) rfl (pn 15 rfl ?_)
        refine t_bipush (by decide +kernel) kb_100 (pn 17 rfl ?_)
        refine s_icmp_ge (off := 10) (tgt := 27) (by decide +kernel) rfl (fun c4 => ?_) (fun c4 => (pn 20 rfl ?_))
        · have h := h.1 c4
          refine t_bipush (by decide +kernel) kb_100 (pn 29 rfl ?_)
          exact s_ireturn (st := []) (by decide +kernel) (Or.inl rfl) ⟨_, rfl, s, rfl, h⟩
        · have h := h.2 c4
          refine s_aload_n (i := 0) (by decide +kernel) rfl (pn 21 rfl ?_)
          obtain ⟨b1, h⟩ := h
          refine s_getfield (v := .ref 15) (by decide +kernel) fr_5_27 lq_58 (congrArg Prod.fst sh_58) (fv_ref (pf_58_5.trans b1)) (pn 24 rfl ?_)
          refine s_ifnonnull (off := 6) (tgt := 30) (by decide +kernel) rfl ?_
          refine s_iload_n (i := 1) (by decide +kernel) rfl (pn 31 rfl ?_)
          refine t_bipush (by decide +kernel) kb_100 (pn 33 rfl ?_)
          refine s_imul (by decide +kernel) (pn 34 rfl ?_)
          refine s_iload_n (i := 2) (by decide +kernel) rfl (pn 35 rfl ?_)
          refine s_iadd (by decide +kernel) (pn 36 rfl ?_)
          refine s_istore_n (i := 3) (by decide +kernel) (Nat.le_of_ble_eq_true rfl) (pn 37 rfl (t_store (ls' := [.ref 58, .int x1, .int x2, .int ((x1 * 100) + x2)]) rfl ?_))
          refine s_aload_n (i := 0) (by decide +kernel) rfl (pn 38 rfl ?_)
          refine s_getfield (v := .ref 61) (by decide +kernel) fr_5_18 lq_58 (congrArg Prod.fst sh_58) (fv_ref pf_58_2) (pn 41 rfl ?_)
          refine s_iload_n (i := 3) (by decide +kernel) rfl (pn 42 rfl ?_)
          obtain ⟨b2, h⟩ := h
          refine t_iaload (v := M.1 61 ((x1 * 100) + x2).toNatClampNeg) (by decide +kernel) ⟨Or.inl lq_61, congrArg Prod.fst sh_61⟩ (al_in sh_61 b2) rfl (pn 43 rfl ?_)
          refine t_iconst (by decide +kernel) ki_m1 (pn 44 rfl ?_)
          refine t_icmp_ne (off := 27) (tgt := 71) (by decide +kernel) rfl (fun c5 => ?_) (fun c5 => (pn 47 rfl ?_))
          · have h := h.2 c5
            refine s_aload_n (i := 0) (by decide +kernel) rfl (pn 72 rfl ?_)
            refine s_getfield (v := .ref 61) (by decide +kernel) fr_5_18 lq_58 (congrArg Prod.fst sh_58) (fv_ref pf_58_2) (pn 75 rfl ?_)
            refine s_iload_n (i := 3) (by decide +kernel) rfl (pn 76 rfl ?_)
            obtain ⟨b3, h⟩ := h
            refine t_iaload (v := M.1 61 ((x1 * 100) + x2).toNatClampNeg) (by decide +kernel) ⟨Or.inl lq_61, congrArg Prod.fst sh_61⟩ (al_in sh_61 b3) rfl (pn 77 rfl ?_)
            exact s_ireturn (st := []) (by decide +kernel) (Or.inl rfl) ⟨_, rfl, s, rfl, h⟩
          · have h := h.1 c5
            refine s_aload_n (i := 0) (by decide +kernel) rfl (pn 48 rfl ?_)
            refine s_getfield (v := .ref 61) (by decide +kernel) fr_5_18 lq_58 (congrArg Prod.fst sh_58) (fv_ref pf_58_2) (pn 51 rfl ?_)
            refine s_iload_n (i := 3) (by decide +kernel) rfl (pn 52 rfl ?_)
            refine s_aload_n (i := 0) (by decide +kernel) rfl (pn 53 rfl ?_)
            obtain ⟨b4, h⟩ := h
            refine s_getfield (v := .ref 15) (by decide +kernel) fr_5_27 lq_58 (congrArg Prod.fst sh_58) (fv_ref (pf_58_5.trans b4)) (pn 56 rfl ?_)
            refine s_aload_n (i := 0) (by decide +kernel) rfl (pn 57 rfl ?_)
            refine s_getfield (v := .int (M.1 58 6)) (by decide +kernel) fr_5_41 lq_58 (congrArg Prod.fst sh_58) rfl (pn 60 rfl ?_)
            refine s_aload_n (i := 0) (by decide +kernel) rfl (pn 61 rfl ?_)
            refine s_getfield (v := .int (M.1 58 7)) (by decide +kernel) fr_5_31 lq_58 (congrArg Prod.fst sh_58) rfl (pn 64 rfl ?_)
            refine s_iload_n (i := 1) (by decide +kernel) rfl (pn 65 rfl ?_)
            refine t_iconst (by decide +kernel) ki_0 (pn 66 rfl ?_)
            refine s_iload_n (i := 2) (by decide +kernel) rfl (pn 67 rfl ?_)
            refine s_callvI [.int (M.1 58 6), .int (M.1 58 7), .int x1, .int 0, .int x2] rfl (by decide +kernel) mv_5_89 np_34 (Nat.le_of_ble_eq_true rfl) lq_15 ((congrArg Prod.fst sh_15).trans oc_34) (cI_use h (fun r1 s1 M1 h => (pn 70 rfl ?_)))
            obtain ⟨b5, h⟩ := h
            refine t_iastore (k := ((x1 * 100) + x2).toNatClampNeg) (by decide +kernel) ⟨lq_61, congrArg Prod.fst sh_61⟩ (al_in sh_61 b5) rfl (pn 71 rfl ?_)
            refine s_aload_n (i := 0) (by decide +kernel) rfl (pn 72 rfl ?_)
            refine s_getfield (v := .ref 61) (by decide +kernel) fr_5_18 lq_58 (congrArg Prod.fst sh_58) (fv_ref pf_58_2) (pn 75 rfl ?_)
            refine s_iload_n (i := 3) (by decide +kernel) rfl (pn 76 rfl ?_)
            obtain ⟨b6, h⟩ := h
            refine t_iaload (v := (pm_si M1 61 ((x1 * 100) + x2).toNatClampNeg r1).1 61 ((x1 * 100) + x2).toNatClampNeg) (by decide +kernel) ⟨Or.inl lq_61, congrArg Prod.fst sh_61⟩ (al_in sh_61 b6) rfl (pn 77 rfl ?_)
            exact s_ireturn (st := []) (by decide +kernel) (Or.inl rfl) ⟨_, rfl, s1, rfl, h⟩
abbrev wN_findOrder (d pc : Nat) (ls st : List Value) (s : pm_S) (M : pm_M) (Q : Int32 → pm_S → pm_M → Prop) : Prop := wI d prog_7_method_6_code 5 (some .int) false pc ls st s M Q
theorem enN_findOrder {d : Nat} {s : pm_S} {M : pm_M} {x1 : Int32} {Q : Int32 → pm_S → pm_M → Prop}  (h : cI d yN_fewestDays [.ref 58, .int x1] s M (fun r1 s1 M1 => ((r1 = (-1) → Q 0 s1 M1) ∧ (¬ (r1 = (-1)) → ((s1.2.1 = 62) ∨ (s1.2.1 = 63)) ∧ cV d yarr_fill_II [.ref s1.2.1, .int 0] s1 M1 (fun s2 M2 => ((s2.2.1 = 62) ∨ (s2.2.1 = 63)) ∧ wN_findOrder d 30 [.ref 58, .int x1, .int x1, .int 0, .null, .null] [] s2 (pm_si M2 s2.2.1 0 1) Q))))) : cI (d + 1) yN_findOrder [.ref 58, .int x1] s M Q := by
  refine pm_toI (by decide) (Nat.le_of_ble_eq_true rfl) ?_
  show wN_findOrder d 0 [.ref 58, .int x1, .null, .null, .null, .null] [] s M Q
  refine s_aload_n (i := 0) (by decide +kernel) rfl (pn 1 rfl ?_)
  refine s_iload_n (i := 1) (by decide +kernel) rfl (pn 2 rfl ?_)
  refine s_callvI [.int x1] rfl (by decide +kernel) mv_5_79 np_45 (Nat.le_of_ble_eq_true rfl) lq_58 ((congrArg Prod.fst sh_58).trans oc_45) (cI_use h (fun r1 s1 M1 h => (pn 5 rfl ?_)))
  refine t_iconst (by decide +kernel) ki_m1 (pn 6 rfl ?_)
  refine t_icmp_ne (off := 5) (tgt := 11) (by decide +kernel) rfl (fun c1 => ?_) (fun c1 => (pn 9 rfl ?_))
  · have h := h.2 c1
    refine s_aload_n (i := 0) (by decide +kernel) rfl (pn 12 rfl ?_)
    obtain ⟨b1, h⟩ := h
    refine s_getfield (v := .ref s1.2.1) (by decide +kernel) fr_5_21 lq_58 (congrArg Prod.fst sh_58) (fv_ref pf_58_3) (pn 15 rfl ?_)
    refine t_iconst (by decide +kernel) ki_0 (pn 16 rfl ?_)
    refine s_callsV [.ref s1.2.1, .int 0] rfl (by decide +kernel) ms_5_67 np_326 (Nat.le_of_ble_eq_true rfl) (cV_use h (fun s2 M2 h => (pn 19 rfl ?_)))
    refine s_aload_n (i := 0) (by decide +kernel) rfl (pn 20 rfl ?_)
    obtain ⟨b2, h⟩ := h
    refine s_getfield (v := .ref s2.2.1) (by decide +kernel) fr_5_21 lq_58 (congrArg Prod.fst sh_58) (fv_ref pf_58_3) (pn 23 rfl ?_)
    refine t_iconst (by decide +kernel) ki_0 (pn 24 rfl ?_)
    refine t_iconst (by decide +kernel) ki_1 (pn 25 rfl ?_)
    refine t_iastore (k := 0) (by decide +kernel) ⟨(mut_lt58 b2), congrArg Prod.fst (mut_sh58 b2)⟩ (al_in (mut_sh58 b2) (vp_lit (n := 100) tn_0 (by decide) (by decide))) tn_0 (pn 26 rfl ?_)
    refine s_iload_n (i := 1) (by decide +kernel) rfl (pn 27 rfl ?_)
    refine s_istore_n (i := 2) (by decide +kernel) (Nat.le_of_ble_eq_true rfl) (pn 28 rfl (t_store (ls' := [.ref 58, .int x1, .int x1, .null, .null, .null]) rfl ?_))
    refine t_iconst (by decide +kernel) ki_0 (pn 29 rfl ?_)
    refine s_istore_n (i := 3) (by decide +kernel) (Nat.le_of_ble_eq_true rfl) (pn 30 rfl (t_store (ls' := [.ref 58, .int x1, .int x1, .int 0, .null, .null]) rfl ?_))
    exact h
  · have h := h.1 c1
    refine t_iconst (by decide +kernel) ki_0 (pn 10 rfl ?_)
    exact s_ireturn (st := []) (by decide +kernel) (Or.inl rfl) ⟨_, rfl, s1, rfl, h⟩
theorem sgN_findOrder_30 {d : Nat} {s : pm_S} {M : pm_M} {l1 : Int32} {l2 : Int32} {l3 : Int32} {Q : Int32 → pm_S → pm_M → Prop}  (h : (((8 ≤ l3) → cI d yint_bitCount [.int l1] s M (fun r1 s1 M1 => Q r1 s1 M1)) ∧ (¬ (8 ≤ l3) → (((l2 = 0) → cI d yint_bitCount [.int l1] s M (fun r2 s2 M2 => Q r2 s2 M2)) ∧ (¬ (l2 = 0) → wN_findOrder d 43 [.ref 58, .int l1, .int l2, .int l3, .int 0, .null] [] s M Q))))) : wN_findOrder d 30 [.ref 58, .int l1, .int l2, .int l3, .null, .null] [] s M Q := by
  refine s_iload_n (i := 3) (by decide +kernel) rfl (pn 31 rfl ?_)
  refine t_bipush (by decide +kernel) kb_8 (pn 33 rfl ?_)
  refine s_icmp_ge (off := 76) (tgt := 109) (by decide +kernel) rfl (fun c1 => ?_) (fun c1 => (pn 36 rfl ?_))
  · have h := h.1 c1
    refine s_iload_n (i := 1) (by decide +kernel) rfl (pn 110 rfl ?_)
    refine s_callsI [.int l1] rfl (by decide +kernel) ms_5_74 np_322 (Nat.le_of_ble_eq_true rfl) (cI_use h (fun r1 s1 M1 h => (pn 113 rfl ?_)))
    exact s_ireturn (st := []) (by decide +kernel) (Or.inl rfl) ⟨_, rfl, s1, rfl, h⟩
  · have h := h.2 c1
    refine s_iload_n (i := 2) (by decide +kernel) rfl (pn 37 rfl ?_)
    refine s_if_eq (off := 72) (tgt := 109) (by decide +kernel) rfl (fun c3 => ?_) (fun c3 => (pn 40 rfl ?_))
    · have h := h.1 c3
      refine s_iload_n (i := 1) (by decide +kernel) rfl (pn 110 rfl ?_)
      refine s_callsI [.int l1] rfl (by decide +kernel) ms_5_74 np_322 (Nat.le_of_ble_eq_true rfl) (cI_use h (fun r2 s2 M2 h => (pn 113 rfl ?_)))
      exact s_ireturn (st := []) (by decide +kernel) (Or.inl rfl) ⟨_, rfl, s2, rfl, h⟩
    · have h := h.2 c3
      refine t_iconst (by decide +kernel) ki_0 (pn 41 rfl ?_)
      refine s_istore (i := 4) (by decide +kernel) (Nat.le_of_ble_eq_true rfl) (pn 43 rfl (t_store (ls' := [.ref 58, .int l1, .int l2, .int l3, .int 0, .null]) rfl ?_))
      exact h
theorem sgN_findOrder_43 {d : Nat} {s : pm_S} {M : pm_M} {l1 : Int32} {l2 : Int32} {l3 : Int32} {l4 : Int32} {Q : Int32 → pm_S → pm_M → Prop}  (h : (((8 ≤ l4) → wN_findOrder d 66 [.ref 58, .int l1, .int l2, .int l3, .int l4, .null] [] s M Q) ∧ (¬ (8 ≤ l4) → cI d yN_reachesBehind [.ref 58, .int l4, .int l2] s M (fun r1 s1 M1 => ((r1 = 0 → wN_findOrder d 43 [.ref 58, .int l1, .int l2, .int l3, .int (l4 + 1), .null] [] s1 M1 Q) ∧ (¬ (r1 = 0) → wN_findOrder d 66 [.ref 58, .int l1, .int l2, .int l3, .int l4, .null] [] s1 M1 Q)))))) : wN_findOrder d 43 [.ref 58, .int l1, .int l2, .int l3, .int l4, .null] [] s M Q := by
  refine s_iload (i := 4) (by decide +kernel) rfl (pn 45 rfl ?_)
  refine t_bipush (by decide +kernel) kb_8 (pn 47 rfl ?_)
  refine s_icmp_ge (off := 19) (tgt := 66) (by decide +kernel) rfl (fun c1 => ?_) (fun c1 => (pn 50 rfl ?_))
  · have h := h.1 c1
    exact h
  · have h := h.2 c1
    refine s_aload_n (i := 0) (by decide +kernel) rfl (pn 51 rfl ?_)
    refine s_iload (i := 4) (by decide +kernel) rfl (pn 53 rfl ?_)
    refine s_iload_n (i := 2) (by decide +kernel) rfl (pn 54 rfl ?_)
    refine s_callvI [.int l4, .int l2] rfl (by decide +kernel) mv_5_82 np_49 (Nat.le_of_ble_eq_true rfl) lq_58 ((congrArg Prod.fst sh_58).trans oc_49) (cI_use h (fun r1 s1 M1 h => (pn 57 rfl ?_)))
    refine t_if_ne (off := 9) (tgt := 66) (by decide +kernel) rfl (fun c2 => ?_) (fun c2 => (pn 60 rfl ?_))
    · have h := h.2 c2
      exact h
    · have h := h.1 c2
      refine t_iinc (i := 4) (n := 1) (ls' := [.ref 58, .int l1, .int l2, .int l3, .int (l4 + 1), .null]) (by decide +kernel) rfl (Nat.le_of_ble_eq_true rfl) kn_1 rfl (pn 63 rfl ?_)
      refine s_goto (off := -20) (tgt := 43) (by decide +kernel) rfl ?_
      exact h
theorem sgN_findOrder_66 {d : Nat} {s : pm_S} {M : pm_M} {l1 : Int32} {l2 : Int32} {l3 : Int32} {l4 : Int32} {Q : Int32 → pm_S → pm_M → Prop}  (h : vp_in l3 8 ∧ ((s.2.1 = 62) ∨ (s.2.1 = 63)) ∧ ((s.2.2.1 = 62) ∨ (s.2.2.1 = 63)) ∧ wN_findOrder d 30 [.ref 58, .int l1, .int (l2 &&& (((1 : Int32) <<< (l4 &&& 31)) ^^^ (-1))), .int (l3 + 1), .null, .null] [] (s.1, s.2.2.1, s.2.1, s.2.2.2.1, s.2.2.2.2.1, s.2.2.2.2.2) (pm_si M 59 l3.toNatClampNeg l4) Q) : wN_findOrder d 66 [.ref 58, .int l1, .int l2, .int l3, .int l4, .null] [] s M Q := by
  refine s_aload_n (i := 0) (by decide +kernel) rfl (pn 67 rfl ?_)
  refine s_getfield (v := .ref 59) (by decide +kernel) fr_5_9 lq_58 (congrArg Prod.fst sh_58) (fv_ref pf_58_0) (pn 70 rfl ?_)
  refine s_iload_n (i := 3) (by decide +kernel) rfl (pn 71 rfl ?_)
  refine s_iload (i := 4) (by decide +kernel) rfl (pn 73 rfl ?_)
  obtain ⟨b1, h⟩ := h
  refine t_iastore (k := l3.toNatClampNeg) (by decide +kernel) ⟨lq_59, congrArg Prod.fst sh_59⟩ (al_in sh_59 b1) rfl (pn 74 rfl ?_)
  refine s_iload_n (i := 2) (by decide +kernel) rfl (pn 75 rfl ?_)
  refine t_iconst (by decide +kernel) ki_1 (pn 76 rfl ?_)
  refine s_iload (i := 4) (by decide +kernel) rfl (pn 78 rfl ?_)
  refine s_ishl (by decide +kernel) (pn 79 rfl ?_)
  refine t_iconst (by decide +kernel) ki_m1 (pn 80 rfl ?_)
  refine s_ixor (by decide +kernel) (pn 81 rfl ?_)
  refine s_iand (by decide +kernel) (pn 82 rfl ?_)
  refine s_istore_n (i := 2) (by decide +kernel) (Nat.le_of_ble_eq_true rfl) (pn 83 rfl (t_store (ls' := [.ref 58, .int l1, .int (l2 &&& (((1 : Int32) <<< (l4 &&& 31)) ^^^ (-1))), .int l3, .int l4, .null]) rfl ?_))
  refine s_aload_n (i := 0) (by decide +kernel) rfl (pn 84 rfl ?_)
  obtain ⟨b2, h⟩ := h
  refine s_getfield (v := .ref s.2.1) (by decide +kernel) fr_5_21 lq_58 (congrArg Prod.fst sh_58) (fv_ref pf_58_3) (pn 87 rfl ?_)
  refine s_astore (i := 5) (by decide +kernel) (Nat.le_of_ble_eq_true rfl) (pn 89 rfl (t_store (ls' := [.ref 58, .int l1, .int (l2 &&& (((1 : Int32) <<< (l4 &&& 31)) ^^^ (-1))), .int l3, .int l4, .ref s.2.1]) rfl ?_))
  refine s_aload_n (i := 0) (by decide +kernel) rfl (pn 90 rfl ?_)
  refine s_aload_n (i := 0) (by decide +kernel) rfl (pn 91 rfl ?_)
  obtain ⟨b3, h⟩ := h
  refine s_getfield (v := .ref s.2.2.1) (by decide +kernel) fr_5_24 lq_58 (congrArg Prod.fst sh_58) (fv_ref pf_58_4) (pn 94 rfl ?_)
  refine s_putfieldA (by decide +kernel) fr_5_21 lq_58 (congrArg Prod.fst sh_58) (fun q => by cases q) rfl (pn 97 rfl (sp_58_3 (s' := (s.1, s.2.2.1, s.2.2.1, s.2.2.2.1, s.2.2.2.2.1, s.2.2.2.2.2)) rfl ?_))
  refine s_aload_n (i := 0) (by decide +kernel) rfl (pn 98 rfl ?_)
  refine s_aload (i := 5) (by decide +kernel) rfl (pn 100 rfl ?_)
  refine s_putfieldA (by decide +kernel) fr_5_24 lq_58 (congrArg Prod.fst sh_58) (fun q => by cases q) rfl (pn 103 rfl (sp_58_4 (s' := (s.1, s.2.2.1, s.2.1, s.2.2.2.1, s.2.2.2.2.1, s.2.2.2.2.2)) rfl ?_))
  refine t_iinc (i := 3) (n := 1) (ls' := [.ref 58, .int l1, .int (l2 &&& (((1 : Int32) <<< (l4 &&& 31)) ^^^ (-1))), .int (l3 + 1), .int l4, .ref s.2.1]) (by decide +kernel) rfl (Nat.le_of_ble_eq_true rfl) kn_1 rfl (pn 106 rfl ?_)
  refine s_goto (off := -76) (tgt := 30) (by decide +kernel) rfl ?_
  exact pm_weak [.ref 58, .int l1, .int (l2 &&& (((1 : Int32) <<< (l4 &&& 31)) ^^^ (-1))), .int (l3 + 1), .null, .null] (pm_le_cons (Or.inr rfl) (pm_le_cons (Or.inr rfl) (pm_le_cons (Or.inr rfl) (pm_le_cons (Or.inr rfl) (pm_le_cons (Or.inl rfl) (pm_le_cons (Or.inl rfl) pm_le_nil)))))) h
abbrev wN_reachesBehind (d pc : Nat) (ls st : List Value) (s : pm_S) (M : pm_M) (Q : Int32 → pm_S → pm_M → Prop) : Prop := wI d prog_7_method_7_code 5 (some .boolean) false pc ls st s M Q
theorem enN_reachesBehind {d : Nat} {s : pm_S} {M : pm_M} {x1 : Int32} {x2 : Int32} {Q : Int32 → pm_S → pm_M → Prop}  (h : ((((x2 >>> (x1 &&& 31)) &&& 1) = 0 → Q 0 s M) ∧ (¬ (((x2 >>> (x1 &&& 31)) &&& 1) = 0) → ((s.2.2.1 = 62) ∨ (s.2.2.1 = 63)) ∧ cV d yarr_fill_II [.ref s.2.2.1, .int 0] s M (fun s1 M1 => wN_reachesBehind d 23 [.ref 58, .int x1, .int x2, .int 0, .int 0, .null, .null, .null, .null] [] s1 M1 Q)))) : cI (d + 1) yN_reachesBehind [.ref 58, .int x1, .int x2] s M Q := by
  refine pm_toI (by decide) (Nat.le_of_ble_eq_true rfl) ?_
  show wN_reachesBehind d 0 [.ref 58, .int x1, .int x2, .null, .null, .null, .null, .null, .null] [] s M Q
  refine s_iload_n (i := 2) (by decide +kernel) rfl (pn 1 rfl ?_)
  refine s_iload_n (i := 1) (by decide +kernel) rfl (pn 2 rfl ?_)
  refine s_ishr (by decide +kernel) (pn 3 rfl ?_)
  refine t_iconst (by decide +kernel) ki_1 (pn 4 rfl ?_)
  refine s_iand (by decide +kernel) (pn 5 rfl ?_)
  refine t_if_ne (off := 5) (tgt := 10) (by decide +kernel) rfl (fun c1 => ?_) (fun c1 => (pn 8 rfl ?_))
  · have h := h.2 c1
    refine s_aload_n (i := 0) (by decide +kernel) rfl (pn 11 rfl ?_)
    obtain ⟨b1, h⟩ := h
    refine s_getfield (v := .ref s.2.2.1) (by decide +kernel) fr_5_24 lq_58 (congrArg Prod.fst sh_58) (fv_ref pf_58_4) (pn 14 rfl ?_)
    refine t_iconst (by decide +kernel) ki_0 (pn 15 rfl ?_)
    refine s_callsV [.ref s.2.2.1, .int 0] rfl (by decide +kernel) ms_5_67 np_326 (Nat.le_of_ble_eq_true rfl) (cV_use h (fun s1 M1 h => (pn 18 rfl ?_)))
    refine t_iconst (by decide +kernel) ki_0 (pn 19 rfl ?_)
    refine s_istore_n (i := 3) (by decide +kernel) (Nat.le_of_ble_eq_true rfl) (pn 20 rfl (t_store (ls' := [.ref 58, .int x1, .int x2, .int 0, .null, .null, .null, .null, .null]) rfl ?_))
    refine t_iconst (by decide +kernel) ki_0 (pn 21 rfl ?_)
    refine s_istore (i := 4) (by decide +kernel) (Nat.le_of_ble_eq_true rfl) (pn 23 rfl (t_store (ls' := [.ref 58, .int x1, .int x2, .int 0, .int 0, .null, .null, .null, .null]) rfl ?_))
    exact h
  · have h := h.1 c1
    refine t_iconst (by decide +kernel) ki_0 (pn 9 rfl ?_)
    exact s_ireturn (st := []) (by decide +kernel) (Or.inr ⟨rfl, (Or.inl rfl)⟩) ⟨_, rfl, s, rfl, h⟩
theorem sgN_reachesBehind_23 {d : Nat} {s : pm_S} {M : pm_M} {l1 : Int32} {l2 : Int32} {l3 : Int32} {l4 : Int32} {Q : Int32 → pm_S → pm_M → Prop}  (h : ((((M.1 58 8) < l4) → (l3 = 0 ∨ l3 = 1) ∧ Q l3 s M) ∧ (¬ ((M.1 58 8) < l4) → (((100 ≤ l4) → (l3 = 0 ∨ l3 = 1) ∧ Q l3 s M) ∧ (¬ (100 ≤ l4) → ((s.2.1 = 62) ∨ (s.2.1 = 63)) ∧ vp_in l4 100 ∧ (((M.1 s.2.1 l4.toNatClampNeg) = 1 → cI d yN_furtherDays [.ref 58, .int l2, .int l4, .int 0] s M (fun r1 s1 M1 => wN_reachesBehind d 68 [.ref 58, .int l1, .int l2, .int l3, .int l4, .int r1, .int 0, .null, .null] [] s1 M1 Q)) ∧ (¬ ((M.1 s.2.1 l4.toNatClampNeg) = 1) → wN_reachesBehind d 68 [.ref 58, .int l1, .int l2, .int l3, .int l4, .int 14, .int 0, .null, .null] [] s M Q))))))) : wN_reachesBehind d 23 [.ref 58, .int l1, .int l2, .int l3, .int l4, .null, .null, .null, .null] [] s M Q := by
  refine s_iload (i := 4) (by decide +kernel) rfl (pn 25 rfl ?_)
  refine s_aload_n (i := 0) (by decide +kernel) rfl (pn 26 rfl ?_)
  refine s_getfield (v := .int (M.1 58 8)) (by decide +kernel) fr_5_59 lq_58 (congrArg Prod.fst sh_58) rfl (pn 29 rfl ?_)
  refine s_icmp_gt (off := 135) (tgt := 164) (by decide +kernel) rfl (fun c1 => ?_) (fun c1 => (pn 32 rfl ?_))
  · have h := h.1 c1
    refine s_iload_n (i := 3) (by decide +kernel) rfl (pn 165 rfl ?_)
    obtain ⟨b1, h⟩ := h
    exact s_ireturn (st := []) (by decide +kernel) (Or.inr ⟨rfl, b1⟩) ⟨_, rfl, s, rfl, h⟩
  · have h := h.2 c1
    refine s_iload (i := 4) (by decide +kernel) rfl (pn 34 rfl ?_)
    refine t_bipush (by decide +kernel) kb_100 (pn 36 rfl ?_)
    refine s_icmp_ge (off := 128) (tgt := 164) (by decide +kernel) rfl (fun c3 => ?_) (fun c3 => (pn 39 rfl ?_))
    · have h := h.1 c3
      refine s_iload_n (i := 3) (by decide +kernel) rfl (pn 165 rfl ?_)
      obtain ⟨b2, h⟩ := h
      exact s_ireturn (st := []) (by decide +kernel) (Or.inr ⟨rfl, b2⟩) ⟨_, rfl, s, rfl, h⟩
    · have h := h.2 c3
      refine s_aload_n (i := 0) (by decide +kernel) rfl (pn 40 rfl ?_)
      obtain ⟨b3, h⟩ := h
      refine s_getfield (v := .ref s.2.1) (by decide +kernel) fr_5_21 lq_58 (congrArg Prod.fst sh_58) (fv_ref pf_58_3) (pn 43 rfl ?_)
      refine s_iload (i := 4) (by decide +kernel) rfl (pn 45 rfl ?_)
      obtain ⟨b4, h⟩ := h
      refine t_iaload (v := M.1 s.2.1 l4.toNatClampNeg) (by decide +kernel) ⟨Or.inl (mut_lt58 b3), congrArg Prod.fst (mut_sh58 b3)⟩ (al_in (mut_sh58 b3) b4) rfl (pn 46 rfl ?_)
      refine t_iconst (by decide +kernel) ki_1 (pn 47 rfl ?_)
      refine t_icmp_ne (off := 14) (tgt := 61) (by decide +kernel) rfl (fun c4 => ?_) (fun c4 => (pn 50 rfl ?_))
      · have h := h.2 c4
        refine t_bipush (by decide +kernel) kb_14 (pn 63 rfl ?_)
        refine s_istore (i := 5) (by decide +kernel) (Nat.le_of_ble_eq_true rfl) (pn 65 rfl (t_store (ls' := [.ref 58, .int l1, .int l2, .int l3, .int l4, .int 14, .null, .null, .null]) rfl ?_))
        refine t_iconst (by decide +kernel) ki_0 (pn 66 rfl ?_)
        refine s_istore (i := 6) (by decide +kernel) (Nat.le_of_ble_eq_true rfl) (pn 68 rfl (t_store (ls' := [.ref 58, .int l1, .int l2, .int l3, .int l4, .int 14, .int 0, .null, .null]) rfl ?_))
        exact h
      · have h := h.1 c4
        refine s_aload_n (i := 0) (by decide +kernel) rfl (pn 51 rfl ?_)
        refine s_iload_n (i := 2) (by decide +kernel) rfl (pn 52 rfl ?_)
        refine s_iload (i := 4) (by decide +kernel) rfl (pn 54 rfl ?_)
        refine t_iconst (by decide +kernel) ki_0 (pn 55 rfl ?_)
        refine s_callvI [.int l2, .int l4, .int 0] rfl (by decide +kernel) mv_5_70 np_46 (Nat.le_of_ble_eq_true rfl) lq_58 ((congrArg Prod.fst sh_58).trans oc_46) (cI_use h (fun r1 s1 M1 h => (pn 58 rfl ?_)))
        refine s_goto (off := 5) (tgt := 63) (by decide +kernel) rfl ?_
        refine s_istore (i := 5) (by decide +kernel) (Nat.le_of_ble_eq_true rfl) (pn 65 rfl (t_store (ls' := [.ref 58, .int l1, .int l2, .int l3, .int l4, .int r1, .null, .null, .null]) rfl ?_))
        refine t_iconst (by decide +kernel) ki_0 (pn 66 rfl ?_)
        refine s_istore (i := 6) (by decide +kernel) (Nat.le_of_ble_eq_true rfl) (pn 68 rfl (t_store (ls' := [.ref 58, .int l1, .int l2, .int l3, .int l4, .int r1, .int 0, .null, .null]) rfl ?_))
        exact h
theorem sgN_reachesBehind_68 {d : Nat} {s : pm_S} {M : pm_M} {l1 : Int32} {l2 : Int32} {l3 : Int32} {l4 : Int32} {l5 : Int32} {l6 : Int32} {Q : Int32 → pm_S → pm_M → Prop}  (h : (((2 ≤ l6) → wN_reachesBehind d 23 [.ref 58, .int l1, .int l2, .int l3, .int (l4 + 1), .null, .null, .null, .null] [] s M Q) ∧ (¬ (2 ≤ l6) → (((l4 < l6) → wN_reachesBehind d 23 [.ref 58, .int l1, .int l2, .int l3, .int (l4 + 1), .null, .null, .null, .null] [] s M Q) ∧ (¬ (l4 < l6) → (((14 ≤ l5) → wN_reachesBehind d 23 [.ref 58, .int l1, .int l2, .int l3, .int (l4 + 1), .null, .null, .null, .null] [] s M Q) ∧ (¬ (14 ≤ l5) → wN_reachesBehind d 99 [.ref 58, .int l1, .int l2, .int l3, .int l4, .int l5, .int l6, .null, .null] [.int ((if l6 = 0 then l4 else 0) : Int32)] s M Q))))))) : wN_reachesBehind d 68 [.ref 58, .int l1, .int l2, .int l3, .int l4, .int l5, .int l6, .null, .null] [] s M Q := by
  refine s_iload (i := 6) (by decide +kernel) rfl (pn 70 rfl ?_)
  refine t_iconst (by decide +kernel) ki_2 (pn 71 rfl ?_)
  refine s_icmp_ge (off := 87) (tgt := 158) (by decide +kernel) rfl (fun c1 => ?_) (fun c1 => (pn 74 rfl ?_))
  · have h := h.1 c1
    refine t_iinc (i := 4) (n := 1) (ls' := [.ref 58, .int l1, .int l2, .int l3, .int (l4 + 1), .int l5, .int l6, .null, .null]) (by decide +kernel) rfl (Nat.le_of_ble_eq_true rfl) kn_1 rfl (pn 161 rfl ?_)
    refine s_goto (off := -138) (tgt := 23) (by decide +kernel) rfl ?_
    exact pm_weak [.ref 58, .int l1, .int l2, .int l3, .int (l4 + 1), .null, .null, .null, .null] (pm_le_cons (Or.inr rfl) (pm_le_cons (Or.inr rfl) (pm_le_cons (Or.inr rfl) (pm_le_cons (Or.inr rfl) (pm_le_cons (Or.inr rfl) (pm_le_cons (Or.inl rfl) (pm_le_cons (Or.inl rfl) (pm_le_cons (Or.inl rfl) (pm_le_cons (Or.inl rfl) pm_le_nil))))))))) h
  · have h := h.2 c1
    refine s_iload (i := 6) (by decide +kernel) rfl (pn 76 rfl ?_)
    refine s_iload (i := 4) (by decide +kernel) rfl (pn 78 rfl ?_)
    refine s_icmp_gt (off := 80) (tgt := 158) (by decide +kernel) rfl (fun c5 => ?_) (fun c5 => (pn 81 rfl ?_))
    · have h := h.1 c5
      refine t_iinc (i := 4) (n := 1) (ls' := [.ref 58, .int l1, .int l2, .int l3, .int (l4 + 1), .int l5, .int l6, .null, .null]) (by decide +kernel) rfl (Nat.le_of_ble_eq_true rfl) kn_1 rfl (pn 161 rfl ?_)
      refine s_goto (off := -138) (tgt := 23) (by decide +kernel) rfl ?_
      exact pm_weak [.ref 58, .int l1, .int l2, .int l3, .int (l4 + 1), .null, .null, .null, .null] (pm_le_cons (Or.inr rfl) (pm_le_cons (Or.inr rfl) (pm_le_cons (Or.inr rfl) (pm_le_cons (Or.inr rfl) (pm_le_cons (Or.inr rfl) (pm_le_cons (Or.inl rfl) (pm_le_cons (Or.inl rfl) (pm_le_cons (Or.inl rfl) (pm_le_cons (Or.inl rfl) pm_le_nil))))))))) h
    · have h := h.2 c5
      refine s_iload (i := 5) (by decide +kernel) rfl (pn 83 rfl ?_)
      refine t_bipush (by decide +kernel) kb_14 (pn 85 rfl ?_)
      refine s_icmp_ge (off := 73) (tgt := 158) (by decide +kernel) rfl (fun c8 => ?_) (fun c8 => (pn 88 rfl ?_))
      · have h := h.1 c8
        refine t_iinc (i := 4) (n := 1) (ls' := [.ref 58, .int l1, .int l2, .int l3, .int (l4 + 1), .int l5, .int l6, .null, .null]) (by decide +kernel) rfl (Nat.le_of_ble_eq_true rfl) kn_1 rfl (pn 161 rfl ?_)
        refine s_goto (off := -138) (tgt := 23) (by decide +kernel) rfl ?_
        exact pm_weak [.ref 58, .int l1, .int l2, .int l3, .int (l4 + 1), .null, .null, .null, .null] (pm_le_cons (Or.inr rfl) (pm_le_cons (Or.inr rfl) (pm_le_cons (Or.inr rfl) (pm_le_cons (Or.inr rfl) (pm_le_cons (Or.inr rfl) (pm_le_cons (Or.inl rfl) (pm_le_cons (Or.inl rfl) (pm_le_cons (Or.inl rfl) (pm_le_cons (Or.inl rfl) pm_le_nil))))))))) h
      · have h := h.2 c8
        refine s_iload (i := 6) (by decide +kernel) rfl (pn 90 rfl ?_)
        have k1 : ∀ (z1 : Int32) (z1e : z1 = ((if l6 = 0 then l4 else 0) : Int32)), wN_reachesBehind d 99 [.ref 58, .int l1, .int l2, .int l3, .int l4, .int l5, .int l6, .null, .null] [.int z1] s M Q := by
          intro z1 z1e
          subst z1e
          exact h
        refine t_if_ne (off := 8) (tgt := 98) (by decide +kernel) rfl (fun c10 => ?_) (fun c10 => (pn 93 rfl ?_))
        · refine t_iconst (by decide +kernel) ki_0 (pn 99 rfl ?_)
          exact k1 _ (by simp only [if_neg c10])
        · refine s_iload (i := 4) (by decide +kernel) rfl (pn 95 rfl ?_)
          refine s_goto (off := 4) (tgt := 99) (by decide +kernel) rfl ?_
          exact k1 _ (by simp only [if_pos c10])
theorem sgN_reachesBehind_99 {d : Nat} {s : pm_S} {M : pm_M} {l1 : Int32} {l2 : Int32} {l3 : Int32} {l4 : Int32} {l5 : Int32} {l6 : Int32} {t0 : Int32} {Q : Int32 → pm_S → pm_M → Prop}  (h : cI d yN_burdenAt [.ref 58, .int l1, .int t0] s M (fun r1 s1 M1 => ((((M1.1 58 8) < (t0 + r1)) → wN_reachesBehind d 68 [.ref 58, .int l1, .int l2, .int l3, .int l4, .int l5, .int (l6 + 1), .null, .null] [] s1 M1 Q) ∧ (¬ ((M1.1 58 8) < (t0 + r1)) → cI d yN_furtherDays [.ref 58, .int (l2 ^^^ ((1 : Int32) <<< (l1 &&& 31))), .int (t0 + r1), .int 0] s1 M1 (fun r2 s2 M2 => ((r2 = (l5 - l6) → ((s2.2.2.1 = 62) ∨ (s2.2.2.1 = 63)) ∧ vp_in (t0 + r1) 100 ∧ wN_reachesBehind d 68 [.ref 58, .int l1, .int l2, .int 1, .int l4, .int l5, .int (l6 + 1), .null, .null] [] s2 (pm_si M2 s2.2.2.1 (t0 + r1).toNatClampNeg 1) Q) ∧ (¬ (r2 = (l5 - l6)) → wN_reachesBehind d 68 [.ref 58, .int l1, .int l2, .int l3, .int l4, .int l5, .int (l6 + 1), .null, .null] [] s2 M2 Q))))))) : wN_reachesBehind d 99 [.ref 58, .int l1, .int l2, .int l3, .int l4, .int l5, .int l6, .null, .null] [.int t0] s M Q := by
  refine s_istore (i := 7) (by decide +kernel) (Nat.le_of_ble_eq_true rfl) (pn 101 rfl (t_store (ls' := [.ref 58, .int l1, .int l2, .int l3, .int l4, .int l5, .int l6, .int t0, .null]) rfl ?_))
  refine s_iload (i := 7) (by decide +kernel) rfl (pn 103 rfl ?_)
  refine s_aload_n (i := 0) (by decide +kernel) rfl (pn 104 rfl ?_)
  refine s_iload_n (i := 1) (by decide +kernel) rfl (pn 105 rfl ?_)
  refine s_iload (i := 7) (by decide +kernel) rfl (pn 107 rfl ?_)
  refine s_callvI [.int l1, .int t0] rfl (by decide +kernel) mv_5_86 np_47 (Nat.le_of_ble_eq_true rfl) lq_58 ((congrArg Prod.fst sh_58).trans oc_47) (cI_use h (fun r1 s1 M1 h => (pn 110 rfl ?_)))
  refine s_iadd (by decide +kernel) (pn 111 rfl ?_)
  refine s_istore (i := 8) (by decide +kernel) (Nat.le_of_ble_eq_true rfl) (pn 113 rfl (t_store (ls' := [.ref 58, .int l1, .int l2, .int l3, .int l4, .int l5, .int l6, .int t0, .int (t0 + r1)]) rfl ?_))
  refine s_iload (i := 8) (by decide +kernel) rfl (pn 115 rfl ?_)
  refine s_aload_n (i := 0) (by decide +kernel) rfl (pn 116 rfl ?_)
  refine s_getfield (v := .int (M1.1 58 8)) (by decide +kernel) fr_5_59 lq_58 (congrArg Prod.fst sh_58) rfl (pn 119 rfl ?_)
  refine s_icmp_gt (off := 33) (tgt := 152) (by decide +kernel) rfl (fun c1 => ?_) (fun c1 => (pn 122 rfl ?_))
  · have h := h.1 c1
    refine t_iinc (i := 6) (n := 1) (ls' := [.ref 58, .int l1, .int l2, .int l3, .int l4, .int l5, .int (l6 + 1), .int t0, .int (t0 + r1)]) (by decide +kernel) rfl (Nat.le_of_ble_eq_true rfl) kn_1 rfl (pn 155 rfl ?_)
    refine s_goto (off := -87) (tgt := 68) (by decide +kernel) rfl ?_
    exact pm_weak [.ref 58, .int l1, .int l2, .int l3, .int l4, .int l5, .int (l6 + 1), .null, .null] (pm_le_cons (Or.inr rfl) (pm_le_cons (Or.inr rfl) (pm_le_cons (Or.inr rfl) (pm_le_cons (Or.inr rfl) (pm_le_cons (Or.inr rfl) (pm_le_cons (Or.inr rfl) (pm_le_cons (Or.inr rfl) (pm_le_cons (Or.inl rfl) (pm_le_cons (Or.inl rfl) pm_le_nil))))))))) h
  · have h := h.2 c1
    refine s_aload_n (i := 0) (by decide +kernel) rfl (pn 123 rfl ?_)
    refine s_iload_n (i := 2) (by decide +kernel) rfl (pn 124 rfl ?_)
    refine t_iconst (by decide +kernel) ki_1 (pn 125 rfl ?_)
    refine s_iload_n (i := 1) (by decide +kernel) rfl (pn 126 rfl ?_)
    refine s_ishl (by decide +kernel) (pn 127 rfl ?_)
    refine s_ixor (by decide +kernel) (pn 128 rfl ?_)
    refine s_iload (i := 8) (by decide +kernel) rfl (pn 130 rfl ?_)
    refine t_iconst (by decide +kernel) ki_0 (pn 131 rfl ?_)
    refine s_callvI [.int (l2 ^^^ ((1 : Int32) <<< (l1 &&& 31))), .int (t0 + r1), .int 0] rfl (by decide +kernel) mv_5_70 np_46 (Nat.le_of_ble_eq_true rfl) lq_58 ((congrArg Prod.fst sh_58).trans oc_46) (cI_use h (fun r2 s2 M2 h => (pn 134 rfl ?_)))
    refine s_iload (i := 5) (by decide +kernel) rfl (pn 136 rfl ?_)
    refine s_iload (i := 6) (by decide +kernel) rfl (pn 138 rfl ?_)
    refine s_isub (by decide +kernel) (pn 139 rfl ?_)
    refine t_icmp_ne (off := 13) (tgt := 152) (by decide +kernel) rfl (fun c2 => ?_) (fun c2 => (pn 142 rfl ?_))
    · have h := h.2 c2
      refine t_iinc (i := 6) (n := 1) (ls' := [.ref 58, .int l1, .int l2, .int l3, .int l4, .int l5, .int (l6 + 1), .int t0, .int (t0 + r1)]) (by decide +kernel) rfl (Nat.le_of_ble_eq_true rfl) kn_1 rfl (pn 155 rfl ?_)
      refine s_goto (off := -87) (tgt := 68) (by decide +kernel) rfl ?_
      exact pm_weak [.ref 58, .int l1, .int l2, .int l3, .int l4, .int l5, .int (l6 + 1), .null, .null] (pm_le_cons (Or.inr rfl) (pm_le_cons (Or.inr rfl) (pm_le_cons (Or.inr rfl) (pm_le_cons (Or.inr rfl) (pm_le_cons (Or.inr rfl) (pm_le_cons (Or.inr rfl) (pm_le_cons (Or.inr rfl) (pm_le_cons (Or.inl rfl) (pm_le_cons (Or.inl rfl) pm_le_nil))))))))) h
    · have h := h.1 c2
      refine s_aload_n (i := 0) (by decide +kernel) rfl (pn 143 rfl ?_)
      obtain ⟨b1, h⟩ := h
      refine s_getfield (v := .ref s2.2.2.1) (by decide +kernel) fr_5_24 lq_58 (congrArg Prod.fst sh_58) (fv_ref pf_58_4) (pn 146 rfl ?_)
      refine s_iload (i := 8) (by decide +kernel) rfl (pn 148 rfl ?_)
      refine t_iconst (by decide +kernel) ki_1 (pn 149 rfl ?_)
      obtain ⟨b2, h⟩ := h
      refine t_iastore (k := (t0 + r1).toNatClampNeg) (by decide +kernel) ⟨(mut_lt58 b1), congrArg Prod.fst (mut_sh58 b1)⟩ (al_in (mut_sh58 b1) b2) rfl (pn 150 rfl ?_)
      refine t_iconst (by decide +kernel) ki_1 (pn 151 rfl ?_)
      refine s_istore_n (i := 3) (by decide +kernel) (Nat.le_of_ble_eq_true rfl) (pn 152 rfl (t_store (ls' := [.ref 58, .int l1, .int l2, .int 1, .int l4, .int l5, .int l6, .int t0, .int (t0 + r1)]) rfl ?_))
      refine t_iinc (i := 6) (n := 1) (ls' := [.ref 58, .int l1, .int l2, .int 1, .int l4, .int l5, .int (l6 + 1), .int t0, .int (t0 + r1)]) (by decide +kernel) rfl (Nat.le_of_ble_eq_true rfl) kn_1 rfl (pn 155 rfl ?_)
      refine s_goto (off := -87) (tgt := 68) (by decide +kernel) rfl ?_
      exact pm_weak [.ref 58, .int l1, .int l2, .int 1, .int l4, .int l5, .int (l6 + 1), .null, .null] (pm_le_cons (Or.inr rfl) (pm_le_cons (Or.inr rfl) (pm_le_cons (Or.inr rfl) (pm_le_cons (Or.inr rfl) (pm_le_cons (Or.inr rfl) (pm_le_cons (Or.inr rfl) (pm_le_cons (Or.inr rfl) (pm_le_cons (Or.inl rfl) (pm_le_cons (Or.inl rfl) pm_le_nil))))))))) h
abbrev wN_orderAt (d pc : Nat) (ls st : List Value) (s : pm_S) (M : pm_M) (Q : Int32 → pm_S → pm_M → Prop) : Prop := wI d prog_7_method_5_code 5 (some .int) false pc ls st s M Q
theorem enN_orderAt {d : Nat} {s : pm_S} {M : pm_M} {x1 : Int32} {Q : Int32 → pm_S → pm_M → Prop}  (h : (¬ (x1 < 0) → (¬ (8 ≤ x1) → vp_in x1 8)) ∧ Q ((if x1 < 0 then (-1) else (if 8 ≤ x1 then (-1) else (M.1 59 x1.toNatClampNeg))) : Int32) s M) : cI (d + 1) yN_orderAt [.ref 58, .int x1] s M Q := by
  refine pm_toI (by decide) (Nat.le_of_ble_eq_true rfl) ?_
  show wN_orderAt d 0 [.ref 58, .int x1] [] s M Q
  refine s_iload_n (i := 1) (by decide +kernel) rfl (pn 1 rfl ?_)
  obtain ⟨b1, h⟩ := h
  have k1 : ∀ (z1 : Int32) (z1e : z1 = ((if x1 < 0 then (-1) else (if 8 ≤ x1 then (-1) else (M.1 59 x1.toNatClampNeg))) : Int32)), wN_orderAt d 20 [.ref 58, .int x1] [.int z1] s M Q := by
    intro z1 z1e
    subst z1e
    exact s_ireturn (st := []) (by decide +kernel) (Or.inl rfl) ⟨_, rfl, s, rfl, h⟩
  refine s_if_lt (off := 18) (tgt := 19) (by decide +kernel) rfl (fun c1 => ?_) (fun c1 => (pn 4 rfl ?_))
  · refine t_iconst (by decide +kernel) ki_m1 (pn 20 rfl ?_)
    exact k1 _ (by simp only [if_pos c1])
  · refine s_iload_n (i := 1) (by decide +kernel) rfl (pn 5 rfl ?_)
    refine t_bipush (by decide +kernel) kb_8 (pn 7 rfl ?_)
    refine s_icmp_ge (off := 12) (tgt := 19) (by decide +kernel) rfl (fun c2 => ?_) (fun c2 => (pn 10 rfl ?_))
    · refine t_iconst (by decide +kernel) ki_m1 (pn 20 rfl ?_)
      exact k1 _ (by simp only [if_neg c1, if_pos c2])
    · refine s_aload_n (i := 0) (by decide +kernel) rfl (pn 11 rfl ?_)
      refine s_getfield (v := .ref 59) (by decide +kernel) fr_5_9 lq_58 (congrArg Prod.fst sh_58) (fv_ref pf_58_0) (pn 14 rfl ?_)
      refine s_iload_n (i := 1) (by decide +kernel) rfl (pn 15 rfl ?_)
      refine t_iaload (v := M.1 59 x1.toNatClampNeg) (by decide +kernel) ⟨Or.inl lq_59, congrArg Prod.fst sh_59⟩ (al_in sh_59 (b1 c1 c2)) rfl (pn 16 rfl ?_)
      refine s_goto (off := 4) (tgt := 20) (by decide +kernel) rfl ?_
      exact k1 _ (by simp only [if_neg c1, if_neg c2])
abbrev wN_mostInADay (d pc : Nat) (ls st : List Value) (s : pm_S) (M : pm_M) (Q : Int32 → pm_S → pm_M → Prop) : Prop := wI d prog_7_method_4_code 5 (some .int) false pc ls st s M Q
theorem enN_mostInADay {d : Nat} {s : pm_S} {M : pm_M} {x1 : Int32} {Q : Int32 → pm_S → pm_M → Prop}  (h : wN_mostInADay d 4 [.ref 58, .int x1, .int 0, .int 1] [] s M Q) : cI (d + 1) yN_mostInADay [.ref 58, .int x1] s M Q := by
  refine pm_toI (by decide) (Nat.le_of_ble_eq_true rfl) ?_
  show wN_mostInADay d 0 [.ref 58, .int x1, .null, .null] [] s M Q
  refine t_iconst (by decide +kernel) ki_0 (pn 1 rfl ?_)
  refine s_istore_n (i := 2) (by decide +kernel) (Nat.le_of_ble_eq_true rfl) (pn 2 rfl (t_store (ls' := [.ref 58, .int x1, .int 0, .null]) rfl ?_))
  refine t_iconst (by decide +kernel) ki_1 (pn 3 rfl ?_)
  refine s_istore_n (i := 3) (by decide +kernel) (Nat.le_of_ble_eq_true rfl) (pn 4 rfl (t_store (ls' := [.ref 58, .int x1, .int 0, .int 1]) rfl ?_))
  exact h
theorem sgN_mostInADay_4 {d : Nat} {s : pm_S} {M : pm_M} {l1 : Int32} {l2 : Int32} {l3 : Int32} {Q : Int32 → pm_S → pm_M → Prop}  (h : (((l1 < l3) → Q l2 s M) ∧ (¬ (l1 < l3) → (((256 ≤ l3) → Q l2 s M) ∧ (¬ (256 ≤ l3) → (((l3 &&& (l1 ^^^ (-1))) = 0 → cI d yint_bitCount [.int l3] s M (fun r1 s1 M1 => cI d yint_bitCount [.int l2] s1 M1 (fun r2 s2 M2 => (((r1 ≤ r2) → wN_mostInADay d 4 [.ref 58, .int l1, .int l2, .int (l3 + 1)] [] s2 M2 Q) ∧ (¬ (r1 ≤ r2) → cI d yN_furtherDays [.ref 58, .int l3, .int 0, .int 0] s2 M2 (fun r3 s3 M3 => wN_mostInADay d 4 [.ref 58, .int l1, .int ((if r3 = 0 then l3 else l2) : Int32), .int (l3 + 1)] [] s3 M3 Q)))))) ∧ (¬ ((l3 &&& (l1 ^^^ (-1))) = 0) → wN_mostInADay d 4 [.ref 58, .int l1, .int l2, .int (l3 + 1)] [] s M Q))))))) : wN_mostInADay d 4 [.ref 58, .int l1, .int l2, .int l3] [] s M Q := by
  refine s_iload_n (i := 3) (by decide +kernel) rfl (pn 5 rfl ?_)
  refine s_iload_n (i := 1) (by decide +kernel) rfl (pn 6 rfl ?_)
  refine s_icmp_gt (off := 47) (tgt := 53) (by decide +kernel) rfl (fun c1 => ?_) (fun c1 => (pn 9 rfl ?_))
  · have h := h.1 c1
    refine s_iload_n (i := 2) (by decide +kernel) rfl (pn 54 rfl ?_)
    exact s_ireturn (st := []) (by decide +kernel) (Or.inl rfl) ⟨_, rfl, s, rfl, h⟩
  · have h := h.2 c1
    refine s_iload_n (i := 3) (by decide +kernel) rfl (pn 10 rfl ?_)
    refine t_sipush (by decide +kernel) ks_256 (pn 13 rfl ?_)
    refine s_icmp_ge (off := 40) (tgt := 53) (by decide +kernel) rfl (fun c4 => ?_) (fun c4 => (pn 16 rfl ?_))
    · have h := h.1 c4
      refine s_iload_n (i := 2) (by decide +kernel) rfl (pn 54 rfl ?_)
      exact s_ireturn (st := []) (by decide +kernel) (Or.inl rfl) ⟨_, rfl, s, rfl, h⟩
    · have h := h.2 c4
      refine s_iload_n (i := 3) (by decide +kernel) rfl (pn 17 rfl ?_)
      refine s_iload_n (i := 1) (by decide +kernel) rfl (pn 18 rfl ?_)
      refine t_iconst (by decide +kernel) ki_m1 (pn 19 rfl ?_)
      refine s_ixor (by decide +kernel) (pn 20 rfl ?_)
      refine s_iand (by decide +kernel) (pn 21 rfl ?_)
      refine t_if_ne (off := 26) (tgt := 47) (by decide +kernel) rfl (fun c6 => ?_) (fun c6 => (pn 24 rfl ?_))
      · have h := h.2 c6
        refine t_iinc (i := 3) (n := 1) (ls' := [.ref 58, .int l1, .int l2, .int (l3 + 1)]) (by decide +kernel) rfl (Nat.le_of_ble_eq_true rfl) kn_1 rfl (pn 50 rfl ?_)
        refine s_goto (off := -46) (tgt := 4) (by decide +kernel) rfl ?_
        exact h
      · have h := h.1 c6
        refine s_iload_n (i := 3) (by decide +kernel) rfl (pn 25 rfl ?_)
        refine s_callsI [.int l3] rfl (by decide +kernel) ms_5_74 np_322 (Nat.le_of_ble_eq_true rfl) (cI_use h (fun r1 s1 M1 h => (pn 28 rfl ?_)))
        refine s_iload_n (i := 2) (by decide +kernel) rfl (pn 29 rfl ?_)
        refine s_callsI [.int l2] rfl (by decide +kernel) ms_5_74 np_322 (Nat.le_of_ble_eq_true rfl) (cI_use h (fun r2 s2 M2 h => (pn 32 rfl ?_)))
        refine s_icmp_le (off := 15) (tgt := 47) (by decide +kernel) rfl (fun c7 => ?_) (fun c7 => (pn 35 rfl ?_))
        · have h := h.1 c7
          refine t_iinc (i := 3) (n := 1) (ls' := [.ref 58, .int l1, .int l2, .int (l3 + 1)]) (by decide +kernel) rfl (Nat.le_of_ble_eq_true rfl) kn_1 rfl (pn 50 rfl ?_)
          refine s_goto (off := -46) (tgt := 4) (by decide +kernel) rfl ?_
          exact h
        · have h := h.2 c7
          refine s_aload_n (i := 0) (by decide +kernel) rfl (pn 36 rfl ?_)
          refine s_iload_n (i := 3) (by decide +kernel) rfl (pn 37 rfl ?_)
          refine t_iconst (by decide +kernel) ki_0 (pn 38 rfl ?_)
          refine t_iconst (by decide +kernel) ki_0 (pn 39 rfl ?_)
          refine s_callvI [.int l3, .int 0, .int 0] rfl (by decide +kernel) mv_5_70 np_46 (Nat.le_of_ble_eq_true rfl) lq_58 ((congrArg Prod.fst sh_58).trans oc_46) (cI_use h (fun r3 s3 M3 h => (pn 42 rfl ?_)))
          have k1 : ∀ (z1 : Int32) (z1e : z1 = ((if r3 = 0 then l3 else l2) : Int32)), wN_mostInADay d 47 [.ref 58, .int l1, .int z1, .int l3] [] s3 M3 Q := by
            intro z1 z1e
            subst z1e
            refine t_iinc (i := 3) (n := 1) (ls' := [.ref 58, .int l1, .int ((if r3 = 0 then l3 else l2) : Int32), .int (l3 + 1)]) (by decide +kernel) rfl (Nat.le_of_ble_eq_true rfl) kn_1 rfl (pn 50 rfl ?_)
            refine s_goto (off := -46) (tgt := 4) (by decide +kernel) rfl ?_
            exact h
          refine t_if_ne (off := 5) (tgt := 47) (by decide +kernel) rfl (fun c8 => ?_) (fun c8 => (pn 45 rfl ?_))
          · exact k1 _ (by simp only [if_neg c8])
          · refine s_iload_n (i := 3) (by decide +kernel) rfl (pn 46 rfl ?_)
            refine s_istore_n (i := 2) (by decide +kernel) (Nat.le_of_ble_eq_true rfl) (pn 47 rfl (t_store (ls' := [.ref 58, .int l1, .int l3, .int l3]) rfl ?_))
            exact k1 _ (by simp only [if_pos c8])
abbrev wO_spread (d pc : Nat) (ls st : List Value) (s : pm_S) (M : pm_M) (Q : pm_S → pm_M → Prop) : Prop := wV d prog_6_method_2_code 4 none false pc ls st s M Q
theorem enO_spread {d : Nat} {s : pm_S} {M : pm_M} {t : Nat} {x4 : Int32} {Q : pm_S → pm_M → Prop} (ht : isY t) (h : ((s.2.2.2.2.1 = 65) ∨ (s.2.2.2.2.1 = 66)) ∧ cV d yarr_fill_JJ [.ref s.2.2.2.2.1, .long 0] s M (fun s1 M1 => ((s1.2.2.2.2.1 = 65) ∨ (s1.2.2.2.2.1 = 66)) ∧ wO_spread d 23 [.ref 64, .ref 15, .ref 27, .ref t, .int x4, .int 0, .null, .null, .null] [] s1 (pm_sj (pm_sj M1 s1.2.2.2.2.1 0 1) 64 0 1) Q)) : cV (d + 1) yO_spread [.ref 64, .ref 15, .ref 27, .ref t, .int x4] s M Q := by
  refine pm_toV (by decide) (Nat.le_of_ble_eq_true rfl) ?_
  show wO_spread d 0 [.ref 64, .ref 15, .ref 27, .ref t, .int x4, .null, .null, .null, .null] [] s M Q
  refine s_aload_n (i := 0) (by decide +kernel) rfl (pn 1 rfl ?_)
  obtain ⟨b1, h⟩ := h
  refine s_getfield (v := .ref s.2.2.2.2.1) (by decide +kernel) fr_4_11 lq_64 (congrArg Prod.fst sh_64) (fv_ref pf_64_1) (pn 4 rfl ?_)
  refine t_lconst (n := 0) (v := 0) (by decide +kernel) rfl (pn 5 rfl ?_)
  refine s_callsV [.ref s.2.2.2.2.1, .long 0] rfl (by decide +kernel) ms_4_18 np_329 (Nat.le_of_ble_eq_true rfl) (cV_use h (fun s1 M1 h => (pn 8 rfl ?_)))
  refine s_aload_n (i := 0) (by decide +kernel) rfl (pn 9 rfl ?_)
  obtain ⟨b2, h⟩ := h
  refine s_getfield (v := .ref s1.2.2.2.2.1) (by decide +kernel) fr_4_11 lq_64 (congrArg Prod.fst sh_64) (fv_ref pf_64_1) (pn 12 rfl ?_)
  refine t_iconst (by decide +kernel) ki_0 (pn 13 rfl ?_)
  refine t_lconst (n := 1) (v := 1) (by decide +kernel) rfl (pn 14 rfl ?_)
  refine t_lastore (k := 0) (by decide +kernel) ⟨(mut_lt64 b2), congrArg Prod.fst (mut_sh64 b2)⟩ (al_in (mut_sh64 b2) (vp_lit (n := 1000) tn_0 (by decide) (by decide))) tn_0 (pn 15 rfl ?_)
  refine s_aload_n (i := 0) (by decide +kernel) rfl (pn 16 rfl ?_)
  refine t_lconst (n := 1) (v := 1) (by decide +kernel) rfl (pn 17 rfl ?_)
  refine s_putfieldL (by decide +kernel) fr_4_24 lq_64 (congrArg Prod.fst sh_64) (fun q => by cases q) rfl (pn 20 rfl ?_)
  refine t_iconst (by decide +kernel) ki_0 (pn 21 rfl ?_)
  refine s_istore (i := 5) (by decide +kernel) (Nat.le_of_ble_eq_true rfl) (pn 23 rfl (t_store (ls' := [.ref 64, .ref 15, .ref 27, .ref t, .int x4, .int 0, .null, .null, .null]) rfl ?_))
  exact h
theorem sgO_spread_23 {d : Nat} {s : pm_S} {M : pm_M} {l4 : Int32} {l5 : Int32} {t : Nat} {Q : pm_S → pm_M → Prop} (ht : isY t) (h : ((((M.1 t 2) ≤ l5) → Q s M) ∧ (¬ ((M.1 t 2) ≤ l5) → (((10 ≤ l5) → Q s M) ∧ (¬ (10 ≤ l5) → ((s.2.2.2.2.2 = 65) ∨ (s.2.2.2.2.2 = 66)) ∧ cV d yarr_fill_JJ [.ref s.2.2.2.2.2, .long 0] s M (fun s1 M1 => cL d yY_at [.ref t, .int l5] s1 M1 (fun r1 s2 M2 => wO_spread d 59 [.ref 64, .ref 15, .ref 27, .ref t, .int l4, .int l5, .int (r1.toInt32), .int 0, .null] [] s2 M2 Q))))))) : wO_spread d 23 [.ref 64, .ref 15, .ref 27, .ref t, .int l4, .int l5, .null, .null, .null] [] s M Q := by
  refine s_iload (i := 5) (by decide +kernel) rfl (pn 25 rfl ?_)
  refine s_aload_n (i := 3) (by decide +kernel) rfl (pn 26 rfl ?_)
  refine s_getfield (v := .int (M.1 t 2)) (by decide +kernel) fr_4_28 (ltY_0 ht) (congrArg Prod.fst (shY_0 ht)) rfl (pn 29 rfl ?_)
  refine s_icmp_ge (off := 181) (tgt := 210) (by decide +kernel) rfl (fun c1 => ?_) (fun c1 => (pn 32 rfl ?_))
  · have h := h.1 c1
    exact s_return (st := []) (by decide +kernel) rfl ⟨rfl, s, rfl, h⟩
  · have h := h.2 c1
    refine s_iload (i := 5) (by decide +kernel) rfl (pn 34 rfl ?_)
    refine t_bipush (by decide +kernel) kb_10 (pn 36 rfl ?_)
    refine s_icmp_ge (off := 174) (tgt := 210) (by decide +kernel) rfl (fun c3 => ?_) (fun c3 => (pn 39 rfl ?_))
    · have h := h.1 c3
      exact s_return (st := []) (by decide +kernel) rfl ⟨rfl, s, rfl, h⟩
    · have h := h.2 c3
      refine s_aload_n (i := 0) (by decide +kernel) rfl (pn 40 rfl ?_)
      obtain ⟨b1, h⟩ := h
      refine s_getfield (v := .ref s.2.2.2.2.2) (by decide +kernel) fr_4_15 lq_64 (congrArg Prod.fst sh_64) (fv_ref pf_64_2) (pn 43 rfl ?_)
      refine t_lconst (n := 0) (v := 0) (by decide +kernel) rfl (pn 44 rfl ?_)
      refine s_callsV [.ref s.2.2.2.2.2, .long 0] rfl (by decide +kernel) ms_4_18 np_329 (Nat.le_of_ble_eq_true rfl) (cV_use h (fun s1 M1 h => (pn 47 rfl ?_)))
      refine s_aload_n (i := 3) (by decide +kernel) rfl (pn 48 rfl ?_)
      refine s_iload (i := 5) (by decide +kernel) rfl (pn 50 rfl ?_)
      refine s_callvL [.int l5] rfl (by decide +kernel) mv_4_34 np_108 (Nat.le_of_ble_eq_true rfl) (ltY_0 ht) ((congrArg Prod.fst (shY_0 ht)).trans oc_108) (cL_use h (fun r1 s2 M2 h => (pn 53 rfl ?_)))
      refine s_l2i (by decide +kernel) (pn 54 rfl ?_)
      refine s_istore (i := 6) (by decide +kernel) (Nat.le_of_ble_eq_true rfl) (pn 56 rfl (t_store (ls' := [.ref 64, .ref 15, .ref 27, .ref t, .int l4, .int l5, .int (r1.toInt32), .null, .null]) rfl ?_))
      refine t_iconst (by decide +kernel) ki_0 (pn 57 rfl ?_)
      refine s_istore (i := 7) (by decide +kernel) (Nat.le_of_ble_eq_true rfl) (pn 59 rfl (t_store (ls' := [.ref 64, .ref 15, .ref 27, .ref t, .int l4, .int l5, .int (r1.toInt32), .int 0, .null]) rfl ?_))
      exact h
theorem sgO_spread_59 {d : Nat} {s : pm_S} {M : pm_M} {l4 : Int32} {l5 : Int32} {l6 : Int32} {l7 : Int32} {t : Nat} {Q : pm_S → pm_M → Prop} (ht : isY t) (h : ((((l5 * 99) < l7) → ((s.2.2.2.2.1 = 65) ∨ (s.2.2.2.2.1 = 66)) ∧ ((s.2.2.2.2.2 = 65) ∨ (s.2.2.2.2.2 = 66)) ∧ wO_spread d 23 [.ref 64, .ref 15, .ref 27, .ref t, .int l4, .int (l5 + 1), .null, .null, .null] [] (s.1, s.2.1, s.2.2.1, s.2.2.2.1, s.2.2.2.2.2, s.2.2.2.2.1) (pm_sj M 64 0 ((M.2 64 0) * 10)) Q) ∧ (¬ ((l5 * 99) < l7) → (((1000 ≤ l7) → ((s.2.2.2.2.1 = 65) ∨ (s.2.2.2.2.1 = 66)) ∧ ((s.2.2.2.2.2 = 65) ∨ (s.2.2.2.2.2 = 66)) ∧ wO_spread d 23 [.ref 64, .ref 15, .ref 27, .ref t, .int l4, .int (l5 + 1), .null, .null, .null] [] (s.1, s.2.1, s.2.2.1, s.2.2.2.1, s.2.2.2.2.2, s.2.2.2.2.1) (pm_sj M 64 0 ((M.2 64 0) * 10)) Q) ∧ (¬ (1000 ≤ l7) → ((s.2.2.2.2.1 = 65) ∨ (s.2.2.2.2.1 = 66)) ∧ vp_in l7 1000 ∧ ((((M.2 s.2.2.2.2.1 l7.toNatClampNeg) = 0) → wO_spread d 59 [.ref 64, .ref 15, .ref 27, .ref t, .int l4, .int l5, .int l6, .int (l7 + 1), .null] [] s M Q) ∧ (¬ ((M.2 s.2.2.2.2.1 l7.toNatClampNeg) = 0) → cI d yS_markOf [.ref 27, .int l4] s M (fun r1 s1 M1 => cI d yL_burdenOf [.ref 15, .int r1, .int l4, .int l6, .int 0, .int l7] s1 M1 (fun r2 s2 M2 => ((s2.2.2.2.2.1 = 65) ∨ (s2.2.2.2.2.1 = 66)) ∧ vp_in l7 1000 ∧ cV d yO_add [.ref 64, .int (l7 + r2), .long ((M2.2 s2.2.2.2.2.1 l7.toNatClampNeg) * (((10 : Int32) - (M2.1 15 4)).toInt64))] s2 M2 (fun s3 M3 => cI d yL_burdenOf [.ref 15, .int r1, .int l4, .int l6, .int 1, .int l7] s3 M3 (fun r3 s4 M4 => ((s4.2.2.2.2.1 = 65) ∨ (s4.2.2.2.2.1 = 66)) ∧ vp_in l7 1000 ∧ cV d yO_add [.ref 64, .int (l7 + r3), .long ((M4.2 s4.2.2.2.2.1 l7.toNatClampNeg) * ((M4.1 15 4).toInt64))] s4 M4 (fun s5 M5 => wO_spread d 59 [.ref 64, .ref 15, .ref 27, .ref t, .int l4, .int l5, .int l6, .int (l7 + 1), .null] [] s5 M5 Q)))))))))))) : wO_spread d 59 [.ref 64, .ref 15, .ref 27, .ref t, .int l4, .int l5, .int l6, .int l7, .null] [] s M Q := by
  refine s_iload (i := 7) (by decide +kernel) rfl (pn 61 rfl ?_)
  refine s_iload (i := 5) (by decide +kernel) rfl (pn 63 rfl ?_)
  refine t_bipush (by decide +kernel) kb_99 (pn 65 rfl ?_)
  refine s_imul (by decide +kernel) (pn 66 rfl ?_)
  refine s_icmp_gt (off := 106) (tgt := 172) (by decide +kernel) rfl (fun c1 => ?_) (fun c1 => (pn 69 rfl ?_))
  · have h := h.1 c1
    refine s_aload_n (i := 0) (by decide +kernel) rfl (pn 173 rfl ?_)
    obtain ⟨b1, h⟩ := h
    refine s_getfield (v := .ref s.2.2.2.2.1) (by decide +kernel) fr_4_11 lq_64 (congrArg Prod.fst sh_64) (fv_ref pf_64_1) (pn 176 rfl ?_)
    refine s_astore (i := 7) (by decide +kernel) (Nat.le_of_ble_eq_true rfl) (pn 178 rfl (t_store (ls' := [.ref 64, .ref 15, .ref 27, .ref t, .int l4, .int l5, .int l6, .ref s.2.2.2.2.1, .null]) rfl ?_))
    refine s_aload_n (i := 0) (by decide +kernel) rfl (pn 179 rfl ?_)
    refine s_aload_n (i := 0) (by decide +kernel) rfl (pn 180 rfl ?_)
    obtain ⟨b2, h⟩ := h
    refine s_getfield (v := .ref s.2.2.2.2.2) (by decide +kernel) fr_4_15 lq_64 (congrArg Prod.fst sh_64) (fv_ref pf_64_2) (pn 183 rfl ?_)
    refine s_putfieldA (by decide +kernel) fr_4_11 lq_64 (congrArg Prod.fst sh_64) (fun q => by cases q) rfl (pn 186 rfl (sp_64_1 (s' := (s.1, s.2.1, s.2.2.1, s.2.2.2.1, s.2.2.2.2.2, s.2.2.2.2.2)) rfl ?_))
    refine s_aload_n (i := 0) (by decide +kernel) rfl (pn 187 rfl ?_)
    refine s_aload (i := 7) (by decide +kernel) rfl (pn 189 rfl ?_)
    refine s_putfieldA (by decide +kernel) fr_4_15 lq_64 (congrArg Prod.fst sh_64) (fun q => by cases q) rfl (pn 192 rfl (sp_64_2 (s' := (s.1, s.2.1, s.2.2.1, s.2.2.2.1, s.2.2.2.2.2, s.2.2.2.2.1)) rfl ?_))
    refine s_aload_n (i := 0) (by decide +kernel) rfl (pn 193 rfl ?_)
    refine s_dup (by decide +kernel) rfl (pn 194 rfl ?_)
    refine s_getfield (v := .long (M.2 64 0)) (by decide +kernel) fr_4_24 lq_64 (congrArg Prod.fst sh_64) rfl (pn 197 rfl ?_)
    refine s_ldc2_w (by decide +kernel) kl_4_57 (pn 200 rfl ?_)
    refine s_lmul (by decide +kernel) (pn 201 rfl ?_)
    refine s_putfieldL (by decide +kernel) fr_4_24 lq_64 (congrArg Prod.fst sh_64) (fun q => by cases q) rfl (pn 204 rfl ?_)
    refine t_iinc (i := 5) (n := 1) (ls' := [.ref 64, .ref 15, .ref 27, .ref t, .int l4, .int (l5 + 1), .int l6, .ref s.2.2.2.2.1, .null]) (by decide +kernel) rfl (Nat.le_of_ble_eq_true rfl) kn_1 rfl (pn 207 rfl ?_)
    refine s_goto (off := -184) (tgt := 23) (by decide +kernel) rfl ?_
    exact pm_weak [.ref 64, .ref 15, .ref 27, .ref t, .int l4, .int (l5 + 1), .null, .null, .null] (pm_le_cons (Or.inr rfl) (pm_le_cons (Or.inr rfl) (pm_le_cons (Or.inr rfl) (pm_le_cons (Or.inr rfl) (pm_le_cons (Or.inr rfl) (pm_le_cons (Or.inr rfl) (pm_le_cons (Or.inl rfl) (pm_le_cons (Or.inl rfl) (pm_le_cons (Or.inl rfl) pm_le_nil))))))))) h
  · have h := h.2 c1
    refine s_iload (i := 7) (by decide +kernel) rfl (pn 71 rfl ?_)
    refine t_sipush (by decide +kernel) ks_1000 (pn 74 rfl ?_)
    refine s_icmp_ge (off := 98) (tgt := 172) (by decide +kernel) rfl (fun c3 => ?_) (fun c3 => (pn 77 rfl ?_))
    · have h := h.1 c3
      refine s_aload_n (i := 0) (by decide +kernel) rfl (pn 173 rfl ?_)
      obtain ⟨b3, h⟩ := h
      refine s_getfield (v := .ref s.2.2.2.2.1) (by decide +kernel) fr_4_11 lq_64 (congrArg Prod.fst sh_64) (fv_ref pf_64_1) (pn 176 rfl ?_)
      refine s_astore (i := 7) (by decide +kernel) (Nat.le_of_ble_eq_true rfl) (pn 178 rfl (t_store (ls' := [.ref 64, .ref 15, .ref 27, .ref t, .int l4, .int l5, .int l6, .ref s.2.2.2.2.1, .null]) rfl ?_))
      refine s_aload_n (i := 0) (by decide +kernel) rfl (pn 179 rfl ?_)
      refine s_aload_n (i := 0) (by decide +kernel) rfl (pn 180 rfl ?_)
      obtain ⟨b4, h⟩ := h
      refine s_getfield (v := .ref s.2.2.2.2.2) (by decide +kernel) fr_4_15 lq_64 (congrArg Prod.fst sh_64) (fv_ref pf_64_2) (pn 183 rfl ?_)
      refine s_putfieldA (by decide +kernel) fr_4_11 lq_64 (congrArg Prod.fst sh_64) (fun q => by cases q) rfl (pn 186 rfl (sp_64_1 (s' := (s.1, s.2.1, s.2.2.1, s.2.2.2.1, s.2.2.2.2.2, s.2.2.2.2.2)) rfl ?_))
      refine s_aload_n (i := 0) (by decide +kernel) rfl (pn 187 rfl ?_)
      refine s_aload (i := 7) (by decide +kernel) rfl (pn 189 rfl ?_)
      refine s_putfieldA (by decide +kernel) fr_4_15 lq_64 (congrArg Prod.fst sh_64) (fun q => by cases q) rfl (pn 192 rfl (sp_64_2 (s' := (s.1, s.2.1, s.2.2.1, s.2.2.2.1, s.2.2.2.2.2, s.2.2.2.2.1)) rfl ?_))
      refine s_aload_n (i := 0) (by decide +kernel) rfl (pn 193 rfl ?_)
      refine s_dup (by decide +kernel) rfl (pn 194 rfl ?_)
      refine s_getfield (v := .long (M.2 64 0)) (by decide +kernel) fr_4_24 lq_64 (congrArg Prod.fst sh_64) rfl (pn 197 rfl ?_)
      refine s_ldc2_w (by decide +kernel) kl_4_57 (pn 200 rfl ?_)
      refine s_lmul (by decide +kernel) (pn 201 rfl ?_)
      refine s_putfieldL (by decide +kernel) fr_4_24 lq_64 (congrArg Prod.fst sh_64) (fun q => by cases q) rfl (pn 204 rfl ?_)
      refine t_iinc (i := 5) (n := 1) (ls' := [.ref 64, .ref 15, .ref 27, .ref t, .int l4, .int (l5 + 1), .int l6, .ref s.2.2.2.2.1, .null]) (by decide +kernel) rfl (Nat.le_of_ble_eq_true rfl) kn_1 rfl (pn 207 rfl ?_)
      refine s_goto (off := -184) (tgt := 23) (by decide +kernel) rfl ?_
      exact pm_weak [.ref 64, .ref 15, .ref 27, .ref t, .int l4, .int (l5 + 1), .null, .null, .null] (pm_le_cons (Or.inr rfl) (pm_le_cons (Or.inr rfl) (pm_le_cons (Or.inr rfl) (pm_le_cons (Or.inr rfl) (pm_le_cons (Or.inr rfl) (pm_le_cons (Or.inr rfl) (pm_le_cons (Or.inl rfl) (pm_le_cons (Or.inl rfl) (pm_le_cons (Or.inl rfl) pm_le_nil))))))))) h
    · have h := h.2 c3
      refine s_aload_n (i := 0) (by decide +kernel) rfl (pn 78 rfl ?_)
      obtain ⟨b5, h⟩ := h
      refine s_getfield (v := .ref s.2.2.2.2.1) (by decide +kernel) fr_4_11 lq_64 (congrArg Prod.fst sh_64) (fv_ref pf_64_1) (pn 81 rfl ?_)
      refine s_iload (i := 7) (by decide +kernel) rfl (pn 83 rfl ?_)
      obtain ⟨b6, h⟩ := h
      refine t_laload (v := M.2 s.2.2.2.2.1 l7.toNatClampNeg) (by decide +kernel) ⟨(mut_lt64 b5), congrArg Prod.fst (mut_sh64 b5)⟩ (al_in (mut_sh64 b5) b6) rfl (pn 84 rfl ?_)
      refine t_lconst (n := 0) (v := 0) (by decide +kernel) rfl (pn 85 rfl ?_)
      refine t_lc_eq (off := 80) (tgt := 166) (by decide +kernel) (by decide +kernel) rfl (fun c4 => ?_) (fun c4 => (pn 89 rfl ?_))
      · have h := h.1 c4
        refine t_iinc (i := 7) (n := 1) (ls' := [.ref 64, .ref 15, .ref 27, .ref t, .int l4, .int l5, .int l6, .int (l7 + 1), .null]) (by decide +kernel) rfl (Nat.le_of_ble_eq_true rfl) kn_1 rfl (pn 169 rfl ?_)
        refine s_goto (off := -110) (tgt := 59) (by decide +kernel) rfl ?_
        exact h
      · have h := h.2 c4
        refine s_aload_n (i := 2) (by decide +kernel) rfl (pn 90 rfl ?_)
        refine s_iload (i := 4) (by decide +kernel) rfl (pn 92 rfl ?_)
        refine s_callvI [.int l4] rfl (by decide +kernel) mv_4_38 np_90 (Nat.le_of_ble_eq_true rfl) lq_27 ((congrArg Prod.fst sh_27).trans oc_90) (cI_use h (fun r1 s1 M1 h => (pn 95 rfl ?_)))
        refine s_istore (i := 8) (by decide +kernel) (Nat.le_of_ble_eq_true rfl) (pn 97 rfl (t_store (ls' := [.ref 64, .ref 15, .ref 27, .ref t, .int l4, .int l5, .int l6, .int l7, .int r1]) rfl ?_))
        refine s_aload_n (i := 0) (by decide +kernel) rfl (pn 98 rfl ?_)
        refine s_iload (i := 7) (by decide +kernel) rfl (pn 100 rfl ?_)
        refine s_aload_n (i := 1) (by decide +kernel) rfl (pn 101 rfl ?_)
        refine s_iload (i := 8) (by decide +kernel) rfl (pn 103 rfl ?_)
        refine s_iload (i := 4) (by decide +kernel) rfl (pn 105 rfl ?_)
        refine s_iload (i := 6) (by decide +kernel) rfl (pn 107 rfl ?_)
        refine t_iconst (by decide +kernel) ki_0 (pn 108 rfl ?_)
        refine s_iload (i := 7) (by decide +kernel) rfl (pn 110 rfl ?_)
        refine s_callvI [.int r1, .int l4, .int l6, .int 0, .int l7] rfl (by decide +kernel) mv_4_44 np_34 (Nat.le_of_ble_eq_true rfl) lq_15 ((congrArg Prod.fst sh_15).trans oc_34) (cI_use h (fun r2 s2 M2 h => (pn 113 rfl ?_)))
        refine s_iadd (by decide +kernel) (pn 114 rfl ?_)
        refine s_aload_n (i := 0) (by decide +kernel) rfl (pn 115 rfl ?_)
        obtain ⟨b7, h⟩ := h
        refine s_getfield (v := .ref s2.2.2.2.2.1) (by decide +kernel) fr_4_11 lq_64 (congrArg Prod.fst sh_64) (fv_ref pf_64_1) (pn 118 rfl ?_)
        refine s_iload (i := 7) (by decide +kernel) rfl (pn 120 rfl ?_)
        obtain ⟨b8, h⟩ := h
        refine t_laload (v := M2.2 s2.2.2.2.2.1 l7.toNatClampNeg) (by decide +kernel) ⟨(mut_lt64 b7), congrArg Prod.fst (mut_sh64 b7)⟩ (al_in (mut_sh64 b7) b8) rfl (pn 121 rfl ?_)
        refine t_bipush (by decide +kernel) kb_10 (pn 123 rfl ?_)
        refine s_aload_n (i := 1) (by decide +kernel) rfl (pn 124 rfl ?_)
        refine s_getfield (v := .int (M2.1 15 4)) (by decide +kernel) fr_4_50 lq_15 (congrArg Prod.fst sh_15) rfl (pn 127 rfl ?_)
        refine s_isub (by decide +kernel) (pn 128 rfl ?_)
        refine s_i2l (by decide +kernel) (pn 129 rfl ?_)
        refine s_lmul (by decide +kernel) (pn 130 rfl ?_)
        refine s_callvV [.int (l7 + r2), .long ((M2.2 s2.2.2.2.2.1 l7.toNatClampNeg) * (((10 : Int32) - (M2.1 15 4)).toInt64))] rfl (by decide +kernel) mv_4_53 np_39 (Nat.le_of_ble_eq_true rfl) lq_64 ((congrArg Prod.fst sh_64).trans oc_39) (cV_use h (fun s3 M3 h => (pn 133 rfl ?_)))
        refine s_aload_n (i := 0) (by decide +kernel) rfl (pn 134 rfl ?_)
        refine s_iload (i := 7) (by decide +kernel) rfl (pn 136 rfl ?_)
        refine s_aload_n (i := 1) (by decide +kernel) rfl (pn 137 rfl ?_)
        refine s_iload (i := 8) (by decide +kernel) rfl (pn 139 rfl ?_)
        refine s_iload (i := 4) (by decide +kernel) rfl (pn 141 rfl ?_)
        refine s_iload (i := 6) (by decide +kernel) rfl (pn 143 rfl ?_)
        refine t_iconst (by decide +kernel) ki_1 (pn 144 rfl ?_)
        refine s_iload (i := 7) (by decide +kernel) rfl (pn 146 rfl ?_)
        refine s_callvI [.int r1, .int l4, .int l6, .int 1, .int l7] rfl (by decide +kernel) mv_4_44 np_34 (Nat.le_of_ble_eq_true rfl) lq_15 ((congrArg Prod.fst sh_15).trans oc_34) (cI_use h (fun r3 s4 M4 h => (pn 149 rfl ?_)))
        refine s_iadd (by decide +kernel) (pn 150 rfl ?_)
        refine s_aload_n (i := 0) (by decide +kernel) rfl (pn 151 rfl ?_)
        obtain ⟨b9, h⟩ := h
        refine s_getfield (v := .ref s4.2.2.2.2.1) (by decide +kernel) fr_4_11 lq_64 (congrArg Prod.fst sh_64) (fv_ref pf_64_1) (pn 154 rfl ?_)
        refine s_iload (i := 7) (by decide +kernel) rfl (pn 156 rfl ?_)
        obtain ⟨b10, h⟩ := h
        refine t_laload (v := M4.2 s4.2.2.2.2.1 l7.toNatClampNeg) (by decide +kernel) ⟨(mut_lt64 b9), congrArg Prod.fst (mut_sh64 b9)⟩ (al_in (mut_sh64 b9) b10) rfl (pn 157 rfl ?_)
        refine s_aload_n (i := 1) (by decide +kernel) rfl (pn 158 rfl ?_)
        refine s_getfield (v := .int (M4.1 15 4)) (by decide +kernel) fr_4_50 lq_15 (congrArg Prod.fst sh_15) rfl (pn 161 rfl ?_)
        refine s_i2l (by decide +kernel) (pn 162 rfl ?_)
        refine s_lmul (by decide +kernel) (pn 163 rfl ?_)
        refine s_callvV [.int (l7 + r3), .long ((M4.2 s4.2.2.2.2.1 l7.toNatClampNeg) * ((M4.1 15 4).toInt64))] rfl (by decide +kernel) mv_4_53 np_39 (Nat.le_of_ble_eq_true rfl) lq_64 ((congrArg Prod.fst sh_64).trans oc_39) (cV_use h (fun s5 M5 h => (pn 166 rfl ?_)))
        refine t_iinc (i := 7) (n := 1) (ls' := [.ref 64, .ref 15, .ref 27, .ref t, .int l4, .int l5, .int l6, .int (l7 + 1), .int r1]) (by decide +kernel) rfl (Nat.le_of_ble_eq_true rfl) kn_1 rfl (pn 169 rfl ?_)
        refine s_goto (off := -110) (tgt := 59) (by decide +kernel) rfl ?_
        exact pm_weak [.ref 64, .ref 15, .ref 27, .ref t, .int l4, .int l5, .int l6, .int (l7 + 1), .null] (pm_le_cons (Or.inr rfl) (pm_le_cons (Or.inr rfl) (pm_le_cons (Or.inr rfl) (pm_le_cons (Or.inr rfl) (pm_le_cons (Or.inr rfl) (pm_le_cons (Or.inr rfl) (pm_le_cons (Or.inr rfl) (pm_le_cons (Or.inr rfl) (pm_le_cons (Or.inl rfl) pm_le_nil))))))))) h
abbrev wO_add (d pc : Nat) (ls st : List Value) (s : pm_S) (M : pm_M) (Q : pm_S → pm_M → Prop) : Prop := wV d prog_6_method_3_code 4 none false pc ls st s M Q
theorem enO_add {d : Nat} {s : pm_S} {M : pm_M} {x1 : Int32} {x2 : Int64} {Q : pm_S → pm_M → Prop}  (h : (((x1 < 0) → Q s M) ∧ (¬ (x1 < 0) → (((1000 ≤ x1) → Q s M) ∧ (¬ (1000 ≤ x1) → ((s.2.2.2.2.2 = 65) ∨ (s.2.2.2.2.2 = 66)) ∧ vp_in x1 1000 ∧ vp_in x1 1000 ∧ Q s (pm_sj M s.2.2.2.2.2 x1.toNatClampNeg ((M.2 s.2.2.2.2.2 x1.toNatClampNeg) + x2))))))) : cV (d + 1) yO_add [.ref 64, .int x1, .long x2] s M Q := by
  refine pm_toV (by decide) (Nat.le_of_ble_eq_true rfl) ?_
  show wO_add d 0 [.ref 64, .int x1, .long x2, .null] [] s M Q
  refine s_iload_n (i := 1) (by decide +kernel) rfl (pn 1 rfl ?_)
  refine s_if_lt (off := 20) (tgt := 21) (by decide +kernel) rfl (fun c1 => ?_) (fun c1 => (pn 4 rfl ?_))
  · have h := h.1 c1
    exact s_return (st := []) (by decide +kernel) rfl ⟨rfl, s, rfl, h⟩
  · have h := h.2 c1
    refine s_iload_n (i := 1) (by decide +kernel) rfl (pn 5 rfl ?_)
    refine t_sipush (by decide +kernel) ks_1000 (pn 8 rfl ?_)
    refine s_icmp_ge (off := 13) (tgt := 21) (by decide +kernel) rfl (fun c3 => ?_) (fun c3 => (pn 11 rfl ?_))
    · have h := h.1 c3
      exact s_return (st := []) (by decide +kernel) rfl ⟨rfl, s, rfl, h⟩
    · have h := h.2 c3
      refine s_aload_n (i := 0) (by decide +kernel) rfl (pn 12 rfl ?_)
      obtain ⟨b1, h⟩ := h
      refine s_getfield (v := .ref s.2.2.2.2.2) (by decide +kernel) fr_4_15 lq_64 (congrArg Prod.fst sh_64) (fv_ref pf_64_2) (pn 15 rfl ?_)
      refine s_iload_n (i := 1) (by decide +kernel) rfl (pn 16 rfl ?_)
      refine s_dup2 (by decide +kernel) rfl rfl (pn 17 rfl ?_)
      obtain ⟨b2, h⟩ := h
      refine t_laload (v := M.2 s.2.2.2.2.2 x1.toNatClampNeg) (by decide +kernel) ⟨(mut_lt64 b1), congrArg Prod.fst (mut_sh64 b1)⟩ (al_in (mut_sh64 b1) b2) rfl (pn 18 rfl ?_)
      refine s_lload_n (i := 2) (by decide +kernel) rfl (pn 19 rfl ?_)
      refine s_ladd (by decide +kernel) (pn 20 rfl ?_)
      obtain ⟨b3, h⟩ := h
      refine t_lastore (k := x1.toNatClampNeg) (by decide +kernel) ⟨(mut_lt64 b1), congrArg Prod.fst (mut_sh64 b1)⟩ (al_in (mut_sh64 b1) b3) rfl (pn 21 rfl ?_)
      exact s_return (st := []) (by decide +kernel) rfl ⟨rfl, s, rfl, h⟩
abbrev wO_waysUpTo (d pc : Nat) (ls st : List Value) (s : pm_S) (M : pm_M) (Q : Int64 → pm_S → pm_M → Prop) : Prop := wL d prog_6_method_4_code 4 (some .long) false pc ls st s M Q
theorem enO_waysUpTo {d : Nat} {s : pm_S} {M : pm_M} {x1 : Int32} {Q : Int64 → pm_S → pm_M → Prop}  (h : wO_waysUpTo d 5 [.ref 64, .int x1, .long 0, .null, .int 0] [] s M Q) : cL (d + 1) yO_waysUpTo [.ref 64, .int x1] s M Q := by
  refine pm_toL (by decide) (Nat.le_of_ble_eq_true rfl) ?_
  show wO_waysUpTo d 0 [.ref 64, .int x1, .null, .null, .null] [] s M Q
  refine t_lconst (n := 0) (v := 0) (by decide +kernel) rfl (pn 1 rfl ?_)
  refine s_lstore_n (i := 2) (by decide +kernel) (Nat.le_of_ble_eq_true rfl) (pn 2 rfl (t_store (ls' := [.ref 64, .int x1, .long 0, .null, .null]) rfl ?_))
  refine t_iconst (by decide +kernel) ki_0 (pn 3 rfl ?_)
  refine s_istore (i := 4) (by decide +kernel) (Nat.le_of_ble_eq_true rfl) (pn 5 rfl (t_store (ls' := [.ref 64, .int x1, .long 0, .null, .int 0]) rfl ?_))
  exact h
theorem sgO_waysUpTo_5 {d : Nat} {s : pm_S} {M : pm_M} {l1 : Int32} {l2 : Int64} {l4 : Int32} {Q : Int64 → pm_S → pm_M → Prop}  (h : (((l1 < l4) → Q l2 s M) ∧ (¬ (l1 < l4) → (((1000 ≤ l4) → Q l2 s M) ∧ (¬ (1000 ≤ l4) → ((s.2.2.2.2.1 = 65) ∨ (s.2.2.2.2.1 = 66)) ∧ vp_in l4 1000 ∧ wO_waysUpTo d 5 [.ref 64, .int l1, .long (l2 + (M.2 s.2.2.2.2.1 l4.toNatClampNeg)), .null, .int (l4 + 1)] [] s M Q))))) : wO_waysUpTo d 5 [.ref 64, .int l1, .long l2, .null, .int l4] [] s M Q := by
  refine s_iload (i := 4) (by decide +kernel) rfl (pn 7 rfl ?_)
  refine s_iload_n (i := 1) (by decide +kernel) rfl (pn 8 rfl ?_)
  refine s_icmp_gt (off := 27) (tgt := 35) (by decide +kernel) rfl (fun c1 => ?_) (fun c1 => (pn 11 rfl ?_))
  · have h := h.1 c1
    refine s_lload_n (i := 2) (by decide +kernel) rfl (pn 36 rfl ?_)
    exact s_lreturn (st := []) (by decide +kernel) rfl ⟨_, rfl, s, rfl, h⟩
  · have h := h.2 c1
    refine s_iload (i := 4) (by decide +kernel) rfl (pn 13 rfl ?_)
    refine t_sipush (by decide +kernel) ks_1000 (pn 16 rfl ?_)
    refine s_icmp_ge (off := 19) (tgt := 35) (by decide +kernel) rfl (fun c3 => ?_) (fun c3 => (pn 19 rfl ?_))
    · have h := h.1 c3
      refine s_lload_n (i := 2) (by decide +kernel) rfl (pn 36 rfl ?_)
      exact s_lreturn (st := []) (by decide +kernel) rfl ⟨_, rfl, s, rfl, h⟩
    · have h := h.2 c3
      refine s_lload_n (i := 2) (by decide +kernel) rfl (pn 20 rfl ?_)
      refine s_aload_n (i := 0) (by decide +kernel) rfl (pn 21 rfl ?_)
      obtain ⟨b1, h⟩ := h
      refine s_getfield (v := .ref s.2.2.2.2.1) (by decide +kernel) fr_4_11 lq_64 (congrArg Prod.fst sh_64) (fv_ref pf_64_1) (pn 24 rfl ?_)
      refine s_iload (i := 4) (by decide +kernel) rfl (pn 26 rfl ?_)
      obtain ⟨b2, h⟩ := h
      refine t_laload (v := M.2 s.2.2.2.2.1 l4.toNatClampNeg) (by decide +kernel) ⟨(mut_lt64 b1), congrArg Prod.fst (mut_sh64 b1)⟩ (al_in (mut_sh64 b1) b2) rfl (pn 27 rfl ?_)
      refine s_ladd (by decide +kernel) (pn 28 rfl ?_)
      refine s_lstore_n (i := 2) (by decide +kernel) (Nat.le_of_ble_eq_true rfl) (pn 29 rfl (t_store (ls' := [.ref 64, .int l1, .long (l2 + (M.2 s.2.2.2.2.1 l4.toNatClampNeg)), .null, .int l4]) rfl ?_))
      refine t_iinc (i := 4) (n := 1) (ls' := [.ref 64, .int l1, .long (l2 + (M.2 s.2.2.2.2.1 l4.toNatClampNeg)), .null, .int (l4 + 1)]) (by decide +kernel) rfl (Nat.le_of_ble_eq_true rfl) kn_1 rfl (pn 32 rfl ?_)
      refine s_goto (off := -27) (tgt := 5) (by decide +kernel) rfl ?_
      exact h
abbrev wO_commonDivisor (d pc : Nat) (ls st : List Value) (s : pm_S) (M : pm_M) (Q : Int64 → pm_S → pm_M → Prop) : Prop := wL d prog_6_method_6_code 4 (some .long) false pc ls st s M Q
theorem enO_commonDivisor {d : Nat} {s : pm_S} {M : pm_M} {x1 : Int64} {x2 : Int64} {Q : Int64 → pm_S → pm_M → Prop}  (h : wO_commonDivisor d 9 [.null, .null, .null, .null, .long x1, .null, .long x2, .null, .int 0, .null, .null] [] s M Q) : cL (d + 1) yO_commonDivisor [.long x1, .long x2] s M Q := by
  refine pm_toL (by decide) (Nat.le_of_ble_eq_true rfl) ?_
  show wO_commonDivisor d 0 [.long x1, .null, .long x2, .null, .null, .null, .null, .null, .null, .null, .null] [] s M Q
  refine s_lload_n (i := 0) (by decide +kernel) rfl (pn 1 rfl ?_)
  refine s_lstore (i := 4) (by decide +kernel) (Nat.le_of_ble_eq_true rfl) (pn 3 rfl (t_store (ls' := [.long x1, .null, .long x2, .null, .long x1, .null, .null, .null, .null, .null, .null]) rfl ?_))
  refine s_lload_n (i := 2) (by decide +kernel) rfl (pn 4 rfl ?_)
  refine s_lstore (i := 6) (by decide +kernel) (Nat.le_of_ble_eq_true rfl) (pn 6 rfl (t_store (ls' := [.long x1, .null, .long x2, .null, .long x1, .null, .long x2, .null, .null, .null, .null]) rfl ?_))
  refine t_iconst (by decide +kernel) ki_0 (pn 7 rfl ?_)
  refine s_istore (i := 8) (by decide +kernel) (Nat.le_of_ble_eq_true rfl) (pn 9 rfl (t_store (ls' := [.long x1, .null, .long x2, .null, .long x1, .null, .long x2, .null, .int 0, .null, .null]) rfl ?_))
  exact pm_weak [.null, .null, .null, .null, .long x1, .null, .long x2, .null, .int 0, .null, .null] (pm_le_cons (Or.inl rfl) (pm_le_cons (Or.inl rfl) (pm_le_cons (Or.inl rfl) (pm_le_cons (Or.inl rfl) (pm_le_cons (Or.inr rfl) (pm_le_cons (Or.inl rfl) (pm_le_cons (Or.inr rfl) (pm_le_cons (Or.inl rfl) (pm_le_cons (Or.inr rfl) (pm_le_cons (Or.inl rfl) (pm_le_cons (Or.inl rfl) pm_le_nil))))))))))) h
theorem sgO_commonDivisor_9 {d : Nat} {s : pm_S} {M : pm_M} {l4 : Int64} {l6 : Int64} {l8 : Int32} {Q : Int64 → pm_S → pm_M → Prop}  (h : (((100 ≤ l8) → Q l4 s M) ∧ (¬ (100 ≤ l8) → (((l6 = 0) → Q l4 s M) ∧ (¬ (l6 = 0) → (¬ l6 = 0) ∧ wO_commonDivisor d 9 [.null, .null, .null, .null, .long l6, .null, .long (l4 - l4 / l6 * l6), .null, .int (l8 + 1), .null, .null] [] s M Q))))) : wO_commonDivisor d 9 [.null, .null, .null, .null, .long l4, .null, .long l6, .null, .int l8, .null, .null] [] s M Q := by
  refine s_iload (i := 8) (by decide +kernel) rfl (pn 11 rfl ?_)
  refine t_bipush (by decide +kernel) kb_100 (pn 13 rfl ?_)
  refine s_icmp_ge (off := 31) (tgt := 44) (by decide +kernel) rfl (fun c1 => ?_) (fun c1 => (pn 16 rfl ?_))
  · have h := h.1 c1
    refine s_lload (i := 4) (by decide +kernel) rfl (pn 46 rfl ?_)
    exact s_lreturn (st := []) (by decide +kernel) rfl ⟨_, rfl, s, rfl, h⟩
  · have h := h.2 c1
    refine s_lload (i := 6) (by decide +kernel) rfl (pn 18 rfl ?_)
    refine t_lconst (n := 0) (v := 0) (by decide +kernel) rfl (pn 19 rfl ?_)
    refine t_lc_eq (off := 24) (tgt := 44) (by decide +kernel) (by decide +kernel) rfl (fun c3 => ?_) (fun c3 => (pn 23 rfl ?_))
    · have h := h.1 c3
      refine s_lload (i := 4) (by decide +kernel) rfl (pn 46 rfl ?_)
      exact s_lreturn (st := []) (by decide +kernel) rfl ⟨_, rfl, s, rfl, h⟩
    · have h := h.2 c3
      refine s_lload (i := 4) (by decide +kernel) rfl (pn 25 rfl ?_)
      refine s_lload (i := 6) (by decide +kernel) rfl (pn 27 rfl ?_)
      obtain ⟨b1, h⟩ := h
      refine s_lrem (by decide +kernel) b1 (pn 28 rfl ?_)
      refine s_lstore (i := 9) (by decide +kernel) (Nat.le_of_ble_eq_true rfl) (pn 30 rfl (t_store (ls' := [.null, .null, .null, .null, .long l4, .null, .long l6, .null, .int l8, .long (l4 - l4 / l6 * l6), .null]) rfl ?_))
      refine s_lload (i := 6) (by decide +kernel) rfl (pn 32 rfl ?_)
      refine s_lstore (i := 4) (by decide +kernel) (Nat.le_of_ble_eq_true rfl) (pn 34 rfl (t_store (ls' := [.null, .null, .null, .null, .long l6, .null, .long l6, .null, .int l8, .long (l4 - l4 / l6 * l6), .null]) rfl ?_))
      refine s_lload (i := 9) (by decide +kernel) rfl (pn 36 rfl ?_)
      refine s_lstore (i := 6) (by decide +kernel) (Nat.le_of_ble_eq_true rfl) (pn 38 rfl (t_store (ls' := [.null, .null, .null, .null, .long l6, .null, .long (l4 - l4 / l6 * l6), .null, .int l8, .long (l4 - l4 / l6 * l6), .null]) rfl ?_))
      refine t_iinc (i := 8) (n := 1) (ls' := [.null, .null, .null, .null, .long l6, .null, .long (l4 - l4 / l6 * l6), .null, .int (l8 + 1), .long (l4 - l4 / l6 * l6), .null]) (by decide +kernel) rfl (Nat.le_of_ble_eq_true rfl) kn_1 rfl (pn 41 rfl ?_)
      refine s_goto (off := -32) (tgt := 9) (by decide +kernel) rfl ?_
      exact pm_weak [.null, .null, .null, .null, .long l6, .null, .long (l4 - l4 / l6 * l6), .null, .int (l8 + 1), .null, .null] (pm_le_cons (Or.inl rfl) (pm_le_cons (Or.inl rfl) (pm_le_cons (Or.inl rfl) (pm_le_cons (Or.inl rfl) (pm_le_cons (Or.inr rfl) (pm_le_cons (Or.inl rfl) (pm_le_cons (Or.inr rfl) (pm_le_cons (Or.inl rfl) (pm_le_cons (Or.inr rfl) (pm_le_cons (Or.inl rfl) (pm_le_cons (Or.inl rfl) pm_le_nil))))))))))) h
abbrev wO_leastFor (d pc : Nat) (ls st : List Value) (s : pm_S) (M : pm_M) (Q : Int32 → pm_S → pm_M → Prop) : Prop := wI d prog_6_method_5_code 4 (some .int) false pc ls st s M Q
theorem enO_leastFor {d : Nat} {s : pm_S} {M : pm_M} {x1 : Int32} {Q : Int32 → pm_S → pm_M → Prop}  (h : wO_leastFor d 5 [.ref 64, .int x1, .long 0, .null, .int 0] [] s M Q) : cI (d + 1) yO_leastFor [.ref 64, .int x1] s M Q := by
  refine pm_toI (by decide) (Nat.le_of_ble_eq_true rfl) ?_
  show wO_leastFor d 0 [.ref 64, .int x1, .null, .null, .null] [] s M Q
  refine t_lconst (n := 0) (v := 0) (by decide +kernel) rfl (pn 1 rfl ?_)
  refine s_lstore_n (i := 2) (by decide +kernel) (Nat.le_of_ble_eq_true rfl) (pn 2 rfl (t_store (ls' := [.ref 64, .int x1, .long 0, .null, .null]) rfl ?_))
  refine t_iconst (by decide +kernel) ki_0 (pn 3 rfl ?_)
  refine s_istore (i := 4) (by decide +kernel) (Nat.le_of_ble_eq_true rfl) (pn 5 rfl (t_store (ls' := [.ref 64, .int x1, .long 0, .null, .int 0]) rfl ?_))
  exact h
theorem sgO_leastFor_5 {d : Nat} {s : pm_S} {M : pm_M} {l1 : Int32} {l2 : Int64} {l4 : Int32} {Q : Int32 → pm_S → pm_M → Prop}  (h : (((1000 ≤ l4) → Q 999 s M) ∧ (¬ (1000 ≤ l4) → ((s.2.2.2.2.1 = 65) ∨ (s.2.2.2.2.1 = 66)) ∧ vp_in l4 1000 ∧ (((((l2 + (M.2 s.2.2.2.2.1 l4.toNatClampNeg)) * 100) < ((l1.toInt64) * (M.2 64 0))) → wO_leastFor d 5 [.ref 64, .int l1, .long (l2 + (M.2 s.2.2.2.2.1 l4.toNatClampNeg)), .null, .int (l4 + 1)] [] s M Q) ∧ (¬ (((l2 + (M.2 s.2.2.2.2.1 l4.toNatClampNeg)) * 100) < ((l1.toInt64) * (M.2 64 0))) → Q l4 s M))))) : wO_leastFor d 5 [.ref 64, .int l1, .long l2, .null, .int l4] [] s M Q := by
  refine s_iload (i := 4) (by decide +kernel) rfl (pn 7 rfl ?_)
  refine t_sipush (by decide +kernel) ks_1000 (pn 10 rfl ?_)
  refine s_icmp_ge (off := 38) (tgt := 48) (by decide +kernel) rfl (fun c1 => ?_) (fun c1 => (pn 13 rfl ?_))
  · have h := h.1 c1
    refine t_sipush (by decide +kernel) ks_999 (pn 51 rfl ?_)
    exact s_ireturn (st := []) (by decide +kernel) (Or.inl rfl) ⟨_, rfl, s, rfl, h⟩
  · have h := h.2 c1
    refine s_lload_n (i := 2) (by decide +kernel) rfl (pn 14 rfl ?_)
    refine s_aload_n (i := 0) (by decide +kernel) rfl (pn 15 rfl ?_)
    obtain ⟨b1, h⟩ := h
    refine s_getfield (v := .ref s.2.2.2.2.1) (by decide +kernel) fr_4_11 lq_64 (congrArg Prod.fst sh_64) (fv_ref pf_64_1) (pn 18 rfl ?_)
    refine s_iload (i := 4) (by decide +kernel) rfl (pn 20 rfl ?_)
    obtain ⟨b2, h⟩ := h
    refine t_laload (v := M.2 s.2.2.2.2.1 l4.toNatClampNeg) (by decide +kernel) ⟨(mut_lt64 b1), congrArg Prod.fst (mut_sh64 b1)⟩ (al_in (mut_sh64 b1) b2) rfl (pn 21 rfl ?_)
    refine s_ladd (by decide +kernel) (pn 22 rfl ?_)
    refine s_lstore_n (i := 2) (by decide +kernel) (Nat.le_of_ble_eq_true rfl) (pn 23 rfl (t_store (ls' := [.ref 64, .int l1, .long (l2 + (M.2 s.2.2.2.2.1 l4.toNatClampNeg)), .null, .int l4]) rfl ?_))
    refine s_lload_n (i := 2) (by decide +kernel) rfl (pn 24 rfl ?_)
    refine s_ldc2_w (by decide +kernel) kl_4_59 (pn 27 rfl ?_)
    refine s_lmul (by decide +kernel) (pn 28 rfl ?_)
    refine s_iload_n (i := 1) (by decide +kernel) rfl (pn 29 rfl ?_)
    refine s_i2l (by decide +kernel) (pn 30 rfl ?_)
    refine s_aload_n (i := 0) (by decide +kernel) rfl (pn 31 rfl ?_)
    refine s_getfield (v := .long (M.2 64 0)) (by decide +kernel) fr_4_24 lq_64 (congrArg Prod.fst sh_64) rfl (pn 34 rfl ?_)
    refine s_lmul (by decide +kernel) (pn 35 rfl ?_)
    refine t_lc_lt (off := 6) (tgt := 42) (by decide +kernel) (by decide +kernel) rfl (fun c2 => ?_) (fun c2 => (pn 39 rfl ?_))
    · have h := h.1 c2
      refine t_iinc (i := 4) (n := 1) (ls' := [.ref 64, .int l1, .long (l2 + (M.2 s.2.2.2.2.1 l4.toNatClampNeg)), .null, .int (l4 + 1)]) (by decide +kernel) rfl (Nat.le_of_ble_eq_true rfl) kn_1 rfl (pn 45 rfl ?_)
      refine s_goto (off := -40) (tgt := 5) (by decide +kernel) rfl ?_
      exact h
    · have h := h.2 c2
      refine s_iload (i := 4) (by decide +kernel) rfl (pn 41 rfl ?_)
      exact s_ireturn (st := []) (by decide +kernel) (Or.inl rfl) ⟨_, rfl, s, rfl, h⟩
