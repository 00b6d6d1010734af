abbrev wM_swap (d pc : Nat) (ls st : List Value) (s : pm_S) (M : pm_M) (Q : Int32 → pm_S → pm_M → Prop) : Prop := wI d prog_14_method_69_code 12 (some .int) false pc ls st s M Q
theorem enM_swap {d : Nat} {s : pm_S} {M : pm_M} {x1 : Int32} {x2 : Int32} {Q : Int32 → pm_S → pm_M → Prop}  (h : cI d yM_whySwap [.ref 159, .long (x1.toInt64), .long (x2.toInt64)] s (pm_si M 159 0 0) (fun r1 s1 M1 => (((r1 = 0) → cV d yM_keeps [.ref 159] s1 M1 (fun s2 M2 => cV d yM_swaps [.ref 159, .int x1, .int x2] s2 M2 (fun s3 M3 => cV d yM_notes [.ref 159] s3 M3 (fun s4 M4 => cI d yM_heldBy [.ref 159, .int x1] s4 M4 (fun r2 s5 M5 => Q r2 s5 M5))))) ∧ (¬ (r1 = 0) → Q (((-10) : Int32) - r1) s1 M1)))) : cI (d + 1) yM_swap [.ref 159, .int x1, .int x2] s M Q := by
  refine pm_toI (by decide) (Nat.le_of_ble_eq_true rfl) ?_
  show wM_swap d 0 [.ref 159, .int x1, .int x2, .null] [] s M Q
  refine s_aload_n (i := 0) (by decide +kernel) rfl (pn 1 rfl ?_)
  refine t_iconst (by decide +kernel) ki_0 (pn 2 rfl ?_)
  refine s_putfieldI (by decide +kernel) fr_12_1 lq_159 (congrArg Prod.fst sh_159) (fun q => by cases q) (Or.inl rfl) (pn 5 rfl ?_)
  refine s_aload_n (i := 0) (by decide +kernel) rfl (pn 6 rfl ?_)
  refine s_iload_n (i := 1) (by decide +kernel) rfl (pn 7 rfl ?_)
  refine s_i2l (by decide +kernel) (pn 8 rfl ?_)
  refine s_iload_n (i := 2) (by decide +kernel) rfl (pn 9 rfl ?_)
  refine s_i2l (by decide +kernel) (pn 10 rfl ?_)
  refine s_callvI [.long (x1.toInt64), .long (x2.toInt64)] rfl (by decide +kernel) mv_12_306 np_242 (Nat.le_of_ble_eq_true rfl) lq_159 ((congrArg Prod.fst sh_159).trans oc_242) (cI_use h (fun r1 s1 M1 h => (pn 13 rfl ?_)))
  refine s_istore_n (i := 3) (by decide +kernel) (Nat.le_of_ble_eq_true rfl) (pn 14 rfl (t_store (ls' := [.ref 159, .int x1, .int x2, .int r1]) rfl ?_))
  refine s_iload_n (i := 3) (by decide +kernel) rfl (pn 15 rfl ?_)
  refine s_if_eq (off := 8) (tgt := 23) (by decide +kernel) rfl (fun c1 => ?_) (fun c1 => (pn 18 rfl ?_))
  · have h := h.1 c1
    refine s_aload_n (i := 0) (by decide +kernel) rfl (pn 24 rfl ?_)
    refine s_callvV [] rfl (by decide +kernel) mv_12_281 np_229 (Nat.le_of_ble_eq_true rfl) lq_159 ((congrArg Prod.fst sh_159).trans oc_229) (cV_use h (fun s2 M2 h => (pn 27 rfl ?_)))
    refine s_aload_n (i := 0) (by decide +kernel) rfl (pn 28 rfl ?_)
    refine s_iload_n (i := 1) (by decide +kernel) rfl (pn 29 rfl ?_)
    refine s_iload_n (i := 2) (by decide +kernel) rfl (pn 30 rfl ?_)
    refine s_callvV [.int x1, .int x2] rfl (by decide +kernel) mv_12_309 np_244 (Nat.le_of_ble_eq_true rfl) lq_159 ((congrArg Prod.fst sh_159).trans oc_244) (cV_use h (fun s3 M3 h => (pn 33 rfl ?_)))
    refine s_aload_n (i := 0) (by decide +kernel) rfl (pn 34 rfl ?_)
    refine s_callvV [] rfl (by decide +kernel) mv_12_284 np_230 (Nat.le_of_ble_eq_true rfl) lq_159 ((congrArg Prod.fst sh_159).trans oc_230) (cV_use h (fun s4 M4 h => (pn 37 rfl ?_)))
    refine s_aload_n (i := 0) (by decide +kernel) rfl (pn 38 rfl ?_)
    refine s_iload_n (i := 1) (by decide +kernel) rfl (pn 39 rfl ?_)
    refine s_callvI [.int x1] rfl (by decide +kernel) mv_12_253 np_220 (Nat.le_of_ble_eq_true rfl) lq_159 ((congrArg Prod.fst sh_159).trans oc_220) (cI_use h (fun r2 s5 M5 h => (pn 42 rfl ?_)))
    exact s_ireturn (st := []) (by decide +kernel) (Or.inl rfl) ⟨_, rfl, s5, rfl, h⟩
  · have h := h.2 c1
    refine t_bipush (by decide +kernel) kb_m10 (pn 20 rfl ?_)
    refine s_iload_n (i := 3) (by decide +kernel) rfl (pn 21 rfl ?_)
    refine s_isub (by decide +kernel) (pn 22 rfl ?_)
    exact s_ireturn (st := []) (by decide +kernel) (Or.inl rfl) ⟨_, rfl, s1, rfl, h⟩
abbrev wM_whySwap (d pc : Nat) (ls st : List Value) (s : pm_S) (M : pm_M) (Q : Int32 → pm_S → pm_M → Prop) : Prop := wI d prog_14_method_56_code 12 (some .int) false pc ls st s M Q
theorem enM_whySwap {d : Nat} {s : pm_S} {M : pm_M} {x1 : Int64} {x2 : Int64} {Q : Int32 → pm_S → pm_M → Prop}  (h : cI d yM_areTwo [.ref 159, .long x1, .long x2] s M (fun r1 s1 M1 => ((r1 = 0 → Q 1 s1 M1) ∧ (¬ (r1 = 0) → cI d yM_heldBy [.ref 159, .int (x1.toInt32)] s1 M1 (fun r2 s2 M2 => (((r2 = (-1)) → Q 2 s2 M2) ∧ (¬ (r2 = (-1)) → cI d yM_heldBy [.ref 159, .int (x2.toInt32)] s2 M2 (fun r3 s3 M3 => Q ((if r3 = (-1) then 2 else 0) : Int32) s3 M3)))))))) : cI (d + 1) yM_whySwap [.ref 159, .long x1, .long x2] s M Q := by
  refine pm_toI (by decide) (Nat.le_of_ble_eq_true rfl) ?_
  show wM_whySwap d 0 [.ref 159, .long x1, .null, .long x2, .null] [] s M Q
  refine s_aload_n (i := 0) (by decide +kernel) rfl (pn 1 rfl ?_)
  refine s_lload_n (i := 1) (by decide +kernel) rfl (pn 2 rfl ?_)
  refine s_lload_n (i := 3) (by decide +kernel) rfl (pn 3 rfl ?_)
  refine s_callvI [.long x1, .long x2] rfl (by decide +kernel) mv_12_267 np_243 (Nat.le_of_ble_eq_true rfl) lq_159 ((congrArg Prod.fst sh_159).trans oc_243) (cI_use h (fun r1 s1 M1 h => (pn 6 rfl ?_)))
  refine t_if_ne (off := 7) (tgt := 13) (by decide +kernel) rfl (fun c1 => ?_) (fun c1 => (pn 9 rfl ?_))
  · have h := h.2 c1
    refine s_aload_n (i := 0) (by decide +kernel) rfl (pn 14 rfl ?_)
    refine s_lload_n (i := 1) (by decide +kernel) rfl (pn 15 rfl ?_)
    refine s_l2i (by decide +kernel) (pn 16 rfl ?_)
    refine s_callvI [.int (x1.toInt32)] rfl (by decide +kernel) mv_12_253 np_220 (Nat.le_of_ble_eq_true rfl) lq_159 ((congrArg Prod.fst sh_159).trans oc_220) (cI_use h (fun r2 s2 M2 h => (pn 19 rfl ?_)))
    refine t_iconst (by decide +kernel) ki_m1 (pn 20 rfl ?_)
    refine s_icmp_eq (off := 13) (tgt := 33) (by decide +kernel) rfl (fun c2 => ?_) (fun c2 => (pn 23 rfl ?_))
    · have h := h.1 c2
      refine t_iconst (by decide +kernel) ki_2 (pn 34 rfl ?_)
      refine s_goto (off := 4) (tgt := 38) (by decide +kernel) rfl ?_
      exact s_ireturn (st := []) (by decide +kernel) (Or.inl rfl) ⟨_, rfl, s2, rfl, h⟩
    · have h := h.2 c2
      refine s_aload_n (i := 0) (by decide +kernel) rfl (pn 24 rfl ?_)
      refine s_lload_n (i := 3) (by decide +kernel) rfl (pn 25 rfl ?_)
      refine s_l2i (by decide +kernel) (pn 26 rfl ?_)
      refine s_callvI [.int (x2.toInt32)] rfl (by decide +kernel) mv_12_253 np_220 (Nat.le_of_ble_eq_true rfl) lq_159 ((congrArg Prod.fst sh_159).trans oc_220) (cI_use h (fun r3 s3 M3 h => (pn 29 rfl ?_)))
      refine t_iconst (by decide +kernel) ki_m1 (pn 30 rfl ?_)
      have k1 : ∀ (z1 : Int32) (z1e : z1 = ((if r3 = (-1) then 2 else 0) : Int32)), wM_whySwap d 38 [.ref 159, .long x1, .null, .long x2, .null] [.int z1] s3 M3 Q := by
        intro z1 z1e
        subst z1e
        exact s_ireturn (st := []) (by decide +kernel) (Or.inl rfl) ⟨_, rfl, s3, rfl, h⟩
      refine t_icmp_ne (off := 7) (tgt := 37) (by decide +kernel) rfl (fun c3 => ?_) (fun c3 => (pn 33 rfl ?_))
      · refine t_iconst (by decide +kernel) ki_0 (pn 38 rfl ?_)
        exact k1 _ (by simp only [if_neg c3])
      · refine t_iconst (by decide +kernel) ki_2 (pn 34 rfl ?_)
        refine s_goto (off := 4) (tgt := 38) (by decide +kernel) rfl ?_
        exact k1 _ (by simp only [if_pos c3])
  · have h := h.1 c1
    refine t_iconst (by decide +kernel) ki_1 (pn 10 rfl ?_)
    refine s_goto (off := 28) (tgt := 38) (by decide +kernel) rfl ?_
    exact s_ireturn (st := []) (by decide +kernel) (Or.inl rfl) ⟨_, rfl, s1, rfl, h⟩
abbrev wM_areTwo (d pc : Nat) (ls st : List Value) (s : pm_S) (M : pm_M) (Q : Int32 → pm_S → pm_M → Prop) : Prop := wI d prog_14_method_38_code 12 (some .boolean) false pc ls st s M Q
theorem enM_areTwo {d : Nat} {s : pm_S} {M : pm_M} {x1 : Int64} {x2 : Int64} {Q : Int32 → pm_S → pm_M → Prop}  (h : cI d yM_isPerson [.ref 159, .long x1] s M (fun r1 s1 M1 => (((r1 = 0) → Q 0 s1 M1) ∧ (¬ (r1 = 0) → cI d yM_isPerson [.ref 159, .long x2] s1 M1 (fun r2 s2 M2 => Q ((if r2 = 0 then 0 else (if x1 = x2 then 0 else 1)) : Int32) s2 M2))))) : cI (d + 1) yM_areTwo [.ref 159, .long x1, .long x2] s M Q := by
  refine pm_toI (by decide) (Nat.le_of_ble_eq_true rfl) ?_
  show wM_areTwo d 0 [.ref 159, .long x1, .null, .long x2, .null] [] s M Q
  refine s_aload_n (i := 0) (by decide +kernel) rfl (pn 1 rfl ?_)
  refine s_lload_n (i := 1) (by decide +kernel) rfl (pn 2 rfl ?_)
  refine s_callvI [.long x1] rfl (by decide +kernel) mv_12_231 np_219 (Nat.le_of_ble_eq_true rfl) lq_159 ((congrArg Prod.fst sh_159).trans oc_219) (cI_use h (fun r1 s1 M1 h => (pn 5 rfl ?_)))
  refine s_if_eq (off := 21) (tgt := 26) (by decide +kernel) rfl (fun c1 => ?_) (fun c1 => (pn 8 rfl ?_))
  · have h := h.1 c1
    refine t_iconst (by decide +kernel) ki_0 (pn 27 rfl ?_)
    exact s_ireturn (st := []) (by decide +kernel) (Or.inr ⟨rfl, (Or.inl rfl)⟩) ⟨_, rfl, s1, rfl, h⟩
  · have h := h.2 c1
    refine s_aload_n (i := 0) (by decide +kernel) rfl (pn 9 rfl ?_)
    refine s_lload_n (i := 3) (by decide +kernel) rfl (pn 10 rfl ?_)
    refine s_callvI [.long x2] rfl (by decide +kernel) mv_12_231 np_219 (Nat.le_of_ble_eq_true rfl) lq_159 ((congrArg Prod.fst sh_159).trans oc_219) (cI_use h (fun r2 s2 M2 h => (pn 13 rfl ?_)))
    have k1 : ∀ (z1 : Int32) (z1e : z1 = ((if r2 = 0 then 0 else (if x1 = x2 then 0 else 1)) : Int32)), wM_areTwo d 27 [.ref 159, .long x1, .null, .long x2, .null] [.int z1] s2 M2 Q := by
      intro z1 z1e
      subst z1e
      exact s_ireturn (st := []) (by decide +kernel) (Or.inr ⟨rfl, (or01 (Or.inl rfl) (or01 (Or.inl rfl) (Or.inr rfl)))⟩) ⟨_, rfl, s2, rfl, h⟩
    refine s_if_eq (off := 13) (tgt := 26) (by decide +kernel) rfl (fun c2 => ?_) (fun c2 => (pn 16 rfl ?_))
    · refine t_iconst (by decide +kernel) ki_0 (pn 27 rfl ?_)
      exact k1 _ (by simp only [if_pos c2])
    · refine s_lload_n (i := 1) (by decide +kernel) rfl (pn 17 rfl ?_)
      refine s_lload_n (i := 3) (by decide +kernel) rfl (pn 18 rfl ?_)
      refine t_lc_eq (off := 7) (tgt := 26) (by decide +kernel) (by decide +kernel) rfl (fun c3 => ?_) (fun c3 => (pn 22 rfl ?_))
      · refine t_iconst (by decide +kernel) ki_0 (pn 27 rfl ?_)
        exact k1 _ (by simp only [if_neg c2, if_pos c3])
      · refine t_iconst (by decide +kernel) ki_1 (pn 23 rfl ?_)
        refine s_goto (off := 4) (tgt := 27) (by decide +kernel) rfl ?_
        exact k1 _ (by simp only [if_neg c2, if_neg c3])
abbrev wM_swaps (d pc : Nat) (ls st : List Value) (s : pm_S) (M : pm_M) (Q : pm_S → pm_M → Prop) : Prop := wV d prog_14_method_59_code 12 none false pc ls st s M Q
theorem enM_swaps {d : Nat} {s : pm_S} {M : pm_M} {x1 : Int32} {x2 : Int32} {Q : pm_S → pm_M → Prop}  (h : cI d yM_heldBy [.ref 159, .int x1] s M (fun r1 s1 M1 => cI d yM_heldBy [.ref 159, .int x2] s1 M1 (fun r2 s2 M2 => vp_in ((50 : Int32) + r1) 3870 ∧ vp_in ((50 : Int32) + r2) 3870 ∧ Q s2 (pm_si (pm_si M2 160 ((50 : Int32) + r1).toNatClampNeg ((10 : Int32) + x2)) 160 ((50 : Int32) + r2).toNatClampNeg ((10 : Int32) + x1))))) : cV (d + 1) yM_swaps [.ref 159, .int x1, .int x2] s M Q := by
  refine pm_toV (by decide) (Nat.le_of_ble_eq_true rfl) ?_
  show wM_swaps d 0 [.ref 159, .int x1, .int x2, .null, .null] [] s M Q
  refine s_aload_n (i := 0) (by decide +kernel) rfl (pn 1 rfl ?_)
  refine s_iload_n (i := 1) (by decide +kernel) rfl (pn 2 rfl ?_)
  refine s_callvI [.int x1] rfl (by decide +kernel) mv_12_253 np_220 (Nat.le_of_ble_eq_true rfl) lq_159 ((congrArg Prod.fst sh_159).trans oc_220) (cI_use h (fun r1 s1 M1 h => (pn 5 rfl ?_)))
  refine s_istore_n (i := 3) (by decide +kernel) (Nat.le_of_ble_eq_true rfl) (pn 6 rfl (t_store (ls' := [.ref 159, .int x1, .int x2, .int r1, .null]) rfl ?_))
  refine s_aload_n (i := 0) (by decide +kernel) rfl (pn 7 rfl ?_)
  refine s_iload_n (i := 2) (by decide +kernel) rfl (pn 8 rfl ?_)
  refine s_callvI [.int x2] rfl (by decide +kernel) mv_12_253 np_220 (Nat.le_of_ble_eq_true rfl) lq_159 ((congrArg Prod.fst sh_159).trans oc_220) (cI_use h (fun r2 s2 M2 h => (pn 11 rfl ?_)))
  refine s_istore (i := 4) (by decide +kernel) (Nat.le_of_ble_eq_true rfl) (pn 13 rfl (t_store (ls' := [.ref 159, .int x1, .int x2, .int r1, .int r2]) rfl ?_))
  refine s_aload_n (i := 0) (by decide +kernel) rfl (pn 14 rfl ?_)
  refine s_getfield (v := .ref 160) (by decide +kernel) fr_12_13 lq_159 (congrArg Prod.fst sh_159) (fv_ref pf_159_1) (pn 17 rfl ?_)
  refine t_bipush (by decide +kernel) kb_50 (pn 19 rfl ?_)
  refine s_iload_n (i := 3) (by decide +kernel) rfl (pn 20 rfl ?_)
  refine s_iadd (by decide +kernel) (pn 21 rfl ?_)
  refine t_bipush (by decide +kernel) kb_10 (pn 23 rfl ?_)
  refine s_iload_n (i := 2) (by decide +kernel) rfl (pn 24 rfl ?_)
  refine s_iadd (by decide +kernel) (pn 25 rfl ?_)
  obtain ⟨b1, h⟩ := h
  refine t_iastore (k := ((50 : Int32) + r1).toNatClampNeg) (by decide +kernel) ⟨lq_160, congrArg Prod.fst sh_160⟩ (al_in sh_160 b1) rfl (pn 26 rfl ?_)
  refine s_aload_n (i := 0) (by decide +kernel) rfl (pn 27 rfl ?_)
  refine s_getfield (v := .ref 160) (by decide +kernel) fr_12_13 lq_159 (congrArg Prod.fst sh_159) (fv_ref pf_159_1) (pn 30 rfl ?_)
  refine t_bipush (by decide +kernel) kb_50 (pn 32 rfl ?_)
  refine s_iload (i := 4) (by decide +kernel) rfl (pn 34 rfl ?_)
  refine s_iadd (by decide +kernel) (pn 35 rfl ?_)
  refine t_bipush (by decide +kernel) kb_10 (pn 37 rfl ?_)
  refine s_iload_n (i := 1) (by decide +kernel) rfl (pn 38 rfl ?_)
  refine s_iadd (by decide +kernel) (pn 39 rfl ?_)
  obtain ⟨b2, h⟩ := h
  refine t_iastore (k := ((50 : Int32) + r2).toNatClampNeg) (by decide +kernel) ⟨lq_160, congrArg Prod.fst sh_160⟩ (al_in sh_160 b2) rfl (pn 40 rfl ?_)
  exact s_return (st := []) (by decide +kernel) rfl ⟨rfl, s2, rfl, h⟩
abbrev wM_mark (d pc : Nat) (ls st : List Value) (s : pm_S) (M : pm_M) (Q : Int32 → pm_S → pm_M → Prop) : Prop := wI d prog_14_method_70_code 12 (some .int) false pc ls st s M Q
theorem enM_mark {d : Nat} {s : pm_S} {M : pm_M} {x1 : Int32} {x2 : Int32} {Q : Int32 → pm_S → pm_M → Prop}  (h : cI d yM_isPerson [.ref 159, .long (x1.toInt64)] s (pm_si M 159 0 0) (fun r1 s1 M1 => (((r1 = 0) → Q (-11) s1 M1) ∧ (¬ (r1 = 0) → cI d yM_within [.long (x2.toInt64), .long 0, .long 9] s1 M1 (fun r2 s2 M2 => ((r2 = 0 → Q (-11) s2 M2) ∧ (¬ (r2 = 0) → cV d yM_keeps [.ref 159] s2 M2 (fun s3 M3 => vp_in ((66 : Int32) + x1) 3870 ∧ cV d yM_notes [.ref 159] s3 (pm_si M3 160 ((66 : Int32) + x1).toNatClampNeg x2) (fun s4 M4 => vp_in ((19 : Int32) + x1) 31 ∧ Q (M4.1 166 ((19 : Int32) + x1).toNatClampNeg) s4 M4))))))))) : cI (d + 1) yM_mark [.ref 159, .int x1, .int x2] s M Q := by
  refine pm_toI (by decide) (Nat.le_of_ble_eq_true rfl) ?_
  show wM_mark d 0 [.ref 159, .int x1, .int x2] [] s M Q
  refine s_aload_n (i := 0) (by decide +kernel) rfl (pn 1 rfl ?_)
  refine t_iconst (by decide +kernel) ki_0 (pn 2 rfl ?_)
  refine s_putfieldI (by decide +kernel) fr_12_1 lq_159 (congrArg Prod.fst sh_159) (fun q => by cases q) (Or.inl rfl) (pn 5 rfl ?_)
  refine s_aload_n (i := 0) (by decide +kernel) rfl (pn 6 rfl ?_)
  refine s_iload_n (i := 1) (by decide +kernel) rfl (pn 7 rfl ?_)
  refine s_i2l (by decide +kernel) (pn 8 rfl ?_)
  refine s_callvI [.long (x1.toInt64)] rfl (by decide +kernel) mv_12_231 np_219 (Nat.le_of_ble_eq_true rfl) lq_159 ((congrArg Prod.fst sh_159).trans oc_219) (cI_use h (fun r1 s1 M1 h => (pn 11 rfl ?_)))
  refine s_if_eq (off := 15) (tgt := 26) (by decide +kernel) rfl (fun c1 => ?_) (fun c1 => (pn 14 rfl ?_))
  · have h := h.1 c1
    refine t_bipush (by decide +kernel) kb_m11 (pn 28 rfl ?_)
    exact s_ireturn (st := []) (by decide +kernel) (Or.inl rfl) ⟨_, rfl, s1, rfl, h⟩
  · have h := h.2 c1
    refine s_iload_n (i := 2) (by decide +kernel) rfl (pn 15 rfl ?_)
    refine s_i2l (by decide +kernel) (pn 16 rfl ?_)
    refine t_lconst (n := 0) (v := 0) (by decide +kernel) rfl (pn 17 rfl ?_)
    refine s_ldc2_w (by decide +kernel) kl_12_313 (pn 20 rfl ?_)
    refine s_callsI [.long (x2.toInt64), .long 0, .long 9] rfl (by decide +kernel) ms_12_163 np_188 (Nat.le_of_ble_eq_true rfl) (cI_use h (fun r2 s2 M2 h => (pn 23 rfl ?_)))
    refine t_if_ne (off := 6) (tgt := 29) (by decide +kernel) rfl (fun c2 => ?_) (fun c2 => (pn 26 rfl ?_))
    · have h := h.2 c2
      refine s_aload_n (i := 0) (by decide +kernel) rfl (pn 30 rfl ?_)
      refine s_callvV [] rfl (by decide +kernel) mv_12_281 np_229 (Nat.le_of_ble_eq_true rfl) lq_159 ((congrArg Prod.fst sh_159).trans oc_229) (cV_use h (fun s3 M3 h => (pn 33 rfl ?_)))
      refine s_aload_n (i := 0) (by decide +kernel) rfl (pn 34 rfl ?_)
      refine s_getfield (v := .ref 160) (by decide +kernel) fr_12_13 lq_159 (congrArg Prod.fst sh_159) (fv_ref pf_159_1) (pn 37 rfl ?_)
      refine t_bipush (by decide +kernel) kb_66 (pn 39 rfl ?_)
      refine s_iload_n (i := 1) (by decide +kernel) rfl (pn 40 rfl ?_)
      refine s_iadd (by decide +kernel) (pn 41 rfl ?_)
      refine s_iload_n (i := 2) (by decide +kernel) rfl (pn 42 rfl ?_)
      obtain ⟨b1, h⟩ := h
      refine t_iastore (k := ((66 : Int32) + x1).toNatClampNeg) (by decide +kernel) ⟨lq_160, congrArg Prod.fst sh_160⟩ (al_in sh_160 b1) rfl (pn 43 rfl ?_)
      refine s_aload_n (i := 0) (by decide +kernel) rfl (pn 44 rfl ?_)
      refine s_callvV [] rfl (by decide +kernel) mv_12_284 np_230 (Nat.le_of_ble_eq_true rfl) lq_159 ((congrArg Prod.fst sh_159).trans oc_230) (cV_use h (fun s4 M4 h => (pn 47 rfl ?_)))
      refine s_aload_n (i := 0) (by decide +kernel) rfl (pn 48 rfl ?_)
      refine s_getfield (v := .ref 166) (by decide +kernel) fr_12_36 lq_159 (congrArg Prod.fst sh_159) (fv_ref pf_159_18) (pn 51 rfl ?_)
      refine t_bipush (by decide +kernel) kb_19 (pn 53 rfl ?_)
      refine s_iload_n (i := 1) (by decide +kernel) rfl (pn 54 rfl ?_)
      refine s_iadd (by decide +kernel) (pn 55 rfl ?_)
      obtain ⟨b2, h⟩ := h
      refine t_iaload (v := M4.1 166 ((19 : Int32) + x1).toNatClampNeg) (by decide +kernel) ⟨Or.inl lq_166, congrArg Prod.fst sh_166⟩ (al_in sh_166 b2) rfl (pn 56 rfl ?_)
      exact s_ireturn (st := []) (by decide +kernel) (Or.inl rfl) ⟨_, rfl, s4, rfl, h⟩
    · have h := h.1 c2
      refine t_bipush (by decide +kernel) kb_m11 (pn 28 rfl ?_)
      exact s_ireturn (st := []) (by decide +kernel) (Or.inl rfl) ⟨_, rfl, s2, rfl, h⟩
abbrev wM_days (d pc : Nat) (ls st : List Value) (s : pm_S) (M : pm_M) (Q : Int32 → pm_S → pm_M → Prop) : Prop := wI d prog_14_method_71_code 12 (some .int) false pc ls st s M Q
theorem enM_days {d : Nat} {s : pm_S} {M : pm_M} {x1 : Int32} {Q : Int32 → pm_S → pm_M → Prop}  (h : cI d yM_within [.long (x1.toInt64), .long 1, .long 99] s (pm_si M 159 0 0) (fun r1 s1 M1 => ((r1 = 0 → Q (-3) s1 M1) ∧ (¬ (r1 = 0) → cV d yM_keeps [.ref 159] s1 M1 (fun s2 M2 => wM_days d 28 [.ref 159, .int x1, .int 0, .int 0] [] s2 M2 Q))))) : cI (d + 1) yM_days [.ref 159, .int x1] s M Q := by
  refine pm_toI (by decide) (Nat.le_of_ble_eq_true rfl) ?_
  show wM_days d 0 [.ref 159, .int x1, .null, .null] [] s M Q
  refine s_aload_n (i := 0) (by decide +kernel) rfl (pn 1 rfl ?_)
  refine t_iconst (by decide +kernel) ki_0 (pn 2 rfl ?_)
  refine s_putfieldI (by decide +kernel) fr_12_1 lq_159 (congrArg Prod.fst sh_159) (fun q => by cases q) (Or.inl rfl) (pn 5 rfl ?_)
  refine s_iload_n (i := 1) (by decide +kernel) rfl (pn 6 rfl ?_)
  refine s_i2l (by decide +kernel) (pn 7 rfl ?_)
  refine t_lconst (n := 1) (v := 1) (by decide +kernel) rfl (pn 8 rfl ?_)
  refine s_ldc2_w (by decide +kernel) kl_12_315 (pn 11 rfl ?_)
  refine s_callsI [.long (x1.toInt64), .long 1, .long 99] rfl (by decide +kernel) ms_12_163 np_188 (Nat.le_of_ble_eq_true rfl) (cI_use h (fun r1 s1 M1 h => (pn 14 rfl ?_)))
  refine t_if_ne (off := 6) (tgt := 20) (by decide +kernel) rfl (fun c1 => ?_) (fun c1 => (pn 17 rfl ?_))
  · have h := h.2 c1
    refine s_aload_n (i := 0) (by decide +kernel) rfl (pn 21 rfl ?_)
    refine s_callvV [] rfl (by decide +kernel) mv_12_281 np_229 (Nat.le_of_ble_eq_true rfl) lq_159 ((congrArg Prod.fst sh_159).trans oc_229) (cV_use h (fun s2 M2 h => (pn 24 rfl ?_)))
    refine t_iconst (by decide +kernel) ki_0 (pn 25 rfl ?_)
    refine s_istore_n (i := 2) (by decide +kernel) (Nat.le_of_ble_eq_true rfl) (pn 26 rfl (t_store (ls' := [.ref 159, .int x1, .int 0, .null]) rfl ?_))
    refine t_iconst (by decide +kernel) ki_0 (pn 27 rfl ?_)
    refine s_istore_n (i := 3) (by decide +kernel) (Nat.le_of_ble_eq_true rfl) (pn 28 rfl (t_store (ls' := [.ref 159, .int x1, .int 0, .int 0]) rfl ?_))
    exact h
  · have h := h.1 c1
    refine t_bipush (by decide +kernel) kb_m3 (pn 19 rfl ?_)
    exact s_ireturn (st := []) (by decide +kernel) (Or.inl rfl) ⟨_, rfl, s1, rfl, h⟩
theorem sgM_days_28 {d : Nat} {s : pm_S} {M : pm_M} {l1 : Int32} {l2 : Int32} {l3 : Int32} {Q : Int32 → pm_S → pm_M → Prop}  (h : (((l1 ≤ l3) → cV d yM_notes [.ref 159] s M (fun s1 M1 => Q l2 s1 M1)) ∧ (¬ (l1 ≤ l3) → cI d yM_goesDay [.ref 159] s M (fun r1 s2 M2 => wM_days d 28 [.ref 159, .int l1, .int (l2 + r1), .int (l3 + 1)] [] s2 M2 Q)))) : wM_days d 28 [.ref 159, .int l1, .int l2, .int l3] [] s M Q := by
  refine s_iload_n (i := 3) (by decide +kernel) rfl (pn 29 rfl ?_)
  refine s_iload_n (i := 1) (by decide +kernel) rfl (pn 30 rfl ?_)
  refine s_icmp_ge (off := 16) (tgt := 46) (by decide +kernel) rfl (fun c1 => ?_) (fun c1 => (pn 33 rfl ?_))
  · have h := h.1 c1
    refine s_aload_n (i := 0) (by decide +kernel) rfl (pn 47 rfl ?_)
    refine s_callvV [] rfl (by decide +kernel) mv_12_284 np_230 (Nat.le_of_ble_eq_true rfl) lq_159 ((congrArg Prod.fst sh_159).trans oc_230) (cV_use h (fun s1 M1 h => (pn 50 rfl ?_)))
    refine s_iload_n (i := 2) (by decide +kernel) rfl (pn 51 rfl ?_)
    exact s_ireturn (st := []) (by decide +kernel) (Or.inl rfl) ⟨_, rfl, s1, rfl, h⟩
  · have h := h.2 c1
    refine s_iload_n (i := 2) (by decide +kernel) rfl (pn 34 rfl ?_)
    refine s_aload_n (i := 0) (by decide +kernel) rfl (pn 35 rfl ?_)
    refine s_callvI [] rfl (by decide +kernel) mv_12_317 np_247 (Nat.le_of_ble_eq_true rfl) lq_159 ((congrArg Prod.fst sh_159).trans oc_247) (cI_use h (fun r1 s2 M2 h => (pn 38 rfl ?_)))
    refine s_iadd (by decide +kernel) (pn 39 rfl ?_)
    refine s_istore_n (i := 2) (by decide +kernel) (Nat.le_of_ble_eq_true rfl) (pn 40 rfl (t_store (ls' := [.ref 159, .int l1, .int (l2 + r1), .int l3]) rfl ?_))
    refine t_iinc (i := 3) (n := 1) (ls' := [.ref 159, .int l1, .int (l2 + r1), .int (l3 + 1)]) (by decide +kernel) rfl (Nat.le_of_ble_eq_true rfl) kn_1 rfl (pn 43 rfl ?_)
    refine s_goto (off := -15) (tgt := 28) (by decide +kernel) rfl ?_
    exact h
abbrev wM_goesDay (d pc : Nat) (ls st : List Value) (s : pm_S) (M : pm_M) (Q : Int32 → pm_S → pm_M → Prop) : Prop := wI d prog_14_method_63_code 12 (some .int) false pc ls st s M Q
theorem enM_goesDay {d : Nat} {s : pm_S} {M : pm_M}  {Q : Int32 → pm_S → pm_M → Prop}  (h : cI d yM_draw [.ref 159, .int 10] s M (fun r1 s1 M1 => wM_goesDay d 29 [.ref 159, .int 0] [] s1 (pm_si M1 160 47 ((if (M1.1 160 4) ≤ r1 then 0 else 1) : Int32)) Q)) : cI (d + 1) yM_goesDay [.ref 159] s M Q := by
  refine pm_toI (by decide) (Nat.le_of_ble_eq_true rfl) ?_
  show wM_goesDay d 0 [.ref 159, .null] [] s M Q
  refine s_aload_n (i := 0) (by decide +kernel) rfl (pn 1 rfl ?_)
  refine s_getfield (v := .ref 160) (by decide +kernel) fr_12_13 lq_159 (congrArg Prod.fst sh_159) (fv_ref pf_159_1) (pn 4 rfl ?_)
  refine t_bipush (by decide +kernel) kb_47 (pn 6 rfl ?_)
  refine s_aload_n (i := 0) (by decide +kernel) rfl (pn 7 rfl ?_)
  refine t_bipush (by decide +kernel) kb_10 (pn 9 rfl ?_)
  refine s_callvI [.int 10] rfl (by decide +kernel) mv_12_275 np_248 (Nat.le_of_ble_eq_true rfl) lq_159 ((congrArg Prod.fst sh_159).trans oc_248) (cI_use h (fun r1 s1 M1 h => (pn 12 rfl ?_)))
  refine s_aload_n (i := 0) (by decide +kernel) rfl (pn 13 rfl ?_)
  refine s_getfield (v := .ref 160) (by decide +kernel) fr_12_13 lq_159 (congrArg Prod.fst sh_159) (fv_ref pf_159_1) (pn 16 rfl ?_)
  refine t_iconst (by decide +kernel) ki_4 (pn 17 rfl ?_)
  refine t_iaload (v := M1.1 160 4) (by decide +kernel) ⟨Or.inl lq_160, congrArg Prod.fst sh_160⟩ (al_in sh_160 (vp_lit (n := 3870) tn_4 (by decide) (by decide))) (by rw [tn_4] <;> rfl) (pn 18 rfl ?_)
  have k1 : ∀ (z1 : Int32) (z1e : z1 = ((if (M1.1 160 4) ≤ r1 then 0 else 1) : Int32)), wM_goesDay d 26 [.ref 159, .null] [.int z1, .int 47, .ref 160] s1 M1 Q := by
    intro z1 z1e
    subst z1e
    refine t_iastore (k := 47) (by decide +kernel) ⟨lq_160, congrArg Prod.fst sh_160⟩ (al_in sh_160 (vp_lit (n := 3870) tn_47 (by decide) (by decide))) tn_47 (pn 27 rfl ?_)
    refine t_iconst (by decide +kernel) ki_0 (pn 28 rfl ?_)
    refine s_istore_n (i := 1) (by decide +kernel) (Nat.le_of_ble_eq_true rfl) (pn 29 rfl (t_store (ls' := [.ref 159, .int 0]) rfl ?_))
    exact h
  refine s_icmp_ge (off := 7) (tgt := 25) (by decide +kernel) rfl (fun c1 => ?_) (fun c1 => (pn 21 rfl ?_))
  · refine t_iconst (by decide +kernel) ki_0 (pn 26 rfl ?_)
    exact k1 _ (by simp only [if_pos c1])
  · refine t_iconst (by decide +kernel) ki_1 (pn 22 rfl ?_)
    refine s_goto (off := 4) (tgt := 26) (by decide +kernel) rfl ?_
    exact k1 _ (by simp only [if_neg c1])
theorem sgM_goesDay_29 {d : Nat} {s : pm_S} {M : pm_M} {l1 : Int32} {Q : Int32 → pm_S → pm_M → Prop}  (h : (((6 ≤ l1) → cI d yM_rolls [.ref 159] s (pm_si M 160 48 ((M.1 160 48) + 1)) (fun r1 s1 M1 => Q r1 s1 M1)) ∧ (¬ (6 ≤ l1) → vp_in ((72 : Int32) + l1) 3870 ∧ wM_goesDay d 29 [.ref 159, .int (l1 + 1)] [] s (pm_si M 160 ((72 : Int32) + l1).toNatClampNeg 0) Q))) : wM_goesDay d 29 [.ref 159, .int l1] [] s M Q := by
  refine s_iload_n (i := 1) (by decide +kernel) rfl (pn 30 rfl ?_)
  refine t_bipush (by decide +kernel) kb_6 (pn 32 rfl ?_)
  refine s_icmp_ge (off := 19) (tgt := 51) (by decide +kernel) rfl (fun c1 => ?_) (fun c1 => (pn 35 rfl ?_))
  · have h := h.1 c1
    refine s_aload_n (i := 0) (by decide +kernel) rfl (pn 52 rfl ?_)
    refine s_getfield (v := .ref 160) (by decide +kernel) fr_12_13 lq_159 (congrArg Prod.fst sh_159) (fv_ref pf_159_1) (pn 55 rfl ?_)
    refine t_bipush (by decide +kernel) kb_48 (pn 57 rfl ?_)
    refine s_dup2 (by decide +kernel) rfl rfl (pn 58 rfl ?_)
    refine t_iaload (v := M.1 160 48) (by decide +kernel) ⟨Or.inl lq_160, congrArg Prod.fst sh_160⟩ (al_in sh_160 (vp_lit (n := 3870) tn_48 (by decide) (by decide))) (by rw [tn_48] <;> rfl) (pn 59 rfl ?_)
    refine t_iconst (by decide +kernel) ki_1 (pn 60 rfl ?_)
    refine s_iadd (by decide +kernel) (pn 61 rfl ?_)
    refine t_iastore (k := 48) (by decide +kernel) ⟨lq_160, congrArg Prod.fst sh_160⟩ (al_in sh_160 (vp_lit (n := 3870) tn_48 (by decide) (by decide))) tn_48 (pn 62 rfl ?_)
    refine s_aload_n (i := 0) (by decide +kernel) rfl (pn 63 rfl ?_)
    refine s_callvI [] rfl (by decide +kernel) mv_12_278 np_249 (Nat.le_of_ble_eq_true rfl) lq_159 ((congrArg Prod.fst sh_159).trans oc_249) (cI_use h (fun r1 s1 M1 h => (pn 66 rfl ?_)))
    exact s_ireturn (st := []) (by decide +kernel) (Or.inl rfl) ⟨_, rfl, s1, rfl, h⟩
  · have h := h.2 c1
    refine s_aload_n (i := 0) (by decide +kernel) rfl (pn 36 rfl ?_)
    refine s_getfield (v := .ref 160) (by decide +kernel) fr_12_13 lq_159 (congrArg Prod.fst sh_159) (fv_ref pf_159_1) (pn 39 rfl ?_)
    refine t_bipush (by decide +kernel) kb_72 (pn 41 rfl ?_)
    refine s_iload_n (i := 1) (by decide +kernel) rfl (pn 42 rfl ?_)
    refine s_iadd (by decide +kernel) (pn 43 rfl ?_)
    refine t_iconst (by decide +kernel) ki_0 (pn 44 rfl ?_)
    obtain ⟨b1, h⟩ := h
    refine t_iastore (k := ((72 : Int32) + l1).toNatClampNeg) (by decide +kernel) ⟨lq_160, congrArg Prod.fst sh_160⟩ (al_in sh_160 b1) rfl (pn 45 rfl ?_)
    refine t_iinc (i := 1) (n := 1) (ls' := [.ref 159, .int (l1 + 1)]) (by decide +kernel) rfl (Nat.le_of_ble_eq_true rfl) kn_1 rfl (pn 48 rfl ?_)
    refine s_goto (off := -19) (tgt := 29) (by decide +kernel) rfl ?_
    exact h
abbrev wM_draw (d pc : Nat) (ls st : List Value) (s : pm_S) (M : pm_M) (Q : Int32 → pm_S → pm_M → Prop) : Prop := wI d prog_14_method_60_code 12 (some .int) false pc ls st s M Q
theorem enM_draw {d : Nat} {s : pm_S} {M : pm_M} {x1 : Int32} {Q : Int32 → pm_S → pm_M → Prop}  (h : (¬ x1 = 0) ∧ Q ((((((1103515245 : Int32) * (M.1 160 49)) + 12345).toUInt32 >>> ((16 : Int32).toUInt32 &&& Int32.toUInt32 31)).toInt32) - (((((1103515245 : Int32) * (M.1 160 49)) + 12345).toUInt32 >>> ((16 : Int32).toUInt32 &&& Int32.toUInt32 31)).toInt32) / x1 * x1) s (pm_si M 160 49 (((1103515245 : Int32) * (M.1 160 49)) + 12345))) : cI (d + 1) yM_draw [.ref 159, .int x1] s M Q := by
  refine pm_toI (by decide) (Nat.le_of_ble_eq_true rfl) ?_
  show wM_draw d 0 [.ref 159, .int x1] [] s M Q
  refine s_aload_n (i := 0) (by decide +kernel) rfl (pn 1 rfl ?_)
  refine s_getfield (v := .ref 160) (by decide +kernel) fr_12_13 lq_159 (congrArg Prod.fst sh_159) (fv_ref pf_159_1) (pn 4 rfl ?_)
  refine t_bipush (by decide +kernel) kb_49 (pn 6 rfl ?_)
  refine s_ldc_w (by decide +kernel) kc_12_271 (pn 9 rfl ?_)
  refine s_aload_n (i := 0) (by decide +kernel) rfl (pn 10 rfl ?_)
  refine s_getfield (v := .ref 160) (by decide +kernel) fr_12_13 lq_159 (congrArg Prod.fst sh_159) (fv_ref pf_159_1) (pn 13 rfl ?_)
  refine t_bipush (by decide +kernel) kb_49 (pn 15 rfl ?_)
  refine t_iaload (v := M.1 160 49) (by decide +kernel) ⟨Or.inl lq_160, congrArg Prod.fst sh_160⟩ (al_in sh_160 (vp_lit (n := 3870) tn_49 (by decide) (by decide))) (by rw [tn_49] <;> rfl) (pn 16 rfl ?_)
  refine s_imul (by decide +kernel) (pn 17 rfl ?_)
  refine t_sipush (by decide +kernel) ks_12345 (pn 20 rfl ?_)
  refine s_iadd (by decide +kernel) (pn 21 rfl ?_)
  refine t_iastore (k := 49) (by decide +kernel) ⟨lq_160, congrArg Prod.fst sh_160⟩ (al_in sh_160 (vp_lit (n := 3870) tn_49 (by decide) (by decide))) tn_49 (pn 22 rfl ?_)
  refine s_aload_n (i := 0) (by decide +kernel) rfl (pn 23 rfl ?_)
  refine s_getfield (v := .ref 160) (by decide +kernel) fr_12_13 lq_159 (congrArg Prod.fst sh_159) (fv_ref pf_159_1) (pn 26 rfl ?_)
  refine t_bipush (by decide +kernel) kb_49 (pn 28 rfl ?_)
  refine t_iaload (v := ((1103515245 : Int32) * (M.1 160 49)) + 12345) (by decide +kernel) ⟨Or.inl lq_160, congrArg Prod.fst sh_160⟩ (al_in sh_160 (vp_lit (n := 3870) tn_49 (by decide) (by decide))) (by rw [tn_49] <;> rfl) (pn 29 rfl ?_)
  refine t_bipush (by decide +kernel) kb_16 (pn 31 rfl ?_)
  refine s_iushr (by decide +kernel) (pn 32 rfl ?_)
  refine s_iload_n (i := 1) (by decide +kernel) rfl (pn 33 rfl ?_)
  obtain ⟨b1, h⟩ := h
  refine s_irem (by decide +kernel) b1 (pn 34 rfl ?_)
  exact s_ireturn (st := []) (by decide +kernel) (Or.inl rfl) ⟨_, rfl, s, rfl, h⟩
abbrev wM_rolls (d pc : Nat) (ls st : List Value) (s : pm_S) (M : pm_M) (Q : Int32 → pm_S → pm_M → Prop) : Prop := wI d prog_14_method_62_code 12 (some .int) false pc ls st s M Q
theorem enM_rolls {d : Nat} {s : pm_S} {M : pm_M}  {Q : Int32 → pm_S → pm_M → Prop}  (h : wM_rolls d 4 [.ref 159, .int 0, .int 0, .null, .null] [] s M Q) : cI (d + 1) yM_rolls [.ref 159] s M Q := by
  refine pm_toI (by decide) (Nat.le_of_ble_eq_true rfl) ?_
  show wM_rolls d 0 [.ref 159, .null, .null, .null, .null] [] s M Q
  refine t_iconst (by decide +kernel) ki_0 (pn 1 rfl ?_)
  refine s_istore_n (i := 1) (by decide +kernel) (Nat.le_of_ble_eq_true rfl) (pn 2 rfl (t_store (ls' := [.ref 159, .int 0, .null, .null, .null]) rfl ?_))
  refine t_iconst (by decide +kernel) ki_0 (pn 3 rfl ?_)
  refine s_istore_n (i := 2) (by decide +kernel) (Nat.le_of_ble_eq_true rfl) (pn 4 rfl (t_store (ls' := [.ref 159, .int 0, .int 0, .null, .null]) rfl ?_))
  exact h
theorem sgM_rolls_4 {d : Nat} {s : pm_S} {M : pm_M} {l1 : Int32} {l2 : Int32} {Q : Int32 → pm_S → pm_M → Prop}  (h : ((((M.1 160 2) ≤ l2) → Q l1 s M) ∧ (¬ ((M.1 160 2) ≤ l2) → vp_in ((50 : Int32) + l2) 3870 ∧ ((((M.1 160 ((50 : Int32) + l2).toNatClampNeg) < 10) → vp_in ((50 : Int32) + l2) 3870 ∧ ((((M.1 160 1) ≤ ((M.1 160 ((50 : Int32) + l2).toNatClampNeg) + 1)) → wM_rolls d 63 [.ref 159, .int l1, .int l2, .int ((M.1 160 ((50 : Int32) + l2).toNatClampNeg) + 1), .null] [.int (-1)] s M Q) ∧ (¬ ((M.1 160 1) ≤ ((M.1 160 ((50 : Int32) + l2).toNatClampNeg) + 1)) → cI d yM_taker [.ref 159, .int l2, .int ((M.1 160 ((50 : Int32) + l2).toNatClampNeg) + 1)] s M (fun r1 s1 M1 => wM_rolls d 63 [.ref 159, .int l1, .int l2, .int ((M.1 160 ((50 : Int32) + l2).toNatClampNeg) + 1), .null] [.int r1] s1 M1 Q)))) ∧ (¬ ((M.1 160 ((50 : Int32) + l2).toNatClampNeg) < 10) → wM_rolls d 4 [.ref 159, .int l1, .int (l2 + 1), .null, .null] [] s M Q))))) : wM_rolls d 4 [.ref 159, .int l1, .int l2, .null, .null] [] s M Q := by
  refine s_iload_n (i := 2) (by decide +kernel) rfl (pn 5 rfl ?_)
  refine s_aload_n (i := 0) (by decide +kernel) rfl (pn 6 rfl ?_)
  refine s_getfield (v := .ref 160) (by decide +kernel) fr_12_13 lq_159 (congrArg Prod.fst sh_159) (fv_ref pf_159_1) (pn 9 rfl ?_)
  refine t_iconst (by decide +kernel) ki_2 (pn 10 rfl ?_)
  refine t_iaload (v := M.1 160 2) (by decide +kernel) ⟨Or.inl lq_160, congrArg Prod.fst sh_160⟩ (al_in sh_160 (vp_lit (n := 3870) tn_2 (by decide) (by decide))) (by rw [tn_2] <;> rfl) (pn 11 rfl ?_)
  refine s_icmp_ge (off := 113) (tgt := 124) (by decide +kernel) rfl (fun c1 => ?_) (fun c1 => (pn 14 rfl ?_))
  · have h := h.1 c1
    refine s_iload_n (i := 1) (by decide +kernel) rfl (pn 125 rfl ?_)
    exact s_ireturn (st := []) (by decide +kernel) (Or.inl rfl) ⟨_, rfl, s, rfl, h⟩
  · have h := h.2 c1
    refine s_aload_n (i := 0) (by decide +kernel) rfl (pn 15 rfl ?_)
    refine s_getfield (v := .ref 160) (by decide +kernel) fr_12_13 lq_159 (congrArg Prod.fst sh_159) (fv_ref pf_159_1) (pn 18 rfl ?_)
    refine t_bipush (by decide +kernel) kb_50 (pn 20 rfl ?_)
    refine s_iload_n (i := 2) (by decide +kernel) rfl (pn 21 rfl ?_)
    refine s_iadd (by decide +kernel) (pn 22 rfl ?_)
    obtain ⟨b1, h⟩ := h
    refine t_iaload (v := M.1 160 ((50 : Int32) + l2).toNatClampNeg) (by decide +kernel) ⟨Or.inl lq_160, congrArg Prod.fst sh_160⟩ (al_in sh_160 b1) rfl (pn 23 rfl ?_)
    refine t_bipush (by decide +kernel) kb_10 (pn 25 rfl ?_)
    refine s_icmp_lt (off := 6) (tgt := 31) (by decide +kernel) rfl (fun c2 => ?_) (fun c2 => (pn 28 rfl ?_))
    · have h := h.1 c2
      refine s_aload_n (i := 0) (by decide +kernel) rfl (pn 32 rfl ?_)
      refine s_getfield (v := .ref 160) (by decide +kernel) fr_12_13 lq_159 (congrArg Prod.fst sh_159) (fv_ref pf_159_1) (pn 35 rfl ?_)
      refine t_bipush (by decide +kernel) kb_50 (pn 37 rfl ?_)
      refine s_iload_n (i := 2) (by decide +kernel) rfl (pn 38 rfl ?_)
      refine s_iadd (by decide +kernel) (pn 39 rfl ?_)
      obtain ⟨b2, h⟩ := h
      refine t_iaload (v := M.1 160 ((50 : Int32) + l2).toNatClampNeg) (by decide +kernel) ⟨Or.inl lq_160, congrArg Prod.fst sh_160⟩ (al_in sh_160 b2) rfl (pn 40 rfl ?_)
      refine t_iconst (by decide +kernel) ki_1 (pn 41 rfl ?_)
      refine s_iadd (by decide +kernel) (pn 42 rfl ?_)
      refine s_istore_n (i := 3) (by decide +kernel) (Nat.le_of_ble_eq_true rfl) (pn 43 rfl (t_store (ls' := [.ref 159, .int l1, .int l2, .int ((M.1 160 ((50 : Int32) + l2).toNatClampNeg) + 1), .null]) rfl ?_))
      refine s_iload_n (i := 3) (by decide +kernel) rfl (pn 44 rfl ?_)
      refine s_aload_n (i := 0) (by decide +kernel) rfl (pn 45 rfl ?_)
      refine s_getfield (v := .ref 160) (by decide +kernel) fr_12_13 lq_159 (congrArg Prod.fst sh_159) (fv_ref pf_159_1) (pn 48 rfl ?_)
      refine t_iconst (by decide +kernel) ki_1 (pn 49 rfl ?_)
      refine t_iaload (v := M.1 160 1) (by decide +kernel) ⟨Or.inl lq_160, congrArg Prod.fst sh_160⟩ (al_in sh_160 (vp_lit (n := 3870) tn_1 (by decide) (by decide))) (by rw [tn_1] <;> rfl) (pn 50 rfl ?_)
      refine s_icmp_ge (off := 12) (tgt := 62) (by decide +kernel) rfl (fun c4 => ?_) (fun c4 => (pn 53 rfl ?_))
      · have h := h.1 c4
        refine t_iconst (by decide +kernel) ki_m1 (pn 63 rfl ?_)
        exact h
      · have h := h.2 c4
        refine s_aload_n (i := 0) (by decide +kernel) rfl (pn 54 rfl ?_)
        refine s_iload_n (i := 2) (by decide +kernel) rfl (pn 55 rfl ?_)
        refine s_iload_n (i := 3) (by decide +kernel) rfl (pn 56 rfl ?_)
        refine s_callvI [.int l2, .int ((M.1 160 ((50 : Int32) + l2).toNatClampNeg) + 1)] rfl (by decide +kernel) mv_12_272 np_250 (Nat.le_of_ble_eq_true rfl) lq_159 ((congrArg Prod.fst sh_159).trans oc_250) (cI_use h (fun r1 s1 M1 h => (pn 59 rfl ?_)))
        refine s_goto (off := 4) (tgt := 63) (by decide +kernel) rfl ?_
        exact h
    · have h := h.2 c2
      refine s_goto (off := 90) (tgt := 118) (by decide +kernel) rfl ?_
      refine t_iinc (i := 2) (n := 1) (ls' := [.ref 159, .int l1, .int (l2 + 1), .null, .null]) (by decide +kernel) rfl (Nat.le_of_ble_eq_true rfl) kn_1 rfl (pn 121 rfl ?_)
      refine s_goto (off := -117) (tgt := 4) (by decide +kernel) rfl ?_
      exact h
theorem sgM_rolls_63 {d : Nat} {s : pm_S} {M : pm_M} {l1 : Int32} {l2 : Int32} {l3 : Int32} {t0 : Int32} {Q : Int32 → pm_S → pm_M → Prop}  (h : vp_in ((50 : Int32) + l2) 3870 ∧ wM_rolls d 4 [.ref 159, .int (l1 + ((if t0 = (-1) then 0 else 1) : Int32)), .int (l2 + 1), .null, .null] [] s (pm_si M 160 ((50 : Int32) + l2).toNatClampNeg ((if l3 = (M.1 160 1) then 99 else (if t0 = (-1) then l3 else ((10 : Int32) + t0))) : Int32)) Q) : wM_rolls d 63 [.ref 159, .int l1, .int l2, .int l3, .null] [.int t0] s M Q := by
  refine s_istore (i := 4) (by decide +kernel) (Nat.le_of_ble_eq_true rfl) (pn 65 rfl (t_store (ls' := [.ref 159, .int l1, .int l2, .int l3, .int t0]) rfl ?_))
  refine s_aload_n (i := 0) (by decide +kernel) rfl (pn 66 rfl ?_)
  refine s_getfield (v := .ref 160) (by decide +kernel) fr_12_13 lq_159 (congrArg Prod.fst sh_159) (fv_ref pf_159_1) (pn 69 rfl ?_)
  refine t_bipush (by decide +kernel) kb_50 (pn 71 rfl ?_)
  refine s_iload_n (i := 2) (by decide +kernel) rfl (pn 72 rfl ?_)
  refine s_iadd (by decide +kernel) (pn 73 rfl ?_)
  refine s_iload_n (i := 3) (by decide +kernel) rfl (pn 74 rfl ?_)
  refine s_aload_n (i := 0) (by decide +kernel) rfl (pn 75 rfl ?_)
  refine s_getfield (v := .ref 160) (by decide +kernel) fr_12_13 lq_159 (congrArg Prod.fst sh_159) (fv_ref pf_159_1) (pn 78 rfl ?_)
  refine t_iconst (by decide +kernel) ki_1 (pn 79 rfl ?_)
  refine t_iaload (v := M.1 160 1) (by decide +kernel) ⟨Or.inl lq_160, congrArg Prod.fst sh_160⟩ (al_in sh_160 (vp_lit (n := 3870) tn_1 (by decide) (by decide))) (by rw [tn_1] <;> rfl) (pn 80 rfl ?_)
  have k1 : ∀ (z1 : Int32) (z1e : z1 = ((if l3 = (M.1 160 1) then 99 else (if t0 = (-1) then l3 else ((10 : Int32) + t0))) : Int32)), wM_rolls d 103 [.ref 159, .int l1, .int l2, .int l3, .int t0] [.int z1, .int ((50 : Int32) + l2), .ref 160] s M Q := by
    intro z1 z1e
    subst z1e
    obtain ⟨b1, h⟩ := h
    refine t_iastore (k := ((50 : Int32) + l2).toNatClampNeg) (by decide +kernel) ⟨lq_160, congrArg Prod.fst sh_160⟩ (al_in sh_160 b1) rfl (pn 104 rfl ?_)
    refine s_iload_n (i := 1) (by decide +kernel) rfl (pn 105 rfl ?_)
    refine s_iload (i := 4) (by decide +kernel) rfl (pn 107 rfl ?_)
    refine t_iconst (by decide +kernel) ki_m1 (pn 108 rfl ?_)
    have k2 : ∀ (z2 : Int32) (z2e : z2 = ((if t0 = (-1) then 0 else 1) : Int32)), wM_rolls d 116 [.ref 159, .int l1, .int l2, .int l3, .int t0] [.int z2, .int l1] s (pm_si M 160 ((50 : Int32) + l2).toNatClampNeg ((if l3 = (M.1 160 1) then 99 else (if t0 = (-1) then l3 else ((10 : Int32) + t0))) : Int32)) Q := by
      intro z2 z2e
      subst z2e
      refine s_iadd (by decide +kernel) (pn 117 rfl ?_)
      refine s_istore_n (i := 1) (by decide +kernel) (Nat.le_of_ble_eq_true rfl) (pn 118 rfl (t_store (ls' := [.ref 159, .int (l1 + ((if t0 = (-1) then 0 else 1) : Int32)), .int l2, .int l3, .int t0]) rfl ?_))
      refine t_iinc (i := 2) (n := 1) (ls' := [.ref 159, .int (l1 + ((if t0 = (-1) then 0 else 1) : Int32)), .int (l2 + 1), .int l3, .int t0]) (by decide +kernel) rfl (Nat.le_of_ble_eq_true rfl) kn_1 rfl (pn 121 rfl ?_)
      refine s_goto (off := -117) (tgt := 4) (by decide +kernel) rfl ?_
      exact pm_weak [.ref 159, .int (l1 + ((if t0 = (-1) then 0 else 1) : Int32)), .int (l2 + 1), .null, .null] (pm_le_cons (Or.inr rfl) (pm_le_cons (Or.inr rfl) (pm_le_cons (Or.inr rfl) (pm_le_cons (Or.inl rfl) (pm_le_cons (Or.inl rfl) pm_le_nil))))) h
    refine t_icmp_ne (off := 7) (tgt := 115) (by decide +kernel) rfl (fun c3 => ?_) (fun c3 => (pn 111 rfl ?_))
    · refine t_iconst (by decide +kernel) ki_1 (pn 116 rfl ?_)
      exact k2 _ (by simp only [if_neg c3])
    · refine t_iconst (by decide +kernel) ki_0 (pn 112 rfl ?_)
      refine s_goto (off := 4) (tgt := 116) (by decide +kernel) rfl ?_
      exact k2 _ (by simp only [if_pos c3])
  refine t_icmp_ne (off := 8) (tgt := 88) (by decide +kernel) rfl (fun c1 => ?_) (fun c1 => (pn 83 rfl ?_))
  · refine s_iload (i := 4) (by decide +kernel) rfl (pn 90 rfl ?_)
    refine t_iconst (by decide +kernel) ki_m1 (pn 91 rfl ?_)
    refine t_icmp_ne (off := 7) (tgt := 98) (by decide +kernel) rfl (fun c2 => ?_) (fun c2 => (pn 94 rfl ?_))
    · refine t_bipush (by decide +kernel) kb_10 (pn 100 rfl ?_)
      refine s_iload (i := 4) (by decide +kernel) rfl (pn 102 rfl ?_)
      refine s_iadd (by decide +kernel) (pn 103 rfl ?_)
      exact k1 _ (by simp only [if_neg c1, if_neg c2])
    · refine s_iload_n (i := 3) (by decide +kernel) rfl (pn 95 rfl ?_)
      refine s_goto (off := 8) (tgt := 103) (by decide +kernel) rfl ?_
      exact k1 _ (by simp only [if_neg c1, if_pos c2])
  · refine t_bipush (by decide +kernel) kb_99 (pn 85 rfl ?_)
    refine s_goto (off := 18) (tgt := 103) (by decide +kernel) rfl ?_
    exact k1 _ (by simp only [if_pos c1])
abbrev wM_taker (d pc : Nat) (ls st : List Value) (s : pm_S) (M : pm_M) (Q : Int32 → pm_S → pm_M → Prop) : Prop := wI d prog_14_method_61_code 12 (some .int) false pc ls st s M Q
theorem enM_taker {d : Nat} {s : pm_S} {M : pm_M} {x1 : Int32} {x2 : Int32} {Q : Int32 → pm_S → pm_M → Prop}  (h : wM_taker d 8 [.ref 159, .int x1, .int x2, .int (-1), .int 0, .int 0, .null] [] s M Q) : cI (d + 1) yM_taker [.ref 159, .int x1, .int x2] s M Q := by
  refine pm_toI (by decide) (Nat.le_of_ble_eq_true rfl) ?_
  show wM_taker d 0 [.ref 159, .int x1, .int x2, .null, .null, .null, .null] [] s M Q
  refine t_iconst (by decide +kernel) ki_m1 (pn 1 rfl ?_)
  refine s_istore_n (i := 3) (by decide +kernel) (Nat.le_of_ble_eq_true rfl) (pn 2 rfl (t_store (ls' := [.ref 159, .int x1, .int x2, .int (-1), .null, .null, .null]) rfl ?_))
  refine t_iconst (by decide +kernel) ki_0 (pn 3 rfl ?_)
  refine s_istore (i := 4) (by decide +kernel) (Nat.le_of_ble_eq_true rfl) (pn 5 rfl (t_store (ls' := [.ref 159, .int x1, .int x2, .int (-1), .int 0, .null, .null]) rfl ?_))
  refine t_iconst (by decide +kernel) ki_0 (pn 6 rfl ?_)
  refine s_istore (i := 5) (by decide +kernel) (Nat.le_of_ble_eq_true rfl) (pn 8 rfl (t_store (ls' := [.ref 159, .int x1, .int x2, .int (-1), .int 0, .int 0, .null]) rfl ?_))
  exact h
theorem sgM_taker_8 {d : Nat} {s : pm_S} {M : pm_M} {l1 : Int32} {l2 : Int32} {l3 : Int32} {l4 : Int32} {l5 : Int32} {Q : Int32 → pm_S → pm_M → Prop}  (h : ((((M.1 160 3) ≤ l5) → Q l3 s M) ∧ (¬ ((M.1 160 3) ≤ l5) → vp_in ((35 : Int32) + l5) 3870 ∧ (((M.1 160 ((35 : Int32) + l5).toNatClampNeg) = l2 → cI d yM_heldBy [.ref 159, .int l5] s M (fun r1 s1 M1 => ((r1 = (-1) → cI d yM_claimsOf [.ref 159, .int l5, .int l1] s1 M1 (fun r2 s2 M2 => wM_taker d 8 [.ref 159, .int l1, .int l2, .int ((if l4 < r2 then l5 else l3) : Int32), .int ((if l4 < r2 then r2 else l4) : Int32), .int (l5 + 1), .null] [] s2 M2 Q)) ∧ (¬ (r1 = (-1)) → wM_taker d 8 [.ref 159, .int l1, .int l2, .int ((if l4 < (0 : Int32) then l5 else l3) : Int32), .int ((if l4 < (0 : Int32) then 0 else l4) : Int32), .int (l5 + 1), .null] [] s1 M1 Q)))) ∧ (¬ ((M.1 160 ((35 : Int32) + l5).toNatClampNeg) = l2) → wM_taker d 8 [.ref 159, .int l1, .int l2, .int ((if l4 < (0 : Int32) then l5 else l3) : Int32), .int ((if l4 < (0 : Int32) then 0 else l4) : Int32), .int (l5 + 1), .null] [] s M Q))))) : wM_taker d 8 [.ref 159, .int l1, .int l2, .int l3, .int l4, .int l5, .null] [] s M Q := by
  refine s_iload (i := 5) (by decide +kernel) rfl (pn 10 rfl ?_)
  refine s_aload_n (i := 0) (by decide +kernel) rfl (pn 11 rfl ?_)
  refine s_getfield (v := .ref 160) (by decide +kernel) fr_12_13 lq_159 (congrArg Prod.fst sh_159) (fv_ref pf_159_1) (pn 14 rfl ?_)
  refine t_iconst (by decide +kernel) ki_3 (pn 15 rfl ?_)
  refine t_iaload (v := M.1 160 3) (by decide +kernel) ⟨Or.inl lq_160, congrArg Prod.fst sh_160⟩ (al_in sh_160 (vp_lit (n := 3870) tn_3 (by decide) (by decide))) (by rw [tn_3] <;> rfl) (pn 16 rfl ?_)
  refine s_icmp_ge (off := 63) (tgt := 79) (by decide +kernel) rfl (fun c1 => ?_) (fun c1 => (pn 19 rfl ?_))
  · have h := h.1 c1
    refine s_iload_n (i := 3) (by decide +kernel) rfl (pn 80 rfl ?_)
    exact s_ireturn (st := []) (by decide +kernel) (Or.inl rfl) ⟨_, rfl, s, rfl, h⟩
  · have h := h.2 c1
    refine s_aload_n (i := 0) (by decide +kernel) rfl (pn 20 rfl ?_)
    refine s_getfield (v := .ref 160) (by decide +kernel) fr_12_13 lq_159 (congrArg Prod.fst sh_159) (fv_ref pf_159_1) (pn 23 rfl ?_)
    refine t_bipush (by decide +kernel) kb_35 (pn 25 rfl ?_)
    refine s_iload (i := 5) (by decide +kernel) rfl (pn 27 rfl ?_)
    refine s_iadd (by decide +kernel) (pn 28 rfl ?_)
    obtain ⟨b1, h⟩ := h
    refine t_iaload (v := M.1 160 ((35 : Int32) + l5).toNatClampNeg) (by decide +kernel) ⟨Or.inl lq_160, congrArg Prod.fst sh_160⟩ (al_in sh_160 b1) rfl (pn 29 rfl ?_)
    refine s_iload_n (i := 2) (by decide +kernel) rfl (pn 30 rfl ?_)
    refine t_icmp_ne (off := 23) (tgt := 53) (by decide +kernel) rfl (fun c2 => ?_) (fun c2 => (pn 33 rfl ?_))
    · have h := h.2 c2
      refine t_iconst (by decide +kernel) ki_0 (pn 54 rfl ?_)
      refine s_istore (i := 6) (by decide +kernel) (Nat.le_of_ble_eq_true rfl) (pn 56 rfl (t_store (ls' := [.ref 159, .int l1, .int l2, .int l3, .int l4, .int l5, .int 0]) rfl ?_))
      refine s_iload (i := 6) (by decide +kernel) rfl (pn 58 rfl ?_)
      refine s_iload (i := 4) (by decide +kernel) rfl (pn 60 rfl ?_)
      have k1 : ∀ (z1 : Int32) (z1e : z1 = ((if l4 < (0 : Int32) then l5 else l3) : Int32)) (z2 : Int32) (z2e : z2 = ((if l4 < (0 : Int32) then 0 else l4) : Int32)), wM_taker d 73 [.ref 159, .int l1, .int l2, .int z1, .int z2, .int l5, .int 0] [] s M Q := by
        intro z1 z1e z2 z2e
        subst z1e z2e
        refine t_iinc (i := 5) (n := 1) (ls' := [.ref 159, .int l1, .int l2, .int ((if l4 < (0 : Int32) then l5 else l3) : Int32), .int ((if l4 < (0 : Int32) then 0 else l4) : Int32), .int (l5 + 1), .int 0]) (by decide +kernel) rfl (Nat.le_of_ble_eq_true rfl) kn_1 rfl (pn 76 rfl ?_)
        refine s_goto (off := -68) (tgt := 8) (by decide +kernel) rfl ?_
        exact pm_weak [.ref 159, .int l1, .int l2, .int ((if l4 < (0 : Int32) then l5 else l3) : Int32), .int ((if l4 < (0 : Int32) then 0 else l4) : Int32), .int (l5 + 1), .null] (pm_le_cons (Or.inr rfl) (pm_le_cons (Or.inr rfl) (pm_le_cons (Or.inr rfl) (pm_le_cons (Or.inr rfl) (pm_le_cons (Or.inr rfl) (pm_le_cons (Or.inr rfl) (pm_le_cons (Or.inl rfl) pm_le_nil))))))) h
      refine s_icmp_gt (off := 6) (tgt := 66) (by decide +kernel) rfl (fun c3 => ?_) (fun c3 => (pn 63 rfl ?_))
      · refine s_iload (i := 5) (by decide +kernel) rfl (pn 68 rfl ?_)
        refine s_istore_n (i := 3) (by decide +kernel) (Nat.le_of_ble_eq_true rfl) (pn 69 rfl (t_store (ls' := [.ref 159, .int l1, .int l2, .int l5, .int l4, .int l5, .int 0]) rfl ?_))
        refine s_iload (i := 6) (by decide +kernel) rfl (pn 71 rfl ?_)
        refine s_istore (i := 4) (by decide +kernel) (Nat.le_of_ble_eq_true rfl) (pn 73 rfl (t_store (ls' := [.ref 159, .int l1, .int l2, .int l5, .int 0, .int l5, .int 0]) rfl ?_))
        exact k1 _ (by simp only [if_pos c3]) _ (by simp only [if_pos c3])
      · refine s_goto (off := 10) (tgt := 73) (by decide +kernel) rfl ?_
        exact k1 _ (by simp only [if_neg c3]) _ (by simp only [if_neg c3])
    · have h := h.1 c2
      refine s_aload_n (i := 0) (by decide +kernel) rfl (pn 34 rfl ?_)
      refine s_iload (i := 5) (by decide +kernel) rfl (pn 36 rfl ?_)
      refine s_callvI [.int l5] rfl (by decide +kernel) mv_12_253 np_220 (Nat.le_of_ble_eq_true rfl) lq_159 ((congrArg Prod.fst sh_159).trans oc_220) (cI_use h (fun r1 s1 M1 h => (pn 39 rfl ?_)))
      refine t_iconst (by decide +kernel) ki_m1 (pn 40 rfl ?_)
      refine t_icmp_ne (off := 13) (tgt := 53) (by decide +kernel) rfl (fun c4 => ?_) (fun c4 => (pn 43 rfl ?_))
      · have h := h.2 c4
        refine t_iconst (by decide +kernel) ki_0 (pn 54 rfl ?_)
        refine s_istore (i := 6) (by decide +kernel) (Nat.le_of_ble_eq_true rfl) (pn 56 rfl (t_store (ls' := [.ref 159, .int l1, .int l2, .int l3, .int l4, .int l5, .int 0]) rfl ?_))
        refine s_iload (i := 6) (by decide +kernel) rfl (pn 58 rfl ?_)
        refine s_iload (i := 4) (by decide +kernel) rfl (pn 60 rfl ?_)
        have k2 : ∀ (z3 : Int32) (z3e : z3 = ((if l4 < (0 : Int32) then l5 else l3) : Int32)) (z4 : Int32) (z4e : z4 = ((if l4 < (0 : Int32) then 0 else l4) : Int32)), wM_taker d 73 [.ref 159, .int l1, .int l2, .int z3, .int z4, .int l5, .int 0] [] s1 M1 Q := by
          intro z3 z3e z4 z4e
          subst z3e z4e
          refine t_iinc (i := 5) (n := 1) (ls' := [.ref 159, .int l1, .int l2, .int ((if l4 < (0 : Int32) then l5 else l3) : Int32), .int ((if l4 < (0 : Int32) then 0 else l4) : Int32), .int (l5 + 1), .int 0]) (by decide +kernel) rfl (Nat.le_of_ble_eq_true rfl) kn_1 rfl (pn 76 rfl ?_)
          refine s_goto (off := -68) (tgt := 8) (by decide +kernel) rfl ?_
          exact pm_weak [.ref 159, .int l1, .int l2, .int ((if l4 < (0 : Int32) then l5 else l3) : Int32), .int ((if l4 < (0 : Int32) then 0 else l4) : Int32), .int (l5 + 1), .null] (pm_le_cons (Or.inr rfl) (pm_le_cons (Or.inr rfl) (pm_le_cons (Or.inr rfl) (pm_le_cons (Or.inr rfl) (pm_le_cons (Or.inr rfl) (pm_le_cons (Or.inr rfl) (pm_le_cons (Or.inl rfl) pm_le_nil))))))) h
        refine s_icmp_gt (off := 6) (tgt := 66) (by decide +kernel) rfl (fun c5 => ?_) (fun c5 => (pn 63 rfl ?_))
        · refine s_iload (i := 5) (by decide +kernel) rfl (pn 68 rfl ?_)
          refine s_istore_n (i := 3) (by decide +kernel) (Nat.le_of_ble_eq_true rfl) (pn 69 rfl (t_store (ls' := [.ref 159, .int l1, .int l2, .int l5, .int l4, .int l5, .int 0]) rfl ?_))
          refine s_iload (i := 6) (by decide +kernel) rfl (pn 71 rfl ?_)
          refine s_istore (i := 4) (by decide +kernel) (Nat.le_of_ble_eq_true rfl) (pn 73 rfl (t_store (ls' := [.ref 159, .int l1, .int l2, .int l5, .int 0, .int l5, .int 0]) rfl ?_))
          exact k2 _ (by simp only [if_pos c5]) _ (by simp only [if_pos c5])
        · refine s_goto (off := 10) (tgt := 73) (by decide +kernel) rfl ?_
          exact k2 _ (by simp only [if_neg c5]) _ (by simp only [if_neg c5])
      · have h := h.1 c4
        refine s_aload_n (i := 0) (by decide +kernel) rfl (pn 44 rfl ?_)
        refine s_iload (i := 5) (by decide +kernel) rfl (pn 46 rfl ?_)
        refine s_iload_n (i := 1) (by decide +kernel) rfl (pn 47 rfl ?_)
        refine s_callvI [.int l5, .int l1] rfl (by decide +kernel) mv_12_256 np_222 (Nat.le_of_ble_eq_true rfl) lq_159 ((congrArg Prod.fst sh_159).trans oc_222) (cI_use h (fun r2 s2 M2 h => (pn 50 rfl ?_)))
        refine s_goto (off := 4) (tgt := 54) (by decide +kernel) rfl ?_
        refine s_istore (i := 6) (by decide +kernel) (Nat.le_of_ble_eq_true rfl) (pn 56 rfl (t_store (ls' := [.ref 159, .int l1, .int l2, .int l3, .int l4, .int l5, .int r2]) rfl ?_))
        refine s_iload (i := 6) (by decide +kernel) rfl (pn 58 rfl ?_)
        refine s_iload (i := 4) (by decide +kernel) rfl (pn 60 rfl ?_)
        have k3 : ∀ (z5 : Int32) (z5e : z5 = ((if l4 < r2 then l5 else l3) : Int32)) (z6 : Int32) (z6e : z6 = ((if l4 < r2 then r2 else l4) : Int32)), wM_taker d 73 [.ref 159, .int l1, .int l2, .int z5, .int z6, .int l5, .int r2] [] s2 M2 Q := by
          intro z5 z5e z6 z6e
          subst z5e z6e
          refine t_iinc (i := 5) (n := 1) (ls' := [.ref 159, .int l1, .int l2, .int ((if l4 < r2 then l5 else l3) : Int32), .int ((if l4 < r2 then r2 else l4) : Int32), .int (l5 + 1), .int r2]) (by decide +kernel) rfl (Nat.le_of_ble_eq_true rfl) kn_1 rfl (pn 76 rfl ?_)
          refine s_goto (off := -68) (tgt := 8) (by decide +kernel) rfl ?_
          exact pm_weak [.ref 159, .int l1, .int l2, .int ((if l4 < r2 then l5 else l3) : Int32), .int ((if l4 < r2 then r2 else l4) : Int32), .int (l5 + 1), .null] (pm_le_cons (Or.inr rfl) (pm_le_cons (Or.inr rfl) (pm_le_cons (Or.inr rfl) (pm_le_cons (Or.inr rfl) (pm_le_cons (Or.inr rfl) (pm_le_cons (Or.inr rfl) (pm_le_cons (Or.inl rfl) pm_le_nil))))))) h
        refine s_icmp_gt (off := 6) (tgt := 66) (by decide +kernel) rfl (fun c6 => ?_) (fun c6 => (pn 63 rfl ?_))
        · refine s_iload (i := 5) (by decide +kernel) rfl (pn 68 rfl ?_)
          refine s_istore_n (i := 3) (by decide +kernel) (Nat.le_of_ble_eq_true rfl) (pn 69 rfl (t_store (ls' := [.ref 159, .int l1, .int l2, .int l5, .int l4, .int l5, .int r2]) rfl ?_))
          refine s_iload (i := 6) (by decide +kernel) rfl (pn 71 rfl ?_)
          refine s_istore (i := 4) (by decide +kernel) (Nat.le_of_ble_eq_true rfl) (pn 73 rfl (t_store (ls' := [.ref 159, .int l1, .int l2, .int l5, .int r2, .int l5, .int r2]) rfl ?_))
          exact k3 _ (by simp only [if_pos c6]) _ (by simp only [if_pos c6])
        · refine s_goto (off := 10) (tgt := 73) (by decide +kernel) rfl ?_
          exact k3 _ (by simp only [if_neg c6]) _ (by simp only [if_neg c6])
abbrev wM_undo (d pc : Nat) (ls st : List Value) (s : pm_S) (M : pm_M) (Q : Int32 → pm_S → pm_M → Prop) : Prop := wI d prog_14_method_72_code 12 (some .int) false pc ls st s M Q
theorem enM_undo {d : Nat} {s : pm_S} {M : pm_M} {x1 : Int32} {Q : Int32 → pm_S → pm_M → Prop}  (h : cI d yM_within [.long (x1.toInt64), .long 1, .long 10] s (pm_si M 159 0 0) (fun r1 s1 M1 => (((r1 = 0) → Q (-3) s1 M1) ∧ (¬ (r1 = 0) → (((x1 ≤ (M1.1 160 78)) → wM_undo d 44 [.ref 159, .null, .int 0] [] s1 (pm_si M1 160 78 ((M1.1 160 78) - x1)) Q) ∧ (¬ (x1 ≤ (M1.1 160 78)) → Q (-3) s1 M1)))))) : cI (d + 1) yM_undo [.ref 159, .int x1] s M Q := by
  refine pm_toI (by decide) (Nat.le_of_ble_eq_true rfl) ?_
  show wM_undo d 0 [.ref 159, .int x1, .null] [] s M Q
  refine s_aload_n (i := 0) (by decide +kernel) rfl (pn 1 rfl ?_)
  refine t_iconst (by decide +kernel) ki_0 (pn 2 rfl ?_)
  refine s_putfieldI (by decide +kernel) fr_12_1 lq_159 (congrArg Prod.fst sh_159) (fun q => by cases q) (Or.inl rfl) (pn 5 rfl ?_)
  refine s_iload_n (i := 1) (by decide +kernel) rfl (pn 6 rfl ?_)
  refine s_i2l (by decide +kernel) (pn 7 rfl ?_)
  refine t_lconst (n := 1) (v := 1) (by decide +kernel) rfl (pn 8 rfl ?_)
  refine s_ldc2_w (by decide +kernel) kl_12_320 (pn 11 rfl ?_)
  refine s_callsI [.long (x1.toInt64), .long 1, .long 10] rfl (by decide +kernel) ms_12_163 np_188 (Nat.le_of_ble_eq_true rfl) (cI_use h (fun r1 s1 M1 h => (pn 14 rfl ?_)))
  refine s_if_eq (off := 14) (tgt := 28) (by decide +kernel) rfl (fun c1 => ?_) (fun c1 => (pn 17 rfl ?_))
  · have h := h.1 c1
    refine t_bipush (by decide +kernel) kb_m3 (pn 30 rfl ?_)
    exact s_ireturn (st := []) (by decide +kernel) (Or.inl rfl) ⟨_, rfl, s1, rfl, h⟩
  · have h := h.2 c1
    refine s_iload_n (i := 1) (by decide +kernel) rfl (pn 18 rfl ?_)
    refine s_aload_n (i := 0) (by decide +kernel) rfl (pn 19 rfl ?_)
    refine s_getfield (v := .ref 160) (by decide +kernel) fr_12_13 lq_159 (congrArg Prod.fst sh_159) (fv_ref pf_159_1) (pn 22 rfl ?_)
    refine t_bipush (by decide +kernel) kb_78 (pn 24 rfl ?_)
    refine t_iaload (v := M1.1 160 78) (by decide +kernel) ⟨Or.inl lq_160, congrArg Prod.fst sh_160⟩ (al_in sh_160 (vp_lit (n := 3870) tn_78 (by decide) (by decide))) (by rw [tn_78] <;> rfl) (pn 25 rfl ?_)
    refine s_icmp_le (off := 6) (tgt := 31) (by decide +kernel) rfl (fun c2 => ?_) (fun c2 => (pn 28 rfl ?_))
    · have h := h.1 c2
      refine s_aload_n (i := 0) (by decide +kernel) rfl (pn 32 rfl ?_)
      refine s_getfield (v := .ref 160) (by decide +kernel) fr_12_13 lq_159 (congrArg Prod.fst sh_159) (fv_ref pf_159_1) (pn 35 rfl ?_)
      refine t_bipush (by decide +kernel) kb_78 (pn 37 rfl ?_)
      refine s_dup2 (by decide +kernel) rfl rfl (pn 38 rfl ?_)
      refine t_iaload (v := M1.1 160 78) (by decide +kernel) ⟨Or.inl lq_160, congrArg Prod.fst sh_160⟩ (al_in sh_160 (vp_lit (n := 3870) tn_78 (by decide) (by decide))) (by rw [tn_78] <;> rfl) (pn 39 rfl ?_)
      refine s_iload_n (i := 1) (by decide +kernel) rfl (pn 40 rfl ?_)
      refine s_isub (by decide +kernel) (pn 41 rfl ?_)
      refine t_iastore (k := 78) (by decide +kernel) ⟨lq_160, congrArg Prod.fst sh_160⟩ (al_in sh_160 (vp_lit (n := 3870) tn_78 (by decide) (by decide))) tn_78 (pn 42 rfl ?_)
      refine t_iconst (by decide +kernel) ki_0 (pn 43 rfl ?_)
      refine s_istore_n (i := 2) (by decide +kernel) (Nat.le_of_ble_eq_true rfl) (pn 44 rfl (t_store (ls' := [.ref 159, .int x1, .int 0]) rfl ?_))
      exact pm_weak [.ref 159, .null, .int 0] (pm_le_cons (Or.inr rfl) (pm_le_cons (Or.inl rfl) (pm_le_cons (Or.inr rfl) pm_le_nil))) h
    · have h := h.2 c2
      refine t_bipush (by decide +kernel) kb_m3 (pn 30 rfl ?_)
      exact s_ireturn (st := []) (by decide +kernel) (Or.inl rfl) ⟨_, rfl, s1, rfl, h⟩
theorem sgM_undo_44 {d : Nat} {s : pm_S} {M : pm_M} {l2 : Int32} {Q : Int32 → pm_S → pm_M → Prop}  (h : (((31 ≤ l2) → Q (M.1 160 78) s M) ∧ (¬ (31 ≤ l2) → vp_in (((79 : Int32) + ((31 : Int32) * (M.1 160 78))) + l2) 3870 ∧ vp_in ((47 : Int32) + l2) 3870 ∧ wM_undo d 44 [.ref 159, .null, .int (l2 + 1)] [] s (pm_si M 160 ((47 : Int32) + l2).toNatClampNeg (M.1 160 (((79 : Int32) + ((31 : Int32) * (M.1 160 78))) + l2).toNatClampNeg)) Q))) : wM_undo d 44 [.ref 159, .null, .int l2] [] s M Q := by
  refine s_iload_n (i := 2) (by decide +kernel) rfl (pn 45 rfl ?_)
  refine t_bipush (by decide +kernel) kb_31 (pn 47 rfl ?_)
  refine s_icmp_ge (off := 38) (tgt := 85) (by decide +kernel) rfl (fun c1 => ?_) (fun c1 => (pn 50 rfl ?_))
  · have h := h.1 c1
    refine s_aload_n (i := 0) (by decide +kernel) rfl (pn 86 rfl ?_)
    refine s_getfield (v := .ref 160) (by decide +kernel) fr_12_13 lq_159 (congrArg Prod.fst sh_159) (fv_ref pf_159_1) (pn 89 rfl ?_)
    refine t_bipush (by decide +kernel) kb_78 (pn 91 rfl ?_)
    refine t_iaload (v := M.1 160 78) (by decide +kernel) ⟨Or.inl lq_160, congrArg Prod.fst sh_160⟩ (al_in sh_160 (vp_lit (n := 3870) tn_78 (by decide) (by decide))) (by rw [tn_78] <;> rfl) (pn 92 rfl ?_)
    exact s_ireturn (st := []) (by decide +kernel) (Or.inl rfl) ⟨_, rfl, s, rfl, h⟩
  · have h := h.2 c1
    refine s_aload_n (i := 0) (by decide +kernel) rfl (pn 51 rfl ?_)
    refine s_getfield (v := .ref 160) (by decide +kernel) fr_12_13 lq_159 (congrArg Prod.fst sh_159) (fv_ref pf_159_1) (pn 54 rfl ?_)
    refine t_bipush (by decide +kernel) kb_47 (pn 56 rfl ?_)
    refine s_iload_n (i := 2) (by decide +kernel) rfl (pn 57 rfl ?_)
    refine s_iadd (by decide +kernel) (pn 58 rfl ?_)
    refine s_aload_n (i := 0) (by decide +kernel) rfl (pn 59 rfl ?_)
    refine s_getfield (v := .ref 160) (by decide +kernel) fr_12_13 lq_159 (congrArg Prod.fst sh_159) (fv_ref pf_159_1) (pn 62 rfl ?_)
    refine t_bipush (by decide +kernel) kb_79 (pn 64 rfl ?_)
    refine t_bipush (by decide +kernel) kb_31 (pn 66 rfl ?_)
    refine s_aload_n (i := 0) (by decide +kernel) rfl (pn 67 rfl ?_)
    refine s_getfield (v := .ref 160) (by decide +kernel) fr_12_13 lq_159 (congrArg Prod.fst sh_159) (fv_ref pf_159_1) (pn 70 rfl ?_)
    refine t_bipush (by decide +kernel) kb_78 (pn 72 rfl ?_)
    refine t_iaload (v := M.1 160 78) (by decide +kernel) ⟨Or.inl lq_160, congrArg Prod.fst sh_160⟩ (al_in sh_160 (vp_lit (n := 3870) tn_78 (by decide) (by decide))) (by rw [tn_78] <;> rfl) (pn 73 rfl ?_)
    refine s_imul (by decide +kernel) (pn 74 rfl ?_)
    refine s_iadd (by decide +kernel) (pn 75 rfl ?_)
    refine s_iload_n (i := 2) (by decide +kernel) rfl (pn 76 rfl ?_)
    refine s_iadd (by decide +kernel) (pn 77 rfl ?_)
    obtain ⟨b1, h⟩ := h
    refine t_iaload (v := M.1 160 (((79 : Int32) + ((31 : Int32) * (M.1 160 78))) + l2).toNatClampNeg) (by decide +kernel) ⟨Or.inl lq_160, congrArg Prod.fst sh_160⟩ (al_in sh_160 b1) rfl (pn 78 rfl ?_)
    obtain ⟨b2, h⟩ := h
    refine t_iastore (k := ((47 : Int32) + l2).toNatClampNeg) (by decide +kernel) ⟨lq_160, congrArg Prod.fst sh_160⟩ (al_in sh_160 b2) rfl (pn 79 rfl ?_)
    refine t_iinc (i := 2) (n := 1) (ls' := [.ref 159, .null, .int (l2 + 1)]) (by decide +kernel) rfl (Nat.le_of_ble_eq_true rfl) kn_1 rfl (pn 82 rfl ?_)
    refine s_goto (off := -38) (tgt := 44) (by decide +kernel) rfl ?_
    exact h
abbrev wM_judge (d pc : Nat) (ls st : List Value) (s : pm_S) (M : pm_M) (Q : Int32 → pm_S → pm_M → Prop) : Prop := wI d prog_14_method_78_code 12 (some .int) false pc ls st s M Q
theorem enM_judge {d : Nat} {s : pm_S} {M : pm_M} {x1 : Int32} {x2 : Int32} {Q : Int32 → pm_S → pm_M → Prop}  (h : cI d yM_within [.long (x2.toInt64), .long 0, .long 3] s (pm_si M 159 0 0) (fun r1 s1 M1 => ((r1 = 0 → Q (-2) s1 M1) ∧ (¬ (r1 = 0) → cI d yM_noTray [.ref 159, .int x1] s1 M1 (fun r2 s2 M2 => (((r2 = 0) → cV d yM_keeps [.ref 159] s2 M2 (fun s3 M3 => cI d yM_tells [.ref 159, .int x1] s3 M3 (fun r3 s4 M4 => cI d yM_holders [.ref 159] s4 M4 (fun r4 s5 M5 => cI d yM_officeSet [.ref 159] s5 M5 (fun r5 s6 M6 => cI d yM_bitsOf [.int r5] s6 M6 (fun r6 s7 M7 => cV d yM_isAgain [.ref 159] s7 M7 (fun s8 M8 => Q ((if x2 = 0 then (if (M8.1 159 19) = 0 then (-1) else r3) else (if x2 = 1 then (M8.1 159 19) else (if x2 = 2 then r4 else r6))) : Int32) s8 M8))))))) ∧ (¬ (r2 = 0) → Q r2 s2 M2))))))) : cI (d + 1) yM_judge [.ref 159, .int x1, .int x2] s M Q := by
  refine pm_toI (by decide) (Nat.le_of_ble_eq_true rfl) ?_
  show wM_judge d 0 [.ref 159, .int x1, .int x2, .null, .null, .null, .null] [] s M Q
  refine s_aload_n (i := 0) (by decide +kernel) rfl (pn 1 rfl ?_)
  refine t_iconst (by decide +kernel) ki_0 (pn 2 rfl ?_)
  refine s_putfieldI (by decide +kernel) fr_12_1 lq_159 (congrArg Prod.fst sh_159) (fun q => by cases q) (Or.inl rfl) (pn 5 rfl ?_)
  refine s_iload_n (i := 2) (by decide +kernel) rfl (pn 6 rfl ?_)
  refine s_i2l (by decide +kernel) (pn 7 rfl ?_)
  refine t_lconst (n := 0) (v := 0) (by decide +kernel) rfl (pn 8 rfl ?_)
  refine s_ldc2_w (by decide +kernel) kl_12_347 (pn 11 rfl ?_)
  refine s_callsI [.long (x2.toInt64), .long 0, .long 3] rfl (by decide +kernel) ms_12_163 np_188 (Nat.le_of_ble_eq_true rfl) (cI_use h (fun r1 s1 M1 h => (pn 14 rfl ?_)))
  refine t_if_ne (off := 6) (tgt := 20) (by decide +kernel) rfl (fun c1 => ?_) (fun c1 => (pn 17 rfl ?_))
  · have h := h.2 c1
    refine s_aload_n (i := 0) (by decide +kernel) rfl (pn 21 rfl ?_)
    refine s_iload_n (i := 1) (by decide +kernel) rfl (pn 22 rfl ?_)
    refine s_callvI [.int x1] rfl (by decide +kernel) mv_12_349 np_253 (Nat.le_of_ble_eq_true rfl) lq_159 ((congrArg Prod.fst sh_159).trans oc_253) (cI_use h (fun r2 s2 M2 h => (pn 25 rfl ?_)))
    refine s_istore_n (i := 3) (by decide +kernel) (Nat.le_of_ble_eq_true rfl) (pn 26 rfl (t_store (ls' := [.ref 159, .int x1, .int x2, .int r2, .null, .null, .null]) rfl ?_))
    refine s_iload_n (i := 3) (by decide +kernel) rfl (pn 27 rfl ?_)
    refine s_if_eq (off := 5) (tgt := 32) (by decide +kernel) rfl (fun c2 => ?_) (fun c2 => (pn 30 rfl ?_))
    · have h := h.1 c2
      refine s_aload_n (i := 0) (by decide +kernel) rfl (pn 33 rfl ?_)
      refine s_callvV [] rfl (by decide +kernel) mv_12_281 np_229 (Nat.le_of_ble_eq_true rfl) lq_159 ((congrArg Prod.fst sh_159).trans oc_229) (cV_use h (fun s3 M3 h => (pn 36 rfl ?_)))
      refine s_aload_n (i := 0) (by decide +kernel) rfl (pn 37 rfl ?_)
      refine s_iload_n (i := 1) (by decide +kernel) rfl (pn 38 rfl ?_)
      refine s_callvI [.int x1] rfl (by decide +kernel) mv_12_352 np_254 (Nat.le_of_ble_eq_true rfl) lq_159 ((congrArg Prod.fst sh_159).trans oc_254) (cI_use h (fun r3 s4 M4 h => (pn 41 rfl ?_)))
      refine s_istore (i := 4) (by decide +kernel) (Nat.le_of_ble_eq_true rfl) (pn 43 rfl (t_store (ls' := [.ref 159, .int x1, .int x2, .int r2, .int r3, .null, .null]) rfl ?_))
      refine s_aload_n (i := 0) (by decide +kernel) rfl (pn 44 rfl ?_)
      refine s_callvI [] rfl (by decide +kernel) mv_12_355 np_257 (Nat.le_of_ble_eq_true rfl) lq_159 ((congrArg Prod.fst sh_159).trans oc_257) (cI_use h (fun r4 s5 M5 h => (pn 47 rfl ?_)))
      refine s_istore (i := 5) (by decide +kernel) (Nat.le_of_ble_eq_true rfl) (pn 49 rfl (t_store (ls' := [.ref 159, .int x1, .int x2, .int r2, .int r3, .int r4, .null]) rfl ?_))
      refine s_aload_n (i := 0) (by decide +kernel) rfl (pn 50 rfl ?_)
      refine s_callvI [] rfl (by decide +kernel) mv_12_294 np_236 (Nat.le_of_ble_eq_true rfl) lq_159 ((congrArg Prod.fst sh_159).trans oc_236) (cI_use h (fun r5 s6 M6 h => (pn 53 rfl ?_)))
      refine s_callsI [.int r5] rfl (by decide +kernel) ms_12_297 np_237 (Nat.le_of_ble_eq_true rfl) (cI_use h (fun r6 s7 M7 h => (pn 56 rfl ?_)))
      refine s_istore (i := 6) (by decide +kernel) (Nat.le_of_ble_eq_true rfl) (pn 58 rfl (t_store (ls' := [.ref 159, .int x1, .int x2, .int r2, .int r3, .int r4, .int r6]) rfl ?_))
      refine s_aload_n (i := 0) (by decide +kernel) rfl (pn 59 rfl ?_)
      refine s_callvV [] rfl (by decide +kernel) mv_12_358 np_258 (Nat.le_of_ble_eq_true rfl) lq_159 ((congrArg Prod.fst sh_159).trans oc_258) (cV_use h (fun s8 M8 h => (pn 62 rfl ?_)))
      refine s_iload_n (i := 2) (by decide +kernel) rfl (pn 63 rfl ?_)
      have k1 : ∀ (z1 : Int32) (z1e : z1 = ((if x2 = 0 then (if (M8.1 159 19) = 0 then (-1) else r3) else (if x2 = 1 then (M8.1 159 19) else (if x2 = 2 then r4 else r6))) : Int32)), wM_judge d 106 [.ref 159, .int x1, .int x2, .int r2, .int r3, .int r4, .int r6] [.int z1] s8 M8 Q := by
        intro z1 z1e
        subst z1e
        exact s_ireturn (st := []) (by decide +kernel) (Or.inl rfl) ⟨_, rfl, s8, rfl, h⟩
      refine t_if_ne (off := 19) (tgt := 82) (by decide +kernel) rfl (fun c3 => ?_) (fun c3 => (pn 66 rfl ?_))
      · refine s_iload_n (i := 2) (by decide +kernel) rfl (pn 83 rfl ?_)
        refine t_iconst (by decide +kernel) ki_1 (pn 84 rfl ?_)
        refine t_icmp_ne (off := 10) (tgt := 94) (by decide +kernel) rfl (fun c4 => ?_) (fun c4 => (pn 87 rfl ?_))
        · refine s_iload_n (i := 2) (by decide +kernel) rfl (pn 95 rfl ?_)
          refine t_iconst (by decide +kernel) ki_2 (pn 96 rfl ?_)
          refine t_icmp_ne (off := 8) (tgt := 104) (by decide +kernel) rfl (fun c5 => ?_) (fun c5 => (pn 99 rfl ?_))
          · refine s_iload (i := 6) (by decide +kernel) rfl (pn 106 rfl ?_)
            exact k1 _ (by simp only [if_neg c3, if_neg c4, if_neg c5])
          · refine s_iload (i := 5) (by decide +kernel) rfl (pn 101 rfl ?_)
            refine s_goto (off := 5) (tgt := 106) (by decide +kernel) rfl ?_
            exact k1 _ (by simp only [if_neg c3, if_neg c4, if_pos c5])
        · refine s_aload_n (i := 0) (by decide +kernel) rfl (pn 88 rfl ?_)
          refine s_getfield (v := .int (M8.1 159 19)) (by decide +kernel) fr_12_338 lq_159 (congrArg Prod.fst sh_159) rfl (pn 91 rfl ?_)
          refine s_goto (off := 15) (tgt := 106) (by decide +kernel) rfl ?_
          exact k1 _ (by simp only [if_neg c3, if_pos c4])
      · refine s_aload_n (i := 0) (by decide +kernel) rfl (pn 67 rfl ?_)
        refine s_getfield (v := .int (M8.1 159 19)) (by decide +kernel) fr_12_338 lq_159 (congrArg Prod.fst sh_159) rfl (pn 70 rfl ?_)
        refine t_if_ne (off := 7) (tgt := 77) (by decide +kernel) rfl (fun c6 => ?_) (fun c6 => (pn 73 rfl ?_))
        · refine s_iload (i := 4) (by decide +kernel) rfl (pn 79 rfl ?_)
          refine s_goto (off := 27) (tgt := 106) (by decide +kernel) rfl ?_
          exact k1 _ (by simp only [if_pos c3, if_neg c6])
        · refine t_iconst (by decide +kernel) ki_m1 (pn 74 rfl ?_)
          refine s_goto (off := 32) (tgt := 106) (by decide +kernel) rfl ?_
          exact k1 _ (by simp only [if_pos c3, if_pos c6])
    · have h := h.2 c2
      refine s_iload_n (i := 3) (by decide +kernel) rfl (pn 31 rfl ?_)
      exact s_ireturn (st := []) (by decide +kernel) (Or.inl rfl) ⟨_, rfl, s2, rfl, h⟩
  · have h := h.1 c1
    refine t_bipush (by decide +kernel) kb_m2 (pn 19 rfl ?_)
    exact s_ireturn (st := []) (by decide +kernel) (Or.inl rfl) ⟨_, rfl, s1, rfl, h⟩
abbrev wM_noTray (d pc : Nat) (ls st : List Value) (s : pm_S) (M : pm_M) (Q : Int32 → pm_S → pm_M → Prop) : Prop := wI d prog_14_method_76_code 12 (some .int) false pc ls st s M Q
theorem enM_noTray {d : Nat} {s : pm_S} {M : pm_M} {x1 : Int32} {Q : Int32 → pm_S → pm_M → Prop}  (h : cI d yM_within [.long (x1.toInt64), .long 0, .long 3] s M (fun r1 s1 M1 => (¬ (r1 = 0) → vp_in x1 4) ∧ Q ((if r1 = 0 then (-2) else (if (M1.1 182 x1.toNatClampNeg) = (-1) then (-6) else 0)) : Int32) s1 M1)) : cI (d + 1) yM_noTray [.ref 159, .int x1] s M Q := by
  refine pm_toI (by decide) (Nat.le_of_ble_eq_true rfl) ?_
  show wM_noTray d 0 [.ref 159, .int x1] [] s M Q
  refine s_iload_n (i := 1) (by decide +kernel) rfl (pn 1 rfl ?_)
  refine s_i2l (by decide +kernel) (pn 2 rfl ?_)
  refine t_lconst (n := 0) (v := 0) (by decide +kernel) rfl (pn 3 rfl ?_)
  refine s_ldc2_w (by decide +kernel) kl_12_347 (pn 6 rfl ?_)
  refine s_callsI [.long (x1.toInt64), .long 0, .long 3] rfl (by decide +kernel) ms_12_163 np_188 (Nat.le_of_ble_eq_true rfl) (cI_use h (fun r1 s1 M1 h => (pn 9 rfl ?_)))
  obtain ⟨b1, h⟩ := h
  have k1 : ∀ (z1 : Int32) (z1e : z1 = ((if r1 = 0 then (-2) else (if (M1.1 182 x1.toNatClampNeg) = (-1) then (-6) else 0)) : Int32)), wM_noTray d 33 [.ref 159, .int x1] [.int z1] s1 M1 Q := by
    intro z1 z1e
    subst z1e
    exact s_ireturn (st := []) (by decide +kernel) (Or.inl rfl) ⟨_, rfl, s1, rfl, h⟩
  refine t_if_ne (off := 8) (tgt := 17) (by decide +kernel) rfl (fun c1 => ?_) (fun c1 => (pn 12 rfl ?_))
  · refine s_aload_n (i := 0) (by decide +kernel) rfl (pn 18 rfl ?_)
    refine s_getfield (v := .ref 182) (by decide +kernel) fr_12_88 lq_159 (congrArg Prod.fst sh_159) (fv_ref pf_159_39) (pn 21 rfl ?_)
    refine s_iload_n (i := 1) (by decide +kernel) rfl (pn 22 rfl ?_)
    refine t_iaload (v := M1.1 182 x1.toNatClampNeg) (by decide +kernel) ⟨Or.inl lq_182, congrArg Prod.fst sh_182⟩ (al_in sh_182 (b1 c1)) rfl (pn 23 rfl ?_)
    refine t_iconst (by decide +kernel) ki_m1 (pn 24 rfl ?_)
    refine t_icmp_ne (off := 8) (tgt := 32) (by decide +kernel) rfl (fun c2 => ?_) (fun c2 => (pn 27 rfl ?_))
    · refine t_iconst (by decide +kernel) ki_0 (pn 33 rfl ?_)
      exact k1 _ (by simp only [if_neg c1, if_neg c2])
    · refine t_bipush (by decide +kernel) kb_m6 (pn 29 rfl ?_)
      refine s_goto (off := 4) (tgt := 33) (by decide +kernel) rfl ?_
      exact k1 _ (by simp only [if_neg c1, if_pos c2])
  · refine t_bipush (by decide +kernel) kb_m2 (pn 14 rfl ?_)
    refine s_goto (off := 19) (tgt := 33) (by decide +kernel) rfl ?_
    exact k1 _ (by simp only [if_pos c1])
abbrev wM_tells (d pc : Nat) (ls st : List Value) (s : pm_S) (M : pm_M) (Q : Int32 → pm_S → pm_M → Prop) : Prop := wI d prog_14_method_75_code 12 (some .int) false pc ls st s M Q
theorem enM_tells {d : Nat} {s : pm_S} {M : pm_M} {x1 : Int32} {Q : Int32 → pm_S → pm_M → Prop}  (h : wM_tells d 7 [.ref 159, .int x1, .int 0] [] s (pm_si M 159 19 0) Q) : cI (d + 1) yM_tells [.ref 159, .int x1] s M Q := by
  refine pm_toI (by decide) (Nat.le_of_ble_eq_true rfl) ?_
  show wM_tells d 0 [.ref 159, .int x1, .null] [] s M Q
  refine s_aload_n (i := 0) (by decide +kernel) rfl (pn 1 rfl ?_)
  refine t_iconst (by decide +kernel) ki_0 (pn 2 rfl ?_)
  refine s_putfieldI (by decide +kernel) fr_12_338 lq_159 (congrArg Prod.fst sh_159) (fun q => by cases q) (Or.inl rfl) (pn 5 rfl ?_)
  refine t_iconst (by decide +kernel) ki_0 (pn 6 rfl ?_)
  refine s_istore_n (i := 2) (by decide +kernel) (Nat.le_of_ble_eq_true rfl) (pn 7 rfl (t_store (ls' := [.ref 159, .int x1, .int 0]) rfl ?_))
  exact h
theorem sgM_tells_7 {d : Nat} {s : pm_S} {M : pm_M} {l1 : Int32} {l2 : Int32} {Q : Int32 → pm_S → pm_M → Prop}  (h : vp_in l1 4 ∧ ((((M.1 183 l1.toNatClampNeg) ≤ l2) → vp_in l1 4 ∧ Q (M.1 183 l1.toNatClampNeg) s M) ∧ (¬ ((M.1 183 l1.toNatClampNeg) ≤ l2) → vp_in (((40 : Int32) * l1) + l2) 160 ∧ cI d yM_whyNot [.ref 159, .long (M.2 184 (((40 : Int32) * l1) + l2).toNatClampNeg)] s M (fun r1 s1 M1 => (((r1 = 0) → vp_in (((40 : Int32) * l1) + l2) 160 ∧ cV d yM_does [.ref 159, .int ((M1.2 184 (((40 : Int32) * l1) + l2).toNatClampNeg).toInt32)] s1 (pm_si M1 159 19 r1) (fun s2 M2 => wM_tells d 7 [.ref 159, .int l1, .int (l2 + 1)] [] s2 M2 Q)) ∧ (¬ (r1 = 0) → Q l2 s1 (pm_si M1 159 19 r1))))))) : wM_tells d 7 [.ref 159, .int l1, .int l2] [] s M Q := by
  refine s_iload_n (i := 2) (by decide +kernel) rfl (pn 8 rfl ?_)
  refine s_aload_n (i := 0) (by decide +kernel) rfl (pn 9 rfl ?_)
  refine s_getfield (v := .ref 183) (by decide +kernel) fr_12_91 lq_159 (congrArg Prod.fst sh_159) (fv_ref pf_159_40) (pn 12 rfl ?_)
  refine s_iload_n (i := 1) (by decide +kernel) rfl (pn 13 rfl ?_)
  obtain ⟨b1, h⟩ := h
  refine t_iaload (v := M.1 183 l1.toNatClampNeg) (by decide +kernel) ⟨Or.inl lq_183, congrArg Prod.fst sh_183⟩ (al_in sh_183 b1) rfl (pn 14 rfl ?_)
  refine s_icmp_ge (off := 53) (tgt := 67) (by decide +kernel) rfl (fun c1 => ?_) (fun c1 => (pn 17 rfl ?_))
  · have h := h.1 c1
    refine s_aload_n (i := 0) (by decide +kernel) rfl (pn 68 rfl ?_)
    refine s_getfield (v := .ref 183) (by decide +kernel) fr_12_91 lq_159 (congrArg Prod.fst sh_159) (fv_ref pf_159_40) (pn 71 rfl ?_)
    refine s_iload_n (i := 1) (by decide +kernel) rfl (pn 72 rfl ?_)
    obtain ⟨b2, h⟩ := h
    refine t_iaload (v := M.1 183 l1.toNatClampNeg) (by decide +kernel) ⟨Or.inl lq_183, congrArg Prod.fst sh_183⟩ (al_in sh_183 b2) rfl (pn 73 rfl ?_)
    exact s_ireturn (st := []) (by decide +kernel) (Or.inl rfl) ⟨_, rfl, s, rfl, h⟩
  · have h := h.2 c1
    refine s_aload_n (i := 0) (by decide +kernel) rfl (pn 18 rfl ?_)
    refine s_aload_n (i := 0) (by decide +kernel) rfl (pn 19 rfl ?_)
    refine s_aload_n (i := 0) (by decide +kernel) rfl (pn 20 rfl ?_)
    refine s_getfield (v := .ref 184) (by decide +kernel) fr_12_94 lq_159 (congrArg Prod.fst sh_159) (fv_ref pf_159_41) (pn 23 rfl ?_)
    refine t_bipush (by decide +kernel) kb_40 (pn 25 rfl ?_)
    refine s_iload_n (i := 1) (by decide +kernel) rfl (pn 26 rfl ?_)
    refine s_imul (by decide +kernel) (pn 27 rfl ?_)
    refine s_iload_n (i := 2) (by decide +kernel) rfl (pn 28 rfl ?_)
    refine s_iadd (by decide +kernel) (pn 29 rfl ?_)
    obtain ⟨b3, h⟩ := h
    refine t_laload (v := M.2 184 (((40 : Int32) * l1) + l2).toNatClampNeg) (by decide +kernel) ⟨lq_184, congrArg Prod.fst sh_184⟩ (al_in sh_184 b3) rfl (pn 30 rfl ?_)
    refine s_callvI [.long (M.2 184 (((40 : Int32) * l1) + l2).toNatClampNeg)] rfl (by decide +kernel) mv_12_341 np_255 (Nat.le_of_ble_eq_true rfl) lq_159 ((congrArg Prod.fst sh_159).trans oc_255) (cI_use h (fun r1 s1 M1 h => (pn 33 rfl ?_)))
    refine s_putfieldI (by decide +kernel) fr_12_338 lq_159 (congrArg Prod.fst sh_159) (fun q => by cases q) (Or.inl rfl) (pn 36 rfl ?_)
    refine s_aload_n (i := 0) (by decide +kernel) rfl (pn 37 rfl ?_)
    refine s_getfield (v := .int r1) (by decide +kernel) fr_12_338 lq_159 (congrArg Prod.fst sh_159) rfl (pn 40 rfl ?_)
    refine s_if_eq (off := 5) (tgt := 45) (by decide +kernel) rfl (fun c2 => ?_) (fun c2 => (pn 43 rfl ?_))
    · have h := h.1 c2
      refine s_aload_n (i := 0) (by decide +kernel) rfl (pn 46 rfl ?_)
      refine s_aload_n (i := 0) (by decide +kernel) rfl (pn 47 rfl ?_)
      refine s_getfield (v := .ref 184) (by decide +kernel) fr_12_94 lq_159 (congrArg Prod.fst sh_159) (fv_ref pf_159_41) (pn 50 rfl ?_)
      refine t_bipush (by decide +kernel) kb_40 (pn 52 rfl ?_)
      refine s_iload_n (i := 1) (by decide +kernel) rfl (pn 53 rfl ?_)
      refine s_imul (by decide +kernel) (pn 54 rfl ?_)
      refine s_iload_n (i := 2) (by decide +kernel) rfl (pn 55 rfl ?_)
      refine s_iadd (by decide +kernel) (pn 56 rfl ?_)
      obtain ⟨b4, h⟩ := h
      refine t_laload (v := M1.2 184 (((40 : Int32) * l1) + l2).toNatClampNeg) (by decide +kernel) ⟨lq_184, congrArg Prod.fst sh_184⟩ (al_in sh_184 b4) rfl (pn 57 rfl ?_)
      refine s_l2i (by decide +kernel) (pn 58 rfl ?_)
      refine s_callvV [.int ((M1.2 184 (((40 : Int32) * l1) + l2).toNatClampNeg).toInt32)] rfl (by decide +kernel) mv_12_344 np_256 (Nat.le_of_ble_eq_true rfl) lq_159 ((congrArg Prod.fst sh_159).trans oc_256) (cV_use h (fun s2 M2 h => (pn 61 rfl ?_)))
      refine t_iinc (i := 2) (n := 1) (ls' := [.ref 159, .int l1, .int (l2 + 1)]) (by decide +kernel) rfl (Nat.le_of_ble_eq_true rfl) kn_1 rfl (pn 64 rfl ?_)
      refine s_goto (off := -57) (tgt := 7) (by decide +kernel) rfl ?_
      exact h
    · have h := h.2 c2
      refine s_iload_n (i := 2) (by decide +kernel) rfl (pn 44 rfl ?_)
      exact s_ireturn (st := []) (by decide +kernel) (Or.inl rfl) ⟨_, rfl, s1, rfl, h⟩
abbrev wM_whyNot (d pc : Nat) (ls st : List Value) (s : pm_S) (M : pm_M) (Q : Int32 → pm_S → pm_M → Prop) : Prop := wI d prog_14_method_73_code 12 (some .int) false pc ls st s M Q
theorem enM_whyNot {d : Nat} {s : pm_S} {M : pm_M} {x1 : Int64} {Q : Int32 → pm_S → pm_M → Prop}  (h : ((x1 = (-1) → Q 0 s M) ∧ (¬ (x1 = (-1)) → cI d yM_within [.long x1, .long 0, .long 9] s M (fun r1 s1 M1 => (((r1 = 0) → cI d yM_within [.long x1, .long 10, .long 19] s1 M1 (fun r2 s2 M2 => (((r2 = 0) → cI d yM_within [.long x1, .long 100, .long 199] s2 M2 (fun r3 s3 M3 => (((r3 = 0) → cI d yM_within [.long x1, .long 200, .long 299] s3 M3 (fun r4 s4 M4 => (((r4 = 0) → cI d yM_within [.long x1, .long 300, .long 399] s4 M4 (fun r5 s5 M5 => (((r5 = 0) → Q 1 s5 M5) ∧ (¬ (r5 = 0) → cI d yM_isPerson [.ref 159, .long ((x1 - x1 / 100 * 100) / 10)] s5 M5 (fun r6 s6 M6 => Q ((if r6 = 0 then 1 else 0) : Int32) s6 M6))))) ∧ (¬ (r4 = 0) → cI d yM_whySwap [.ref 159, .long ((x1 - x1 / 100 * 100) / 10), .long (x1 - x1 / 10 * 10)] s4 M4 (fun r7 s7 M7 => Q r7 s7 M7))))) ∧ (¬ (r3 = 0) → cI d yM_whyFetch [.ref 159, .long ((x1 - x1 / 100 * 100) / 10), .long (x1 - x1 / 10 * 10)] s3 M3 (fun r8 s8 M8 => Q r8 s8 M8))))) ∧ (¬ (r2 = 0) → cI d yM_whyOpen [.ref 159, .long (x1 - 10)] s2 M2 (fun r9 s9 M9 => Q r9 s9 M9))))) ∧ (¬ (r1 = 0) → cI d yM_whyHolds [.ref 159, .long x1] s1 M1 (fun r10 s10 M10 => Q r10 s10 M10))))))) : cI (d + 1) yM_whyNot [.ref 159, .long x1] s M Q := by
  refine pm_toI (by decide) (Nat.le_of_ble_eq_true rfl) ?_
  show wM_whyNot d 0 [.ref 159, .long x1, .null, .null, .null, .null, .null] [] s M Q
  refine s_lload_n (i := 1) (by decide +kernel) rfl (pn 1 rfl ?_)
  refine s_ldc2_w (by decide +kernel) kl_12_322 (pn 4 rfl ?_)
  refine t_lc_ne (off := 5) (tgt := 10) (by decide +kernel) (by decide +kernel) rfl (fun c1 => ?_) (fun c1 => (pn 8 rfl ?_))
  · have h := h.2 c1
    refine s_lload_n (i := 1) (by decide +kernel) rfl (pn 11 rfl ?_)
    refine t_lconst (n := 0) (v := 0) (by decide +kernel) rfl (pn 12 rfl ?_)
    refine s_ldc2_w (by decide +kernel) kl_12_313 (pn 15 rfl ?_)
    refine s_callsI [.long x1, .long 0, .long 9] rfl (by decide +kernel) ms_12_163 np_188 (Nat.le_of_ble_eq_true rfl) (cI_use h (fun r1 s1 M1 h => (pn 18 rfl ?_)))
    refine s_if_eq (off := 9) (tgt := 27) (by decide +kernel) rfl (fun c2 => ?_) (fun c2 => (pn 21 rfl ?_))
    · have h := h.1 c2
      refine s_lload_n (i := 1) (by decide +kernel) rfl (pn 28 rfl ?_)
      refine s_ldc2_w (by decide +kernel) kl_12_320 (pn 31 rfl ?_)
      refine s_ldc2_w (by decide +kernel) kl_12_324 (pn 34 rfl ?_)
      refine s_callsI [.long x1, .long 10, .long 19] rfl (by decide +kernel) ms_12_163 np_188 (Nat.le_of_ble_eq_true rfl) (cI_use h (fun r2 s2 M2 h => (pn 37 rfl ?_)))
      refine s_if_eq (off := 13) (tgt := 50) (by decide +kernel) rfl (fun c3 => ?_) (fun c3 => (pn 40 rfl ?_))
      · have h := h.1 c3
        refine s_lload_n (i := 1) (by decide +kernel) rfl (pn 51 rfl ?_)
        refine s_ldc2_w (by decide +kernel) kl_12_326 (pn 54 rfl ?_)
        refine s_lrem (by decide +kernel) (by decide) (pn 55 rfl ?_)
        refine s_ldc2_w (by decide +kernel) kl_12_320 (pn 58 rfl ?_)
        refine s_ldiv (by decide +kernel) (by decide) (pn 59 rfl ?_)
        refine s_lstore_n (i := 3) (by decide +kernel) (Nat.le_of_ble_eq_true rfl) (pn 60 rfl (t_store (ls' := [.ref 159, .long x1, .null, .long ((x1 - x1 / 100 * 100) / 10), .null, .null, .null]) rfl ?_))
        refine s_lload_n (i := 1) (by decide +kernel) rfl (pn 61 rfl ?_)
        refine s_ldc2_w (by decide +kernel) kl_12_320 (pn 64 rfl ?_)
        refine s_lrem (by decide +kernel) (by decide) (pn 65 rfl ?_)
        refine s_lstore (i := 5) (by decide +kernel) (Nat.le_of_ble_eq_true rfl) (pn 67 rfl (t_store (ls' := [.ref 159, .long x1, .null, .long ((x1 - x1 / 100 * 100) / 10), .null, .long (x1 - x1 / 10 * 10), .null]) rfl ?_))
        refine s_lload_n (i := 1) (by decide +kernel) rfl (pn 68 rfl ?_)
        refine s_ldc2_w (by decide +kernel) kl_12_326 (pn 71 rfl ?_)
        refine s_ldc2_w (by decide +kernel) kl_12_328 (pn 74 rfl ?_)
        refine s_callsI [.long x1, .long 100, .long 199] rfl (by decide +kernel) ms_12_163 np_188 (Nat.le_of_ble_eq_true rfl) (cI_use h (fun r3 s3 M3 h => (pn 77 rfl ?_)))
        refine s_if_eq (off := 11) (tgt := 88) (by decide +kernel) rfl (fun c4 => ?_) (fun c4 => (pn 80 rfl ?_))
        · have h := h.1 c4
          refine s_lload_n (i := 1) (by decide +kernel) rfl (pn 89 rfl ?_)
          refine s_ldc2_w (by decide +kernel) kl_12_330 (pn 92 rfl ?_)
          refine s_ldc2_w (by decide +kernel) kl_12_332 (pn 95 rfl ?_)
          refine s_callsI [.long x1, .long 200, .long 299] rfl (by decide +kernel) ms_12_163 np_188 (Nat.le_of_ble_eq_true rfl) (cI_use h (fun r4 s4 M4 h => (pn 98 rfl ?_)))
          refine s_if_eq (off := 11) (tgt := 109) (by decide +kernel) rfl (fun c5 => ?_) (fun c5 => (pn 101 rfl ?_))
          · have h := h.1 c5
            refine s_lload_n (i := 1) (by decide +kernel) rfl (pn 110 rfl ?_)
            refine s_ldc2_w (by decide +kernel) kl_12_334 (pn 113 rfl ?_)
            refine s_ldc2_w (by decide +kernel) kl_12_336 (pn 116 rfl ?_)
            refine s_callsI [.long x1, .long 300, .long 399] rfl (by decide +kernel) ms_12_163 np_188 (Nat.le_of_ble_eq_true rfl) (cI_use h (fun r5 s5 M5 h => (pn 119 rfl ?_)))
            refine s_if_eq (off := 15) (tgt := 134) (by decide +kernel) rfl (fun c6 => ?_) (fun c6 => (pn 122 rfl ?_))
            · have h := h.1 c6
              refine t_iconst (by decide +kernel) ki_1 (pn 135 rfl ?_)
              exact s_ireturn (st := []) (by decide +kernel) (Or.inl rfl) ⟨_, rfl, s5, rfl, h⟩
            · have h := h.2 c6
              refine s_aload_n (i := 0) (by decide +kernel) rfl (pn 123 rfl ?_)
              refine s_lload_n (i := 3) (by decide +kernel) rfl (pn 124 rfl ?_)
              refine s_callvI [.long ((x1 - x1 / 100 * 100) / 10)] rfl (by decide +kernel) mv_12_231 np_219 (Nat.le_of_ble_eq_true rfl) lq_159 ((congrArg Prod.fst sh_159).trans oc_219) (cI_use h (fun r6 s6 M6 h => (pn 127 rfl ?_)))
              have k1 : ∀ (z1 : Int32) (z1e : z1 = ((if r6 = 0 then 1 else 0) : Int32)), wM_whyNot d 135 [.ref 159, .long x1, .null, .long ((x1 - x1 / 100 * 100) / 10), .null, .long (x1 - x1 / 10 * 10), .null] [.int z1] s6 M6 Q := by
                intro z1 z1e
                subst z1e
                exact s_ireturn (st := []) (by decide +kernel) (Or.inl rfl) ⟨_, rfl, s6, rfl, h⟩
              refine s_if_eq (off := 7) (tgt := 134) (by decide +kernel) rfl (fun c7 => ?_) (fun c7 => (pn 130 rfl ?_))
              · refine t_iconst (by decide +kernel) ki_1 (pn 135 rfl ?_)
                exact k1 _ (by simp only [if_pos c7])
              · refine t_iconst (by decide +kernel) ki_0 (pn 131 rfl ?_)
                refine s_goto (off := 4) (tgt := 135) (by decide +kernel) rfl ?_
                exact k1 _ (by simp only [if_neg c7])
          · have h := h.2 c5
            refine s_aload_n (i := 0) (by decide +kernel) rfl (pn 102 rfl ?_)
            refine s_lload_n (i := 3) (by decide +kernel) rfl (pn 103 rfl ?_)
            refine s_lload (i := 5) (by decide +kernel) rfl (pn 105 rfl ?_)
            refine s_callvI [.long ((x1 - x1 / 100 * 100) / 10), .long (x1 - x1 / 10 * 10)] rfl (by decide +kernel) mv_12_306 np_242 (Nat.le_of_ble_eq_true rfl) lq_159 ((congrArg Prod.fst sh_159).trans oc_242) (cI_use h (fun r7 s7 M7 h => (pn 108 rfl ?_)))
            exact s_ireturn (st := []) (by decide +kernel) (Or.inl rfl) ⟨_, rfl, s7, rfl, h⟩
        · have h := h.2 c4
          refine s_aload_n (i := 0) (by decide +kernel) rfl (pn 81 rfl ?_)
          refine s_lload_n (i := 3) (by decide +kernel) rfl (pn 82 rfl ?_)
          refine s_lload (i := 5) (by decide +kernel) rfl (pn 84 rfl ?_)
          refine s_callvI [.long ((x1 - x1 / 100 * 100) / 10), .long (x1 - x1 / 10 * 10)] rfl (by decide +kernel) mv_12_290 np_235 (Nat.le_of_ble_eq_true rfl) lq_159 ((congrArg Prod.fst sh_159).trans oc_235) (cI_use h (fun r8 s8 M8 h => (pn 87 rfl ?_)))
          exact s_ireturn (st := []) (by decide +kernel) (Or.inl rfl) ⟨_, rfl, s8, rfl, h⟩
      · have h := h.2 c3
        refine s_aload_n (i := 0) (by decide +kernel) rfl (pn 41 rfl ?_)
        refine s_lload_n (i := 1) (by decide +kernel) rfl (pn 42 rfl ?_)
        refine s_ldc2_w (by decide +kernel) kl_12_320 (pn 45 rfl ?_)
        refine s_lsub (by decide +kernel) (pn 46 rfl ?_)
        refine s_callvI [.long (x1 - 10)] rfl (by decide +kernel) mv_12_300 np_239 (Nat.le_of_ble_eq_true rfl) lq_159 ((congrArg Prod.fst sh_159).trans oc_239) (cI_use h (fun r9 s9 M9 h => (pn 49 rfl ?_)))
        exact s_ireturn (st := []) (by decide +kernel) (Or.inl rfl) ⟨_, rfl, s9, rfl, h⟩
    · have h := h.2 c2
      refine s_aload_n (i := 0) (by decide +kernel) rfl (pn 22 rfl ?_)
      refine s_lload_n (i := 1) (by decide +kernel) rfl (pn 23 rfl ?_)
      refine s_callvI [.long x1] rfl (by decide +kernel) mv_12_263 np_232 (Nat.le_of_ble_eq_true rfl) lq_159 ((congrArg Prod.fst sh_159).trans oc_232) (cI_use h (fun r10 s10 M10 h => (pn 26 rfl ?_)))
      exact s_ireturn (st := []) (by decide +kernel) (Or.inl rfl) ⟨_, rfl, s10, rfl, h⟩
  · have h := h.1 c1
    refine t_iconst (by decide +kernel) ki_0 (pn 9 rfl ?_)
    exact s_ireturn (st := []) (by decide +kernel) (Or.inl rfl) ⟨_, rfl, s, rfl, h⟩
abbrev wM_does (d pc : Nat) (ls st : List Value) (s : pm_S) (M : pm_M) (Q : pm_S → pm_M → Prop) : Prop := wV d prog_14_method_74_code 12 none false pc ls st s M Q
theorem enM_does {d : Nat} {s : pm_S} {M : pm_M} {x1 : Int32} {Q : pm_S → pm_M → Prop}  (h : ((x1 = (-1) → cI d yM_goesDay [.ref 159] s M (fun r2 s4 M4 => Q s4 M4)) ∧ (¬ (x1 = (-1)) → (((10 ≤ x1) → (((100 ≤ x1) → (((200 ≤ x1) → (((300 ≤ x1) → vp_in ((66 : Int32) + ((x1 - x1 / 100 * 100) / 10)) 3870 ∧ Q s (pm_si M 160 ((66 : Int32) + ((x1 - x1 / 100 * 100) / 10)).toNatClampNeg (x1 - x1 / 10 * 10))) ∧ (¬ (300 ≤ x1) → cV d yM_swaps [.ref 159, .int ((x1 - x1 / 100 * 100) / 10), .int (x1 - x1 / 10 * 10)] s M (fun s1 M1 => Q s1 M1)))) ∧ (¬ (200 ≤ x1) → vp_in ((50 : Int32) + (x1 - x1 / 10 * 10)) 3870 ∧ Q s (pm_si M 160 ((50 : Int32) + (x1 - x1 / 10 * 10)).toNatClampNeg ((10 : Int32) + ((x1 - x1 / 100 * 100) / 10)))))) ∧ (¬ (100 ≤ x1) → cV d yM_opens1 [.ref 159, .int (x1 - 10)] s M (fun s2 M2 => Q s2 M2)))) ∧ (¬ (10 ≤ x1) → cI d yM_leaves [.ref 159, .int x1] s M (fun r1 s3 M3 => Q s3 M3)))))) : cV (d + 1) yM_does [.ref 159, .int x1] s M Q := by
  refine pm_toV (by decide) (Nat.le_of_ble_eq_true rfl) ?_
  show wM_does d 0 [.ref 159, .int x1, .null, .null] [] s M Q
  refine s_iload_n (i := 1) (by decide +kernel) rfl (pn 1 rfl ?_)
  refine t_bipush (by decide +kernel) kb_100 (pn 3 rfl ?_)
  refine s_irem (by decide +kernel) (by decide) (pn 4 rfl ?_)
  refine t_bipush (by decide +kernel) kb_10 (pn 6 rfl ?_)
  refine s_idiv (by decide +kernel) (by decide) (pn 7 rfl ?_)
  refine s_istore_n (i := 2) (by decide +kernel) (Nat.le_of_ble_eq_true rfl) (pn 8 rfl (t_store (ls' := [.ref 159, .int x1, .int ((x1 - x1 / 100 * 100) / 10), .null]) rfl ?_))
  refine s_iload_n (i := 1) (by decide +kernel) rfl (pn 9 rfl ?_)
  refine t_bipush (by decide +kernel) kb_10 (pn 11 rfl ?_)
  refine s_irem (by decide +kernel) (by decide) (pn 12 rfl ?_)
  refine s_istore_n (i := 3) (by decide +kernel) (Nat.le_of_ble_eq_true rfl) (pn 13 rfl (t_store (ls' := [.ref 159, .int x1, .int ((x1 - x1 / 100 * 100) / 10), .int (x1 - x1 / 10 * 10)]) rfl ?_))
  refine s_iload_n (i := 1) (by decide +kernel) rfl (pn 14 rfl ?_)
  refine t_iconst (by decide +kernel) ki_m1 (pn 15 rfl ?_)
  refine t_icmp_ne (off := 11) (tgt := 26) (by decide +kernel) rfl (fun c1 => ?_) (fun c1 => (pn 18 rfl ?_))
  · have h := h.2 c1
    refine s_iload_n (i := 1) (by decide +kernel) rfl (pn 27 rfl ?_)
    refine t_bipush (by decide +kernel) kb_10 (pn 29 rfl ?_)
    refine s_icmp_ge (off := 12) (tgt := 41) (by decide +kernel) rfl (fun c6 => ?_) (fun c6 => (pn 32 rfl ?_))
    · have h := h.1 c6
      refine s_iload_n (i := 1) (by decide +kernel) rfl (pn 42 rfl ?_)
      refine t_bipush (by decide +kernel) kb_100 (pn 44 rfl ?_)
      refine s_icmp_ge (off := 14) (tgt := 58) (by decide +kernel) rfl (fun c10 => ?_) (fun c10 => (pn 47 rfl ?_))
      · have h := h.1 c10
        refine s_iload_n (i := 1) (by decide +kernel) rfl (pn 59 rfl ?_)
        refine t_sipush (by decide +kernel) ks_200 (pn 62 rfl ?_)
        refine s_icmp_ge (off := 19) (tgt := 81) (by decide +kernel) rfl (fun c13 => ?_) (fun c13 => (pn 65 rfl ?_))
        · have h := h.1 c13
          refine s_iload_n (i := 1) (by decide +kernel) rfl (pn 82 rfl ?_)
          refine t_sipush (by decide +kernel) ks_300 (pn 85 rfl ?_)
          refine s_icmp_ge (off := 12) (tgt := 97) (by decide +kernel) rfl (fun c15 => ?_) (fun c15 => (pn 88 rfl ?_))
          · have h := h.1 c15
            refine s_aload_n (i := 0) (by decide +kernel) rfl (pn 98 rfl ?_)
            refine s_getfield (v := .ref 160) (by decide +kernel) fr_12_13 lq_159 (congrArg Prod.fst sh_159) (fv_ref pf_159_1) (pn 101 rfl ?_)
            refine t_bipush (by decide +kernel) kb_66 (pn 103 rfl ?_)
            refine s_iload_n (i := 2) (by decide +kernel) rfl (pn 104 rfl ?_)
            refine s_iadd (by decide +kernel) (pn 105 rfl ?_)
            refine s_iload_n (i := 3) (by decide +kernel) rfl (pn 106 rfl ?_)
            obtain ⟨b1, h⟩ := h
            refine t_iastore (k := ((66 : Int32) + ((x1 - x1 / 100 * 100) / 10)).toNatClampNeg) (by decide +kernel) ⟨lq_160, congrArg Prod.fst sh_160⟩ (al_in sh_160 b1) rfl (pn 107 rfl ?_)
            exact s_return (st := []) (by decide +kernel) rfl ⟨rfl, s, rfl, h⟩
          · have h := h.2 c15
            refine s_aload_n (i := 0) (by decide +kernel) rfl (pn 89 rfl ?_)
            refine s_iload_n (i := 2) (by decide +kernel) rfl (pn 90 rfl ?_)
            refine s_iload_n (i := 3) (by decide +kernel) rfl (pn 91 rfl ?_)
            refine s_callvV [.int ((x1 - x1 / 100 * 100) / 10), .int (x1 - x1 / 10 * 10)] rfl (by decide +kernel) mv_12_309 np_244 (Nat.le_of_ble_eq_true rfl) lq_159 ((congrArg Prod.fst sh_159).trans oc_244) (cV_use h (fun s1 M1 h => (pn 94 rfl ?_)))
            refine s_goto (off := 13) (tgt := 107) (by decide +kernel) rfl ?_
            exact s_return (st := []) (by decide +kernel) rfl ⟨rfl, s1, rfl, h⟩
        · have h := h.2 c13
          refine s_aload_n (i := 0) (by decide +kernel) rfl (pn 66 rfl ?_)
          refine s_getfield (v := .ref 160) (by decide +kernel) fr_12_13 lq_159 (congrArg Prod.fst sh_159) (fv_ref pf_159_1) (pn 69 rfl ?_)
          refine t_bipush (by decide +kernel) kb_50 (pn 71 rfl ?_)
          refine s_iload_n (i := 3) (by decide +kernel) rfl (pn 72 rfl ?_)
          refine s_iadd (by decide +kernel) (pn 73 rfl ?_)
          refine t_bipush (by decide +kernel) kb_10 (pn 75 rfl ?_)
          refine s_iload_n (i := 2) (by decide +kernel) rfl (pn 76 rfl ?_)
          refine s_iadd (by decide +kernel) (pn 77 rfl ?_)
          obtain ⟨b2, h⟩ := h
          refine t_iastore (k := ((50 : Int32) + (x1 - x1 / 10 * 10)).toNatClampNeg) (by decide +kernel) ⟨lq_160, congrArg Prod.fst sh_160⟩ (al_in sh_160 b2) rfl (pn 78 rfl ?_)
          refine s_goto (off := 29) (tgt := 107) (by decide +kernel) rfl ?_
          exact s_return (st := []) (by decide +kernel) rfl ⟨rfl, s, rfl, h⟩
      · have h := h.2 c10
        refine s_aload_n (i := 0) (by decide +kernel) rfl (pn 48 rfl ?_)
        refine s_iload_n (i := 1) (by decide +kernel) rfl (pn 49 rfl ?_)
        refine t_bipush (by decide +kernel) kb_10 (pn 51 rfl ?_)
        refine s_isub (by decide +kernel) (pn 52 rfl ?_)
        refine s_callvV [.int (x1 - 10)] rfl (by decide +kernel) mv_12_303 np_240 (Nat.le_of_ble_eq_true rfl) lq_159 ((congrArg Prod.fst sh_159).trans oc_240) (cV_use h (fun s2 M2 h => (pn 55 rfl ?_)))
        refine s_goto (off := 52) (tgt := 107) (by decide +kernel) rfl ?_
        exact s_return (st := []) (by decide +kernel) rfl ⟨rfl, s2, rfl, h⟩
    · have h := h.2 c6
      refine s_aload_n (i := 0) (by decide +kernel) rfl (pn 33 rfl ?_)
      refine s_iload_n (i := 1) (by decide +kernel) rfl (pn 34 rfl ?_)
      refine s_callvI [.int x1] rfl (by decide +kernel) mv_12_287 np_233 (Nat.le_of_ble_eq_true rfl) lq_159 ((congrArg Prod.fst sh_159).trans oc_233) (cI_use h (fun r1 s3 M3 h => (pn 37 rfl ?_)))
      refine s_pop (by decide +kernel) rfl (pn 38 rfl ?_)
      refine s_goto (off := 69) (tgt := 107) (by decide +kernel) rfl ?_
      exact s_return (st := []) (by decide +kernel) rfl ⟨rfl, s3, rfl, h⟩
  · have h := h.1 c1
    refine s_aload_n (i := 0) (by decide +kernel) rfl (pn 19 rfl ?_)
    refine s_callvI [] rfl (by decide +kernel) mv_12_317 np_247 (Nat.le_of_ble_eq_true rfl) lq_159 ((congrArg Prod.fst sh_159).trans oc_247) (cI_use h (fun r2 s4 M4 h => (pn 22 rfl ?_)))
    refine s_pop (by decide +kernel) rfl (pn 23 rfl ?_)
    refine s_goto (off := 84) (tgt := 107) (by decide +kernel) rfl ?_
    exact s_return (st := []) (by decide +kernel) rfl ⟨rfl, s4, rfl, h⟩
abbrev wM_holders (d pc : Nat) (ls st : List Value) (s : pm_S) (M : pm_M) (Q : Int32 → pm_S → pm_M → Prop) : Prop := wI d prog_14_method_77_code 12 (some .int) false pc ls st s M Q
theorem enM_holders {d : Nat} {s : pm_S} {M : pm_M}  {Q : Int32 → pm_S → pm_M → Prop}  (h : wM_holders d 4 [.ref 159, .int 0, .int 0] [] s M Q) : cI (d + 1) yM_holders [.ref 159] s M Q := by
  refine pm_toI (by decide) (Nat.le_of_ble_eq_true rfl) ?_
  show wM_holders d 0 [.ref 159, .null, .null] [] s M Q
  refine t_iconst (by decide +kernel) ki_0 (pn 1 rfl ?_)
  refine s_istore_n (i := 1) (by decide +kernel) (Nat.le_of_ble_eq_true rfl) (pn 2 rfl (t_store (ls' := [.ref 159, .int 0, .null]) rfl ?_))
  refine t_iconst (by decide +kernel) ki_0 (pn 3 rfl ?_)
  refine s_istore_n (i := 2) (by decide +kernel) (Nat.le_of_ble_eq_true rfl) (pn 4 rfl (t_store (ls' := [.ref 159, .int 0, .int 0]) rfl ?_))
  exact h
theorem sgM_holders_4 {d : Nat} {s : pm_S} {M : pm_M} {l1 : Int32} {l2 : Int32} {Q : Int32 → pm_S → pm_M → Prop}  (h : ((((M.1 160 3) ≤ l2) → Q l1 s M) ∧ (¬ ((M.1 160 3) ≤ l2) → cI d yM_heldBy [.ref 159, .int l2] s M (fun r1 s1 M1 => (∀ v1 : Int32, v1 = l1 ||| ((if r1 = (-1) then 0 else ((1 : Int32) <<< (l2 &&& 31))) : Int32) → wM_holders d 4 [.ref 159, .int v1, .int (l2 + 1)] [] s1 M1 Q))))) : wM_holders d 4 [.ref 159, .int l1, .int l2] [] s M Q := by
  refine s_iload_n (i := 2) (by decide +kernel) rfl (pn 5 rfl ?_)
  refine s_aload_n (i := 0) (by decide +kernel) rfl (pn 6 rfl ?_)
  refine s_getfield (v := .ref 160) (by decide +kernel) fr_12_13 lq_159 (congrArg Prod.fst sh_159) (fv_ref pf_159_1) (pn 9 rfl ?_)
  refine t_iconst (by decide +kernel) ki_3 (pn 10 rfl ?_)
  refine t_iaload (v := M.1 160 3) (by decide +kernel) ⟨Or.inl lq_160, congrArg Prod.fst sh_160⟩ (al_in sh_160 (vp_lit (n := 3870) tn_3 (by decide) (by decide))) (by rw [tn_3] <;> rfl) (pn 11 rfl ?_)
  refine s_icmp_ge (off := 28) (tgt := 39) (by decide +kernel) rfl (fun c1 => ?_) (fun c1 => (pn 14 rfl ?_))
  · have h := h.1 c1
    refine s_iload_n (i := 1) (by decide +kernel) rfl (pn 40 rfl ?_)
    exact s_ireturn (st := []) (by decide +kernel) (Or.inl rfl) ⟨_, rfl, s, rfl, h⟩
  · have h := h.2 c1
    refine s_iload_n (i := 1) (by decide +kernel) rfl (pn 15 rfl ?_)
    refine s_aload_n (i := 0) (by decide +kernel) rfl (pn 16 rfl ?_)
    refine s_iload_n (i := 2) (by decide +kernel) rfl (pn 17 rfl ?_)
    refine s_callvI [.int l2] rfl (by decide +kernel) mv_12_253 np_220 (Nat.le_of_ble_eq_true rfl) lq_159 ((congrArg Prod.fst sh_159).trans oc_220) (cI_use h (fun r1 s1 M1 h => (pn 20 rfl ?_)))
    refine t_iconst (by decide +kernel) ki_m1 (pn 21 rfl ?_)
    have k1 : ∀ (z1 : Int32) (z1e : z1 = ((if r1 = (-1) then 0 else ((1 : Int32) <<< (l2 &&& 31))) : Int32)), wM_holders d 31 [.ref 159, .int l1, .int l2] [.int z1, .int l1] s1 M1 Q := by
      intro z1 z1e
      subst z1e
      refine s_ior (by decide +kernel) (pn 32 rfl ?_)
      obtain ⟨v1, ev1⟩ : ∃ zz : Int32, zz = l1 ||| ((if r1 = (-1) then 0 else ((1 : Int32) <<< (l2 &&& 31))) : Int32) := ⟨_, rfl⟩
      have h := h v1 ev1
      rw [← ev1]
      refine s_istore_n (i := 1) (by decide +kernel) (Nat.le_of_ble_eq_true rfl) (pn 33 rfl (t_store (ls' := [.ref 159, .int v1, .int l2]) rfl ?_))
      refine t_iinc (i := 2) (n := 1) (ls' := [.ref 159, .int v1, .int (l2 + 1)]) (by decide +kernel) rfl (Nat.le_of_ble_eq_true rfl) kn_1 rfl (pn 36 rfl ?_)
      refine s_goto (off := -32) (tgt := 4) (by decide +kernel) rfl ?_
      exact h
    refine t_icmp_ne (off := 7) (tgt := 28) (by decide +kernel) rfl (fun c2 => ?_) (fun c2 => (pn 24 rfl ?_))
    · refine t_iconst (by decide +kernel) ki_1 (pn 29 rfl ?_)
      refine s_iload_n (i := 2) (by decide +kernel) rfl (pn 30 rfl ?_)
      refine s_ishl (by decide +kernel) (pn 31 rfl ?_)
      exact k1 _ (by simp only [if_neg c2])
    · refine t_iconst (by decide +kernel) ki_0 (pn 25 rfl ?_)
      refine s_goto (off := 6) (tgt := 31) (by decide +kernel) rfl ?_
      exact k1 _ (by simp only [if_pos c2])
abbrev wM_isAgain (d pc : Nat) (ls st : List Value) (s : pm_S) (M : pm_M) (Q : pm_S → pm_M → Prop) : Prop := wV d prog_14_method_51_code 12 none false pc ls st s M Q
theorem enM_isAgain {d : Nat} {s : pm_S} {M : pm_M}  {Q : pm_S → pm_M → Prop}  (h : wM_isAgain d 2 [.ref 159, .int 0] [] s M Q) : cV (d + 1) yM_isAgain [.ref 159] s M Q := by
  refine pm_toV (by decide) (Nat.le_of_ble_eq_true rfl) ?_
  show wM_isAgain d 0 [.ref 159, .null] [] s M Q
  refine t_iconst (by decide +kernel) ki_0 (pn 1 rfl ?_)
  refine s_istore_n (i := 1) (by decide +kernel) (Nat.le_of_ble_eq_true rfl) (pn 2 rfl (t_store (ls' := [.ref 159, .int 0]) rfl ?_))
  exact h
theorem sgM_isAgain_2 {d : Nat} {s : pm_S} {M : pm_M} {l1 : Int32} {Q : pm_S → pm_M → Prop}  (h : (((31 ≤ l1) → Q s M) ∧ (¬ (31 ≤ l1) → vp_in l1 31 ∧ vp_in ((47 : Int32) + l1) 3870 ∧ wM_isAgain d 2 [.ref 159, .int (l1 + 1)] [] s (pm_si M 160 ((47 : Int32) + l1).toNatClampNeg (M.1 166 l1.toNatClampNeg)) Q))) : wM_isAgain d 2 [.ref 159, .int l1] [] s M Q := by
  refine s_iload_n (i := 1) (by decide +kernel) rfl (pn 3 rfl ?_)
  refine t_bipush (by decide +kernel) kb_31 (pn 5 rfl ?_)
  refine s_icmp_ge (off := 24) (tgt := 29) (by decide +kernel) rfl (fun c1 => ?_) (fun c1 => (pn 8 rfl ?_))
  · have h := h.1 c1
    exact s_return (st := []) (by decide +kernel) rfl ⟨rfl, s, rfl, h⟩
  · have h := h.2 c1
    refine s_aload_n (i := 0) (by decide +kernel) rfl (pn 9 rfl ?_)
    refine s_getfield (v := .ref 160) (by decide +kernel) fr_12_13 lq_159 (congrArg Prod.fst sh_159) (fv_ref pf_159_1) (pn 12 rfl ?_)
    refine t_bipush (by decide +kernel) kb_47 (pn 14 rfl ?_)
    refine s_iload_n (i := 1) (by decide +kernel) rfl (pn 15 rfl ?_)
    refine s_iadd (by decide +kernel) (pn 16 rfl ?_)
    refine s_aload_n (i := 0) (by decide +kernel) rfl (pn 17 rfl ?_)
    refine s_getfield (v := .ref 166) (by decide +kernel) fr_12_36 lq_159 (congrArg Prod.fst sh_159) (fv_ref pf_159_18) (pn 20 rfl ?_)
    refine s_iload_n (i := 1) (by decide +kernel) rfl (pn 21 rfl ?_)
    obtain ⟨b1, h⟩ := h
    refine t_iaload (v := M.1 166 l1.toNatClampNeg) (by decide +kernel) ⟨Or.inl lq_166, congrArg Prod.fst sh_166⟩ (al_in sh_166 b1) rfl (pn 22 rfl ?_)
    obtain ⟨b2, h⟩ := h
    refine t_iastore (k := ((47 : Int32) + l1).toNatClampNeg) (by decide +kernel) ⟨lq_160, congrArg Prod.fst sh_160⟩ (al_in sh_160 b2) rfl (pn 23 rfl ?_)
    refine t_iinc (i := 1) (n := 1) (ls' := [.ref 159, .int (l1 + 1)]) (by decide +kernel) rfl (Nat.le_of_ble_eq_true rfl) kn_1 rfl (pn 26 rfl ?_)
    refine s_goto (off := -24) (tgt := 2) (by decide +kernel) rfl ?_
    exact h
abbrev wM_perform (d pc : Nat) (ls st : List Value) (s : pm_S) (M : pm_M) (Q : Int32 → pm_S → pm_M → Prop) : Prop := wI d prog_14_method_79_code 12 (some .int) false pc ls st s M Q
theorem enM_perform {d : Nat} {s : pm_S} {M : pm_M} {x1 : Int32} {Q : Int32 → pm_S → pm_M → Prop}  (h : cI d yM_noTray [.ref 159, .int x1] s (pm_si M 159 0 0) (fun r1 s1 M1 => (((r1 = 0) → cV d yM_keeps [.ref 159] s1 M1 (fun s2 M2 => cI d yM_tells [.ref 159, .int x1] s2 M2 (fun r2 s3 M3 => (((r2 ≤ 0) → Q r2 s3 M3) ∧ (¬ (r2 ≤ 0) → cV d yM_notes [.ref 159] s3 M3 (fun s4 M4 => Q r2 s4 M4)))))) ∧ (¬ (r1 = 0) → Q r1 s1 M1)))) : cI (d + 1) yM_perform [.ref 159, .int x1] s M Q := by
  refine pm_toI (by decide) (Nat.le_of_ble_eq_true rfl) ?_
  show wM_perform d 0 [.ref 159, .int x1, .null, .null] [] s M Q
  refine s_aload_n (i := 0) (by decide +kernel) rfl (pn 1 rfl ?_)
  refine t_iconst (by decide +kernel) ki_0 (pn 2 rfl ?_)
  refine s_putfieldI (by decide +kernel) fr_12_1 lq_159 (congrArg Prod.fst sh_159) (fun q => by cases q) (Or.inl rfl) (pn 5 rfl ?_)
  refine s_aload_n (i := 0) (by decide +kernel) rfl (pn 6 rfl ?_)
  refine s_iload_n (i := 1) (by decide +kernel) rfl (pn 7 rfl ?_)
  refine s_callvI [.int x1] rfl (by decide +kernel) mv_12_349 np_253 (Nat.le_of_ble_eq_true rfl) lq_159 ((congrArg Prod.fst sh_159).trans oc_253) (cI_use h (fun r1 s1 M1 h => (pn 10 rfl ?_)))
  refine s_istore_n (i := 2) (by decide +kernel) (Nat.le_of_ble_eq_true rfl) (pn 11 rfl (t_store (ls' := [.ref 159, .int x1, .int r1, .null]) rfl ?_))
  refine s_iload_n (i := 2) (by decide +kernel) rfl (pn 12 rfl ?_)
  refine s_if_eq (off := 5) (tgt := 17) (by decide +kernel) rfl (fun c1 => ?_) (fun c1 => (pn 15 rfl ?_))
  · have h := h.1 c1
    refine s_aload_n (i := 0) (by decide +kernel) rfl (pn 18 rfl ?_)
    refine s_callvV [] rfl (by decide +kernel) mv_12_281 np_229 (Nat.le_of_ble_eq_true rfl) lq_159 ((congrArg Prod.fst sh_159).trans oc_229) (cV_use h (fun s2 M2 h => (pn 21 rfl ?_)))
    refine s_aload_n (i := 0) (by decide +kernel) rfl (pn 22 rfl ?_)
    refine s_iload_n (i := 1) (by decide +kernel) rfl (pn 23 rfl ?_)
    refine s_callvI [.int x1] rfl (by decide +kernel) mv_12_352 np_254 (Nat.le_of_ble_eq_true rfl) lq_159 ((congrArg Prod.fst sh_159).trans oc_254) (cI_use h (fun r2 s3 M3 h => (pn 26 rfl ?_)))
    refine s_istore_n (i := 3) (by decide +kernel) (Nat.le_of_ble_eq_true rfl) (pn 27 rfl (t_store (ls' := [.ref 159, .int x1, .int r1, .int r2]) rfl ?_))
    refine s_iload_n (i := 3) (by decide +kernel) rfl (pn 28 rfl ?_)
    refine s_if_le (off := 7) (tgt := 35) (by decide +kernel) rfl (fun c2 => ?_) (fun c2 => (pn 31 rfl ?_))
    · have h := h.1 c2
      refine s_iload_n (i := 3) (by decide +kernel) rfl (pn 36 rfl ?_)
      exact s_ireturn (st := []) (by decide +kernel) (Or.inl rfl) ⟨_, rfl, s3, rfl, h⟩
    · have h := h.2 c2
      refine s_aload_n (i := 0) (by decide +kernel) rfl (pn 32 rfl ?_)
      refine s_callvV [] rfl (by decide +kernel) mv_12_284 np_230 (Nat.le_of_ble_eq_true rfl) lq_159 ((congrArg Prod.fst sh_159).trans oc_230) (cV_use h (fun s4 M4 h => (pn 35 rfl ?_)))
      refine s_iload_n (i := 3) (by decide +kernel) rfl (pn 36 rfl ?_)
      exact s_ireturn (st := []) (by decide +kernel) (Or.inl rfl) ⟨_, rfl, s4, rfl, h⟩
  · have h := h.2 c1
    refine s_iload_n (i := 2) (by decide +kernel) rfl (pn 16 rfl ?_)
    exact s_ireturn (st := []) (by decide +kernel) (Or.inl rfl) ⟨_, rfl, s1, rfl, h⟩
abbrev wM_season (d pc : Nat) (ls st : List Value) (s : pm_S) (M : pm_M) (Q : Int32 → pm_S → pm_M → Prop) : Prop := wI d prog_14_method_81_code 12 (some .int) false pc ls st s M Q
theorem enM_season {d : Nat} {s : pm_S} {M : pm_M} {x1 : Int32} {x2 : Int32} {Q : Int32 → pm_S → pm_M → Prop}  (h : cI d yM_within [.long (x2.toInt64), .long 1, .long 40] s (pm_si M 159 0 0) (fun r1 s1 M1 => ((r1 = 0 → Q (-3) s1 M1) ∧ (¬ (r1 = 0) → cV d yM_keeps [.ref 159] s1 M1 (fun s2 M2 => wM_season d 37 [.ref 159, .null, .int x2, .int 0, .int 0, .null] [] s2 (pm_si M2 160 49 x1) Q))))) : cI (d + 1) yM_season [.ref 159, .int x1, .int x2] s M Q := by
  refine pm_toI (by decide) (Nat.le_of_ble_eq_true rfl) ?_
  show wM_season d 0 [.ref 159, .int x1, .int x2, .null, .null, .null] [] s M Q
  refine s_aload_n (i := 0) (by decide +kernel) rfl (pn 1 rfl ?_)
  refine t_iconst (by decide +kernel) ki_0 (pn 2 rfl ?_)
  refine s_putfieldI (by decide +kernel) fr_12_1 lq_159 (congrArg Prod.fst sh_159) (fun q => by cases q) (Or.inl rfl) (pn 5 rfl ?_)
  refine s_iload_n (i := 2) (by decide +kernel) rfl (pn 6 rfl ?_)
  refine s_i2l (by decide +kernel) (pn 7 rfl ?_)
  refine t_lconst (n := 1) (v := 1) (by decide +kernel) rfl (pn 8 rfl ?_)
  refine s_ldc2_w (by decide +kernel) kl_12_361 (pn 11 rfl ?_)
  refine s_callsI [.long (x2.toInt64), .long 1, .long 40] rfl (by decide +kernel) ms_12_163 np_188 (Nat.le_of_ble_eq_true rfl) (cI_use h (fun r1 s1 M1 h => (pn 14 rfl ?_)))
  refine t_if_ne (off := 6) (tgt := 20) (by decide +kernel) rfl (fun c1 => ?_) (fun c1 => (pn 17 rfl ?_))
  · have h := h.2 c1
    refine s_aload_n (i := 0) (by decide +kernel) rfl (pn 21 rfl ?_)
    refine s_callvV [] rfl (by decide +kernel) mv_12_281 np_229 (Nat.le_of_ble_eq_true rfl) lq_159 ((congrArg Prod.fst sh_159).trans oc_229) (cV_use h (fun s2 M2 h => (pn 24 rfl ?_)))
    refine s_aload_n (i := 0) (by decide +kernel) rfl (pn 25 rfl ?_)
    refine s_getfield (v := .ref 160) (by decide +kernel) fr_12_13 lq_159 (congrArg Prod.fst sh_159) (fv_ref pf_159_1) (pn 28 rfl ?_)
    refine t_bipush (by decide +kernel) kb_49 (pn 30 rfl ?_)
    refine s_iload_n (i := 1) (by decide +kernel) rfl (pn 31 rfl ?_)
    refine t_iastore (k := 49) (by decide +kernel) ⟨lq_160, congrArg Prod.fst sh_160⟩ (al_in sh_160 (vp_lit (n := 3870) tn_49 (by decide) (by decide))) tn_49 (pn 32 rfl ?_)
    refine t_iconst (by decide +kernel) ki_0 (pn 33 rfl ?_)
    refine s_istore_n (i := 3) (by decide +kernel) (Nat.le_of_ble_eq_true rfl) (pn 34 rfl (t_store (ls' := [.ref 159, .int x1, .int x2, .int 0, .null, .null]) rfl ?_))
    refine t_iconst (by decide +kernel) ki_0 (pn 35 rfl ?_)
    refine s_istore (i := 4) (by decide +kernel) (Nat.le_of_ble_eq_true rfl) (pn 37 rfl (t_store (ls' := [.ref 159, .int x1, .int x2, .int 0, .int 0, .null]) rfl ?_))
    exact pm_weak [.ref 159, .null, .int x2, .int 0, .int 0, .null] (pm_le_cons (Or.inr rfl) (pm_le_cons (Or.inl rfl) (pm_le_cons (Or.inr rfl) (pm_le_cons (Or.inr rfl) (pm_le_cons (Or.inr rfl) (pm_le_cons (Or.inl rfl) pm_le_nil)))))) h
  · have h := h.1 c1
    refine t_bipush (by decide +kernel) kb_m3 (pn 19 rfl ?_)
    exact s_ireturn (st := []) (by decide +kernel) (Or.inl rfl) ⟨_, rfl, s1, rfl, h⟩
theorem sgM_season_37 {d : Nat} {s : pm_S} {M : pm_M} {l2 : Int32} {l3 : Int32} {l4 : Int32} {Q : Int32 → pm_S → pm_M → Prop}  (h : (((l2 ≤ l4) → (((l3 ≤ 0) → cV d yM_isAgain [.ref 159] s M (fun s1 M1 => Q l3 s1 M1)) ∧ (¬ (l3 ≤ 0) → cV d yM_notes [.ref 159] s M (fun s2 M2 => Q l3 s2 M2)))) ∧ (¬ (l2 ≤ l4) → cI d yM_drawn [.ref 159] s M (fun r1 s3 M3 => cI d yM_whyNot [.ref 159, .long (r1.toInt64)] s3 M3 (fun r2 s4 M4 => (((r2 = 0) → cV d yM_does [.ref 159, .int r1] s4 M4 (fun s5 M5 => wM_season d 37 [.ref 159, .null, .int l2, .int (l3 + 1), .int (l4 + 1), .null] [] s5 M5 Q)) ∧ (¬ (r2 = 0) → wM_season d 37 [.ref 159, .null, .int l2, .int l3, .int (l4 + 1), .null] [] s4 M4 Q))))))) : wM_season d 37 [.ref 159, .null, .int l2, .int l3, .int l4, .null] [] s M Q := by
  refine s_iload (i := 4) (by decide +kernel) rfl (pn 39 rfl ?_)
  refine s_iload_n (i := 2) (by decide +kernel) rfl (pn 40 rfl ?_)
  refine s_icmp_ge (off := 37) (tgt := 77) (by decide +kernel) rfl (fun c1 => ?_) (fun c1 => (pn 43 rfl ?_))
  · have h := h.1 c1
    refine s_iload_n (i := 3) (by decide +kernel) rfl (pn 78 rfl ?_)
    refine s_if_le (off := 10) (tgt := 88) (by decide +kernel) rfl (fun c2 => ?_) (fun c2 => (pn 81 rfl ?_))
    · have h := h.1 c2
      refine s_aload_n (i := 0) (by decide +kernel) rfl (pn 89 rfl ?_)
      refine s_callvV [] rfl (by decide +kernel) mv_12_358 np_258 (Nat.le_of_ble_eq_true rfl) lq_159 ((congrArg Prod.fst sh_159).trans oc_258) (cV_use h (fun s1 M1 h => (pn 92 rfl ?_)))
      refine s_iload_n (i := 3) (by decide +kernel) rfl (pn 93 rfl ?_)
      exact s_ireturn (st := []) (by decide +kernel) (Or.inl rfl) ⟨_, rfl, s1, rfl, h⟩
    · have h := h.2 c2
      refine s_aload_n (i := 0) (by decide +kernel) rfl (pn 82 rfl ?_)
      refine s_callvV [] rfl (by decide +kernel) mv_12_284 np_230 (Nat.le_of_ble_eq_true rfl) lq_159 ((congrArg Prod.fst sh_159).trans oc_230) (cV_use h (fun s2 M2 h => (pn 85 rfl ?_)))
      refine s_goto (off := 7) (tgt := 92) (by decide +kernel) rfl ?_
      refine s_iload_n (i := 3) (by decide +kernel) rfl (pn 93 rfl ?_)
      exact s_ireturn (st := []) (by decide +kernel) (Or.inl rfl) ⟨_, rfl, s2, rfl, h⟩
  · have h := h.2 c1
    refine s_aload_n (i := 0) (by decide +kernel) rfl (pn 44 rfl ?_)
    refine s_callvI [] rfl (by decide +kernel) mv_12_363 np_261 (Nat.le_of_ble_eq_true rfl) lq_159 ((congrArg Prod.fst sh_159).trans oc_261) (cI_use h (fun r1 s3 M3 h => (pn 47 rfl ?_)))
    refine s_istore (i := 5) (by decide +kernel) (Nat.le_of_ble_eq_true rfl) (pn 49 rfl (t_store (ls' := [.ref 159, .null, .int l2, .int l3, .int l4, .int r1]) rfl ?_))
    refine s_aload_n (i := 0) (by decide +kernel) rfl (pn 50 rfl ?_)
    refine s_iload (i := 5) (by decide +kernel) rfl (pn 52 rfl ?_)
    refine s_i2l (by decide +kernel) (pn 53 rfl ?_)
    refine s_callvI [.long (r1.toInt64)] rfl (by decide +kernel) mv_12_341 np_255 (Nat.le_of_ble_eq_true rfl) lq_159 ((congrArg Prod.fst sh_159).trans oc_255) (cI_use h (fun r2 s4 M4 h => (pn 56 rfl ?_)))
    refine s_if_eq (off := 6) (tgt := 62) (by decide +kernel) rfl (fun c3 => ?_) (fun c3 => (pn 59 rfl ?_))
    · have h := h.1 c3
      refine s_aload_n (i := 0) (by decide +kernel) rfl (pn 63 rfl ?_)
      refine s_iload (i := 5) (by decide +kernel) rfl (pn 65 rfl ?_)
      refine s_callvV [.int r1] rfl (by decide +kernel) mv_12_344 np_256 (Nat.le_of_ble_eq_true rfl) lq_159 ((congrArg Prod.fst sh_159).trans oc_256) (cV_use h (fun s5 M5 h => (pn 68 rfl ?_)))
      refine t_iinc (i := 3) (n := 1) (ls' := [.ref 159, .null, .int l2, .int (l3 + 1), .int l4, .int r1]) (by decide +kernel) rfl (Nat.le_of_ble_eq_true rfl) kn_1 rfl (pn 71 rfl ?_)
      refine t_iinc (i := 4) (n := 1) (ls' := [.ref 159, .null, .int l2, .int (l3 + 1), .int (l4 + 1), .int r1]) (by decide +kernel) rfl (Nat.le_of_ble_eq_true rfl) kn_1 rfl (pn 74 rfl ?_)
      refine s_goto (off := -37) (tgt := 37) (by decide +kernel) rfl ?_
      exact pm_weak [.ref 159, .null, .int l2, .int (l3 + 1), .int (l4 + 1), .null] (pm_le_cons (Or.inr rfl) (pm_le_cons (Or.inl rfl) (pm_le_cons (Or.inr rfl) (pm_le_cons (Or.inr rfl) (pm_le_cons (Or.inr rfl) (pm_le_cons (Or.inl rfl) pm_le_nil)))))) h
    · have h := h.2 c3
      refine s_goto (off := 12) (tgt := 71) (by decide +kernel) rfl ?_
      refine t_iinc (i := 4) (n := 1) (ls' := [.ref 159, .null, .int l2, .int l3, .int (l4 + 1), .int r1]) (by decide +kernel) rfl (Nat.le_of_ble_eq_true rfl) kn_1 rfl (pn 74 rfl ?_)
      refine s_goto (off := -37) (tgt := 37) (by decide +kernel) rfl ?_
      exact pm_weak [.ref 159, .null, .int l2, .int l3, .int (l4 + 1), .null] (pm_le_cons (Or.inr rfl) (pm_le_cons (Or.inl rfl) (pm_le_cons (Or.inr rfl) (pm_le_cons (Or.inr rfl) (pm_le_cons (Or.inr rfl) (pm_le_cons (Or.inl rfl) pm_le_nil)))))) h
abbrev wM_drawn (d pc : Nat) (ls st : List Value) (s : pm_S) (M : pm_M) (Q : Int32 → pm_S → pm_M → Prop) : Prop := wI d prog_14_method_80_code 12 (some .int) false pc ls st s M Q
theorem enM_drawn {d : Nat} {s : pm_S} {M : pm_M}  {Q : Int32 → pm_S → pm_M → Prop}  (h : cI d yM_draw [.ref 159, .int 6] s M (fun r1 s1 M1 => (((2 ≤ r1) → cI d yM_draw [.ref 159, .int 6] s1 M1 (fun r2 s2 M2 => ((r1 = 2 → Q r2 s2 M2) ∧ (¬ (r1 = 2) → ((r1 = 3 → Q ((10 : Int32) + r2) s2 M2) ∧ (¬ (r1 = 3) → ((r1 = 4 → cI d yM_draw [.ref 159, .int 8] s2 M2 (fun r4 s4 M4 => Q (((100 : Int32) + ((10 : Int32) * r2)) + r4) s4 M4)) ∧ (¬ (r1 = 4) → cI d yM_draw [.ref 159, .int 6] s2 M2 (fun r3 s3 M3 => Q (((200 : Int32) + ((10 : Int32) * r2)) + r3) s3 M3))))))))) ∧ (¬ (2 ≤ r1) → Q (-1) s1 M1)))) : cI (d + 1) yM_drawn [.ref 159] s M Q := by
  refine pm_toI (by decide) (Nat.le_of_ble_eq_true rfl) ?_
  show wM_drawn d 0 [.ref 159, .null, .null] [] s M Q
  refine s_aload_n (i := 0) (by decide +kernel) rfl (pn 1 rfl ?_)
  refine t_bipush (by decide +kernel) kb_6 (pn 3 rfl ?_)
  refine s_callvI [.int 6] rfl (by decide +kernel) mv_12_275 np_248 (Nat.le_of_ble_eq_true rfl) lq_159 ((congrArg Prod.fst sh_159).trans oc_248) (cI_use h (fun r1 s1 M1 h => (pn 6 rfl ?_)))
  refine s_istore_n (i := 1) (by decide +kernel) (Nat.le_of_ble_eq_true rfl) (pn 7 rfl (t_store (ls' := [.ref 159, .int r1, .null]) rfl ?_))
  refine s_iload_n (i := 1) (by decide +kernel) rfl (pn 8 rfl ?_)
  refine t_iconst (by decide +kernel) ki_2 (pn 9 rfl ?_)
  refine s_icmp_ge (off := 5) (tgt := 14) (by decide +kernel) rfl (fun c1 => ?_) (fun c1 => (pn 12 rfl ?_))
  · have h := h.1 c1
    refine s_aload_n (i := 0) (by decide +kernel) rfl (pn 15 rfl ?_)
    refine t_bipush (by decide +kernel) kb_6 (pn 17 rfl ?_)
    refine s_callvI [.int 6] rfl (by decide +kernel) mv_12_275 np_248 (Nat.le_of_ble_eq_true rfl) lq_159 ((congrArg Prod.fst sh_159).trans oc_248) (cI_use h (fun r2 s2 M2 h => (pn 20 rfl ?_)))
    refine s_istore_n (i := 2) (by decide +kernel) (Nat.le_of_ble_eq_true rfl) (pn 21 rfl (t_store (ls' := [.ref 159, .int r1, .int r2]) rfl ?_))
    refine s_iload_n (i := 1) (by decide +kernel) rfl (pn 22 rfl ?_)
    refine t_iconst (by decide +kernel) ki_2 (pn 23 rfl ?_)
    refine t_icmp_ne (off := 7) (tgt := 30) (by decide +kernel) rfl (fun c2 => ?_) (fun c2 => (pn 26 rfl ?_))
    · have h := h.2 c2
      refine s_iload_n (i := 1) (by decide +kernel) rfl (pn 31 rfl ?_)
      refine t_iconst (by decide +kernel) ki_3 (pn 32 rfl ?_)
      refine t_icmp_ne (off := 10) (tgt := 42) (by decide +kernel) rfl (fun c5 => ?_) (fun c5 => (pn 35 rfl ?_))
      · have h := h.2 c5
        refine s_iload_n (i := 1) (by decide +kernel) rfl (pn 43 rfl ?_)
        refine t_iconst (by decide +kernel) ki_4 (pn 44 rfl ?_)
        refine t_icmp_ne (off := 20) (tgt := 64) (by decide +kernel) rfl (fun c7 => ?_) (fun c7 => (pn 47 rfl ?_))
        · have h := h.2 c7
          refine t_sipush (by decide +kernel) ks_200 (pn 67 rfl ?_)
          refine t_bipush (by decide +kernel) kb_10 (pn 69 rfl ?_)
          refine s_iload_n (i := 2) (by decide +kernel) rfl (pn 70 rfl ?_)
          refine s_imul (by decide +kernel) (pn 71 rfl ?_)
          refine s_iadd (by decide +kernel) (pn 72 rfl ?_)
          refine s_aload_n (i := 0) (by decide +kernel) rfl (pn 73 rfl ?_)
          refine t_bipush (by decide +kernel) kb_6 (pn 75 rfl ?_)
          refine s_callvI [.int 6] rfl (by decide +kernel) mv_12_275 np_248 (Nat.le_of_ble_eq_true rfl) lq_159 ((congrArg Prod.fst sh_159).trans oc_248) (cI_use h (fun r3 s3 M3 h => (pn 78 rfl ?_)))
          refine s_iadd (by decide +kernel) (pn 79 rfl ?_)
          exact s_ireturn (st := []) (by decide +kernel) (Or.inl rfl) ⟨_, rfl, s3, rfl, h⟩
        · have h := h.1 c7
          refine t_bipush (by decide +kernel) kb_100 (pn 49 rfl ?_)
          refine t_bipush (by decide +kernel) kb_10 (pn 51 rfl ?_)
          refine s_iload_n (i := 2) (by decide +kernel) rfl (pn 52 rfl ?_)
          refine s_imul (by decide +kernel) (pn 53 rfl ?_)
          refine s_iadd (by decide +kernel) (pn 54 rfl ?_)
          refine s_aload_n (i := 0) (by decide +kernel) rfl (pn 55 rfl ?_)
          refine t_bipush (by decide +kernel) kb_8 (pn 57 rfl ?_)
          refine s_callvI [.int 8] rfl (by decide +kernel) mv_12_275 np_248 (Nat.le_of_ble_eq_true rfl) lq_159 ((congrArg Prod.fst sh_159).trans oc_248) (cI_use h (fun r4 s4 M4 h => (pn 60 rfl ?_)))
          refine s_iadd (by decide +kernel) (pn 61 rfl ?_)
          refine s_goto (off := 18) (tgt := 79) (by decide +kernel) rfl ?_
          exact s_ireturn (st := []) (by decide +kernel) (Or.inl rfl) ⟨_, rfl, s4, rfl, h⟩
      · have h := h.1 c5
        refine t_bipush (by decide +kernel) kb_10 (pn 37 rfl ?_)
        refine s_iload_n (i := 2) (by decide +kernel) rfl (pn 38 rfl ?_)
        refine s_iadd (by decide +kernel) (pn 39 rfl ?_)
        refine s_goto (off := 40) (tgt := 79) (by decide +kernel) rfl ?_
        exact s_ireturn (st := []) (by decide +kernel) (Or.inl rfl) ⟨_, rfl, s2, rfl, h⟩
    · have h := h.1 c2
      refine s_iload_n (i := 2) (by decide +kernel) rfl (pn 27 rfl ?_)
      refine s_goto (off := 52) (tgt := 79) (by decide +kernel) rfl ?_
      exact s_ireturn (st := []) (by decide +kernel) (Or.inl rfl) ⟨_, rfl, s2, rfl, h⟩
  · have h := h.2 c1
    refine t_iconst (by decide +kernel) ki_m1 (pn 13 rfl ?_)
    exact s_ireturn (st := []) (by decide +kernel) (Or.inl rfl) ⟨_, rfl, s1, rfl, h⟩
abbrev wM_goes (d pc : Nat) (ls st : List Value) (s : pm_S) (M : pm_M) (Q : Int32 → pm_S → pm_M → Prop) : Prop := wI d prog_14_method_84_code 12 (some .int) false pc ls st s M Q
theorem enM_goes {d : Nat} {s : pm_S} {M : pm_M} {x1 : Int32} {x2 : Int32} {Q : Int32 → pm_S → pm_M → Prop}  (h : cI d yM_isThing [.ref 159, .long (x1.toInt64)] s (pm_si M 159 0 0) (fun r1 s1 M1 => (((r1 = 0) → Q (-2) s1 M1) ∧ (¬ (r1 = 0) → cI d yM_isStation [.ref 159, .long (x2.toInt64)] s1 M1 (fun r2 s2 M2 => (((r2 = 0) → Q (-2) s2 M2) ∧ (¬ (r2 = 0) → cI d yM_goesTo [.ref 159, .int x1, .int x2] s2 M2 (fun r3 s3 M3 => Q r3 s3 M3)))))))) : cI (d + 1) yM_goes [.ref 159, .int x1, .int x2] s M Q := by
  refine pm_toI (by decide) (Nat.le_of_ble_eq_true rfl) ?_
  show wM_goes d 0 [.ref 159, .int x1, .int x2] [] s M Q
  refine s_aload_n (i := 0) (by decide +kernel) rfl (pn 1 rfl ?_)
  refine t_iconst (by decide +kernel) ki_0 (pn 2 rfl ?_)
  refine s_putfieldI (by decide +kernel) fr_12_1 lq_159 (congrArg Prod.fst sh_159) (fun q => by cases q) (Or.inl rfl) (pn 5 rfl ?_)
  refine s_aload_n (i := 0) (by decide +kernel) rfl (pn 6 rfl ?_)
  refine s_iload_n (i := 1) (by decide +kernel) rfl (pn 7 rfl ?_)
  refine s_i2l (by decide +kernel) (pn 8 rfl ?_)
  refine s_callvI [.long (x1.toInt64)] rfl (by decide +kernel) mv_12_250 np_217 (Nat.le_of_ble_eq_true rfl) lq_159 ((congrArg Prod.fst sh_159).trans oc_217) (cI_use h (fun r1 s1 M1 h => (pn 11 rfl ?_)))
  refine s_if_eq (off := 21) (tgt := 32) (by decide +kernel) rfl (fun c1 => ?_) (fun c1 => (pn 14 rfl ?_))
  · have h := h.1 c1
    refine t_bipush (by decide +kernel) kb_m2 (pn 34 rfl ?_)
    exact s_ireturn (st := []) (by decide +kernel) (Or.inl rfl) ⟨_, rfl, s1, rfl, h⟩
  · have h := h.2 c1
    refine s_aload_n (i := 0) (by decide +kernel) rfl (pn 15 rfl ?_)
    refine s_iload_n (i := 2) (by decide +kernel) rfl (pn 16 rfl ?_)
    refine s_i2l (by decide +kernel) (pn 17 rfl ?_)
    refine s_callvI [.long (x2.toInt64)] rfl (by decide +kernel) mv_12_372 np_263 (Nat.le_of_ble_eq_true rfl) lq_159 ((congrArg Prod.fst sh_159).trans oc_263) (cI_use h (fun r2 s2 M2 h => (pn 20 rfl ?_)))
    refine s_if_eq (off := 12) (tgt := 32) (by decide +kernel) rfl (fun c2 => ?_) (fun c2 => (pn 23 rfl ?_))
    · have h := h.1 c2
      refine t_bipush (by decide +kernel) kb_m2 (pn 34 rfl ?_)
      exact s_ireturn (st := []) (by decide +kernel) (Or.inl rfl) ⟨_, rfl, s2, rfl, h⟩
    · have h := h.2 c2
      refine s_aload_n (i := 0) (by decide +kernel) rfl (pn 24 rfl ?_)
      refine s_iload_n (i := 1) (by decide +kernel) rfl (pn 25 rfl ?_)
      refine s_iload_n (i := 2) (by decide +kernel) rfl (pn 26 rfl ?_)
      refine s_callvI [.int x1, .int x2] rfl (by decide +kernel) mv_12_375 np_264 (Nat.le_of_ble_eq_true rfl) lq_159 ((congrArg Prod.fst sh_159).trans oc_264) (cI_use h (fun r3 s3 M3 h => (pn 29 rfl ?_)))
      refine s_goto (off := 5) (tgt := 34) (by decide +kernel) rfl ?_
      exact s_ireturn (st := []) (by decide +kernel) (Or.inl rfl) ⟨_, rfl, s3, rfl, h⟩
abbrev wM_isStation (d pc : Nat) (ls st : List Value) (s : pm_S) (M : pm_M) (Q : Int32 → pm_S → pm_M → Prop) : Prop := wI d prog_14_method_35_code 12 (some .boolean) false pc ls st s M Q
theorem enM_isStation {d : Nat} {s : pm_S} {M : pm_M} {x1 : Int64} {Q : Int32 → pm_S → pm_M → Prop}  (h : cI d yM_within [.long x1, .long 0, .long (((M.1 160 1) - 1).toInt64)] s M (fun r1 s1 M1 => (r1 = 0 ∨ r1 = 1) ∧ Q r1 s1 M1)) : cI (d + 1) yM_isStation [.ref 159, .long x1] s M Q := by
  refine pm_toI (by decide) (Nat.le_of_ble_eq_true rfl) ?_
  show wM_isStation d 0 [.ref 159, .long x1, .null] [] s M Q
  refine s_lload_n (i := 1) (by decide +kernel) rfl (pn 1 rfl ?_)
  refine t_lconst (n := 0) (v := 0) (by decide +kernel) rfl (pn 2 rfl ?_)
  refine s_aload_n (i := 0) (by decide +kernel) rfl (pn 3 rfl ?_)
  refine s_getfield (v := .ref 160) (by decide +kernel) fr_12_13 lq_159 (congrArg Prod.fst sh_159) (fv_ref pf_159_1) (pn 6 rfl ?_)
  refine t_iconst (by decide +kernel) ki_1 (pn 7 rfl ?_)
  refine t_iaload (v := M.1 160 1) (by decide +kernel) ⟨Or.inl lq_160, congrArg Prod.fst sh_160⟩ (al_in sh_160 (vp_lit (n := 3870) tn_1 (by decide) (by decide))) (by rw [tn_1] <;> rfl) (pn 8 rfl ?_)
  refine t_iconst (by decide +kernel) ki_1 (pn 9 rfl ?_)
  refine s_isub (by decide +kernel) (pn 10 rfl ?_)
  refine s_i2l (by decide +kernel) (pn 11 rfl ?_)
  refine s_callsI [.long x1, .long 0, .long (((M.1 160 1) - 1).toInt64)] rfl (by decide +kernel) ms_12_163 np_188 (Nat.le_of_ble_eq_true rfl) (cI_use h (fun r1 s1 M1 h => (pn 14 rfl ?_)))
  obtain ⟨b1, h⟩ := h
  exact s_ireturn (st := []) (by decide +kernel) (Or.inr ⟨rfl, b1⟩) ⟨_, rfl, s1, rfl, h⟩
abbrev wM_goesTo (d pc : Nat) (ls st : List Value) (s : pm_S) (M : pm_M) (Q : Int32 → pm_S → pm_M → Prop) : Prop := wI d prog_14_method_83_code 12 (some .int) false pc ls st s M Q
theorem enM_goesTo {d : Nat} {s : pm_S} {M : pm_M} {x1 : Int32} {x2 : Int32} {Q : Int32 → pm_S → pm_M → Prop}  (h : cV d yM_clears [.ref 159] s M (fun s1 M1 => vp_in ((50 : Int32) + x1) 3870 ∧ wM_goesTo d 19 [.ref 159, .int x1, .null, .null] [] s1 (pm_si (pm_si M1 160 ((50 : Int32) + x1).toNatClampNeg x2) 159 20 0) Q)) : cI (d + 1) yM_goesTo [.ref 159, .int x1, .int x2] s M Q := by
  refine pm_toI (by decide) (Nat.le_of_ble_eq_true rfl) ?_
  show wM_goesTo d 0 [.ref 159, .int x1, .int x2, .null] [] s M Q
  refine s_aload_n (i := 0) (by decide +kernel) rfl (pn 1 rfl ?_)
  refine s_callvV [] rfl (by decide +kernel) mv_12_366 np_265 (Nat.le_of_ble_eq_true rfl) lq_159 ((congrArg Prod.fst sh_159).trans oc_265) (cV_use h (fun s1 M1 h => (pn 4 rfl ?_)))
  refine s_aload_n (i := 0) (by decide +kernel) rfl (pn 5 rfl ?_)
  refine s_getfield (v := .ref 160) (by decide +kernel) fr_12_13 lq_159 (congrArg Prod.fst sh_159) (fv_ref pf_159_1) (pn 8 rfl ?_)
  refine t_bipush (by decide +kernel) kb_50 (pn 10 rfl ?_)
  refine s_iload_n (i := 1) (by decide +kernel) rfl (pn 11 rfl ?_)
  refine s_iadd (by decide +kernel) (pn 12 rfl ?_)
  refine s_iload_n (i := 2) (by decide +kernel) rfl (pn 13 rfl ?_)
  obtain ⟨b1, h⟩ := h
  refine t_iastore (k := ((50 : Int32) + x1).toNatClampNeg) (by decide +kernel) ⟨lq_160, congrArg Prod.fst sh_160⟩ (al_in sh_160 b1) rfl (pn 14 rfl ?_)
  refine s_aload_n (i := 0) (by decide +kernel) rfl (pn 15 rfl ?_)
  refine t_iconst (by decide +kernel) ki_0 (pn 16 rfl ?_)
  refine s_putfieldI (by decide +kernel) fr_12_369 lq_159 (congrArg Prod.fst sh_159) (fun q => by cases q) (Or.inl rfl) (pn 19 rfl ?_)
  exact pm_weak [.ref 159, .int x1, .null, .null] (pm_le_cons (Or.inr rfl) (pm_le_cons (Or.inr rfl) (pm_le_cons (Or.inl rfl) (pm_le_cons (Or.inl rfl) pm_le_nil)))) h
theorem sgM_goesTo_19 {d : Nat} {s : pm_S} {M : pm_M} {l1 : Int32} {Q : Int32 → pm_S → pm_M → Prop}  (h : vp_in ((50 : Int32) + l1) 3870 ∧ (((10 ≤ (M.1 160 ((50 : Int32) + l1).toNatClampNeg)) → vp_in ((50 : Int32) + l1) 3870 ∧ cV d yM_isAgain [.ref 159] s M (fun s1 M1 => Q ((if (M.1 160 ((50 : Int32) + l1).toNatClampNeg) = 99 then (-1) else ((M.1 160 ((50 : Int32) + l1).toNatClampNeg) - 10)) : Int32) s1 M1)) ∧ (¬ (10 ≤ (M.1 160 ((50 : Int32) + l1).toNatClampNeg)) → cI d yM_rolls [.ref 159] s M (fun r1 s2 M2 => wM_goesTo d 19 [.ref 159, .int l1, .null, .null] [] s2 (pm_si M2 159 20 ((M2.1 159 20) + 1)) Q)))) : wM_goesTo d 19 [.ref 159, .int l1, .null, .null] [] s M Q := by
  refine s_aload_n (i := 0) (by decide +kernel) rfl (pn 20 rfl ?_)
  refine s_getfield (v := .ref 160) (by decide +kernel) fr_12_13 lq_159 (congrArg Prod.fst sh_159) (fv_ref pf_159_1) (pn 23 rfl ?_)
  refine t_bipush (by decide +kernel) kb_50 (pn 25 rfl ?_)
  refine s_iload_n (i := 1) (by decide +kernel) rfl (pn 26 rfl ?_)
  refine s_iadd (by decide +kernel) (pn 27 rfl ?_)
  obtain ⟨b1, h⟩ := h
  refine t_iaload (v := M.1 160 ((50 : Int32) + l1).toNatClampNeg) (by decide +kernel) ⟨Or.inl lq_160, congrArg Prod.fst sh_160⟩ (al_in sh_160 b1) rfl (pn 28 rfl ?_)
  refine t_bipush (by decide +kernel) kb_10 (pn 30 rfl ?_)
  refine s_icmp_ge (off := 21) (tgt := 51) (by decide +kernel) rfl (fun c1 => ?_) (fun c1 => (pn 33 rfl ?_))
  · have h := h.1 c1
    refine s_aload_n (i := 0) (by decide +kernel) rfl (pn 52 rfl ?_)
    refine s_getfield (v := .ref 160) (by decide +kernel) fr_12_13 lq_159 (congrArg Prod.fst sh_159) (fv_ref pf_159_1) (pn 55 rfl ?_)
    refine t_bipush (by decide +kernel) kb_50 (pn 57 rfl ?_)
    refine s_iload_n (i := 1) (by decide +kernel) rfl (pn 58 rfl ?_)
    refine s_iadd (by decide +kernel) (pn 59 rfl ?_)
    obtain ⟨b2, h⟩ := h
    refine t_iaload (v := M.1 160 ((50 : Int32) + l1).toNatClampNeg) (by decide +kernel) ⟨Or.inl lq_160, congrArg Prod.fst sh_160⟩ (al_in sh_160 b2) rfl (pn 60 rfl ?_)
    refine s_istore_n (i := 3) (by decide +kernel) (Nat.le_of_ble_eq_true rfl) (pn 61 rfl (t_store (ls' := [.ref 159, .int l1, .null, .int (M.1 160 ((50 : Int32) + l1).toNatClampNeg)]) rfl ?_))
    refine s_aload_n (i := 0) (by decide +kernel) rfl (pn 62 rfl ?_)
    refine s_callvV [] rfl (by decide +kernel) mv_12_358 np_258 (Nat.le_of_ble_eq_true rfl) lq_159 ((congrArg Prod.fst sh_159).trans oc_258) (cV_use h (fun s1 M1 h => (pn 65 rfl ?_)))
    refine s_iload_n (i := 3) (by decide +kernel) rfl (pn 66 rfl ?_)
    refine t_bipush (by decide +kernel) kb_99 (pn 68 rfl ?_)
    have k1 : ∀ (z1 : Int32) (z1e : z1 = ((if (M.1 160 ((50 : Int32) + l1).toNatClampNeg) = 99 then (-1) else ((M.1 160 ((50 : Int32) + l1).toNatClampNeg) - 10)) : Int32)), wM_goesTo d 79 [.ref 159, .int l1, .null, .int (M.1 160 ((50 : Int32) + l1).toNatClampNeg)] [.int z1] s1 M1 Q := by
      intro z1 z1e
      subst z1e
      exact s_ireturn (st := []) (by decide +kernel) (Or.inl rfl) ⟨_, rfl, s1, rfl, h⟩
    refine t_icmp_ne (off := 7) (tgt := 75) (by decide +kernel) rfl (fun c2 => ?_) (fun c2 => (pn 71 rfl ?_))
    · refine s_iload_n (i := 3) (by decide +kernel) rfl (pn 76 rfl ?_)
      refine t_bipush (by decide +kernel) kb_10 (pn 78 rfl ?_)
      refine s_isub (by decide +kernel) (pn 79 rfl ?_)
      exact k1 _ (by simp only [if_neg c2])
    · refine t_iconst (by decide +kernel) ki_m1 (pn 72 rfl ?_)
      refine s_goto (off := 7) (tgt := 79) (by decide +kernel) rfl ?_
      exact k1 _ (by simp only [if_pos c2])
  · have h := h.2 c1
    refine s_aload_n (i := 0) (by decide +kernel) rfl (pn 34 rfl ?_)
    refine s_callvI [] rfl (by decide +kernel) mv_12_278 np_249 (Nat.le_of_ble_eq_true rfl) lq_159 ((congrArg Prod.fst sh_159).trans oc_249) (cI_use h (fun r1 s2 M2 h => (pn 37 rfl ?_)))
    refine s_pop (by decide +kernel) rfl (pn 38 rfl ?_)
    refine s_aload_n (i := 0) (by decide +kernel) rfl (pn 39 rfl ?_)
    refine s_dup (by decide +kernel) rfl (pn 40 rfl ?_)
    refine s_getfield (v := .int (M2.1 159 20)) (by decide +kernel) fr_12_369 lq_159 (congrArg Prod.fst sh_159) rfl (pn 43 rfl ?_)
    refine t_iconst (by decide +kernel) ki_1 (pn 44 rfl ?_)
    refine s_iadd (by decide +kernel) (pn 45 rfl ?_)
    refine s_putfieldI (by decide +kernel) fr_12_369 lq_159 (congrArg Prod.fst sh_159) (fun q => by cases q) (Or.inl rfl) (pn 48 rfl ?_)
    refine s_goto (off := -29) (tgt := 19) (by decide +kernel) rfl ?_
    exact h
abbrev wM_clears (d pc : Nat) (ls st : List Value) (s : pm_S) (M : pm_M) (Q : pm_S → pm_M → Prop) : Prop := wV d prog_14_method_82_code 12 none false pc ls st s M Q
theorem enM_clears {d : Nat} {s : pm_S} {M : pm_M}  {Q : pm_S → pm_M → Prop}  (h : cV d yM_keeps [.ref 159] s M (fun s1 M1 => wM_clears d 6 [.ref 159, .int 0] [] s1 M1 Q)) : cV (d + 1) yM_clears [.ref 159] s M Q := by
  refine pm_toV (by decide) (Nat.le_of_ble_eq_true rfl) ?_
  show wM_clears d 0 [.ref 159, .null] [] s M Q
  refine s_aload_n (i := 0) (by decide +kernel) rfl (pn 1 rfl ?_)
  refine s_callvV [] rfl (by decide +kernel) mv_12_281 np_229 (Nat.le_of_ble_eq_true rfl) lq_159 ((congrArg Prod.fst sh_159).trans oc_229) (cV_use h (fun s1 M1 h => (pn 4 rfl ?_)))
  refine t_iconst (by decide +kernel) ki_0 (pn 5 rfl ?_)
  refine s_istore_n (i := 1) (by decide +kernel) (Nat.le_of_ble_eq_true rfl) (pn 6 rfl (t_store (ls' := [.ref 159, .int 0]) rfl ?_))
  exact h
theorem sgM_clears_6 {d : Nat} {s : pm_S} {M : pm_M} {l1 : Int32} {Q : pm_S → pm_M → Prop}  (h : ((((M.1 160 2) ≤ l1) → Q s M) ∧ (¬ ((M.1 160 2) ≤ l1) → vp_in ((50 : Int32) + l1) 3870 ∧ (((10 ≤ (M.1 160 ((50 : Int32) + l1).toNatClampNeg)) → wM_clears d 6 [.ref 159, .int (l1 + 1)] [] s M Q) ∧ (¬ (10 ≤ (M.1 160 ((50 : Int32) + l1).toNatClampNeg)) → vp_in ((50 : Int32) + l1) 3870 ∧ wM_clears d 6 [.ref 159, .int (l1 + 1)] [] s (pm_si M 160 ((50 : Int32) + l1).toNatClampNeg 99) Q))))) : wM_clears d 6 [.ref 159, .int l1] [] s M Q := by
  refine s_iload_n (i := 1) (by decide +kernel) rfl (pn 7 rfl ?_)
  refine s_aload_n (i := 0) (by decide +kernel) rfl (pn 8 rfl ?_)
  refine s_getfield (v := .ref 160) (by decide +kernel) fr_12_13 lq_159 (congrArg Prod.fst sh_159) (fv_ref pf_159_1) (pn 11 rfl ?_)
  refine t_iconst (by decide +kernel) ki_2 (pn 12 rfl ?_)
  refine t_iaload (v := M.1 160 2) (by decide +kernel) ⟨Or.inl lq_160, congrArg Prod.fst sh_160⟩ (al_in sh_160 (vp_lit (n := 3870) tn_2 (by decide) (by decide))) (by rw [tn_2] <;> rfl) (pn 13 rfl ?_)
  refine s_icmp_ge (off := 34) (tgt := 47) (by decide +kernel) rfl (fun c1 => ?_) (fun c1 => (pn 16 rfl ?_))
  · have h := h.1 c1
    exact s_return (st := []) (by decide +kernel) rfl ⟨rfl, s, rfl, h⟩
  · have h := h.2 c1
    refine s_aload_n (i := 0) (by decide +kernel) rfl (pn 17 rfl ?_)
    refine s_getfield (v := .ref 160) (by decide +kernel) fr_12_13 lq_159 (congrArg Prod.fst sh_159) (fv_ref pf_159_1) (pn 20 rfl ?_)
    refine t_bipush (by decide +kernel) kb_50 (pn 22 rfl ?_)
    refine s_iload_n (i := 1) (by decide +kernel) rfl (pn 23 rfl ?_)
    refine s_iadd (by decide +kernel) (pn 24 rfl ?_)
    obtain ⟨b1, h⟩ := h
    refine t_iaload (v := M.1 160 ((50 : Int32) + l1).toNatClampNeg) (by decide +kernel) ⟨Or.inl lq_160, congrArg Prod.fst sh_160⟩ (al_in sh_160 b1) rfl (pn 25 rfl ?_)
    refine t_bipush (by decide +kernel) kb_10 (pn 27 rfl ?_)
    refine s_icmp_ge (off := 14) (tgt := 41) (by decide +kernel) rfl (fun c2 => ?_) (fun c2 => (pn 30 rfl ?_))
    · have h := h.1 c2
      refine t_iinc (i := 1) (n := 1) (ls' := [.ref 159, .int (l1 + 1)]) (by decide +kernel) rfl (Nat.le_of_ble_eq_true rfl) kn_1 rfl (pn 44 rfl ?_)
      refine s_goto (off := -38) (tgt := 6) (by decide +kernel) rfl ?_
      exact h
    · have h := h.2 c2
      refine s_aload_n (i := 0) (by decide +kernel) rfl (pn 31 rfl ?_)
      refine s_getfield (v := .ref 160) (by decide +kernel) fr_12_13 lq_159 (congrArg Prod.fst sh_159) (fv_ref pf_159_1) (pn 34 rfl ?_)
      refine t_bipush (by decide +kernel) kb_50 (pn 36 rfl ?_)
      refine s_iload_n (i := 1) (by decide +kernel) rfl (pn 37 rfl ?_)
      refine s_iadd (by decide +kernel) (pn 38 rfl ?_)
      refine t_bipush (by decide +kernel) kb_99 (pn 40 rfl ?_)
      obtain ⟨b2, h⟩ := h
      refine t_iastore (k := ((50 : Int32) + l1).toNatClampNeg) (by decide +kernel) ⟨lq_160, congrArg Prod.fst sh_160⟩ (al_in sh_160 b2) rfl (pn 41 rfl ?_)
      refine t_iinc (i := 1) (n := 1) (ls' := [.ref 159, .int (l1 + 1)]) (by decide +kernel) rfl (Nat.le_of_ble_eq_true rfl) kn_1 rfl (pn 44 rfl ?_)
      refine s_goto (off := -38) (tgt := 6) (by decide +kernel) rfl ?_
      exact h
abbrev wM_takes (d pc : Nat) (ls st : List Value) (s : pm_S) (M : pm_M) (Q : Int32 → pm_S → pm_M → Prop) : Prop := wI d prog_14_method_85_code 12 (some .int) false pc ls st s M Q
theorem enM_takes {d : Nat} {s : pm_S} {M : pm_M} {x1 : Int32} {x2 : Int32} {Q : Int32 → pm_S → pm_M → Prop}  (h : cI d yM_isThing [.ref 159, .long (x1.toInt64)] s (pm_si M 159 0 0) (fun r1 s1 M1 => (((r1 = 0) → Q (-2) s1 M1) ∧ (¬ (r1 = 0) → cI d yM_isStation [.ref 159, .long (x2.toInt64)] s1 M1 (fun r2 s2 M2 => ((r2 = 0 → Q (-2) s2 M2) ∧ (¬ (r2 = 0) → cI d yM_goesTo [.ref 159, .int x1, .int x2] s2 M2 (fun r3 s3 M3 => Q (M3.1 159 20) s3 M3)))))))) : cI (d + 1) yM_takes [.ref 159, .int x1, .int x2] s M Q := by
  refine pm_toI (by decide) (Nat.le_of_ble_eq_true rfl) ?_
  show wM_takes d 0 [.ref 159, .int x1, .int x2] [] s M Q
  refine s_aload_n (i := 0) (by decide +kernel) rfl (pn 1 rfl ?_)
  refine t_iconst (by decide +kernel) ki_0 (pn 2 rfl ?_)
  refine s_putfieldI (by decide +kernel) fr_12_1 lq_159 (congrArg Prod.fst sh_159) (fun q => by cases q) (Or.inl rfl) (pn 5 rfl ?_)
  refine s_aload_n (i := 0) (by decide +kernel) rfl (pn 6 rfl ?_)
  refine s_iload_n (i := 1) (by decide +kernel) rfl (pn 7 rfl ?_)
  refine s_i2l (by decide +kernel) (pn 8 rfl ?_)
  refine s_callvI [.long (x1.toInt64)] rfl (by decide +kernel) mv_12_250 np_217 (Nat.le_of_ble_eq_true rfl) lq_159 ((congrArg Prod.fst sh_159).trans oc_217) (cI_use h (fun r1 s1 M1 h => (pn 11 rfl ?_)))
  refine s_if_eq (off := 12) (tgt := 23) (by decide +kernel) rfl (fun c1 => ?_) (fun c1 => (pn 14 rfl ?_))
  · have h := h.1 c1
    refine t_bipush (by decide +kernel) kb_m2 (pn 25 rfl ?_)
    exact s_ireturn (st := []) (by decide +kernel) (Or.inl rfl) ⟨_, rfl, s1, rfl, h⟩
  · have h := h.2 c1
    refine s_aload_n (i := 0) (by decide +kernel) rfl (pn 15 rfl ?_)
    refine s_iload_n (i := 2) (by decide +kernel) rfl (pn 16 rfl ?_)
    refine s_i2l (by decide +kernel) (pn 17 rfl ?_)
    refine s_callvI [.long (x2.toInt64)] rfl (by decide +kernel) mv_12_372 np_263 (Nat.le_of_ble_eq_true rfl) lq_159 ((congrArg Prod.fst sh_159).trans oc_263) (cI_use h (fun r2 s2 M2 h => (pn 20 rfl ?_)))
    refine t_if_ne (off := 6) (tgt := 26) (by decide +kernel) rfl (fun c2 => ?_) (fun c2 => (pn 23 rfl ?_))
    · have h := h.2 c2
      refine s_aload_n (i := 0) (by decide +kernel) rfl (pn 27 rfl ?_)
      refine s_iload_n (i := 1) (by decide +kernel) rfl (pn 28 rfl ?_)
      refine s_iload_n (i := 2) (by decide +kernel) rfl (pn 29 rfl ?_)
      refine s_callvI [.int x1, .int x2] rfl (by decide +kernel) mv_12_375 np_264 (Nat.le_of_ble_eq_true rfl) lq_159 ((congrArg Prod.fst sh_159).trans oc_264) (cI_use h (fun r3 s3 M3 h => (pn 32 rfl ?_)))
      refine s_pop (by decide +kernel) rfl (pn 33 rfl ?_)
      refine s_aload_n (i := 0) (by decide +kernel) rfl (pn 34 rfl ?_)
      refine s_getfield (v := .int (M3.1 159 20)) (by decide +kernel) fr_12_369 lq_159 (congrArg Prod.fst sh_159) rfl (pn 37 rfl ?_)
      exact s_ireturn (st := []) (by decide +kernel) (Or.inl rfl) ⟨_, rfl, s3, rfl, h⟩
    · have h := h.1 c2
      refine t_bipush (by decide +kernel) kb_m2 (pn 25 rfl ?_)
      exact s_ireturn (st := []) (by decide +kernel) (Or.inl rfl) ⟨_, rfl, s2, rfl, h⟩
abbrev wM_sources (d pc : Nat) (ls st : List Value) (s : pm_S) (M : pm_M) (Q : Int32 → pm_S → pm_M → Prop) : Prop := wI d prog_14_method_86_code 12 (some .int) false pc ls st s M Q
theorem enM_sources {d : Nat} {s : pm_S} {M : pm_M} {x1 : Int32} {x2 : Int32} {Q : Int32 → pm_S → pm_M → Prop}  (h : cI d yM_isThing [.ref 159, .long (x1.toInt64)] s (pm_si M 159 0 0) (fun r1 s1 M1 => (((r1 = 0) → Q (-2) s1 M1) ∧ (¬ (r1 = 0) → cI d yM_isPerson [.ref 159, .long (x2.toInt64)] s1 M1 (fun r2 s2 M2 => ((r2 = 0 → Q (-2) s2 M2) ∧ (¬ (r2 = 0) → wM_sources d 31 [.ref 159, .int x1, .int x2, .int 0, .int 0] [] s2 M2 Q))))))) : cI (d + 1) yM_sources [.ref 159, .int x1, .int x2] s M Q := by
  refine pm_toI (by decide) (Nat.le_of_ble_eq_true rfl) ?_
  show wM_sources d 0 [.ref 159, .int x1, .int x2, .null, .null] [] s M Q
  refine s_aload_n (i := 0) (by decide +kernel) rfl (pn 1 rfl ?_)
  refine t_iconst (by decide +kernel) ki_0 (pn 2 rfl ?_)
  refine s_putfieldI (by decide +kernel) fr_12_1 lq_159 (congrArg Prod.fst sh_159) (fun q => by cases q) (Or.inl rfl) (pn 5 rfl ?_)
  refine s_aload_n (i := 0) (by decide +kernel) rfl (pn 6 rfl ?_)
  refine s_iload_n (i := 1) (by decide +kernel) rfl (pn 7 rfl ?_)
  refine s_i2l (by decide +kernel) (pn 8 rfl ?_)
  refine s_callvI [.long (x1.toInt64)] rfl (by decide +kernel) mv_12_250 np_217 (Nat.le_of_ble_eq_true rfl) lq_159 ((congrArg Prod.fst sh_159).trans oc_217) (cI_use h (fun r1 s1 M1 h => (pn 11 rfl ?_)))
  refine s_if_eq (off := 12) (tgt := 23) (by decide +kernel) rfl (fun c1 => ?_) (fun c1 => (pn 14 rfl ?_))
  · have h := h.1 c1
    refine t_bipush (by decide +kernel) kb_m2 (pn 25 rfl ?_)
    exact s_ireturn (st := []) (by decide +kernel) (Or.inl rfl) ⟨_, rfl, s1, rfl, h⟩
  · have h := h.2 c1
    refine s_aload_n (i := 0) (by decide +kernel) rfl (pn 15 rfl ?_)
    refine s_iload_n (i := 2) (by decide +kernel) rfl (pn 16 rfl ?_)
    refine s_i2l (by decide +kernel) (pn 17 rfl ?_)
    refine s_callvI [.long (x2.toInt64)] rfl (by decide +kernel) mv_12_231 np_219 (Nat.le_of_ble_eq_true rfl) lq_159 ((congrArg Prod.fst sh_159).trans oc_219) (cI_use h (fun r2 s2 M2 h => (pn 20 rfl ?_)))
    refine t_if_ne (off := 6) (tgt := 26) (by decide +kernel) rfl (fun c2 => ?_) (fun c2 => (pn 23 rfl ?_))
    · have h := h.2 c2
      refine t_iconst (by decide +kernel) ki_0 (pn 27 rfl ?_)
      refine s_istore_n (i := 3) (by decide +kernel) (Nat.le_of_ble_eq_true rfl) (pn 28 rfl (t_store (ls' := [.ref 159, .int x1, .int x2, .int 0, .null]) rfl ?_))
      refine t_iconst (by decide +kernel) ki_0 (pn 29 rfl ?_)
      refine s_istore (i := 4) (by decide +kernel) (Nat.le_of_ble_eq_true rfl) (pn 31 rfl (t_store (ls' := [.ref 159, .int x1, .int x2, .int 0, .int 0]) rfl ?_))
      exact h
    · have h := h.1 c2
      refine t_bipush (by decide +kernel) kb_m2 (pn 25 rfl ?_)
      exact s_ireturn (st := []) (by decide +kernel) (Or.inl rfl) ⟨_, rfl, s2, rfl, h⟩
theorem sgM_sources_31 {d : Nat} {s : pm_S} {M : pm_M} {l1 : Int32} {l2 : Int32} {l3 : Int32} {l4 : Int32} {Q : Int32 → pm_S → pm_M → Prop}  (h : ((((M.1 160 1) ≤ l4) → Q l3 s M) ∧ (¬ ((M.1 160 1) ≤ l4) → cI d yM_goesTo [.ref 159, .int l1, .int l4] s M (fun r1 s1 M1 => (∀ v1 : Int32, v1 = l3 ||| ((if r1 = l2 then ((1 : Int32) <<< (l4 &&& 31)) else 0) : Int32) → wM_sources d 31 [.ref 159, .int l1, .int l2, .int v1, .int (l4 + 1)] [] s1 M1 Q))))) : wM_sources d 31 [.ref 159, .int l1, .int l2, .int l3, .int l4] [] s M Q := by
  refine s_iload (i := 4) (by decide +kernel) rfl (pn 33 rfl ?_)
  refine s_aload_n (i := 0) (by decide +kernel) rfl (pn 34 rfl ?_)
  refine s_getfield (v := .ref 160) (by decide +kernel) fr_12_13 lq_159 (congrArg Prod.fst sh_159) (fv_ref pf_159_1) (pn 37 rfl ?_)
  refine t_iconst (by decide +kernel) ki_1 (pn 38 rfl ?_)
  refine t_iaload (v := M.1 160 1) (by decide +kernel) ⟨Or.inl lq_160, congrArg Prod.fst sh_160⟩ (al_in sh_160 (vp_lit (n := 3870) tn_1 (by decide) (by decide))) (by rw [tn_1] <;> rfl) (pn 39 rfl ?_)
  refine s_icmp_ge (off := 31) (tgt := 70) (by decide +kernel) rfl (fun c1 => ?_) (fun c1 => (pn 42 rfl ?_))
  · have h := h.1 c1
    refine s_iload_n (i := 3) (by decide +kernel) rfl (pn 71 rfl ?_)
    exact s_ireturn (st := []) (by decide +kernel) (Or.inl rfl) ⟨_, rfl, s, rfl, h⟩
  · have h := h.2 c1
    refine s_iload_n (i := 3) (by decide +kernel) rfl (pn 43 rfl ?_)
    refine s_aload_n (i := 0) (by decide +kernel) rfl (pn 44 rfl ?_)
    refine s_iload_n (i := 1) (by decide +kernel) rfl (pn 45 rfl ?_)
    refine s_iload (i := 4) (by decide +kernel) rfl (pn 47 rfl ?_)
    refine s_callvI [.int l1, .int l4] rfl (by decide +kernel) mv_12_375 np_264 (Nat.le_of_ble_eq_true rfl) lq_159 ((congrArg Prod.fst sh_159).trans oc_264) (cI_use h (fun r1 s1 M1 h => (pn 50 rfl ?_)))
    refine s_iload_n (i := 2) (by decide +kernel) rfl (pn 51 rfl ?_)
    have k1 : ∀ (z1 : Int32) (z1e : z1 = ((if r1 = l2 then ((1 : Int32) <<< (l4 &&& 31)) else 0) : Int32)), wM_sources d 62 [.ref 159, .int l1, .int l2, .int l3, .int l4] [.int z1, .int l3] s1 M1 Q := by
      intro z1 z1e
      subst z1e
      refine s_ior (by decide +kernel) (pn 63 rfl ?_)
      obtain ⟨v1, ev1⟩ : ∃ zz : Int32, zz = l3 ||| ((if r1 = l2 then ((1 : Int32) <<< (l4 &&& 31)) else 0) : Int32) := ⟨_, rfl⟩
      have h := h v1 ev1
      rw [← ev1]
      refine s_istore_n (i := 3) (by decide +kernel) (Nat.le_of_ble_eq_true rfl) (pn 64 rfl (t_store (ls' := [.ref 159, .int l1, .int l2, .int v1, .int l4]) rfl ?_))
      refine t_iinc (i := 4) (n := 1) (ls' := [.ref 159, .int l1, .int l2, .int v1, .int (l4 + 1)]) (by decide +kernel) rfl (Nat.le_of_ble_eq_true rfl) kn_1 rfl (pn 67 rfl ?_)
      refine s_goto (off := -36) (tgt := 31) (by decide +kernel) rfl ?_
      exact h
    refine t_icmp_ne (off := 10) (tgt := 61) (by decide +kernel) rfl (fun c2 => ?_) (fun c2 => (pn 54 rfl ?_))
    · refine t_iconst (by decide +kernel) ki_0 (pn 62 rfl ?_)
      exact k1 _ (by simp only [if_neg c2])
    · refine t_iconst (by decide +kernel) ki_1 (pn 55 rfl ?_)
      refine s_iload (i := 4) (by decide +kernel) rfl (pn 57 rfl ?_)
      refine s_ishl (by decide +kernel) (pn 58 rfl ?_)
      refine s_goto (off := 4) (tgt := 62) (by decide +kernel) rfl ?_
      exact k1 _ (by simp only [if_pos c2])
abbrev wM_plan (d pc : Nat) (ls st : List Value) (s : pm_S) (M : pm_M) (Q : Int32 → pm_S → pm_M → Prop) : Prop := wI d prog_14_method_91_code 12 (some .int) false pc ls st s M Q
theorem enM_plan {d : Nat} {s : pm_S} {M : pm_M} {x1 : Int32} {x2 : Int32} {Q : Int32 → pm_S → pm_M → Prop}  (h : cI d yM_noPlan [.ref 159, .int x1] s (pm_si M 159 0 0) (fun r1 s1 M1 => (((r1 = 0) → vp_in x1 4 ∧ cI d yM_within [.long (x2.toInt64), .long 0, .long (((M1.1 183 x1.toNatClampNeg) - 1).toInt64)] s1 M1 (fun r2 s2 M2 => ((r2 = 0 → Q (-7) s2 M2) ∧ (¬ (r2 = 0) → wM_plan d 41 [.ref 159, .int x1, .int x2, .null, .int 0] [] s2 M2 Q)))) ∧ (¬ (r1 = 0) → Q r1 s1 M1)))) : cI (d + 1) yM_plan [.ref 159, .int x1, .int x2] s M Q := by
  refine pm_toI (by decide) (Nat.le_of_ble_eq_true rfl) ?_
  show wM_plan d 0 [.ref 159, .int x1, .int x2, .null, .null] [] s M Q
  refine s_aload_n (i := 0) (by decide +kernel) rfl (pn 1 rfl ?_)
  refine t_iconst (by decide +kernel) ki_0 (pn 2 rfl ?_)
  refine s_putfieldI (by decide +kernel) fr_12_1 lq_159 (congrArg Prod.fst sh_159) (fun q => by cases q) (Or.inl rfl) (pn 5 rfl ?_)
  refine s_aload_n (i := 0) (by decide +kernel) rfl (pn 6 rfl ?_)
  refine s_iload_n (i := 1) (by decide +kernel) rfl (pn 7 rfl ?_)
  refine s_callvI [.int x1] rfl (by decide +kernel) mv_12_378 np_269 (Nat.le_of_ble_eq_true rfl) lq_159 ((congrArg Prod.fst sh_159).trans oc_269) (cI_use h (fun r1 s1 M1 h => (pn 10 rfl ?_)))
  refine s_istore_n (i := 3) (by decide +kernel) (Nat.le_of_ble_eq_true rfl) (pn 11 rfl (t_store (ls' := [.ref 159, .int x1, .int x2, .int r1, .null]) rfl ?_))
  refine s_iload_n (i := 3) (by decide +kernel) rfl (pn 12 rfl ?_)
  refine s_if_eq (off := 5) (tgt := 17) (by decide +kernel) rfl (fun c1 => ?_) (fun c1 => (pn 15 rfl ?_))
  · have h := h.1 c1
    refine s_iload_n (i := 2) (by decide +kernel) rfl (pn 18 rfl ?_)
    refine s_i2l (by decide +kernel) (pn 19 rfl ?_)
    refine t_lconst (n := 0) (v := 0) (by decide +kernel) rfl (pn 20 rfl ?_)
    refine s_aload_n (i := 0) (by decide +kernel) rfl (pn 21 rfl ?_)
    refine s_getfield (v := .ref 183) (by decide +kernel) fr_12_91 lq_159 (congrArg Prod.fst sh_159) (fv_ref pf_159_40) (pn 24 rfl ?_)
    refine s_iload_n (i := 1) (by decide +kernel) rfl (pn 25 rfl ?_)
    obtain ⟨b1, h⟩ := h
    refine t_iaload (v := M1.1 183 x1.toNatClampNeg) (by decide +kernel) ⟨Or.inl lq_183, congrArg Prod.fst sh_183⟩ (al_in sh_183 b1) rfl (pn 26 rfl ?_)
    refine t_iconst (by decide +kernel) ki_1 (pn 27 rfl ?_)
    refine s_isub (by decide +kernel) (pn 28 rfl ?_)
    refine s_i2l (by decide +kernel) (pn 29 rfl ?_)
    refine s_callsI [.long (x2.toInt64), .long 0, .long (((M1.1 183 x1.toNatClampNeg) - 1).toInt64)] rfl (by decide +kernel) ms_12_163 np_188 (Nat.le_of_ble_eq_true rfl) (cI_use h (fun r2 s2 M2 h => (pn 32 rfl ?_)))
    refine t_if_ne (off := 6) (tgt := 38) (by decide +kernel) rfl (fun c2 => ?_) (fun c2 => (pn 35 rfl ?_))
    · have h := h.2 c2
      refine t_iconst (by decide +kernel) ki_0 (pn 39 rfl ?_)
      refine s_istore (i := 4) (by decide +kernel) (Nat.le_of_ble_eq_true rfl) (pn 41 rfl (t_store (ls' := [.ref 159, .int x1, .int x2, .int r1, .int 0]) rfl ?_))
      exact pm_weak [.ref 159, .int x1, .int x2, .null, .int 0] (pm_le_cons (Or.inr rfl) (pm_le_cons (Or.inr rfl) (pm_le_cons (Or.inr rfl) (pm_le_cons (Or.inl rfl) (pm_le_cons (Or.inr rfl) pm_le_nil))))) h
    · have h := h.1 c2
      refine t_bipush (by decide +kernel) kb_m7 (pn 37 rfl ?_)
      exact s_ireturn (st := []) (by decide +kernel) (Or.inl rfl) ⟨_, rfl, s2, rfl, h⟩
  · have h := h.2 c1
    refine s_iload_n (i := 3) (by decide +kernel) rfl (pn 16 rfl ?_)
    exact s_ireturn (st := []) (by decide +kernel) (Or.inl rfl) ⟨_, rfl, s1, rfl, h⟩
theorem sgM_plan_41 {d : Nat} {s : pm_S} {M : pm_M} {l1 : Int32} {l2 : Int32} {l4 : Int32} {Q : Int32 → pm_S → pm_M → Prop}  (h : vp_in l1 4 ∧ cI d yM_rowsOf [.ref 159, .int (M.1 183 l1.toNatClampNeg)] s M (fun r1 s1 M1 => (((r1 ≤ l4) → Q (-1) s1 M1) ∧ (¬ (r1 ≤ l4) → vp_in l1 4 ∧ cV d yM_laysLeft [.ref 159, .int (M1.1 183 l1.toNatClampNeg), .int l4] s1 M1 (fun s2 M2 => cI d yM_isPlan [.ref 159, .int l1] s2 M2 (fun r2 s3 M3 => (((r2 = 0) → wM_plan d 41 [.ref 159, .int l1, .int l2, .null, .int (l4 + 1)] [] s3 M3 Q) ∧ (¬ (r2 = 0) → vp_in l2 3 ∧ Q (M3.1 167 l2.toNatClampNeg) s3 M3)))))))) : wM_plan d 41 [.ref 159, .int l1, .int l2, .null, .int l4] [] s M Q := by
  refine s_iload (i := 4) (by decide +kernel) rfl (pn 43 rfl ?_)
  refine s_aload_n (i := 0) (by decide +kernel) rfl (pn 44 rfl ?_)
  refine s_aload_n (i := 0) (by decide +kernel) rfl (pn 45 rfl ?_)
  refine s_getfield (v := .ref 183) (by decide +kernel) fr_12_91 lq_159 (congrArg Prod.fst sh_159) (fv_ref pf_159_40) (pn 48 rfl ?_)
  refine s_iload_n (i := 1) (by decide +kernel) rfl (pn 49 rfl ?_)
  obtain ⟨b1, h⟩ := h
  refine t_iaload (v := M.1 183 l1.toNatClampNeg) (by decide +kernel) ⟨Or.inl lq_183, congrArg Prod.fst sh_183⟩ (al_in sh_183 b1) rfl (pn 50 rfl ?_)
  refine s_callvI [.int (M.1 183 l1.toNatClampNeg)] rfl (by decide +kernel) mv_12_381 np_270 (Nat.le_of_ble_eq_true rfl) lq_159 ((congrArg Prod.fst sh_159).trans oc_270) (cI_use h (fun r1 s1 M1 h => (pn 53 rfl ?_)))
  refine s_icmp_ge (off := 36) (tgt := 89) (by decide +kernel) rfl (fun c1 => ?_) (fun c1 => (pn 56 rfl ?_))
  · have h := h.1 c1
    refine t_iconst (by decide +kernel) ki_m1 (pn 90 rfl ?_)
    exact s_ireturn (st := []) (by decide +kernel) (Or.inl rfl) ⟨_, rfl, s1, rfl, h⟩
  · have h := h.2 c1
    refine s_aload_n (i := 0) (by decide +kernel) rfl (pn 57 rfl ?_)
    refine s_aload_n (i := 0) (by decide +kernel) rfl (pn 58 rfl ?_)
    refine s_getfield (v := .ref 183) (by decide +kernel) fr_12_91 lq_159 (congrArg Prod.fst sh_159) (fv_ref pf_159_40) (pn 61 rfl ?_)
    refine s_iload_n (i := 1) (by decide +kernel) rfl (pn 62 rfl ?_)
    obtain ⟨b2, h⟩ := h
    refine t_iaload (v := M1.1 183 l1.toNatClampNeg) (by decide +kernel) ⟨Or.inl lq_183, congrArg Prod.fst sh_183⟩ (al_in sh_183 b2) rfl (pn 63 rfl ?_)
    refine s_iload (i := 4) (by decide +kernel) rfl (pn 65 rfl ?_)
    refine s_callvV [.int (M1.1 183 l1.toNatClampNeg), .int l4] rfl (by decide +kernel) mv_12_384 np_271 (Nat.le_of_ble_eq_true rfl) lq_159 ((congrArg Prod.fst sh_159).trans oc_271) (cV_use h (fun s2 M2 h => (pn 68 rfl ?_)))
    refine s_aload_n (i := 0) (by decide +kernel) rfl (pn 69 rfl ?_)
    refine s_iload_n (i := 1) (by decide +kernel) rfl (pn 70 rfl ?_)
    refine s_callvI [.int l1] rfl (by decide +kernel) mv_12_387 np_272 (Nat.le_of_ble_eq_true rfl) lq_159 ((congrArg Prod.fst sh_159).trans oc_272) (cI_use h (fun r2 s3 M3 h => (pn 73 rfl ?_)))
    refine s_if_eq (off := 10) (tgt := 83) (by decide +kernel) rfl (fun c2 => ?_) (fun c2 => (pn 76 rfl ?_))
    · have h := h.1 c2
      refine t_iinc (i := 4) (n := 1) (ls' := [.ref 159, .int l1, .int l2, .null, .int (l4 + 1)]) (by decide +kernel) rfl (Nat.le_of_ble_eq_true rfl) kn_1 rfl (pn 86 rfl ?_)
      refine s_goto (off := -45) (tgt := 41) (by decide +kernel) rfl ?_
      exact h
    · have h := h.2 c2
      refine s_aload_n (i := 0) (by decide +kernel) rfl (pn 77 rfl ?_)
      refine s_getfield (v := .ref 167) (by decide +kernel) fr_12_39 lq_159 (congrArg Prod.fst sh_159) (fv_ref pf_159_21) (pn 80 rfl ?_)
      refine s_iload_n (i := 2) (by decide +kernel) rfl (pn 81 rfl ?_)
      obtain ⟨b3, h⟩ := h
      refine t_iaload (v := M3.1 167 l2.toNatClampNeg) (by decide +kernel) ⟨Or.inl lq_167, congrArg Prod.fst sh_167⟩ (al_in sh_167 b3) rfl (pn 82 rfl ?_)
      exact s_ireturn (st := []) (by decide +kernel) (Or.inl rfl) ⟨_, rfl, s3, rfl, h⟩
