abbrev wM_readBoth (d pc : Nat) (ls st : List Value) (s : pm_S) (M : pm_M) (Q : pm_S → pm_M → Prop) : Prop := wV d prog_14_method_24_code 12 none false pc ls st s M Q
theorem enM_readBoth {d : Nat} {s : pm_S} {M : pm_M} {x1 : Int32} {Q : pm_S → pm_M → Prop}  (h : cV d yM_readUnit [.ref 159, .int x1] s M (fun s1 M1 => wM_readBoth d 5 [.ref 159, .int x1] [] s1 M1 Q)) : cV (d + 1) yM_readBoth [.ref 159, .int x1] s M Q := by
  refine pm_toV (by decide) (Nat.le_of_ble_eq_true rfl) ?_
  show wM_readBoth d 0 [.ref 159, .int x1] [] s M Q
  refine s_aload_n (i := 0) (by decide +kernel) rfl (pn 1 rfl ?_)
  refine s_iload_n (i := 1) (by decide +kernel) rfl (pn 2 rfl ?_)
  refine s_callvV [.int x1] rfl (by decide +kernel) mv_12_197 np_214 (Nat.le_of_ble_eq_true rfl) lq_159 ((congrArg Prod.fst sh_159).trans oc_214) (cV_use h (fun s1 M1 h => (pn 5 rfl ?_)))
  exact h
theorem sgM_readBoth_5 {d : Nat} {s : pm_S} {M : pm_M} {l1 : Int32} {Q : pm_S → pm_M → Prop}  (h : cI d yM_eats [.ref 159, .int 18] s M (fun r1 s1 M1 => (((r1 = 0) → Q s1 M1) ∧ (¬ (r1 = 0) → cV d yM_readUnit [.ref 159, .int l1] s1 M1 (fun s2 M2 => cV d yM_codes [.ref 159, .int 3007] s2 M2 (fun s3 M3 => wM_readBoth d 5 [.ref 159, .int l1] [] s3 M3 Q)))))) : wM_readBoth d 5 [.ref 159, .int l1] [] s M Q := by
  refine s_aload_n (i := 0) (by decide +kernel) rfl (pn 6 rfl ?_)
  refine t_bipush (by decide +kernel) kb_18 (pn 8 rfl ?_)
  refine s_callvI [.int 18] rfl (by decide +kernel) mv_12_182 np_194 (Nat.le_of_ble_eq_true rfl) lq_159 ((congrArg Prod.fst sh_159).trans oc_194) (cI_use h (fun r1 s1 M1 h => (pn 11 rfl ?_)))
  refine s_if_eq (off := 18) (tgt := 29) (by decide +kernel) rfl (fun c1 => ?_) (fun c1 => (pn 14 rfl ?_))
  · have h := h.1 c1
    exact s_return (st := []) (by decide +kernel) rfl ⟨rfl, s1, rfl, h⟩
  · have h := h.2 c1
    refine s_aload_n (i := 0) (by decide +kernel) rfl (pn 15 rfl ?_)
    refine s_iload_n (i := 1) (by decide +kernel) rfl (pn 16 rfl ?_)
    refine s_callvV [.int l1] rfl (by decide +kernel) mv_12_197 np_214 (Nat.le_of_ble_eq_true rfl) lq_159 ((congrArg Prod.fst sh_159).trans oc_214) (cV_use h (fun s2 M2 h => (pn 19 rfl ?_)))
    refine s_aload_n (i := 0) (by decide +kernel) rfl (pn 20 rfl ?_)
    refine t_sipush (by decide +kernel) ks_3007 (pn 23 rfl ?_)
    refine s_callvV [.int 3007] rfl (by decide +kernel) mv_12_170 np_208 (Nat.le_of_ble_eq_true rfl) lq_159 ((congrArg Prod.fst sh_159).trans oc_208) (cV_use h (fun s3 M3 h => (pn 26 rfl ?_)))
    refine s_goto (off := -21) (tgt := 5) (by decide +kernel) rfl ?_
    exact h
abbrev wM_readUnit (d pc : Nat) (ls st : List Value) (s : pm_S) (M : pm_M) (Q : pm_S → pm_M → Prop) : Prop := wV d prog_14_method_23_code 12 none false pc ls st s M Q
theorem enM_readUnit {d : Nat} {s : pm_S} {M : pm_M} {x1 : Int32} {Q : pm_S → pm_M → Prop}  (h : cI d yM_is [.ref 159, .int 20] s M (fun r1 s1 M1 => (((r1 = 0) → cI d yM_is [.ref 159, .int 37] s1 M1 (fun r2 s2 M2 => (((r2 = 0) → cV d yM_readSum [.ref 159, .int x1] s2 M2 (fun s3 M3 => cI d yM_is [.ref 159, .int 39] s3 M3 (fun r3 s4 M4 => (((r3 = 0) → cI d yM_is [.ref 159, .int 40] s4 M4 (fun r4 s5 M5 => wM_readUnit d 111 [.ref 159, .int x1, .null] [.int ((if r4 = 0 then 3005 else 3004) : Int32)] s5 M5 Q)) ∧ (¬ (r3 = 0) → wM_readUnit d 111 [.ref 159, .int x1, .null] [.int 3003] s4 M4 Q))))) ∧ (¬ (r2 = 0) → cI d yM_goesIn [.ref 159, .int x1] s2 M2 (fun r5 s6 M6 => ((r5 = 0 → Q s6 M6) ∧ (¬ (r5 = 0) → cV d yM_readTruth [.ref 159, .int (x1 + 1)] s6 M6 (fun s7 M7 => cI d yM_eats [.ref 159, .int 38] s7 M7 (fun r6 s8 M8 => ((r6 = 0 → cV d yM_fails [.ref 159, .int 2] s8 M8 (fun s9 M9 => Q s9 M9)) ∧ (¬ (r6 = 0) → Q s8 M8))))))))))) ∧ (¬ (r1 = 0) → cI d yM_goesIn [.ref 159, .int x1] s1 M1 (fun r7 s10 M10 => ((r7 = 0 → Q s10 M10) ∧ (¬ (r7 = 0) → cV d yM_readUnit [.ref 159, .int (x1 + 1)] s10 M10 (fun s11 M11 => cV d yM_codes [.ref 159, .int 3006] s11 M11 (fun s12 M12 => Q s12 M12))))))))) : cV (d + 1) yM_readUnit [.ref 159, .int x1] s M Q := by
  refine pm_toV (by decide) (Nat.le_of_ble_eq_true rfl) ?_
  show wM_readUnit d 0 [.ref 159, .int x1, .null] [] s M Q
  refine s_aload_n (i := 0) (by decide +kernel) rfl (pn 1 rfl ?_)
  refine t_bipush (by decide +kernel) kb_20 (pn 3 rfl ?_)
  refine s_callvI [.int 20] rfl (by decide +kernel) mv_12_153 np_195 (Nat.le_of_ble_eq_true rfl) lq_159 ((congrArg Prod.fst sh_159).trans oc_195) (cI_use h (fun r1 s1 M1 h => (pn 6 rfl ?_)))
  refine s_if_eq (off := 27) (tgt := 33) (by decide +kernel) rfl (fun c1 => ?_) (fun c1 => (pn 9 rfl ?_))
  · have h := h.1 c1
    refine s_aload_n (i := 0) (by decide +kernel) rfl (pn 34 rfl ?_)
    refine t_bipush (by decide +kernel) kb_37 (pn 36 rfl ?_)
    refine s_callvI [.int 37] rfl (by decide +kernel) mv_12_153 np_195 (Nat.le_of_ble_eq_true rfl) lq_159 ((congrArg Prod.fst sh_159).trans oc_195) (cI_use h (fun r2 s2 M2 h => (pn 39 rfl ?_)))
    refine s_if_eq (off := 34) (tgt := 73) (by decide +kernel) rfl (fun c2 => ?_) (fun c2 => (pn 42 rfl ?_))
    · have h := h.1 c2
      refine s_aload_n (i := 0) (by decide +kernel) rfl (pn 74 rfl ?_)
      refine s_iload_n (i := 1) (by decide +kernel) rfl (pn 75 rfl ?_)
      refine s_callvV [.int x1] rfl (by decide +kernel) mv_12_179 np_205 (Nat.le_of_ble_eq_true rfl) lq_159 ((congrArg Prod.fst sh_159).trans oc_205) (cV_use h (fun s3 M3 h => (pn 78 rfl ?_)))
      refine s_aload_n (i := 0) (by decide +kernel) rfl (pn 79 rfl ?_)
      refine t_bipush (by decide +kernel) kb_39 (pn 81 rfl ?_)
      refine s_callvI [.int 39] rfl (by decide +kernel) mv_12_153 np_195 (Nat.le_of_ble_eq_true rfl) lq_159 ((congrArg Prod.fst sh_159).trans oc_195) (cI_use h (fun r3 s4 M4 h => (pn 84 rfl ?_)))
      refine s_if_eq (off := 9) (tgt := 93) (by decide +kernel) rfl (fun c3 => ?_) (fun c3 => (pn 87 rfl ?_))
      · have h := h.1 c3
        refine s_aload_n (i := 0) (by decide +kernel) rfl (pn 94 rfl ?_)
        refine t_bipush (by decide +kernel) kb_40 (pn 96 rfl ?_)
        refine s_callvI [.int 40] rfl (by decide +kernel) mv_12_153 np_195 (Nat.le_of_ble_eq_true rfl) lq_159 ((congrArg Prod.fst sh_159).trans oc_195) (cI_use h (fun r4 s5 M5 h => (pn 99 rfl ?_)))
        have k1 : ∀ (z1 : Int32) (z1e : z1 = ((if r4 = 0 then 3005 else 3004) : Int32)), wM_readUnit d 111 [.ref 159, .int x1, .null] [.int z1] s5 M5 Q := by
          intro z1 z1e
          subst z1e
          exact h
        refine s_if_eq (off := 9) (tgt := 108) (by decide +kernel) rfl (fun c4 => ?_) (fun c4 => (pn 102 rfl ?_))
        · refine t_sipush (by decide +kernel) ks_3005 (pn 111 rfl ?_)
          exact k1 _ (by simp only [if_pos c4])
        · refine t_sipush (by decide +kernel) ks_3004 (pn 105 rfl ?_)
          refine s_goto (off := 6) (tgt := 111) (by decide +kernel) rfl ?_
          exact k1 _ (by simp only [if_neg c4])
      · have h := h.2 c3
        refine t_sipush (by decide +kernel) ks_3003 (pn 90 rfl ?_)
        refine s_goto (off := 21) (tgt := 111) (by decide +kernel) rfl ?_
        exact h
    · have h := h.2 c2
      refine s_aload_n (i := 0) (by decide +kernel) rfl (pn 43 rfl ?_)
      refine s_iload_n (i := 1) (by decide +kernel) rfl (pn 44 rfl ?_)
      refine s_callvI [.int x1] rfl (by decide +kernel) mv_12_176 np_210 (Nat.le_of_ble_eq_true rfl) lq_159 ((congrArg Prod.fst sh_159).trans oc_210) (cI_use h (fun r5 s6 M6 h => (pn 47 rfl ?_)))
      refine t_if_ne (off := 4) (tgt := 51) (by decide +kernel) rfl (fun c5 => ?_) (fun c5 => (pn 50 rfl ?_))
      · have h := h.2 c5
        refine s_aload_n (i := 0) (by decide +kernel) rfl (pn 52 rfl ?_)
        refine s_iload_n (i := 1) (by decide +kernel) rfl (pn 53 rfl ?_)
        refine t_iconst (by decide +kernel) ki_1 (pn 54 rfl ?_)
        refine s_iadd (by decide +kernel) (pn 55 rfl ?_)
        refine s_callvV [.int (x1 + 1)] rfl (by decide +kernel) mv_12_188 np_212 (Nat.le_of_ble_eq_true rfl) lq_159 ((congrArg Prod.fst sh_159).trans oc_212) (cV_use h (fun s7 M7 h => (pn 58 rfl ?_)))
        refine s_aload_n (i := 0) (by decide +kernel) rfl (pn 59 rfl ?_)
        refine t_bipush (by decide +kernel) kb_38 (pn 61 rfl ?_)
        refine s_callvI [.int 38] rfl (by decide +kernel) mv_12_182 np_194 (Nat.le_of_ble_eq_true rfl) lq_159 ((congrArg Prod.fst sh_159).trans oc_194) (cI_use h (fun r6 s8 M8 h => (pn 64 rfl ?_)))
        refine t_if_ne (off := 8) (tgt := 72) (by decide +kernel) rfl (fun c6 => ?_) (fun c6 => (pn 67 rfl ?_))
        · have h := h.2 c6
          exact s_return (st := []) (by decide +kernel) rfl ⟨rfl, s8, rfl, h⟩
        · have h := h.1 c6
          refine s_aload_n (i := 0) (by decide +kernel) rfl (pn 68 rfl ?_)
          refine t_iconst (by decide +kernel) ki_2 (pn 69 rfl ?_)
          refine s_callvV [.int 2] rfl (by decide +kernel) mv_12_159 np_196 (Nat.le_of_ble_eq_true rfl) lq_159 ((congrArg Prod.fst sh_159).trans oc_196) (cV_use h (fun s9 M9 h => (pn 72 rfl ?_)))
          exact s_return (st := []) (by decide +kernel) rfl ⟨rfl, s9, rfl, h⟩
      · have h := h.1 c5
        exact s_return (st := []) (by decide +kernel) rfl ⟨rfl, s6, rfl, h⟩
  · have h := h.2 c1
    refine s_aload_n (i := 0) (by decide +kernel) rfl (pn 10 rfl ?_)
    refine s_iload_n (i := 1) (by decide +kernel) rfl (pn 11 rfl ?_)
    refine s_callvI [.int x1] rfl (by decide +kernel) mv_12_176 np_210 (Nat.le_of_ble_eq_true rfl) lq_159 ((congrArg Prod.fst sh_159).trans oc_210) (cI_use h (fun r7 s10 M10 h => (pn 14 rfl ?_)))
    refine t_if_ne (off := 4) (tgt := 18) (by decide +kernel) rfl (fun c7 => ?_) (fun c7 => (pn 17 rfl ?_))
    · have h := h.2 c7
      refine s_aload_n (i := 0) (by decide +kernel) rfl (pn 19 rfl ?_)
      refine s_iload_n (i := 1) (by decide +kernel) rfl (pn 20 rfl ?_)
      refine t_iconst (by decide +kernel) ki_1 (pn 21 rfl ?_)
      refine s_iadd (by decide +kernel) (pn 22 rfl ?_)
      refine s_callvV [.int (x1 + 1)] rfl (by decide +kernel) mv_12_197 np_214 (Nat.le_of_ble_eq_true rfl) lq_159 ((congrArg Prod.fst sh_159).trans oc_214) (cV_use h (fun s11 M11 h => (pn 25 rfl ?_)))
      refine s_aload_n (i := 0) (by decide +kernel) rfl (pn 26 rfl ?_)
      refine t_sipush (by decide +kernel) ks_3006 (pn 29 rfl ?_)
      refine s_callvV [.int 3006] rfl (by decide +kernel) mv_12_170 np_208 (Nat.le_of_ble_eq_true rfl) lq_159 ((congrArg Prod.fst sh_159).trans oc_208) (cV_use h (fun s12 M12 h => (pn 32 rfl ?_)))
      exact s_return (st := []) (by decide +kernel) rfl ⟨rfl, s12, rfl, h⟩
    · have h := h.1 c7
      exact s_return (st := []) (by decide +kernel) rfl ⟨rfl, s10, rfl, h⟩
theorem sgM_readUnit_111 {d : Nat} {s : pm_S} {M : pm_M} {l1 : Int32} {t0 : Int32} {Q : pm_S → pm_M → Prop}  (h : cI d yM_is [.ref 159, .int 39] s M (fun r1 s1 M1 => ((r1 = 0 → cI d yM_is [.ref 159, .int 40] s1 M1 (fun r2 s5 M5 => ((r2 = 0 → cI d yM_is [.ref 159, .int 41] s5 M5 (fun r3 s9 M9 => (((r3 = 0) → cV d yM_fails [.ref 159, .int 2] s9 M9 (fun s10 M10 => cV d yM_readSum [.ref 159, .int l1] s10 M10 (fun s11 M11 => cV d yM_codes [.ref 159, .int t0] s11 M11 (fun s12 M12 => Q s12 M12)))) ∧ (¬ (r3 = 0) → cV d yM_next [.ref 159] s9 M9 (fun s13 M13 => cV d yM_readSum [.ref 159, .int l1] s13 M13 (fun s14 M14 => cV d yM_codes [.ref 159, .int t0] s14 M14 (fun s15 M15 => Q s15 M15))))))) ∧ (¬ (r2 = 0) → cV d yM_next [.ref 159] s5 M5 (fun s6 M6 => cV d yM_readSum [.ref 159, .int l1] s6 M6 (fun s7 M7 => cV d yM_codes [.ref 159, .int t0] s7 M7 (fun s8 M8 => Q s8 M8))))))) ∧ (¬ (r1 = 0) → cV d yM_next [.ref 159] s1 M1 (fun s2 M2 => cV d yM_readSum [.ref 159, .int l1] s2 M2 (fun s3 M3 => cV d yM_codes [.ref 159, .int t0] s3 M3 (fun s4 M4 => Q s4 M4))))))) : wM_readUnit d 111 [.ref 159, .int l1, .null] [.int t0] s M Q := by
  refine s_istore_n (i := 2) (by decide +kernel) (Nat.le_of_ble_eq_true rfl) (pn 112 rfl (t_store (ls' := [.ref 159, .int l1, .int t0]) rfl ?_))
  refine s_aload_n (i := 0) (by decide +kernel) rfl (pn 113 rfl ?_)
  refine t_bipush (by decide +kernel) kb_39 (pn 115 rfl ?_)
  refine s_callvI [.int 39] rfl (by decide +kernel) mv_12_153 np_195 (Nat.le_of_ble_eq_true rfl) lq_159 ((congrArg Prod.fst sh_159).trans oc_195) (cI_use h (fun r1 s1 M1 h => (pn 118 rfl ?_)))
  refine t_if_ne (off := 21) (tgt := 139) (by decide +kernel) rfl (fun c1 => ?_) (fun c1 => (pn 121 rfl ?_))
  · have h := h.2 c1
    refine s_aload_n (i := 0) (by decide +kernel) rfl (pn 140 rfl ?_)
    refine s_callvV [] rfl (by decide +kernel) mv_12_156 np_189 (Nat.le_of_ble_eq_true rfl) lq_159 ((congrArg Prod.fst sh_159).trans oc_189) (cV_use h (fun s2 M2 h => (pn 143 rfl ?_)))
    refine s_goto (off := 8) (tgt := 151) (by decide +kernel) rfl ?_
    refine s_aload_n (i := 0) (by decide +kernel) rfl (pn 152 rfl ?_)
    refine s_iload_n (i := 1) (by decide +kernel) rfl (pn 153 rfl ?_)
    refine s_callvV [.int l1] rfl (by decide +kernel) mv_12_179 np_205 (Nat.le_of_ble_eq_true rfl) lq_159 ((congrArg Prod.fst sh_159).trans oc_205) (cV_use h (fun s3 M3 h => (pn 156 rfl ?_)))
    refine s_aload_n (i := 0) (by decide +kernel) rfl (pn 157 rfl ?_)
    refine s_iload_n (i := 2) (by decide +kernel) rfl (pn 158 rfl ?_)
    refine s_callvV [.int t0] rfl (by decide +kernel) mv_12_170 np_208 (Nat.le_of_ble_eq_true rfl) lq_159 ((congrArg Prod.fst sh_159).trans oc_208) (cV_use h (fun s4 M4 h => (pn 161 rfl ?_)))
    exact s_return (st := []) (by decide +kernel) rfl ⟨rfl, s4, rfl, h⟩
  · have h := h.1 c1
    refine s_aload_n (i := 0) (by decide +kernel) rfl (pn 122 rfl ?_)
    refine t_bipush (by decide +kernel) kb_40 (pn 124 rfl ?_)
    refine s_callvI [.int 40] rfl (by decide +kernel) mv_12_153 np_195 (Nat.le_of_ble_eq_true rfl) lq_159 ((congrArg Prod.fst sh_159).trans oc_195) (cI_use h (fun r2 s5 M5 h => (pn 127 rfl ?_)))
    refine t_if_ne (off := 12) (tgt := 139) (by decide +kernel) rfl (fun c2 => ?_) (fun c2 => (pn 130 rfl ?_))
    · have h := h.2 c2
      refine s_aload_n (i := 0) (by decide +kernel) rfl (pn 140 rfl ?_)
      refine s_callvV [] rfl (by decide +kernel) mv_12_156 np_189 (Nat.le_of_ble_eq_true rfl) lq_159 ((congrArg Prod.fst sh_159).trans oc_189) (cV_use h (fun s6 M6 h => (pn 143 rfl ?_)))
      refine s_goto (off := 8) (tgt := 151) (by decide +kernel) rfl ?_
      refine s_aload_n (i := 0) (by decide +kernel) rfl (pn 152 rfl ?_)
      refine s_iload_n (i := 1) (by decide +kernel) rfl (pn 153 rfl ?_)
      refine s_callvV [.int l1] rfl (by decide +kernel) mv_12_179 np_205 (Nat.le_of_ble_eq_true rfl) lq_159 ((congrArg Prod.fst sh_159).trans oc_205) (cV_use h (fun s7 M7 h => (pn 156 rfl ?_)))
      refine s_aload_n (i := 0) (by decide +kernel) rfl (pn 157 rfl ?_)
      refine s_iload_n (i := 2) (by decide +kernel) rfl (pn 158 rfl ?_)
      refine s_callvV [.int t0] rfl (by decide +kernel) mv_12_170 np_208 (Nat.le_of_ble_eq_true rfl) lq_159 ((congrArg Prod.fst sh_159).trans oc_208) (cV_use h (fun s8 M8 h => (pn 161 rfl ?_)))
      exact s_return (st := []) (by decide +kernel) rfl ⟨rfl, s8, rfl, h⟩
    · have h := h.1 c2
      refine s_aload_n (i := 0) (by decide +kernel) rfl (pn 131 rfl ?_)
      refine t_bipush (by decide +kernel) kb_41 (pn 133 rfl ?_)
      refine s_callvI [.int 41] rfl (by decide +kernel) mv_12_153 np_195 (Nat.le_of_ble_eq_true rfl) lq_159 ((congrArg Prod.fst sh_159).trans oc_195) (cI_use h (fun r3 s9 M9 h => (pn 136 rfl ?_)))
      refine s_if_eq (off := 10) (tgt := 146) (by decide +kernel) rfl (fun c3 => ?_) (fun c3 => (pn 139 rfl ?_))
      · have h := h.1 c3
        refine s_aload_n (i := 0) (by decide +kernel) rfl (pn 147 rfl ?_)
        refine t_iconst (by decide +kernel) ki_2 (pn 148 rfl ?_)
        refine s_callvV [.int 2] rfl (by decide +kernel) mv_12_159 np_196 (Nat.le_of_ble_eq_true rfl) lq_159 ((congrArg Prod.fst sh_159).trans oc_196) (cV_use h (fun s10 M10 h => (pn 151 rfl ?_)))
        refine s_aload_n (i := 0) (by decide +kernel) rfl (pn 152 rfl ?_)
        refine s_iload_n (i := 1) (by decide +kernel) rfl (pn 153 rfl ?_)
        refine s_callvV [.int l1] rfl (by decide +kernel) mv_12_179 np_205 (Nat.le_of_ble_eq_true rfl) lq_159 ((congrArg Prod.fst sh_159).trans oc_205) (cV_use h (fun s11 M11 h => (pn 156 rfl ?_)))
        refine s_aload_n (i := 0) (by decide +kernel) rfl (pn 157 rfl ?_)
        refine s_iload_n (i := 2) (by decide +kernel) rfl (pn 158 rfl ?_)
        refine s_callvV [.int t0] rfl (by decide +kernel) mv_12_170 np_208 (Nat.le_of_ble_eq_true rfl) lq_159 ((congrArg Prod.fst sh_159).trans oc_208) (cV_use h (fun s12 M12 h => (pn 161 rfl ?_)))
        exact s_return (st := []) (by decide +kernel) rfl ⟨rfl, s12, rfl, h⟩
      · have h := h.2 c3
        refine s_aload_n (i := 0) (by decide +kernel) rfl (pn 140 rfl ?_)
        refine s_callvV [] rfl (by decide +kernel) mv_12_156 np_189 (Nat.le_of_ble_eq_true rfl) lq_159 ((congrArg Prod.fst sh_159).trans oc_189) (cV_use h (fun s13 M13 h => (pn 143 rfl ?_)))
        refine s_goto (off := 8) (tgt := 151) (by decide +kernel) rfl ?_
        refine s_aload_n (i := 0) (by decide +kernel) rfl (pn 152 rfl ?_)
        refine s_iload_n (i := 1) (by decide +kernel) rfl (pn 153 rfl ?_)
        refine s_callvV [.int l1] rfl (by decide +kernel) mv_12_179 np_205 (Nat.le_of_ble_eq_true rfl) lq_159 ((congrArg Prod.fst sh_159).trans oc_205) (cV_use h (fun s14 M14 h => (pn 156 rfl ?_)))
        refine s_aload_n (i := 0) (by decide +kernel) rfl (pn 157 rfl ?_)
        refine s_iload_n (i := 2) (by decide +kernel) rfl (pn 158 rfl ?_)
        refine s_callvV [.int t0] rfl (by decide +kernel) mv_12_170 np_208 (Nat.le_of_ble_eq_true rfl) lq_159 ((congrArg Prod.fst sh_159).trans oc_208) (cV_use h (fun s15 M15 h => (pn 161 rfl ?_)))
        exact s_return (st := []) (by decide +kernel) rfl ⟨rfl, s15, rfl, h⟩
abbrev wM_fault (d pc : Nat) (ls st : List Value) (s : pm_S) (M : pm_M) (Q : Int32 → pm_S → pm_M → Prop) : Prop := wI d prog_14_method_34_code 12 (some .int) false pc ls st s M Q
theorem enM_fault {d : Nat} {s : pm_S} {M : pm_M} {x1 : Int32} {Q : Int32 → pm_S → pm_M → Prop}  (h : Q ((if x1 = 0 then (M.1 159 13) else (if x1 = 1 then (M.1 159 14) else (-1))) : Int32) s (pm_si M 159 0 0)) : cI (d + 1) yM_fault [.ref 159, .int x1] s M Q := by
  refine pm_toI (by decide) (Nat.le_of_ble_eq_true rfl) ?_
  show wM_fault d 0 [.ref 159, .int x1] [] s M Q
  refine s_aload_n (i := 0) (by decide +kernel) rfl (pn 1 rfl ?_)
  refine t_iconst (by decide +kernel) ki_0 (pn 2 rfl ?_)
  refine s_putfieldI (by decide +kernel) fr_12_1 lq_159 (congrArg Prod.fst sh_159) (fun q => by cases q) (Or.inl rfl) (pn 5 rfl ?_)
  refine s_iload_n (i := 1) (by decide +kernel) rfl (pn 6 rfl ?_)
  have k1 : ∀ (z1 : Int32) (z1e : z1 = ((if x1 = 0 then (M.1 159 13) else (if x1 = 1 then (M.1 159 14) else (-1))) : Int32)), wM_fault d 29 [.ref 159, .int x1] [.int z1] s (pm_si M 159 0 0) Q := by
    intro z1 z1e
    subst z1e
    exact s_ireturn (st := []) (by decide +kernel) (Or.inl rfl) ⟨_, rfl, s, rfl, h⟩
  refine t_if_ne (off := 10) (tgt := 16) (by decide +kernel) rfl (fun c1 => ?_) (fun c1 => (pn 9 rfl ?_))
  · refine s_iload_n (i := 1) (by decide +kernel) rfl (pn 17 rfl ?_)
    refine t_iconst (by decide +kernel) ki_1 (pn 18 rfl ?_)
    refine t_icmp_ne (off := 10) (tgt := 28) (by decide +kernel) rfl (fun c2 => ?_) (fun c2 => (pn 21 rfl ?_))
    · refine t_iconst (by decide +kernel) ki_m1 (pn 29 rfl ?_)
      exact k1 _ (by simp only [if_neg c1, if_neg c2])
    · refine s_aload_n (i := 0) (by decide +kernel) rfl (pn 22 rfl ?_)
      refine s_getfield (v := .int (M.1 159 14)) (by decide +kernel) fr_12_27 lq_159 (congrArg Prod.fst sh_159) rfl (pn 25 rfl ?_)
      refine s_goto (off := 4) (tgt := 29) (by decide +kernel) rfl ?_
      exact k1 _ (by simp only [if_neg c1, if_pos c2])
  · refine s_aload_n (i := 0) (by decide +kernel) rfl (pn 10 rfl ?_)
    refine s_getfield (v := .int (M.1 159 13)) (by decide +kernel) fr_12_228 lq_159 (congrArg Prod.fst sh_159) rfl (pn 13 rfl ?_)
    refine s_goto (off := 16) (tgt := 29) (by decide +kernel) rfl ?_
    exact k1 _ (by simp only [if_pos c1])
abbrev wM_thing (d pc : Nat) (ls st : List Value) (s : pm_S) (M : pm_M) (Q : Int32 → pm_S → pm_M → Prop) : Prop := wI d prog_14_method_46_code 12 (some .int) false pc ls st s M Q
theorem enM_thing {d : Nat} {s : pm_S} {M : pm_M} {x1 : Int32} {x2 : Int32} {Q : Int32 → pm_S → pm_M → Prop}  (h : cI d yM_isThing [.ref 159, .long (x1.toInt64)] s (pm_si M 159 0 0) (fun r1 s1 M1 => ((r1 = 0 → Q (-2) s1 M1) ∧ (¬ (r1 = 0) → ((x2 = 0 → vp_in ((50 : Int32) + x1) 3870 ∧ Q (M1.1 160 ((50 : Int32) + x1).toNatClampNeg) s1 M1) ∧ (¬ x2 = 0 → ((x2 = 1 → vp_in ((19 : Int32) + x1) 3870 ∧ Q (M1.1 160 ((19 : Int32) + x1).toNatClampNeg) s1 M1) ∧ (¬ x2 = 1 → ((x2 = 2 → vp_in ((27 : Int32) + x1) 3870 ∧ Q (M1.1 160 ((27 : Int32) + x1).toNatClampNeg) s1 M1) ∧ (¬ x2 = 2 → ((x2 = 3 → vp_in ((58 : Int32) + x1) 3870 ∧ Q (M1.1 160 ((58 : Int32) + x1).toNatClampNeg) s1 M1) ∧ (¬ x2 = 3 → Q (-2) s1 M1)))))))))))) : cI (d + 1) yM_thing [.ref 159, .int x1, .int x2] s M Q := by
  refine pm_toI (by decide) (Nat.le_of_ble_eq_true rfl) ?_
  show wM_thing d 0 [.ref 159, .int x1, .int x2] [] s M Q
  refine s_aload_n (i := 0) (by decide +kernel) rfl (pn 1 rfl ?_)
  refine t_iconst (by decide +kernel) ki_0 (pn 2 rfl ?_)
  refine s_putfieldI (by decide +kernel) fr_12_1 lq_159 (congrArg Prod.fst sh_159) (fun q => by cases q) (Or.inl rfl) (pn 5 rfl ?_)
  refine s_aload_n (i := 0) (by decide +kernel) rfl (pn 6 rfl ?_)
  refine s_iload_n (i := 1) (by decide +kernel) rfl (pn 7 rfl ?_)
  refine s_i2l (by decide +kernel) (pn 8 rfl ?_)
  refine s_callvI [.long (x1.toInt64)] rfl (by decide +kernel) mv_12_250 np_217 (Nat.le_of_ble_eq_true rfl) lq_159 ((congrArg Prod.fst sh_159).trans oc_217) (cI_use h (fun r1 s1 M1 h => (pn 11 rfl ?_)))
  refine t_if_ne (off := 6) (tgt := 17) (by decide +kernel) rfl (fun c1 => ?_) (fun c1 => (pn 14 rfl ?_))
  · have h := h.2 c1
    refine s_iload_n (i := 2) (by decide +kernel) rfl (pn 18 rfl ?_)
    by_cases c2 : x2 = 0
    · refine s_tableswitch (dflt := 70) (lo := 0) (hi := 3) (offs := #[30, 40, 50, 60]) (len := 30) (tgt := 48) (by decide +kernel) (by rw [c2]; decide) (by rw [c2]; decide) ?_
      have h := h.1 c2
      refine s_aload_n (i := 0) (by decide +kernel) rfl (pn 49 rfl ?_)
      refine s_getfield (v := .ref 160) (by decide +kernel) fr_12_13 lq_159 (congrArg Prod.fst sh_159) (fv_ref pf_159_1) (pn 52 rfl ?_)
      refine t_bipush (by decide +kernel) kb_50 (pn 54 rfl ?_)
      refine s_iload_n (i := 1) (by decide +kernel) rfl (pn 55 rfl ?_)
      refine s_iadd (by decide +kernel) (pn 56 rfl ?_)
      obtain ⟨b1, h⟩ := h
      refine t_iaload (v := M1.1 160 ((50 : Int32) + x1).toNatClampNeg) (by decide +kernel) ⟨Or.inl lq_160, congrArg Prod.fst sh_160⟩ (al_in sh_160 b1) rfl (pn 57 rfl ?_)
      exact s_ireturn (st := []) (by decide +kernel) (Or.inl rfl) ⟨_, rfl, s1, rfl, h⟩
    have h := h.2 c2
    by_cases c3 : x2 = 1
    · refine s_tableswitch (dflt := 70) (lo := 0) (hi := 3) (offs := #[30, 40, 50, 60]) (len := 30) (tgt := 58) (by decide +kernel) (by rw [c3]; decide) (by rw [c3]; decide) ?_
      have h := h.1 c3
      refine s_aload_n (i := 0) (by decide +kernel) rfl (pn 59 rfl ?_)
      refine s_getfield (v := .ref 160) (by decide +kernel) fr_12_13 lq_159 (congrArg Prod.fst sh_159) (fv_ref pf_159_1) (pn 62 rfl ?_)
      refine t_bipush (by decide +kernel) kb_19 (pn 64 rfl ?_)
      refine s_iload_n (i := 1) (by decide +kernel) rfl (pn 65 rfl ?_)
      refine s_iadd (by decide +kernel) (pn 66 rfl ?_)
      obtain ⟨b2, h⟩ := h
      refine t_iaload (v := M1.1 160 ((19 : Int32) + x1).toNatClampNeg) (by decide +kernel) ⟨Or.inl lq_160, congrArg Prod.fst sh_160⟩ (al_in sh_160 b2) rfl (pn 67 rfl ?_)
      exact s_ireturn (st := []) (by decide +kernel) (Or.inl rfl) ⟨_, rfl, s1, rfl, h⟩
    have h := h.2 c3
    by_cases c4 : x2 = 2
    · refine s_tableswitch (dflt := 70) (lo := 0) (hi := 3) (offs := #[30, 40, 50, 60]) (len := 30) (tgt := 68) (by decide +kernel) (by rw [c4]; decide) (by rw [c4]; decide) ?_
      have h := h.1 c4
      refine s_aload_n (i := 0) (by decide +kernel) rfl (pn 69 rfl ?_)
      refine s_getfield (v := .ref 160) (by decide +kernel) fr_12_13 lq_159 (congrArg Prod.fst sh_159) (fv_ref pf_159_1) (pn 72 rfl ?_)
      refine t_bipush (by decide +kernel) kb_27 (pn 74 rfl ?_)
      refine s_iload_n (i := 1) (by decide +kernel) rfl (pn 75 rfl ?_)
      refine s_iadd (by decide +kernel) (pn 76 rfl ?_)
      obtain ⟨b3, h⟩ := h
      refine t_iaload (v := M1.1 160 ((27 : Int32) + x1).toNatClampNeg) (by decide +kernel) ⟨Or.inl lq_160, congrArg Prod.fst sh_160⟩ (al_in sh_160 b3) rfl (pn 77 rfl ?_)
      exact s_ireturn (st := []) (by decide +kernel) (Or.inl rfl) ⟨_, rfl, s1, rfl, h⟩
    have h := h.2 c4
    by_cases c5 : x2 = 3
    · refine s_tableswitch (dflt := 70) (lo := 0) (hi := 3) (offs := #[30, 40, 50, 60]) (len := 30) (tgt := 78) (by decide +kernel) (by rw [c5]; decide) (by rw [c5]; decide) ?_
      have h := h.1 c5
      refine s_aload_n (i := 0) (by decide +kernel) rfl (pn 79 rfl ?_)
      refine s_getfield (v := .ref 160) (by decide +kernel) fr_12_13 lq_159 (congrArg Prod.fst sh_159) (fv_ref pf_159_1) (pn 82 rfl ?_)
      refine t_bipush (by decide +kernel) kb_58 (pn 84 rfl ?_)
      refine s_iload_n (i := 1) (by decide +kernel) rfl (pn 85 rfl ?_)
      refine s_iadd (by decide +kernel) (pn 86 rfl ?_)
      obtain ⟨b4, h⟩ := h
      refine t_iaload (v := M1.1 160 ((58 : Int32) + x1).toNatClampNeg) (by decide +kernel) ⟨Or.inl lq_160, congrArg Prod.fst sh_160⟩ (al_in sh_160 b4) rfl (pn 87 rfl ?_)
      exact s_ireturn (st := []) (by decide +kernel) (Or.inl rfl) ⟨_, rfl, s1, rfl, h⟩
    have h := h.2 c5
    have k1 : wM_thing d 88 [.ref 159, .int x1, .int x2] [] s1 M1 Q := by
      refine t_bipush (by decide +kernel) kb_m2 (pn 90 rfl ?_)
      exact s_ireturn (st := []) (by decide +kernel) (Or.inl rfl) ⟨_, rfl, s1, rfl, h⟩
    by_cases q0 : x2.toInt < 0 ∨ 3 < x2.toInt
    · exact t_tabledef (dflt := 70) (lo := 0) (hi := 3) (offs := #[30, 40, 50, 60]) (len := 30) (tgt := 88) (by decide +kernel) rfl q0 k1
    · rcases (show x2.toInt = 0 ∨ x2.toInt = 1 ∨ x2.toInt = 2 ∨ x2.toInt = 3 by omega) with q1 | q1 | q1 | q1
      · exact absurd (Int32.toInt_inj.mp (q1.trans (by decide))) c2
      · exact absurd (Int32.toInt_inj.mp (q1.trans (by decide))) c3
      · exact absurd (Int32.toInt_inj.mp (q1.trans (by decide))) c4
      · exact absurd (Int32.toInt_inj.mp (q1.trans (by decide))) c5
  · have h := h.1 c1
    refine t_bipush (by decide +kernel) kb_m2 (pn 16 rfl ?_)
    exact s_ireturn (st := []) (by decide +kernel) (Or.inl rfl) ⟨_, rfl, s1, rfl, h⟩
abbrev wM_isThing (d pc : Nat) (ls st : List Value) (s : pm_S) (M : pm_M) (Q : Int32 → pm_S → pm_M → Prop) : Prop := wI d prog_14_method_36_code 12 (some .boolean) false pc ls st s M Q
theorem enM_isThing {d : Nat} {s : pm_S} {M : pm_M} {x1 : Int64} {Q : Int32 → pm_S → pm_M → Prop}  (h : cI d yM_within [.long x1, .long 0, .long (((M.1 160 2) - 1).toInt64)] s M (fun r1 s1 M1 => (r1 = 0 ∨ r1 = 1) ∧ Q r1 s1 M1)) : cI (d + 1) yM_isThing [.ref 159, .long x1] s M Q := by
  refine pm_toI (by decide) (Nat.le_of_ble_eq_true rfl) ?_
  show wM_isThing d 0 [.ref 159, .long x1, .null] [] s M Q
  refine s_lload_n (i := 1) (by decide +kernel) rfl (pn 1 rfl ?_)
  refine t_lconst (n := 0) (v := 0) (by decide +kernel) rfl (pn 2 rfl ?_)
  refine s_aload_n (i := 0) (by decide +kernel) rfl (pn 3 rfl ?_)
  refine s_getfield (v := .ref 160) (by decide +kernel) fr_12_13 lq_159 (congrArg Prod.fst sh_159) (fv_ref pf_159_1) (pn 6 rfl ?_)
  refine t_iconst (by decide +kernel) ki_2 (pn 7 rfl ?_)
  refine t_iaload (v := M.1 160 2) (by decide +kernel) ⟨Or.inl lq_160, congrArg Prod.fst sh_160⟩ (al_in sh_160 (vp_lit (n := 3870) tn_2 (by decide) (by decide))) (by rw [tn_2] <;> rfl) (pn 8 rfl ?_)
  refine t_iconst (by decide +kernel) ki_1 (pn 9 rfl ?_)
  refine s_isub (by decide +kernel) (pn 10 rfl ?_)
  refine s_i2l (by decide +kernel) (pn 11 rfl ?_)
  refine s_callsI [.long x1, .long 0, .long (((M.1 160 2) - 1).toInt64)] rfl (by decide +kernel) ms_12_163 np_188 (Nat.le_of_ble_eq_true rfl) (cI_use h (fun r1 s1 M1 h => (pn 14 rfl ?_)))
  obtain ⟨b1, h⟩ := h
  exact s_ireturn (st := []) (by decide +kernel) (Or.inr ⟨rfl, b1⟩) ⟨_, rfl, s1, rfl, h⟩
abbrev wM_person (d pc : Nat) (ls st : List Value) (s : pm_S) (M : pm_M) (Q : Int32 → pm_S → pm_M → Prop) : Prop := wI d prog_14_method_47_code 12 (some .int) false pc ls st s M Q
theorem enM_person {d : Nat} {s : pm_S} {M : pm_M} {x1 : Int32} {x2 : Int32} {Q : Int32 → pm_S → pm_M → Prop}  (h : cI d yM_isPerson [.ref 159, .long (x1.toInt64)] s (pm_si M 159 0 0) (fun r1 s1 M1 => ((r1 = 0 → Q (-2) s1 M1) ∧ (¬ (r1 = 0) → ((x2 = 0 → vp_in ((35 : Int32) + x1) 3870 ∧ Q (M1.1 160 ((35 : Int32) + x1).toNatClampNeg) s1 M1) ∧ (¬ x2 = 0 → ((x2 = 1 → vp_in ((66 : Int32) + x1) 3870 ∧ Q (M1.1 160 ((66 : Int32) + x1).toNatClampNeg) s1 M1) ∧ (¬ x2 = 1 → ((x2 = 2 → vp_in ((41 : Int32) + x1) 3870 ∧ Q (M1.1 160 ((41 : Int32) + x1).toNatClampNeg) s1 M1) ∧ (¬ x2 = 2 → ((x2 = 3 → cI d yM_heldBy [.ref 159, .int x1] s1 M1 (fun r2 s2 M2 => Q r2 s2 M2)) ∧ (¬ x2 = 3 → ((x2 = 4 → vp_in ((72 : Int32) + x1) 3870 ∧ Q (M1.1 160 ((72 : Int32) + x1).toNatClampNeg) s1 M1) ∧ (¬ x2 = 4 → Q (-2) s1 M1)))))))))))))) : cI (d + 1) yM_person [.ref 159, .int x1, .int x2] s M Q := by
  refine pm_toI (by decide) (Nat.le_of_ble_eq_true rfl) ?_
  show wM_person d 0 [.ref 159, .int x1, .int x2] [] s M Q
  refine s_aload_n (i := 0) (by decide +kernel) rfl (pn 1 rfl ?_)
  refine t_iconst (by decide +kernel) ki_0 (pn 2 rfl ?_)
  refine s_putfieldI (by decide +kernel) fr_12_1 lq_159 (congrArg Prod.fst sh_159) (fun q => by cases q) (Or.inl rfl) (pn 5 rfl ?_)
  refine s_aload_n (i := 0) (by decide +kernel) rfl (pn 6 rfl ?_)
  refine s_iload_n (i := 1) (by decide +kernel) rfl (pn 7 rfl ?_)
  refine s_i2l (by decide +kernel) (pn 8 rfl ?_)
  refine s_callvI [.long (x1.toInt64)] rfl (by decide +kernel) mv_12_231 np_219 (Nat.le_of_ble_eq_true rfl) lq_159 ((congrArg Prod.fst sh_159).trans oc_219) (cI_use h (fun r1 s1 M1 h => (pn 11 rfl ?_)))
  refine t_if_ne (off := 6) (tgt := 17) (by decide +kernel) rfl (fun c1 => ?_) (fun c1 => (pn 14 rfl ?_))
  · have h := h.2 c1
    refine s_iload_n (i := 2) (by decide +kernel) rfl (pn 18 rfl ?_)
    by_cases c2 : x2 = 0
    · refine s_tableswitch (dflt := 80) (lo := 0) (hi := 4) (offs := #[34, 44, 54, 64, 70]) (len := 34) (tgt := 52) (by decide +kernel) (by rw [c2]; decide) (by rw [c2]; decide) ?_
      have h := h.1 c2
      refine s_aload_n (i := 0) (by decide +kernel) rfl (pn 53 rfl ?_)
      refine s_getfield (v := .ref 160) (by decide +kernel) fr_12_13 lq_159 (congrArg Prod.fst sh_159) (fv_ref pf_159_1) (pn 56 rfl ?_)
      refine t_bipush (by decide +kernel) kb_35 (pn 58 rfl ?_)
      refine s_iload_n (i := 1) (by decide +kernel) rfl (pn 59 rfl ?_)
      refine s_iadd (by decide +kernel) (pn 60 rfl ?_)
      obtain ⟨b1, h⟩ := h
      refine t_iaload (v := M1.1 160 ((35 : Int32) + x1).toNatClampNeg) (by decide +kernel) ⟨Or.inl lq_160, congrArg Prod.fst sh_160⟩ (al_in sh_160 b1) rfl (pn 61 rfl ?_)
      exact s_ireturn (st := []) (by decide +kernel) (Or.inl rfl) ⟨_, rfl, s1, rfl, h⟩
    have h := h.2 c2
    by_cases c3 : x2 = 1
    · refine s_tableswitch (dflt := 80) (lo := 0) (hi := 4) (offs := #[34, 44, 54, 64, 70]) (len := 34) (tgt := 62) (by decide +kernel) (by rw [c3]; decide) (by rw [c3]; decide) ?_
      have h := h.1 c3
      refine s_aload_n (i := 0) (by decide +kernel) rfl (pn 63 rfl ?_)
      refine s_getfield (v := .ref 160) (by decide +kernel) fr_12_13 lq_159 (congrArg Prod.fst sh_159) (fv_ref pf_159_1) (pn 66 rfl ?_)
      refine t_bipush (by decide +kernel) kb_66 (pn 68 rfl ?_)
      refine s_iload_n (i := 1) (by decide +kernel) rfl (pn 69 rfl ?_)
      refine s_iadd (by decide +kernel) (pn 70 rfl ?_)
      obtain ⟨b2, h⟩ := h
      refine t_iaload (v := M1.1 160 ((66 : Int32) + x1).toNatClampNeg) (by decide +kernel) ⟨Or.inl lq_160, congrArg Prod.fst sh_160⟩ (al_in sh_160 b2) rfl (pn 71 rfl ?_)
      exact s_ireturn (st := []) (by decide +kernel) (Or.inl rfl) ⟨_, rfl, s1, rfl, h⟩
    have h := h.2 c3
    by_cases c4 : x2 = 2
    · refine s_tableswitch (dflt := 80) (lo := 0) (hi := 4) (offs := #[34, 44, 54, 64, 70]) (len := 34) (tgt := 72) (by decide +kernel) (by rw [c4]; decide) (by rw [c4]; decide) ?_
      have h := h.1 c4
      refine s_aload_n (i := 0) (by decide +kernel) rfl (pn 73 rfl ?_)
      refine s_getfield (v := .ref 160) (by decide +kernel) fr_12_13 lq_159 (congrArg Prod.fst sh_159) (fv_ref pf_159_1) (pn 76 rfl ?_)
      refine t_bipush (by decide +kernel) kb_41 (pn 78 rfl ?_)
      refine s_iload_n (i := 1) (by decide +kernel) rfl (pn 79 rfl ?_)
      refine s_iadd (by decide +kernel) (pn 80 rfl ?_)
      obtain ⟨b3, h⟩ := h
      refine t_iaload (v := M1.1 160 ((41 : Int32) + x1).toNatClampNeg) (by decide +kernel) ⟨Or.inl lq_160, congrArg Prod.fst sh_160⟩ (al_in sh_160 b3) rfl (pn 81 rfl ?_)
      exact s_ireturn (st := []) (by decide +kernel) (Or.inl rfl) ⟨_, rfl, s1, rfl, h⟩
    have h := h.2 c4
    by_cases c5 : x2 = 3
    · refine s_tableswitch (dflt := 80) (lo := 0) (hi := 4) (offs := #[34, 44, 54, 64, 70]) (len := 34) (tgt := 82) (by decide +kernel) (by rw [c5]; decide) (by rw [c5]; decide) ?_
      have h := h.1 c5
      refine s_aload_n (i := 0) (by decide +kernel) rfl (pn 83 rfl ?_)
      refine s_iload_n (i := 1) (by decide +kernel) rfl (pn 84 rfl ?_)
      refine s_callvI [.int x1] rfl (by decide +kernel) mv_12_253 np_220 (Nat.le_of_ble_eq_true rfl) lq_159 ((congrArg Prod.fst sh_159).trans oc_220) (cI_use h (fun r2 s2 M2 h => (pn 87 rfl ?_)))
      exact s_ireturn (st := []) (by decide +kernel) (Or.inl rfl) ⟨_, rfl, s2, rfl, h⟩
    have h := h.2 c5
    by_cases c6 : x2 = 4
    · refine s_tableswitch (dflt := 80) (lo := 0) (hi := 4) (offs := #[34, 44, 54, 64, 70]) (len := 34) (tgt := 88) (by decide +kernel) (by rw [c6]; decide) (by rw [c6]; decide) ?_
      have h := h.1 c6
      refine s_aload_n (i := 0) (by decide +kernel) rfl (pn 89 rfl ?_)
      refine s_getfield (v := .ref 160) (by decide +kernel) fr_12_13 lq_159 (congrArg Prod.fst sh_159) (fv_ref pf_159_1) (pn 92 rfl ?_)
      refine t_bipush (by decide +kernel) kb_72 (pn 94 rfl ?_)
      refine s_iload_n (i := 1) (by decide +kernel) rfl (pn 95 rfl ?_)
      refine s_iadd (by decide +kernel) (pn 96 rfl ?_)
      obtain ⟨b4, h⟩ := h
      refine t_iaload (v := M1.1 160 ((72 : Int32) + x1).toNatClampNeg) (by decide +kernel) ⟨Or.inl lq_160, congrArg Prod.fst sh_160⟩ (al_in sh_160 b4) rfl (pn 97 rfl ?_)
      exact s_ireturn (st := []) (by decide +kernel) (Or.inl rfl) ⟨_, rfl, s1, rfl, h⟩
    have h := h.2 c6
    have k1 : wM_person d 98 [.ref 159, .int x1, .int x2] [] s1 M1 Q := by
      refine t_bipush (by decide +kernel) kb_m2 (pn 100 rfl ?_)
      exact s_ireturn (st := []) (by decide +kernel) (Or.inl rfl) ⟨_, rfl, s1, rfl, h⟩
    by_cases q0 : x2.toInt < 0 ∨ 4 < x2.toInt
    · exact t_tabledef (dflt := 80) (lo := 0) (hi := 4) (offs := #[34, 44, 54, 64, 70]) (len := 34) (tgt := 98) (by decide +kernel) rfl q0 k1
    · rcases (show x2.toInt = 0 ∨ x2.toInt = 1 ∨ x2.toInt = 2 ∨ x2.toInt = 3 ∨ x2.toInt = 4 by omega) with q1 | q1 | q1 | q1 | q1
      · exact absurd (Int32.toInt_inj.mp (q1.trans (by decide))) c2
      · exact absurd (Int32.toInt_inj.mp (q1.trans (by decide))) c3
      · exact absurd (Int32.toInt_inj.mp (q1.trans (by decide))) c4
      · exact absurd (Int32.toInt_inj.mp (q1.trans (by decide))) c5
      · exact absurd (Int32.toInt_inj.mp (q1.trans (by decide))) c6
  · have h := h.1 c1
    refine t_bipush (by decide +kernel) kb_m2 (pn 16 rfl ?_)
    exact s_ireturn (st := []) (by decide +kernel) (Or.inl rfl) ⟨_, rfl, s1, rfl, h⟩
abbrev wM_isPerson (d pc : Nat) (ls st : List Value) (s : pm_S) (M : pm_M) (Q : Int32 → pm_S → pm_M → Prop) : Prop := wI d prog_14_method_37_code 12 (some .boolean) false pc ls st s M Q
theorem enM_isPerson {d : Nat} {s : pm_S} {M : pm_M} {x1 : Int64} {Q : Int32 → pm_S → pm_M → Prop}  (h : cI d yM_within [.long x1, .long 0, .long (((M.1 160 3) - 1).toInt64)] s M (fun r1 s1 M1 => (r1 = 0 ∨ r1 = 1) ∧ Q r1 s1 M1)) : cI (d + 1) yM_isPerson [.ref 159, .long x1] s M Q := by
  refine pm_toI (by decide) (Nat.le_of_ble_eq_true rfl) ?_
  show wM_isPerson d 0 [.ref 159, .long x1, .null] [] s M Q
  refine s_lload_n (i := 1) (by decide +kernel) rfl (pn 1 rfl ?_)
  refine t_lconst (n := 0) (v := 0) (by decide +kernel) rfl (pn 2 rfl ?_)
  refine s_aload_n (i := 0) (by decide +kernel) rfl (pn 3 rfl ?_)
  refine s_getfield (v := .ref 160) (by decide +kernel) fr_12_13 lq_159 (congrArg Prod.fst sh_159) (fv_ref pf_159_1) (pn 6 rfl ?_)
  refine t_iconst (by decide +kernel) ki_3 (pn 7 rfl ?_)
  refine t_iaload (v := M.1 160 3) (by decide +kernel) ⟨Or.inl lq_160, congrArg Prod.fst sh_160⟩ (al_in sh_160 (vp_lit (n := 3870) tn_3 (by decide) (by decide))) (by rw [tn_3] <;> rfl) (pn 8 rfl ?_)
  refine t_iconst (by decide +kernel) ki_1 (pn 9 rfl ?_)
  refine s_isub (by decide +kernel) (pn 10 rfl ?_)
  refine s_i2l (by decide +kernel) (pn 11 rfl ?_)
  refine s_callsI [.long x1, .long 0, .long (((M.1 160 3) - 1).toInt64)] rfl (by decide +kernel) ms_12_163 np_188 (Nat.le_of_ble_eq_true rfl) (cI_use h (fun r1 s1 M1 h => (pn 14 rfl ?_)))
  obtain ⟨b1, h⟩ := h
  exact s_ireturn (st := []) (by decide +kernel) (Or.inr ⟨rfl, b1⟩) ⟨_, rfl, s1, rfl, h⟩
abbrev wM_heldBy (d pc : Nat) (ls st : List Value) (s : pm_S) (M : pm_M) (Q : Int32 → pm_S → pm_M → Prop) : Prop := wI d prog_14_method_40_code 12 (some .int) false pc ls st s M Q
theorem enM_heldBy {d : Nat} {s : pm_S} {M : pm_M} {x1 : Int32} {Q : Int32 → pm_S → pm_M → Prop}  (h : wM_heldBy d 2 [.ref 159, .int x1, .int 0] [] s M Q) : cI (d + 1) yM_heldBy [.ref 159, .int x1] s M Q := by
  refine pm_toI (by decide) (Nat.le_of_ble_eq_true rfl) ?_
  show wM_heldBy d 0 [.ref 159, .int x1, .null] [] s M Q
  refine t_iconst (by decide +kernel) ki_0 (pn 1 rfl ?_)
  refine s_istore_n (i := 2) (by decide +kernel) (Nat.le_of_ble_eq_true rfl) (pn 2 rfl (t_store (ls' := [.ref 159, .int x1, .int 0]) rfl ?_))
  exact h
theorem sgM_heldBy_2 {d : Nat} {s : pm_S} {M : pm_M} {l1 : Int32} {l2 : Int32} {Q : Int32 → pm_S → pm_M → Prop}  (h : ((((M.1 160 2) ≤ l2) → Q (-1) s M) ∧ (¬ ((M.1 160 2) ≤ l2) → vp_in ((50 : Int32) + l2) 3870 ∧ (((M.1 160 ((50 : Int32) + l2).toNatClampNeg) = ((10 : Int32) + l1) → Q l2 s M) ∧ (¬ ((M.1 160 ((50 : Int32) + l2).toNatClampNeg) = ((10 : Int32) + l1)) → wM_heldBy d 2 [.ref 159, .int l1, .int (l2 + 1)] [] s M Q))))) : wM_heldBy d 2 [.ref 159, .int l1, .int l2] [] s M Q := by
  refine s_iload_n (i := 2) (by decide +kernel) rfl (pn 3 rfl ?_)
  refine s_aload_n (i := 0) (by decide +kernel) rfl (pn 4 rfl ?_)
  refine s_getfield (v := .ref 160) (by decide +kernel) fr_12_13 lq_159 (congrArg Prod.fst sh_159) (fv_ref pf_159_1) (pn 7 rfl ?_)
  refine t_iconst (by decide +kernel) ki_2 (pn 8 rfl ?_)
  refine t_iaload (v := M.1 160 2) (by decide +kernel) ⟨Or.inl lq_160, congrArg Prod.fst sh_160⟩ (al_in sh_160 (vp_lit (n := 3870) tn_2 (by decide) (by decide))) (by rw [tn_2] <;> rfl) (pn 9 rfl ?_)
  refine s_icmp_ge (off := 27) (tgt := 36) (by decide +kernel) rfl (fun c1 => ?_) (fun c1 => (pn 12 rfl ?_))
  · have h := h.1 c1
    refine t_iconst (by decide +kernel) ki_m1 (pn 37 rfl ?_)
    exact s_ireturn (st := []) (by decide +kernel) (Or.inl rfl) ⟨_, rfl, s, rfl, h⟩
  · have h := h.2 c1
    refine s_aload_n (i := 0) (by decide +kernel) rfl (pn 13 rfl ?_)
    refine s_getfield (v := .ref 160) (by decide +kernel) fr_12_13 lq_159 (congrArg Prod.fst sh_159) (fv_ref pf_159_1) (pn 16 rfl ?_)
    refine t_bipush (by decide +kernel) kb_50 (pn 18 rfl ?_)
    refine s_iload_n (i := 2) (by decide +kernel) rfl (pn 19 rfl ?_)
    refine s_iadd (by decide +kernel) (pn 20 rfl ?_)
    obtain ⟨b1, h⟩ := h
    refine t_iaload (v := M.1 160 ((50 : Int32) + l2).toNatClampNeg) (by decide +kernel) ⟨Or.inl lq_160, congrArg Prod.fst sh_160⟩ (al_in sh_160 b1) rfl (pn 21 rfl ?_)
    refine t_bipush (by decide +kernel) kb_10 (pn 23 rfl ?_)
    refine s_iload_n (i := 1) (by decide +kernel) rfl (pn 24 rfl ?_)
    refine s_iadd (by decide +kernel) (pn 25 rfl ?_)
    refine t_icmp_ne (off := 5) (tgt := 30) (by decide +kernel) rfl (fun c2 => ?_) (fun c2 => (pn 28 rfl ?_))
    · have h := h.2 c2
      refine t_iinc (i := 2) (n := 1) (ls' := [.ref 159, .int l1, .int (l2 + 1)]) (by decide +kernel) rfl (Nat.le_of_ble_eq_true rfl) kn_1 rfl (pn 33 rfl ?_)
      refine s_goto (off := -31) (tgt := 2) (by decide +kernel) rfl ?_
      exact h
    · have h := h.1 c2
      refine s_iload_n (i := 2) (by decide +kernel) rfl (pn 29 rfl ?_)
      exact s_ireturn (st := []) (by decide +kernel) (Or.inl rfl) ⟨_, rfl, s, rfl, h⟩
abbrev wM_claims (d pc : Nat) (ls st : List Value) (s : pm_S) (M : pm_M) (Q : Int32 → pm_S → pm_M → Prop) : Prop := wI d prog_14_method_48_code 12 (some .int) false pc ls st s M Q
theorem enM_claims {d : Nat} {s : pm_S} {M : pm_M} {x1 : Int32} {x2 : Int32} {Q : Int32 → pm_S → pm_M → Prop}  (h : cI d yM_isPerson [.ref 159, .long (x1.toInt64)] s (pm_si M 159 0 0) (fun r1 s1 M1 => (((r1 = 0) → Q (-99000002) s1 M1) ∧ (¬ (r1 = 0) → cI d yM_isThing [.ref 159, .long (x2.toInt64)] s1 M1 (fun r2 s2 M2 => (((r2 = 0) → Q (-99000002) s2 M2) ∧ (¬ (r2 = 0) → cI d yM_claimsOf [.ref 159, .int x1, .int x2] s2 M2 (fun r3 s3 M3 => Q r3 s3 M3)))))))) : cI (d + 1) yM_claims [.ref 159, .int x1, .int x2] s M Q := by
  refine pm_toI (by decide) (Nat.le_of_ble_eq_true rfl) ?_
  show wM_claims d 0 [.ref 159, .int x1, .int x2] [] s M Q
  refine s_aload_n (i := 0) (by decide +kernel) rfl (pn 1 rfl ?_)
  refine t_iconst (by decide +kernel) ki_0 (pn 2 rfl ?_)
  refine s_putfieldI (by decide +kernel) fr_12_1 lq_159 (congrArg Prod.fst sh_159) (fun q => by cases q) (Or.inl rfl) (pn 5 rfl ?_)
  refine s_aload_n (i := 0) (by decide +kernel) rfl (pn 6 rfl ?_)
  refine s_iload_n (i := 1) (by decide +kernel) rfl (pn 7 rfl ?_)
  refine s_i2l (by decide +kernel) (pn 8 rfl ?_)
  refine s_callvI [.long (x1.toInt64)] rfl (by decide +kernel) mv_12_231 np_219 (Nat.le_of_ble_eq_true rfl) lq_159 ((congrArg Prod.fst sh_159).trans oc_219) (cI_use h (fun r1 s1 M1 h => (pn 11 rfl ?_)))
  refine s_if_eq (off := 21) (tgt := 32) (by decide +kernel) rfl (fun c1 => ?_) (fun c1 => (pn 14 rfl ?_))
  · have h := h.1 c1
    refine s_ldc_w (by decide +kernel) kc_12_259 (pn 35 rfl ?_)
    exact s_ireturn (st := []) (by decide +kernel) (Or.inl rfl) ⟨_, rfl, s1, rfl, h⟩
  · have h := h.2 c1
    refine s_aload_n (i := 0) (by decide +kernel) rfl (pn 15 rfl ?_)
    refine s_iload_n (i := 2) (by decide +kernel) rfl (pn 16 rfl ?_)
    refine s_i2l (by decide +kernel) (pn 17 rfl ?_)
    refine s_callvI [.long (x2.toInt64)] rfl (by decide +kernel) mv_12_250 np_217 (Nat.le_of_ble_eq_true rfl) lq_159 ((congrArg Prod.fst sh_159).trans oc_217) (cI_use h (fun r2 s2 M2 h => (pn 20 rfl ?_)))
    refine s_if_eq (off := 12) (tgt := 32) (by decide +kernel) rfl (fun c2 => ?_) (fun c2 => (pn 23 rfl ?_))
    · have h := h.1 c2
      refine s_ldc_w (by decide +kernel) kc_12_259 (pn 35 rfl ?_)
      exact s_ireturn (st := []) (by decide +kernel) (Or.inl rfl) ⟨_, rfl, s2, rfl, h⟩
    · have h := h.2 c2
      refine s_aload_n (i := 0) (by decide +kernel) rfl (pn 24 rfl ?_)
      refine s_iload_n (i := 1) (by decide +kernel) rfl (pn 25 rfl ?_)
      refine s_iload_n (i := 2) (by decide +kernel) rfl (pn 26 rfl ?_)
      refine s_callvI [.int x1, .int x2] rfl (by decide +kernel) mv_12_256 np_222 (Nat.le_of_ble_eq_true rfl) lq_159 ((congrArg Prod.fst sh_159).trans oc_222) (cI_use h (fun r3 s3 M3 h => (pn 29 rfl ?_)))
      refine s_goto (off := 6) (tgt := 35) (by decide +kernel) rfl ?_
      exact s_ireturn (st := []) (by decide +kernel) (Or.inl rfl) ⟨_, rfl, s3, rfl, h⟩
abbrev wM_claimsOf (d pc : Nat) (ls st : List Value) (s : pm_S) (M : pm_M) (Q : Int32 → pm_S → pm_M → Prop) : Prop := wI d prog_14_method_43_code 12 (some .int) false pc ls st s M Q
theorem enM_claimsOf {d : Nat} {s : pm_S} {M : pm_M} {x1 : Int32} {x2 : Int32} {Q : Int32 → pm_S → pm_M → Prop}  (h : (((M.1 160 5) = 0 → vp_in ((66 : Int32) + x1) 3870 ∧ vp_in ((19 : Int32) + x2) 3870 ∧ Q ((if (M.1 160 ((66 : Int32) + x1).toNatClampNeg) = (M.1 160 ((19 : Int32) + x2).toNatClampNeg) then 1 else 0) : Int32) s M) ∧ (¬ ((M.1 160 5) = 0) → cI d yM_reckons [.ref 159, .int 0, .int x1, .int x2] s M (fun r1 s1 M1 => Q r1 s1 M1)))) : cI (d + 1) yM_claimsOf [.ref 159, .int x1, .int x2] s M Q := by
  refine pm_toI (by decide) (Nat.le_of_ble_eq_true rfl) ?_
  show wM_claimsOf d 0 [.ref 159, .int x1, .int x2] [] s M Q
  refine s_aload_n (i := 0) (by decide +kernel) rfl (pn 1 rfl ?_)
  refine s_getfield (v := .ref 160) (by decide +kernel) fr_12_13 lq_159 (congrArg Prod.fst sh_159) (fv_ref pf_159_1) (pn 4 rfl ?_)
  refine t_iconst (by decide +kernel) ki_5 (pn 5 rfl ?_)
  refine t_iaload (v := M.1 160 5) (by decide +kernel) ⟨Or.inl lq_160, congrArg Prod.fst sh_160⟩ (al_in sh_160 (vp_lit (n := 3870) tn_5 (by decide) (by decide))) (by rw [tn_5] <;> rfl) (pn 6 rfl ?_)
  refine t_if_ne (off := 32) (tgt := 38) (by decide +kernel) rfl (fun c1 => ?_) (fun c1 => (pn 9 rfl ?_))
  · have h := h.2 c1
    refine s_aload_n (i := 0) (by decide +kernel) rfl (pn 39 rfl ?_)
    refine t_iconst (by decide +kernel) ki_0 (pn 40 rfl ?_)
    refine s_iload_n (i := 1) (by decide +kernel) rfl (pn 41 rfl ?_)
    refine s_iload_n (i := 2) (by decide +kernel) rfl (pn 42 rfl ?_)
    refine s_callvI [.int 0, .int x1, .int x2] rfl (by decide +kernel) mv_12_243 np_223 (Nat.le_of_ble_eq_true rfl) lq_159 ((congrArg Prod.fst sh_159).trans oc_223) (cI_use h (fun r1 s1 M1 h => (pn 45 rfl ?_)))
    exact s_ireturn (st := []) (by decide +kernel) (Or.inl rfl) ⟨_, rfl, s1, rfl, h⟩
  · have h := h.1 c1
    refine s_aload_n (i := 0) (by decide +kernel) rfl (pn 10 rfl ?_)
    refine s_getfield (v := .ref 160) (by decide +kernel) fr_12_13 lq_159 (congrArg Prod.fst sh_159) (fv_ref pf_159_1) (pn 13 rfl ?_)
    refine t_bipush (by decide +kernel) kb_66 (pn 15 rfl ?_)
    refine s_iload_n (i := 1) (by decide +kernel) rfl (pn 16 rfl ?_)
    refine s_iadd (by decide +kernel) (pn 17 rfl ?_)
    obtain ⟨b1, h⟩ := h
    refine t_iaload (v := M.1 160 ((66 : Int32) + x1).toNatClampNeg) (by decide +kernel) ⟨Or.inl lq_160, congrArg Prod.fst sh_160⟩ (al_in sh_160 b1) rfl (pn 18 rfl ?_)
    refine s_aload_n (i := 0) (by decide +kernel) rfl (pn 19 rfl ?_)
    refine s_getfield (v := .ref 160) (by decide +kernel) fr_12_13 lq_159 (congrArg Prod.fst sh_159) (fv_ref pf_159_1) (pn 22 rfl ?_)
    refine t_bipush (by decide +kernel) kb_19 (pn 24 rfl ?_)
    refine s_iload_n (i := 2) (by decide +kernel) rfl (pn 25 rfl ?_)
    refine s_iadd (by decide +kernel) (pn 26 rfl ?_)
    obtain ⟨b2, h⟩ := h
    refine t_iaload (v := M.1 160 ((19 : Int32) + x2).toNatClampNeg) (by decide +kernel) ⟨Or.inl lq_160, congrArg Prod.fst sh_160⟩ (al_in sh_160 b2) rfl (pn 27 rfl ?_)
    have k1 : ∀ (z1 : Int32) (z1e : z1 = ((if (M.1 160 ((66 : Int32) + x1).toNatClampNeg) = (M.1 160 ((19 : Int32) + x2).toNatClampNeg) then 1 else 0) : Int32)), wM_claimsOf d 45 [.ref 159, .int x1, .int x2] [.int z1] s M Q := by
      intro z1 z1e
      subst z1e
      exact s_ireturn (st := []) (by decide +kernel) (Or.inl rfl) ⟨_, rfl, s, rfl, h⟩
    refine t_icmp_ne (off := 7) (tgt := 34) (by decide +kernel) rfl (fun c2 => ?_) (fun c2 => (pn 30 rfl ?_))
    · refine t_iconst (by decide +kernel) ki_0 (pn 35 rfl ?_)
      refine s_goto (off := 10) (tgt := 45) (by decide +kernel) rfl ?_
      exact k1 _ (by simp only [if_neg c2])
    · refine t_iconst (by decide +kernel) ki_1 (pn 31 rfl ?_)
      refine s_goto (off := 14) (tgt := 45) (by decide +kernel) rfl ?_
      exact k1 _ (by simp only [if_pos c2])
abbrev wM_reckons (d pc : Nat) (ls st : List Value) (s : pm_S) (M : pm_M) (Q : Int32 → pm_S → pm_M → Prop) : Prop := wI d prog_14_method_42_code 12 (some .int) false pc ls st s M Q
theorem enM_reckons {d : Nat} {s : pm_S} {M : pm_M} {x1 : Int32} {x2 : Int32} {x3 : Int32} {Q : Int32 → pm_S → pm_M → Prop}  (h : vp_in ((66 : Int32) + x2) 3870 ∧ vp_in ((19 : Int32) + x3) 3870 ∧ vp_in ((27 : Int32) + x3) 3870 ∧ wM_reckons d 65 [.ref 159, .int x1, .null, .null, .int 0, .int 0, .null] [] s (pm_si (pm_si (pm_si (pm_si (pm_si M 165 0 x2) 165 1 (M.1 160 ((66 : Int32) + x2).toNatClampNeg)) 165 2 x3) 165 3 (M.1 160 ((19 : Int32) + x3).toNatClampNeg)) 165 4 (M.1 160 ((27 : Int32) + x3).toNatClampNeg)) Q) : cI (d + 1) yM_reckons [.ref 159, .int x1, .int x2, .int x3] s M Q := by
  refine pm_toI (by decide) (Nat.le_of_ble_eq_true rfl) ?_
  show wM_reckons d 0 [.ref 159, .int x1, .int x2, .int x3, .null, .null, .null] [] s M Q
  refine s_aload_n (i := 0) (by decide +kernel) rfl (pn 1 rfl ?_)
  refine s_getfield (v := .ref 165) (by decide +kernel) fr_12_33 lq_159 (congrArg Prod.fst sh_159) (fv_ref pf_159_17) (pn 4 rfl ?_)
  refine t_iconst (by decide +kernel) ki_0 (pn 5 rfl ?_)
  refine s_iload_n (i := 2) (by decide +kernel) rfl (pn 6 rfl ?_)
  refine t_iastore (k := 0) (by decide +kernel) ⟨lq_165, congrArg Prod.fst sh_165⟩ (al_in sh_165 (vp_lit (n := 7) tn_0 (by decide) (by decide))) tn_0 (pn 7 rfl ?_)
  refine s_aload_n (i := 0) (by decide +kernel) rfl (pn 8 rfl ?_)
  refine s_getfield (v := .ref 165) (by decide +kernel) fr_12_33 lq_159 (congrArg Prod.fst sh_159) (fv_ref pf_159_17) (pn 11 rfl ?_)
  refine t_iconst (by decide +kernel) ki_1 (pn 12 rfl ?_)
  refine s_aload_n (i := 0) (by decide +kernel) rfl (pn 13 rfl ?_)
  refine s_getfield (v := .ref 160) (by decide +kernel) fr_12_13 lq_159 (congrArg Prod.fst sh_159) (fv_ref pf_159_1) (pn 16 rfl ?_)
  refine t_bipush (by decide +kernel) kb_66 (pn 18 rfl ?_)
  refine s_iload_n (i := 2) (by decide +kernel) rfl (pn 19 rfl ?_)
  refine s_iadd (by decide +kernel) (pn 20 rfl ?_)
  obtain ⟨b1, h⟩ := h
  refine t_iaload (v := M.1 160 ((66 : Int32) + x2).toNatClampNeg) (by decide +kernel) ⟨Or.inl lq_160, congrArg Prod.fst sh_160⟩ (al_in sh_160 b1) rfl (pn 21 rfl ?_)
  refine t_iastore (k := 1) (by decide +kernel) ⟨lq_165, congrArg Prod.fst sh_165⟩ (al_in sh_165 (vp_lit (n := 7) tn_1 (by decide) (by decide))) tn_1 (pn 22 rfl ?_)
  refine s_aload_n (i := 0) (by decide +kernel) rfl (pn 23 rfl ?_)
  refine s_getfield (v := .ref 165) (by decide +kernel) fr_12_33 lq_159 (congrArg Prod.fst sh_159) (fv_ref pf_159_17) (pn 26 rfl ?_)
  refine t_iconst (by decide +kernel) ki_2 (pn 27 rfl ?_)
  refine s_iload_n (i := 3) (by decide +kernel) rfl (pn 28 rfl ?_)
  refine t_iastore (k := 2) (by decide +kernel) ⟨lq_165, congrArg Prod.fst sh_165⟩ (al_in sh_165 (vp_lit (n := 7) tn_2 (by decide) (by decide))) tn_2 (pn 29 rfl ?_)
  refine s_aload_n (i := 0) (by decide +kernel) rfl (pn 30 rfl ?_)
  refine s_getfield (v := .ref 165) (by decide +kernel) fr_12_33 lq_159 (congrArg Prod.fst sh_159) (fv_ref pf_159_17) (pn 33 rfl ?_)
  refine t_iconst (by decide +kernel) ki_3 (pn 34 rfl ?_)
  refine s_aload_n (i := 0) (by decide +kernel) rfl (pn 35 rfl ?_)
  refine s_getfield (v := .ref 160) (by decide +kernel) fr_12_13 lq_159 (congrArg Prod.fst sh_159) (fv_ref pf_159_1) (pn 38 rfl ?_)
  refine t_bipush (by decide +kernel) kb_19 (pn 40 rfl ?_)
  refine s_iload_n (i := 3) (by decide +kernel) rfl (pn 41 rfl ?_)
  refine s_iadd (by decide +kernel) (pn 42 rfl ?_)
  obtain ⟨b2, h⟩ := h
  refine t_iaload (v := M.1 160 ((19 : Int32) + x3).toNatClampNeg) (by decide +kernel) ⟨Or.inl lq_160, congrArg Prod.fst sh_160⟩ (al_in sh_160 b2) rfl (pn 43 rfl ?_)
  refine t_iastore (k := 3) (by decide +kernel) ⟨lq_165, congrArg Prod.fst sh_165⟩ (al_in sh_165 (vp_lit (n := 7) tn_3 (by decide) (by decide))) tn_3 (pn 44 rfl ?_)
  refine s_aload_n (i := 0) (by decide +kernel) rfl (pn 45 rfl ?_)
  refine s_getfield (v := .ref 165) (by decide +kernel) fr_12_33 lq_159 (congrArg Prod.fst sh_159) (fv_ref pf_159_17) (pn 48 rfl ?_)
  refine t_iconst (by decide +kernel) ki_4 (pn 49 rfl ?_)
  refine s_aload_n (i := 0) (by decide +kernel) rfl (pn 50 rfl ?_)
  refine s_getfield (v := .ref 160) (by decide +kernel) fr_12_13 lq_159 (congrArg Prod.fst sh_159) (fv_ref pf_159_1) (pn 53 rfl ?_)
  refine t_bipush (by decide +kernel) kb_27 (pn 55 rfl ?_)
  refine s_iload_n (i := 3) (by decide +kernel) rfl (pn 56 rfl ?_)
  refine s_iadd (by decide +kernel) (pn 57 rfl ?_)
  obtain ⟨b3, h⟩ := h
  refine t_iaload (v := M.1 160 ((27 : Int32) + x3).toNatClampNeg) (by decide +kernel) ⟨Or.inl lq_160, congrArg Prod.fst sh_160⟩ (al_in sh_160 b3) rfl (pn 58 rfl ?_)
  refine t_iastore (k := 4) (by decide +kernel) ⟨lq_165, congrArg Prod.fst sh_165⟩ (al_in sh_165 (vp_lit (n := 7) tn_4 (by decide) (by decide))) tn_4 (pn 59 rfl ?_)
  refine t_iconst (by decide +kernel) ki_0 (pn 60 rfl ?_)
  refine s_istore (i := 4) (by decide +kernel) (Nat.le_of_ble_eq_true rfl) (pn 62 rfl (t_store (ls' := [.ref 159, .int x1, .int x2, .int x3, .int 0, .null, .null]) rfl ?_))
  refine t_iconst (by decide +kernel) ki_0 (pn 63 rfl ?_)
  refine s_istore (i := 5) (by decide +kernel) (Nat.le_of_ble_eq_true rfl) (pn 65 rfl (t_store (ls' := [.ref 159, .int x1, .int x2, .int x3, .int 0, .int 0, .null]) rfl ?_))
  exact pm_weak [.ref 159, .int x1, .null, .null, .int 0, .int 0, .null] (pm_le_cons (Or.inr rfl) (pm_le_cons (Or.inr rfl) (pm_le_cons (Or.inl rfl) (pm_le_cons (Or.inl rfl) (pm_le_cons (Or.inr rfl) (pm_le_cons (Or.inr rfl) (pm_le_cons (Or.inl rfl) pm_le_nil))))))) h
theorem sgM_reckons_65 {d : Nat} {s : pm_S} {M : pm_M} {l1 : Int32} {l4 : Int32} {l5 : Int32} {Q : Int32 → pm_S → pm_M → Prop}  (h : vp_in ((9 : Int32) + l1) 3870 ∧ ((((M.1 160 ((9 : Int32) + l1).toNatClampNeg) ≤ l5) → Q (M.1 164 0) s M) ∧ (¬ ((M.1 160 ((9 : Int32) + l1).toNatClampNeg) ≤ l5) → vp_in ((7 : Int32) + l1) 3870 ∧ vp_in (((390 : Int32) + (M.1 160 ((7 : Int32) + l1).toNatClampNeg)) + l5) 3870 ∧ (∀ v1 : Int32, v1 = M.1 160 (((390 : Int32) + (M.1 160 ((7 : Int32) + l1).toNatClampNeg)) + l5).toNatClampNeg → (((3000 ≤ v1) → ((v1 = 3006 → vp_in (l4 - 1) 900 ∧ vp_in (l4 - 1) 900 ∧ wM_reckons d 65 [.ref 159, .int l1, .null, .null, .int l4, .int (l5 + 1), .null] [] s (pm_si M 164 (l4 - 1).toNatClampNeg ((1 : Int32) - (M.1 164 (l4 - 1).toNatClampNeg))) Q) ∧ (¬ (v1 = 3006) → ((v1 = 3009 → vp_in ((l4 + (-2)) - 1) 900 ∧ (¬ ((M.1 164 ((l4 + (-2)) - 1).toNatClampNeg) = 1) → vp_in ((l4 + (-2)) + 1) 900) ∧ (((M.1 164 ((l4 + (-2)) - 1).toNatClampNeg) = 1) → vp_in (l4 + (-2)) 900) ∧ vp_in ((l4 + (-2)) - 1) 900 ∧ wM_reckons d 65 [.ref 159, .int l1, .null, .null, .int (l4 + (-2)), .int (l5 + 1), .null] [] s (pm_si M 164 ((l4 + (-2)) - 1).toNatClampNeg ((if (M.1 164 ((l4 + (-2)) - 1).toNatClampNeg) = 1 then (M.1 164 (l4 + (-2)).toNatClampNeg) else (M.1 164 ((l4 + (-2)) + 1).toNatClampNeg)) : Int32)) Q) ∧ (¬ (v1 = 3009) → vp_in ((l4 + (-1)) - 1) 900 ∧ vp_in (l4 + (-1)) 900 ∧ cI d yM_between [.int v1, .int (M.1 164 ((l4 + (-1)) - 1).toNatClampNeg), .int (M.1 164 (l4 + (-1)).toNatClampNeg)] s M (fun r1 s1 M1 => vp_in ((l4 + (-1)) - 1) 900 ∧ wM_reckons d 65 [.ref 159, .int l1, .null, .null, .int (l4 + (-1)), .int (l5 + 1), .null] [] s1 (pm_si M1 164 ((l4 + (-1)) - 1).toNatClampNeg r1) Q)))))) ∧ (¬ (3000 ≤ v1) → ((1000 ≤ v1) → vp_in (v1 - 1000) 7) ∧ vp_in l4 900 ∧ wM_reckons d 65 [.ref 159, .int l1, .null, .null, .int (l4 + 1), .int (l5 + 1), .null] [] s (pm_si M 164 l4.toNatClampNeg ((if 1000 ≤ v1 then (M.1 165 (v1 - 1000).toNatClampNeg) else v1) : Int32)) Q)))))) : wM_reckons d 65 [.ref 159, .int l1, .null, .null, .int l4, .int l5, .null] [] s M Q := by
  refine s_iload (i := 5) (by decide +kernel) rfl (pn 67 rfl ?_)
  refine s_aload_n (i := 0) (by decide +kernel) rfl (pn 68 rfl ?_)
  refine s_getfield (v := .ref 160) (by decide +kernel) fr_12_13 lq_159 (congrArg Prod.fst sh_159) (fv_ref pf_159_1) (pn 71 rfl ?_)
  refine t_bipush (by decide +kernel) kb_9 (pn 73 rfl ?_)
  refine s_iload_n (i := 1) (by decide +kernel) rfl (pn 74 rfl ?_)
  refine s_iadd (by decide +kernel) (pn 75 rfl ?_)
  obtain ⟨b1, h⟩ := h
  refine t_iaload (v := M.1 160 ((9 : Int32) + l1).toNatClampNeg) (by decide +kernel) ⟨Or.inl lq_160, congrArg Prod.fst sh_160⟩ (al_in sh_160 b1) rfl (pn 76 rfl ?_)
  refine s_icmp_ge (off := 196) (tgt := 272) (by decide +kernel) rfl (fun c1 => ?_) (fun c1 => (pn 79 rfl ?_))
  · have h := h.1 c1
    refine s_aload_n (i := 0) (by decide +kernel) rfl (pn 273 rfl ?_)
    refine s_getfield (v := .ref 164) (by decide +kernel) fr_12_30 lq_159 (congrArg Prod.fst sh_159) (fv_ref pf_159_16) (pn 276 rfl ?_)
    refine t_iconst (by decide +kernel) ki_0 (pn 277 rfl ?_)
    refine t_iaload (v := M.1 164 0) (by decide +kernel) ⟨Or.inl lq_164, congrArg Prod.fst sh_164⟩ (al_in sh_164 (vp_lit (n := 900) tn_0 (by decide) (by decide))) (by rw [tn_0] <;> rfl) (pn 278 rfl ?_)
    exact s_ireturn (st := []) (by decide +kernel) (Or.inl rfl) ⟨_, rfl, s, rfl, h⟩
  · have h := h.2 c1
    refine s_aload_n (i := 0) (by decide +kernel) rfl (pn 80 rfl ?_)
    refine s_getfield (v := .ref 160) (by decide +kernel) fr_12_13 lq_159 (congrArg Prod.fst sh_159) (fv_ref pf_159_1) (pn 83 rfl ?_)
    refine t_sipush (by decide +kernel) ks_390 (pn 86 rfl ?_)
    refine s_aload_n (i := 0) (by decide +kernel) rfl (pn 87 rfl ?_)
    refine s_getfield (v := .ref 160) (by decide +kernel) fr_12_13 lq_159 (congrArg Prod.fst sh_159) (fv_ref pf_159_1) (pn 90 rfl ?_)
    refine t_bipush (by decide +kernel) kb_7 (pn 92 rfl ?_)
    refine s_iload_n (i := 1) (by decide +kernel) rfl (pn 93 rfl ?_)
    refine s_iadd (by decide +kernel) (pn 94 rfl ?_)
    obtain ⟨b2, h⟩ := h
    refine t_iaload (v := M.1 160 ((7 : Int32) + l1).toNatClampNeg) (by decide +kernel) ⟨Or.inl lq_160, congrArg Prod.fst sh_160⟩ (al_in sh_160 b2) rfl (pn 95 rfl ?_)
    refine s_iadd (by decide +kernel) (pn 96 rfl ?_)
    refine s_iload (i := 5) (by decide +kernel) rfl (pn 98 rfl ?_)
    refine s_iadd (by decide +kernel) (pn 99 rfl ?_)
    obtain ⟨b3, h⟩ := h
    refine t_iaload (v := M.1 160 (((390 : Int32) + (M.1 160 ((7 : Int32) + l1).toNatClampNeg)) + l5).toNatClampNeg) (by decide +kernel) ⟨Or.inl lq_160, congrArg Prod.fst sh_160⟩ (al_in sh_160 b3) rfl (pn 100 rfl ?_)
    obtain ⟨v1, ev1⟩ : ∃ zz : Int32, zz = M.1 160 (((390 : Int32) + (M.1 160 ((7 : Int32) + l1).toNatClampNeg)) + l5).toNatClampNeg := ⟨_, rfl⟩
    have h := h v1 ev1
    rw [← ev1]
    refine s_istore (i := 6) (by decide +kernel) (Nat.le_of_ble_eq_true rfl) (pn 102 rfl (t_store (ls' := [.ref 159, .int l1, .null, .null, .int l4, .int l5, .int v1]) rfl ?_))
    refine s_iload (i := 6) (by decide +kernel) rfl (pn 104 rfl ?_)
    refine t_sipush (by decide +kernel) ks_3000 (pn 107 rfl ?_)
    refine s_icmp_ge (off := 40) (tgt := 147) (by decide +kernel) rfl (fun c2 => ?_) (fun c2 => (pn 110 rfl ?_))
    · have h := h.1 c2
      refine s_iload (i := 6) (by decide +kernel) rfl (pn 149 rfl ?_)
      refine t_sipush (by decide +kernel) ks_3006 (pn 152 rfl ?_)
      refine t_icmp_ne (off := 26) (tgt := 178) (by decide +kernel) rfl (fun c5 => ?_) (fun c5 => (pn 155 rfl ?_))
      · have h := h.2 c5
        refine s_iload (i := 6) (by decide +kernel) rfl (pn 180 rfl ?_)
        refine t_sipush (by decide +kernel) ks_3009 (pn 183 rfl ?_)
        refine t_icmp_ne (off := 50) (tgt := 233) (by decide +kernel) rfl (fun c7 => ?_) (fun c7 => (pn 186 rfl ?_))
        · have h := h.2 c7
          refine t_iinc (i := 4) (n := -1) (ls' := [.ref 159, .int l1, .null, .null, .int (l4 + (-1)), .int l5, .int v1]) (by decide +kernel) rfl (Nat.le_of_ble_eq_true rfl) kn_m1 rfl (pn 236 rfl ?_)
          refine s_aload_n (i := 0) (by decide +kernel) rfl (pn 237 rfl ?_)
          refine s_getfield (v := .ref 164) (by decide +kernel) fr_12_30 lq_159 (congrArg Prod.fst sh_159) (fv_ref pf_159_16) (pn 240 rfl ?_)
          refine s_iload (i := 4) (by decide +kernel) rfl (pn 242 rfl ?_)
          refine t_iconst (by decide +kernel) ki_1 (pn 243 rfl ?_)
          refine s_isub (by decide +kernel) (pn 244 rfl ?_)
          refine s_iload (i := 6) (by decide +kernel) rfl (pn 246 rfl ?_)
          refine s_aload_n (i := 0) (by decide +kernel) rfl (pn 247 rfl ?_)
          refine s_getfield (v := .ref 164) (by decide +kernel) fr_12_30 lq_159 (congrArg Prod.fst sh_159) (fv_ref pf_159_16) (pn 250 rfl ?_)
          refine s_iload (i := 4) (by decide +kernel) rfl (pn 252 rfl ?_)
          refine t_iconst (by decide +kernel) ki_1 (pn 253 rfl ?_)
          refine s_isub (by decide +kernel) (pn 254 rfl ?_)
          obtain ⟨b4, h⟩ := h
          refine t_iaload (v := M.1 164 ((l4 + (-1)) - 1).toNatClampNeg) (by decide +kernel) ⟨Or.inl lq_164, congrArg Prod.fst sh_164⟩ (al_in sh_164 b4) rfl (pn 255 rfl ?_)
          refine s_aload_n (i := 0) (by decide +kernel) rfl (pn 256 rfl ?_)
          refine s_getfield (v := .ref 164) (by decide +kernel) fr_12_30 lq_159 (congrArg Prod.fst sh_159) (fv_ref pf_159_16) (pn 259 rfl ?_)
          refine s_iload (i := 4) (by decide +kernel) rfl (pn 261 rfl ?_)
          obtain ⟨b5, h⟩ := h
          refine t_iaload (v := M.1 164 (l4 + (-1)).toNatClampNeg) (by decide +kernel) ⟨Or.inl lq_164, congrArg Prod.fst sh_164⟩ (al_in sh_164 b5) rfl (pn 262 rfl ?_)
          refine s_callsI [.int v1, .int (M.1 164 ((l4 + (-1)) - 1).toNatClampNeg), .int (M.1 164 (l4 + (-1)).toNatClampNeg)] rfl (by decide +kernel) ms_12_239 np_224 (Nat.le_of_ble_eq_true rfl) (cI_use h (fun r1 s1 M1 h => (pn 265 rfl ?_)))
          obtain ⟨b6, h⟩ := h
          refine t_iastore (k := ((l4 + (-1)) - 1).toNatClampNeg) (by decide +kernel) ⟨lq_164, congrArg Prod.fst sh_164⟩ (al_in sh_164 b6) rfl (pn 266 rfl ?_)
          refine t_iinc (i := 5) (n := 1) (ls' := [.ref 159, .int l1, .null, .null, .int (l4 + (-1)), .int (l5 + 1), .int v1]) (by decide +kernel) rfl (Nat.le_of_ble_eq_true rfl) kn_1 rfl (pn 269 rfl ?_)
          refine s_goto (off := -204) (tgt := 65) (by decide +kernel) rfl ?_
          exact pm_weak [.ref 159, .int l1, .null, .null, .int (l4 + (-1)), .int (l5 + 1), .null] (pm_le_cons (Or.inr rfl) (pm_le_cons (Or.inr rfl) (pm_le_cons (Or.inl rfl) (pm_le_cons (Or.inl rfl) (pm_le_cons (Or.inr rfl) (pm_le_cons (Or.inr rfl) (pm_le_cons (Or.inl rfl) pm_le_nil))))))) h
        · have h := h.1 c7
          refine t_iinc (i := 4) (n := -2) (ls' := [.ref 159, .int l1, .null, .null, .int (l4 + (-2)), .int l5, .int v1]) (by decide +kernel) rfl (Nat.le_of_ble_eq_true rfl) kn_m2 rfl (pn 189 rfl ?_)
          refine s_aload_n (i := 0) (by decide +kernel) rfl (pn 190 rfl ?_)
          refine s_getfield (v := .ref 164) (by decide +kernel) fr_12_30 lq_159 (congrArg Prod.fst sh_159) (fv_ref pf_159_16) (pn 193 rfl ?_)
          refine s_iload (i := 4) (by decide +kernel) rfl (pn 195 rfl ?_)
          refine t_iconst (by decide +kernel) ki_1 (pn 196 rfl ?_)
          refine s_isub (by decide +kernel) (pn 197 rfl ?_)
          refine s_aload_n (i := 0) (by decide +kernel) rfl (pn 198 rfl ?_)
          refine s_getfield (v := .ref 164) (by decide +kernel) fr_12_30 lq_159 (congrArg Prod.fst sh_159) (fv_ref pf_159_16) (pn 201 rfl ?_)
          refine s_iload (i := 4) (by decide +kernel) rfl (pn 203 rfl ?_)
          refine t_iconst (by decide +kernel) ki_1 (pn 204 rfl ?_)
          refine s_isub (by decide +kernel) (pn 205 rfl ?_)
          obtain ⟨b7, h⟩ := h
          refine t_iaload (v := M.1 164 ((l4 + (-2)) - 1).toNatClampNeg) (by decide +kernel) ⟨Or.inl lq_164, congrArg Prod.fst sh_164⟩ (al_in sh_164 b7) rfl (pn 206 rfl ?_)
          refine t_iconst (by decide +kernel) ki_1 (pn 207 rfl ?_)
          obtain ⟨b8, h⟩ := h
          obtain ⟨b9, h⟩ := h
          have k1 : ∀ (z1 : Int32) (z1e : z1 = ((if (M.1 164 ((l4 + (-2)) - 1).toNatClampNeg) = 1 then (M.1 164 (l4 + (-2)).toNatClampNeg) else (M.1 164 ((l4 + (-2)) + 1).toNatClampNeg)) : Int32)), wM_reckons d 229 [.ref 159, .int l1, .null, .null, .int (l4 + (-2)), .int l5, .int v1] [.int z1, .int ((l4 + (-2)) - 1), .ref 164] s M Q := by
            intro z1 z1e
            subst z1e
            obtain ⟨b10, h⟩ := h
            refine t_iastore (k := ((l4 + (-2)) - 1).toNatClampNeg) (by decide +kernel) ⟨lq_164, congrArg Prod.fst sh_164⟩ (al_in sh_164 b10) rfl (pn 230 rfl ?_)
            refine s_goto (off := 36) (tgt := 266) (by decide +kernel) rfl ?_
            refine t_iinc (i := 5) (n := 1) (ls' := [.ref 159, .int l1, .null, .null, .int (l4 + (-2)), .int (l5 + 1), .int v1]) (by decide +kernel) rfl (Nat.le_of_ble_eq_true rfl) kn_1 rfl (pn 269 rfl ?_)
            refine s_goto (off := -204) (tgt := 65) (by decide +kernel) rfl ?_
            exact pm_weak [.ref 159, .int l1, .null, .null, .int (l4 + (-2)), .int (l5 + 1), .null] (pm_le_cons (Or.inr rfl) (pm_le_cons (Or.inr rfl) (pm_le_cons (Or.inl rfl) (pm_le_cons (Or.inl rfl) (pm_le_cons (Or.inr rfl) (pm_le_cons (Or.inr rfl) (pm_le_cons (Or.inl rfl) pm_le_nil))))))) h
          refine t_icmp_ne (off := 13) (tgt := 220) (by decide +kernel) rfl (fun c8 => ?_) (fun c8 => (pn 210 rfl ?_))
          · refine s_aload_n (i := 0) (by decide +kernel) rfl (pn 221 rfl ?_)
            refine s_getfield (v := .ref 164) (by decide +kernel) fr_12_30 lq_159 (congrArg Prod.fst sh_159) (fv_ref pf_159_16) (pn 224 rfl ?_)
            refine s_iload (i := 4) (by decide +kernel) rfl (pn 226 rfl ?_)
            refine t_iconst (by decide +kernel) ki_1 (pn 227 rfl ?_)
            refine s_iadd (by decide +kernel) (pn 228 rfl ?_)
            refine t_iaload (v := M.1 164 ((l4 + (-2)) + 1).toNatClampNeg) (by decide +kernel) ⟨Or.inl lq_164, congrArg Prod.fst sh_164⟩ (al_in sh_164 (b8 c8)) rfl (pn 229 rfl ?_)
            exact k1 _ (by simp only [if_neg c8])
          · refine s_aload_n (i := 0) (by decide +kernel) rfl (pn 211 rfl ?_)
            refine s_getfield (v := .ref 164) (by decide +kernel) fr_12_30 lq_159 (congrArg Prod.fst sh_159) (fv_ref pf_159_16) (pn 214 rfl ?_)
            refine s_iload (i := 4) (by decide +kernel) rfl (pn 216 rfl ?_)
            refine t_iaload (v := M.1 164 (l4 + (-2)).toNatClampNeg) (by decide +kernel) ⟨Or.inl lq_164, congrArg Prod.fst sh_164⟩ (al_in sh_164 (b9 c8)) rfl (pn 217 rfl ?_)
            refine s_goto (off := 12) (tgt := 229) (by decide +kernel) rfl ?_
            exact k1 _ (by simp only [if_pos c8])
      · have h := h.1 c5
        refine s_aload_n (i := 0) (by decide +kernel) rfl (pn 156 rfl ?_)
        refine s_getfield (v := .ref 164) (by decide +kernel) fr_12_30 lq_159 (congrArg Prod.fst sh_159) (fv_ref pf_159_16) (pn 159 rfl ?_)
        refine s_iload (i := 4) (by decide +kernel) rfl (pn 161 rfl ?_)
        refine t_iconst (by decide +kernel) ki_1 (pn 162 rfl ?_)
        refine s_isub (by decide +kernel) (pn 163 rfl ?_)
        refine t_iconst (by decide +kernel) ki_1 (pn 164 rfl ?_)
        refine s_aload_n (i := 0) (by decide +kernel) rfl (pn 165 rfl ?_)
        refine s_getfield (v := .ref 164) (by decide +kernel) fr_12_30 lq_159 (congrArg Prod.fst sh_159) (fv_ref pf_159_16) (pn 168 rfl ?_)
        refine s_iload (i := 4) (by decide +kernel) rfl (pn 170 rfl ?_)
        refine t_iconst (by decide +kernel) ki_1 (pn 171 rfl ?_)
        refine s_isub (by decide +kernel) (pn 172 rfl ?_)
        obtain ⟨b11, h⟩ := h
        refine t_iaload (v := M.1 164 (l4 - 1).toNatClampNeg) (by decide +kernel) ⟨Or.inl lq_164, congrArg Prod.fst sh_164⟩ (al_in sh_164 b11) rfl (pn 173 rfl ?_)
        refine s_isub (by decide +kernel) (pn 174 rfl ?_)
        obtain ⟨b12, h⟩ := h
        refine t_iastore (k := (l4 - 1).toNatClampNeg) (by decide +kernel) ⟨lq_164, congrArg Prod.fst sh_164⟩ (al_in sh_164 b12) rfl (pn 175 rfl ?_)
        refine s_goto (off := 91) (tgt := 266) (by decide +kernel) rfl ?_
        refine t_iinc (i := 5) (n := 1) (ls' := [.ref 159, .int l1, .null, .null, .int l4, .int (l5 + 1), .int v1]) (by decide +kernel) rfl (Nat.le_of_ble_eq_true rfl) kn_1 rfl (pn 269 rfl ?_)
        refine s_goto (off := -204) (tgt := 65) (by decide +kernel) rfl ?_
        exact pm_weak [.ref 159, .int l1, .null, .null, .int l4, .int (l5 + 1), .null] (pm_le_cons (Or.inr rfl) (pm_le_cons (Or.inr rfl) (pm_le_cons (Or.inl rfl) (pm_le_cons (Or.inl rfl) (pm_le_cons (Or.inr rfl) (pm_le_cons (Or.inr rfl) (pm_le_cons (Or.inl rfl) pm_le_nil))))))) h
    · have h := h.2 c2
      refine s_aload_n (i := 0) (by decide +kernel) rfl (pn 111 rfl ?_)
      refine s_getfield (v := .ref 164) (by decide +kernel) fr_12_30 lq_159 (congrArg Prod.fst sh_159) (fv_ref pf_159_16) (pn 114 rfl ?_)
      refine s_iload (i := 4) (by decide +kernel) rfl (pn 116 rfl ?_)
      refine s_iload (i := 6) (by decide +kernel) rfl (pn 118 rfl ?_)
      refine t_sipush (by decide +kernel) ks_1000 (pn 121 rfl ?_)
      obtain ⟨b13, h⟩ := h
      have k2 : ∀ (z2 : Int32) (z2e : z2 = ((if 1000 ≤ v1 then (M.1 165 (v1 - 1000).toNatClampNeg) else v1) : Int32)), wM_reckons d 140 [.ref 159, .int l1, .null, .null, .int l4, .int l5, .int v1] [.int z2, .int l4, .ref 164] s M Q := by
        intro z2 z2e
        subst z2e
        obtain ⟨b14, h⟩ := h
        refine t_iastore (k := l4.toNatClampNeg) (by decide +kernel) ⟨lq_164, congrArg Prod.fst sh_164⟩ (al_in sh_164 b14) rfl (pn 141 rfl ?_)
        refine t_iinc (i := 4) (n := 1) (ls' := [.ref 159, .int l1, .null, .null, .int (l4 + 1), .int l5, .int v1]) (by decide +kernel) rfl (Nat.le_of_ble_eq_true rfl) kn_1 rfl (pn 144 rfl ?_)
        refine s_goto (off := 122) (tgt := 266) (by decide +kernel) rfl ?_
        refine t_iinc (i := 5) (n := 1) (ls' := [.ref 159, .int l1, .null, .null, .int (l4 + 1), .int (l5 + 1), .int v1]) (by decide +kernel) rfl (Nat.le_of_ble_eq_true rfl) kn_1 rfl (pn 269 rfl ?_)
        refine s_goto (off := -204) (tgt := 65) (by decide +kernel) rfl ?_
        exact pm_weak [.ref 159, .int l1, .null, .null, .int (l4 + 1), .int (l5 + 1), .null] (pm_le_cons (Or.inr rfl) (pm_le_cons (Or.inr rfl) (pm_le_cons (Or.inl rfl) (pm_le_cons (Or.inl rfl) (pm_le_cons (Or.inr rfl) (pm_le_cons (Or.inr rfl) (pm_le_cons (Or.inl rfl) pm_le_nil))))))) h
      refine s_icmp_ge (off := 8) (tgt := 129) (by decide +kernel) rfl (fun c9 => ?_) (fun c9 => (pn 124 rfl ?_))
      · refine s_aload_n (i := 0) (by decide +kernel) rfl (pn 130 rfl ?_)
        refine s_getfield (v := .ref 165) (by decide +kernel) fr_12_33 lq_159 (congrArg Prod.fst sh_159) (fv_ref pf_159_17) (pn 133 rfl ?_)
        refine s_iload (i := 6) (by decide +kernel) rfl (pn 135 rfl ?_)
        refine t_sipush (by decide +kernel) ks_1000 (pn 138 rfl ?_)
        refine s_isub (by decide +kernel) (pn 139 rfl ?_)
        refine t_iaload (v := M.1 165 (v1 - 1000).toNatClampNeg) (by decide +kernel) ⟨Or.inl lq_165, congrArg Prod.fst sh_165⟩ (al_in sh_165 (b13 c9)) rfl (pn 140 rfl ?_)
        exact k2 _ (by simp only [if_pos c9])
      · refine s_iload (i := 6) (by decide +kernel) rfl (pn 126 rfl ?_)
        refine s_goto (off := 14) (tgt := 140) (by decide +kernel) rfl ?_
        exact k2 _ (by simp only [if_neg c9])
abbrev wM_between (d pc : Nat) (ls st : List Value) (s : pm_S) (M : pm_M) (Q : Int32 → pm_S → pm_M → Prop) : Prop := wI d prog_14_method_41_code 12 (some .int) false pc ls st s M Q
theorem enM_between {d : Nat} {s : pm_S} {M : pm_M} {x1 : Int32} {x2 : Int32} {x3 : Int32} {Q : Int32 → pm_S → pm_M → Prop}  (h : ((x1 = 3003 → Q ((if x2 = x3 then 1 else 0) : Int32) s M) ∧ (¬ x1 = 3003 → ((x1 = 3004 → Q ((if x3 ≤ x2 then 0 else 1) : Int32) s M) ∧ (¬ x1 = 3004 → ((x1 = 3005 → Q ((if x2 ≤ x3 then 0 else 1) : Int32) s M) ∧ (¬ x1 = 3005 → ((x1 = 3007 → Q (x2 &&& x3) s M) ∧ (¬ x1 = 3007 → ((x1 = 3008 → Q (x2 ||| x3) s M) ∧ (¬ x1 = 3008 → (∀ v1 : Int64, v1 = ((if x1 = 3000 then ((x2.toInt64) + (x3.toInt64)) else (if x1 = 3001 then ((x2.toInt64) - (x3.toInt64)) else ((x2.toInt64) * (x3.toInt64)))) : Int64) → Q (((if v1 ≤ 1000000 then (if (-1000000) ≤ v1 then v1 else (-1000000)) else 1000000) : Int64).toInt32) s M)))))))))))) : cI (d + 1) yM_between [.int x1, .int x2, .int x3] s M Q := by
  refine pm_toI (by decide) (Nat.le_of_ble_eq_true rfl) ?_
  show wM_between d 0 [.int x1, .int x2, .int x3, .null, .null] [] s M Q
  refine s_iload_n (i := 0) (by decide +kernel) rfl (pn 1 rfl ?_)
  by_cases c1 : x1 = 3003
  · refine s_tableswitch (dflt := 80) (lo := 3003) (hi := 3008) (offs := #[39, 50, 61, 80, 72, 76]) (len := 39) (tgt := 40) (by decide +kernel) (by rw [c1]; decide) (by rw [c1]; decide) ?_
    have h := h.1 c1
    refine s_iload_n (i := 1) (by decide +kernel) rfl (pn 41 rfl ?_)
    refine s_iload_n (i := 2) (by decide +kernel) rfl (pn 42 rfl ?_)
    have k1 : ∀ (z1 : Int32) (z1e : z1 = ((if x2 = x3 then 1 else 0) : Int32)), wM_between d 50 [.int x1, .int x2, .int x3, .null, .null] [.int z1] s M Q := by
      intro z1 z1e
      subst z1e
      exact s_ireturn (st := []) (by decide +kernel) (Or.inl rfl) ⟨_, rfl, s, rfl, h⟩
    refine t_icmp_ne (off := 7) (tgt := 49) (by decide +kernel) rfl (fun c2 => ?_) (fun c2 => (pn 45 rfl ?_))
    · refine t_iconst (by decide +kernel) ki_0 (pn 50 rfl ?_)
      exact k1 _ (by simp only [if_neg c2])
    · refine t_iconst (by decide +kernel) ki_1 (pn 46 rfl ?_)
      refine s_goto (off := 4) (tgt := 50) (by decide +kernel) rfl ?_
      exact k1 _ (by simp only [if_pos c2])
  have h := h.2 c1
  by_cases c3 : x1 = 3004
  · refine s_tableswitch (dflt := 80) (lo := 3003) (hi := 3008) (offs := #[39, 50, 61, 80, 72, 76]) (len := 39) (tgt := 51) (by decide +kernel) (by rw [c3]; decide) (by rw [c3]; decide) ?_
    have h := h.1 c3
    refine s_iload_n (i := 1) (by decide +kernel) rfl (pn 52 rfl ?_)
    refine s_iload_n (i := 2) (by decide +kernel) rfl (pn 53 rfl ?_)
    have k2 : ∀ (z2 : Int32) (z2e : z2 = ((if x3 ≤ x2 then 0 else 1) : Int32)), wM_between d 61 [.int x1, .int x2, .int x3, .null, .null] [.int z2] s M Q := by
      intro z2 z2e
      subst z2e
      exact s_ireturn (st := []) (by decide +kernel) (Or.inl rfl) ⟨_, rfl, s, rfl, h⟩
    refine s_icmp_ge (off := 7) (tgt := 60) (by decide +kernel) rfl (fun c4 => ?_) (fun c4 => (pn 56 rfl ?_))
    · refine t_iconst (by decide +kernel) ki_0 (pn 61 rfl ?_)
      exact k2 _ (by simp only [if_pos c4])
    · refine t_iconst (by decide +kernel) ki_1 (pn 57 rfl ?_)
      refine s_goto (off := 4) (tgt := 61) (by decide +kernel) rfl ?_
      exact k2 _ (by simp only [if_neg c4])
  have h := h.2 c3
  by_cases c5 : x1 = 3005
  · refine s_tableswitch (dflt := 80) (lo := 3003) (hi := 3008) (offs := #[39, 50, 61, 80, 72, 76]) (len := 39) (tgt := 62) (by decide +kernel) (by rw [c5]; decide) (by rw [c5]; decide) ?_
    have h := h.1 c5
    refine s_iload_n (i := 1) (by decide +kernel) rfl (pn 63 rfl ?_)
    refine s_iload_n (i := 2) (by decide +kernel) rfl (pn 64 rfl ?_)
    have k3 : ∀ (z3 : Int32) (z3e : z3 = ((if x2 ≤ x3 then 0 else 1) : Int32)), wM_between d 72 [.int x1, .int x2, .int x3, .null, .null] [.int z3] s M Q := by
      intro z3 z3e
      subst z3e
      exact s_ireturn (st := []) (by decide +kernel) (Or.inl rfl) ⟨_, rfl, s, rfl, h⟩
    refine s_icmp_le (off := 7) (tgt := 71) (by decide +kernel) rfl (fun c6 => ?_) (fun c6 => (pn 67 rfl ?_))
    · refine t_iconst (by decide +kernel) ki_0 (pn 72 rfl ?_)
      exact k3 _ (by simp only [if_pos c6])
    · refine t_iconst (by decide +kernel) ki_1 (pn 68 rfl ?_)
      refine s_goto (off := 4) (tgt := 72) (by decide +kernel) rfl ?_
      exact k3 _ (by simp only [if_neg c6])
  have h := h.2 c5
  by_cases c7 : x1 = 3007
  · refine s_tableswitch (dflt := 80) (lo := 3003) (hi := 3008) (offs := #[39, 50, 61, 80, 72, 76]) (len := 39) (tgt := 73) (by decide +kernel) (by rw [c7]; decide) (by rw [c7]; decide) ?_
    have h := h.1 c7
    refine s_iload_n (i := 1) (by decide +kernel) rfl (pn 74 rfl ?_)
    refine s_iload_n (i := 2) (by decide +kernel) rfl (pn 75 rfl ?_)
    refine s_iand (by decide +kernel) (pn 76 rfl ?_)
    exact s_ireturn (st := []) (by decide +kernel) (Or.inl rfl) ⟨_, rfl, s, rfl, h⟩
  have h := h.2 c7
  by_cases c8 : x1 = 3008
  · refine s_tableswitch (dflt := 80) (lo := 3003) (hi := 3008) (offs := #[39, 50, 61, 80, 72, 76]) (len := 39) (tgt := 77) (by decide +kernel) (by rw [c8]; decide) (by rw [c8]; decide) ?_
    have h := h.1 c8
    refine s_iload_n (i := 1) (by decide +kernel) rfl (pn 78 rfl ?_)
    refine s_iload_n (i := 2) (by decide +kernel) rfl (pn 79 rfl ?_)
    refine s_ior (by decide +kernel) (pn 80 rfl ?_)
    exact s_ireturn (st := []) (by decide +kernel) (Or.inl rfl) ⟨_, rfl, s, rfl, h⟩
  have h := h.2 c8
  have k6 : wM_between d 81 [.int x1, .int x2, .int x3, .null, .null] [] s M Q := by
    refine s_iload_n (i := 0) (by decide +kernel) rfl (pn 82 rfl ?_)
    refine t_sipush (by decide +kernel) ks_3000 (pn 85 rfl ?_)
    have k4 : ∀ (z4 : Int64) (z4e : z4 = ((if x1 = 3000 then ((x2.toInt64) + (x3.toInt64)) else (if x1 = 3001 then ((x2.toInt64) - (x3.toInt64)) else ((x2.toInt64) * (x3.toInt64)))) : Int64)), wM_between d 116 [.int x1, .int x2, .int x3, .null, .null] [.long z4] s M Q := by
      intro z4 z4e
      subst z4e
      obtain ⟨v1, ev1⟩ : ∃ zz : Int64, zz = ((if x1 = 3000 then ((x2.toInt64) + (x3.toInt64)) else (if x1 = 3001 then ((x2.toInt64) - (x3.toInt64)) else ((x2.toInt64) * (x3.toInt64)))) : Int64) := ⟨_, rfl⟩
      have h := h v1 ev1
      rw [← ev1]
      refine s_lstore_n (i := 3) (by decide +kernel) (Nat.le_of_ble_eq_true rfl) (pn 117 rfl (t_store (ls' := [.int x1, .int x2, .int x3, .long v1, .null]) rfl ?_))
      refine s_lload_n (i := 3) (by decide +kernel) rfl (pn 118 rfl ?_)
      refine s_ldc2_w (by decide +kernel) kl_12_235 (pn 121 rfl ?_)
      have k5 : ∀ (z5 : Int64) (z5e : z5 = ((if v1 ≤ 1000000 then (if (-1000000) ≤ v1 then v1 else (-1000000)) else 1000000) : Int64)), wM_between d 146 [.int x1, .int x2, .int x3, .long v1, .null] [.long z5] s M Q := by
        intro z5 z5e
        subst z5e
        refine s_l2i (by decide +kernel) (pn 147 rfl ?_)
        exact s_ireturn (st := []) (by decide +kernel) (Or.inl rfl) ⟨_, rfl, s, rfl, h⟩
      refine t_lc_le (off := 9) (tgt := 131) (by decide +kernel) (by decide +kernel) rfl (fun c11 => ?_) (fun c11 => (pn 125 rfl ?_))
      · refine s_lload_n (i := 3) (by decide +kernel) rfl (pn 132 rfl ?_)
        refine s_ldc2_w (by decide +kernel) kl_12_237 (pn 135 rfl ?_)
        refine t_lc_ge (off := 9) (tgt := 145) (by decide +kernel) (by decide +kernel) rfl (fun c12 => ?_) (fun c12 => (pn 139 rfl ?_))
        · refine s_lload_n (i := 3) (by decide +kernel) rfl (pn 146 rfl ?_)
          exact k5 _ (by simp only [if_pos c11, if_pos c12])
        · refine s_ldc2_w (by decide +kernel) kl_12_237 (pn 142 rfl ?_)
          refine s_goto (off := 4) (tgt := 146) (by decide +kernel) rfl ?_
          exact k5 _ (by simp only [if_pos c11, if_neg c12])
      · refine s_ldc2_w (by decide +kernel) kl_12_235 (pn 128 rfl ?_)
        refine s_goto (off := 18) (tgt := 146) (by decide +kernel) rfl ?_
        exact k5 _ (by simp only [if_neg c11])
    refine t_icmp_ne (off := 11) (tgt := 96) (by decide +kernel) rfl (fun c9 => ?_) (fun c9 => (pn 88 rfl ?_))
    · refine s_iload_n (i := 0) (by decide +kernel) rfl (pn 97 rfl ?_)
      refine t_sipush (by decide +kernel) ks_3001 (pn 100 rfl ?_)
      refine t_icmp_ne (off := 11) (tgt := 111) (by decide +kernel) rfl (fun c10 => ?_) (fun c10 => (pn 103 rfl ?_))
      · refine s_iload_n (i := 1) (by decide +kernel) rfl (pn 112 rfl ?_)
        refine s_i2l (by decide +kernel) (pn 113 rfl ?_)
        refine s_iload_n (i := 2) (by decide +kernel) rfl (pn 114 rfl ?_)
        refine s_i2l (by decide +kernel) (pn 115 rfl ?_)
        refine s_lmul (by decide +kernel) (pn 116 rfl ?_)
        exact k4 _ (by simp only [if_neg c9, if_neg c10])
      · refine s_iload_n (i := 1) (by decide +kernel) rfl (pn 104 rfl ?_)
        refine s_i2l (by decide +kernel) (pn 105 rfl ?_)
        refine s_iload_n (i := 2) (by decide +kernel) rfl (pn 106 rfl ?_)
        refine s_i2l (by decide +kernel) (pn 107 rfl ?_)
        refine s_lsub (by decide +kernel) (pn 108 rfl ?_)
        refine s_goto (off := 8) (tgt := 116) (by decide +kernel) rfl ?_
        exact k4 _ (by simp only [if_neg c9, if_pos c10])
    · refine s_iload_n (i := 1) (by decide +kernel) rfl (pn 89 rfl ?_)
      refine s_i2l (by decide +kernel) (pn 90 rfl ?_)
      refine s_iload_n (i := 2) (by decide +kernel) rfl (pn 91 rfl ?_)
      refine s_i2l (by decide +kernel) (pn 92 rfl ?_)
      refine s_ladd (by decide +kernel) (pn 93 rfl ?_)
      refine s_goto (off := 23) (tgt := 116) (by decide +kernel) rfl ?_
      exact k4 _ (by simp only [if_pos c9])
  by_cases q0 : x1.toInt < 3003 ∨ 3008 < x1.toInt
  · exact t_tabledef (dflt := 80) (lo := 3003) (hi := 3008) (offs := #[39, 50, 61, 80, 72, 76]) (len := 39) (tgt := 81) (by decide +kernel) rfl q0 k6
  · rcases (show x1.toInt = 3003 ∨ x1.toInt = 3004 ∨ x1.toInt = 3005 ∨ x1.toInt = 3006 ∨ x1.toInt = 3007 ∨ x1.toInt = 3008 by omega) with q1 | q1 | q1 | q1 | q1 | q1
    · exact absurd (Int32.toInt_inj.mp (q1.trans (by decide))) c1
    · exact absurd (Int32.toInt_inj.mp (q1.trans (by decide))) c3
    · exact absurd (Int32.toInt_inj.mp (q1.trans (by decide))) c5
    · exact t_tablehole (dflt := 80) (lo := 3003) (hi := 3008) (offs := #[39, 50, 61, 80, 72, 76]) (len := 39) (tgt := 81) (by decide +kernel) q1 (by decide) (by decide) k6
    · exact absurd (Int32.toInt_inj.mp (q1.trans (by decide))) c7
    · exact absurd (Int32.toInt_inj.mp (q1.trans (by decide))) c8
abbrev wM_burden (d pc : Nat) (ls st : List Value) (s : pm_S) (M : pm_M) (Q : Int32 → pm_S → pm_M → Prop) : Prop := wI d prog_14_method_49_code 12 (some .int) false pc ls st s M Q
theorem enM_burden {d : Nat} {s : pm_S} {M : pm_M} {x1 : Int32} {x2 : Int32} {Q : Int32 → pm_S → pm_M → Prop}  (h : cI d yM_isPerson [.ref 159, .long (x1.toInt64)] s (pm_si M 159 0 0) (fun r1 s1 M1 => (((r1 = 0) → Q (-2) s1 M1) ∧ (¬ (r1 = 0) → cI d yM_isThing [.ref 159, .long (x2.toInt64)] s1 M1 (fun r2 s2 M2 => (((r2 = 0) → Q (-2) s2 M2) ∧ (¬ (r2 = 0) → cI d yM_burdenNow [.ref 159, .int x1, .int x2] s2 M2 (fun r3 s3 M3 => Q r3 s3 M3)))))))) : cI (d + 1) yM_burden [.ref 159, .int x1, .int x2] s M Q := by
  refine pm_toI (by decide) (Nat.le_of_ble_eq_true rfl) ?_
  show wM_burden d 0 [.ref 159, .int x1, .int x2] [] s M Q
  refine s_aload_n (i := 0) (by decide +kernel) rfl (pn 1 rfl ?_)
  refine t_iconst (by decide +kernel) ki_0 (pn 2 rfl ?_)
  refine s_putfieldI (by decide +kernel) fr_12_1 lq_159 (congrArg Prod.fst sh_159) (fun q => by cases q) (Or.inl rfl) (pn 5 rfl ?_)
  refine s_aload_n (i := 0) (by decide +kernel) rfl (pn 6 rfl ?_)
  refine s_iload_n (i := 1) (by decide +kernel) rfl (pn 7 rfl ?_)
  refine s_i2l (by decide +kernel) (pn 8 rfl ?_)
  refine s_callvI [.long (x1.toInt64)] rfl (by decide +kernel) mv_12_231 np_219 (Nat.le_of_ble_eq_true rfl) lq_159 ((congrArg Prod.fst sh_159).trans oc_219) (cI_use h (fun r1 s1 M1 h => (pn 11 rfl ?_)))
  refine s_if_eq (off := 21) (tgt := 32) (by decide +kernel) rfl (fun c1 => ?_) (fun c1 => (pn 14 rfl ?_))
  · have h := h.1 c1
    refine t_bipush (by decide +kernel) kb_m2 (pn 34 rfl ?_)
    exact s_ireturn (st := []) (by decide +kernel) (Or.inl rfl) ⟨_, rfl, s1, rfl, h⟩
  · have h := h.2 c1
    refine s_aload_n (i := 0) (by decide +kernel) rfl (pn 15 rfl ?_)
    refine s_iload_n (i := 2) (by decide +kernel) rfl (pn 16 rfl ?_)
    refine s_i2l (by decide +kernel) (pn 17 rfl ?_)
    refine s_callvI [.long (x2.toInt64)] rfl (by decide +kernel) mv_12_250 np_217 (Nat.le_of_ble_eq_true rfl) lq_159 ((congrArg Prod.fst sh_159).trans oc_217) (cI_use h (fun r2 s2 M2 h => (pn 20 rfl ?_)))
    refine s_if_eq (off := 12) (tgt := 32) (by decide +kernel) rfl (fun c2 => ?_) (fun c2 => (pn 23 rfl ?_))
    · have h := h.1 c2
      refine t_bipush (by decide +kernel) kb_m2 (pn 34 rfl ?_)
      exact s_ireturn (st := []) (by decide +kernel) (Or.inl rfl) ⟨_, rfl, s2, rfl, h⟩
    · have h := h.2 c2
      refine s_aload_n (i := 0) (by decide +kernel) rfl (pn 24 rfl ?_)
      refine s_iload_n (i := 1) (by decide +kernel) rfl (pn 25 rfl ?_)
      refine s_iload_n (i := 2) (by decide +kernel) rfl (pn 26 rfl ?_)
      refine s_callvI [.int x1, .int x2] rfl (by decide +kernel) mv_12_260 np_226 (Nat.le_of_ble_eq_true rfl) lq_159 ((congrArg Prod.fst sh_159).trans oc_226) (cI_use h (fun r3 s3 M3 h => (pn 29 rfl ?_)))
      refine s_goto (off := 5) (tgt := 34) (by decide +kernel) rfl ?_
      exact s_ireturn (st := []) (by decide +kernel) (Or.inl rfl) ⟨_, rfl, s3, rfl, h⟩
abbrev wM_burdenNow (d pc : Nat) (ls st : List Value) (s : pm_S) (M : pm_M) (Q : Int32 → pm_S → pm_M → Prop) : Prop := wI d prog_14_method_45_code 12 (some .int) false pc ls st s M Q
theorem enM_burdenNow {d : Nat} {s : pm_S} {M : pm_M} {x1 : Int32} {x2 : Int32} {Q : Int32 → pm_S → pm_M → Prop}  (h : vp_in ((72 : Int32) + x1) 3870 ∧ cI d yM_burdenOf [.ref 159, .int x1, .int x2, .int (M.1 160 47), .int (M.1 160 ((72 : Int32) + x1).toNatClampNeg)] s M (fun r1 s1 M1 => Q r1 s1 M1)) : cI (d + 1) yM_burdenNow [.ref 159, .int x1, .int x2] s M Q := by
  refine pm_toI (by decide) (Nat.le_of_ble_eq_true rfl) ?_
  show wM_burdenNow d 0 [.ref 159, .int x1, .int x2] [] s M Q
  refine s_aload_n (i := 0) (by decide +kernel) rfl (pn 1 rfl ?_)
  refine s_iload_n (i := 1) (by decide +kernel) rfl (pn 2 rfl ?_)
  refine s_iload_n (i := 2) (by decide +kernel) rfl (pn 3 rfl ?_)
  refine s_aload_n (i := 0) (by decide +kernel) rfl (pn 4 rfl ?_)
  refine s_getfield (v := .ref 160) (by decide +kernel) fr_12_13 lq_159 (congrArg Prod.fst sh_159) (fv_ref pf_159_1) (pn 7 rfl ?_)
  refine t_bipush (by decide +kernel) kb_47 (pn 9 rfl ?_)
  refine t_iaload (v := M.1 160 47) (by decide +kernel) ⟨Or.inl lq_160, congrArg Prod.fst sh_160⟩ (al_in sh_160 (vp_lit (n := 3870) tn_47 (by decide) (by decide))) (by rw [tn_47] <;> rfl) (pn 10 rfl ?_)
  refine s_aload_n (i := 0) (by decide +kernel) rfl (pn 11 rfl ?_)
  refine s_getfield (v := .ref 160) (by decide +kernel) fr_12_13 lq_159 (congrArg Prod.fst sh_159) (fv_ref pf_159_1) (pn 14 rfl ?_)
  refine t_bipush (by decide +kernel) kb_72 (pn 16 rfl ?_)
  refine s_iload_n (i := 1) (by decide +kernel) rfl (pn 17 rfl ?_)
  refine s_iadd (by decide +kernel) (pn 18 rfl ?_)
  obtain ⟨b1, h⟩ := h
  refine t_iaload (v := M.1 160 ((72 : Int32) + x1).toNatClampNeg) (by decide +kernel) ⟨Or.inl lq_160, congrArg Prod.fst sh_160⟩ (al_in sh_160 b1) rfl (pn 19 rfl ?_)
  refine s_callvI [.int x1, .int x2, .int (M.1 160 47), .int (M.1 160 ((72 : Int32) + x1).toNatClampNeg)] rfl (by decide +kernel) mv_12_246 np_227 (Nat.le_of_ble_eq_true rfl) lq_159 ((congrArg Prod.fst sh_159).trans oc_227) (cI_use h (fun r1 s1 M1 h => (pn 22 rfl ?_)))
  exact s_ireturn (st := []) (by decide +kernel) (Or.inl rfl) ⟨_, rfl, s1, rfl, h⟩
abbrev wM_burdenOf (d pc : Nat) (ls st : List Value) (s : pm_S) (M : pm_M) (Q : Int32 → pm_S → pm_M → Prop) : Prop := wI d prog_14_method_44_code 12 (some .int) false pc ls st s M Q
theorem enM_burdenOf {d : Nat} {s : pm_S} {M : pm_M} {x1 : Int32} {x2 : Int32} {x3 : Int32} {x4 : Int32} {Q : Int32 → pm_S → pm_M → Prop}  (h : (((M.1 160 6) = 0 → vp_in ((27 : Int32) + x2) 3870 ∧ Q ((if 0 ≤ (M.1 160 ((27 : Int32) + x2).toNatClampNeg) then (if (M.1 160 ((27 : Int32) + x2).toNatClampNeg) ≤ 99 then (M.1 160 ((27 : Int32) + x2).toNatClampNeg) else 99) else 0) : Int32) s (pm_si (pm_si M 165 5 x3) 165 6 x4)) ∧ (¬ ((M.1 160 6) = 0) → cI d yM_reckons [.ref 159, .int 1, .int x1, .int x2] s (pm_si (pm_si M 165 5 x3) 165 6 x4) (fun r1 s1 M1 => Q ((if 0 ≤ r1 then (if r1 ≤ 99 then r1 else 99) else 0) : Int32) s1 M1)))) : cI (d + 1) yM_burdenOf [.ref 159, .int x1, .int x2, .int x3, .int x4] s M Q := by
  refine pm_toI (by decide) (Nat.le_of_ble_eq_true rfl) ?_
  show wM_burdenOf d 0 [.ref 159, .int x1, .int x2, .int x3, .int x4, .null] [] s M Q
  refine s_aload_n (i := 0) (by decide +kernel) rfl (pn 1 rfl ?_)
  refine s_getfield (v := .ref 165) (by decide +kernel) fr_12_33 lq_159 (congrArg Prod.fst sh_159) (fv_ref pf_159_17) (pn 4 rfl ?_)
  refine t_iconst (by decide +kernel) ki_5 (pn 5 rfl ?_)
  refine s_iload_n (i := 3) (by decide +kernel) rfl (pn 6 rfl ?_)
  refine t_iastore (k := 5) (by decide +kernel) ⟨lq_165, congrArg Prod.fst sh_165⟩ (al_in sh_165 (vp_lit (n := 7) tn_5 (by decide) (by decide))) tn_5 (pn 7 rfl ?_)
  refine s_aload_n (i := 0) (by decide +kernel) rfl (pn 8 rfl ?_)
  refine s_getfield (v := .ref 165) (by decide +kernel) fr_12_33 lq_159 (congrArg Prod.fst sh_159) (fv_ref pf_159_17) (pn 11 rfl ?_)
  refine t_bipush (by decide +kernel) kb_6 (pn 13 rfl ?_)
  refine s_iload (i := 4) (by decide +kernel) rfl (pn 15 rfl ?_)
  refine t_iastore (k := 6) (by decide +kernel) ⟨lq_165, congrArg Prod.fst sh_165⟩ (al_in sh_165 (vp_lit (n := 7) tn_6 (by decide) (by decide))) tn_6 (pn 16 rfl ?_)
  refine s_aload_n (i := 0) (by decide +kernel) rfl (pn 17 rfl ?_)
  refine s_getfield (v := .ref 160) (by decide +kernel) fr_12_13 lq_159 (congrArg Prod.fst sh_159) (fv_ref pf_159_1) (pn 20 rfl ?_)
  refine t_bipush (by decide +kernel) kb_6 (pn 22 rfl ?_)
  refine t_iaload (v := M.1 160 6) (by decide +kernel) ⟨Or.inl lq_160, congrArg Prod.fst sh_160⟩ (al_in sh_160 (vp_lit (n := 3870) tn_6 (by decide) (by decide))) (by rw [tn_6] <;> rfl) (pn 23 rfl ?_)
  refine t_if_ne (off := 15) (tgt := 38) (by decide +kernel) rfl (fun c1 => ?_) (fun c1 => (pn 26 rfl ?_))
  · have h := h.2 c1
    refine s_aload_n (i := 0) (by decide +kernel) rfl (pn 39 rfl ?_)
    refine t_iconst (by decide +kernel) ki_1 (pn 40 rfl ?_)
    refine s_iload_n (i := 1) (by decide +kernel) rfl (pn 41 rfl ?_)
    refine s_iload_n (i := 2) (by decide +kernel) rfl (pn 42 rfl ?_)
    refine s_callvI [.int 1, .int x1, .int x2] rfl (by decide +kernel) mv_12_243 np_223 (Nat.le_of_ble_eq_true rfl) lq_159 ((congrArg Prod.fst sh_159).trans oc_223) (cI_use h (fun r1 s1 M1 h => (pn 45 rfl ?_)))
    refine s_istore (i := 5) (by decide +kernel) (Nat.le_of_ble_eq_true rfl) (pn 47 rfl (t_store (ls' := [.ref 159, .int x1, .int x2, .int x3, .int x4, .int r1]) rfl ?_))
    refine s_iload (i := 5) (by decide +kernel) rfl (pn 49 rfl ?_)
    have k1 : ∀ (z1 : Int32) (z1e : z1 = ((if 0 ≤ r1 then (if r1 ≤ 99 then r1 else 99) else 0) : Int32)), wM_burdenOf d 70 [.ref 159, .int x1, .int x2, .int x3, .int x4, .int r1] [.int z1] s1 M1 Q := by
      intro z1 z1e
      subst z1e
      exact s_ireturn (st := []) (by decide +kernel) (Or.inl rfl) ⟨_, rfl, s1, rfl, h⟩
    refine s_if_ge (off := 7) (tgt := 56) (by decide +kernel) rfl (fun c2 => ?_) (fun c2 => (pn 52 rfl ?_))
    · refine s_iload (i := 5) (by decide +kernel) rfl (pn 58 rfl ?_)
      refine t_bipush (by decide +kernel) kb_99 (pn 60 rfl ?_)
      refine s_icmp_le (off := 8) (tgt := 68) (by decide +kernel) rfl (fun c3 => ?_) (fun c3 => (pn 63 rfl ?_))
      · refine s_iload (i := 5) (by decide +kernel) rfl (pn 70 rfl ?_)
        exact k1 _ (by simp only [if_pos c2, if_pos c3])
      · refine t_bipush (by decide +kernel) kb_99 (pn 65 rfl ?_)
        refine s_goto (off := 5) (tgt := 70) (by decide +kernel) rfl ?_
        exact k1 _ (by simp only [if_pos c2, if_neg c3])
    · refine t_iconst (by decide +kernel) ki_0 (pn 53 rfl ?_)
      refine s_goto (off := 17) (tgt := 70) (by decide +kernel) rfl ?_
      exact k1 _ (by simp only [if_neg c2])
  · have h := h.1 c1
    refine s_aload_n (i := 0) (by decide +kernel) rfl (pn 27 rfl ?_)
    refine s_getfield (v := .ref 160) (by decide +kernel) fr_12_13 lq_159 (congrArg Prod.fst sh_159) (fv_ref pf_159_1) (pn 30 rfl ?_)
    refine t_bipush (by decide +kernel) kb_27 (pn 32 rfl ?_)
    refine s_iload_n (i := 2) (by decide +kernel) rfl (pn 33 rfl ?_)
    refine s_iadd (by decide +kernel) (pn 34 rfl ?_)
    obtain ⟨b1, h⟩ := h
    refine t_iaload (v := M.1 160 ((27 : Int32) + x2).toNatClampNeg) (by decide +kernel) ⟨Or.inl lq_160, congrArg Prod.fst sh_160⟩ (al_in sh_160 b1) rfl (pn 35 rfl ?_)
    refine s_goto (off := 10) (tgt := 45) (by decide +kernel) rfl ?_
    refine s_istore (i := 5) (by decide +kernel) (Nat.le_of_ble_eq_true rfl) (pn 47 rfl (t_store (ls' := [.ref 159, .int x1, .int x2, .int x3, .int x4, .int (M.1 160 ((27 : Int32) + x2).toNatClampNeg)]) rfl ?_))
    refine s_iload (i := 5) (by decide +kernel) rfl (pn 49 rfl ?_)
    have k2 : ∀ (z2 : Int32) (z2e : z2 = ((if 0 ≤ (M.1 160 ((27 : Int32) + x2).toNatClampNeg) then (if (M.1 160 ((27 : Int32) + x2).toNatClampNeg) ≤ 99 then (M.1 160 ((27 : Int32) + x2).toNatClampNeg) else 99) else 0) : Int32)), wM_burdenOf d 70 [.ref 159, .int x1, .int x2, .int x3, .int x4, .int (M.1 160 ((27 : Int32) + x2).toNatClampNeg)] [.int z2] s (pm_si (pm_si M 165 5 x3) 165 6 x4) Q := by
      intro z2 z2e
      subst z2e
      exact s_ireturn (st := []) (by decide +kernel) (Or.inl rfl) ⟨_, rfl, s, rfl, h⟩
    refine s_if_ge (off := 7) (tgt := 56) (by decide +kernel) rfl (fun c4 => ?_) (fun c4 => (pn 52 rfl ?_))
    · refine s_iload (i := 5) (by decide +kernel) rfl (pn 58 rfl ?_)
      refine t_bipush (by decide +kernel) kb_99 (pn 60 rfl ?_)
      refine s_icmp_le (off := 8) (tgt := 68) (by decide +kernel) rfl (fun c5 => ?_) (fun c5 => (pn 63 rfl ?_))
      · refine s_iload (i := 5) (by decide +kernel) rfl (pn 70 rfl ?_)
        exact k2 _ (by simp only [if_pos c4, if_pos c5])
      · refine t_bipush (by decide +kernel) kb_99 (pn 65 rfl ?_)
        refine s_goto (off := 5) (tgt := 70) (by decide +kernel) rfl ?_
        exact k2 _ (by simp only [if_pos c4, if_neg c5])
    · refine t_iconst (by decide +kernel) ki_0 (pn 53 rfl ?_)
      refine s_goto (off := 17) (tgt := 70) (by decide +kernel) rfl ?_
      exact k2 _ (by simp only [if_neg c4])
abbrev wM_seed (d pc : Nat) (ls st : List Value) (s : pm_S) (M : pm_M) (Q : Int32 → pm_S → pm_M → Prop) : Prop := wI d prog_14_method_64_code 12 (some .int) false pc ls st s M Q
theorem enM_seed {d : Nat} {s : pm_S} {M : pm_M} {x1 : Int32} {Q : Int32 → pm_S → pm_M → Prop}  (h : cV d yM_keeps [.ref 159] s (pm_si M 159 0 0) (fun s1 M1 => cV d yM_notes [.ref 159] s1 (pm_si M1 160 49 x1) (fun s2 M2 => Q (M2.1 166 2) s2 M2))) : cI (d + 1) yM_seed [.ref 159, .int x1] s M Q := by
  refine pm_toI (by decide) (Nat.le_of_ble_eq_true rfl) ?_
  show wM_seed d 0 [.ref 159, .int x1] [] s M Q
  refine s_aload_n (i := 0) (by decide +kernel) rfl (pn 1 rfl ?_)
  refine t_iconst (by decide +kernel) ki_0 (pn 2 rfl ?_)
  refine s_putfieldI (by decide +kernel) fr_12_1 lq_159 (congrArg Prod.fst sh_159) (fun q => by cases q) (Or.inl rfl) (pn 5 rfl ?_)
  refine s_aload_n (i := 0) (by decide +kernel) rfl (pn 6 rfl ?_)
  refine s_callvV [] rfl (by decide +kernel) mv_12_281 np_229 (Nat.le_of_ble_eq_true rfl) lq_159 ((congrArg Prod.fst sh_159).trans oc_229) (cV_use h (fun s1 M1 h => (pn 9 rfl ?_)))
  refine s_aload_n (i := 0) (by decide +kernel) rfl (pn 10 rfl ?_)
  refine s_getfield (v := .ref 160) (by decide +kernel) fr_12_13 lq_159 (congrArg Prod.fst sh_159) (fv_ref pf_159_1) (pn 13 rfl ?_)
  refine t_bipush (by decide +kernel) kb_49 (pn 15 rfl ?_)
  refine s_iload_n (i := 1) (by decide +kernel) rfl (pn 16 rfl ?_)
  refine t_iastore (k := 49) (by decide +kernel) ⟨lq_160, congrArg Prod.fst sh_160⟩ (al_in sh_160 (vp_lit (n := 3870) tn_49 (by decide) (by decide))) tn_49 (pn 17 rfl ?_)
  refine s_aload_n (i := 0) (by decide +kernel) rfl (pn 18 rfl ?_)
  refine s_callvV [] rfl (by decide +kernel) mv_12_284 np_230 (Nat.le_of_ble_eq_true rfl) lq_159 ((congrArg Prod.fst sh_159).trans oc_230) (cV_use h (fun s2 M2 h => (pn 21 rfl ?_)))
  refine s_aload_n (i := 0) (by decide +kernel) rfl (pn 22 rfl ?_)
  refine s_getfield (v := .ref 166) (by decide +kernel) fr_12_36 lq_159 (congrArg Prod.fst sh_159) (fv_ref pf_159_18) (pn 25 rfl ?_)
  refine t_iconst (by decide +kernel) ki_2 (pn 26 rfl ?_)
  refine t_iaload (v := M2.1 166 2) (by decide +kernel) ⟨Or.inl lq_166, congrArg Prod.fst sh_166⟩ (al_in sh_166 (vp_lit (n := 31) tn_2 (by decide) (by decide))) (by rw [tn_2] <;> rfl) (pn 27 rfl ?_)
  exact s_ireturn (st := []) (by decide +kernel) (Or.inl rfl) ⟨_, rfl, s2, rfl, h⟩
abbrev wM_keeps (d pc : Nat) (ls st : List Value) (s : pm_S) (M : pm_M) (Q : pm_S → pm_M → Prop) : Prop := wV d prog_14_method_50_code 12 none false pc ls st s M Q
theorem enM_keeps {d : Nat} {s : pm_S} {M : pm_M}  {Q : pm_S → pm_M → Prop}  (h : wM_keeps d 2 [.ref 159, .int 0] [] s M Q) : cV (d + 1) yM_keeps [.ref 159] s M Q := by
  refine pm_toV (by decide) (Nat.le_of_ble_eq_true rfl) ?_
  show wM_keeps d 0 [.ref 159, .null] [] s M Q
  refine t_iconst (by decide +kernel) ki_0 (pn 1 rfl ?_)
  refine s_istore_n (i := 1) (by decide +kernel) (Nat.le_of_ble_eq_true rfl) (pn 2 rfl (t_store (ls' := [.ref 159, .int 0]) rfl ?_))
  exact h
theorem sgM_keeps_2 {d : Nat} {s : pm_S} {M : pm_M} {l1 : Int32} {Q : pm_S → pm_M → Prop}  (h : (((31 ≤ l1) → Q s M) ∧ (¬ (31 ≤ l1) → vp_in ((47 : Int32) + l1) 3870 ∧ vp_in l1 31 ∧ wM_keeps d 2 [.ref 159, .int (l1 + 1)] [] s (pm_si M 166 l1.toNatClampNeg (M.1 160 ((47 : Int32) + l1).toNatClampNeg)) Q))) : wM_keeps d 2 [.ref 159, .int l1] [] s M Q := by
  refine s_iload_n (i := 1) (by decide +kernel) rfl (pn 3 rfl ?_)
  refine t_bipush (by decide +kernel) kb_31 (pn 5 rfl ?_)
  refine s_icmp_ge (off := 24) (tgt := 29) (by decide +kernel) rfl (fun c1 => ?_) (fun c1 => (pn 8 rfl ?_))
  · have h := h.1 c1
    exact s_return (st := []) (by decide +kernel) rfl ⟨rfl, s, rfl, h⟩
  · have h := h.2 c1
    refine s_aload_n (i := 0) (by decide +kernel) rfl (pn 9 rfl ?_)
    refine s_getfield (v := .ref 166) (by decide +kernel) fr_12_36 lq_159 (congrArg Prod.fst sh_159) (fv_ref pf_159_18) (pn 12 rfl ?_)
    refine s_iload_n (i := 1) (by decide +kernel) rfl (pn 13 rfl ?_)
    refine s_aload_n (i := 0) (by decide +kernel) rfl (pn 14 rfl ?_)
    refine s_getfield (v := .ref 160) (by decide +kernel) fr_12_13 lq_159 (congrArg Prod.fst sh_159) (fv_ref pf_159_1) (pn 17 rfl ?_)
    refine t_bipush (by decide +kernel) kb_47 (pn 19 rfl ?_)
    refine s_iload_n (i := 1) (by decide +kernel) rfl (pn 20 rfl ?_)
    refine s_iadd (by decide +kernel) (pn 21 rfl ?_)
    obtain ⟨b1, h⟩ := h
    refine t_iaload (v := M.1 160 ((47 : Int32) + l1).toNatClampNeg) (by decide +kernel) ⟨Or.inl lq_160, congrArg Prod.fst sh_160⟩ (al_in sh_160 b1) rfl (pn 22 rfl ?_)
    obtain ⟨b2, h⟩ := h
    refine t_iastore (k := l1.toNatClampNeg) (by decide +kernel) ⟨lq_166, congrArg Prod.fst sh_166⟩ (al_in sh_166 b2) rfl (pn 23 rfl ?_)
    refine t_iinc (i := 1) (n := 1) (ls' := [.ref 159, .int (l1 + 1)]) (by decide +kernel) rfl (Nat.le_of_ble_eq_true rfl) kn_1 rfl (pn 26 rfl ?_)
    refine s_goto (off := -24) (tgt := 2) (by decide +kernel) rfl ?_
    exact h
abbrev wM_notes (d pc : Nat) (ls st : List Value) (s : pm_S) (M : pm_M) (Q : pm_S → pm_M → Prop) : Prop := wV d prog_14_method_52_code 12 none false pc ls st s M Q
theorem enM_notes {d : Nat} {s : pm_S} {M : pm_M}  {Q : pm_S → pm_M → Prop}  (h : (((M.1 160 78) = 10 → wM_notes d 14 [.ref 159, .int 0] [] s M Q) ∧ (¬ ((M.1 160 78) = 10) → wM_notes d 58 [.ref 159, .int 0] [] s M Q))) : cV (d + 1) yM_notes [.ref 159] s M Q := by
  refine pm_toV (by decide) (Nat.le_of_ble_eq_true rfl) ?_
  show wM_notes d 0 [.ref 159, .null] [] s M Q
  refine s_aload_n (i := 0) (by decide +kernel) rfl (pn 1 rfl ?_)
  refine s_getfield (v := .ref 160) (by decide +kernel) fr_12_13 lq_159 (congrArg Prod.fst sh_159) (fv_ref pf_159_1) (pn 4 rfl ?_)
  refine t_bipush (by decide +kernel) kb_78 (pn 6 rfl ?_)
  refine t_iaload (v := M.1 160 78) (by decide +kernel) ⟨Or.inl lq_160, congrArg Prod.fst sh_160⟩ (al_in sh_160 (vp_lit (n := 3870) tn_78 (by decide) (by decide))) (by rw [tn_78] <;> rfl) (pn 7 rfl ?_)
  refine t_bipush (by decide +kernel) kb_10 (pn 9 rfl ?_)
  refine t_icmp_ne (off := 47) (tgt := 56) (by decide +kernel) rfl (fun c1 => ?_) (fun c1 => (pn 12 rfl ?_))
  · have h := h.2 c1
    refine t_iconst (by decide +kernel) ki_0 (pn 57 rfl ?_)
    refine s_istore_n (i := 1) (by decide +kernel) (Nat.le_of_ble_eq_true rfl) (pn 58 rfl (t_store (ls' := [.ref 159, .int 0]) rfl ?_))
    exact h
  · have h := h.1 c1
    refine t_iconst (by decide +kernel) ki_0 (pn 13 rfl ?_)
    refine s_istore_n (i := 1) (by decide +kernel) (Nat.le_of_ble_eq_true rfl) (pn 14 rfl (t_store (ls' := [.ref 159, .int 0]) rfl ?_))
    exact h
theorem sgM_notes_58 {d : Nat} {s : pm_S} {M : pm_M} {l1 : Int32} {Q : pm_S → pm_M → Prop}  (h : (((31 ≤ l1) → Q s (pm_si M 160 78 ((M.1 160 78) + 1))) ∧ (¬ (31 ≤ l1) → vp_in l1 31 ∧ vp_in (((79 : Int32) + ((31 : Int32) * (M.1 160 78))) + l1) 3870 ∧ wM_notes d 58 [.ref 159, .int (l1 + 1)] [] s (pm_si M 160 (((79 : Int32) + ((31 : Int32) * (M.1 160 78))) + l1).toNatClampNeg (M.1 166 l1.toNatClampNeg)) Q))) : wM_notes d 58 [.ref 159, .int l1] [] s M Q := by
  refine s_iload_n (i := 1) (by decide +kernel) rfl (pn 59 rfl ?_)
  refine t_bipush (by decide +kernel) kb_31 (pn 61 rfl ?_)
  refine s_icmp_ge (off := 35) (tgt := 96) (by decide +kernel) rfl (fun c1 => ?_) (fun c1 => (pn 64 rfl ?_))
  · have h := h.1 c1
    refine s_aload_n (i := 0) (by decide +kernel) rfl (pn 97 rfl ?_)
    refine s_getfield (v := .ref 160) (by decide +kernel) fr_12_13 lq_159 (congrArg Prod.fst sh_159) (fv_ref pf_159_1) (pn 100 rfl ?_)
    refine t_bipush (by decide +kernel) kb_78 (pn 102 rfl ?_)
    refine s_dup2 (by decide +kernel) rfl rfl (pn 103 rfl ?_)
    refine t_iaload (v := M.1 160 78) (by decide +kernel) ⟨Or.inl lq_160, congrArg Prod.fst sh_160⟩ (al_in sh_160 (vp_lit (n := 3870) tn_78 (by decide) (by decide))) (by rw [tn_78] <;> rfl) (pn 104 rfl ?_)
    refine t_iconst (by decide +kernel) ki_1 (pn 105 rfl ?_)
    refine s_iadd (by decide +kernel) (pn 106 rfl ?_)
    refine t_iastore (k := 78) (by decide +kernel) ⟨lq_160, congrArg Prod.fst sh_160⟩ (al_in sh_160 (vp_lit (n := 3870) tn_78 (by decide) (by decide))) tn_78 (pn 107 rfl ?_)
    exact s_return (st := []) (by decide +kernel) rfl ⟨rfl, s, rfl, h⟩
  · have h := h.2 c1
    refine s_aload_n (i := 0) (by decide +kernel) rfl (pn 65 rfl ?_)
    refine s_getfield (v := .ref 160) (by decide +kernel) fr_12_13 lq_159 (congrArg Prod.fst sh_159) (fv_ref pf_159_1) (pn 68 rfl ?_)
    refine t_bipush (by decide +kernel) kb_79 (pn 70 rfl ?_)
    refine t_bipush (by decide +kernel) kb_31 (pn 72 rfl ?_)
    refine s_aload_n (i := 0) (by decide +kernel) rfl (pn 73 rfl ?_)
    refine s_getfield (v := .ref 160) (by decide +kernel) fr_12_13 lq_159 (congrArg Prod.fst sh_159) (fv_ref pf_159_1) (pn 76 rfl ?_)
    refine t_bipush (by decide +kernel) kb_78 (pn 78 rfl ?_)
    refine t_iaload (v := M.1 160 78) (by decide +kernel) ⟨Or.inl lq_160, congrArg Prod.fst sh_160⟩ (al_in sh_160 (vp_lit (n := 3870) tn_78 (by decide) (by decide))) (by rw [tn_78] <;> rfl) (pn 79 rfl ?_)
    refine s_imul (by decide +kernel) (pn 80 rfl ?_)
    refine s_iadd (by decide +kernel) (pn 81 rfl ?_)
    refine s_iload_n (i := 1) (by decide +kernel) rfl (pn 82 rfl ?_)
    refine s_iadd (by decide +kernel) (pn 83 rfl ?_)
    refine s_aload_n (i := 0) (by decide +kernel) rfl (pn 84 rfl ?_)
    refine s_getfield (v := .ref 166) (by decide +kernel) fr_12_36 lq_159 (congrArg Prod.fst sh_159) (fv_ref pf_159_18) (pn 87 rfl ?_)
    refine s_iload_n (i := 1) (by decide +kernel) rfl (pn 88 rfl ?_)
    obtain ⟨b1, h⟩ := h
    refine t_iaload (v := M.1 166 l1.toNatClampNeg) (by decide +kernel) ⟨Or.inl lq_166, congrArg Prod.fst sh_166⟩ (al_in sh_166 b1) rfl (pn 89 rfl ?_)
    obtain ⟨b2, h⟩ := h
    refine t_iastore (k := (((79 : Int32) + ((31 : Int32) * (M.1 160 78))) + l1).toNatClampNeg) (by decide +kernel) ⟨lq_160, congrArg Prod.fst sh_160⟩ (al_in sh_160 b2) rfl (pn 90 rfl ?_)
    refine t_iinc (i := 1) (n := 1) (ls' := [.ref 159, .int (l1 + 1)]) (by decide +kernel) rfl (Nat.le_of_ble_eq_true rfl) kn_1 rfl (pn 93 rfl ?_)
    refine s_goto (off := -35) (tgt := 58) (by decide +kernel) rfl ?_
    exact h
theorem sgM_notes_14 {d : Nat} {s : pm_S} {M : pm_M} {l1 : Int32} {Q : pm_S → pm_M → Prop}  (h : (((279 ≤ l1) → wM_notes d 58 [.ref 159, .int 0] [] s (pm_si M 160 78 ((M.1 160 78) - 1)) Q) ∧ (¬ (279 ≤ l1) → vp_in ((110 : Int32) + l1) 3870 ∧ vp_in ((79 : Int32) + l1) 3870 ∧ wM_notes d 14 [.ref 159, .int (l1 + 1)] [] s (pm_si M 160 ((79 : Int32) + l1).toNatClampNeg (M.1 160 ((110 : Int32) + l1).toNatClampNeg)) Q))) : wM_notes d 14 [.ref 159, .int l1] [] s M Q := by
  refine s_iload_n (i := 1) (by decide +kernel) rfl (pn 15 rfl ?_)
  refine t_sipush (by decide +kernel) ks_279 (pn 18 rfl ?_)
  refine s_icmp_ge (off := 27) (tgt := 45) (by decide +kernel) rfl (fun c1 => ?_) (fun c1 => (pn 21 rfl ?_))
  · have h := h.1 c1
    refine s_aload_n (i := 0) (by decide +kernel) rfl (pn 46 rfl ?_)
    refine s_getfield (v := .ref 160) (by decide +kernel) fr_12_13 lq_159 (congrArg Prod.fst sh_159) (fv_ref pf_159_1) (pn 49 rfl ?_)
    refine t_bipush (by decide +kernel) kb_78 (pn 51 rfl ?_)
    refine s_dup2 (by decide +kernel) rfl rfl (pn 52 rfl ?_)
    refine t_iaload (v := M.1 160 78) (by decide +kernel) ⟨Or.inl lq_160, congrArg Prod.fst sh_160⟩ (al_in sh_160 (vp_lit (n := 3870) tn_78 (by decide) (by decide))) (by rw [tn_78] <;> rfl) (pn 53 rfl ?_)
    refine t_iconst (by decide +kernel) ki_1 (pn 54 rfl ?_)
    refine s_isub (by decide +kernel) (pn 55 rfl ?_)
    refine t_iastore (k := 78) (by decide +kernel) ⟨lq_160, congrArg Prod.fst sh_160⟩ (al_in sh_160 (vp_lit (n := 3870) tn_78 (by decide) (by decide))) tn_78 (pn 56 rfl ?_)
    refine t_iconst (by decide +kernel) ki_0 (pn 57 rfl ?_)
    refine s_istore_n (i := 1) (by decide +kernel) (Nat.le_of_ble_eq_true rfl) (pn 58 rfl (t_store (ls' := [.ref 159, .int 0]) rfl ?_))
    exact h
  · have h := h.2 c1
    refine s_aload_n (i := 0) (by decide +kernel) rfl (pn 22 rfl ?_)
    refine s_getfield (v := .ref 160) (by decide +kernel) fr_12_13 lq_159 (congrArg Prod.fst sh_159) (fv_ref pf_159_1) (pn 25 rfl ?_)
    refine t_bipush (by decide +kernel) kb_79 (pn 27 rfl ?_)
    refine s_iload_n (i := 1) (by decide +kernel) rfl (pn 28 rfl ?_)
    refine s_iadd (by decide +kernel) (pn 29 rfl ?_)
    refine s_aload_n (i := 0) (by decide +kernel) rfl (pn 30 rfl ?_)
    refine s_getfield (v := .ref 160) (by decide +kernel) fr_12_13 lq_159 (congrArg Prod.fst sh_159) (fv_ref pf_159_1) (pn 33 rfl ?_)
    refine t_bipush (by decide +kernel) kb_110 (pn 35 rfl ?_)
    refine s_iload_n (i := 1) (by decide +kernel) rfl (pn 36 rfl ?_)
    refine s_iadd (by decide +kernel) (pn 37 rfl ?_)
    obtain ⟨b1, h⟩ := h
    refine t_iaload (v := M.1 160 ((110 : Int32) + l1).toNatClampNeg) (by decide +kernel) ⟨Or.inl lq_160, congrArg Prod.fst sh_160⟩ (al_in sh_160 b1) rfl (pn 38 rfl ?_)
    obtain ⟨b2, h⟩ := h
    refine t_iastore (k := ((79 : Int32) + l1).toNatClampNeg) (by decide +kernel) ⟨lq_160, congrArg Prod.fst sh_160⟩ (al_in sh_160 b2) rfl (pn 39 rfl ?_)
    refine t_iinc (i := 1) (n := 1) (ls' := [.ref 159, .int (l1 + 1)]) (by decide +kernel) rfl (Nat.le_of_ble_eq_true rfl) kn_1 rfl (pn 42 rfl ?_)
    refine s_goto (off := -28) (tgt := 14) (by decide +kernel) rfl ?_
    exact h
abbrev wM_leave (d pc : Nat) (ls st : List Value) (s : pm_S) (M : pm_M) (Q : Int32 → pm_S → pm_M → Prop) : Prop := wI d prog_14_method_65_code 12 (some .int) false pc ls st s M Q
theorem enM_leave {d : Nat} {s : pm_S} {M : pm_M} {x1 : Int32} {Q : Int32 → pm_S → pm_M → Prop}  (h : cI d yM_whyHolds [.ref 159, .long (x1.toInt64)] s (pm_si M 159 0 0) (fun r1 s1 M1 => (((r1 = 0) → cV d yM_keeps [.ref 159] s1 M1 (fun s2 M2 => cI d yM_leaves [.ref 159, .int x1] s2 M2 (fun r2 s3 M3 => cV d yM_notes [.ref 159] s3 M3 (fun s4 M4 => Q r2 s4 M4)))) ∧ (¬ (r1 = 0) → Q (((-10) : Int32) - r1) s1 M1)))) : cI (d + 1) yM_leave [.ref 159, .int x1] s M Q := by
  refine pm_toI (by decide) (Nat.le_of_ble_eq_true rfl) ?_
  show wM_leave d 0 [.ref 159, .int x1, .null, .null] [] s M Q
  refine s_aload_n (i := 0) (by decide +kernel) rfl (pn 1 rfl ?_)
  refine t_iconst (by decide +kernel) ki_0 (pn 2 rfl ?_)
  refine s_putfieldI (by decide +kernel) fr_12_1 lq_159 (congrArg Prod.fst sh_159) (fun q => by cases q) (Or.inl rfl) (pn 5 rfl ?_)
  refine s_aload_n (i := 0) (by decide +kernel) rfl (pn 6 rfl ?_)
  refine s_iload_n (i := 1) (by decide +kernel) rfl (pn 7 rfl ?_)
  refine s_i2l (by decide +kernel) (pn 8 rfl ?_)
  refine s_callvI [.long (x1.toInt64)] rfl (by decide +kernel) mv_12_263 np_232 (Nat.le_of_ble_eq_true rfl) lq_159 ((congrArg Prod.fst sh_159).trans oc_232) (cI_use h (fun r1 s1 M1 h => (pn 11 rfl ?_)))
  refine s_istore_n (i := 2) (by decide +kernel) (Nat.le_of_ble_eq_true rfl) (pn 12 rfl (t_store (ls' := [.ref 159, .int x1, .int r1, .null]) rfl ?_))
  refine s_iload_n (i := 2) (by decide +kernel) rfl (pn 13 rfl ?_)
  refine s_if_eq (off := 8) (tgt := 21) (by decide +kernel) rfl (fun c1 => ?_) (fun c1 => (pn 16 rfl ?_))
  · have h := h.1 c1
    refine s_aload_n (i := 0) (by decide +kernel) rfl (pn 22 rfl ?_)
    refine s_callvV [] rfl (by decide +kernel) mv_12_281 np_229 (Nat.le_of_ble_eq_true rfl) lq_159 ((congrArg Prod.fst sh_159).trans oc_229) (cV_use h (fun s2 M2 h => (pn 25 rfl ?_)))
    refine s_aload_n (i := 0) (by decide +kernel) rfl (pn 26 rfl ?_)
    refine s_iload_n (i := 1) (by decide +kernel) rfl (pn 27 rfl ?_)
    refine s_callvI [.int x1] rfl (by decide +kernel) mv_12_287 np_233 (Nat.le_of_ble_eq_true rfl) lq_159 ((congrArg Prod.fst sh_159).trans oc_233) (cI_use h (fun r2 s3 M3 h => (pn 30 rfl ?_)))
    refine s_istore_n (i := 3) (by decide +kernel) (Nat.le_of_ble_eq_true rfl) (pn 31 rfl (t_store (ls' := [.ref 159, .int x1, .int r1, .int r2]) rfl ?_))
    refine s_aload_n (i := 0) (by decide +kernel) rfl (pn 32 rfl ?_)
    refine s_callvV [] rfl (by decide +kernel) mv_12_284 np_230 (Nat.le_of_ble_eq_true rfl) lq_159 ((congrArg Prod.fst sh_159).trans oc_230) (cV_use h (fun s4 M4 h => (pn 35 rfl ?_)))
    refine s_iload_n (i := 3) (by decide +kernel) rfl (pn 36 rfl ?_)
    exact s_ireturn (st := []) (by decide +kernel) (Or.inl rfl) ⟨_, rfl, s4, rfl, h⟩
  · have h := h.2 c1
    refine t_bipush (by decide +kernel) kb_m10 (pn 18 rfl ?_)
    refine s_iload_n (i := 2) (by decide +kernel) rfl (pn 19 rfl ?_)
    refine s_isub (by decide +kernel) (pn 20 rfl ?_)
    exact s_ireturn (st := []) (by decide +kernel) (Or.inl rfl) ⟨_, rfl, s1, rfl, h⟩
abbrev wM_whyHolds (d pc : Nat) (ls st : List Value) (s : pm_S) (M : pm_M) (Q : Int32 → pm_S → pm_M → Prop) : Prop := wI d prog_14_method_53_code 12 (some .int) false pc ls st s M Q
theorem enM_whyHolds {d : Nat} {s : pm_S} {M : pm_M} {x1 : Int64} {Q : Int32 → pm_S → pm_M → Prop}  (h : cI d yM_isPerson [.ref 159, .long x1] s M (fun r1 s1 M1 => ((r1 = 0 → Q 1 s1 M1) ∧ (¬ (r1 = 0) → cI d yM_heldBy [.ref 159, .int (x1.toInt32)] s1 M1 (fun r2 s2 M2 => Q ((if r2 = (-1) then 2 else 0) : Int32) s2 M2))))) : cI (d + 1) yM_whyHolds [.ref 159, .long x1] s M Q := by
  refine pm_toI (by decide) (Nat.le_of_ble_eq_true rfl) ?_
  show wM_whyHolds d 0 [.ref 159, .long x1, .null] [] s M Q
  refine s_aload_n (i := 0) (by decide +kernel) rfl (pn 1 rfl ?_)
  refine s_lload_n (i := 1) (by decide +kernel) rfl (pn 2 rfl ?_)
  refine s_callvI [.long x1] rfl (by decide +kernel) mv_12_231 np_219 (Nat.le_of_ble_eq_true rfl) lq_159 ((congrArg Prod.fst sh_159).trans oc_219) (cI_use h (fun r1 s1 M1 h => (pn 5 rfl ?_)))
  refine t_if_ne (off := 7) (tgt := 12) (by decide +kernel) rfl (fun c1 => ?_) (fun c1 => (pn 8 rfl ?_))
  · have h := h.2 c1
    refine s_aload_n (i := 0) (by decide +kernel) rfl (pn 13 rfl ?_)
    refine s_lload_n (i := 1) (by decide +kernel) rfl (pn 14 rfl ?_)
    refine s_l2i (by decide +kernel) (pn 15 rfl ?_)
    refine s_callvI [.int (x1.toInt32)] rfl (by decide +kernel) mv_12_253 np_220 (Nat.le_of_ble_eq_true rfl) lq_159 ((congrArg Prod.fst sh_159).trans oc_220) (cI_use h (fun r2 s2 M2 h => (pn 18 rfl ?_)))
    refine t_iconst (by decide +kernel) ki_m1 (pn 19 rfl ?_)
    have k1 : ∀ (z1 : Int32) (z1e : z1 = ((if r2 = (-1) then 2 else 0) : Int32)), wM_whyHolds d 27 [.ref 159, .long x1, .null] [.int z1] s2 M2 Q := by
      intro z1 z1e
      subst z1e
      exact s_ireturn (st := []) (by decide +kernel) (Or.inl rfl) ⟨_, rfl, s2, rfl, h⟩
    refine t_icmp_ne (off := 7) (tgt := 26) (by decide +kernel) rfl (fun c2 => ?_) (fun c2 => (pn 22 rfl ?_))
    · refine t_iconst (by decide +kernel) ki_0 (pn 27 rfl ?_)
      exact k1 _ (by simp only [if_neg c2])
    · refine t_iconst (by decide +kernel) ki_2 (pn 23 rfl ?_)
      refine s_goto (off := 4) (tgt := 27) (by decide +kernel) rfl ?_
      exact k1 _ (by simp only [if_pos c2])
  · have h := h.1 c1
    refine t_iconst (by decide +kernel) ki_1 (pn 9 rfl ?_)
    refine s_goto (off := 18) (tgt := 27) (by decide +kernel) rfl ?_
    exact s_ireturn (st := []) (by decide +kernel) (Or.inl rfl) ⟨_, rfl, s1, rfl, h⟩
abbrev wM_leaves (d pc : Nat) (ls st : List Value) (s : pm_S) (M : pm_M) (Q : Int32 → pm_S → pm_M → Prop) : Prop := wI d prog_14_method_57_code 12 (some .int) false pc ls st s M Q
theorem enM_leaves {d : Nat} {s : pm_S} {M : pm_M} {x1 : Int32} {Q : Int32 → pm_S → pm_M → Prop}  (h : cI d yM_heldBy [.ref 159, .int x1] s M (fun r1 s1 M1 => vp_in ((35 : Int32) + x1) 3870 ∧ vp_in ((50 : Int32) + r1) 3870 ∧ Q r1 s1 (pm_si M1 160 ((50 : Int32) + r1).toNatClampNeg (M1.1 160 ((35 : Int32) + x1).toNatClampNeg)))) : cI (d + 1) yM_leaves [.ref 159, .int x1] s M Q := by
  refine pm_toI (by decide) (Nat.le_of_ble_eq_true rfl) ?_
  show wM_leaves d 0 [.ref 159, .int x1, .null] [] s M Q
  refine s_aload_n (i := 0) (by decide +kernel) rfl (pn 1 rfl ?_)
  refine s_iload_n (i := 1) (by decide +kernel) rfl (pn 2 rfl ?_)
  refine s_callvI [.int x1] rfl (by decide +kernel) mv_12_253 np_220 (Nat.le_of_ble_eq_true rfl) lq_159 ((congrArg Prod.fst sh_159).trans oc_220) (cI_use h (fun r1 s1 M1 h => (pn 5 rfl ?_)))
  refine s_istore_n (i := 2) (by decide +kernel) (Nat.le_of_ble_eq_true rfl) (pn 6 rfl (t_store (ls' := [.ref 159, .int x1, .int r1]) rfl ?_))
  refine s_aload_n (i := 0) (by decide +kernel) rfl (pn 7 rfl ?_)
  refine s_getfield (v := .ref 160) (by decide +kernel) fr_12_13 lq_159 (congrArg Prod.fst sh_159) (fv_ref pf_159_1) (pn 10 rfl ?_)
  refine t_bipush (by decide +kernel) kb_50 (pn 12 rfl ?_)
  refine s_iload_n (i := 2) (by decide +kernel) rfl (pn 13 rfl ?_)
  refine s_iadd (by decide +kernel) (pn 14 rfl ?_)
  refine s_aload_n (i := 0) (by decide +kernel) rfl (pn 15 rfl ?_)
  refine s_getfield (v := .ref 160) (by decide +kernel) fr_12_13 lq_159 (congrArg Prod.fst sh_159) (fv_ref pf_159_1) (pn 18 rfl ?_)
  refine t_bipush (by decide +kernel) kb_35 (pn 20 rfl ?_)
  refine s_iload_n (i := 1) (by decide +kernel) rfl (pn 21 rfl ?_)
  refine s_iadd (by decide +kernel) (pn 22 rfl ?_)
  obtain ⟨b1, h⟩ := h
  refine t_iaload (v := M1.1 160 ((35 : Int32) + x1).toNatClampNeg) (by decide +kernel) ⟨Or.inl lq_160, congrArg Prod.fst sh_160⟩ (al_in sh_160 b1) rfl (pn 23 rfl ?_)
  obtain ⟨b2, h⟩ := h
  refine t_iastore (k := ((50 : Int32) + r1).toNatClampNeg) (by decide +kernel) ⟨lq_160, congrArg Prod.fst sh_160⟩ (al_in sh_160 b2) rfl (pn 24 rfl ?_)
  refine s_iload_n (i := 2) (by decide +kernel) rfl (pn 25 rfl ?_)
  exact s_ireturn (st := []) (by decide +kernel) (Or.inl rfl) ⟨_, rfl, s1, rfl, h⟩
abbrev wM_fetch (d pc : Nat) (ls st : List Value) (s : pm_S) (M : pm_M) (Q : Int32 → pm_S → pm_M → Prop) : Prop := wI d prog_14_method_67_code 12 (some .int) false pc ls st s M Q
theorem enM_fetch {d : Nat} {s : pm_S} {M : pm_M} {x1 : Int32} {x2 : Int32} {Q : Int32 → pm_S → pm_M → Prop}  (h : cI d yM_whyFetch [.ref 159, .long (x1.toInt64), .long (x2.toInt64)] s (pm_si M 159 0 0) (fun r1 s1 M1 => (((r1 = 0) → cV d yM_keeps [.ref 159] s1 M1 (fun s2 M2 => vp_in ((50 : Int32) + x2) 3870 ∧ cV d yM_notes [.ref 159] s2 (pm_si M2 160 ((50 : Int32) + x2).toNatClampNeg ((10 : Int32) + x1)) (fun s3 M3 => cI d yM_officeSet [.ref 159] s3 M3 (fun r2 s4 M4 => cI d yM_bitsOf [.int r2] s4 M4 (fun r3 s5 M5 => Q r3 s5 M5))))) ∧ (¬ (r1 = 0) → Q (((-10) : Int32) - r1) s1 M1)))) : cI (d + 1) yM_fetch [.ref 159, .int x1, .int x2] s M Q := by
  refine pm_toI (by decide) (Nat.le_of_ble_eq_true rfl) ?_
  show wM_fetch d 0 [.ref 159, .int x1, .int x2, .null] [] s M Q
  refine s_aload_n (i := 0) (by decide +kernel) rfl (pn 1 rfl ?_)
  refine t_iconst (by decide +kernel) ki_0 (pn 2 rfl ?_)
  refine s_putfieldI (by decide +kernel) fr_12_1 lq_159 (congrArg Prod.fst sh_159) (fun q => by cases q) (Or.inl rfl) (pn 5 rfl ?_)
  refine s_aload_n (i := 0) (by decide +kernel) rfl (pn 6 rfl ?_)
  refine s_iload_n (i := 1) (by decide +kernel) rfl (pn 7 rfl ?_)
  refine s_i2l (by decide +kernel) (pn 8 rfl ?_)
  refine s_iload_n (i := 2) (by decide +kernel) rfl (pn 9 rfl ?_)
  refine s_i2l (by decide +kernel) (pn 10 rfl ?_)
  refine s_callvI [.long (x1.toInt64), .long (x2.toInt64)] rfl (by decide +kernel) mv_12_290 np_235 (Nat.le_of_ble_eq_true rfl) lq_159 ((congrArg Prod.fst sh_159).trans oc_235) (cI_use h (fun r1 s1 M1 h => (pn 13 rfl ?_)))
  refine s_istore_n (i := 3) (by decide +kernel) (Nat.le_of_ble_eq_true rfl) (pn 14 rfl (t_store (ls' := [.ref 159, .int x1, .int x2, .int r1]) rfl ?_))
  refine s_iload_n (i := 3) (by decide +kernel) rfl (pn 15 rfl ?_)
  refine s_if_eq (off := 8) (tgt := 23) (by decide +kernel) rfl (fun c1 => ?_) (fun c1 => (pn 18 rfl ?_))
  · have h := h.1 c1
    refine s_aload_n (i := 0) (by decide +kernel) rfl (pn 24 rfl ?_)
    refine s_callvV [] rfl (by decide +kernel) mv_12_281 np_229 (Nat.le_of_ble_eq_true rfl) lq_159 ((congrArg Prod.fst sh_159).trans oc_229) (cV_use h (fun s2 M2 h => (pn 27 rfl ?_)))
    refine s_aload_n (i := 0) (by decide +kernel) rfl (pn 28 rfl ?_)
    refine s_getfield (v := .ref 160) (by decide +kernel) fr_12_13 lq_159 (congrArg Prod.fst sh_159) (fv_ref pf_159_1) (pn 31 rfl ?_)
    refine t_bipush (by decide +kernel) kb_50 (pn 33 rfl ?_)
    refine s_iload_n (i := 2) (by decide +kernel) rfl (pn 34 rfl ?_)
    refine s_iadd (by decide +kernel) (pn 35 rfl ?_)
    refine t_bipush (by decide +kernel) kb_10 (pn 37 rfl ?_)
    refine s_iload_n (i := 1) (by decide +kernel) rfl (pn 38 rfl ?_)
    refine s_iadd (by decide +kernel) (pn 39 rfl ?_)
    obtain ⟨b1, h⟩ := h
    refine t_iastore (k := ((50 : Int32) + x2).toNatClampNeg) (by decide +kernel) ⟨lq_160, congrArg Prod.fst sh_160⟩ (al_in sh_160 b1) rfl (pn 40 rfl ?_)
    refine s_aload_n (i := 0) (by decide +kernel) rfl (pn 41 rfl ?_)
    refine s_callvV [] rfl (by decide +kernel) mv_12_284 np_230 (Nat.le_of_ble_eq_true rfl) lq_159 ((congrArg Prod.fst sh_159).trans oc_230) (cV_use h (fun s3 M3 h => (pn 44 rfl ?_)))
    refine s_aload_n (i := 0) (by decide +kernel) rfl (pn 45 rfl ?_)
    refine s_callvI [] rfl (by decide +kernel) mv_12_294 np_236 (Nat.le_of_ble_eq_true rfl) lq_159 ((congrArg Prod.fst sh_159).trans oc_236) (cI_use h (fun r2 s4 M4 h => (pn 48 rfl ?_)))
    refine s_callsI [.int r2] rfl (by decide +kernel) ms_12_297 np_237 (Nat.le_of_ble_eq_true rfl) (cI_use h (fun r3 s5 M5 h => (pn 51 rfl ?_)))
    exact s_ireturn (st := []) (by decide +kernel) (Or.inl rfl) ⟨_, rfl, s5, rfl, h⟩
  · have h := h.2 c1
    refine t_bipush (by decide +kernel) kb_m10 (pn 20 rfl ?_)
    refine s_iload_n (i := 3) (by decide +kernel) rfl (pn 21 rfl ?_)
    refine s_isub (by decide +kernel) (pn 22 rfl ?_)
    exact s_ireturn (st := []) (by decide +kernel) (Or.inl rfl) ⟨_, rfl, s1, rfl, h⟩
abbrev wM_whyFetch (d pc : Nat) (ls st : List Value) (s : pm_S) (M : pm_M) (Q : Int32 → pm_S → pm_M → Prop) : Prop := wI d prog_14_method_55_code 12 (some .int) false pc ls st s M Q
theorem enM_whyFetch {d : Nat} {s : pm_S} {M : pm_M} {x1 : Int64} {x2 : Int64} {Q : Int32 → pm_S → pm_M → Prop}  (h : cI d yM_isPerson [.ref 159, .long x1] s M (fun r1 s1 M1 => (((r1 = 0) → Q 1 s1 M1) ∧ (¬ (r1 = 0) → cI d yM_isThing [.ref 159, .long x2] s1 M1 (fun r2 s2 M2 => ((r2 = 0 → Q 1 s2 M2) ∧ (¬ (r2 = 0) → cI d yM_heldBy [.ref 159, .int (x1.toInt32)] s2 M2 (fun r3 s3 M3 => (((r3 = (-1)) → vp_in ((50 : Int32) + (x2.toInt32)) 3870 ∧ (((M3.1 160 ((50 : Int32) + (x2.toInt32)).toNatClampNeg) = 99 → cI d yM_claimsOf [.ref 159, .int (x1.toInt32), .int (x2.toInt32)] s3 M3 (fun r4 s4 M4 => Q ((if 0 < r4 then 0 else 3) : Int32) s4 M4)) ∧ (¬ ((M3.1 160 ((50 : Int32) + (x2.toInt32)).toNatClampNeg) = 99) → Q 3 s3 M3))) ∧ (¬ (r3 = (-1)) → Q 2 s3 M3)))))))))) : cI (d + 1) yM_whyFetch [.ref 159, .long x1, .long x2] s M Q := by
  refine pm_toI (by decide) (Nat.le_of_ble_eq_true rfl) ?_
  show wM_whyFetch d 0 [.ref 159, .long x1, .null, .long x2, .null, .null, .null] [] s M Q
  refine s_aload_n (i := 0) (by decide +kernel) rfl (pn 1 rfl ?_)
  refine s_lload_n (i := 1) (by decide +kernel) rfl (pn 2 rfl ?_)
  refine s_callvI [.long x1] rfl (by decide +kernel) mv_12_231 np_219 (Nat.le_of_ble_eq_true rfl) lq_159 ((congrArg Prod.fst sh_159).trans oc_219) (cI_use h (fun r1 s1 M1 h => (pn 5 rfl ?_)))
  refine s_if_eq (off := 11) (tgt := 16) (by decide +kernel) rfl (fun c1 => ?_) (fun c1 => (pn 8 rfl ?_))
  · have h := h.1 c1
    refine t_iconst (by decide +kernel) ki_1 (pn 17 rfl ?_)
    exact s_ireturn (st := []) (by decide +kernel) (Or.inl rfl) ⟨_, rfl, s1, rfl, h⟩
  · have h := h.2 c1
    refine s_aload_n (i := 0) (by decide +kernel) rfl (pn 9 rfl ?_)
    refine s_lload_n (i := 3) (by decide +kernel) rfl (pn 10 rfl ?_)
    refine s_callvI [.long x2] rfl (by decide +kernel) mv_12_250 np_217 (Nat.le_of_ble_eq_true rfl) lq_159 ((congrArg Prod.fst sh_159).trans oc_217) (cI_use h (fun r2 s2 M2 h => (pn 13 rfl ?_)))
    refine t_if_ne (off := 5) (tgt := 18) (by decide +kernel) rfl (fun c2 => ?_) (fun c2 => (pn 16 rfl ?_))
    · have h := h.2 c2
      refine s_lload_n (i := 1) (by decide +kernel) rfl (pn 19 rfl ?_)
      refine s_l2i (by decide +kernel) (pn 20 rfl ?_)
      refine s_istore (i := 5) (by decide +kernel) (Nat.le_of_ble_eq_true rfl) (pn 22 rfl (t_store (ls' := [.ref 159, .long x1, .null, .long x2, .null, .int (x1.toInt32), .null]) rfl ?_))
      refine s_lload_n (i := 3) (by decide +kernel) rfl (pn 23 rfl ?_)
      refine s_l2i (by decide +kernel) (pn 24 rfl ?_)
      refine s_istore (i := 6) (by decide +kernel) (Nat.le_of_ble_eq_true rfl) (pn 26 rfl (t_store (ls' := [.ref 159, .long x1, .null, .long x2, .null, .int (x1.toInt32), .int (x2.toInt32)]) rfl ?_))
      refine s_aload_n (i := 0) (by decide +kernel) rfl (pn 27 rfl ?_)
      refine s_iload (i := 5) (by decide +kernel) rfl (pn 29 rfl ?_)
      refine s_callvI [.int (x1.toInt32)] rfl (by decide +kernel) mv_12_253 np_220 (Nat.le_of_ble_eq_true rfl) lq_159 ((congrArg Prod.fst sh_159).trans oc_220) (cI_use h (fun r3 s3 M3 h => (pn 32 rfl ?_)))
      refine t_iconst (by decide +kernel) ki_m1 (pn 33 rfl ?_)
      refine s_icmp_eq (off := 5) (tgt := 38) (by decide +kernel) rfl (fun c3 => ?_) (fun c3 => (pn 36 rfl ?_))
      · have h := h.1 c3
        refine s_aload_n (i := 0) (by decide +kernel) rfl (pn 39 rfl ?_)
        refine s_getfield (v := .ref 160) (by decide +kernel) fr_12_13 lq_159 (congrArg Prod.fst sh_159) (fv_ref pf_159_1) (pn 42 rfl ?_)
        refine t_bipush (by decide +kernel) kb_50 (pn 44 rfl ?_)
        refine s_iload (i := 6) (by decide +kernel) rfl (pn 46 rfl ?_)
        refine s_iadd (by decide +kernel) (pn 47 rfl ?_)
        obtain ⟨b1, h⟩ := h
        refine t_iaload (v := M3.1 160 ((50 : Int32) + (x2.toInt32)).toNatClampNeg) (by decide +kernel) ⟨Or.inl lq_160, congrArg Prod.fst sh_160⟩ (al_in sh_160 b1) rfl (pn 48 rfl ?_)
        refine t_bipush (by decide +kernel) kb_99 (pn 50 rfl ?_)
        refine t_icmp_ne (off := 14) (tgt := 64) (by decide +kernel) rfl (fun c4 => ?_) (fun c4 => (pn 53 rfl ?_))
        · have h := h.2 c4
          refine t_iconst (by decide +kernel) ki_3 (pn 65 rfl ?_)
          refine s_goto (off := 4) (tgt := 69) (by decide +kernel) rfl ?_
          exact s_ireturn (st := []) (by decide +kernel) (Or.inl rfl) ⟨_, rfl, s3, rfl, h⟩
        · have h := h.1 c4
          refine s_aload_n (i := 0) (by decide +kernel) rfl (pn 54 rfl ?_)
          refine s_iload (i := 5) (by decide +kernel) rfl (pn 56 rfl ?_)
          refine s_iload (i := 6) (by decide +kernel) rfl (pn 58 rfl ?_)
          refine s_callvI [.int (x1.toInt32), .int (x2.toInt32)] rfl (by decide +kernel) mv_12_256 np_222 (Nat.le_of_ble_eq_true rfl) lq_159 ((congrArg Prod.fst sh_159).trans oc_222) (cI_use h (fun r4 s4 M4 h => (pn 61 rfl ?_)))
          have k1 : ∀ (z1 : Int32) (z1e : z1 = ((if 0 < r4 then 0 else 3) : Int32)), wM_whyFetch d 69 [.ref 159, .long x1, .null, .long x2, .null, .int (x1.toInt32), .int (x2.toInt32)] [.int z1] s4 M4 Q := by
            intro z1 z1e
            subst z1e
            exact s_ireturn (st := []) (by decide +kernel) (Or.inl rfl) ⟨_, rfl, s4, rfl, h⟩
          refine s_if_gt (off := 7) (tgt := 68) (by decide +kernel) rfl (fun c5 => ?_) (fun c5 => (pn 64 rfl ?_))
          · refine t_iconst (by decide +kernel) ki_0 (pn 69 rfl ?_)
            exact k1 _ (by simp only [if_pos c5])
          · refine t_iconst (by decide +kernel) ki_3 (pn 65 rfl ?_)
            refine s_goto (off := 4) (tgt := 69) (by decide +kernel) rfl ?_
            exact k1 _ (by simp only [if_neg c5])
      · have h := h.2 c3
        refine t_iconst (by decide +kernel) ki_2 (pn 37 rfl ?_)
        exact s_ireturn (st := []) (by decide +kernel) (Or.inl rfl) ⟨_, rfl, s3, rfl, h⟩
    · have h := h.1 c2
      refine t_iconst (by decide +kernel) ki_1 (pn 17 rfl ?_)
      exact s_ireturn (st := []) (by decide +kernel) (Or.inl rfl) ⟨_, rfl, s2, rfl, h⟩
abbrev wM_officeSet (d pc : Nat) (ls st : List Value) (s : pm_S) (M : pm_M) (Q : Int32 → pm_S → pm_M → Prop) : Prop := wI d prog_14_method_66_code 12 (some .int) false pc ls st s M Q
theorem enM_officeSet {d : Nat} {s : pm_S} {M : pm_M}  {Q : Int32 → pm_S → pm_M → Prop}  (h : wM_officeSet d 4 [.ref 159, .int 0, .int 0] [] s M Q) : cI (d + 1) yM_officeSet [.ref 159] s M Q := by
  refine pm_toI (by decide) (Nat.le_of_ble_eq_true rfl) ?_
  show wM_officeSet d 0 [.ref 159, .null, .null] [] s M Q
  refine t_iconst (by decide +kernel) ki_0 (pn 1 rfl ?_)
  refine s_istore_n (i := 1) (by decide +kernel) (Nat.le_of_ble_eq_true rfl) (pn 2 rfl (t_store (ls' := [.ref 159, .int 0, .null]) rfl ?_))
  refine t_iconst (by decide +kernel) ki_0 (pn 3 rfl ?_)
  refine s_istore_n (i := 2) (by decide +kernel) (Nat.le_of_ble_eq_true rfl) (pn 4 rfl (t_store (ls' := [.ref 159, .int 0, .int 0]) rfl ?_))
  exact h
theorem sgM_officeSet_4 {d : Nat} {s : pm_S} {M : pm_M} {l1 : Int32} {l2 : Int32} {Q : Int32 → pm_S → pm_M → Prop}  (h : ((((M.1 160 2) ≤ l2) → Q l1 s M) ∧ (¬ ((M.1 160 2) ≤ l2) → vp_in ((50 : Int32) + l2) 3870 ∧ (∀ v1 : Int32, v1 = l1 ||| ((if (M.1 160 ((50 : Int32) + l2).toNatClampNeg) = 99 then ((1 : Int32) <<< (l2 &&& 31)) else 0) : Int32) → wM_officeSet d 4 [.ref 159, .int v1, .int (l2 + 1)] [] s M Q)))) : wM_officeSet d 4 [.ref 159, .int l1, .int l2] [] s M Q := by
  refine s_iload_n (i := 2) (by decide +kernel) rfl (pn 5 rfl ?_)
  refine s_aload_n (i := 0) (by decide +kernel) rfl (pn 6 rfl ?_)
  refine s_getfield (v := .ref 160) (by decide +kernel) fr_12_13 lq_159 (congrArg Prod.fst sh_159) (fv_ref pf_159_1) (pn 9 rfl ?_)
  refine t_iconst (by decide +kernel) ki_2 (pn 10 rfl ?_)
  refine t_iaload (v := M.1 160 2) (by decide +kernel) ⟨Or.inl lq_160, congrArg Prod.fst sh_160⟩ (al_in sh_160 (vp_lit (n := 3870) tn_2 (by decide) (by decide))) (by rw [tn_2] <;> rfl) (pn 11 rfl ?_)
  refine s_icmp_ge (off := 33) (tgt := 44) (by decide +kernel) rfl (fun c1 => ?_) (fun c1 => (pn 14 rfl ?_))
  · have h := h.1 c1
    refine s_iload_n (i := 1) (by decide +kernel) rfl (pn 45 rfl ?_)
    exact s_ireturn (st := []) (by decide +kernel) (Or.inl rfl) ⟨_, rfl, s, rfl, h⟩
  · have h := h.2 c1
    refine s_iload_n (i := 1) (by decide +kernel) rfl (pn 15 rfl ?_)
    refine s_aload_n (i := 0) (by decide +kernel) rfl (pn 16 rfl ?_)
    refine s_getfield (v := .ref 160) (by decide +kernel) fr_12_13 lq_159 (congrArg Prod.fst sh_159) (fv_ref pf_159_1) (pn 19 rfl ?_)
    refine t_bipush (by decide +kernel) kb_50 (pn 21 rfl ?_)
    refine s_iload_n (i := 2) (by decide +kernel) rfl (pn 22 rfl ?_)
    refine s_iadd (by decide +kernel) (pn 23 rfl ?_)
    obtain ⟨b1, h⟩ := h
    refine t_iaload (v := M.1 160 ((50 : Int32) + l2).toNatClampNeg) (by decide +kernel) ⟨Or.inl lq_160, congrArg Prod.fst sh_160⟩ (al_in sh_160 b1) rfl (pn 24 rfl ?_)
    refine t_bipush (by decide +kernel) kb_99 (pn 26 rfl ?_)
    have k1 : ∀ (z1 : Int32) (z1e : z1 = ((if (M.1 160 ((50 : Int32) + l2).toNatClampNeg) = 99 then ((1 : Int32) <<< (l2 &&& 31)) else 0) : Int32)), wM_officeSet d 36 [.ref 159, .int l1, .int l2] [.int z1, .int l1] s M Q := by
      intro z1 z1e
      subst z1e
      refine s_ior (by decide +kernel) (pn 37 rfl ?_)
      obtain ⟨v1, ev1⟩ : ∃ zz : Int32, zz = l1 ||| ((if (M.1 160 ((50 : Int32) + l2).toNatClampNeg) = 99 then ((1 : Int32) <<< (l2 &&& 31)) else 0) : Int32) := ⟨_, rfl⟩
      have h := h v1 ev1
      rw [← ev1]
      refine s_istore_n (i := 1) (by decide +kernel) (Nat.le_of_ble_eq_true rfl) (pn 38 rfl (t_store (ls' := [.ref 159, .int v1, .int l2]) rfl ?_))
      refine t_iinc (i := 2) (n := 1) (ls' := [.ref 159, .int v1, .int (l2 + 1)]) (by decide +kernel) rfl (Nat.le_of_ble_eq_true rfl) kn_1 rfl (pn 41 rfl ?_)
      refine s_goto (off := -37) (tgt := 4) (by decide +kernel) rfl ?_
      exact h
    refine t_icmp_ne (off := 9) (tgt := 35) (by decide +kernel) rfl (fun c2 => ?_) (fun c2 => (pn 29 rfl ?_))
    · refine t_iconst (by decide +kernel) ki_0 (pn 36 rfl ?_)
      exact k1 _ (by simp only [if_neg c2])
    · refine t_iconst (by decide +kernel) ki_1 (pn 30 rfl ?_)
      refine s_iload_n (i := 2) (by decide +kernel) rfl (pn 31 rfl ?_)
      refine s_ishl (by decide +kernel) (pn 32 rfl ?_)
      refine s_goto (off := 4) (tgt := 36) (by decide +kernel) rfl ?_
      exact k1 _ (by simp only [if_pos c2])
abbrev wM_bitsOf (d pc : Nat) (ls st : List Value) (s : pm_S) (M : pm_M) (Q : Int32 → pm_S → pm_M → Prop) : Prop := wI d prog_14_method_39_code 12 (some .int) false pc ls st s M Q
theorem enM_bitsOf {d : Nat} {s : pm_S} {M : pm_M} {x1 : Int32} {Q : Int32 → pm_S → pm_M → Prop}  (h : wM_bitsOf d 4 [.int x1, .int 0, .int 0] [] s M Q) : cI (d + 1) yM_bitsOf [.int x1] s M Q := by
  refine pm_toI (by decide) (Nat.le_of_ble_eq_true rfl) ?_
  show wM_bitsOf d 0 [.int x1, .null, .null] [] s M Q
  refine t_iconst (by decide +kernel) ki_0 (pn 1 rfl ?_)
  refine s_istore_n (i := 1) (by decide +kernel) (Nat.le_of_ble_eq_true rfl) (pn 2 rfl (t_store (ls' := [.int x1, .int 0, .null]) rfl ?_))
  refine t_iconst (by decide +kernel) ki_0 (pn 3 rfl ?_)
  refine s_istore_n (i := 2) (by decide +kernel) (Nat.le_of_ble_eq_true rfl) (pn 4 rfl (t_store (ls' := [.int x1, .int 0, .int 0]) rfl ?_))
  exact h
theorem sgM_bitsOf_4 {d : Nat} {s : pm_S} {M : pm_M} {l0 : Int32} {l1 : Int32} {l2 : Int32} {Q : Int32 → pm_S → pm_M → Prop}  (h : (((10 ≤ l2) → Q l1 s M) ∧ (¬ (10 ≤ l2) → wM_bitsOf d 4 [.int l0, .int (l1 + ((l0 >>> (l2 &&& 31)) &&& 1)), .int (l2 + 1)] [] s M Q))) : wM_bitsOf d 4 [.int l0, .int l1, .int l2] [] s M Q := by
  refine s_iload_n (i := 2) (by decide +kernel) rfl (pn 5 rfl ?_)
  refine t_bipush (by decide +kernel) kb_10 (pn 7 rfl ?_)
  refine s_icmp_ge (off := 17) (tgt := 24) (by decide +kernel) rfl (fun c1 => ?_) (fun c1 => (pn 10 rfl ?_))
  · have h := h.1 c1
    refine s_iload_n (i := 1) (by decide +kernel) rfl (pn 25 rfl ?_)
    exact s_ireturn (st := []) (by decide +kernel) (Or.inl rfl) ⟨_, rfl, s, rfl, h⟩
  · have h := h.2 c1
    refine s_iload_n (i := 1) (by decide +kernel) rfl (pn 11 rfl ?_)
    refine s_iload_n (i := 0) (by decide +kernel) rfl (pn 12 rfl ?_)
    refine s_iload_n (i := 2) (by decide +kernel) rfl (pn 13 rfl ?_)
    refine s_ishr (by decide +kernel) (pn 14 rfl ?_)
    refine t_iconst (by decide +kernel) ki_1 (pn 15 rfl ?_)
    refine s_iand (by decide +kernel) (pn 16 rfl ?_)
    refine s_iadd (by decide +kernel) (pn 17 rfl ?_)
    refine s_istore_n (i := 1) (by decide +kernel) (Nat.le_of_ble_eq_true rfl) (pn 18 rfl (t_store (ls' := [.int l0, .int (l1 + ((l0 >>> (l2 &&& 31)) &&& 1)), .int l2]) rfl ?_))
    refine t_iinc (i := 2) (n := 1) (ls' := [.int l0, .int (l1 + ((l0 >>> (l2 &&& 31)) &&& 1)), .int (l2 + 1)]) (by decide +kernel) rfl (Nat.le_of_ble_eq_true rfl) kn_1 rfl (pn 21 rfl ?_)
    refine s_goto (off := -17) (tgt := 4) (by decide +kernel) rfl ?_
    exact h
abbrev wM_open (d pc : Nat) (ls st : List Value) (s : pm_S) (M : pm_M) (Q : Int32 → pm_S → pm_M → Prop) : Prop := wI d prog_14_method_68_code 12 (some .int) false pc ls st s M Q
theorem enM_open {d : Nat} {s : pm_S} {M : pm_M} {x1 : Int32} {Q : Int32 → pm_S → pm_M → Prop}  (h : cI d yM_whyOpen [.ref 159, .long (x1.toInt64)] s (pm_si M 159 0 0) (fun r1 s1 M1 => (((r1 = 0) → cV d yM_keeps [.ref 159] s1 M1 (fun s2 M2 => cV d yM_opens1 [.ref 159, .int x1] s2 M2 (fun s3 M3 => cV d yM_notes [.ref 159] s3 M3 (fun s4 M4 => vp_in ((72 : Int32) + x1) 3870 ∧ Q (M4.1 160 ((72 : Int32) + x1).toNatClampNeg) s4 M4)))) ∧ (¬ (r1 = 0) → Q (((-10) : Int32) - r1) s1 M1)))) : cI (d + 1) yM_open [.ref 159, .int x1] s M Q := by
  refine pm_toI (by decide) (Nat.le_of_ble_eq_true rfl) ?_
  show wM_open d 0 [.ref 159, .int x1, .null] [] s M Q
  refine s_aload_n (i := 0) (by decide +kernel) rfl (pn 1 rfl ?_)
  refine t_iconst (by decide +kernel) ki_0 (pn 2 rfl ?_)
  refine s_putfieldI (by decide +kernel) fr_12_1 lq_159 (congrArg Prod.fst sh_159) (fun q => by cases q) (Or.inl rfl) (pn 5 rfl ?_)
  refine s_aload_n (i := 0) (by decide +kernel) rfl (pn 6 rfl ?_)
  refine s_iload_n (i := 1) (by decide +kernel) rfl (pn 7 rfl ?_)
  refine s_i2l (by decide +kernel) (pn 8 rfl ?_)
  refine s_callvI [.long (x1.toInt64)] rfl (by decide +kernel) mv_12_300 np_239 (Nat.le_of_ble_eq_true rfl) lq_159 ((congrArg Prod.fst sh_159).trans oc_239) (cI_use h (fun r1 s1 M1 h => (pn 11 rfl ?_)))
  refine s_istore_n (i := 2) (by decide +kernel) (Nat.le_of_ble_eq_true rfl) (pn 12 rfl (t_store (ls' := [.ref 159, .int x1, .int r1]) rfl ?_))
  refine s_iload_n (i := 2) (by decide +kernel) rfl (pn 13 rfl ?_)
  refine s_if_eq (off := 8) (tgt := 21) (by decide +kernel) rfl (fun c1 => ?_) (fun c1 => (pn 16 rfl ?_))
  · have h := h.1 c1
    refine s_aload_n (i := 0) (by decide +kernel) rfl (pn 22 rfl ?_)
    refine s_callvV [] rfl (by decide +kernel) mv_12_281 np_229 (Nat.le_of_ble_eq_true rfl) lq_159 ((congrArg Prod.fst sh_159).trans oc_229) (cV_use h (fun s2 M2 h => (pn 25 rfl ?_)))
    refine s_aload_n (i := 0) (by decide +kernel) rfl (pn 26 rfl ?_)
    refine s_iload_n (i := 1) (by decide +kernel) rfl (pn 27 rfl ?_)
    refine s_callvV [.int x1] rfl (by decide +kernel) mv_12_303 np_240 (Nat.le_of_ble_eq_true rfl) lq_159 ((congrArg Prod.fst sh_159).trans oc_240) (cV_use h (fun s3 M3 h => (pn 30 rfl ?_)))
    refine s_aload_n (i := 0) (by decide +kernel) rfl (pn 31 rfl ?_)
    refine s_callvV [] rfl (by decide +kernel) mv_12_284 np_230 (Nat.le_of_ble_eq_true rfl) lq_159 ((congrArg Prod.fst sh_159).trans oc_230) (cV_use h (fun s4 M4 h => (pn 34 rfl ?_)))
    refine s_aload_n (i := 0) (by decide +kernel) rfl (pn 35 rfl ?_)
    refine s_getfield (v := .ref 160) (by decide +kernel) fr_12_13 lq_159 (congrArg Prod.fst sh_159) (fv_ref pf_159_1) (pn 38 rfl ?_)
    refine t_bipush (by decide +kernel) kb_72 (pn 40 rfl ?_)
    refine s_iload_n (i := 1) (by decide +kernel) rfl (pn 41 rfl ?_)
    refine s_iadd (by decide +kernel) (pn 42 rfl ?_)
    obtain ⟨b1, h⟩ := h
    refine t_iaload (v := M4.1 160 ((72 : Int32) + x1).toNatClampNeg) (by decide +kernel) ⟨Or.inl lq_160, congrArg Prod.fst sh_160⟩ (al_in sh_160 b1) rfl (pn 43 rfl ?_)
    exact s_ireturn (st := []) (by decide +kernel) (Or.inl rfl) ⟨_, rfl, s4, rfl, h⟩
  · have h := h.2 c1
    refine t_bipush (by decide +kernel) kb_m10 (pn 18 rfl ?_)
    refine s_iload_n (i := 2) (by decide +kernel) rfl (pn 19 rfl ?_)
    refine s_isub (by decide +kernel) (pn 20 rfl ?_)
    exact s_ireturn (st := []) (by decide +kernel) (Or.inl rfl) ⟨_, rfl, s1, rfl, h⟩
abbrev wM_whyOpen (d pc : Nat) (ls st : List Value) (s : pm_S) (M : pm_M) (Q : Int32 → pm_S → pm_M → Prop) : Prop := wI d prog_14_method_54_code 12 (some .int) false pc ls st s M Q
theorem enM_whyOpen {d : Nat} {s : pm_S} {M : pm_M} {x1 : Int64} {Q : Int32 → pm_S → pm_M → Prop}  (h : cI d yM_whyHolds [.ref 159, .long x1] s M (fun r1 s1 M1 => (((r1 = 0) → vp_in ((72 : Int32) + (x1.toInt32)) 3870 ∧ cI d yM_heldBy [.ref 159, .int (x1.toInt32)] s1 M1 (fun r2 s2 M2 => cI d yM_burdenNow [.ref 159, .int (x1.toInt32), .int r2] s2 M2 (fun r3 s3 M3 => vp_in ((41 : Int32) + (x1.toInt32)) 3870 ∧ Q ((if ((M1.1 160 ((72 : Int32) + (x1.toInt32)).toNatClampNeg) + r3) ≤ (M3.1 160 ((41 : Int32) + (x1.toInt32)).toNatClampNeg) then 0 else 3) : Int32) s3 M3))) ∧ (¬ (r1 = 0) → Q r1 s1 M1)))) : cI (d + 1) yM_whyOpen [.ref 159, .long x1] s M Q := by
  refine pm_toI (by decide) (Nat.le_of_ble_eq_true rfl) ?_
  show wM_whyOpen d 0 [.ref 159, .long x1, .null, .null, .null] [] s M Q
  refine s_aload_n (i := 0) (by decide +kernel) rfl (pn 1 rfl ?_)
  refine s_lload_n (i := 1) (by decide +kernel) rfl (pn 2 rfl ?_)
  refine s_callvI [.long x1] rfl (by decide +kernel) mv_12_263 np_232 (Nat.le_of_ble_eq_true rfl) lq_159 ((congrArg Prod.fst sh_159).trans oc_232) (cI_use h (fun r1 s1 M1 h => (pn 5 rfl ?_)))
  refine s_istore_n (i := 3) (by decide +kernel) (Nat.le_of_ble_eq_true rfl) (pn 6 rfl (t_store (ls' := [.ref 159, .long x1, .null, .int r1, .null]) rfl ?_))
  refine s_iload_n (i := 3) (by decide +kernel) rfl (pn 7 rfl ?_)
  refine s_if_eq (off := 5) (tgt := 12) (by decide +kernel) rfl (fun c1 => ?_) (fun c1 => (pn 10 rfl ?_))
  · have h := h.1 c1
    refine s_lload_n (i := 1) (by decide +kernel) rfl (pn 13 rfl ?_)
    refine s_l2i (by decide +kernel) (pn 14 rfl ?_)
    refine s_istore (i := 4) (by decide +kernel) (Nat.le_of_ble_eq_true rfl) (pn 16 rfl (t_store (ls' := [.ref 159, .long x1, .null, .int r1, .int (x1.toInt32)]) rfl ?_))
    refine s_aload_n (i := 0) (by decide +kernel) rfl (pn 17 rfl ?_)
    refine s_getfield (v := .ref 160) (by decide +kernel) fr_12_13 lq_159 (congrArg Prod.fst sh_159) (fv_ref pf_159_1) (pn 20 rfl ?_)
    refine t_bipush (by decide +kernel) kb_72 (pn 22 rfl ?_)
    refine s_iload (i := 4) (by decide +kernel) rfl (pn 24 rfl ?_)
    refine s_iadd (by decide +kernel) (pn 25 rfl ?_)
    obtain ⟨b1, h⟩ := h
    refine t_iaload (v := M1.1 160 ((72 : Int32) + (x1.toInt32)).toNatClampNeg) (by decide +kernel) ⟨Or.inl lq_160, congrArg Prod.fst sh_160⟩ (al_in sh_160 b1) rfl (pn 26 rfl ?_)
    refine s_aload_n (i := 0) (by decide +kernel) rfl (pn 27 rfl ?_)
    refine s_iload (i := 4) (by decide +kernel) rfl (pn 29 rfl ?_)
    refine s_aload_n (i := 0) (by decide +kernel) rfl (pn 30 rfl ?_)
    refine s_iload (i := 4) (by decide +kernel) rfl (pn 32 rfl ?_)
    refine s_callvI [.int (x1.toInt32)] rfl (by decide +kernel) mv_12_253 np_220 (Nat.le_of_ble_eq_true rfl) lq_159 ((congrArg Prod.fst sh_159).trans oc_220) (cI_use h (fun r2 s2 M2 h => (pn 35 rfl ?_)))
    refine s_callvI [.int (x1.toInt32), .int r2] rfl (by decide +kernel) mv_12_260 np_226 (Nat.le_of_ble_eq_true rfl) lq_159 ((congrArg Prod.fst sh_159).trans oc_226) (cI_use h (fun r3 s3 M3 h => (pn 38 rfl ?_)))
    refine s_iadd (by decide +kernel) (pn 39 rfl ?_)
    refine s_aload_n (i := 0) (by decide +kernel) rfl (pn 40 rfl ?_)
    refine s_getfield (v := .ref 160) (by decide +kernel) fr_12_13 lq_159 (congrArg Prod.fst sh_159) (fv_ref pf_159_1) (pn 43 rfl ?_)
    refine t_bipush (by decide +kernel) kb_41 (pn 45 rfl ?_)
    refine s_iload (i := 4) (by decide +kernel) rfl (pn 47 rfl ?_)
    refine s_iadd (by decide +kernel) (pn 48 rfl ?_)
    obtain ⟨b2, h⟩ := h
    refine t_iaload (v := M3.1 160 ((41 : Int32) + (x1.toInt32)).toNatClampNeg) (by decide +kernel) ⟨Or.inl lq_160, congrArg Prod.fst sh_160⟩ (al_in sh_160 b2) rfl (pn 49 rfl ?_)
    have k1 : ∀ (z1 : Int32) (z1e : z1 = ((if ((M1.1 160 ((72 : Int32) + (x1.toInt32)).toNatClampNeg) + r3) ≤ (M3.1 160 ((41 : Int32) + (x1.toInt32)).toNatClampNeg) then 0 else 3) : Int32)), wM_whyOpen d 57 [.ref 159, .long x1, .null, .int r1, .int (x1.toInt32)] [.int z1] s3 M3 Q := by
      intro z1 z1e
      subst z1e
      exact s_ireturn (st := []) (by decide +kernel) (Or.inl rfl) ⟨_, rfl, s3, rfl, h⟩
    refine s_icmp_le (off := 7) (tgt := 56) (by decide +kernel) rfl (fun c2 => ?_) (fun c2 => (pn 52 rfl ?_))
    · refine t_iconst (by decide +kernel) ki_0 (pn 57 rfl ?_)
      exact k1 _ (by simp only [if_pos c2])
    · refine t_iconst (by decide +kernel) ki_3 (pn 53 rfl ?_)
      refine s_goto (off := 4) (tgt := 57) (by decide +kernel) rfl ?_
      exact k1 _ (by simp only [if_neg c2])
  · have h := h.2 c1
    refine s_iload_n (i := 3) (by decide +kernel) rfl (pn 11 rfl ?_)
    exact s_ireturn (st := []) (by decide +kernel) (Or.inl rfl) ⟨_, rfl, s1, rfl, h⟩
abbrev wM_opens1 (d pc : Nat) (ls st : List Value) (s : pm_S) (M : pm_M) (Q : pm_S → pm_M → Prop) : Prop := wV d prog_14_method_58_code 12 none false pc ls st s M Q
theorem enM_opens1 {d : Nat} {s : pm_S} {M : pm_M} {x1 : Int32} {Q : pm_S → pm_M → Prop}  (h : cI d yM_heldBy [.ref 159, .int x1] s M (fun r1 s1 M1 => vp_in ((72 : Int32) + x1) 3870 ∧ cI d yM_burdenNow [.ref 159, .int x1, .int r1] s1 M1 (fun r2 s2 M2 => vp_in ((72 : Int32) + x1) 3870 ∧ vp_in ((58 : Int32) + r1) 3870 ∧ vp_in ((58 : Int32) + r1) 3870 ∧ Q s2 (pm_si (pm_si M2 160 ((72 : Int32) + x1).toNatClampNeg ((M1.1 160 ((72 : Int32) + x1).toNatClampNeg) + r2)) 160 ((58 : Int32) + r1).toNatClampNeg (((pm_si M2 160 ((72 : Int32) + x1).toNatClampNeg ((M1.1 160 ((72 : Int32) + x1).toNatClampNeg) + r2)).1 160 ((58 : Int32) + r1).toNatClampNeg) + 1))))) : cV (d + 1) yM_opens1 [.ref 159, .int x1] s M Q := by
  refine pm_toV (by decide) (Nat.le_of_ble_eq_true rfl) ?_
  show wM_opens1 d 0 [.ref 159, .int x1, .null] [] s M Q
  refine s_aload_n (i := 0) (by decide +kernel) rfl (pn 1 rfl ?_)
  refine s_iload_n (i := 1) (by decide +kernel) rfl (pn 2 rfl ?_)
  refine s_callvI [.int x1] rfl (by decide +kernel) mv_12_253 np_220 (Nat.le_of_ble_eq_true rfl) lq_159 ((congrArg Prod.fst sh_159).trans oc_220) (cI_use h (fun r1 s1 M1 h => (pn 5 rfl ?_)))
  refine s_istore_n (i := 2) (by decide +kernel) (Nat.le_of_ble_eq_true rfl) (pn 6 rfl (t_store (ls' := [.ref 159, .int x1, .int r1]) rfl ?_))
  refine s_aload_n (i := 0) (by decide +kernel) rfl (pn 7 rfl ?_)
  refine s_getfield (v := .ref 160) (by decide +kernel) fr_12_13 lq_159 (congrArg Prod.fst sh_159) (fv_ref pf_159_1) (pn 10 rfl ?_)
  refine t_bipush (by decide +kernel) kb_72 (pn 12 rfl ?_)
  refine s_iload_n (i := 1) (by decide +kernel) rfl (pn 13 rfl ?_)
  refine s_iadd (by decide +kernel) (pn 14 rfl ?_)
  refine s_dup2 (by decide +kernel) rfl rfl (pn 15 rfl ?_)
  obtain ⟨b1, h⟩ := h
  refine t_iaload (v := M1.1 160 ((72 : Int32) + x1).toNatClampNeg) (by decide +kernel) ⟨Or.inl lq_160, congrArg Prod.fst sh_160⟩ (al_in sh_160 b1) rfl (pn 16 rfl ?_)
  refine s_aload_n (i := 0) (by decide +kernel) rfl (pn 17 rfl ?_)
  refine s_iload_n (i := 1) (by decide +kernel) rfl (pn 18 rfl ?_)
  refine s_iload_n (i := 2) (by decide +kernel) rfl (pn 19 rfl ?_)
  refine s_callvI [.int x1, .int r1] rfl (by decide +kernel) mv_12_260 np_226 (Nat.le_of_ble_eq_true rfl) lq_159 ((congrArg Prod.fst sh_159).trans oc_226) (cI_use h (fun r2 s2 M2 h => (pn 22 rfl ?_)))
  refine s_iadd (by decide +kernel) (pn 23 rfl ?_)
  obtain ⟨b2, h⟩ := h
  refine t_iastore (k := ((72 : Int32) + x1).toNatClampNeg) (by decide +kernel) ⟨lq_160, congrArg Prod.fst sh_160⟩ (al_in sh_160 b2) rfl (pn 24 rfl ?_)
  refine s_aload_n (i := 0) (by decide +kernel) rfl (pn 25 rfl ?_)
  refine s_getfield (v := .ref 160) (by decide +kernel) fr_12_13 lq_159 (congrArg Prod.fst sh_159) (fv_ref pf_159_1) (pn 28 rfl ?_)
  refine t_bipush (by decide +kernel) kb_58 (pn 30 rfl ?_)
  refine s_iload_n (i := 2) (by decide +kernel) rfl (pn 31 rfl ?_)
  refine s_iadd (by decide +kernel) (pn 32 rfl ?_)
  refine s_dup2 (by decide +kernel) rfl rfl (pn 33 rfl ?_)
  obtain ⟨b3, h⟩ := h
  refine t_iaload (v := (pm_si M2 160 ((72 : Int32) + x1).toNatClampNeg ((M1.1 160 ((72 : Int32) + x1).toNatClampNeg) + r2)).1 160 ((58 : Int32) + r1).toNatClampNeg) (by decide +kernel) ⟨Or.inl lq_160, congrArg Prod.fst sh_160⟩ (al_in sh_160 b3) rfl (pn 34 rfl ?_)
  refine t_iconst (by decide +kernel) ki_1 (pn 35 rfl ?_)
  refine s_iadd (by decide +kernel) (pn 36 rfl ?_)
  obtain ⟨b4, h⟩ := h
  refine t_iastore (k := ((58 : Int32) + r1).toNatClampNeg) (by decide +kernel) ⟨lq_160, congrArg Prod.fst sh_160⟩ (al_in sh_160 b4) rfl (pn 37 rfl ?_)
  exact s_return (st := []) (by decide +kernel) rfl ⟨rfl, s2, rfl, h⟩
