abbrev wW_clear (d pc : Nat) (ls st : List Value) (s : pm_S) (M : pm_M) (Q : pm_S → pm_M → Prop) : Prop := wV d prog_3_method_2_code 1 none false pc ls st s M Q
theorem enW_clear {d : Nat} {s : pm_S} {M : pm_M}  {Q : pm_S → pm_M → Prop}  (h : Q s (pm_si (pm_si (pm_si (pm_si (pm_si M 10 3 0) 10 4 0) 10 5 0) 10 6 0) 10 7 0)) : cV (d + 1) yW_clear [.ref 10] s M Q := by
  refine pm_toV (by decide) (Nat.le_of_ble_eq_true rfl) ?_
  show wW_clear d 0 [.ref 10] [] s M Q
  refine s_aload_n (i := 0) (by decide +kernel) rfl (pn 1 rfl ?_)
  refine t_iconst (by decide +kernel) ki_0 (pn 2 rfl ?_)
  refine s_putfieldI (by decide +kernel) fr_1_21 lq_10 (congrArg Prod.fst sh_10) (fun q => by cases q) (Or.inl rfl) (pn 5 rfl ?_)
  refine s_aload_n (i := 0) (by decide +kernel) rfl (pn 6 rfl ?_)
  refine t_iconst (by decide +kernel) ki_0 (pn 7 rfl ?_)
  refine s_putfieldI (by decide +kernel) fr_1_25 lq_10 (congrArg Prod.fst sh_10) (fun q => by cases q) (Or.inl rfl) (pn 10 rfl ?_)
  refine s_aload_n (i := 0) (by decide +kernel) rfl (pn 11 rfl ?_)
  refine t_iconst (by decide +kernel) ki_0 (pn 12 rfl ?_)
  refine s_putfieldI (by decide +kernel) fr_1_28 lq_10 (congrArg Prod.fst sh_10) (fun q => by cases q) (Or.inl rfl) (pn 15 rfl ?_)
  refine s_aload_n (i := 0) (by decide +kernel) rfl (pn 16 rfl ?_)
  refine t_iconst (by decide +kernel) ki_0 (pn 17 rfl ?_)
  refine s_putfieldI (by decide +kernel) fr_1_31 lq_10 (congrArg Prod.fst sh_10) (fun q => by cases q) (Or.inl rfl) (pn 20 rfl ?_)
  refine s_aload_n (i := 0) (by decide +kernel) rfl (pn 21 rfl ?_)
  refine t_iconst (by decide +kernel) ki_0 (pn 22 rfl ?_)
  refine s_putfieldI (by decide +kernel) fr_1_34 lq_10 (congrArg Prod.fst sh_10) (fun q => by cases q) (Or.inl rfl) (pn 25 rfl ?_)
  exact s_return (st := []) (by decide +kernel) rfl ⟨rfl, s, rfl, h⟩
abbrev wW_add (d pc : Nat) (ls st : List Value) (s : pm_S) (M : pm_M) (Q : Int32 → pm_S → pm_M → Prop) : Prop := wI d prog_3_method_4_code 1 (some .int) false pc ls st s M Q
theorem enW_add {d : Nat} {s : pm_S} {M : pm_M} {x1 : Int32} {x2 : Int32} {Q : Int32 → pm_S → pm_M → Prop}  (h : (((900 ≤ (M.1 10 3)) → Q (M.1 10 3) s M) ∧ (¬ (900 ≤ (M.1 10 3)) → vp_in (M.1 10 3) 900 ∧ Q (M.1 10 3) s (pm_si (pm_si M 11 (M.1 10 3).toNatClampNeg (x1 ||| (x2 <<< ((4 : Int32) &&& 31)))) 10 3 ((M.1 10 3) + 1))))) : cI (d + 1) yW_add [.ref 10, .int x1, .int x2] s M Q := by
  refine pm_toI (by decide) (Nat.le_of_ble_eq_true rfl) ?_
  show wW_add d 0 [.ref 10, .int x1, .int x2, .null] [] s M Q
  refine s_aload_n (i := 0) (by decide +kernel) rfl (pn 1 rfl ?_)
  refine s_getfield (v := .int (M.1 10 3)) (by decide +kernel) fr_1_21 lq_10 (congrArg Prod.fst sh_10) rfl (pn 4 rfl ?_)
  refine s_istore_n (i := 3) (by decide +kernel) (Nat.le_of_ble_eq_true rfl) (pn 5 rfl (t_store (ls' := [.ref 10, .int x1, .int x2, .int (M.1 10 3)]) rfl ?_))
  refine s_aload_n (i := 0) (by decide +kernel) rfl (pn 6 rfl ?_)
  refine s_getfield (v := .int (M.1 10 3)) (by decide +kernel) fr_1_21 lq_10 (congrArg Prod.fst sh_10) rfl (pn 9 rfl ?_)
  refine t_sipush (by decide +kernel) ks_900 (pn 12 rfl ?_)
  refine s_icmp_ge (off := 27) (tgt := 39) (by decide +kernel) rfl (fun c1 => ?_) (fun c1 => (pn 15 rfl ?_))
  · have h := h.1 c1
    refine s_iload_n (i := 3) (by decide +kernel) rfl (pn 40 rfl ?_)
    exact s_ireturn (st := []) (by decide +kernel) (Or.inl rfl) ⟨_, rfl, s, rfl, h⟩
  · have h := h.2 c1
    refine s_aload_n (i := 0) (by decide +kernel) rfl (pn 16 rfl ?_)
    refine s_getfield (v := .ref 11) (by decide +kernel) fr_1_9 lq_10 (congrArg Prod.fst sh_10) (fv_ref pf_10_0) (pn 19 rfl ?_)
    refine s_aload_n (i := 0) (by decide +kernel) rfl (pn 20 rfl ?_)
    refine s_getfield (v := .int (M.1 10 3)) (by decide +kernel) fr_1_21 lq_10 (congrArg Prod.fst sh_10) rfl (pn 23 rfl ?_)
    refine s_iload_n (i := 1) (by decide +kernel) rfl (pn 24 rfl ?_)
    refine s_iload_n (i := 2) (by decide +kernel) rfl (pn 25 rfl ?_)
    refine t_iconst (by decide +kernel) ki_4 (pn 26 rfl ?_)
    refine s_ishl (by decide +kernel) (pn 27 rfl ?_)
    refine s_ior (by decide +kernel) (pn 28 rfl ?_)
    obtain ⟨b1, h⟩ := h
    refine t_iastore (k := (M.1 10 3).toNatClampNeg) (by decide +kernel) ⟨lq_11, congrArg Prod.fst sh_11⟩ (al_in sh_11 b1) rfl (pn 29 rfl ?_)
    refine s_aload_n (i := 0) (by decide +kernel) rfl (pn 30 rfl ?_)
    refine s_dup (by decide +kernel) rfl (pn 31 rfl ?_)
    refine s_getfield (v := .int (M.1 10 3)) (by decide +kernel) fr_1_21 lq_10 (congrArg Prod.fst sh_10) rfl (pn 34 rfl ?_)
    refine t_iconst (by decide +kernel) ki_1 (pn 35 rfl ?_)
    refine s_iadd (by decide +kernel) (pn 36 rfl ?_)
    refine s_putfieldI (by decide +kernel) fr_1_21 lq_10 (congrArg Prod.fst sh_10) (fun q => by cases q) (Or.inl rfl) (pn 39 rfl ?_)
    refine s_iload_n (i := 3) (by decide +kernel) rfl (pn 40 rfl ?_)
    exact s_ireturn (st := []) (by decide +kernel) (Or.inl rfl) ⟨_, rfl, s, rfl, h⟩
abbrev wW_aimToEnd (d pc : Nat) (ls st : List Value) (s : pm_S) (M : pm_M) (Q : pm_S → pm_M → Prop) : Prop := wV d prog_3_method_5_code 1 none false pc ls st s M Q
theorem enW_aimToEnd {d : Nat} {s : pm_S} {M : pm_M} {x1 : Int32} {Q : pm_S → pm_M → Prop}  (h : (((x1 < 0) → Q s M) ∧ (¬ (x1 < 0) → ((((M.1 10 3) ≤ x1) → Q s M) ∧ (¬ ((M.1 10 3) ≤ x1) → vp_in x1 900 ∧ vp_in x1 900 ∧ Q s (pm_si M 11 x1.toNatClampNeg (((M.1 11 x1.toNatClampNeg) &&& 15) ||| ((M.1 10 3) <<< ((4 : Int32) &&& 31))))))))) : cV (d + 1) yW_aimToEnd [.ref 10, .int x1] s M Q := by
  refine pm_toV (by decide) (Nat.le_of_ble_eq_true rfl) ?_
  show wW_aimToEnd d 0 [.ref 10, .int x1] [] s M Q
  refine s_iload_n (i := 1) (by decide +kernel) rfl (pn 1 rfl ?_)
  refine s_if_lt (off := 33) (tgt := 34) (by decide +kernel) rfl (fun c1 => ?_) (fun c1 => (pn 4 rfl ?_))
  · have h := h.1 c1
    exact s_return (st := []) (by decide +kernel) rfl ⟨rfl, s, rfl, h⟩
  · have h := h.2 c1
    refine s_iload_n (i := 1) (by decide +kernel) rfl (pn 5 rfl ?_)
    refine s_aload_n (i := 0) (by decide +kernel) rfl (pn 6 rfl ?_)
    refine s_getfield (v := .int (M.1 10 3)) (by decide +kernel) fr_1_21 lq_10 (congrArg Prod.fst sh_10) rfl (pn 9 rfl ?_)
    refine s_icmp_ge (off := 25) (tgt := 34) (by decide +kernel) rfl (fun c3 => ?_) (fun c3 => (pn 12 rfl ?_))
    · have h := h.1 c3
      exact s_return (st := []) (by decide +kernel) rfl ⟨rfl, s, rfl, h⟩
    · have h := h.2 c3
      refine s_aload_n (i := 0) (by decide +kernel) rfl (pn 13 rfl ?_)
      refine s_getfield (v := .ref 11) (by decide +kernel) fr_1_9 lq_10 (congrArg Prod.fst sh_10) (fv_ref pf_10_0) (pn 16 rfl ?_)
      refine s_iload_n (i := 1) (by decide +kernel) rfl (pn 17 rfl ?_)
      refine s_aload_n (i := 0) (by decide +kernel) rfl (pn 18 rfl ?_)
      refine s_getfield (v := .ref 11) (by decide +kernel) fr_1_9 lq_10 (congrArg Prod.fst sh_10) (fv_ref pf_10_0) (pn 21 rfl ?_)
      refine s_iload_n (i := 1) (by decide +kernel) rfl (pn 22 rfl ?_)
      obtain ⟨b1, h⟩ := h
      refine t_iaload (v := M.1 11 x1.toNatClampNeg) (by decide +kernel) ⟨Or.inl lq_11, congrArg Prod.fst sh_11⟩ (al_in sh_11 b1) rfl (pn 23 rfl ?_)
      refine t_bipush (by decide +kernel) kb_15 (pn 25 rfl ?_)
      refine s_iand (by decide +kernel) (pn 26 rfl ?_)
      refine s_aload_n (i := 0) (by decide +kernel) rfl (pn 27 rfl ?_)
      refine s_getfield (v := .int (M.1 10 3)) (by decide +kernel) fr_1_21 lq_10 (congrArg Prod.fst sh_10) rfl (pn 30 rfl ?_)
      refine t_iconst (by decide +kernel) ki_4 (pn 31 rfl ?_)
      refine s_ishl (by decide +kernel) (pn 32 rfl ?_)
      refine s_ior (by decide +kernel) (pn 33 rfl ?_)
      obtain ⟨b2, h⟩ := h
      refine t_iastore (k := x1.toNatClampNeg) (by decide +kernel) ⟨lq_11, congrArg Prod.fst sh_11⟩ (al_in sh_11 b2) rfl (pn 34 rfl ?_)
      exact s_return (st := []) (by decide +kernel) rfl ⟨rfl, s, rfl, h⟩
abbrev wW_become (d pc : Nat) (ls st : List Value) (s : pm_S) (M : pm_M) (Q : pm_S → pm_M → Prop) : Prop := wV d prog_3_method_3_code 1 none false pc ls st s M Q
theorem enW_become {d : Nat} {s : pm_S} {M : pm_M} {o : Nat} {q : Nat} {Q : pm_S → pm_M → Prop} (ho : isW o) (hq : isW q) (h : cI d ymath_min [.int (M.1 q 3), .int 900] s M (fun r1 s1 M1 => (¬ ((pm_si M1 o 3 r1).1 o 3) < 0) ∧ ((0 : Int32).toNatClampNeg + ((pm_si M1 o 3 r1).1 o 3).toNatClampNeg ≤ 900) ∧ ((0 : Int32).toNatClampNeg + ((pm_si M1 o 3 r1).1 o 3).toNatClampNeg ≤ 900) ∧ (∀ m1 : pm_M, m1 = (pm_ri (pm_si M1 o 3 r1) (o + 1) (va_cpy ((pm_si M1 o 3 r1).1 (q + 1)) ((pm_si M1 o 3 r1).1 (o + 1)) 0 0 ((pm_si M1 o 3 r1).1 o 3).toNatClampNeg)) → Q s1 (pm_si (pm_si (pm_si (pm_si m1 o 4 (m1.1 q 4)) o 5 ((pm_si m1 o 4 (m1.1 q 4)).1 q 5)) o 6 ((pm_si (pm_si m1 o 4 (m1.1 q 4)) o 5 ((pm_si m1 o 4 (m1.1 q 4)).1 q 5)).1 q 6)) o 7 ((pm_si (pm_si (pm_si m1 o 4 (m1.1 q 4)) o 5 ((pm_si m1 o 4 (m1.1 q 4)).1 q 5)) o 6 ((pm_si (pm_si m1 o 4 (m1.1 q 4)) o 5 ((pm_si m1 o 4 (m1.1 q 4)).1 q 5)).1 q 6)).1 q 7))))) : cV (d + 1) yW_become [.ref o, .ref q] s M Q := by
  refine pm_toV (by decide) (Nat.le_of_ble_eq_true rfl) ?_
  show wW_become d 0 [.ref o, .ref q] [] s M Q
  refine s_aload_n (i := 0) (by decide +kernel) rfl (pn 1 rfl ?_)
  refine s_aload_n (i := 1) (by decide +kernel) rfl (pn 2 rfl ?_)
  refine s_getfield (v := .int (M.1 q 3)) (by decide +kernel) fr_1_21 (ltW_0 hq) (congrArg Prod.fst (shW_0 hq)) rfl (pn 5 rfl ?_)
  refine t_sipush (by decide +kernel) ks_900 (pn 8 rfl ?_)
  refine s_callsI [.int (M.1 q 3), .int 900] rfl (by decide +kernel) ms_1_37 np_323 (Nat.le_of_ble_eq_true rfl) (cI_use h (fun r1 s1 M1 h => (pn 11 rfl ?_)))
  refine s_putfieldI (by decide +kernel) fr_1_21 (ltW_0 ho) (congrArg Prod.fst (shW_0 ho)) (fun q => by cases q) (Or.inl rfl) (pn 14 rfl ?_)
  refine s_aload_n (i := 1) (by decide +kernel) rfl (pn 15 rfl ?_)
  refine s_getfield (v := .ref (q + 1)) (by decide +kernel) fr_1_9 (ltW_0 hq) (congrArg Prod.fst (shW_0 hq)) (fv_ref (pfW_0 hq)) (pn 18 rfl ?_)
  refine t_iconst (by decide +kernel) ki_0 (pn 19 rfl ?_)
  refine s_aload_n (i := 0) (by decide +kernel) rfl (pn 20 rfl ?_)
  refine s_getfield (v := .ref (o + 1)) (by decide +kernel) fr_1_9 (ltW_0 ho) (congrArg Prod.fst (shW_0 ho)) (fv_ref (pfW_0 ho)) (pn 23 rfl ?_)
  refine t_iconst (by decide +kernel) ki_0 (pn 24 rfl ?_)
  refine s_aload_n (i := 0) (by decide +kernel) rfl (pn 25 rfl ?_)
  refine s_getfield (v := .int ((pm_si M1 o 3 r1).1 o 3)) (by decide +kernel) fr_1_21 (ltW_0 ho) (congrArg Prod.fst (shW_0 ho)) rfl (pn 28 rfl ?_)
  obtain ⟨b1, h⟩ := h
  obtain ⟨b2, h⟩ := h
  obtain ⟨b3, h⟩ := h
  refine t_arraycopy (k1 := 0) (k2 := 0) (k3 := ((pm_si M1 o 3 r1).1 o 3).toNatClampNeg) (by decide +kernel) ac_1_43 (ltW_1 hq) (ltW_1 ho) (congrArg Prod.fst (shW_1 hq)) (congrArg Prod.fst (shW_1 ho)) (by decide) (by decide) b1 (ac_le (shW_1 hq) b2) (ac_le (shW_1 ho) b3) (Nat.le_of_ble_eq_true rfl) tn_0 tn_0 rfl (pn 31 rfl ?_)
  obtain ⟨m1, em1⟩ : ∃ zz : pm_M, zz = (pm_ri (pm_si M1 o 3 r1) (o + 1) (va_cpy ((pm_si M1 o 3 r1).1 (q + 1)) ((pm_si M1 o 3 r1).1 (o + 1)) 0 0 ((pm_si M1 o 3 r1).1 o 3).toNatClampNeg)) := ⟨_, rfl⟩
  have h := h m1 em1
  rw [← em1]
  refine s_aload_n (i := 0) (by decide +kernel) rfl (pn 32 rfl ?_)
  refine s_aload_n (i := 1) (by decide +kernel) rfl (pn 33 rfl ?_)
  refine s_getfield (v := .int (m1.1 q 4)) (by decide +kernel) fr_1_25 (ltW_0 hq) (congrArg Prod.fst (shW_0 hq)) rfl (pn 36 rfl ?_)
  refine s_putfieldI (by decide +kernel) fr_1_25 (ltW_0 ho) (congrArg Prod.fst (shW_0 ho)) (fun q => by cases q) (Or.inl rfl) (pn 39 rfl ?_)
  refine s_aload_n (i := 0) (by decide +kernel) rfl (pn 40 rfl ?_)
  refine s_aload_n (i := 1) (by decide +kernel) rfl (pn 41 rfl ?_)
  refine s_getfield (v := .int ((pm_si m1 o 4 (m1.1 q 4)).1 q 5)) (by decide +kernel) fr_1_28 (ltW_0 hq) (congrArg Prod.fst (shW_0 hq)) rfl (pn 44 rfl ?_)
  refine s_putfieldI (by decide +kernel) fr_1_28 (ltW_0 ho) (congrArg Prod.fst (shW_0 ho)) (fun q => by cases q) (Or.inl rfl) (pn 47 rfl ?_)
  refine s_aload_n (i := 0) (by decide +kernel) rfl (pn 48 rfl ?_)
  refine s_aload_n (i := 1) (by decide +kernel) rfl (pn 49 rfl ?_)
  refine s_getfield (v := .int ((pm_si (pm_si m1 o 4 (m1.1 q 4)) o 5 ((pm_si m1 o 4 (m1.1 q 4)).1 q 5)).1 q 6)) (by decide +kernel) fr_1_31 (ltW_0 hq) (congrArg Prod.fst (shW_0 hq)) rfl (pn 52 rfl ?_)
  refine s_putfieldI (by decide +kernel) fr_1_31 (ltW_0 ho) (congrArg Prod.fst (shW_0 ho)) (fun q => by cases q) (Or.inl rfl) (pn 55 rfl ?_)
  refine s_aload_n (i := 0) (by decide +kernel) rfl (pn 56 rfl ?_)
  refine s_aload_n (i := 1) (by decide +kernel) rfl (pn 57 rfl ?_)
  refine s_getfield (v := .int ((pm_si (pm_si (pm_si m1 o 4 (m1.1 q 4)) o 5 ((pm_si m1 o 4 (m1.1 q 4)).1 q 5)) o 6 ((pm_si (pm_si m1 o 4 (m1.1 q 4)) o 5 ((pm_si m1 o 4 (m1.1 q 4)).1 q 5)).1 q 6)).1 q 7)) (by decide +kernel) fr_1_34 (ltW_0 hq) (congrArg Prod.fst (shW_0 hq)) rfl (pn 60 rfl ?_)
  refine s_putfieldI (by decide +kernel) fr_1_34 (ltW_0 ho) (congrArg Prod.fst (shW_0 ho)) (fun q => by cases q) (Or.inl rfl) (pn 63 rfl ?_)
  exact s_return (st := []) (by decide +kernel) rfl ⟨rfl, s1, rfl, h⟩
abbrev wW_worth (d pc : Nat) (ls st : List Value) (s : pm_S) (M : pm_M) (Q : Int32 → pm_S → pm_M → Prop) : Prop := wI d prog_3_method_6_code 1 (some .int) false pc ls st s M Q
theorem enW_worth {d : Nat} {s : pm_S} {M : pm_M} {x1 : Int32} {x2 : Int32} {Q : Int32 → pm_S → pm_M → Prop}  (h : wW_worth d 8 [.ref 23, .null, .int x2, .int 0, .int x1, .int 0, .null, .null] [] s M Q) : cI (d + 1) yW_worth [.ref 23, .int x1, .int x2] s M Q := by
  refine pm_toI (by decide) (Nat.le_of_ble_eq_true rfl) ?_
  show wW_worth d 0 [.ref 23, .int x1, .int x2, .null, .null, .null, .null, .null] [] s M Q
  refine t_iconst (by decide +kernel) ki_0 (pn 1 rfl ?_)
  refine s_istore_n (i := 3) (by decide +kernel) (Nat.le_of_ble_eq_true rfl) (pn 2 rfl (t_store (ls' := [.ref 23, .int x1, .int x2, .int 0, .null, .null, .null, .null]) rfl ?_))
  refine s_iload_n (i := 1) (by decide +kernel) rfl (pn 3 rfl ?_)
  refine s_istore (i := 4) (by decide +kernel) (Nat.le_of_ble_eq_true rfl) (pn 5 rfl (t_store (ls' := [.ref 23, .int x1, .int x2, .int 0, .int x1, .null, .null, .null]) rfl ?_))
  refine t_iconst (by decide +kernel) ki_0 (pn 6 rfl ?_)
  refine s_istore (i := 5) (by decide +kernel) (Nat.le_of_ble_eq_true rfl) (pn 8 rfl (t_store (ls' := [.ref 23, .int x1, .int x2, .int 0, .int x1, .int 0, .null, .null]) rfl ?_))
  exact pm_weak [.ref 23, .null, .int x2, .int 0, .int x1, .int 0, .null, .null] (pm_le_cons (Or.inr rfl) (pm_le_cons (Or.inl rfl) (pm_le_cons (Or.inr rfl) (pm_le_cons (Or.inr rfl) (pm_le_cons (Or.inr rfl) (pm_le_cons (Or.inr rfl) (pm_le_cons (Or.inl rfl) (pm_le_cons (Or.inl rfl) pm_le_nil)))))))) h
theorem sgW_worth_8 {d : Nat} {s : pm_S} {M : pm_M} {l2 : Int32} {l3 : Int32} {l4 : Int32} {l5 : Int32} {Q : Int32 → pm_S → pm_M → Prop}  (h : (((900 ≤ l5) → Q ((if l3 ≤ 0 then 0 else (M.1 25 0)) : Int32) s M) ∧ (¬ (900 ≤ l5) → (((l4 < 0) → Q ((if l3 ≤ 0 then 0 else (M.1 25 0)) : Int32) s M) ∧ (¬ (l4 < 0) → (((l2 ≤ l4) → Q ((if l3 ≤ 0 then 0 else (M.1 25 0)) : Int32) s M) ∧ (¬ (l2 ≤ l4) → (((900 ≤ l4) → Q ((if l3 ≤ 0 then 0 else (M.1 25 0)) : Int32) s M) ∧ (¬ (900 ≤ l4) → vp_in l4 900 ∧ vp_in l4 900 ∧ ((((M.1 24 l4.toNatClampNeg) &&& 15) = 11 → wW_worth d 8 [.ref 23, .null, .int l2, .int l3, .int ((M.1 24 l4.toNatClampNeg) >>> ((4 : Int32) &&& 31)), .int (l5 + 1), .null, .null] [] s M Q) ∧ (¬ (((M.1 24 l4.toNatClampNeg) &&& 15) = 11) → (((1 < ((M.1 24 l4.toNatClampNeg) &&& 15)) → (((l3 ≤ 0) → wW_worth d 153 [.ref 23, .null, .int l2, .int l3, .int (l4 + 1), .int l5, .int ((M.1 24 l4.toNatClampNeg) &&& 15), .null] [] s M Q) ∧ (¬ (l3 ≤ 0) → ((((M.1 24 l4.toNatClampNeg) &&& 15) = 12 → vp_in (l3 + (-1)) 64 ∧ (∀ v1 : Int32, v1 = ((if (M.1 25 (l3 + (-1)).toNatClampNeg) = 0 then ((M.1 24 l4.toNatClampNeg) >>> ((4 : Int32) &&& 31)) else (l4 + 1)) : Int32) → wW_worth d 8 [.ref 23, .null, .int l2, .int (l3 + (-1)), .int v1, .int (l5 + 1), .null, .null] [] s M Q)) ∧ (¬ (((M.1 24 l4.toNatClampNeg) &&& 15) = 12) → wW_worth d 153 [.ref 23, .null, .int l2, .int l3, .int (l4 + 1), .int l5, .int ((M.1 24 l4.toNatClampNeg) &&& 15), .null] [] s M Q))))) ∧ (¬ (1 < ((M.1 24 l4.toNatClampNeg) &&& 15)) → (((64 ≤ l3) → wW_worth d 8 [.ref 23, .null, .int l2, .int l3, .int (l4 + 1), .int (l5 + 1), .null, .null] [] s M Q) ∧ (¬ (64 ≤ l3) → ((((M.1 24 l4.toNatClampNeg) &&& 15) = 0 → vp_in l3 64 ∧ wW_worth d 8 [.ref 23, .null, .int l2, .int (l3 + 1), .int (l4 + 1), .int (l5 + 1), .null, .null] [] s (pm_si M 25 l3.toNatClampNeg ((M.1 24 l4.toNatClampNeg) >>> ((4 : Int32) &&& 31))) Q) ∧ (¬ (((M.1 24 l4.toNatClampNeg) &&& 15) = 0) → cI d yW_factAt [.ref 23, .int ((M.1 24 l4.toNatClampNeg) >>> ((4 : Int32) &&& 31))] s M (fun r1 s1 M1 => vp_in l3 64 ∧ wW_worth d 8 [.ref 23, .null, .int l2, .int (l3 + 1), .int (l4 + 1), .int (l5 + 1), .null, .null] [] s1 (pm_si M1 25 l3.toNatClampNeg r1) Q)))))))))))))))))) : wW_worth d 8 [.ref 23, .null, .int l2, .int l3, .int l4, .int l5, .null, .null] [] s M Q := by
  refine s_iload (i := 5) (by decide +kernel) rfl (pn 10 rfl ?_)
  refine t_sipush (by decide +kernel) ks_900 (pn 13 rfl ?_)
  refine s_icmp_ge (off := 218) (tgt := 231) (by decide +kernel) rfl (fun c1 => ?_) (fun c1 => (pn 16 rfl ?_))
  · have h := h.1 c1
    refine s_iload_n (i := 3) (by decide +kernel) rfl (pn 232 rfl ?_)
    have k1 : ∀ (z1 : Int32) (z1e : z1 = ((if l3 ≤ 0 then 0 else (M.1 25 0)) : Int32)), wW_worth d 245 [.ref 23, .null, .int l2, .int l3, .int l4, .int l5, .null, .null] [.int z1] s M Q := by
      intro z1 z1e
      subst z1e
      exact s_ireturn (st := []) (by decide +kernel) (Or.inl rfl) ⟨_, rfl, s, rfl, h⟩
    refine s_if_le (off := 12) (tgt := 244) (by decide +kernel) rfl (fun c8 => ?_) (fun c8 => (pn 235 rfl ?_))
    · refine t_iconst (by decide +kernel) ki_0 (pn 245 rfl ?_)
      exact k1 _ (by simp only [if_pos c8])
    · refine s_aload_n (i := 0) (by decide +kernel) rfl (pn 236 rfl ?_)
      refine s_getfield (v := .ref 25) (by decide +kernel) fr_1_15 lq_23 (congrArg Prod.fst sh_23) (fv_ref pf_23_1) (pn 239 rfl ?_)
      refine t_iconst (by decide +kernel) ki_0 (pn 240 rfl ?_)
      refine t_iaload (v := M.1 25 0) (by decide +kernel) ⟨Or.inl lq_25, congrArg Prod.fst sh_25⟩ (al_in sh_25 (vp_lit (n := 64) tn_0 (by decide) (by decide))) (by rw [tn_0] <;> rfl) (pn 241 rfl ?_)
      refine s_goto (off := 4) (tgt := 245) (by decide +kernel) rfl ?_
      exact k1 _ (by simp only [if_neg c8])
  · have h := h.2 c1
    refine s_iload (i := 4) (by decide +kernel) rfl (pn 18 rfl ?_)
    refine s_if_lt (off := 213) (tgt := 231) (by decide +kernel) rfl (fun c9 => ?_) (fun c9 => (pn 21 rfl ?_))
    · have h := h.1 c9
      refine s_iload_n (i := 3) (by decide +kernel) rfl (pn 232 rfl ?_)
      have k2 : ∀ (z2 : Int32) (z2e : z2 = ((if l3 ≤ 0 then 0 else (M.1 25 0)) : Int32)), wW_worth d 245 [.ref 23, .null, .int l2, .int l3, .int l4, .int l5, .null, .null] [.int z2] s M Q := by
        intro z2 z2e
        subst z2e
        exact s_ireturn (st := []) (by decide +kernel) (Or.inl rfl) ⟨_, rfl, s, rfl, h⟩
      refine s_if_le (off := 12) (tgt := 244) (by decide +kernel) rfl (fun c15 => ?_) (fun c15 => (pn 235 rfl ?_))
      · refine t_iconst (by decide +kernel) ki_0 (pn 245 rfl ?_)
        exact k2 _ (by simp only [if_pos c15])
      · refine s_aload_n (i := 0) (by decide +kernel) rfl (pn 236 rfl ?_)
        refine s_getfield (v := .ref 25) (by decide +kernel) fr_1_15 lq_23 (congrArg Prod.fst sh_23) (fv_ref pf_23_1) (pn 239 rfl ?_)
        refine t_iconst (by decide +kernel) ki_0 (pn 240 rfl ?_)
        refine t_iaload (v := M.1 25 0) (by decide +kernel) ⟨Or.inl lq_25, congrArg Prod.fst sh_25⟩ (al_in sh_25 (vp_lit (n := 64) tn_0 (by decide) (by decide))) (by rw [tn_0] <;> rfl) (pn 241 rfl ?_)
        refine s_goto (off := 4) (tgt := 245) (by decide +kernel) rfl ?_
        exact k2 _ (by simp only [if_neg c15])
    · have h := h.2 c9
      refine s_iload (i := 4) (by decide +kernel) rfl (pn 23 rfl ?_)
      refine s_iload_n (i := 2) (by decide +kernel) rfl (pn 24 rfl ?_)
      refine s_icmp_ge (off := 207) (tgt := 231) (by decide +kernel) rfl (fun c16 => ?_) (fun c16 => (pn 27 rfl ?_))
      · have h := h.1 c16
        refine s_iload_n (i := 3) (by decide +kernel) rfl (pn 232 rfl ?_)
        have k3 : ∀ (z3 : Int32) (z3e : z3 = ((if l3 ≤ 0 then 0 else (M.1 25 0)) : Int32)), wW_worth d 245 [.ref 23, .null, .int l2, .int l3, .int l4, .int l5, .null, .null] [.int z3] s M Q := by
          intro z3 z3e
          subst z3e
          exact s_ireturn (st := []) (by decide +kernel) (Or.inl rfl) ⟨_, rfl, s, rfl, h⟩
        refine s_if_le (off := 12) (tgt := 244) (by decide +kernel) rfl (fun c21 => ?_) (fun c21 => (pn 235 rfl ?_))
        · refine t_iconst (by decide +kernel) ki_0 (pn 245 rfl ?_)
          exact k3 _ (by simp only [if_pos c21])
        · refine s_aload_n (i := 0) (by decide +kernel) rfl (pn 236 rfl ?_)
          refine s_getfield (v := .ref 25) (by decide +kernel) fr_1_15 lq_23 (congrArg Prod.fst sh_23) (fv_ref pf_23_1) (pn 239 rfl ?_)
          refine t_iconst (by decide +kernel) ki_0 (pn 240 rfl ?_)
          refine t_iaload (v := M.1 25 0) (by decide +kernel) ⟨Or.inl lq_25, congrArg Prod.fst sh_25⟩ (al_in sh_25 (vp_lit (n := 64) tn_0 (by decide) (by decide))) (by rw [tn_0] <;> rfl) (pn 241 rfl ?_)
          refine s_goto (off := 4) (tgt := 245) (by decide +kernel) rfl ?_
          exact k3 _ (by simp only [if_neg c21])
      · have h := h.2 c16
        refine s_iload (i := 4) (by decide +kernel) rfl (pn 29 rfl ?_)
        refine t_sipush (by decide +kernel) ks_900 (pn 32 rfl ?_)
        refine s_icmp_ge (off := 199) (tgt := 231) (by decide +kernel) rfl (fun c22 => ?_) (fun c22 => (pn 35 rfl ?_))
        · have h := h.1 c22
          refine s_iload_n (i := 3) (by decide +kernel) rfl (pn 232 rfl ?_)
          have k4 : ∀ (z4 : Int32) (z4e : z4 = ((if l3 ≤ 0 then 0 else (M.1 25 0)) : Int32)), wW_worth d 245 [.ref 23, .null, .int l2, .int l3, .int l4, .int l5, .null, .null] [.int z4] s M Q := by
            intro z4 z4e
            subst z4e
            exact s_ireturn (st := []) (by decide +kernel) (Or.inl rfl) ⟨_, rfl, s, rfl, h⟩
          refine s_if_le (off := 12) (tgt := 244) (by decide +kernel) rfl (fun c26 => ?_) (fun c26 => (pn 235 rfl ?_))
          · refine t_iconst (by decide +kernel) ki_0 (pn 245 rfl ?_)
            exact k4 _ (by simp only [if_pos c26])
          · refine s_aload_n (i := 0) (by decide +kernel) rfl (pn 236 rfl ?_)
            refine s_getfield (v := .ref 25) (by decide +kernel) fr_1_15 lq_23 (congrArg Prod.fst sh_23) (fv_ref pf_23_1) (pn 239 rfl ?_)
            refine t_iconst (by decide +kernel) ki_0 (pn 240 rfl ?_)
            refine t_iaload (v := M.1 25 0) (by decide +kernel) ⟨Or.inl lq_25, congrArg Prod.fst sh_25⟩ (al_in sh_25 (vp_lit (n := 64) tn_0 (by decide) (by decide))) (by rw [tn_0] <;> rfl) (pn 241 rfl ?_)
            refine s_goto (off := 4) (tgt := 245) (by decide +kernel) rfl ?_
            exact k4 _ (by simp only [if_neg c26])
        · have h := h.2 c22
          refine s_aload_n (i := 0) (by decide +kernel) rfl (pn 36 rfl ?_)
          refine s_getfield (v := .ref 24) (by decide +kernel) fr_1_9 lq_23 (congrArg Prod.fst sh_23) (fv_ref pf_23_0) (pn 39 rfl ?_)
          refine s_iload (i := 4) (by decide +kernel) rfl (pn 41 rfl ?_)
          obtain ⟨b1, h⟩ := h
          refine t_iaload (v := M.1 24 l4.toNatClampNeg) (by decide +kernel) ⟨Or.inl lq_24, congrArg Prod.fst sh_24⟩ (al_in sh_24 b1) rfl (pn 42 rfl ?_)
          refine t_bipush (by decide +kernel) kb_15 (pn 44 rfl ?_)
          refine s_iand (by decide +kernel) (pn 45 rfl ?_)
          refine s_istore (i := 6) (by decide +kernel) (Nat.le_of_ble_eq_true rfl) (pn 47 rfl (t_store (ls' := [.ref 23, .null, .int l2, .int l3, .int l4, .int l5, .int ((M.1 24 l4.toNatClampNeg) &&& 15), .null]) rfl ?_))
          refine s_aload_n (i := 0) (by decide +kernel) rfl (pn 48 rfl ?_)
          refine s_getfield (v := .ref 24) (by decide +kernel) fr_1_9 lq_23 (congrArg Prod.fst sh_23) (fv_ref pf_23_0) (pn 51 rfl ?_)
          refine s_iload (i := 4) (by decide +kernel) rfl (pn 53 rfl ?_)
          obtain ⟨b2, h⟩ := h
          refine t_iaload (v := M.1 24 l4.toNatClampNeg) (by decide +kernel) ⟨Or.inl lq_24, congrArg Prod.fst sh_24⟩ (al_in sh_24 b2) rfl (pn 54 rfl ?_)
          refine t_iconst (by decide +kernel) ki_4 (pn 55 rfl ?_)
          refine s_ishr (by decide +kernel) (pn 56 rfl ?_)
          refine s_istore (i := 7) (by decide +kernel) (Nat.le_of_ble_eq_true rfl) (pn 58 rfl (t_store (ls' := [.ref 23, .null, .int l2, .int l3, .int l4, .int l5, .int ((M.1 24 l4.toNatClampNeg) &&& 15), .int ((M.1 24 l4.toNatClampNeg) >>> ((4 : Int32) &&& 31))]) rfl ?_))
          refine t_iinc (i := 4) (n := 1) (ls' := [.ref 23, .null, .int l2, .int l3, .int (l4 + 1), .int l5, .int ((M.1 24 l4.toNatClampNeg) &&& 15), .int ((M.1 24 l4.toNatClampNeg) >>> ((4 : Int32) &&& 31))]) (by decide +kernel) rfl (Nat.le_of_ble_eq_true rfl) kn_1 rfl (pn 61 rfl ?_)
          refine s_iload (i := 6) (by decide +kernel) rfl (pn 63 rfl ?_)
          refine t_bipush (by decide +kernel) kb_11 (pn 65 rfl ?_)
          refine t_icmp_ne (off := 10) (tgt := 75) (by decide +kernel) rfl (fun c27 => ?_) (fun c27 => (pn 68 rfl ?_))
          · have h := h.2 c27
            refine s_iload (i := 6) (by decide +kernel) rfl (pn 77 rfl ?_)
            refine t_iconst (by decide +kernel) ki_1 (pn 78 rfl ?_)
            refine s_icmp_gt (off := 40) (tgt := 118) (by decide +kernel) rfl (fun c30 => ?_) (fun c30 => (pn 81 rfl ?_))
            · have h := h.1 c30
              refine s_iload_n (i := 3) (by decide +kernel) rfl (pn 119 rfl ?_)
              refine s_if_le (off := 34) (tgt := 153) (by decide +kernel) rfl (fun c32 => ?_) (fun c32 => (pn 122 rfl ?_))
              · have h := h.1 c32
                exact pm_weak [.ref 23, .null, .int l2, .int l3, .int (l4 + 1), .int l5, .int ((M.1 24 l4.toNatClampNeg) &&& 15), .null] (pm_le_cons (Or.inr rfl) (pm_le_cons (Or.inl rfl) (pm_le_cons (Or.inr rfl) (pm_le_cons (Or.inr rfl) (pm_le_cons (Or.inr rfl) (pm_le_cons (Or.inr rfl) (pm_le_cons (Or.inr rfl) (pm_le_cons (Or.inl rfl) pm_le_nil)))))))) h
              · have h := h.2 c32
                refine s_iload (i := 6) (by decide +kernel) rfl (pn 124 rfl ?_)
                refine t_bipush (by decide +kernel) kb_12 (pn 126 rfl ?_)
                refine t_icmp_ne (off := 27) (tgt := 153) (by decide +kernel) rfl (fun c33 => ?_) (fun c33 => (pn 129 rfl ?_))
                · have h := h.2 c33
                  exact pm_weak [.ref 23, .null, .int l2, .int l3, .int (l4 + 1), .int l5, .int ((M.1 24 l4.toNatClampNeg) &&& 15), .null] (pm_le_cons (Or.inr rfl) (pm_le_cons (Or.inl rfl) (pm_le_cons (Or.inr rfl) (pm_le_cons (Or.inr rfl) (pm_le_cons (Or.inr rfl) (pm_le_cons (Or.inr rfl) (pm_le_cons (Or.inr rfl) (pm_le_cons (Or.inl rfl) pm_le_nil)))))))) h
                · have h := h.1 c33
                  refine t_iinc (i := 3) (n := -1) (ls' := [.ref 23, .null, .int l2, .int (l3 + (-1)), .int (l4 + 1), .int l5, .int ((M.1 24 l4.toNatClampNeg) &&& 15), .int ((M.1 24 l4.toNatClampNeg) >>> ((4 : Int32) &&& 31))]) (by decide +kernel) rfl (Nat.le_of_ble_eq_true rfl) kn_m1 rfl (pn 132 rfl ?_)
                  refine s_aload_n (i := 0) (by decide +kernel) rfl (pn 133 rfl ?_)
                  refine s_getfield (v := .ref 25) (by decide +kernel) fr_1_15 lq_23 (congrArg Prod.fst sh_23) (fv_ref pf_23_1) (pn 136 rfl ?_)
                  refine s_iload_n (i := 3) (by decide +kernel) rfl (pn 137 rfl ?_)
                  obtain ⟨b3, h⟩ := h
                  refine t_iaload (v := M.1 25 (l3 + (-1)).toNatClampNeg) (by decide +kernel) ⟨Or.inl lq_25, congrArg Prod.fst sh_25⟩ (al_in sh_25 b3) rfl (pn 138 rfl ?_)
                  have k5 : ∀ (z5 : Int32) (z5e : z5 = ((if (M.1 25 (l3 + (-1)).toNatClampNeg) = 0 then ((M.1 24 l4.toNatClampNeg) >>> ((4 : Int32) &&& 31)) else (l4 + 1)) : Int32)), wW_worth d 148 [.ref 23, .null, .int l2, .int (l3 + (-1)), .int (l4 + 1), .int l5, .int ((M.1 24 l4.toNatClampNeg) &&& 15), .int ((M.1 24 l4.toNatClampNeg) >>> ((4 : Int32) &&& 31))] [.int z5] s M Q := by
                    intro z5 z5e
                    subst z5e
                    obtain ⟨v1, ev1⟩ : ∃ zz : Int32, zz = ((if (M.1 25 (l3 + (-1)).toNatClampNeg) = 0 then ((M.1 24 l4.toNatClampNeg) >>> ((4 : Int32) &&& 31)) else (l4 + 1)) : Int32) := ⟨_, rfl⟩
                    have h := h v1 ev1
                    rw [← ev1]
                    refine s_istore (i := 4) (by decide +kernel) (Nat.le_of_ble_eq_true rfl) (pn 150 rfl (t_store (ls' := [.ref 23, .null, .int l2, .int (l3 + (-1)), .int v1, .int l5, .int ((M.1 24 l4.toNatClampNeg) &&& 15), .int ((M.1 24 l4.toNatClampNeg) >>> ((4 : Int32) &&& 31))]) rfl ?_))
                    refine s_goto (off := 75) (tgt := 225) (by decide +kernel) rfl ?_
                    refine t_iinc (i := 5) (n := 1) (ls' := [.ref 23, .null, .int l2, .int (l3 + (-1)), .int v1, .int (l5 + 1), .int ((M.1 24 l4.toNatClampNeg) &&& 15), .int ((M.1 24 l4.toNatClampNeg) >>> ((4 : Int32) &&& 31))]) (by decide +kernel) rfl (Nat.le_of_ble_eq_true rfl) kn_1 rfl (pn 228 rfl ?_)
                    refine s_goto (off := -220) (tgt := 8) (by decide +kernel) rfl ?_
                    exact pm_weak [.ref 23, .null, .int l2, .int (l3 + (-1)), .int v1, .int (l5 + 1), .null, .null] (pm_le_cons (Or.inr rfl) (pm_le_cons (Or.inl rfl) (pm_le_cons (Or.inr rfl) (pm_le_cons (Or.inr rfl) (pm_le_cons (Or.inr rfl) (pm_le_cons (Or.inr rfl) (pm_le_cons (Or.inl rfl) (pm_le_cons (Or.inl rfl) pm_le_nil)))))))) h
                  refine t_if_ne (off := 8) (tgt := 146) (by decide +kernel) rfl (fun c34 => ?_) (fun c34 => (pn 141 rfl ?_))
                  · refine s_iload (i := 4) (by decide +kernel) rfl (pn 148 rfl ?_)
                    exact k5 _ (by simp only [if_neg c34])
                  · refine s_iload (i := 7) (by decide +kernel) rfl (pn 143 rfl ?_)
                    refine s_goto (off := 5) (tgt := 148) (by decide +kernel) rfl ?_
                    exact k5 _ (by simp only [if_pos c34])
            · have h := h.2 c30
              refine s_iload_n (i := 3) (by decide +kernel) rfl (pn 82 rfl ?_)
              refine s_aload_n (i := 0) (by decide +kernel) rfl (pn 83 rfl ?_)
              refine s_getfield (v := .ref 25) (by decide +kernel) fr_1_15 lq_23 (congrArg Prod.fst sh_23) (fv_ref pf_23_1) (pn 86 rfl ?_)
              refine t_arraylength (v := 64) (by decide +kernel) (al_ok lq_25 sh_25 (by decide)) (al_len sh_25 (by decide)) (pn 87 rfl ?_)
              refine s_icmp_ge (off := 138) (tgt := 225) (by decide +kernel) rfl (fun c35 => ?_) (fun c35 => (pn 90 rfl ?_))
              · have h := h.1 c35
                refine t_iinc (i := 5) (n := 1) (ls' := [.ref 23, .null, .int l2, .int l3, .int (l4 + 1), .int (l5 + 1), .int ((M.1 24 l4.toNatClampNeg) &&& 15), .int ((M.1 24 l4.toNatClampNeg) >>> ((4 : Int32) &&& 31))]) (by decide +kernel) rfl (Nat.le_of_ble_eq_true rfl) kn_1 rfl (pn 228 rfl ?_)
                refine s_goto (off := -220) (tgt := 8) (by decide +kernel) rfl ?_
                exact pm_weak [.ref 23, .null, .int l2, .int l3, .int (l4 + 1), .int (l5 + 1), .null, .null] (pm_le_cons (Or.inr rfl) (pm_le_cons (Or.inl rfl) (pm_le_cons (Or.inr rfl) (pm_le_cons (Or.inr rfl) (pm_le_cons (Or.inr rfl) (pm_le_cons (Or.inr rfl) (pm_le_cons (Or.inl rfl) (pm_le_cons (Or.inl rfl) pm_le_nil)))))))) h
              · have h := h.2 c35
                refine s_aload_n (i := 0) (by decide +kernel) rfl (pn 91 rfl ?_)
                refine s_getfield (v := .ref 25) (by decide +kernel) fr_1_15 lq_23 (congrArg Prod.fst sh_23) (fv_ref pf_23_1) (pn 94 rfl ?_)
                refine s_iload_n (i := 3) (by decide +kernel) rfl (pn 95 rfl ?_)
                refine s_iload (i := 6) (by decide +kernel) rfl (pn 97 rfl ?_)
                refine t_if_ne (off := 8) (tgt := 105) (by decide +kernel) rfl (fun c37 => ?_) (fun c37 => (pn 100 rfl ?_))
                · have h := h.2 c37
                  refine s_aload_n (i := 0) (by decide +kernel) rfl (pn 106 rfl ?_)
                  refine s_iload (i := 7) (by decide +kernel) rfl (pn 108 rfl ?_)
                  refine s_callvI [.int ((M.1 24 l4.toNatClampNeg) >>> ((4 : Int32) &&& 31))] rfl (by decide +kernel) mv_1_49 np_11 (Nat.le_of_ble_eq_true rfl) lq_23 ((congrArg Prod.fst sh_23).trans oc_11) (cI_use h (fun r1 s1 M1 h => (pn 111 rfl ?_)))
                  obtain ⟨b4, h⟩ := h
                  refine t_iastore (k := l3.toNatClampNeg) (by decide +kernel) ⟨lq_25, congrArg Prod.fst sh_25⟩ (al_in sh_25 b4) rfl (pn 112 rfl ?_)
                  refine t_iinc (i := 3) (n := 1) (ls' := [.ref 23, .null, .int l2, .int (l3 + 1), .int (l4 + 1), .int l5, .int ((M.1 24 l4.toNatClampNeg) &&& 15), .int ((M.1 24 l4.toNatClampNeg) >>> ((4 : Int32) &&& 31))]) (by decide +kernel) rfl (Nat.le_of_ble_eq_true rfl) kn_1 rfl (pn 115 rfl ?_)
                  refine s_goto (off := 110) (tgt := 225) (by decide +kernel) rfl ?_
                  refine t_iinc (i := 5) (n := 1) (ls' := [.ref 23, .null, .int l2, .int (l3 + 1), .int (l4 + 1), .int (l5 + 1), .int ((M.1 24 l4.toNatClampNeg) &&& 15), .int ((M.1 24 l4.toNatClampNeg) >>> ((4 : Int32) &&& 31))]) (by decide +kernel) rfl (Nat.le_of_ble_eq_true rfl) kn_1 rfl (pn 228 rfl ?_)
                  refine s_goto (off := -220) (tgt := 8) (by decide +kernel) rfl ?_
                  exact pm_weak [.ref 23, .null, .int l2, .int (l3 + 1), .int (l4 + 1), .int (l5 + 1), .null, .null] (pm_le_cons (Or.inr rfl) (pm_le_cons (Or.inl rfl) (pm_le_cons (Or.inr rfl) (pm_le_cons (Or.inr rfl) (pm_le_cons (Or.inr rfl) (pm_le_cons (Or.inr rfl) (pm_le_cons (Or.inl rfl) (pm_le_cons (Or.inl rfl) pm_le_nil)))))))) h
                · have h := h.1 c37
                  refine s_iload (i := 7) (by decide +kernel) rfl (pn 102 rfl ?_)
                  refine s_goto (off := 9) (tgt := 111) (by decide +kernel) rfl ?_
                  obtain ⟨b5, h⟩ := h
                  refine t_iastore (k := l3.toNatClampNeg) (by decide +kernel) ⟨lq_25, congrArg Prod.fst sh_25⟩ (al_in sh_25 b5) rfl (pn 112 rfl ?_)
                  refine t_iinc (i := 3) (n := 1) (ls' := [.ref 23, .null, .int l2, .int (l3 + 1), .int (l4 + 1), .int l5, .int ((M.1 24 l4.toNatClampNeg) &&& 15), .int ((M.1 24 l4.toNatClampNeg) >>> ((4 : Int32) &&& 31))]) (by decide +kernel) rfl (Nat.le_of_ble_eq_true rfl) kn_1 rfl (pn 115 rfl ?_)
                  refine s_goto (off := 110) (tgt := 225) (by decide +kernel) rfl ?_
                  refine t_iinc (i := 5) (n := 1) (ls' := [.ref 23, .null, .int l2, .int (l3 + 1), .int (l4 + 1), .int (l5 + 1), .int ((M.1 24 l4.toNatClampNeg) &&& 15), .int ((M.1 24 l4.toNatClampNeg) >>> ((4 : Int32) &&& 31))]) (by decide +kernel) rfl (Nat.le_of_ble_eq_true rfl) kn_1 rfl (pn 228 rfl ?_)
                  refine s_goto (off := -220) (tgt := 8) (by decide +kernel) rfl ?_
                  exact pm_weak [.ref 23, .null, .int l2, .int (l3 + 1), .int (l4 + 1), .int (l5 + 1), .null, .null] (pm_le_cons (Or.inr rfl) (pm_le_cons (Or.inl rfl) (pm_le_cons (Or.inr rfl) (pm_le_cons (Or.inr rfl) (pm_le_cons (Or.inr rfl) (pm_le_cons (Or.inr rfl) (pm_le_cons (Or.inl rfl) (pm_le_cons (Or.inl rfl) pm_le_nil)))))))) h
          · have h := h.1 c27
            refine s_iload (i := 7) (by decide +kernel) rfl (pn 70 rfl ?_)
            refine s_istore (i := 4) (by decide +kernel) (Nat.le_of_ble_eq_true rfl) (pn 72 rfl (t_store (ls' := [.ref 23, .null, .int l2, .int l3, .int ((M.1 24 l4.toNatClampNeg) >>> ((4 : Int32) &&& 31)), .int l5, .int ((M.1 24 l4.toNatClampNeg) &&& 15), .int ((M.1 24 l4.toNatClampNeg) >>> ((4 : Int32) &&& 31))]) rfl ?_))
            refine s_goto (off := 153) (tgt := 225) (by decide +kernel) rfl ?_
            refine t_iinc (i := 5) (n := 1) (ls' := [.ref 23, .null, .int l2, .int l3, .int ((M.1 24 l4.toNatClampNeg) >>> ((4 : Int32) &&& 31)), .int (l5 + 1), .int ((M.1 24 l4.toNatClampNeg) &&& 15), .int ((M.1 24 l4.toNatClampNeg) >>> ((4 : Int32) &&& 31))]) (by decide +kernel) rfl (Nat.le_of_ble_eq_true rfl) kn_1 rfl (pn 228 rfl ?_)
            refine s_goto (off := -220) (tgt := 8) (by decide +kernel) rfl ?_
            exact pm_weak [.ref 23, .null, .int l2, .int l3, .int ((M.1 24 l4.toNatClampNeg) >>> ((4 : Int32) &&& 31)), .int (l5 + 1), .null, .null] (pm_le_cons (Or.inr rfl) (pm_le_cons (Or.inl rfl) (pm_le_cons (Or.inr rfl) (pm_le_cons (Or.inr rfl) (pm_le_cons (Or.inr rfl) (pm_le_cons (Or.inr rfl) (pm_le_cons (Or.inl rfl) (pm_le_cons (Or.inl rfl) pm_le_nil)))))))) h
theorem sgW_worth_153 {d : Nat} {s : pm_S} {M : pm_M} {l2 : Int32} {l3 : Int32} {l4 : Int32} {l5 : Int32} {l6 : Int32} {Q : Int32 → pm_S → pm_M → Prop}  (h : (((l3 ≤ 0) → wW_worth d 185 [.ref 23, .null, .int l2, .int l3, .int l4, .int l5, .int l6, .null] [] s M Q) ∧ (¬ (l3 ≤ 0) → ((l6 = 10 → vp_in (l3 - 1) 64 ∧ vp_in (l3 - 1) 64 ∧ wW_worth d 8 [.ref 23, .null, .int l2, .int l3, .int l4, .int (l5 + 1), .null, .null] [] s (pm_si M 25 (l3 - 1).toNatClampNeg ((1 : Int32) - (M.1 25 (l3 - 1).toNatClampNeg))) Q) ∧ (¬ (l6 = 10) → wW_worth d 185 [.ref 23, .null, .int l2, .int l3, .int l4, .int l5, .int l6, .null] [] s M Q))))) : wW_worth d 153 [.ref 23, .null, .int l2, .int l3, .int l4, .int l5, .int l6, .null] [] s M Q := by
  refine s_iload_n (i := 3) (by decide +kernel) rfl (pn 154 rfl ?_)
  refine s_if_le (off := 31) (tgt := 185) (by decide +kernel) rfl (fun c1 => ?_) (fun c1 => (pn 157 rfl ?_))
  · have h := h.1 c1
    exact h
  · have h := h.2 c1
    refine s_iload (i := 6) (by decide +kernel) rfl (pn 159 rfl ?_)
    refine t_bipush (by decide +kernel) kb_10 (pn 161 rfl ?_)
    refine t_icmp_ne (off := 24) (tgt := 185) (by decide +kernel) rfl (fun c2 => ?_) (fun c2 => (pn 164 rfl ?_))
    · have h := h.2 c2
      exact h
    · have h := h.1 c2
      refine s_aload_n (i := 0) (by decide +kernel) rfl (pn 165 rfl ?_)
      refine s_getfield (v := .ref 25) (by decide +kernel) fr_1_15 lq_23 (congrArg Prod.fst sh_23) (fv_ref pf_23_1) (pn 168 rfl ?_)
      refine s_iload_n (i := 3) (by decide +kernel) rfl (pn 169 rfl ?_)
      refine t_iconst (by decide +kernel) ki_1 (pn 170 rfl ?_)
      refine s_isub (by decide +kernel) (pn 171 rfl ?_)
      refine t_iconst (by decide +kernel) ki_1 (pn 172 rfl ?_)
      refine s_aload_n (i := 0) (by decide +kernel) rfl (pn 173 rfl ?_)
      refine s_getfield (v := .ref 25) (by decide +kernel) fr_1_15 lq_23 (congrArg Prod.fst sh_23) (fv_ref pf_23_1) (pn 176 rfl ?_)
      refine s_iload_n (i := 3) (by decide +kernel) rfl (pn 177 rfl ?_)
      refine t_iconst (by decide +kernel) ki_1 (pn 178 rfl ?_)
      refine s_isub (by decide +kernel) (pn 179 rfl ?_)
      obtain ⟨b1, h⟩ := h
      refine t_iaload (v := M.1 25 (l3 - 1).toNatClampNeg) (by decide +kernel) ⟨Or.inl lq_25, congrArg Prod.fst sh_25⟩ (al_in sh_25 b1) rfl (pn 180 rfl ?_)
      refine s_isub (by decide +kernel) (pn 181 rfl ?_)
      obtain ⟨b2, h⟩ := h
      refine t_iastore (k := (l3 - 1).toNatClampNeg) (by decide +kernel) ⟨lq_25, congrArg Prod.fst sh_25⟩ (al_in sh_25 b2) rfl (pn 182 rfl ?_)
      refine s_goto (off := 43) (tgt := 225) (by decide +kernel) rfl ?_
      refine t_iinc (i := 5) (n := 1) (ls' := [.ref 23, .null, .int l2, .int l3, .int l4, .int (l5 + 1), .int l6, .null]) (by decide +kernel) rfl (Nat.le_of_ble_eq_true rfl) kn_1 rfl (pn 228 rfl ?_)
      refine s_goto (off := -220) (tgt := 8) (by decide +kernel) rfl ?_
      exact pm_weak [.ref 23, .null, .int l2, .int l3, .int l4, .int (l5 + 1), .null, .null] (pm_le_cons (Or.inr rfl) (pm_le_cons (Or.inl rfl) (pm_le_cons (Or.inr rfl) (pm_le_cons (Or.inr rfl) (pm_le_cons (Or.inr rfl) (pm_le_cons (Or.inr rfl) (pm_le_cons (Or.inl rfl) (pm_le_cons (Or.inl rfl) pm_le_nil)))))))) h
theorem sgW_worth_185 {d : Nat} {s : pm_S} {M : pm_M} {l2 : Int32} {l3 : Int32} {l4 : Int32} {l5 : Int32} {l6 : Int32} {Q : Int32 → pm_S → pm_M → Prop}  (h : (((l3 ≤ 1) → wW_worth d 8 [.ref 23, .null, .int l2, .int l3, .int l4, .int (l5 + 1), .null, .null] [] s M Q) ∧ (¬ (l3 ≤ 1) → vp_in ((l3 + (-1)) - 1) 64 ∧ vp_in (l3 + (-1)) 64 ∧ cL d yW_joined [.int l6, .long ((M.1 25 ((l3 + (-1)) - 1).toNatClampNeg).toInt64), .long ((M.1 25 (l3 + (-1)).toNatClampNeg).toInt64)] s M (fun r1 s1 M1 => cI d yW_bounded [.long r1] s1 M1 (fun r2 s2 M2 => vp_in ((l3 + (-1)) - 1) 64 ∧ wW_worth d 8 [.ref 23, .null, .int l2, .int (l3 + (-1)), .int l4, .int (l5 + 1), .null, .null] [] s2 (pm_si M2 25 ((l3 + (-1)) - 1).toNatClampNeg r2) Q))))) : wW_worth d 185 [.ref 23, .null, .int l2, .int l3, .int l4, .int l5, .int l6, .null] [] s M Q := by
  refine s_iload_n (i := 3) (by decide +kernel) rfl (pn 186 rfl ?_)
  refine t_iconst (by decide +kernel) ki_1 (pn 187 rfl ?_)
  refine s_icmp_le (off := 38) (tgt := 225) (by decide +kernel) rfl (fun c1 => ?_) (fun c1 => (pn 190 rfl ?_))
  · have h := h.1 c1
    refine t_iinc (i := 5) (n := 1) (ls' := [.ref 23, .null, .int l2, .int l3, .int l4, .int (l5 + 1), .int l6, .null]) (by decide +kernel) rfl (Nat.le_of_ble_eq_true rfl) kn_1 rfl (pn 228 rfl ?_)
    refine s_goto (off := -220) (tgt := 8) (by decide +kernel) rfl ?_
    exact pm_weak [.ref 23, .null, .int l2, .int l3, .int l4, .int (l5 + 1), .null, .null] (pm_le_cons (Or.inr rfl) (pm_le_cons (Or.inl rfl) (pm_le_cons (Or.inr rfl) (pm_le_cons (Or.inr rfl) (pm_le_cons (Or.inr rfl) (pm_le_cons (Or.inr rfl) (pm_le_cons (Or.inl rfl) (pm_le_cons (Or.inl rfl) pm_le_nil)))))))) h
  · have h := h.2 c1
    refine t_iinc (i := 3) (n := -1) (ls' := [.ref 23, .null, .int l2, .int (l3 + (-1)), .int l4, .int l5, .int l6, .null]) (by decide +kernel) rfl (Nat.le_of_ble_eq_true rfl) kn_m1 rfl (pn 193 rfl ?_)
    refine s_aload_n (i := 0) (by decide +kernel) rfl (pn 194 rfl ?_)
    refine s_getfield (v := .ref 25) (by decide +kernel) fr_1_15 lq_23 (congrArg Prod.fst sh_23) (fv_ref pf_23_1) (pn 197 rfl ?_)
    refine s_iload_n (i := 3) (by decide +kernel) rfl (pn 198 rfl ?_)
    refine t_iconst (by decide +kernel) ki_1 (pn 199 rfl ?_)
    refine s_isub (by decide +kernel) (pn 200 rfl ?_)
    refine s_iload (i := 6) (by decide +kernel) rfl (pn 202 rfl ?_)
    refine s_aload_n (i := 0) (by decide +kernel) rfl (pn 203 rfl ?_)
    refine s_getfield (v := .ref 25) (by decide +kernel) fr_1_15 lq_23 (congrArg Prod.fst sh_23) (fv_ref pf_23_1) (pn 206 rfl ?_)
    refine s_iload_n (i := 3) (by decide +kernel) rfl (pn 207 rfl ?_)
    refine t_iconst (by decide +kernel) ki_1 (pn 208 rfl ?_)
    refine s_isub (by decide +kernel) (pn 209 rfl ?_)
    obtain ⟨b1, h⟩ := h
    refine t_iaload (v := M.1 25 ((l3 + (-1)) - 1).toNatClampNeg) (by decide +kernel) ⟨Or.inl lq_25, congrArg Prod.fst sh_25⟩ (al_in sh_25 b1) rfl (pn 210 rfl ?_)
    refine s_i2l (by decide +kernel) (pn 211 rfl ?_)
    refine s_aload_n (i := 0) (by decide +kernel) rfl (pn 212 rfl ?_)
    refine s_getfield (v := .ref 25) (by decide +kernel) fr_1_15 lq_23 (congrArg Prod.fst sh_23) (fv_ref pf_23_1) (pn 215 rfl ?_)
    refine s_iload_n (i := 3) (by decide +kernel) rfl (pn 216 rfl ?_)
    obtain ⟨b2, h⟩ := h
    refine t_iaload (v := M.1 25 (l3 + (-1)).toNatClampNeg) (by decide +kernel) ⟨Or.inl lq_25, congrArg Prod.fst sh_25⟩ (al_in sh_25 b2) rfl (pn 217 rfl ?_)
    refine s_i2l (by decide +kernel) (pn 218 rfl ?_)
    refine s_callsL [.int l6, .long ((M.1 25 ((l3 + (-1)) - 1).toNatClampNeg).toInt64), .long ((M.1 25 (l3 + (-1)).toNatClampNeg).toInt64)] rfl (by decide +kernel) ms_1_53 np_12 (Nat.le_of_ble_eq_true rfl) (cL_use h (fun r1 s1 M1 h => (pn 221 rfl ?_)))
    refine s_callsI [.long r1] rfl (by decide +kernel) ms_1_57 np_13 (Nat.le_of_ble_eq_true rfl) (cI_use h (fun r2 s2 M2 h => (pn 224 rfl ?_)))
    obtain ⟨b3, h⟩ := h
    refine t_iastore (k := ((l3 + (-1)) - 1).toNatClampNeg) (by decide +kernel) ⟨lq_25, congrArg Prod.fst sh_25⟩ (al_in sh_25 b3) rfl (pn 225 rfl ?_)
    refine t_iinc (i := 5) (n := 1) (ls' := [.ref 23, .null, .int l2, .int (l3 + (-1)), .int l4, .int (l5 + 1), .int l6, .null]) (by decide +kernel) rfl (Nat.le_of_ble_eq_true rfl) kn_1 rfl (pn 228 rfl ?_)
    refine s_goto (off := -220) (tgt := 8) (by decide +kernel) rfl ?_
    exact pm_weak [.ref 23, .null, .int l2, .int (l3 + (-1)), .int l4, .int (l5 + 1), .null, .null] (pm_le_cons (Or.inr rfl) (pm_le_cons (Or.inl rfl) (pm_le_cons (Or.inr rfl) (pm_le_cons (Or.inr rfl) (pm_le_cons (Or.inr rfl) (pm_le_cons (Or.inr rfl) (pm_le_cons (Or.inl rfl) (pm_le_cons (Or.inl rfl) pm_le_nil)))))))) h
abbrev wW_factAt (d pc : Nat) (ls st : List Value) (s : pm_S) (M : pm_M) (Q : Int32 → pm_S → pm_M → Prop) : Prop := wI d prog_3_method_7_code 1 (some .int) false pc ls st s M Q
theorem enW_factAt {d : Nat} {s : pm_S} {M : pm_M} {x1 : Int32} {Q : Int32 → pm_S → pm_M → Prop}  (h : (¬ (x1 < 0) → (¬ (7 ≤ x1) → vp_in x1 7)) ∧ Q ((if x1 < 0 then 0 else (if 7 ≤ x1 then 0 else (M.1 26 x1.toNatClampNeg))) : Int32) s M) : cI (d + 1) yW_factAt [.ref 23, .int x1] s M Q := by
  refine pm_toI (by decide) (Nat.le_of_ble_eq_true rfl) ?_
  show wW_factAt d 0 [.ref 23, .int x1] [] s M Q
  refine s_iload_n (i := 1) (by decide +kernel) rfl (pn 1 rfl ?_)
  obtain ⟨b1, h⟩ := h
  have k1 : ∀ (z1 : Int32) (z1e : z1 = ((if x1 < 0 then 0 else (if 7 ≤ x1 then 0 else (M.1 26 x1.toNatClampNeg))) : Int32)), wW_factAt d 23 [.ref 23, .int x1] [.int z1] s M Q := by
    intro z1 z1e
    subst z1e
    exact s_ireturn (st := []) (by decide +kernel) (Or.inl rfl) ⟨_, rfl, s, rfl, h⟩
  refine s_if_lt (off := 21) (tgt := 22) (by decide +kernel) rfl (fun c1 => ?_) (fun c1 => (pn 4 rfl ?_))
  · refine t_iconst (by decide +kernel) ki_0 (pn 23 rfl ?_)
    exact k1 _ (by simp only [if_pos c1])
  · refine s_iload_n (i := 1) (by decide +kernel) rfl (pn 5 rfl ?_)
    refine s_aload_n (i := 0) (by decide +kernel) rfl (pn 6 rfl ?_)
    refine s_getfield (v := .ref 26) (by decide +kernel) fr_1_18 lq_23 (congrArg Prod.fst sh_23) (fv_ref pf_23_2) (pn 9 rfl ?_)
    refine t_arraylength (v := 7) (by decide +kernel) (al_ok lq_26 sh_26 (by decide)) (al_len sh_26 (by decide)) (pn 10 rfl ?_)
    refine s_icmp_ge (off := 12) (tgt := 22) (by decide +kernel) rfl (fun c2 => ?_) (fun c2 => (pn 13 rfl ?_))
    · refine t_iconst (by decide +kernel) ki_0 (pn 23 rfl ?_)
      exact k1 _ (by simp only [if_neg c1, if_pos c2])
    · refine s_aload_n (i := 0) (by decide +kernel) rfl (pn 14 rfl ?_)
      refine s_getfield (v := .ref 26) (by decide +kernel) fr_1_18 lq_23 (congrArg Prod.fst sh_23) (fv_ref pf_23_2) (pn 17 rfl ?_)
      refine s_iload_n (i := 1) (by decide +kernel) rfl (pn 18 rfl ?_)
      refine t_iaload (v := M.1 26 x1.toNatClampNeg) (by decide +kernel) ⟨Or.inl lq_26, congrArg Prod.fst sh_26⟩ (al_in sh_26 (b1 c1 c2)) rfl (pn 19 rfl ?_)
      refine s_goto (off := 4) (tgt := 23) (by decide +kernel) rfl ?_
      exact k1 _ (by simp only [if_neg c1, if_neg c2])
abbrev wW_joined (d pc : Nat) (ls st : List Value) (s : pm_S) (M : pm_M) (Q : Int64 → pm_S → pm_M → Prop) : Prop := wL d prog_3_method_8_code 1 (some .long) false pc ls st s M Q
theorem enW_joined {d : Nat} {s : pm_S} {M : pm_M} {x1 : Int32} {x2 : Int64} {x3 : Int64} {Q : Int64 → pm_S → pm_M → Prop}  (h : ((x1 = 2 → Q (x2 + x3) s M) ∧ (¬ x1 = 2 → ((x1 = 3 → Q (x2 - x3) s M) ∧ (¬ x1 = 3 → ((x1 = 4 → Q (x2 * x3) s M) ∧ (¬ x1 = 4 → ((x1 = 5 → Q ((if x2 = x3 then 1 else 0) : Int64) s M) ∧ (¬ x1 = 5 → ((x1 = 6 → Q ((if x3 ≤ x2 then 0 else 1) : Int64) s M) ∧ (¬ x1 = 6 → ((x1 = 7 → Q ((if x2 ≤ x3 then 0 else 1) : Int64) s M) ∧ (¬ x1 = 7 → ((x1 = 8 → Q (x2 &&& x3) s M) ∧ (¬ x1 = 8 → Q (x2 ||| x3) s M))))))))))))))) : cL (d + 1) yW_joined [.int x1, .long x2, .long x3] s M Q := by
  refine pm_toL (by decide) (Nat.le_of_ble_eq_true rfl) ?_
  show wW_joined d 0 [.int x1, .long x2, .null, .long x3, .null] [] s M Q
  refine s_iload_n (i := 0) (by decide +kernel) rfl (pn 1 rfl ?_)
  by_cases c1 : x1 = 2
  · refine s_tableswitch (dflt := 95) (lo := 2) (hi := 8) (offs := #[43, 47, 51, 55, 67, 79, 91]) (len := 43) (tgt := 44) (by decide +kernel) (by rw [c1]; decide) (by rw [c1]; decide) ?_
    have h := h.1 c1
    refine s_lload_n (i := 1) (by decide +kernel) rfl (pn 45 rfl ?_)
    refine s_lload_n (i := 3) (by decide +kernel) rfl (pn 46 rfl ?_)
    refine s_ladd (by decide +kernel) (pn 47 rfl ?_)
    exact s_lreturn (st := []) (by decide +kernel) rfl ⟨_, rfl, s, rfl, h⟩
  have h := h.2 c1
  by_cases c2 : x1 = 3
  · refine s_tableswitch (dflt := 95) (lo := 2) (hi := 8) (offs := #[43, 47, 51, 55, 67, 79, 91]) (len := 43) (tgt := 48) (by decide +kernel) (by rw [c2]; decide) (by rw [c2]; decide) ?_
    have h := h.1 c2
    refine s_lload_n (i := 1) (by decide +kernel) rfl (pn 49 rfl ?_)
    refine s_lload_n (i := 3) (by decide +kernel) rfl (pn 50 rfl ?_)
    refine s_lsub (by decide +kernel) (pn 51 rfl ?_)
    exact s_lreturn (st := []) (by decide +kernel) rfl ⟨_, rfl, s, rfl, h⟩
  have h := h.2 c2
  by_cases c3 : x1 = 4
  · refine s_tableswitch (dflt := 95) (lo := 2) (hi := 8) (offs := #[43, 47, 51, 55, 67, 79, 91]) (len := 43) (tgt := 52) (by decide +kernel) (by rw [c3]; decide) (by rw [c3]; decide) ?_
    have h := h.1 c3
    refine s_lload_n (i := 1) (by decide +kernel) rfl (pn 53 rfl ?_)
    refine s_lload_n (i := 3) (by decide +kernel) rfl (pn 54 rfl ?_)
    refine s_lmul (by decide +kernel) (pn 55 rfl ?_)
    exact s_lreturn (st := []) (by decide +kernel) rfl ⟨_, rfl, s, rfl, h⟩
  have h := h.2 c3
  by_cases c4 : x1 = 5
  · refine s_tableswitch (dflt := 95) (lo := 2) (hi := 8) (offs := #[43, 47, 51, 55, 67, 79, 91]) (len := 43) (tgt := 56) (by decide +kernel) (by rw [c4]; decide) (by rw [c4]; decide) ?_
    have h := h.1 c4
    refine s_lload_n (i := 1) (by decide +kernel) rfl (pn 57 rfl ?_)
    refine s_lload_n (i := 3) (by decide +kernel) rfl (pn 58 rfl ?_)
    have k1 : ∀ (z1 : Int64) (z1e : z1 = ((if x2 = x3 then 1 else 0) : Int64)), wW_joined d 67 [.int x1, .long x2, .null, .long x3, .null] [.long z1] s M Q := by
      intro z1 z1e
      subst z1e
      exact s_lreturn (st := []) (by decide +kernel) rfl ⟨_, rfl, s, rfl, h⟩
    refine t_lc_ne (off := 7) (tgt := 66) (by decide +kernel) (by decide +kernel) rfl (fun c5 => ?_) (fun c5 => (pn 62 rfl ?_))
    · refine t_lconst (n := 0) (v := 0) (by decide +kernel) rfl (pn 67 rfl ?_)
      exact k1 _ (by simp only [if_neg c5])
    · refine t_lconst (n := 1) (v := 1) (by decide +kernel) rfl (pn 63 rfl ?_)
      refine s_goto (off := 4) (tgt := 67) (by decide +kernel) rfl ?_
      exact k1 _ (by simp only [if_pos c5])
  have h := h.2 c4
  by_cases c6 : x1 = 6
  · refine s_tableswitch (dflt := 95) (lo := 2) (hi := 8) (offs := #[43, 47, 51, 55, 67, 79, 91]) (len := 43) (tgt := 68) (by decide +kernel) (by rw [c6]; decide) (by rw [c6]; decide) ?_
    have h := h.1 c6
    refine s_lload_n (i := 1) (by decide +kernel) rfl (pn 69 rfl ?_)
    refine s_lload_n (i := 3) (by decide +kernel) rfl (pn 70 rfl ?_)
    have k2 : ∀ (z2 : Int64) (z2e : z2 = ((if x3 ≤ x2 then 0 else 1) : Int64)), wW_joined d 79 [.int x1, .long x2, .null, .long x3, .null] [.long z2] s M Q := by
      intro z2 z2e
      subst z2e
      exact s_lreturn (st := []) (by decide +kernel) rfl ⟨_, rfl, s, rfl, h⟩
    refine t_lc_ge (off := 7) (tgt := 78) (by decide +kernel) (by decide +kernel) rfl (fun c7 => ?_) (fun c7 => (pn 74 rfl ?_))
    · refine t_lconst (n := 0) (v := 0) (by decide +kernel) rfl (pn 79 rfl ?_)
      exact k2 _ (by simp only [if_pos c7])
    · refine t_lconst (n := 1) (v := 1) (by decide +kernel) rfl (pn 75 rfl ?_)
      refine s_goto (off := 4) (tgt := 79) (by decide +kernel) rfl ?_
      exact k2 _ (by simp only [if_neg c7])
  have h := h.2 c6
  by_cases c8 : x1 = 7
  · refine s_tableswitch (dflt := 95) (lo := 2) (hi := 8) (offs := #[43, 47, 51, 55, 67, 79, 91]) (len := 43) (tgt := 80) (by decide +kernel) (by rw [c8]; decide) (by rw [c8]; decide) ?_
    have h := h.1 c8
    refine s_lload_n (i := 1) (by decide +kernel) rfl (pn 81 rfl ?_)
    refine s_lload_n (i := 3) (by decide +kernel) rfl (pn 82 rfl ?_)
    have k3 : ∀ (z3 : Int64) (z3e : z3 = ((if x2 ≤ x3 then 0 else 1) : Int64)), wW_joined d 91 [.int x1, .long x2, .null, .long x3, .null] [.long z3] s M Q := by
      intro z3 z3e
      subst z3e
      exact s_lreturn (st := []) (by decide +kernel) rfl ⟨_, rfl, s, rfl, h⟩
    refine t_lc_le (off := 7) (tgt := 90) (by decide +kernel) (by decide +kernel) rfl (fun c9 => ?_) (fun c9 => (pn 86 rfl ?_))
    · refine t_lconst (n := 0) (v := 0) (by decide +kernel) rfl (pn 91 rfl ?_)
      exact k3 _ (by simp only [if_pos c9])
    · refine t_lconst (n := 1) (v := 1) (by decide +kernel) rfl (pn 87 rfl ?_)
      refine s_goto (off := 4) (tgt := 91) (by decide +kernel) rfl ?_
      exact k3 _ (by simp only [if_neg c9])
  have h := h.2 c8
  by_cases c10 : x1 = 8
  · refine s_tableswitch (dflt := 95) (lo := 2) (hi := 8) (offs := #[43, 47, 51, 55, 67, 79, 91]) (len := 43) (tgt := 92) (by decide +kernel) (by rw [c10]; decide) (by rw [c10]; decide) ?_
    have h := h.1 c10
    refine s_lload_n (i := 1) (by decide +kernel) rfl (pn 93 rfl ?_)
    refine s_lload_n (i := 3) (by decide +kernel) rfl (pn 94 rfl ?_)
    refine s_land (by decide +kernel) (pn 95 rfl ?_)
    exact s_lreturn (st := []) (by decide +kernel) rfl ⟨_, rfl, s, rfl, h⟩
  have h := h.2 c10
  have k4 : wW_joined d 96 [.int x1, .long x2, .null, .long x3, .null] [] s M Q := by
    refine s_lload_n (i := 1) (by decide +kernel) rfl (pn 97 rfl ?_)
    refine s_lload_n (i := 3) (by decide +kernel) rfl (pn 98 rfl ?_)
    refine s_lor (by decide +kernel) (pn 99 rfl ?_)
    exact s_lreturn (st := []) (by decide +kernel) rfl ⟨_, rfl, s, rfl, h⟩
  by_cases q0 : x1.toInt < 2 ∨ 8 < x1.toInt
  · exact t_tabledef (dflt := 95) (lo := 2) (hi := 8) (offs := #[43, 47, 51, 55, 67, 79, 91]) (len := 43) (tgt := 96) (by decide +kernel) rfl q0 k4
  · rcases (show x1.toInt = 2 ∨ x1.toInt = 3 ∨ x1.toInt = 4 ∨ x1.toInt = 5 ∨ x1.toInt = 6 ∨ x1.toInt = 7 ∨ x1.toInt = 8 by omega) with q1 | q1 | q1 | q1 | q1 | q1 | q1
    · exact absurd (Int32.toInt_inj.mp (q1.trans (by decide))) c1
    · exact absurd (Int32.toInt_inj.mp (q1.trans (by decide))) c2
    · exact absurd (Int32.toInt_inj.mp (q1.trans (by decide))) c3
    · exact absurd (Int32.toInt_inj.mp (q1.trans (by decide))) c4
    · exact absurd (Int32.toInt_inj.mp (q1.trans (by decide))) c6
    · exact absurd (Int32.toInt_inj.mp (q1.trans (by decide))) c8
    · exact absurd (Int32.toInt_inj.mp (q1.trans (by decide))) c10
abbrev wW_bounded (d pc : Nat) (ls st : List Value) (s : pm_S) (M : pm_M) (Q : Int32 → pm_S → pm_M → Prop) : Prop := wI d prog_3_method_9_code 1 (some .int) false pc ls st s M Q
theorem enW_bounded {d : Nat} {s : pm_S} {M : pm_M} {x1 : Int64} {Q : Int32 → pm_S → pm_M → Prop}  (h : Q ((if x1 ≤ 1000000 then (if (-1000000) ≤ x1 then (x1.toInt32) else (-1000000)) else 1000000) : Int32) s M) : cI (d + 1) yW_bounded [.long x1] s M Q := by
  refine pm_toI (by decide) (Nat.le_of_ble_eq_true rfl) ?_
  show wW_bounded d 0 [.long x1, .null] [] s M Q
  refine s_lload_n (i := 0) (by decide +kernel) rfl (pn 1 rfl ?_)
  refine s_ldc2_w (by decide +kernel) kl_1_61 (pn 4 rfl ?_)
  have k1 : ∀ (z1 : Int32) (z1e : z1 = ((if x1 ≤ 1000000 then (if (-1000000) ≤ x1 then (x1.toInt32) else (-1000000)) else 1000000) : Int32)), wW_bounded d 28 [.long x1, .null] [.int z1] s M Q := by
    intro z1 z1e
    subst z1e
    exact s_ireturn (st := []) (by decide +kernel) (Or.inl rfl) ⟨_, rfl, s, rfl, h⟩
  refine t_lc_le (off := 8) (tgt := 13) (by decide +kernel) (by decide +kernel) rfl (fun c1 => ?_) (fun c1 => (pn 8 rfl ?_))
  · refine s_lload_n (i := 0) (by decide +kernel) rfl (pn 14 rfl ?_)
    refine s_ldc2_w (by decide +kernel) kl_1_64 (pn 17 rfl ?_)
    refine t_lc_ge (off := 8) (tgt := 26) (by decide +kernel) (by decide +kernel) rfl (fun c2 => ?_) (fun c2 => (pn 21 rfl ?_))
    · refine s_lload_n (i := 0) (by decide +kernel) rfl (pn 27 rfl ?_)
      refine s_l2i (by decide +kernel) (pn 28 rfl ?_)
      exact k1 _ (by simp only [if_pos c1, if_pos c2])
    · refine s_ldc (by decide +kernel) kc_1_66 (pn 23 rfl ?_)
      refine s_goto (off := 5) (tgt := 28) (by decide +kernel) rfl ?_
      exact k1 _ (by simp only [if_pos c1, if_neg c2])
  · refine s_ldc (by decide +kernel) kc_1_63 (pn 10 rfl ?_)
    refine s_goto (off := 18) (tgt := 28) (by decide +kernel) rfl ?_
    exact k1 _ (by simp only [if_neg c1])
abbrev wY_isMissing (d pc : Nat) (ls st : List Value) (s : pm_S) (M : pm_M) (Q : Int32 → pm_S → pm_M → Prop) : Prop := wI d prog_11_method_2_code 9 (some .boolean) false pc ls st s M Q
theorem enY_isMissing {d : Nat} {s : pm_S} {M : pm_M} {o : Nat} {Q : Int32 → pm_S → pm_M → Prop} (ho : isY o) (h : Q ((if 0 ≤ (M.1 o 2) then 0 else 1) : Int32) s M) : cI (d + 1) yY_isMissing [.ref o] s M Q := by
  refine pm_toI (by decide) (Nat.le_of_ble_eq_true rfl) ?_
  show wY_isMissing d 0 [.ref o] [] s M Q
  refine s_aload_n (i := 0) (by decide +kernel) rfl (pn 1 rfl ?_)
  refine s_getfield (v := .int (M.1 o 2)) (by decide +kernel) fr_9_15 (ltY_0 ho) (congrArg Prod.fst (shY_0 ho)) rfl (pn 4 rfl ?_)
  have k1 : ∀ (z1 : Int32) (z1e : z1 = ((if 0 ≤ (M.1 o 2) then 0 else 1) : Int32)), wY_isMissing d 12 [.ref o] [.int z1] s M Q := by
    intro z1 z1e
    subst z1e
    exact s_ireturn (st := []) (by decide +kernel) (Or.inr ⟨rfl, (or01 (Or.inl rfl) (Or.inr rfl))⟩) ⟨_, rfl, s, rfl, h⟩
  refine s_if_ge (off := 7) (tgt := 11) (by decide +kernel) rfl (fun c1 => ?_) (fun c1 => (pn 7 rfl ?_))
  · refine t_iconst (by decide +kernel) ki_0 (pn 12 rfl ?_)
    exact k1 _ (by simp only [if_pos c1])
  · refine t_iconst (by decide +kernel) ki_1 (pn 8 rfl ?_)
    refine s_goto (off := 4) (tgt := 12) (by decide +kernel) rfl ?_
    exact k1 _ (by simp only [if_neg c1])
abbrev wY_at (d pc : Nat) (ls st : List Value) (s : pm_S) (M : pm_M) (Q : Int64 → pm_S → pm_M → Prop) : Prop := wL d prog_11_method_5_code 9 (some .long) false pc ls st s M Q
theorem enY_at {d : Nat} {s : pm_S} {M : pm_M} {o : Nat} {x1 : Int32} {Q : Int64 → pm_S → pm_M → Prop} (ho : isY o) (h : cI d yY_hasPlace [.ref o, .int x1] s M (fun r1 s1 M1 => (¬ (r1 = 0) → vp_in x1 40) ∧ Q ((if r1 = 0 then 0 else (M1.2 (o + 1) x1.toNatClampNeg)) : Int64) s1 M1)) : cL (d + 1) yY_at [.ref o, .int x1] s M Q := by
  refine pm_toL (by decide) (Nat.le_of_ble_eq_true rfl) ?_
  show wY_at d 0 [.ref o, .int x1] [] s M Q
  refine s_aload_n (i := 0) (by decide +kernel) rfl (pn 1 rfl ?_)
  refine s_iload_n (i := 1) (by decide +kernel) rfl (pn 2 rfl ?_)
  refine s_callvI [.int x1] rfl (by decide +kernel) mv_9_28 np_109 (Nat.le_of_ble_eq_true rfl) (ltY_0 ho) ((congrArg Prod.fst (shY_0 ho)).trans oc_109) (cI_use h (fun r1 s1 M1 h => (pn 5 rfl ?_)))
  obtain ⟨b1, h⟩ := h
  have k1 : ∀ (z1 : Int64) (z1e : z1 = ((if r1 = 0 then 0 else (M1.2 (o + 1) x1.toNatClampNeg)) : Int64)), wY_at d 18 [.ref o, .int x1] [.long z1] s1 M1 Q := by
    intro z1 z1e
    subst z1e
    exact s_lreturn (st := []) (by decide +kernel) rfl ⟨_, rfl, s1, rfl, h⟩
  refine s_if_eq (off := 12) (tgt := 17) (by decide +kernel) rfl (fun c1 => ?_) (fun c1 => (pn 8 rfl ?_))
  · refine t_lconst (n := 0) (v := 0) (by decide +kernel) rfl (pn 18 rfl ?_)
    exact k1 _ (by simp only [if_pos c1])
  · refine s_aload_n (i := 0) (by decide +kernel) rfl (pn 9 rfl ?_)
    refine s_getfield (v := .ref (o + 1)) (by decide +kernel) fr_9_9 (ltY_0 ho) (congrArg Prod.fst (shY_0 ho)) (fv_ref (pfY_0 ho)) (pn 12 rfl ?_)
    refine s_iload_n (i := 1) (by decide +kernel) rfl (pn 13 rfl ?_)
    refine t_laload (v := M1.2 (o + 1) x1.toNatClampNeg) (by decide +kernel) ⟨(ltY_1 ho), congrArg Prod.fst (shY_1 ho)⟩ (al_in (shY_1 ho) (b1 c1)) rfl (pn 14 rfl ?_)
    refine s_goto (off := 4) (tgt := 18) (by decide +kernel) rfl ?_
    exact k1 _ (by simp only [if_neg c1])
abbrev wY_hasPlace (d pc : Nat) (ls st : List Value) (s : pm_S) (M : pm_M) (Q : Int32 → pm_S → pm_M → Prop) : Prop := wI d prog_11_method_3_code 9 (some .boolean) false pc ls st s M Q
theorem enY_hasPlace {d : Nat} {s : pm_S} {M : pm_M} {o : Nat} {x1 : Int32} {Q : Int32 → pm_S → pm_M → Prop} (ho : isY o) (h : Q ((if x1 < 0 then 0 else (if (M.1 o 2) ≤ x1 then 0 else (if 40 ≤ x1 then 0 else 1))) : Int32) s M) : cI (d + 1) yY_hasPlace [.ref o, .int x1] s M Q := by
  refine pm_toI (by decide) (Nat.le_of_ble_eq_true rfl) ?_
  show wY_hasPlace d 0 [.ref o, .int x1] [] s M Q
  refine s_iload_n (i := 1) (by decide +kernel) rfl (pn 1 rfl ?_)
  have k1 : ∀ (z1 : Int32) (z1e : z1 = ((if x1 < 0 then 0 else (if (M.1 o 2) ≤ x1 then 0 else (if 40 ≤ x1 then 0 else 1))) : Int32)), wY_hasPlace d 23 [.ref o, .int x1] [.int z1] s M Q := by
    intro z1 z1e
    subst z1e
    exact s_ireturn (st := []) (by decide +kernel) (Or.inr ⟨rfl, (or01 (Or.inl rfl) (or01 (Or.inl rfl) (or01 (Or.inl rfl) (Or.inr rfl))))⟩) ⟨_, rfl, s, rfl, h⟩
  refine s_if_lt (off := 21) (tgt := 22) (by decide +kernel) rfl (fun c1 => ?_) (fun c1 => (pn 4 rfl ?_))
  · refine t_iconst (by decide +kernel) ki_0 (pn 23 rfl ?_)
    exact k1 _ (by simp only [if_pos c1])
  · refine s_iload_n (i := 1) (by decide +kernel) rfl (pn 5 rfl ?_)
    refine s_aload_n (i := 0) (by decide +kernel) rfl (pn 6 rfl ?_)
    refine s_getfield (v := .int (M.1 o 2)) (by decide +kernel) fr_9_15 (ltY_0 ho) (congrArg Prod.fst (shY_0 ho)) rfl (pn 9 rfl ?_)
    refine s_icmp_ge (off := 13) (tgt := 22) (by decide +kernel) rfl (fun c2 => ?_) (fun c2 => (pn 12 rfl ?_))
    · refine t_iconst (by decide +kernel) ki_0 (pn 23 rfl ?_)
      exact k1 _ (by simp only [if_neg c1, if_pos c2])
    · refine s_iload_n (i := 1) (by decide +kernel) rfl (pn 13 rfl ?_)
      refine t_bipush (by decide +kernel) kb_40 (pn 15 rfl ?_)
      refine s_icmp_ge (off := 7) (tgt := 22) (by decide +kernel) rfl (fun c3 => ?_) (fun c3 => (pn 18 rfl ?_))
      · refine t_iconst (by decide +kernel) ki_0 (pn 23 rfl ?_)
        exact k1 _ (by simp only [if_neg c1, if_neg c2, if_pos c3])
      · refine t_iconst (by decide +kernel) ki_1 (pn 19 rfl ?_)
        refine s_goto (off := 4) (tgt := 23) (by decide +kernel) rfl ?_
        exact k1 _ (by simp only [if_neg c1, if_neg c2, if_neg c3])
abbrev wY_codeForNumbers (d pc : Nat) (ls st : List Value) (s : pm_S) (M : pm_M) (Q : Int32 → pm_S → pm_M → Prop) : Prop := wI d prog_11_method_8_code 9 (some .int) false pc ls st s M Q
theorem enY_codeForNumbers {d : Nat} {s : pm_S} {M : pm_M} {o : Nat} {x1 : Int32} {x2 : Int32} {Q : Int32 → pm_S → pm_M → Prop} (ho : isY o) (h : cI d yY_isMissing [.ref o] s M (fun r1 s1 M1 => (((r1 = 0) → ((((M1.1 o 2) < 1) → Q (-4) s1 M1) ∧ (¬ ((M1.1 o 2) < 1) → ((((M1.1 o 2) ≤ x1) → wY_codeForNumbers d 31 [.ref o, .null, .int x2, .int 0] [] s1 M1 Q) ∧ (¬ ((M1.1 o 2) ≤ x1) → Q (-4) s1 M1))))) ∧ (¬ (r1 = 0) → Q (-6) s1 M1)))) : cI (d + 1) yY_codeForNumbers [.ref o, .int x1, .int x2] s M Q := by
  refine pm_toI (by decide) (Nat.le_of_ble_eq_true rfl) ?_
  show wY_codeForNumbers d 0 [.ref o, .int x1, .int x2, .null] [] s M Q
  refine s_aload_n (i := 0) (by decide +kernel) rfl (pn 1 rfl ?_)
  refine s_callvI [] rfl (by decide +kernel) mv_9_38 np_107 (Nat.le_of_ble_eq_true rfl) (ltY_0 ho) ((congrArg Prod.fst (shY_0 ho)).trans oc_107) (cI_use h (fun r1 s1 M1 h => (pn 4 rfl ?_)))
  refine s_if_eq (off := 6) (tgt := 10) (by decide +kernel) rfl (fun c1 => ?_) (fun c1 => (pn 7 rfl ?_))
  · have h := h.1 c1
    refine s_aload_n (i := 0) (by decide +kernel) rfl (pn 11 rfl ?_)
    refine s_getfield (v := .int (M1.1 o 2)) (by decide +kernel) fr_9_15 (ltY_0 ho) (congrArg Prod.fst (shY_0 ho)) rfl (pn 14 rfl ?_)
    refine t_iconst (by decide +kernel) ki_1 (pn 15 rfl ?_)
    refine s_icmp_lt (off := 11) (tgt := 26) (by decide +kernel) rfl (fun c2 => ?_) (fun c2 => (pn 18 rfl ?_))
    · have h := h.1 c2
      refine t_bipush (by decide +kernel) kb_m4 (pn 28 rfl ?_)
      exact s_ireturn (st := []) (by decide +kernel) (Or.inl rfl) ⟨_, rfl, s1, rfl, h⟩
    · have h := h.2 c2
      refine s_aload_n (i := 0) (by decide +kernel) rfl (pn 19 rfl ?_)
      refine s_getfield (v := .int (M1.1 o 2)) (by decide +kernel) fr_9_15 (ltY_0 ho) (congrArg Prod.fst (shY_0 ho)) rfl (pn 22 rfl ?_)
      refine s_iload_n (i := 1) (by decide +kernel) rfl (pn 23 rfl ?_)
      refine s_icmp_le (off := 6) (tgt := 29) (by decide +kernel) rfl (fun c3 => ?_) (fun c3 => (pn 26 rfl ?_))
      · have h := h.1 c3
        refine t_iconst (by decide +kernel) ki_0 (pn 30 rfl ?_)
        refine s_istore_n (i := 3) (by decide +kernel) (Nat.le_of_ble_eq_true rfl) (pn 31 rfl (t_store (ls' := [.ref o, .int x1, .int x2, .int 0]) rfl ?_))
        exact pm_weak [.ref o, .null, .int x2, .int 0] (pm_le_cons (Or.inr rfl) (pm_le_cons (Or.inl rfl) (pm_le_cons (Or.inr rfl) (pm_le_cons (Or.inr rfl) pm_le_nil)))) h
      · have h := h.2 c3
        refine t_bipush (by decide +kernel) kb_m4 (pn 28 rfl ?_)
        exact s_ireturn (st := []) (by decide +kernel) (Or.inl rfl) ⟨_, rfl, s1, rfl, h⟩
  · have h := h.2 c1
    refine t_bipush (by decide +kernel) kb_m6 (pn 9 rfl ?_)
    exact s_ireturn (st := []) (by decide +kernel) (Or.inl rfl) ⟨_, rfl, s1, rfl, h⟩
theorem sgY_codeForNumbers_31 {d : Nat} {s : pm_S} {M : pm_M} {l2 : Int32} {l3 : Int32} {o : Nat} {Q : Int32 → pm_S → pm_M → Prop} (ho : isY o) (h : ((((M.1 o 2) ≤ l3) → Q 0 s M) ∧ (¬ ((M.1 o 2) ≤ l3) → cL d yY_at [.ref o, .int l3] s M (fun r1 s1 M1 => (((r1 < 0) → Q (-3) s1 M1) ∧ (¬ (r1 < 0) → cL d yY_at [.ref o, .int l3] s1 M1 (fun r2 s2 M2 => (((r2 < (l2.toInt64)) → wY_codeForNumbers d 31 [.ref o, .null, .int l2, .int (l3 + 1)] [] s2 M2 Q) ∧ (¬ (r2 < (l2.toInt64)) → Q (-3) s2 M2))))))))) : wY_codeForNumbers d 31 [.ref o, .null, .int l2, .int l3] [] s M Q := by
  refine s_iload_n (i := 3) (by decide +kernel) rfl (pn 32 rfl ?_)
  refine s_aload_n (i := 0) (by decide +kernel) rfl (pn 33 rfl ?_)
  refine s_getfield (v := .int (M.1 o 2)) (by decide +kernel) fr_9_15 (ltY_0 ho) (congrArg Prod.fst (shY_0 ho)) rfl (pn 36 rfl ?_)
  refine s_icmp_ge (off := 33) (tgt := 69) (by decide +kernel) rfl (fun c1 => ?_) (fun c1 => (pn 39 rfl ?_))
  · have h := h.1 c1
    refine t_iconst (by decide +kernel) ki_0 (pn 70 rfl ?_)
    exact s_ireturn (st := []) (by decide +kernel) (Or.inl rfl) ⟨_, rfl, s, rfl, h⟩
  · have h := h.2 c1
    refine s_aload_n (i := 0) (by decide +kernel) rfl (pn 40 rfl ?_)
    refine s_iload_n (i := 3) (by decide +kernel) rfl (pn 41 rfl ?_)
    refine s_callvL [.int l3] rfl (by decide +kernel) mv_9_42 np_108 (Nat.le_of_ble_eq_true rfl) (ltY_0 ho) ((congrArg Prod.fst (shY_0 ho)).trans oc_108) (cL_use h (fun r1 s1 M1 h => (pn 44 rfl ?_)))
    refine t_lconst (n := 0) (v := 0) (by decide +kernel) rfl (pn 45 rfl ?_)
    refine t_lc_lt (off := 14) (tgt := 60) (by decide +kernel) (by decide +kernel) rfl (fun c2 => ?_) (fun c2 => (pn 49 rfl ?_))
    · have h := h.1 c2
      refine t_bipush (by decide +kernel) kb_m3 (pn 62 rfl ?_)
      exact s_ireturn (st := []) (by decide +kernel) (Or.inl rfl) ⟨_, rfl, s1, rfl, h⟩
    · have h := h.2 c2
      refine s_aload_n (i := 0) (by decide +kernel) rfl (pn 50 rfl ?_)
      refine s_iload_n (i := 3) (by decide +kernel) rfl (pn 51 rfl ?_)
      refine s_callvL [.int l3] rfl (by decide +kernel) mv_9_42 np_108 (Nat.le_of_ble_eq_true rfl) (ltY_0 ho) ((congrArg Prod.fst (shY_0 ho)).trans oc_108) (cL_use h (fun r2 s2 M2 h => (pn 54 rfl ?_)))
      refine s_iload_n (i := 2) (by decide +kernel) rfl (pn 55 rfl ?_)
      refine s_i2l (by decide +kernel) (pn 56 rfl ?_)
      refine t_lc_lt (off := 6) (tgt := 63) (by decide +kernel) (by decide +kernel) rfl (fun c3 => ?_) (fun c3 => (pn 60 rfl ?_))
      · have h := h.1 c3
        refine t_iinc (i := 3) (n := 1) (ls' := [.ref o, .null, .int l2, .int (l3 + 1)]) (by decide +kernel) rfl (Nat.le_of_ble_eq_true rfl) kn_1 rfl (pn 66 rfl ?_)
        refine s_goto (off := -35) (tgt := 31) (by decide +kernel) rfl ?_
        exact h
      · have h := h.2 c3
        refine t_bipush (by decide +kernel) kb_m3 (pn 62 rfl ?_)
        exact s_ireturn (st := []) (by decide +kernel) (Or.inl rfl) ⟨_, rfl, s2, rfl, h⟩
abbrev wY_beginAnew (d pc : Nat) (ls st : List Value) (s : pm_S) (M : pm_M) (Q : pm_S → pm_M → Prop) : Prop := wV d prog_11_method_4_code 9 none false pc ls st s M Q
theorem enY_beginAnew {d : Nat} {s : pm_S} {M : pm_M} {o : Nat} {x1 : Int32} {x2 : Int32} {Q : pm_S → pm_M → Prop} (ho : isY o) (h : cV d yarr_fill_JJ [.ref (o + 1), .long 0] s (pm_si (pm_si M o 1 x1) o 2 x2) (fun s1 M1 => Q s1 M1)) : cV (d + 1) yY_beginAnew [.ref o, .int x1, .int x2] s M Q := by
  refine pm_toV (by decide) (Nat.le_of_ble_eq_true rfl) ?_
  show wY_beginAnew d 0 [.ref o, .int x1, .int x2] [] s M Q
  refine s_aload_n (i := 0) (by decide +kernel) rfl (pn 1 rfl ?_)
  refine s_iload_n (i := 1) (by decide +kernel) rfl (pn 2 rfl ?_)
  refine s_putfieldI (by decide +kernel) fr_9_19 (ltY_0 ho) (congrArg Prod.fst (shY_0 ho)) (fun q => by cases q) (Or.inl rfl) (pn 5 rfl ?_)
  refine s_aload_n (i := 0) (by decide +kernel) rfl (pn 6 rfl ?_)
  refine s_iload_n (i := 2) (by decide +kernel) rfl (pn 7 rfl ?_)
  refine s_putfieldI (by decide +kernel) fr_9_15 (ltY_0 ho) (congrArg Prod.fst (shY_0 ho)) (fun q => by cases q) (Or.inl rfl) (pn 10 rfl ?_)
  refine s_aload_n (i := 0) (by decide +kernel) rfl (pn 11 rfl ?_)
  refine s_getfield (v := .ref (o + 1)) (by decide +kernel) fr_9_9 (ltY_0 ho) (congrArg Prod.fst (shY_0 ho)) (fv_ref (pfY_0 ho)) (pn 14 rfl ?_)
  refine t_lconst (n := 0) (v := 0) (by decide +kernel) rfl (pn 15 rfl ?_)
  refine s_callsV [.ref (o + 1), .long 0] rfl (by decide +kernel) ms_9_22 np_329 (Nat.le_of_ble_eq_true rfl) (cV_use h (fun s1 M1 h => (pn 18 rfl ?_)))
  exact s_return (st := []) (by decide +kernel) rfl ⟨rfl, s1, rfl, h⟩
abbrev wY_put (d pc : Nat) (ls st : List Value) (s : pm_S) (M : pm_M) (Q : Int64 → pm_S → pm_M → Prop) : Prop := wL d prog_11_method_6_code 9 (some .long) false pc ls st s M Q
theorem enY_put {d : Nat} {s : pm_S} {M : pm_M} {o : Nat} {x1 : Int32} {x2 : Int64} {Q : Int64 → pm_S → pm_M → Prop} (ho : isY o) (h : cI d yY_hasPlace [.ref o, .int x1] s M (fun r1 s1 M1 => ((r1 = 0 → Q (-7) s1 M1) ∧ (¬ (r1 = 0) → cL d yY_cut [.ref o, .long x2] s1 M1 (fun r2 s2 M2 => vp_in x1 40 ∧ vp_in x1 40 ∧ Q ((pm_sj M2 (o + 1) x1.toNatClampNeg r2).2 (o + 1) x1.toNatClampNeg) s2 (pm_sj M2 (o + 1) x1.toNatClampNeg r2)))))) : cL (d + 1) yY_put [.ref o, .int x1, .long x2] s M Q := by
  refine pm_toL (by decide) (Nat.le_of_ble_eq_true rfl) ?_
  show wY_put d 0 [.ref o, .int x1, .long x2, .null] [] s M Q
  refine s_aload_n (i := 0) (by decide +kernel) rfl (pn 1 rfl ?_)
  refine s_iload_n (i := 1) (by decide +kernel) rfl (pn 2 rfl ?_)
  refine s_callvI [.int x1] rfl (by decide +kernel) mv_9_28 np_109 (Nat.le_of_ble_eq_true rfl) (ltY_0 ho) ((congrArg Prod.fst (shY_0 ho)).trans oc_109) (cI_use h (fun r1 s1 M1 h => (pn 5 rfl ?_)))
  refine t_if_ne (off := 7) (tgt := 12) (by decide +kernel) rfl (fun c1 => ?_) (fun c1 => (pn 8 rfl ?_))
  · have h := h.2 c1
    refine s_aload_n (i := 0) (by decide +kernel) rfl (pn 13 rfl ?_)
    refine s_getfield (v := .ref (o + 1)) (by decide +kernel) fr_9_9 (ltY_0 ho) (congrArg Prod.fst (shY_0 ho)) (fv_ref (pfY_0 ho)) (pn 16 rfl ?_)
    refine s_iload_n (i := 1) (by decide +kernel) rfl (pn 17 rfl ?_)
    refine s_aload_n (i := 0) (by decide +kernel) rfl (pn 18 rfl ?_)
    refine s_lload_n (i := 2) (by decide +kernel) rfl (pn 19 rfl ?_)
    refine s_callvL [.long x2] rfl (by decide +kernel) mv_9_34 np_113 (Nat.le_of_ble_eq_true rfl) (ltY_0 ho) ((congrArg Prod.fst (shY_0 ho)).trans oc_113) (cL_use h (fun r2 s2 M2 h => (pn 22 rfl ?_)))
    obtain ⟨b1, h⟩ := h
    refine t_lastore (k := x1.toNatClampNeg) (by decide +kernel) ⟨(ltY_1 ho), congrArg Prod.fst (shY_1 ho)⟩ (al_in (shY_1 ho) b1) rfl (pn 23 rfl ?_)
    refine s_aload_n (i := 0) (by decide +kernel) rfl (pn 24 rfl ?_)
    refine s_getfield (v := .ref (o + 1)) (by decide +kernel) fr_9_9 (ltY_0 ho) (congrArg Prod.fst (shY_0 ho)) (fv_ref (pfY_0 ho)) (pn 27 rfl ?_)
    refine s_iload_n (i := 1) (by decide +kernel) rfl (pn 28 rfl ?_)
    obtain ⟨b2, h⟩ := h
    refine t_laload (v := (pm_sj M2 (o + 1) x1.toNatClampNeg r2).2 (o + 1) x1.toNatClampNeg) (by decide +kernel) ⟨(ltY_1 ho), congrArg Prod.fst (shY_1 ho)⟩ (al_in (shY_1 ho) b2) rfl (pn 29 rfl ?_)
    exact s_lreturn (st := []) (by decide +kernel) rfl ⟨_, rfl, s2, rfl, h⟩
  · have h := h.1 c1
    refine s_ldc2_w (by decide +kernel) kl_9_32 (pn 11 rfl ?_)
    exact s_lreturn (st := []) (by decide +kernel) rfl ⟨_, rfl, s1, rfl, h⟩
abbrev wY_cut (d pc : Nat) (ls st : List Value) (s : pm_S) (M : pm_M) (Q : Int64 → pm_S → pm_M → Prop) : Prop := wL d prog_11_method_7_code 9 (some .long) false pc ls st s M Q
theorem enY_cut {d : Nat} {s : pm_S} {M : pm_M} {o : Nat} {x1 : Int64} {Q : Int64 → pm_S → pm_M → Prop} (ho : isY o) (h : (((M.1 o 1) = 0 → Q (((x1.toInt32).toInt8.toInt32).toInt64) s M) ∧ (¬ (M.1 o 1) = 0 → (((M.1 o 1) = 1 → Q (((x1.toInt32).toInt16.toInt32).toInt64) s M) ∧ (¬ (M.1 o 1) = 1 → (((M.1 o 1) = 2 → Q ((x1.toInt32).toInt64) s M) ∧ (¬ (M.1 o 1) = 2 → Q x1 s M))))))) : cL (d + 1) yY_cut [.ref o, .long x1] s M Q := by
  refine pm_toL (by decide) (Nat.le_of_ble_eq_true rfl) ?_
  show wY_cut d 0 [.ref o, .long x1, .null] [] s M Q
  refine s_aload_n (i := 0) (by decide +kernel) rfl (pn 1 rfl ?_)
  refine s_getfield (v := .int (M.1 o 1)) (by decide +kernel) fr_9_19 (ltY_0 ho) (congrArg Prod.fst (shY_0 ho)) rfl (pn 4 rfl ?_)
  by_cases c1 : (M.1 o 1) = 0
  · refine s_tableswitch (dflt := 42) (lo := 0) (hi := 2) (offs := #[28, 33, 38]) (len := 28) (tgt := 32) (by decide +kernel) (by rw [c1]; decide) (by rw [c1]; decide) ?_
    have h := h.1 c1
    refine s_lload_n (i := 1) (by decide +kernel) rfl (pn 33 rfl ?_)
    refine s_l2i (by decide +kernel) (pn 34 rfl ?_)
    refine s_i2b (by decide +kernel) (pn 35 rfl ?_)
    refine s_i2l (by decide +kernel) (pn 36 rfl ?_)
    exact s_lreturn (st := []) (by decide +kernel) rfl ⟨_, rfl, s, rfl, h⟩
  have h := h.2 c1
  by_cases c2 : (M.1 o 1) = 1
  · refine s_tableswitch (dflt := 42) (lo := 0) (hi := 2) (offs := #[28, 33, 38]) (len := 28) (tgt := 37) (by decide +kernel) (by rw [c2]; decide) (by rw [c2]; decide) ?_
    have h := h.1 c2
    refine s_lload_n (i := 1) (by decide +kernel) rfl (pn 38 rfl ?_)
    refine s_l2i (by decide +kernel) (pn 39 rfl ?_)
    refine s_i2s (by decide +kernel) (pn 40 rfl ?_)
    refine s_i2l (by decide +kernel) (pn 41 rfl ?_)
    exact s_lreturn (st := []) (by decide +kernel) rfl ⟨_, rfl, s, rfl, h⟩
  have h := h.2 c2
  by_cases c3 : (M.1 o 1) = 2
  · refine s_tableswitch (dflt := 42) (lo := 0) (hi := 2) (offs := #[28, 33, 38]) (len := 28) (tgt := 42) (by decide +kernel) (by rw [c3]; decide) (by rw [c3]; decide) ?_
    have h := h.1 c3
    refine s_lload_n (i := 1) (by decide +kernel) rfl (pn 43 rfl ?_)
    refine s_l2i (by decide +kernel) (pn 44 rfl ?_)
    refine s_i2l (by decide +kernel) (pn 45 rfl ?_)
    exact s_lreturn (st := []) (by decide +kernel) rfl ⟨_, rfl, s, rfl, h⟩
  have h := h.2 c3
  have k1 : wY_cut d 46 [.ref o, .long x1, .null] [] s M Q := by
    refine s_lload_n (i := 1) (by decide +kernel) rfl (pn 47 rfl ?_)
    exact s_lreturn (st := []) (by decide +kernel) rfl ⟨_, rfl, s, rfl, h⟩
  by_cases q0 : (M.1 o 1).toInt < 0 ∨ 2 < (M.1 o 1).toInt
  · exact t_tabledef (dflt := 42) (lo := 0) (hi := 2) (offs := #[28, 33, 38]) (len := 28) (tgt := 46) (by decide +kernel) rfl q0 k1
  · rcases (show (M.1 o 1).toInt = 0 ∨ (M.1 o 1).toInt = 1 ∨ (M.1 o 1).toInt = 2 by omega) with q1 | q1 | q1
    · exact absurd (Int32.toInt_inj.mp (q1.trans (by decide))) c1
    · exact absurd (Int32.toInt_inj.mp (q1.trans (by decide))) c2
    · exact absurd (Int32.toInt_inj.mp (q1.trans (by decide))) c3
abbrev wL_clear (d pc : Nat) (ls st : List Value) (s : pm_S) (M : pm_M) (Q : pm_S → pm_M → Prop) : Prop := wV d prog_5_method_2_code 3 none false pc ls st s M Q
theorem enL_clear {d : Nat} {s : pm_S} {M : pm_M}  {Q : pm_S → pm_M → Prop}  (h : cV d yW_clear [.ref 10] s (pm_si (pm_si (pm_si (pm_si (pm_si M 2 0 2) 2 1 0) 2 2 0) 2 3 0) 2 4 0) (fun s1 M1 => Q s1 M1)) : cV (d + 1) yL_clear [.ref 2] s M Q := by
  refine pm_toV (by decide) (Nat.le_of_ble_eq_true rfl) ?_
  show wL_clear d 0 [.ref 2] [] s M Q
  refine s_aload_n (i := 0) (by decide +kernel) rfl (pn 1 rfl ?_)
  refine t_iconst (by decide +kernel) ki_2 (pn 2 rfl ?_)
  refine s_putfieldI (by decide +kernel) fr_3_9 lq_2 (congrArg Prod.fst sh_2) (fun q => by cases q) (Or.inl rfl) (pn 5 rfl ?_)
  refine s_aload_n (i := 0) (by decide +kernel) rfl (pn 6 rfl ?_)
  refine t_iconst (by decide +kernel) ki_0 (pn 7 rfl ?_)
  refine s_putfieldI (by decide +kernel) fr_3_44 lq_2 (congrArg Prod.fst sh_2) (fun q => by cases q) (Or.inl rfl) (pn 10 rfl ?_)
  refine s_aload_n (i := 0) (by decide +kernel) rfl (pn 11 rfl ?_)
  refine t_iconst (by decide +kernel) ki_0 (pn 12 rfl ?_)
  refine s_putfieldI (by decide +kernel) fr_3_47 lq_2 (congrArg Prod.fst sh_2) (fun q => by cases q) (Or.inl rfl) (pn 15 rfl ?_)
  refine s_aload_n (i := 0) (by decide +kernel) rfl (pn 16 rfl ?_)
  refine t_iconst (by decide +kernel) ki_0 (pn 17 rfl ?_)
  refine s_putfieldI (by decide +kernel) fr_3_50 lq_2 (congrArg Prod.fst sh_2) (fun q => by cases q) (Or.inl rfl) (pn 20 rfl ?_)
  refine s_aload_n (i := 0) (by decide +kernel) rfl (pn 21 rfl ?_)
  refine t_iconst (by decide +kernel) ki_0 (pn 22 rfl ?_)
  refine s_putfieldI (by decide +kernel) fr_3_53 lq_2 (congrArg Prod.fst sh_2) (fun q => by cases q) (Or.inl rfl) (pn 25 rfl ?_)
  refine s_aload_n (i := 0) (by decide +kernel) rfl (pn 26 rfl ?_)
  refine s_getfield (v := .ref 10) (by decide +kernel) fr_3_40 lq_2 (congrArg Prod.fst sh_2) (fv_ref pf_2_12) (pn 29 rfl ?_)
  refine s_callvV [] rfl (by decide +kernel) mv_3_56 np_6 (Nat.le_of_ble_eq_true rfl) lq_10 ((congrArg Prod.fst sh_10).trans oc_6) (cV_use h (fun s1 M1 h => (pn 32 rfl ?_)))
  exact s_return (st := []) (by decide +kernel) rfl ⟨rfl, s1, rfl, h⟩
abbrev wL_addThing (d pc : Nat) (ls st : List Value) (s : pm_S) (M : pm_M) (Q : Int32 → pm_S → pm_M → Prop) : Prop := wI d prog_5_method_8_code 3 (some .int) false pc ls st s M Q
theorem enL_addThing {d : Nat} {s : pm_S} {M : pm_M} {x1 : Int32} {Q : Int32 → pm_S → pm_M → Prop}  (h : cI d ymath_min [.int (M.1 2 1), .int 7] s M (fun r1 s1 M1 => vp_in r1 8 ∧ vp_in r1 8 ∧ vp_in r1 8 ∧ vp_in r1 8 ∧ Q r1 s1 (pm_si (pm_si (pm_si (pm_si (pm_si M1 3 r1.toNatClampNeg x1) 4 r1.toNatClampNeg 0) 5 r1.toNatClampNeg 0) 6 r1.toNatClampNeg (-1)) 2 1 (r1 + 1)))) : cI (d + 1) yL_addThing [.ref 2, .int x1] s M Q := by
  refine pm_toI (by decide) (Nat.le_of_ble_eq_true rfl) ?_
  show wL_addThing d 0 [.ref 2, .int x1, .null] [] s M Q
  refine s_aload_n (i := 0) (by decide +kernel) rfl (pn 1 rfl ?_)
  refine s_getfield (v := .int (M.1 2 1)) (by decide +kernel) fr_3_44 lq_2 (congrArg Prod.fst sh_2) rfl (pn 4 rfl ?_)
  refine t_bipush (by decide +kernel) kb_7 (pn 6 rfl ?_)
  refine s_callsI [.int (M.1 2 1), .int 7] rfl (by decide +kernel) ms_3_69 np_323 (Nat.le_of_ble_eq_true rfl) (cI_use h (fun r1 s1 M1 h => (pn 9 rfl ?_)))
  refine s_istore_n (i := 2) (by decide +kernel) (Nat.le_of_ble_eq_true rfl) (pn 10 rfl (t_store (ls' := [.ref 2, .int x1, .int r1]) rfl ?_))
  refine s_aload_n (i := 0) (by decide +kernel) rfl (pn 11 rfl ?_)
  refine s_getfield (v := .ref 3) (by decide +kernel) fr_3_15 lq_2 (congrArg Prod.fst sh_2) (fv_ref pf_2_5) (pn 14 rfl ?_)
  refine s_iload_n (i := 2) (by decide +kernel) rfl (pn 15 rfl ?_)
  refine s_iload_n (i := 1) (by decide +kernel) rfl (pn 16 rfl ?_)
  obtain ⟨b1, h⟩ := h
  refine t_iastore (k := r1.toNatClampNeg) (by decide +kernel) ⟨lq_3, congrArg Prod.fst sh_3⟩ (al_in sh_3 b1) rfl (pn 17 rfl ?_)
  refine s_aload_n (i := 0) (by decide +kernel) rfl (pn 18 rfl ?_)
  refine s_getfield (v := .ref 4) (by decide +kernel) fr_3_19 lq_2 (congrArg Prod.fst sh_2) (fv_ref pf_2_6) (pn 21 rfl ?_)
  refine s_iload_n (i := 2) (by decide +kernel) rfl (pn 22 rfl ?_)
  refine t_iconst (by decide +kernel) ki_0 (pn 23 rfl ?_)
  obtain ⟨b2, h⟩ := h
  refine t_iastore (k := r1.toNatClampNeg) (by decide +kernel) ⟨lq_4, congrArg Prod.fst sh_4⟩ (al_in sh_4 b2) rfl (pn 24 rfl ?_)
  refine s_aload_n (i := 0) (by decide +kernel) rfl (pn 25 rfl ?_)
  refine s_getfield (v := .ref 5) (by decide +kernel) fr_3_22 lq_2 (congrArg Prod.fst sh_2) (fv_ref pf_2_7) (pn 28 rfl ?_)
  refine s_iload_n (i := 2) (by decide +kernel) rfl (pn 29 rfl ?_)
  refine t_iconst (by decide +kernel) ki_0 (pn 30 rfl ?_)
  obtain ⟨b3, h⟩ := h
  refine t_iastore (k := r1.toNatClampNeg) (by decide +kernel) ⟨lq_5, congrArg Prod.fst sh_5⟩ (al_in sh_5 b3) rfl (pn 31 rfl ?_)
  refine s_aload_n (i := 0) (by decide +kernel) rfl (pn 32 rfl ?_)
  refine s_getfield (v := .ref 6) (by decide +kernel) fr_3_25 lq_2 (congrArg Prod.fst sh_2) (fv_ref pf_2_8) (pn 35 rfl ?_)
  refine s_iload_n (i := 2) (by decide +kernel) rfl (pn 36 rfl ?_)
  refine t_iconst (by decide +kernel) ki_m1 (pn 37 rfl ?_)
  obtain ⟨b4, h⟩ := h
  refine t_iastore (k := r1.toNatClampNeg) (by decide +kernel) ⟨lq_6, congrArg Prod.fst sh_6⟩ (al_in sh_6 b4) rfl (pn 38 rfl ?_)
  refine s_aload_n (i := 0) (by decide +kernel) rfl (pn 39 rfl ?_)
  refine s_iload_n (i := 2) (by decide +kernel) rfl (pn 40 rfl ?_)
  refine t_iconst (by decide +kernel) ki_1 (pn 41 rfl ?_)
  refine s_iadd (by decide +kernel) (pn 42 rfl ?_)
  refine s_putfieldI (by decide +kernel) fr_3_44 lq_2 (congrArg Prod.fst sh_2) (fun q => by cases q) (Or.inl rfl) (pn 45 rfl ?_)
  refine s_iload_n (i := 2) (by decide +kernel) rfl (pn 46 rfl ?_)
  exact s_ireturn (st := []) (by decide +kernel) (Or.inl rfl) ⟨_, rfl, s1, rfl, h⟩
abbrev wL_addPerson (d pc : Nat) (ls st : List Value) (s : pm_S) (M : pm_M) (Q : Int32 → pm_S → pm_M → Prop) : Prop := wI d prog_5_method_9_code 3 (some .int) false pc ls st s M Q
theorem enL_addPerson {d : Nat} {s : pm_S} {M : pm_M} {x1 : Int32} {Q : Int32 → pm_S → pm_M → Prop}  (h : cI d ymath_min [.int (M.1 2 2), .int 5] s M (fun r1 s1 M1 => vp_in r1 6 ∧ vp_in r1 6 ∧ vp_in r1 6 ∧ Q r1 s1 (pm_si (pm_si (pm_si (pm_si M1 7 r1.toNatClampNeg x1) 8 r1.toNatClampNeg 0) 9 r1.toNatClampNeg 10) 2 2 (r1 + 1)))) : cI (d + 1) yL_addPerson [.ref 2, .int x1] s M Q := by
  refine pm_toI (by decide) (Nat.le_of_ble_eq_true rfl) ?_
  show wL_addPerson d 0 [.ref 2, .int x1, .null] [] s M Q
  refine s_aload_n (i := 0) (by decide +kernel) rfl (pn 1 rfl ?_)
  refine s_getfield (v := .int (M.1 2 2)) (by decide +kernel) fr_3_47 lq_2 (congrArg Prod.fst sh_2) rfl (pn 4 rfl ?_)
  refine t_iconst (by decide +kernel) ki_5 (pn 5 rfl ?_)
  refine s_callsI [.int (M.1 2 2), .int 5] rfl (by decide +kernel) ms_3_69 np_323 (Nat.le_of_ble_eq_true rfl) (cI_use h (fun r1 s1 M1 h => (pn 8 rfl ?_)))
  refine s_istore_n (i := 2) (by decide +kernel) (Nat.le_of_ble_eq_true rfl) (pn 9 rfl (t_store (ls' := [.ref 2, .int x1, .int r1]) rfl ?_))
  refine s_aload_n (i := 0) (by decide +kernel) rfl (pn 10 rfl ?_)
  refine s_getfield (v := .ref 7) (by decide +kernel) fr_3_28 lq_2 (congrArg Prod.fst sh_2) (fv_ref pf_2_9) (pn 13 rfl ?_)
  refine s_iload_n (i := 2) (by decide +kernel) rfl (pn 14 rfl ?_)
  refine s_iload_n (i := 1) (by decide +kernel) rfl (pn 15 rfl ?_)
  obtain ⟨b1, h⟩ := h
  refine t_iastore (k := r1.toNatClampNeg) (by decide +kernel) ⟨lq_7, congrArg Prod.fst sh_7⟩ (al_in sh_7 b1) rfl (pn 16 rfl ?_)
  refine s_aload_n (i := 0) (by decide +kernel) rfl (pn 17 rfl ?_)
  refine s_getfield (v := .ref 8) (by decide +kernel) fr_3_31 lq_2 (congrArg Prod.fst sh_2) (fv_ref pf_2_10) (pn 20 rfl ?_)
  refine s_iload_n (i := 2) (by decide +kernel) rfl (pn 21 rfl ?_)
  refine t_iconst (by decide +kernel) ki_0 (pn 22 rfl ?_)
  obtain ⟨b2, h⟩ := h
  refine t_iastore (k := r1.toNatClampNeg) (by decide +kernel) ⟨lq_8, congrArg Prod.fst sh_8⟩ (al_in sh_8 b2) rfl (pn 23 rfl ?_)
  refine s_aload_n (i := 0) (by decide +kernel) rfl (pn 24 rfl ?_)
  refine s_getfield (v := .ref 9) (by decide +kernel) fr_3_34 lq_2 (congrArg Prod.fst sh_2) (fv_ref pf_2_11) (pn 27 rfl ?_)
  refine s_iload_n (i := 2) (by decide +kernel) rfl (pn 28 rfl ?_)
  refine t_bipush (by decide +kernel) kb_10 (pn 30 rfl ?_)
  obtain ⟨b3, h⟩ := h
  refine t_iastore (k := r1.toNatClampNeg) (by decide +kernel) ⟨lq_9, congrArg Prod.fst sh_9⟩ (al_in sh_9 b3) rfl (pn 31 rfl ?_)
  refine s_aload_n (i := 0) (by decide +kernel) rfl (pn 32 rfl ?_)
  refine s_iload_n (i := 2) (by decide +kernel) rfl (pn 33 rfl ?_)
  refine t_iconst (by decide +kernel) ki_1 (pn 34 rfl ?_)
  refine s_iadd (by decide +kernel) (pn 35 rfl ?_)
  refine s_putfieldI (by decide +kernel) fr_3_47 lq_2 (congrArg Prod.fst sh_2) (fun q => by cases q) (Or.inl rfl) (pn 38 rfl ?_)
  refine s_iload_n (i := 2) (by decide +kernel) rfl (pn 39 rfl ?_)
  exact s_ireturn (st := []) (by decide +kernel) (Or.inl rfl) ⟨_, rfl, s1, rfl, h⟩
abbrev wL_canBeHeld (d pc : Nat) (ls st : List Value) (s : pm_S) (M : pm_M) (Q : Int32 → pm_S → pm_M → Prop) : Prop := wI d prog_5_method_10_code 3 (some .boolean) false pc ls st s M Q
theorem enL_canBeHeld {d : Nat} {s : pm_S} {M : pm_M} {x1 : Int32} {Q : Int32 → pm_S → pm_M → Prop}  (h : cI d yL_hasThing [.ref 2, .int x1] s M (fun r1 s1 M1 => (¬ (r1 = 0) → vp_in x1 8) ∧ Q ((if r1 = 0 then 0 else (if (M1.1 6 x1.toNatClampNeg) = (-1) then 1 else 0)) : Int32) s1 M1)) : cI (d + 1) yL_canBeHeld [.ref 2, .int x1] s M Q := by
  refine pm_toI (by decide) (Nat.le_of_ble_eq_true rfl) ?_
  show wL_canBeHeld d 0 [.ref 2, .int x1] [] s M Q
  refine s_aload_n (i := 0) (by decide +kernel) rfl (pn 1 rfl ?_)
  refine s_iload_n (i := 1) (by decide +kernel) rfl (pn 2 rfl ?_)
  refine s_callvI [.int x1] rfl (by decide +kernel) mv_3_75 np_28 (Nat.le_of_ble_eq_true rfl) lq_2 ((congrArg Prod.fst sh_2).trans oc_28) (cI_use h (fun r1 s1 M1 h => (pn 5 rfl ?_)))
  obtain ⟨b1, h⟩ := h
  have k1 : ∀ (z1 : Int32) (z1e : z1 = ((if r1 = 0 then 0 else (if (M1.1 6 x1.toNatClampNeg) = (-1) then 1 else 0)) : Int32)), wL_canBeHeld d 23 [.ref 2, .int x1] [.int z1] s1 M1 Q := by
    intro z1 z1e
    subst z1e
    exact s_ireturn (st := []) (by decide +kernel) (Or.inr ⟨rfl, (or01 (Or.inl rfl) (or01 (Or.inr rfl) (Or.inl rfl)))⟩) ⟨_, rfl, s1, rfl, h⟩
  refine s_if_eq (off := 17) (tgt := 22) (by decide +kernel) rfl (fun c1 => ?_) (fun c1 => (pn 8 rfl ?_))
  · refine t_iconst (by decide +kernel) ki_0 (pn 23 rfl ?_)
    exact k1 _ (by simp only [if_pos c1])
  · refine s_aload_n (i := 0) (by decide +kernel) rfl (pn 9 rfl ?_)
    refine s_getfield (v := .ref 6) (by decide +kernel) fr_3_25 lq_2 (congrArg Prod.fst sh_2) (fv_ref pf_2_8) (pn 12 rfl ?_)
    refine s_iload_n (i := 1) (by decide +kernel) rfl (pn 13 rfl ?_)
    refine t_iaload (v := M1.1 6 x1.toNatClampNeg) (by decide +kernel) ⟨Or.inl lq_6, congrArg Prod.fst sh_6⟩ (al_in sh_6 (b1 c1)) rfl (pn 14 rfl ?_)
    refine t_iconst (by decide +kernel) ki_m1 (pn 15 rfl ?_)
    refine t_icmp_ne (off := 7) (tgt := 22) (by decide +kernel) rfl (fun c2 => ?_) (fun c2 => (pn 18 rfl ?_))
    · refine t_iconst (by decide +kernel) ki_0 (pn 23 rfl ?_)
      exact k1 _ (by simp only [if_neg c1, if_neg c2])
    · refine t_iconst (by decide +kernel) ki_1 (pn 19 rfl ?_)
      refine s_goto (off := 4) (tgt := 23) (by decide +kernel) rfl ?_
      exact k1 _ (by simp only [if_neg c1, if_pos c2])
abbrev wL_hasThing (d pc : Nat) (ls st : List Value) (s : pm_S) (M : pm_M) (Q : Int32 → pm_S → pm_M → Prop) : Prop := wI d prog_5_method_5_code 3 (some .boolean) false pc ls st s M Q
theorem enL_hasThing {d : Nat} {s : pm_S} {M : pm_M} {o : Nat} {x1 : Int32} {Q : Int32 → pm_S → pm_M → Prop} (ho : isL o) (h : Q ((if x1 < 0 then 0 else (if (M.1 o 1) ≤ x1 then 0 else (if 8 ≤ x1 then 0 else 1))) : Int32) s M) : cI (d + 1) yL_hasThing [.ref o, .int x1] s M Q := by
  refine pm_toI (by decide) (Nat.le_of_ble_eq_true rfl) ?_
  show wL_hasThing d 0 [.ref o, .int x1] [] s M Q
  refine s_iload_n (i := 1) (by decide +kernel) rfl (pn 1 rfl ?_)
  have k1 : ∀ (z1 : Int32) (z1e : z1 = ((if x1 < 0 then 0 else (if (M.1 o 1) ≤ x1 then 0 else (if 8 ≤ x1 then 0 else 1))) : Int32)), wL_hasThing d 23 [.ref o, .int x1] [.int z1] s M Q := by
    intro z1 z1e
    subst z1e
    exact s_ireturn (st := []) (by decide +kernel) (Or.inr ⟨rfl, (or01 (Or.inl rfl) (or01 (Or.inl rfl) (or01 (Or.inl rfl) (Or.inr rfl))))⟩) ⟨_, rfl, s, rfl, h⟩
  refine s_if_lt (off := 21) (tgt := 22) (by decide +kernel) rfl (fun c1 => ?_) (fun c1 => (pn 4 rfl ?_))
  · refine t_iconst (by decide +kernel) ki_0 (pn 23 rfl ?_)
    exact k1 _ (by simp only [if_pos c1])
  · refine s_iload_n (i := 1) (by decide +kernel) rfl (pn 5 rfl ?_)
    refine s_aload_n (i := 0) (by decide +kernel) rfl (pn 6 rfl ?_)
    refine s_getfield (v := .int (M.1 o 1)) (by decide +kernel) fr_3_44 (ltL_0 ho) (congrArg Prod.fst (shL_0 ho)) rfl (pn 9 rfl ?_)
    refine s_icmp_ge (off := 13) (tgt := 22) (by decide +kernel) rfl (fun c2 => ?_) (fun c2 => (pn 12 rfl ?_))
    · refine t_iconst (by decide +kernel) ki_0 (pn 23 rfl ?_)
      exact k1 _ (by simp only [if_neg c1, if_pos c2])
    · refine s_iload_n (i := 1) (by decide +kernel) rfl (pn 13 rfl ?_)
      refine t_bipush (by decide +kernel) kb_8 (pn 15 rfl ?_)
      refine s_icmp_ge (off := 7) (tgt := 22) (by decide +kernel) rfl (fun c3 => ?_) (fun c3 => (pn 18 rfl ?_))
      · refine t_iconst (by decide +kernel) ki_0 (pn 23 rfl ?_)
        exact k1 _ (by simp only [if_neg c1, if_neg c2, if_pos c3])
      · refine t_iconst (by decide +kernel) ki_1 (pn 19 rfl ?_)
        refine s_goto (off := 4) (tgt := 23) (by decide +kernel) rfl ?_
        exact k1 _ (by simp only [if_neg c1, if_neg c2, if_neg c3])
abbrev wL_giveTo (d pc : Nat) (ls st : List Value) (s : pm_S) (M : pm_M) (Q : pm_S → pm_M → Prop) : Prop := wV d prog_5_method_11_code 3 none false pc ls st s M Q
theorem enL_giveTo {d : Nat} {s : pm_S} {M : pm_M} {x1 : Int32} {x2 : Int32} {Q : pm_S → pm_M → Prop}  (h : wL_giveTo d 2 [.ref 2, .int x1, .int x2, .int 0] [] s M Q) : cV (d + 1) yL_giveTo [.ref 2, .int x1, .int x2] s M Q := by
  refine pm_toV (by decide) (Nat.le_of_ble_eq_true rfl) ?_
  show wL_giveTo d 0 [.ref 2, .int x1, .int x2, .null] [] s M Q
  refine t_iconst (by decide +kernel) ki_0 (pn 1 rfl ?_)
  refine s_istore_n (i := 3) (by decide +kernel) (Nat.le_of_ble_eq_true rfl) (pn 2 rfl (t_store (ls' := [.ref 2, .int x1, .int x2, .int 0]) rfl ?_))
  exact h
theorem sgL_giveTo_2 {d : Nat} {s : pm_S} {M : pm_M} {l1 : Int32} {l2 : Int32} {l3 : Int32} {Q : pm_S → pm_M → Prop}  (h : ((((M.1 2 1) ≤ l3) → cI d yL_hasThing [.ref 2, .int l2] s M (fun r1 s1 M1 => (((r1 = 0) → Q s1 M1) ∧ (¬ (r1 = 0) → vp_in l2 8 ∧ Q s1 (pm_si M1 6 l2.toNatClampNeg l1))))) ∧ (¬ ((M.1 2 1) ≤ l3) → (((8 ≤ l3) → cI d yL_hasThing [.ref 2, .int l2] s M (fun r2 s2 M2 => (((r2 = 0) → Q s2 M2) ∧ (¬ (r2 = 0) → vp_in l2 8 ∧ Q s2 (pm_si M2 6 l2.toNatClampNeg l1))))) ∧ (¬ (8 ≤ l3) → vp_in l3 8 ∧ (((M.1 6 l3.toNatClampNeg) = l1 → vp_in l3 8 ∧ wL_giveTo d 2 [.ref 2, .int l1, .int l2, .int (l3 + 1)] [] s (pm_si M 6 l3.toNatClampNeg (-1)) Q) ∧ (¬ ((M.1 6 l3.toNatClampNeg) = l1) → wL_giveTo d 2 [.ref 2, .int l1, .int l2, .int (l3 + 1)] [] s M Q))))))) : wL_giveTo d 2 [.ref 2, .int l1, .int l2, .int l3] [] s M Q := by
  refine s_iload_n (i := 3) (by decide +kernel) rfl (pn 3 rfl ?_)
  refine s_aload_n (i := 0) (by decide +kernel) rfl (pn 4 rfl ?_)
  refine s_getfield (v := .int (M.1 2 1)) (by decide +kernel) fr_3_44 lq_2 (congrArg Prod.fst sh_2) rfl (pn 7 rfl ?_)
  refine s_icmp_ge (off := 32) (tgt := 39) (by decide +kernel) rfl (fun c1 => ?_) (fun c1 => (pn 10 rfl ?_))
  · have h := h.1 c1
    refine s_aload_n (i := 0) (by decide +kernel) rfl (pn 40 rfl ?_)
    refine s_iload_n (i := 2) (by decide +kernel) rfl (pn 41 rfl ?_)
    refine s_callvI [.int l2] rfl (by decide +kernel) mv_3_75 np_28 (Nat.le_of_ble_eq_true rfl) lq_2 ((congrArg Prod.fst sh_2).trans oc_28) (cI_use h (fun r1 s1 M1 h => (pn 44 rfl ?_)))
    refine s_if_eq (off := 10) (tgt := 54) (by decide +kernel) rfl (fun c4 => ?_) (fun c4 => (pn 47 rfl ?_))
    · have h := h.1 c4
      exact s_return (st := []) (by decide +kernel) rfl ⟨rfl, s1, rfl, h⟩
    · have h := h.2 c4
      refine s_aload_n (i := 0) (by decide +kernel) rfl (pn 48 rfl ?_)
      refine s_getfield (v := .ref 6) (by decide +kernel) fr_3_25 lq_2 (congrArg Prod.fst sh_2) (fv_ref pf_2_8) (pn 51 rfl ?_)
      refine s_iload_n (i := 2) (by decide +kernel) rfl (pn 52 rfl ?_)
      refine s_iload_n (i := 1) (by decide +kernel) rfl (pn 53 rfl ?_)
      obtain ⟨b1, h⟩ := h
      refine t_iastore (k := l2.toNatClampNeg) (by decide +kernel) ⟨lq_6, congrArg Prod.fst sh_6⟩ (al_in sh_6 b1) rfl (pn 54 rfl ?_)
      exact s_return (st := []) (by decide +kernel) rfl ⟨rfl, s1, rfl, h⟩
  · have h := h.2 c1
    refine s_iload_n (i := 3) (by decide +kernel) rfl (pn 11 rfl ?_)
    refine t_bipush (by decide +kernel) kb_8 (pn 13 rfl ?_)
    refine s_icmp_ge (off := 26) (tgt := 39) (by decide +kernel) rfl (fun c5 => ?_) (fun c5 => (pn 16 rfl ?_))
    · have h := h.1 c5
      refine s_aload_n (i := 0) (by decide +kernel) rfl (pn 40 rfl ?_)
      refine s_iload_n (i := 2) (by decide +kernel) rfl (pn 41 rfl ?_)
      refine s_callvI [.int l2] rfl (by decide +kernel) mv_3_75 np_28 (Nat.le_of_ble_eq_true rfl) lq_2 ((congrArg Prod.fst sh_2).trans oc_28) (cI_use h (fun r2 s2 M2 h => (pn 44 rfl ?_)))
      refine s_if_eq (off := 10) (tgt := 54) (by decide +kernel) rfl (fun c7 => ?_) (fun c7 => (pn 47 rfl ?_))
      · have h := h.1 c7
        exact s_return (st := []) (by decide +kernel) rfl ⟨rfl, s2, rfl, h⟩
      · have h := h.2 c7
        refine s_aload_n (i := 0) (by decide +kernel) rfl (pn 48 rfl ?_)
        refine s_getfield (v := .ref 6) (by decide +kernel) fr_3_25 lq_2 (congrArg Prod.fst sh_2) (fv_ref pf_2_8) (pn 51 rfl ?_)
        refine s_iload_n (i := 2) (by decide +kernel) rfl (pn 52 rfl ?_)
        refine s_iload_n (i := 1) (by decide +kernel) rfl (pn 53 rfl ?_)
        obtain ⟨b2, h⟩ := h
        refine t_iastore (k := l2.toNatClampNeg) (by decide +kernel) ⟨lq_6, congrArg Prod.fst sh_6⟩ (al_in sh_6 b2) rfl (pn 54 rfl ?_)
        exact s_return (st := []) (by decide +kernel) rfl ⟨rfl, s2, rfl, h⟩
    · have h := h.2 c5
      refine s_aload_n (i := 0) (by decide +kernel) rfl (pn 17 rfl ?_)
      refine s_getfield (v := .ref 6) (by decide +kernel) fr_3_25 lq_2 (congrArg Prod.fst sh_2) (fv_ref pf_2_8) (pn 20 rfl ?_)
      refine s_iload_n (i := 3) (by decide +kernel) rfl (pn 21 rfl ?_)
      obtain ⟨b3, h⟩ := h
      refine t_iaload (v := M.1 6 l3.toNatClampNeg) (by decide +kernel) ⟨Or.inl lq_6, congrArg Prod.fst sh_6⟩ (al_in sh_6 b3) rfl (pn 22 rfl ?_)
      refine s_iload_n (i := 1) (by decide +kernel) rfl (pn 23 rfl ?_)
      refine t_icmp_ne (off := 10) (tgt := 33) (by decide +kernel) rfl (fun c8 => ?_) (fun c8 => (pn 26 rfl ?_))
      · have h := h.2 c8
        refine t_iinc (i := 3) (n := 1) (ls' := [.ref 2, .int l1, .int l2, .int (l3 + 1)]) (by decide +kernel) rfl (Nat.le_of_ble_eq_true rfl) kn_1 rfl (pn 36 rfl ?_)
        refine s_goto (off := -34) (tgt := 2) (by decide +kernel) rfl ?_
        exact h
      · have h := h.1 c8
        refine s_aload_n (i := 0) (by decide +kernel) rfl (pn 27 rfl ?_)
        refine s_getfield (v := .ref 6) (by decide +kernel) fr_3_25 lq_2 (congrArg Prod.fst sh_2) (fv_ref pf_2_8) (pn 30 rfl ?_)
        refine s_iload_n (i := 3) (by decide +kernel) rfl (pn 31 rfl ?_)
        refine t_iconst (by decide +kernel) ki_m1 (pn 32 rfl ?_)
        obtain ⟨b4, h⟩ := h
        refine t_iastore (k := l3.toNatClampNeg) (by decide +kernel) ⟨lq_6, congrArg Prod.fst sh_6⟩ (al_in sh_6 b4) rfl (pn 33 rfl ?_)
        refine t_iinc (i := 3) (n := 1) (ls' := [.ref 2, .int l1, .int l2, .int (l3 + 1)]) (by decide +kernel) rfl (Nat.le_of_ble_eq_true rfl) kn_1 rfl (pn 36 rfl ?_)
        refine s_goto (off := -34) (tgt := 2) (by decide +kernel) rfl ?_
        exact h
abbrev wL_become (d pc : Nat) (ls st : List Value) (s : pm_S) (M : pm_M) (Q : pm_S → pm_M → Prop) : Prop := wV d prog_5_method_3_code 3 none false pc ls st s M Q
theorem enL_become {d : Nat} {s : pm_S} {M : pm_M} {o : Nat} {q : Nat} {Q : pm_S → pm_M → Prop} (ho : isL o) (hq : isL q) (h : (∀ m1 : pm_M, m1 = (pm_ri (pm_si (pm_si (pm_si (pm_si (pm_si M o 0 (M.1 q 0)) o 1 ((pm_si M o 0 (M.1 q 0)).1 q 1)) o 2 ((pm_si (pm_si M o 0 (M.1 q 0)) o 1 ((pm_si M o 0 (M.1 q 0)).1 q 1)).1 q 2)) o 3 ((pm_si (pm_si (pm_si M o 0 (M.1 q 0)) o 1 ((pm_si M o 0 (M.1 q 0)).1 q 1)) o 2 ((pm_si (pm_si M o 0 (M.1 q 0)) o 1 ((pm_si M o 0 (M.1 q 0)).1 q 1)).1 q 2)).1 q 3)) o 4 ((pm_si (pm_si (pm_si (pm_si M o 0 (M.1 q 0)) o 1 ((pm_si M o 0 (M.1 q 0)).1 q 1)) o 2 ((pm_si (pm_si M o 0 (M.1 q 0)) o 1 ((pm_si M o 0 (M.1 q 0)).1 q 1)).1 q 2)) o 3 ((pm_si (pm_si (pm_si M o 0 (M.1 q 0)) o 1 ((pm_si M o 0 (M.1 q 0)).1 q 1)) o 2 ((pm_si (pm_si M o 0 (M.1 q 0)) o 1 ((pm_si M o 0 (M.1 q 0)).1 q 1)).1 q 2)).1 q 3)).1 q 4)) (o + 1) (va_cpy ((pm_si (pm_si (pm_si (pm_si (pm_si M o 0 (M.1 q 0)) o 1 ((pm_si M o 0 (M.1 q 0)).1 q 1)) o 2 ((pm_si (pm_si M o 0 (M.1 q 0)) o 1 ((pm_si M o 0 (M.1 q 0)).1 q 1)).1 q 2)) o 3 ((pm_si (pm_si (pm_si M o 0 (M.1 q 0)) o 1 ((pm_si M o 0 (M.1 q 0)).1 q 1)) o 2 ((pm_si (pm_si M o 0 (M.1 q 0)) o 1 ((pm_si M o 0 (M.1 q 0)).1 q 1)).1 q 2)).1 q 3)) o 4 ((pm_si (pm_si (pm_si (pm_si M o 0 (M.1 q 0)) o 1 ((pm_si M o 0 (M.1 q 0)).1 q 1)) o 2 ((pm_si (pm_si M o 0 (M.1 q 0)) o 1 ((pm_si M o 0 (M.1 q 0)).1 q 1)).1 q 2)) o 3 ((pm_si (pm_si (pm_si M o 0 (M.1 q 0)) o 1 ((pm_si M o 0 (M.1 q 0)).1 q 1)) o 2 ((pm_si (pm_si M o 0 (M.1 q 0)) o 1 ((pm_si M o 0 (M.1 q 0)).1 q 1)).1 q 2)).1 q 3)).1 q 4)).1 (q + 1)) ((pm_si (pm_si (pm_si (pm_si (pm_si M o 0 (M.1 q 0)) o 1 ((pm_si M o 0 (M.1 q 0)).1 q 1)) o 2 ((pm_si (pm_si M o 0 (M.1 q 0)) o 1 ((pm_si M o 0 (M.1 q 0)).1 q 1)).1 q 2)) o 3 ((pm_si (pm_si (pm_si M o 0 (M.1 q 0)) o 1 ((pm_si M o 0 (M.1 q 0)).1 q 1)) o 2 ((pm_si (pm_si M o 0 (M.1 q 0)) o 1 ((pm_si M o 0 (M.1 q 0)).1 q 1)).1 q 2)).1 q 3)) o 4 ((pm_si (pm_si (pm_si (pm_si M o 0 (M.1 q 0)) o 1 ((pm_si M o 0 (M.1 q 0)).1 q 1)) o 2 ((pm_si (pm_si M o 0 (M.1 q 0)) o 1 ((pm_si M o 0 (M.1 q 0)).1 q 1)).1 q 2)) o 3 ((pm_si (pm_si (pm_si M o 0 (M.1 q 0)) o 1 ((pm_si M o 0 (M.1 q 0)).1 q 1)) o 2 ((pm_si (pm_si M o 0 (M.1 q 0)) o 1 ((pm_si M o 0 (M.1 q 0)).1 q 1)).1 q 2)).1 q 3)).1 q 4)).1 (o + 1)) 0 0 8)) → (∀ m2 : pm_M, m2 = (pm_ri m1 (o + 2) (va_cpy (m1.1 (q + 2)) (m1.1 (o + 2)) 0 0 8)) → (∀ m3 : pm_M, m3 = (pm_ri m2 (o + 3) (va_cpy (m2.1 (q + 3)) (m2.1 (o + 3)) 0 0 8)) → (∀ m4 : pm_M, m4 = (pm_ri m3 (o + 4) (va_cpy (m3.1 (q + 4)) (m3.1 (o + 4)) 0 0 8)) → (∀ m5 : pm_M, m5 = (pm_ri m4 (o + 5) (va_cpy (m4.1 (q + 5)) (m4.1 (o + 5)) 0 0 6)) → (∀ m6 : pm_M, m6 = (pm_ri m5 (o + 6) (va_cpy (m5.1 (q + 6)) (m5.1 (o + 6)) 0 0 6)) → (∀ m7 : pm_M, m7 = (pm_ri m6 (o + 7) (va_cpy (m6.1 (q + 7)) (m6.1 (o + 7)) 0 0 6)) → cV d yW_become [.ref (o + 8), .ref (q + 8)] s m7 (fun s1 M1 => Q s1 M1))))))))) : cV (d + 1) yL_become [.ref o, .ref q] s M Q := by
  refine pm_toV (by decide) (Nat.le_of_ble_eq_true rfl) ?_
  show wL_become d 0 [.ref o, .ref q] [] s M Q
  refine s_aload_n (i := 0) (by decide +kernel) rfl (pn 1 rfl ?_)
  refine s_aload_n (i := 1) (by decide +kernel) rfl (pn 2 rfl ?_)
  refine s_getfield (v := .int (M.1 q 0)) (by decide +kernel) fr_3_9 (ltL_0 hq) (congrArg Prod.fst (shL_0 hq)) rfl (pn 5 rfl ?_)
  refine s_putfieldI (by decide +kernel) fr_3_9 (ltL_0 ho) (congrArg Prod.fst (shL_0 ho)) (fun q => by cases q) (Or.inl rfl) (pn 8 rfl ?_)
  refine s_aload_n (i := 0) (by decide +kernel) rfl (pn 9 rfl ?_)
  refine s_aload_n (i := 1) (by decide +kernel) rfl (pn 10 rfl ?_)
  refine s_getfield (v := .int ((pm_si M o 0 (M.1 q 0)).1 q 1)) (by decide +kernel) fr_3_44 (ltL_0 hq) (congrArg Prod.fst (shL_0 hq)) rfl (pn 13 rfl ?_)
  refine s_putfieldI (by decide +kernel) fr_3_44 (ltL_0 ho) (congrArg Prod.fst (shL_0 ho)) (fun q => by cases q) (Or.inl rfl) (pn 16 rfl ?_)
  refine s_aload_n (i := 0) (by decide +kernel) rfl (pn 17 rfl ?_)
  refine s_aload_n (i := 1) (by decide +kernel) rfl (pn 18 rfl ?_)
  refine s_getfield (v := .int ((pm_si (pm_si M o 0 (M.1 q 0)) o 1 ((pm_si M o 0 (M.1 q 0)).1 q 1)).1 q 2)) (by decide +kernel) fr_3_47 (ltL_0 hq) (congrArg Prod.fst (shL_0 hq)) rfl (pn 21 rfl ?_)
  refine s_putfieldI (by decide +kernel) fr_3_47 (ltL_0 ho) (congrArg Prod.fst (shL_0 ho)) (fun q => by cases q) (Or.inl rfl) (pn 24 rfl ?_)
  refine s_aload_n (i := 0) (by decide +kernel) rfl (pn 25 rfl ?_)
  refine s_aload_n (i := 1) (by decide +kernel) rfl (pn 26 rfl ?_)
  refine s_getfield (v := .int ((pm_si (pm_si (pm_si M o 0 (M.1 q 0)) o 1 ((pm_si M o 0 (M.1 q 0)).1 q 1)) o 2 ((pm_si (pm_si M o 0 (M.1 q 0)) o 1 ((pm_si M o 0 (M.1 q 0)).1 q 1)).1 q 2)).1 q 3)) (by decide +kernel) fr_3_50 (ltL_0 hq) (congrArg Prod.fst (shL_0 hq)) rfl (pn 29 rfl ?_)
  refine s_putfieldI (by decide +kernel) fr_3_50 (ltL_0 ho) (congrArg Prod.fst (shL_0 ho)) (fun q => by cases q) (Or.inl rfl) (pn 32 rfl ?_)
  refine s_aload_n (i := 0) (by decide +kernel) rfl (pn 33 rfl ?_)
  refine s_aload_n (i := 1) (by decide +kernel) rfl (pn 34 rfl ?_)
  refine s_getfield (v := .int ((pm_si (pm_si (pm_si (pm_si M o 0 (M.1 q 0)) o 1 ((pm_si M o 0 (M.1 q 0)).1 q 1)) o 2 ((pm_si (pm_si M o 0 (M.1 q 0)) o 1 ((pm_si M o 0 (M.1 q 0)).1 q 1)).1 q 2)) o 3 ((pm_si (pm_si (pm_si M o 0 (M.1 q 0)) o 1 ((pm_si M o 0 (M.1 q 0)).1 q 1)) o 2 ((pm_si (pm_si M o 0 (M.1 q 0)) o 1 ((pm_si M o 0 (M.1 q 0)).1 q 1)).1 q 2)).1 q 3)).1 q 4)) (by decide +kernel) fr_3_53 (ltL_0 hq) (congrArg Prod.fst (shL_0 hq)) rfl (pn 37 rfl ?_)
  refine s_putfieldI (by decide +kernel) fr_3_53 (ltL_0 ho) (congrArg Prod.fst (shL_0 ho)) (fun q => by cases q) (Or.inl rfl) (pn 40 rfl ?_)
  refine s_aload_n (i := 1) (by decide +kernel) rfl (pn 41 rfl ?_)
  refine s_getfield (v := .ref (q + 1)) (by decide +kernel) fr_3_15 (ltL_0 hq) (congrArg Prod.fst (shL_0 hq)) (fv_ref (pfL_5 hq)) (pn 44 rfl ?_)
  refine t_iconst (by decide +kernel) ki_0 (pn 45 rfl ?_)
  refine s_aload_n (i := 0) (by decide +kernel) rfl (pn 46 rfl ?_)
  refine s_getfield (v := .ref (o + 1)) (by decide +kernel) fr_3_15 (ltL_0 ho) (congrArg Prod.fst (shL_0 ho)) (fv_ref (pfL_5 ho)) (pn 49 rfl ?_)
  refine t_iconst (by decide +kernel) ki_0 (pn 50 rfl ?_)
  refine t_bipush (by decide +kernel) kb_8 (pn 52 rfl ?_)
  refine t_arraycopy (k1 := 0) (k2 := 0) (k3 := 8) (by decide +kernel) ac_3_59 (ltL_1 hq) (ltL_1 ho) (congrArg Prod.fst (shL_1 hq)) (congrArg Prod.fst (shL_1 ho)) (by decide) (by decide) (by decide) (ac_le (shL_1 hq) (by decide)) (ac_le (shL_1 ho) (by decide)) (Nat.le_of_ble_eq_true rfl) tn_0 tn_0 tn_8 (pn 55 rfl ?_)
  obtain ⟨m1, em1⟩ : ∃ zz : pm_M, zz = (pm_ri (pm_si (pm_si (pm_si (pm_si (pm_si M o 0 (M.1 q 0)) o 1 ((pm_si M o 0 (M.1 q 0)).1 q 1)) o 2 ((pm_si (pm_si M o 0 (M.1 q 0)) o 1 ((pm_si M o 0 (M.1 q 0)).1 q 1)).1 q 2)) o 3 ((pm_si (pm_si (pm_si M o 0 (M.1 q 0)) o 1 ((pm_si M o 0 (M.1 q 0)).1 q 1)) o 2 ((pm_si (pm_si M o 0 (M.1 q 0)) o 1 ((pm_si M o 0 (M.1 q 0)).1 q 1)).1 q 2)).1 q 3)) o 4 ((pm_si (pm_si (pm_si (pm_si M o 0 (M.1 q 0)) o 1 ((pm_si M o 0 (M.1 q 0)).1 q 1)) o 2 ((pm_si (pm_si M o 0 (M.1 q 0)) o 1 ((pm_si M o 0 (M.1 q 0)).1 q 1)).1 q 2)) o 3 ((pm_si (pm_si (pm_si M o 0 (M.1 q 0)) o 1 ((pm_si M o 0 (M.1 q 0)).1 q 1)) o 2 ((pm_si (pm_si M o 0 (M.1 q 0)) o 1 ((pm_si M o 0 (M.1 q 0)).1 q 1)).1 q 2)).1 q 3)).1 q 4)) (o + 1) (va_cpy ((pm_si (pm_si (pm_si (pm_si (pm_si M o 0 (M.1 q 0)) o 1 ((pm_si M o 0 (M.1 q 0)).1 q 1)) o 2 ((pm_si (pm_si M o 0 (M.1 q 0)) o 1 ((pm_si M o 0 (M.1 q 0)).1 q 1)).1 q 2)) o 3 ((pm_si (pm_si (pm_si M o 0 (M.1 q 0)) o 1 ((pm_si M o 0 (M.1 q 0)).1 q 1)) o 2 ((pm_si (pm_si M o 0 (M.1 q 0)) o 1 ((pm_si M o 0 (M.1 q 0)).1 q 1)).1 q 2)).1 q 3)) o 4 ((pm_si (pm_si (pm_si (pm_si M o 0 (M.1 q 0)) o 1 ((pm_si M o 0 (M.1 q 0)).1 q 1)) o 2 ((pm_si (pm_si M o 0 (M.1 q 0)) o 1 ((pm_si M o 0 (M.1 q 0)).1 q 1)).1 q 2)) o 3 ((pm_si (pm_si (pm_si M o 0 (M.1 q 0)) o 1 ((pm_si M o 0 (M.1 q 0)).1 q 1)) o 2 ((pm_si (pm_si M o 0 (M.1 q 0)) o 1 ((pm_si M o 0 (M.1 q 0)).1 q 1)).1 q 2)).1 q 3)).1 q 4)).1 (q + 1)) ((pm_si (pm_si (pm_si (pm_si (pm_si M o 0 (M.1 q 0)) o 1 ((pm_si M o 0 (M.1 q 0)).1 q 1)) o 2 ((pm_si (pm_si M o 0 (M.1 q 0)) o 1 ((pm_si M o 0 (M.1 q 0)).1 q 1)).1 q 2)) o 3 ((pm_si (pm_si (pm_si M o 0 (M.1 q 0)) o 1 ((pm_si M o 0 (M.1 q 0)).1 q 1)) o 2 ((pm_si (pm_si M o 0 (M.1 q 0)) o 1 ((pm_si M o 0 (M.1 q 0)).1 q 1)).1 q 2)).1 q 3)) o 4 ((pm_si (pm_si (pm_si (pm_si M o 0 (M.1 q 0)) o 1 ((pm_si M o 0 (M.1 q 0)).1 q 1)) o 2 ((pm_si (pm_si M o 0 (M.1 q 0)) o 1 ((pm_si M o 0 (M.1 q 0)).1 q 1)).1 q 2)) o 3 ((pm_si (pm_si (pm_si M o 0 (M.1 q 0)) o 1 ((pm_si M o 0 (M.1 q 0)).1 q 1)) o 2 ((pm_si (pm_si M o 0 (M.1 q 0)) o 1 ((pm_si M o 0 (M.1 q 0)).1 q 1)).1 q 2)).1 q 3)).1 q 4)).1 (o + 1)) 0 0 8)) := ⟨_, rfl⟩
  have h := h m1 em1
  rw [← em1]
  refine s_aload_n (i := 1) (by decide +kernel) rfl (pn 56 rfl ?_)
  refine s_getfield (v := .ref (q + 2)) (by decide +kernel) fr_3_19 (ltL_0 hq) (congrArg Prod.fst (shL_0 hq)) (fv_ref (pfL_6 hq)) (pn 59 rfl ?_)
  refine t_iconst (by decide +kernel) ki_0 (pn 60 rfl ?_)
  refine s_aload_n (i := 0) (by decide +kernel) rfl (pn 61 rfl ?_)
  refine s_getfield (v := .ref (o + 2)) (by decide +kernel) fr_3_19 (ltL_0 ho) (congrArg Prod.fst (shL_0 ho)) (fv_ref (pfL_6 ho)) (pn 64 rfl ?_)
  refine t_iconst (by decide +kernel) ki_0 (pn 65 rfl ?_)
  refine t_bipush (by decide +kernel) kb_8 (pn 67 rfl ?_)
  refine t_arraycopy (k1 := 0) (k2 := 0) (k3 := 8) (by decide +kernel) ac_3_59 (ltL_2 hq) (ltL_2 ho) (congrArg Prod.fst (shL_2 hq)) (congrArg Prod.fst (shL_2 ho)) (by decide) (by decide) (by decide) (ac_le (shL_2 hq) (by decide)) (ac_le (shL_2 ho) (by decide)) (Nat.le_of_ble_eq_true rfl) tn_0 tn_0 tn_8 (pn 70 rfl ?_)
  obtain ⟨m2, em2⟩ : ∃ zz : pm_M, zz = (pm_ri m1 (o + 2) (va_cpy (m1.1 (q + 2)) (m1.1 (o + 2)) 0 0 8)) := ⟨_, rfl⟩
  have h := h m2 em2
  rw [← em2]
  refine s_aload_n (i := 1) (by decide +kernel) rfl (pn 71 rfl ?_)
  refine s_getfield (v := .ref (q + 3)) (by decide +kernel) fr_3_22 (ltL_0 hq) (congrArg Prod.fst (shL_0 hq)) (fv_ref (pfL_7 hq)) (pn 74 rfl ?_)
  refine t_iconst (by decide +kernel) ki_0 (pn 75 rfl ?_)
  refine s_aload_n (i := 0) (by decide +kernel) rfl (pn 76 rfl ?_)
  refine s_getfield (v := .ref (o + 3)) (by decide +kernel) fr_3_22 (ltL_0 ho) (congrArg Prod.fst (shL_0 ho)) (fv_ref (pfL_7 ho)) (pn 79 rfl ?_)
  refine t_iconst (by decide +kernel) ki_0 (pn 80 rfl ?_)
  refine t_bipush (by decide +kernel) kb_8 (pn 82 rfl ?_)
  refine t_arraycopy (k1 := 0) (k2 := 0) (k3 := 8) (by decide +kernel) ac_3_59 (ltL_3 hq) (ltL_3 ho) (congrArg Prod.fst (shL_3 hq)) (congrArg Prod.fst (shL_3 ho)) (by decide) (by decide) (by decide) (ac_le (shL_3 hq) (by decide)) (ac_le (shL_3 ho) (by decide)) (Nat.le_of_ble_eq_true rfl) tn_0 tn_0 tn_8 (pn 85 rfl ?_)
  obtain ⟨m3, em3⟩ : ∃ zz : pm_M, zz = (pm_ri m2 (o + 3) (va_cpy (m2.1 (q + 3)) (m2.1 (o + 3)) 0 0 8)) := ⟨_, rfl⟩
  have h := h m3 em3
  rw [← em3]
  refine s_aload_n (i := 1) (by decide +kernel) rfl (pn 86 rfl ?_)
  refine s_getfield (v := .ref (q + 4)) (by decide +kernel) fr_3_25 (ltL_0 hq) (congrArg Prod.fst (shL_0 hq)) (fv_ref (pfL_8 hq)) (pn 89 rfl ?_)
  refine t_iconst (by decide +kernel) ki_0 (pn 90 rfl ?_)
  refine s_aload_n (i := 0) (by decide +kernel) rfl (pn 91 rfl ?_)
  refine s_getfield (v := .ref (o + 4)) (by decide +kernel) fr_3_25 (ltL_0 ho) (congrArg Prod.fst (shL_0 ho)) (fv_ref (pfL_8 ho)) (pn 94 rfl ?_)
  refine t_iconst (by decide +kernel) ki_0 (pn 95 rfl ?_)
  refine t_bipush (by decide +kernel) kb_8 (pn 97 rfl ?_)
  refine t_arraycopy (k1 := 0) (k2 := 0) (k3 := 8) (by decide +kernel) ac_3_59 (ltL_4 hq) (ltL_4 ho) (congrArg Prod.fst (shL_4 hq)) (congrArg Prod.fst (shL_4 ho)) (by decide) (by decide) (by decide) (ac_le (shL_4 hq) (by decide)) (ac_le (shL_4 ho) (by decide)) (Nat.le_of_ble_eq_true rfl) tn_0 tn_0 tn_8 (pn 100 rfl ?_)
  obtain ⟨m4, em4⟩ : ∃ zz : pm_M, zz = (pm_ri m3 (o + 4) (va_cpy (m3.1 (q + 4)) (m3.1 (o + 4)) 0 0 8)) := ⟨_, rfl⟩
  have h := h m4 em4
  rw [← em4]
  refine s_aload_n (i := 1) (by decide +kernel) rfl (pn 101 rfl ?_)
  refine s_getfield (v := .ref (q + 5)) (by decide +kernel) fr_3_28 (ltL_0 hq) (congrArg Prod.fst (shL_0 hq)) (fv_ref (pfL_9 hq)) (pn 104 rfl ?_)
  refine t_iconst (by decide +kernel) ki_0 (pn 105 rfl ?_)
  refine s_aload_n (i := 0) (by decide +kernel) rfl (pn 106 rfl ?_)
  refine s_getfield (v := .ref (o + 5)) (by decide +kernel) fr_3_28 (ltL_0 ho) (congrArg Prod.fst (shL_0 ho)) (fv_ref (pfL_9 ho)) (pn 109 rfl ?_)
  refine t_iconst (by decide +kernel) ki_0 (pn 110 rfl ?_)
  refine t_bipush (by decide +kernel) kb_6 (pn 112 rfl ?_)
  refine t_arraycopy (k1 := 0) (k2 := 0) (k3 := 6) (by decide +kernel) ac_3_59 (ltL_5 hq) (ltL_5 ho) (congrArg Prod.fst (shL_5 hq)) (congrArg Prod.fst (shL_5 ho)) (by decide) (by decide) (by decide) (ac_le (shL_5 hq) (by decide)) (ac_le (shL_5 ho) (by decide)) (Nat.le_of_ble_eq_true rfl) tn_0 tn_0 tn_6 (pn 115 rfl ?_)
  obtain ⟨m5, em5⟩ : ∃ zz : pm_M, zz = (pm_ri m4 (o + 5) (va_cpy (m4.1 (q + 5)) (m4.1 (o + 5)) 0 0 6)) := ⟨_, rfl⟩
  have h := h m5 em5
  rw [← em5]
  refine s_aload_n (i := 1) (by decide +kernel) rfl (pn 116 rfl ?_)
  refine s_getfield (v := .ref (q + 6)) (by decide +kernel) fr_3_31 (ltL_0 hq) (congrArg Prod.fst (shL_0 hq)) (fv_ref (pfL_10 hq)) (pn 119 rfl ?_)
  refine t_iconst (by decide +kernel) ki_0 (pn 120 rfl ?_)
  refine s_aload_n (i := 0) (by decide +kernel) rfl (pn 121 rfl ?_)
  refine s_getfield (v := .ref (o + 6)) (by decide +kernel) fr_3_31 (ltL_0 ho) (congrArg Prod.fst (shL_0 ho)) (fv_ref (pfL_10 ho)) (pn 124 rfl ?_)
  refine t_iconst (by decide +kernel) ki_0 (pn 125 rfl ?_)
  refine t_bipush (by decide +kernel) kb_6 (pn 127 rfl ?_)
  refine t_arraycopy (k1 := 0) (k2 := 0) (k3 := 6) (by decide +kernel) ac_3_59 (ltL_6 hq) (ltL_6 ho) (congrArg Prod.fst (shL_6 hq)) (congrArg Prod.fst (shL_6 ho)) (by decide) (by decide) (by decide) (ac_le (shL_6 hq) (by decide)) (ac_le (shL_6 ho) (by decide)) (Nat.le_of_ble_eq_true rfl) tn_0 tn_0 tn_6 (pn 130 rfl ?_)
  obtain ⟨m6, em6⟩ : ∃ zz : pm_M, zz = (pm_ri m5 (o + 6) (va_cpy (m5.1 (q + 6)) (m5.1 (o + 6)) 0 0 6)) := ⟨_, rfl⟩
  have h := h m6 em6
  rw [← em6]
  refine s_aload_n (i := 1) (by decide +kernel) rfl (pn 131 rfl ?_)
  refine s_getfield (v := .ref (q + 7)) (by decide +kernel) fr_3_34 (ltL_0 hq) (congrArg Prod.fst (shL_0 hq)) (fv_ref (pfL_11 hq)) (pn 134 rfl ?_)
  refine t_iconst (by decide +kernel) ki_0 (pn 135 rfl ?_)
  refine s_aload_n (i := 0) (by decide +kernel) rfl (pn 136 rfl ?_)
  refine s_getfield (v := .ref (o + 7)) (by decide +kernel) fr_3_34 (ltL_0 ho) (congrArg Prod.fst (shL_0 ho)) (fv_ref (pfL_11 ho)) (pn 139 rfl ?_)
  refine t_iconst (by decide +kernel) ki_0 (pn 140 rfl ?_)
  refine t_bipush (by decide +kernel) kb_6 (pn 142 rfl ?_)
  refine t_arraycopy (k1 := 0) (k2 := 0) (k3 := 6) (by decide +kernel) ac_3_59 (ltL_7 hq) (ltL_7 ho) (congrArg Prod.fst (shL_7 hq)) (congrArg Prod.fst (shL_7 ho)) (by decide) (by decide) (by decide) (ac_le (shL_7 hq) (by decide)) (ac_le (shL_7 ho) (by decide)) (Nat.le_of_ble_eq_true rfl) tn_0 tn_0 tn_6 (pn 145 rfl ?_)
  obtain ⟨m7, em7⟩ : ∃ zz : pm_M, zz = (pm_ri m6 (o + 7) (va_cpy (m6.1 (q + 7)) (m6.1 (o + 7)) 0 0 6)) := ⟨_, rfl⟩
  have h := h m7 em7
  rw [← em7]
  refine s_aload_n (i := 0) (by decide +kernel) rfl (pn 146 rfl ?_)
  refine s_getfield (v := .ref (o + 8)) (by decide +kernel) fr_3_40 (ltL_0 ho) (congrArg Prod.fst (shL_0 ho)) (fv_ref (pfL_12 ho)) (pn 149 rfl ?_)
  refine s_aload_n (i := 1) (by decide +kernel) rfl (pn 150 rfl ?_)
  refine s_getfield (v := .ref (q + 8)) (by decide +kernel) fr_3_40 (ltL_0 hq) (congrArg Prod.fst (shL_0 hq)) (fv_ref (pfL_12 hq)) (pn 153 rfl ?_)
  refine s_callvV [.ref (q + 8)] rfl (by decide +kernel) mv_3_65 np_9 (Nat.le_of_ble_eq_true rfl) (ltL_8 ho) ((congrArg Prod.fst (shL_8 ho)).trans oc_9) (cV_use h (fun s1 M1 h => (pn 156 rfl ?_)))
  exact s_return (st := []) (by decide +kernel) rfl ⟨rfl, s1, rfl, h⟩
abbrev wL_hasPerson (d pc : Nat) (ls st : List Value) (s : pm_S) (M : pm_M) (Q : Int32 → pm_S → pm_M → Prop) : Prop := wI d prog_5_method_6_code 3 (some .boolean) false pc ls st s M Q
theorem enL_hasPerson {d : Nat} {s : pm_S} {M : pm_M} {x1 : Int32} {Q : Int32 → pm_S → pm_M → Prop}  (h : Q ((if x1 < 0 then 0 else (if (M.1 15 2) ≤ x1 then 0 else (if 6 ≤ x1 then 0 else 1))) : Int32) s M) : cI (d + 1) yL_hasPerson [.ref 15, .int x1] s M Q := by
  refine pm_toI (by decide) (Nat.le_of_ble_eq_true rfl) ?_
  show wL_hasPerson d 0 [.ref 15, .int x1] [] s M Q
  refine s_iload_n (i := 1) (by decide +kernel) rfl (pn 1 rfl ?_)
  have k1 : ∀ (z1 : Int32) (z1e : z1 = ((if x1 < 0 then 0 else (if (M.1 15 2) ≤ x1 then 0 else (if 6 ≤ x1 then 0 else 1))) : Int32)), wL_hasPerson d 23 [.ref 15, .int x1] [.int z1] s M Q := by
    intro z1 z1e
    subst z1e
    exact s_ireturn (st := []) (by decide +kernel) (Or.inr ⟨rfl, (or01 (Or.inl rfl) (or01 (Or.inl rfl) (or01 (Or.inl rfl) (Or.inr rfl))))⟩) ⟨_, rfl, s, rfl, h⟩
  refine s_if_lt (off := 21) (tgt := 22) (by decide +kernel) rfl (fun c1 => ?_) (fun c1 => (pn 4 rfl ?_))
  · refine t_iconst (by decide +kernel) ki_0 (pn 23 rfl ?_)
    exact k1 _ (by simp only [if_pos c1])
  · refine s_iload_n (i := 1) (by decide +kernel) rfl (pn 5 rfl ?_)
    refine s_aload_n (i := 0) (by decide +kernel) rfl (pn 6 rfl ?_)
    refine s_getfield (v := .int (M.1 15 2)) (by decide +kernel) fr_3_47 lq_15 (congrArg Prod.fst sh_15) rfl (pn 9 rfl ?_)
    refine s_icmp_ge (off := 13) (tgt := 22) (by decide +kernel) rfl (fun c2 => ?_) (fun c2 => (pn 12 rfl ?_))
    · refine t_iconst (by decide +kernel) ki_0 (pn 23 rfl ?_)
      exact k1 _ (by simp only [if_neg c1, if_pos c2])
    · refine s_iload_n (i := 1) (by decide +kernel) rfl (pn 13 rfl ?_)
      refine t_bipush (by decide +kernel) kb_6 (pn 15 rfl ?_)
      refine s_icmp_ge (off := 7) (tgt := 22) (by decide +kernel) rfl (fun c3 => ?_) (fun c3 => (pn 18 rfl ?_))
      · refine t_iconst (by decide +kernel) ki_0 (pn 23 rfl ?_)
        exact k1 _ (by simp only [if_neg c1, if_neg c2, if_pos c3])
      · refine t_iconst (by decide +kernel) ki_1 (pn 19 rfl ?_)
        refine s_goto (off := 4) (tgt := 23) (by decide +kernel) rfl ?_
        exact k1 _ (by simp only [if_neg c1, if_neg c2, if_neg c3])
abbrev wL_claimBy (d pc : Nat) (ls st : List Value) (s : pm_S) (M : pm_M) (Q : Int32 → pm_S → pm_M → Prop) : Prop := wI d prog_5_method_12_code 3 (some .int) false pc ls st s M Q
theorem enL_claimBy {d : Nat} {s : pm_S} {M : pm_M} {x1 : Int32} {x2 : Int32} {x3 : Int32} {Q : Int32 → pm_S → pm_M → Prop}  (h : cI d yL_hasThing [.ref 15, .int x3] s M (fun r1 s1 M1 => ((r1 = 0 → Q 0 s1 M1) ∧ (¬ (r1 = 0) → (((M1.1 23 5) = (M1.1 23 4) → vp_in x3 8 ∧ Q ((if x1 = (M1.1 17 x3.toNatClampNeg) then 1 else 0) : Int32) s1 M1) ∧ (¬ ((M1.1 23 5) = (M1.1 23 4)) → cV d yL_tellFacts [.ref 15, .int x1, .int x2, .int x3] s1 M1 (fun s2 M2 => cI d yW_worth [.ref 23, .int (M2.1 23 4), .int (M2.1 23 5)] s2 M2 (fun r2 s3 M3 => Q r2 s3 M3)))))))) : cI (d + 1) yL_claimBy [.ref 15, .int x1, .int x2, .int x3] s M Q := by
  refine pm_toI (by decide) (Nat.le_of_ble_eq_true rfl) ?_
  show wL_claimBy d 0 [.ref 15, .int x1, .int x2, .int x3] [] s M Q
  refine s_aload_n (i := 0) (by decide +kernel) rfl (pn 1 rfl ?_)
  refine s_iload_n (i := 3) (by decide +kernel) rfl (pn 2 rfl ?_)
  refine s_callvI [.int x3] rfl (by decide +kernel) mv_3_75 np_28 (Nat.le_of_ble_eq_true rfl) lq_15 ((congrArg Prod.fst sh_15).trans oc_28) (cI_use h (fun r1 s1 M1 h => (pn 5 rfl ?_)))
  refine t_if_ne (off := 5) (tgt := 10) (by decide +kernel) rfl (fun c1 => ?_) (fun c1 => (pn 8 rfl ?_))
  · have h := h.2 c1
    refine s_aload_n (i := 0) (by decide +kernel) rfl (pn 11 rfl ?_)
    refine s_getfield (v := .ref 23) (by decide +kernel) fr_3_40 lq_15 (congrArg Prod.fst sh_15) (fv_ref pf_15_12) (pn 14 rfl ?_)
    refine s_getfield (v := .int (M1.1 23 5)) (by decide +kernel) fr_3_79 lq_23 (congrArg Prod.fst sh_23) rfl (pn 17 rfl ?_)
    refine s_aload_n (i := 0) (by decide +kernel) rfl (pn 18 rfl ?_)
    refine s_getfield (v := .ref 23) (by decide +kernel) fr_3_40 lq_15 (congrArg Prod.fst sh_15) (fv_ref pf_15_12) (pn 21 rfl ?_)
    refine s_getfield (v := .int (M1.1 23 4)) (by decide +kernel) fr_3_82 lq_23 (congrArg Prod.fst sh_23) rfl (pn 24 rfl ?_)
    refine t_icmp_ne (off := 19) (tgt := 43) (by decide +kernel) rfl (fun c2 => ?_) (fun c2 => (pn 27 rfl ?_))
    · have h := h.2 c2
      refine s_aload_n (i := 0) (by decide +kernel) rfl (pn 44 rfl ?_)
      refine s_iload_n (i := 1) (by decide +kernel) rfl (pn 45 rfl ?_)
      refine s_iload_n (i := 2) (by decide +kernel) rfl (pn 46 rfl ?_)
      refine s_iload_n (i := 3) (by decide +kernel) rfl (pn 47 rfl ?_)
      refine s_callvV [.int x1, .int x2, .int x3] rfl (by decide +kernel) mv_3_85 np_33 (Nat.le_of_ble_eq_true rfl) lq_15 ((congrArg Prod.fst sh_15).trans oc_33) (cV_use h (fun s2 M2 h => (pn 50 rfl ?_)))
      refine s_aload_n (i := 0) (by decide +kernel) rfl (pn 51 rfl ?_)
      refine s_getfield (v := .ref 23) (by decide +kernel) fr_3_40 lq_15 (congrArg Prod.fst sh_15) (fv_ref pf_15_12) (pn 54 rfl ?_)
      refine s_aload_n (i := 0) (by decide +kernel) rfl (pn 55 rfl ?_)
      refine s_getfield (v := .ref 23) (by decide +kernel) fr_3_40 lq_15 (congrArg Prod.fst sh_15) (fv_ref pf_15_12) (pn 58 rfl ?_)
      refine s_getfield (v := .int (M2.1 23 4)) (by decide +kernel) fr_3_82 lq_23 (congrArg Prod.fst sh_23) rfl (pn 61 rfl ?_)
      refine s_aload_n (i := 0) (by decide +kernel) rfl (pn 62 rfl ?_)
      refine s_getfield (v := .ref 23) (by decide +kernel) fr_3_40 lq_15 (congrArg Prod.fst sh_15) (fv_ref pf_15_12) (pn 65 rfl ?_)
      refine s_getfield (v := .int (M2.1 23 5)) (by decide +kernel) fr_3_79 lq_23 (congrArg Prod.fst sh_23) rfl (pn 68 rfl ?_)
      refine s_callvI [.int (M2.1 23 4), .int (M2.1 23 5)] rfl (by decide +kernel) mv_3_89 np_10 (Nat.le_of_ble_eq_true rfl) lq_23 ((congrArg Prod.fst sh_23).trans oc_10) (cI_use h (fun r2 s3 M3 h => (pn 71 rfl ?_)))
      exact s_ireturn (st := []) (by decide +kernel) (Or.inl rfl) ⟨_, rfl, s3, rfl, h⟩
    · have h := h.1 c2
      refine s_iload_n (i := 1) (by decide +kernel) rfl (pn 28 rfl ?_)
      refine s_aload_n (i := 0) (by decide +kernel) rfl (pn 29 rfl ?_)
      refine s_getfield (v := .ref 17) (by decide +kernel) fr_3_19 lq_15 (congrArg Prod.fst sh_15) (fv_ref pf_15_6) (pn 32 rfl ?_)
      refine s_iload_n (i := 3) (by decide +kernel) rfl (pn 33 rfl ?_)
      obtain ⟨b1, h⟩ := h
      refine t_iaload (v := M1.1 17 x3.toNatClampNeg) (by decide +kernel) ⟨Or.inl lq_17, congrArg Prod.fst sh_17⟩ (al_in sh_17 b1) rfl (pn 34 rfl ?_)
      have k1 : ∀ (z1 : Int32) (z1e : z1 = ((if x1 = (M1.1 17 x3.toNatClampNeg) then 1 else 0) : Int32)), wL_claimBy d 42 [.ref 15, .int x1, .int x2, .int x3] [.int z1] s1 M1 Q := by
        intro z1 z1e
        subst z1e
        exact s_ireturn (st := []) (by decide +kernel) (Or.inl rfl) ⟨_, rfl, s1, rfl, h⟩
      refine t_icmp_ne (off := 7) (tgt := 41) (by decide +kernel) rfl (fun c3 => ?_) (fun c3 => (pn 37 rfl ?_))
      · refine t_iconst (by decide +kernel) ki_0 (pn 42 rfl ?_)
        exact k1 _ (by simp only [if_neg c3])
      · refine t_iconst (by decide +kernel) ki_1 (pn 38 rfl ?_)
        refine s_goto (off := 4) (tgt := 42) (by decide +kernel) rfl ?_
        exact k1 _ (by simp only [if_pos c3])
  · have h := h.1 c1
    refine t_iconst (by decide +kernel) ki_0 (pn 9 rfl ?_)
    exact s_ireturn (st := []) (by decide +kernel) (Or.inl rfl) ⟨_, rfl, s1, rfl, h⟩
abbrev wL_tellFacts (d pc : Nat) (ls st : List Value) (s : pm_S) (M : pm_M) (Q : pm_S → pm_M → Prop) : Prop := wV d prog_5_method_14_code 3 none false pc ls st s M Q
theorem enL_tellFacts {d : Nat} {s : pm_S} {M : pm_M} {x1 : Int32} {x2 : Int32} {x3 : Int32} {Q : pm_S → pm_M → Prop}  (h : vp_in x3 8 ∧ vp_in x3 8 ∧ Q s (pm_si (pm_si (pm_si (pm_si (pm_si M 26 0 x2) 26 1 x1) 26 2 x3) 26 3 (M.1 17 x3.toNatClampNeg)) 26 4 (M.1 18 x3.toNatClampNeg))) : cV (d + 1) yL_tellFacts [.ref 15, .int x1, .int x2, .int x3] s M Q := by
  refine pm_toV (by decide) (Nat.le_of_ble_eq_true rfl) ?_
  show wL_tellFacts d 0 [.ref 15, .int x1, .int x2, .int x3] [] s M Q
  refine s_aload_n (i := 0) (by decide +kernel) rfl (pn 1 rfl ?_)
  refine s_getfield (v := .ref 23) (by decide +kernel) fr_3_40 lq_15 (congrArg Prod.fst sh_15) (fv_ref pf_15_12) (pn 4 rfl ?_)
  refine s_getfield (v := .ref 26) (by decide +kernel) fr_3_98 lq_23 (congrArg Prod.fst sh_23) (fv_ref pf_23_2) (pn 7 rfl ?_)
  refine t_iconst (by decide +kernel) ki_0 (pn 8 rfl ?_)
  refine s_iload_n (i := 2) (by decide +kernel) rfl (pn 9 rfl ?_)
  refine t_iastore (k := 0) (by decide +kernel) ⟨lq_26, congrArg Prod.fst sh_26⟩ (al_in sh_26 (vp_lit (n := 7) tn_0 (by decide) (by decide))) tn_0 (pn 10 rfl ?_)
  refine s_aload_n (i := 0) (by decide +kernel) rfl (pn 11 rfl ?_)
  refine s_getfield (v := .ref 23) (by decide +kernel) fr_3_40 lq_15 (congrArg Prod.fst sh_15) (fv_ref pf_15_12) (pn 14 rfl ?_)
  refine s_getfield (v := .ref 26) (by decide +kernel) fr_3_98 lq_23 (congrArg Prod.fst sh_23) (fv_ref pf_23_2) (pn 17 rfl ?_)
  refine t_iconst (by decide +kernel) ki_1 (pn 18 rfl ?_)
  refine s_iload_n (i := 1) (by decide +kernel) rfl (pn 19 rfl ?_)
  refine t_iastore (k := 1) (by decide +kernel) ⟨lq_26, congrArg Prod.fst sh_26⟩ (al_in sh_26 (vp_lit (n := 7) tn_1 (by decide) (by decide))) tn_1 (pn 20 rfl ?_)
  refine s_aload_n (i := 0) (by decide +kernel) rfl (pn 21 rfl ?_)
  refine s_getfield (v := .ref 23) (by decide +kernel) fr_3_40 lq_15 (congrArg Prod.fst sh_15) (fv_ref pf_15_12) (pn 24 rfl ?_)
  refine s_getfield (v := .ref 26) (by decide +kernel) fr_3_98 lq_23 (congrArg Prod.fst sh_23) (fv_ref pf_23_2) (pn 27 rfl ?_)
  refine t_iconst (by decide +kernel) ki_2 (pn 28 rfl ?_)
  refine s_iload_n (i := 3) (by decide +kernel) rfl (pn 29 rfl ?_)
  refine t_iastore (k := 2) (by decide +kernel) ⟨lq_26, congrArg Prod.fst sh_26⟩ (al_in sh_26 (vp_lit (n := 7) tn_2 (by decide) (by decide))) tn_2 (pn 30 rfl ?_)
  refine s_aload_n (i := 0) (by decide +kernel) rfl (pn 31 rfl ?_)
  refine s_getfield (v := .ref 23) (by decide +kernel) fr_3_40 lq_15 (congrArg Prod.fst sh_15) (fv_ref pf_15_12) (pn 34 rfl ?_)
  refine s_getfield (v := .ref 26) (by decide +kernel) fr_3_98 lq_23 (congrArg Prod.fst sh_23) (fv_ref pf_23_2) (pn 37 rfl ?_)
  refine t_iconst (by decide +kernel) ki_3 (pn 38 rfl ?_)
  refine s_aload_n (i := 0) (by decide +kernel) rfl (pn 39 rfl ?_)
  refine s_getfield (v := .ref 17) (by decide +kernel) fr_3_19 lq_15 (congrArg Prod.fst sh_15) (fv_ref pf_15_6) (pn 42 rfl ?_)
  refine s_iload_n (i := 3) (by decide +kernel) rfl (pn 43 rfl ?_)
  obtain ⟨b1, h⟩ := h
  refine t_iaload (v := M.1 17 x3.toNatClampNeg) (by decide +kernel) ⟨Or.inl lq_17, congrArg Prod.fst sh_17⟩ (al_in sh_17 b1) rfl (pn 44 rfl ?_)
  refine t_iastore (k := 3) (by decide +kernel) ⟨lq_26, congrArg Prod.fst sh_26⟩ (al_in sh_26 (vp_lit (n := 7) tn_3 (by decide) (by decide))) tn_3 (pn 45 rfl ?_)
  refine s_aload_n (i := 0) (by decide +kernel) rfl (pn 46 rfl ?_)
  refine s_getfield (v := .ref 23) (by decide +kernel) fr_3_40 lq_15 (congrArg Prod.fst sh_15) (fv_ref pf_15_12) (pn 49 rfl ?_)
  refine s_getfield (v := .ref 26) (by decide +kernel) fr_3_98 lq_23 (congrArg Prod.fst sh_23) (fv_ref pf_23_2) (pn 52 rfl ?_)
  refine t_iconst (by decide +kernel) ki_4 (pn 53 rfl ?_)
  refine s_aload_n (i := 0) (by decide +kernel) rfl (pn 54 rfl ?_)
  refine s_getfield (v := .ref 18) (by decide +kernel) fr_3_22 lq_15 (congrArg Prod.fst sh_15) (fv_ref pf_15_7) (pn 57 rfl ?_)
  refine s_iload_n (i := 3) (by decide +kernel) rfl (pn 58 rfl ?_)
  obtain ⟨b2, h⟩ := h
  refine t_iaload (v := M.1 18 x3.toNatClampNeg) (by decide +kernel) ⟨Or.inl lq_18, congrArg Prod.fst sh_18⟩ (al_in sh_18 b2) rfl (pn 59 rfl ?_)
  refine t_iastore (k := 4) (by decide +kernel) ⟨lq_26, congrArg Prod.fst sh_26⟩ (al_in sh_26 (vp_lit (n := 7) tn_4 (by decide) (by decide))) tn_4 (pn 60 rfl ?_)
  exact s_return (st := []) (by decide +kernel) rfl ⟨rfl, s, rfl, h⟩
abbrev wL_burdenOf (d pc : Nat) (ls st : List Value) (s : pm_S) (M : pm_M) (Q : Int32 → pm_S → pm_M → Prop) : Prop := wI d prog_5_method_13_code 3 (some .int) false pc ls st s M Q
theorem enL_burdenOf {d : Nat} {s : pm_S} {M : pm_M} {x1 : Int32} {x2 : Int32} {x3 : Int32} {x4 : Int32} {x5 : Int32} {Q : Int32 → pm_S → pm_M → Prop}  (h : cI d yL_hasThing [.ref 15, .int x3] s M (fun r1 s1 M1 => ((r1 = 0 → Q 0 s1 M1) ∧ (¬ (r1 = 0) → (((M1.1 23 7) = (M1.1 23 6) → vp_in x3 8 ∧ Q (M1.1 18 x3.toNatClampNeg) s1 M1) ∧ (¬ ((M1.1 23 7) = (M1.1 23 6)) → cV d yL_tellFacts [.ref 15, .int x1, .int x2, .int x3] s1 M1 (fun s2 M2 => cI d yW_worth [.ref 23, .int (M2.1 23 6), .int (M2.1 23 7)] s2 (pm_si (pm_si M2 26 5 x4) 26 6 x5) (fun r2 s3 M3 => cI d ymath_min [.int 99, .int r2] s3 M3 (fun r3 s4 M4 => cI d ymath_max [.int 0, .int r3] s4 M4 (fun r4 s5 M5 => Q r4 s5 M5)))))))))) : cI (d + 1) yL_burdenOf [.ref 15, .int x1, .int x2, .int x3, .int x4, .int x5] s M Q := by
  refine pm_toI (by decide) (Nat.le_of_ble_eq_true rfl) ?_
  show wL_burdenOf d 0 [.ref 15, .int x1, .int x2, .int x3, .int x4, .int x5] [] s M Q
  refine s_aload_n (i := 0) (by decide +kernel) rfl (pn 1 rfl ?_)
  refine s_iload_n (i := 3) (by decide +kernel) rfl (pn 2 rfl ?_)
  refine s_callvI [.int x3] rfl (by decide +kernel) mv_3_75 np_28 (Nat.le_of_ble_eq_true rfl) lq_15 ((congrArg Prod.fst sh_15).trans oc_28) (cI_use h (fun r1 s1 M1 h => (pn 5 rfl ?_)))
  refine t_if_ne (off := 5) (tgt := 10) (by decide +kernel) rfl (fun c1 => ?_) (fun c1 => (pn 8 rfl ?_))
  · have h := h.2 c1
    refine s_aload_n (i := 0) (by decide +kernel) rfl (pn 11 rfl ?_)
    refine s_getfield (v := .ref 23) (by decide +kernel) fr_3_40 lq_15 (congrArg Prod.fst sh_15) (fv_ref pf_15_12) (pn 14 rfl ?_)
    refine s_getfield (v := .int (M1.1 23 7)) (by decide +kernel) fr_3_92 lq_23 (congrArg Prod.fst sh_23) rfl (pn 17 rfl ?_)
    refine s_aload_n (i := 0) (by decide +kernel) rfl (pn 18 rfl ?_)
    refine s_getfield (v := .ref 23) (by decide +kernel) fr_3_40 lq_15 (congrArg Prod.fst sh_15) (fv_ref pf_15_12) (pn 21 rfl ?_)
    refine s_getfield (v := .int (M1.1 23 6)) (by decide +kernel) fr_3_95 lq_23 (congrArg Prod.fst sh_23) rfl (pn 24 rfl ?_)
    refine t_icmp_ne (off := 10) (tgt := 34) (by decide +kernel) rfl (fun c2 => ?_) (fun c2 => (pn 27 rfl ?_))
    · have h := h.2 c2
      refine s_aload_n (i := 0) (by decide +kernel) rfl (pn 35 rfl ?_)
      refine s_iload_n (i := 1) (by decide +kernel) rfl (pn 36 rfl ?_)
      refine s_iload_n (i := 2) (by decide +kernel) rfl (pn 37 rfl ?_)
      refine s_iload_n (i := 3) (by decide +kernel) rfl (pn 38 rfl ?_)
      refine s_callvV [.int x1, .int x2, .int x3] rfl (by decide +kernel) mv_3_85 np_33 (Nat.le_of_ble_eq_true rfl) lq_15 ((congrArg Prod.fst sh_15).trans oc_33) (cV_use h (fun s2 M2 h => (pn 41 rfl ?_)))
      refine s_aload_n (i := 0) (by decide +kernel) rfl (pn 42 rfl ?_)
      refine s_getfield (v := .ref 23) (by decide +kernel) fr_3_40 lq_15 (congrArg Prod.fst sh_15) (fv_ref pf_15_12) (pn 45 rfl ?_)
      refine s_getfield (v := .ref 26) (by decide +kernel) fr_3_98 lq_23 (congrArg Prod.fst sh_23) (fv_ref pf_23_2) (pn 48 rfl ?_)
      refine t_iconst (by decide +kernel) ki_5 (pn 49 rfl ?_)
      refine s_iload (i := 4) (by decide +kernel) rfl (pn 51 rfl ?_)
      refine t_iastore (k := 5) (by decide +kernel) ⟨lq_26, congrArg Prod.fst sh_26⟩ (al_in sh_26 (vp_lit (n := 7) tn_5 (by decide) (by decide))) tn_5 (pn 52 rfl ?_)
      refine s_aload_n (i := 0) (by decide +kernel) rfl (pn 53 rfl ?_)
      refine s_getfield (v := .ref 23) (by decide +kernel) fr_3_40 lq_15 (congrArg Prod.fst sh_15) (fv_ref pf_15_12) (pn 56 rfl ?_)
      refine s_getfield (v := .ref 26) (by decide +kernel) fr_3_98 lq_23 (congrArg Prod.fst sh_23) (fv_ref pf_23_2) (pn 59 rfl ?_)
      refine t_bipush (by decide +kernel) kb_6 (pn 61 rfl ?_)
      refine s_iload (i := 5) (by decide +kernel) rfl (pn 63 rfl ?_)
      refine t_iastore (k := 6) (by decide +kernel) ⟨lq_26, congrArg Prod.fst sh_26⟩ (al_in sh_26 (vp_lit (n := 7) tn_6 (by decide) (by decide))) tn_6 (pn 64 rfl ?_)
      refine t_iconst (by decide +kernel) ki_0 (pn 65 rfl ?_)
      refine t_bipush (by decide +kernel) kb_99 (pn 67 rfl ?_)
      refine s_aload_n (i := 0) (by decide +kernel) rfl (pn 68 rfl ?_)
      refine s_getfield (v := .ref 23) (by decide +kernel) fr_3_40 lq_15 (congrArg Prod.fst sh_15) (fv_ref pf_15_12) (pn 71 rfl ?_)
      refine s_aload_n (i := 0) (by decide +kernel) rfl (pn 72 rfl ?_)
      refine s_getfield (v := .ref 23) (by decide +kernel) fr_3_40 lq_15 (congrArg Prod.fst sh_15) (fv_ref pf_15_12) (pn 75 rfl ?_)
      refine s_getfield (v := .int (M2.1 23 6)) (by decide +kernel) fr_3_95 lq_23 (congrArg Prod.fst sh_23) rfl (pn 78 rfl ?_)
      refine s_aload_n (i := 0) (by decide +kernel) rfl (pn 79 rfl ?_)
      refine s_getfield (v := .ref 23) (by decide +kernel) fr_3_40 lq_15 (congrArg Prod.fst sh_15) (fv_ref pf_15_12) (pn 82 rfl ?_)
      refine s_getfield (v := .int (M2.1 23 7)) (by decide +kernel) fr_3_92 lq_23 (congrArg Prod.fst sh_23) rfl (pn 85 rfl ?_)
      refine s_callvI [.int (M2.1 23 6), .int (M2.1 23 7)] rfl (by decide +kernel) mv_3_89 np_10 (Nat.le_of_ble_eq_true rfl) lq_23 ((congrArg Prod.fst sh_23).trans oc_10) (cI_use h (fun r2 s3 M3 h => (pn 88 rfl ?_)))
      refine s_callsI [.int 99, .int r2] rfl (by decide +kernel) ms_3_69 np_323 (Nat.le_of_ble_eq_true rfl) (cI_use h (fun r3 s4 M4 h => (pn 91 rfl ?_)))
      refine s_callsI [.int 0, .int r3] rfl (by decide +kernel) ms_3_101 np_324 (Nat.le_of_ble_eq_true rfl) (cI_use h (fun r4 s5 M5 h => (pn 94 rfl ?_)))
      exact s_ireturn (st := []) (by decide +kernel) (Or.inl rfl) ⟨_, rfl, s5, rfl, h⟩
    · have h := h.1 c2
      refine s_aload_n (i := 0) (by decide +kernel) rfl (pn 28 rfl ?_)
      refine s_getfield (v := .ref 18) (by decide +kernel) fr_3_22 lq_15 (congrArg Prod.fst sh_15) (fv_ref pf_15_7) (pn 31 rfl ?_)
      refine s_iload_n (i := 3) (by decide +kernel) rfl (pn 32 rfl ?_)
      obtain ⟨b1, h⟩ := h
      refine t_iaload (v := M1.1 18 x3.toNatClampNeg) (by decide +kernel) ⟨Or.inl lq_18, congrArg Prod.fst sh_18⟩ (al_in sh_18 b1) rfl (pn 33 rfl ?_)
      exact s_ireturn (st := []) (by decide +kernel) (Or.inl rfl) ⟨_, rfl, s1, rfl, h⟩
  · have h := h.1 c1
    refine t_iconst (by decide +kernel) ki_0 (pn 9 rfl ?_)
    exact s_ireturn (st := []) (by decide +kernel) (Or.inl rfl) ⟨_, rfl, s1, rfl, h⟩
abbrev wL_hasStation (d pc : Nat) (ls st : List Value) (s : pm_S) (M : pm_M) (Q : Int32 → pm_S → pm_M → Prop) : Prop := wI d prog_5_method_4_code 3 (some .boolean) false pc ls st s M Q
theorem enL_hasStation {d : Nat} {s : pm_S} {M : pm_M} {x1 : Int32} {Q : Int32 → pm_S → pm_M → Prop}  (h : Q ((if x1 < 0 then 0 else (if (M.1 15 0) ≤ x1 then 0 else 1)) : Int32) s M) : cI (d + 1) yL_hasStation [.ref 15, .int x1] s M Q := by
  refine pm_toI (by decide) (Nat.le_of_ble_eq_true rfl) ?_
  show wL_hasStation d 0 [.ref 15, .int x1] [] s M Q
  refine s_iload_n (i := 1) (by decide +kernel) rfl (pn 1 rfl ?_)
  have k1 : ∀ (z1 : Int32) (z1e : z1 = ((if x1 < 0 then 0 else (if (M.1 15 0) ≤ x1 then 0 else 1)) : Int32)), wL_hasStation d 17 [.ref 15, .int x1] [.int z1] s M Q := by
    intro z1 z1e
    subst z1e
    exact s_ireturn (st := []) (by decide +kernel) (Or.inr ⟨rfl, (or01 (Or.inl rfl) (or01 (Or.inl rfl) (Or.inr rfl)))⟩) ⟨_, rfl, s, rfl, h⟩
  refine s_if_lt (off := 15) (tgt := 16) (by decide +kernel) rfl (fun c1 => ?_) (fun c1 => (pn 4 rfl ?_))
  · refine t_iconst (by decide +kernel) ki_0 (pn 17 rfl ?_)
    exact k1 _ (by simp only [if_pos c1])
  · refine s_iload_n (i := 1) (by decide +kernel) rfl (pn 5 rfl ?_)
    refine s_aload_n (i := 0) (by decide +kernel) rfl (pn 6 rfl ?_)
    refine s_getfield (v := .int (M.1 15 0)) (by decide +kernel) fr_3_9 lq_15 (congrArg Prod.fst sh_15) rfl (pn 9 rfl ?_)
    refine s_icmp_ge (off := 7) (tgt := 16) (by decide +kernel) rfl (fun c2 => ?_) (fun c2 => (pn 12 rfl ?_))
    · refine t_iconst (by decide +kernel) ki_0 (pn 17 rfl ?_)
      exact k1 _ (by simp only [if_neg c1, if_pos c2])
    · refine t_iconst (by decide +kernel) ki_1 (pn 13 rfl ?_)
      refine s_goto (off := 4) (tgt := 17) (by decide +kernel) rfl ?_
      exact k1 _ (by simp only [if_neg c1, if_neg c2])
abbrev wL_hasSet (d pc : Nat) (ls st : List Value) (s : pm_S) (M : pm_M) (Q : Int32 → pm_S → pm_M → Prop) : Prop := wI d prog_5_method_7_code 3 (some .boolean) false pc ls st s M Q
theorem enL_hasSet {d : Nat} {s : pm_S} {M : pm_M} {x1 : Int32} {Q : Int32 → pm_S → pm_M → Prop}  (h : Q ((if x1 < 0 then 0 else (if ((1 : Int32) <<< ((M.1 15 1) &&& 31)) ≤ x1 then 0 else (if 256 ≤ x1 then 0 else 1))) : Int32) s M) : cI (d + 1) yL_hasSet [.ref 15, .int x1] s M Q := by
  refine pm_toI (by decide) (Nat.le_of_ble_eq_true rfl) ?_
  show wL_hasSet d 0 [.ref 15, .int x1] [] s M Q
  refine s_iload_n (i := 1) (by decide +kernel) rfl (pn 1 rfl ?_)
  have k1 : ∀ (z1 : Int32) (z1e : z1 = ((if x1 < 0 then 0 else (if ((1 : Int32) <<< ((M.1 15 1) &&& 31)) ≤ x1 then 0 else (if 256 ≤ x1 then 0 else 1))) : Int32)), wL_hasSet d 26 [.ref 15, .int x1] [.int z1] s M Q := by
    intro z1 z1e
    subst z1e
    exact s_ireturn (st := []) (by decide +kernel) (Or.inr ⟨rfl, (or01 (Or.inl rfl) (or01 (Or.inl rfl) (or01 (Or.inl rfl) (Or.inr rfl))))⟩) ⟨_, rfl, s, rfl, h⟩
  refine s_if_lt (off := 24) (tgt := 25) (by decide +kernel) rfl (fun c1 => ?_) (fun c1 => (pn 4 rfl ?_))
  · refine t_iconst (by decide +kernel) ki_0 (pn 26 rfl ?_)
    exact k1 _ (by simp only [if_pos c1])
  · refine s_iload_n (i := 1) (by decide +kernel) rfl (pn 5 rfl ?_)
    refine t_iconst (by decide +kernel) ki_1 (pn 6 rfl ?_)
    refine s_aload_n (i := 0) (by decide +kernel) rfl (pn 7 rfl ?_)
    refine s_getfield (v := .int (M.1 15 1)) (by decide +kernel) fr_3_44 lq_15 (congrArg Prod.fst sh_15) rfl (pn 10 rfl ?_)
    refine s_ishl (by decide +kernel) (pn 11 rfl ?_)
    refine s_icmp_ge (off := 14) (tgt := 25) (by decide +kernel) rfl (fun c2 => ?_) (fun c2 => (pn 14 rfl ?_))
    · refine t_iconst (by decide +kernel) ki_0 (pn 26 rfl ?_)
      exact k1 _ (by simp only [if_neg c1, if_pos c2])
    · refine s_iload_n (i := 1) (by decide +kernel) rfl (pn 15 rfl ?_)
      refine t_sipush (by decide +kernel) ks_256 (pn 18 rfl ?_)
      refine s_icmp_ge (off := 7) (tgt := 25) (by decide +kernel) rfl (fun c3 => ?_) (fun c3 => (pn 21 rfl ?_))
      · refine t_iconst (by decide +kernel) ki_0 (pn 26 rfl ?_)
        exact k1 _ (by simp only [if_neg c1, if_neg c2, if_pos c3])
      · refine t_iconst (by decide +kernel) ki_1 (pn 22 rfl ?_)
        refine s_goto (off := 4) (tgt := 26) (by decide +kernel) rfl ?_
        exact k1 _ (by simp only [if_neg c1, if_neg c2, if_neg c3])
abbrev wK_gather (d pc : Nat) (ls st : List Value) (s : pm_S) (M : pm_M) (Q : pm_S → pm_M → Prop) : Prop := wV d prog_2_method_2_code 0 none false pc ls st s M Q
theorem enK_gather {d : Nat} {s : pm_S} {M : pm_M}  {Q : pm_S → pm_M → Prop}  (h : wK_gather d 2 [.ref 41, .ref 15, .ref 27, .int 0, .null] [] s M Q) : cV (d + 1) yK_gather [.ref 41, .ref 15, .ref 27] s M Q := by
  refine pm_toV (by decide) (Nat.le_of_ble_eq_true rfl) ?_
  show wK_gather d 0 [.ref 41, .ref 15, .ref 27, .null, .null] [] s M Q
  refine t_iconst (by decide +kernel) ki_0 (pn 1 rfl ?_)
  refine s_istore_n (i := 3) (by decide +kernel) (Nat.le_of_ble_eq_true rfl) (pn 2 rfl (t_store (ls' := [.ref 41, .ref 15, .ref 27, .int 0, .null]) rfl ?_))
  exact h
theorem sgK_gather_2 {d : Nat} {s : pm_S} {M : pm_M} {l3 : Int32} {Q : pm_S → pm_M → Prop}  (h : (((6 ≤ l3) → Q s M) ∧ (¬ (6 ≤ l3) → cI d yL_hasPerson [.ref 15, .int l3] s M (fun r1 s1 M1 => (((r1 = 0) → Q s1 M1) ∧ (¬ (r1 = 0) → wK_gather d 19 [.ref 41, .ref 15, .ref 27, .int l3, .int 0] [] s1 M1 Q)))))) : wK_gather d 2 [.ref 41, .ref 15, .ref 27, .int l3, .null] [] s M Q := by
  refine s_iload_n (i := 3) (by decide +kernel) rfl (pn 3 rfl ?_)
  refine t_bipush (by decide +kernel) kb_6 (pn 5 rfl ?_)
  refine s_icmp_ge (off := 67) (tgt := 72) (by decide +kernel) rfl (fun c1 => ?_) (fun c1 => (pn 8 rfl ?_))
  · have h := h.1 c1
    exact s_return (st := []) (by decide +kernel) rfl ⟨rfl, s, rfl, h⟩
  · have h := h.2 c1
    refine s_aload_n (i := 1) (by decide +kernel) rfl (pn 9 rfl ?_)
    refine s_iload_n (i := 3) (by decide +kernel) rfl (pn 10 rfl ?_)
    refine s_callvI [.int l3] rfl (by decide +kernel) mv_0_15 np_31 (Nat.le_of_ble_eq_true rfl) lq_15 ((congrArg Prod.fst sh_15).trans oc_31) (cI_use h (fun r1 s1 M1 h => (pn 13 rfl ?_)))
    refine s_if_eq (off := 59) (tgt := 72) (by decide +kernel) rfl (fun c2 => ?_) (fun c2 => (pn 16 rfl ?_))
    · have h := h.1 c2
      exact s_return (st := []) (by decide +kernel) rfl ⟨rfl, s1, rfl, h⟩
    · have h := h.2 c2
      refine t_iconst (by decide +kernel) ki_0 (pn 17 rfl ?_)
      refine s_istore (i := 4) (by decide +kernel) (Nat.le_of_ble_eq_true rfl) (pn 19 rfl (t_store (ls' := [.ref 41, .ref 15, .ref 27, .int l3, .int 0]) rfl ?_))
      exact h
theorem sgK_gather_19 {d : Nat} {s : pm_S} {M : pm_M} {l3 : Int32} {l4 : Int32} {Q : pm_S → pm_M → Prop}  (h : (((8 ≤ l4) → wK_gather d 2 [.ref 41, .ref 15, .ref 27, .int (l3 + 1), .null] [] s M Q) ∧ (¬ (8 ≤ l4) → cI d yL_hasThing [.ref 15, .int l4] s M (fun r1 s1 M1 => (((r1 = 0) → wK_gather d 2 [.ref 41, .ref 15, .ref 27, .int (l3 + 1), .null] [] s1 M1 Q) ∧ (¬ (r1 = 0) → vp_in l3 6 ∧ cI d yL_claimBy [.ref 15, .int (M1.1 30 l3.toNatClampNeg), .int l3, .int l4] s1 M1 (fun r2 s2 M2 => vp_in ((l3 * 8) + l4) 48 ∧ wK_gather d 19 [.ref 41, .ref 15, .ref 27, .int l3, .int (l4 + 1)] [] s2 (pm_si M2 42 ((l3 * 8) + l4).toNatClampNeg r2) Q))))))) : wK_gather d 19 [.ref 41, .ref 15, .ref 27, .int l3, .int l4] [] s M Q := by
  refine s_iload (i := 4) (by decide +kernel) rfl (pn 21 rfl ?_)
  refine t_bipush (by decide +kernel) kb_8 (pn 23 rfl ?_)
  refine s_icmp_ge (off := 43) (tgt := 66) (by decide +kernel) rfl (fun c1 => ?_) (fun c1 => (pn 26 rfl ?_))
  · have h := h.1 c1
    refine t_iinc (i := 3) (n := 1) (ls' := [.ref 41, .ref 15, .ref 27, .int (l3 + 1), .int l4]) (by decide +kernel) rfl (Nat.le_of_ble_eq_true rfl) kn_1 rfl (pn 69 rfl ?_)
    refine s_goto (off := -67) (tgt := 2) (by decide +kernel) rfl ?_
    exact pm_weak [.ref 41, .ref 15, .ref 27, .int (l3 + 1), .null] (pm_le_cons (Or.inr rfl) (pm_le_cons (Or.inr rfl) (pm_le_cons (Or.inr rfl) (pm_le_cons (Or.inr rfl) (pm_le_cons (Or.inl rfl) pm_le_nil))))) h
  · have h := h.2 c1
    refine s_aload_n (i := 1) (by decide +kernel) rfl (pn 27 rfl ?_)
    refine s_iload (i := 4) (by decide +kernel) rfl (pn 29 rfl ?_)
    refine s_callvI [.int l4] rfl (by decide +kernel) mv_0_21 np_28 (Nat.le_of_ble_eq_true rfl) lq_15 ((congrArg Prod.fst sh_15).trans oc_28) (cI_use h (fun r1 s1 M1 h => (pn 32 rfl ?_)))
    refine s_if_eq (off := 34) (tgt := 66) (by decide +kernel) rfl (fun c2 => ?_) (fun c2 => (pn 35 rfl ?_))
    · have h := h.1 c2
      refine t_iinc (i := 3) (n := 1) (ls' := [.ref 41, .ref 15, .ref 27, .int (l3 + 1), .int l4]) (by decide +kernel) rfl (Nat.le_of_ble_eq_true rfl) kn_1 rfl (pn 69 rfl ?_)
      refine s_goto (off := -67) (tgt := 2) (by decide +kernel) rfl ?_
      exact pm_weak [.ref 41, .ref 15, .ref 27, .int (l3 + 1), .null] (pm_le_cons (Or.inr rfl) (pm_le_cons (Or.inr rfl) (pm_le_cons (Or.inr rfl) (pm_le_cons (Or.inr rfl) (pm_le_cons (Or.inl rfl) pm_le_nil))))) h
    · have h := h.2 c2
      refine s_aload_n (i := 0) (by decide +kernel) rfl (pn 36 rfl ?_)
      refine s_getfield (v := .ref 42) (by decide +kernel) fr_0_9 lq_41 (congrArg Prod.fst sh_41) (fv_ref pf_41_0) (pn 39 rfl ?_)
      refine s_iload_n (i := 3) (by decide +kernel) rfl (pn 40 rfl ?_)
      refine t_bipush (by decide +kernel) kb_8 (pn 42 rfl ?_)
      refine s_imul (by decide +kernel) (pn 43 rfl ?_)
      refine s_iload (i := 4) (by decide +kernel) rfl (pn 45 rfl ?_)
      refine s_iadd (by decide +kernel) (pn 46 rfl ?_)
      refine s_aload_n (i := 1) (by decide +kernel) rfl (pn 47 rfl ?_)
      refine s_aload_n (i := 2) (by decide +kernel) rfl (pn 48 rfl ?_)
      refine s_getfield (v := .ref 30) (by decide +kernel) fr_0_24 lq_27 (congrArg Prod.fst sh_27) (fv_ref pf_27_2) (pn 51 rfl ?_)
      refine s_iload_n (i := 3) (by decide +kernel) rfl (pn 52 rfl ?_)
      obtain ⟨b1, h⟩ := h
      refine t_iaload (v := M1.1 30 l3.toNatClampNeg) (by decide +kernel) ⟨Or.inl lq_30, congrArg Prod.fst sh_30⟩ (al_in sh_30 b1) rfl (pn 53 rfl ?_)
      refine s_iload_n (i := 3) (by decide +kernel) rfl (pn 54 rfl ?_)
      refine s_iload (i := 4) (by decide +kernel) rfl (pn 56 rfl ?_)
      refine s_callvI [.int (M1.1 30 l3.toNatClampNeg), .int l3, .int l4] rfl (by decide +kernel) mv_0_29 np_32 (Nat.le_of_ble_eq_true rfl) lq_15 ((congrArg Prod.fst sh_15).trans oc_32) (cI_use h (fun r2 s2 M2 h => (pn 59 rfl ?_)))
      obtain ⟨b2, h⟩ := h
      refine t_iastore (k := ((l3 * 8) + l4).toNatClampNeg) (by decide +kernel) ⟨lq_42, congrArg Prod.fst sh_42⟩ (al_in sh_42 b2) rfl (pn 60 rfl ?_)
      refine t_iinc (i := 4) (n := 1) (ls' := [.ref 41, .ref 15, .ref 27, .int l3, .int (l4 + 1)]) (by decide +kernel) rfl (Nat.le_of_ble_eq_true rfl) kn_1 rfl (pn 63 rfl ?_)
      refine s_goto (off := -44) (tgt := 19) (by decide +kernel) rfl ?_
      exact h
abbrev wK_of (d pc : Nat) (ls st : List Value) (s : pm_S) (M : pm_M) (Q : Int32 → pm_S → pm_M → Prop) : Prop := wI d prog_2_method_3_code 0 (some .int) false pc ls st s M Q
theorem enK_of {d : Nat} {s : pm_S} {M : pm_M} {x1 : Int32} {x2 : Int32} {Q : Int32 → pm_S → pm_M → Prop}  (h : (((x1 < 0) → Q 0 s M) ∧ (¬ (x1 < 0) → (((6 ≤ x1) → Q 0 s M) ∧ (¬ (6 ≤ x1) → (((x2 < 0) → Q 0 s M) ∧ (¬ (x2 < 0) → (((x2 < 8) → vp_in ((x1 * 8) + x2) 48 ∧ Q (M.1 42 ((x1 * 8) + x2).toNatClampNeg) s M) ∧ (¬ (x2 < 8) → Q 0 s M))))))))) : cI (d + 1) yK_of [.ref 41, .int x1, .int x2] s M Q := by
  refine pm_toI (by decide) (Nat.le_of_ble_eq_true rfl) ?_
  show wK_of d 0 [.ref 41, .int x1, .int x2] [] s M Q
  refine s_iload_n (i := 1) (by decide +kernel) rfl (pn 1 rfl ?_)
  refine s_if_lt (off := 19) (tgt := 20) (by decide +kernel) rfl (fun c1 => ?_) (fun c1 => (pn 4 rfl ?_))
  · have h := h.1 c1
    refine t_iconst (by decide +kernel) ki_0 (pn 21 rfl ?_)
    exact s_ireturn (st := []) (by decide +kernel) (Or.inl rfl) ⟨_, rfl, s, rfl, h⟩
  · have h := h.2 c1
    refine s_iload_n (i := 1) (by decide +kernel) rfl (pn 5 rfl ?_)
    refine t_bipush (by decide +kernel) kb_6 (pn 7 rfl ?_)
    refine s_icmp_ge (off := 13) (tgt := 20) (by decide +kernel) rfl (fun c2 => ?_) (fun c2 => (pn 10 rfl ?_))
    · have h := h.1 c2
      refine t_iconst (by decide +kernel) ki_0 (pn 21 rfl ?_)
      exact s_ireturn (st := []) (by decide +kernel) (Or.inl rfl) ⟨_, rfl, s, rfl, h⟩
    · have h := h.2 c2
      refine s_iload_n (i := 2) (by decide +kernel) rfl (pn 11 rfl ?_)
      refine s_if_lt (off := 9) (tgt := 20) (by decide +kernel) rfl (fun c3 => ?_) (fun c3 => (pn 14 rfl ?_))
      · have h := h.1 c3
        refine t_iconst (by decide +kernel) ki_0 (pn 21 rfl ?_)
        exact s_ireturn (st := []) (by decide +kernel) (Or.inl rfl) ⟨_, rfl, s, rfl, h⟩
      · have h := h.2 c3
        refine s_iload_n (i := 2) (by decide +kernel) rfl (pn 15 rfl ?_)
        refine t_bipush (by decide +kernel) kb_8 (pn 17 rfl ?_)
        refine s_icmp_lt (off := 5) (tgt := 22) (by decide +kernel) rfl (fun c4 => ?_) (fun c4 => (pn 20 rfl ?_))
        · have h := h.1 c4
          refine s_aload_n (i := 0) (by decide +kernel) rfl (pn 23 rfl ?_)
          refine s_getfield (v := .ref 42) (by decide +kernel) fr_0_9 lq_41 (congrArg Prod.fst sh_41) (fv_ref pf_41_0) (pn 26 rfl ?_)
          refine s_iload_n (i := 1) (by decide +kernel) rfl (pn 27 rfl ?_)
          refine t_bipush (by decide +kernel) kb_8 (pn 29 rfl ?_)
          refine s_imul (by decide +kernel) (pn 30 rfl ?_)
          refine s_iload_n (i := 2) (by decide +kernel) rfl (pn 31 rfl ?_)
          refine s_iadd (by decide +kernel) (pn 32 rfl ?_)
          obtain ⟨b1, h⟩ := h
          refine t_iaload (v := M.1 42 ((x1 * 8) + x2).toNatClampNeg) (by decide +kernel) ⟨Or.inl lq_42, congrArg Prod.fst sh_42⟩ (al_in sh_42 b1) rfl (pn 33 rfl ?_)
          exact s_ireturn (st := []) (by decide +kernel) (Or.inl rfl) ⟨_, rfl, s, rfl, h⟩
        · have h := h.2 c4
          refine t_iconst (by decide +kernel) ki_0 (pn 21 rfl ?_)
          exact s_ireturn (st := []) (by decide +kernel) (Or.inl rfl) ⟨_, rfl, s, rfl, h⟩
abbrev wK_someBy (d pc : Nat) (ls st : List Value) (s : pm_S) (M : pm_M) (Q : Int32 → pm_S → pm_M → Prop) : Prop := wI d prog_2_method_4_code 0 (some .boolean) false pc ls st s M Q
theorem enK_someBy {d : Nat} {s : pm_S} {M : pm_M} {x1 : Int32} {x2 : Int32} {Q : Int32 → pm_S → pm_M → Prop}  (h : wK_someBy d 2 [.ref 41, .int x1, .int x2, .int 0] [] s M Q) : cI (d + 1) yK_someBy [.ref 41, .int x1, .int x2] s M Q := by
  refine pm_toI (by decide) (Nat.le_of_ble_eq_true rfl) ?_
  show wK_someBy d 0 [.ref 41, .int x1, .int x2, .null] [] s M Q
  refine t_iconst (by decide +kernel) ki_0 (pn 1 rfl ?_)
  refine s_istore_n (i := 3) (by decide +kernel) (Nat.le_of_ble_eq_true rfl) (pn 2 rfl (t_store (ls' := [.ref 41, .int x1, .int x2, .int 0]) rfl ?_))
  exact h
theorem sgK_someBy_2 {d : Nat} {s : pm_S} {M : pm_M} {l1 : Int32} {l2 : Int32} {l3 : Int32} {Q : Int32 → pm_S → pm_M → Prop}  (h : (((l2 ≤ l3) → Q 0 s M) ∧ (¬ (l2 ≤ l3) → cI d yK_of [.ref 41, .int l1, .int l3] s M (fun r1 s1 M1 => (((r1 ≤ 0) → wK_someBy d 2 [.ref 41, .int l1, .int l2, .int (l3 + 1)] [] s1 M1 Q) ∧ (¬ (r1 ≤ 0) → Q 1 s1 M1)))))) : wK_someBy d 2 [.ref 41, .int l1, .int l2, .int l3] [] s M Q := by
  refine s_iload_n (i := 3) (by decide +kernel) rfl (pn 3 rfl ?_)
  refine s_iload_n (i := 2) (by decide +kernel) rfl (pn 4 rfl ?_)
  refine s_icmp_ge (off := 20) (tgt := 24) (by decide +kernel) rfl (fun c1 => ?_) (fun c1 => (pn 7 rfl ?_))
  · have h := h.1 c1
    refine t_iconst (by decide +kernel) ki_0 (pn 25 rfl ?_)
    exact s_ireturn (st := []) (by decide +kernel) (Or.inr ⟨rfl, (Or.inl rfl)⟩) ⟨_, rfl, s, rfl, h⟩
  · have h := h.2 c1
    refine s_aload_n (i := 0) (by decide +kernel) rfl (pn 8 rfl ?_)
    refine s_iload_n (i := 1) (by decide +kernel) rfl (pn 9 rfl ?_)
    refine s_iload_n (i := 3) (by decide +kernel) rfl (pn 10 rfl ?_)
    refine s_callvI [.int l1, .int l3] rfl (by decide +kernel) mv_0_33 np_2 (Nat.le_of_ble_eq_true rfl) lq_41 ((congrArg Prod.fst sh_41).trans oc_2) (cI_use h (fun r1 s1 M1 h => (pn 13 rfl ?_)))
    refine s_if_le (off := 5) (tgt := 18) (by decide +kernel) rfl (fun c2 => ?_) (fun c2 => (pn 16 rfl ?_))
    · have h := h.1 c2
      refine t_iinc (i := 3) (n := 1) (ls' := [.ref 41, .int l1, .int l2, .int (l3 + 1)]) (by decide +kernel) rfl (Nat.le_of_ble_eq_true rfl) kn_1 rfl (pn 21 rfl ?_)
      refine s_goto (off := -19) (tgt := 2) (by decide +kernel) rfl ?_
      exact h
    · have h := h.2 c2
      refine t_iconst (by decide +kernel) ki_1 (pn 17 rfl ?_)
      exact s_ireturn (st := []) (by decide +kernel) (Or.inr ⟨rfl, (Or.inr rfl)⟩) ⟨_, rfl, s1, rfl, h⟩
abbrev wK_mostOf (d pc : Nat) (ls st : List Value) (s : pm_S) (M : pm_M) (Q : Int32 → pm_S → pm_M → Prop) : Prop := wI d prog_2_method_5_code 0 (some .int) false pc ls st s M Q
theorem enK_mostOf {d : Nat} {s : pm_S} {M : pm_M} {x1 : Int32} {x2 : Int32} {x3 : Int32} {Q : Int32 → pm_S → pm_M → Prop}  (h : wK_mostOf d 9 [.ref 41, .int x1, .int x2, .int x3, .int (-1), .int 0, .int 0] [] s M Q) : cI (d + 1) yK_mostOf [.ref 41, .int x1, .int x2, .int x3] s M Q := by
  refine pm_toI (by decide) (Nat.le_of_ble_eq_true rfl) ?_
  show wK_mostOf d 0 [.ref 41, .int x1, .int x2, .int x3, .null, .null, .null] [] s M Q
  refine t_iconst (by decide +kernel) ki_m1 (pn 1 rfl ?_)
  refine s_istore (i := 4) (by decide +kernel) (Nat.le_of_ble_eq_true rfl) (pn 3 rfl (t_store (ls' := [.ref 41, .int x1, .int x2, .int x3, .int (-1), .null, .null]) rfl ?_))
  refine t_iconst (by decide +kernel) ki_0 (pn 4 rfl ?_)
  refine s_istore (i := 5) (by decide +kernel) (Nat.le_of_ble_eq_true rfl) (pn 6 rfl (t_store (ls' := [.ref 41, .int x1, .int x2, .int x3, .int (-1), .int 0, .null]) rfl ?_))
  refine t_iconst (by decide +kernel) ki_0 (pn 7 rfl ?_)
  refine s_istore (i := 6) (by decide +kernel) (Nat.le_of_ble_eq_true rfl) (pn 9 rfl (t_store (ls' := [.ref 41, .int x1, .int x2, .int x3, .int (-1), .int 0, .int 0]) rfl ?_))
  exact h
theorem sgK_mostOf_9 {d : Nat} {s : pm_S} {M : pm_M} {l1 : Int32} {l2 : Int32} {l3 : Int32} {l4 : Int32} {l5 : Int32} {l6 : Int32} {Q : Int32 → pm_S → pm_M → Prop}  (h : (((l2 ≤ l6) → Q l4 s M) ∧ (¬ (l2 ≤ l6) → (((l6 = l3) → wK_mostOf d 9 [.ref 41, .int l1, .int l2, .int l3, .int l4, .int l5, .int (l6 + 1)] [] s M Q) ∧ (¬ (l6 = l3) → cI d yK_of [.ref 41, .int l6, .int l1] s M (fun r1 s1 M1 => (((r1 ≤ l5) → wK_mostOf d 9 [.ref 41, .int l1, .int l2, .int l3, .int l4, .int l5, .int (l6 + 1)] [] s1 M1 Q) ∧ (¬ (r1 ≤ l5) → cI d yK_of [.ref 41, .int l6, .int l1] s1 M1 (fun r2 s2 M2 => wK_mostOf d 9 [.ref 41, .int l1, .int l2, .int l3, .int l6, .int r2, .int (l6 + 1)] [] s2 M2 Q))))))))) : wK_mostOf d 9 [.ref 41, .int l1, .int l2, .int l3, .int l4, .int l5, .int l6] [] s M Q := by
  refine s_iload (i := 6) (by decide +kernel) rfl (pn 11 rfl ?_)
  refine s_iload_n (i := 2) (by decide +kernel) rfl (pn 12 rfl ?_)
  refine s_icmp_ge (off := 40) (tgt := 52) (by decide +kernel) rfl (fun c1 => ?_) (fun c1 => (pn 15 rfl ?_))
  · have h := h.1 c1
    refine s_iload (i := 4) (by decide +kernel) rfl (pn 54 rfl ?_)
    exact s_ireturn (st := []) (by decide +kernel) (Or.inl rfl) ⟨_, rfl, s, rfl, h⟩
  · have h := h.2 c1
    refine s_iload (i := 6) (by decide +kernel) rfl (pn 17 rfl ?_)
    refine s_iload_n (i := 3) (by decide +kernel) rfl (pn 18 rfl ?_)
    refine s_icmp_eq (off := 28) (tgt := 46) (by decide +kernel) rfl (fun c2 => ?_) (fun c2 => (pn 21 rfl ?_))
    · have h := h.1 c2
      refine t_iinc (i := 6) (n := 1) (ls' := [.ref 41, .int l1, .int l2, .int l3, .int l4, .int l5, .int (l6 + 1)]) (by decide +kernel) rfl (Nat.le_of_ble_eq_true rfl) kn_1 rfl (pn 49 rfl ?_)
      refine s_goto (off := -40) (tgt := 9) (by decide +kernel) rfl ?_
      exact h
    · have h := h.2 c2
      refine s_aload_n (i := 0) (by decide +kernel) rfl (pn 22 rfl ?_)
      refine s_iload (i := 6) (by decide +kernel) rfl (pn 24 rfl ?_)
      refine s_iload_n (i := 1) (by decide +kernel) rfl (pn 25 rfl ?_)
      refine s_callvI [.int l6, .int l1] rfl (by decide +kernel) mv_0_33 np_2 (Nat.le_of_ble_eq_true rfl) lq_41 ((congrArg Prod.fst sh_41).trans oc_2) (cI_use h (fun r1 s1 M1 h => (pn 28 rfl ?_)))
      refine s_iload (i := 5) (by decide +kernel) rfl (pn 30 rfl ?_)
      refine s_icmp_le (off := 16) (tgt := 46) (by decide +kernel) rfl (fun c3 => ?_) (fun c3 => (pn 33 rfl ?_))
      · have h := h.1 c3
        refine t_iinc (i := 6) (n := 1) (ls' := [.ref 41, .int l1, .int l2, .int l3, .int l4, .int l5, .int (l6 + 1)]) (by decide +kernel) rfl (Nat.le_of_ble_eq_true rfl) kn_1 rfl (pn 49 rfl ?_)
        refine s_goto (off := -40) (tgt := 9) (by decide +kernel) rfl ?_
        exact h
      · have h := h.2 c3
        refine s_aload_n (i := 0) (by decide +kernel) rfl (pn 34 rfl ?_)
        refine s_iload (i := 6) (by decide +kernel) rfl (pn 36 rfl ?_)
        refine s_iload_n (i := 1) (by decide +kernel) rfl (pn 37 rfl ?_)
        refine s_callvI [.int l6, .int l1] rfl (by decide +kernel) mv_0_33 np_2 (Nat.le_of_ble_eq_true rfl) lq_41 ((congrArg Prod.fst sh_41).trans oc_2) (cI_use h (fun r2 s2 M2 h => (pn 40 rfl ?_)))
        refine s_istore (i := 5) (by decide +kernel) (Nat.le_of_ble_eq_true rfl) (pn 42 rfl (t_store (ls' := [.ref 41, .int l1, .int l2, .int l3, .int l4, .int r2, .int l6]) rfl ?_))
        refine s_iload (i := 6) (by decide +kernel) rfl (pn 44 rfl ?_)
        refine s_istore (i := 4) (by decide +kernel) (Nat.le_of_ble_eq_true rfl) (pn 46 rfl (t_store (ls' := [.ref 41, .int l1, .int l2, .int l3, .int l6, .int r2, .int l6]) rfl ?_))
        refine t_iinc (i := 6) (n := 1) (ls' := [.ref 41, .int l1, .int l2, .int l3, .int l6, .int r2, .int (l6 + 1)]) (by decide +kernel) rfl (Nat.le_of_ble_eq_true rfl) kn_1 rfl (pn 49 rfl ?_)
        refine s_goto (off := -40) (tgt := 9) (by decide +kernel) rfl ?_
        exact h
