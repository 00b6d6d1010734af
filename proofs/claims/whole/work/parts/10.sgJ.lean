abbrev wint_bitCount (d pc : Nat) (ls st : List Value) (s : pm_S) (M : pm_M) (Q : Int32 → pm_S → pm_M → Prop) : Prop := wI d prog_15_method_49_code 14 (some .int) false pc ls st s M Q
theorem enint_bitCount {d : Nat} {s : pm_S} {M : pm_M} {x1 : Int32} {Q : Int32 → pm_S → pm_M → Prop}  (h : (∀ v1 : Int32, v1 = x1 - (((x1.toUInt32 >>> ((1 : Int32).toUInt32 &&& Int32.toUInt32 31)).toInt32) &&& 1431655765) → (∀ v2 : Int32, v2 = (v1 &&& 858993459) + (((v1.toUInt32 >>> ((2 : Int32).toUInt32 &&& Int32.toUInt32 31)).toInt32) &&& 858993459) → (∀ v3 : Int32, v3 = (v2 + ((v2.toUInt32 >>> ((4 : Int32).toUInt32 &&& Int32.toUInt32 31)).toInt32)) &&& 252645135 → (∀ v4 : Int32, v4 = v3 + ((v3.toUInt32 >>> ((8 : Int32).toUInt32 &&& Int32.toUInt32 31)).toInt32) → (∀ v5 : Int32, v5 = v4 + ((v4.toUInt32 >>> ((16 : Int32).toUInt32 &&& Int32.toUInt32 31)).toInt32) → Q (v5 &&& 63) s M)))))) : cI (d + 1) yint_bitCount [.int x1] s M Q := by
  refine pm_toI (by decide) (Nat.le_of_ble_eq_true rfl) ?_
  show wint_bitCount d 0 [.int x1] [] s M Q
  refine s_iload_n (i := 0) (by decide +kernel) rfl (pn 1 rfl ?_)
  refine s_iload_n (i := 0) (by decide +kernel) rfl (pn 2 rfl ?_)
  refine t_iconst (by decide +kernel) ki_1 (pn 3 rfl ?_)
  refine s_iushr (by decide +kernel) (pn 4 rfl ?_)
  refine s_ldc_w (by decide +kernel) kc_14_265 (pn 7 rfl ?_)
  refine s_iand (by decide +kernel) (pn 8 rfl ?_)
  refine s_isub (by decide +kernel) (pn 9 rfl ?_)
  obtain ⟨v1, ev1⟩ : ∃ zz : Int32, zz = x1 - (((x1.toUInt32 >>> ((1 : Int32).toUInt32 &&& Int32.toUInt32 31)).toInt32) &&& 1431655765) := ⟨_, rfl⟩
  have h := h v1 ev1
  rw [← ev1]
  refine s_istore_n (i := 0) (by decide +kernel) (Nat.le_of_ble_eq_true rfl) (pn 10 rfl (t_store (ls' := [.int v1]) rfl ?_))
  refine s_iload_n (i := 0) (by decide +kernel) rfl (pn 11 rfl ?_)
  refine s_ldc_w (by decide +kernel) kc_14_266 (pn 14 rfl ?_)
  refine s_iand (by decide +kernel) (pn 15 rfl ?_)
  refine s_iload_n (i := 0) (by decide +kernel) rfl (pn 16 rfl ?_)
  refine t_iconst (by decide +kernel) ki_2 (pn 17 rfl ?_)
  refine s_iushr (by decide +kernel) (pn 18 rfl ?_)
  refine s_ldc_w (by decide +kernel) kc_14_266 (pn 21 rfl ?_)
  refine s_iand (by decide +kernel) (pn 22 rfl ?_)
  refine s_iadd (by decide +kernel) (pn 23 rfl ?_)
  obtain ⟨v2, ev2⟩ : ∃ zz : Int32, zz = (v1 &&& 858993459) + (((v1.toUInt32 >>> ((2 : Int32).toUInt32 &&& Int32.toUInt32 31)).toInt32) &&& 858993459) := ⟨_, rfl⟩
  have h := h v2 ev2
  rw [← ev2]
  refine s_istore_n (i := 0) (by decide +kernel) (Nat.le_of_ble_eq_true rfl) (pn 24 rfl (t_store (ls' := [.int v2]) rfl ?_))
  refine s_iload_n (i := 0) (by decide +kernel) rfl (pn 25 rfl ?_)
  refine s_iload_n (i := 0) (by decide +kernel) rfl (pn 26 rfl ?_)
  refine t_iconst (by decide +kernel) ki_4 (pn 27 rfl ?_)
  refine s_iushr (by decide +kernel) (pn 28 rfl ?_)
  refine s_iadd (by decide +kernel) (pn 29 rfl ?_)
  refine s_ldc_w (by decide +kernel) kc_14_267 (pn 32 rfl ?_)
  refine s_iand (by decide +kernel) (pn 33 rfl ?_)
  obtain ⟨v3, ev3⟩ : ∃ zz : Int32, zz = (v2 + ((v2.toUInt32 >>> ((4 : Int32).toUInt32 &&& Int32.toUInt32 31)).toInt32)) &&& 252645135 := ⟨_, rfl⟩
  have h := h v3 ev3
  rw [← ev3]
  refine s_istore_n (i := 0) (by decide +kernel) (Nat.le_of_ble_eq_true rfl) (pn 34 rfl (t_store (ls' := [.int v3]) rfl ?_))
  refine s_iload_n (i := 0) (by decide +kernel) rfl (pn 35 rfl ?_)
  refine s_iload_n (i := 0) (by decide +kernel) rfl (pn 36 rfl ?_)
  refine t_bipush (by decide +kernel) kb_8 (pn 38 rfl ?_)
  refine s_iushr (by decide +kernel) (pn 39 rfl ?_)
  refine s_iadd (by decide +kernel) (pn 40 rfl ?_)
  obtain ⟨v4, ev4⟩ : ∃ zz : Int32, zz = v3 + ((v3.toUInt32 >>> ((8 : Int32).toUInt32 &&& Int32.toUInt32 31)).toInt32) := ⟨_, rfl⟩
  have h := h v4 ev4
  rw [← ev4]
  refine s_istore_n (i := 0) (by decide +kernel) (Nat.le_of_ble_eq_true rfl) (pn 41 rfl (t_store (ls' := [.int v4]) rfl ?_))
  refine s_iload_n (i := 0) (by decide +kernel) rfl (pn 42 rfl ?_)
  refine s_iload_n (i := 0) (by decide +kernel) rfl (pn 43 rfl ?_)
  refine t_bipush (by decide +kernel) kb_16 (pn 45 rfl ?_)
  refine s_iushr (by decide +kernel) (pn 46 rfl ?_)
  refine s_iadd (by decide +kernel) (pn 47 rfl ?_)
  obtain ⟨v5, ev5⟩ : ∃ zz : Int32, zz = v4 + ((v4.toUInt32 >>> ((16 : Int32).toUInt32 &&& Int32.toUInt32 31)).toInt32) := ⟨_, rfl⟩
  have h := h v5 ev5
  rw [← ev5]
  refine s_istore_n (i := 0) (by decide +kernel) (Nat.le_of_ble_eq_true rfl) (pn 48 rfl (t_store (ls' := [.int v5]) rfl ?_))
  refine s_iload_n (i := 0) (by decide +kernel) rfl (pn 49 rfl ?_)
  refine t_bipush (by decide +kernel) kb_63 (pn 51 rfl ?_)
  refine s_iand (by decide +kernel) (pn 52 rfl ?_)
  exact s_ireturn (st := []) (by decide +kernel) (Or.inl rfl) ⟨_, rfl, s, rfl, h⟩
abbrev wmath_min (d pc : Nat) (ls st : List Value) (s : pm_S) (M : pm_M) (Q : Int32 → pm_S → pm_M → Prop) : Prop := wI d prog_16_method_69_code 15 (some .int) false pc ls st s M Q
theorem enmath_min {d : Nat} {s : pm_S} {M : pm_M} {x1 : Int32} {x2 : Int32} {Q : Int32 → pm_S → pm_M → Prop}  (h : Q ((if x2 < x1 then x2 else x1) : Int32) s M) : cI (d + 1) ymath_min [.int x1, .int x2] s M Q := by
  refine pm_toI (by decide) (Nat.le_of_ble_eq_true rfl) ?_
  show wmath_min d 0 [.int x1, .int x2] [] s M Q
  refine s_iload_n (i := 0) (by decide +kernel) rfl (pn 1 rfl ?_)
  refine s_iload_n (i := 1) (by decide +kernel) rfl (pn 2 rfl ?_)
  have k1 : ∀ (z1 : Int32) (z1e : z1 = ((if x2 < x1 then x2 else x1) : Int32)), wmath_min d 10 [.int x1, .int x2] [.int z1] s M Q := by
    intro z1 z1e
    subst z1e
    exact s_ireturn (st := []) (by decide +kernel) (Or.inl rfl) ⟨_, rfl, s, rfl, h⟩
  refine s_icmp_gt (off := 7) (tgt := 9) (by decide +kernel) rfl (fun c1 => ?_) (fun c1 => (pn 5 rfl ?_))
  · refine s_iload_n (i := 1) (by decide +kernel) rfl (pn 10 rfl ?_)
    exact k1 _ (by simp only [if_pos c1])
  · refine s_iload_n (i := 0) (by decide +kernel) rfl (pn 6 rfl ?_)
    refine s_goto (off := 4) (tgt := 10) (by decide +kernel) rfl ?_
    exact k1 _ (by simp only [if_neg c1])
abbrev wmath_max (d pc : Nat) (ls st : List Value) (s : pm_S) (M : pm_M) (Q : Int32 → pm_S → pm_M → Prop) : Prop := wI d prog_16_method_65_code 15 (some .int) false pc ls st s M Q
theorem enmath_max {d : Nat} {s : pm_S} {M : pm_M} {x1 : Int32} {x2 : Int32} {Q : Int32 → pm_S → pm_M → Prop}  (h : Q ((if x1 < x2 then x2 else x1) : Int32) s M) : cI (d + 1) ymath_max [.int x1, .int x2] s M Q := by
  refine pm_toI (by decide) (Nat.le_of_ble_eq_true rfl) ?_
  show wmath_max d 0 [.int x1, .int x2] [] s M Q
  refine s_iload_n (i := 0) (by decide +kernel) rfl (pn 1 rfl ?_)
  refine s_iload_n (i := 1) (by decide +kernel) rfl (pn 2 rfl ?_)
  have k1 : ∀ (z1 : Int32) (z1e : z1 = ((if x1 < x2 then x2 else x1) : Int32)), wmath_max d 10 [.int x1, .int x2] [.int z1] s M Q := by
    intro z1 z1e
    subst z1e
    exact s_ireturn (st := []) (by decide +kernel) (Or.inl rfl) ⟨_, rfl, s, rfl, h⟩
  refine s_icmp_lt (off := 7) (tgt := 9) (by decide +kernel) rfl (fun c1 => ?_) (fun c1 => (pn 5 rfl ?_))
  · refine s_iload_n (i := 1) (by decide +kernel) rfl (pn 10 rfl ?_)
    exact k1 _ (by simp only [if_pos c1])
  · refine s_iload_n (i := 0) (by decide +kernel) rfl (pn 6 rfl ?_)
    refine s_goto (off := 4) (tgt := 10) (by decide +kernel) rfl ?_
    exact k1 _ (by simp only [if_neg c1])
abbrev wmath_floorMod (d pc : Nat) (ls st : List Value) (s : pm_S) (M : pm_M) (Q : Int32 → pm_S → pm_M → Prop) : Prop := wI d prog_16_method_50_code 15 (some .int) false pc ls st s M Q
theorem enmath_floorMod {d : Nat} {s : pm_S} {M : pm_M} {x1 : Int32} {x2 : Int32} {Q : Int32 → pm_S → pm_M → Prop}  (h : (¬ x2 = 0) ∧ (((0 ≤ (x1 ^^^ x2)) → Q (x1 - x1 / x2 * x2) s M) ∧ (¬ (0 ≤ (x1 ^^^ x2)) → ((((x1 - x1 / x2 * x2) = 0) → Q (x1 - x1 / x2 * x2) s M) ∧ (¬ ((x1 - x1 / x2 * x2) = 0) → Q ((x1 - x1 / x2 * x2) + x2) s M))))) : cI (d + 1) ymath_floorMod [.int x1, .int x2] s M Q := by
  refine pm_toI (by decide) (Nat.le_of_ble_eq_true rfl) ?_
  show wmath_floorMod d 0 [.int x1, .int x2, .null] [] s M Q
  refine s_iload_n (i := 0) (by decide +kernel) rfl (pn 1 rfl ?_)
  refine s_iload_n (i := 1) (by decide +kernel) rfl (pn 2 rfl ?_)
  obtain ⟨b1, h⟩ := h
  refine s_irem (by decide +kernel) b1 (pn 3 rfl ?_)
  refine s_istore_n (i := 2) (by decide +kernel) (Nat.le_of_ble_eq_true rfl) (pn 4 rfl (t_store (ls' := [.int x1, .int x2, .int (x1 - x1 / x2 * x2)]) rfl ?_))
  refine s_iload_n (i := 0) (by decide +kernel) rfl (pn 5 rfl ?_)
  refine s_iload_n (i := 1) (by decide +kernel) rfl (pn 6 rfl ?_)
  refine s_ixor (by decide +kernel) (pn 7 rfl ?_)
  refine s_if_ge (off := 11) (tgt := 18) (by decide +kernel) rfl (fun c1 => ?_) (fun c1 => (pn 10 rfl ?_))
  · have h := h.1 c1
    refine s_iload_n (i := 2) (by decide +kernel) rfl (pn 19 rfl ?_)
    exact s_ireturn (st := []) (by decide +kernel) (Or.inl rfl) ⟨_, rfl, s, rfl, h⟩
  · have h := h.2 c1
    refine s_iload_n (i := 2) (by decide +kernel) rfl (pn 11 rfl ?_)
    refine s_if_eq (off := 7) (tgt := 18) (by decide +kernel) rfl (fun c2 => ?_) (fun c2 => (pn 14 rfl ?_))
    · have h := h.1 c2
      refine s_iload_n (i := 2) (by decide +kernel) rfl (pn 19 rfl ?_)
      exact s_ireturn (st := []) (by decide +kernel) (Or.inl rfl) ⟨_, rfl, s, rfl, h⟩
    · have h := h.2 c2
      refine s_iload_n (i := 2) (by decide +kernel) rfl (pn 15 rfl ?_)
      refine s_iload_n (i := 1) (by decide +kernel) rfl (pn 16 rfl ?_)
      refine s_iadd (by decide +kernel) (pn 17 rfl ?_)
      exact s_ireturn (st := []) (by decide +kernel) (Or.inl rfl) ⟨_, rfl, s, rfl, h⟩
abbrev warr_fill_II (d pc : Nat) (ls st : List Value) (s : pm_S) (M : pm_M) (Q : pm_S → pm_M → Prop) : Prop := wV d prog_21_method_103_code 16 none false pc ls st s M Q
theorem enarr_fill_II {d : Nat} {s : pm_S} {M : pm_M} {a1 : Nat} {a1n : Nat} {x2 : Int32} {Q : pm_S → pm_M → Prop} (ha1 : a1 < 185 ∧ (EE s).2.2.1 a1 = (0, a1n)) (h : warr_fill_II d 5 [.ref a1, .int x2, .int 0, .int (Int32.ofNat a1n)] [] s M Q) : cV (d + 1) yarr_fill_II [.ref a1, .int x2] s M Q := by
  refine pm_toV (by decide) (Nat.le_of_ble_eq_true rfl) ?_
  show warr_fill_II d 0 [.ref a1, .int x2, .null, .null] [] s M Q
  refine t_iconst (by decide +kernel) ki_0 (pn 1 rfl ?_)
  refine s_istore_n (i := 2) (by decide +kernel) (Nat.le_of_ble_eq_true rfl) (pn 2 rfl (t_store (ls' := [.ref a1, .int x2, .int 0, .null]) rfl ?_))
  refine s_aload_n (i := 0) (by decide +kernel) rfl (pn 3 rfl ?_)
  refine t_arraylength (v := Int32.ofNat a1n) (by decide +kernel) (al_ok (show a1 < (EE s).1 from ha1.1) ha1.2 (by decide)) (al_len ha1.2 rfl) (pn 4 rfl ?_)
  refine s_istore_n (i := 3) (by decide +kernel) (Nat.le_of_ble_eq_true rfl) (pn 5 rfl (t_store (ls' := [.ref a1, .int x2, .int 0, .int (Int32.ofNat a1n)]) rfl ?_))
  exact h
theorem sgarr_fill_II_5 {d : Nat} {s : pm_S} {M : pm_M} {l1 : Int32} {l2 : Int32} {l3 : Int32} {a1 : Nat} {a1n : Nat} {Q : pm_S → pm_M → Prop} (ha1 : a1 < 185 ∧ (EE s).2.2.1 a1 = (0, a1n)) (h : (((l3 ≤ l2) → Q s M) ∧ (¬ (l3 ≤ l2) → vp_in l2 a1n ∧ warr_fill_II d 5 [.ref a1, .int l1, .int (l2 + 1), .int l3] [] s (pm_si M a1 l2.toNatClampNeg l1) Q))) : warr_fill_II d 5 [.ref a1, .int l1, .int l2, .int l3] [] s M Q := by
  refine s_iload_n (i := 2) (by decide +kernel) rfl (pn 6 rfl ?_)
  refine s_iload_n (i := 3) (by decide +kernel) rfl (pn 7 rfl ?_)
  refine s_icmp_ge (off := 13) (tgt := 20) (by decide +kernel) rfl (fun c1 => ?_) (fun c1 => (pn 10 rfl ?_))
  · have h := h.1 c1
    exact s_return (st := []) (by decide +kernel) rfl ⟨rfl, s, rfl, h⟩
  · have h := h.2 c1
    refine s_aload_n (i := 0) (by decide +kernel) rfl (pn 11 rfl ?_)
    refine s_iload_n (i := 2) (by decide +kernel) rfl (pn 12 rfl ?_)
    refine s_iload_n (i := 1) (by decide +kernel) rfl (pn 13 rfl ?_)
    obtain ⟨b1, h⟩ := h
    refine t_iastore (k := l2.toNatClampNeg) (by decide +kernel) ⟨(show a1 < (EE s).1 from ha1.1), congrArg Prod.fst ha1.2⟩ (al_in ha1.2 b1) rfl (pn 14 rfl ?_)
    refine t_iinc (i := 2) (n := 1) (ls' := [.ref a1, .int l1, .int (l2 + 1), .int l3]) (by decide +kernel) rfl (Nat.le_of_ble_eq_true rfl) kn_1 rfl (pn 17 rfl ?_)
    refine s_goto (off := -12) (tgt := 5) (by decide +kernel) rfl ?_
    exact h
abbrev warr_fill_IIII (d pc : Nat) (ls st : List Value) (s : pm_S) (M : pm_M) (Q : pm_S → pm_M → Prop) : Prop := wV d prog_21_method_104_code 16 none false pc ls st s M Q
theorem enarr_fill_IIII {d : Nat} {s : pm_S} {M : pm_M} {a1 : Nat} {a1n : Nat} {x2 : Int32} {x3 : Int32} {x4 : Int32} {Q : pm_S → pm_M → Prop} (ha1 : a1 < 185 ∧ (EE s).2.2.1 a1 = (0, a1n)) (h : cV d yarr_rangeCheck [.int (Int32.ofNat a1n), .int x2, .int x3] s M (fun s1 M1 => warr_fill_IIII d 10 [.ref a1, .null, .int x3, .int x4, .int x2] [] s1 M1 Q)) : cV (d + 1) yarr_fill_IIII [.ref a1, .int x2, .int x3, .int x4] s M Q := by
  refine pm_toV (by decide) (Nat.le_of_ble_eq_true rfl) ?_
  show warr_fill_IIII d 0 [.ref a1, .int x2, .int x3, .int x4, .null] [] s M Q
  refine s_aload_n (i := 0) (by decide +kernel) rfl (pn 1 rfl ?_)
  refine t_arraylength (v := Int32.ofNat a1n) (by decide +kernel) (al_ok (show a1 < (EE s).1 from ha1.1) ha1.2 (by decide)) (al_len ha1.2 rfl) (pn 2 rfl ?_)
  refine s_iload_n (i := 1) (by decide +kernel) rfl (pn 3 rfl ?_)
  refine s_iload_n (i := 2) (by decide +kernel) rfl (pn 4 rfl ?_)
  refine s_callsV [.int (Int32.ofNat a1n), .int x2, .int x3] rfl (by decide +kernel) ms_16_13 np_328 (Nat.le_of_ble_eq_true rfl) (cV_use h (fun s1 M1 h => (pn 7 rfl ?_)))
  refine s_iload_n (i := 1) (by decide +kernel) rfl (pn 8 rfl ?_)
  refine s_istore (i := 4) (by decide +kernel) (Nat.le_of_ble_eq_true rfl) (pn 10 rfl (t_store (ls' := [.ref a1, .int x2, .int x3, .int x4, .int x2]) rfl ?_))
  exact pm_weak [.ref a1, .null, .int x3, .int x4, .int x2] (pm_le_cons (Or.inr rfl) (pm_le_cons (Or.inl rfl) (pm_le_cons (Or.inr rfl) (pm_le_cons (Or.inr rfl) (pm_le_cons (Or.inr rfl) pm_le_nil))))) h
theorem sgarr_fill_IIII_10 {d : Nat} {s : pm_S} {M : pm_M} {l2 : Int32} {l3 : Int32} {l4 : Int32} {a1 : Nat} {a1n : Nat} {Q : pm_S → pm_M → Prop} (ha1 : a1 < 185 ∧ (EE s).2.2.1 a1 = (0, a1n)) (h : (((l2 ≤ l4) → Q s M) ∧ (¬ (l2 ≤ l4) → vp_in l4 a1n ∧ warr_fill_IIII d 10 [.ref a1, .null, .int l2, .int l3, .int (l4 + 1)] [] s (pm_si M a1 l4.toNatClampNeg l3) Q))) : warr_fill_IIII d 10 [.ref a1, .null, .int l2, .int l3, .int l4] [] s M Q := by
  refine s_iload (i := 4) (by decide +kernel) rfl (pn 12 rfl ?_)
  refine s_iload_n (i := 2) (by decide +kernel) rfl (pn 13 rfl ?_)
  refine s_icmp_ge (off := 14) (tgt := 27) (by decide +kernel) rfl (fun c1 => ?_) (fun c1 => (pn 16 rfl ?_))
  · have h := h.1 c1
    exact s_return (st := []) (by decide +kernel) rfl ⟨rfl, s, rfl, h⟩
  · have h := h.2 c1
    refine s_aload_n (i := 0) (by decide +kernel) rfl (pn 17 rfl ?_)
    refine s_iload (i := 4) (by decide +kernel) rfl (pn 19 rfl ?_)
    refine s_iload_n (i := 3) (by decide +kernel) rfl (pn 20 rfl ?_)
    obtain ⟨b1, h⟩ := h
    refine t_iastore (k := l4.toNatClampNeg) (by decide +kernel) ⟨(show a1 < (EE s).1 from ha1.1), congrArg Prod.fst ha1.2⟩ (al_in ha1.2 b1) rfl (pn 21 rfl ?_)
    refine t_iinc (i := 4) (n := 1) (ls' := [.ref a1, .null, .int l2, .int l3, .int (l4 + 1)]) (by decide +kernel) rfl (Nat.le_of_ble_eq_true rfl) kn_1 rfl (pn 24 rfl ?_)
    refine s_goto (off := -14) (tgt := 10) (by decide +kernel) rfl ?_
    exact h
abbrev warr_rangeCheck (d pc : Nat) (ls st : List Value) (s : pm_S) (M : pm_M) (Q : pm_S → pm_M → Prop) : Prop := wV d prog_21_method_30_code 16 none false pc ls st s M Q
theorem enarr_rangeCheck {d : Nat} {s : pm_S} {M : pm_M} {x1 : Int32} {x2 : Int32} {x3 : Int32} {Q : pm_S → pm_M → Prop}  (h : (x2 ≤ x3) ∧ (0 ≤ x2) ∧ (x3 ≤ x1) ∧ Q s M) : cV (d + 1) yarr_rangeCheck [.int x1, .int x2, .int x3] s M Q := by
  refine pm_toV (by decide) (Nat.le_of_ble_eq_true rfl) ?_
  show warr_rangeCheck d 0 [.int x1, .int x2, .int x3] [] s M Q
  refine s_iload_n (i := 1) (by decide +kernel) rfl (pn 1 rfl ?_)
  refine s_iload_n (i := 2) (by decide +kernel) rfl (pn 2 rfl ?_)
  obtain ⟨b1, h⟩ := h
  refine s_icmp_le (off := 44) (tgt := 46) (by decide +kernel) rfl (fun c6 => ?_) (fun c6 => ?_)
  · refine s_iload_n (i := 1) (by decide +kernel) rfl (pn 47 rfl ?_)
    obtain ⟨b2, h⟩ := h
    refine s_if_ge (off := 12) (tgt := 59) (by decide +kernel) rfl (fun c5 => ?_) (fun c5 => ?_)
    · refine s_iload_n (i := 2) (by decide +kernel) rfl (pn 60 rfl ?_)
      refine s_iload_n (i := 0) (by decide +kernel) rfl (pn 61 rfl ?_)
      obtain ⟨b3, h⟩ := h
      refine s_icmp_le (off := 12) (tgt := 73) (by decide +kernel) rfl (fun c4 => ?_) (fun c4 => ?_)
      · exact s_return (st := []) (by decide +kernel) rfl ⟨rfl, s, rfl, h⟩
      · first | exact absurd c4 b3 | exact absurd b3 c4
    · first | exact absurd c5 b2 | exact absurd b2 c5
  · first | exact absurd c6 b1 | exact absurd b1 c6
abbrev warr_fill_JJ (d pc : Nat) (ls st : List Value) (s : pm_S) (M : pm_M) (Q : pm_S → pm_M → Prop) : Prop := wV d prog_21_method_101_code 16 none false pc ls st s M Q
theorem enarr_fill_JJ {d : Nat} {s : pm_S} {M : pm_M} {a1 : Nat} {a1n : Nat} {x2 : Int64} {Q : pm_S → pm_M → Prop} (ha1 : a1 < 185 ∧ (EE s).2.2.1 a1 = (1, a1n)) (h : warr_fill_JJ d 6 [.ref a1, .long x2, .null, .int 0, .int (Int32.ofNat a1n)] [] s M Q) : cV (d + 1) yarr_fill_JJ [.ref a1, .long x2] s M Q := by
  refine pm_toV (by decide) (Nat.le_of_ble_eq_true rfl) ?_
  show warr_fill_JJ d 0 [.ref a1, .long x2, .null, .null, .null] [] s M Q
  refine t_iconst (by decide +kernel) ki_0 (pn 1 rfl ?_)
  refine s_istore_n (i := 3) (by decide +kernel) (Nat.le_of_ble_eq_true rfl) (pn 2 rfl (t_store (ls' := [.ref a1, .long x2, .null, .int 0, .null]) rfl ?_))
  refine s_aload_n (i := 0) (by decide +kernel) rfl (pn 3 rfl ?_)
  refine t_arraylength (v := Int32.ofNat a1n) (by decide +kernel) (al_ok (show a1 < (EE s).1 from ha1.1) ha1.2 (by decide)) (al_len ha1.2 rfl) (pn 4 rfl ?_)
  refine s_istore (i := 4) (by decide +kernel) (Nat.le_of_ble_eq_true rfl) (pn 6 rfl (t_store (ls' := [.ref a1, .long x2, .null, .int 0, .int (Int32.ofNat a1n)]) rfl ?_))
  exact h
theorem sgarr_fill_JJ_6 {d : Nat} {s : pm_S} {M : pm_M} {l1 : Int64} {l3 : Int32} {l4 : Int32} {a1 : Nat} {a1n : Nat} {Q : pm_S → pm_M → Prop} (ha1 : a1 < 185 ∧ (EE s).2.2.1 a1 = (1, a1n)) (h : (((l4 ≤ l3) → Q s M) ∧ (¬ (l4 ≤ l3) → vp_in l3 a1n ∧ warr_fill_JJ d 6 [.ref a1, .long l1, .null, .int (l3 + 1), .int l4] [] s (pm_sj M a1 l3.toNatClampNeg l1) Q))) : warr_fill_JJ d 6 [.ref a1, .long l1, .null, .int l3, .int l4] [] s M Q := by
  refine s_iload_n (i := 3) (by decide +kernel) rfl (pn 7 rfl ?_)
  refine s_iload (i := 4) (by decide +kernel) rfl (pn 9 rfl ?_)
  refine s_icmp_ge (off := 13) (tgt := 22) (by decide +kernel) rfl (fun c1 => ?_) (fun c1 => (pn 12 rfl ?_))
  · have h := h.1 c1
    exact s_return (st := []) (by decide +kernel) rfl ⟨rfl, s, rfl, h⟩
  · have h := h.2 c1
    refine s_aload_n (i := 0) (by decide +kernel) rfl (pn 13 rfl ?_)
    refine s_iload_n (i := 3) (by decide +kernel) rfl (pn 14 rfl ?_)
    refine s_lload_n (i := 1) (by decide +kernel) rfl (pn 15 rfl ?_)
    obtain ⟨b1, h⟩ := h
    refine t_lastore (k := l3.toNatClampNeg) (by decide +kernel) ⟨(show a1 < (EE s).1 from ha1.1), congrArg Prod.fst ha1.2⟩ (al_in ha1.2 b1) rfl (pn 16 rfl ?_)
    refine t_iinc (i := 3) (n := 1) (ls' := [.ref a1, .long l1, .null, .int (l3 + 1), .int l4]) (by decide +kernel) rfl (Nat.le_of_ble_eq_true rfl) kn_1 rfl (pn 19 rfl ?_)
    refine s_goto (off := -13) (tgt := 6) (by decide +kernel) rfl ?_
    exact h
