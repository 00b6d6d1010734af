/-! makers: rows where all is known -/
def gCb (t : mS) (a q len m : Nat) : Bool := decide (t.2.1.length = t.1.length) && (decide (a < t.1.length) && (decide (t.1.getD a (9, 0) = (q, len)) && decide ((t.2.1.getD a []).length = m)))
theorem gC_b {t : mS} {a q len m : Nat} (h : gCb t a q len m = true) : gC t a q len m := by
  unfold gCb at h
  simp only [Bool.and_eq_true, decide_eq_true_eq] at h
  exact ⟨h.1, h.2.1, h.2.2.1, h.2.2.2⟩
def okB (t : mS) (n : Nat) : Bool := decide (t.2.1.length = t.1.length) && decide (t.1.length = n)
theorem ok_b {t : mS} {n : Nat} (h : okB t n = true) : okT t ∧ t.1.length = n := by
  unfold okB at h
  simp only [Bool.and_eq_true, decide_eq_true_eq] at h
  exact h
theorem k_noC {d : Nat} {b : ByteArray} {o : Nat} {rt : Option FieldType} {fi : Bool} {pc : Nat} {ls st : List Value} {L : Nat} {t : mS} {V : mV} {M : pm_M} {cj mj cnt bnd y i1 i2 : Nat} {f : Nat → mS → mS} {w : Nat → mS → mV → mV} {Q : Option Value → pm_E → pm_M → Prop} (n0 : Nat) (h0 : okB t n0 = true)
    (hc : decode b pc = .ok (.new i1, 3)) (hn : pm_cn o i1 = some cj) (hc2 : decode b (pc + 3) = .ok (.dup, 1)) (hc3 : decode b (pc + 3 + 1) = .ok (.invokespecial i2, 3)) (ht : pm_mi o i2 = some y) (hy : pm_np y = 0) (hnf : pm_nf cj = mj) (hm : mkOk L d y cj mj cnt bnd f w) (hl : n0 + 1 < bnd) (hb : bnd ≤ 3000) (hs : pm_cat (.ref n0 :: st) ≤ 8) (hM : okM n0 V M)
    (h : ∀ M', okM (n0 + 1 + cnt) (w n0 (mNew t (10 + cj) 0 mj mj) V) M' → pm_wp (pm_cal d) b o rt fi (pc + 3 + 1 + 3) ls (.ref n0 :: st) (toE L (f n0 (mNew t (10 + cj) 0 mj mj))) M' Q) : pm_wp (pm_cal d) b o rt fi pc ls st (toE L t) M Q := by
  obtain ⟨h1, h2⟩ := ok_b h0
  subst h2
  exact k_no hc hn hc2 hc3 ht hy hnf hm h1 hl hb hs hM (fun M' _ _ hM' l => h M' (by rw [l] at hM'; exact hM'))
theorem k_nwC {cal : pm_C} {b : ByteArray} {o : Nat} {rt : Option FieldType} {fi : Bool} {pc : Nat} {ls st : List Value} {L : Nat} {t : mS} {V : mV} {M : pm_M} {kd n : Nat} {ty : ArrayType} {Q : Option Value → pm_E → pm_M → Prop} (n0 : Nat) (h0 : okB t n0 = true)
    (hc : decode b pc = .ok (.newarray ty, 2)) (hk : pm_at ty = some kd) (hn : n ≤ 100000) (hl : n0 < 3999) (hM : okM n0 V M)
    (h : ∀ M', okM (n0 + 1) V M' → pm_wp cal b o rt fi (pc + 2) ls (.ref n0 :: st) (toE L (mNew t kd n n 0)) M' Q) : pm_wp cal b o rt fi pc ls (.int (nI n) :: st) (toE L t) M Q := by
  obtain ⟨h1, h2⟩ := ok_b h0
  subst h2
  refine s_newarray hc hk (nI_pos (by omega)) (by rw [nI_clamp (by omega)]; exact hn) (by show t.1.length < 4000; omega) ?_
  rw [nI_clamp (by omega), toE_new (r := 0) h1 (by omega)]
  exact h _ (okM_new hM rfl (by omega))
theorem k_awC {cal : pm_C} {b : ByteArray} {o : Nat} {rt : Option FieldType} {fi : Bool} {pc : Nat} {ls st : List Value} {L : Nat} {t : mS} {V : mV} {M : pm_M} {kd n ix : Nat} {Q : Option Value → pm_E → pm_M → Prop} (n0 : Nat) (h0 : okB t n0 = true)
    (hc : decode b pc = .ok (.anewarray ix, 3)) (hk : pm_an o ix = some kd) (hn : n ≤ 100000) (hl : n0 < 3999) (hM : okM n0 V M)
    (h : ∀ M', okM (n0 + 1) V M' → pm_wp cal b o rt fi (pc + 3) ls (.ref n0 :: st) (toE L (mNew t kd n n n)) M' Q) : pm_wp cal b o rt fi pc ls (.int (nI n) :: st) (toE L t) M Q := by
  obtain ⟨h1, h2⟩ := ok_b h0
  subst h2
  refine s_anewarray hc hk (nI_pos (by omega)) (by rw [nI_clamp (by omega)]; exact hn) (by show t.1.length < 4000; omega) ?_
  rw [nI_clamp (by omega), toE_new (r := n) h1 (by omega)]
  exact h _ (okM_new hM rfl (by omega))
theorem k_paC {cal : pm_C} {b : ByteArray} {o : Nat} {rt : Option FieldType} {fi : Bool} {pc : Nat} {ls st : List Value} {L : Nat} {t : mS} {M : pm_M} {a x ci m kf : Nat} {ix : Nat} {fin : Bool} {Q : Option Value → pm_E → pm_M → Prop}
    (hc : decode b pc = .ok (.putfield ix, 3)) (hf : pm_fr o ix = some (ci, kf, 2, fin)) (h3 : fin = true → fi = true ∧ o = ci) (g : gCb t a (10 + ci) 0 m = true) (hkf : kf < m) (hl : t.1.length < 3999)
    (h : pm_wp cal b o rt fi (pc + 3) ls st (toE L (mSet t a kf x)) M Q) : pm_wp cal b o rt fi pc ls (.ref x :: .ref a :: st) (toE L t) M Q := by
  have g := gC_b g
  obtain ⟨e1, e2⟩ := gC_E (L := L) g (by omega)
  refine s_putfieldA hc hf e1 (by rw [e2]) h3 rfl ?_
  rw [toE_set (by rw [g.1]; exact g.2.1) (by rw [g.2.2.2]; exact hkf)]
  exact h
theorem k_piC {cal : pm_C} {b : ByteArray} {o : Nat} {rt : Option FieldType} {fi : Bool} {pc : Nat} {ls : List Value} {L : Nat} {t : mS} {V : mV} {M : pm_M} {a ci m kf : Nat} {v : Int32} {ix : Nat} {fin : Bool} {Q : Option Value → pm_E → pm_M → Prop}
    (hc : decode b pc = .ok (.putfield ix, 3)) (hf : pm_fr o ix = some (ci, kf, 0, fin)) (h3 : fin = true → fi = true ∧ o = ci) (g : gCb t a (10 + ci) 0 m = true) (hl : t.1.length < 3999) {n0 : Nat} (ha : a < n0) (hM : okM n0 V M)
    (h : ∀ M', okM n0 (mP V a kf v) M' → pm_wp cal b o rt fi (pc + 3) ls [] (toE L t) M' Q) : pm_wp cal b o rt fi pc ls [.int v, .ref a] (toE L t) M Q := by
  obtain ⟨e1, e2⟩ := gC_E (L := L) (gC_b g) (by omega)
  exact s_putfieldI hc hf e1 (by rw [e2]) h3 (Or.inl rfl) (h _ (okM_put hM ha))
theorem k_gfC {cal : pm_C} {b : ByteArray} {o : Nat} {rt : Option FieldType} {fi : Bool} {pc : Nat} {ls st : List Value} {L : Nat} {t : mS} {M : pm_M} {a x ci m kf : Nat} {ix : Nat} {fin : Bool} {Q : Option Value → pm_E → pm_M → Prop}
    (hc : decode b pc = .ok (.getfield ix, 3)) (hf : pm_fr o ix = some (ci, kf, 2, fin)) (g : gCb t a (10 + ci) 0 m = true) (hl : t.1.length < 3999) (hp : (t.2.1.getD a []).getD kf none = some x)
    (h : pm_wp cal b o rt fi (pc + 3) ls (.ref x :: st) (toE L t) M Q) : pm_wp cal b o rt fi pc ls (.ref a :: st) (toE L t) M Q := by
  have g := gC_b g
  obtain ⟨e1, e2⟩ := gC_E (L := L) g (by omega)
  exact s_getfield (v := .ref x) hc hf e1 (by rw [e2]) (congrArg pm_rf hp) h
theorem k_asC {cal : pm_C} {b : ByteArray} {o : Nat} {rt : Option FieldType} {fi : Bool} {pc : Nat} {ls st : List Value} {L : Nat} {t : mS} {M : pm_M} {a x i n q cj m : Nat} {Q : Option Value → pm_E → pm_M → Prop}
    (hc : decode b pc = .ok (.aastore, 1)) (g : gCb t a q n n = true) (hq : 3 ≤ q ∧ q < 6 ∧ pm_ae q = cj) (gx : gCb t x (10 + cj) 0 m = true) (hi : i < n) (hn : n < 2 ^ 31) (hl : t.1.length < 3999)
    (h : pm_wp cal b o rt fi (pc + 1) ls st (toE L (mSet t a i x)) M Q) : pm_wp cal b o rt fi pc ls (.ref x :: .int (nI i) :: .ref a :: st) (toE L t) M Q := by
  have g := gC_b g
  have gx := gC_b gx
  obtain ⟨e1, e2⟩ := gC_E (L := L) g (by omega)
  obtain ⟨f1, f2⟩ := gC_E (L := L) gx (by omega)
  refine s_aastore hc ⟨e1, by rw [e2]; exact hq.1, by rw [e2]; exact hq.2.1⟩ (by unfold pm_al; rw [e2]; exact vpI hi hn) ⟨f1, by rw [f2, e2, hq.2.2]⟩ ?_
  rw [nI_clamp (by omega), toE_set (by rw [g.1]; exact g.2.1) (by rw [g.2.2.2]; exact hi)]
  exact h
theorem k_isC {cal : pm_C} {b : ByteArray} {o : Nat} {rt : Option FieldType} {fi : Bool} {pc : Nat} {ls st : List Value} {L : Nat} {t : mS} {V : mV} {M : pm_M} {a i n : Nat} {v : Int32} {Q : Option Value → pm_E → pm_M → Prop}
    (hc : decode b pc = .ok (.iastore, 1)) (g : gCb t a 0 n 0 = true) (hi : i < n) (hn : n < 2 ^ 31) (hl : t.1.length < 3999) {n0 : Nat} (ha : a < n0) (hM : okM n0 V M)
    (h : ∀ M', okM n0 (mP V a i v) M' → pm_wp cal b o rt fi (pc + 1) ls st (toE L t) M' Q) : pm_wp cal b o rt fi pc ls (.int v :: .int (nI i) :: .ref a :: st) (toE L t) M Q := by
  have g := gC_b g
  obtain ⟨e1, e2⟩ := gC_E (L := L) g (by omega)
  refine s_iastore hc ⟨e1, by rw [e2]⟩ (by unfold pm_al; rw [e2]; exact vpI hi hn) ?_
  rw [nI_clamp (by omega)]
  exact h _ (okM_put hM ha)
