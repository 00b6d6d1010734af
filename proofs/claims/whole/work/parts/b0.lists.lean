/-! makers: cells as lists -/
abbrev mS := List (Nat × Nat) × List (List (Option Nat)) × Nat
abbrev mV := (Nat → Int32) × List (Nat × Nat × Int32)
def mP (V : mV) (a k : Nat) (v : Int32) : mV := (V.1, (a, k, v) :: V.2)
def toE (L : Nat) (t : mS) : pm_E := (t.1.length, t.2.2, fun c => if c = 4000 then (0, L) else t.1.getD c (9, 0), fun c k => (t.2.1.getD c []).getD k none)
def mNew (t : mS) (q len n r : Nat) : mS := (t.1 ++ [(q, len)], t.2.1 ++ [List.replicate r none], t.2.2 + n)
def mSet (t : mS) (a k x : Nat) : mS := (t.1, t.2.1.set a ((t.2.1.getD a []).set k (some x)), t.2.2)
def okT (t : mS) : Prop := t.2.1.length = t.1.length
theorem gd_l {α : Type} {l : List α} {x d : α} {c : Nat} (h : c < l.length) : (l ++ [x]).getD c d = l.getD c d := by
  rw [List.getD_eq_getElem?_getD, List.getD_eq_getElem?_getD, List.getElem?_append_left h]
theorem gd_m {α : Type} {l : List α} {x d : α} {c : Nat} (h : c = l.length) : (l ++ [x]).getD c d = x := by
  subst h
  rw [List.getD_eq_getElem?_getD, List.getElem?_append_right (Nat.le_refl _), Nat.sub_self]
  rfl
theorem gd_o {α : Type} {l : List α} {d : α} {c : Nat} (h : l.length ≤ c) : l.getD c d = d := by
  rw [List.getD_eq_getElem?_getD, List.getElem?_eq_none h]
  rfl
theorem gd_rep {r k : Nat} : (List.replicate r (none : Option Nat)).getD k none = none := by
  rw [List.getD_eq_getElem?_getD, List.getElem?_replicate]
  split <;> rfl
theorem gd_set {α : Type} {l : List α} {x d : α} {a c : Nat} (h : a < l.length) : (l.set a x).getD c d = if c = a then x else l.getD c d := by
  rw [List.getD_eq_getElem?_getD, List.getD_eq_getElem?_getD, List.getElem?_set]
  by_cases e : c = a
  · subst e
    rw [if_pos rfl, if_pos rfl, if_pos h]
    rfl
  · rw [if_neg (fun z => e z.symm), if_neg e]
theorem toE_new {L q n len r : Nat} {t : mS} (h : okT t) (hl : t.1.length < 4000) : pm_ne (toE L t) q n len = toE L (mNew t q len n r) := by
  have e1 : (t.1 ++ [(q, len)]).length = t.1.length + 1 := by simp
  have e3 : (pm_row (fun c => if c = 4000 then (0, L) else t.1.getD c (9, 0)) t.1.length (q, len)) = fun c => if c = 4000 then (0, L) else (t.1 ++ [(q, len)]).getD c (9, 0) := by
    funext c
    by_cases z : c = t.1.length
    · rw [z, row_eq, if_neg (by omega), gd_m rfl]
    · rw [row_ne z]
      by_cases z4 : c = 4000
      · rw [if_pos z4, if_pos z4]
      · rw [if_neg z4, if_neg z4]
        by_cases z2 : c < t.1.length
        · rw [gd_l z2]
        · rw [gd_o (by omega), gd_o (by rw [e1]; omega)]
  have e4 : (pm_row (fun c k => (t.2.1.getD c []).getD k none) t.1.length (fun _ => none)) = fun c k => ((t.2.1 ++ [List.replicate r none]).getD c []).getD k none := by
    funext c k
    by_cases z : c = t.1.length
    · rw [z, row_eq, gd_m (show t.1.length = t.2.1.length from h.symm), gd_rep]
    · rw [row_ne z]
      by_cases z2 : c < t.1.length
      · rw [gd_l (show c < t.2.1.length by rw [h]; exact z2)]
      · rw [gd_o (l := t.2.1) (by rw [h]; omega), gd_o (l := t.2.1 ++ [List.replicate r none]) (by simp; rw [h]; omega)]
  show (t.1.length + 1, t.2.2 + n, _, _) = ((t.1 ++ [(q, len)]).length, t.2.2 + n, _, _)
  rw [e1]
  exact congrArg (Prod.mk (t.1.length + 1)) (congrArg (Prod.mk (t.2.2 + n)) (Prod.ext e3 e4))
theorem toE_set {L a k x : Nat} {t : mS} (ha : a < t.2.1.length) (hk : k < (t.2.1.getD a []).length) : pm_sp (toE L t) a k (some x) = toE L (mSet t a k x) := by
  have e4 : pm_up (fun c k => (t.2.1.getD c []).getD k none) a k (some x) = fun c j => ((t.2.1.set a ((t.2.1.getD a []).set k (some x))).getD c []).getD j none := by
    funext c j
    unfold pm_up
    rw [gd_set ha]
    by_cases z : c = a
    · rw [z, row_eq, if_pos rfl, gd_set hk]
      by_cases z2 : j = k
      · rw [z2, row_eq, if_pos rfl]
      · rw [row_ne z2, if_neg z2]
    · rw [row_ne z, if_neg z]
  show (t.1.length, t.2.2, _, _) = (t.1.length, t.2.2, _, _)
  exact congrArg (Prod.mk t.1.length) (congrArg (Prod.mk t.2.2) (congrArg (Prod.mk _) e4))
/-- cell a is of kind q, with m places for references -/
def gC (t : mS) (a q len m : Nat) : Prop := okT t ∧ a < t.1.length ∧ t.1.getD a (9, 0) = (q, len) ∧ (t.2.1.getD a []).length = m
def exT (t t' : mS) : Prop := okT t → okT t' ∧ t.1.length ≤ t'.1.length ∧ ∀ c, c < t.1.length → t'.1.getD c (9, 0) = t.1.getD c (9, 0) ∧ (t'.2.1.getD c []).length = (t.2.1.getD c []).length
theorem exT_rf {t : mS} : exT t t := fun h => ⟨h, Nat.le_refl _, fun _ _ => ⟨rfl, rfl⟩⟩
theorem exT_tr {t t1 t2 : mS} (h1 : exT t t1) (h2 : exT t1 t2) : exT t t2 := fun h => by
  obtain ⟨a1, a2, a3⟩ := h1 h
  obtain ⟨b1, b2, b3⟩ := h2 a1
  refine ⟨b1, by omega, fun c hc => ?_⟩
  obtain ⟨c1, c2⟩ := a3 c hc
  obtain ⟨d1, d2⟩ := b3 c (by omega)
  exact ⟨d1.trans c1, d2.trans c2⟩
theorem mNew_len {t : mS} {q len n r : Nat} : (mNew t q len n r).1.length = t.1.length + 1 := by unfold mNew; simp
theorem exT_new {t : mS} {q len n r : Nat} : exT t (mNew t q len n r) := fun h => by
  refine ⟨by unfold okT mNew; simp; exact h, by rw [mNew_len]; omega, fun c hc => ⟨gd_l hc, ?_⟩⟩
  show ((t.2.1 ++ [List.replicate r none]).getD c []).length = _
  rw [gd_l (show c < t.2.1.length by rw [h]; exact hc)]
theorem exT_set {t : mS} {a k x : Nat} (ha : a < t.1.length) : exT t (mSet t a k x) := fun h => by
  refine ⟨by unfold okT mSet; simp; exact h, Nat.le_refl _, fun c hc => ⟨rfl, ?_⟩⟩
  show ((t.2.1.set a ((t.2.1.getD a []).set k (some x))).getD c []).length = _
  rw [gd_set (show a < t.2.1.length by rw [h]; exact ha)]
  by_cases z : c = a
  · rw [if_pos z, z, List.length_set]
  · rw [if_neg z]
theorem gC_ex {t t' : mS} {a q len m : Nat} (g : gC t a q len m) (h : exT t t') : gC t' a q len m := by
  obtain ⟨g1, g2, g3, g4⟩ := g
  obtain ⟨a1, a2, a3⟩ := h g1
  obtain ⟨c1, c2⟩ := a3 a g2
  exact ⟨a1, by omega, c1.trans g3, c2.trans g4⟩
theorem gC_new {t : mS} {q len n r : Nat} (h : okT t) : gC (mNew t q len n r) t.1.length q len r := by
  refine ⟨(exT_new h).1, by rw [mNew_len]; omega, gd_m rfl, ?_⟩
  show ((t.2.1 ++ [List.replicate r none]).getD t.1.length []).length = r
  rw [gd_m (show t.1.length = t.2.1.length from h.symm), List.length_replicate]
theorem gC_E {L : Nat} {t : mS} {a q len m : Nat} (g : gC t a q len m) (h : t.1.length < 4000) : a < (toE L t).1 ∧ (toE L t).2.2.1 a = (q, len) := by
  obtain ⟨g1, g2, g3, g4⟩ := g
  refine ⟨g2, ?_⟩
  show (if a = 4000 then (0, L) else t.1.getD a (9, 0)) = _
  rw [if_neg (by omega), g3]
/-! what stands in the cells -/
def vG (V : mV) (c k : Nat) : Int32 := match V.2.find? (fun e => e.1 == c && e.2.1 == k) with
  | some e => e.2.2
  | none => 0
def okM (n : Nat) (V : mV) (M : pm_M) : Prop := (∀ e, e ∈ V.2 → e.1 < n) ∧ (∀ c, c < n → ∀ k, M.1 c k = vG V c k ∧ M.2 c k = 0) ∧ n ≤ 4000 ∧ M.1 4000 = V.1
theorem vG_none {V : mV} {c k : Nat} (h : ∀ e, e ∈ V.2 → e.1 ≠ c) : vG V c k = 0 := by
  unfold vG
  have : V.2.find? (fun e => e.1 == c && e.2.1 == k) = none := by
    rw [List.find?_eq_none]
    intro e he
    have := h e he
    simp [this]
  rw [this]
theorem vG_cons {V : mV} {a j c k : Nat} {v : Int32} : vG (mP V a j v) c k = if c = a ∧ k = j then v else vG V c k := by
  unfold vG mP
  rw [List.find?_cons]
  by_cases z : c = a ∧ k = j
  · rw [if_pos z, z.1, z.2]
    simp
  · rw [if_neg z]
    have : ((a, j, v).1 == c && (a, j, v).2.1 == k) = false := by
      simp only [Bool.and_eq_false_iff, beq_eq_false_iff_ne]
      by_cases z1 : a = c
      · exact Or.inr (fun z2 => z ⟨z1.symm, z2.symm⟩)
      · exact Or.inl z1
    rw [this]
theorem okM_new {n : Nat} {V : mV} {M : pm_M} {E : pm_E} (h : okM n V M) (he : E.1 = n) (hn : n < 4000) : okM (n + 1) V (pm_nm E M) := by
  obtain ⟨h1, h2, h3, h4⟩ := h
  refine ⟨fun e hm => Nat.lt_succ_of_lt (h1 e hm), fun c hc k => ?_, by omega, ?_⟩
  · show pm_row M.1 E.1 (fun _ => 0) c k = _ ∧ pm_row M.2 E.1 (fun _ => 0) c k = _
    rw [he]
    by_cases z : c = n
    · rw [z, row_eq, row_eq, vG_none (fun e hm => by have := h1 e hm; omega)]
      exact ⟨rfl, rfl⟩
    · rw [row_ne z, row_ne z]
      exact h2 c (by omega) k
  · show pm_row M.1 E.1 (fun _ => 0) 4000 = _
    rw [he, row_ne (by omega), h4]
theorem okM_put {n a j : Nat} {V : mV} {M : pm_M} {v : Int32} (h : okM n V M) (ha : a < n) : okM n (mP V a j v) (pm_si M a j v) := by
  obtain ⟨h1, h2, h3, h4⟩ := h
  refine ⟨fun e hm => ?_, fun c hc k => ?_, h3, ?_⟩
  · rcases List.mem_cons.mp hm with rfl | hm
    · exact ha
    · exact h1 e hm
  · rw [vG_cons, si_2]
    refine ⟨?_, (h2 c hc k).2⟩
    by_cases z : c = a
    · rw [z, si_eq]
      by_cases z2 : k = j
      · rw [z2, row_eq, if_pos ⟨rfl, rfl⟩]
      · rw [row_ne z2, if_neg (fun q => z2 q.2)]; exact (h2 a ha k).1
    · rw [si_ne z, if_neg (fun q => z q.1)]; exact (h2 c hc k).1
  · rw [si_ne (by omega), h4]; rfl
/-! rows -/
def mNP (t : mS) (a kf kd n : Nat) : mS := mSet (mNew t kd n n 0) a kf t.1.length
theorem mNP_len {t : mS} {a kf kd n : Nat} : (mNP t a kf kd n).1.length = t.1.length + 1 := mNew_len (t := t) (q := kd) (len := n) (n := n) (r := 0)
theorem exT_NP {t : mS} {a kf kd n : Nat} (ha : a < t.1.length) : exT t (mNP t a kf kd n) := exT_tr exT_new (exT_set (by rw [mNew_len]; omega))
theorem k_np {cal : pm_C} {b : ByteArray} {o : Nat} {rt : Option FieldType} {fi : Bool} {pc : Nat} {ls : List Value} {L : Nat} {t : mS} {V : mV} {M : pm_M} {a ci m kf kd n : Nat} {ty : ArrayType} {ix : Nat} {fin : Bool} {Q : Option Value → pm_E → pm_M → Prop}
    (hc : decode b pc = .ok (.newarray ty, 2)) (hk : pm_at ty = some kd) (hn : n ≤ 100000) (hc2 : decode b (pc + 2) = .ok (.putfield ix, 3)) (hf : pm_fr o ix = some (ci, kf, 2, fin)) (h3 : fin = true → fi = true ∧ o = ci) (g : gC t a (10 + ci) 0 m) (hkf : kf < m) (hl : t.1.length < 3999) (hM : okM t.1.length V M)
    (h : ∀ M', gC (mNP t a kf kd n) a (10 + ci) 0 m → okM (mNP t a kf kd n).1.length V M' → (mNP t a kf kd n).1.length = t.1.length + 1 → pm_wp cal b o rt fi (pc + 2 + 3) ls [] (toE L (mNP t a kf kd n)) M' Q) : pm_wp cal b o rt fi pc ls [.int (nI n), .ref a] (toE L t) M Q := by
  refine s_newarray hc hk (nI_pos (by omega)) (by rw [nI_clamp (by omega)]; exact hn) (by show t.1.length < 4000; omega) ?_
  rw [nI_clamp (by omega), toE_new (r := 0) g.1 (by omega)]
  have g1 := gC_ex g (exT_new (q := kd) (len := n) (n := n) (r := 0))
  have l1 : (mNew t kd n n 0).1.length = t.1.length + 1 := mNew_len
  obtain ⟨e1, e2⟩ := gC_E (L := L) g1 (by rw [l1]; omega)
  refine s_putfieldA hc2 hf e1 (by rw [e2]) h3 rfl ?_
  have ea : a < (mNew t kd n n 0).2.1.length := by rw [g1.1, l1]; have := g.2.1; omega
  rw [toE_set ea (by rw [g1.2.2.2]; exact hkf)]
  exact h _ (gC_ex g (exT_NP g.2.1)) (by rw [mNP_len]; exact okM_new hM rfl (by omega)) mNP_len
theorem k_pi {cal : pm_C} {b : ByteArray} {o : Nat} {rt : Option FieldType} {fi : Bool} {pc : Nat} {ls : List Value} {L : Nat} {t : mS} {V : mV} {M : pm_M} {a ci m kf : Nat} {v : Int32} {ix : Nat} {fin : Bool} {Q : Option Value → pm_E → pm_M → Prop}
    (hc : decode b pc = .ok (.putfield ix, 3)) (hf : pm_fr o ix = some (ci, kf, 0, fin)) (h3 : fin = true → fi = true ∧ o = ci) (g : gC t a (10 + ci) 0 m) (hl : t.1.length < 3999) (hM : okM t.1.length V M)
    (h : ∀ M', okM t.1.length (mP V a kf v) M' → pm_wp cal b o rt fi (pc + 3) ls [] (toE L t) M' Q) : pm_wp cal b o rt fi pc ls [.int v, .ref a] (toE L t) M Q := by
  obtain ⟨e1, e2⟩ := gC_E (L := L) g (by omega)
  exact s_putfieldI hc hf e1 (by rw [e2]) h3 (Or.inl rfl) (h _ (okM_put hM g.2.1))
/-- a maker: the class cj, its places, what it adds to lists and values -/
def mkOk (L d y cj mj cnt bnd : Nat) (f : Nat → mS → mS) (w : Nat → mS → mV → mV) : Prop :=
  (∀ a t m, gC t a (10 + cj) 0 m → exT t (f a t) ∧ (f a t).1.length = t.1.length + cnt) ∧
  ∀ (t : mS) (V : mV) (M : pm_M) (a : Nat) (Q : pm_E → pm_M → Prop), gC t a (10 + cj) 0 mj → t.1.length < bnd → okM t.1.length V M → (∀ M', okM (f a t).1.length (w a t V) M' → Q (toE L (f a t)) M') → pm_callV (pm_cal d) y [.ref a] (toE L t) M Q
/-- a new object, made, left on the stack -/
theorem k_no {d : Nat} {b : ByteArray} {o : Nat} {rt : Option FieldType} {fi : Bool} {pc : Nat} {ls st : List Value} {L : Nat} {t : mS} {V : mV} {M : pm_M} {cj mj cnt bnd y i1 i2 : Nat} {f : Nat → mS → mS} {w : Nat → mS → mV → mV} {Q : Option Value → pm_E → pm_M → Prop}
    (hc : decode b pc = .ok (.new i1, 3)) (hn : pm_cn o i1 = some cj) (hc2 : decode b (pc + 3) = .ok (.dup, 1)) (hc3 : decode b (pc + 3 + 1) = .ok (.invokespecial i2, 3)) (ht : pm_mi o i2 = some y) (hy : pm_np y = 0) (hnf : pm_nf cj = mj) (hm : mkOk L d y cj mj cnt bnd f w) (hok : okT t) (hl : t.1.length + 1 < bnd) (hb : bnd ≤ 3000) (hs : pm_cat (.ref t.1.length :: st) ≤ 8) (hM : okM t.1.length V M)
    (h : ∀ M', exT t (f t.1.length (mNew t (10 + cj) 0 mj mj)) → gC (f t.1.length (mNew t (10 + cj) 0 mj mj)) t.1.length (10 + cj) 0 mj → okM (f t.1.length (mNew t (10 + cj) 0 mj mj)).1.length (w t.1.length (mNew t (10 + cj) 0 mj mj) V) M' → (f t.1.length (mNew t (10 + cj) 0 mj mj)).1.length = t.1.length + 1 + cnt → pm_wp (pm_cal d) b o rt fi (pc + 3 + 1 + 3) ls (.ref t.1.length :: st) (toE L (f t.1.length (mNew t (10 + cj) 0 mj mj))) M' Q) : pm_wp (pm_cal d) b o rt fi pc ls st (toE L t) M Q := by
  refine s_new hc hn (by show t.1.length < 4000; omega) ?_
  rw [hnf, toE_new (r := mj) hok (by omega)]
  refine s_dup hc2 rfl (s_calliV (st := .ref t.1.length :: st) [] rfl hc3 ht hy.symm hs ?_)
  have g := gC_new (q := 10 + cj) (len := 0) (n := mj) (r := mj) hok
  have l1 : (mNew t (10 + cj) 0 mj mj).1.length = t.1.length + 1 := mNew_len
  obtain ⟨x1, x2⟩ := hm.1 t.1.length _ _ g
  refine hm.2 _ V _ t.1.length _ g (by rw [l1]; omega) (by rw [l1]; exact okM_new hM rfl (by omega)) (fun M' hM' => ?_)
  exact h M' (exT_tr exT_new x1) (gC_ex g x1) hM' (by rw [x2, l1])
/-- a reference into a field -/
theorem k_pa {cal : pm_C} {b : ByteArray} {o : Nat} {rt : Option FieldType} {fi : Bool} {pc : Nat} {ls : List Value} {L : Nat} {t : mS} {M : pm_M} {a x ci m kf : Nat} {ix : Nat} {fin : Bool} {Q : Option Value → pm_E → pm_M → Prop}
    (hc : decode b pc = .ok (.putfield ix, 3)) (hf : pm_fr o ix = some (ci, kf, 2, fin)) (h3 : fin = true → fi = true ∧ o = ci) (g : gC t a (10 + ci) 0 m) (hkf : kf < m) (hl : t.1.length < 3999)
    (h : gC (mSet t a kf x) a (10 + ci) 0 m → (mSet t a kf x).1.length = t.1.length → exT t (mSet t a kf x) → pm_wp cal b o rt fi (pc + 3) ls [] (toE L (mSet t a kf x)) M Q) : pm_wp cal b o rt fi pc ls [.ref x, .ref a] (toE L t) M Q := by
  obtain ⟨e1, e2⟩ := gC_E (L := L) g (by omega)
  refine s_putfieldA hc hf e1 (by rw [e2]) h3 rfl ?_
  rw [toE_set (by rw [g.1]; exact g.2.1) (by rw [g.2.2.2]; exact hkf)]
  exact h (gC_ex g (exT_set g.2.1)) rfl (exT_set g.2.1)
/-- t1 extends t by k cells -/
def xl (t t1 : mS) (k : Nat) : Prop := exT t t1 ∧ t1.1.length = t.1.length + k
theorem xl_rf {t : mS} : xl t t 0 := ⟨exT_rf, rfl⟩
theorem xl_NP {t t1 : mS} {k a kf kd n : Nat} (h : xl t t1 k) (ha : a < t.1.length) : xl t (mNP t1 a kf kd n) (k + 1) :=
  ⟨exT_tr h.1 (exT_NP (by rw [h.2]; omega)), by rw [mNP_len, h.2]; omega⟩
theorem xl_NO {t t1 : mS} {k a kf cnt q n r : Nat} {f : Nat → mS → mS} (h : xl t t1 k) (ha : a < t.1.length) (hok : okT t) (hf : ∀ a t m, gC t a q 0 m → exT t (f a t) ∧ (f a t).1.length = t.1.length + cnt) : xl t (mSet (f t1.1.length (mNew t1 q 0 n r)) a kf t1.1.length) (k + 1 + cnt) := by
  have g := gC_new (t := t1) (q := q) (len := 0) (n := n) (r := r) (h.1 hok).1
  obtain ⟨u, v⟩ := hf _ _ _ g
  have n1 := mNew_len (t := t1) (q := q) (len := 0) (n := n) (r := r)
  have hl := h.2
  refine ⟨exT_tr h.1 (exT_tr (exT_tr exT_new u) (exT_set (by rw [v, n1, hl]; omega))), ?_⟩
  show (f t1.1.length (mNew t1 q 0 n r)).1.length = _
  rw [v, n1, hl]; omega
