theorem LR_off {S : List Nat} {M M' : pm_M} {l T P : Nat} {g : Nat → Int32} (h : off S M M') (hl : LR M l g T P) (hc : ∀ c, c ∈ [l, l + 2, l + 3, l + 5, l + 7, l + 8, l + 9] → c ∉ S) : LR M' l g T P := by
  have e : ∀ c, c ∈ [l, l + 2, l + 3, l + 5, l + 7, l + 8, l + 9] → M'.1 c = M.1 c := fun c q => (h c (hc c q)).1
  unfold LR lwS at hl ⊢
  rw [e l (by simp), e (l + 2) (by simp), e (l + 3) (by simp), e (l + 5) (by simp), e (l + 7) (by simp), e (l + 8) (by simp), e (l + 9) (by simp)]
  exact hl
theorem SR_off {S : List Nat} {M M' : pm_M} {o T P : Nat} {g : Nat → Int32} (h : off S M M') (hs : SR M o g T P) (hc : ∀ c, c ∈ [o, o + 1, o + 2, o + 3, o + 4] → c ∉ S) : SR M' o g T P := by
  have e : ∀ c, c ∈ [o, o + 1, o + 2, o + 3, o + 4] → M'.1 c = M.1 c := fun c q => (h c (hc c q)).1
  unfold SR at hs ⊢
  rw [e o (by simp), e (o + 1) (by simp), e (o + 2) (by simp), e (o + 3) (by simp), e (o + 4) (by simp)]
  exact hs
/-- a state is told by its own numbers of the row -/
theorem SR_congr {M : pm_M} {o T P : Nat} {g g' : Nat → Int32} (hs : SR M o g T P) (h8 : T ≤ 8) (h6 : P ≤ 6) (h : ∀ i, 47 ≤ i → i < 78 → g' i = g i) : SR M o g' T P := by
  obtain ⟨a1, a2, a3, a4, a5, a6⟩ := hs
  refine ⟨?_, ?_, ?_, ?_, ?_, a6⟩
  · rw [h _ (by omega) (by omega)]; exact a1
  · rw [h _ (by omega) (by omega)]; exact a2
  · rw [h _ (by omega) (by omega)]; exact a3
  · intro t ht
    rw [h _ (by omega) (by omega), h _ (by omega) (by omega)]; exact a4 t ht
  · intro p hp
    rw [h _ (by omega) (by omega), h _ (by omega) (by omega)]; exact a5 p hp
theorem SR_where {M : pm_M} {o T P t : Nat} {g : Nat → Int32} {v : Int32} (hs : SR M o g T P) (h8 : T ≤ 8) (h6 : P ≤ 6) (ht : t < T) : SR (pm_si M (o + 1) t v) o (pm_row g (50 + t) v) T P := by
  obtain ⟨a1, a2, a3, a4, a5, a6⟩ := hs
  unfold SR
  rw [si_ne (by omega), si_eq, si_ne (by omega), si_ne (by omega), si_ne (by omega), row_ne (by omega), row_ne (by omega), row_ne (by omega)]
  refine ⟨a1, a2, a3, ?_, ?_, ?_⟩
  · intro j hj
    rw [row_ne (j := 58 + j) (by omega)]
    by_cases e : j = t
    · subst e; rw [row_eq, row_eq]; exact ⟨rfl, (a4 j hj).2⟩
    · rw [row_ne e, row_ne (by omega)]; exact a4 j hj
  · intro p hp
    rw [row_ne (by omega), row_ne (by omega)]; exact a5 p hp
  · intro j h1 h2
    rw [row_ne (by omega)]; exact a6 j h1 h2
theorem SR_often {M : pm_M} {o T P t : Nat} {g : Nat → Int32} {v : Int32} (hs : SR M o g T P) (h8 : T ≤ 8) (h6 : P ≤ 6) (ht : t < T) : SR (pm_si M (o + 2) t v) o (pm_row g (58 + t) v) T P := by
  obtain ⟨a1, a2, a3, a4, a5, a6⟩ := hs
  unfold SR
  rw [si_ne (by omega), si_ne (by omega), si_eq, si_ne (by omega), si_ne (by omega), row_ne (by omega), row_ne (by omega), row_ne (by omega)]
  refine ⟨a1, a2, a3, ?_, ?_, a6⟩
  · intro j hj
    rw [row_ne (j := 50 + j) (by omega)]
    by_cases e : j = t
    · subst e; rw [row_eq, row_eq]; exact ⟨(a4 j hj).1, rfl⟩
    · rw [row_ne e, row_ne (by omega)]; exact a4 j hj
  · intro p hp
    rw [row_ne (by omega), row_ne (by omega)]; exact a5 p hp
theorem SR_mark {M : pm_M} {o T P p : Nat} {g : Nat → Int32} {v : Int32} (hs : SR M o g T P) (h8 : T ≤ 8) (h6 : P ≤ 6) (hp : p < P) : SR (pm_si M (o + 3) p v) o (pm_row g (66 + p) v) T P := by
  obtain ⟨a1, a2, a3, a4, a5, a6⟩ := hs
  unfold SR
  rw [si_ne (by omega), si_ne (by omega), si_ne (by omega), si_eq, si_ne (by omega), row_ne (by omega), row_ne (by omega), row_ne (by omega)]
  refine ⟨a1, a2, a3, ?_, ?_, a6⟩
  · intro j hj
    rw [row_ne (by omega), row_ne (by omega)]; exact a4 j hj
  · intro j hj
    rw [row_ne (j := 72 + j) (by omega)]
    by_cases e : j = p
    · subst e; rw [row_eq, row_eq]; exact ⟨rfl, (a5 j hj).2⟩
    · rw [row_ne e, row_ne (by omega)]; exact a5 j hj
theorem SR_borne {M : pm_M} {o T P p : Nat} {g : Nat → Int32} {v : Int32} (hs : SR M o g T P) (h8 : T ≤ 8) (h6 : P ≤ 6) (hp : p < P) : SR (pm_si M (o + 4) p v) o (pm_row g (72 + p) v) T P := by
  obtain ⟨a1, a2, a3, a4, a5, a6⟩ := hs
  unfold SR
  rw [si_ne (by omega), si_ne (by omega), si_ne (by omega), si_ne (by omega), si_eq, row_ne (by omega), row_ne (by omega), row_ne (by omega)]
  refine ⟨a1, a2, a3, ?_, ?_, a6⟩
  · intro j hj
    rw [row_ne (by omega), row_ne (by omega)]; exact a4 j hj
  · intro j hj
    rw [row_ne (j := 66 + j) (by omega)]
    by_cases e : j = p
    · subst e; rw [row_eq, row_eq]; exact ⟨(a5 j hj).1, rfl⟩
    · rw [row_ne e, row_ne (by omega)]; exact a5 j hj
/-- a number of the object itself: wet 4, day 5, drawn 6 -/
theorem SR_own {M : pm_M} {o T P k : Nat} {g : Nat → Int32} {v : Int32} (hs : SR M o g T P) (h8 : T ≤ 8) (h6 : P ≤ 6) (h4 : 4 ≤ k) (h7 : k < 7) : SR (pm_si M o k v) o (pm_row g (43 + k) v) T P := by
  obtain ⟨a1, a2, a3, a4, a5, a6⟩ := hs
  unfold SR
  rw [si_eq, si_ne (by omega), si_ne (by omega), si_ne (by omega), si_ne (by omega)]
  refine ⟨?_, ?_, ?_, ?_, ?_, a6⟩
  · by_cases e : k = 4
    · subst e; rw [row_eq]; exact row_eq.symm
    · rw [row_ne (by omega), row_ne (by omega)]; exact a1
  · by_cases e : k = 5
    · subst e; rw [row_eq]; exact row_eq.symm
    · rw [row_ne (by omega), row_ne (by omega)]; exact a2
  · by_cases e : k = 6
    · subst e; rw [row_eq]; exact row_eq.symm
    · rw [row_ne (by omega), row_ne (by omega)]; exact a3
  · intro j hj
    rw [row_ne (by omega), row_ne (by omega)]; exact a4 j hj
  · intro j hj
    rw [row_ne (by omega), row_ne (by omega)]; exact a5 j hj
theorem SR_why {M : pm_M} {o T P k : Nat} {g : Nat → Int32} {v : Int32} (hs : SR M o g T P) (hk : k = 7) : SR (pm_si M o k v) o g T P := by
  obtain ⟨a1, a2, a3, a4, a5, a6⟩ := hs
  unfold SR
  rw [si_eq, si_ne (by omega), si_ne (by omega), si_ne (by omega), si_ne (by omega), row_ne (by omega), row_ne (by omega), row_ne (by omega)]
  exact ⟨a1, a2, a3, a4, a5, a6⟩
theorem sp_sbecome {d : Nat} {s : pm_S} {M : pm_M} {g : Nat → Int32} {o q T P : Nat} {Q : pm_S → pm_M → Prop} (hd : 1 ≤ d) (ho : isS o) (hq' : isS q) (hf : o + 5 ≤ q ∨ q + 5 ≤ o) (h8 : T ≤ 8) (h6 : P ≤ 6) (hs : SR M q g T P) (hq : ∀ M', SR M' o g T P → off [o, o + 1, o + 2, o + 3, o + 4] M M' → Q s M') : cV d yS_become [.ref o, .ref q] s M Q := by
  obtain ⟨d, rfl⟩ : ∃ e, d = e + 1 := ⟨d - 1, by omega⟩
  refine enS_become ho hq' (fun m1 e1 m2 e2 m3 e3 m4 e4 => ?_)
  have o1 : off [o, o + 1, o + 2, o + 3, o + 4] M m1 := by rw [e1]; exact off_ri off_rf (by simp)
  have o2 : off [o, o + 1, o + 2, o + 3, o + 4] M m2 := by rw [e2]; exact off_ri o1 (by simp)
  have o3 : off [o, o + 1, o + 2, o + 3, o + 4] M m3 := by rw [e3]; exact off_ri o2 (by simp)
  have o4 : off [o, o + 1, o + 2, o + 3, o + 4] M m4 := by rw [e4]; exact off_ri o3 (by simp)
  have nq : ∀ k, k < 5 → q + k ∉ [o, o + 1, o + 2, o + 3, o + 4] := by
    intro k hk hm
    simp at hm
    omega
  rw [(o1 (q + 2) (nq 2 (by omega))).1] at e2
  rw [(o2 (q + 3) (nq 3 (by omega))).1] at e3
  rw [(o3 (q + 4) (nq 4 (by omega))).1] at e4
  have q4 := (o4 q (nq 0 (by omega))).1
  rw [si_ne (c := q) (by omega), si_ne (c := q) (by omega), si_ne (c := q) (by omega), q4]
  refine hq _ ?_ (off_si (off_si (off_si o4 (by simp)) (by simp)) (by simp))
  obtain ⟨a1, a2, a3, a4, a5, a6⟩ := hs
  have c4 : m4.1 (o + 4) = va_cpy (M.1 (q + 4)) (m3.1 (o + 4)) 0 0 6 := by rw [e4, ri_eq]
  have c3 : m4.1 (o + 3) = va_cpy (M.1 (q + 3)) (m2.1 (o + 3)) 0 0 6 := by rw [e4, ri_ne (by omega), e3, ri_eq]
  have c2 : m4.1 (o + 2) = va_cpy (M.1 (q + 2)) (m1.1 (o + 2)) 0 0 8 := by rw [e4, ri_ne (by omega), e3, ri_ne (by omega), e2, ri_eq]
  have c1 : m4.1 (o + 1) = va_cpy (M.1 (q + 1)) (M.1 (o + 1)) 0 0 8 := by rw [e4, ri_ne (by omega), e3, ri_ne (by omega), e2, ri_ne (by omega), e1, ri_eq]
  clear e1 e2 e3 e4
  unfold SR
  rw [si_eq, si_eq, si_eq]
  simp only [si_ne (show o + 1 ≠ o by omega), si_ne (show o + 2 ≠ o by omega), si_ne (show o + 3 ≠ o by omega), si_ne (show o + 4 ≠ o by omega), c1, c2, c3, c4]
  refine ⟨?_, ?_, ?_, ?_, ?_, ?_⟩
  · rw [row_ne (by omega), row_ne (by omega), row_eq]; exact a1
  · rw [row_ne (by omega), row_eq]; exact a2
  · rw [row_eq]; exact a3
  · intro t ht
    rw [cpy0 (by omega), cpy0 (by omega)]; exact a4 t ht
  · intro p hp
    rw [cpy0 (by omega), cpy0 (by omega)]; exact a5 p hp
  · intro t h1 h2
    rw [cpy0 (by omega)]; exact a6 t h1 h2
theorem ixI {x : Int32} {n : Nat} (h : inI x n) (hn : n < 2 ^ 30) : ∃ k, k < n ∧ ixN x.toInt64 n = some k ∧ x = nI k := by
  obtain ⟨k, hk, rfl⟩ := h
  refine ⟨k, hk, ?_, rfl⟩
  rw [nI_l (by omega), ixN_k (by omega), if_pos hk]
theorem ixI_none {x : Int32} {n : Nat} (h : ¬ inI x n) (hn : n < 2 ^ 30) : ixN x.toInt64 n = none := ixN_none (fun q => h ((inN_i hn).mp q)) hn
theorem isS_32 : isS 32 := by unfold isS; decide
theorem isL_15 : isL 15 := by unfold isL; decide
theorem isS_27 : isS 27 := by unfold isS; decide
/-- what the class's line must be -/
def LV (M : pm_M) (g : Nat → Int32) (N T P : Nat) : Prop := LR M 15 g T P ∧ Vd g N T P
def C32 : List Nat := [25, 26, 32, 33, 34, 35, 36]
theorem LV_off {M M' : pm_M} {N T P : Nat} {g : Nat → Int32} (h : off C32 M M') (hl : LV M g N T P) : LV M' g N T P := ⟨LR_off h hl.1 (by decide), hl.2⟩
theorem LV_eqL {M : pm_M} {N T P : Nat} {g g' : Nat → Int32} (h : eqL g g') (hl : LV M g N T P) : LV M g' N T P := ⟨LR_congr h hl.2.2.2.2.2.2.1 hl.2.2.2.2.2.2.2.1 hl.1, Vd_congr h hl.2⟩
theorem sp_tryLeave {d : Nat} {s : pm_S} {M : pm_M} {g : Nat → Int32} {N T P : Nat} {x : Int32} {Q : Int32 → pm_S → pm_M → Prop} (hd : 2 ≤ d) (hl : LV M g N T P) (hs : SR M 32 g T P) (hq : ∀ M', SR M' 32 (if whyHoldF g T (ixN x.toInt64 P) = 0 then leaveF g T x.toNatClampNeg else g) T P → off C32 M M' → Q (whyHoldF g T (ixN x.toInt64 P)) s M') : cI d yS_tryLeave [.ref 32, .ref 15, .int x] s M Q := by
  obtain ⟨d, rfl⟩ : ∃ e, d = e + 1 := ⟨d - 1, by omega⟩
  obtain ⟨hL, hV⟩ := hl
  obtain ⟨h1, h2, h3, h4, h5, h6, h7, h8, h9, h10, h11, h12⟩ := hV
  refine enS_tryLeave (sp_hasPerson (by omega) (hL.2.2.1.trans h3) h7 (fun h => br_f (by decide) ?_) (fun h => br_t rfl ?_))
  · obtain ⟨p, hp, e, rfl⟩ := ixI h (by omega)
    rw [e, nI_clamp (by omega)] at hq
    refine sp_heldThing (by omega) isS_32 hs h6 (by omega) ?_
    simp only [oIheld h6]
    refine br_c (fun c => ?_) (fun c => ?_)
    · have := hq M
      simp only [whyHoldF, if_pos c] at this
      exact this hs off_rf
    · cases hh : heldF g T p with
      | none => exact absurd hh c
      | some t =>
        have ht := heldF_lt hh
        have := hq (pm_si M 33 t (M.1 20 p))
        simp only [whyHoldF, if_neg c, leaveF, hh, ite_true] at this
        simp only [oI]
        rw [nI_clamp (by omega), nI_clamp (by omega)]
        refine ⟨vpI (by omega) (by omega), vpI (by omega) (by omega), this ?_ (off_si off_rf (by decide))⟩
        have e20 : M.1 20 p = g (35 + p) := (hL.2.2.2.2.2.2.1 p hp).1
        rw [e20]
        exact SR_where hs h6 h7 ht.1
  · have := hq M
    rw [ixI_none h (by omega)] at this
    exact this hs off_rf
theorem sp_tryMark {d : Nat} {s : pm_S} {M : pm_M} {g : Nat → Int32} {N T P : Nat} {x y : Int32} {Q : Int32 → pm_S → pm_M → Prop} (hd : 2 ≤ d) (hl : LV M g N T P) (hs : SR M 32 g T P) (h1 : inI x P → inI y 10 → ∀ M', SR M' 32 (pm_row g (66 + x.toNatClampNeg) y) T P → off C32 M M' → Q 0 s M') (h0 : ¬ (inI x P ∧ inI y 10) → Q 1 s M) : cI d yS_tryMark [.ref 32, .ref 15, .int x, .int y] s M Q := by
  obtain ⟨d, rfl⟩ : ∃ e, d = e + 1 := ⟨d - 1, by omega⟩
  obtain ⟨hL, hV⟩ := hl
  have h3 := hV.2.2.1
  have h6 := hV.2.2.2.2.2.1
  have h7 := hV.2.2.2.2.2.2.1
  refine enS_tryMark (sp_hasPerson (by omega) (hL.2.2.1.trans h3) h7 (fun h => br_f (by decide) ?_) (fun h => br_t rfl ?_))
  · refine br_c (fun c => ?_) (fun c => br_c (fun c2 => ?_) (fun c2 => ?_))
    · exact h0 (fun q => by rw [inI_iff (n := 10) (by omega)] at q; exact q.2.1 c)
    · have hy : inI y 10 := by
        rw [inI_iff (by omega)]
        exact ⟨c, by rw [← lI 10]; grind⟩
      have := h1 h hy
      obtain ⟨p, hp, rfl⟩ := h
      rw [nI_clamp (by omega)] at this ⊢
      exact ⟨vpI (by omega) (by omega), this _ (SR_mark hs h6 h7 hp) (off_si off_rf (by decide))⟩
    · refine h0 (fun q => ?_)
      rw [inI_iff (n := 10) (by omega)] at q
      have := q.2.2
      rw [← lI 10] at this
      grind
  · exact h0 (fun q => h q.1)
theorem sp_trySwap {d : Nat} {s : pm_S} {M : pm_M} {g : Nat → Int32} {N T P : Nat} {x y : Int32} {Q : Int32 → pm_S → pm_M → Prop} (hd : 2 ≤ d) (hl : LV M g N T P) (hs : SR M 32 g T P) (hq : ∀ M', SR M' 32 (if whySwapF g T (ixN x.toInt64 P) (ixN y.toInt64 P) = 0 then swapF g T x.toNatClampNeg y.toNatClampNeg else g) T P → off C32 M M' → Q (whySwapF g T (ixN x.toInt64 P) (ixN y.toInt64 P)) s M') : cI d yS_trySwap [.ref 32, .ref 15, .int x, .int y] s M Q := by
  obtain ⟨d, rfl⟩ : ∃ e, d = e + 1 := ⟨d - 1, by omega⟩
  obtain ⟨hL, hV⟩ := hl
  obtain ⟨h1, h2, h3, h4, h5, h6, h7, h8, h9, h10, h11, h12⟩ := hV
  refine enS_trySwap (sp_hasPerson (by omega) (hL.2.2.1.trans h3) h7 (fun h => br_f (by decide) ?_) (fun h => br_t rfl ?_))
  · obtain ⟨p, hp, e, rfl⟩ := ixI h (by omega)
    rw [e, nI_clamp (by omega)] at hq
    refine sp_hasPerson (by omega) (hL.2.2.1.trans h3) h7 (fun h => br_f (by decide) ?_) (fun h => br_t rfl ?_)
    · obtain ⟨q, hq2, e2, rfl⟩ := ixI h (by omega)
      rw [e2, nI_clamp (by omega)] at hq
      rw [nI_inj (by omega) (by omega)]
      refine br_c (fun c => ?_) (fun c => ?_)
      · have := hq M
        simp only [whySwapF, if_pos c] at this
        exact this hs off_rf
      · simp only [whySwapF, if_neg c] at hq
        refine sp_heldThing (by omega) isS_32 hs h6 (by omega) (sp_heldThing (by omega) isS_32 hs h6 (by omega) ?_)
        simp only [oIheld h6]
        refine br_c (fun c1 => ?_) (fun c1 => br_c (fun c2 => ?_) (fun c2 => ?_))
        · have := hq M
          simp only [if_pos c1] at this
          exact this hs off_rf
        · have := hq M
          simp only [if_neg c1, if_pos c2] at this
          exact this hs off_rf
        · simp only [if_neg c1, if_neg c2, ite_true] at hq
          cases ha : heldF g T p with
          | none => exact absurd ha c1
          | some a =>
            cases hb : heldF g T q with
            | none => exact absurd hb c2
            | some b =>
              have hta := heldF_lt ha
              have htb := heldF_lt hb
              simp only [swapF, ha, hb] at hq
              simp only [oI]
              rw [nI_clamp (by omega), nI_clamp (by omega), lI 10, nI_add, nI_add]
              refine ⟨vpI (by omega) (by omega), vpI (by omega) (by omega), hq _ ?_ (off_si (off_si off_rf (by decide)) (by decide))⟩
              exact SR_where (SR_where hs h6 h7 hta.1) h6 h7 htb.1
    · have := hq M
      rw [ixI_none h (by omega)] at this
      exact this hs off_rf
  · have := hq M
    rw [ixI_none h (by omega)] at this
    exact this hs off_rf
theorem sp_tryOpen {d : Nat} {s : pm_S} {M : pm_M} {g : Nat → Int32} {N T P : Nat} {x : Int32} {Q : Int32 → pm_S → pm_M → Prop} (hd : 4 ≤ d) (hl : LV M g N T P) (hs : SR M 32 g T P) (hq : ∀ M', SR M' 32 (if whyOpenF g T (ixN x.toInt64 P) = 0 then openF g T x.toNatClampNeg else g) T P → off C32 M M' → Q (whyOpenF g T (ixN x.toInt64 P)) s M') : cI d yS_tryOpen [.ref 32, .ref 15, .int x] s M Q := by
  obtain ⟨d, rfl⟩ : ∃ e, d = e + 1 := ⟨d - 1, by omega⟩
  obtain ⟨hL, hV⟩ := hl
  obtain ⟨h1, h2, h3, h4, h5, h6, h7, h8, h9, h10, h11, h12⟩ := hV
  refine enS_tryOpen (sp_hasPerson (by omega) (hL.2.2.1.trans h3) h7 (fun h => br_f (by decide) ?_) (fun h => br_t rfl ?_))
  · obtain ⟨p, hp, e, rfl⟩ := ixI h (by omega)
    rw [e, nI_clamp (by omega)] at hq
    refine sp_heldThing (by omega) isS_32 hs h6 (by omega) ?_
    simp only [oIheld h6]
    refine br_c (fun c => ?_) (fun c => ?_)
    · have := hq M
      simp only [whyOpenF, c] at this
      exact this hs off_rf
    · cases hh : heldF g T p with
      | none => exact absurd hh c
      | some t =>
        have ht := heldF_lt hh
        simp only [whyOpenF, hh, openF] at hq
        simp only [oI]
        rw [nI_clamp (by omega), nI_clamp (by omega)]
        have e35 : M.1 35 p = g (66 + p) := (hs.2.2.2.2.1 p hp).1
        have e36 : M.1 36 p = g (72 + p) := (hs.2.2.2.2.1 p hp).2
        have e32 : M.1 32 4 = g 47 := hs.1
        have v6 : vp_in (nI p) 6 := vpI (by omega) (by omega)
        have v8 : vp_in (nI t) 8 := vpI (by omega) (by omega)
        rw [e35, e36, e32]
        refine ⟨v6, v6, v6, sp_cburden (by omega) hL h2 h6 (h9 t ht.1).2 ht.1 (fun M' hM' => ⟨v6, ?_⟩)⟩
        have e22 : M'.1 22 p = g (41 + p) := by
          rw [(hM' 22 (by decide)).1]; exact (hL.2.2.2.2.2.2.1 p hp).2
        have e34 : M'.1 34 t = g (58 + t) := by
          rw [(hM' 34 (by decide)).1]; exact (hs.2.2.2.1 t ht.1).2
        have hs' : SR M' 32 g T P := SR_off hM' hs (by decide)
        have ho : off C32 M M' := off_mo hM' (by decide)
        rw [e22, e34]
        refine br_c (fun c2 => ?_) (fun c2 => ?_)
        · simp only [if_pos c2, ite_true] at hq
          exact ⟨v6, v8, v8, hq _ (SR_often (SR_borne hs' h6 h7 hp) h6 h7 ht.1) (off_si (off_si ho (by decide)) (by decide))⟩
        · simp only [if_neg c2] at hq
          exact hq M' hs' ho
  · have := hq M
    rw [ixI_none h (by omega)] at this
    exact this hs off_rf
theorem sp_tryFetch {d : Nat} {s : pm_S} {M : pm_M} {g : Nat → Int32} {N T P : Nat} {x y : Int32} {Q : Int32 → pm_S → pm_M → Prop} (hd : 4 ≤ d) (hl : LV M g N T P) (hs : SR M 32 g T P) (hq : ∀ M', SR M' 32 (if whyFetchF g T (ixN x.toInt64 P) (ixN y.toInt64 T) = 0 then fetchF g x.toNatClampNeg y.toNatClampNeg else g) T P → off C32 M M' → Q (whyFetchF g T (ixN x.toInt64 P) (ixN y.toInt64 T)) s M') : cI d yS_tryFetch [.ref 32, .ref 15, .int x, .int y] s M Q := by
  obtain ⟨d, rfl⟩ : ∃ e, d = e + 1 := ⟨d - 1, by omega⟩
  obtain ⟨hL, hV⟩ := hl
  obtain ⟨h1, h2, h3, h4, h5, h6, h7, h8, h9, h10, h11, h12⟩ := hV
  refine enS_tryFetch (sp_hasPerson (by omega) (hL.2.2.1.trans h3) h7 (fun h => br_f (by decide) ?_) (fun h => br_t rfl ?_))
  · obtain ⟨p, hp, e, rfl⟩ := ixI h (by omega)
    rw [e, nI_clamp (by omega)] at hq
    refine sp_hasThing (by omega) isL_15 (hL.2.1.trans h2) h6 (fun h => br_f (by decide) ?_) (fun h => br_t rfl ?_)
    · obtain ⟨t, ht, e2, rfl⟩ := ixI h (by omega)
      rw [e2, nI_clamp (by omega)] at hq
      simp only [whyFetchF, fetchF] at hq
      refine sp_heldThing (by omega) isS_32 hs h6 (by omega) ?_
      simp only [oIheld h6]
      rw [nI_clamp (by omega), nI_clamp (by omega), lI 10, nI_add]
      have e33 : M.1 33 t = g (50 + t) := (hs.2.2.2.1 t ht).1
      have e35 : M.1 35 p = g (66 + p) := (hs.2.2.2.2.1 p hp).1
      have v6 : vp_in (nI p) 6 := vpI (by omega) (by omega)
      have v8 : vp_in (nI t) 8 := vpI (by omega) (by omega)
      rw [e33, e35]
      refine br_c (fun c => ⟨v8, br_c (fun c2 => ⟨v6, ?_⟩) (fun c2 => ?_)⟩) (fun c => ?_)
      · refine sp_claimBy (by omega) hL h2 h6 ht (fun M' hM' => ?_)
        have hs' : SR M' 32 g T P := SR_off hM' hs (by decide)
        have ho : off C32 M M' := off_mo hM' (by decide)
        simp only [if_pos c, if_pos c2] at hq
        refine br_c (fun c3 => ⟨v8, ?_⟩) (fun c3 => ?_)
        · simp only [if_pos c3, ite_true] at hq
          exact hq _ (SR_where hs' h6 h7 ht) (off_si ho (by decide))
        · simp only [if_neg c3] at hq
          exact hq _ hs' ho
      · simp only [if_pos c, if_neg c2] at hq
        exact hq M hs off_rf
      · simp only [if_neg c] at hq
        exact hq M hs off_rf
    · have := hq M
      rw [ixI_none h (by omega)] at this
      exact this hs off_rf
  · have := hq M
    rw [ixI_none h (by omega)] at this
    exact this hs off_rf
