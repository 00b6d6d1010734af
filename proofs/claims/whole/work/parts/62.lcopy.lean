theorem cS_congr {c c' w : Nat → Int32} {to : Nat} {x : Nat × List Int32} (h : ∀ i, i < to → c' i = c i) : cS c' w to x = cS c w to x := by
  unfold cS
  by_cases z : x.1 < to
  · rw [if_pos z, if_pos z, h _ z]
  · rw [if_neg z, if_neg z]
theorem cR_congr {c c' w : Nat → Int32} {to n : Nat} {x : Nat × List Int32} (h : ∀ i, i < to → c' i = c i) : cR c' w to n x = cR c w to n x := by
  induction n generalizing x with
  | zero => rfl
  | succ n ih =>
    unfold cR
    rw [cS_congr h]
    congr 1
    funext y
    exact ih
theorem sp_wbecome {d : Nat} {s : pm_S} {M : pm_M} {o q z : Nat} {Q : pm_S → pm_M → Prop} (hd : 2 ≤ d) (ho : isW o) (hq' : isW q) (hf : o + 3 ≤ q ∨ q + 3 ≤ o) (hz : M.1 q 3 = nI z) (h9 : z ≤ 900) (hq : ∀ M', (∀ k, 3 ≤ k → k < 8 → M'.1 o k = M.1 q k) → (∀ i, i < z → M'.1 (o + 1) i = M.1 (q + 1) i) → off [o, o + 1] M M' → Q s M') : cV d yW_become [.ref o, .ref q] s M Q := by
  obtain ⟨d, rfl⟩ : ∃ e, d = e + 1 := ⟨d - 1, by omega⟩
  refine enW_become ho hq' (sp_min (by omega) ?_)
  rw [hz]
  have e : (if (900 : Int32) < nI z then (900 : Int32) else nI z) = nI z := by
    rw [if_neg (by rw [lI 900, nI_ltP (by omega) (by omega)]; omega)]
  rw [e, si_eq, row_eq, nI_clamp (by omega)]
  have c0 : (0 : Int32).toNatClampNeg = 0 := by decide
  rw [c0]
  refine ⟨nI_pos (by omega), by omega, by omega, fun m1 e1 => ?_⟩
  rw [si_ne (c := q + 1) (by omega), si_ne (c := o + 1) (by omega)] at e1
  have o1 : off [o, o + 1] M m1 := by rw [e1]; exact off_ri (off_si off_rf (by simp)) (by simp)
  have r1 : m1.1 (o + 1) = va_cpy (M.1 (q + 1)) (M.1 (o + 1)) 0 0 z := by rw [e1, ri_eq]
  have s1 : m1.1 o = pm_row (M.1 o) 3 (nI z) := by rw [e1, ri_ne (by omega), si_eq]
  have q1 : m1.1 q = M.1 q := (o1 q (by simp; omega)).1
  have hqo : q ≠ o := by omega
  simp only [si_ne hqo, q1]
  refine hq _ (fun k h1 h2 => ?_) (fun i hi => ?_) (off_si (off_si (off_si (off_si o1 (by simp)) (by simp)) (by simp)) (by simp))
  · rw [si_eq, si_eq, si_eq, si_eq, s1]
    have : k = 3 ∨ k = 4 ∨ k = 5 ∨ k = 6 ∨ k = 7 := by omega
    rcases this with rfl | rfl | rfl | rfl | rfl
    · rw [row_ne (by omega), row_ne (by omega), row_ne (by omega), row_ne (by omega), row_eq, hz]
    · rw [row_ne (by omega), row_ne (by omega), row_ne (by omega), row_eq]
    · rw [row_ne (by omega), row_ne (by omega), row_eq]
    · rw [row_ne (by omega), row_eq]
    · rw [row_eq]
  · rw [si_ne (by omega), si_ne (by omega), si_ne (by omega), si_ne (by omega), r1, cpy0 hi]
theorem isW_L {l : Nat} (h : isL l) : isW (l + 8) := by
  unfold isL at h
  unfold isW
  simp at h ⊢
  omega
theorem sp_lbecome {d : Nat} {s : pm_S} {M : pm_M} {o q z : Nat} {Q : pm_S → pm_M → Prop} (hd : 3 ≤ d) (ho : isL o) (hq' : isL q) (hf : o + 12 ≤ q ∨ q + 12 ≤ o) (hz : M.1 (q + 8) 3 = nI z) (h9 : z ≤ 900) (hq : ∀ M', (∀ k, k < 5 → M'.1 o k = M.1 q k) → (∀ a j, 1 ≤ a → a ≤ 4 → j < 8 → M'.1 (o + a) j = M.1 (q + a) j) → (∀ a j, 5 ≤ a → a ≤ 7 → j < 6 → M'.1 (o + a) j = M.1 (q + a) j) → (∀ k, 3 ≤ k → k < 8 → M'.1 (o + 8) k = M.1 (q + 8) k) → (∀ i, i < z → M'.1 (o + 9) i = M.1 (q + 9) i) → off [o, o + 1, o + 2, o + 3, o + 4, o + 5, o + 6, o + 7, o + 8, o + 9] M M' → Q s M') : cV d yL_become [.ref o, .ref q] s M Q := by
  obtain ⟨d, rfl⟩ : ∃ e, d = e + 1 := ⟨d - 1, by omega⟩
  refine enL_become ho hq' (fun m1 e1 m2 e2 m3 e3 m4 e4 m5 e5 m6 e6 m7 e7 => ?_)
  have hqo : q ≠ o := by omega
  simp only [si_ne hqo] at e1
  rw [si_ne (c := q + 1) (by omega), si_ne (c := q + 1) (by omega), si_ne (c := q + 1) (by omega), si_ne (c := q + 1) (by omega), si_ne (c := q + 1) (by omega)] at e1
  have S : ∀ c, (q ≤ c ∧ c < q + 12) → c ∉ [o, o + 1, o + 2, o + 3, o + 4, o + 5, o + 6, o + 7, o + 8, o + 9] := by
    intro c hc hm
    simp at hm
    omega
  have o1 : off [o, o + 1, o + 2, o + 3, o + 4, o + 5, o + 6, o + 7, o + 8, o + 9] M m1 := by rw [e1]; exact off_ri (off_si (off_si (off_si (off_si (off_si off_rf (by simp)) (by simp)) (by simp)) (by simp)) (by simp)) (by simp)
  have o2 : off [o, o + 1, o + 2, o + 3, o + 4, o + 5, o + 6, o + 7, o + 8, o + 9] M m2 := by rw [e2]; exact off_ri o1 (by simp)
  have o3 : off [o, o + 1, o + 2, o + 3, o + 4, o + 5, o + 6, o + 7, o + 8, o + 9] M m3 := by rw [e3]; exact off_ri o2 (by simp)
  have o4 : off [o, o + 1, o + 2, o + 3, o + 4, o + 5, o + 6, o + 7, o + 8, o + 9] M m4 := by rw [e4]; exact off_ri o3 (by simp)
  have o5 : off [o, o + 1, o + 2, o + 3, o + 4, o + 5, o + 6, o + 7, o + 8, o + 9] M m5 := by rw [e5]; exact off_ri o4 (by simp)
  have o6 : off [o, o + 1, o + 2, o + 3, o + 4, o + 5, o + 6, o + 7, o + 8, o + 9] M m6 := by rw [e6]; exact off_ri o5 (by simp)
  have o7 : off [o, o + 1, o + 2, o + 3, o + 4, o + 5, o + 6, o + 7, o + 8, o + 9] M m7 := by rw [e7]; exact off_ri o6 (by simp)
  rw [(o1 (q + 2) (S _ (by omega))).1] at e2
  rw [(o2 (q + 3) (S _ (by omega))).1] at e3
  rw [(o3 (q + 4) (S _ (by omega))).1] at e4
  rw [(o4 (q + 5) (S _ (by omega))).1] at e5
  rw [(o5 (q + 6) (S _ (by omega))).1] at e6
  rw [(o6 (q + 7) (S _ (by omega))).1] at e7
  have head : ∀ k, k < 5 → m7.1 o k = M.1 q k := by
    intro k hk
    rw [e7, ri_ne (by omega), e6, ri_ne (by omega), e5, ri_ne (by omega), e4, ri_ne (by omega), e3, ri_ne (by omega), e2, ri_ne (by omega), e1, ri_ne (by omega), si_eq, si_eq, si_eq, si_eq, si_eq]
    have : k = 0 ∨ k = 1 ∨ k = 2 ∨ k = 3 ∨ k = 4 := by omega
    rcases this with rfl | rfl | rfl | rfl | rfl
    · rw [row_ne (by omega), row_ne (by omega), row_ne (by omega), row_ne (by omega), row_eq]
    · rw [row_ne (by omega), row_ne (by omega), row_ne (by omega), row_eq]
    · rw [row_ne (by omega), row_ne (by omega), row_eq]
    · rw [row_ne (by omega), row_eq]
    · rw [row_eq]
  have row8 : ∀ a j, 1 ≤ a → a ≤ 4 → j < 8 → m7.1 (o + a) j = M.1 (q + a) j := by
    intro a j h1 h2 hj
    have : a = 1 ∨ a = 2 ∨ a = 3 ∨ a = 4 := by omega
    rw [e7, ri_ne (by omega), e6, ri_ne (by omega), e5, ri_ne (by omega), e4]
    rcases this with rfl | rfl | rfl | rfl
    · rw [ri_ne (by omega), e3, ri_ne (by omega), e2, ri_ne (by omega), e1, ri_eq, cpy0 hj]
    · rw [ri_ne (by omega), e3, ri_ne (by omega), e2, ri_eq, cpy0 hj]
    · rw [ri_ne (by omega), e3, ri_eq, cpy0 hj]
    · rw [ri_eq, cpy0 hj]
  have row6 : ∀ a j, 5 ≤ a → a ≤ 7 → j < 6 → m7.1 (o + a) j = M.1 (q + a) j := by
    intro a j h1 h2 hj
    have : a = 5 ∨ a = 6 ∨ a = 7 := by omega
    rw [e7]
    rcases this with rfl | rfl | rfl
    · rw [ri_ne (by omega), e6, ri_ne (by omega), e5, ri_eq, cpy0 hj]
    · rw [ri_ne (by omega), e6, ri_eq, cpy0 hj]
    · rw [ri_eq, cpy0 hj]
  have z7 : m7.1 (q + 8) = M.1 (q + 8) := (o7 _ (S _ (by omega))).1
  have z9 : m7.1 (q + 9) = M.1 (q + 9) := (o7 _ (S _ (by omega))).1
  clear e1 e2 e3 e4 e5 e6 e7
  refine sp_wbecome (by omega) (isW_L ho) (isW_L hq') (by omega) (by rw [z7]; exact hz) h9 (fun M' w1 w2 wo => ?_)
  have nw : ∀ c, c ≠ o + 8 → c ≠ o + 9 → M'.1 c = m7.1 c := fun c h1 h2 => (wo c (by simp; omega)).1
  refine hq M' (fun k hk => ?_) (fun a j h1 h2 hj => ?_) (fun a j h1 h2 hj => ?_) (fun k h1 h2 => ?_) (fun i hi => ?_) (off_tr o7 (off_mo wo (by simp)))
  · rw [nw o (by omega) (by omega)]; exact head k hk
  · rw [nw _ (by omega) (by omega)]; exact row8 a j h1 h2 hj
  · rw [nw _ (by omega) (by omega)]; exact row6 a j h1 h2 hj
  · rw [w1 k h1 h2, z7]
  · have := w2 i hi
    rw [show o + 8 + 1 = o + 9 by omega, show q + 8 + 1 = q + 9 by omega, z9] at this
    exact this
theorem LR_copy {M M' : pm_M} {o q z T P : Nat} {g : Nat → Int32} (h8 : T ≤ 8) (h6 : P ≤ 6) (hl : LR M q g T P) (hz : LZ M q) (hz3 : M.1 (q + 8) 3 = nI z) (h9 : z ≤ 900) (a1 : ∀ k, k < 5 → M'.1 o k = M.1 q k) (a2 : ∀ a j, 1 ≤ a → a ≤ 4 → j < 8 → M'.1 (o + a) j = M.1 (q + a) j) (a3 : ∀ a j, 5 ≤ a → a ≤ 7 → j < 6 → M'.1 (o + a) j = M.1 (q + a) j) (a4 : ∀ k, 3 ≤ k → k < 8 → M'.1 (o + 8) k = M.1 (q + 8) k) (a5 : ∀ i, i < z → M'.1 (o + 9) i = M.1 (q + 9) i) : LR M' o g T P ∧ LZ M' o := by
  obtain ⟨b1, b2, b3, b4, b5, b6, b7, b8, b9⟩ := hl
  obtain ⟨z', ca, cb, y1, y2, y3, y4, y5, y6⟩ := hz
  have ez : z' = z := by
    rw [hz3, nI_inj (by omega) (by omega)] at y4
    exact y4.symm
  subst ez
  refine ⟨⟨?_, ?_, ?_, ?_, ?_, fun t ht => ?_, fun p hp => ?_, ?_, ?_⟩, z', ca, cb, y1, y2, y3, ?_, ?_, ?_⟩
  · rw [a1 0 (by omega)]; exact b1
  · rw [a1 1 (by omega)]; exact b2
  · rw [a1 2 (by omega)]; exact b3
  · rw [a1 3 (by omega)]; exact b4
  · rw [a1 4 (by omega)]; exact b5
  · rw [a2 2 t (by omega) (by omega) (by omega), a2 3 t (by omega) (by omega) (by omega)]; exact b6 t ht
  · rw [a3 5 p (by omega) (by omega) (by omega), a3 7 p (by omega) (by omega) (by omega)]; exact b7 p hp
  · obtain ⟨fr, to, c1, c2, c3, c4, c5, c6⟩ := b8
    have : to ≤ z' := by
      rw [y5, nI_inj (by omega) (by omega)] at c4
      omega
    refine ⟨fr, to, c1, c2, by rw [a4 _ (by omega) (by omega)]; exact c3, by rw [a4 _ (by omega) (by omega)]; exact c4, c5, fun h w w' hw => ?_⟩
    obtain ⟨n, n1, n2⟩ := c6 h w w' hw
    exact ⟨n, n1, by rw [cR_congr (fun i hi => a5 i (by omega))]; exact n2⟩
  · obtain ⟨fr, to, c1, c2, c3, c4, c5, c6⟩ := b9
    have : to ≤ z' := by
      rw [y6, nI_inj (by omega) (by omega)] at c4
      omega
    refine ⟨fr, to, c1, c2, by rw [a4 _ (by omega) (by omega)]; exact c3, by rw [a4 _ (by omega) (by omega)]; exact c4, c5, fun h w w' hw => ?_⟩
    obtain ⟨n, n1, n2⟩ := c6 h w w' hw
    exact ⟨n, n1, by rw [cR_congr (fun i hi => a5 i (by omega))]; exact n2⟩
  · rw [a4 3 (by omega) (by omega)]; exact y4
  · rw [a4 5 (by omega) (by omega)]; exact y5
  · rw [a4 7 (by omega) (by omega)]; exact y6
