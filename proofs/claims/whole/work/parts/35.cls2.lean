/-! the line, the state as the object has them, by a row like the reference's -/
/-- the law is the same: class's steps from fr to to, the row's own -/
def lwS (M : pm_M) (lw st : Nat) (g : Nat → Int32) (law lim : Nat) : Prop := ∃ fr to : Nat, fr ≤ to ∧ to ≤ 900 ∧ M.1 lw (4 + 2 * law) = nI fr ∧ M.1 lw (5 + 2 * law) = nI to ∧ (g (5 + law) = 0 ↔ fr = to) ∧ (¬ g (5 + law) = 0 → ∀ w w' : Nat → Int32, (∀ i, i < lim → w i = w' i) → ∃ n, n ≤ 900 ∧ cR (M.1 st) w to n (fr, []) = some (to, [evF g law w']))
/-- the line object l is what the row tells -/
def LR (M : pm_M) (l : Nat) (g : Nat → Int32) (T P : Nat) : Prop := M.1 l 0 = g 1 ∧ M.1 l 1 = g 2 ∧ M.1 l 2 = g 3 ∧ M.1 l 3 = g 0 ∧ M.1 l 4 = g 4 ∧ (∀ t, t < T → M.1 (l + 2) t = g (19 + t) ∧ M.1 (l + 3) t = g (27 + t)) ∧ (∀ p, p < P → M.1 (l + 5) p = g (35 + p) ∧ M.1 (l + 7) p = g (41 + p)) ∧ lwS M (l + 8) (l + 9) g 0 5 ∧ lwS M (l + 8) (l + 9) g 1 7
/-- the state object o is what the row tells -/
def SR (M : pm_M) (o : Nat) (g : Nat → Int32) (T P : Nat) : Prop := M.1 o 4 = g 47 ∧ M.1 o 5 = g 48 ∧ M.1 o 6 = g 49 ∧ (∀ t, t < T → M.1 (o + 1) t = g (50 + t) ∧ M.1 (o + 2) t = g (58 + t)) ∧ (∀ p, p < P → M.1 (o + 3) p = g (66 + p) ∧ M.1 (o + 4) p = g (72 + p)) ∧ (∀ t, T ≤ t → t < 8 → M.1 (o + 1) t < 10)
/-- what a row must be -/
def Vd (g : Nat → Int32) (N T P : Nat) : Prop := g 1 = nI N ∧ g 2 = nI T ∧ g 3 = nI P ∧ 2 ≤ N ∧ N ≤ 8 ∧ T ≤ 8 ∧ P ≤ 6 ∧ (∃ k : Nat, k ≤ 10 ∧ g 4 = nI k) ∧ (∀ t, t < T → (∃ k : Nat, k ≤ 9 ∧ g (19 + t) = nI k) ∧ (∃ k : Nat, k ≤ 9 ∧ g (27 + t) = nI k)) ∧ (∀ p, p < P → (∃ k : Nat, k < N ∧ g (35 + p) = nI k) ∧ (∃ k : Nat, k ≤ 99 ∧ g (41 + p) = nI k)) ∧ lwOk g 0 5 ∧ lwOk g 1 7
/-- what the state in a row must be -/
def Vs (g : Nat → Int32) (N T P : Nat) : Prop := (g 47 = 0 ∨ g 47 = 1) ∧ (∀ t, t < T → (∃ k : Nat, k < N ∧ g (50 + t) = nI k) ∨ (∃ p : Nat, p < P ∧ g (50 + t) = nI (10 + p)) ∨ g (50 + t) = nI 99) ∧ (∀ t t' p : Nat, t < T → t' < T → p < P → g (50 + t) = nI (10 + p) → g (50 + t') = nI (10 + p) → t = t') ∧ (∀ p, p < P → (∃ k : Nat, k ≤ 9 ∧ g (66 + p) = nI k) ∧ (∃ k : Nat, k ≤ 99 ∧ g (72 + p) = nI k))
def heldF (g : Nat → Int32) (T p : Nat) : Option Nat := fst (fun t => decide (g (50 + t) = nI (10 + p))) T
theorem heldF_lt {g : Nat → Int32} {T p i : Nat} (h : heldF g T p = some i) : i < T ∧ g (50 + i) = nI (10 + p) := by
  rcases fst_cases (fun t => decide (g (50 + t) = nI (10 + p))) T with ⟨h1, _⟩ | ⟨j, h1, h2, h3, _⟩
  · unfold heldF at h; rw [h1] at h; cases h
  · unfold heldF at h; rw [h1] at h; cases h; exact ⟨h2, by simpa using h3⟩
theorem sp_heldByN {d : Nat} {s : pm_S} {M : pm_M} {g : Nat → Int32} {T p : Nat} {Q : Int32 → pm_S → pm_M → Prop} (hd : 1 ≤ d) (hg : M.1 160 = g) (hT : g 2 = nI T) (h8 : T ≤ 8) (hq : Q (oI (heldF g T p)) s M) : cI d yM_heldBy [.ref 159, .int (nI p)] s M Q := by
  obtain ⟨d, rfl⟩ : ∃ e, d = e + 1 := ⟨d - 1, by omega⟩
  refine enM_heldBy ?_
  refine loop_fst (L := fun i => wM_heldBy d 2 [.ref 159, .int (nI p), .int (nI i)] [] s M Q) (K := fun r => Q (oI r) s M) hq ?_ ?_
  · intro h
    refine sgM_heldBy_2 (br_t ?_ h)
    rw [hg, hT, nI_leP (by omega) (by omega)]
    exact Nat.le_refl _
  · intro i hi h1 h2
    refine sgM_heldBy_2 (br_f ?_ ?_)
    · rw [hg, hT, nI_leP (by omega) (by omega)]; omega
    rw [lI 50, nI_add, nI_clamp (by omega), hg, lI 10, nI_add, nI_1]
    exact ⟨vpI (by omega) (by omega), fun c => h1 (by simpa using c), fun c => h2 (by simpa using c)⟩
theorem sp_heldThing {d : Nat} {s : pm_S} {M : pm_M} {g : Nat → Int32} {o T P p : Nat} {Q : Int32 → pm_S → pm_M → Prop} (hd : 1 ≤ d) (ho : isS o) (hs : SR M o g T P) (h8 : T ≤ 8) (hp : p < 6) (hq : Q (oI (heldF g T p)) s M) : cI d yS_heldThing [.ref o, .int (nI p)] s M Q := by
  obtain ⟨d, rfl⟩ : ∃ e, d = e + 1 := ⟨d - 1, by omega⟩
  refine enS_heldThing ho (br_f (nI_pos (by omega)) (br_t (by rw [lI 6, nI_ltP (by omega) (by omega)]; exact hp) ?_))
  obtain ⟨-, -, -, h1, -, h2⟩ := hs
  have e : heldF g T p = fst (fun t => decide (M.1 (o + 1) t = nI (10 + p))) 8 := by
    rw [fst_stop (n := T) h8 ?_]
    · exact fst_congr (fun i hi => by rw [(h1 i hi).1])
    · intro i hi hi8
      have := h2 i hi hi8
      simp only [decide_eq_false_iff_not]
      intro q
      rw [q, lI 10, nI_ltP (by omega) (by omega)] at this
      omega
  rw [e] at hq
  refine loop_fst (L := fun i => wS_heldThing d 14 [.ref o, .int (nI p), .int (nI i)] [] s M Q) (K := fun r => Q (oI r) s M) hq ?_ ?_
  · intro h
    exact sgS_heldThing_14 ho (br_t (by decide) h)
  · intro i hi h1 h2
    refine sgS_heldThing_14 ho (br_f ?_ ?_)
    · rw [lI 8, nI_leP (by omega) (by omega)]; omega
    rw [nI_clamp (by omega), lI 10, nI_add, nI_1]
    exact ⟨vpI (by omega) (by omega), fun c => h1 (by simpa using c), fun c => h2 (by simpa using c)⟩
theorem inI_iff {x : Int32} {n : Nat} (hn : n < 2 ^ 30) : inI x n ↔ ¬ x < 0 ∧ ¬ nI n ≤ x := by
  constructor
  · rintro ⟨k, hk, rfl⟩
    exact ⟨nI_pos (by omega), by rw [nI_leP (by omega) (by omega)]; omega⟩
  · rintro ⟨h0, h1⟩
    obtain ⟨j, hj, rfl⟩ := nI_of h0
    rw [nI_leP (by omega) (by omega)] at h1
    exact ⟨j, by omega, rfl⟩
theorem sp_hasThing {d : Nat} {s : pm_S} {M : pm_M} {o T : Nat} {x : Int32} {Q : Int32 → pm_S → pm_M → Prop} (hd : 1 ≤ d) (ho : isL o) (hT : M.1 o 1 = nI T) (h8 : T ≤ 8) (h1 : inI x T → Q 1 s M) (h0 : ¬ inI x T → Q 0 s M) : cI d yL_hasThing [.ref o, .int x] s M Q := by
  obtain ⟨d, rfl⟩ : ∃ e, d = e + 1 := ⟨d - 1, by omega⟩
  refine enL_hasThing ho ?_
  rw [hT]
  have hi := inI_iff (x := x) (n := T) (by omega)
  by_cases a : x < 0
  · rw [if_pos a]; exact h0 (fun q => (hi.mp q).1 a)
  rw [if_neg a]
  by_cases b : nI T ≤ x
  · rw [if_pos b]; exact h0 (fun q => (hi.mp q).2 b)
  rw [if_neg b]
  obtain ⟨j, hj, rfl⟩ := hi.mpr ⟨a, b⟩
  rw [if_neg (by rw [lI 8, nI_leP (by omega) (by omega)]; omega)]
  exact h1 ⟨j, hj, rfl⟩
theorem sp_hasPerson {d : Nat} {s : pm_S} {M : pm_M} {P : Nat} {x : Int32} {Q : Int32 → pm_S → pm_M → Prop} (hd : 1 ≤ d) (hT : M.1 15 2 = nI P) (h8 : P ≤ 6) (h1 : inI x P → Q 1 s M) (h0 : ¬ inI x P → Q 0 s M) : cI d yL_hasPerson [.ref 15, .int x] s M Q := by
  obtain ⟨d, rfl⟩ : ∃ e, d = e + 1 := ⟨d - 1, by omega⟩
  refine enL_hasPerson ?_
  rw [hT]
  have hi := inI_iff (x := x) (n := P) (by omega)
  by_cases a : x < 0
  · rw [if_pos a]; exact h0 (fun q => (hi.mp q).1 a)
  rw [if_neg a]
  by_cases b : nI P ≤ x
  · rw [if_pos b]; exact h0 (fun q => (hi.mp q).2 b)
  rw [if_neg b]
  obtain ⟨j, hj, rfl⟩ := hi.mpr ⟨a, b⟩
  rw [if_neg (by rw [lI 6, nI_leP (by omega) (by omega)]; omega)]
  exact h1 ⟨j, hj, rfl⟩
theorem sp_hasStation {d : Nat} {s : pm_S} {M : pm_M} {N : Nat} {x : Int32} {Q : Int32 → pm_S → pm_M → Prop} (hd : 1 ≤ d) (hT : M.1 15 0 = nI N) (h8 : N ≤ 8) (h1 : inI x N → Q 1 s M) (h0 : ¬ inI x N → Q 0 s M) : cI d yL_hasStation [.ref 15, .int x] s M Q := by
  obtain ⟨d, rfl⟩ : ∃ e, d = e + 1 := ⟨d - 1, by omega⟩
  refine enL_hasStation ?_
  rw [hT]
  have hi := inI_iff (x := x) (n := N) (by omega)
  by_cases a : x < 0
  · rw [if_pos a]; exact h0 (fun q => (hi.mp q).1 a)
  rw [if_neg a]
  by_cases b : nI N ≤ x
  · rw [if_pos b]; exact h0 (fun q => (hi.mp q).2 b)
  rw [if_neg b]
  exact h1 (hi.mpr ⟨a, b⟩)
/-- the facts told, as the words -/
theorem facts_eq {M : pm_M} {g : Nat → Int32} {mk : Int32} {p t T P : Nat} (hl : LR M 15 g T P) (ht : t < T) : ∀ i, i < 5 → (pm_si (pm_si (pm_si (pm_si (pm_si M 26 0 (nI p)) 26 1 mk) 26 2 (nI t)) 26 3 (M.1 17 t)) 26 4 (M.1 18 t)).1 26 i = wv g mk p t 0 0 i := by
  obtain ⟨-, -, -, -, -, h1, -⟩ := hl
  have e1 : M.1 17 t = g (19 + t) := (h1 t ht).1
  have e2 : M.1 18 t = g (27 + t) := (h1 t ht).2
  intro i hi
  simp only [si_eq, e1, e2]
  rcases (show i = 0 ∨ i = 1 ∨ i = 2 ∨ i = 3 ∨ i = 4 by omega) with rfl | rfl | rfl | rfl | rfl <;> simp [pm_row, wv]
theorem sp_tellFacts {d : Nat} {s : pm_S} {M : pm_M} {mk : Int32} {p t : Nat} {Q : pm_S → pm_M → Prop} (hd : 1 ≤ d) (h8 : t < 8) (hq : Q s (pm_si (pm_si (pm_si (pm_si (pm_si M 26 0 (nI p)) 26 1 mk) 26 2 (nI t)) 26 3 (M.1 17 t)) 26 4 (M.1 18 t))) : cV d yL_tellFacts [.ref 15, .int mk, .int (nI p), .int (nI t)] s M Q := by
  obtain ⟨d, rfl⟩ : ∃ e, d = e + 1 := ⟨d - 1, by omega⟩
  refine enL_tellFacts ?_
  rw [nI_clamp (by omega)]
  exact ⟨vpI (by omega) (by omega), vpI (by omega) (by omega), hq⟩
theorem sp_claimBy {d : Nat} {s : pm_S} {M : pm_M} {g : Nat → Int32} {mk : Int32} {p t T P : Nat} {Q : Int32 → pm_S → pm_M → Prop} (hd : 3 ≤ d) (hl : LR M 15 g T P) (hT : g 2 = nI T) (h8 : T ≤ 8) (ht : t < T) (hq : ∀ M', off [25, 26] M M' → Q (claimF g mk p t) s M') : cI d yL_claimBy [.ref 15, .int mk, .int (nI p), .int (nI t)] s M Q := by
  obtain ⟨d, rfl⟩ : ∃ e, d = e + 1 := ⟨d - 1, by omega⟩
  have hl2 := hl
  obtain ⟨-, b1, -, -, -, b5, -, ⟨fr, to, l1, l2, l3, l4, l5, l6⟩, -⟩ := hl
  refine enL_claimBy (sp_hasThing (by omega) L15 (b1.trans hT) h8 (fun _ => br_f (by decide) ?_) (fun q => absurd ⟨t, ht, rfl⟩ q))
  rw [show M.1 23 5 = nI to from l4, show M.1 23 4 = nI fr from l3, nI_clamp (by omega), show M.1 17 t = g (19 + t) from (b5 t ht).1]
  refine br_c (fun h => ?_) (fun h => ?_)
  · rw [nI_inj (by omega) (by omega)] at h
    have := hq M off_rf
    unfold claimF at this
    rw [if_pos (l5.mpr h.symm)] at this
    exact ⟨vpI (by omega) (by omega), this⟩
  · rw [nI_inj (by omega) (by omega)] at h
    have ht0 : ¬ g 5 = 0 := fun q => h ((l5.mp q).symm)
    refine sp_tellFacts (by omega) (by omega) ?_
    generalize hM1 : pm_si (pm_si (pm_si (pm_si (pm_si M 26 0 (nI p)) 26 1 mk) 26 2 (nI t)) 26 3 (M.1 17 t)) 26 4 (M.1 18 t) = M1
    have ho1 : off [25, 26] M M1 := by
      rw [← hM1]
      exact off_si (off_si (off_si (off_si (off_si off_rf (by decide)) (by decide)) (by decide)) (by decide)) (by decide)
    have hw := facts_eq (mk := mk) (p := p) hl2 ht
    rw [hM1] at hw
    obtain ⟨n, hn, hr⟩ := l6 ht0 (M1.1 26) (wv g mk p t 0 0) hw
    rw [(ho1 23 (by decide)).1, show M.1 23 4 = nI fr from l3, show M.1 23 5 = nI to from l4]
    refine sp_worth (by omega) l2 (by omega) hn (by rw [(ho1 24 (by decide)).1]; exact hr) (fun M' hM' => ?_)
    have := hq M' (off_tr ho1 (off_mo hM' (by decide)))
    unfold claimF at this
    rw [if_neg ht0] at this
    exact this
theorem sp_min {d : Nat} {s : pm_S} {M : pm_M} {x y : Int32} {Q : Int32 → pm_S → pm_M → Prop} (hd : 1 ≤ d) (hq : Q (if y < x then y else x) s M) : cI d ymath_min [.int x, .int y] s M Q := by
  obtain ⟨d, rfl⟩ : ∃ e, d = e + 1 := ⟨d - 1, by omega⟩
  exact enmath_min hq
theorem sp_max {d : Nat} {s : pm_S} {M : pm_M} {x y : Int32} {Q : Int32 → pm_S → pm_M → Prop} (hd : 1 ≤ d) (hq : Q (if x < y then y else x) s M) : cI d ymath_max [.int x, .int y] s M Q := by
  obtain ⟨d, rfl⟩ : ∃ e, d = e + 1 := ⟨d - 1, by omega⟩
  exact enmath_max hq
theorem clip_mm (r : Int32) : (if 0 < (if r < 99 then r else 99) then (if r < 99 then r else 99) else 0) = clip r := by unfold clip; grind
theorem clip_id {k : Nat} (h : k ≤ 99) : clip (nI k) = nI k := by
  unfold clip
  rw [if_pos (nI_pos' (by omega)), if_pos (by rw [lI 99, nI_leP (by omega) (by omega)]; exact h)]
theorem sp_cburden {d : Nat} {s : pm_S} {M : pm_M} {g : Nat → Int32} {mk wet bo : Int32} {p t T P : Nat} {Q : Int32 → pm_S → pm_M → Prop} (hd : 3 ≤ d) (hl : LR M 15 g T P) (hT : g 2 = nI T) (h8 : T ≤ 8) (hwt : ∃ k : Nat, k ≤ 9 ∧ g (27 + t) = nI k) (ht : t < T) (hq : ∀ M', off [25, 26] M M' → Q (burdenF g mk p t wet bo) s M') : cI d yL_burdenOf [.ref 15, .int mk, .int (nI p), .int (nI t), .int wet, .int bo] s M Q := by
  obtain ⟨d, rfl⟩ : ∃ e, d = e + 1 := ⟨d - 1, by omega⟩
  have hl2 := hl
  obtain ⟨-, b1, -, -, -, b5, -, -, ⟨fr, to, l1, l2, l3, l4, l5, l6⟩⟩ := hl
  refine enL_burdenOf (sp_hasThing (by omega) L15 (b1.trans hT) h8 (fun _ => br_f (by decide) ?_) (fun q => absurd ⟨t, ht, rfl⟩ q))
  rw [show M.1 23 7 = nI to from l4, show M.1 23 6 = nI fr from l3, nI_clamp (by omega), show M.1 18 t = g (27 + t) from (b5 t ht).2]
  refine br_c (fun h => ?_) (fun h => ?_)
  · rw [nI_inj (by omega) (by omega)] at h
    have := hq M off_rf
    unfold burdenF at this
    obtain ⟨k, hk, e⟩ := hwt
    rw [if_pos (l5.mpr h.symm), e, clip_id (by omega), ← e] at this
    exact ⟨vpI (by omega) (by omega), this⟩
  · rw [nI_inj (by omega) (by omega)] at h
    have ht0 : ¬ g 6 = 0 := fun q => h ((l5.mp q).symm)
    refine sp_tellFacts (by omega) (by omega) ?_
    generalize hM1 : pm_si (pm_si (pm_si (pm_si (pm_si M 26 0 (nI p)) 26 1 mk) 26 2 (nI t)) 26 3 (M.1 17 t)) 26 4 (M.1 18 t) = M1
    have ho1 : off [25, 26] M M1 := by
      rw [← hM1]
      exact off_si (off_si (off_si (off_si (off_si off_rf (by decide)) (by decide)) (by decide)) (by decide)) (by decide)
    have hw := facts_eq (mk := mk) (p := p) hl2 ht
    rw [hM1] at hw
    generalize hM2 : pm_si (pm_si M1 26 5 wet) 26 6 bo = M2
    have ho2 : off [25, 26] M M2 := by
      rw [← hM2]
      exact off_si (off_si ho1 (by decide)) (by decide)
    have hw2 : ∀ i, i < 7 → M2.1 26 i = wv g mk p t wet bo i := by
      intro i hi
      rw [← hM2]
      simp only [si_eq]
      by_cases h5 : i < 5
      · rw [row_ne (by omega), row_ne (by omega), hw i h5]
        rcases (show i = 0 ∨ i = 1 ∨ i = 2 ∨ i = 3 ∨ i = 4 by omega) with rfl | rfl | rfl | rfl | rfl <;> rfl
      · rcases (show i = 5 ∨ i = 6 by omega) with rfl | rfl <;> simp [pm_row, wv]
    obtain ⟨n, hn, hr⟩ := l6 ht0 (M2.1 26) (wv g mk p t wet bo) hw2
    rw [(ho1 23 (by decide)).1, show M.1 23 6 = nI fr from l3, show M.1 23 7 = nI to from l4]
    refine sp_worth (by omega) l2 (by omega) hn (by rw [(ho2 24 (by decide)).1]; exact hr) (fun M' hM' => ?_)
    refine sp_min (by omega) (sp_max (by omega) ?_)
    rw [clip_mm]
    have := hq M' (off_tr ho2 (off_mo hM' (by decide)))
    unfold burdenF at this
    rw [if_neg ht0] at this
    exact this
