theorem i_nlt {a b : Int32} (h : a ≤ b) : ¬ b < a := by grind
theorem i_le {a b : Int32} (h : ¬ a < b) : b ≤ a := by grind
theorem i_nle {a b : Int32} (h : a < b) : ¬ b ≤ a := by grind
theorem i_lt {a b : Int32} (h : ¬ a ≤ b) : b < a := by grind
theorem clip_nat (x : Int32) : ∃ k : Nat, k ≤ 99 ∧ clip x = nI k := by
  unfold clip
  by_cases h : 0 ≤ x
  · rw [if_pos h]
    by_cases h2 : x ≤ 99
    · rw [if_pos h2]
      exact nI_of2 (M := 99) (n := 99) (by decide) (by grind) h2
    · rw [if_neg h2]; exact ⟨99, by omega, rfl⟩
  · rw [if_neg h]; exact ⟨0, by omega, rfl⟩
theorem burden_nat {g : Nat → Int32} {mk wet bo : Int32} {p t : Nat} : ∃ k : Nat, k ≤ 99 ∧ burdenF g mk p t wet bo = nI k := clip_nat _
theorem Vs_open {g : Nat → Int32} {N T P p t : Nat} (hV : Vd g N T P) (hs : Vs g N T P) (hp : p < P) (hh : heldF g T p = some t) (hb : g (72 + p) + burdenF g (g (66 + p)) p t (g 47) (g (72 + p)) ≤ g (41 + p)) : Vs (openF g T p) N T P := by
  have h7 := hV.2.2.2.2.2.2.1
  obtain ⟨_, m, hm, em⟩ := hV.2.2.2.2.2.2.2.2.2.1 p hp
  obtain ⟨_, b, hb2, eb⟩ := hs.2.2.2 p hp
  obtain ⟨k, hk, ek⟩ := burden_nat (g := g) (mk := g (66 + p)) (wet := g 47) (bo := g (72 + p)) (p := p) (t := t)
  unfold openF
  rw [hh]
  dsimp only
  rw [ek, eb, nI_add] at hb ⊢
  rw [em, nI_leP (by omega) (by omega)] at hb
  have h6 := hV.2.2.2.2.2.1
  have ht := (heldF_lt hh).1
  refine Vs_out (Vd_congr (eqL_row eqL_rf (by omega) (by omega)) hV) (Vs_borne hV hs hp (by omega)) (by omega)
/-! a day -/
theorem heldF_congr {g g' : Nat → Int32} {T p : Nat} (h : ∀ t, t < T → g' (50 + t) = g (50 + t)) : heldF g' T p = heldF g T p := by
  unfold heldF
  exact fst_congr (fun i hi => by rw [h i hi])
theorem tk_congr {g g' : Nat → Int32} {T P t : Nat} {st : Int32} (he : eqL g g') (hw : ∀ i, 50 ≤ i → i < 72 → g' i = g i) (h8 : T ≤ 8) (h6 : P ≤ 6) (ht : t < 8) : tk g' T P t st = tk g T P t st := by
  unfold tk
  refine itr_congr (fun p hp x => ?_)
  have e : tkc g' T t st p = tkc g T t st p := by
    unfold tkc
    rw [he _ (by omega), heldF_congr (fun t ht => hw _ (by omega) (by omega)), hw _ (by omega) (by omega), claimF_congr he ht]
  unfold tk1
  rw [e]
theorem tk_some {g : Nat → Int32} {T P t p : Nat} {st : Int32} (h : (tk g T P t st).1 = some p) : p < P ∧ heldF g T p = none := by
  have := itr_inv (f := tk1 g T t st) (n := P) (a := (none, 0)) (fun n b => 0 ≤ b.2 ∧ ∀ i, b.1 = some i → i < n ∧ heldF g T i = none) ⟨by decide, fun i h => by cases h⟩ (fun i x hi hx => by
    unfold tk1
    by_cases z : x.2 < tkc g T t st i
    · rw [if_pos z]
      refine ⟨by have := hx.1; grind, fun j hj => ?_⟩
      cases hj
      refine ⟨by omega, ?_⟩
      by_cases q : g (35 + i) = st ∧ heldF g T i = none
      · exact q.2
      · unfold tkc at z
        rw [if_neg q] at z
        have := hx.1
        grind
    · rw [if_neg z]
      exact ⟨hx.1, fun j hj => by have := hx.2 j hj; exact ⟨by omega, this.2⟩⟩)
  exact this.2 p h
theorem tk_ge {g : Nat → Int32} {T t i : Nat} {st : Int32} : 0 ≤ (itr (tk1 g T t st) i (none, 0)).2 :=
  itr_inv (f := tk1 g T t st) (n := i) (a := (none, 0)) (fun _ b => 0 ≤ b.2) (by decide) (fun i x hi hx => by
    unfold tk1
    by_cases z : x.2 < tkc g T t st i
    · rw [if_pos z]; show 0 ≤ tkc g T t st i; grind
    · rw [if_neg z]; exact hx)
def rollR (g : Nat → Int32) (N T P t : Nat) (to : Int32) : Option Nat := if nI N ≤ to then none else (tk g T P t to).1
def rollV (N : Nat) (to : Int32) (r : Option Nat) : Int32 := if to = nI N then 99 else if oI r = -1 then to else 10 + oI r
theorem roll1_eq {N T P t : Nat} {x : (Nat → Int32) × Int32} : roll1 N T P t x = if x.1 (50 + t) < 10 then (pm_row x.1 (50 + t) (rollV N (x.1 (50 + t) + 1) (rollR x.1 N T P t (x.1 (50 + t) + 1))), x.2 + (if oI (rollR x.1 N T P t (x.1 (50 + t) + 1)) = -1 then 0 else 1)) else x := rfl
theorem rollR_some {g : Nat → Int32} {N T P t p : Nat} {to : Int32} (h : rollR g N T P t to = some p) : p < P ∧ heldF g T p = none := by
  unfold rollR at h
  split at h
  · cases h
  · exact tk_some h
/-- a thing that rolls is at a station -/
theorem Vs_rolls {g : Nat → Int32} {N T P t : Nat} (hV : Vd g N T P) (hs : Vs g N T P) (ht : t < T) (h : g (50 + t) < 10) : ∃ k, k < N ∧ g (50 + t) = nI k := by
  have h7 := hV.2.2.2.2.2.2.1
  rcases hs.2.1 t ht with q | ⟨p, q1, q2⟩ | q
  · exact q
  · rw [q2, lI 10, nI_ltP (by omega) (by omega)] at h; omega
  · rw [q, lI 10, nI_ltP (by omega) (by omega)] at h; omega
theorem Vs_roll1 {g : Nat → Int32} {N T P t : Nat} {n : Int32} (hV : Vd g N T P) (hs : Vs g N T P) (ht : t < T) : Vs (roll1 N T P t (g, n)).1 N T P := by
  have h5 := hV.2.2.2.2.1
  have h7 := hV.2.2.2.2.2.2.1
  rw [roll1_eq]
  by_cases c : g (50 + t) < 10
  · rw [if_pos c]
    obtain ⟨k, hk, ek⟩ := Vs_rolls hV hs ht c
    dsimp only
    refine Vs_where hV hs ht ?_
    rw [ek, nI_1]
    unfold rollV
    simp only [nI_inj (a := k + 1) (b := N) (by omega) (by omega)]
    by_cases c2 : k + 1 = N
    · simp only [if_pos c2]; exact Or.inr (Or.inr rfl)
    · simp only [if_neg c2]
      cases hr : rollR g N T P t (nI (k + 1)) with
      | none => exact Or.inl ⟨k + 1, by omega, by simp [oI]⟩
      | some p =>
        have := rollR_some hr
        refine Or.inr (Or.inl ⟨p, this.1, ?_, fun t' h' _ => heldF_none this.2 t' h'⟩)
        simp only [oI, m1_ne (a := p) (by omega), if_false]
        rw [lI 10, nI_add]
  · rw [if_neg c]; exact hs
theorem itr_roll {g : Nat → Int32} {N T P i : Nat} {n : Int32} (hV : Vd g N T P) (hs : Vs g N T P) (hi : i ≤ T) : eqL g (itr (roll1 N T P) i (g, n)).1 ∧ Vs (itr (roll1 N T P) i (g, n)).1 N T P := by
  have h6 := hV.2.2.2.2.2.1
  induction i with
  | zero => exact ⟨eqL_rf, hs⟩
  | succ i ih =>
    obtain ⟨q1, q2⟩ := ih (by omega)
    rw [itr_s]
    refine ⟨roll1_eqL q1 (by omega), ?_⟩
    generalize itr (roll1 N T P) i (g, n) = x at q1 q2
    exact Vs_roll1 (Vd_congr q1 hV) q2 (by omega)
theorem Vs_roll {g : Nat → Int32} {N T P : Nat} (hV : Vd g N T P) (hs : Vs g N T P) : eqL g (rollF g N T P).1 ∧ Vs (rollF g N T P).1 N T P := itr_roll hV hs (Nat.le_refl _)
theorem row_swap {α : Type} {f : Nat → α} {a b : Nat} {v w : α} (h : a ≠ b) : pm_row (pm_row f a v) b w = pm_row (pm_row f b w) a v := by
  funext j
  by_cases e : j = b
  · subst e; rw [row_eq, row_ne (by omega), row_eq]
  · rw [row_ne e]
    by_cases e2 : j = a
    · subst e2; rw [row_eq, row_eq]
    · rw [row_ne e2, row_ne e2, row_ne e]
theorem roll1_48 {g : Nat → Int32} {N T P t : Nat} {n v : Int32} (h8 : T ≤ 8) (h6 : P ≤ 6) (ht : t < 8) : roll1 N T P t (pm_row g 48 v, n) = (pm_row (roll1 N T P t (g, n)).1 48 v, (roll1 N T P t (g, n)).2) := by
  rw [roll1_eq, roll1_eq]
  dsimp only
  simp only [show pm_row g 48 v (50 + t) = g (50 + t) from row_ne (by omega)]
  have e : rollR (pm_row g 48 v) N T P t (g (50 + t) + 1) = rollR g N T P t (g (50 + t) + 1) := by
    unfold rollR
    rw [tk_congr (eqL_row eqL_rf (by omega) (by omega)) (fun i h1 h2 => row_ne (by omega)) h8 h6 ht]
  rw [e]
  by_cases c : g (50 + t) < 10
  · rw [if_pos c, if_pos c]
    dsimp only
    rw [row_swap (by omega)]
  · rw [if_neg c, if_neg c]
theorem itr_48 {g : Nat → Int32} {N T P i : Nat} {n v : Int32} (h8 : T ≤ 8) (h6 : P ≤ 6) (hi : i ≤ 8) : itr (roll1 N T P) i (pm_row g 48 v, n) = (pm_row (itr (roll1 N T P) i (g, n)).1 48 v, (itr (roll1 N T P) i (g, n)).2) := by
  induction i with
  | zero => rfl
  | succ i ih =>
    rw [itr_s, itr_s, ih (by omega)]
    generalize itr (roll1 N T P) i (g, n) = x
    exact roll1_48 h8 h6 (by omega)
theorem day0_put {g : Nat → Int32} : day0 g = putR (pm_row (pm_row g 49 (drawX (g 49))) 47 (if g 4 ≤ drawM (drawX (g 49)) 10 then 0 else 1)) 72 6 (fun _ => 0) := by
  unfold day0
  generalize pm_row (pm_row g 49 (drawX (g 49))) 47 (if g 4 ≤ drawM (drawX (g 49)) 10 then 0 else 1) = r
  exact itr_inv (f := fun p r => pm_row r (72 + p) 0) (n := 6) (a := r) (fun n x => x = putR r 72 n (fun _ => 0)) putR_0.symm (fun i x hi hx => by rw [hx]; exact putR_s (w := fun _ => (0 : Int32)))
theorem Vs_day0 {g : Nat → Int32} {N T P : Nat} (hV : Vd g N T P) (hs : Vs g N T P) : Vs (day0 g) N T P := by
  obtain ⟨h1, h2, h3, h4, h5, h6, h7, _⟩ := hV
  obtain ⟨a1, a2, a3, a4⟩ := hs
  rw [day0_put]
  refine ⟨?_, ?_, ?_, ?_⟩
  · rw [putR_out (by omega), row_eq]
    split
    · exact Or.inl rfl
    · exact Or.inr rfl
  · intro j hj
    rw [putR_out (by omega), row_ne (by omega), row_ne (by omega)]; exact a2 j hj
  · intro i j p hi hj hp
    rw [putR_out (by omega), row_ne (by omega), row_ne (by omega), putR_out (by omega), row_ne (by omega), row_ne (by omega)]
    exact a3 i j p hi hj hp
  · intro p hp
    rw [putR_out (by omega), row_ne (by omega), row_ne (by omega), putR_in (by omega) (by omega)]
    exact ⟨(a4 p hp).1, ⟨0, by omega, rfl⟩⟩
theorem Vs_day {g : Nat → Int32} {N T P : Nat} (hV : Vd g N T P) (hs : Vs g N T P) : eqL g (dayF g N T P).1 ∧ Vs (dayF g N T P).1 N T P := by
  have e := eqL_row (k := 48) (v := g 48 + 1) (day0_eqL (g := g)) (by omega) (by omega)
  have hV' := Vd_congr e hV
  have q := Vs_roll hV' (Vs_out (Vd_congr day0_eqL hV) (Vs_day0 hV hs) (by omega))
  exact ⟨eqL_tr e q.1, q.2⟩
/-! a day, in the class -/
theorem sp_fill {d : Nat} {s : pm_S} {M : pm_M} {a n : Nat} {x : Int32} {Q : pm_S → pm_M → Prop} (hd : 1 ≤ d) (ha : a < 185 ∧ (EE s).2.2.1 a = (0, n)) (hn : n < 2 ^ 30) (hq : ∀ M', M'.1 a = putR (M.1 a) 0 n (fun _ => x) → off [a] M M' → Q s M') : cV d yarr_fill_II [.ref a, .int x] s M Q := by
  obtain ⟨d, rfl⟩ : ∃ e, d = e + 1 := ⟨d - 1, by omega⟩
  refine enarr_fill_II ha ?_
  refine loop_up (L := fun i M1 => warr_fill_II d 5 [.ref a, .int x, .int (nI i), .int (nI n)] [] s M1 Q) (I := fun i M1 => M1.1 a = putR (M.1 a) 0 i (fun _ => x) ∧ off [a] M M1) (e := n) ?_ ?_ M ⟨putR_0.symm, off_rf⟩
  · intro M1 h
    refine sgarr_fill_II_5 ha (br_t ?_ (hq M1 h.1 h.2))
    rw [nI_leP (by omega) (by omega)]; exact Nat.le_refl _
  · intro i M1 hi h hk
    refine sgarr_fill_II_5 ha (br_f (by rw [nI_leP (by omega) (by omega)]; omega) ?_)
    rw [nI_clamp (by omega), nI_1]
    refine ⟨vpI (by omega) (by omega), hk _ ⟨?_, off_si h.2 (by simp)⟩⟩
    rw [si_eq, h.1, ← putR_s, Nat.zero_add]
theorem sp_nextPlace {d : Nat} {s : pm_S} {M : pm_M} {g : Nat → Int32} {N T P t k : Nat} {Q : Int32 → pm_S → pm_M → Prop} (hd : 4 ≤ d) (hl : LV M g N T P) (hs : SR M 32 g T P) (ht : t < T) (hk : k ≤ N) (hq : ∀ M', off [25, 26] M M' → Q (rollV N (nI k) (rollR g N T P t (nI k))) s M') : cI d yS_nextPlace [.ref 32, .ref 15, .int (nI t), .int (nI k)] s M Q := by
  obtain ⟨d, rfl⟩ : ∃ e, d = e + 1 := ⟨d - 1, by omega⟩
  obtain ⟨hL, hV⟩ := hl
  obtain ⟨h1, h2, h3, h4, h5, h6, h7, h8, h9, h10, h11, h12⟩ := hV
  unfold rollV rollR at hq
  simp only [nI_inj (a := k) (b := N) (by omega) (by omega), nI_leP (a := N) (b := k) (by omega) (by omega)] at hq
  refine enS_nextPlace (sp_hasStation (by omega) (hL.1.trans h1) h5 (fun h => br_f (by decide) ?_) (fun h => br_t rfl ?_))
  · have hkN : k < N := by
      obtain ⟨j, hj, e⟩ := h
      rw [nI_inj (by omega) (by omega)] at e
      omega
    simp only [if_neg (show ¬ k = N by omega), if_neg (show ¬ N ≤ k by omega)] at hq
    refine loop_mem (L := fun i (b : Option Nat × Int32) M1 => wS_nextPlace d 20 [.ref 32, .ref 15, .int (nI t), .int (nI k), .int (if oI b.1 = -1 then nI k else 10 + oI b.1), .int b.2, .int (nI i), .null] [] s M1 Q) (I := fun _ M1 => off [25, 26] M M1) (f := tk1 g T t (nI k)) (e := P) (a0 := (none, 0)) ?_ ?_ M off_rf
    · intro M1 hM1
      have hL1 : LR M1 15 g T P := LR_off hM1 hL (by decide)
      refine sgS_nextPlace_20 (br_c (fun c => hq M1 hM1) (fun c => sp_hasPerson (by omega) (hL1.2.2.1.trans h3) h7 (fun h => ?_) (fun h => br_t rfl (hq M1 hM1))))
      obtain ⟨j, hj, e⟩ := h
      rw [nI_inj (by omega) (by omega)] at e
      omega
    · intro i M1 hi hM1 hkk
      have hL1 : LR M1 15 g T P := LR_off hM1 hL (by decide)
      have hs1 : SR M1 32 g T P := SR_off hM1 hs (by decide)
      have hb : 0 ≤ (itr (tk1 g T t (nI k)) i (none, 0)).2 := tk_ge
      generalize itr _ i _ = b at hkk hb ⊢
      refine sgS_nextPlace_20 (br_f (by rw [lI 6, nI_leP (by omega) (by omega)]; omega) (sp_hasPerson (by omega) (hL1.2.2.1.trans h3) h7 (fun h => br_f (by decide) ?_) (fun h => absurd ⟨i, hi, rfl⟩ h)))
      have e20 : M1.1 20 i = g (35 + i) := (hL1.2.2.2.2.2.2.1 i hi).1
      have e35 : M1.1 35 i = g (66 + i) := (hs1.2.2.2.2.1 i hi).1
      rw [nI_clamp (by omega), e20, nI_1]
      have v6 : vp_in (nI i) 6 := vpI (by omega) (by omega)
      have step : ∀ M2, off [25, 26] M M2 → tkc g T t (nI k) i = 0 → wS_nextPlace d 20 [.ref 32, .ref 15, .int (nI t), .int (nI k), .int (if oI b.1 = -1 then nI k else 10 + oI b.1), .int b.2, .int (nI (i + 1)), .null] [] s M2 Q := by
        intro M2 ho e0
        have := hkk M2 ho
        unfold tk1 at this
        rw [e0, if_neg (i_nlt hb)] at this
        exact this
      refine ⟨v6, br_c (fun c => ?_) (fun c => step M1 hM1 (by unfold tkc; rw [if_neg (fun q => c q.1)]))⟩
      refine sp_heldThing (by omega) isS_32 hs1 h6 (by omega) ?_
      simp only [oIheld h6]
      refine br_c (fun c2 => ⟨v6, ?_⟩) (fun c2 => step M1 hM1 (by unfold tkc; rw [if_neg (fun q => c2 q.2)]))
      rw [e35]
      refine sp_claimBy (by omega) hL1 h2 h6 ht (fun M' hM' => ?_)
      have ec : tkc g T t (nI k) i = claimF g (g (66 + i)) i t := by unfold tkc; rw [if_pos ⟨c, c2⟩]
      have := hkk M' (off_tr hM1 hM')
      unfold tk1 at this
      rw [ec] at this
      by_cases z : b.2 < claimF g (g (66 + i)) i t
      · rw [if_pos z] at this
        rw [if_neg (i_nle z), if_neg (i_nle z)]
        simp only [oI, m1_ne (a := i) (by omega), if_false] at this
        exact this
      · rw [if_neg z] at this
        rw [if_pos (i_le z), if_pos (i_le z)]
        exact this
  · have hkN : k = N := by
      by_cases z : k < N
      · exact absurd ⟨k, z, rfl⟩ h
      · omega
    simp only [if_pos hkN] at hq
    exact hq M off_rf
