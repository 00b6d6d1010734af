theorem L15 : isL 15 := by simp [isL]
theorem L2 : isL 2 := by simp [isL]
theorem S27 : isS 27 := by simp [isS]
theorem S32 : isS 32 := by simp [isS]
/-! the laws of the object: steps for a stack -/
def bj (k a b : Int32) : Int32 :=
  let v : Int64 := if k = 2 then a.toInt64 + b.toInt64 else if k = 3 then a.toInt64 - b.toInt64 else if k = 4 then a.toInt64 * b.toInt64 else if k = 5 then (if a.toInt64 = b.toInt64 then 1 else 0) else if k = 6 then (if b.toInt64 ≤ a.toInt64 then 0 else 1) else if k = 7 then (if a.toInt64 ≤ b.toInt64 then 0 else 1) else if k = 8 then a.toInt64 &&& b.toInt64 else a.toInt64 ||| b.toInt64
  (if v ≤ 1000000 then (if (-1000000) ≤ v then v.toInt32 else (-1000000)) else 1000000)
/-- one step at a place below 'to' -/
def cS (c w : Nat → Int32) (to : Nat) (x : Nat × List Int32) : Option (Nat × List Int32) :=
  if x.1 < to then
    (let k := c x.1 &&& 15
     let a := c x.1 >>> ((4 : Int32) &&& 31)
     if k = 11 then (if a < 0 then none else some (a.toNatClampNeg, x.2))
     else if k = 0 then (if x.2.length < 64 then some (x.1 + 1, a :: x.2) else none)
     else if k = 1 then (if x.2.length < 64 ∧ ¬ a < 0 ∧ ¬ 7 ≤ a then some (x.1 + 1, w a.toNatClampNeg :: x.2) else none)
     else if k = 12 then (match x.2 with
       | v :: r => if a < 0 then none else some (if v = 0 then a.toNatClampNeg else x.1 + 1, r)
       | _ => none)
     else if k = 10 then (match x.2 with
       | v :: r => some (x.1 + 1, (1 - v) :: r)
       | _ => none)
     else if 1 < k then (match x.2 with
       | b :: a :: r => some (x.1 + 1, bj k a b :: r)
       | _ => none)
     else none)
  else none
def cR (c w : Nat → Int32) (to : Nat) : Nat → Nat × List Int32 → Option (Nat × List Int32)
  | 0, x => some x
  | n + 1, x => (cS c w to x).bind (cR c w to n)
theorem sp_joined {d : Nat} {s : pm_S} {M : pm_M} {k a b : Int32} {Q : Int32 → pm_S → pm_M → Prop} (hd : 1 ≤ d) (hq : Q (bj k a b) s M) : cL d yW_joined [.int k, .long a.toInt64, .long b.toInt64] s M (fun r1 s1 M1 => cI d yW_bounded [.long r1] s1 M1 (fun r2 s2 M2 => Q r2 s2 M2)) := by
  obtain ⟨d, rfl⟩ : ∃ e, d = e + 1 := ⟨d - 1, by omega⟩
  refine enW_joined ?_
  unfold bj at hq
  refine br_c (fun h => ?_) (fun h => ?_)
  · rw [if_pos h] at hq; exact enW_bounded hq
  rw [if_neg h] at hq
  refine br_c (fun h => ?_) (fun h => ?_)
  · rw [if_pos h] at hq; exact enW_bounded hq
  rw [if_neg h] at hq
  refine br_c (fun h => ?_) (fun h => ?_)
  · rw [if_pos h] at hq; exact enW_bounded hq
  rw [if_neg h] at hq
  refine br_c (fun h => ?_) (fun h => ?_)
  · rw [if_pos h] at hq; exact enW_bounded hq
  rw [if_neg h] at hq
  refine br_c (fun h => ?_) (fun h => ?_)
  · rw [if_pos h] at hq; exact enW_bounded hq
  rw [if_neg h] at hq
  refine br_c (fun h => ?_) (fun h => ?_)
  · rw [if_pos h] at hq; exact enW_bounded hq
  rw [if_neg h] at hq
  refine br_c (fun h => ?_) (fun h => ?_)
  · rw [if_pos h] at hq; exact enW_bounded hq
  rw [if_neg h] at hq
  exact enW_bounded hq
theorem sp_factAt {d : Nat} {s : pm_S} {M : pm_M} {x : Int32} {Q : Int32 → pm_S → pm_M → Prop} (hd : 1 ≤ d) (h0 : ¬ x < 0) (h7 : ¬ 7 ≤ x) (hq : Q (M.1 26 x.toNatClampNeg) s M) : cI d yW_factAt [.ref 23, .int x] s M Q := by
  obtain ⟨d, rfl⟩ : ∃ e, d = e + 1 := ⟨d - 1, by omega⟩
  refine enW_factAt ⟨fun _ _ => ?_, ?_⟩
  · obtain ⟨j, hj, rfl⟩ := nI_of h0
    rw [lI 7, nI_leP (by omega) (by omega)] at h7
    exact vpI (by omega) (by omega)
  · rw [if_neg h0, if_neg h7]; exact hq
set_option maxRecDepth 20000 in
theorem worth_loop {d : Nat} {s : pm_S} {Q : Int32 → pm_S → pm_M → Prop} {c w : Nat → Int32} {to : Nat} {M0 : pm_M} {v : Int32} (hd : 1 ≤ d) (hto : to ≤ 900) (hq : ∀ M', off [25] M0 M' → Q v s M') :
    ∀ (n i at1 : Nat) (l : List Int32) (M : pm_M), i + n ≤ 900 → off [25] M0 M → M.1 24 = c → M.1 26 = w → at1 < 2 ^ 31 → l.length ≤ 64 → cR c w to n (at1, l) = some (to, [v]) → stR (M.1 25) l → wW_worth d 8 [.ref 23, .null, .int (nI to), .int (nI l.length), .int (nI at1), .int (nI i), .null, .null] [] s M Q := by
  intro n
  induction n with
  | zero =>
    intro i at1 l M hi hoff hc hw hat hll hr hst
    simp only [cR, Option.some.injEq, Prod.mk.injEq] at hr
    obtain ⟨rfl, rfl⟩ := hr
    have e1 : M.1 25 0 = v := by
      have := (stR_pop hst).2
      simpa using this
    have e2 : Q (if nI ([v] : List Int32).length ≤ 0 then 0 else M.1 25 0) s M := by
      show Q (if nI 1 ≤ 0 then 0 else M.1 25 0) s M
      rw [if_neg (show ¬ nI 1 ≤ 0 by decide), e1]; exact hq M hoff
    refine sgW_worth_8 (br_c (fun _ => e2) (fun _ => br_c (fun _ => e2) (fun _ => br_t ?_ e2)))
    rw [nI_leP (by omega) (by omega)]
    exact Nat.le_refl _
  | succ n ih =>
    intro i at1 l M hi hoff hc hw hat hll hr hst
    simp only [cR] at hr
    cases hs : cS c w to (at1, l) with
    | none => rw [hs] at hr; cases hr
    | some y =>
      rw [hs] at hr
      change cR c w to n y = _ at hr
      unfold cS at hs
      dsimp only at hs
      split at hs
      case isFalse => cases hs
      rename_i hlt
      have g24 : ∀ (k : Nat) (x : Int32), (pm_si M 25 k x).1 24 = c := fun k x => by rw [si_ne (by decide)]; exact hc
      have g26 : ∀ (k : Nat) (x : Int32), (pm_si M 25 k x).1 26 = w := fun k x => by rw [si_ne (by decide)]; exact hw
      have gof : ∀ (k : Nat) (x : Int32), off [25] M0 (pm_si M 25 k x) := fun k x => off_si hoff (by decide)
      refine sgW_worth_8 (br_f ?_ (br_f (nI_pos (by omega)) (br_f ?_ (br_f ?_ ⟨vpI (by omega) (by omega), vpI (by omega) (by omega), ?_⟩))))
      · rw [lI 900, nI_leP (by omega) (by omega)]; omega
      · rw [nI_leP (by omega) (by omega)]; omega
      · rw [lI 900, nI_leP (by omega) (by omega)]; omega
      rw [nI_clamp (by omega), hc, nI_1, nI_1]
      generalize hk : c at1 &&& 15 = k at hs ⊢
      generalize ha : c at1 >>> ((4 : Int32) &&& 31) = a at hs ⊢
      by_cases h11 : k = 11
      · rw [if_pos h11] at hs
        refine br_t h11 ?_
        split at hs
        · cases hs
        · rename_i h0
          cases hs
          obtain ⟨j, hj, rfl⟩ := nI_of h0
          rw [nI_clamp hj] at hr
          exact ih (i + 1) j l M (by omega) hoff hc hw hj hll hr hst
      rw [if_neg h11] at hs
      refine br_f h11 ?_
      by_cases hk0 : k = 0
      · rw [if_pos hk0] at hs
        split at hs
        · rename_i h64
          cases hs
          refine br_f (by rw [hk0]; decide) (br_f ?_ (br_t hk0 ⟨vpI (by omega) (by omega), ?_⟩))
          · rw [lI 64, nI_leP (by omega) (by omega)]; omega
          · rw [nI_clamp (by omega), nI_1]
            exact ih (i + 1) (at1 + 1) (a :: l) _ (by omega) (gof _ _) (g24 _ _) (g26 _ _) (by omega) (by simp; omega) hr (by rw [si_eq]; exact stR_push hst)
        · cases hs
      rw [if_neg hk0] at hs
      by_cases hk1 : k = 1
      · rw [if_pos hk1] at hs
        split at hs
        · rename_i h64
          cases hs
          refine br_f (by rw [hk1]; decide) (br_f ?_ (br_f hk0 ?_))
          · rw [lI 64, nI_leP (by omega) (by omega)]; omega
          · refine sp_factAt hd h64.2.1 h64.2.2 ⟨vpI (by omega) (by omega), ?_⟩
            rw [nI_clamp (by omega), nI_1, hw]
            exact ih (i + 1) (at1 + 1) (w a.toNatClampNeg :: l) _ (by omega) (gof _ _) (g24 _ _) (g26 _ _) (by omega) (by simp; omega) hr (by rw [si_eq]; exact stR_push hst)
        · cases hs
      rw [if_neg hk1] at hs
      have hk2 : 1 < k := by
        by_cases q : 1 < k
        · exact q
        · by_cases h12 : k = 12
          · rw [h12] at q; exact absurd (by decide) q
          · rw [if_neg h12] at hs
            by_cases h10 : k = 10
            · rw [h10] at q; exact absurd (by decide) q
            · rw [if_neg h10, if_neg q] at hs; cases hs
      refine br_t hk2 ?_
      by_cases h12 : k = 12
      · rw [if_pos h12] at hs
        match l, hs, hst, hll with
        | x :: r, hs, hst, hll =>
          dsimp only at hs
          by_cases h0 : a < 0
          · rw [if_pos h0] at hs; cases hs
          · rw [if_neg h0] at hs
            cases hs
            obtain ⟨j, hj, rfl⟩ := nI_of h0
            have hp := stR_pop hst
            simp only [List.length_cons] at hll ⊢
            refine br_f ?_ (br_t h12 ?_)
            · rw [l0, nI_leP (by omega) (by omega)]; omega
            have e9 : nI (r.length + 1) + (-1) = nI r.length := pk_m1 r.length
            have key : ∀ z : Int32, z = nI r.length → vp_in z 64 ∧ (∀ v1 : Int32, v1 = (if (M.1 25 z.toNatClampNeg) = 0 then nI j else nI (at1 + 1)) → wW_worth d 8 [.ref 23, .null, .int (nI to), .int z, .int v1, .int (nI (i + 1)), .null, .null] [] s M Q) := by
              rintro z rfl
              refine ⟨vpI (by omega) (by omega), fun v1 hv1 => ?_⟩
              rw [nI_clamp (by omega), hp.2] at hv1
              rw [nI_clamp hj] at hr
              have e3 : v1 = nI (if x = 0 then j else at1 + 1) := by
                rw [hv1]; split <;> rfl
              rw [e3]
              exact ih (i + 1) _ r M (by omega) hoff hc hw (by split <;> omega) (by omega) hr hp.1
            exact key _ e9
      rw [if_neg h12] at hs
      have go153 : ¬ nI l.length ≤ 0 → wW_worth d 153 [.ref 23, .null, .int (nI to), .int (nI l.length), .int (nI (at1 + 1)), .int (nI i), .int k, .null] [] s M Q := by
        intro hl0
        by_cases h10 : k = 10
        · rw [if_pos h10] at hs
          match l, hs, hst, hll, hl0 with
          | x :: r, hs, hst, hll, hl0 =>
            cases hs
            have hp := stR_pop hst
            simp only [List.length_cons] at hll hl0 ⊢
            refine sgW_worth_153 (br_f hl0 (br_t h10 ?_))
            rw [l1, pk_sub (by omega), show r.length + 1 - 1 = r.length by omega, nI_clamp (by omega), hp.2, nI_add]
            refine ⟨vpI (by omega) (by omega), vpI (by omega) (by omega), ?_⟩
            exact ih (i + 1) (at1 + 1) ((1 - x) :: r) _ (by omega) (gof _ _) (g24 _ _) (g26 _ _) (by omega) (by simp; omega) hr (by rw [si_eq]; exact stR_push hp.1)
        · rw [if_neg h10, if_pos hk2] at hs
          match l, hs, hst, hll, hl0 with
          | y1 :: x :: r, hs, hst, hll, hl0 =>
            cases hs
            have hp := stR_pop hst
            have hp2 := stR_pop hp.1
            simp only [List.length_cons] at hll hl0 hp ⊢
            refine sgW_worth_153 (br_f hl0 (br_f h10 ?_))
            refine sgW_worth_185 (br_f ?_ ?_)
            · rw [l1, nI_leP (by omega) (by omega)]; omega
            rw [show nI (r.length + 1 + 1) + (-1) = nI (r.length + 1) from pk_m1 _, l1, pk_sub (by omega), show r.length + 1 - 1 = r.length by omega, nI_clamp (by omega), nI_clamp (by omega), hp.2, hp2.2, nI_add]
            refine ⟨vpI (by omega) (by omega), vpI (by omega) (by omega), sp_joined hd ⟨vpI (by omega) (by omega), ?_⟩⟩
            exact ih (i + 1) (at1 + 1) (bj k x y1 :: r) _ (by omega) (gof _ _) (g24 _ _) (g26 _ _) (by omega) (by simp; omega) hr (by rw [si_eq]; exact stR_push hp2.1)
      refine br_c (fun q => ?_) (fun q => br_f h12 (go153 q))
      exfalso
      rw [l0, nI_leP (by omega) (by omega)] at q
      have : l = [] := List.length_eq_zero_iff.mp (by omega)
      subst this
      by_cases h10 : k = 10
      · rw [if_pos h10] at hs; cases hs
      · rw [if_neg h10, if_pos hk2] at hs; cases hs
theorem sp_worth {d : Nat} {s : pm_S} {M : pm_M} {fr to n : Nat} {v : Int32} {Q : Int32 → pm_S → pm_M → Prop} (hd : 2 ≤ d) (hto : to ≤ 900) (hfr : fr ≤ 900) (hn : n ≤ 900) (hr : cR (M.1 24) (M.1 26) to n (fr, []) = some (to, [v])) (hq : ∀ M', off [25] M M' → Q v s M') : cI d yW_worth [.ref 23, .int (nI fr), .int (nI to)] s M Q := by
  obtain ⟨d, rfl⟩ : ∃ e, d = e + 1 := ⟨d - 1, by omega⟩
  exact enW_worth (worth_loop (by omega) hto hq n 0 fr [] M (by omega) off_rf rfl rfl (by omega) (by simp) hr (fun i u h => by simp at h))
