/-! what a run may have changed -/
def off (S : List Nat) (M M' : pm_M) : Prop := ∀ c, c ∉ S → M'.1 c = M.1 c ∧ M'.2 c = M.2 c
theorem off_rf {S : List Nat} {M : pm_M} : off S M M := fun _ _ => ⟨rfl, rfl⟩
theorem off_tr {S : List Nat} {M M1 M2 : pm_M} (h1 : off S M M1) (h2 : off S M1 M2) : off S M M2 := fun c hc => ⟨((h2 c hc).1).trans (h1 c hc).1, ((h2 c hc).2).trans (h1 c hc).2⟩
theorem off_mo {S S' : List Nat} {M M' : pm_M} (h : off S M M') (hs : ∀ c, c ∈ S → c ∈ S') : off S' M M' := fun c hc => h c (fun q => hc (hs c q))
theorem off_si {S : List Nat} {M M1 : pm_M} {a k : Nat} {v : Int32} (h : off S M M1) (ha : a ∈ S) : off S M (pm_si M1 a k v) := fun c hc => by
  have hne : c ≠ a := fun q => hc (q ▸ ha)
  rw [si_ne hne, si_2]
  exact h c hc
theorem off_sj {S : List Nat} {M M1 : pm_M} {a k : Nat} {v : Int64} (h : off S M M1) (ha : a ∈ S) : off S M (pm_sj M1 a k v) := fun c hc => by
  have hne : c ≠ a := fun q => hc (q ▸ ha)
  rw [sj_ne hne, sj_1]
  exact h c hc
theorem off_ri {S : List Nat} {M M1 : pm_M} {a : Nat} {f : Nat → Int32} (h : off S M M1) (ha : a ∈ S) : off S M (pm_ri M1 a f) := fun c hc => by
  have hne : c ≠ a := fun q => hc (q ▸ ha)
  rw [ri_ne hne, ri_2]
  exact h c hc
theorem off_rj {S : List Nat} {M M1 : pm_M} {a : Nat} {f : Nat → Int64} (h : off S M M1) (ha : a ∈ S) : off S M (pm_rj M1 a f) := fun c hc => by
  have hne : c ≠ a := fun q => hc (q ▸ ha)
  rw [rj_ne hne, rj_1]
  exact h c hc
/-! the laws' value -/
def btw (c a b : Int32) : Int32 :=
  if c = 3003 then (if a = b then 1 else 0) else if c = 3004 then (if a < b then 1 else 0) else if c = 3005 then (if b < a then 1 else 0) else if c = 3007 then a &&& b else if c = 3008 then a ||| b else
  (let v : Int64 := if c = 3000 then a.toInt64 + b.toInt64 else if c = 3001 then a.toInt64 - b.toInt64 else a.toInt64 * b.toInt64
   (if v ≤ 1000000 then (if (-1000000) ≤ v then v else (-1000000)) else 1000000 : Int64).toInt32)
def evS (w : Nat → Int32) (c : Int32) (st : List Int32) : Option (List Int32) :=
  if c < 3000 then some ((if c < 1000 then c else w (c - 1000).toNatClampNeg) :: st)
  else if c = 3006 then (match st with
    | a :: r => some ((1 - a) :: r)
    | _ => none)
  else if c = 3009 then (match st with
    | e :: t :: b :: r => some ((if b = 1 then t else e) :: r)
    | _ => none)
  else (match st with
    | b :: a :: r => some (btw c a b :: r)
    | _ => none)
def evL (w code : Nat → Int32) : Nat → Option (List Int32)
  | 0 => some []
  | n + 1 => (evL w code n).bind (evS w (code n))
def lwC (g : Nat → Int32) (law : Nat) : Nat → Int32 := fun k => g (390 + (g (7 + law)).toNatClampNeg + k)
def lwN (g : Nat → Int32) (law : Nat) : Nat := (g (9 + law)).toNatClampNeg
def evF (g : Nat → Int32) (law : Nat) (w : Nat → Int32) : Int32 := match evL w (lwC g law) (lwN g law) with
  | some (v :: _) => v
  | _ => 0
/-- a law that is told is one that can be reckoned -/
def lwOk (g : Nat → Int32) (law lim : Nat) : Prop := ∃ fr n : Nat, g (7 + law) = nI fr ∧ g (9 + law) = nI n ∧ fr + n ≤ 900 ∧ (g (5 + law) = 0 ∨ ((∀ k, k < n → (lwC g law k < 1000 → 0 ≤ lwC g law k) ∧ (1000 ≤ lwC g law k → lwC g law k < 3000 → ∃ j : Nat, j < lim ∧ lwC g law k = nI (1000 + j))) ∧ ∀ w, ∃ v, evL w (lwC g law) n = some [v] ∧ ((∀ i, i < 7 → (-1000000) ≤ w i ∧ w i ≤ 1000000) → (-1000000) ≤ v ∧ v ≤ 1000000)))
def stR (f : Nat → Int32) (l : List Int32) : Prop := ∀ i v, l.reverse[i]? = some v → f i = v
theorem stR_push {f : Nat → Int32} {l : List Int32} {v : Int32} (h : stR f l) : stR (pm_row f l.length v) (v :: l) := by
  intro i u hi
  rw [List.reverse_cons, List.getElem?_append] at hi
  split at hi
  · rename_i q
    rw [row_ne (by simp at q; omega)]
    exact h i u hi
  · rename_i q
    simp at q
    have : i - l.length = 0 := by
      have := (List.getElem?_eq_some_iff.mp hi).1
      simp at this; omega
    have e : i = l.length := by omega
    subst e
    simp at hi
    rw [row_eq, hi]
theorem stR_pop {f : Nat → Int32} {l : List Int32} {v : Int32} (h : stR f (v :: l)) : stR f l ∧ f l.length = v := by
  constructor
  · intro i u hi
    refine h i u ?_
    rw [List.reverse_cons, List.getElem?_append_left (by have := (List.getElem?_eq_some_iff.mp hi).1; exact this)]
    exact hi
  · refine h l.length v ?_
    simp
theorem stR_keep {f : Nat → Int32} {l : List Int32} {k : Nat} {v : Int32} (h : stR f l) (hk : l.length ≤ k) : stR (pm_row f k v) l := by
  intro i u hi
  have := (List.getElem?_eq_some_iff.mp hi).1
  simp at this
  rw [row_ne (by omega)]
  exact h i u hi
theorem evL_pre {w code : Nat → Int32} {n k : Nat} {l : List Int32} (h : evL w code n = some l) (hk : k ≤ n) : ∃ l', evL w code k = some l' := by
  induction n generalizing l with
  | zero => rw [show k = 0 by omega]; exact ⟨_, rfl⟩
  | succ n ih =>
    by_cases e : k = n + 1
    · rw [e]; exact ⟨_, h⟩
    · simp only [evL] at h
      cases hq : evL w code n with
      | none => rw [hq] at h; cases h
      | some l1 => exact ih hq (by omega)
theorem evS_len {w : Nat → Int32} {c : Int32} {st l : List Int32} (h : evS w c st = some l) : l.length ≤ st.length + 1 := by
  unfold evS at h
  split at h
  · cases h; simp
  · split at h
    · split at h
      · cases h; simp
      · cases h
    · split at h
      · split at h
        · cases h; simp
        · cases h
      · split at h
        · cases h; simp
        · cases h
theorem evL_len {w code : Nat → Int32} : ∀ {n : Nat} {l : List Int32}, evL w code n = some l → l.length ≤ n := by
  intro n
  induction n with
  | zero => intro l h; cases h; simp
  | succ n ih =>
    intro l h
    simp only [evL] at h
    cases hq : evL w code n with
    | none => rw [hq] at h; cases h
    | some l1 =>
      rw [hq] at h
      have := evS_len h
      have := ih hq
      omega
theorem sp_within {d : Nat} {s : pm_S} {M : pm_M} {v lo hi : Int64} {Q : Int32 → pm_S → pm_M → Prop} (hd : 1 ≤ d) (hq : Q (if lo ≤ v ∧ v ≤ hi then 1 else 0) s M) : cI d yM_within [.long v, .long lo, .long hi] s M Q := by
  obtain ⟨d, rfl⟩ : ∃ e, d = e + 1 := ⟨d - 1, by omega⟩
  refine enM_within ?_
  have e : ((if v < lo then 0 else (if hi < v then 0 else 1)) : Int32) = if lo ≤ v ∧ v ≤ hi then 1 else 0 := by grind
  rw [e]
  exact hq
theorem b01 {c : Prop} [Decidable c] : (if c then (1 : Int32) else 0) = 0 ∨ (if c then (1 : Int32) else 0) = 1 := by split <;> simp
theorem b0 {c : Prop} [Decidable c] : ((if c then (1 : Int32) else 0) = 0) = ¬ c := by by_cases h : c <;> simp [h]
/-- a number of 64 bits below a small bound -/
def inN (v : Int64) (n : Nat) : Prop := ∃ k : Nat, k < n ∧ v = lN k
theorem inN_iff {v : Int64} {n : Nat} (hn : n < 2 ^ 30) : ((0 : Int64) ≤ v ∧ v ≤ (nI n - 1).toInt64) ↔ inN v n := by
  have e1 : (nI n - 1).toInt64.toInt = (n : Int) - 1 := by
    rw [Int32.toInt_toInt64]
    have := pk_sub_toInt (a := n) (b := 1) (by omega) (by omega)
    exact this
  constructor
  · rintro ⟨h1, h2⟩
    have h1' := Int64.le_iff_toInt_le.mp h1
    have h2' := Int64.le_iff_toInt_le.mp h2
    rw [e1] at h2'
    have h0 : (0 : Int64).toInt = 0 := by decide
    rw [h0] at h1'
    refine ⟨v.toInt.toNat, by omega, ?_⟩
    apply Int64.toInt_inj.mp
    rw [pk_lT (by omega)]
    omega
  · rintro ⟨k, hk, rfl⟩
    constructor
    · apply Int64.le_iff_toInt_le.mpr
      rw [pk_lT (by omega)]
      have h0 : (0 : Int64).toInt = 0 := by decide
      omega
    · apply Int64.le_iff_toInt_le.mpr
      rw [e1, pk_lT (by omega)]
      omega
