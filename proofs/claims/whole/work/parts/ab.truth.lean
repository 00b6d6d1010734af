/-! truths are 0 or 1 -/
def is01 (v : Int32) : Prop := v = 0 ∨ v = 1
theorem lp_01 {B : Nat → Nat} {n : Nat} {ops : Nat → Option Int32} {a : PS → PR} {w : Nat → Int32} (ho : ∀ k c, ops k = some c → c = 3007 ∨ c = 3008) (ha : ∀ x, is01 ((a x).2 w)) : ∀ f y, is01 (y.2 w) → is01 ((lpF B n ops a f y).2 w) := by
  intro f
  induction f with
  | zero => intro y h; exact h
  | succ f ih =>
    intro y h
    unfold lpF
    cases e : ops (kiF B n y.1) with
    | none => exact h
    | some c =>
      refine ih _ ?_
      rcases ho _ _ e with rfl | rfl
      · exact (bj_8 h (ha _)).2
      · exact (bj_9 h (ha _)).2
theorem cm_01 {k : Nat} {c a b : Int32} (h : opC k = some c) : is01 (btw c a b) := by
  have : c = 3003 ∨ c = 3004 ∨ c = 3005 := by
    unfold opC at h
    by_cases c1 : k = 61
    · rw [if_pos c1] at h; cases h; exact Or.inl rfl
    · rw [if_neg c1] at h
      by_cases c2 : k = 60
      · rw [if_pos c2] at h; cases h; exact Or.inr (Or.inl rfl)
      · rw [if_neg c2] at h
        by_cases c3 : k = 62
        · rw [if_pos c3] at h; cases h; exact Or.inr (Or.inr rfl)
        · rw [if_neg c3] at h; cases h
  rcases this with rfl | rfl | rfl
  · show is01 (if a = b then 1 else 0)
    split
    · exact Or.inr rfl
    · exact Or.inl rfl
  · show is01 (if a < b then 1 else 0)
    split
    · exact Or.inr rfl
    · exact Or.inl rfl
  · show is01 (if b < a then 1 else 0)
    split
    · exact Or.inr rfl
    · exact Or.inl rfl
theorem un_01 {B : Nat → Nat} {n r : Nat} {o : Bool} {sm tr un : PS → PR} {w : Nat → Int32} (ht : ∀ x, is01 ((tr x).2 w)) (hu : ∀ x, is01 ((un x).2 w)) (x : PS) : is01 ((unF B n o r sm tr un x).2 w) := by
  unfold unF
  by_cases c1 : kiF B n x = 218
  · rw [if_pos c1]
    by_cases c2 : r = 0
    · rw [if_pos c2]; exact Or.inl rfl
    · rw [if_neg c2]; exact no_01 (hu _)
  · rw [if_neg c1]
    by_cases c2 : kiF B n x = 91
    · rw [if_pos c2]
      by_cases c3 : r = 0
      · rw [if_pos c3]; exact Or.inl rfl
      · rw [if_neg c3]; exact ht _
    · rw [if_neg c2]
      cases e : opC (kiF B n (suF B n o r sm tr x).1) with
      | none => exact Or.inl rfl
      | some c => exact cm_01 e
theorem opA_c : ∀ k c, opA k = some c → c = 3007 ∨ c = 3008 := fun k c h => by
  unfold opA at h
  by_cases c1 : k = 219
  · rw [if_pos c1] at h; cases h; exact Or.inl rfl
  · rw [if_neg c1] at h; cases h
theorem opO_c : ∀ k c, opO k = some c → c = 3007 ∨ c = 3008 := fun k c h => by
  unfold opO at h
  by_cases c1 : k = 220
  · rw [if_pos c1] at h; cases h; exact Or.inr rfl
  · rw [if_neg c1] at h; cases h
theorem tu_01 {B : Nat → Nat} {n r : Nat} {o : Bool} {sm tr un : PS → PR} {w : Nat → Int32} (ht : ∀ x, is01 ((tr x).2 w)) (hu : ∀ x, is01 ((un x).2 w)) (x : PS) : is01 ((tuF B n o r sm tr un x).2 w) := by
  have bo : ∀ x, is01 ((boF B n o r sm tr un x).2 w) := fun x => lp_01 opA_c (un_01 ht hu) _ _ (un_01 ht hu x)
  exact lp_01 opO_c bo _ _ (bo x)
theorem lev_01 {B : Nat → Nat} {n : Nat} {o : Bool} {w : Nat → Int32} : ∀ r, (∀ x, is01 (((levF B n o r).2.1 x).2 w)) ∧ ∀ x, is01 (((levF B n o r).2.2 x).2 w) := by
  intro r
  induction r with
  | zero =>
    have z : ∀ x : PS, is01 (((fun x => (x, zeF)) x : PR).2 w) := fun _ => Or.inl rfl
    exact ⟨fun x => tu_01 (tr := fun x => (x, zeF)) (un := fun x => (x, zeF)) z z x, fun x => un_01 (tr := fun x => (x, zeF)) (un := fun x => (x, zeF)) z z x⟩
  | succ r ih => exact ⟨fun x => tu_01 ih.1 ih.2 x, fun x => un_01 ih.1 ih.2 x⟩
