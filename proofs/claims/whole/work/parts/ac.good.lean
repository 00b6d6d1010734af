/-! places stay within the text -/
def gdX (n : Nat) (x : PS) : Prop := ∀ p, x = .inr p → p ≤ n
theorem gd_inl {n : Nat} {f : Nat × Nat} : gdX n (.inl f) := fun _ h => by cases h
theorem gd_nx {B : Nat → Nat} {n : Nat} {x : PS} (hB : ∀ k, k < n → B k < 256) (h : gdX n x) : gdX n (nxF B n x) := by
  cases x with
  | inl f => exact gd_inl
  | inr p =>
    show gdX n (psF B n (tE B n p))
    unfold psF
    split
    · exact gd_inl
    · intro q hq
      cases hq
      exact (tk_spec (h p rfl) hB).2.2.2.1
theorem gd_fa {B : Nat → Nat} {n k : Nat} {x : PS} : gdX n (faF B n k x) := by
  cases x with
  | inl f => exact gd_inl
  | inr p => exact gd_inl
theorem gd_ex {B : Nat → Nat} {n w : Nat} {x : PS} (hB : ∀ k, k < n → B k < 256) (h : gdX n x) : gdX n (exF B n w x) := by
  unfold exF
  split
  · exact gd_nx hB h
  · exact gd_fa
theorem va_lt {B : Nat → Nat} {n : Nat} {x : PS} (hB : ∀ k, k < n → B k < 256) (h : gdX n x) (hk : kiF B n x = 128) : vaF B n x < 1000 := by
  cases x with
  | inl f => exact absurd hk (by show ¬ 131 = 128; omega)
  | inr p => exact (tk_spec (h p rfl) hB).2.2.2.2.2.2 hk
