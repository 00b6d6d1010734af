/-- whether a number is in a set -/
def bt (S m : Nat) : Bool := decide (S / 2 ^ m % 2 = 1)
theorem bit_k : ∀ m, m < 10 → ∀ S, S < 1024 → decide ((nI S >>> (nI m &&& 31)) &&& 1 = 1) = bt S m := by decide +kernel
theorem bit_kl : ∀ m, m < 10 → ∀ S, S < 1024 → decide (((nI S).toInt64 >>> ((nI m).toInt64 &&& 63)) &&& 1 = 1) = bt S m := by decide +kernel
theorem bitI {m S : Nat} (hm : m < 10) (hS : S < 1024) : ((nI S >>> (nI m &&& 31)) &&& 1 = 1) = (bt S m = true) := by
  rw [← bit_k m hm S hS]; simp
theorem bitL {m S : Nat} (hm : m < 10) (hS : S < 1024) : (((nI S).toInt64 >>> ((nI m).toInt64 &&& 63)) &&& 1 = 1) = (bt S m = true) := by
  rw [← bit_kl m hm S hS]; simp
theorem sp_isIn {d : Nat} {s : pm_S} {M : pm_M} {S m : Nat} {Q : Int32 → pm_S → pm_M → Prop} (hd : 1 ≤ d) (hS : S < 1024) (hm : m < 10) (hq : Q (if bt S m = true then 1 else 0) s M) : cI d yM_isIn [.long (nI S).toInt64, .int (nI m)] s M Q := by
  obtain ⟨d, rfl⟩ : ∃ e, d = e + 1 := ⟨d - 1, by omega⟩
  refine enM_isIn ?_
  simp only [bitL hm hS]
  exact hq
