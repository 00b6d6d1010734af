/-! chances -/
def eU : Nat → Nat → Nat → Prop
  | 0, _, b => b = 0
  | n + 1, a, b => b = 0 ∨ eU n b (a % b)
theorem eU_pow : ∀ j a b, b < 2 ^ j → eU (2 * j) a b := by
  intro j
  induction j with
  | zero => intro a b h; show b = 0; omega
  | succ j ih =>
    intro a b h
    show b = 0 ∨ eU (2 * j + 1) b (a % b)
    by_cases hb : b = 0
    · exact Or.inl hb
    right
    show a % b = 0 ∨ eU (2 * j) (a % b) (b % (a % b))
    by_cases hr : a % b = 0
    · exact Or.inl hr
    right
    refine ih _ _ ?_
    have h1 : a % b < b := Nat.mod_lt _ (by omega)
    generalize a % b = r at h1 hr
    have h2 : b % r < r := Nat.mod_lt _ (by omega)
    rw [Nat.pow_succ] at h
    by_cases c : 2 * r ≤ b
    · omega
    · have : b % r = b - r := by
        rw [Nat.mod_eq_sub_mod (by omega), Nat.mod_eq_of_lt (by omega)]
      omega
theorem sp_common {s : pm_S} {M : pm_M} : ∀ n a b d (Q : Int64 → pm_S → pm_M → Prop), eU n a b → a < 2 ^ 63 → b < 2 ^ 63 → n + 1 ≤ d → Q (lN (Nat.gcd a b)) s M → cL d yM_common [.long (lN a), .long (lN b)] s M Q := by
  intro n
  induction n with
  | zero =>
    intro a b d Q he ha hb hd hq
    obtain ⟨d, rfl⟩ : ∃ e, d = e + 1 := ⟨d - 1, by omega⟩
    have he : b = 0 := he
    subst he
    rw [Nat.gcd_zero_right] at hq
    exact enM_common (br_t rfl hq)
  | succ n ih =>
    intro a b d Q he ha hb hd hq
    obtain ⟨d, rfl⟩ : ∃ e, d = e + 1 := ⟨d - 1, by omega⟩
    by_cases h0 : b = 0
    · subst h0
      rw [Nat.gcd_zero_right] at hq
      exact enM_common (br_t rfl hq)
    · have nz : ¬ lN b = 0 := by rw [lL 0, pk_lEQ hb (by omega)]; exact h0
      have he' : eU n b (a % b) := by
        rcases he with z | z
        · exact absurd z h0
        · exact z
      have lt : a % b < b := Nat.mod_lt _ (by omega)
      refine enM_common (br_f nz ⟨nz, ?_⟩)
      rw [pk_lRem ha (by omega) hb]
      refine ih b (a % b) d _ he' hb (by omega) (by omega) ?_
      rw [Nat.gcd_comm b, ← Nat.gcd_rec, Nat.gcd_comm]
      exact hq
theorem sp_commonC {d : Nat} {s : pm_S} {M : pm_M} {Q : Int64 → pm_S → pm_M → Prop} : ∀ n a b i, eU n a b → a < 2 ^ 63 → b < 2 ^ 63 → i + n ≤ 100 → Q (lN (Nat.gcd a b)) s M → wO_commonDivisor d 9 [.null, .null, .null, .null, .long (lN a), .null, .long (lN b), .null, .int (nI i), .null, .null] [] s M Q := by
  intro n
  induction n with
  | zero =>
    intro a b i he ha hb hi hq
    have he : b = 0 := he
    subst he
    rw [Nat.gcd_zero_right] at hq
    exact sgO_commonDivisor_9 (br_c (fun _ => hq) (fun _ => br_t rfl hq))
  | succ n ih =>
    intro a b i he ha hb hi hq
    by_cases h0 : b = 0
    · subst h0
      rw [Nat.gcd_zero_right] at hq
      exact sgO_commonDivisor_9 (br_c (fun _ => hq) (fun _ => br_t rfl hq))
    · have nz : ¬ lN b = 0 := by rw [lL 0, pk_lEQ hb (by omega)]; exact h0
      have he' : eU n b (a % b) := by
        rcases he with z | z
        · exact absurd z h0
        · exact z
      have lt : a % b < b := Nat.mod_lt _ (by omega)
      refine sgO_commonDivisor_9 (br_f (by rw [lI 100, nI_leP (by omega) (by omega)]; omega) (br_f nz ⟨nz, ?_⟩))
      rw [pk_lRem ha (by omega) hb, nI_1]
      refine ih b (a % b) (i + 1) he' hb (by omega) (by omega) ?_
      rw [Nat.gcd_comm b, ← Nat.gcd_rec, Nat.gcd_comm]
      exact hq
/-! what was borne, how likely -/
def adN (tab : Nat → Nat) (j v : Nat) : Nat → Nat := pm_row tab j (tab j + v)
def dsS (f0 f1 : Nat → Nat) (W : Nat) (ds : Nat → Nat) (k : Nat) (tab : Nat → Nat) : Nat → Nat := if ds k = 0 then tab else adN (adN tab (k + f0 k) (ds k * (10 - W))) (k + f1 k) (ds k * W)
def dsN (f0 f1 : Nat → Nat) (W : Nat) (ds : Nat → Nat) : Nat → Nat := itr (dsS f0 f1 W ds) 1000 (fun _ => 0)
def dsF (f0 f1 : Nat → Nat → Nat) (W : Nat) : Nat → Nat → Nat
  | 0 => fun k => if k = 0 then 1 else 0
  | i + 1 => dsN (f0 i) (f1 i) W (dsF f0 f1 W i)
def smN (tab : Nat → Nat) (n : Nat) : Nat := itr (fun k r => r + tab k) n 0
theorem smN_ad {tab : Nat → Nat} {j v n : Nat} : smN (adN tab j v) n = smN tab n + if j < n then v else 0 := by
  induction n with
  | zero => simp [smN, itr]
  | succ n ih =>
    have e : ∀ t : Nat → Nat, smN t (n + 1) = smN t n + t n := fun t => rfl
    rw [e, e, ih]
    unfold adN
    by_cases c : n = j
    · subst c
      rw [row_eq, if_neg (by omega), if_pos (by omega)]; omega
    · rw [row_ne c]
      by_cases c2 : j < n
      · rw [if_pos c2, if_pos (by omega)]; omega
      · rw [if_neg c2, if_neg (by omega)]; omega
theorem smN_ge {tab : Nat → Nat} {j n : Nat} (h : j < n) : tab j ≤ smN tab n := by
  induction n with
  | zero => omega
  | succ n ih =>
    have e : smN tab (n + 1) = smN tab n + tab n := rfl
    rw [e]
    by_cases c : j = n
    · subst c; omega
    · have := ih (by omega); omega
theorem smN_mono {tab : Nat → Nat} {m n : Nat} (h : m ≤ n) : smN tab m ≤ smN tab n := by
  induction n with
  | zero => rw [show m = 0 by omega]; exact Nat.le_refl _
  | succ n ih =>
    have e : smN tab (n + 1) = smN tab n + tab n := rfl
    by_cases c : m = n + 1
    · rw [c]; exact Nat.le_refl _
    · have := ih (by omega); omega
theorem dsS_0 {f0 f1 ds tab : Nat → Nat} {W k : Nat} (h : ds k = 0) : dsS f0 f1 W ds k tab = tab := by
  unfold dsS
  rw [if_pos h]
theorem dsS_sum {f0 f1 ds tab : Nat → Nat} {W k : Nat} (hW : W ≤ 10) (h0 : k + f0 k < 1000) (h1 : k + f1 k < 1000) : smN (dsS f0 f1 W ds k tab) 1000 = smN tab 1000 + 10 * ds k := by
  unfold dsS
  split
  · rename_i z; rw [z]; omega
  · rw [smN_ad, smN_ad, if_pos h0, if_pos h1]
    have : ds k * (10 - W) + ds k * W = 10 * ds k := by
      rw [← Nat.mul_add, show 10 - W + W = 10 by omega, Nat.mul_comm]
    omega
/-- what can have been borne behind i things -/
theorem dsF_sup {f0 f1 : Nat → Nat → Nat} {W : Nat} (hf : ∀ i k, f0 i k ≤ 99 ∧ f1 i k ≤ 99) : ∀ i, i ≤ 10 → ∀ k, 99 * i < k → dsF f0 f1 W i k = 0 := by
  intro i
  induction i with
  | zero => intro _ k hk; show (if k = 0 then 1 else 0) = 0; rw [if_neg (by omega)]
  | succ i ih =>
    intro hi k hk
    have ih := ih (by omega)
    show itr (dsS (f0 i) (f1 i) W (dsF f0 f1 W i)) 1000 (fun _ => 0) k = 0
    refine itr_inv (f := dsS (f0 i) (f1 i) W (dsF f0 f1 W i)) (n := 1000) (a := fun _ => 0) (I := fun _ tab => tab k = 0) rfl (fun j tab hj ht => ?_)
    unfold dsS
    split
    · exact ht
    · rename_i z
      have hj2 : j ≤ 99 * i := by
        apply Classical.byContradiction
        intro c
        exact z (ih j (by omega))
      have := hf i j
      unfold adN
      rw [row_ne (by omega), row_ne (by omega)]
      exact ht
theorem dsF_part {f0 f1 : Nat → Nat → Nat} {W : Nat} (hW : W ≤ 10) (hf : ∀ i k, f0 i k ≤ 99 ∧ f1 i k ≤ 99) (i : Nat) (hi : i < 10) : ∀ k, k ≤ 1000 → smN (itr (dsS (f0 i) (f1 i) W (dsF f0 f1 W i)) k (fun _ => 0)) 1000 = 10 * smN (dsF f0 f1 W i) k := by
  intro k
  induction k with
  | zero =>
    intro _
    show smN (fun _ => 0) 1000 = 0
    unfold smN
    exact itr_inv (f := fun (k : Nat) (r : Nat) => r + 0) (n := 1000) (a := 0) (I := fun _ r => r = 0) rfl (fun _ _ _ h => h)
  | succ k ih =>
    intro hk
    rw [itr_s]
    have e : smN (dsF f0 f1 W i) (k + 1) = smN (dsF f0 f1 W i) k + dsF f0 f1 W i k := rfl
    by_cases c : k ≤ 99 * i
    · have := hf i k
      rw [dsS_sum hW (by omega) (by omega), ih (by omega), e]; omega
    · have z := dsF_sup (W := W) hf i (by omega) k (by omega)
      rw [dsS_0 z, ih (by omega), e, z]; omega
theorem dsF_sum {f0 f1 : Nat → Nat → Nat} {W : Nat} (hW : W ≤ 10) (hf : ∀ i k, f0 i k ≤ 99 ∧ f1 i k ≤ 99) : ∀ i, i ≤ 10 → smN (dsF f0 f1 W i) 1000 = 10 ^ i := by
  intro i
  induction i with
  | zero =>
    intro _
    have : ∀ n, smN (fun k => if k = 0 then 1 else 0) (n + 1) = 1 := by
      intro n
      induction n with
      | zero => rfl
      | succ n ih =>
        show smN _ (n + 1) + (if n + 1 = 0 then 1 else 0) = 1
        rw [ih, if_neg (by omega)]
    exact this 999
  | succ i ih =>
    intro hi
    show smN (itr (dsS (f0 i) (f1 i) W (dsF f0 f1 W i)) 1000 (fun _ => 0)) 1000 = _
    rw [dsF_part hW hf i (by omega) 1000 (Nat.le_refl _), ih (by omega), Nat.pow_succ, Nat.mul_comm]
theorem p10 {i : Nat} (h : i ≤ 10) : 10 ^ i ≤ 10000000000 := by
  have : 10 ^ i ≤ 10 ^ 10 := Nat.pow_le_pow_right (by omega) h
  simpa using this
