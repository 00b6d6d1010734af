/-! opening: the fewest further days, 14 if it can't be -/
def fdS (b : Nat → Nat → Nat) (B : Nat) (f : Nat → Nat → Nat) (r k t m : Nat) : Nat := if bt r t = true ∧ k + b t k ≤ B then min m (f (r - 2 ^ t) (k + b t k)) else m
def fdF (b : Nat → Nat → Nat) (B : Nat) : Nat → Nat → Nat → Nat
  | 0, _, _ => 0
  | n + 1, r, k => itr (fdS b B (fdF b B n) r k) 8 (if k = 0 then 14 else min 14 (1 + itr (fdS b B (fdF b B n) r 0) 8 14))
def fd (b : Nat → Nat → Nat) (B r k : Nat) : Nat := fdF b B (pcN r) r k
theorem pc0 {r : Nat} (hr : r < 256) : pcN r = 0 ↔ r = 0 := by
  have : ∀ r, r < 256 → (pcN r = 0 ↔ r = 0) := by decide +kernel
  exact this r hr
theorem fdS_congr {b : Nat → Nat → Nat} {B r k t m : Nat} {f f' : Nat → Nat → Nat} (h : bt r t = true → f (r - 2 ^ t) (k + b t k) = f' (r - 2 ^ t) (k + b t k)) : fdS b B f r k t m = fdS b B f' r k t m := by
  unfold fdS
  split
  · rename_i c; rw [h c.1]
  · rfl
theorem fd_0 {b : Nat → Nat → Nat} {B k : Nat} : fd b B 0 k = 0 := rfl
theorem fd_eq {b : Nat → Nat → Nat} {B r k : Nat} (hr : r < 256) (h0 : r ≠ 0) : fd b B r k = itr (fdS b B (fd b B) r k) 8 (if k = 0 then 14 else min 14 (1 + fd b B r 0)) ∧ (k = 0 → fd b B r 0 = itr (fdS b B (fd b B) r 0) 8 14) := by
  obtain ⟨n, hn⟩ : ∃ n, pcN r = n + 1 := ⟨pcN r - 1, by have : pcN r ≠ 0 := fun z => h0 ((pc0 hr).mp z); omega⟩
  have key : ∀ k i m, i ≤ 8 → itr (fdS b B (fdF b B n) r k) i m = itr (fdS b B (fd b B) r k) i m := by
    intro k i m hi
    refine itr_congr (fun t ht x => fdS_congr (fun hb => ?_))
    have e := (rm_k t (by omega) r hr hb).2.2.2
    unfold fd
    rw [show pcN (r - 2 ^ t) = n by omega]
  have e0 : fd b B r 0 = itr (fdS b B (fd b B) r 0) 8 14 := by
    unfold fd
    rw [hn]
    show itr (fdS b B (fdF b B n) r 0) 8 (if 0 = 0 then 14 else _) = _
    rw [if_pos rfl, key 0 8 14 (Nat.le_refl _)]
    rfl
  refine ⟨?_, fun _ => e0⟩
  have : fd b B r k = itr (fdS b B (fdF b B n) r k) 8 (if k = 0 then 14 else min 14 (1 + itr (fdS b B (fdF b B n) r 0) 8 14)) := by
    unfold fd
    rw [hn]
    rfl
  rw [this, key k 8 _ (Nat.le_refl _), key 0 8 14 (Nat.le_refl _), ← e0]
theorem fdI_le {b : Nat → Nat → Nat} {B r k i m : Nat} {f : Nat → Nat → Nat} : itr (fdS b B f r k) i m ≤ m := by
  induction i with
  | zero => exact Nat.le_refl _
  | succ i ih =>
    rw [itr_s]
    unfold fdS
    split
    · exact Nat.le_trans (Nat.min_le_left _ _) ih
    · exact ih
theorem fdI_t {b : Nat → Nat → Nat} {B r k i m t : Nat} {f : Nat → Nat → Nat} (ht : t < i) (hb : bt r t = true) (hB : k + b t k ≤ B) : itr (fdS b B f r k) i m ≤ f (r - 2 ^ t) (k + b t k) := by
  induction i with
  | zero => omega
  | succ i ih =>
    rw [itr_s]
    by_cases e : t = i
    · subst e
      rw [show fdS b B f r k t (itr (fdS b B f r k) t m) = min (itr (fdS b B f r k) t m) (f (r - 2 ^ t) (k + b t k)) by unfold fdS; rw [if_pos ⟨hb, hB⟩]]
      exact Nat.min_le_right _ _
    · have := ih (by omega)
      generalize itr (fdS b B f r k) i m = y at this ⊢
      unfold fdS
      split
      · exact Nat.le_trans (Nat.min_le_left _ _) this
      · exact this
theorem fdI_in {b : Nat → Nat → Nat} {B r k i m : Nat} {f : Nat → Nat → Nat} : itr (fdS b B f r k) i m = m ∨ ∃ t, t < i ∧ bt r t = true ∧ k + b t k ≤ B ∧ itr (fdS b B f r k) i m = f (r - 2 ^ t) (k + b t k) := by
  induction i with
  | zero => exact Or.inl rfl
  | succ i ih =>
    rw [itr_s]
    generalize itr (fdS b B f r k) i m = y at ih ⊢
    unfold fdS
    split
    · rename_i c
      by_cases z : y ≤ f (r - 2 ^ i) (k + b i k)
      · rw [Nat.min_eq_left z]
        rcases ih with h | ⟨t, h1, h2⟩
        · exact Or.inl h
        · exact Or.inr ⟨t, by omega, h2⟩
      · rw [Nat.min_eq_right (by omega)]
        exact Or.inr ⟨i, by omega, c.1, c.2, rfl⟩
    · rcases ih with h | ⟨t, h1, h2⟩
      · exact Or.inl h
      · exact Or.inr ⟨t, by omega, h2⟩
/-- what can be takes no more days than things -/
theorem fd_bd {b : Nat → Nat → Nat} {B : Nat} : ∀ n r, pcN r = n → r < 256 → ∀ k, (fd b B r k = 14 ∨ fd b B r k ≤ n) ∧ (r ≠ 0 → k = 0 → fd b B r k = 14 ∨ fd b B r k + 1 ≤ n) := by
  intro n
  induction n with
  | zero =>
    intro r hn hr k
    have : r = 0 := (pc0 hr).mp hn
    subst this
    exact ⟨Or.inr (Nat.le_refl _), fun h => absurd rfl h⟩
  | succ n ih =>
    intro r hn hr k
    have h0 : r ≠ 0 := fun z => by rw [z] at hn; cases hn
    have pc8 := (pc_k r hr).2
    have sub : ∀ t, t < 8 → bt r t = true → ∀ k, fd b B (r - 2 ^ t) k = 14 ∨ fd b B (r - 2 ^ t) k ≤ n := by
      intro t ht hb k
      obtain ⟨_, _, _, e⟩ := rm_k t ht r hr hb
      have hl := Nat.sub_le r (2 ^ t)
      exact (ih (r - 2 ^ t) (by omega) (by omega) k).1
    have z0 : fd b B r 0 = 14 ∨ fd b B r 0 + 1 ≤ n + 1 := by
      rw [(fd_eq hr h0 (k := 0)).2 rfl]
      rcases fdI_in (b := b) (B := B) (f := fd b B) (r := r) (k := 0) (i := 8) (m := 14) with h | ⟨t, t1, t2, t3, t4⟩
      · exact Or.inl h
      · rw [t4]
        rcases sub t t1 t2 (0 + b t 0) with h | h
        · exact Or.inl h
        · exact Or.inr (by omega)
    refine ⟨?_, fun _ hk => by rw [hk]; exact z0⟩
    rw [(fd_eq hr h0 (k := k)).1]
    rcases fdI_in (b := b) (B := B) (f := fd b B) (r := r) (k := k) (i := 8) (m := if k = 0 then 14 else min 14 (1 + fd b B r 0)) with h | ⟨t, t1, t2, t3, t4⟩
    · rw [h]
      split
      · exact Or.inl rfl
      · rcases z0 with z | z
        · rw [z]; exact Or.inl rfl
        · exact Or.inr (by omega)
    · rw [t4]
      rcases sub t t1 t2 (k + b t k) with h | h
      · exact Or.inl h
      · exact Or.inr (by omega)
theorem fd_le {b : Nat → Nat → Nat} {B r k : Nat} (hr : r < 256) : fd b B r k ≤ 14 ∧ (fd b B r k < 14 → fd b B r k ≤ 8) := by
  have := (fd_bd (b := b) (B := B) (pcN r) r rfl hr k).1
  have := (pc_k r hr).2
  omega
/-- the fewest days are come by by some thing, today or tomorrow -/
theorem fd_ex {b : Nat → Nat → Nat} {B r k : Nat} (hr : r < 256) (h0 : r ≠ 0) (h : fd b B r k < 14) : ∃ t, t < 8 ∧ bt r t = true ∧ ((k + b t k ≤ B ∧ fd b B (r - 2 ^ t) (k + b t k) = fd b B r k) ∨ (0 < k ∧ b t 0 ≤ B ∧ fd b B (r - 2 ^ t) (b t 0) + 1 = fd b B r k)) := by
  have e := (fd_eq (b := b) (B := B) hr h0 (k := k)).1
  rcases fdI_in (b := b) (B := B) (f := fd b B) (r := r) (k := k) (i := 8) (m := if k = 0 then 14 else min 14 (1 + fd b B r 0)) with q | ⟨t, t1, t2, t3, t4⟩
  · rw [q] at e
    by_cases hk : k = 0
    · rw [if_pos hk] at e; omega
    · rw [if_neg hk] at e
      have z := (fd_eq (b := b) (B := B) hr h0 (k := 0)).2 rfl
      rcases fdI_in (b := b) (B := B) (f := fd b B) (r := r) (k := 0) (i := 8) (m := 14) with q2 | ⟨t, t1, t2, t3, t4⟩
      · rw [q2] at z; omega
      · refine ⟨t, t1, t2, Or.inr ⟨by omega, by omega, ?_⟩⟩
        rw [Nat.zero_add] at t4
        omega
  · exact ⟨t, t1, t2, Or.inl ⟨t3, by rw [e, t4]⟩⟩
/-- no thing comes by fewer -/
theorem fd_ge {b : Nat → Nat → Nat} {B r k t : Nat} (hr : r < 256) (ht : t < 8) (hb : bt r t = true) (hB : k + b t k ≤ B) : fd b B r k ≤ fd b B (r - 2 ^ t) (k + b t k) := by
  have h0 : r ≠ 0 := fun z => by rw [z] at hb; simp [bt] at hb
  rw [(fd_eq hr h0 (k := k)).1]
  exact fdI_t ht hb hB
/-! bits of the memory -/
def nbI (w : Int32) (j : Nat) : Int32 := ((w.toUInt32 >>> ((nI (4 * j)).toUInt32 &&& Int32.toUInt32 31)).toInt32) &&& 15
theorem nbI_or (a b : Int32) (j : Nat) : nbI (a ||| b) j = nbI a j ||| nbI b j := by
  unfold nbI
  apply Int32.toBitVec_inj.mp
  simp only [Int32.toBitVec_and, Int32.toBitVec_or, UInt32.toBitVec_toInt32, UInt32.toBitVec_shiftRight, Int32.toBitVec_toUInt32]
  apply BitVec.eq_of_getLsbD_eq
  intro i hi
  simp only [BitVec.getLsbD_and, BitVec.getLsbD_or, BitVec.ushiftRight_eq', BitVec.getLsbD_ushiftRight]
  cases BitVec.getLsbD _ _ <;> cases BitVec.getLsbD _ _ <;> cases BitVec.getLsbD _ _ <;> rfl
theorem nb_sh : ∀ j, j < 8 → ∀ i, i < 8 → ∀ v, v < 16 → nbI (nI v <<< (nI (4 * j) &&& 31)) i = if i = j then nI v else 0 := by decide +kernel
theorem nb_or : ∀ v, v < 16 → nI v ||| nI v = nI v ∧ (0 : Int32) ||| nI v = nI v := by decide +kernel
theorem r8 : ∀ r, r < 256 → nI r >>> ((3 : Int32) &&& 31) = nI (r / 8) ∧ (nI r &&& 7) * 4 = nI (4 * (r % 8)) := by decide +kernel
theorem nb_0 : ∀ j, j < 8 → nbI 0 j = 0 := by decide +kernel
