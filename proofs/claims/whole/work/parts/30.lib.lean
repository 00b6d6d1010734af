/-! memory -/
theorem si_ne {M : pm_M} {a k c : Nat} {v : Int32} (h : c ≠ a) : (pm_si M a k v).1 c = M.1 c := by simp [pm_si, pm_up, pm_row, h]
theorem si_eq {M : pm_M} {a k : Nat} {v : Int32} : (pm_si M a k v).1 a = pm_row (M.1 a) k v := by simp [pm_si, pm_up, pm_row]
theorem si_2 {M : pm_M} {a k : Nat} {v : Int32} : (pm_si M a k v).2 = M.2 := rfl
theorem sj_ne {M : pm_M} {a k c : Nat} {v : Int64} (h : c ≠ a) : (pm_sj M a k v).2 c = M.2 c := by simp [pm_sj, pm_up, pm_row, h]
theorem sj_eq {M : pm_M} {a k : Nat} {v : Int64} : (pm_sj M a k v).2 a = pm_row (M.2 a) k v := by simp [pm_sj, pm_up, pm_row]
theorem sj_1 {M : pm_M} {a k : Nat} {v : Int64} : (pm_sj M a k v).1 = M.1 := rfl
theorem ri_ne {M : pm_M} {a c : Nat} {f : Nat → Int32} (h : c ≠ a) : (pm_ri M a f).1 c = M.1 c := by simp [pm_ri, pm_row, h]
theorem ri_eq {M : pm_M} {a : Nat} {f : Nat → Int32} : (pm_ri M a f).1 a = f := by simp [pm_ri, pm_row]
theorem ri_2 {M : pm_M} {a : Nat} {f : Nat → Int32} : (pm_ri M a f).2 = M.2 := rfl
theorem rj_ne {M : pm_M} {a c : Nat} {f : Nat → Int64} (h : c ≠ a) : (pm_rj M a f).2 c = M.2 c := by simp [pm_rj, pm_row, h]
theorem rj_eq {M : pm_M} {a : Nat} {f : Nat → Int64} : (pm_rj M a f).2 a = f := by simp [pm_rj, pm_row]
theorem rj_1 {M : pm_M} {a : Nat} {f : Nat → Int64} : (pm_rj M a f).1 = M.1 := rfl
theorem row_eq {α : Type} {f : Nat → α} {k : Nat} {v : α} : pm_row f k v k = v := by simp [pm_row]
theorem row_ne {α : Type} {f : Nat → α} {k j : Nat} {v : α} (h : j ≠ k) : pm_row f k v j = f j := by simp [pm_row, h]
theorem row_row {α : Type} {f : Nat → α} {k : Nat} {v w : α} : pm_row (pm_row f k v) k w = pm_row f k w := by
  funext j
  simp only [pm_row]
  split <;> rfl
/-- one store as a row -/
theorem si_ri {M : pm_M} {a k : Nat} {v : Int32} : pm_si M a k v = pm_ri M a (pm_row (M.1 a) k v) := rfl
theorem sj_rj {M : pm_M} {a k : Nat} {v : Int64} : pm_sj M a k v = pm_rj M a (pm_row (M.2 a) k v) := rfl
theorem ri_ri {M : pm_M} {a : Nat} {f g : Nat → Int32} : pm_ri (pm_ri M a f) a g = pm_ri M a g := by
  simp only [pm_ri, row_row]
theorem rj_rj {M : pm_M} {a : Nat} {f g : Nat → Int64} : pm_rj (pm_rj M a f) a g = pm_rj M a g := by
  simp only [pm_rj, row_row]
theorem ri_si {M : pm_M} {a k : Nat} {v : Int32} {f : Nat → Int32} : pm_si (pm_ri M a f) a k v = pm_ri M a (pm_row f k v) := by
  rw [si_ri, ri_ri, ri_eq]
theorem rj_sj {M : pm_M} {a k : Nat} {v : Int64} {f : Nat → Int64} : pm_sj (pm_rj M a f) a k v = pm_rj M a (pm_row f k v) := by
  rw [sj_rj, rj_rj, rj_eq]
theorem ri_self {M : pm_M} {a : Nat} : pm_ri M a (M.1 a) = M := by
  refine Prod.ext ?_ rfl
  funext c
  simp only [pm_ri, pm_row]
  split
  · rename_i h; rw [h]
  · rfl
theorem rj_self {M : pm_M} {a : Nat} : pm_rj M a (M.2 a) = M := by
  refine Prod.ext rfl ?_
  funext c
  simp only [pm_rj, pm_row]
  split
  · rename_i h; rw [h]
  · rfl
theorem cpy0 {f g : Nat → Int32} {n j : Nat} (h : j < n) : va_cpy f g 0 0 n j = f j := by simp [va_cpy, h]
theorem cpy0n {f g : Nat → Int32} {n j : Nat} (h : n ≤ j) : va_cpy f g 0 0 n j = g j := by simp [va_cpy]; intro q; omega
/-! loops -/
def itr {α : Type} (f : Nat → α → α) : Nat → α → α
  | 0, a => a
  | n + 1, a => f n (itr f n a)
theorem itr_0 {α : Type} {f : Nat → α → α} {a : α} : itr f 0 a = a := rfl
theorem itr_s {α : Type} {f : Nat → α → α} {n : Nat} {a : α} : itr f (n + 1) a = f n (itr f n a) := rfl
theorem loop_itr {α : Type} {L : Nat → α → Prop} {f : Nat → α → α} {e : Nat} {a0 : α} (h : L e (itr f e a0)) (hs : ∀ i, i < e → L (i + 1) (f i (itr f i a0)) → L i (itr f i a0)) : L 0 a0 := by
  have : ∀ k, k ≤ e → L (e - k) (itr f (e - k) a0) := by
    intro k
    induction k with
    | zero => intro _; exact h
    | succ k ih =>
      intro hk
      have h1 := ih (by omega)
      have e1 : e - k = (e - (k + 1)) + 1 := by omega
      rw [e1] at h1
      exact hs _ (by omega) h1
  have h2 := this e (Nat.le_refl _)
  rwa [Nat.sub_self] at h2
theorem itr_congr {α : Type} {f g : Nat → α → α} {n : Nat} {a : α} (h : ∀ i, i < n → ∀ x, f i x = g i x) : itr f n a = itr g n a := by
  induction n with
  | zero => rfl
  | succ n ih => rw [itr_s, itr_s, ih (fun i hi x => h i (by omega) x), h n (by omega)]
theorem itr_inv {α : Type} {f : Nat → α → α} {n : Nat} {a : α} (I : Nat → α → Prop) (h0 : I 0 a) (hs : ∀ i x, i < n → I i x → I (i + 1) (f i x)) : I n (itr f n a) := by
  induction n with
  | zero => exact h0
  | succ n ih => exact hs n _ (by omega) (ih (fun i x hi => hs i x (by omega)))
theorem itr_stop {α : Type} {f : Nat → α → α} {n m : Nat} {a : α} (hm : n ≤ m) (h : ∀ i x, n ≤ i → i < m → f i x = x) : itr f m a = itr f n a := by
  induction m with
  | zero => rw [show n = 0 by omega]
  | succ m ih =>
    by_cases e : n = m + 1
    · rw [e]
    · rw [itr_s, h m _ (by omega) (by omega)]
      exact ih (by omega) (fun i x h1 h2 => h i x h1 (by omega))
/-- the first below n that is so -/
def fst (P : Nat → Bool) : Nat → Option Nat
  | 0 => none
  | n + 1 => match fst P n with
    | some i => some i
    | none => if P n then some n else none
theorem fst_none {P : Nat → Bool} {n : Nat} (h : ∀ i, i < n → P i = false) : fst P n = none := by
  induction n with
  | zero => rfl
  | succ n ih => simp only [fst]; rw [ih (fun i hi => h i (by omega)), h n (by omega)]; rfl
theorem fst_some {P : Nat → Bool} {n i : Nat} (hi : i < n) (hp : P i = true) (h : ∀ j, j < i → P j = false) : fst P n = some i := by
  induction n with
  | zero => omega
  | succ n ih =>
    simp only [fst]
    by_cases e : i = n
    · subst e
      rw [fst_none h, hp]
      rfl
    · rw [ih (by omega)]
theorem fst_cases (P : Nat → Bool) (n : Nat) : (fst P n = none ∧ ∀ i, i < n → P i = false) ∨ ∃ i, fst P n = some i ∧ i < n ∧ P i = true ∧ ∀ j, j < i → P j = false := by
  induction n with
  | zero => exact Or.inl ⟨rfl, fun i h => by omega⟩
  | succ n ih =>
    rcases ih with ⟨h1, h2⟩ | ⟨i, h1, h2, h3, h4⟩
    · by_cases hp : P n = true
      · exact Or.inr ⟨n, by simp only [fst]; rw [h1, hp]; rfl, by omega, hp, h2⟩
      · have hp : P n = false := by simpa using hp
        refine Or.inl ⟨by simp only [fst]; rw [h1, hp]; rfl, fun i hi => ?_⟩
        by_cases e : i = n
        · rw [e]; exact hp
        · exact h2 i (by omega)
    · exact Or.inr ⟨i, by simp only [fst]; rw [h1], by omega, h3, h4⟩
theorem fst_congr {P P' : Nat → Bool} {n : Nat} (h : ∀ i, i < n → P i = P' i) : fst P n = fst P' n := by
  induction n with
  | zero => rfl
  | succ n ih => simp only [fst]; rw [ih (fun i hi => h i (by omega)), h n (by omega)]
theorem fst_stop {P : Nat → Bool} {n m : Nat} (hm : n ≤ m) (h : ∀ i, n ≤ i → i < m → P i = false) : fst P m = fst P n := by
  induction m with
  | zero => rw [show n = 0 by omega]
  | succ m ih =>
    by_cases e : n = m + 1
    · rw [e]
    · simp only [fst]
      rw [ih (by omega) (fun i h1 h2 => h i h1 (by omega)), h m (by omega) (by omega)]
      cases fst P n <;> rfl
theorem loop_fst {L : Nat → Prop} {P : Nat → Bool} {e : Nat} {K : Option Nat → Prop} (hK : K (fst P e)) (hx : K none → L e) (hs : ∀ i, i < e → (P i = true → K (some i)) → (P i = false → L (i + 1)) → L i) : L 0 := by
  rcases fst_cases P e with ⟨h1, h2⟩ | ⟨i, h1, h2, h3, h4⟩
  · rw [h1] at hK
    have : ∀ k, k ≤ e → L (e - k) := by
      intro k
      induction k with
      | zero => intro _; exact hx hK
      | succ k ih =>
        intro hk
        have q := ih (by omega)
        have e1 : e - k = (e - (k + 1)) + 1 := by omega
        rw [e1] at q
        exact hs _ (by omega) (fun z => by rw [h2 _ (by omega)] at z; cases z) (fun _ => q)
    have q := this e (Nat.le_refl _)
    rwa [Nat.sub_self] at q
  · rw [h1] at hK
    have : ∀ k, k ≤ i → L (i - k) := by
      intro k
      induction k with
      | zero => intro _; exact hs i h2 (fun _ => hK) (fun z => by rw [h3] at z; cases z)
      | succ k ih =>
        intro hk
        have q := ih (by omega)
        have e1 : i - k = (i - (k + 1)) + 1 := by omega
        rw [e1] at q
        exact hs _ (by omega) (fun z => by rw [h4 _ (by omega)] at z; cases z) (fun _ => q)
    have q := this i (Nat.le_refl _)
    rwa [Nat.sub_self] at q
def oI (r : Option Nat) : Int32 := match r with
  | none => -1
  | some i => nI i
/-! numbers -/
theorem lI (n : Nat) : (OfNat.ofNat n : Int32) = nI n := rfl
theorem l0 : (0 : Int32) = nI 0 := rfl
theorem l1 : (1 : Int32) = nI 1 := rfl
theorem nI_inj {a b : Nat} (ha : a < 2 ^ 31) (hb : b < 2 ^ 31) : (nI a = nI b) = (a = b) := propext (nI_eq ha hb)
theorem nI_leP {a b : Nat} (ha : a < 2 ^ 31) (hb : b < 2 ^ 31) : (nI a ≤ nI b) = (a ≤ b) := propext (nI_leI ha hb)
theorem nI_ltP {a b : Nat} (ha : a < 2 ^ 31) (hb : b < 2 ^ 31) : (nI a < nI b) = (a < b) := propext (nI_ltI ha hb)
theorem m1_ne {a : Nat} (ha : a < 2 ^ 31) : (nI a = -1) = False := by
  refine eq_false (fun h => ?_)
  have h1 := congrArg Int32.toInt h
  rw [nI_toInt ha] at h1
  have : ((-1 : Int32)).toInt = -1 := by decide
  omega
theorem oI_m1 {r : Option Nat} (h : ∀ i, r = some i → i < 2 ^ 31) : (oI r = -1) = (r = none) := by
  cases r with
  | none => simp [oI]
  | some i => simp [oI, m1_ne (h i rfl)]
theorem vpI {a n : Nat} (h : a < n) (hn : n < 2 ^ 31) : vp_in (nI a) n := vp_in_nI h hn
