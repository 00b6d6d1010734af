theorem div10 {v : Int64} (h : 0 ≤ v.toInt) : (v / 10).toInt = v.toInt / 10 := by
  have h10 : (10 : Int64).toInt = 10 := by decide
  have hv := Int64.toInt_lt v
  rw [Int64.toInt_div, h10, Int.tdiv_eq_ediv_of_nonneg h]
  exact Int.bmod_eq_of_le (by omega) (by omega)
theorem k80 : ∀ k, k < 80 → lN k / 10 = lN (k / 10) ∧ lN k - lN k / 10 * 10 = lN (k % 10) ∧ nI k / 10 = nI (k / 10) := by decide +kernel
theorem and_k : ∀ a, a < 8 → ∀ A, A < 256 → nI A &&& ((1 : Int32) <<< (nI a &&& 31)) = if bt A a = true then nI (2 ^ a) else 0 := by decide +kernel
theorem or_00 : ∀ a, a < 8 → ∀ b, b < 8 → ¬ (nI (2 ^ a) ||| nI (2 ^ b) = 0) ∧ ¬ (nI (2 ^ a) ||| 0 = 0) ∧ ¬ ((0 : Int32) ||| nI (2 ^ b) = 0) ∧ (0 : Int32) ||| 0 = 0 := by decide +kernel
theorem or_bits {A B a b : Nat} (hA : A < 256) (hB : B < 256) (ha : a < 8) (hb : b < 8) : ((nI A &&& ((1 : Int32) <<< (nI a &&& 31))) ||| (nI B &&& ((1 : Int32) <<< (nI b &&& 31))) = 0) = (bt A a = false ∧ bt B b = false) := by
  rw [and_k a ha A hA, and_k b hb B hB]
  obtain ⟨o1, o2, o3, o4⟩ := or_00 a ha b hb
  cases e1 : bt A a <;> cases e2 : bt B b <;> simp_all
/-- the things, the people that numbers tell -/
def orS (h : Nat → Nat) (n : Nat) : Nat := itr (fun i S => S ||| 2 ^ h i) n 0
theorem orS_lt {h : Nat → Nat} {n T : Nat} (hh : ∀ i, i < n → h i < T) : orS h n < 2 ^ T := by
  unfold orS
  induction n with
  | zero => exact Nat.two_pow_pos T
  | succ n ih => rw [itr_s]; exact or_lt (ih (fun i hi => hh i (by omega))) (hh n (by omega))
theorem orS_bt {h : Nat → Nat} {n a : Nat} : bt (orS h n) a = true ↔ ∃ i, i < n ∧ h i = a := by
  induction n with
  | zero =>
    constructor
    · intro q; exact absurd q (by simp [orS, itr, bt])
    · rintro ⟨i, h1, _⟩; omega
  | succ n ih =>
    have e : orS h (n + 1) = orS h n ||| 2 ^ h n := rfl
    rw [e, bt_or]
    simp only [Bool.or_eq_true, decide_eq_true_eq, ih]
    constructor
    · rintro (⟨i, h1, h2⟩ | h2)
      · exact ⟨i, by omega, h2⟩
      · exact ⟨n, by omega, h2⟩
    · rintro ⟨i, h1, h2⟩
      by_cases z : i = n
      · exact Or.inr (z ▸ h2)
      · exact Or.inl ⟨i, by omega, h2⟩
def okD (f : Nat → Int64) (i : Nat) : Option Nat := fst (fun j => decide (vN f j / 10 = vN f i / 10 ∨ vN f j % 10 = vN f i % 10)) i
def okP (T P : Nat) (f : Nat → Int64) (i : Nat) : Bool := match ixN (f i) (10 * T) with
  | none => false
  | some k => decide (k % 10 < P) && decide (okD f i = none)
theorem ixN_vN {f : Nat → Int64} {i B k : Nat} (h : ixN (f i) B = some k) : vN f i = k := by
  unfold ixN at h
  split at h
  · cases h; rfl
  · cases h
theorem okP_1 {T P i : Nat} {f : Nat → Int64} (h8 : T ≤ 8) (h : okP T P f i = true) : vN f i / 10 < T ∧ vN f i % 10 < P ∧ f i = lN (vN f i) ∧ vN f i < 80 ∧ ∀ j, j < i → vN f j / 10 ≠ vN f i / 10 ∧ vN f j % 10 ≠ vN f i % 10 := by
  unfold okP at h
  cases e : ixN (f i) (10 * T) with
  | none => rw [e] at h; cases h
  | some k =>
    rw [e] at h
    simp only [Bool.and_eq_true, decide_eq_true_eq] at h
    have hk := ixN_lt e
    have ek := ixN_vN e
    rw [ek]
    refine ⟨by omega, h.1, ixN_eq e (by omega), by omega, fun j hj => ?_⟩
    rcases fst_cases (fun j => decide (vN f j / 10 = vN f i / 10 ∨ vN f j % 10 = vN f i % 10)) i with ⟨_, h2⟩ | ⟨l, h1, _⟩
    · have := h2 j hj
      rw [ek] at this
      simp only [decide_eq_false_iff_not, not_or] at this
      exact this
    · have h2 := h.2
      unfold okD at h2
      rw [h1] at h2; cases h2
def plF (T P n : Nat) (f : Nat → Int64) : Int32 := if n < 1 ∨ 3 < n then -4 else if fst (fun i => !okP T P f i) n = none then 0 else -3
theorem plF_0 {T P n : Nat} {f : Nat → Int64} (h : plF T P n f = 0) : 1 ≤ n ∧ n ≤ 3 ∧ ∀ i, i < n → okP T P f i = true := by
  unfold plF at h
  by_cases c : n < 1 ∨ 3 < n
  · rw [if_pos c] at h; exact absurd h (by decide)
  rw [if_neg c] at h
  rcases fst_cases (fun i => !okP T P f i) n with ⟨_, h2⟩ | ⟨i, h1, _⟩
  · exact ⟨by omega, by omega, fun i hi => by have := h2 i hi; simpa using this⟩
  · rw [h1, if_neg (by simp)] at h; exact absurd h (by decide)
/-- a number that tells no thing -/
theorem no_thing {v : Int64} {T : Nat} (h8 : T ≤ 8) (h : ixN v (10 * T) = none) (h0 : ¬ v < 0) : (nI T).toInt64 ≤ v / 10 ∧ ¬ inN (v / 10) T := by
  have z0 : (0 : Int64).toInt = 0 := by decide
  have hv : 0 ≤ v.toInt := by
    rw [Int64.lt_iff_toInt_lt, z0] at h0; omega
  have hd := div10 hv
  have hb : (10 * T : Int) ≤ v.toInt := by
    unfold ixN at h
    split at h
    · cases h
    · omega
  have hT : (nI T).toInt64.toInt = T := by rw [Int32.toInt_toInt64, nI_toInt (by omega)]
  constructor
  · rw [Int64.le_iff_toInt_le, hd, hT]; omega
  · rintro ⟨k, hk, e⟩
    have : (v / 10).toInt = k := by rw [e, pk_lT (by omega)]
    omega
theorem sp_canPlan {d : Nat} {s : pm_S} {M : pm_M} {T P y n i : Nat} {f : Nat → Int64} {Q : Int32 → pm_S → pm_M → Prop} (hd : 3 ≤ d) (e1 : M.1 15 1 = nI T) (e2 : M.1 15 2 = nI P) (h8 : T ≤ 8) (h6 : P ≤ 6) (hy : isY y) (hr : YR M y n f) (hi : i < n) (ok : ∀ j, j < i → okP T P f j = true) (hq : Q (if okP T P f i = true then 1 else 0) s M) : cI d yG_canPlan [.ref 0, .ref y, .int (nI i)] s M Q := by
  obtain ⟨d, rfl⟩ : ∃ e, d = e + 1 := ⟨d - 1, by omega⟩
  have h40 := hr.2.1
  refine enG_canPlan hy (sp_at (by omega) hy hr hi ?_)
  rw [e1, e2]
  unfold okP at hq
  cases e : ixN (f i) (10 * T) with
  | none =>
    rw [e] at hq
    refine br_c (fun _ => hq) (fun c => br_t (no_thing h8 e c).1 hq)
  | some k =>
    have hk := ixN_lt e
    have ev := ixN_eq e (by omega)
    have ek := ixN_vN e
    obtain ⟨d1, d2, _⟩ := k80 k (by omega)
    rw [e] at hq
    dsimp only at hq
    rw [ev, d2, d1, nI_l (by omega), nI_l (by omega)]
    refine br_f (by rw [lL 0, lN_ltP (by omega) (by omega)]; omega) (br_f (fun z => ?_) ?_)
    · rw [Int64.le_iff_toInt_le, pk_lT (by omega), pk_lT (by omega)] at z
      omega
    rw [lN_ltP (by omega) (by omega)]
    refine br_c (fun c => ?_) (fun c => ?_)
    · simp only [c, decide_true, Bool.true_and, decide_eq_true_eq] at hq
      refine loop_fst (L := fun j => wG_canPlan d 51 [.null, .ref y, .int (nI i), .long (lN k), .null, .int (nI j), .null, .null] [] s M Q) (P := fun j => decide (vN f j / 10 = vN f i / 10 ∨ vN f j % 10 = vN f i % 10)) (e := i) (K := fun r => Q (if r = none then 1 else 0) s M) hq ?_ ?_
      · intro hn
        exact sgG_canPlan_51 hy (br_t (by rw [nI_leP (by omega) (by omega)]; exact Nat.le_refl _) hn)
      · intro j hj k1 k2
        obtain ⟨_, _, fj, lj, _⟩ := okP_1 h8 (ok j hj)
        obtain ⟨q1, q2, _⟩ := k80 (vN f j) lj
        refine sgG_canPlan_51 hy (br_f (by rw [nI_leP (by omega) (by omega)]; omega) (sp_at (by omega) hy hr (by omega) ?_))
        rw [fj, q2, q1, d2, d1, nI_1]
        rw [ek] at k1 k2
        refine br_c (fun z => k1 ?_) (fun z => br_c (fun z2 => k1 ?_) (fun z2 => k2 ?_))
        · rw [pk_lEQ (by omega) (by omega)] at z; simp [z]
        · rw [pk_lEQ (by omega) (by omega)] at z2; simp [z2]
        · rw [pk_lEQ (by omega) (by omega)] at z z2; simp [z, z2]
    · simp only [c, decide_false, Bool.false_and, Bool.false_eq_true, if_false] at hq
      exact hq
theorem sp_planCode {d : Nat} {s : pm_S} {M : pm_M} {T P : Nat} {v : Int32} {Q : Int32 → pm_S → pm_M → Prop} (hd : 4 ≤ d) (e1 : M.1 15 1 = nI T) (e2 : M.1 15 2 = nI P) (h8 : T ≤ 8) (h6 : P ≤ 6) (hT : iTray M) (h2 : ¬ inI v 4 → Q (-2) s M) (hm : ∀ r, r < 4 → v = nI r → M.1 182 r = -1 → Q (-6) s M) (h0 : ∀ r n q, r < 4 → v = nI r → q < 4 → M.1 182 r = nI q → M.1 183 r = nI n → YR M (117 + 2 * r) n (fun k => M.2 184 (40 * r + k)) → Q (plF T P n (fun k => M.2 184 (40 * r + k))) s M) : cI d yG_planCode [.ref 0, .int v] s M Q := by
  obtain ⟨d, rfl⟩ : ∃ e, d = e + 1 := ⟨d - 1, by omega⟩
  obtain ⟨d, rfl⟩ : ∃ e, d = e + 1 := ⟨d - 1, by omega⟩
  refine enG_planCode (enG_trayCode (sp_hasTray (by omega) (fun hv => br_f (by decide) ?_) (fun hv => br_t rfl (br_f (by decide) (h2 hv)))))
  obtain ⟨r, hr, rfl⟩ := hv
  have v4 : vp_in (nI r) 4 := vpI (by omega) (by omega)
  refine ⟨v4, fun o eo ho => ?_⟩
  rw [nI_clamp (by omega)] at eo
  subst eo
  refine sp_isMissing (by omega) hr hT (fun z => br_f (by decide) (hm r hr rfl z)) (fun n q q0 q1 q2 q3 q4 => br_t (by decide) ⟨v4, fun o eo ho => ?_⟩)
  rw [nI_clamp (by omega)] at eo
  subst eo
  have h40 := q4.2.1
  have hq := h0 r n q hr rfl q0 q1 q3 q4
  unfold plF at hq
  rw [q4.1, l1, lI 3, nI_ltP (by omega) (by omega), nI_leP (by omega) (by omega)]
  refine br_c (fun c => ?_) (fun c => br_c (fun c2 => ?_) (fun c2 => ?_))
  · rw [if_pos (by omega)] at hq; exact hq
  · rw [if_neg (by omega)] at hq
    refine loop_fst (L := fun i => (∀ j, j < i → okP T P (fun k => M.2 184 (40 * r + k)) j = true) → wG_planCode (d + 1) 38 [.ref 0, .int (nI r), .null, .int (nI n), .int (nI i)] [] s M Q) (P := fun i => !okP T P (fun k => M.2 184 (40 * r + k)) i) (e := n) (K := fun w => Q (if w = none then 0 else -3) s M) hq ?_ ?_ (fun j h => by omega)
    · intro hk _
      exact sgG_planCode_38 (br_t (by rw [nI_leP (by omega) (by omega)]; exact Nat.le_refl _) hk)
    · intro i hi k1 k2 ok
      refine sgG_planCode_38 (br_f (by rw [nI_leP (by omega) (by omega)]; omega) ⟨v4, fun o eo ho => ?_⟩)
      rw [nI_clamp (by omega)] at eo
      subst eo
      refine sp_canPlan (T := T) (P := P) (by omega) e1 e2 h8 h6 ho q4 hi ok ?_
      cases e : okP T P (fun k => M.2 184 (40 * r + k)) i with
      | false => exact br_t rfl (k1 (by rw [e]; rfl))
      | true =>
        refine br_f (by decide) ?_
        rw [nI_1]
        refine k2 (by rw [e]; rfl) (fun j hj => ?_)
        by_cases z : j = i
        · subst z; exact e
        · exact ok j (by omega)
  · rw [if_pos (by omega)] at hq; exact hq
