def mgS (c : Nat → Nat → Int32) (f : Nat → Int32) (p S t : Nat) (b : Int32) : Int32 := if cmF c p t S ≤ 0 then (if (-268435456) ≤ b then b else (-268435456)) else (if 1 + f (S ||| 2 ^ t) ≤ b then b else 1 + f (S ||| 2 ^ t))
def mgF (c : Nat → Nat → Int32) (T m : Nat) : Nat → Nat → Nat → Int32
  | 0, _, _ => 0
  | k + 1, p, S => itr (mgS c (mgF c T m k (p + 1)) p S) T (if p = m then (-268435456) else mgF c T m k (p + 1) S)
def m1V (c : Nat → Nat → Int32) (f : Nat → Int32) (p S t : Nat) : Option Int32 := if 0 < cmF c p t S then some (1 + f (S ||| 2 ^ t)) else none
def mgV (c : Nat → Nat → Int32) (f : Nat → Int32) (p S t : Nat) : Option Int32 := some (if cmF c p t S ≤ 0 then (-268435456) else 1 + f (S ||| 2 ^ t))
theorem m1_mx {c : Nat → Nat → Int32} {f : Nat → Int32} {p S : Nat} : m1S c f p S = mxS (m1V c f p S) := by
  funext t b
  unfold m1S mxS m1V
  by_cases z : 0 < cmF c p t S
  · rw [if_pos z, if_pos z]
  · rw [if_neg z, if_neg z]
theorem mg_mx {c : Nat → Nat → Int32} {f : Nat → Int32} {p S : Nat} : mgS c f p S = mxS (mgV c f p S) := by
  funext t b
  unfold mgS mxS mgV
  by_cases z : cmF c p t S ≤ 0
  · simp only [if_pos z]
  · simp only [if_neg z]
theorem one_add {x : Int32} (h1 : -268435456 ≤ x.toInt) (h2 : x.toInt ≤ 100) : (1 + x).toInt = 1 + x.toInt := by
  rw [Int32.toInt_add]
  have : (1 : Int32).toInt = 1 := by decide
  rw [this]
  exact Int.bmod_eq_of_le (by omega) (by omega)
theorem cm_bt {c : Nat → Nat → Int32} {p t S : Nat} (h : 0 < cmF c p t S) : bt S t = false ∧ 0 < c p t := by
  unfold cmF at h
  cases e : bt S t with
  | true => rw [if_pos e] at h; exact absurd h (by decide)
  | false => rw [if_neg (by rw [e]; simp)] at h; exact ⟨rfl, h⟩
theorem bt_cm {c : Nat → Nat → Int32} {p t S : Nat} (h : bt S t = false) (h2 : 0 < c p t) : 0 < cmF c p t S := by
  unfold cmF
  rw [if_neg (by rw [h]; simp)]; exact h2
theorem m1_ex {c : Nat → Nat → Int32} {T : Nat} : ∀ k, k ≤ 6 → ∀ p S, ∃ a, vaM c T k p S a ∧ (m1F c T k p S).toInt = (szM k a : Int) := by
  intro k
  induction k with
  | zero => intro _ p S; exact ⟨fun _ => none, ⟨fun i t h => by omega, fun i j t h => by omega⟩, by unfold m1F; decide⟩
  | succ k ih =>
    intro hk p S
    have e : m1F c T (k + 1) p S = itr (mxS (m1V c (m1F c T k (p + 1)) p S)) T (m1F c T k (p + 1) S) := by
      rw [← m1_mx]; rfl
    rcases mx_in (v := m1V c (m1F c T k (p + 1)) p S) (n := T) (b := m1F c T k (p + 1) S) with h | ⟨t, h1, h2⟩
    · obtain ⟨a, q1, q2⟩ := ih (by omega) (p + 1) S
      refine ⟨cons none a, vaM_none q1, ?_⟩
      rw [e, h, q2, szM_s]
      simp [cons]
    · rw [← e] at h2
      unfold m1V at h2
      by_cases z : 0 < cmF c p t S
      · rw [if_pos z] at h2
        obtain ⟨a, q1, q2⟩ := ih (by omega) (p + 1) (S ||| 2 ^ t)
        have := cm_bt z
        have sz := szM_le (k := k) (a := a)
        refine ⟨cons (some t) a, vaM_some h1 this.1 this.2 q1, ?_⟩
        injection h2 with h2
        rw [← h2, one_add (by omega) (by omega), q2, szM_s, show (fun i => cons (some t) a (i + 1)) = a from rfl]
        show _ = ((szM k a + 1 : Nat) : Int)
        omega
      · rw [if_neg z] at h2; cases h2
theorem mg_bd {c : Nat → Nat → Int32} {T m : Nat} : ∀ k, k ≤ 6 → ∀ p S, -268435456 ≤ (mgF c T m k p S).toInt ∧ (mgF c T m k p S).toInt ≤ k := by
  have hF : (-268435456 : Int32).toInt = -268435456 := by decide
  intro k
  induction k with
  | zero => intro _ p S; unfold mgF; decide
  | succ k ih =>
    intro hk p S
    have e : mgF c T m (k + 1) p S = itr (mxS (mgV c (mgF c T m k (p + 1)) p S)) T (if p = m then (-268435456) else mgF c T m k (p + 1) S) := by
      rw [← mg_mx]; rfl
    rcases mx_in (v := mgV c (mgF c T m k (p + 1)) p S) (n := T) (b := if p = m then (-268435456) else mgF c T m k (p + 1) S) with h | ⟨t, h1, h2⟩
    · rw [e, h]
      split
      · rw [hF]; omega
      · have := ih (by omega) (p + 1) S; omega
    · rw [← e] at h2
      unfold mgV at h2
      injection h2 with h2
      rw [← h2]
      split
      · rw [hF]; omega
      · have := ih (by omega) (p + 1) (S ||| 2 ^ t)
        rw [one_add (by omega) (by omega)]; omega
theorem mg_ge {c : Nat → Nat → Int32} {T m : Nat} : ∀ k, k ≤ 6 → ∀ p S a, vaM c T k p S a → (p ≤ m → m < p + k → (a (m - p)).isSome) → (szM k a : Int) ≤ (mgF c T m k p S).toInt := by
  intro k
  induction k with
  | zero => intro _ p S a _ _; unfold mgF; show (0 : Int) ≤ _; decide
  | succ k ih =>
    intro hk p S a va ha
    have e : mgF c T m (k + 1) p S = itr (mxS (mgV c (mgF c T m k (p + 1)) p S)) T (if p = m then (-268435456) else mgF c T m k (p + 1) S) := by
      rw [← mg_mx]; rfl
    rw [szM_s]
    have ha' : p + 1 ≤ m → m < p + 1 + k → ((fun i => a (i + 1)) (m - (p + 1))).isSome := by
      intro z1 z2
      have := ha (by omega) (by omega)
      show (a (m - (p + 1) + 1)).isSome
      rw [show m - (p + 1) + 1 = m - p by omega]; exact this
    cases h0 : a 0 with
    | none =>
      have hm : ¬ p = m := by
        intro z
        have := ha (by omega) (by omega)
        rw [show m - p = 0 by omega, h0] at this
        cases this
      have q := ih (by omega) (p + 1) S _ (vaM_tail0 va h0) ha'
      have le := mx_0 (v := mgV c (mgF c T m k (p + 1)) p S) (n := T) (b := if p = m then (-268435456) else mgF c T m k (p + 1) S)
      rw [← e, if_neg hm, Int32.le_iff_toInt_le] at le
      simp
      omega
    | some u =>
      obtain ⟨v1, v2, v3⟩ := va.1 0 u (by omega) h0
      have q := ih (by omega) (p + 1) (S ||| 2 ^ u) _ (vaM_tail1 va h0) ha'
      have bd := mg_bd (c := c) (T := T) (m := m) k (by omega) (p + 1) (S ||| 2 ^ u)
      have z : ¬ cmF c p u S ≤ 0 := i_nle (bt_cm v2 v3)
      have le := mx_t (v := mgV c (mgF c T m k (p + 1)) p S) (n := T) (b := if p = m then (-268435456) else mgF c T m k (p + 1) S) v1 (x := 1 + mgF c T m k (p + 1) (S ||| 2 ^ u)) (by unfold mgV; rw [if_neg z])
      rw [← e, Int32.le_iff_toInt_le, one_add (by omega) (by omega)] at le
      simp
      omega
theorem mg_lt {c : Nat → Nat → Int32} {T m : Nat} (hm : ∀ t, t < T → c m t ≤ 0) : ∀ k, k ≤ 6 → ∀ p S, p ≤ m → m < p + k → (mgF c T m k p S).toInt ≤ -268435456 + (k : Int) := by
  have hF : (-268435456 : Int32).toInt = -268435456 := by decide
  intro k
  induction k with
  | zero => intro _ p S h1 h2; omega
  | succ k ih =>
    intro hk p S h1 h2
    have e : mgF c T m (k + 1) p S = itr (mxS (mgV c (mgF c T m k (p + 1)) p S)) T (if p = m then (-268435456) else mgF c T m k (p + 1) S) := by
      rw [← mg_mx]; rfl
    rcases mx_in (v := mgV c (mgF c T m k (p + 1)) p S) (n := T) (b := if p = m then (-268435456) else mgF c T m k (p + 1) S) with h | ⟨t, t1, t2⟩
    · rw [e, h]
      split
      · rw [hF]; omega
      · have := ih (by omega) (p + 1) S (by omega) (by omega); omega
    · rw [← e] at t2
      unfold mgV at t2
      injection t2 with t2
      rw [← t2]
      by_cases z : cmF c p t S ≤ 0
      · rw [if_pos z, hF]; omega
      · rw [if_neg z]
        have bd := mg_bd (c := c) (T := T) (m := m) k (by omega) (p + 1) (S ||| 2 ^ t)
        have hpm : ¬ p = m := by
          intro q
          subst q
          exact i_nle (cm_bt (i_lt z)).2 (hm t t1)
        have := ih (by omega) (p + 1) (S ||| 2 ^ t) (by omega) (by omega)
        rw [one_add (by omega) (by omega)]; omega
/-- one more is given what it claims, at most one other loses it -/
theorem exch {c : Nat → Nat → Int32} {T k j t : Nat} {a : Nat → Option Nat} (va : vaM c T k 0 0 a) (hj : j < k) (ht : t < T) (hc : 0 < c j t) : ∃ b, vaM c T k 0 0 b ∧ (b j).isSome ∧ szM k a ≤ szM k b := by
  by_cases h : (a j).isSome
  · exact ⟨a, va, h, Nat.le_refl _⟩
  have hn : a j = none := by
    cases e : a j with
    | none => rfl
    | some x => rw [e] at h; exact absurd rfl h
  refine ⟨fun i => if i = j then some t else if a i = some t then none else a i, ⟨?_, ?_⟩, by simp, ?_⟩
  · intro i u hi e
    dsimp only at e
    by_cases z : i = j
    · rw [if_pos z] at e
      cases e
      subst z
      refine ⟨ht, by simp [bt], by simpa using hc⟩
    · rw [if_neg z] at e
      split at e
      · cases e
      · exact va.1 i u hi e
  · intro i i' u hi hi' e1 e2
    dsimp only at e1 e2
    by_cases z : i = j
    · by_cases z' : i' = j
      · omega
      · rw [if_pos z] at e1
        cases e1
        rw [if_neg z'] at e2
        split at e2
        · cases e2
        · rename_i q; exact absurd e2 q
    · by_cases z' : i' = j
      · rw [if_pos z'] at e2
        cases e2
        rw [if_neg z] at e1
        split at e1
        · cases e1
        · rename_i q; exact absurd e1 q
      · rw [if_neg z] at e1
        rw [if_neg z'] at e2
        split at e1
        · cases e1
        · split at e2
          · cases e2
          · exact va.2 i i' u hi hi' e1 e2
  · have key : ∀ m, m ≤ k → szM m a + (if j < m then 1 else 0) ≤ szM m (fun i => if i = j then some t else if a i = some t then none else a i) + (if ∃ i, i < m ∧ a i = some t then 1 else 0) := by
      intro m
      induction m with
      | zero => intro _; simp [szM, itr]
      | succ m ih =>
        intro hm
        have ih := ih (by omega)
        have e1 : ∀ b : Nat → Option Nat, szM (m + 1) b = szM m b + if (b m).isSome then 1 else 0 := fun b => rfl
        rw [e1, e1]
        by_cases z : m = j
        · subst z
          have q : (∃ i, i < m + 1 ∧ a i = some t) ↔ ∃ i, i < m ∧ a i = some t := by
            constructor
            · rintro ⟨i, h1, h2⟩
              by_cases w : i = m
              · subst w; rw [hn] at h2; cases h2
              · exact ⟨i, by omega, h2⟩
            · rintro ⟨i, h1, h2⟩; exact ⟨i, by omega, h2⟩
          simp only [q, hn]
          simp at ih ⊢
          omega
        · by_cases w : a m = some t
          · have no : ¬ ∃ i, i < m ∧ a i = some t := by
              rintro ⟨i, h1, h2⟩
              have := va.2 i m t (by omega) (by omega) h2 w
              omega
            have yes : ∃ i, i < m + 1 ∧ a i = some t := ⟨m, by omega, w⟩
            rw [if_neg no] at ih
            rw [if_pos yes]
            simp only [if_neg z, w, if_true, Option.isSome_some, Option.isSome_none]
            have : (if j < m + 1 then 1 else 0) = (if j < m then 1 else 0) := by
              by_cases y : j < m
              · rw [if_pos y, if_pos (by omega)]
              · rw [if_neg y, if_neg (by omega)]
            rw [this]
            simp
            omega
          · have q : (∃ i, i < m + 1 ∧ a i = some t) ↔ ∃ i, i < m ∧ a i = some t := by
              constructor
              · rintro ⟨i, h1, h2⟩
                by_cases y : i = m
                · subst y; exact absurd h2 w
                · exact ⟨i, by omega, h2⟩
              · rintro ⟨i, h1, h2⟩; exact ⟨i, by omega, h2⟩
            simp only [q, if_neg z, if_neg w]
            have : (if j < m + 1 then 1 else 0) = (if j < m then 1 else 0) := by
              by_cases y : j < m
              · rw [if_pos y, if_pos (by omega)]
              · rw [if_neg y, if_neg (by omega)]
            rw [this]
            omega
    have := key k (Nat.le_refl _)
    rw [if_pos hj] at this
    split at this <;> omega
def someB (c : Nat → Nat → Int32) (T p : Nat) : Bool := (fst (fun t => decide (0 < c p t)) T).isSome
theorem without_eq {c : Nat → Nat → Int32} {T P p : Nat} (h6 : P ≤ 6) (hp : p < P) : (m1F c T P 0 0 ≤ mgF c T p P 0 0) = (someB c T p = true) := by
  obtain ⟨a, va, sa⟩ := m1_ex (c := c) (T := T) P h6 0 0
  rw [Int32.le_iff_toInt_le]
  rcases fst_cases (fun t => decide (0 < c p t)) T with ⟨h1, h2⟩ | ⟨t, h1, h2, h3, _⟩
  · have := mg_lt (c := c) (T := T) (m := p) (fun t ht => by have := h2 t ht; simp at this; exact this) P h6 0 0 (by omega) (by omega)
    unfold someB
    rw [h1]
    simp
    omega
  · obtain ⟨b, vb, jb, le⟩ := exch va hp h2 (by simpa using h3)
    have := mg_ge (c := c) (T := T) (m := p) P h6 0 0 b vb (fun _ _ => by simpa using jb)
    unfold someB
    rw [h1]
    simp
    omega
