/-! trades -/
theorem php : ∀ (m : Nat) (v : Nat → Nat), (∀ i, i ≤ m → v i < m) → ∃ i j, i < j ∧ j ≤ m ∧ v i = v j := by
  intro m
  induction m with
  | zero => intro v h; have := h 0 (by omega); omega
  | succ m ih =>
    intro v h
    by_cases c : ∃ i, i ≤ m ∧ v i = v (m + 1)
    · obtain ⟨i, h1, h2⟩ := c
      exact ⟨i, m + 1, by omega, by omega, h2⟩
    have c' : ∀ i, i ≤ m → v i ≠ v (m + 1) := fun i hi e => c ⟨i, hi, e⟩
    have hx := h (m + 1) (by omega)
    obtain ⟨i, j, h1, h2, h3⟩ := ih (fun i => if v i = m then v (m + 1) else v i) (fun i hi => by
      have a := h i (by omega)
      have b := c' i hi
      split <;> omega)
    have bi := c' i (by omega)
    have bj := c' j (by omega)
    refine ⟨i, j, h1, by omega, ?_⟩
    split at h3 <;> split at h3 <;> omega
def hN (g : Nat → Int32) (T q : Nat) : Nat := (heldF g T q).getD 0
/-- those left all hold one -/
def okL (g : Nat → Int32) (T P L : Nat) : Prop := L < 64 ∧ ∀ q, q < 6 → bt L q = true → q < P ∧ ∃ t, heldF g T q = some t
theorem okL_h {g : Nat → Int32} {T P L q : Nat} (h : okL g T P L) (hq : q < 6) (hb : bt L q = true) : q < P ∧ heldF g T q = some (hN g T q) ∧ hN g T q < T := by
  obtain ⟨a, t, b⟩ := h.2 q hq hb
  unfold hN
  rw [b]
  exact ⟨a, rfl, (heldF_lt b).1⟩
theorem hN_inj {g : Nat → Int32} {T p q : Nat} {a b : Nat} (h6p : p < 6) (h6q : q < 6) (ha : heldF g T p = some a) (hb : heldF g T q = some b) (e : a = b) : p = q := by
  have x := (heldF_lt ha).2
  have y := (heldF_lt hb).2
  subst e
  rw [x, nI_inj (by omega) (by omega)] at y
  omega
/-- whom p points to -/
def isPt (g : Nat → Int32) (T L p r : Nat) : Prop := r < 6 ∧ bt L r = true ∧ (∀ q, q < 6 → bt L q = true → clF g p (hN g T q) ≤ clF g p (hN g T r)) ∧ (clF g p (hN g T r) = clF g p (hN g T p) → r = p) ∧ (r ≠ p → ∀ q, q < 6 → bt L q = true → clF g p (hN g T q) = clF g p (hN g T r) → hN g T r ≤ hN g T q)
theorem isPt_uni {g : Nat → Int32} {T P L p r r' : Nat} (hL : okL g T P L) (h : isPt g T L p r) (h' : isPt g T L p r') : r = r' := by
  obtain ⟨a0, a1, a2, a3, a4⟩ := h
  obtain ⟨b0, b1, b2, b3, b4⟩ := h'
  have e : clF g p (hN g T r) = clF g p (hN g T r') := by
    have x := b2 r a0 a1
    have y := a2 r' b0 b1
    grind
  by_cases c : clF g p (hN g T r) = clF g p (hN g T p)
  · rw [a3 c, b3 (e ▸ c)]
  · have n1 : r ≠ p := fun z => c (by rw [z])
    have n2 : r' ≠ p := fun z => c (by rw [e, z])
    have x := a4 n1 r' b0 b1 e.symm
    have y := b4 n2 r a0 a1 e
    obtain ⟨_, h1, _⟩ := okL_h hL a0 a1
    obtain ⟨_, h2, _⟩ := okL_h hL b0 b1
    exact hN_inj a0 b0 h1 h2 (by omega)
def chS (g : Nat → Int32) (T L p q : Nat) (x : Nat × Int32) : Nat × Int32 :=
  if bt L q = true then (if x.2 < clF g p (hN g T q) then (q, clF g p (hN g T q)) else if clF g p (hN g T q) = x.2 then (if x.1 = p then x else if hN g T x.1 ≤ hN g T q then x else (q, clF g p (hN g T q))) else x) else x
def ptF (g : Nat → Int32) (T L p : Nat) : Nat := (itr (chS g T L p) 6 (p, clF g p (hN g T p))).1
theorem chS_inv {g : Nat → Int32} {T L p : Nat} (hp : p < 6) (hb : bt L p = true) : ∀ i, i ≤ 6 → (itr (chS g T L p) i (p, clF g p (hN g T p))).1 < 6 ∧ bt L (itr (chS g T L p) i (p, clF g p (hN g T p))).1 = true ∧ (itr (chS g T L p) i (p, clF g p (hN g T p))).2 = clF g p (hN g T (itr (chS g T L p) i (p, clF g p (hN g T p))).1) ∧ clF g p (hN g T p) ≤ (itr (chS g T L p) i (p, clF g p (hN g T p))).2 ∧ (∀ q, q < i → bt L q = true → clF g p (hN g T q) ≤ (itr (chS g T L p) i (p, clF g p (hN g T p))).2) ∧ ((itr (chS g T L p) i (p, clF g p (hN g T p))).2 = clF g p (hN g T p) → (itr (chS g T L p) i (p, clF g p (hN g T p))).1 = p) ∧ ((itr (chS g T L p) i (p, clF g p (hN g T p))).1 ≠ p → ∀ q, q < i → bt L q = true → clF g p (hN g T q) = (itr (chS g T L p) i (p, clF g p (hN g T p))).2 → hN g T (itr (chS g T L p) i (p, clF g p (hN g T p))).1 ≤ hN g T q) := by
  intro i
  induction i with
  | zero =>
    intro _
    rw [itr_0]
    refine ⟨hp, hb, rfl, by grind, fun q h => by omega, fun _ => rfl, fun h => absurd rfl h⟩
  | succ i ih =>
    intro hi
    have ih := ih (by omega)
    rw [itr_s]
    generalize itr (chS g T L p) i (p, clF g p (hN g T p)) = x at ih ⊢
    obtain ⟨w, m⟩ := x
    obtain ⟨a0, a1, a2, a3, a4, a5, a6⟩ := ih
    dsimp only at a0 a1 a2 a3 a4 a5 a6
    unfold chS
    dsimp only
    by_cases c : bt L i = true
    · rw [if_pos c]
      by_cases c1 : m < clF g p (hN g T i)
      · rw [if_pos c1]
        dsimp only
        refine ⟨by omega, c, rfl, by grind, fun q hq hbq => ?_, fun e => ?_, fun _ q hq hbq e => ?_⟩
        · by_cases z : q = i
          · subst z; grind
          · have := a4 q (by omega) hbq; grind
        · exfalso; grind
        · by_cases z : q = i
          · subst z; exact Nat.le_refl _
          · have := a4 q (by omega) hbq
            exfalso; grind
      · rw [if_neg c1]
        by_cases c2 : clF g p (hN g T i) = m
        · rw [if_pos c2]
          have al : ∀ q, q < i + 1 → bt L q = true → clF g p (hN g T q) ≤ m := by
            intro q hq hbq
            by_cases z : q = i
            · subst z; grind
            · exact a4 q (by omega) hbq
          by_cases c3 : w = p
          · rw [if_pos c3]
            exact ⟨a0, a1, a2, a3, al, a5, fun h => absurd c3 h⟩
          · rw [if_neg c3]
            by_cases c4 : hN g T w ≤ hN g T i
            · rw [if_pos c4]
              refine ⟨a0, a1, a2, a3, al, a5, fun h q hq hbq e => ?_⟩
              by_cases z : q = i
              · subst z; exact c4
              · exact a6 h q (by omega) hbq e
            · rw [if_neg c4]
              dsimp only
              rw [c2]
              refine ⟨by omega, c, rfl, a3, al, fun e => absurd (a5 e) c3, fun _ q hq hbq e => ?_⟩
              by_cases z : q = i
              · subst z; exact Nat.le_refl _
              · have := a6 c3 q (by omega) hbq e
                omega
        · rw [if_neg c2]
          refine ⟨a0, a1, a2, a3, fun q hq hbq => ?_, a5, fun h q hq hbq e => ?_⟩
          · by_cases z : q = i
            · subst z; grind
            · exact a4 q (by omega) hbq
          · by_cases z : q = i
            · subst z; exact absurd e c2
            · exact a6 h q (by omega) hbq e
    · rw [if_neg c]
      refine ⟨a0, a1, a2, a3, fun q hq hbq => ?_, a5, fun h q hq hbq e => ?_⟩
      · by_cases z : q = i
        · subst z; exact absurd hbq c
        · exact a4 q (by omega) hbq
      · by_cases z : q = i
        · subst z; exact absurd hbq c
        · exact a6 h q (by omega) hbq e
theorem ptF_is {g : Nat → Int32} {T L p : Nat} (hp : p < 6) (hb : bt L p = true) : isPt g T L p (ptF g T L p) := by
  obtain ⟨a0, a1, a2, a3, a4, a5, a6⟩ := chS_inv (g := g) (T := T) hp hb 6 (Nat.le_refl _)
  rw [a2] at a3 a4 a5 a6
  exact ⟨a0, a1, a4, a5, a6⟩
def pw (f : Nat → Nat) (k p : Nat) : Nat := itr (fun _ q => f q) k p
theorem pw_s {f : Nat → Nat} {k p : Nat} : pw f (k + 1) p = f (pw f k p) := rfl
theorem pw_add {f : Nat → Nat} {j k p : Nat} : pw f (j + k) p = pw f k (pw f j p) := by
  induction k with
  | zero => rfl
  | succ k ih => rw [← Nat.add_assoc, pw_s, pw_s, ih]
theorem pw_in {g : Nat → Int32} {T L p k : Nat} (hp : p < 6) (hb : bt L p = true) : pw (ptF g T L) k p < 6 ∧ bt L (pw (ptF g T L) k p) = true := by
  induction k with
  | zero => exact ⟨hp, hb⟩
  | succ k ih =>
    rw [pw_s]
    have := ptF_is (g := g) (T := T) ih.1 ih.2
    exact ⟨this.1, this.2.1⟩
/-- whether p is on a ring -/
def rgB (f : Nat → Nat) (p : Nat) : Bool := match fst (fun k => decide (pw f (k + 1) p = p)) 6 with
  | some _ => true
  | none => decide (pw f 7 p = p)
def goF (g : Nat → Int32) (T L n : Nat) : Nat := setF (fun p => bt L p && rgB (ptF g T L) p) n
def dfN (L S : Nat) : Nat := L &&& (63 ^^^ S)
theorem df_bit : ∀ L, L < 64 → ∀ S, S < 64 → nI L &&& (nI S ^^^ (-1)) = nI (dfN L S) ∧ dfN L S < 64 := by decide +kernel
theorem df_bt : ∀ p, p < 6 → ∀ L, L < 64 → ∀ S, S < 64 → bt (dfN L S) p = (bt L p && !bt S p) := by decide +kernel
theorem bt0 : ∀ L, L < 64 → (∀ p, p < 6 → bt L p = false) → L = 0 := by decide +kernel
theorem ring_ex {g : Nat → Int32} {T L : Nat} (hL : L < 64) (h0 : L ≠ 0) : ∃ p, p < 6 ∧ bt L p = true ∧ rgB (ptF g T L) p = true := by
  have : ∃ p, p < 6 ∧ bt L p = true := by
    apply Classical.byContradiction
    intro h
    refine h0 (bt0 L hL (fun p hp => ?_))
    cases e : bt L p with
    | false => rfl
    | true => exact absurd ⟨p, hp, e⟩ h
  obtain ⟨p, hp, hb⟩ := this
  obtain ⟨i, j, h1, h2, h3⟩ := php 6 (fun k => pw (ptF g T L) k p) (fun k _ => (pw_in hp hb).1)
  have hi := pw_in (g := g) (T := T) (k := i) hp hb
  refine ⟨pw (ptF g T L) i p, hi.1, hi.2, ?_⟩
  have e : pw (ptF g T L) (j - i) (pw (ptF g T L) i p) = pw (ptF g T L) i p := by
    rw [← pw_add, show i + (j - i) = j by omega, h3]
  unfold rgB
  rcases fst_cases (fun k => decide (pw (ptF g T L) (k + 1) (pw (ptF g T L) i p) = pw (ptF g T L) i p)) 6 with ⟨_, q⟩ | ⟨k, q, _⟩
  · have := q (j - i - 1) (by omega)
    rw [show j - i - 1 + 1 = j - i by omega, e] at this
    simp at this
  · rw [q]
