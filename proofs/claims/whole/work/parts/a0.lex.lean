/-! tokens -/
def advF (P : Nat → Bool) (n : Nat) : Nat → Nat → Nat
  | 0, p => p
  | f + 1, p => if p < n ∧ P p = true then advF P n f (p + 1) else p
def adv (P : Nat → Bool) (n p : Nat) : Nat := advF P n (n - p) p
theorem adv_step {P : Nat → Bool} {n p : Nat} (h : p < n) (hp : P p = true) : adv P n p = adv P n (p + 1) := by
  unfold adv
  obtain ⟨f, hf⟩ : ∃ f, n - p = f + 1 := ⟨n - p - 1, by omega⟩
  rw [hf, show n - (p + 1) = f by omega]
  show (if p < n ∧ P p = true then _ else _) = _
  rw [if_pos ⟨h, hp⟩]
theorem adv_here {P : Nat → Bool} {n p : Nat} (h : ¬ (p < n ∧ P p = true)) : adv P n p = p := by
  unfold adv
  cases hf : n - p with
  | zero => rfl
  | succ f =>
    show (if p < n ∧ P p = true then _ else _) = _
    rw [if_neg h]
theorem adv_spec {P : Nat → Bool} {n : Nat} : ∀ f p, n - p = f → p ≤ n → p ≤ adv P n p ∧ adv P n p ≤ n ∧ ¬ (adv P n p < n ∧ P (adv P n p) = true) ∧ ∀ q, p ≤ q → q < adv P n p → P q = true := by
  intro f
  induction f with
  | zero =>
    intro p hf hp
    rw [adv_here (by omega)]
    exact ⟨Nat.le_refl _, hp, by omega, fun q h1 h2 => by omega⟩
  | succ f ih =>
    intro p hf hp
    by_cases c : p < n ∧ P p = true
    · rw [adv_step c.1 c.2]
      obtain ⟨a1, a2, a3, a4⟩ := ih (p + 1) (by omega) (by omega)
      refine ⟨by omega, a2, a3, fun q h1 h2 => ?_⟩
      by_cases e : q = p
      · subst e; exact c.2
      · exact a4 q (by omega) h2
    · rw [adv_here c]
      exact ⟨Nat.le_refl _, hp, c, fun q h1 h2 => by omega⟩
def isBl (B : Nat → Nat) (p : Nat) : Bool := decide (B p = 32 ∨ B p = 10)
def isLe (B : Nat → Nat) (p : Nat) : Bool := decide (97 ≤ B p ∧ B p ≤ 122)
def isDi (B : Nat → Nat) (p : Nat) : Bool := decide (48 ≤ B p ∧ B p ≤ 57)
def isSg (b : Nat) : Bool := [40, 41, 42, 43, 45, 58, 59, 60, 61, 62, 91, 93].contains b
def nvF (B : Nat → Nat) (a m : Nat) : Nat := itr (fun i v => v * 10 + (B (a + i) - 48)) m 0
def wdL : List (List Nat) := [[108, 105, 110, 101], [116, 104, 105, 110, 103], [112, 101, 114, 115, 111, 110], [99, 108, 97, 105, 109, 115], [111, 112, 101, 110, 115], [119, 101, 116], [97, 116], [104, 117, 101], [119, 101, 105, 103, 104, 116], [109, 97, 114, 107], [98, 101, 97, 114, 115], [104, 111, 108, 100, 115], [119, 104, 111], [98, 111, 114, 110, 101], [105, 102], [116, 104, 101, 110], [101, 108, 115, 101], [101, 110, 100], [110, 111, 116], [97, 110, 100], [111, 114]]
def wdLen (j : Nat) : Nat := (wdL.getD j []).length
def wdC (j i : Nat) : Nat := (wdL.getD j []).getD i 0
/-- the text from a to b is word j -/
def mtB (B : Nat → Nat) (a b j : Nat) : Bool := decide (a + wdLen j = b) && decide (fst (fun i => !decide (B (a + i) = wdC j i)) (wdLen j) = none)
def wkF (B : Nat → Nat) (a b : Nat) : Nat := match fst (mtB B a b) 21 with
  | some j => 200 + j
  | none => 130
/-- kind, place, where it ends -/
def tkF (B : Nat → Nat) (n p : Nat) : Nat × Nat × Nat :=
  if n ≤ adv (isBl B) n p then (129, adv (isBl B) n p, adv (isBl B) n p)
  else if isLe B (adv (isBl B) n p) = true then (wkF B (adv (isBl B) n p) (adv (isLe B) n (adv (isBl B) n p)), adv (isBl B) n p, adv (isLe B) n (adv (isBl B) n p))
  else if isDi B (adv (isBl B) n p) = true then ((if adv (isDi B) n (adv (isBl B) n p) - adv (isBl B) n p ≤ 3 then 128 else 131), adv (isBl B) n p, adv (isDi B) n (adv (isBl B) n p))
  else if isSg (B (adv (isBl B) n p)) = true then (B (adv (isBl B) n p), adv (isBl B) n p, adv (isBl B) n p + 1)
  else (131, adv (isBl B) n p, adv (isBl B) n p + 1)
def wdS (j : Nat) : Nat := itr (fun i s => s + wdLen i + 1) j 0
theorem wd_tab : ∀ j, j < 21 → (∀ i, i < wdLen j → pm_sc 0 (wdS j + i) = nI (wdC j i) ∧ 97 ≤ wdC j i ∧ wdC j i ≤ 122) ∧ wdS j + wdLen j ≤ 103 ∧ (wdS j + wdLen j < 103 → pm_sc 0 (wdS j + wdLen j) = 32) ∧ (j < 20 → wdS j + wdLen j < 103) ∧ 1 ≤ wdLen j := by decide +kernel
theorem wd_end : wdS 20 + wdLen 20 = 103 := by decide +kernel
def mpB (B : Nat → Nat) (a b j i : Nat) : Bool := decide (a + i ≤ b) && decide (fst (fun i => !decide (B (a + i) = wdC j i)) i = none)
theorem mpB_t {B : Nat → Nat} {a b j i : Nat} : mpB B a b j i = true ↔ a + i ≤ b ∧ fst (fun i => !decide (B (a + i) = wdC j i)) i = none := by
  unfold mpB; rw [Bool.and_eq_true, decide_eq_true_eq, decide_eq_true_eq]
theorem mtB_t {B : Nat → Nat} {a b j : Nat} : mtB B a b j = true ↔ a + wdLen j = b ∧ fst (fun i => !decide (B (a + i) = wdC j i)) (wdLen j) = none := by
  unfold mtB; rw [Bool.and_eq_true, decide_eq_true_eq, decide_eq_true_eq]
theorem mtB_f {B : Nat → Nat} {a b j : Nat} (h : ¬ (a + wdLen j = b ∧ fst (fun i => !decide (B (a + i) = wdC j i)) (wdLen j) = none)) : mtB B a b j = false := by
  cases e : mtB B a b j with
  | false => rfl
  | true => exact absurd (mtB_t.1 e) h
theorem sp_wordFrom {d : Nat} {s : pm_S} {M : pm_M} {B : Nat → Nat} {n a b : Nat} {Q : Int32 → pm_S → pm_M → Prop} (hd : 1 ≤ d) (hn : n ≤ 900) (hb : b ≤ n) (ha : a ≤ b) (hB : ∀ k, k < n → M.1 14 k = nI (B k) ∧ B k < 256) (hq : Q (nI (wkF B a b)) s M) : cI d yR_wordFrom [.ref 1, .int (nI a), .int (nI b)] s M Q := by
  obtain ⟨d, rfl⟩ : ∃ e, d = e + 1 := ⟨d - 1, by omega⟩
  refine enR_wordFrom ?_
  -- one word
  have word : ∀ j, j < 21 → (mtB B a b j = true → Q (nI (200 + j)) s M) → (mtB B a b j = false → wR_wordFrom d 13 [.ref 1, .int (nI a), .int (nI b), .int (nI (200 + j + 1)), .int (nI a), .int 1, .int (nI (wdS j + wdLen j + 1)), .null] [] s M Q) → wR_wordFrom d 13 [.ref 1, .int (nI a), .int (nI b), .int (nI (200 + j)), .int (nI a), .int 1, .int (nI (wdS j)), .null] [] s M Q := by
    intro j hj k1 k2
    obtain ⟨t1, t2, t3, t4, t5⟩ := wd_tab j hj
    have run : ∀ q i, i + q = wdLen j → wR_wordFrom d 13 [.ref 1, .int (nI a), .int (nI b), .int (nI (200 + j)), .int (nI (a + i)), .int (if mpB B a b j i = true then 1 else 0), .int (nI (wdS j + i)), .null] [] s M Q := by
      intro q
      induction q with
      | zero =>
        intro i hi
        have ei : i = wdLen j := by omega
        subst ei
        have c45 : wR_wordFrom d 45 [.ref 1, .int (nI a), .int (nI b), .int (nI (200 + j)), .int (nI (a + wdLen j)), .int (if mpB B a b j (wdLen j) = true then 1 else 0), .int (nI (wdS j + wdLen j)), .null] [.int 32] s M Q := by
          refine sgR_wordFrom_45 (br_t rfl ?_)
          rw [nI_1, nI_1]
          by_cases c1 : a + wdLen j ≤ b
          · by_cases c2 : fst (fun i => !decide (B (a + i) = wdC j i)) (wdLen j) = none
            · rw [if_pos (mpB_t.2 ⟨c1, c2⟩)]
              refine br_f (by decide) ?_
              rw [nI_inj (by omega) (by omega)]
              exact br_c (fun z => k1 (mtB_t.2 ⟨z, c2⟩)) (fun z => k2 (mtB_f (fun h => z h.1)))
            · rw [if_neg (fun h => c2 (mpB_t.1 h).2)]
              exact br_t rfl (k2 (mtB_f (fun h => c2 h.2)))
          · rw [if_neg (fun h => c1 (mpB_t.1 h).1)]
            exact br_t rfl (k2 (mtB_f (fun h => by omega)))
        refine sgR_wordFrom_13 (br_f (by rw [lI 103, nI_ltP (by omega) (by omega)]; omega) ?_)
        rw [lI 103, nI_leP (by omega) (by omega)]
        refine br_c (fun _ => c45) (fun z => ⟨vpI (by omega) (by omega), ?_⟩)
        rw [nI_clamp (by omega), t3 (by omega)]
        exact c45
      | succ q ih =>
        intro i hi
        obtain ⟨x1, x2, x3⟩ := t1 i (by omega)
        refine sgR_wordFrom_13 (br_f (by rw [lI 103, nI_ltP (by omega) (by omega)]; omega) (br_f (by rw [lI 103, nI_leP (by omega) (by omega)]; omega) ⟨vpI (by omega) (by omega), sgR_wordFrom_45 ?_⟩))
        rw [nI_clamp (by omega), x1, lI 32, nI_inj (by omega) (by omega)]
        refine br_f (by omega) ⟨fun _ z => ?_, fun v ev => ?_⟩
        · rw [nI_leP (by omega) (by omega)] at z
          exact vpI (by omega) (by omega)
        have e : v = if mpB B a b j (i + 1) = true then 1 else 0 := by
          rw [nI_clamp (by omega)] at ev
          simp only [nI_leP (a := b) (b := a + i) (by omega) (by omega)] at ev
          by_cases c1 : a + i ≤ b
          · by_cases c2 : fst (fun i => !decide (B (a + i) = wdC j i)) i = none
            · simp only [if_pos (mpB_t.2 ⟨c1, c2⟩)] at ev
              rw [if_neg (by decide)] at ev
              by_cases c3 : b ≤ a + i
              · rw [if_pos c3] at ev
                rw [ev, if_neg (fun h => by have := (mpB_t.1 h).1; omega)]
              · obtain ⟨y1, y2⟩ := hB (a + i) (by omega)
                rw [if_neg c3, y1] at ev
                simp only [nI_inj (a := B (a + i)) (b := wdC j i) (by omega) (by omega)] at ev
                by_cases c4 : B (a + i) = wdC j i
                · rw [if_pos c4] at ev
                  rw [ev, if_pos (mpB_t.2 ⟨by omega, by rw [fst_s]; exact ⟨c2, by simp [c4]⟩⟩)]
                · rw [if_neg c4] at ev
                  rw [ev, if_neg (fun h => by have h2 := (mpB_t.1 h).2; rw [fst_s] at h2; have := h2.2; simp at this; exact c4 this)]
            · simp only [if_neg (fun h => c2 (mpB_t.1 h).2)] at ev
              rw [if_pos trivial] at ev
              rw [ev, if_neg (fun h => by have h2 := (mpB_t.1 h).2; rw [fst_s] at h2; exact c2 h2.1)]
          · simp only [if_neg (fun h => c1 (mpB_t.1 h).1)] at ev
            rw [if_pos trivial] at ev
            rw [ev, if_neg (fun h => by have := (mpB_t.1 h).1; omega)]
        rw [e, nI_1, nI_1]
        exact ih (i + 1) (by omega)
    have := run (wdLen j) 0 (by omega)
    rw [if_pos (mpB_t.2 ⟨ha, rfl⟩)] at this
    exact this
  unfold wkF at hq
  refine loop_fst (L := fun j => wR_wordFrom d 13 [.ref 1, .int (nI a), .int (nI b), .int (nI (200 + j)), .int (nI a), .int 1, .int (nI (wdS j)), .null] [] s M Q) (P := mtB B a b) (e := 21) (K := fun r => Q (nI (match r with | some j => 200 + j | none => 130)) s M) hq ?_ ?_
  · intro h
    refine sgR_wordFrom_13 (br_t ?_ h)
    rw [show wdS 21 = 104 by decide +kernel]; decide
  · intro j hj k1 k2
    exact word j hj k1 k2
