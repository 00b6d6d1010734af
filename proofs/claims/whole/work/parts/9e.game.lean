/-! choosing by turns -/
def mnS (v : Nat → Option Int32) (t : Nat) (b : Int32) : Int32 := match v t with
  | none => b
  | some x => if b ≤ x then b else x
def fiB (S r : Nat) : Bool := decide (pcN (S ^^^ r) % 2 = 0)
def gv1 (c : Nat → Nat → Int32) (p : Nat) (tab : Nat → Int32) (r t : Nat) : Option Int32 := if bt r t = true then some (tab (r - 2 ^ t) + c p t) else none
def gv2 (c : Nat → Nat → Int32) (q : Nat) (tab : Nat → Int32) (r t : Nat) : Option Int32 := if bt r t = true then some (tab (r - 2 ^ t) - c q t) else none
def gvC (c : Nat → Nat → Int32) (w : Nat) (sd : Int32) (tab : Nat → Int32) (r t : Nat) : Option Int32 := if bt r t = true then some (c w t + sd * tab (r - 2 ^ t)) else none
def gvR (c : Nat → Nat → Int32) (p q : Nat) (tab : Nat → Int32) (S r : Nat) : Int32 := if fiB S r = true then itr (mxS (gv1 c p tab r)) 8 (-268435456) else itr (mnS (gv2 c q tab r)) 8 268435456
def gmT (c : Nat → Nat → Int32) (p q S n : Nat) : Nat → Int32 := itr (fun r tab => if ¬ r = 0 ∧ sbN r S = true then pm_row tab r (gvR c p q tab S r) else tab) n (fun _ => 0)
theorem gmT_s {c : Nat → Nat → Int32} {p q S n r : Nat} (h : r < n) : gmT c p q S (n + 1) r = gmT c p q S n r := by
  show (if ¬ n = 0 ∧ sbN n S = true then pm_row (gmT c p q S n) n (gvR c p q (gmT c p q S n) S n) else gmT c p q S n) r = _
  split
  · rw [row_ne (by omega)]
  · rfl
theorem mx_start {v : Nat → Option Int32} {n t : Nat} {a b x : Int32} (ht : t < n) (hv : v t = some x) (ha : a ≤ x) (hb : b ≤ x) : itr (mxS v) n a = itr (mxS v) n b := by
  have A := mx_t (b := a) ht hv
  have B := mx_t (b := b) ht hv
  have k : ∀ a', a' ≤ x → ∃ t', t' < n ∧ v t' = some (itr (mxS v) n a') := by
    intro a' ha'
    have A' := mx_t (b := a') ht hv
    rcases mx_in (v := v) (n := n) (b := a') with h | h
    · refine ⟨t, ht, ?_⟩
      rw [hv]
      rw [h] at A' ⊢
      congr 1
      grind
    · exact h
  obtain ⟨t1, h1, e1⟩ := k a ha
  obtain ⟨t2, h2, e2⟩ := k b hb
  have x1 := mx_t (b := b) h1 e1
  have x2 := mx_t (b := a) h2 e2
  grind
theorem ngI {x : Int32} (h1 : -536870912 ≤ x.toInt) (h2 : x.toInt ≤ 536870912) : ((-1 : Int32) * x).toInt = - x.toInt := by
  rw [Int32.toInt_mul]
  have : (-1 : Int32).toInt = -1 := by decide
  rw [this, show (-1 : Int) * x.toInt = - x.toInt by omega]
  exact Int.bmod_eq_of_le (by omega) (by omega)
theorem adI {x y : Int32} (h1 : -536870912 ≤ x.toInt) (h2 : x.toInt ≤ 536870912) (h3 : -536870912 ≤ y.toInt) (h4 : y.toInt ≤ 536870912) : (x + y).toInt = x.toInt + y.toInt := by
  rw [Int32.toInt_add]
  exact Int.bmod_eq_of_le (by omega) (by omega)
theorem sbI {x y : Int32} (h1 : -536870912 ≤ x.toInt) (h2 : x.toInt ≤ 536870912) (h3 : -536870912 ≤ y.toInt) (h4 : y.toInt ≤ 536870912) : (x - y).toInt = x.toInt - y.toInt := by
  rw [Int32.toInt_sub]
  exact Int.bmod_eq_of_le (by omega) (by omega)
/-- bounds of claims, of a table -/
def bdT (tab : Nat → Int32) (r : Nat) : Prop := ∀ t, t < 8 → bt r t = true → -(1000000 * (pcN (r - 2 ^ t) : Int)) ≤ (tab (r - 2 ^ t)).toInt ∧ (tab (r - 2 ^ t)).toInt ≤ 1000000 * (pcN (r - 2 ^ t) : Int)
def bdL (c : Nat → Nat → Int32) (w r : Nat) : Prop := ∀ t, t < 8 → bt r t = true → -1000000 ≤ (c w t).toInt ∧ (c w t).toInt ≤ 1000000
theorem r_ex {r : Nat} (h0 : r ≠ 0) (hr : r < 256) : ∃ t, t < 8 ∧ bt r t = true := by
  have : ∀ r, r < 256 → r ≠ 0 → ∃ t, t < 8 ∧ bt r t = true := by decide +kernel
  exact this r hr h0
theorem fF : (-268435456 : Int32).toInt = -268435456 := by decide
theorem fG : (268435456 : Int32).toInt = 268435456 := by decide
theorem f9 : (-99000003 : Int32).toInt = -99000003 := by decide
theorem gv_1 {c : Nat → Nat → Int32} {p q S r : Nat} {tab : Nat → Int32} (h0 : r ≠ 0) (hr : r < 256) (hT : bdT tab r) (hc : bdL c p r) (hf : fiB S r = true) : (1 : Int32) * itr (mxS (gvC c p 1 tab r)) 8 (-99000003) = gvR c p q tab S r ∧ -(1000000 * (pcN r : Int)) ≤ (gvR c p q tab S r).toInt ∧ (gvR c p q tab S r).toInt ≤ 1000000 * (pcN r : Int) := by
  have e1 : gvC c p 1 tab r = gv1 c p tab r := by
    funext t
    unfold gvC gv1
    split
    · congr 1; grind
    · rfl
  have val : ∀ t x, t < 8 → gv1 c p tab r t = some x → -(1000000 * (pcN r : Int)) ≤ x.toInt ∧ x.toInt ≤ 1000000 * (pcN r : Int) := by
    intro t x ht hx
    unfold gv1 at hx
    split at hx
    · rename_i hb
      injection hx with hx
      have a := hT t ht hb
      have b := hc t ht hb
      have e := (rm_k t ht r hr hb).2.2.2
      have := (pc_k r hr).2
      rw [← hx, adI (by omega) (by omega) (by omega) (by omega)]
      omega
    · cases hx
  obtain ⟨t0, ht0, hb0⟩ := r_ex h0 hr
  have hv0 : gv1 c p tab r t0 = some (tab (r - 2 ^ t0) + c p t0) := by unfold gv1; rw [if_pos hb0]
  have pc8 := (pc_k r hr).2
  have v0 := val t0 _ ht0 hv0
  have st : itr (mxS (gv1 c p tab r)) 8 (-99000003) = itr (mxS (gv1 c p tab r)) 8 (-268435456) := mx_start ht0 hv0 (by rw [Int32.le_iff_toInt_le, f9]; omega) (by rw [Int32.le_iff_toInt_le, fF]; omega)
  have eR : gvR c p q tab S r = itr (mxS (gv1 c p tab r)) 8 (-268435456) := by unfold gvR; rw [if_pos hf]
  rw [e1, st, eR]
  refine ⟨by grind, ?_⟩
  rcases mx_in (v := gv1 c p tab r) (n := 8) (b := -268435456) with h | ⟨t, h1, h2⟩
  · have := mx_t (b := -268435456) ht0 hv0
    rw [h, Int32.le_iff_toInt_le, fF] at this
    omega
  · exact val t _ h1 h2
theorem gv_2 {c : Nat → Nat → Int32} {p q S r : Nat} {tab : Nat → Int32} (h0 : r ≠ 0) (hr : r < 256) (hT : bdT tab r) (hc : bdL c q r) (hf : fiB S r = false) : (-1 : Int32) * itr (mxS (gvC c q (-1) tab r)) 8 (-99000003) = gvR c p q tab S r ∧ -(1000000 * (pcN r : Int)) ≤ (gvR c p q tab S r).toInt ∧ (gvR c p q tab S r).toInt ≤ 1000000 * (pcN r : Int) := by
  have val : ∀ t x, t < 8 → gvC c q (-1) tab r t = some x → -(1000000 * (pcN r : Int)) ≤ x.toInt ∧ x.toInt ≤ 1000000 * (pcN r : Int) ∧ gv2 c q tab r t = some ((-1 : Int32) * x) := by
    intro t x ht hx
    unfold gvC at hx
    split at hx
    · rename_i hb
      injection hx with hx
      have a := hT t ht hb
      have b := hc t ht hb
      have e := (rm_k t ht r hr hb).2.2.2
      have := (pc_k r hr).2
      have n1 := ngI (x := tab (r - 2 ^ t)) (by omega) (by omega)
      refine ⟨?_, ?_, ?_⟩
      · rw [← hx, adI (by omega) (by omega) (by omega) (by omega)]; omega
      · rw [← hx, adI (by omega) (by omega) (by omega) (by omega)]; omega
      · unfold gv2
        rw [if_pos hb, ← hx]
        congr 1
        grind
    · cases hx
  have pc8 := (pc_k r hr).2
  obtain ⟨t0, ht0, hb0⟩ := r_ex h0 hr
  have hv0 : gvC c q (-1) tab r t0 = some (c q t0 + (-1) * tab (r - 2 ^ t0)) := by unfold gvC; rw [if_pos hb0]
  have v0 := val t0 _ ht0 hv0
  have st : itr (mxS (gvC c q (-1) tab r)) 8 (-99000003) = itr (mxS (gvC c q (-1) tab r)) 8 (-268435456) := mx_start ht0 hv0 (by rw [Int32.le_iff_toInt_le, f9]; omega) (by rw [Int32.le_iff_toInt_le, fF]; omega)
  have neg : ∀ i, i ≤ 8 → (-268435456 ≤ (itr (mxS (gvC c q (-1) tab r)) i (-268435456)).toInt ∧ (itr (mxS (gvC c q (-1) tab r)) i (-268435456)).toInt ≤ 8000000) ∧ itr (mnS (gv2 c q tab r)) i 268435456 = (-1 : Int32) * itr (mxS (gvC c q (-1) tab r)) i (-268435456) := by
    intro i
    induction i with
    | zero =>
      intro _
      rw [itr_0, itr_0, fF]
      exact ⟨by omega, by decide⟩
    | succ i ih =>
      intro hi
      obtain ⟨b1, b2⟩ := ih (by omega)
      rw [itr_s, itr_s, b2]
      generalize itr (mxS (gvC c q (-1) tab r)) i (-268435456) = y at b1 ⊢
      cases e : gvC c q (-1) tab r i with
      | none =>
        have e2 : gv2 c q tab r i = none := by
          unfold gvC at e
          unfold gv2
          split at e
          · cases e
          · rename_i hn; rw [if_neg hn]
        unfold mnS mxS
        rw [e, e2]
        exact ⟨b1, rfl⟩
      | some x =>
        obtain ⟨x1, x2, x3⟩ := val i x (by omega) e
        have ny := ngI (x := y) (by omega) (by omega)
        have nx := ngI (x := x) (by omega) (by omega)
        unfold mnS mxS
        rw [e, x3]
        dsimp only
        have iff : ((-1 : Int32) * y ≤ (-1) * x) ↔ x ≤ y := by
          rw [Int32.le_iff_toInt_le, Int32.le_iff_toInt_le, ny, nx]; omega
        by_cases z : x ≤ y
        · rw [if_pos z, if_pos (iff.mpr z)]; exact ⟨b1, rfl⟩
        · rw [if_neg z, if_neg (fun w => z (iff.mp w))]; exact ⟨by omega, rfl⟩
  obtain ⟨n1, n2⟩ := neg 8 (Nat.le_refl _)
  have eR : gvR c p q tab S r = itr (mnS (gv2 c q tab r)) 8 268435456 := by unfold gvR; rw [if_neg (by rw [hf]; simp)]
  rw [st, eR, n2]
  refine ⟨rfl, ?_⟩
  rw [ngI (by omega) (by omega)]
  rcases mx_in (v := gvC c q (-1) tab r) (n := 8) (b := -268435456) with h | ⟨t, h1, h2⟩
  · have := mx_t (b := -268435456) ht0 hv0
    rw [h, Int32.le_iff_toInt_le, fF] at this
    omega
  · have := val t _ h1 h2
    omega
