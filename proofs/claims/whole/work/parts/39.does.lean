theorem lL (n : Nat) : (OfNat.ofNat n : Int64) = lN n := rfl
theorem ixN_k {k n : Nat} (hk : k < 2 ^ 30) : ixN (lN k) n = if k < n then some k else none := by
  unfold ixN
  rw [pk_lT (by omega)]
  by_cases h : k < n
  · rw [if_pos (by omega), if_pos h]; simp
  · rw [if_neg (by omega), if_neg h]
theorem ixN_eq {v : Int64} {n k : Nat} (h : ixN v n = some k) (hn : n < 2 ^ 30) : v = lN k := by
  have hk := ixN_lt h
  unfold ixN at h
  split at h
  · cases h
    apply Int64.toInt_inj.mp
    rw [pk_lT (by omega)]
    omega
  · cases h
theorem le_lN {v : Int64} {a : Nat} (ha : a < 2 ^ 31) : lN a ≤ v ↔ (a : Int) ≤ v.toInt := by
  rw [Int64.le_iff_toInt_le, lN_toInt ha]
theorem lN_le' {v : Int64} {a : Nat} (ha : a < 2 ^ 31) : v ≤ lN a ↔ v.toInt ≤ (a : Int) := by
  rw [Int64.le_iff_toInt_le, lN_toInt ha]
theorem wi_no {v : Int64} {a b n : Nat} (h : ixN v n = none) (ha : a < 2 ^ 31) (hb : b < n) (hn : n < 2 ^ 30) : ¬ (lN a ≤ v ∧ v ≤ lN b) := by
  rw [le_lN ha, lN_le' (by omega)]
  unfold ixN at h
  split at h
  · cases h
  · omega
theorem wi_k {k a b : Nat} (hk : k < 2 ^ 31) (ha : a < 2 ^ 31) (hb : b < 2 ^ 31) : (lN a ≤ lN k ∧ lN k ≤ lN b) ↔ (a ≤ k ∧ k ≤ b) := by
  rw [lN_le ha hk, lN_le hk hb]
def whyK (g : Nat → Int32) (T P k : Nat) : Int32 :=
  if k < 10 then whyHoldF g T (ixN (lN k) P) else if k < 20 then whyOpenF g T (ixN (lN (k - 10)) P) else if k < 100 then 1
  else if k < 200 then whyFetchF g T (ixN (lN (k % 100 / 10)) P) (ixN (lN (k % 10)) T)
  else if k < 300 then whySwapF g T (ixN (lN (k % 100 / 10)) P) (ixN (lN (k % 10)) P)
  else if k % 100 / 10 < P then 0 else 1
def whyF (g : Nat → Int32) (T P : Nat) (v : Int64) : Int32 := if v = -1 then 0 else match ixN v 400 with
  | none => 1
  | some k => whyK g T P k
def doK (g : Nat → Int32) (T k : Nat) : Nat → Int32 :=
  if k < 10 then leaveF g T k else if k < 20 then openF g T (k - 10) else if k < 200 then fetchF g (k % 100 / 10) (k % 10)
  else if k < 300 then swapF g T (k % 100 / 10) (k % 10) else pm_row g (66 + k % 100 / 10) (nI (k % 10))
def doF (g : Nat → Int32) (N T P : Nat) (v : Int64) : Nat → Int32 := if v = -1 then (dayF g N T P).1 else match ixN v 400 with
  | none => g
  | some k => doK g T k
theorem sp_whyNot {d : Nat} {s : pm_S} {M : pm_M} {g : Nat → Int32} {N T P : Nat} {v : Int64} {Q : Int32 → pm_S → pm_M → Prop} (hd : 6 ≤ d) (hg : M.1 160 = g) (hV : Vd g N T P) (hq : ∀ M', off [164, 165] M M' → Q (whyF g T P v) s M') : cI d yM_whyNot [.ref 159, .long v] s M Q := by
  obtain ⟨d, rfl⟩ : ∃ e, d = e + 1 := ⟨d - 1, by omega⟩
  have h3 := hV.2.2.1
  have h7 := hV.2.2.2.2.2.2.1
  unfold whyF at hq
  refine enM_whyNot (br_c (fun c => ?_) (fun c => ?_))
  · rw [if_pos c] at hq; exact hq M off_rf
  rw [if_neg c] at hq
  rw [lL 0, lL 9, lL 10, lL 19, lL 100, lL 199, lL 200, lL 299, lL 300, lL 399]
  cases hx : ixN v 400 with
  | none =>
    rw [hx] at hq
    refine sp_within2 (by omega) (fun h => absurd h (wi_no hx (by omega) (by omega) (by omega))) (fun _ => br_t rfl ?_)
    refine sp_within2 (by omega) (fun h => absurd h (wi_no hx (by omega) (by omega) (by omega))) (fun _ => br_t rfl ?_)
    refine sp_within2 (by omega) (fun h => absurd h (wi_no hx (by omega) (by omega) (by omega))) (fun _ => br_t rfl ?_)
    refine sp_within2 (by omega) (fun h => absurd h (wi_no hx (by omega) (by omega) (by omega))) (fun _ => br_t rfl ?_)
    refine sp_within2 (by omega) (fun h => absurd h (wi_no hx (by omega) (by omega) (by omega))) (fun _ => br_t rfl ?_)
    exact hq M off_rf
  | some k =>
    have hk := ixN_lt hx
    have hv := ixN_eq hx (by omega)
    subst hv
    rw [hx] at hq
    simp only [whyK] at hq
    refine sp_within2 (by omega) (fun h => br_f (by decide) ?_) (fun h => br_t rfl ?_)
    · rw [wi_k (by omega) (by omega) (by omega)] at h
      rw [if_pos (by omega)] at hq
      exact sp_whyHolds (by omega) hg hV (hq M off_rf)
    rw [wi_k (by omega) (by omega) (by omega)] at h
    rw [if_neg (by omega)] at hq
    refine sp_within2 (by omega) (fun h => br_f (by decide) ?_) (fun h => br_t rfl ?_)
    · rw [wi_k (by omega) (by omega) (by omega)] at h
      rw [if_pos (by omega)] at hq
      rw [lN_sub (by omega)]
      exact sp_whyOpen (by omega) hg hV hq
    rw [wi_k (by omega) (by omega) (by omega)] at h
    rw [if_neg (by omega)] at hq
    rw [pk_lRem (by omega) (by omega) (by omega), pk_lDiv (by omega) (by omega) (by omega), pk_lRem (by omega) (by omega) (by omega)]
    refine sp_within2 (by omega) (fun h => br_f (by decide) ?_) (fun h => br_t rfl ?_)
    · rw [wi_k (by omega) (by omega) (by omega)] at h
      rw [if_neg (by omega), if_pos (by omega)] at hq
      exact sp_whyFetch (by omega) hg hV hq
    rw [wi_k (by omega) (by omega) (by omega)] at h
    refine sp_within2 (by omega) (fun h => br_f (by decide) ?_) (fun h => br_t rfl ?_)
    · rw [wi_k (by omega) (by omega) (by omega)] at h
      rw [if_neg (by omega), if_neg (by omega), if_pos (by omega)] at hq
      exact sp_whySwap (by omega) hg hV (hq M off_rf)
    rw [wi_k (by omega) (by omega) (by omega)] at h
    refine sp_within2 (by omega) (fun h => br_f (by decide) ?_) (fun h => br_t rfl ?_)
    · rw [wi_k (by omega) (by omega) (by omega)] at h
      rw [if_neg (by omega), if_neg (by omega), if_neg (by omega)] at hq
      refine sp_isPerson (by omega) (by rw [hg]; exact h3) h7 (fun h => ?_) (fun h => ?_)
      · obtain ⟨j, hj, e⟩ := h
        rw [pk_lEQ (by omega) (by omega)] at e
        rw [if_pos (by omega)] at hq
        exact hq M off_rf
      · rw [if_neg (fun z => h ⟨_, z, rfl⟩)] at hq
        exact hq M off_rf
    · rw [wi_k (by omega) (by omega) (by omega)] at h
      rw [if_pos (by omega)] at hq
      exact hq M off_rf
theorem n10 : ¬ (1 : Int32) = 0 := by decide
theorem n20 : ¬ (2 : Int32) = 0 := by decide
theorem whyHold_0 {g : Nat → Int32} {T P k : Nat} (hk : k < 2 ^ 30) (h : whyHoldF g T (ixN (lN k) P) = 0) : k < P ∧ ∃ t, heldF g T k = some t := by
  rw [ixN_k hk] at h
  by_cases c : k < P
  · rw [if_pos c] at h
    refine ⟨c, ?_⟩
    simp only [whyHoldF] at h
    cases e : heldF g T k with
    | none => rw [e, if_pos rfl] at h; exact absurd h (by decide)
    | some t => exact ⟨t, rfl⟩
  · rw [if_neg c] at h; exact absurd h n10
theorem whyOpen_0 {g : Nat → Int32} {T P k : Nat} (hk : k < 2 ^ 30) (h : whyOpenF g T (ixN (lN k) P) = 0) : k < P ∧ ∃ t, heldF g T k = some t ∧ g (72 + k) + burdenF g (g (66 + k)) k t (g 47) (g (72 + k)) ≤ g (41 + k) := by
  rw [ixN_k hk] at h
  by_cases c : k < P
  · rw [if_pos c] at h
    refine ⟨c, ?_⟩
    simp only [whyOpenF] at h
    cases e : heldF g T k with
    | none => rw [e] at h; exact absurd h n20
    | some t =>
      rw [e] at h
      dsimp only at h
      refine ⟨t, rfl, ?_⟩
      by_cases z : g (72 + k) + burdenF g (g (66 + k)) k t (g 47) (g (72 + k)) ≤ g (41 + k)
      · exact z
      · rw [if_neg z] at h; exact absurd h (by decide)
  · rw [if_neg c] at h; exact absurd h n10
theorem whyFetch_0 {g : Nat → Int32} {T P k j : Nat} (hk : k < 2 ^ 30) (hj : j < 2 ^ 30) (h : whyFetchF g T (ixN (lN k) P) (ixN (lN j) T) = 0) : k < P ∧ j < T ∧ heldF g T k = none ∧ g (50 + j) = 99 := by
  rw [ixN_k hk, ixN_k hj] at h
  by_cases c : k < P
  · by_cases c2 : j < T
    · rw [if_pos c, if_pos c2] at h
      simp only [whyFetchF] at h
      by_cases e : heldF g T k = none
      · rw [if_pos e] at h
        by_cases e2 : g (50 + j) = 99
        · exact ⟨c, c2, e, e2⟩
        · rw [if_neg e2] at h; exact absurd h (by decide)
      · rw [if_neg e] at h; exact absurd h (by decide)
    · rw [if_pos c, if_neg c2] at h; exact absurd h n10
  · rw [if_neg c] at h; exact absurd h n10
theorem whySwap_0 {g : Nat → Int32} {T P k j : Nat} (hk : k < 2 ^ 30) (hj : j < 2 ^ 30) (h : whySwapF g T (ixN (lN k) P) (ixN (lN j) P) = 0) : k < P ∧ j < P ∧ k ≠ j ∧ (∃ a, heldF g T k = some a) ∧ ∃ b, heldF g T j = some b := by
  rw [ixN_k hk, ixN_k hj] at h
  by_cases c : k < P
  · by_cases c2 : j < P
    · rw [if_pos c, if_pos c2] at h
      simp only [whySwapF] at h
      by_cases e : k = j
      · rw [if_pos e] at h; exact absurd h (by decide)
      rw [if_neg e] at h
      cases e1 : heldF g T k with
      | none => rw [e1, if_pos rfl] at h; exact absurd h (by decide)
      | some a =>
        rw [e1, if_neg (by simp)] at h
        cases e2 : heldF g T j with
        | none => rw [e2, if_pos rfl] at h; exact absurd h (by decide)
        | some b => exact ⟨c, c2, e, ⟨a, rfl⟩, ⟨b, rfl⟩⟩
    · rw [if_pos c, if_neg c2] at h; exact absurd h n10
  · rw [if_neg c] at h; exact absurd h n10
theorem sp_does {d : Nat} {s : pm_S} {M : pm_M} {g : Nat → Int32} {N T P : Nat} {v : Int64} {Q : pm_S → pm_M → Prop} (hd : 7 ≤ d) (hg : M.1 160 = g) (hV : Vd g N T P) (h0 : whyF g T P v = 0) (hq : ∀ M', M'.1 160 = doF g N T P v → off [160, 164, 165] M M' → Q s M') : cV d yM_does [.ref 159, .int v.toInt32] s M Q := by
  obtain ⟨d, rfl⟩ : ∃ e, d = e + 1 := ⟨d - 1, by omega⟩
  have h6 := hV.2.2.2.2.2.1
  have h7 := hV.2.2.2.2.2.2.1
  unfold whyF at h0
  unfold doF at hq
  by_cases c : v = -1
  · rw [if_pos c] at hq
    subst c
    exact enM_does (br_t (by decide) (sp_goesDay (by omega) hg hV hq))
  rw [if_neg c] at hq h0
  cases hx : ixN v 400 with
  | none => rw [hx] at h0; exact absurd h0 n10
  | some k =>
    have hk := ixN_lt hx
    have hv := ixN_eq hx (by omega)
    subst hv
    rw [hx] at hq h0
    dsimp only at hq h0
    unfold whyK at h0
    unfold doK at hq
    rw [lN_32]
    refine enM_does (br_f (by rw [m1_ne (by omega)]; exact id) ?_)
    rw [lI 10, lI 100, lI 200, lI 300, nI_leP (by omega) (by omega), nI_leP (by omega) (by omega), nI_leP (by omega) (by omega), nI_leP (by omega) (by omega)]
    rw [pk_rem (by omega) (by omega) (by omega), pk_div (by omega) (by omega) (by omega), pk_rem (by omega) (by omega) (by omega)]
    rw [lI 66, lI 50, nI_add, nI_add, nI_add, nI_clamp (by omega), nI_clamp (by omega)]
    refine br_c (fun c1 => br_c (fun c2 => br_c (fun c3 => br_c (fun c4 => ?_) (fun c4 => ?_)) (fun c3 => ?_)) (fun c2 => ?_)) (fun c1 => ?_)
    · rw [if_neg (by omega), if_neg (by omega), if_neg (by omega), if_neg (by omega)] at hq
      refine ⟨vpI (by omega) (by omega), hq _ (by rw [si_eq, hg]) (off_si off_rf (by decide))⟩
    · rw [if_neg (by omega), if_neg (by omega), if_neg (by omega), if_pos (by omega)] at hq
      rw [if_neg (by omega), if_neg (by omega), if_neg (by omega), if_neg (by omega), if_pos (by omega)] at h0
      obtain ⟨a1, a2, a3, ⟨a, a4⟩, ⟨b, a5⟩⟩ := whySwap_0 (by omega) (by omega) h0
      exact sp_swaps (by omega) hg hV a4 a5 hq
    · rw [if_neg (by omega), if_neg (by omega), if_pos (by omega)] at hq
      refine ⟨vpI (by omega) (by omega), hq _ ?_ (off_si off_rf (by decide))⟩
      rw [si_eq, hg, fetchF]
    · have hk20 : k < 20 := by
        by_cases z : k < 20
        · exact z
        · rw [if_neg (by omega), if_neg z, if_pos (by omega)] at h0
          exact absurd h0 (by decide)
      rw [if_neg (by omega), if_pos (by omega)] at hq h0
      obtain ⟨a1, t, a2, a3⟩ := whyOpen_0 (by omega) h0
      rw [pk_sub (by omega)]
      exact sp_opens1 (by omega) hg hV a1 a2 hq
    · rw [if_pos (by omega)] at hq h0
      obtain ⟨a1, t, a2⟩ := whyHold_0 (by omega) h0
      exact sp_leaves (by omega) hg hV a1 a2 hq
