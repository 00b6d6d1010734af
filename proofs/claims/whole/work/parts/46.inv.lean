/-! what holds between two calls -/
theorem LR_cells {M M' : pm_M} {l T P : Nat} {g : Nat → Int32} (hl : LR M l g T P) (e : ∀ c, c ∈ [l, l + 2, l + 3, l + 5, l + 7, l + 8, l + 9] → M'.1 c = M.1 c) : LR M' l g T P := by
  unfold LR lwS at hl ⊢
  rw [e l (by simp), e (l + 2) (by simp), e (l + 3) (by simp), e (l + 5) (by simp), e (l + 7) (by simp), e (l + 8) (by simp), e (l + 9) (by simp)]
  exact hl
theorem SR_cells {M M' : pm_M} {o T P : Nat} {g : Nat → Int32} (hs : SR M o g T P) (e : ∀ c, c ∈ [o, o + 1, o + 2, o + 3, o + 4] → M'.1 c = M.1 c) : SR M' o g T P := by
  unfold SR at hs ⊢
  rw [e o (by simp), e (o + 1) (by simp), e (o + 2) (by simp), e (o + 3) (by simp), e (o + 4) (by simp)]
  exact hs
/-- the laws' row is long enough for both -/
def LZ (M : pm_M) (l : Nat) : Prop := ∃ z a b : Nat, z ≤ 900 ∧ a ≤ z ∧ b ≤ z ∧ M.1 (l + 8) 3 = nI z ∧ M.1 (l + 8) 5 = nI a ∧ M.1 (l + 8) 7 = nI b
def okS (L : Nat) (s : pm_S) : Prop := s.1 = L ∧ ((s.2.1 = 62 ∧ s.2.2.1 = 63) ∨ (s.2.1 = 63 ∧ s.2.2.1 = 62)) ∧ (s.2.2.2.1 = none ∨ s.2.2.2.1 = some 15) ∧ ((s.2.2.2.2.1 = 65 ∧ s.2.2.2.2.2 = 66) ∨ (s.2.2.2.2.1 = 66 ∧ s.2.2.2.2.2 = 65))
def iTape (M : pm_M) : Prop := (∃ n : Nat, n ≤ 900 ∧ M.1 1 1 = nI n ∧ M.1 159 5 = nI n ∧ ∀ k, k < n → M.1 14 k = M.1 162 k ∧ ∃ b : Nat, b < 256 ∧ M.1 162 k = nI b) ∧ M.1 1 2 = M.1 159 13 ∧ M.1 1 3 = M.1 159 14
def iTray (M : pm_M) : Prop := ∀ r, r < 4 → (M.1 (117 + 2 * r) 2 = -1 ∧ M.1 182 r = -1) ∨ ∃ n q : Nat, q < 4 ∧ M.1 182 r = nI q ∧ M.1 (117 + 2 * r) 1 = nI q ∧ M.1 183 r = nI n ∧ YR M (117 + 2 * r) n (fun k => M.2 184 (40 * r + k))
def iImg1 (M : pm_M) (i : Nat) (h : Nat → Int32) : Prop := ∃ N T P : Nat, Vd h N T P ∧ Vs h N T P ∧ LR M (125 + 17 * i) h T P ∧ LZ M (125 + 17 * i) ∧ SR M (137 + 17 * i) h T P
def iImg (M : pm_M) : Prop := ∃ m : Nat, m < 4 ∧ M.1 0 10 = nI m ∧ ∀ i, i < 2 → (m / 2 ^ i % 2 = 0 ∧ M.1 161 i = 0) ∨ (m / 2 ^ i % 2 = 1 ∧ M.1 161 i = 1 ∧ iImg1 M i (fun j => M.1 160 (1290 * (i + 1) + j)))
def Rest (M : pm_M) : Prop := iTape M ∧ iTray M ∧ iImg M
def KEEP : List Nat := [1, 14, 15, 17, 18, 20, 22, 23, 24, 117, 118, 119, 120, 121, 122, 123, 124, 125, 126, 127, 128, 129, 130, 131, 132, 133, 134, 135, 136, 137, 138, 139, 140, 141, 142, 143, 144, 145, 146, 147, 148, 149, 150, 151, 152, 153, 154, 155, 156, 157, 158, 161, 162, 182, 183, 184]
/-- what no call but feed, line, numbers, write, lists, image, restore changes -/
def Fr (M M' : pm_M) : Prop := (∀ c, c ∈ KEEP → M'.1 c = M.1 c ∧ M'.2 c = M.2 c) ∧ M'.1 0 10 = M.1 0 10 ∧ M'.1 159 5 = M.1 159 5 ∧ M'.1 159 13 = M.1 159 13 ∧ M'.1 159 14 = M.1 159 14 ∧ eqW (M.1 160) (M'.1 160)
theorem Fr_rf {M : pm_M} : Fr M M := ⟨fun _ _ => ⟨rfl, rfl⟩, rfl, rfl, rfl, rfl, eqW_rf⟩
theorem Fr_tr {M M1 M2 : pm_M} (h1 : Fr M M1) (h2 : Fr M1 M2) : Fr M M2 := by
  obtain ⟨a1, a2, a3, a4, a5, a6⟩ := h1
  obtain ⟨b1, b2, b3, b4, b5, b6⟩ := h2
  exact ⟨fun c hc => ⟨(b1 c hc).1.trans (a1 c hc).1, (b1 c hc).2.trans (a1 c hc).2⟩, b2.trans a2, b3.trans a3, b4.trans a4, b5.trans a5, eqW_tr a6 b6⟩
theorem Fr_off {S : List Nat} {M M' : pm_M} (h : off S M M') (hk : ∀ c, c ∈ KEEP → c ∉ S) (h0 : 0 ∉ S) (h9 : 159 ∉ S) (h6 : 160 ∉ S) : Fr M M' := by
  refine ⟨fun c hc => h c (hk c hc), ?_, ?_, ?_, ?_, ?_⟩
  · rw [(h 0 h0).1]
  · rw [(h 159 h9).1]
  · rw [(h 159 h9).1]
  · rw [(h 159 h9).1]
  · rw [(h 160 h6).1]; exact eqW_rf
/-- the row may have changed where it tells no line -/
theorem Fr_row {S : List Nat} {M M' : pm_M} (h : off S M M') (hk : ∀ c, c ∈ KEEP → c ∉ S) (h0 : 0 ∉ S) (h9 : 159 ∉ S) (h6 : eqW (M.1 160) (M'.1 160)) : Fr M M' := by
  refine ⟨fun c hc => h c (hk c hc), ?_, ?_, ?_, ?_, h6⟩
  · rw [(h 0 h0).1]
  · rw [(h 159 h9).1]
  · rw [(h 159 h9).1]
  · rw [(h 159 h9).1]
theorem Fr_159 {M : pm_M} {k : Nat} {v : Int32} (h : k ≠ 5 ∧ k ≠ 13 ∧ k ≠ 14) : Fr M (pm_si M 159 k v) := by
  refine ⟨fun c hc => ⟨si_ne (fun e => by subst e; revert hc; decide), rfl⟩, ?_, ?_, ?_, ?_, ?_⟩
  · rw [si_ne (by decide)]
  · rw [si_eq, row_ne (by omega)]
  · rw [si_eq, row_ne (by omega)]
  · rw [si_eq, row_ne (by omega)]
  · rw [si_ne (by decide)]; exact eqW_rf
theorem Fr_0 {M : pm_M} {k : Nat} {v : Int32} (h : k ≠ 10) : Fr M (pm_si M 0 k v) := by
  refine ⟨fun c hc => ⟨si_ne (fun e => by subst e; revert hc; decide), rfl⟩, ?_, ?_, ?_, ?_, ?_⟩
  · rw [si_eq, row_ne (by omega)]
  · rw [si_ne (by decide)]
  · rw [si_ne (by decide)]
  · rw [si_ne (by decide)]
  · rw [si_ne (by decide)]; exact eqW_rf
theorem KEEP_img {i c : Nat} (hi : i < 2) (hc : 125 + 17 * i ≤ c) (h2 : c < 142 + 17 * i) : c ∈ KEEP := by
  have : i = 0 ∨ i = 1 := by omega
  unfold KEEP
  rcases this with rfl | rfl <;> simp <;> omega
theorem KEEP_tray {r c : Nat} (hr : r < 4) (hc : 117 + 2 * r ≤ c) (h2 : c < 119 + 2 * r) : c ∈ KEEP := by
  unfold KEEP
  simp
  omega
theorem Rest_fr {M M' : pm_M} (h : Fr M M') (hr : Rest M) : Rest M' := by
  obtain ⟨a1, a2, a3, a4, a5, a6⟩ := h
  obtain ⟨t1, t2, t3⟩ := hr
  refine ⟨?_, ?_, ?_⟩
  · unfold iTape at t1 ⊢
    rw [(a1 1 (by decide)).1, (a1 14 (by decide)).1, (a1 162 (by decide)).1, a3, a4, a5]
    exact t1
  · intro r hr
    have := t2 r hr
    unfold YR at this ⊢
    rw [(a1 182 (by decide)).1, (a1 183 (by decide)).1, (a1 184 (by decide)).2, (a1 (117 + 2 * r) (KEEP_tray hr (by omega) (by omega))).1, (a1 (117 + 2 * r + 1) (KEEP_tray hr (by omega) (by omega))).2]
    exact this
  · obtain ⟨m, m1, m2, m3⟩ := t3
    refine ⟨m, m1, a2.trans m2, fun i hi => ?_⟩
    rw [(a1 161 (by decide)).1]
    have e : (fun j => M'.1 160 (1290 * (i + 1) + j)) = (fun j => M.1 160 (1290 * (i + 1) + j)) := by
      funext j
      exact a6 _ (by omega)
    rw [e]
    rcases m3 i hi with q | ⟨q1, q2, N, T, P, q3, q4, q5, q6, q7⟩
    · exact Or.inl q
    · refine Or.inr ⟨q1, q2, N, T, P, q3, q4, LR_cells q5 (fun c hc => (a1 c ?_).1), ?_, SR_cells q7 (fun c hc => (a1 c ?_).1)⟩
      · simp at hc
        exact KEEP_img hi (by omega) (by omega)
      · unfold LZ at q6 ⊢
        rw [(a1 (125 + 17 * i + 8) (KEEP_img hi (by omega) (by omega))).1]
        exact q6
      · simp at hc
        exact KEEP_img hi (by omega) (by omega)
/-- the state noted as number k -/
def blk (g : Nat → Int32) (k : Nat) : Nat → Int32 := fun j => g (32 + 31 * k + j)
def iPast (M : pm_M) (g : Nat → Int32) (N T P : Nat) : Prop := ∃ n x : Nat, n ≤ 10 ∧ x < 10 ∧ g 78 = nI n ∧ M.1 0 5 = nI x ∧ M.1 0 6 = nI n ∧ ∀ k, k < n → SR M (67 + 5 * ((x + 10 - n + k) % 10)) (blk g k) T P ∧ Vs (blk g k) N T P
def Inv (L : Nat) (s : pm_S) (M : pm_M) : Prop := okS L s ∧ Rest M ∧ ∃ N T P : Nat, LV M (M.1 160) N T P ∧ LZ M 15 ∧ Vs (M.1 160) N T P ∧ SR M 27 (M.1 160) T P ∧ iPast M (M.1 160) N T P
theorem Vs_congr {g g' : Nat → Int32} {N T P : Nat} (hV : T ≤ 8 ∧ P ≤ 6) (hs : Vs g N T P) (h : ∀ i, 47 ≤ i → i < 78 → g' i = g i) : Vs g' N T P := by
  obtain ⟨a1, a2, a3, a4⟩ := hs
  refine ⟨?_, ?_, ?_, ?_⟩
  · rw [h _ (by omega) (by omega)]; exact a1
  · intro t ht
    rw [h _ (by omega) (by omega)]; exact a2 t ht
  · intro t t' p ht ht'
    rw [h _ (by omega) (by omega), h _ (by omega) (by omega)]; exact a3 t t' p ht ht'
  · intro p hp
    rw [h _ (by omega) (by omega), h _ (by omega) (by omega)]; exact a4 p hp
/-- what a noted row tells of the past -/
theorem noteF_blk {g w : Nat → Int32} {n k i : Nat} (hn : n ≤ 10) (hk : k < min (n + 1) 10) (h1 : 47 ≤ i) (h2 : i < 78) : blk (noteF g n w) k i = if n = 10 then (if k = 9 then w (i - 47) else blk g (k + 1) i) else (if k = n then w (i - 47) else blk g k i) := by
  unfold blk noteF
  by_cases c : n = 10
  · rw [if_pos c, if_pos c, row_ne (by omega)]
    by_cases c2 : k = 9
    · rw [if_pos c2, putR_in (by omega) (by omega)]; exact congrArg w (by omega)
    · rw [if_neg c2, putR_out (by omega), row_ne (by omega), putR_in (by omega) (by omega)]; exact congrArg g (by omega)
  · rw [if_neg c, if_neg c, row_ne (by omega)]
    by_cases c2 : k = n
    · rw [if_pos c2, putR_in (by omega) (by omega)]; exact congrArg w (by omega)
    · rw [if_neg c2, putR_out (by omega)]
