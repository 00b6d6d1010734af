theorem loop_mem {α : Type} {L : Nat → α → pm_M → Prop} {I : α → pm_M → Prop} {f : Nat → α → α} {e : Nat} {a0 : α} (hx : ∀ M, I (itr f e a0) M → L e (itr f e a0) M) (hs : ∀ i M, i < e → I (itr f i a0) M → (∀ M', I (f i (itr f i a0)) M' → L (i + 1) (f i (itr f i a0)) M') → L i (itr f i a0) M) : ∀ M, I a0 M → L 0 a0 M := by
  have : ∀ k, k ≤ e → ∀ M, I (itr f (e - k) a0) M → L (e - k) (itr f (e - k) a0) M := by
    intro k
    induction k with
    | zero => intro _ M hI; exact hx M hI
    | succ k ih =>
      intro hk M hI
      refine hs _ M (by omega) hI (fun M' hM' => ?_)
      have e1 : e - k = (e - (k + 1)) + 1 := by omega
      have := ih (by omega) M'
      rw [e1] at this
      exact this hM'
  intro M hI
  have h2 := this e (Nat.le_refl _) M
  rw [Nat.sub_self] at h2
  exact h2 hI
/-! rows that tell the same line -/
def eqW (g g' : Nat → Int32) : Prop := ∀ i, (i < 47 ∨ 390 ≤ i) → g' i = g i
theorem eqW_rf {g : Nat → Int32} : eqW g g := fun _ _ => rfl
theorem eqW_tr {g g1 g2 : Nat → Int32} (h1 : eqW g g1) (h2 : eqW g1 g2) : eqW g g2 := fun i hi => (h2 i hi).trans (h1 i hi)
theorem eqW_row {g g1 : Nat → Int32} {k : Nat} {v : Int32} (h : eqW g g1) (h1 : 47 ≤ k) (h2 : k < 390) : eqW g (pm_row g1 k v) := fun i hi => by
  rw [row_ne (by omega)]
  exact h i hi
theorem lwC_congrW {g g' : Nat → Int32} (h : eqW g g') {law : Nat} (hl : law < 2) : lwC g' law = lwC g law := by
  funext k
  unfold lwC
  rw [h (7 + law) (by omega), h _ (by omega)]
theorem evF_rowW {g g' : Nat → Int32} (h : eqW g g') {law : Nat} (hl : law < 2) (w : Nat → Int32) : evF g' law w = evF g law w := by
  unfold evF lwN
  rw [lwC_congrW h hl, h (9 + law) (by omega)]
theorem lwOk_congrW {g g' : Nat → Int32} (h : eqW g g') {law lim : Nat} (hl : law < 2) (ho : lwOk g law lim) : lwOk g' law lim := by
  obtain ⟨fr, n, h1, h2, h3, h4⟩ := ho
  refine ⟨fr, n, (h _ (by omega)).trans h1, (h _ (by omega)).trans h2, h3, ?_⟩
  rw [lwC_congrW h hl, h (5 + law) (by omega)]
  exact h4
theorem wv_congrW {g g' : Nat → Int32} (h : eqW g g') {mk wet bo : Int32} {p t : Nat} (ht : t < 8) : wv g' mk p t wet bo = wv g mk p t wet bo := by
  funext i
  unfold wv
  split <;> first | rfl | exact h _ (by omega)
theorem claimF_congrW {g g' : Nat → Int32} (h : eqW g g') {mk : Int32} {p t : Nat} (ht : t < 8) : claimF g' mk p t = claimF g mk p t := by
  unfold claimF
  rw [h 5 (by omega), h (19 + t) (by omega), wv_congrW h ht, evF_rowW h (by omega)]
theorem burdenF_congrW {g g' : Nat → Int32} (h : eqW g g') {mk wet bo : Int32} {p t : Nat} (ht : t < 8) : burdenF g' mk p t wet bo = burdenF g mk p t wet bo := by
  unfold burdenF
  rw [h 6 (by omega), h (27 + t) (by omega), wv_congrW h ht, evF_rowW h (by omega)]
theorem Vd_congrW {g g' : Nat → Int32} (h : eqW g g') {N T P : Nat} (hv : Vd g N T P) : Vd g' N T P := by
  obtain ⟨h1, h2, h3, h4, h5, h6, h7, h8, h9, h10, h11, h12⟩ := hv
  refine ⟨(h _ (by omega)).trans h1, (h _ (by omega)).trans h2, (h _ (by omega)).trans h3, h4, h5, h6, h7, ?_, ?_, ?_, lwOk_congrW h (by omega) h11, lwOk_congrW h (by omega) h12⟩
  · rw [h _ (by omega)]; exact h8
  · intro t ht
    rw [h _ (by omega), h _ (by omega)]; exact h9 t ht
  · intro p hp
    rw [h _ (by omega), h _ (by omega)]; exact h10 p hp
theorem lwS_congrW {g g' : Nat → Int32} (h : eqW g g') {M : pm_M} {lw st law lim : Nat} (hl : law < 2) (hs : lwS M lw st g law lim) : lwS M lw st g' law lim := by
  obtain ⟨fr, to, h1, h2, h3, h4, h5, h6⟩ := hs
  refine ⟨fr, to, h1, h2, h3, h4, ?_, ?_⟩
  · rw [h _ (by omega)]; exact h5
  · rw [h _ (by omega)]
    intro q w w' hw
    rw [evF_rowW h hl]
    exact h6 q w w' hw
theorem LR_congrW {g g' : Nat → Int32} (h : eqW g g') {M : pm_M} {l T P : Nat} (h8 : T ≤ 8) (h6 : P ≤ 6) (hl : LR M l g T P) : LR M l g' T P := by
  obtain ⟨a1, a2, a3, a4, a5, a6, a7, a8, a9⟩ := hl
  refine ⟨a1.trans (h _ (by omega)).symm, a2.trans (h _ (by omega)).symm, a3.trans (h _ (by omega)).symm, a4.trans (h _ (by omega)).symm, a5.trans (h _ (by omega)).symm, ?_, ?_, lwS_congrW h (by omega) a8, lwS_congrW h (by omega) a9⟩
  · intro t ht
    rw [h _ (by omega), h _ (by omega)]; exact a6 t ht
  · intro p hp
    rw [h _ (by omega), h _ (by omega)]; exact a7 p hp
/-! rows that differ in the state alone -/
def eqL (g g' : Nat → Int32) : Prop := ∀ i, (i < 47 ∨ 78 ≤ i) → g' i = g i
theorem eqL_rf {g : Nat → Int32} : eqL g g := fun _ _ => rfl
theorem eqL_tr {g g1 g2 : Nat → Int32} (h1 : eqL g g1) (h2 : eqL g1 g2) : eqL g g2 := fun i hi => (h2 i hi).trans (h1 i hi)
theorem eqL_row {g g1 : Nat → Int32} {k : Nat} {v : Int32} (h : eqL g g1) (h1 : 47 ≤ k) (h2 : k < 78) : eqL g (pm_row g1 k v) := fun i hi => by
  rw [row_ne (by omega)]
  exact h i hi
theorem lwC_congr {g g' : Nat → Int32} (h : eqL g g') {law : Nat} (hl : law < 2) : lwC g' law = lwC g law := by
  funext k
  unfold lwC
  rw [h (7 + law) (by omega), h _ (by omega)]
theorem evF_row {g g' : Nat → Int32} (h : eqL g g') {law : Nat} (hl : law < 2) (w : Nat → Int32) : evF g' law w = evF g law w := by
  unfold evF lwN
  rw [lwC_congr h hl, h (9 + law) (by omega)]
theorem lwOk_congr {g g' : Nat → Int32} (h : eqL g g') {law lim : Nat} (hl : law < 2) (ho : lwOk g law lim) : lwOk g' law lim := by
  obtain ⟨fr, n, h1, h2, h3, h4⟩ := ho
  refine ⟨fr, n, (h _ (by omega)).trans h1, (h _ (by omega)).trans h2, h3, ?_⟩
  rw [lwC_congr h hl, h (5 + law) (by omega)]
  exact h4
theorem wv_congr {g g' : Nat → Int32} (h : eqL g g') {mk wet bo : Int32} {p t : Nat} (ht : t < 8) : wv g' mk p t wet bo = wv g mk p t wet bo := by
  funext i
  unfold wv
  split <;> first | rfl | exact h _ (by omega)
theorem claimF_congr {g g' : Nat → Int32} (h : eqL g g') {mk : Int32} {p t : Nat} (ht : t < 8) : claimF g' mk p t = claimF g mk p t := by
  unfold claimF
  rw [h 5 (by omega), h (19 + t) (by omega), wv_congr h ht, evF_row h (by omega)]
theorem burdenF_congr {g g' : Nat → Int32} (h : eqL g g') {mk wet bo : Int32} {p t : Nat} (ht : t < 8) : burdenF g' mk p t wet bo = burdenF g mk p t wet bo := by
  unfold burdenF
  rw [h 6 (by omega), h (27 + t) (by omega), wv_congr h ht, evF_row h (by omega)]
theorem Vd_congr {g g' : Nat → Int32} (h : eqL g g') {N T P : Nat} (hv : Vd g N T P) : Vd g' N T P := by
  obtain ⟨h1, h2, h3, h4, h5, h6, h7, h8, h9, h10, h11, h12⟩ := hv
  refine ⟨(h _ (by omega)).trans h1, (h _ (by omega)).trans h2, (h _ (by omega)).trans h3, h4, h5, h6, h7, ?_, ?_, ?_, lwOk_congr h (by omega) h11, lwOk_congr h (by omega) h12⟩
  · rw [h _ (by omega)]; exact h8
  · intro t ht
    rw [h _ (by omega), h _ (by omega)]; exact h9 t ht
  · intro p hp
    rw [h _ (by omega), h _ (by omega)]; exact h10 p hp
theorem lwS_congr {g g' : Nat → Int32} (h : eqL g g') {M : pm_M} {lw st law lim : Nat} (hl : law < 2) (hs : lwS M lw st g law lim) : lwS M lw st g' law lim := by
  obtain ⟨fr, to, h1, h2, h3, h4, h5, h6⟩ := hs
  refine ⟨fr, to, h1, h2, h3, h4, ?_, ?_⟩
  · rw [h _ (by omega)]; exact h5
  · rw [h _ (by omega)]
    intro q w w' hw
    rw [evF_row h hl]
    exact h6 q w w' hw
theorem LR_congr {g g' : Nat → Int32} (h : eqL g g') {M : pm_M} {l T P : Nat} (h8 : T ≤ 8) (h6 : P ≤ 6) (hl : LR M l g T P) : LR M l g' T P := by
  obtain ⟨a1, a2, a3, a4, a5, a6, a7, a8, a9⟩ := hl
  refine ⟨a1.trans (h _ (by omega)).symm, a2.trans (h _ (by omega)).symm, a3.trans (h _ (by omega)).symm, a4.trans (h _ (by omega)).symm, a5.trans (h _ (by omega)).symm, ?_, ?_, lwS_congr h (by omega) a8, lwS_congr h (by omega) a9⟩
  · intro t ht
    rw [h _ (by omega), h _ (by omega)]; exact a6 t ht
  · intro p hp
    rw [h _ (by omega), h _ (by omega)]; exact a7 p hp
theorem eqL_W {g g' : Nat → Int32} (h : eqL g g') : eqW g g' := fun i hi => h i (by omega)
/-! deeds, as functions of a row -/
def ixN (v : Int64) (n : Nat) : Option Nat := if 0 ≤ v.toInt ∧ v.toInt < n then some v.toInt.toNat else none
theorem ixN_some {v : Int64} {n : Nat} (h : inN v n) (hn : n < 2 ^ 30) : ∃ k, k < n ∧ ixN v n = some k ∧ v = lN k := by
  obtain ⟨k, hk, rfl⟩ := h
  refine ⟨k, hk, ?_, rfl⟩
  unfold ixN
  rw [pk_lT (by omega), if_pos (by omega)]
  simp
theorem ixN_none {v : Int64} {n : Nat} (h : ¬ inN v n) (hn : n < 2 ^ 30) : ixN v n = none := by
  unfold ixN
  rw [if_neg]
  intro q
  refine h ⟨v.toInt.toNat, by omega, ?_⟩
  apply Int64.toInt_inj.mp
  rw [pk_lT (by omega)]
  omega
theorem ixN_lt {v : Int64} {n k : Nat} (h : ixN v n = some k) : k < n := by
  unfold ixN at h
  split at h
  · cases h; omega
  · cases h
def whyHoldF (g : Nat → Int32) (T : Nat) (x : Option Nat) : Int32 := match x with
  | none => 1
  | some p => if heldF g T p = none then 2 else 0
def whyOpenF (g : Nat → Int32) (T : Nat) (x : Option Nat) : Int32 := match x with
  | none => 1
  | some p => match heldF g T p with
    | none => 2
    | some t => if g (72 + p) + burdenF g (g (66 + p)) p t (g 47) (g (72 + p)) ≤ g (41 + p) then 0 else 3
def whyFetchF (g : Nat → Int32) (T : Nat) (x y : Option Nat) : Int32 := match x, y with
  | some p, some t => if heldF g T p = none then (if g (50 + t) = 99 then (if 0 < claimF g (g (66 + p)) p t then 0 else 3) else 3) else 2
  | _, _ => 1
def whySwapF (g : Nat → Int32) (T : Nat) (x y : Option Nat) : Int32 := match x, y with
  | some p, some q => if p = q then 1 else if heldF g T p = none then 2 else if heldF g T q = none then 2 else 0
  | _, _ => 1
def leaveF (g : Nat → Int32) (T p : Nat) : Nat → Int32 := match heldF g T p with
  | some t => pm_row g (50 + t) (g (35 + p))
  | none => g
def openF (g : Nat → Int32) (T p : Nat) : Nat → Int32 := match heldF g T p with
  | some t => pm_row (pm_row g (72 + p) (g (72 + p) + burdenF g (g (66 + p)) p t (g 47) (g (72 + p)))) (58 + t) (g (58 + t) + 1)
  | none => g
def fetchF (g : Nat → Int32) (p t : Nat) : Nat → Int32 := pm_row g (50 + t) (nI (10 + p))
def swapF (g : Nat → Int32) (T p q : Nat) : Nat → Int32 := match heldF g T p, heldF g T q with
  | some a, some b => pm_row (pm_row g (50 + a) (nI (10 + q))) (50 + b) (nI (10 + p))
  | _, _ => g
def tkc (g : Nat → Int32) (T t : Nat) (st : Int32) (p : Nat) : Int32 := if g (35 + p) = st ∧ heldF g T p = none then claimF g (g (66 + p)) p t else 0
def tk1 (g : Nat → Int32) (T t : Nat) (st : Int32) (p : Nat) (b : Option Nat × Int32) : Option Nat × Int32 := if b.2 < tkc g T t st p then (some p, tkc g T t st p) else b
def tk (g : Nat → Int32) (T P t : Nat) (st : Int32) : Option Nat × Int32 := itr (tk1 g T t st) P (none, 0)
def roll1 (N T P t : Nat) (x : (Nat → Int32) × Int32) : (Nat → Int32) × Int32 :=
  if x.1 (50 + t) < 10 then
    (let to := x.1 (50 + t) + 1
     let r := if nI N ≤ to then none else (tk x.1 T P t to).1
     (pm_row x.1 (50 + t) (if to = nI N then 99 else if oI r = -1 then to else 10 + oI r), x.2 + (if oI r = -1 then 0 else 1)))
  else x
def rollF (g : Nat → Int32) (N T P : Nat) : (Nat → Int32) × Int32 := itr (roll1 N T P) T (g, 0)
def drawX (x : Int32) : Int32 := (1103515245 : Int32) * x + 12345
def drawR (x : Int32) : Int32 := (x.toUInt32 >>> ((16 : Int32).toUInt32 &&& Int32.toUInt32 31)).toInt32
def drawM (x by_ : Int32) : Int32 := drawR x - drawR x / by_ * by_
def day0 (g : Nat → Int32) : Nat → Int32 := itr (fun p r => pm_row r (72 + p) 0) 6 (pm_row (pm_row g 49 (drawX (g 49))) 47 (if g 4 ≤ drawM (drawX (g 49)) 10 then 0 else 1))
def dayF (g : Nat → Int32) (N T P : Nat) : (Nat → Int32) × Int32 := rollF (pm_row (day0 g) 48 (g 48 + 1)) N T P
/-! the reference's deeds -/
theorem heldF_small {g : Nat → Int32} {T p i : Nat} (h8 : T ≤ 8) (h : heldF g T p = some i) : i < 8 := by
  have := (heldF_lt h).1
  omega
theorem oIheld {g : Nat → Int32} {T p : Nat} (h8 : T ≤ 8) : (oI (heldF g T p) = -1) = (heldF g T p = none) := oI_m1 (fun i hi => by have := heldF_small h8 hi; omega)
theorem sp_whyHolds {d : Nat} {s : pm_S} {M : pm_M} {g : Nat → Int32} {N T P : Nat} {v : Int64} {Q : Int32 → pm_S → pm_M → Prop} (hd : 3 ≤ d) (hg : M.1 160 = g) (hV : Vd g N T P) (hq : Q (whyHoldF g T (ixN v P)) s M) : cI d yM_whyHolds [.ref 159, .long v] s M Q := by
  obtain ⟨d, rfl⟩ : ∃ e, d = e + 1 := ⟨d - 1, by omega⟩
  obtain ⟨h1, h2, h3, h4, h5, h6, h7, h8, h9, h10, h11, h12⟩ := hV
  refine enM_whyHolds (sp_isPerson (by omega) (by rw [hg]; exact h3) h7 (fun h => br_f (by decide) ?_) (fun h => br_t rfl ?_))
  · obtain ⟨k, hk, e, rfl⟩ := ixN_some h (by omega)
    rw [lN_32]
    refine sp_heldByN (by omega) hg h2 h6 ?_
    rw [e] at hq
    simp only [whyHoldF] at hq
    simp only [oIheld h6]
    exact hq
  · rw [ixN_none h (by omega)] at hq; exact hq
theorem sp_whyOpen {d : Nat} {s : pm_S} {M : pm_M} {g : Nat → Int32} {N T P : Nat} {v : Int64} {Q : Int32 → pm_S → pm_M → Prop} (hd : 5 ≤ d) (hg : M.1 160 = g) (hV : Vd g N T P) (hq : ∀ M', off [164, 165] M M' → Q (whyOpenF g T (ixN v P)) s M') : cI d yM_whyOpen [.ref 159, .long v] s M Q := by
  obtain ⟨d, rfl⟩ : ∃ e, d = e + 1 := ⟨d - 1, by omega⟩
  have hV' := hV
  obtain ⟨h1, h2, h3, h4, h5, h6, h7, h8, h9, h10, h11, h12⟩ := hV
  refine enM_whyOpen (sp_whyHolds (by omega) hg hV' ?_)
  cases hx : ixN v P with
  | none =>
    rw [hx] at hq
    exact br_f (by simp only [whyHoldF]; decide) (hq M off_rf)
  | some p =>
    have hp := ixN_lt hx
    have hv : v = lN p := by
      unfold ixN at hx
      split at hx
      · cases hx
        apply Int64.toInt_inj.mp
        rw [pk_lT (by omega)]
        omega
      · cases hx
    subst hv
    rw [hx] at hq
    simp only [whyHoldF]
    cases hh : heldF g T p with
    | none =>
      simp only [whyOpenF, hh] at hq
      exact br_f (by decide) (hq M off_rf)
    | some t =>
      have ht := heldF_lt hh
      simp only [whyOpenF, hh] at hq
      rw [if_neg (by simp)]
      refine br_t rfl ?_
      rw [lN_32, lI 72, lI 41, nI_add, nI_add, nI_clamp (by omega), nI_clamp (by omega), hg]
      refine ⟨vpI (by omega) (by omega), sp_heldByN (by omega) hg h2 h6 ?_⟩
      rw [hh]
      refine sp_burdenNow (g := g) (by omega) hg h12 (by omega) (by omega) (fun M' hM' => ⟨vpI (by omega) (by omega), ?_⟩)
      rw [(hM' 160 (by decide)).1, hg]
      exact hq M' hM'
theorem sp_whyFetch {d : Nat} {s : pm_S} {M : pm_M} {g : Nat → Int32} {N T P : Nat} {v w : Int64} {Q : Int32 → pm_S → pm_M → Prop} (hd : 5 ≤ d) (hg : M.1 160 = g) (hV : Vd g N T P) (hq : ∀ M', off [164, 165] M M' → Q (whyFetchF g T (ixN v P) (ixN w T)) s M') : cI d yM_whyFetch [.ref 159, .long v, .long w] s M Q := by
  obtain ⟨d, rfl⟩ : ∃ e, d = e + 1 := ⟨d - 1, by omega⟩
  have hV' := hV
  obtain ⟨h1, h2, h3, h4, h5, h6, h7, h8, h9, h10, h11, h12⟩ := hV
  refine enM_whyFetch (sp_isPerson (by omega) (by rw [hg]; exact h3) h7 (fun h => br_f (by decide) ?_) (fun h => br_t rfl ?_))
  · obtain ⟨p, hp, e, rfl⟩ := ixN_some h (by omega)
    rw [e] at hq
    refine sp_isThing (by omega) (by rw [hg]; exact h2) h6 (fun h => br_f (by decide) ?_) (fun h => br_t rfl ?_)
    · obtain ⟨t, ht, e2, rfl⟩ := ixN_some h (by omega)
      rw [e2] at hq
      simp only [whyFetchF] at hq
      rw [lN_32, lN_32]
      refine sp_heldByN (by omega) hg h2 h6 ?_
      rw [show (oI (heldF g T p) = -1) = (heldF g T p = none) from oIheld h6, lI 50, nI_add, nI_clamp (by omega), hg]
      refine br_c (fun c => ⟨vpI (by omega) (by omega), br_c (fun c2 => ?_) (fun c2 => ?_)⟩) (fun c => ?_)
      · refine sp_claimsOf (g := g) (by omega) hg h11 (by omega) (by omega) (fun M' hM' => ?_)
        have := hq M' hM'
        rw [if_pos c, if_pos c2] at this
        exact this
      · have := hq M off_rf
        rw [if_pos c, if_neg c2] at this
        exact this
      · have := hq M off_rf
        rw [if_neg c] at this
        exact this
    · rw [ixN_none h (by omega)] at hq
      exact hq M off_rf
  · rw [ixN_none h (by omega)] at hq
    exact hq M off_rf
theorem sp_whySwap {d : Nat} {s : pm_S} {M : pm_M} {g : Nat → Int32} {N T P : Nat} {v w : Int64} {Q : Int32 → pm_S → pm_M → Prop} (hd : 5 ≤ d) (hg : M.1 160 = g) (hV : Vd g N T P) (hq : Q (whySwapF g T (ixN v P) (ixN w P)) s M) : cI d yM_whySwap [.ref 159, .long v, .long w] s M Q := by
  obtain ⟨d, rfl⟩ : ∃ e, d = e + 1 := ⟨d - 1, by omega⟩
  have hV' := hV
  obtain ⟨h1, h2, h3, h4, h5, h6, h7, h8, h9, h10, h11, h12⟩ := hV
  refine enM_whySwap (sp_areTwo (by omega) (by rw [hg]; exact h3) h7 (fun h => br_f (by decide) ?_) (fun h => br_t rfl ?_))
  · obtain ⟨hv, hw, hne⟩ := h
    obtain ⟨p, hp, e, rfl⟩ := ixN_some hv (by omega)
    obtain ⟨q, hq2, e2, rfl⟩ := ixN_some hw (by omega)
    rw [e, e2] at hq
    have hpq : ¬ p = q := fun z => hne (by rw [z])
    simp only [whySwapF, if_neg hpq] at hq
    rw [lN_32, lN_32]
    refine sp_heldByN (by omega) hg h2 h6 ?_
    rw [show (oI (heldF g T p) = -1) = (heldF g T p = none) from oIheld h6]
    refine br_c (fun c => ?_) (fun c => ?_)
    · rw [if_pos c] at hq; exact hq
    · rw [if_neg c] at hq
      refine sp_heldByN (by omega) hg h2 h6 ?_
      simp only [oIheld h6]
      exact hq
  · by_cases hv : inN v P
    · by_cases hw : inN w P
      · obtain ⟨p, hp, e, rfl⟩ := ixN_some hv (by omega)
        obtain ⟨q, hq2, e2, rfl⟩ := ixN_some hw (by omega)
        have hpq : p = q := by
          by_cases z : lN p = lN q
          · exact (pk_lEQ (by omega) (by omega)).mp z
          · exact absurd ⟨hv, hw, z⟩ h
        rw [e, e2] at hq
        simp only [whySwapF, if_pos hpq] at hq
        exact hq
      · rw [ixN_none hw (by omega)] at hq
        have : whySwapF g T (ixN v P) none = 1 := by cases ixN v P <;> rfl
        rw [this] at hq; exact hq
    · rw [ixN_none hv (by omega)] at hq; exact hq
