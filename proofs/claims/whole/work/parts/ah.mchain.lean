/-! the reference's laws' parser: chains of states -/
def mK (M M' : pm_M) : Prop := (∀ c, c ≠ 159 → c ≠ 163 → M'.1 c = M.1 c) ∧ M'.2 = M.2 ∧ mdK (M.1 159) (M'.1 159) ∧ ∀ k, k < 389 → M'.1 163 k = M.1 163 k
theorem mK_rf {M : pm_M} : mK M M := ⟨fun _ _ _ => rfl, rfl, fun _ _ _ _ _ _ _ => rfl, fun _ _ => rfl⟩
theorem mK_tr {M M1 M2 : pm_M} (h : mK M M1) (k : mK M1 M2) : mK M M2 :=
  ⟨fun c h1 h2 => by rw [k.1 c h1 h2, h.1 c h1 h2], by rw [k.2.1, h.2.1], fun j a b c d e f => by rw [k.2.2.1 j a b c d e f, h.2.2.1 j a b c d e f], fun j a => by rw [k.2.2.2 j a, h.2.2.2 j a]⟩
theorem mK_rd {M : pm_M} {R : Nat → Int32} (h : mdK (M.1 159) R) : mK M (pm_ri M 159 R) :=
  ⟨fun c h1 _ => ri_ne h1, rfl, by rw [ri_eq]; exact h, fun j _ => by rw [ri_ne (by decide)]⟩
theorem mK_tp {B : Nat → Nat} {n : Nat} {M M' : pm_M} (h : mK M M') (ht : tpM B n M) : tpM B n M' := ⟨ht.1, fun k hk => by rw [h.1 162 (by decide) (by decide)]; exact ht.2 k hk⟩
def posX (x : PS) : Nat := match x with
  | .inl f => f.2
  | .inr p => p
def chM (B : Nat → Nat) (n c : Nat) (x : PS) (a : Nat) (M : pm_M) (x' : PS) (b : Nat) (M' : pm_M) : Prop :=
  mK M M' ∧ tpM B n M' ∧ MAt B n x' (M'.1 159) ∧ M'.1 163 389 = nI b ∧ a ≤ b ∧ b ≤ 900 ∧ (M'.1 159 11 = 0 → M.1 159 11 = 0 ∧ a ≤ posX x ∧ b + c + posX x ≤ a + posX x' ∧ ∀ k, k < a → M'.1 163 (390 + k) = M.1 163 (390 + k)) ∧ ∀ p', x' = .inr p' → ∃ p, x = .inr p
theorem MAt_0 {B : Nat → Nat} {n p : Nat} {R : Nat → Int32} (h : MAt B n (.inr p) R) : R 11 = 0 := h.2.2.2.1
theorem MAt_p {B : Nat → Nat} {n : Nat} {x : PS} {R : Nat → Int32} (h : MAt B n x R) : posX x ≤ n := by
  cases x with
  | inl f => exact h.2.2.2.1
  | inr p => exact h.2.1
theorem chM_tr {B : Nat → Nat} {n c c' a b e : Nat} {x x1 x2 : PS} {M M1 M2 : pm_M} (h : chM B n c x a M x1 b M1) (k : chM B n c' x1 b M1 x2 e M2) : chM B n (c + c') x a M x2 e M2 := by
  obtain ⟨h1, h2, h3, h4, h5, h6, h7, h8⟩ := h
  obtain ⟨k1, k2, k3, k4, k5, k6, k7, k8⟩ := k
  refine ⟨mK_tr h1 k1, k2, k3, k4, by omega, k6, fun e2 => ?_, fun p2 e2 => ?_⟩
  · obtain ⟨e1, l1, l2, l3⟩ := k7 e2
    obtain ⟨e0, m1, m2, m3⟩ := h7 e1
    exact ⟨e0, m1, by omega, fun j hj => by rw [l3 j (by omega), m3 j hj]⟩
  · obtain ⟨p1, e1⟩ := k8 p2 e2
    exact h8 p1 e1
theorem chM_mo {B : Nat → Nat} {n c c' a b : Nat} {x x1 : PS} {M M1 : pm_M} (h : chM B n c x a M x1 b M1) (hc : c' ≤ c) : chM B n c' x a M x1 b M1 := by
  obtain ⟨h1, h2, h3, h4, h5, h6, h7, h8⟩ := h
  refine ⟨h1, h2, h3, h4, h5, h6, fun e1 => ?_, h8⟩
  obtain ⟨e0, m1, m2, m3⟩ := h7 e1
  exact ⟨e0, m1, by omega, m3⟩
theorem chM_self {B : Nat → Nat} {n c a b : Nat} {x x1 : PS} {M M1 : pm_M} (h : chM B n c x a M x1 b M1) : chM B n 0 x1 b M1 x1 b M1 := by
  obtain ⟨h1, h2, h3, h4, h5, h6, h7, h8⟩ := h
  refine ⟨mK_rf, h2, h3, h4, Nat.le_refl _, h6, fun e1 => ?_, fun p e => ⟨p, e⟩⟩
  obtain ⟨e0, m1, m2, m3⟩ := h7 e1
  exact ⟨e1, by omega, by omega, fun _ _ => rfl⟩
/-- alive at the end: alive all along -/
theorem chM_al {B : Nat → Nat} {n c a b p1 : Nat} {x x1 : PS} {M M1 : pm_M} (h : chM B n c x a M x1 b M1) (e : x1 = .inr p1) : ∃ p, x = .inr p ∧ ∀ k, k < a → M1.1 163 (390 + k) = M.1 163 (390 + k) := by
  obtain ⟨h1, h2, h3, h4, h5, h6, h7, h8⟩ := h
  obtain ⟨p, ep⟩ := h8 p1 e
  subst e
  exact ⟨p, ep, (h7 (MAt_0 h3)).2.2.2⟩
theorem chM_row {B : Nat → Nat} {n c a b c' : Nat} {x x1 x2 : PS} {M M1 : pm_M} {R : Nat → Int32} (h : chM B n c x a M x1 b M1) (hR : mdK (M1.1 159) R) (hc : MAt B n x2 R) (ha : R 11 = 0 → M1.1 159 11 = 0 ∧ posX x1 + c' ≤ posX x2) (hl : ∀ p2, x2 = .inr p2 → ∃ p1, x1 = .inr p1) : chM B n (c + c') x a M x2 b (pm_ri M1 159 R) := by
  refine chM_tr h ?_
  obtain ⟨h1, h2, h3, h4, h5, h6, h7, h8⟩ := h
  refine ⟨mK_rd hR, mK_tp (mK_rd hR) h2, by rw [ri_eq]; exact hc, by rw [ri_ne (by decide)]; exact h4, Nat.le_refl _, h6, fun e2 => ?_, hl⟩
  rw [ri_eq] at e2
  obtain ⟨e1, l⟩ := ha e2
  obtain ⟨e0, m1, m2, m3⟩ := h7 e1
  exact ⟨e1, by omega, by omega, fun k _ => by rw [ri_ne (by decide)]⟩
theorem nx_pos {B : Nat → Nat} {n : Nat} {x : PS} (hB : ∀ k, k < n → B k < 256) (hx : ∀ p, x = .inr p → p ≤ n) (hk : kiF B n x ≠ 129) (hk2 : kiF B n x ≠ 131) : posX x + 1 ≤ posX (nxF B n x) := by
  cases x with
  | inl f => exact absurd rfl hk2
  | inr p =>
    obtain ⟨k1, k2, k3, k4, k5, k6, k7⟩ := tk_spec (hx p rfl) hB
    obtain ⟨j1, j2, j3, j4, j5, j6, j7⟩ := tk_spec k4 hB
    have := k5 hk
    show p + 1 ≤ posX (psF B n (tE B n p))
    unfold psF
    by_cases z : tK B n (tE B n p) = 131
    · rw [if_pos z]
      show p + 1 ≤ tA B n (tE B n p)
      omega
    · rw [if_neg z]
      show p + 1 ≤ tE B n p
      omega
theorem nx_al {B : Nat → Nat} {n : Nat} {x : PS} : ∀ p2, nxF B n x = .inr p2 → ∃ p1, x = .inr p1 := by
  intro p2 e
  cases x with
  | inl f => cases e
  | inr p => exact ⟨p, rfl⟩
theorem ki_al {B : Nat → Nat} {n : Nat} {x : PS} (h : kiF B n x ≠ 131) : ∃ p, x = .inr p := by
  cases x with
  | inl f => exact absurd rfl h
  | inr p => exact ⟨p, rfl⟩
theorem MAt_n {B : Nat → Nat} {n : Nat} {x : PS} {R : Nat → Int32} (h : MAt B n x R) : ∀ p, x = .inr p → p ≤ n := by
  intro p e
  subst e
  exact h.2.1
/-- the row behind a next -/
theorem chM_nx {B : Nat → Nat} {n c a b : Nat} {x x1 : PS} {M M1 : pm_M} {R : Nat → Int32} (h : chM B n c x a M x1 b M1) (hk : kiF B n x1 ≠ 129) (hk2 : kiF B n x1 ≠ 131) (hc : MAt B n (nxF B n x1) R) (hR : mdK (M1.1 159) R) : chM B n (c + 1) x a M (nxF B n x1) b (pm_ri M1 159 R) ∧ chM B n 1 x1 b M1 (nxF B n x1) b (pm_ri M1 159 R) := by
  obtain ⟨p, ep⟩ := ki_al hk2
  have ha : R 11 = 0 → M1.1 159 11 = 0 ∧ posX x1 + 1 ≤ posX (nxF B n x1) := fun _ => ⟨by have := h.2.2.1; rw [ep] at this; exact MAt_0 this, nx_pos (fun k hk => (h.2.1.2 k hk).2) (MAt_n h.2.2.1) hk hk2⟩
  exact ⟨chM_row h hR hc ha nx_al, chM_mo (chM_row (chM_self h) hR hc ha nx_al) (by omega)⟩
theorem sp_nxM {d : Nat} {s : pm_S} {M M1 : pm_M} {B : Nat → Nat} {n c a b : Nat} {x x1 : PS} {Q : pm_S → pm_M → Prop} (hd : 3 ≤ d) (h : chM B n c x a M x1 b M1) (hk : kiF B n x1 ≠ 129) (hk2 : kiF B n x1 ≠ 131)
    (hq : ∀ M', chM B n (c + 1) x a M (nxF B n x1) b M' → chM B n 1 x1 b M1 (nxF B n x1) b M' → M'.1 159 11 = 0 → Q s M') : cV d yM_next [.ref 159] s M1 Q := by
  obtain ⟨p, ep⟩ := ki_al hk2
  subst ep
  obtain ⟨h8, hp, hk', h11, h9, h6, h7, h10⟩ := h.2.2.1
  have hB : ∀ k, k < n → B k < 256 := fun k hk => (h.2.1.2 k hk).2
  obtain ⟨k1, k2, k3, k4, k5, k6, k7⟩ := tk_spec hp hB
  refine sp_next hd h.2.1.1 k4 h.2.1.2 h8 h7 (fun R' hR => ?_)
  have hm : mdK (M1.1 159) R' := fun k k6 k7 k9 k10 _ _ => hR.1 k k6 k7 k9 k10
  obtain ⟨c1, c2⟩ := chM_nx h hk hk2 (MAt_st k4 hB h8 h11 hR) hm
  exact hq _ c1 c2 (by rw [ri_eq, hR.1 11 (by decide) (by decide) (by decide) (by decide), h11])
theorem chM_fa {B : Nat → Nat} {n c c' a b k : Nat} {x x1 : PS} {M M1 : pm_M} {R : Nat → Int32} (h : chM B n c x a M x1 b M1) (hc : MAt B n (faF B n k x1) R) (hR : mdK (M1.1 159) R) (h0 : R 11 ≠ 0) : chM B n c' x a M (faF B n k x1) b (pm_ri M1 159 R) :=
  chM_mo (chM_row (c' := c') h hR hc (fun e => absurd e h0) (fun p e => absurd e (fa_inl p))) (by omega)
theorem sp_faM {d : Nat} {s : pm_S} {M M1 : pm_M} {B : Nat → Nat} {n c a b k : Nat} {x x1 : PS} {Q : pm_S → pm_M → Prop} (hd : 1 ≤ d) (h : chM B n c x a M x1 b M1) (h1 : 1 ≤ k) (h4 : k ≤ 4)
    (hq : ∀ M', (∀ c', chM B n c' x a M (faF B n k x1) b M') → (∀ c', chM B n c' x1 b M1 (faF B n k x1) b M') → M'.1 159 11 ≠ 0 → Q s M') : cV d yM_fails [.ref 159, .int (nI k)] s M1 Q :=
  sp_failsX hd h.2.1 h1 h4 h.2.2.1 (fun R' a1 a2 _ a4 => hq _ (fun _ => chM_fa h a1 a2 a4) (fun _ => chM_fa (chM_self h) a1 a2 a4) (by rw [ri_eq]; exact a4))
/-- eats w, or fails -/
theorem sp_efM {d : Nat} {s : pm_S} {M M1 : pm_M} {B : Nat → Nat} {n c a b w m : Nat} {x x1 : PS} {K : pm_S → pm_M → Prop} (hd : 4 ≤ d) (h : chM B n c x a M x1 b M1) (hw : w ∈ kdL) (h131 : w ≠ 131) (h129 : w ≠ 129) (hm : rkK w = m)
    (hq : ∀ M', chM B n (c + 1) x a M (exF B n w x1) b M' → chM B n 1 x1 b M1 (exF B n w x1) b M' → K s M') : cI d yM_eats [.ref 159, .int (nI m)] s M1 (fun r s1 M1 => (r = 0 → cV d yM_fails [.ref 159, .int 2] s1 M1 K) ∧ (¬ (r = 0) → K s1 M1)) := by
  unfold exF at hq
  refine sp_eatsX hd h.2.1 hw h131 hm h.2.2.1 (fun e R' a1 a2 => br_f (by decide) ?_) (fun e => br_t rfl ?_)
  · simp only [if_pos e] at hq
    obtain ⟨c1, c2⟩ := chM_nx h (by rw [e]; exact h129) (by rw [e]; exact h131) a1 a2
    exact hq _ c1 c2
  · simp only [if_neg e] at hq
    exact sp_faM (k := 2) (by omega) h (by omega) (by omega) (fun M' k1 k2 _ => hq M' (k1 _) (k2 _))
/-- one code more -/
theorem sp_coM {d : Nat} {s : pm_S} {M M1 : pm_M} {B : Nat → Nat} {n c a b : Nat} {v : Int32} {x x1 : PS} {Q : pm_S → pm_M → Prop} (hd : 1 ≤ d) (h : chM B n (c + 1) x a M x1 b M1)
    (hq : ∀ M' b', chM B n c x a M x1 b' M' → (∀ p1, x1 = .inr p1 → b' = b + 1 ∧ b < 900 ∧ M'.1 163 (390 + b) = v ∧ ∀ k, k < b → M'.1 163 (390 + k) = M1.1 163 (390 + k)) → Q s M') : cV d yM_codes [.ref 159, .int v] s M1 Q := by
  obtain ⟨d, rfl⟩ : ∃ e, d = e + 1 := ⟨d - 1, by omega⟩
  have h' := h
  obtain ⟨h1, h2, h3, h4, h5, h6, h7, h8⟩ := h
  refine enM_codes (br_c (fun z => ?_) (fun z => ?_))
  · obtain ⟨e0, m1, m2, m3⟩ := h7 z
    have := MAt_p h3
    have := h2.1
    have hb : b < 900 := by omega
    have hc : ((390 : Int32) + nI b).toNatClampNeg = 390 + b := by rw [lI 390, nI_add, nI_clamp (by omega)]
    rw [h4, hc, si_eq, row_ne (by omega), h4, nI_1]
    refine ⟨by rw [lI 390, nI_add]; exact vpI (by omega) (by omega), ?_⟩
    have k1 : mK M1 (pm_si (pm_si M1 163 (390 + b) v) 163 389 (nI (b + 1))) := ⟨fun j a1 a2 => by rw [si_ne a2, si_ne a2], rfl, by rw [si_ne (by decide), si_ne (by decide)]; exact fun _ _ _ _ _ _ _ => rfl, fun j hj => by rw [si_eq, row_ne (by omega), si_eq, row_ne (by omega)]⟩
    have e1 : (pm_si (pm_si M1 163 (390 + b) v) 163 389 (nI (b + 1))).1 159 = M1.1 159 := by rw [si_ne (by decide), si_ne (by decide)]
    have e2 : (pm_si (pm_si M1 163 (390 + b) v) 163 389 (nI (b + 1))).1 163 389 = nI (b + 1) := by rw [si_eq, row_eq]
    have e3 : (pm_si (pm_si M1 163 (390 + b) v) 163 389 (nI (b + 1))).1 163 (390 + b) = v := by rw [si_eq, row_ne (by omega), si_eq, row_eq]
    have e4 : ∀ k, k < b → (pm_si (pm_si M1 163 (390 + b) v) 163 389 (nI (b + 1))).1 163 (390 + k) = M1.1 163 (390 + k) := fun k hk => by rw [si_eq, row_ne (by omega), si_eq, row_ne (by omega)]
    generalize pm_si (pm_si M1 163 (390 + b) v) 163 389 (nI (b + 1)) = M2 at k1 e1 e2 e3 e4
    refine hq M2 (b + 1) ⟨mK_tr h1 k1, mK_tp k1 h2, by rw [e1]; exact h3, e2, by omega, by omega, fun _ => ⟨e0, m1, by omega, fun k hk => by rw [e4 k (by omega), m3 k hk]⟩, h8⟩ (fun p1 ep => ⟨rfl, hb, e3, e4⟩)
  · refine hq M1 b ⟨h1, h2, h3, h4, h5, h6, fun e => absurd e z, h8⟩ (fun p1 ep => ?_)
    subst ep
    exact absurd (MAt_0 h3) z
/-- a code, then on -/
theorem sp_cnM {d : Nat} {s : pm_S} {M : pm_M} {B : Nat → Nat} {n a : Nat} {v : Int32} {x : PS} {Q : pm_S → pm_M → Prop} (hd : 3 ≤ d) (h : chM B n 0 x a M x a M) (hk : kiF B n x ≠ 129) (hk2 : kiF B n x ≠ 131)
    (hq : ∀ M', chM B n 0 x a M (nxF B n x) (a + 1) M' → M'.1 163 (390 + a) = v → Q s M') : cV d yM_codes [.ref 159, .int v] s M (fun s1 M1 => cV d yM_next [.ref 159] s1 M1 Q) := by
  obtain ⟨e, rfl⟩ : ∃ e, d = e + 1 := ⟨d - 1, by omega⟩
  obtain ⟨p, ep⟩ := ki_al hk2
  have hB : ∀ k, k < n → B k < 256 := fun k hk => (h.2.1.2 k hk).2
  have hp1 := nx_pos hB (MAt_n h.2.2.1) hk hk2
  obtain ⟨h1, h2, h3, h4, h5, h6, h7, h8⟩ := h
  have z : M.1 159 11 = 0 := by rw [ep] at h3; exact MAt_0 h3
  obtain ⟨e0, m1, m2, m3⟩ := h7 z
  have hlt : a < 900 := by
    subst ep
    obtain ⟨k1, k2, k3, k4, k5, k6, k7⟩ := tk_spec (MAt_n h3 p rfl) hB
    have := k5 hk
    have := h2.1
    have : a ≤ p := m1
    omega
  refine enM_codes (br_t z ?_)
  have hc : ((390 : Int32) + nI a).toNatClampNeg = 390 + a := by rw [lI 390, nI_add, nI_clamp (by omega)]
  rw [h4, hc, si_eq, row_ne (by omega), h4, nI_1]
  refine ⟨by rw [lI 390, nI_add]; exact vpI (by omega) (by omega), ?_⟩
  have k1 : mK M (pm_si (pm_si M 163 (390 + a) v) 163 389 (nI (a + 1))) := ⟨fun j a1 a2 => by rw [si_ne a2, si_ne a2], rfl, by rw [si_ne (by decide), si_ne (by decide)]; exact fun _ _ _ _ _ _ _ => rfl, fun j hj => by rw [si_eq, row_ne (by omega), si_eq, row_ne (by omega)]⟩
  have e1 : (pm_si (pm_si M 163 (390 + a) v) 163 389 (nI (a + 1))).1 159 = M.1 159 := by rw [si_ne (by decide), si_ne (by decide)]
  have e2 : (pm_si (pm_si M 163 (390 + a) v) 163 389 (nI (a + 1))).1 163 389 = nI (a + 1) := by rw [si_eq, row_eq]
  have e3 : (pm_si (pm_si M 163 (390 + a) v) 163 389 (nI (a + 1))).1 163 (390 + a) = v := by rw [si_eq, row_ne (by omega), si_eq, row_eq]
  have e4 : ∀ k, k < a → (pm_si (pm_si M 163 (390 + a) v) 163 389 (nI (a + 1))).1 163 (390 + k) = M.1 163 (390 + k) := fun k hk => by rw [si_eq, row_ne (by omega), si_eq, row_ne (by omega)]
  generalize pm_si (pm_si M 163 (390 + a) v) 163 389 (nI (a + 1)) = M2 at k1 e1 e2 e3 e4
  subst ep
  refine sp_nextX hd (mK_tp k1 h2) (by rw [e1]; exact h3) (fun R' a1 a2 => ?_)
  have k2 : mK M (pm_ri M2 159 R') := mK_tr k1 (mK_rd a2)
  refine hq _ ⟨k2, mK_tp k2 h2, by rw [ri_eq]; exact a1, by rw [ri_ne (by decide)]; exact e2, by omega, by omega, fun _ => ⟨e0, m1, by omega, fun k hk => by rw [ri_ne (by decide), e4 k hk]⟩, fun p' e' => ⟨p, rfl⟩⟩ (by rw [ri_ne (by decide), e3])
