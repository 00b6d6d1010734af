/-! lines, the class: what it has told -/
def fC (M M' : pm_M) : Prop := (∀ c, (c < 1 ∨ 11 < c) → M'.1 c = M.1 c) ∧ M'.2 = M.2 ∧ M'.1 1 1 = M.1 1 1
theorem fC_rf {M : pm_M} : fC M M := ⟨fun _ _ => rfl, rfl, rfl⟩
theorem fC_tr {M M1 M2 : pm_M} (h : fC M M1) (k : fC M1 M2) : fC M M2 := ⟨fun c hc => by rw [k.1 c hc, h.1 c hc], by rw [k.2.1, h.2.1], by rw [k.2.2, h.2.2]⟩
theorem fC_si {M M1 : pm_M} {c k : Nat} {v : Int32} (h : fC M M1) (hc : 2 ≤ c ∧ c ≤ 11) : fC M (pm_si M1 c k v) := ⟨fun j hj => by rw [si_ne (by omega), h.1 j hj], h.2.1, by rw [si_ne (by omega), h.2.2]⟩
theorem fC_ri {M M1 : pm_M} {c : Nat} {R : Nat → Int32} (h : fC M M1) (hc : 2 ≤ c ∧ c ≤ 11) : fC M (pm_ri M1 c R) := ⟨fun j hj => by rw [ri_ne (by omega), h.1 j hj], h.2.1, by rw [ri_ne (by omega), h.2.2]⟩
theorem fC_tp {B : Nat → Nat} {n : Nat} {M M' : pm_M} (h : fC M M') (ht : tpC B n M) : tpC B n M' := ⟨ht.1, fun k hk => by rw [h.1 14 (by omega)]; exact ht.2 k hk⟩
def tcT (M : pm_M) (g : RW) (P t : Nat) : Prop := M.1 3 t = g (11 + t) ∧ M.1 4 t = g (19 + t) ∧ M.1 5 t = g (27 + t) ∧ ((M.1 6 t = -1 ∧ g (50 + t) = g (11 + t)) ∨ ∃ p : Nat, p < P ∧ M.1 6 t = nI p ∧ g (50 + t) = nI (10 + p))
def tcP (M : pm_M) (g : RW) (p : Nat) : Prop := M.1 7 p = g (35 + p) ∧ M.1 8 p = g (66 + p) ∧ M.1 9 p = g (41 + p)
def TC (M : pm_M) (g : RW) (N T P : Nat) : Prop := M.1 2 0 = nI N ∧ M.1 2 1 = nI T ∧ M.1 2 2 = nI P ∧ M.1 2 3 = g 0 ∧ M.1 2 4 = g 4 ∧ (∀ t, t < T → tcT M g P t) ∧ ∀ p, p < P → tcP M g p
def LC1 (M : pm_M) (a law : Nat) (l : LWD) : Prop := match l with
  | none => M.1 10 (4 + 2 * law) = 0 ∧ M.1 10 (5 + 2 * law) = 0
  | some D => ∃ fr to : Nat, M.1 10 (4 + 2 * law) = nI fr ∧ M.1 10 (5 + 2 * law) = nI to ∧ to ≤ a ∧ mcC (M.1 11) fr to 33 D
def LC (M : pm_M) (a : Nat) (l0 l1 : LWD) : Prop := M.1 10 3 = nI a ∧ a ≤ 900 ∧ LC1 M a 0 l0 ∧ LC1 M a 1 l1
theorem TC_cells {M M' : pm_M} {g : RW} {N T P : Nat} (h : TC M g N T P) (hc : ∀ c, 2 ≤ c → c ≤ 9 → M'.1 c = M.1 c) : TC M' g N T P := by
  unfold TC tcT tcP at h ⊢
  rw [hc 2 (by omega) (by omega), hc 3 (by omega) (by omega), hc 4 (by omega) (by omega), hc 5 (by omega) (by omega), hc 6 (by omega) (by omega), hc 7 (by omega) (by omega), hc 8 (by omega) (by omega), hc 9 (by omega) (by omega)]
  exact h
theorem TC_g {M : pm_M} {g g' : RW} {N T P : Nat} (hT : T ≤ 8) (hP : P ≤ 6) (h : TC M g N T P) (hg : ∀ k, k < 78 → k ≠ 1 → k ≠ 2 → k ≠ 3 → g' k = g k) : TC M g' N T P := by
  obtain ⟨a1, a2, a3, a4, a5, a6, a7⟩ := h
  refine ⟨a1, a2, a3, by rw [hg 0 (by omega) (by omega) (by omega) (by omega), a4], by rw [hg 4 (by omega) (by omega) (by omega) (by omega), a5], fun t ht => ?_, fun p hp => ?_⟩
  · unfold tcT
    rw [hg (11 + t) (by omega) (by omega) (by omega) (by omega), hg (19 + t) (by omega) (by omega) (by omega) (by omega), hg (27 + t) (by omega) (by omega) (by omega) (by omega), hg (50 + t) (by omega) (by omega) (by omega) (by omega)]
    exact a6 t ht
  · unfold tcP
    rw [hg (35 + p) (by omega) (by omega) (by omega) (by omega), hg (66 + p) (by omega) (by omega) (by omega) (by omega), hg (41 + p) (by omega) (by omega) (by omega) (by omega)]
    exact a7 p hp
theorem LC_cells {M M' : pm_M} {a : Nat} {l0 l1 : LWD} (h : LC M a l0 l1) (h0 : M'.1 10 = M.1 10) (h1 : M'.1 11 = M.1 11) : LC M' a l0 l1 := by
  unfold LC LC1 at h ⊢
  rw [h0, h1]
  exact h
def sC (B : Nat → Nat) (n : Nat) (M0 M : pm_M) (x : PS) (g : RW) (N T P a : Nat) (l0 l1 : LWD) : Prop := fC M0 M ∧ tpC B n M ∧ CAt B n x (M.1 1) ∧ ∀ p, x = .inr p → M.1 1 10 = 0 ∧ TC M g N T P ∧ LC M a l0 l1
theorem sC_row {B : Nat → Nat} {n N T P a : Nat} {M0 M : pm_M} {x x' : PS} {g : RW} {l0 l1 : LWD} {R : Nat → Int32} (h : sC B n M0 M x g N T P a l0 l1) (hR : rdK (M.1 1) R) (hc : CAt B n x' R) (ha : ∀ p', x' = .inr p' → ∃ p, x = .inr p) : sC B n M0 (pm_ri M 1 R) x' g N T P a l0 l1 := by
  obtain ⟨h1, h2, h3, h4⟩ := h
  have f : fC M (pm_ri M 1 R) := ⟨fun c hc => by rw [ri_ne (by omega)], rfl, by rw [ri_eq]; exact hR 1 (by decide) (by decide) (by decide) (by decide) (by decide) (by decide)⟩
  refine ⟨fC_tr h1 f, fC_tp f h2, by rw [ri_eq]; exact hc, fun p' e => ?_⟩
  obtain ⟨p, ep⟩ := ha p' e
  obtain ⟨a1, a2, a3⟩ := h4 p ep
  exact ⟨by rw [ri_eq, hR 10 (by decide) (by decide) (by decide) (by decide) (by decide) (by decide), a1], TC_cells a2 (fun c c1 c2 => ri_ne (by omega)), LC_cells a3 (ri_ne (by omega)) (ri_ne (by omega))⟩
theorem sp_stS {d : Nat} {s : pm_S} {M0 M : pm_M} {B : Nat → Nat} {n N T P a : Nat} {x : PS} {g : RW} {l0 l1 : LWD} {Q : pm_S → pm_M → Prop} (hd : 4 ≤ d) (h : sC B n M0 M x g N T P a l0 l1)
    (hq : ∀ R, sC B n M0 (pm_ri M 1 R) (nxF B n x) g N T P a l0 l1 → Q s (pm_ri M 1 R)) : cV d yR_step [.ref 1] s M Q :=
  sp_stepX hd h.2.1 h.2.2.1 (fun R a1 a2 => hq R (sC_row h a2 a1 nx_al))
theorem ex_al2 {B : Nat → Nat} {n w : Nat} {x : PS} : ∀ p', exF B n w x = .inr p' → ∃ p, x = .inr p := fun p' e => nx_al p' (ex_al e).2
theorem nu_al2 {B : Nat → Nat} {n lo hi : Nat} {x : PS} : ∀ p', nuF B n lo hi x = .inr p' → ∃ p, x = .inr p := fun p' e => nx_al p' (nu_al e).2.2.2
theorem sp_exS {d : Nat} {s : pm_S} {M0 M : pm_M} {B : Nat → Nat} {n N T P a w : Nat} {x : PS} {g : RW} {l0 l1 : LWD} {Q : pm_S → pm_M → Prop} (hd : 5 ≤ d) (h : sC B n M0 M x g N T P a l0 l1) (hw : w < 256)
    (hq : ∀ R, sC B n M0 (pm_ri M 1 R) (exF B n w x) g N T P a l0 l1 → Q s (pm_ri M 1 R)) : cV d yR_expect [.ref 1, .int (nI w)] s M Q :=
  sp_expectX hd h.2.1 hw h.2.2.1 (fun R a1 a2 => hq R (sC_row h a2 a1 ex_al2))
theorem sp_faS {d : Nat} {s : pm_S} {M0 M : pm_M} {B : Nat → Nat} {n N T P a k : Nat} {x : PS} {g : RW} {l0 l1 : LWD} {Q : pm_S → pm_M → Prop} (hd : 1 ≤ d) (h : sC B n M0 M x g N T P a l0 l1) (h1 : 1 ≤ k) (h4 : k ≤ 4)
    (hq : ∀ M', (∀ g N T P a l0 l1, sC B n M0 M' (faF B n k x) g N T P a l0 l1) → Q s M') : cV d yR_fail [.ref 1, .int (nI k)] s M Q :=
  sp_failX hd h.2.1 h1 h4 h.2.2.1 (fun R a1 a2 => hq _ (fun g' N' T' P' a' l0' l1' => by
    obtain ⟨b1, b2, b3, _⟩ := sC_row h a2 a1 (fun p e => absurd e (fa_inl p))
    exact ⟨b1, b2, b3, fun p e => absurd e (fa_inl p)⟩))
theorem sp_nuS {d : Nat} {s : pm_S} {M0 M : pm_M} {B : Nat → Nat} {n N T P a lo hi : Nat} {x : PS} {g : RW} {l0 l1 : LWD} {Q : Int32 → pm_S → pm_M → Prop} (hd : 5 ≤ d) (h : sC B n M0 M x g N T P a l0 l1) (hl : lo < 1000) (hh : hi < 1000)
    (hq : ∀ R r, sC B n M0 (pm_ri M 1 R) (nuF B n lo hi x) g N T P a l0 l1 → (∀ p, nuF B n lo hi x = .inr p → r = nI (vaF B n x) ∧ lo ≤ vaF B n x ∧ vaF B n x ≤ hi) → Q r s (pm_ri M 1 R)) : cI d yR_readNumber [.ref 1, .int (nI lo), .int (nI hi)] s M Q :=
  sp_numX hd h.2.1 hl hh h.2.2.1 (fun R a1 a2 => hq R _ (sC_row h a2 a1 nu_al2) (fun p e => by
    obtain ⟨e1, e2, e3, e4⟩ := nu_al e
    exact ⟨by rw [if_pos ⟨e1, e2, e3⟩], e2, e3⟩))
/-- cells of the line told change, the reader stays -/
theorem sC_put {B : Nat → Nat} {n N T P N' T' P' a : Nat} {M0 M M' : pm_M} {x : PS} {g g' : RW} {l0 l1 : LWD} (h : sC B n M0 M x g N T P a l0 l1) (hf : fC M M') (h1 : M'.1 1 = M.1 1) (h10 : M'.1 10 = M.1 10) (h11 : M'.1 11 = M.1 11) (hT : (∃ p, x = .inr p) → TC M g N T P → TC M' g' N' T' P') : sC B n M0 M' x g' N' T' P' a l0 l1 := by
  obtain ⟨a1, a2, a3, a4⟩ := h
  refine ⟨fC_tr a1 hf, fC_tp hf a2, by rw [h1]; exact a3, fun p e => ?_⟩
  obtain ⟨b1, b2, b3⟩ := a4 p e
  exact ⟨by rw [h1]; exact b1, hT ⟨p, e⟩ b2, LC_cells b3 h10 h11⟩
theorem th_C {d : Nat} {s : pm_S} {M0 M : pm_M} {B : Nat → Nat} {n N T P a : Nat} {x : PS} {g : RW} {l0 l1 : LWD} {Q : pm_S → pm_M → Prop} (hd : 8 ≤ d) (hv : gV g N T P) (h : sC B n M0 M x g N T P a l0 l1) (hx : ∃ p, x = .inr p)
    (hq : ∀ M', sC B n M0 M' (thF B n N T x g).1 (thF B n N T x g).2 N (T + 1) P a l0 l1 → Q s M') : cV d yR_readThing [.ref 1] s M Q := by
  obtain ⟨d, rfl⟩ : ∃ e, d = e + 1 := ⟨d - 1, by omega⟩
  obtain ⟨p, ep⟩ := hx
  obtain ⟨-, hT, hL⟩ := h.2.2.2 p ep
  obtain ⟨⟨v1, v2, v3, v4, -⟩, -, -, -, v5, -, -⟩ := hv
  unfold thF at hq
  refine enR_readThing ?_
  rw [hT.2.1, lI 8, nI_ltP (by omega) (by omega)]
  refine br_c (fun c => ?_) (fun c => ?_)
  rotate_left
  · rw [if_pos (show T = 8 by omega)] at hq
    exact sp_faS (k := 4) (by omega) h (by omega) (by omega) (fun M' h' => hq M' (h' _ _ _ _ _ _ _))
  rw [if_neg (show ¬ T = 8 by omega)] at hq
  refine sp_stS (by omega) h (fun R1 s1 => sp_exS (w := 206) (by omega) s1 (by omega) (fun R2 s2 => ?_))
  rw [ri_ri] at s2 ⊢
  rw [ri_ne (by decide), hT.1, lI 1, pk_sub (by omega)]
  refine sp_nuS (lo := 0) (hi := N - 1) (by omega) s2 (by omega) (by omega) (fun R3 r s3 e3 => ?_)
  rw [ri_ri] at s3 ⊢
  obtain ⟨d, rfl⟩ : ∃ e, d = e + 1 := ⟨d - 1, by omega⟩
  refine enL_addThing (sp_min (by omega) ?_)
  have eT : (if (7 : Int32) < (pm_ri M 1 R3).1 2 1 then (7 : Int32) else (pm_ri M 1 R3).1 2 1) = nI T := by
    rw [ri_ne (by decide), hT.2.1, if_neg]
    rw [lI 7, nI_ltP (by omega) (by omega)]; omega
  rw [eT, nI_clamp (by omega), nI_1]
  refine ⟨vpI (by omega) (by omega), vpI (by omega) (by omega), vpI (by omega) (by omega), vpI (by omega) (by omega), ?_⟩
  have s4 : sC B n M0 (pm_si (pm_si (pm_si (pm_si (pm_si (pm_ri M 1 R3) 3 T r) 4 T 0) 5 T 0) 6 T (-1)) 2 1 (nI (T + 1))) (thS B n N T x g).1 (thS B n N T x g).2 N (T + 1) P a l0 l1 := by
    refine sC_put s3 (fC_si (fC_si (fC_si (fC_si (fC_si fC_rf (by omega)) (by omega)) (by omega)) (by omega)) (by omega)) ?_ ?_ ?_ (fun al t3 => ?_)
    · rw [si_ne (by decide), si_ne (by decide), si_ne (by decide), si_ne (by decide), si_ne (by decide)]
    · rw [si_ne (by decide), si_ne (by decide), si_ne (by decide), si_ne (by decide), si_ne (by decide)]
    · rw [si_ne (by decide), si_ne (by decide), si_ne (by decide), si_ne (by decide), si_ne (by decide)]
    · obtain ⟨p3, ep3⟩ := al
      obtain ⟨er, _, _⟩ := e3 p3 ep3
      generalize pm_ri M 1 R3 = Mb at t3
      obtain ⟨a1, a2, a3, a4, a5, a6, a7⟩ := t3
      have r2 : (pm_si (pm_si (pm_si (pm_si (pm_si Mb 3 T r) 4 T 0) 5 T 0) 6 T (-1)) 2 1 (nI (T + 1))).1 2 = pm_row (Mb.1 2) 1 (nI (T + 1)) := by rw [si_eq, si_ne (by decide), si_ne (by decide), si_ne (by decide), si_ne (by decide)]
      have r3 : (pm_si (pm_si (pm_si (pm_si (pm_si Mb 3 T r) 4 T 0) 5 T 0) 6 T (-1)) 2 1 (nI (T + 1))).1 3 = pm_row (Mb.1 3) T r := by rw [si_ne (by decide), si_ne (by decide), si_ne (by decide), si_ne (by decide), si_eq]
      have r4 : (pm_si (pm_si (pm_si (pm_si (pm_si Mb 3 T r) 4 T 0) 5 T 0) 6 T (-1)) 2 1 (nI (T + 1))).1 4 = pm_row (Mb.1 4) T 0 := by rw [si_ne (by decide), si_ne (by decide), si_ne (by decide), si_eq, si_ne (by decide)]
      have r5 : (pm_si (pm_si (pm_si (pm_si (pm_si Mb 3 T r) 4 T 0) 5 T 0) 6 T (-1)) 2 1 (nI (T + 1))).1 5 = pm_row (Mb.1 5) T 0 := by rw [si_ne (by decide), si_ne (by decide), si_eq, si_ne (by decide), si_ne (by decide)]
      have r6 : (pm_si (pm_si (pm_si (pm_si (pm_si Mb 3 T r) 4 T 0) 5 T 0) 6 T (-1)) 2 1 (nI (T + 1))).1 6 = pm_row (Mb.1 6) T (-1) := by rw [si_ne (by decide), si_eq, si_ne (by decide), si_ne (by decide), si_ne (by decide)]
      have r7 : ∀ c, 7 ≤ c → (pm_si (pm_si (pm_si (pm_si (pm_si Mb 3 T r) 4 T 0) 5 T 0) 6 T (-1)) 2 1 (nI (T + 1))).1 c = Mb.1 c := fun c hc => by rw [si_ne (by omega), si_ne (by omega), si_ne (by omega), si_ne (by omega), si_ne (by omega)]
      generalize pm_si (pm_si (pm_si (pm_si (pm_si Mb 3 T r) 4 T 0) 5 T 0) 6 T (-1)) 2 1 (nI (T + 1)) = Mc at r2 r3 r4 r5 r6 r7
      have eg : (thS B n N T x g).2 = pm_row (pm_row g (11 + T) (nI (vaF B n (exF B n 206 (nxF B n x))))) (50 + T) (nI (vaF B n (exF B n 206 (nxF B n x)))) := rfl
      have go : ∀ k, k ≠ 11 + T → k ≠ 50 + T → (thS B n N T x g).2 k = g k := fun k h1 h2 => by rw [eg, row_ne h2, row_ne h1]
      have g1 : (thS B n N T x g).2 (11 + T) = r := by rw [eg, row_ne (by omega), row_eq, er]
      have g2 : (thS B n N T x g).2 (50 + T) = r := by rw [eg, row_eq, er]
      clear eg
      generalize (thS B n N T x g).2 = g' at go g1 g2
      obtain ⟨z1, z2⟩ := v5 T (Nat.le_refl _) c
      refine ⟨by rw [r2, row_ne (by omega), a1], by rw [r2, row_eq], by rw [r2, row_ne (by omega), a3], by rw [r2, row_ne (by omega), a4, go 0 (by omega) (by omega)], by rw [r2, row_ne (by omega), a5, go 4 (by omega) (by omega)], fun t ht => ?_, fun q hq' => ?_⟩
      · unfold tcT
        rw [r3, r4, r5, r6]
        by_cases e : t = T
        · subst e
          rw [row_eq, row_eq, row_eq, row_eq, g1, g2, go (19 + t) (by omega) (by omega), go (27 + t) (by omega) (by omega), z1, z2]
          exact ⟨rfl, rfl, rfl, Or.inl ⟨rfl, rfl⟩⟩
        · rw [row_ne e, row_ne e, row_ne e, row_ne e, go (11 + t) (by omega) (by omega), go (19 + t) (by omega) (by omega), go (27 + t) (by omega) (by omega), go (50 + t) (by omega) (by omega)]
          exact a6 t (by omega)
      · unfold tcP
        rw [r7 7 (by omega), r7 8 (by omega), r7 9 (by omega), go (35 + q) (by omega) (by omega), go (66 + q) (by omega) (by omega), go (41 + q) (by omega) (by omega)]
        exact a7 q hq'
  generalize pm_si (pm_si (pm_si (pm_si (pm_si (pm_ri M 1 R3) 3 T r) 4 T 0) 5 T 0) 6 T (-1)) 2 1 (nI (T + 1)) = M4 at s4
  generalize thS B n N T x g = y at s4 hq
  -- hue, weight
  have loop : ∀ f i M (y : PS × RW), i + f = 900 → sC B n M0 M y.1 y.2 N (T + 1) P a l0 l1 → (∀ M', sC B n M0 M' (thL B n T f y).1 (thL B n T f y).2 N (T + 1) P a l0 l1 → Q s M') → wR_readThing (d + 1) 53 [.ref 1, .int (nI T), .int (nI i), .null] [] s M Q := by
    intro f
    induction f with
    | zero =>
      intro i M y hi hs hq
      obtain rfl : i = 900 := by omega
      exact sgR_readThing_53 (br_t (by decide) (hq M hs))
    | succ f ih =>
      intro i M y hi hs hq
      obtain ⟨e7, l7⟩ := CAt_k (fun k hk => (hs.2.1.2 k hk).2) hs.2.2.1
      have put : ∀ (o c : Nat) (R : Nat → Int32) (r : Int32) (x' : PS) (v : Nat), ((o = 19 ∧ c = 4) ∨ (o = 27 ∧ c = 5)) → sC B n M0 (pm_ri M 1 R) x' y.2 N (T + 1) P a l0 l1 → (∀ p, x' = .inr p → r = nI v) → sC B n M0 (pm_si (pm_ri M 1 R) c T r) x' (pm_row y.2 (o + T) (nI v)) N (T + 1) P a l0 l1 := by
        intro o c R r x' v ho hs' hr
        refine sC_put hs' (fC_si fC_rf (by omega)) (si_ne (by omega)) (si_ne (by omega)) (si_ne (by omega)) (fun al t3 => ?_)
        obtain ⟨p3, ep3⟩ := al
        have er := hr p3 ep3
        obtain ⟨a1, a2, a3, a4, a5, a6, a7⟩ := t3
        refine ⟨by rw [si_ne (by omega), a1], by rw [si_ne (by omega), a2], by rw [si_ne (by omega), a3], by rw [si_ne (by omega), a4, row_ne (by omega)], by rw [si_ne (by omega), a5, row_ne (by omega)], fun t ht => ?_, fun q hq' => ?_⟩
        · obtain ⟨b1, b2, b3, b4⟩ := a6 t ht
          unfold tcT
          rw [row_ne (j := 11 + t) (by omega), row_ne (j := 50 + t) (by omega), si_ne (c := 3) (by omega), si_ne (c := 6) (by omega)]
          rcases ho with ⟨rfl, rfl⟩ | ⟨rfl, rfl⟩
          · rw [si_eq, si_ne (by omega), row_ne (j := 27 + t) (by omega)]
            refine ⟨b1, ?_, b3, b4⟩
            by_cases e : t = T
            · subst e; rw [row_eq, row_eq, er]
            · rw [row_ne e, row_ne (by omega), b2]
          · rw [si_eq, si_ne (by omega), row_ne (j := 19 + t) (by omega)]
            refine ⟨b1, b2, ?_, b4⟩
            by_cases e : t = T
            · subst e; rw [row_eq, row_eq, er]
            · rw [row_ne e, row_ne (by omega), b3]
        · unfold tcP
          rw [si_ne (by omega), si_ne (by omega), si_ne (by omega), row_ne (by omega), row_ne (by omega), row_ne (by omega)]
          exact a7 q hq'
      unfold thL at hq
      refine sgR_readThing_53 (br_f (by rw [lI 900, nI_leP (by omega) (by omega)]; omega) ?_)
      rw [e7]
      simp only [lI 207, lI 208, nI_inj (a := kiF B n y.1) (b := 207) (by omega) (by omega), nI_inj (a := kiF B n y.1) (b := 208) (by omega) (by omega)]
      refine br_c (fun z => ?_) (fun z => br_c (fun z2 => ?_) (fun z2 => ?_))
      · rw [if_pos z]
        rw [if_pos z] at hq
        refine sgR_readThing_95 (sp_stS (by omega) hs (fun R1 s1 => br_f (by decide) (sp_nuS (lo := 0) (hi := 9) (by omega) s1 (by omega) (by omega) (fun R2 r s2 e2 => ⟨vpI (by omega) (by omega), ?_⟩))))
        rw [ri_ri] at s2 ⊢
        rw [nI_clamp (by omega), nI_1]
        exact ih (i + 1) _ _ (by omega) (put 19 4 R2 r _ _ (Or.inl ⟨rfl, rfl⟩) s2 (fun p e => (e2 p e).1)) hq
      · rw [if_neg z]
        rw [if_neg z, if_pos z2] at hq
        refine sgR_readThing_95 (sp_stS (by omega) hs (fun R1 s1 => br_t rfl (sp_nuS (lo := 0) (hi := 9) (by omega) s1 (by omega) (by omega) (fun R2 r s2 e2 => ⟨vpI (by omega) (by omega), ?_⟩))))
        rw [ri_ri] at s2 ⊢
        rw [nI_clamp (by omega), nI_1]
        exact ih (i + 1) _ _ (by omega) (put 27 5 R2 r _ _ (Or.inr ⟨rfl, rfl⟩) s2 (fun p e => (e2 p e).1)) hq
      · rw [if_neg z, if_neg z2] at hq
        exact hq M hs
  refine loop 900 0 M4 y (by omega) s4 (fun M' s5 => hq M' ?_)
  obtain ⟨b1, b2, b3, b4⟩ := s5
  refine ⟨b1, b2, b3, fun p e => ?_⟩
  obtain ⟨c1, c2, c3⟩ := b4 p e
  exact ⟨c1, TC_g (by omega) v4 c2 (fun k _ _ k2 _ => row_ne k2), c3⟩
