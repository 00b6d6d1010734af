/-! lines, the reference -/
def fM (M M' : pm_M) : Prop := (∀ c, c ≠ 159 → c ≠ 163 → M'.1 c = M.1 c) ∧ M'.2 = M.2 ∧ ∀ k, k ≠ 6 → k ≠ 7 → k ≠ 9 → k ≠ 10 → k ≠ 11 → k ≠ 12 → k ≠ 15 → M'.1 159 k = M.1 159 k
theorem fM_rf {M : pm_M} : fM M M := ⟨fun _ _ _ => rfl, rfl, fun _ _ _ _ _ _ _ _ => rfl⟩
theorem fM_tr {M M1 M2 : pm_M} (h : fM M M1) (k : fM M1 M2) : fM M M2 := ⟨fun c h1 h2 => by rw [k.1 c h1 h2, h.1 c h1 h2], by rw [k.2.1, h.2.1], fun j a b c d e f g => by rw [k.2.2 j a b c d e f g, h.2.2 j a b c d e f g]⟩
theorem fM_si {M M1 : pm_M} {k : Nat} {v : Int32} (h : fM M M1) : fM M (pm_si M1 163 k v) := ⟨fun j h1 h2 => by rw [si_ne h2, h.1 j h1 h2], h.2.1, fun j a b c d e f g => by rw [si_ne (by decide), h.2.2 j a b c d e f g]⟩
theorem fM_ri {M M1 : pm_M} {R : Nat → Int32} (h : fM M M1) : fM M (pm_ri M1 163 R) := ⟨fun j h1 h2 => by rw [ri_ne h2, h.1 j h1 h2], h.2.1, fun j a b c d e f g => by rw [ri_ne (by decide), h.2.2 j a b c d e f g]⟩
theorem fM_md {M M1 : pm_M} {R : Nat → Int32} (h : fM M M1) (hR : mdK (M1.1 159) R) : fM M (pm_ri M1 159 R) := ⟨fun j h1 h2 => by rw [ri_ne h1, h.1 j h1 h2], h.2.1, fun j a b c d e f g => by rw [ri_eq, hR j a b c d e f, h.2.2 j a b c d e f g]⟩
theorem fM_tp {B : Nat → Nat} {n : Nat} {M M' : pm_M} (h : fM M M') (ht : tpM B n M) : tpM B n M' := ⟨ht.1, fun k hk => by rw [h.1 162 (by decide) (by decide)]; exact ht.2 k hk⟩
def LM1 (M : pm_M) (a law : Nat) (l : LWD) : Prop := match l with
  | none => M.1 163 (5 + law) = 0 ∧ M.1 163 (7 + law) = 0 ∧ M.1 163 (9 + law) = 0
  | some D => ∃ fr m : Nat, M.1 163 (5 + law) = 1 ∧ M.1 163 (7 + law) = nI fr ∧ M.1 163 (9 + law) = nI m ∧ fr + m ≤ a ∧ gdM (decide (law = 1)) M fr (fr + m) D
def TM (M : pm_M) (g : RW) (a : Nat) (l0 l1 : LWD) : Prop := (∀ k, k ≤ 78 → (k < 5 ∨ 10 < k) → M.1 163 k = g k) ∧ M.1 163 389 = nI a ∧ a ≤ 900 ∧ LM1 M a 0 l0 ∧ LM1 M a 1 l1
theorem LM1_row {M M' : pm_M} {a law : Nat} {l : LWD} (h : LM1 M a law l) (hl : law < 2) (h1 : ∀ k, (5 ≤ k ∧ k ≤ 10) ∨ 390 ≤ k → M'.1 163 k = M.1 163 k) : LM1 M' a law l := by
  cases l with
  | none =>
    obtain ⟨a1, a2, a3⟩ := h
    exact ⟨by rw [h1 _ (by omega), a1], by rw [h1 _ (by omega), a2], by rw [h1 _ (by omega), a3]⟩
  | some D =>
    obtain ⟨fr, m, a1, a2, a3, a4, a5⟩ := h
    exact ⟨fr, m, by rw [h1 _ (by omega), a1], by rw [h1 _ (by omega), a2], by rw [h1 _ (by omega), a3], a4, gdM_congr a5 (fun k _ => h1 _ (by omega))⟩
def sM (B : Nat → Nat) (n : Nat) (M0 M : pm_M) (x : PS) (g : RW) (a : Nat) (l0 l1 : LWD) : Prop := fM M0 M ∧ tpM B n M ∧ MAt B n x (M.1 159) ∧ ∀ p, x = .inr p → TM M g a l0 l1
theorem TM_cell {M M' : pm_M} {g : RW} {a : Nat} {l0 l1 : LWD} (h : TM M g a l0 l1) (he : M'.1 163 = M.1 163) : TM M' g a l0 l1 := by
  obtain ⟨a1, a2, a3, a4, a5⟩ := h
  exact ⟨fun k h1 h2 => by rw [he]; exact a1 k h1 h2, by rw [he]; exact a2, a3, LM1_row a4 (by omega) (fun k _ => by rw [he]), LM1_row a5 (by omega) (fun k _ => by rw [he])⟩
/-- numbers of the row change -/
theorem TM_put {M M' : pm_M} {g g' : RW} {a : Nat} {l0 l1 : LWD} (h : TM M g a l0 l1) (h1 : ∀ k, (5 ≤ k ∧ k ≤ 10) ∨ 389 ≤ k → M'.1 163 k = M.1 163 k) (h2 : ∀ k, k ≤ 78 → (k < 5 ∨ 10 < k) → M.1 163 k = g k → M'.1 163 k = g' k) : TM M' g' a l0 l1 := by
  obtain ⟨a1, a2, a3, a4, a5⟩ := h
  exact ⟨fun k x1 x2 => h2 k x1 x2 (a1 k x1 x2), by rw [h1 389 (by omega)]; exact a2, a3, LM1_row a4 (by omega) (fun k _ => h1 k (by omega)), LM1_row a5 (by omega) (fun k _ => h1 k (by omega))⟩
theorem TM_row {M : pm_M} {g : RW} {a k : Nat} {v w : Int32} {l0 l1 : LWD} (h : TM M g a l0 l1) (hk : k ≤ 78 ∧ (k < 5 ∨ 10 < k)) (hv : v = w) : TM (pm_si M 163 k v) (pm_row g k w) a l0 l1 := by
  subst hv
  refine TM_put h (fun j hj => by rw [si_eq, row_ne (by omega)]) (fun j h1 h2 h3 => ?_)
  rw [si_eq]
  by_cases e : j = k
  · subst e; rw [row_eq, row_eq]
  · rw [row_ne e, row_ne e, h3]
theorem sM_row {B : Nat → Nat} {n a : Nat} {M0 M : pm_M} {x x' : PS} {g : RW} {l0 l1 : LWD} {R : Nat → Int32} (h : sM B n M0 M x g a l0 l1) (hR : mdK (M.1 159) R) (hc : MAt B n x' R) (ha : ∀ p', x' = .inr p' → ∃ p, x = .inr p) : sM B n M0 (pm_ri M 159 R) x' g a l0 l1 := by
  obtain ⟨h1, h2, h3, h4⟩ := h
  refine ⟨fM_md h1 hR, fM_tp (fM_md fM_rf hR) h2, by rw [ri_eq]; exact hc, fun p' e => ?_⟩
  obtain ⟨p, ep⟩ := ha p' e
  exact TM_cell (h4 p ep) (ri_ne (by decide))
theorem sM_put {B : Nat → Nat} {n a a' : Nat} {M0 M M' : pm_M} {x : PS} {g g' : RW} {l0 l1 l0' l1' : LWD} (h : sM B n M0 M x g a l0 l1) (hf : fM M M') (h1 : M'.1 159 = M.1 159) (hT : (∃ p, x = .inr p) → TM M g a l0 l1 → TM M' g' a' l0' l1') : sM B n M0 M' x g' a' l0' l1' := by
  obtain ⟨a1, a2, a3, a4⟩ := h
  exact ⟨fM_tr a1 hf, fM_tp hf a2, by rw [h1]; exact a3, fun p e => hT ⟨p, e⟩ (a4 p e)⟩
theorem sM_dead {B : Nat → Nat} {n a a' : Nat} {M0 M : pm_M} {x : PS} {g g' : RW} {l0 l1 l0' l1' : LWD} (h : sM B n M0 M x g a l0 l1) (hx : ∀ p, x ≠ .inr p) : sM B n M0 M x g' a' l0' l1' := ⟨h.1, h.2.1, h.2.2.1, fun p e => absurd e (hx p)⟩
theorem sp_nxR {d : Nat} {s : pm_S} {M0 M : pm_M} {B : Nat → Nat} {n a : Nat} {x : PS} {g : RW} {l0 l1 : LWD} {Q : pm_S → pm_M → Prop} (hd : 3 ≤ d) (h : sM B n M0 M x g a l0 l1) (hx : ∃ p, x = .inr p)
    (hq : ∀ R, sM B n M0 (pm_ri M 159 R) (nxF B n x) g a l0 l1 → Q s (pm_ri M 159 R)) : cV d yM_next [.ref 159] s M Q := by
  obtain ⟨p, ep⟩ := hx
  subst ep
  exact sp_nextX hd h.2.1 h.2.2.1 (fun R a1 a2 => hq R (sM_row h a2 a1 nx_al))
theorem sp_faR {d : Nat} {s : pm_S} {M0 M : pm_M} {B : Nat → Nat} {n a k : Nat} {x : PS} {g : RW} {l0 l1 : LWD} {Q : pm_S → pm_M → Prop} (hd : 1 ≤ d) (h : sM B n M0 M x g a l0 l1) (h1 : 1 ≤ k) (h4 : k ≤ 4)
    (hq : ∀ R, sM B n M0 (pm_ri M 159 R) (faF B n k x) g a l0 l1 → R 11 ≠ 0 → Q s (pm_ri M 159 R)) : cV d yM_fails [.ref 159, .int (nI k)] s M Q :=
  sp_failsX hd h.2.1 h1 h4 h.2.2.1 (fun R a1 a2 _ a4 => hq R (sM_row h a2 a1 (fun p e => absurd e (fa_inl p))) a4)
theorem sp_efR {d : Nat} {s : pm_S} {M0 M : pm_M} {B : Nat → Nat} {n a w m : Nat} {x : PS} {g : RW} {l0 l1 : LWD} {K : pm_S → pm_M → Prop} (hd : 4 ≤ d) (h : sM B n M0 M x g a l0 l1) (hw : w ∈ kdL) (h131 : w ≠ 131) (hm : rkK w = m)
    (hq : ∀ R, sM B n M0 (pm_ri M 159 R) (exF B n w x) g a l0 l1 → K s (pm_ri M 159 R)) : cI d yM_eats [.ref 159, .int (nI m)] s M (fun r s1 M1 => (r = 0 → cV d yM_fails [.ref 159, .int 2] s1 M1 K) ∧ (¬ (r = 0) → K s1 M1)) := by
  unfold exF at hq
  refine sp_eatsX hd h.2.1 hw h131 hm h.2.2.1 (fun e R a1 a2 => br_f (by decide) ?_) (fun e => br_t rfl ?_)
  · simp only [if_pos e] at hq
    exact hq R (sM_row h a2 a1 nx_al)
  · simp only [if_neg e] at hq
    exact sp_faR (k := 2) (by omega) h (by omega) (by omega) (fun R h1 _ => hq R h1)
theorem ok_nat {lo hi v : Nat} (hl : lo < 1000) (hh : hi < 1000) (hv : v < 1000) : ((nI lo).toInt64 ≤ (nI v).toInt64 ∧ (nI v).toInt64 ≤ (nI hi).toInt64) ↔ decide (lo ≤ v ∧ v ≤ hi) = true := by
  rw [le64, le64, nI_leP (by omega) (by omega), nI_leP (by omega) (by omega), decide_eq_true_eq]
theorem sp_taR {d : Nat} {s : pm_S} {M0 M : pm_M} {B : Nat → Nat} {n a lo hi : Nat} {x : PS} {g : RW} {l0 l1 : LWD} {Q : Int32 → pm_S → pm_M → Prop} (hd : 4 ≤ d) (h : sM B n M0 M x g a l0 l1) (hl : lo < 1000) (hh : hi < 1000)
    (hq : ∀ R r, sM B n M0 (pm_ri M 159 R) (nuF B n lo hi x) g a l0 l1 → (∀ p, nuF B n lo hi x = .inr p → r = nI (vaF B n x) ∧ lo ≤ vaF B n x ∧ vaF B n x ≤ hi) → (¬ (kiF B n x = 128 ∧ lo ≤ vaF B n x ∧ vaF B n x ≤ hi) → R 11 ≠ 0) → Q r s (pm_ri M 159 R)) : cI d yM_takesN [.ref 159, .int (nI lo), .int (nI hi)] s M Q := by
  refine sp_takesX (ok := fun v => decide (lo ≤ v ∧ v ≤ hi)) hd h.2.1 (fun v hv => ok_nat hl hh hv) h.2.2.1 (fun r R a1 a2 a3 a4 => ?_)
  rw [← nuF_G] at a1
  refine hq R r (sM_row h a2 a1 nu_al2) (fun p e => ?_) (fun hn => a4 (fun hh => hn ⟨hh.1, by have := hh.2; rw [decide_eq_true_eq] at this; exact this⟩))
  obtain ⟨e1, e2, e3, e4⟩ := nu_al e
  exact ⟨a3 e1, e2, e3⟩
theorem thL_st {B : Nat → Nat} {n t f : Nat} {y : PS × RW} (h1 : kiF B n y.1 ≠ 207) (h2 : kiF B n y.1 ≠ 208) : thL B n t f y = y := by
  cases f with
  | zero => rfl
  | succ f =>
    unfold thL
    rw [if_neg h1, if_neg h2]
theorem ki_end {B : Nat → Nat} {n p : Nat} (h : n ≤ p) (hp : p ≤ n) : kiF B n (.inr p) = 129 := by
  obtain rfl : p = n := by omega
  exact tk_end
theorem th_M {d : Nat} {s : pm_S} {M0 M : pm_M} {B : Nat → Nat} {n N T P a : Nat} {x : PS} {g : RW} {l0 l1 : LWD} {Q : pm_S → pm_M → Prop} (hd : 8 ≤ d) (hv : gV g N T P) (g1 : g 1 = nI N) (g2 : g 2 = nI T) (h : sM B n M0 M x g a l0 l1) (hx : ∃ p, x = .inr p)
    (hq : ∀ M', sM B n M0 M' (thF B n N T x g).1 (thF B n N T x g).2 a l0 l1 → Q s M') : cV d yM_readThing [.ref 159] s M Q := by
  obtain ⟨d, rfl⟩ : ∃ e, d = e + 1 := ⟨d - 1, by omega⟩
  obtain ⟨p, ep⟩ := hx
  have hT := h.2.2.2 p ep
  obtain ⟨⟨v1, v2, v3, v4, -⟩, -⟩ := hv
  have m1 : M.1 163 1 = nI N := by rw [hT.1 1 (by omega) (by omega), g1]
  have m2 : M.1 163 2 = nI T := by rw [hT.1 2 (by omega) (by omega), g2]
  have m11 : M.1 159 11 = 0 := by have := h.2.2.1; rw [ep] at this; exact MAt_0 this
  unfold thF at hq
  refine enM_readThing ?_
  rw [m2, lI 8, nI_inj (by omega) (by omega)]
  refine br_c (fun c => ?_) (fun c => ?_)
  · rw [if_pos c] at hq
    refine sp_faR (k := 4) (by omega) h (by omega) (by omega) (fun R h1 h2 => sgM_readThing_18 (br_f (by rw [ri_eq]; exact h2) (hq _ h1)))
  rw [if_neg c] at hq
  refine sgM_readThing_18 (br_t m11 (sp_nxR (by omega) h ⟨p, ep⟩ (fun R1 s1 => ?_)))
  refine sp_efR (w := 206) (m := 2) (K := fun s3 M3 => wM_readThing d 43 [.ref 159, .int (nI T), .null] [] s3 M3 Q) (by omega) s1 (by decide) (by decide) (by decide) (fun R2 s2 => ?_)
  rw [ri_ri] at s2 ⊢
  refine sgM_readThing_43 ?_
  rw [ri_ne (by decide), m1, lI 1, pk_sub (by omega)]
  refine sp_taR (lo := 0) (hi := N - 1) (by omega) s2 (by omega) (by omega) (fun R3 r s3 e3 _ => ?_)
  rw [ri_ri] at s3 ⊢
  rw [lI 11, lI 50, nI_add, nI_add, nI_clamp (by omega), nI_clamp (by omega), si_eq, row_eq]
  refine ⟨vpI (by omega) (by omega), vpI (by omega) (by omega), vpI (by omega) (by omega), ?_⟩
  have s4 : sM B n M0 (pm_si (pm_si (pm_ri M 159 R3) 163 (11 + T) r) 163 (50 + T) r) (thS B n N T x g).1 (thS B n N T x g).2 a l0 l1 := by
    refine sM_put s3 (fM_si (fM_si fM_rf)) (by rw [si_ne (by decide), si_ne (by decide)]) (fun al t => ?_)
    obtain ⟨p3, ep3⟩ := al
    obtain ⟨er, _, _⟩ := e3 p3 ep3
    exact TM_row (TM_row t (by omega) er) (by omega) er
  have y2 : (thS B n N T x g).2 2 = nI T := by
    show pm_row (pm_row g (11 + T) (nI (vaF B n (exF B n 206 (nxF B n x))))) (50 + T) (nI (vaF B n (exF B n 206 (nxF B n x)))) 2 = _
    rw [row_ne (by omega), row_ne (by omega), g2]
  have n9 : n ≤ 900 := h.2.1.1
  generalize pm_si (pm_si (pm_ri M 159 R3) 163 (11 + T) r) 163 (50 + T) r = M4 at s4
  generalize thS B n N T x g = y at s4 hq y2
  have loop : ∀ f M (y : PS × RW), (∀ p, y.1 = .inr p → n ≤ p + f) → y.2 2 = nI T → sM B n M0 M y.1 y.2 a l0 l1 → (∀ M', sM B n M0 M' (thL B n T f y).1 (pm_row (thL B n T f y).2 2 (nI (T + 1))) a l0 l1 → Q s M') → wM_readThing d 83 [.ref 159, .int (nI T), .null] [] s M Q := by
    intro f
    induction f with
    | zero =>
      intro M y hf y2 hs hq
      have k1 : kiF B n y.1 ≠ 207 ∧ kiF B n y.1 ≠ 208 := by
        rcases al_or (x := y.1) with ⟨p, e⟩ | hd
        · rw [e, ki_end (by have := hf p e; omega) (MAt_n hs.2.2.1 p e)]
          exact ⟨by decide, by decide⟩
        · cases e : y.1 with
          | inl f => exact ⟨by show 131 ≠ 207; decide, by show 131 ≠ 208; decide⟩
          | inr p => exact absurd e (hd p)
      have out : M.1 159 11 = 0 → Q s (pm_si M 163 2 ((M.1 163 2) + 1)) := fun _ => by
        refine hq _ (sM_put hs (fM_si fM_rf) (si_ne (by decide)) (fun al t => TM_row t (by omega) ?_))
        rw [t.1 2 (by omega) (by omega), y2, nI_1]
      have out2 : M.1 159 11 ≠ 0 → Q s M := fun z => hq _ (sM_dead hs (fun p e => z (by have e' : y.1 = .inr p := e; have := hs.2.2.1; rw [e'] at this; exact MAt_0 this)))
      refine sgM_readThing_83 (br_c (fun z => sp_isX (w := 207) (m := 3) (by omega) hs.2.1 (by decide) (by decide) (by decide) hs.2.2.1 (fun e => absurd e k1.1) (fun _ => br_t rfl (sp_isX (w := 208) (m := 4) (by omega) hs.2.1 (by decide) (by decide) (by decide) hs.2.2.1 (fun e => absurd e k1.2) (fun _ => br_t rfl (br_t z (out z)))))) (fun z => br_f z (out2 z)))
    | succ f ih =>
      intro M y hf y2 hs hq
      have out : kiF B n y.1 ≠ 207 → kiF B n y.1 ≠ 208 → M.1 159 11 = 0 → Q s (pm_si M 163 2 ((M.1 163 2) + 1)) := fun k1 k2 _ => by
        rw [thL_st k1 k2] at hq
        refine hq _ (sM_put hs (fM_si fM_rf) (si_ne (by decide)) (fun al t => TM_row t (by omega) ?_))
        rw [t.1 2 (by omega) (by omega), y2, nI_1]
      have out2 : M.1 159 11 ≠ 0 → Q s M := fun z => by
        have hdd : ∀ p, y.1 ≠ .inr p := fun p e => z (by have := hs.2.2.1; rw [e] at this; exact MAt_0 this)
        rw [thL_dead hdd] at hq
        exact hq _ (sM_dead hs hdd)
      have go : ∀ (o : Nat) (w : Nat), (o = 19 ∧ w = 207) ∨ (o = 27 ∧ w = 208) → kiF B n y.1 = w → (∀ M', sM B n M0 M' (thL B n T f (nuF B n 0 9 (nxF B n y.1), pm_row y.2 (o + T) (nI (vaF B n (nxF B n y.1))))).1 (pm_row (thL B n T f (nuF B n 0 9 (nxF B n y.1), pm_row y.2 (o + T) (nI (vaF B n (nxF B n y.1))))).2 2 (nI (T + 1))) a l0 l1 → Q s M') → wM_readThing d 106 [.ref 159, .int (nI T), .null] [] s M Q := by
        intro o w how hw hq'
        have hal : ∃ p, y.1 = .inr p := ki_al (B := B) (n := n) (by omega)
        have nxt : ∀ r1 : Int32, ((if r1 = 0 then 27 else 19 : Int32) = nI o) → cV d yM_next [.ref 159] s M (fun s2 M2 => cI d yM_takesN [.ref 159, .int 0, .int 9] s2 M2 (fun r2 s3 M3 => vp_in (((if r1 = 0 then 27 else 19) : Int32) + nI T) 1290 ∧ wM_readThing d 83 [.ref 159, .int (nI T), .null] [] s3 (pm_si M3 163 (((if r1 = 0 then 27 else 19) : Int32) + nI T).toNatClampNeg r2) Q)) := by
          intro r1 hr1
          rw [hr1, nI_add, nI_clamp (by omega)]
          refine sp_nxR (by omega) hs hal (fun R1 s1 => sp_taR (lo := 0) (hi := 9) (by omega) s1 (by omega) (by omega) (fun R2 r s2 e2 _ => ⟨vpI (by omega) (by omega), ?_⟩))
          rw [ri_ri] at s2 ⊢
          refine ih _ (nuF B n 0 9 (nxF B n y.1), pm_row y.2 (o + T) (nI (vaF B n (nxF B n y.1)))) (fun q eq => ?_) ?_ ?_ hq'
          · obtain ⟨q1, e1⟩ := hal
            have gd : gdX n y.1 := fun r e => MAt_n hs.2.2.1 r e
            have hB : ∀ k, k < n → B k < 256 := fun k hk => (hs.2.1.2 k hk).2
            have eq' : nuF B n 0 9 (nxF B n y.1) = .inr q := eq
            obtain ⟨q0, e0⟩ := nx_al q (nu_al eq').2.2.2
            obtain ⟨q3, e3, l3⟩ := nx_adv hB gd (by omega) q0 e0
            obtain ⟨q4, e4, l4⟩ := (leX_nx hB (gd_nx hB gd)).2 q (nu_al eq').2.2.2
            rw [e1] at e3; cases e3
            rw [e0] at e4; cases e4
            have := hf q1 e1
            omega
          · show pm_row y.2 (o + T) (nI (vaF B n (nxF B n y.1))) 2 = _
            rw [row_ne (by omega), y2]
          · exact sM_put s2 (fM_si fM_rf) (si_ne (by decide)) (fun al t => by
              obtain ⟨p3, ep3⟩ := al
              exact TM_row t (by omega) (e2 p3 ep3).1)
        refine sgM_readThing_106 (sp_isX (w := 207) (m := 3) (by omega) hs.2.1 (by decide) (by decide) (by decide) hs.2.2.1 (fun e => nxt 1 ?_) (fun e => nxt 0 ?_))
        · rw [if_neg (by decide)]
          rcases how with ⟨h1, h2⟩ | ⟨h1, h2⟩
          · rw [h1]; rfl
          · omega
        · rw [if_pos rfl]
          rcases how with ⟨h1, h2⟩ | ⟨h1, h2⟩
          · omega
          · rw [h1]; rfl
      refine sgM_readThing_83 (br_c (fun z => sp_isX (w := 207) (m := 3) (by omega) hs.2.1 (by decide) (by decide) (by decide) hs.2.2.1 (fun e => br_f (by decide) ?_) (fun k1 => br_t rfl (sp_isX (w := 208) (m := 4) (by omega) hs.2.1 (by decide) (by decide) (by decide) hs.2.2.1 (fun e => br_f (by decide) ?_) (fun k2 => br_t rfl (br_t z (out k1 k2 z)))))) (fun z => br_f z (out2 z)))
      · unfold thL at hq
        rw [if_pos e] at hq
        exact go 19 207 (Or.inl ⟨rfl, rfl⟩) e hq
      · unfold thL at hq
        rw [if_neg k1, if_pos e] at hq
        exact go 27 208 (Or.inr ⟨rfl, rfl⟩) e hq
  exact loop 900 M4 y (fun _ _ => by omega) y2 s4 hq
