def gvB (c : Nat → Nat → Int32) (T P p S t : Nat) : Bool := decide (0 < cmF c p t S) && decide (cmF c p t S + smF c T (P - (p + 1)) (p + 1) (S ||| 2 ^ t) = smF c T (P - p) p S)
def gvT (c : Nat → Nat → Int32) (T P p S : Nat) : Option Nat := fst (gvB c T P p S) T
def orO (S : Nat) (r : Option Nat) : Nat := match r with
  | none => S
  | some t => S ||| 2 ^ t
def gvS (c : Nat → Nat → Int32) (T P p S : Nat) : Nat := orO S (gvT c T P p S)
def gvF (c : Nat → Nat → Int32) (T P n : Nat) : Nat := itr (gvS c T P) n 0
theorem gvT_lt {c : Nat → Nat → Int32} {T P p S t : Nat} (h : gvT c T P p S = some t) : t < T := by
  rcases fst_cases (gvB c T P p S) T with ⟨h1, _⟩ | ⟨i, h1, h2, _⟩
  · unfold gvT at h; rw [h1] at h; cases h
  · unfold gvT at h; rw [h1] at h; cases h; exact h2
theorem gvF_lt {c : Nat → Nat → Int32} {T P n : Nat} : gvF c T P n < 2 ^ T := by
  refine itr_inv (I := fun _ S => S < 2 ^ T) (Nat.two_pow_pos T) (fun i S _ h => ?_)
  unfold gvS orO
  cases e : gvT c T P i S with
  | none => exact h
  | some t => exact or_lt h (gvT_lt e)
theorem sw_gv {c : Nat → Nat → Int32} {T P p S t : Nat} : (swF c (smF c T (P - (p + 1)) (p + 1)) p t S = smF c T (P - p) p S) = (gvB c T P p S t = true) := by
  unfold swF gvB
  have := sm_pos (c := c) (T := T) (P - p) p S
  by_cases z : 0 < cmF c p t S
  · simp [z]
  · rw [if_neg z]
    simp only [z, decide_false, Bool.false_and, Bool.false_eq_true, eq_iff_iff, iff_false]
    intro q
    rw [← q] at this
    exact absurd this (by decide)
theorem sp_givenTo {d : Nat} {s : pm_S} {M : pm_M} {g : Nat → Int32} {T P w : Nat} {Q : Int32 → pm_S → pm_M → Prop} (hd : 3 ≤ d) (e1 : M.1 15 1 = nI T) (e2 : M.1 15 2 = nI P) (hK : KR M g T P) (h8 : T ≤ 8) (h6 : P ≤ 6) (hw : w < P) (hM : HT M (clF g) T P 0) (hq : Q (oI (gvT (clF g) T P w (gvF (clF g) T P w))) s M) : cI d yH_givenTo [.ref 52, .int (nI w), .ref 15, .ref 41] s M Q := by
  obtain ⟨d, rfl⟩ : ∃ e, d = e + 1 := ⟨d - 1, by omega⟩
  have h256 := pow_le8 h8
  refine enH_givenTo ?_
  refine loop_up (L := fun i M1 => ∀ l5, (i = w + 1 → l5 = oI (gvT (clF g) T P w (gvF (clF g) T P w))) → wH_givenTo d 9 [.ref 52, .int (nI w), .ref 15, .ref 41, .int (nI (gvF (clF g) T P i)), .int l5, .int (nI i), .null] [] s M1 Q) (I := fun i M1 => M1 = M) (e := w + 1) ?_ ?_ M rfl (-1) (fun h => by omega)
  · intro M1 e l5 h5
    subst e
    rw [h5 rfl]
    exact sgH_givenTo_9 (br_t (by rw [nI_ltP (by omega) (by omega)]; omega) hq)
  · intro p M1 hp e hk l5 h5
    subst e
    have hS : gvF (clF g) T P p < 2 ^ T := gvF_lt
    have eF : gvF (clF g) T P (p + 1) = orO (gvF (clF g) T P p) (gvT (clF g) T P p (gvF (clF g) T P p)) := rfl
    have hk' := hk M1 rfl
    refine sgH_givenTo_9 (br_f (by rw [nI_ltP (by omega) (by omega)]; omega) (br_f (by rw [e2, nI_leP (by omega) (by omega)]; omega) ?_))
    have h5w : p + 1 = w + 1 → oI (gvT (clF g) T P p (gvF (clF g) T P p)) = oI (gvT (clF g) T P w (gvF (clF g) T P w)) := by
      intro e
      have : p = w := by omega
      rw [this]
    rw [eF] at hk'
    generalize gvF (clF g) T P p = S at hS hk' h5w ⊢
    have kk := hk' _ h5w
    refine loop_fst (L := fun i => wH_givenTo d 30 [.ref 52, .int (nI w), .ref 15, .ref 41, .int (nI S), .int (-1), .int (nI p), .int (nI i)] [] s M1 Q) (P := gvB (clF g) T P p S) (e := T) (K := fun r => (∀ t, r = some t → t < T) → wH_givenTo d 9 [.ref 52, .int (nI w), .ref 15, .ref 41, .int (nI (orO S r)), .int (oI r), .int (nI (p + 1)), .null] [] s M1 Q) (fun _ => kk) ?_ ?_
    · intro hn
      refine sgH_givenTo_30 (br_t (by rw [e1, nI_leP (by omega) (by omega)]; exact Nat.le_refl _) (fun v ev => ?_))
      rw [if_pos rfl, or_zero] at ev
      rw [ev, nI_1]
      exact hn (fun t h => by cases h)
    · intro t ht k1 k2
      refine sgH_givenTo_30 (br_f (by rw [e1, nI_leP (by omega) (by omega)]; omega) (br_t rfl (sp_sumWith (by omega) hK h8 h6 (by omega) ht hS (fun p' S' z1 z2 z3 => hM p' S' (by omega) z2 z3) ?_)))
      rw [lI 256, pk_mul, nI_add, nI_clamp (by omega), show p * 256 + S = 256 * p + S by omega, hM p S (by omega) (by omega) hS, nI_1]
      refine ⟨vpI (by omega) (by omega), ?_⟩
      simp only [sw_gv]
      cases e : gvB (clF g) T P p S t with
      | false => exact k2 e
      | true =>
        have hx := k1 e (fun t' h => by cases h; exact ht)
        have fin : ∀ v : Int32, v = nI S ||| (if nI t = -1 then 0 else ((1 : Int32) <<< (nI t &&& 31))) → wH_givenTo d 9 [.ref 52, .int (nI w), .ref 15, .ref 41, .int v, .int (nI t), .int (nI p + 1), .null] [] s M1 Q := by
          intro v ev
          rw [if_neg (by rw [m1_ne (by omega)]; simp), orI hS ht h8] at ev
          rw [ev, nI_1]
          exact hx
        rw [if_pos rfl]
        exact sgH_givenTo_30 (br_c (fun _ => fin) (fun _ => br_f (by rw [m1_ne (by omega)]; simp) fin))
theorem sp_matchM {d : Nat} {s : pm_S} {M : pm_M} {g : Nat → Int32} {T P w : Nat} {x : Int32} {Q : Int32 → pm_S → pm_M → Prop} (hd : 3 ≤ d) (hg : M.1 160 = g) (h2 : g 2 = nI T) (hK : KM M (clF g) T P) (h8 : T ≤ 8) (h6 : P ≤ 6) (hw : w < P) (hx : x - 10 = nI w) (hM : MT M (clF g) T P 0) (hq : Q (oI (gvT (clF g) T P w (gvF (clF g) T P w))) s M) : wM_match d 49 [.ref 159, .int x, .int 0, .int 0, .null] [] s M Q := by
  have h256 := pow_le8 h8
  have inner : ∀ p S, p ≤ w → S < 2 ^ T → (∀ l4, (gvT (clF g) T P p S = none → l4 = nI T) → (∀ t, gvT (clF g) T P p S = some t → l4 = nI t) → wM_match d 123 [.ref 159, .int x, .int (nI S), .int (nI p), .int l4] [] s M Q) → wM_match d 49 [.ref 159, .int x, .int (nI S), .int (nI p), .null] [] s M Q := by
    intro p S hp hS h
    refine sgM_match_49 ?_
    refine loop_fst (L := fun i => wM_match d 52 [.ref 159, .int x, .int (nI S), .int (nI p), .int (nI i)] [] s M Q) (P := gvB (clF g) T P p S) (e := T) (K := fun r => ∀ l4, (r = none → l4 = nI T) → (∀ t, r = some t → l4 = nI t) → wM_match d 123 [.ref 159, .int x, .int (nI S), .int (nI p), .int l4] [] s M Q) h ?_ ?_
    · intro hn
      exact sgM_match_52 (br_t (by rw [hg, h2, nI_leP (by omega) (by omega)]; exact Nat.le_refl _) (hn _ (fun _ => rfl) (fun t h => by cases h)))
    · intro t ht k1 k2
      have hS' := or_lt hS ht
      have a1 := (hM (p + 1) (S ||| 2 ^ t) (by omega) (by omega) hS').1
      have a2 := (hM p S (by omega) (by omega) hS).1
      refine sgM_match_52 (br_f (by rw [hg, h2, nI_leP (by omega) (by omega)]; omega) (sp_claimed (by omega) hK h8 h6 (by omega) ht hS ?_))
      rw [nI_1, nI_1, orI hS ht h8, lI 256, pk_mul, pk_mul, nI_add, nI_add, nI_clamp (by omega), nI_clamp (by omega)]
      unfold gvB at k1 k2
      refine br_c (fun z => k2 ?_) (fun z => sp_claimed (by omega) hK h8 h6 (by omega) ht hS ⟨vpI (by omega) (by omega), vpI (by omega) (by omega), ?_⟩)
      · simp [show ¬ 0 < cmF (clF g) p t S from i_nlt z]
      · rw [a1, a2]
        exact br_c (fun z2 => k1 (by simp [i_lt z, z2]) _ (fun h => by cases h) (fun t' h => by cases h; rfl)) (fun z2 => k2 (by simp [z2]))
  refine loop_up (L := fun i M1 => M1 = M → wM_match d 49 [.ref 159, .int x, .int (nI (gvF (clF g) T P i)), .int (nI i), .null] [] s M Q) (I := fun i M1 => True) (e := w) ?_ ?_ M trivial rfl
  · intro M1 _ _
    refine inner w _ (Nat.le_refl _) gvF_lt (fun l4 n4 s4 => sgM_match_123 (br_t hx.symm ?_))
    rw [hg, h2]
    cases e : gvT (clF g) T P w (gvF (clF g) T P w) with
    | none =>
      rw [e] at hq
      rw [n4 e, if_pos (by rw [nI_leP (by omega) (by omega)]; exact Nat.le_refl _)]
      exact hq
    | some t =>
      have := gvT_lt e
      rw [e] at hq
      rw [s4 t e, if_neg (by rw [nI_leP (by omega) (by omega)]; omega)]
      exact hq
  · intro p M1 hp _ hk _
    refine inner p _ (by omega) gvF_lt (fun l4 n4 s4 => sgM_match_123 (br_f ?_ (fun v ev => ?_)))
    · rw [hx, nI_inj (by omega) (by omega)]; omega
    have kk := hk M trivial rfl
    have eF : gvF (clF g) T P (p + 1) = orO (gvF (clF g) T P p) (gvT (clF g) T P p (gvF (clF g) T P p)) := rfl
    rw [eF] at kk
    rw [hg, h2] at ev
    have hS : gvF (clF g) T P p < 2 ^ T := gvF_lt
    generalize gvF (clF g) T P p = S at hS kk n4 s4 ev
    rw [nI_1]
    cases e : gvT (clF g) T P p S with
    | none =>
      rw [e] at kk
      rw [n4 e, if_pos (by rw [nI_leP (by omega) (by omega)]; exact Nat.le_refl _), or_zero] at ev
      rw [ev]; exact kk
    | some t =>
      have ht := gvT_lt e
      rw [e] at kk
      rw [s4 t e, if_neg (by rw [nI_leP (by omega) (by omega)]; omega), orI hS ht h8] at ev
      rw [ev]; exact kk
theorem op_match {L d : Nat} {s : pm_S} {M : pm_M} {v : Int32} (hd : 12 ≤ d) (hI : Inv L s M) : cI d yG_match [.ref 0, .int v] s M (fun r s1 M1 => cI d yM_match [.ref 159, .int v] s1 M1 (same L r)) := by
  obtain ⟨d, rfl⟩ : ∃ e, d = e + 1 := ⟨d - 1, by omega⟩
  obtain ⟨g, N, T, P, x, n, hc⟩ := Inv_ctx hI
  have rd := ctx_read hc
  obtain ⟨a1, a2, a3, a4, a5, a6, a7, a8, a9, a10, a11, a12, a13⟩ := hc
  have h8 : T ≤ 8 := a4.2.2.2.2.2.2.1
  have h6 : P ≤ 6 := a4.2.2.2.2.2.2.2.1
  have h2 := a4.2.2.1
  have h3 := a4.2.2.2.1
  have e0 : (pm_si M 159 0 0).1 160 = g := by rw [si_ne (by decide)]; exact a3
  have main : (v = 0 ∨ ∃ w, w < P ∧ v - 10 = nI w ∧ ¬ v = 0 ∧ ¬ v < 10) → wG_match d 21 [.ref 0, .int v] [] s M (fun r s1 M1 => cI (d + 1) yM_match [.ref 159, .int v] s1 M1 (same L r)) := by
    intro hv
    refine sgG_match_21 (sp_gather (by omega) a4 a10 (fun M1 hK o1 => ?_))
    have c15 := (o1 15 (by decide)).1
    refine sp_weigh (T := T) (P := P) (by omega) (by rw [c15]; exact a4.1.2.1.trans h2) (by rw [c15]; exact a4.1.2.2.1.trans h3) hK h8 h6 (fun M2 t2 o2 => ?_)
    have o2' : off [25, 26, 42, 53] M M2 := off_tr (off_mo o1 (by decide)) (off_mo o2 (by decide))
    have s2 : Scr M M2 := Scr_off o2' (by decide)
    have s3 := Scr_tr s2 (Scr_159 (M := M2) (k := 0) (v := 0) (by omega))
    have g3 := (Scr_c s3 (c := 160) (by decide)).trans a3
    have k2 : KR M2 g T P := KR_off o2 (by decide) hK
    have c15' : M2.1 15 = M.1 15 := (o2' 15 (by decide)).1
    rcases hv with z | ⟨w, hw, z1, z2, z3⟩
    · subst z
      refine br_t rfl ?_
      have e : M2.1 53 0 = smF (clF g) T P 0 0 := t2 0 0 (by omega) (by omega) (Nat.two_pow_pos T)
      rw [e]
      refine enM_match (br_t rfl (sp_laysMatching (by omega) g3 a4.2 (fun M3 k3 m3 o3 => br_t rfl ⟨?_, Inv_Scr hI a1 (Scr_tr s3 (Scr_off o3 (by decide)))⟩)))
      exact (m3 0 0 (by omega) (by omega) (Nat.two_pow_pos T)).1.symm
    · refine br_f z2 ?_
      rw [z1]
      refine sp_givenTo (P := P) (T := T) (by omega) (by rw [c15']; exact a4.1.2.1.trans h2) (by rw [c15']; exact a4.1.2.2.1.trans h3) k2 h8 h6 hw t2 ?_
      refine enM_match (br_f z2 (br_f z3 (sp_isPerson (n := P) (by omega) (by rw [g3]; exact h3) h6 (fun _ => br_f (by decide) ?_) (fun q => absurd ((inN_i (by omega)).mpr ⟨w, hw, z1⟩) q))))
      refine sp_laysMatching (by omega) g3 a4.2 (fun M3 k3 m3 o3 => br_f z2 ?_)
      refine sp_matchM (by omega) (r160 o3 (by decide) g3) h2 k3 h8 h6 hw z1 m3 ⟨rfl, Inv_Scr hI a1 (Scr_tr s3 (Scr_off o3 (by decide)))⟩
  refine enG_match (br_c (fun z => main (Or.inl z)) (fun z => sp_hasPerson (by omega) (a4.1.2.2.1.trans h3) h6 (fun q => br_f (by decide) ?_) (fun q => br_t rfl ?_)))
  · obtain ⟨w, hw, e⟩ := q
    have ev : v = nI (w + 10) := by
      rw [← nI_add, ← e]
      have : nI 10 = 10 := rfl
      rw [this]; grind
    refine main (Or.inr ⟨w, hw, e, z, ?_⟩)
    rw [ev, lI 10, nI_ltP (by omega) (by omega)]; omega
  · refine enM_match (br_f z (br_c (fun _ => ⟨rfl, rd⟩) (fun _ => sp_isPerson (n := P) (by omega) (by rw [e0]; exact h3) h6 (fun w => absurd ((inN_i (by omega)).mp w) q) (fun _ => br_t rfl ⟨rfl, rd⟩))))
