/-- the class is about to let things go -/
def Lft (M0 M : pm_M) (g : Nat → Int32) (T P n : Nat) (w : Nat → Nat) : Prop := off [25, 26, 42, 43, 44, 45, 46, 47, 48, 49, 50, 51] M0 M ∧ KR M g T P ∧ M.1 43 8 = nI n ∧ M.1 43 9 = nI (frF g T P w n) ^^^ (-1) ∧ (∀ i, i < n → M.1 48 i = nI (w i) ∧ w i < T) ∧ ∃ o, ORD M n w o
theorem Lft_scr {M0 M : pm_M} {g : Nat → Int32} {T P n : Nat} {w : Nat → Nat} (h : Lft M0 M g T P n w) : Scr M0 M := Scr_off h.1 (by decide)
theorem sp_go {d : Nat} {s : pm_S} {M0 M : pm_M} {g : Nat → Int32} {N T P n : Nat} {w f : Nat → Nat} {Q : pm_S → pm_M → Prop} (hd : 3 ≤ d) (hl : LV M0 g N T P) (hv : Vs g N T P) (hn : n ≤ 3) (hL : Lft M0 M g T P n w) (hf : ∀ i, i < n → M.1 49 i = nI (f i) ∧ f i < N) (hq : ∀ M', Lft M0 M' g T P n w → M'.1 46 = M.1 46 → M'.1 47 = M.1 47 → M'.1 49 = M.1 49 → (∀ i, i < n → ∃ E, 1 ≤ E ∧ E ≤ 8 ∧ M'.1 45 i = nI E ∧ (∀ D', D' < E → xrF N T P (lvF g T w f n) D' (50 + w i) < 10) ∧ ((M'.1 44 i = -1 ∧ xrF N T P (lvF g T w f n) E (50 + w i) = 99) ∨ ∃ p, p < P ∧ M'.1 44 i = nI p ∧ xrF N T P (lvF g T w f n) E (50 + w i) = nI (10 + p))) → Q s M') : cV d yF_travel [.ref 43, .ref 15, .ref 41] s M Q := by
  obtain ⟨l1, l2, l3, l4, l5, o, l6⟩ := hL
  have hV := hl.2
  have h8 := hV.2.2.2.2.2.1
  have h6 := hV.2.2.2.2.2.2.1
  have c15 := (l1 15 (by decide)).1
  have c20 := (l1 20 (by decide)).1
  have inj : ∀ i j, i < n → j < n → w i = w j → i = j := fun i j a b e => ORD_inj l6 a b e
  have hw : ∀ i, i < n → w i < T := fun i hi => (l5 i hi).2
  refine sp_travel (g := g) (x := lvF g T w f n) (N := N) (T := T) (P := P) (H := frF g T P w n) (n := n) (w := w) (o := o) (f := f) hd (by rw [c15]; exact hl.1.1.trans hV.1) (by rw [c15]; exact hl.1.2.2.1.trans hV.2.2.1) hV.2.2.2.2.1 h8 h6 l2 (fun p hp => by rw [c20]; exact (hl.1.2.2.2.2.2.2.1 p hp).1) hn l3 l4 (hdR_lv hV hv hw (fun i hi => (hf i hi).2) inj) (lv_eqT h8 hw) (fun i hi => ⟨(l5 i hi).1, (l5 i hi).2, (hf i hi).1, (hf i hi).2, lv_in hi inj⟩) l6 (fun t ht hne => by rw [lv_out hne]; exact clrF_ge ht) (fun M' r o' e8 e9 => hq M' ⟨off_tr l1 (off_mo o' (by decide)), KR_off o' (by decide) l2, e8.trans l3, e9.trans l4, ?_, o, ?_, l6.2.1, l6.2.2⟩ (o' 46 (by decide)).1 (o' 47 (by decide)).1 (o' 49 (by decide)).1 r)
  · intro i hi
    rw [(o' 48 (by decide)).1]; exact l5 i hi
  · intro k hk
    rw [(o' 51 (by decide)).1]; exact l6.1 k hk
theorem sp_lone {d : Nat} {s : pm_S} {M : pm_M} {g : Nat → Int32} {N T P t : Nat} {Q : pm_S → pm_M → Prop} (hd : 5 ≤ d) (hl : LV M g N T P) (hs : SR M 27 g T P) (hv : Vs g N T P) (ht : t < T) (hq : ∀ M', Lft M M' g T P 1 (fun _ => t) → Q s M') : cV d yK_gather [.ref 41, .ref 15, .ref 27] s M (fun s3 M3 => cV d yF_begin [.ref 43, .ref 27] s3 M3 (fun s4 M4 => cV d yF_add [.ref 43, .int (nI t), .ref 27] s4 M4 (fun s5 M5 => Q s5 M5))) := by
  have hV := hl.2
  have h6 := hV.2.2.2.2.2.2.1
  refine sp_gather (by omega) hl hs (fun M1 hK o1 => ?_)
  refine sp_fbegin (by omega) (SR_off o1 hs (by decide)) hV hv (fun M2 e8 e9 o2 => ?_)
  have o12 : off [25, 26, 42, 43] M M2 := off_tr (off_mo o1 (by decide)) (off_mo o2 (by decide))
  refine sp_fadd (n := 0) (H := setF (holdB g T) P) (w := fun _ => t) (o := fun _ => 0) (by omega) (SR_off o12 hs (by decide)) hV hv ht (by omega) e8 e9 (frF_bt (T := T) (w := fun _ => t) (n := 0) h6).1 (fun i hi => by omega) (fun i hi => by omega) ⟨fun k hk => by omega, fun j j' _ h => by omega, fun i hi => by omega⟩ (fun M3 o' f8 f9 f48 f51 o3 => ?_)
  have ew : wA (fun _ => t) 0 t = fun _ => t := by funext i; unfold wA; split <;> rfl
  rw [ew] at f51
  refine hq M3 ⟨off_tr (off_mo o12 (by decide)) (off_mo o3 (by decide)), KR_off o3 (by decide) (KR_off o2 (by decide) hK), f8, f9, fun i hi => ?_, o', f51⟩
  rw [f48, show i = 0 by omega, row_eq]
  exact ⟨rfl, ht⟩
theorem sp_start {d : Nat} {s : pm_S} {M : pm_M} {n i st : Nat} {Q : pm_S → pm_M → Prop} (hd : 1 ≤ d) (hn : n ≤ 3) (h : M.1 43 8 = nI n) (hi : i < n) (hq : Q s (pm_si M 49 i (nI st))) : cV d yF_start [.ref 43, .int (nI i), .int (nI st)] s M Q := by
  obtain ⟨d, rfl⟩ : ∃ e, d = e + 1 := ⟨d - 1, by omega⟩
  refine enF_start (br_f (nI_pos (by omega)) (br_f (by rw [h, nI_leP (by omega) (by omega)]; omega) ⟨vpI (by omega) (by omega), ?_⟩))
  rw [nI_clamp (by omega)]
  exact hq
theorem Lft_49 {M0 M : pm_M} {g : Nat → Int32} {T P n k : Nat} {w : Nat → Nat} {v : Int32} (h : Lft M0 M g T P n w) : Lft M0 (pm_si M 49 k v) g T P n w := by
  obtain ⟨l1, l2, l3, l4, l5, o, l6⟩ := h
  refine ⟨off_si l1 (by decide), KR_c (by rw [si_ne (by decide)]) l2, by rw [si_ne (by decide)]; exact l3, by rw [si_ne (by decide)]; exact l4, fun i hi => by rw [si_ne (by decide)]; exact l5 i hi, o, fun k hk => by rw [si_ne (by decide)]; exact l6.1 k hk, l6.2⟩
theorem lv_one {g : Nat → Int32} {T t st : Nat} : lvF g T (fun _ => t) (fun _ => st) 1 = pm_row (clrF g T) (50 + t) (nI st) := rfl
/-- one thing left at a station: who takes it, in how many days -/
theorem sp_go1 {d : Nat} {s : pm_S} {M0 M : pm_M} {g : Nat → Int32} {N T P t st : Nat} {Q : pm_S → pm_M → Prop} (hd : 3 ≤ d) (hl : LV M0 g N T P) (hv : Vs g N T P) (hL : Lft M0 M g T P 1 (fun _ => t)) (hst : st < N) (hq : ∀ M' E a, Lft M0 M' g T P 1 (fun _ => t) → M'.1 44 0 = a → M'.1 45 0 = nI E → (∀ D', D' < E → xrF N T P (pm_row (clrF g T) (50 + t) (nI st)) D' (50 + t) < 10) → ¬ xrF N T P (pm_row (clrF g T) (50 + t) (nI st)) E (50 + t) < 10 → (if xrF N T P (pm_row (clrF g T) (50 + t) (nI st)) E (50 + t) = 99 then -1 else xrF N T P (pm_row (clrF g T) (50 + t) (nI st)) E (50 + t) - 10) = a → (a = -1 ∨ ∃ p, p < P ∧ a = nI p) → Q s M') : cV d yF_start [.ref 43, .int (nI 0), .int (nI st)] s M (fun s6 M6 => cV d yF_travel [.ref 43, .ref 15, .ref 41] s6 M6 (fun s7 M7 => Q s7 M7)) := by
  have h6 := hl.2.2.2.2.2.2.2.1
  refine sp_start (n := 1) (by omega) (by omega) hL.2.2.1 (by omega) ?_
  refine sp_go (f := fun _ => st) hd hl hv (by omega) (Lft_49 hL) (fun i hi => ?_) (fun M1 L1 _ _ _ r => ?_)
  · rw [si_eq, show i = 0 by omega, row_eq]; exact ⟨rfl, hst⟩
  · obtain ⟨E, e1, e2, e3, e4, e5⟩ := r 0 (by omega)
    rw [lv_one] at e4 e5
    rcases e5 with ⟨a1, a2⟩ | ⟨p, p1, a1, a2⟩
    · refine hq M1 E _ L1 rfl e3 e4 (by rw [a2]; decide) ?_ (Or.inl a1)
      rw [if_pos a2, a1]
    · refine hq M1 E _ L1 rfl e3 e4 (by rw [a2]; exact v10 (by omega)) ?_ (Or.inr ⟨p, p1, a1⟩)
      rw [if_neg (by rw [a2, lI 99, nI_inj (by omega) (by omega)]; omega), a1, a2, lI 10, pk_sub (by omega), show 10 + p - 10 = p by omega]
/-- the class lets one thing go, if there are such a thing and such a station -/
theorem sp_canBeLeft {d : Nat} {s : pm_S} {M : pm_M} {g : Nat → Int32} {N T P : Nat} {v u : Int32} {Q : Int32 → pm_S → pm_M → Prop} (hd : 6 ≤ d) (hl : LV M g N T P) (hs : SR M 27 g T P) (hv : Vs g N T P) (no : ¬ (inI v T ∧ inI u N) → Q 0 s M)
    (yes : ∀ t st, t < T → st < N → v = nI t → u = nI st → ∀ M' E a, Lft M M' g T P 1 (fun _ => t) → M'.1 44 0 = a → M'.1 45 0 = nI E → (∀ D', D' < E → xrF N T P (pm_row (clrF g T) (50 + t) (nI st)) D' (50 + t) < 10) → ¬ xrF N T P (pm_row (clrF g T) (50 + t) (nI st)) E (50 + t) < 10 → (if xrF N T P (pm_row (clrF g T) (50 + t) (nI st)) E (50 + t) = 99 then -1 else xrF N T P (pm_row (clrF g T) (50 + t) (nI st)) E (50 + t) - 10) = a → Q 1 s M') : cI d yG_canBeLeft [.ref 0, .int v, .int u] s M Q := by
  obtain ⟨d, rfl⟩ : ∃ e, d = e + 1 := ⟨d - 1, by omega⟩
  have h5 : N ≤ 8 := hl.2.2.2.2.2.1
  have h8 : T ≤ 8 := hl.2.2.2.2.2.2.1
  have h1 := hl.2.1
  have h2 := hl.2.2.1
  refine enG_canBeLeft (sp_hasThing (by omega) isL_15 (hl.1.2.1.trans h2) h8 (fun qv => br_f (by decide) ?_) (fun qv => br_t rfl (no (fun q => qv q.1))))
  refine sp_hasStation (by omega) (hl.1.1.trans h1) h5 (fun qu => br_f (by decide) ?_) (fun qu => br_t rfl (no (fun q => qu q.2)))
  obtain ⟨t, ht, rfl⟩ := qv
  obtain ⟨st, hst, rfl⟩ := qu
  exact sp_lone (by omega) hl hs hv ht (fun M1 L1 => sp_go1 (by omega) hl hv L1 hst (fun M2 E a L2 e44 e45 f1 f2 f3 _ => yes t st ht hst rfl rfl M2 E a L2 e44 e45 f1 f2 f3))
theorem op_goes {L d : Nat} {s : pm_S} {M : pm_M} {v u : Int32} (hd : 12 ≤ d) (hI : Inv L s M) : cI d yG_goes [.ref 0, .int v, .int u] s M (fun r s1 M1 => cI d yM_goes [.ref 159, .int v, .int u] s1 M1 (same L r)) := by
  obtain ⟨d, rfl⟩ : ∃ e, d = e + 1 := ⟨d - 1, by omega⟩
  obtain ⟨g, N, T, P, x, n, hc⟩ := Inv_ctx hI
  have rd := ctx_read hc
  obtain ⟨a1, a2, a3, a4, a5, a6, a7, a8, a9, a10, a11, a12, a13⟩ := hc
  have h5 : N ≤ 8 := a4.2.2.2.2.2.1
  have h8 : T ≤ 8 := a4.2.2.2.2.2.2.1
  have h6 : P ≤ 6 := a4.2.2.2.2.2.2.2.1
  have h1 := a4.2.1
  have h2 := a4.2.2.1
  have h3 := a4.2.2.2.1
  have e0 : (pm_si M 159 0 0).1 160 = g := by rw [si_ne (by decide)]; exact a3
  have no : ¬ (inI v T ∧ inI u N) → cI (d + 1) yM_goes [.ref 159, .int v, .int u] s M (same L (-2)) := by
    intro h
    refine enM_goes (sp_isThing (n := T) (by omega) (by rw [e0]; exact h2) h8 (fun q => br_f (by decide) ?_) (fun _ => br_t rfl ⟨rfl, rd⟩))
    exact sp_isStation (n := N) (by omega) (by rw [e0]; exact h1) h5 (fun q2 => absurd ⟨(inN_i (by omega)).mp q, (inN_i (by omega)).mp q2⟩ h) (fun _ => br_t rfl ⟨rfl, rd⟩)
  refine enG_goes (sp_canBeLeft (by omega) a4 a10 a9 no (fun t st ht hst ev eu M2 E a L2 e44 e45 f1 f2 f3 => ?_))
  have hv' := (inN_i (p := v) (n := T) (by omega)).mpr ⟨t, ht, ev⟩
  have hu' := (inN_i (p := u) (n := N) (by omega)).mpr ⟨st, hst, eu⟩
  subst ev
  subst eu
  have s2 := Lft_scr L2
  have s3 := Scr_tr s2 (Scr_159 (M := M2) (k := 0) (v := 0) (by omega))
  have g3 := (Scr_c s3 (c := 160) (by decide)).trans a3
  rw [if_neg (by decide), e44]
  refine enM_goes (sp_isThing (n := T) (by omega) (by rw [g3]; exact h2) h8 (fun _ => br_f (by decide) ?_) (fun q => absurd hv' q))
  refine sp_isStation (n := N) (by omega) (by rw [g3]; exact h1) h5 (fun _ => br_f (by decide) ?_) (fun q => absurd hu' q)
  refine sp_goesTo (E := E) (N := N) (P := P) (by omega) g3 a4.2 ht f1 f2 (fun M4 g4 e20 k4 o4 => ⟨f3.symm, Inv_Scr hI a1 (Scr_tr s3 (Scr_16 o4 (by decide) (by rw [g4, g3]) (k4 5 (by omega)) (k4 13 (by omega)) (k4 14 (by omega))))⟩)
theorem op_takes {L d : Nat} {s : pm_S} {M : pm_M} {v u : Int32} (hd : 12 ≤ d) (hI : Inv L s M) : cI d yG_takes [.ref 0, .int v, .int u] s M (fun r s1 M1 => cI d yM_takes [.ref 159, .int v, .int u] s1 M1 (same L r)) := by
  obtain ⟨d, rfl⟩ : ∃ e, d = e + 1 := ⟨d - 1, by omega⟩
  obtain ⟨g, N, T, P, x, n, hc⟩ := Inv_ctx hI
  have rd := ctx_read hc
  obtain ⟨a1, a2, a3, a4, a5, a6, a7, a8, a9, a10, a11, a12, a13⟩ := hc
  have h5 : N ≤ 8 := a4.2.2.2.2.2.1
  have h8 : T ≤ 8 := a4.2.2.2.2.2.2.1
  have h6 : P ≤ 6 := a4.2.2.2.2.2.2.2.1
  have h1 := a4.2.1
  have h2 := a4.2.2.1
  have h3 := a4.2.2.2.1
  have e0 : (pm_si M 159 0 0).1 160 = g := by rw [si_ne (by decide)]; exact a3
  have no : ¬ (inI v T ∧ inI u N) → cI (d + 1) yM_takes [.ref 159, .int v, .int u] s M (same L (-2)) := by
    intro h
    refine enM_takes (sp_isThing (n := T) (by omega) (by rw [e0]; exact h2) h8 (fun q => br_f (by decide) ?_) (fun _ => br_t rfl ⟨rfl, rd⟩))
    exact sp_isStation (n := N) (by omega) (by rw [e0]; exact h1) h5 (fun q2 => absurd ⟨(inN_i (by omega)).mp q, (inN_i (by omega)).mp q2⟩ h) (fun _ => br_t rfl ⟨rfl, rd⟩)
  refine enG_takes (sp_canBeLeft (by omega) a4 a10 a9 no (fun t st ht hst ev eu M2 E a L2 e44 e45 f1 f2 f3 => ?_))
  have hv' := (inN_i (p := v) (n := T) (by omega)).mpr ⟨t, ht, ev⟩
  have hu' := (inN_i (p := u) (n := N) (by omega)).mpr ⟨st, hst, eu⟩
  subst ev
  subst eu
  have s2 := Lft_scr L2
  have s3 := Scr_tr s2 (Scr_159 (M := M2) (k := 0) (v := 0) (by omega))
  have g3 := (Scr_c s3 (c := 160) (by decide)).trans a3
  rw [if_neg (by decide), e45]
  refine enM_takes (sp_isThing (n := T) (by omega) (by rw [g3]; exact h2) h8 (fun _ => br_f (by decide) ?_) (fun q => absurd hv' q))
  refine sp_isStation (n := N) (by omega) (by rw [g3]; exact h1) h5 (fun _ => br_f (by decide) ?_) (fun q => absurd hu' q)
  refine sp_goesTo (E := E) (N := N) (P := P) (by omega) g3 a4.2 ht f1 f2 (fun M4 g4 e20 k4 o4 => ⟨e20.symm, Inv_Scr hI a1 (Scr_tr s3 (Scr_16 o4 (by decide) (by rw [g4, g3]) (k4 5 (by omega)) (k4 13 (by omega)) (k4 14 (by omega))))⟩)
