theorem lN_ltP {a b : Nat} (ha : a < 2 ^ 31) (hb : b < 2 ^ 31) : (lN a < lN b) = (a < b) := propext (lN_lt ha hb)
theorem lN_leP {a b : Nat} (ha : a < 2 ^ 31) (hb : b < 2 ^ 31) : (lN a ≤ lN b) = (a ≤ b) := propext (lN_le ha hb)
theorem ixN_out {v : Int64} {n : Nat} (hn : n < 2 ^ 30) (h : ixN v n = none) (h0 : ¬ v < 0) : lN n ≤ v := by
  obtain ⟨k, hk, rfl⟩ := pk_lOf h0
  rw [pk_lLE (by omega) hk]
  unfold ixN at h
  split at h
  · cases h
  · rename_i q
    rw [pk_lT hk] at q
    omega
theorem sp_attempt {d : Nat} {s : pm_S} {M : pm_M} {g : Nat → Int32} {N T P : Nat} {v : Int64} {Q : Int32 → pm_S → pm_M → Prop} (hd : 6 ≤ d) (hl : LV M g N T P) (hv : Vs g N T P) (hs : SR M 32 g T P) (hq : ∀ M', SR M' 32 (if whyF g T P v = 0 then doF g N T P v else g) T P → off C32 M M' → Q (whyF g T P v) s M') : cI d yS_attempt [.ref 32, .ref 15, .long v] s M Q := by
  obtain ⟨d, rfl⟩ : ∃ e, d = e + 1 := ⟨d - 1, by omega⟩
  have h6 := hl.2.2.2.2.2.2.1
  have h7 := hl.2.2.2.2.2.2.2.1
  unfold whyF doF at hq
  by_cases c : v = -1
  · simp only [if_pos c, ite_true] at hq
    exact enS_attempt (br_t c (sp_passDay (by omega) hl hv hs hq))
  simp only [if_neg c] at hq
  cases hx : ixN v 400 with
  | none =>
    simp only [hx, if_neg n10] at hq
    refine enS_attempt (br_f c (br_c (fun c1 => hq M hs off_rf) (fun c1 => br_t (ixN_out (n := 400) (by omega) hx c1) (hq M hs off_rf))))
  | some k =>
    have hk := ixN_lt hx
    have hv' := ixN_eq hx (by omega)
    subst hv'
    simp only [hx] at hq
    refine enS_attempt (br_f c ?_)
    rw [lL 0, lL 400, lL 20, lL 100, lN_ltP (by omega) (by omega), lN_leP (by omega) (by omega), lN_ltP (by omega) (by omega), lN_leP (by omega) (by omega)]
    refine br_f (by omega) (br_f (by omega) ?_)
    have main : (k < 20 ∨ 100 ≤ k) → wS_attempt d 48 [.ref 32, .ref 15, .long (lN k), .null, .null, .null] [] s M Q := by
      intro hr
      refine sgS_attempt_48 ?_
      rw [lN_32, lI 20, lI 200, lI 300, lI 10, lI 100, nI_leP (by omega) (by omega), nI_leP (by omega) (by omega), nI_leP (by omega) (by omega), nI_leP (by omega) (by omega)]
      rw [pk_rem (by omega) (by omega) (by omega), pk_div (by omega) (by omega) (by omega), pk_rem (by omega) (by omega) (by omega)]
      unfold whyK doK at hq
      refine br_c (fun c1 => br_c (fun c2 => br_c (fun c3 => ?_) (fun c3 => ?_)) (fun c2 => ?_)) (fun c1 => br_c (fun c2 => ?_) (fun c2 => ?_))
      · simp only [if_neg (show ¬ k < 10 by omega), if_neg (show ¬ k < 20 by omega), if_neg (show ¬ k < 100 by omega), if_neg (show ¬ k < 200 by omega), if_neg (show ¬ k < 300 by omega)] at hq
        refine sp_tryMark (by omega) hl hs (fun i1 i2 M' s' o' => ?_) (fun i1 => ?_)
        · have z : k % 100 / 10 < P := by
            obtain ⟨j, hj, e⟩ := i1
            rw [nI_inj (by omega) (by omega)] at e
            omega
          simp only [if_pos z, ite_true] at hq
          rw [nI_clamp (by omega)] at s'
          exact hq M' s' o'
        · have z : ¬ k % 100 / 10 < P := fun q => i1 ⟨⟨_, q, rfl⟩, ⟨_, Nat.mod_lt _ (by omega), rfl⟩⟩
          simp only [if_neg z, if_neg n10] at hq
          exact hq M hs off_rf
      · simp only [if_neg (show ¬ k < 10 by omega), if_neg (show ¬ k < 20 by omega), if_neg (show ¬ k < 100 by omega), if_neg (show ¬ k < 200 by omega), if_pos (show k < 300 by omega)] at hq
        refine sp_trySwap (by omega) hl hs ?_
        rw [nI_l (by omega), nI_l (by omega), nI_clamp (by omega), nI_clamp (by omega)]
        exact hq
      · simp only [if_neg (show ¬ k < 10 by omega), if_neg (show ¬ k < 20 by omega), if_neg (show ¬ k < 100 by omega), if_pos (show k < 200 by omega)] at hq
        refine sp_tryFetch (by omega) hl hs ?_
        rw [nI_l (by omega), nI_l (by omega), nI_clamp (by omega), nI_clamp (by omega)]
        exact hq
      · simp only [if_neg (show ¬ k < 10 by omega), if_pos (show k < 20 by omega)] at hq
        rw [pk_sub (by omega)]
        refine sp_tryOpen (by omega) hl hs ?_
        rw [nI_l (by omega), nI_clamp (by omega)]
        exact hq
      · simp only [if_pos (show k < 10 by omega)] at hq
        refine sp_tryLeave (by omega) hl hs ?_
        rw [nI_l (by omega), nI_clamp (by omega)]
        exact hq
    refine br_c (fun c1 => main (Or.inl c1)) (fun c1 => br_c (fun c2 => main (Or.inr c2)) (fun c2 => ?_))
    unfold whyK doK at hq
    simp only [if_neg (show ¬ k < 10 by omega), if_neg (show ¬ k < 20 by omega), if_pos (show k < 100 by omega), if_neg n10] at hq
    exact hq M hs off_rf
/-- a deed leaves a row what it must be -/
theorem Vs_do {g : Nat → Int32} {N T P : Nat} {v : Int64} (hV : Vd g N T P) (hs : Vs g N T P) (h0 : whyF g T P v = 0) : eqL g (doF g N T P v) ∧ Vs (doF g N T P v) N T P := by
  have h6 := hV.2.2.2.2.2.1
  have h7 := hV.2.2.2.2.2.2.1
  unfold whyF at h0
  unfold doF
  by_cases c : v = -1
  · rw [if_pos c]; exact Vs_day hV hs
  rw [if_neg c] at h0 ⊢
  cases hx : ixN v 400 with
  | none => rw [hx] at h0; exact absurd h0 n10
  | some k =>
    have hk := ixN_lt hx
    rw [hx] at h0
    dsimp only at h0 ⊢
    unfold whyK at h0
    unfold doK
    by_cases c1 : k < 10
    · rw [if_pos c1] at h0 ⊢
      obtain ⟨a1, t, a2⟩ := whyHold_0 (by omega) h0
      refine ⟨?_, Vs_leave hV hs a1 a2⟩
      have := (heldF_lt a2).1
      unfold leaveF; rw [a2]
      exact eqL_row eqL_rf (by omega) (by omega)
    rw [if_neg c1] at h0 ⊢
    by_cases c2 : k < 20
    · rw [if_pos c2] at h0 ⊢
      obtain ⟨a1, t, a2, a3⟩ := whyOpen_0 (by omega) h0
      refine ⟨?_, Vs_open hV hs a1 a2 a3⟩
      have := (heldF_lt a2).1
      unfold openF; rw [a2]
      exact eqL_row (eqL_row eqL_rf (by omega) (by omega)) (by omega) (by omega)
    rw [if_neg c2] at h0 ⊢
    by_cases c3 : k < 100
    · rw [if_pos c3] at h0; exact absurd h0 n10
    rw [if_neg c3] at h0
    by_cases c4 : k < 200
    · rw [if_pos c4] at h0 ⊢
      obtain ⟨a1, a2, a3, a4⟩ := whyFetch_0 (by omega) (by omega) h0
      exact ⟨eqL_row eqL_rf (by omega) (by omega), Vs_fetch hV hs a1 a2 a3⟩
    rw [if_neg c4] at h0 ⊢
    by_cases c5 : k < 300
    · rw [if_pos c5] at h0 ⊢
      obtain ⟨a1, a2, a3, ⟨a, a4⟩, ⟨b, a5⟩⟩ := whySwap_0 (by omega) (by omega) h0
      refine ⟨?_, Vs_swap hV hs a1 a2 a3 a4 a5⟩
      have := (heldF_lt a4).1
      have := (heldF_lt a5).1
      unfold swapF; rw [a4, a5]
      exact eqL_row (eqL_row eqL_rf (by omega) (by omega)) (by omega) (by omega)
    rw [if_neg c5] at h0 ⊢
    by_cases c6 : k % 100 / 10 < P
    · exact ⟨eqL_row eqL_rf (by omega) (by omega), Vs_mark hV hs c6 (by omega)⟩
    · rw [if_neg c6] at h0; exact absurd h0 n10
/-! a tray of deeds -/
def tell1 (N T P : Nat) (f : Nat → Int64) (i : Nat) (x : (Nat → Int32) × Option (Nat × Int32)) : (Nat → Int32) × Option (Nat × Int32) := match x.2 with
  | some _ => x
  | none => if whyF x.1 T P (f i) = 0 then (doF x.1 N T P (f i), none) else (x.1, some (i, whyF x.1 T P (f i)))
def tellF (g : Nat → Int32) (N T P : Nat) (f : Nat → Int64) (n : Nat) : (Nat → Int32) × Option (Nat × Int32) := itr (tell1 N T P f) n (g, none)
/-- how many were done -/
def tellN (n : Nat) (r : Option (Nat × Int32)) : Int32 := match r with
  | none => nI n
  | some a => nI a.1
def tellW (r : Option (Nat × Int32)) : Int32 := match r with
  | none => 0
  | some a => a.2
theorem Vs_tell1 {g : Nat → Int32} {N T P : Nat} {f : Nat → Int64} {i : Nat} {x : (Nat → Int32) × Option (Nat × Int32)} (hV : Vd g N T P) (he : eqL g x.1) (hs : Vs x.1 N T P) : eqL g (tell1 N T P f i x).1 ∧ Vs (tell1 N T P f i x).1 N T P := by
  unfold tell1
  cases hx : x.2 with
  | some a => exact ⟨he, hs⟩
  | none =>
    dsimp only
    by_cases c : whyF x.1 T P (f i) = 0
    · rw [if_pos c]
      have := Vs_do (v := f i) (Vd_congr he hV) hs c
      exact ⟨eqL_tr he this.1, this.2⟩
    · rw [if_neg c]; exact ⟨he, hs⟩
theorem Vs_tell {g : Nat → Int32} {N T P : Nat} {f : Nat → Int64} {n : Nat} (hV : Vd g N T P) (hs : Vs g N T P) : eqL g (tellF g N T P f n).1 ∧ Vs (tellF g N T P f n).1 N T P :=
  itr_inv (f := tell1 N T P f) (n := n) (a := (g, none)) (fun _ x => eqL g x.1 ∧ Vs x.1 N T P) ⟨eqL_rf, hs⟩ (fun i x _ hx => Vs_tell1 hV hx.1 hx.2)
theorem sp_tells {d : Nat} {s : pm_S} {M : pm_M} {g : Nat → Int32} {N T P r n : Nat} {Q : Int32 → pm_S → pm_M → Prop} (hd : 8 ≤ d) (hg : M.1 160 = g) (hV : Vd g N T P) (hs : Vs g N T P) (hr : r < 4) (hn : M.1 183 r = nI n) (h40 : n ≤ 40) (hq : ∀ M', M'.1 160 = (tellF g N T P (fun k => M.2 184 (40 * r + k)) n).1 → M'.1 159 19 = tellW (tellF g N T P (fun k => M.2 184 (40 * r + k)) n).2 → (∀ i, i ≠ 19 → M'.1 159 i = M.1 159 i) → off [159, 160, 164, 165] M M' → Q (tellN n (tellF g N T P (fun k => M.2 184 (40 * r + k)) n).2) s M') : cI d yM_tells [.ref 159, .int (nI r)] s M Q := by
  obtain ⟨d, rfl⟩ : ∃ e, d = e + 1 := ⟨d - 1, by omega⟩
  generalize hf : (fun k => M.2 184 (40 * r + k)) = f at hq
  have v4 : vp_in (nI r) 4 := vpI (by omega) (by omega)
  refine enM_tells ?_
  refine loop_mem (L := fun i (x : (Nat → Int32) × Option (Nat × Int32)) M1 => match x.2 with
    | none => wM_tells d 7 [.ref 159, .int (nI r), .int (nI i)] [] s M1 Q
    | some a => Q (nI a.1) s M1) (I := fun x M1 => M1.1 160 = x.1 ∧ M1.1 159 19 = tellW x.2 ∧ (∀ i, i ≠ 19 → M1.1 159 i = M.1 159 i) ∧ off [159, 160, 164, 165] M M1 ∧ eqL g x.1 ∧ Vs x.1 N T P) (f := tell1 N T P f) (e := n) (a0 := (g, none)) ?_ ?_ (pm_si M 159 19 0) ⟨?_, ?_, ?_, off_si off_rf (by decide), eqL_rf, hs⟩
  · intro M1 h
    obtain ⟨b1, b2, b3, b4, b5, b6⟩ := h
    have := hq M1 b1 b2 b3 b4
    unfold tellF at this
    generalize itr (tell1 N T P f) n (g, none) = x at this b1 b2 b5 b6 ⊢
    obtain ⟨x1, x2⟩ := x
    cases x2 with
    | some a => exact this
    | none =>
      dsimp only
      have e183 : M1.1 183 r = nI n := by rw [(b4 183 (by decide)).1]; exact hn
      refine sgM_tells_7 ?_
      rw [nI_clamp (by omega), e183]
      exact ⟨v4, br_t (by rw [nI_leP (by omega) (by omega)]; exact Nat.le_refl _) ⟨v4, this⟩⟩
  · intro i M1 hi h hk
    generalize itr (tell1 N T P f) i (g, none) = x at h hk ⊢
    obtain ⟨x1, x2⟩ := x
    obtain ⟨b1, b2, b3, b4, b5, b6⟩ := h
    cases x2 with
    | some a => exact hk M1 ⟨b1, b2, b3, b4, b5, b6⟩
    | none =>
      dsimp only at b1 b5 b6 ⊢
      have e183 : M1.1 183 r = nI n := by rw [(b4 183 (by decide)).1]; exact hn
      have e184 : M1.2 184 (40 * r + i) = f i := by rw [(b4 184 (by decide)).2, ← hf]
      refine sgM_tells_7 ?_
      rw [nI_clamp (by omega), e183, lI 40, pk_mul, nI_add, nI_clamp (by omega), e184, nI_1]
      have v160 : vp_in (nI (40 * r + i)) 160 := vpI (by omega) (by omega)
      refine ⟨v4, br_f (by rw [nI_leP (by omega) (by omega)]; omega) ⟨v160, sp_whyNot (by omega) b1 (Vd_congr b5 hV) (fun M2 o2 => ?_)⟩⟩
      have f160 : M2.1 160 = x1 := (o2 160 (by decide)).1.trans b1
      have f159 : M2.1 159 = M1.1 159 := (o2 159 (by decide)).1
      have f184 : M2.2 184 (40 * r + i) = f i := by rw [(o2 184 (by decide)).2]; exact e184
      have o2' : off [159, 160, 164, 165] M M2 := off_tr b4 (off_mo o2 (by decide))
      simp only [tell1] at hk
      refine br_c (fun c => ⟨v160, ?_⟩) (fun c => ?_)
      · simp only [if_pos c] at hk
        rw [f184]
        refine sp_does (g := x1) (by omega) (by rw [si_ne (by decide)]; exact f160) (Vd_congr b5 hV) c (fun M3 e3 o3 => ?_)
        have w := Vs_do (Vd_congr b5 hV) b6 c
        refine hk M3 ⟨e3, ?_, ?_, off_tr (off_si o2' (by decide)) (off_mo o3 (by decide)), eqL_tr b5 w.1, w.2⟩
        · rw [(o3 159 (by decide)).1, si_eq, row_eq]; exact c
        · intro j hj
          rw [(o3 159 (by decide)).1, si_eq, row_ne hj, f159]; exact b3 j hj
      · simp only [if_neg c] at hk
        refine hk _ ⟨?_, ?_, ?_, off_si o2' (by decide), b5, b6⟩
        · rw [si_ne (by decide)]; exact f160
        · rw [si_eq, row_eq]; rfl
        · intro j hj
          rw [si_eq, row_ne hj, f159]; exact b3 j hj
  · rw [si_ne (by decide)]; exact hg
  · rw [si_eq, row_eq]; rfl
  · intro i hi
    rw [si_eq, row_ne hi]
