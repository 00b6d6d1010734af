def dg (N n c i : Nat) : Nat := c / N ^ (n - 1 - i) % N
theorem dg_lt {N n c i : Nat} (h : 2 ≤ N) : dg N n c i < N := Nat.mod_lt _ (by omega)
theorem xor_pos : ∀ b, b < 9 → ∀ a, a < 513 → (0 : Int32) ≤ nI a ^^^ nI b := by decide +kernel
theorem pow512 {N n : Nat} (hN : N ≤ 8) (hn : n ≤ 3) : N ^ n ≤ 512 := by
  have h1 : N ^ n ≤ 8 ^ n := Nat.pow_le_pow_left hN n
  have h2 : 8 ^ n ≤ 8 ^ 3 := Nat.pow_le_pow_right (by omega) hn
  omega
theorem sp_floorMod {d : Nat} {s : pm_S} {M : pm_M} {a b : Nat} {Q : Int32 → pm_S → pm_M → Prop} (hd : 1 ≤ d) (ha : a < 513) (hb : 1 ≤ b) (hb8 : b ≤ 8) (hq : Q (nI (a % b)) s M) : cI d ymath_floorMod [.int (nI a), .int (nI b)] s M Q := by
  obtain ⟨d, rfl⟩ : ∃ e, d = e + 1 := ⟨d - 1, by omega⟩
  refine enmath_floorMod ⟨by rw [l0, nI_inj (by omega) (by omega)]; omega, br_t (xor_pos b (by omega) a ha) ?_⟩
  rw [pk_rem (by omega) (by omega) (by omega)]
  exact hq
theorem sp_spell {d : Nat} {s : pm_S} {M : pm_M} {N n c : Nat} {Q : pm_S → pm_M → Prop} (hd : 2 ≤ d) (hn : n ≤ 3) (h43 : M.1 43 8 = nI n) (h2 : 2 ≤ N) (h5 : N ≤ 8) (hc : c < N ^ n) (hq : ∀ M', (∀ i, i < n → M'.1 49 i = nI (dg N n c i)) → off [49] M M' → Q s M') : cV d yF_spell [.ref 43, .int (nI c), .int (nI N)] s M Q := by
  obtain ⟨d, rfl⟩ : ∃ e, d = e + 1 := ⟨d - 1, by omega⟩
  have h512 := pow512 (N := N) (n := n) h5 hn
  refine enF_spell ?_
  rw [h43, sub1]
  have mx : (if nI N < 1 then (1 : Int32) else nI N) = nI N := by rw [if_neg (by rw [l1, nI_ltP (by omega) (by omega)]; omega)]
  have down : ∀ q, q ≤ n → ∀ M1, off [49] M M1 → (∀ i, q ≤ i → i < n → M1.1 49 i = nI (dg N n c i)) → wF_spell d 10 [.ref 43, .null, .int (nI N), .int (nI (c / N ^ (n - q))), .int (nI q + (-1))] [] s M1 Q := by
    intro q
    induction q with
    | zero =>
      intro _ M1 o1 b
      exact sgF_spell_10 (br_t m1_lt0 (hq M1 (fun i hi => b i (by omega) hi) o1))
    | succ q ih =>
      intro hq' M1 o1 b
      have hc2 : c / N ^ (n - (q + 1)) < 513 := Nat.lt_of_le_of_lt (Nat.div_le_self _ _) (by omega)
      rw [pk_m1 q]
      refine sgF_spell_10 (br_f (nI_pos (by omega)) (sp_max (by omega) ?_))
      rw [mx]
      refine sp_floorMod (by omega) hc2 (by omega) h5 ⟨vpI (by omega) (by omega), sp_max (by omega) ?_⟩
      rw [mx, nI_clamp (by omega), pk_div (by omega) (by omega) (by omega)]
      have e : c / N ^ (n - (q + 1)) / N = c / N ^ (n - q) := by
        rw [Nat.div_div_eq_div_mul, ← Nat.pow_succ, show (n - (q + 1)).succ = n - q by omega]
      rw [e]
      refine ⟨by rw [l0, nI_inj (by omega) (by omega)]; omega, ih (by omega) _ (off_si o1 (by decide)) (fun i h1 h2 => ?_)⟩
      rw [si_eq]
      by_cases z : i = q
      · subst z
        rw [row_eq]
        unfold dg
        rw [show n - 1 - i = n - (i + 1) by omega]
      · rw [row_ne z]; exact b i (by omega) h2
  have := down n (Nat.le_refl _) M off_rf (fun i h1 h2 => by omega)
  rwa [Nat.sub_self, Nat.pow_zero, Nat.div_one] at this
/-- whether a plan would do -/
def plB (g : Nat → Int32) (N T P n : Nat) (w b : Nat → Nat) (c : Nat) : Bool := decide (fst (fun i => !decide (xrF N T P (lvF g T w (dg N n c) n) 9 (50 + w i) = nI (10 + b i))) n = none)
theorem Lft_c {M0 M M' : pm_M} {g : Nat → Int32} {T P n : Nat} {w : Nat → Nat} (h : Lft M0 M g T P n w) (o : off [46, 47, 49] M M') : Lft M0 M' g T P n w := by
  obtain ⟨l1, l2, l3, l4, l5, oo, l6⟩ := h
  refine ⟨off_tr l1 (off_mo o (by decide)), KR_off o (by decide) l2, by rw [(o 43 (by decide)).1]; exact l3, by rw [(o 43 (by decide)).1]; exact l4, fun i hi => by rw [(o 48 (by decide)).1]; exact l5 i hi, oo, fun k hk => by rw [(o 51 (by decide)).1]; exact l6.1 k hk, l6.2⟩
theorem sp_wouldDo {d : Nat} {s : pm_S} {M0 M : pm_M} {g : Nat → Int32} {N T P n c : Nat} {w b : Nat → Nat} {Q : Int32 → pm_S → pm_M → Prop} (hd : 4 ≤ d) (hl : LV M0 g N T P) (hv : Vs g N T P) (hn : n ≤ 3) (hL : Lft M0 M g T P n w) (hb : ∀ i, i < n → M.1 46 i = nI (b i) ∧ b i < P) (hf : ∀ i, i < n → M.1 49 i = nI (dg N n c i)) (hq : ∀ M', Lft M0 M' g T P n w → M'.1 46 = M.1 46 → M'.1 47 = M.1 47 → M'.1 49 = M.1 49 → Q (if plB g N T P n w b c = true then 1 else 0) s M') : cI d yF_wouldDo [.ref 43, .ref 15, .ref 41] s M Q := by
  obtain ⟨d, rfl⟩ : ∃ e, d = e + 1 := ⟨d - 1, by omega⟩
  have h4 := hl.2.2.2.2.1
  have h6 := hl.2.2.2.2.2.2.2.1
  refine enF_wouldDo (sp_go (f := dg N n c) (by omega) hl hv hn hL (fun i hi => ⟨hf i hi, dg_lt h4⟩) (fun M1 L1 e46 e47 e49 r => ?_))
  have kk := hq M1 L1 e46 e47 e49
  unfold plB at kk
  refine loop_fst (L := fun i => wF_wouldDo d 8 [.ref 43, .null, .null, .int (nI i)] [] s M1 Q) (P := fun i => !decide (xrF N T P (lvF g T w (dg N n c) n) 9 (50 + w i) = nI (10 + b i))) (e := n) (K := fun r => Q (if decide (r = none) = true then 1 else 0) s M1) kk ?_ ?_
  · intro h
    exact sgF_wouldDo_8 (br_t (by rw [L1.2.2.1, nI_leP (by omega) (by omega)]; exact Nat.le_refl _) h)
  · intro i hi k1 k2
    have v3 : vp_in (nI i) 3 := vpI (by omega) (by omega)
    refine sgF_wouldDo_8 (br_f (by rw [L1.2.2.1, nI_leP (by omega) (by omega)]; omega) ⟨v3, v3, ?_⟩)
    rw [nI_clamp (by omega), e46, (hb i hi).1, nI_1]
    have hbi := (hb i hi).2
    obtain ⟨E, x1, x2, x3, x4, x5⟩ := r i hi
    have iff : M1.1 44 i = nI (b i) ↔ xrF N T P (lvF g T w (dg N n c) n) 9 (50 + w i) = nI (10 + b i) := by
      rcases x5 with ⟨y1, y2⟩ | ⟨p, y0, y1, y2⟩
      · rw [xrF_keep (E := E) (by omega) (by rw [y2]; decide), y1, y2, lI 99, nI_inj (by omega) (by omega)]
        constructor
        · intro z
          have := (m1_ne (a := b i) (by omega)).mp z.symm
          exact this.elim
        · intro z; omega
      · rw [xrF_keep (E := E) (by omega) (by rw [y2]; exact v10 (by omega)), y1, y2, nI_inj (by omega) (by omega), nI_inj (by omega) (by omega)]
        omega
    refine br_c (fun z => k2 ?_) (fun z => ?_)
    · simp [iff.mp z]
    · have : ¬ xrF N T P (lvF g T w (dg N n c) n) 9 (50 + w i) = nI (10 + b i) := fun y => z (iff.mpr y)
      have := k1 (by simp [this])
      exact this
theorem sp_search {d : Nat} {s : pm_S} {M0 M : pm_M} {g : Nat → Int32} {N T P n : Nat} {w b : Nat → Nat} {fl : Bool} {Q : Int32 → pm_S → pm_M → Prop} (hd : 5 ≤ d) (hl : LV M0 g N T P) (hv : Vs g N T P) (hn : n ≤ 3) (hL : Lft M0 M g T P n w) (hb : ∀ i, i < n → M.1 46 i = nI (b i) ∧ b i < P) (hq0 : fl = false → ∀ M', Lft M0 M' g T P n w → Q (nI (cntF (plB g N T P n w b) (N ^ n))) s M') (hq1 : fl = true → ∀ M', Lft M0 M' g T P n w → (∀ c, fst (plB g N T P n w b) (N ^ n) = some c → ∀ i, i < n → M'.1 47 i = nI (dg N n c i)) → Q (if fst (plB g N T P n w b) (N ^ n) = none then 0 else 1) s M') : cI d yF_searchPlans [.ref 43, .ref 15, .ref 41, .int (if fl = true then 1 else 0)] s M Q := by
  obtain ⟨d, rfl⟩ : ∃ e, d = e + 1 := ⟨d - 1, by omega⟩
  have h4 := hl.2.2.2.2.1
  have h5 := hl.2.2.2.2.2.1
  have h512 := pow512 (N := N) (n := n) h5 hn
  have c15 : ∀ M1, Lft M0 M1 g T P n w → M1.1 15 0 = nI N := fun M1 L1 => by rw [(L1.1 15 (by decide)).1]; exact hl.1.1.trans hl.2.1
  refine enF_searchPlans ?_
  refine loop_up (L := fun i M1 => wF_searchPlans d 6 [.ref 43, .ref 15, .ref 41, .int (if fl = true then 1 else 0), .int (nI (N ^ i)), .int (nI i), .null] [] s M1 Q) (I := fun i M1 => M1 = M) (e := n) ?_ ?_ M rfl
  · intro M1 e
    subst e
    refine sgF_searchPlans_6 (br_t (by rw [hL.2.2.1, nI_leP (by omega) (by omega)]; exact Nat.le_refl _) ?_)
    have one : ∀ c M2 (l5 : Int32), c < N ^ n → Lft M0 M2 g T P n w → (∀ i, i < n → M2.1 46 i = nI (b i) ∧ b i < P) → (plB g N T P n w b c = false → ∀ M3, Lft M0 M3 g T P n w → (∀ i, i < n → M3.1 46 i = nI (b i) ∧ b i < P) → wF_searchPlans d 36 [.ref 43, .ref 15, .ref 41, .int (if fl = true then 1 else 0), .int (nI (N ^ n)), .int l5, .int (nI (c + 1))] [] s M3 Q) → (plB g N T P n w b c = true → fl = false → ∀ M3, Lft M0 M3 g T P n w → (∀ i, i < n → M3.1 46 i = nI (b i) ∧ b i < P) → wF_searchPlans d 36 [.ref 43, .ref 15, .ref 41, .int (if fl = true then 1 else 0), .int (nI (N ^ n)), .int (l5 + 1), .int (nI (c + 1))] [] s M3 Q) → (plB g N T P n w b c = true → fl = true → ∀ M3, Lft M0 M3 g T P n w → (l5 = 0 → ∀ i, i < n → M3.1 47 i = nI (dg N n c i)) → Q (l5 + 1) s M3) → wF_searchPlans d 36 [.ref 43, .ref 15, .ref 41, .int (if fl = true then 1 else 0), .int (nI (N ^ n)), .int l5, .int (nI c)] [] s M2 Q := by
      intro c M2 l5 hc L2 b2 kF k0 k1
      refine sgF_searchPlans_36 (br_f (by rw [nI_leP (by omega) (by omega)]; omega) ?_)
      rw [c15 M2 L2]
      refine sp_spell (by omega) hn L2.2.2.1 h4 h5 hc (fun M3 f3 o3 => ?_)
      have L3 := Lft_c L2 (off_mo o3 (by decide))
      refine sp_wouldDo (b := b) (c := c) (by omega) hl hv hn L3 (fun i hi => by rw [(o3 46 (by decide)).1]; exact b2 i hi) f3 (fun M4 L4 e46 e47 e49 => ?_)
      rw [nI_1]
      have b4 : ∀ i, i < n → M4.1 46 i = nI (b i) ∧ b i < P := fun i hi => by rw [e46, (o3 46 (by decide)).1]; exact b2 i hi
      cases e : plB g N T P n w b c with
      | false => exact br_t rfl (kF e M4 L4 b4)
      | true =>
        refine br_f (by decide) ?_
        have fin : ∀ M5, Lft M0 M5 g T P n w → (∀ i, i < n → M5.1 46 i = nI (b i) ∧ b i < P) → (l5 = 0 → ∀ i, i < n → M5.1 47 i = nI (dg N n c i)) → (((if fl = true then (1 : Int32) else 0) = 0 → wF_searchPlans d 36 [.ref 43, .ref 15, .ref 41, .int (if fl = true then 1 else 0), .int (nI (N ^ n)), .int (l5 + 1), .int (nI (c + 1))] [] s M5 Q) ∧ (¬ (if fl = true then (1 : Int32) else 0) = 0 → Q (l5 + 1) s M5)) := by
          intro M5 L5 b5 z5
          cases hfl : fl with
          | false =>
            have := k0 e hfl M5 L5 b5
            rw [hfl] at this
            exact br_t rfl this
          | true => exact br_f (by decide) (k1 e hfl M5 L5 z5)
        refine br_c (fun z m1 em => ?_) (fun z => fin M4 L4 b4 (fun q => ?_))
        · subst em
          have o5 : off [46, 47, 49] M4 (pm_ri M4 47 (va_cpy (M4.1 49) (M4.1 47) 0 0 3)) := off_ri off_rf (by decide)
          refine fin _ (Lft_c L4 o5) (fun i hi => by rw [ri_ne (by decide)]; exact b4 i hi) (fun _ i hi => ?_)
          rw [ri_eq, cpy0 (by omega), e49]
          exact f3 i hi
        · rw [q] at z; exact absurd rfl z
    cases hfl : fl with
    | false =>
      rw [hfl] at one
      refine loop_up (L := fun c M2 => wF_searchPlans d 36 [.ref 43, .ref 15, .ref 41, .int (if false = true then 1 else 0), .int (nI (N ^ n)), .int (nI (cntF (plB g N T P n w b) c)), .int (nI c)] [] s M2 Q) (I := fun c M2 => Lft M0 M2 g T P n w ∧ ∀ i, i < n → M2.1 46 i = nI (b i) ∧ b i < P) (e := N ^ n) ?_ ?_ M1 ⟨hL, hb⟩
      · rintro M2 ⟨L2, b2⟩
        exact sgF_searchPlans_36 (br_t (by rw [nI_leP (by omega) (by omega)]; exact Nat.le_refl _) (hq0 hfl M2 L2))
      · rintro c M2 hc ⟨L2, b2⟩ hk
        have ec : cntF (plB g N T P n w b) (c + 1) = cntF (plB g N T P n w b) c + if plB g N T P n w b c then 1 else 0 := rfl
        rw [ec] at hk
        refine one c M2 _ hc L2 b2 (fun z M3 L3 b3 => ?_) (fun z _ M3 L3 b3 => ?_) (fun _ z => by cases z)
        · rw [z] at hk; exact hk M3 ⟨L3, b3⟩
        · rw [z] at hk
          have := hk M3 ⟨L3, b3⟩
          rw [nI_1]; exact this
    | true =>
      rw [hfl] at one
      refine loop_fst (L := fun c => ∀ M2, Lft M0 M2 g T P n w → (∀ i, i < n → M2.1 46 i = nI (b i) ∧ b i < P) → wF_searchPlans d 36 [.ref 43, .ref 15, .ref 41, .int (if true = true then 1 else 0), .int (nI (N ^ n)), .int 0, .int (nI c)] [] s M2 Q) (P := plB g N T P n w b) (e := N ^ n) (K := fun r => ∀ M', Lft M0 M' g T P n w → (∀ c, r = some c → ∀ i, i < n → M'.1 47 i = nI (dg N n c i)) → Q (if r = none then 0 else 1) s M') (hq1 hfl) ?_ ?_ M1 hL hb
      · intro hk M2 L2 b2
        exact sgF_searchPlans_36 (br_t (by rw [nI_leP (by omega) (by omega)]; exact Nat.le_refl _) (hk M2 L2 (fun c h => by cases h)))
      · intro c hc k1 k2 M2 L2 b2
        exact one c M2 0 hc L2 b2 (fun z M3 L3 b3 => k2 z M3 L3 b3) (fun _ z => by cases z) (fun z _ M3 L3 z5 => k1 z M3 L3 (fun c' h => by cases h; exact z5 rfl))
  · intro i M1 hi e hk
    subst e
    refine sgF_searchPlans_6 (br_f (by rw [hL.2.2.1, nI_leP (by omega) (by omega)]; omega) ?_)
    rw [c15 M1 hL, pk_mul, nI_1, ← Nat.pow_succ]
    exact hk M1 rfl
theorem sp_beginPlan {d : Nat} {s : pm_S} {M : pm_M} {g : Nat → Int32} {N T P r n : Nat} {f : Nat → Int64} {Q : pm_S → pm_M → Prop} (hd : 6 ≤ d) (hl : LV M g N T P) (hs : SR M 27 g T P) (hv : Vs g N T P) (hr4 : r < 4) (hr : YR M (117 + 2 * r) n f) (hn : n ≤ 3) (ok : ∀ i, i < n → okP T P f i = true) (hq : ∀ M', Lft M M' g T P n (fun i => vN f i / 10) → (∀ i, i < n → M'.1 46 i = nI (vN f i % 10)) → Q s M') : cV d yG_beginPlan [.ref 0, .ref (117 + 2 * r)] s M Q := by
  obtain ⟨d, rfl⟩ : ∃ e, d = e + 1 := ⟨d - 1, by omega⟩
  have hV := hl.2
  have h8 := hV.2.2.2.2.2.1
  have h6 := hV.2.2.2.2.2.2.1
  have hy := nY hr4
  refine enG_beginPlan hy (sp_gather (by omega) hl hs (fun M1 hK o1 => ?_))
  refine sp_fbegin (by omega) (SR_off o1 hs (by decide)) hV hv (fun M2 e8 e9 o2 => ?_)
  have o12 : off [25, 26, 42, 43] M M2 := off_tr (off_mo o1 (by decide)) (off_mo o2 (by decide))
  refine loop_up (L := fun i M3 => wG_beginPlan d 28 [.ref 0, .ref (117 + 2 * r), .int (nI i)] [] s M3 Q) (I := fun i M3 => Lft M M3 g T P i (fun i => vN f i / 10) ∧ ∀ j, j < i → M3.1 46 j = nI (vN f j % 10)) (e := n) ?_ ?_ M2 ⟨⟨off_mo o12 (by decide), KR_off o2 (by decide) hK, e8, e9, fun i h => by omega, fun _ => 0, fun k h => by omega, fun j j' _ h => by omega, fun i h => by omega⟩, fun j h => by omega⟩
  · rintro M3 ⟨L3, b3⟩
    have hr3 := Scr_YR hr4 (Lft_scr L3) hr
    exact sgG_beginPlan_28 hy (br_t (by rw [hr3.1, nI_leP (by omega) (by omega)]; exact Nat.le_refl _) (hq M3 L3 b3))
  · rintro i M3 hi ⟨L3, b3⟩ hk
    have hr3 := Scr_YR hr4 (Lft_scr L3) hr
    obtain ⟨q1, q2, q3, q4, q5⟩ := okP_1 h8 (ok i hi)
    obtain ⟨z1, z2, _⟩ := k80 _ q4
    have S3 := Lft_scr L3
    obtain ⟨l1, l2, l3, l4, l5, oo, l6⟩ := L3
    refine sgG_beginPlan_28 hy (br_f (by rw [hr3.1, nI_leP (by omega) (by omega)]; omega) (br_f (by rw [lI 3, nI_leP (by omega) (by omega)]; omega) (sp_at (by omega) hy hr3 hi ?_)))
    rw [q3, z1, lN_32]
    refine sp_fadd (n := i) (w := fun i => vN f i / 10) (by omega) (Scr_SR S3 hs) hV hv q1 (by omega) l3 l4 (frF_bt h6).1 l5 (fun j hj => (q5 j hj).1) l6 (fun M4 o' f8 f9 f48 f51 o4 => ?_)
    have ew : wA (fun i => vN f i / 10) i (vN f i / 10) = fun i => vN f i / 10 := by
      funext j
      unfold wA
      by_cases z : j = i
      · rw [if_pos z, z]
      · rw [if_neg z]
    rw [ew] at f51
    have L4 : Lft M M4 g T P (i + 1) (fun i => vN f i / 10) := by
      refine ⟨off_tr l1 (off_mo o4 (by decide)), KR_off o4 (by decide) l2, f8, f9, fun j hj => ?_, o', f51⟩
      rw [f48]
      by_cases z : j = i
      · subst z; rw [row_eq]; exact ⟨rfl, q1⟩
      · rw [row_ne z]; exact l5 j (by omega)
    refine sp_at (by omega) hy (Scr_YR hr4 (Lft_scr L4) hr) hi ⟨vpI (by omega) (by omega), ?_⟩
    rw [q3, z2, lN_32, nI_clamp (by omega), nI_1]
    refine hk _ ⟨Lft_c L4 (off_si off_rf (by decide)), fun j hj => ?_⟩
    rw [si_eq]
    by_cases z : j = i
    · subst z; rw [row_eq]
    · rw [row_ne z, (o4 46 (by decide)).1]; exact b3 j (by omega)
