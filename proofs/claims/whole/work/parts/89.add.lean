theorem setF_bt {b : Nat → Bool} {n p : Nat} (hp : p < n) : bt (setF b n) p = b p := by
  have : ∀ n, (∀ p, p < n → bt (setF b n) p = b p) := by
    intro n
    induction n with
    | zero => intro p h; omega
    | succ n ih =>
      intro p hp
      have e : setF b (n + 1) = setF b n + (if b n then 2 ^ n else 0) := rfl
      have hlt : setF b n < 2 ^ n := setF_lt
      cases c : b n with
      | false =>
        rw [c] at e
        rw [e]
        by_cases z : p = n
        · subst z
          show bt (setF b p + 0) p = b p
          rw [c]
          unfold bt
          rw [Nat.add_zero, Nat.div_eq_of_lt hlt]; rfl
        · exact ih p (by omega)
      | true =>
        rw [c] at e
        have e2 : setF b n + 2 ^ n = setF b n ||| 2 ^ n := by
          have := Nat.two_pow_add_eq_or_of_lt hlt 1
          rw [Nat.mul_one] at this
          rw [Nat.add_comm, this, Nat.or_comm]
        rw [e, if_pos rfl, e2, bt_or]
        by_cases z : p = n
        · subst z; rw [c]; simp
        · rw [ih p (by omega)]; simp; intro q; omega
  exact this n p hp
/-- who holds a thing -/
def hoF (g : Nat → Int32) (P t : Nat) : Option Nat := fst (fun p => decide (g (50 + t) = nI (10 + p))) P
theorem hoF_some {g : Nat → Int32} {P t p : Nat} (h6 : P ≤ 6) (hp : p < P) (e : g (50 + t) = nI (10 + p)) : hoF g P t = some p := by
  refine fst_some hp (by simp [e]) (fun j hj => ?_)
  simp only [decide_eq_false_iff_not]
  rw [e, nI_inj (by omega) (by omega)]; omega
theorem hoF_none {g : Nat → Int32} {P t : Nat} (e : ∀ p, p < P → ¬ g (50 + t) = nI (10 + p)) : hoF g P t = none := fst_none (fun i hi => by simp [e i hi])
theorem sp_holderOf {d : Nat} {s : pm_S} {M : pm_M} {g : Nat → Int32} {N T P t : Nat} {Q : Int32 → pm_S → pm_M → Prop} (hd : 1 ≤ d) (hs : SR M 27 g T P) (hV : Vd g N T P) (hv : Vs g N T P) (ht : t < T) (hq : Q (oI (hoF g P t)) s M) : cI d yS_holderOf [.ref 27, .int (nI t)] s M Q := by
  obtain ⟨d, rfl⟩ : ∃ e, d = e + 1 := ⟨d - 1, by omega⟩
  have h8 := hV.2.2.2.2.2.1
  have h6 := hV.2.2.2.2.2.2.1
  have h5 := hV.2.2.2.2.1
  have e : M.1 28 t = g (50 + t) := (hs.2.2.2.1 t ht).1
  have v8 : vp_in (nI t) 8 := vpI (by omega) (by omega)
  refine enS_holderOf (br_f (nI_pos (by omega)) (br_f (by rw [lI 8, nI_leP (by omega) (by omega)]; omega) ⟨v8, ?_⟩))
  rw [nI_clamp (by omega), e]
  rcases hv.2.1 t ht with ⟨k, k1, k2⟩ | ⟨p, p1, p2⟩ | k2
  · rw [hoF_none (fun p hp => by rw [k2, nI_inj (by omega) (by omega)]; omega)] at hq
    exact br_t (by rw [k2, lI 10, nI_ltP (by omega) (by omega)]; omega) hq
  · rw [hoF_some h6 p1 p2] at hq
    rw [p2]
    refine br_f (v10 (by omega)) ⟨v8, br_t (by rw [lI 16, nI_ltP (by omega) (by omega)]; omega) ⟨v8, ?_⟩⟩
    rw [lI 10, pk_sub (by omega), show 10 + p - 10 = p by omega]
    exact hq
  · rw [hoF_none (fun p hp => by rw [k2, nI_inj (by omega) (by omega)]; omega)] at hq
    rw [k2]
    exact br_f (by decide) ⟨v8, br_f (by decide) hq⟩
def rmO (H : Nat) (r : Option Nat) : Nat := match r with
  | none => H
  | some p => H - H / 2 ^ p % 2 * 2 ^ p
def wA (w : Nat → Nat) (n t : Nat) : Nat → Nat := fun i => if i = n then t else w i
theorem sp_fbegin {d : Nat} {s : pm_S} {M : pm_M} {g : Nat → Int32} {N T P : Nat} {Q : pm_S → pm_M → Prop} (hd : 3 ≤ d) (hs : SR M 27 g T P) (hV : Vd g N T P) (hv : Vs g N T P) (hq : ∀ M', M'.1 43 8 = nI 0 → M'.1 43 9 = nI (setF (holdB g T) P) ^^^ (-1) → off [43] M M' → Q s M') : cV d yF_begin [.ref 43, .ref 27] s M Q := by
  obtain ⟨d, rfl⟩ : ∃ e, d = e + 1 := ⟨d - 1, by omega⟩
  refine enF_begin (sp_holderBits (N := N) (by omega) isS_27 (SR_cells hs (fun c hc => si_ne (by simp at hc; omega))) hV hv (hq _ ?_ ?_ (off_si (off_si off_rf (by decide)) (by decide))))
  · rw [si_eq, row_ne (by decide), si_eq, row_eq]; rfl
  · rw [si_eq, row_eq]
theorem sp_fadd {d : Nat} {s : pm_S} {M : pm_M} {g : Nat → Int32} {N T P n t H : Nat} {w o : Nat → Nat} {Q : pm_S → pm_M → Prop} (hd : 2 ≤ d) (hs : SR M 27 g T P) (hV : Vd g N T P) (hv : Vs g N T P) (ht : t < T) (hn : n < 3) (h43 : M.1 43 8 = nI n) (hf : M.1 43 9 = nI H ^^^ (-1)) (hH : H < 64) (hw : ∀ i, i < n → M.1 48 i = nI (w i) ∧ w i < T) (hne : ∀ i, i < n → w i ≠ t) (hO : ORD M n w o) (hq : ∀ M' o', M'.1 43 8 = nI (n + 1) → M'.1 43 9 = nI (rmO H (hoF g P t)) ^^^ (-1) → M'.1 48 = pm_row (M.1 48) n (nI t) → ORD M' (n + 1) (wA w n t) o' → off [43, 48, 51] M M' → Q s M') : cV d yF_add [.ref 43, .int (nI t), .ref 27] s M Q := by
  obtain ⟨d, rfl⟩ : ∃ e, d = e + 1 := ⟨d - 1, by omega⟩
  have h8 := hV.2.2.2.2.2.1
  have h6 := hV.2.2.2.2.2.2.1
  -- the loop
  have loop : ∀ k, k ≤ n → ∀ M1, off [43, 48, 51] M M1 → M1.1 43 8 = nI n → M1.1 43 9 = nI (rmO H (hoF g P t)) ^^^ (-1) → M1.1 48 = pm_row (M.1 48) n (nI t) → (∀ j, j < k → M1.1 51 j = nI (o j)) → (∀ j, k < j → j ≤ n → M1.1 51 j = nI (o (j - 1))) → (∀ j, k ≤ j → j < n → t < w (o j)) → wF_add d 48 [.ref 43, .int (nI t), .null, .null, .int (nI k)] [] s M1 Q := by
    intro k
    have stop : ∀ k, k ≤ n → ∀ M1, off [43, 48, 51] M M1 → M1.1 43 8 = nI n → M1.1 43 9 = nI (rmO H (hoF g P t)) ^^^ (-1) → M1.1 48 = pm_row (M.1 48) n (nI t) → (∀ j, j < k → M1.1 51 j = nI (o j)) → (∀ j, k < j → j ≤ n → M1.1 51 j = nI (o (j - 1))) → (∀ j, k ≤ j → j < n → t < w (o j)) → (0 < k → w (o (k - 1)) ≤ t) → Q s (pm_si (pm_si M1 51 k (nI n)) 43 8 (nI n + 1)) := by
      intro k hk M1 o1 b8 b9 b48 lo hi gt le
      rw [nI_1]
      refine hq _ (fun j => if j < k then o j else if j = k then n else o (j - 1)) (by rw [si_eq, row_eq]) (by rw [si_eq, row_ne (by decide), si_ne (by decide)]; exact b9) (by rw [si_ne (by decide), si_ne (by decide)]; exact b48) ⟨?_, ?_, ?_⟩ (off_si (off_si o1 (by decide)) (by decide))
      · intro j hj
        rw [si_ne (by decide), si_eq]
        dsimp only
        by_cases c1 : j < k
        · rw [if_pos c1, row_ne (by omega)]
          have := (hO.1 j (by omega)).2
          exact ⟨lo j c1, by omega⟩
        · rw [if_neg c1]
          by_cases c2 : j = k
          · subst c2; rw [if_pos rfl, row_eq]; exact ⟨rfl, by omega⟩
          · rw [if_neg c2, row_ne c2]
            have := (hO.1 (j - 1) (by omega)).2
            exact ⟨hi j (by omega) (by omega), by omega⟩
      · have wo : ∀ j, j < n → wA w n t (o j) = w (o j) := by
          intro j hj
          have := (hO.1 j hj).2
          unfold wA
          rw [if_neg (by omega)]
        have wn : wA w n t n = t := by unfold wA; rw [if_pos rfl]
        intro j j' hjj hj'
        dsimp only
        by_cases a1 : j' < k
        · rw [if_pos (by omega), if_pos a1, wo j (by omega), wo j' (by omega)]
          exact hO.2.1 j j' hjj (by omega)
        · rw [if_neg a1]
          by_cases a2 : j' = k
          · rw [if_pos a2, if_pos (by omega), wo j (by omega), wn]
            have l := le (by omega)
            by_cases e : j = k - 1
            · have ne := hne (o (k - 1)) (hO.1 (k - 1) (by omega)).2
              rw [e]; omega
            · have := hO.2.1 j (k - 1) (by omega) (by omega)
              omega
          · rw [if_neg a2, wo (j' - 1) (by omega)]
            have g1 := gt (j' - 1) (by omega) (by omega)
            by_cases b1 : j < k
            · rw [if_pos b1, wo j (by omega)]
              exact hO.2.1 j (j' - 1) (by omega) (by omega)
            · rw [if_neg b1]
              by_cases b2 : j = k
              · rw [if_pos b2, wn]; exact g1
              · rw [if_neg b2, wo (j - 1) (by omega)]
                exact hO.2.1 (j - 1) (j' - 1) (by omega) (by omega)
      · intro i hi'
        by_cases e : i = n
        · exact ⟨k, by omega, by dsimp only; rw [if_neg (by omega), if_pos rfl, e]⟩
        · obtain ⟨j, j1, j2⟩ := hO.2.2 i (by omega)
          by_cases c1 : j < k
          · exact ⟨j, by omega, by dsimp only; rw [if_pos c1, j2]⟩
          · exact ⟨j + 1, by omega, by dsimp only; rw [if_neg (by omega), if_neg (by omega), Nat.add_sub_cancel, j2]⟩
    induction k with
    | zero =>
      intro hk M1 o1 b8 b9 b48 lo hi gt
      refine sgF_add_48 (br_t (by decide) ⟨vpI (by omega) (by omega), ?_⟩)
      rw [b8, nI_clamp (by omega)]
      exact stop 0 hk M1 o1 b8 b9 b48 lo hi gt (fun h => by omega)
    | succ k ih =>
      intro hk M1 o1 b8 b9 b48 lo hi gt
      have ok := (hO.1 k (by omega)).2
      have e51 := lo k (by omega)
      have e48 : M1.1 48 (o k) = nI (w (o k)) := by rw [b48, row_ne (by omega)]; exact (hw (o k) ok).1
      have wl := (hw (o k) ok).2
      refine sgF_add_48 (br_f (by rw [l0, nI_leP (by omega) (by omega)]; omega) ?_)
      rw [sub1, pk_m1 k, nI_clamp (by omega), e51, nI_clamp (by omega), e48, nI_leP (by omega) (by omega), b8, nI_clamp (by omega)]
      refine ⟨vpI (by omega) (by omega), vpI (by omega) (by omega), br_c (fun z => ⟨vpI (by omega) (by omega), ?_⟩) (fun z => ⟨vpI (by omega) (by omega), vpI (by omega) (by omega), ?_⟩)⟩
      · exact stop (k + 1) hk M1 o1 b8 b9 b48 lo hi gt (fun _ => z)
      · refine ih (by omega) _ (off_si o1 (by decide)) (by rw [si_ne (by decide)]; exact b8) (by rw [si_ne (by decide)]; exact b9) (by rw [si_ne (by decide)]; exact b48) (fun j hj => ?_) (fun j h1 h2 => ?_) (fun j h1 h2 => ?_)
        · rw [si_eq, row_ne (by omega)]; exact lo j (by omega)
        · rw [si_eq]
          by_cases e : j = k + 1
          · subst e; rw [row_eq, Nat.add_sub_cancel]
          · rw [row_ne e]; exact hi j (by omega) h2
        · by_cases e : j = k
          · subst e; omega
          · exact gt j (by omega) h2
  refine enF_add (br_t (by rw [h43, lI 3, nI_ltP (by omega) (by omega)]; exact hn) (sp_holderOf (by omega) hs hV hv ht ?_))
  rw [h43, nI_clamp (by omega)]
  cases e : hoF g P t with
  | none =>
    refine br_t rfl ⟨vpI (by omega) (by omega), loop n (Nat.le_refl _) _ (off_si off_rf (by decide)) (by rw [si_ne (by decide)]; exact h43) (by rw [si_ne (by decide), e]; exact hf) si_eq (fun j hj => by rw [si_ne (by decide)]; exact (hO.1 j hj).1) (fun j h1 h2 => by omega) (fun j h1 h2 => by omega)⟩
  | some p =>
    have hp : p < P := by
      rcases fst_cases (fun p => decide (g (50 + t) = nI (10 + p))) P with ⟨h1, _⟩ | ⟨i, h1, h2, _⟩
      · unfold hoF at e; rw [h1] at e; cases e
      · unfold hoF at e; rw [h1] at e; cases e; exact h2
    refine br_f (by show ¬ nI p = -1; rw [m1_ne (by omega)]; simp) ⟨vpI (by omega) (by omega), loop n (Nat.le_refl _) _ (off_si (off_si off_rf (by decide)) (by decide)) (by rw [si_ne (by decide), si_eq, row_ne (by decide)]; exact h43) ?_ (by rw [si_eq, si_ne (by decide)]) (fun j hj => by rw [si_ne (by decide), si_ne (by decide)]; exact (hO.1 j hj).1) (fun j h1 h2 => by omega) (fun j h1 h2 => by omega)⟩
    rw [si_ne (by decide), si_eq, row_eq, hf, e]
    exact fr_or H hH p (by omega)
