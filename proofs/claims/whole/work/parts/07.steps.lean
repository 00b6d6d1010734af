theorem fv_ref {s : pm_S} {M : pm_M} {a kf j : Nat} (h : (EE s).2.2.2 a kf = some j) : pm_fv (EE s) M a kf 2 = .ref j := congrArg pm_rf h
theorem pn {cal : pm_C} {b : ByteArray} {o : Nat} {rt : Option FieldType} {fi : Bool} {pc : Nat} {ls st : List Value} {E : pm_E} {M : pm_M} {Q : Option Value → pm_E → pm_M → Prop} (pc' : Nat) (hp : pc = pc') (h : pm_wp cal b o rt fi pc' ls st E M Q) : pm_wp cal b o rt fi pc ls st E M Q := by subst hp; exact h
theorem al_ok {s : pm_S} {a q n : Nat} (h1 : a < (EE s).1) (h2 : (EE s).2.2.1 a = (q, n)) (h3 : q < 6) : (a < (EE s).1 ∨ a = 4000) ∧ ((EE s).2.2.1 a).1 < 6 := ⟨Or.inl h1, by rw [h2]; exact h3⟩
theorem al_len {s : pm_S} {a q n : Nat} {v : Int32} (h2 : (EE s).2.2.1 a = (q, n)) (hv : Int32.ofNat n = v) : Int32.ofNat (pm_al (EE s) a) = v := by unfold pm_al; rw [h2]; exact hv
theorem al_in {s : pm_S} {a q n : Nat} {i : Int32} (h2 : (EE s).2.2.1 a = (q, n)) (hi : vp_in i n) : vp_in i (pm_al (EE s) a) := by unfold pm_al; rw [h2]; exact hi
theorem ac_le {s : pm_S} {a q n k : Nat} (h2 : (EE s).2.2.1 a = (q, n)) (hi : k ≤ n) : k ≤ pm_al (EE s) a := by unfold pm_al; rw [h2]; exact hi
theorem vp_lit {i : Int32} {k n : Nat} (h : i.toNatClampNeg = k) (h0 : ¬ i < 0) (hk : k < n) : vp_in i n := by
  rintro (q | q)
  · exact h0 q
  · omega
theorem vp_nat {i : Int32} {n : Nat} (h : vp_in i n) : i.toNatClampNeg < n := Nat.not_le.mp fun q => h (Or.inr q)
theorem t_tablehole {cal : pm_C} {b : ByteArray} {o : Nat} {rt : Option FieldType} {fi : Bool} {pc : Nat} {ls st : List Value} {E : pm_E} {M : pm_M} {Q : Option Value → pm_E → pm_M → Prop} {x : Int32} {k dflt lo hi : Int} {offs : Array Int} {len tgt : Nat} (hc : decode b pc = .ok (.tableswitch dflt lo hi offs, len)) (hx : x.toInt = k) (ht : (pc : Int) + (if k < lo ∨ hi < k then dflt else (offs[(k - lo).toNat]?).getD dflt) = (tgt : Int)) (hs : ¬ (k < lo ∨ hi < k) → (k - lo).toNat < offs.size) (h : pm_wp cal b o rt fi tgt ls st E M Q) : pm_wp cal b o rt fi pc ls (.int x :: st) E M Q := by
  subst hx
  exact s_tableswitch hc ht hs h
theorem or01 {c : Prop} [Decidable c] {a b : Int32} (ha : a = 0 ∨ a = 1) (hb : b = 0 ∨ b = 1) : (if c then a else b) = 0 ∨ (if c then a else b) = 1 := by split <;> assumption
theorem mut_lt58 {s : pm_S} {x : Nat} (h : x = 62 ∨ x = 63) : x < (EE s).1 := by show x < 185; omega
theorem mut_sh58 {s : pm_S} {x : Nat} (h : x = 62 ∨ x = 63) : (EE s).2.2.1 x = (0, 100) := by rcases h with rfl | rfl <;> rfl
theorem mut_lt64 {s : pm_S} {x : Nat} (h : x = 65 ∨ x = 66) : x < (EE s).1 := by show x < 185; omega
theorem mut_sh64 {s : pm_S} {x : Nat} (h : x = 65 ∨ x = 66) : (EE s).2.2.1 x = (1, 1000) := by rcases h with rfl | rfl <;> rfl
theorem t_arraycopy {cal : pm_C} {b : ByteArray} {o : Nat} {rt : Option FieldType} {fi : Bool} {pc : Nat} {ls st : List Value} {E : pm_E} {M : pm_M} {Q : Option Value → pm_E → pm_M → Prop} {ix a c : Nat} {sp dp m : Int32} {k1 k2 k3 : Nat} (hc : decode b pc = .ok (.invokestatic ix, 3)) (ht : pm_ac o ix = true) (h1 : a < E.1) (h2 : c < E.1) (h3 : (E.2.2.1 a).1 = 0) (h4 : (E.2.2.1 c).1 = 0) (h5 : ¬ sp < 0) (h6 : ¬ dp < 0) (h7 : ¬ m < 0) (h8 : sp.toNatClampNeg + m.toNatClampNeg ≤ pm_al E a) (h9 : dp.toNatClampNeg + m.toNatClampNeg ≤ pm_al E c) (hs : pm_cat st ≤ 8) (e1 : sp.toNatClampNeg = k1) (e2 : dp.toNatClampNeg = k2) (e3 : m.toNatClampNeg = k3) (h : pm_wp cal b o rt fi (pc + 3) ls st E (pm_ri M c (va_cpy (M.1 a) (M.1 c) k1 k2 k3)) Q) : pm_wp cal b o rt fi pc ls (.int m :: .int dp :: .ref c :: .int sp :: .ref a :: st) E M Q := by
  subst e1; subst e2; subst e3
  exact s_arraycopy hc ht h1 h2 h3 h4 h5 h6 h7 h8 h9 hs h
theorem sp_58_3 {cal : pm_C} {b : ByteArray} {o : Nat} {rt : Option FieldType} {fi : Bool} {pc : Nat} {ls st : List Value} {s s' : pm_S} {x : Nat} {M : pm_M} {Q : Option Value → pm_E → pm_M → Prop} (hs : s' = (s.1, x, s.2.2.1, s.2.2.2.1, s.2.2.2.2.1, s.2.2.2.2.2)) (h : pm_wp cal b o rt fi pc ls st (EE s') M Q) : pm_wp cal b o rt fi pc ls st (pm_sp (EE s) 58 3 (some x)) M Q := by
  have e : pm_sp (EE s) 58 3 (some x) = EE s' := by
    subst hs
    refine Prod.ext rfl (Prod.ext rfl (Prod.ext rfl ?_))
    funext q j
    simp only [pm_sp, pm_up, pm_row]
    by_cases h1 : q = 58
    · subst h1
      by_cases h2 : j = 3
      · subst h2; rfl
      · simp only [if_true, if_neg h2]
        match j, h2 with
        | 0, h2 => rfl
        | 1, h2 => rfl
        | 2, h2 => rfl
        | 3, h2 => exact absurd rfl h2
        | 4, h2 => rfl
        | 5, h2 => rfl
        | 6, h2 => rfl
        | 7, h2 => rfl
        | 8, h2 => rfl
        | j + 9, _ => rfl
    · simp only [EE, if_neg h1]
      rfl
  rw [e]; exact h
theorem sp_58_4 {cal : pm_C} {b : ByteArray} {o : Nat} {rt : Option FieldType} {fi : Bool} {pc : Nat} {ls st : List Value} {s s' : pm_S} {x : Nat} {M : pm_M} {Q : Option Value → pm_E → pm_M → Prop} (hs : s' = (s.1, s.2.1, x, s.2.2.2.1, s.2.2.2.2.1, s.2.2.2.2.2)) (h : pm_wp cal b o rt fi pc ls st (EE s') M Q) : pm_wp cal b o rt fi pc ls st (pm_sp (EE s) 58 4 (some x)) M Q := by
  have e : pm_sp (EE s) 58 4 (some x) = EE s' := by
    subst hs
    refine Prod.ext rfl (Prod.ext rfl (Prod.ext rfl ?_))
    funext q j
    simp only [pm_sp, pm_up, pm_row]
    by_cases h1 : q = 58
    · subst h1
      by_cases h2 : j = 4
      · subst h2; rfl
      · simp only [if_true, if_neg h2]
        match j, h2 with
        | 0, h2 => rfl
        | 1, h2 => rfl
        | 2, h2 => rfl
        | 3, h2 => rfl
        | 4, h2 => exact absurd rfl h2
        | 5, h2 => rfl
        | 6, h2 => rfl
        | 7, h2 => rfl
        | 8, h2 => rfl
        | j + 9, _ => rfl
    · simp only [EE, if_neg h1]
      rfl
  rw [e]; exact h
theorem sp_58_5 {cal : pm_C} {b : ByteArray} {o : Nat} {rt : Option FieldType} {fi : Bool} {pc : Nat} {ls st : List Value} {s s' : pm_S} {x : Nat} {M : pm_M} {Q : Option Value → pm_E → pm_M → Prop} (hs : s' = (s.1, s.2.1, s.2.2.1, some x, s.2.2.2.2.1, s.2.2.2.2.2)) (h : pm_wp cal b o rt fi pc ls st (EE s') M Q) : pm_wp cal b o rt fi pc ls st (pm_sp (EE s) 58 5 (some x)) M Q := by
  have e : pm_sp (EE s) 58 5 (some x) = EE s' := by
    subst hs
    refine Prod.ext rfl (Prod.ext rfl (Prod.ext rfl ?_))
    funext q j
    simp only [pm_sp, pm_up, pm_row]
    by_cases h1 : q = 58
    · subst h1
      by_cases h2 : j = 5
      · subst h2; rfl
      · simp only [if_true, if_neg h2]
        match j, h2 with
        | 0, h2 => rfl
        | 1, h2 => rfl
        | 2, h2 => rfl
        | 3, h2 => rfl
        | 4, h2 => rfl
        | 5, h2 => exact absurd rfl h2
        | 6, h2 => rfl
        | 7, h2 => rfl
        | 8, h2 => rfl
        | j + 9, _ => rfl
    · simp only [EE, if_neg h1]
      rfl
  rw [e]; exact h
theorem sp_64_1 {cal : pm_C} {b : ByteArray} {o : Nat} {rt : Option FieldType} {fi : Bool} {pc : Nat} {ls st : List Value} {s s' : pm_S} {x : Nat} {M : pm_M} {Q : Option Value → pm_E → pm_M → Prop} (hs : s' = (s.1, s.2.1, s.2.2.1, s.2.2.2.1, x, s.2.2.2.2.2)) (h : pm_wp cal b o rt fi pc ls st (EE s') M Q) : pm_wp cal b o rt fi pc ls st (pm_sp (EE s) 64 1 (some x)) M Q := by
  have e : pm_sp (EE s) 64 1 (some x) = EE s' := by
    subst hs
    refine Prod.ext rfl (Prod.ext rfl (Prod.ext rfl ?_))
    funext q j
    simp only [pm_sp, pm_up, pm_row]
    by_cases h1 : q = 64
    · subst h1
      by_cases h2 : j = 1
      · subst h2; rfl
      · simp only [if_true, if_neg h2]
        match j, h2 with
        | 0, h2 => rfl
        | 1, h2 => exact absurd rfl h2
        | 2, h2 => rfl
        | j + 3, _ => rfl
    · simp only [EE, if_neg h1]
      rfl
  rw [e]; exact h
theorem sp_64_2 {cal : pm_C} {b : ByteArray} {o : Nat} {rt : Option FieldType} {fi : Bool} {pc : Nat} {ls st : List Value} {s s' : pm_S} {x : Nat} {M : pm_M} {Q : Option Value → pm_E → pm_M → Prop} (hs : s' = (s.1, s.2.1, s.2.2.1, s.2.2.2.1, s.2.2.2.2.1, x)) (h : pm_wp cal b o rt fi pc ls st (EE s') M Q) : pm_wp cal b o rt fi pc ls st (pm_sp (EE s) 64 2 (some x)) M Q := by
  have e : pm_sp (EE s) 64 2 (some x) = EE s' := by
    subst hs
    refine Prod.ext rfl (Prod.ext rfl (Prod.ext rfl ?_))
    funext q j
    simp only [pm_sp, pm_up, pm_row]
    by_cases h1 : q = 64
    · subst h1
      by_cases h2 : j = 2
      · subst h2; rfl
      · simp only [if_true, if_neg h2]
        match j, h2 with
        | 0, h2 => rfl
        | 1, h2 => rfl
        | 2, h2 => exact absurd rfl h2
        | j + 3, _ => rfl
    · simp only [EE, if_neg h1]
      rfl
  rw [e]; exact h
