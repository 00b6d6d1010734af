theorem xor_z {a b : Nat} (h : a ^^^ b = 0) : a = b := by
  apply Nat.eq_of_testBit_eq
  intro i
  have e := congrArg (fun z => Nat.testBit z i) h
  simp only [Nat.testBit_xor, Nat.zero_testBit] at e
  cases e1 : a.testBit i <;> cases e2 : b.testBit i
  · rfl
  · rw [e1, e2] at e; cases e
  · rw [e1, e2] at e; cases e
  · rfl
theorem sb_le {r S : Nat} (hr : r < 256) (hS : S < 256) (h : sbN r S = true) : r ≤ S := by
  have e : r &&& S = r := by
    apply Nat.eq_of_testBit_eq
    intro i
    rw [Nat.testBit_and]
    cases z : r.testBit i with
    | false => rfl
    | true =>
      have := sb_bt (t := i) hr hS h (by rw [bt_test]; exact z)
      rw [bt_test] at this
      rw [this]; rfl
  have := Nat.and_le_right (n := r) (m := S)
  omega
theorem bt_xor {a b t : Nat} : bt (a ^^^ b) t = (bt a t != bt b t) := by
  rw [bt_test, bt_test, bt_test, Nat.testBit_xor]
/-- one more is opened -/
theorem op_more {S o t : Nat} (hS : S < 256) (ho : o < 256) (ht : t < 8) (h : sbN o S = true) (hb : bt (S ^^^ o) t = true) : bt o t = false ∧ bt S t = true ∧ o < o ||| 2 ^ t ∧ o ||| 2 ^ t ≤ S ∧ sbN (o ||| 2 ^ t) S = true ∧ S ^^^ (o ||| 2 ^ t) = (S ^^^ o) - 2 ^ t := by
  have hx := xor_lt hS ho
  have b1 : bt o t = false ∧ bt S t = true := by
    rw [bt_xor] at hb
    cases e1 : bt o t with
    | false => rw [e1] at hb; exact ⟨rfl, by simpa using hb⟩
    | true =>
      have := sb_bt ho hS h e1
      rw [e1, this] at hb; cases hb
  have lt := (pc_or t ht o ho b1.1).2
  have o256 : o ||| 2 ^ t < 256 := or_lt (T := 8) ho ht
  have sb : sbN (o ||| 2 ^ t) S = true := by
    unfold sbN
    simp only [decide_eq_true_eq]
    apply Nat.eq_of_testBit_eq
    intro i
    simp only [Nat.testBit_and, Nat.testBit_xor, Nat.zero_testBit]
    by_cases c : i < 8
    · have t255 : Nat.testBit 255 i = true := by
        rcases (show i = 0 ∨ i = 1 ∨ i = 2 ∨ i = 3 ∨ i = 4 ∨ i = 5 ∨ i = 6 ∨ i = 7 by omega) with rfl | rfl | rfl | rfl | rfl | rfl | rfl | rfl <;> decide
      rw [t255]
      have q := bt_or (S := o) (t := t) (u := i)
      rw [bt_test, bt_test] at q
      rw [q]
      cases e : o.testBit i with
      | true =>
        have := sb_bt (t := i) ho hS h (by rw [bt_test]; exact e)
        rw [bt_test] at this
        rw [this]; rfl
      | false =>
        by_cases y : t = i
        · subst y
          have := b1.2
          rw [bt_test] at this
          rw [this]; simp
        · simp [y]
    · rw [tb_hi o256 (by omega)]; rfl
  refine ⟨b1.1, b1.2, lt, sb_le o256 hS sb, sb, ?_⟩
  apply Nat.eq_of_testBit_eq
  intro i
  have q1 := bt_rm (u := i) hx ht hb
  have q2 := bt_xor (a := S) (b := o) (t := i)
  have q3 := bt_xor (a := S) (b := o ||| 2 ^ t) (t := i)
  have q4 := bt_or (S := o) (t := t) (u := i)
  rw [← bt_test, ← bt_test, q1, q3, q4, q2]
  by_cases y : t = i
  · subst y
    rw [b1.1, b1.2]; simp
  · simp [y]
def capI (x : Nat) : Int32 := if x = 14 then 268435456 else nI x
def MO (M : pm_M) (b : Nat → Nat → Nat) (B S o0 : Nat) : Prop := ∀ o, o0 ≤ o → o ≤ S → sbN o S = true → ∀ k, k ≤ B → M.1 174 (100 * o + k) = capI (fd b B (S ^^^ o) k)
theorem MO_c {M M' : pm_M} {b : Nat → Nat → Nat} {B S o0 : Nat} (h : M'.1 174 = M.1 174) (hM : MO M b B S o0) : MO M' b B S o0 := fun o h1 h2 h3 k hk => by rw [h]; exact hM o h1 h2 h3 k hk
def mbF (b : Nat → Nat → Nat) (B r k t : Nat) : Int32 := if k + b t k ≤ B then capI (fd b B (r - 2 ^ t) (k + b t k)) else 268435456
theorem sp_moreBy {d : Nat} {s : pm_S} {M : pm_M} {g : Nat → Int32} {N T P p B S o k t : Nat} {Q : Int32 → pm_S → pm_M → Prop} (hd : 4 ≤ d) (hg : M.1 160 = g) (hV : Vd g N T P) (hp : p < P) (hB : g (41 + p) = nI B) (hB99 : B ≤ 99) (hS : S < 256) (ho : o ≤ S) (hs : sbN o S = true) (ht : t < 8) (hb : bt (S ^^^ o) t = true) (hk : k < 100) (hM : MO M (bO g p) B S (o + 1)) (hq : ∀ M', off [164, 165] M M' → Q (mbF (bO g p) B (S ^^^ o) k t) s M') : cI d yM_moreBy [.ref 159, .int (nI p), .int (nI o), .int (nI k), .int (nI t)] s M Q := by
  obtain ⟨d, rfl⟩ : ∃ e, d = e + 1 := ⟨d - 1, by omega⟩
  have h6 := hV.2.2.2.2.2.2.1
  have hok := hV.2.2.2.2.2.2.2.2.2.2.2
  obtain ⟨m1, m2, m3, m4, m5, m6⟩ := op_more hS (by omega) ht hs hb
  have bl := bO_le (g := g) (p := p) (t := t) (k := k)
  refine enM_moreBy (sp_burdenOf (g := g) (by omega) hg hok (by omega) ht (fun M1 o1 => ?_))
  have g1 := r160 o1 (by decide) hg
  have e174 : M1.1 174 = M.1 174 := (o1 174 (by decide)).1
  rw [(bnF_k g p t 0 k).1, lI 41, nI_add, nI_clamp (by omega), g1, hB, or_k t ht o (by omega), lI 100, pk_mul]
  change vp_in (nI (41 + p)) 3870 ∧ (nI k + nI (bO g p t k) ≤ nI B → vp_in (nI (100 * (o ||| 2 ^ t)) + (nI k + nI (bO g p t k))) 25600) ∧ Q (if nI k + nI (bO g p t k) ≤ nI B then M1.1 174 (nI (100 * (o ||| 2 ^ t)) + (nI k + nI (bO g p t k))).toNatClampNeg else 268435456) s M1
  rw [nI_add, nI_add, nI_clamp (by omega)]
  simp only [nI_leP (a := k + bO g p t k) (b := B) (by omega) (by omega)]
  refine ⟨vpI (by omega) (by omega), fun z => vpI (by omega) (by omega), ?_⟩
  have := hq M1 o1
  unfold mbF at this
  by_cases z : k + bO g p t k ≤ B
  · rw [if_pos z] at this ⊢
    rw [e174, hM (o ||| 2 ^ t) (by omega) m4 m5 _ z, m6]
    exact this
  · rw [if_neg z] at this ⊢
    exact this
/-- the reference's least and the class's -/
def Rl (x : Nat) (y : Int32) : Prop := (x = 14 ∧ (y = nI 268435456 ∨ y = nI 268435457)) ∨ (x < 14 ∧ y = nI x)
theorem Rl_step {b : Nat → Nat → Nat} {B r k t x : Nat} {y : Int32} (hr : r < 256) (hb : bt r t = true) (h : Rl x y) : Rl (fdS b B (fd b B) r k t x) (if y ≤ mbF b B r k t then y else mbF b B r k t) := by
  unfold fdS mbF
  have F : (268435456 : Int32) = nI 268435456 := rfl
  by_cases c : k + b t k ≤ B
  · rw [if_pos ⟨hb, c⟩, if_pos c]
    have l := fd_le (b := b) (B := B) (r := r - 2 ^ t) (k := k + b t k) (Nat.lt_of_le_of_lt (Nat.sub_le _ _) hr)
    generalize fd b B (r - 2 ^ t) (k + b t k) = v at l ⊢
    unfold capI
    by_cases v14 : v = 14
    · rw [if_pos v14, F, v14]
      rcases h with ⟨h1, h2 | h2⟩ | ⟨h1, h2⟩
      · rw [h2, if_pos (by rw [nI_leP (by omega) (by omega)]; omega)]
        exact Or.inl ⟨by omega, Or.inl rfl⟩
      · rw [h2, if_neg (by rw [nI_leP (by omega) (by omega)]; omega)]
        exact Or.inl ⟨by omega, Or.inl rfl⟩
      · rw [h2, if_pos (by rw [nI_leP (by omega) (by omega)]; omega)]
        exact Or.inr ⟨by omega, by rw [Nat.min_eq_left (by omega)]⟩
    · rw [if_neg v14]
      rcases h with ⟨h1, h2⟩ | ⟨h1, h2⟩
      · have : ¬ y ≤ nI v := by
          rcases h2 with h2 | h2 <;> rw [h2, nI_leP (by omega) (by omega)] <;> omega
        rw [if_neg this]
        exact Or.inr ⟨by omega, by rw [Nat.min_eq_right (by omega)]⟩
      · rw [h2]
        by_cases z : x ≤ v
        · rw [if_pos (by rw [nI_leP (by omega) (by omega)]; exact z), Nat.min_eq_left z]
          exact Or.inr ⟨h1, rfl⟩
        · rw [if_neg (by rw [nI_leP (by omega) (by omega)]; exact z), Nat.min_eq_right (by omega)]
          exact Or.inr ⟨by omega, rfl⟩
  · rw [if_neg (fun q => c q.2), if_neg c, F]
    rcases h with ⟨h1, h2 | h2⟩ | ⟨h1, h2⟩
    · rw [h2, if_pos (by rw [nI_leP (by omega) (by omega)]; omega)]
      exact Or.inl ⟨h1, Or.inl rfl⟩
    · rw [h2, if_neg (by rw [nI_leP (by omega) (by omega)]; omega)]
      exact Or.inl ⟨h1, Or.inl rfl⟩
    · rw [h2, if_pos (by rw [nI_leP (by omega) (by omega)]; omega)]
      exact Or.inr ⟨h1, rfl⟩
theorem Rl_cap {x : Nat} {y : Int32} (h : Rl x y) : (if 268435456 ≤ y then 268435456 else y) = capI x := by
  have F : (268435456 : Int32) = nI 268435456 := rfl
  unfold capI
  rw [F]
  rcases h with ⟨h1, h2 | h2⟩ | ⟨h1, h2⟩
  · rw [h2, if_pos h1, if_pos (by rw [nI_leP (by omega) (by omega)]; omega)]
  · rw [h2, if_pos h1, if_pos (by rw [nI_leP (by omega) (by omega)]; omega)]
  · rw [h2, if_neg (by rw [nI_leP (by omega) (by omega)]; omega), if_neg (by omega)]
theorem Rl_nobit {b : Nat → Nat → Nat} {B r k t x : Nat} {y : Int32} (hb : ¬ bt r t = true) (h : Rl x y) : Rl (fdS b B (fd b B) r k t x) y := by
  unfold fdS
  rw [if_neg (fun q => hb q.1)]; exact h
theorem sp_laysMore {d : Nat} {s : pm_S} {M : pm_M} {g : Nat → Int32} {N T P p B S : Nat} {Q : pm_S → pm_M → Prop} (hd : 5 ≤ d) (hg : M.1 160 = g) (hV : Vd g N T P) (hp : p < P) (hB : g (41 + p) = nI B) (hB99 : B ≤ 99) (hS : S < 2 ^ T) (hq : ∀ M', MO M' (bO g p) B S 0 → off [164, 165, 174] M M' → Q s M') : cV d yM_laysMore [.ref 159, .int (nI p), .int (nI S)] s M Q := by
  obtain ⟨d, rfl⟩ : ∃ e, d = e + 1 := ⟨d - 1, by omega⟩
  have h8 := hV.2.2.2.2.2.1
  have h256 := pow_le8 h8
  have hS256 : S < 256 := by omega
  have F : (268435456 : Int32) = nI 268435456 := rfl
  refine enM_laysMore ?_
  have down : ∀ q, q ≤ S + 1 → ∀ M1, off [164, 165, 174] M M1 → MO M1 (bO g p) B S q → wM_laysMore d 2 [.ref 159, .int (nI p), .int (nI S), .int (nI q + (-1)), .null, .null, .null, .null] [] s M1 Q := by
    intro q
    induction q with
    | zero =>
      intro _ M1 o1 m1
      exact sgM_laysMore_2 (br_t m1_lt0 (hq M1 m1 o1))
    | succ o ih =>
      intro hqS M1 o1 m1
      rw [pk_m1 o]
      refine sgM_laysMore_2 (br_f (nI_pos (by omega)) ?_)
      rw [sub0 (by omega) hS256]
      refine br_c (fun hs => ?_) (fun hs => ?_)
      · have hx := xor_lt (a := S) (b := o) hS256 (by omega)
        have exo : nI S &&& (nI o ^^^ (-1)) = nI (S ^^^ o) := by rw [and_cpl hS256 (by omega), ← xor_sub (by omega) hS256 hs]
        -- what is reckoned for each that was borne
        have store : ∀ f M2, off [164, 165, 174] M M2 → MO M2 (bO g p) B S (o + 1) → f = capI (fd (bO g p) B (S ^^^ o) 0) → (∀ k, k < 100 → (o = S ∨ True) → True) → wM_laysMore d 94 [.ref 159, .int (nI p), .int (nI S), .int (nI o), .int f, .int 0, .null, .null] [] s M2 Q := by
          intro f M2 o2 m2 ef _
          refine loop_up (L := fun k M3 => wM_laysMore d 94 [.ref 159, .int (nI p), .int (nI S), .int (nI o), .int f, .int (nI k), .null, .null] [] s M3 Q) (I := fun k M3 => off [164, 165, 174] M M3 ∧ MO M3 (bO g p) B S (o + 1) ∧ ∀ k', k' < k → 0 < k' → k' ≤ B → M3.1 174 (100 * o + k') = capI (fd (bO g p) B (S ^^^ o) k')) (e := 100) ?_ ?_ M2 ⟨o2, m2, fun k' h => by omega⟩
          · rintro M3 ⟨c1, c2, c3⟩
            refine sgM_laysMore_94 (br_t (by decide) ?_)
            rw [lI 100, pk_mul, nI_clamp (by omega)]
            refine ⟨vpI (by omega) (by omega), ih (by omega) _ (off_si c1 (by decide)) (fun o' h1 h2 h3 k hk => ?_)⟩
            rw [si_eq]
            by_cases e : o' = o
            · subst e
              by_cases ek : k = 0
              · subst ek; rw [Nat.add_zero, row_eq]; exact ef
              · rw [row_ne (by omega)]; exact c3 k (by omega) (by omega) hk
            · rw [row_ne (by omega)]; exact c2 o' (by omega) h2 h3 k hk
          · rintro k M3 hk ⟨c1, c2, c3⟩ hkk
            refine sgM_laysMore_94 (br_f (by rw [lI 99, nI_ltP (by omega) (by omega)]; omega) ?_)
            -- the least by each thing
            have go : ∀ y0, (0 < k → Rl (if S ^^^ o = 0 then 0 else min 14 (1 + fd (bO g p) B (S ^^^ o) 0)) y0) → wM_laysMore d 119 [.ref 159, .int (nI p), .int (nI S), .int (nI o), .int f, .int (nI k), .int y0, .int 0] [] s M3 Q := by
              intro y0 hy0
              refine loop_up (L := fun t M4 => ∀ y, (0 < k → Rl (itr (fdS (bO g p) B (fd (bO g p) B) (S ^^^ o) k) t (if S ^^^ o = 0 then 0 else min 14 (1 + fd (bO g p) B (S ^^^ o) 0))) y) → wM_laysMore d 119 [.ref 159, .int (nI p), .int (nI S), .int (nI o), .int f, .int (nI k), .int y, .int (nI t)] [] s M4 Q) (I := fun t M4 => off [164, 165] M3 M4) (e := 8) ?_ ?_ M3 off_rf y0 hy0
              · intro M4 o4 y hy
                have c1' := off_tr c1 (off_mo o4 (by decide : ∀ c, c ∈ [164, 165] → c ∈ [164, 165, 174]))
                refine sgM_laysMore_119 (br_t (by decide) ?_)
                rw [lI 100, pk_mul, nI_add, nI_clamp (by omega), nI_1]
                refine ⟨vpI (by omega) (by omega), hkk _ ⟨off_si c1' (by decide), fun o' h1 h2 h3 k' hk' => ?_, fun k' h1 h2 h3 => ?_⟩⟩
                · rw [si_eq, row_ne (by omega), (o4 174 (by decide)).1]; exact c2 o' h1 h2 h3 k' hk'
                · rw [si_eq]
                  by_cases e : k' = k
                  · subst e
                    rw [row_eq, Rl_cap (hy h2)]
                    congr 1
                    by_cases z : S ^^^ o = 0
                    · rw [if_pos z, z]
                      have nb : ∀ i, itr (fdS (bO g p) B (fd (bO g p) B) 0 k') i 0 = 0 := by
                        intro i
                        induction i with
                        | zero => rfl
                        | succ i ihi =>
                          rw [itr_s, ihi]
                          unfold fdS
                          rw [if_neg (fun q => by have := q.1; simp [bt] at this)]
                      rw [nb]; rfl
                    · rw [if_neg z]
                      have := (fd_eq (b := bO g p) (B := B) hx z (k := k')).1
                      rw [if_neg (by omega)] at this
                      exact this.symm
                  · rw [row_ne (by omega), (o4 174 (by decide)).1]; exact c3 k' (by omega) h2 h3
              · intro t M4 ht o4 hk4 y hy
                have c1' := off_tr c1 (off_mo o4 (by decide : ∀ c, c ∈ [164, 165] → c ∈ [164, 165, 174]))
                have g4 := r160 c1' (by decide) hg
                refine sgM_laysMore_119 (br_f (by rw [lI 8, nI_leP (by omega) (by omega)]; omega) ?_)
                rw [exo, nI_1]
                refine sp_isIn (by omega) (by omega) (by omega) ?_
                cases cb : bt (S ^^^ o) t with
                | false => exact br_t rfl (hk4 M4 o4 y (fun k0 => by rw [itr_s]; exact Rl_nobit (by rw [cb]; simp) (hy k0)))
                | true =>
                  have mo4 : MO M4 (bO g p) B S (o + 1) := MO_c (o4 174 (by decide)).1 c2
                  refine br_f (by decide) (sp_moreBy (by omega) g4 hV hp hB hB99 hS256 (by omega) hs ht cb hk mo4 (fun M5 o5 => ?_))
                  have stp : 0 < k → Rl (itr (fdS (bO g p) B (fd (bO g p) B) (S ^^^ o) k) (t + 1) (if S ^^^ o = 0 then 0 else min 14 (1 + fd (bO g p) B (S ^^^ o) 0))) (if y ≤ mbF (bO g p) B (S ^^^ o) k t then y else mbF (bO g p) B (S ^^^ o) k t) := fun k0 => by rw [itr_s]; exact Rl_step hx cb (hy k0)
                  refine br_c (fun z => ?_) (fun z => ?_)
                  · rw [if_pos z] at stp
                    exact hk4 M5 (off_tr o4 o5) y stp
                  · rw [if_neg z] at stp
                    exact sp_moreBy (by omega) (r160 o5 (by decide) g4) hV hp hB hB99 hS256 (by omega) hs ht cb hk (MO_c (o5 174 (by decide)).1 mo4) (fun M6 o6 => hk4 M6 (off_tr o4 (off_tr o5 o6)) _ stp)
            refine go _ (fun k0 => ?_)
            simp only [nI_inj (a := o) (b := S) (by omega) (by omega)]
            by_cases z : o = S
            · rw [if_pos z, if_pos (by rw [z, Nat.xor_self])]
              exact Or.inr ⟨by omega, rfl⟩
            · have zx : ¬ S ^^^ o = 0 := fun q => z (xor_z q).symm
              rw [if_neg z, if_neg zx, ef]
              have l := fd_le (b := bO g p) (B := B) (k := 0) hx
              unfold capI
              by_cases y : fd (bO g p) B (S ^^^ o) 0 = 14
              · rw [if_pos y, y]
                exact Or.inl ⟨rfl, Or.inr (by decide)⟩
              · rw [if_neg y, nI_1]
                exact Or.inr ⟨by omega, by congr 1; omega⟩
        -- fresh
        refine loop_up (L := fun t M2 => ∀ y, Rl (if S ^^^ o = 0 then 0 else itr (fdS (bO g p) B (fd (bO g p) B) (S ^^^ o) 0) t 14) y ∧ ¬ y = nI 268435457 → wM_laysMore d 34 [.ref 159, .int (nI p), .int (nI S), .int (nI o), .int y, .int (nI t), .null, .null] [] s M2 Q) (I := fun t M2 => off [164, 165] M1 M2) (e := 8) ?_ ?_ M1 off_rf _ ⟨?_, ?_⟩
        · rintro M2 o2 y ⟨hy, hy2⟩
          refine sgM_laysMore_34 (br_t (by decide) (store y M2 (off_tr o1 (off_mo o2 (by decide))) (MO_c (o2 174 (by decide)).1 m1) ?_ (fun _ _ _ => trivial)))
          have : (if S ^^^ o = 0 then 0 else itr (fdS (bO g p) B (fd (bO g p) B) (S ^^^ o) 0) 8 14) = fd (bO g p) B (S ^^^ o) 0 := by
            by_cases z : S ^^^ o = 0
            · rw [if_pos z, z]; rfl
            · rw [if_neg z]; exact ((fd_eq (b := bO g p) (B := B) hx z (k := 0)).2 rfl).symm
          rw [this] at hy
          rcases hy with ⟨z1, z2 | z2⟩ | ⟨z1, z2⟩
          · rw [z2]; unfold capI; rw [if_pos z1]; rfl
          · exact absurd z2 hy2
          · rw [z2]; unfold capI; rw [if_neg (by omega)]
        · rintro t M2 ht o2 hk2 y ⟨hy, hy2⟩
          have c1' := off_tr o1 (off_mo o2 (by decide : ∀ c, c ∈ [164, 165] → c ∈ [164, 165, 174]))
          have g2 := r160 c1' (by decide) hg
          refine sgM_laysMore_34 (br_f (by rw [lI 8, nI_leP (by omega) (by omega)]; omega) ?_)
          rw [exo, nI_1]
          refine sp_isIn (by omega) (by omega) (by omega) ?_
          cases cb : bt (S ^^^ o) t with
          | false =>
            refine br_t rfl (hk2 M2 o2 y ⟨?_, hy2⟩)
            by_cases z : S ^^^ o = 0
            · rw [if_pos z] at hy ⊢; exact hy
            · rw [if_neg z] at hy ⊢
              rw [itr_s]; exact Rl_nobit (by rw [cb]; simp) hy
          | true =>
            have zx : ¬ S ^^^ o = 0 := fun q => by rw [q] at cb; simp [bt] at cb
            have mo2 : MO M2 (bO g p) B S (o + 1) := MO_c (o2 174 (by decide)).1 m1
            rw [if_neg zx] at hy
            refine br_f (by decide) (sp_moreBy (k := 0) (by omega) g2 hV hp hB hB99 hS256 (by omega) hs ht cb (by omega) mo2 (fun M5 o5 => ?_))
            have stp : Rl (if S ^^^ o = 0 then 0 else itr (fdS (bO g p) B (fd (bO g p) B) (S ^^^ o) 0) (t + 1) 14) (if y ≤ mbF (bO g p) B (S ^^^ o) 0 t then y else mbF (bO g p) B (S ^^^ o) 0 t) := by rw [if_neg zx, itr_s]; exact Rl_step hx cb hy
            have mb2 : ¬ mbF (bO g p) B (S ^^^ o) 0 t = nI 268435457 := by
              unfold mbF capI
              have l := fd_le (b := bO g p) (B := B) (r := (S ^^^ o) - 2 ^ t) (k := 0 + bO g p t 0) (Nat.lt_of_le_of_lt (Nat.sub_le _ _) hx)
              split
              · split
                · rw [F, nI_inj (by omega) (by omega)]; omega
                · rw [nI_inj (by omega) (by omega)]; omega
              · rw [F, nI_inj (by omega) (by omega)]; omega
            refine br_c (fun z => ?_) (fun z => ?_)
            · rw [if_pos z] at stp
              exact hk2 M5 (off_tr o2 o5) y ⟨stp, hy2⟩
            · rw [if_neg z] at stp
              exact sp_moreBy (k := 0) (by omega) (r160 o5 (by decide) g2) hV hp hB hB99 hS256 (by omega) hs ht cb (by omega) (MO_c (o5 174 (by decide)).1 mo2) (fun M6 o6 => hk2 M6 (off_tr o2 (off_tr o5 o6)) _ ⟨stp, mb2⟩)
        · simp only [nI_inj (a := o) (b := S) (by omega) (by omega)]
          by_cases z : o = S
          · rw [if_pos z, if_pos (by rw [z, Nat.xor_self])]
            exact Or.inr ⟨by omega, rfl⟩
          · have zx : ¬ S ^^^ o = 0 := fun q => z (xor_z q).symm
            rw [if_neg z, if_neg zx]
            exact Or.inl ⟨rfl, Or.inl rfl⟩
        · simp only [nI_inj (a := o) (b := S) (by omega) (by omega)]
          split
          · rw [l0, nI_inj (by omega) (by omega)]; omega
          · rw [F, nI_inj (by omega) (by omega)]; omega
      · refine ih (by omega) M1 o1 (fun o' h1 h2 h3 k hk => ?_)
        by_cases e : o' = o
        · subst e; exact absurd h3 hs
        · exact m1 o' (by omega) h2 h3 k hk
  have := down (S + 1) (Nat.le_refl _) M off_rf (fun o h1 h2 => by omega)
  rwa [pk_m1] at this
