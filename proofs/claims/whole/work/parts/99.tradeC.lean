def trS (g : Nat → Int32) (T : Nat) (x : Nat × (Nat → Int32)) : Nat × (Nat → Int32) := (dfN x.1 (goF g T x.1 6), fun p => if bt (goF g T x.1 6) p = true then oI (heldF g T (ptF g T x.1 p)) else x.2 p)
def trF (g : Nat → Int32) (T P k : Nat) : Nat × (Nat → Int32) := itr (fun _ x => trS g T x) k (setF (holdB g T) P, fun _ => -1)
def rdF (g : Nat → Int32) (T P : Nat) : Nat := match fst (fun k => decide ((trF g T P k).1 = 0)) 6 with
  | some k => k
  | none => 6
theorem goF_lt {g : Nat → Int32} {T L : Nat} : goF g T L 6 < 64 := setF_lt
theorem goF_bt {g : Nat → Int32} {T L p : Nat} (hp : p < 6) : bt (goF g T L 6) p = (bt L p && rgB (ptF g T L) p) := setF_bt hp
theorem trF_ok {g : Nat → Int32} {N T P : Nat} (hV : Vd g N T P) (k : Nat) : okL g T P (trF g T P k).1 := by
  have h6 := hV.2.2.2.2.2.2.1
  induction k with
  | zero =>
    have e : setF (holdB g T) P < 2 ^ P := setF_lt
    have h2 : 2 ^ P ≤ 2 ^ 6 := Nat.pow_le_pow_right (by omega) h6
    refine ⟨show setF (holdB g T) P < 64 by omega, fun q hq hb => ?_⟩
    change bt (setF (holdB g T) P) q = true at hb
    by_cases c : q < P
    · rw [setF_bt c] at hb
      unfold holdB at hb
      refine ⟨c, ?_⟩
      cases e : heldF g T q with
      | none => rw [e] at hb; simp at hb
      | some t => exact ⟨t, rfl⟩
    · exfalso
      unfold bt at hb
      have : setF (holdB g T) P < 2 ^ q := Nat.lt_of_lt_of_le e (Nat.pow_le_pow_right (by omega) (by omega))
      rw [Nat.div_eq_of_lt this] at hb
      simp at hb
  | succ k ih =>
    show okL g T P (dfN (trF g T P k).1 (goF g T (trF g T P k).1 6))
    refine ⟨(df_bit _ ih.1 _ goF_lt).2, fun q hq hb => ?_⟩
    rw [df_bt q hq _ ih.1 _ goF_lt] at hb
    simp only [Bool.and_eq_true] at hb
    exact ih.2 q hq hb.1
theorem cnt_lt {b b' : Nat → Bool} {n i : Nat} (hi : i < n) (h1 : b i = true) (h2 : b' i = false) (h3 : ∀ j, j < n → b' j = true → b j = true) : cntF b' n < cntF b n := by
  have le : ∀ m, m ≤ n → cntF b' m ≤ cntF b m := by
    intro m
    induction m with
    | zero => intro _; exact Nat.le_refl _
    | succ m ih =>
      intro hm
      have e : ∀ c : Nat → Bool, cntF c (m + 1) = cntF c m + if c m then 1 else 0 := fun c => rfl
      rw [e, e]
      have := ih (by omega)
      cases c : b' m with
      | false => simp; omega
      | true => rw [h3 m (by omega) c]; simp; omega
  induction n with
  | zero => omega
  | succ n ih =>
    have e : ∀ c : Nat → Bool, cntF c (n + 1) = cntF c n + if c n then 1 else 0 := fun c => rfl
    rw [e, e]
    by_cases z : i = n
    · subst z
      have := le i (by omega)
      rw [h1, h2]; simp; omega
    · have := ih (by omega) (fun j hj => h3 j (by omega)) (fun m hm => le m (by omega))
      cases c : b' n with
      | false => simp; omega
      | true => rw [h3 n (by omega) c]; simp; omega
theorem trF_m {g : Nat → Int32} {N T P : Nat} (hV : Vd g N T P) (k : Nat) : (trF g T P k).1 = 0 ∨ cntF (bt (trF g T P k).1) 6 + k ≤ 6 := by
  induction k with
  | zero => exact Or.inr (by have := cnt_le (b := bt (trF g T P 0).1) (n := 6); omega)
  | succ k ih =>
    have ok := trF_ok (g := g) hV k
    have e : (trF g T P (k + 1)).1 = dfN (trF g T P k).1 (goF g T (trF g T P k).1 6) := rfl
    rw [e]
    by_cases c : (trF g T P k).1 = 0
    · left
      rw [c]; unfold dfN; simp
    · obtain ⟨p, p1, p2, p3⟩ := ring_ex (g := g) (T := T) ok.1 c
      have lt := cnt_lt (b := bt (trF g T P k).1) (b' := bt (dfN (trF g T P k).1 (goF g T (trF g T P k).1 6))) (n := 6) p1 p2 (by rw [df_bt p p1 _ ok.1 _ goF_lt, goF_bt p1, p2, p3]; rfl) (fun j hj hb => by
        rw [df_bt j hj _ ok.1 _ goF_lt] at hb
        simp only [Bool.and_eq_true] at hb
        exact hb.1)
      rcases ih with z | z
      · exact absurd z c
      · right; omega
theorem trF_6 {g : Nat → Int32} {N T P : Nat} (hV : Vd g N T P) : (trF g T P 6).1 = 0 := by
  rcases trF_m (g := g) hV 6 with z | z
  · exact z
  · exact bt0 _ (trF_ok hV 6).1 (fun p hp => cnt_0 (b := bt (trF g T P 6).1) (n := 6) (by omega) hp)
theorem sp_choice {d : Nat} {s : pm_S} {M : pm_M} {g : Nat → Int32} {T P L p : Nat} {Q : Int32 → pm_S → pm_M → Prop} (hd : 2 ≤ d) (hK : KR M g T P) (h8 : T ≤ 8) (h6 : P ≤ 6) (hh : ∀ q, q < 6 → M.1 56 q = oI (heldF g T q)) (hL : okL g T P L) (hp : p < 6) (hb : bt L p = true) (hq : Q (nI (ptF g T L p)) s M) : cI d yT_choice [.ref 54, .ref 41, .int (nI p), .int (nI L)] s M Q := by
  obtain ⟨d, rfl⟩ : ∃ e, d = e + 1 := ⟨d - 1, by omega⟩
  have h64 := hL.1
  obtain ⟨pP, p1, p2⟩ := okL_h hL hp hb
  have hx : ∀ q, q < 6 → bt L q = true → M.1 56 q = nI (hN g T q) := fun q h1 h2 => by rw [hh q h1, (okL_h hL h1 h2).2.1]; rfl
  refine enT_choice ⟨vpI (by omega) (by omega), ?_⟩
  rw [nI_clamp (by omega), hx p hp hb]
  refine sp_of (by omega) hK h8 h6 pP p2 ?_
  refine loop_itr (L := fun i (x : Nat × Int32) => wT_choice d 19 [.ref 54, .ref 41, .int (nI p), .int (nI L), .int (nI x.1), .int x.2, .int (nI i), .null] [] s M Q) (f := chS g T L p) (e := 6) (a0 := (p, clF g p (hN g T p))) ?_ ?_
  · exact sgT_choice_19 (br_t (by decide) hq)
  · intro q hq6 hk
    obtain ⟨a0, a1, a2, a3, a4, a5, a6⟩ := chS_inv (g := g) (T := T) hp hb q (by omega)
    generalize itr (chS g T L p) q (p, clF g p (hN g T p)) = x at hk a0 a1 a2 ⊢
    obtain ⟨w, m⟩ := x
    dsimp only at a0 a1 a2 hk ⊢
    refine sgT_choice_19 (br_f (by rw [lI 6, nI_leP (by omega) (by omega)]; omega) ?_)
    rw [bitI (by omega) (by omega), nI_1]
    unfold chS at hk
    dsimp only at hk
    refine br_c (fun c => ⟨vpI (by omega) (by omega), ?_⟩) (fun c => ?_)
    · rw [if_pos c] at hk
      obtain ⟨qP, _, q2⟩ := okL_h hL hq6 c
      obtain ⟨_, _, w2⟩ := okL_h hL a0 a1
      rw [nI_clamp (by omega), hx q hq6 c]
      refine sp_of (by omega) hK h8 h6 pP q2 ⟨fun _ _ _ => vpI (by omega) (by omega), fun _ _ _ => vpI (by omega) (by omega), ?_⟩
      rw [nI_clamp (by omega), hx w a0 a1, hx q hq6 c]
      simp only [nI_inj (a := w) (b := p) (by omega) (by omega), nI_leP (a := hN g T w) (b := hN g T q) (by omega) (by omega)]
      by_cases c1 : m < clF g p (hN g T q)
      · rw [if_pos c1] at hk
        rw [if_pos c1, if_pos c1]; exact hk
      · rw [if_neg c1] at hk
        rw [if_neg c1, if_neg c1]
        by_cases c2 : clF g p (hN g T q) = m
        · rw [if_pos c2] at hk
          rw [if_pos c2, if_pos c2]
          by_cases c3 : w = p
          · rw [if_pos c3] at hk
            rw [if_pos c3, if_pos c3]; exact hk
          · rw [if_neg c3] at hk
            rw [if_neg c3, if_neg c3]
            by_cases c4 : hN g T w ≤ hN g T q
            · rw [if_pos c4] at hk
              rw [if_pos c4, if_pos c4]; exact hk
            · rw [if_neg c4] at hk
              rw [if_neg c4, if_neg c4]; exact hk
        · rw [if_neg c2] at hk
          rw [if_neg c2, if_neg c2]; exact hk
    · rw [if_neg c] at hk; exact hk
theorem sp_isOnRing {d : Nat} {s : pm_S} {M : pm_M} {g : Nat → Int32} {T L p : Nat} {Q : Int32 → pm_S → pm_M → Prop} (hd : 1 ≤ d) (hp : p < 6) (hb : bt L p = true) (hM : ∀ q, q < 6 → bt L q = true → M.1 57 q = nI (ptF g T L q)) (hq : Q (if rgB (ptF g T L) p = true then 1 else 0) s M) : cI d yT_isOnRing [.ref 54, .int (nI p)] s M Q := by
  obtain ⟨d, rfl⟩ : ∃ e, d = e + 1 := ⟨d - 1, by omega⟩
  refine enT_isOnRing ⟨vpI (by omega) (by omega), ?_⟩
  rw [nI_clamp (by omega), hM p hp hb]
  unfold rgB at hq
  refine loop_fst (L := fun k => wT_isOnRing d 9 [.ref 54, .int (nI p), .int (nI (pw (ptF g T L) (k + 1) p)), .int (nI k)] [] s M Q) (P := fun k => decide (pw (ptF g T L) (k + 1) p = p)) (e := 6) (K := fun r => Q (if (match r with | some _ => true | none => decide (pw (ptF g T L) 7 p = p)) = true then 1 else 0) s M) hq ?_ ?_
  · intro h
    have i7 := pw_in (g := g) (T := T) (k := 6 + 1) hp hb
    refine sgT_isOnRing_9 (br_t (by decide) ?_)
    simp only [nI_inj (a := pw (ptF g T L) (6 + 1) p) (b := p) (by omega) (by omega)]
    simp only [decide_eq_true_eq] at h
    exact h
  · intro k hk k1 k2
    have ik := pw_in (g := g) (T := T) (k := k + 1) hp hb
    refine sgT_isOnRing_9 (br_f (by rw [lI 6, nI_leP (by omega) (by omega)]; omega) ?_)
    simp only [nI_inj (a := pw (ptF g T L) (k + 1) p) (b := p) (by omega) (by omega)]
    rw [nI_clamp (by omega), hM _ ik.1 ik.2, nI_1]
    refine br_c (fun c => ?_) (fun c => ⟨vpI (by omega) (by omega), k2 (by simp [c])⟩)
    have := k1 (by simp [c])
    rw [if_pos c]
    exact this
theorem sp_settle {d : Nat} {s : pm_S} {M : pm_M} {g : Nat → Int32} {T P L : Nat} {Q : Int32 → pm_S → pm_M → Prop} (hd : 2 ≤ d) (hL : okL g T P L) (hh : ∀ q, q < 6 → M.1 56 q = oI (heldF g T q)) (hM : ∀ q, q < 6 → bt L q = true → M.1 57 q = nI (ptF g T L q)) (hq : ∀ M', (∀ p, p < 6 → M'.1 55 p = if bt (goF g T L 6) p = true then oI (heldF g T (ptF g T L p)) else M.1 55 p) → off [55] M M' → Q (nI (goF g T L 6)) s M') : cI d yT_settle [.ref 54, .int (nI L)] s M Q := by
  obtain ⟨d, rfl⟩ : ∃ e, d = e + 1 := ⟨d - 1, by omega⟩
  have h64 := hL.1
  refine enT_settle ?_
  refine loop_up (L := fun i M1 => wT_settle d 4 [.ref 54, .int (nI L), .int (nI (goF g T L i)), .int (nI i)] [] s M1 Q) (I := fun i M1 => (∀ p, p < 6 → M1.1 55 p = if p < i ∧ (bt L p && rgB (ptF g T L) p) = true then oI (heldF g T (ptF g T L p)) else M.1 55 p) ∧ off [55] M M1) (e := 6) ?_ ?_ M ⟨fun p hp => by rw [if_neg (by omega)], off_rf⟩
  · rintro M1 ⟨b1, b2⟩
    refine sgT_settle_4 (br_t (by decide) (hq M1 (fun p hp => ?_) b2))
    rw [b1 p hp, goF_bt hp]
    simp only [hp, true_and]
  · rintro p M1 hp ⟨b1, b2⟩ hk
    have st := set_step2 (b := fun p => bt L p && rgB (ptF g T L) p) (i := p) (by omega)
    have same' : (bt L p && rgB (ptF g T L) p) = false → wT_settle d 4 [.ref 54, .int (nI L), .int (nI (goF g T L p)), .int (nI (p + 1))] [] s M1 Q := by
      intro z
      have e : goF g T L (p + 1) = goF g T L p := by
        have e1 : goF g T L (p + 1) = goF g T L p + (if (bt L p && rgB (ptF g T L) p) = true then 2 ^ p else 0) := rfl
        rw [e1, if_neg (by rw [z]; simp), Nat.add_zero]
      rw [e] at hk
      refine hk M1 ⟨fun q hq => ?_, b2⟩
      rw [b1 q hq]
      by_cases y : q = p
      · subst y
        rw [if_neg (fun w => by rw [z] at w; exact absurd w.2 (by simp)), if_neg (fun w => by rw [z] at w; exact absurd w.2 (by simp))]
      · have : (q < p ∧ (bt L q && rgB (ptF g T L) q) = true) ↔ (q < p + 1 ∧ (bt L q && rgB (ptF g T L) q) = true) := by
          constructor
          · rintro ⟨a, b⟩; exact ⟨by omega, b⟩
          · rintro ⟨a, b⟩; exact ⟨by omega, b⟩
        simp only [this]
    refine sgT_settle_4 (br_f (by rw [lI 6, nI_leP (by omega) (by omega)]; omega) ?_)
    rw [bitI (by omega) (by omega), nI_1]
    refine br_c (fun c => ?_) (fun c => same' (by cases z : bt L p with | false => rfl | true => exact absurd z c))
    refine sp_isOnRing (g := g) (T := T) (L := L) (by omega) hp c (fun q h1 h2 => by rw [(b2 57 (by decide)).1]; exact hM q h1 h2) ?_
    cases r : rgB (ptF g T L) p with
    | false => exact br_t rfl (same' (by rw [c, r]; rfl))
    | true =>
      have ip := ptF_is (g := g) (T := T) hp c
      refine br_f (by decide) ?_
      rw [nI_clamp (by omega), (b2 57 (by decide)).1, hM p hp c, nI_clamp (by have := ip.1; omega), (b2 56 (by decide)).1, hh _ ip.1]
      refine ⟨vpI (by omega) (by omega), vpI ip.1 (by omega), vpI (by omega) (by omega), ?_⟩
      rw [if_pos (by rw [c, r]; rfl)] at st
      have e : nI (goF g T L p) ||| ((1 : Int32) <<< (nI p &&& 31)) = nI (goF g T L (p + 1)) := st
      rw [e]
      refine hk _ ⟨fun q hq => ?_, off_si b2 (by decide)⟩
      rw [si_eq]
      by_cases y : q = p
      · subst y
        rw [row_eq, if_pos ⟨by omega, by rw [c, r]; rfl⟩]
      · rw [row_ne y, b1 q hq]
        have : (q < p ∧ (bt L q && rgB (ptF g T L) q) = true) ↔ (q < p + 1 ∧ (bt L q && rgB (ptF g T L) q) = true) := by
          constructor
          · rintro ⟨a, b⟩; exact ⟨by omega, b⟩
          · rintro ⟨a, b⟩; exact ⟨by omega, b⟩
        simp only [this]
theorem sp_run {d : Nat} {s : pm_S} {M : pm_M} {g : Nat → Int32} {N T P : Nat} {Q : Int32 → pm_S → pm_M → Prop} (hd : 4 ≤ d) (hV : Vd g N T P) (hv : Vs g N T P) (hs : SR M 27 g T P) (hK : KR M g T P) (hq : ∀ M', (∀ p, p < 6 → M'.1 55 p = (trF g T P (rdF g T P)).2 p ∧ M'.1 56 p = oI (heldF g T p)) → off [55, 56, 57] M M' → Q (nI (rdF g T P)) s M') : cI d yT_run [.ref 54, .ref 15, .ref 27, .ref 41] s M Q := by
  obtain ⟨d, rfl⟩ : ∃ e, d = e + 1 := ⟨d - 1, by omega⟩
  have h8 := hV.2.2.2.2.2.1
  have h6 := hV.2.2.2.2.2.2.1
  refine enT_run ?_
  have e6 : setF (holdB g T) 6 = setF (holdB g T) P := setF_stop h6 (fun i h1 h2 => by
    unfold holdB
    simp [held_out hV hv h1 (by omega)])
  refine loop_up (L := fun i M1 => wT_run d 6 [.ref 54, .null, .ref 27, .ref 41, .int (nI (setF (holdB g T) i)), .int (nI i), .null, .null] [] s M1 Q) (I := fun i M1 => (∀ p, p < i → M1.1 55 p = -1 ∧ M1.1 56 p = oI (heldF g T p)) ∧ off [55, 56, 57] M M1) (e := 6) ?_ ?_ M ⟨fun p h => by omega, off_rf⟩
  · rintro M1 ⟨b1, b2⟩
    rw [e6]
    refine sgT_run_6 (br_t (by decide) ?_)
    unfold rdF at hq
    refine loop_fst (L := fun i => ∀ M2, (∀ p, p < 6 → M2.1 55 p = (trF g T P i).2 p ∧ M2.1 56 p = oI (heldF g T p)) → off [55, 56, 57] M M2 → wT_run d 70 [.ref 54, .null, .null, .ref 41, .int (nI (trF g T P i).1), .int (nI i), .int (nI i), .null] [] s M2 Q) (P := fun k => decide ((trF g T P k).1 = 0)) (e := 6) (K := fun r => ∀ M', (∀ p, p < 6 → M'.1 55 p = (trF g T P (match r with | some k => k | none => 6)).2 p ∧ M'.1 56 p = oI (heldF g T p)) → off [55, 56, 57] M M' → Q (nI (match r with | some k => k | none => 6)) s M') hq ?_ ?_ M1 b1 b2
    · intro hn M2 c1 c2
      exact sgT_run_70 (br_t (by decide) (hn M2 c1 c2))
    · intro i hi k1 k2 M2 c1 c2
      have ok := trF_ok (g := g) hV i
      have L64 := ok.1
      refine sgT_run_70 (br_f (by rw [lI 6, nI_leP (by omega) (by omega)]; omega) ?_)
      rw [l0, nI_inj (by omega) (by omega)]
      refine br_c (fun z => k1 (by simp [z]) M2 c1 c2) (fun z => ?_)
      have nxt := k2 (by simp [z])
      generalize hLL : (trF g T P i).1 = LL at ok L64 z ⊢
      refine loop_up (L := fun p M3 => wT_run d 85 [.ref 54, .null, .null, .ref 41, .int (nI LL), .int (nI i), .int (nI i), .int (nI p)] [] s M3 Q) (I := fun p M3 => (∀ q, q < p → bt LL q = true → M3.1 57 q = nI (ptF g T LL q)) ∧ (∀ q, q < 6 → M3.1 55 q = (trF g T P i).2 q ∧ M3.1 56 q = oI (heldF g T q)) ∧ off [55, 56, 57] M M3) (e := 6) ?_ ?_ M2 ⟨fun q h => by omega, c1, c2⟩
      · rintro M3 ⟨d1, d2, d3⟩
        refine sgT_run_85 (br_t (by decide) (sp_settle (by omega) ok (fun q hq => (d2 q hq).2) d1 (fun M4 f4 o4 => ?_)))
        rw [(df_bit LL L64 _ goF_lt).1, nI_1]
        have e : (trF g T P (i + 1)).1 = dfN LL (goF g T LL 6) := by rw [← hLL]; rfl
        rw [← e]
        refine nxt M4 (fun p hp => ⟨?_, by rw [(o4 56 (by decide)).1]; exact (d2 p hp).2⟩) (off_tr d3 (off_mo o4 (by decide)))
        rw [f4 p hp, (d2 p hp).1, ← hLL]
        rfl
      · rintro p M3 hp ⟨d1, d2, d3⟩ hk
        refine sgT_run_85 (br_f (by rw [lI 6, nI_leP (by omega) (by omega)]; omega) ?_)
        rw [bitI (by omega) (by omega), nI_1]
        refine br_c (fun c => sp_choice (T := T) (P := P) (by omega) (KR_off d3 (by decide) hK) h8 h6 (fun q hq => (d2 q hq).2) ok hp c ⟨vpI (by omega) (by omega), ?_⟩) (fun c => ⟨vpI (by omega) (by omega), ?_⟩)
        · rw [nI_clamp (by omega)]
          refine hk _ ⟨fun q hq hb => ?_, fun q hq => by rw [si_ne (by decide), si_ne (by decide)]; exact d2 q hq, off_si d3 (by decide)⟩
          rw [si_eq]
          by_cases y : q = p
          · subst y; rw [row_eq]
          · rw [row_ne y]; exact d1 q (by omega) hb
        · rw [nI_clamp (by omega)]
          refine hk _ ⟨fun q hq hb => ?_, fun q hq => by rw [si_ne (by decide), si_ne (by decide)]; exact d2 q hq, off_si d3 (by decide)⟩
          rw [si_eq]
          by_cases y : q = p
          · subst y; exact absurd hb c
          · rw [row_ne y]; exact d1 q (by omega) hb
  · rintro p M1 hp ⟨b1, b2⟩ hk
    refine sgT_run_6 (br_f (by rw [lI 6, nI_leP (by omega) (by omega)]; omega) (sp_heldThing (by omega) isS_27 (SR_off b2 hs (by decide)) h8 hp ?_))
    rw [nI_clamp (by omega), si_eq, row_eq, nI_1]
    have v6 : vp_in (nI p) 6 := vpI (by omega) (by omega)
    refine ⟨v6, v6, v6, fun v ev => ?_⟩
    simp only [oIheld h8] at ev
    have st := set_step (b := holdB g T) (i := p) (by omega)
    have e2 : (if heldF g T p = none then (0 : Int32) else 1 <<< (nI p &&& 31)) = (if holdB g T p = true then (1 : Int32) <<< (nI p &&& 31) else 0) := by
      unfold holdB
      by_cases z : heldF g T p = none
      · simp [z]
      · simp [z]
    rw [e2, st] at ev
    rw [ev]
    refine hk _ ⟨fun q hq => ?_, off_si (off_si b2 (by decide)) (by decide)⟩
    rw [si_eq, si_ne (by decide), si_ne (by decide), si_eq]
    by_cases y : q = p
    · subst y; rw [row_eq, row_eq]; exact ⟨rfl, rfl⟩
    · rw [row_ne y, row_ne y]; exact b1 q (by omega)
