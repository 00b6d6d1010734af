/-! both lines meet -/
theorem law_meet {M1 M2 : pm_M} {G : RW} {law lim a a' : Nat} {l : LWD} (hc : LC1 M1 a law l) (ha : a ≤ 900) (hm : LM1 M2 a' law l) (ha' : a' ≤ 900) (hG : ∀ j, j < 1290 → G j = M2.1 163 j) (hl : law < 2) (hlim : lim = limO (decide (law = 1))) : lwOk G law lim ∧ lwS M1 10 11 G law lim ∧ ∃ to : Nat, to ≤ a ∧ M1.1 10 (5 + 2 * law) = nI to := by
  have l7 : lim ≤ 7 := by rw [hlim]; unfold limO; split <;> omega
  cases l with
  | none =>
    obtain ⟨x1, x2, x3⟩ := hm
    obtain ⟨y1, y2⟩ := hc
    have g5 : G (5 + law) = 0 := by rw [hG _ (by omega), x1]
    refine ⟨⟨0, 0, by rw [hG _ (by omega), x2]; rfl, by rw [hG _ (by omega), x3]; rfl, by omega, Or.inl g5⟩, ⟨0, 0, by omega, by omega, by rw [y1]; rfl, by rw [y2]; rfl, ⟨fun _ => rfl, fun _ => g5⟩, fun h => absurd g5 h⟩, 0, by omega, by rw [y2]; rfl⟩
  | some D =>
    obtain ⟨fr, m, x1, x2, x3, x4, x5, x6, x7⟩ := hm
    obtain ⟨f, to, y1, y2, y3, y4⟩ := hc
    have g5 : G (5 + law) = 1 := by rw [hG _ (by omega), x1]
    have g7 : G (7 + law) = nI fr := by rw [hG _ (by omega), x2]
    have g9 : G (9 + law) = nI m := by rw [hG _ (by omega), x3]
    have n5 : ¬ G (5 + law) = 0 := by rw [g5]; decide
    have ec : ∀ k, k < m → lwC G law k = M2.1 163 (390 + (fr + k)) := fun k hk => by
      unfold lwC
      rw [g7, nI_clamp (by omega), hG _ (by omega), show 390 + fr + k = 390 + (fr + k) by omega]
    have ev : ∀ w, evL w (lwC G law) m = some [D w] := fun w => by
      rw [evL_congr2 (c := fun k => M2.1 163 (390 + (fr + k))) ec]
      have := evG_L (w := w) (c := fun k => M2.1 163 (390 + k)) (a := fr) m
      rw [this]
      have h2 := x5.2 w []
      rw [show fr + m - fr = m by omega] at h2
      exact h2
    have ok : lwOk G law lim := by
      refine ⟨fr, m, g7, g9, by omega, Or.inr ⟨fun k hk => ?_, fun w => ⟨D w, ev w, fun hb => x7 w hb⟩⟩⟩
      rw [ec k hk]
      obtain ⟨o1, o2⟩ := x6 (fr + k) (by omega) (by omega)
      refine ⟨o1, fun z1 z2 => ?_⟩
      obtain ⟨j, hj, ej⟩ := o2 z1 z2
      exact ⟨j, by rw [hlim]; exact hj, ej⟩
    have ef : ∀ w, evF G law w = D w := fun w => by
      unfold evF lwN
      rw [g9, nI_clamp (by omega), ev w]
    have mc := y4 (M1.1 11) (fun _ _ _ => rfl)
    have lt : f < to := by
      rcases Nat.lt_or_ge f to with h | h
      · exact h
      · exfalso
        obtain ⟨n, n1, n2⟩ := mc.2 (fun _ => 0) [] to (Nat.le_refl _) (by decide)
        obtain rfl : n = 0 := by omega
        have e : some (f, ([] : List Int32)) = some (to, [D (fun _ => 0)]) := n2
        injection e with e
        injection e with e1 e2
        cases e2
    refine ⟨ok, ⟨f, to, by omega, by omega, y1, y2, ⟨fun h => absurd h n5, fun h => by omega⟩, fun _ w w' hw => ?_⟩, to, y3, y2⟩
    obtain ⟨n, n1, n2⟩ := mc.2 w [] to (Nat.le_refl _) (by decide)
    refine ⟨n, by omega, ?_⟩
    rw [← evF_congr l7 ok n5 hw, ef]
    exact n2
theorem line_meet {M1 M2 : pm_M} {g G : RW} {N T P a a' : Nat} {l0 l1 : LWD} (hT : TC M1 g N T P) (hL : LC M1 a l0 l1) (hM : TM M2 g a' l0 l1) (hv : gV g N T P) (g1 : g 1 = nI N) (g2 : g 2 = nI T) (g3 : g 3 = nI P) (hG : ∀ j, j < 1290 → G j = M2.1 163 j) :
    LR M1 2 G T P ∧ LZ M1 2 ∧ Vd G N T P ∧ Vs G N T P ∧ G 78 = 0 ∧ G 0 = g 0 ∧ ∀ k, k ≤ 78 → (k < 5 ∨ 10 < k) → G k = g k := by
  obtain ⟨a1, a2, a3, a4, a5, a6, a7⟩ := hT
  obtain ⟨b1, b2, b3, b4⟩ := hL
  obtain ⟨c1, c2, c3, c4, c5⟩ := hM
  obtain ⟨⟨v1, v2, v3, v4, k4, v5, v6⟩, v7, v8, v9, v10, v11, z1, z2, z3, z4, z5, z6⟩ := hv
  have eG : ∀ k, k ≤ 78 → (k < 5 ∨ 10 < k) → G k = g k := fun k h1 h2 => by rw [hG k (by omega), c1 k h1 h2]
  obtain ⟨o0, s0, to0, t0, u0⟩ := law_meet (lim := 5) b3 b2 c4 c3 hG (by omega) rfl
  obtain ⟨o1, s1, to1, t1, u1⟩ := law_meet (lim := 7) b4 b2 c5 c3 hG (by omega) rfl
  refine ⟨⟨by rw [eG 1 (by omega) (by omega), g1, a1], by rw [eG 2 (by omega) (by omega), g2, a2], by rw [eG 3 (by omega) (by omega), g3, a3], by rw [eG 0 (by omega) (by omega), a4], by rw [eG 4 (by omega) (by omega), a5], fun t ht => ?_, fun p hp => ?_, s0, s1⟩, ⟨a, to0, to1, b2, t0, t1, b1, u0, u1⟩, ⟨by rw [eG 1 (by omega) (by omega), g1], by rw [eG 2 (by omega) (by omega), g2], by rw [eG 3 (by omega) (by omega), g3], v1, v2, v3, v4, ⟨k4, v5, by rw [eG 4 (by omega) (by omega), v6]⟩, fun t ht => ?_, fun p hp => ?_, o0, o1⟩, ⟨Or.inl (by rw [eG 47 (by omega) (by omega), z1]), fun t ht => ?_, fun t t' p h1 h2 h3 h4 h5 => ?_, fun p hp => ?_⟩, by rw [eG 78 (by omega) (by omega), z4], eG 0 (by omega) (by omega), eG⟩
  · obtain ⟨x1, x2, x3, x4⟩ := a6 t ht
    exact ⟨by rw [eG (19 + t) (by omega) (by omega)]; exact x2, by rw [eG (27 + t) (by omega) (by omega)]; exact x3⟩
  · obtain ⟨x1, x2, x3⟩ := a7 p hp
    exact ⟨by rw [eG (35 + p) (by omega) (by omega)]; exact x1, by rw [eG (41 + p) (by omega) (by omega)]; exact x3⟩
  · obtain ⟨x1, x2, x3, x4⟩ := v7 t ht
    rw [eG (19 + t) (by omega) (by omega), eG (27 + t) (by omega) (by omega)]
    exact ⟨x2, x3⟩
  · obtain ⟨x1, x2, x3⟩ := v9 p hp
    rw [eG (35 + p) (by omega) (by omega), eG (41 + p) (by omega) (by omega)]
    exact ⟨x1, x3⟩
  · obtain ⟨x1, x2, x3, x4⟩ := v7 t ht
    rw [eG (50 + t) (by omega) (by omega)]
    rcases x4 with q | q
    · rw [q]; exact Or.inl x1
    · exact Or.inr (Or.inl q)
  · rw [eG _ (by omega) (by omega)] at h4 h5
    exact v8 t t' p h1 h2 h3 h4 h5
  · obtain ⟨x1, x2, x3⟩ := v9 p hp
    rw [eG (66 + p) (by omega) (by omega), eG (72 + p) (by omega) (by omega)]
    exact ⟨x2, 0, by omega, by rw [z6 p (by omega)]; rfl⟩
/-! a new state of things -/
def bgW (M : pm_M) (T t : Nat) : Int32 := if t < T then (if M.1 19 t = -1 then M.1 16 t else 10 + M.1 19 t) else -1
def bgP (M : pm_M) (P p : Nat) : Int32 := if p < P then M.1 21 p else 0
theorem sp_begin {d : Nat} {s : pm_S} {M : pm_M} {T P : Nat} {Q : pm_S → pm_M → Prop} (hd : 2 ≤ d) (h8 : T ≤ 8) (h6 : P ≤ 6) (hT : M.1 15 1 = nI T) (hP : M.1 15 2 = nI P)
    (hq : ∀ M', off [27, 28, 29, 30, 31] M M' → (∀ t, t < 8 → M'.1 28 t = bgW M T t ∧ M'.1 29 t = 0) → (∀ p, p < 6 → M'.1 30 p = bgP M P p ∧ M'.1 31 p = 0) → M'.1 27 4 = 0 → M'.1 27 5 = 0 → M'.1 27 6 = 0 → Q s M') : cV d yS_begin [.ref 27, .ref 15] s M Q := by
  obtain ⟨d, rfl⟩ : ∃ e, d = e + 1 := ⟨d - 1, by omega⟩
  refine enS_begin ?_
  refine loop_up (L := fun i Mx => wS_begin d 2 [.ref 27, .ref 15, .int (nI i)] [] s Mx Q) (I := fun i Mx => off [27, 28, 29, 30, 31] M Mx ∧ ∀ t, t < i → Mx.1 28 t = bgW M T t ∧ Mx.1 29 t = 0) (e := 8) ?_ ?_ M ⟨off_rf, fun t ht => by omega⟩
  · intro Ma ha
    refine sgS_begin_2 (br_t (by decide) ?_)
    refine loop_up (L := fun i Mx => wS_begin d 69 [.ref 27, .ref 15, .int (nI i)] [] s Mx Q) (I := fun i Mx => off [27, 28, 29, 30, 31] M Mx ∧ (∀ t, t < 8 → Mx.1 28 t = bgW M T t ∧ Mx.1 29 t = 0) ∧ ∀ p, p < i → Mx.1 30 p = bgP M P p ∧ Mx.1 31 p = 0) (e := 6) ?_ ?_ Ma ⟨ha.1, ha.2, fun t ht => by omega⟩
    · intro Mb hb
      obtain ⟨b1, b2, b3⟩ := hb
      refine sgS_begin_69 (br_t (by decide) (hq _ (off_si (off_si (off_si b1 (by decide)) (by decide)) (by decide)) (fun t ht => ?_) (fun p hp => ?_) ?_ ?_ ?_))
      · rw [si_ne (by decide), si_ne (by decide), si_ne (by decide), si_ne (by decide), si_ne (by decide), si_ne (by decide)]; exact b2 t ht
      · rw [si_ne (by decide), si_ne (by decide), si_ne (by decide), si_ne (by decide), si_ne (by decide), si_ne (by decide)]; exact b3 p hp
      · rw [si_eq, row_ne (by decide), si_eq, row_ne (by decide), si_eq, row_eq]
      · rw [si_eq, row_ne (by decide), si_eq, row_eq]
      · rw [si_eq, row_eq]
    · intro i Mb hi hb hk
      obtain ⟨b1, b2, b3⟩ := hb
      have e15 : Mb.1 15 = M.1 15 := (b1 15 (by decide)).1
      have e21 : Mb.1 21 = M.1 21 := (b1 21 (by decide)).1
      refine sgS_begin_69 (br_f (by rw [lI 6, nI_leP (by omega) (by omega)]; omega) ?_)
      have put : ∀ v : Int32, v = bgP M P i → wS_begin d 69 [.ref 27, .ref 15, .int (nI i + 1)] [] s (pm_si (pm_si Mb 30 (nI i).toNatClampNeg v) 31 (nI i).toNatClampNeg 0) Q := by
        intro v ev
        rw [nI_clamp (by omega), nI_1]
        refine hk _ ⟨off_si (off_si b1 (by decide)) (by decide), fun t ht => ?_, fun p hp => ?_⟩
        · rw [si_ne (by decide), si_ne (by decide), si_ne (by decide), si_ne (by decide)]; exact b2 t ht
        · rw [si_ne (c := 30) (by decide), si_eq, si_eq, si_ne (by decide)]
          by_cases e : p = i
          · subst e; rw [row_eq, row_eq, ev]; exact ⟨rfl, rfl⟩
          · rw [row_ne e, row_ne e]; exact b3 p (by omega)
      refine sp_hasPerson (by omega) (by rw [e15]; exact hP) h6 (fun h => ⟨fun _ => vpI (by omega) (by omega), vpI (by omega) (by omega), vpI (by omega) (by omega), put _ ?_⟩) (fun h => ⟨fun q => absurd rfl q, vpI (by omega) (by omega), vpI (by omega) (by omega), put _ ?_⟩)
      · obtain ⟨k, k1, k2⟩ := h
        rw [nI_inj (by omega) (by omega)] at k2
        subst k2
        unfold bgP
        rw [if_neg (by decide), if_pos k1, nI_clamp (by omega), e21]
      · unfold bgP
        rw [if_pos rfl, if_neg (fun q => h ⟨i, q, rfl⟩)]
  · intro i Mb hi hb hk
    obtain ⟨b1, b2⟩ := hb
    have e15 : Mb.1 15 = M.1 15 := (b1 15 (by decide)).1
    have e16 : Mb.1 16 = M.1 16 := (b1 16 (by decide)).1
    have e19 : Mb.1 19 = M.1 19 := (b1 19 (by decide)).1
    refine sgS_begin_2 (br_f (by rw [lI 8, nI_leP (by omega) (by omega)]; omega) ?_)
    have put : ∀ v : Int32, v = bgW M T i → wS_begin d 2 [.ref 27, .ref 15, .int (nI i + 1)] [] s (pm_si (pm_si Mb 28 (nI i).toNatClampNeg v) 29 (nI i).toNatClampNeg 0) Q := by
      intro v ev
      rw [nI_clamp (by omega), nI_1]
      refine hk _ ⟨off_si (off_si b1 (by decide)) (by decide), fun p hp => ?_⟩
      rw [si_ne (c := 28) (by decide), si_eq, si_eq, si_ne (by decide)]
      by_cases e : p = i
      · subst e; rw [row_eq, row_eq, ev]; exact ⟨rfl, rfl⟩
      · rw [row_ne e, row_ne e]; exact b2 p (by omega)
    have vi : vp_in (nI i) 8 := vpI (by omega) (by omega)
    refine sp_hasThing (by omega) L15 (by rw [e15]; exact hT) h8 (fun h => ⟨fun _ => vi, fun _ _ => vi, fun _ _ => vi, vi, vi, put _ ?_⟩) (fun h => ⟨fun _ => vi, fun _ _ => vi, fun _ _ => vi, vi, vi, put _ ?_⟩)
    · obtain ⟨k, k1, k2⟩ := h
      rw [nI_inj (by omega) (by omega)] at k2
      subst k2
      unfold bgW
      rw [if_neg (by decide), if_pos k1, nI_clamp (by omega), e16, e19]
    · unfold bgW
      rw [if_pos rfl, if_neg (fun q => h ⟨i, q, rfl⟩)]
