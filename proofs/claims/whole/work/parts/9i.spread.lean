theorem clip_k (x : Int32) : ∃ k : Nat, k ≤ 99 ∧ clip x = nI k := by
  unfold clip
  by_cases a : 0 ≤ x
  · rw [if_pos a]
    by_cases b : x ≤ 99
    · rw [if_pos b]
      obtain ⟨k, hk, rfl⟩ := nI_of (i_nlt a)
      rw [lI 99, nI_leP (by omega) (by omega)] at b
      exact ⟨k, b, rfl⟩
    · rw [if_neg b]; exact ⟨99, by omega, rfl⟩
  · rw [if_neg a]; exact ⟨0, by omega, rfl⟩
def bnF (g : Nat → Int32) (p t : Nat) (wet : Int32) (k : Nat) : Nat := (burdenF g (g (66 + p)) p t wet (nI k)).toNatClampNeg
theorem bnF_k (g : Nat → Int32) (p t : Nat) (wet : Int32) (k : Nat) : burdenF g (g (66 + p)) p t wet (nI k) = nI (bnF g p t wet k) ∧ bnF g p t wet k ≤ 99 := by
  unfold bnF burdenF
  obtain ⟨j, h1, h2⟩ := clip_k (if g 6 = 0 then g (27 + t) else evF g 1 (wv g (g (66 + p)) p t wet (nI k)))
  rw [h2, nI_clamp (by omega)]
  exact ⟨rfl, h1⟩
/-- how likely so much was borne, behind i numbers of a row -/
def lkF (g : Nat → Int32) (p W : Nat) (f : Nat → Int64) (i : Nat) : Nat → Nat := dsF (fun i k => bnF g p (vN f i) 0 k) (fun i k => bnF g p (vN f i) 1 k) W i
theorem lk_bd {g : Nat → Int32} {p W i k : Nat} {f : Nat → Int64} (hW : W ≤ 10) (hi : i ≤ 10) (hk : k < 1000) : lkF g p W f i k ≤ 10000000000 := by
  have h1 := dsF_sum (W := W) (f0 := fun i k => bnF g p (vN f i) 0 k) (f1 := fun i k => bnF g p (vN f i) 1 k) hW (fun i k => ⟨(bnF_k g p _ 0 k).2, (bnF_k g p _ 1 k).2⟩) i hi
  have h2 := smN_ge (tab := lkF g p W f i) hk
  have h3 := p10 hi
  unfold lkF at h2 ⊢
  omega
def lkP (g : Nat → Int32) (p W : Nat) (f : Nat → Int64) (i k : Nat) : Nat → Nat := itr (dsS (fun k => bnF g p (vN f i) 0 k) (fun k => bnF g p (vN f i) 1 k) W (lkF g p W f i)) k (fun _ => 0)
theorem lkP_s {g : Nat → Int32} {p W i k : Nat} {f : Nat → Int64} : lkP g p W f i (k + 1) = dsS (fun k => bnF g p (vN f i) 0 k) (fun k => bnF g p (vN f i) 1 k) W (lkF g p W f i) k (lkP g p W f i k) := rfl
theorem lkP_T {g : Nat → Int32} {p W i : Nat} {f : Nat → Int64} : lkP g p W f i 1000 = lkF g p W f (i + 1) := rfl
theorem lkF_sup {g : Nat → Int32} {p W i k : Nat} {f : Nat → Int64} (hi : i ≤ 10) (hk : 99 * i < k) : lkF g p W f i k = 0 := dsF_sup (fun i k => ⟨(bnF_k g p _ 0 k).2, (bnF_k g p _ 1 k).2⟩) i hi k hk
theorem lkP_end {g : Nat → Int32} {p W i : Nat} {f : Nat → Int64} (hi : i < 10) : lkP g p W f i (99 * i + 1) = lkF g p W f (i + 1) := by
  rw [← lkP_T]
  unfold lkP
  exact (itr_stop (by omega) (fun k x h1 h2 => dsS_0 (lkF_sup (by omega) (by omega)))).symm
theorem okS_sw {L : Nat} {s : pm_S} (h : okS L s) : okS L (s.1, s.2.1, s.2.2.1, s.2.2.2.1, s.2.2.2.2.2, s.2.2.2.2.1) := by
  obtain ⟨a, b, c, d⟩ := h
  refine ⟨a, b, c, ?_⟩
  rcases d with ⟨x, y⟩ | ⟨x, y⟩
  · exact Or.inr ⟨y, x⟩
  · exact Or.inl ⟨y, x⟩
theorem okS_or {L : Nat} {s : pm_S} (h : okS L s) : (s.2.2.2.2.1 = 65 ∨ s.2.2.2.2.1 = 66) ∧ (s.2.2.2.2.2 = 65 ∨ s.2.2.2.2.2 = 66) ∧ s.2.2.2.2.1 ≠ s.2.2.2.2.2 := by
  rcases h.2.2.2 with ⟨x, y⟩ | ⟨x, y⟩ <;> rw [x, y] <;> simp
theorem sp_markOfN {d : Nat} {s : pm_S} {M : pm_M} {g : Nat → Int32} {T P p : Nat} {Q : Int32 → pm_S → pm_M → Prop} (hd : 1 ≤ d) (hs : SR M 27 g T P) (hp : p < P) (h6 : P ≤ 6) (hq : Q (g (66 + p)) s M) : cI d yS_markOf [.ref 27, .int (nI p)] s M Q := by
  obtain ⟨d, rfl⟩ : ∃ e, d = e + 1 := ⟨d - 1, by omega⟩
  refine enS_markOf ⟨fun _ _ => vpI (by omega) (by omega), ?_⟩
  rw [if_neg (nI_pos (by omega)), if_neg (by rw [lI 6, nI_leP (by omega) (by omega)]; omega), nI_clamp (by omega), show M.1 30 p = g (66 + p) from (hs.2.2.2.2.1 p hp).1]
  exact hq
theorem sp_oadd {d : Nat} {s : pm_S} {M : pm_M} {j : Nat} {v : Int64} {Q : pm_S → pm_M → Prop} (hd : 1 ≤ d) (hj : j < 1000) (hs : s.2.2.2.2.2 = 65 ∨ s.2.2.2.2.2 = 66) (hq : Q s (pm_sj M s.2.2.2.2.2 j (M.2 s.2.2.2.2.2 j + v))) : cV d yO_add [.ref 64, .int (nI j), .long v] s M Q := by
  obtain ⟨d, rfl⟩ : ∃ e, d = e + 1 := ⟨d - 1, by omega⟩
  refine enO_add (br_f (nI_pos (by omega)) (br_f (by rw [lI 1000, nI_leP (by omega) (by omega)]; omega) ⟨hs, vpI (by omega) (by omega), vpI (by omega) (by omega), ?_⟩))
  rw [nI_clamp (by omega)]
  exact hq
theorem off_fill {S : List Nat} {M M' : pm_M} {a : Nat} (h1 : M'.1 = M.1) (h2 : ∀ c, c ≠ a → M'.2 c = M.2 c) (ha : a ∈ S) : off S M M' := fun c hc => ⟨by rw [h1], h2 c (fun e => hc (e ▸ ha))⟩
theorem sp_spread {L d : Nat} {s : pm_S} {M : pm_M} {g : Nat → Int32} {N T P W r n p : Nat} {f : Nat → Int64} {Q : pm_S → pm_M → Prop} (hd : 4 ≤ d) (hs : okS L s) (hl : LV M g N T P) (hS : SR M 27 g T P) (hW : g 4 = nI W) (hW10 : W ≤ 10) (hr4 : r < 4) (hr : YR M (117 + 2 * r) n f) (hn : n ≤ 10) (hv : ∀ i, i < n → vN f i < T ∧ f i = lN (vN f i)) (hp : p < P) (hq : ∀ s' M', okS L s' → (∀ k, k < 1000 → M'.2 s'.2.2.2.2.1 k = lN (lkF g p W f n k)) → M'.2 64 0 = lN (10 ^ n) → off [25, 26, 64, 65, 66] M M' → Q s' M') : cV d yO_spread [.ref 64, .ref 15, .ref 27, .ref (117 + 2 * r), .int (nI p)] s M Q := by
  obtain ⟨d, rfl⟩ : ∃ e, d = e + 1 := ⟨d - 1, by omega⟩
  have hV := hl.2
  have h8 := hV.2.2.2.2.2.1
  have h6 := hV.2.2.2.2.2.2.1
  have h2 := hV.2.1
  have hy := nY hr4
  obtain ⟨s1, s2, s3⟩ := okS_or hs
  have m65 : ∀ x, (x = 65 ∨ x = 66) → x ∈ [25, 26, 64, 65, 66] := by rintro x (rfl | rfl) <;> decide
  refine enO_spread hy ⟨s1, sp_fillJ (n := 1000) (by omega) ⟨by omega, mut_sh64 s1⟩ (by omega) (fun M1 f1 e1 o1 => ⟨s1, ?_⟩)⟩
  refine loop_up (L := fun i M2 => ∀ s2, okS L s2 → (∀ k, k < 1000 → M2.2 s2.2.2.2.2.1 k = lN (lkF g p W f i k)) → M2.2 64 0 = lN (10 ^ i) → wO_spread d 23 [.ref 64, .ref 15, .ref 27, .ref (117 + 2 * r), .int (nI p), .int (nI i), .null, .null, .null] [] s2 M2 Q) (I := fun i M2 => off [25, 26, 64, 65, 66] M M2) (e := n) ?_ ?_ _ (off_sj (off_sj (off_fill e1 o1 (m65 _ s1)) (m65 _ s1)) (by decide)) s hs (fun k hk => ?_) ?_
  · intro M2 o2 s2 ok2 t2 w2
    have hr2 : M2.1 (117 + 2 * r) 2 = nI n := by rw [(o2 (117 + 2 * r) (by simp; omega)).1]; exact hr.1
    exact sgO_spread_23 hy (br_t (by rw [hr2, nI_leP (by omega) (by omega)]; exact Nat.le_refl _) (hq s2 M2 ok2 t2 w2 o2))
  · intro i M2 hi o2 hk s2 ok2 t2 w2
    have hr2 : YR M2 (117 + 2 * r) n f := YR_off o2 hr (by simp; omega) (by simp; omega)
    obtain ⟨c1, c2, c3⟩ := okS_or ok2
    obtain ⟨v1, v2⟩ := hv i hi
    obtain ⟨_, k9, k9'⟩ := (hV.2.2.2.2.2.2.2.2.1 (vN f i) v1)
    refine sgO_spread_23 hy (br_f (by rw [hr2.1, nI_leP (by omega) (by omega)]; omega) (br_f (by rw [lI 10, nI_leP (by omega) (by omega)]; omega) ⟨c2, sp_fillJ (n := 1000) (by omega) ⟨by omega, mut_sh64 c2⟩ (by omega) (fun M3 f3 e3 o3 => ?_)⟩))
    have o23 : off [25, 26, 64, 65, 66] M M3 := off_tr o2 (off_fill e3 o3 (m65 _ c2))
    refine sp_at (by omega) hy (YR_off o23 hr (by simp; omega) (by simp; omega)) hi ?_
    rw [v2, lN_32]
    refine loop_up (L := fun k M4 => wO_spread d 59 [.ref 64, .ref 15, .ref 27, .ref (117 + 2 * r), .int (nI p), .int (nI i), .int (nI (vN f i)), .int (nI k), .null] [] s2 M4 Q) (I := fun k M4 => off [25, 26, 64, 65, 66] M M4 ∧ (∀ j, j < 1000 → M4.2 s2.2.2.2.2.1 j = lN (lkF g p W f i j)) ∧ (∀ j, j < 1000 → M4.2 s2.2.2.2.2.2 j = lN (lkP g p W f i k j)) ∧ M4.2 64 0 = lN (10 ^ i)) (e := 99 * i + 1) ?_ ?_ M3 ⟨o23, fun j hj => by rw [o3 _ c3]; exact t2 j hj, fun j hj => by rw [f3 j hj]; rfl, by rw [o3 64 (by omega)]; exact w2⟩
    · rintro M4 ⟨b1, b2, b3, b4⟩
      refine sgO_spread_59 hy (br_t (by rw [lI 99, pk_mul, nI_ltP (by omega) (by omega)]; omega) ⟨c1, c2, ?_⟩)
      rw [b4, nI_1, lL 10, lN_mul, ← Nat.pow_succ]
      refine hk _ (off_sj b1 (by decide)) _ (okS_sw ok2) (fun k hk' => ?_) (by rw [sj_eq, row_eq])
      show (pm_sj M4 64 0 (lN (10 ^ (i + 1)))).2 s2.2.2.2.2.2 k = _
      rw [sj_ne (by omega), b3 k hk', lkP_end (by omega)]
    · rintro k M4 hk' ⟨b1, b2, b3, b4⟩ hk4
      have hl4 : LR M4 15 g T P := LR_off b1 hl.1 (by decide)
      refine sgO_spread_59 hy (br_f (by rw [lI 99, pk_mul, nI_ltP (by omega) (by omega)]; omega) (br_f (by rw [lI 1000, nI_leP (by omega) (by omega)]; omega) ⟨c1, vpI (by omega) (by omega), ?_⟩))
      rw [nI_clamp (by omega), b2 k (by omega), lL 0, nI_1]
      have bd := lk_bd (g := g) (p := p) (f := f) (W := W) (i := i) (k := k) hW10 (by omega) (by omega)
      have st := lkP_s (g := g) (p := p) (W := W) (i := i) (k := k) (f := f)
      refine br_c (fun z => ?_) (fun z => ?_)
      · rw [pk_lEQ (by omega) (by omega)] at z
        rw [dsS_0 z] at st
        refine hk4 M4 ⟨b1, b2, fun j hj => by rw [st]; exact b3 j hj, b4⟩
      · rw [pk_lEQ (by omega) (by omega)] at z
        unfold dsS at st
        rw [if_neg z] at st
        obtain ⟨q0, q0'⟩ := bnF_k g p (vN f i) 0 k
        obtain ⟨q1, q1'⟩ := bnF_k g p (vN f i) 1 k
        refine sp_markOfN (by omega) (SR_off b1 hS (by decide)) hp h6 (sp_cburden (by omega) hl4 h2 h8 ⟨k9, k9'⟩ v1 (fun M5 o5 => ?_))
        have w15 : ∀ M', off [25, 26, 64, 65, 66] M M' → M'.1 15 4 = nI W := fun M' o => by rw [(o 15 (by decide)).1]; exact hl.1.2.2.2.2.1.trans hW
        have o15 := off_tr b1 (off_mo o5 (by decide : ∀ c, c ∈ [25, 26] → c ∈ [25, 26, 64, 65, 66]))
        have x5 : ∀ c, c ≠ 25 → c ≠ 26 → M5.2 c = M4.2 c := fun c h1 h2 => (o5 c (by simp; omega)).2
        rw [q0, nI_add, w15 M5 o15, x5 _ (by omega) (by omega), b2 k (by omega), lI 10, pk_sub hW10, nI_l (by omega), lN_mul]
        refine ⟨c1, vpI (by omega) (by omega), sp_oadd (by omega) (by omega) c2 ?_⟩
        rw [x5 _ (by omega) (by omega), b3 _ (by omega), lN_add]
        generalize hM6 : pm_sj M5 s2.2.2.2.2.2 (k + bnF g p (vN f i) 0 k) (lN (lkP g p W f i k (k + bnF g p (vN f i) 0 k) + lkF g p W f i k * (10 - W))) = M6
        have o6 : off [25, 26, 64, 65, 66] M M6 := by rw [← hM6]; exact off_sj o15 (m65 _ c2)
        have d6 : ∀ j, j < 1000 → M6.2 s2.2.2.2.2.2 j = lN (adN (lkP g p W f i k) (k + bnF g p (vN f i) 0 k) (lkF g p W f i k * (10 - W)) j) := by
          intro j hj
          rw [← hM6, sj_eq]
          unfold adN
          by_cases e : j = k + bnF g p (vN f i) 0 k
          · rw [e, row_eq, row_eq]
          · rw [row_ne e, row_ne e, x5 _ (by omega) (by omega)]; exact b3 j hj
        have e6 : ∀ c, c ≠ s2.2.2.2.2.2 → c ≠ 25 → c ≠ 26 → M6.2 c = M4.2 c := by
          intro c h0 h1 h2
          rw [← hM6, sj_ne h0]; exact x5 c h1 h2
        refine sp_cburden (by omega) (LR_off o6 hl.1 (by decide)) h2 h8 ⟨k9, k9'⟩ v1 (fun M7 o7 => ?_)
        have o17 := off_tr o6 (off_mo o7 (by decide : ∀ c, c ∈ [25, 26] → c ∈ [25, 26, 64, 65, 66]))
        have x7 : ∀ c, c ≠ 25 → c ≠ 26 → M7.2 c = M6.2 c := fun c h1 h2 => (o7 c (by simp; omega)).2
        rw [q1, nI_add, w15 M7 o17, x7 _ (by omega) (by omega), e6 _ c3 (by omega) (by omega), b2 k (by omega), nI_l (by omega), lN_mul]
        refine ⟨c1, vpI (by omega) (by omega), sp_oadd (by omega) (by omega) c2 ?_⟩
        rw [x7 _ (by omega) (by omega), d6 _ (by omega), lN_add]
        refine hk4 _ ⟨off_sj o17 (m65 _ c2), fun j hj => ?_, fun j hj => ?_, ?_⟩
        · rw [sj_ne c3, x7 _ (by omega) (by omega), e6 _ c3 (by omega) (by omega)]; exact b2 j hj
        · rw [sj_eq, st]
          rw [show adN (adN (lkP g p W f i k) (k + bnF g p (vN f i) 0 k) (lkF g p W f i k * (10 - W))) (k + bnF g p (vN f i) 1 k) (lkF g p W f i k * W) j = pm_row (adN (lkP g p W f i k) (k + bnF g p (vN f i) 0 k) (lkF g p W f i k * (10 - W))) (k + bnF g p (vN f i) 1 k) (adN (lkP g p W f i k) (k + bnF g p (vN f i) 0 k) (lkF g p W f i k * (10 - W)) (k + bnF g p (vN f i) 1 k) + lkF g p W f i k * W) j from rfl]
          by_cases e : j = k + bnF g p (vN f i) 1 k
          · rw [e, row_eq, row_eq]
          · rw [row_ne e, row_ne e, x7 _ (by omega) (by omega)]; exact d6 j hj
        · rw [sj_ne (by omega), x7 _ (by omega) (by omega), e6 _ (by omega) (by omega) (by omega)]; exact b4
  · rw [sj_ne (by omega), sj_eq]
    show _ = lN (if k = 0 then 1 else 0)
    by_cases e : k = 0
    · subst e; rw [row_eq, if_pos rfl]; rfl
    · rw [row_ne e, if_neg e, f1 k hk]; rfl
  · rw [sj_eq, row_eq]; rfl
