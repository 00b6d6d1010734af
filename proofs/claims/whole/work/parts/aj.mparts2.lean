/-! the reference's laws' parser: going in, atoms, choices, units -/
theorem MAt_k {B : Nat → Nat} {n : Nat} {x : PS} {R : Nat → Int32} (hB : ∀ k, k < n → B k < 256) (h : MAt B n x R) (h0 : R 11 = 0) : R 9 = nI (rkK (kiF B n x)) ∧ kiF B n x ∈ kdL := by
  cases x with
  | inl f =>
    obtain ⟨h8, g1, g2, g3, h | ⟨g4, h11, h9, h6⟩⟩ := h
    · rw [h.1, lI 0, nI_inj (by omega) (by omega)] at h0; omega
    · exact ⟨h9, by show 131 ∈ kdL; decide⟩
  | inr p =>
    obtain ⟨h8, hp, hk, h11, h9, h6, h7, h10⟩ := h
    exact ⟨h9, tk_in hB⟩
theorem MAt_v {B : Nat → Nat} {n : Nat} {x : PS} {R : Nat → Int32} (hB : ∀ k, k < n → B k < 256) (h : MAt B n x R) (h8 : kiF B n x = 128) : R 10 = nI (vaF B n x) ∧ vaF B n x < 1000 := by
  cases x with
  | inl f => exact absurd h8 (by show ¬ 131 = 128; omega)
  | inr p => exact ⟨h.2.2.2.2.2.2.2 h8, (tk_spec h.2.1 hB).2.2.2.2.2.2 h8⟩
theorem sp_wordOf {d : Nat} {s : pm_S} {M : pm_M} {k : Nat} {o : Bool} {Q : Int32 → pm_S → pm_M → Prop} (hd : 1 ≤ d) (hk : k ∈ kdL) (h15 : M.1 159 15 = oB o) (hq : Q (faI o k) s M) : cI d yM_wordOf [.ref 159, .int (nI (rkK k))] s M Q := by
  obtain ⟨d, rfl⟩ : ∃ e, d = e + 1 := ⟨d - 1, by omega⟩
  have lk := rk_le k hk
  have eqk : ∀ w m : Nat, w ∈ kdL → rkK w = m → m < 100 → ((nI (rkK k) = nI m) = (k = w)) := by
    intro w m hw hm lm
    rw [nI_inj (by omega) (by omega)]
    exact propext ⟨fun h => rk_inj k hk w hw (by rw [h, hm]), fun h => by rw [h, hm]⟩
  have o1 : ∀ v : Int32, (if M.1 159 15 = 1 then v else (-1)) = (if o = true then v else -1) := by
    intro v
    rw [h15]
    cases o
    · rw [if_neg (by decide), if_neg (by decide)]
    · rw [if_pos (by decide), if_pos rfl]
  refine enM_wordOf ?_
  rw [o1 5, o1 6]
  simp only [lI 1, lI 3, lI 4, lI 6, lI 11, lI 16, lI 17, eqk 201 1 (by decide) (by decide) (by omega), eqk 207 3 (by decide) (by decide) (by omega), eqk 208 4 (by decide) (by decide) (by omega), eqk 209 6 (by decide) (by decide) (by omega), eqk 205 11 (by decide) (by decide) (by omega), eqk 212 16 (by decide) (by decide) (by omega), eqk 213 17 (by decide) (by decide) (by omega)]
  refine br_c (fun z => ?_) (fun z1 => br_c (fun z => ?_) (fun z2 => br_c (fun z => ?_) (fun z3 => br_c (fun z => ?_) (fun z4 => br_c (fun z => ?_) (fun z5 => br_c (fun z => ?_) (fun z6 => br_c (fun z => ?_) (fun z7 => ?_)))))))
  · subst z; cases o <;> exact hq
  · subst z; cases o <;> exact hq
  · subst z; cases o <;> exact hq
  · subst z; cases o <;> exact hq
  · subst z; cases o <;> exact hq
  · subst z; cases o <;> exact hq
  · subst z; cases o <;> exact hq
  · have : faW o k = none := by
      unfold faW
      rw [if_neg z6, if_neg z4, if_neg z1, if_neg z2, if_neg z3, if_neg (fun h => z5 h.1), if_neg (fun h => z7 h.1)]
    unfold faI at hq
    rw [this] at hq
    exact hq
theorem sp_giM {d : Nat} {s : pm_S} {M : pm_M} {B : Nat → Nat} {n r a : Nat} {o : Bool} {x : PS} {Q : Int32 → pm_S → pm_M → Prop} (hd : 5 ≤ d) (hr : r ≤ 6) (h : inM B n o x a M) (hk : kiF B n x ≠ 129) (hk2 : kiF B n x ≠ 131)
    (hq1 : r ≠ 0 → ∀ M', chM B n 1 x a M (nxF B n x) a M' → Q 1 s M')
    (hq0 : r = 0 → ∀ M', chM B n 0 x a M (faF B n 4 x) a M' → Q 0 s M') : cI d yM_goesIn [.ref 159, .int (nI (6 - r))] s M Q := by
  obtain ⟨d, rfl⟩ : ∃ e, d = e + 1 := ⟨d - 1, by omega⟩
  obtain ⟨hs, h15⟩ := h
  have h11 : M.1 159 11 = 0 := by
    obtain ⟨p, ep⟩ := ki_al hk2
    have := hs.2.2.1
    rw [ep] at this
    exact MAt_0 this
  refine enM_goesIn ?_
  rw [lI 6, nI_inj (by omega) (by omega)]
  refine br_c (fun z => ?_) (fun z => ?_)
  · refine sp_faM (k := 4) (by omega) hs (by omega) (by omega) (fun M' k1 _ k3 => sgM_goesIn_11 (br_f k3 ?_))
    rw [if_neg k3]
    exact hq0 (by omega) M' (k1 0)
  · refine sgM_goesIn_11 (br_t h11 (sp_nxM (by omega) hs hk hk2 (fun M' k1 k2 k3 => ?_)))
    rw [if_pos k3]
    exact hq1 (by omega) M' k2
theorem dp1 {r : Nat} (hr : r ≤ 6) (h0 : r ≠ 0) : nI (6 - r) + 1 = nI (6 - (r - 1)) := by
  rw [nI_1]; congr 1; omega
theorem if_M {B : Nat → Nat} {n dm r : Nat} {o : Bool} {sm tr : PS → PR} {d : Nat} {s : pm_S} {M : pm_M} {x : PS} {a : Nat} {Q : pm_S → pm_M → Prop} (h4 : 5 ≤ dm) (hr : r ≤ 6) (hS : r ≠ 0 → spM B n o yM_readSum dm (r - 1) sm) (hT : r ≠ 0 → spM B n o yM_readTruth dm (r - 1) tr)
    (hd : dm + 1 ≤ d) (h0 : inM B n o x a M) (hk : kiF B n x = 214) (hq1 : r ≠ 0 → ∀ M', pwM B n o x a M M' (chF B n sm tr (nxF B n x)) → Q s M') (hq0 : r = 0 → ∀ M', chM B n 0 x a M (faF B n 4 x) a M' → Q s M') : cV d yM_readIf [.ref 159, .int (nI (6 - r))] s M Q := by
  obtain ⟨d, rfl⟩ : ∃ e, d = e + 1 := ⟨d - 1, by omega⟩
  refine enM_readIf (sp_giM (by omega) hr h0 (by rw [hk]; decide) (by rw [hk]; decide) (fun r0 M1 k1 => br_f (by decide) ?_) (fun r0 M1 k1 => br_t rfl (hq0 r0 M1 k1)))
  rw [dp1 hr r0]
  have hS := hS r0
  have hT := hT r0
  have hq1 := hq1 r0
  refine hT d s M1 _ a _ (by omega) (chM_in k1 h0) (fun M2 w2 => ?_)
  obtain ⟨b, k2, al2⟩ := w2
  have k2' := chM_tr k1 k2
  refine sp_efM (w := 215) (m := 13) (K := fun s4 M4 => wM_readIf d 30 [.ref 159, .int (nI (6 - r))] [] s4 M4 Q) (by omega) k2' (by decide) (by decide) (by decide) (by decide) (fun M3 k3 s3 => ?_)
  refine sgM_readIf_30 ?_
  rw [dp1 hr r0]
  refine hS d s M3 _ b _ (by omega) (chM_in k3 h0) (fun M4 w4 => ?_)
  obtain ⟨e, k4, al4⟩ := w4
  have k4' := chM_tr k3 k4
  refine sp_efM (w := 216) (m := 14) (K := fun s4 M4 => wM_readIf d 51 [.ref 159, .int (nI (6 - r))] [] s4 M4 Q) (by omega) k4' (by decide) (by decide) (by decide) (by decide) (fun M5 k5 s5 => ?_)
  refine sgM_readIf_51 ?_
  rw [dp1 hr r0]
  refine hS d s M5 _ e _ (by omega) (chM_in k5 h0) (fun M6 w6 => ?_)
  obtain ⟨f, k6, al6⟩ := w6
  have k6' := chM_tr k5 k6
  refine sp_efM (w := 217) (m := 15) (K := fun s4 M4 => cV d yM_codes [.ref 159, .int 3009] s4 M4 (fun s5 M5 => Q s5 M5)) (by omega) k6' (by decide) (by decide) (by decide) (by decide) (fun M7 k7 s7 => ?_)
  refine sp_coM (c := 3) (by omega) k7 (fun M8 b8 k8 v8 => ?_)
  refine hq1 M8 ⟨b8, chM_mo k8 (by omega), fun p' ep => ?_⟩
  obtain ⟨eb, lb, v3, r3⟩ := v8 p' ep
  obtain ⟨p6, e6, x7⟩ := chM_al s7 ep
  obtain ⟨p5, e5, x6⟩ := chM_al k6 e6
  obtain ⟨p4, e4, x5⟩ := chM_al s5 e5
  obtain ⟨p3, e3, x4⟩ := chM_al k4 e4
  obtain ⟨p2, e2, x3⟩ := chM_al s3 e3
  subst eb
  have g2 := al2 p2 e2
  have g4 := al4 p4 e4
  have g6 := al6 p6 e6
  have l4 := gdM_le g4
  have l6 := gdM_le g6
  exact gdM_if (gdM_congr g2 (fun k hk => by rw [r3 k (by omega), x7 k (by omega), x6 k (by omega), x5 k (by omega), x4 k (by omega), x3 k hk])) (gdM_congr g4 (fun k hk => by rw [r3 k (by omega), x7 k (by omega), x6 k (by omega), x5 k hk])) (gdM_congr g6 (fun k hk => by rw [r3 k hk, x7 k hk])) v3
theorem gdM_num {o : Bool} {M : pm_M} {a v : Nat} (hv : v < 1000) (h : M.1 163 (390 + a) = nI v) : gdM o M a (a + 1) (fun _ => nI v) := by
  refine ⟨mnM_one (fun w st => ?_), fun k h1 h2 => ?_, fun w _ => bd_nI hv⟩
  · show evS w (M.1 163 (390 + a)) st = _
    rw [h]
    unfold evS
    rw [if_pos (by rw [lI 3000, nI_ltP (by omega) (by omega)]; omega), if_pos (by rw [lI 1000, nI_ltP (by omega) (by omega)]; omega)]
  · obtain rfl : k = a := by omega
    rw [h]
    refine ⟨fun _ => by rw [lI 0, nI_leP (by omega) (by omega)]; omega, fun z _ => ?_⟩
    rw [lI 1000, nI_leP (by omega) (by omega)] at z
    omega
theorem gdM_word {o : Bool} {M : pm_M} {a j : Nat} (hj : j < limO o) (h : M.1 163 (390 + a) = nI (1000 + j)) : gdM o M a (a + 1) (fun w => w j) := by
  have h7 : j < 7 := by
    unfold limO at hj
    split at hj <;> omega
  refine ⟨mnM_one (fun w st => ?_), fun k h1 h2 => ?_, fun w hw => hw j h7⟩
  · show evS w (M.1 163 (390 + a)) st = _
    rw [h]
    unfold evS
    rw [if_pos (by rw [lI 3000, nI_ltP (by omega) (by omega)]; omega), if_neg (by rw [lI 1000, nI_ltP (by omega) (by omega)]; omega), lI 1000, pk_sub (by omega), nI_clamp (by omega), show 1000 + j - 1000 = j by omega]
  · obtain rfl : k = a := by omega
    rw [h]
    refine ⟨fun z => ?_, fun _ _ => ⟨j, hj, rfl⟩⟩
    rw [lI 1000, nI_ltP (by omega) (by omega)] at z
    omega
theorem faW_lim {o : Bool} {k j : Nat} (h : faW o k = some j) : j < limO o := by
  unfold faW at h
  by_cases c1 : k = 212
  · rw [if_pos c1] at h; cases h; cases o <;> decide
  · rw [if_neg c1] at h
    by_cases c2 : k = 209
    · rw [if_pos c2] at h; cases h; cases o <;> decide
    · rw [if_neg c2] at h
      by_cases c3 : k = 201
      · rw [if_pos c3] at h; cases h; cases o <;> decide
      · rw [if_neg c3] at h
        by_cases c4 : k = 207
        · rw [if_pos c4] at h; cases h; cases o <;> decide
        · rw [if_neg c4] at h
          by_cases c5 : k = 208
          · rw [if_pos c5] at h; cases h; cases o <;> decide
          · rw [if_neg c5] at h
            by_cases c6 : k = 205 ∧ o = true
            · rw [if_pos c6] at h; cases h; rw [c6.2]; decide
            · rw [if_neg c6] at h
              by_cases c7 : k = 213 ∧ o = true
              · rw [if_pos c7] at h; cases h; rw [c7.2]; decide
              · rw [if_neg c7] at h; cases h
theorem at_M {B : Nat → Nat} {n dm r : Nat} {o : Bool} {sm tr : PS → PR} (hr : r ≤ 6) (h4 : 6 ≤ dm) (hS : r ≠ 0 → spM B n o yM_readSum dm (r - 1) sm) (hT : r ≠ 0 → spM B n o yM_readTruth dm (r - 1) tr) : spM B n o yM_readAtom (dm + 2) r (atF B n o r sm tr) := by
  intro d s M x a Q hd h0 hq
  obtain ⟨d, rfl⟩ : ∃ e, d = e + 1 := ⟨d - 1, by omega⟩
  have hs := h0.1
  have hB : ∀ k, k < n → B k < 256 := fun k hk => (hs.2.1.2 k hk).2
  unfold atF at hq
  refine enM_readAtom (sp_isX (w := 128) (m := 23) (by omega) hs.2.1 (by decide) (by decide) (by decide) hs.2.2.1 (fun c1 => br_f (by decide) ?_) (fun c1 => br_t rfl ?_))
  · simp only [if_pos c1] at hq
    obtain ⟨e10, l10⟩ := MAt_v hB hs.2.2.1 c1
    rw [e10]
    exact sp_cnM (by omega) hs (by rw [c1]; decide) (by rw [c1]; decide) (fun M' k1 k2 => hq M' ⟨a + 1, k1, fun p' ep => gdM_num l10 k2⟩)
  simp only [if_neg c1] at hq
  have rest : faW o (kiF B n x) = none → wM_readAtom d 66 [.ref 159, .int (nI (6 - r))] [] s M Q := by
    intro e
    simp only [e] at hq
    refine sgM_readAtom_66 (sp_isX (w := 40) (m := 35) (by omega) hs.2.1 (by decide) (by decide) (by decide) hs.2.2.1 (fun c2 => br_f (by decide) ?_) (fun c2 => br_t rfl (sp_isX (w := 214) (m := 12) (by omega) hs.2.1 (by decide) (by decide) (by decide) hs.2.2.1 (fun c3 => br_f (by decide) ?_) (fun c3 => br_t rfl ?_))))
    · simp only [if_pos c2] at hq
      refine sp_giM (by omega) hr h0 (by rw [c2]; decide) (by rw [c2]; decide) (fun r0 M1 k1 => br_f (by decide) ?_) (fun r0 M1 k1 => br_t rfl ?_)
      · simp only [if_neg r0] at hq
        rw [dp1 hr r0]
        refine hS r0 d s M1 _ a _ (by omega) (chM_in k1 h0) (fun M2 w2 => ?_)
        obtain ⟨b, k2, al2⟩ := w2
        refine sp_efM (w := 41) (m := 36) (K := fun s8 M8 => Q s8 M8) (by omega) (chM_tr k1 k2) (by decide) (by decide) (by decide) (by decide) (fun M3 k3 s3 => ?_)
        refine hq _ ⟨b, chM_mo k3 (by omega), fun p' ep => ?_⟩
        obtain ⟨p2, e2, x3⟩ := chM_al s3 ep
        exact gdM_congr (al2 p2 e2) x3
      · simp only [if_pos r0] at hq
        exact hq M1 ⟨a, k1, fun p' ep => absurd ep (fa_inl p')⟩
    · simp only [if_neg c2, if_pos c3] at hq
      refine if_M (dm := dm) (by omega) hr hS hT (by omega) h0 c3 (fun r0 M' w => ?_) (fun r0 M' k1 => ?_)
      · simp only [if_neg r0] at hq
        exact hq M' w
      · simp only [if_pos r0] at hq
        exact hq M' ⟨a, k1, fun p' ep => absurd ep (fa_inl p')⟩
    · simp only [if_neg c2, if_neg c3] at hq
      exact sp_faM (k := 2) (by omega) hs (by omega) (by omega) (fun M1 k1 _ _ => hq M1 ⟨a, k1 0, fun p' ep => absurd ep (fa_inl p')⟩)
  refine br_c (fun z => ?_) (fun z => ?_)
  · obtain ⟨e9, i9⟩ := MAt_k hB hs.2.2.1 z
    rw [e9]
    refine sp_wordOf (by omega) i9 h0.2 ?_
    cases e : faW o (kiF B n x) with
    | none => exact br_t (by unfold faI; rw [e]) (rest e)
    | some j =>
      obtain ⟨l1, l2, l3⟩ := faW_lt e
      have ej : faI o (kiF B n x) = nI j := by unfold faI; rw [e]
      rw [ej]
      refine br_f (by rw [m1_ne (by omega)]; exact not_false) ?_
      rw [e9]
      refine sp_wordOf (by omega) i9 h0.2 ?_
      rw [ej, lI 1000, nI_add]
      simp only [e] at hq
      exact sp_cnM (by omega) hs l2 l3 (fun M' k1 k2 => hq M' ⟨a + 1, k1, fun p' ep => gdM_word (faW_lim e) k2⟩)
  · cases x with
    | inl f => exact rest faW_131
    | inr p => exact absurd (MAt_0 hs.2.2.1) z
theorem su_dead2 {B : Nat → Nat} {n r k : Nat} {o : Bool} {sm tr : PS → PR} {x : PS} : (suF B n o r sm tr (faF B n k x)).1 = faF B n k x := by
  cases x with
  | inl f => exact su_dead
  | inr p => exact su_dead
theorem un_M {B : Nat → Nat} {n dm r : Nat} {o : Bool} {sm tr un : PS → PR} (hr : r ≤ 6) (h4 : 6 ≤ dm) (hS : spM B n o yM_readSum dm r (suF B n o r sm tr)) (hU : r ≠ 0 → spM B n o yM_readUnit dm (r - 1) un) (hT : r ≠ 0 → spM B n o yM_readTruth dm (r - 1) tr) (h01 : ∀ x w, is01 ((un x).2 w)) : spM B n o yM_readUnit (dm + 1) r (unF B n o r sm tr un) := by
  intro d s M x a Q hd h0 hq
  obtain ⟨d, rfl⟩ : ∃ e, d = e + 1 := ⟨d - 1, by omega⟩
  have hs := h0.1
  have hB : ∀ k, k < n → B k < 256 := fun k hk => (hs.2.1.2 k hk).2
  unfold unF at hq
  refine enM_readUnit (sp_isX (w := 218) (m := 20) (by omega) hs.2.1 (by decide) (by decide) (by decide) hs.2.2.1 (fun c1 => br_f (by decide) ?_) (fun c1 => br_t rfl (sp_isX (w := 91) (m := 37) (by omega) hs.2.1 (by decide) (by decide) (by decide) hs.2.2.1 (fun c2 => br_f (by decide) ?_) (fun c2 => br_t rfl ?_))))
  · simp only [if_pos c1] at hq
    refine sp_giM (by omega) hr h0 (by rw [c1]; decide) (by rw [c1]; decide) (fun r0 M1 k1 => br_f (by decide) ?_) (fun r0 M1 k1 => br_t rfl ?_)
    · simp only [if_neg r0] at hq
      rw [dp1 hr r0]
      refine hU r0 d s M1 _ a _ (by omega) (chM_in k1 h0) (fun M2 w2 => ?_)
      obtain ⟨b, k2, al2⟩ := w2
      have kk := chM_tr k1 k2
      refine sp_coM (c := 0) (by omega) kk (fun M3 b3 k3 v3 => ?_)
      refine hq _ ⟨b3, k3, fun p' ep => ?_⟩
      obtain ⟨eb, lb, w3, r3⟩ := v3 p' ep
      subst eb
      exact gdM_not (gdM_congr (al2 p' ep) r3) w3 (fun w _ => bd_01 (no_01 (h01 _ w)))
    · simp only [if_pos r0] at hq
      exact hq M1 ⟨a, k1, fun p' ep => absurd ep (fa_inl p')⟩
  · simp only [if_neg c1, if_pos c2] at hq
    refine sp_giM (by omega) hr h0 (by rw [c2]; decide) (by rw [c2]; decide) (fun r0 M1 k1 => br_f (by decide) ?_) (fun r0 M1 k1 => br_t rfl ?_)
    · simp only [if_neg r0] at hq
      rw [dp1 hr r0]
      refine hT r0 d s M1 _ a _ (by omega) (chM_in k1 h0) (fun M2 w2 => ?_)
      obtain ⟨b, k2, al2⟩ := w2
      refine sp_efM (w := 93) (m := 38) (K := fun s8 M8 => Q s8 M8) (by omega) (chM_tr k1 k2) (by decide) (by decide) (by decide) (by decide) (fun M3 k3 s3 => ?_)
      refine hq _ ⟨b, chM_mo k3 (by omega), fun p' ep => ?_⟩
      obtain ⟨p2, e2, x3⟩ := chM_al s3 ep
      exact gdM_congr (al2 p2 e2) x3
    · simp only [if_pos r0] at hq
      exact hq M1 ⟨a, k1, fun p' ep => absurd ep (fa_inl p')⟩
  · simp only [if_neg c1, if_neg c2] at hq
    refine hS d s M x a _ (by omega) h0 (fun M1 w1 => ?_)
    obtain ⟨b, k1, al1⟩ := w1
    generalize suF B n o r sm tr x = y at hq k1 al1
    have cmp : ∀ (c : Int32), opC (kiF B n y.1) = some c → kiF B n y.1 ≠ 129 → kiF B n y.1 ≠ 131 → 3000 ≤ c → c ≠ 3006 → c ≠ 3009 → cV d yM_next [.ref 159] s M1 (fun s2 M2 => cV d yM_readSum [.ref 159, .int (nI (6 - r))] s2 M2 (fun s3 M3 => cV d yM_codes [.ref 159, .int c] s3 M3 (fun s4 M4 => Q s4 M4))) := by
      intro c ec hk hk2 h3 h6 h9
      simp only [ec] at hq
      refine sp_nxM (by omega) k1 hk hk2 (fun M2 c2 s2 _ => ?_)
      refine hS d s M2 _ b _ (by omega) (chM_in c2 h0) (fun M3 w3 => ?_)
      obtain ⟨e, k3, al3⟩ := w3
      have kk := chM_tr c2 k3
      refine sp_coM (c := 0) (by omega) kk (fun M4 b4 k4 v4 => ?_)
      refine hq M4 ⟨b4, k4, fun p' ep => ?_⟩
      obtain ⟨eb, lb, w4, r4⟩ := v4 p' ep
      obtain ⟨p2, e2, x3⟩ := chM_al k3 ep
      obtain ⟨p1, e1, y3⟩ := chM_al s2 e2
      subst eb
      have l2 := gdM_le (al3 p' ep)
      exact gdM_bin (gdM_congr (al1 p1 e1) (fun k hk => by rw [r4 k (by omega), x3 k hk, y3 k hk])) (gdM_congr (al3 p' ep) r4) w4 h3 h6 h9 (fun w _ => bd_01 (cm_01 ec))
    have go : ∀ t0 : Int32, (kiF B n y.1 = 61 → t0 = 3003) → (kiF B n y.1 = 60 → t0 = 3004) → (kiF B n y.1 = 62 → t0 = 3005) → wM_readUnit d 111 [.ref 159, .int (nI (6 - r)), .null] [.int t0] s M1 Q := by
      intro t0 q1 q2 q3
      refine sgM_readUnit_111 (sp_isX (w := 61) (m := 39) (by omega) k1.2.1 (by decide) (by decide) (by decide) k1.2.2.1 (fun z1 => br_f (by decide) ?_) (fun z1 => br_t rfl (sp_isX (w := 60) (m := 40) (by omega) k1.2.1 (by decide) (by decide) (by decide) k1.2.2.1 (fun z2 => br_f (by decide) ?_) (fun z2 => br_t rfl (sp_isX (w := 62) (m := 41) (by omega) k1.2.1 (by decide) (by decide) (by decide) k1.2.2.1 (fun z3 => br_f (by decide) ?_) (fun z3 => br_t rfl ?_))))))
      · rw [q1 z1]
        exact cmp 3003 (by unfold opC; rw [if_pos z1]) (by rw [z1]; decide) (by rw [z1]; decide) (by decide) (by decide) (by decide)
      · rw [q2 z2]
        exact cmp 3004 (by unfold opC; rw [if_neg z1, if_pos z2]) (by rw [z2]; decide) (by rw [z2]; decide) (by decide) (by decide) (by decide)
      · rw [q3 z3]
        exact cmp 3005 (by unfold opC; rw [if_neg z1, if_neg z2, if_pos z3]) (by rw [z3]; decide) (by rw [z3]; decide) (by decide) (by decide) (by decide)
      · have ec : opC (kiF B n y.1) = none := by unfold opC; rw [if_neg z1, if_neg z2, if_neg z3]
        simp only [ec] at hq
        refine sp_faM (k := 2) (by omega) k1 (by omega) (by omega) (fun M2 k2 _ _ => ?_)
        refine hS d s M2 _ b _ (by omega) (chM_in (k2 0) h0) (fun M3 w3 => ?_)
        obtain ⟨e, k3, al3⟩ := w3
        rw [su_dead2] at k3
        have kk := chM_tr (k2 1) k3
        refine sp_coM (c := 0) (by omega) kk (fun M4 b4 k4 v4 => ?_)
        exact hq M4 ⟨b4, k4, fun p' ep => absurd ep (fa_inl p')⟩
    refine sp_isX (w := 61) (m := 39) (by omega) k1.2.1 (by decide) (by decide) (by decide) k1.2.2.1 (fun z1 => br_f (by decide) ?_) (fun z1 => br_t rfl (sp_isX (w := 60) (m := 40) (by omega) k1.2.1 (by decide) (by decide) (by decide) k1.2.2.1 (fun z2 => ?_) (fun z2 => ?_)))
    · exact go 3003 (fun _ => rfl) (fun h => by omega) (fun h => by omega)
    · rw [if_neg (by decide)]
      exact go 3004 (fun h => by omega) (fun _ => rfl) (fun h => by omega)
    · rw [if_pos rfl]
      exact go 3005 (fun h => absurd h z1) (fun h => absurd h z2) (fun _ => rfl)
theorem lv_M {B : Nat → Nat} {n r : Nat} {o : Bool} {sm tr un : PS → PR} (hr : r ≤ 6) (hS : r ≠ 0 → spM B n o yM_readSum (8 * r + 2) (r - 1) sm) (hT : r ≠ 0 → spM B n o yM_readTruth (8 * r + 6) (r - 1) tr) (hU : r ≠ 0 → spM B n o yM_readUnit (8 * r + 4) (r - 1) un) (h01 : ∀ w, (∀ x, is01 ((tr x).2 w)) ∧ ∀ x, is01 ((un x).2 w)) :
    spM B n o yM_readSum (8 * r + 10) r (suF B n o r sm tr) ∧ spM B n o yM_readTruth (8 * r + 14) r (tuF B n o r sm tr un) ∧ spM B n o yM_readUnit (8 * r + 12) r (unF B n o r sm tr un) := by
  have a0 : spM B n o yM_readAtom (8 * r + 6 + 2) r (atF B n o r sm tr) := at_M hr (by omega) (fun h => spM_mo (hS h) (by omega)) hT
  have a1 := te_M (by omega) a0
  have a2 := su_M (by omega) a1
  have a3 := un_M hr (by omega) a2 (fun h => spM_mo (hU h) (by omega)) (fun h => spM_mo (hT h) (by omega)) (fun x w => (h01 w).2 x)
  have v3 : ∀ x w, is01 ((unF B n o r sm tr un x).2 w) := fun x w => un_01 (h01 w).1 (h01 w).2 x
  have a4 := bo_M (by omega) a3 v3
  have v4 : ∀ x w, is01 ((boF B n o r sm tr un x).2 w) := fun x w => lp_01 opA_c (fun x => v3 x w) _ _ (v3 x w)
  have a5 := tu_M (by omega) a4 v4
  exact ⟨a2, spM_mo a5 (by omega), spM_mo a3 (by omega)⟩
theorem lev_M {B : Nat → Nat} {n : Nat} {o : Bool} : ∀ r, r ≤ 6 → spM B n o yM_readSum (8 * r + 10) r (levF B n o r).1 ∧ spM B n o yM_readTruth (8 * r + 14) r (levF B n o r).2.1 ∧ spM B n o yM_readUnit (8 * r + 12) r (levF B n o r).2.2 := by
  intro r
  induction r with
  | zero =>
    intro h
    exact lv_M h (fun h => absurd rfl h) (fun h => absurd rfl h) (fun h => absurd rfl h) (fun w => ⟨fun _ => Or.inl rfl, fun _ => Or.inl rfl⟩)
  | succ r ih =>
    intro h
    obtain ⟨i1, i2, i3⟩ := ih (by omega)
    exact lv_M h (fun _ => spM_mo i1 (by omega)) (fun _ => spM_mo i2 (by omega)) (fun _ => spM_mo i3 (by omega)) (fun w => lev_01 r)
