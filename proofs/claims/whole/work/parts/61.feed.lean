def byF (x : Int32) (j : Nat) : Int32 := (x.toUInt32 >>> ((nI (24 - 8 * j)).toUInt32 &&& Int32.toUInt32 31)).toInt32 &&& 255
theorem byF_lt (x : Int32) (j : Nat) : ∃ b : Nat, b < 256 ∧ byF x j = nI b := pk_andE _ 8 (by decide)
theorem byR (x : Int32) {j : Nat} (hj : j < 4) : (x >>> (nI (24 - 8 * j) &&& 31)) &&& 255 = byF x j := by
  have : j = 0 ∨ j = 1 ∨ j = 2 ∨ j = 3 := by omega
  unfold byF
  rw [pk_and _ (m := 255) 8 (by decide), pk_and _ (m := 255) 8 (by decide)]
  have key : ∀ k : Nat, (k = 0 ∨ k = 8 ∨ k = 16 ∨ k = 24) → (nI k).toBitVec.toNat = k → ∀ s : Int32, s = nI k &&& 31 → (s.toBitVec.smod 32).toNat = k → (((nI k).toUInt32 &&& Int32.toUInt32 31).toBitVec % 32).toNat = k → (x >>> (nI k &&& 31)).toBitVec.toNat % 2 ^ 8 = (x.toUInt32 >>> ((nI k).toUInt32 &&& Int32.toUInt32 31)).toInt32.toBitVec.toNat % 2 ^ 8 := by
    intro k hk _ s es h1 h2
    rw [pk_ushr x (nI k) k h2]
    subst es
    have h3 := pk_shr x (nI k &&& 31) k h1
    have e1 : ((x >>> (nI k &&& 31)).toBitVec.toNat : Int) % 256 = (x >>> (nI k &&& 31)).toInt % 256 := by
      show _ = ((x >>> (nI k &&& 31)).toBitVec.toInt) % 256
      rw [BitVec.toInt_eq_toNat_cond]
      split <;> omega
    rw [h3, Int.shiftRight_eq_div_pow] at e1
    have e2 : x.toInt = (x.toBitVec.toNat : Int) ∨ x.toInt = (x.toBitVec.toNat : Int) - 2 ^ 32 := by
      show x.toBitVec.toInt = _ ∨ x.toBitVec.toInt = _
      rw [BitVec.toInt_eq_toNat_cond]
      split
      · exact Or.inl rfl
      · exact Or.inr rfl
    generalize (x >>> (nI k &&& 31)).toBitVec.toNat = y at e1 ⊢
    generalize x.toBitVec.toNat = z at e2 ⊢
    generalize x.toInt = t at e1 e2
    rcases hk with rfl | rfl | rfl | rfl <;> omega
  rcases this with rfl | rfl | rfl | rfl
  · exact congrArg nI (key 24 (by omega) (by decide) _ rfl (by decide) (by decide))
  · exact congrArg nI (key 16 (by omega) (by decide) _ rfl (by decide) (by decide))
  · exact congrArg nI (key 8 (by omega) (by decide) _ rfl (by decide) (by decide))
  · exact congrArg nI (key 0 (by omega) (by decide) _ rfl (by decide) (by decide))
theorem sp_append {d : Nat} {s : pm_S} {M : pm_M} {n : Nat} {x : Int32} {Q : pm_S → pm_M → Prop} (hd : 1 ≤ d) (hn : M.1 1 1 = nI n) (h9 : n + 4 ≤ 900) (hq : ∀ M', M'.1 14 = putR (M.1 14) n 4 (byF x) → M'.1 1 1 = nI (n + 4) → (∀ k, k ≠ 1 → M'.1 1 k = M.1 1 k) → off [1, 14] M M' → Q s M') : cV d yR_append [.ref 1, .int x] s M Q := by
  obtain ⟨d, rfl⟩ : ∃ e, d = e + 1 := ⟨d - 1, by omega⟩
  have step : ∀ (i : Nat) (l : Int32) (M1 : pm_M), i < 4 → l = nI (24 - 8 * i) → (M1.1 14 = putR (M.1 14) n i (byF x) ∧ M1.1 1 1 = nI (n + i) ∧ (∀ k, k ≠ 1 → M1.1 1 k = M.1 1 k) ∧ off [1, 14] M M1) → (∀ M2, (M2.1 14 = putR (M.1 14) n (i + 1) (byF x) ∧ M2.1 1 1 = nI (n + (i + 1)) ∧ (∀ k, k ≠ 1 → M2.1 1 k = M.1 1 k) ∧ off [1, 14] M M2) → wR_append d 3 [.ref 1, .int x, .int (l + (-8))] [] s M2 Q) → wR_append d 3 [.ref 1, .int x, .int l] [] s M1 Q := by
    intro i l M1 hi el h hk
    obtain ⟨b1, b2, b3, b4⟩ := h
    refine sgR_append_3 (br_f (by rw [el]; exact nI_pos (by omega)) (br_f ?_ ⟨?_, hk _ ⟨?_, ?_, ?_, ?_⟩⟩))
    · rw [b2, lI 900, nI_leP (by omega) (by omega)]; omega
    · rw [b2]; exact vpI (by omega) (by omega)
    · rw [si_ne (by decide), si_eq, b1, b2, nI_clamp (by omega), ← putR_s, el]
      rfl
    · rw [si_eq, row_eq, b2, nI_1]
      rfl
    · intro k hk
      rw [si_eq, row_ne hk, si_ne (by decide)]; exact b3 k hk
    · exact off_si (off_si b4 (by decide)) (by decide)
  refine enR_append (step 0 24 M (by omega) rfl ⟨putR_0.symm, hn, fun _ _ => rfl, off_rf⟩ (fun M1 h1 => step 1 _ M1 (by omega) (by decide) h1 (fun M2 h2 => step 2 _ M2 (by omega) (by decide) h2 (fun M3 h3 => step 3 _ M3 (by omega) (by decide) h3 (fun M4 h4 => ?_)))))
  exact sgR_append_3 (br_t (by decide) (hq M4 h4.1 h4.2.1 h4.2.2.1 h4.2.2.2))
def arF (x1 x2 x3 x4 x5 : Int32) (i : Nat) : Int32 := if i < 1 then x1 else if i < 2 then x2 else if i < 3 then x3 else if i < 4 then x4 else x5
theorem op_feed {L d : Nat} {s : pm_S} {M : pm_M} {x1 x2 x3 x4 x5 : Int32} (hd : 12 ≤ d) (hI : Inv L s M) : cI d yG_feed [.ref 0, .int x1, .int x2, .int x3, .int x4, .int x5] s M (fun r s1 M1 => cI d yM_feed [.ref 159, .int x1, .int x2, .int x3, .int x4, .int x5] s1 M1 (same L r)) := by
  obtain ⟨d, rfl⟩ : ∃ e, d = e + 1 := ⟨d - 1, by omega⟩
  obtain ⟨g, N, T, P, x, nn, hc⟩ := Inv_ctx hI
  have rd := ctx_read hc
  obtain ⟨⟨⟨n, t0, t1, t2, t3⟩, t4, t5⟩, hT, hM⟩ := hc.2.1
  refine enG_feed ?_
  rw [t1, lI 20, lI 900, nI_add, nI_leP (by omega) (by omega)]
  refine br_c (fun c => ?_) (fun c => ?_)
  · refine sp_append (by omega) t1 (by omega) (fun M1 a1 b1 c1 o1 => ?_)
    refine sp_append (by omega) b1 (by omega) (fun M2 a2 b2 c2 o2 => ?_)
    refine sp_append (by omega) b2 (by omega) (fun M3 a3 b3 c3 o3 => ?_)
    refine sp_append (by omega) b3 (by omega) (fun M4 a4 b4 c4 o4 => ?_)
    refine sp_append (by omega) b4 (by omega) (fun M5 a5 b5 c5 o5 => ?_)
    have o : off [1, 14] M M5 := off_tr o1 (off_tr o2 (off_tr o3 (off_tr o4 o5)))
    have cc : ∀ k, k ≠ 1 → M5.1 1 k = M.1 1 k := fun k hk => by rw [c5 k hk, c4 k hk, c3 k hk, c2 k hk, c1 k hk]
    rw [b5]
    have tape : ∀ k, k < n + 20 → M5.1 14 k = if k < n then M.1 14 k else byF (arF x1 x2 x3 x4 x5 ((k - n) / 4)) ((k - n) % 4) := by
      intro k hk
      rw [a5, a4, a3, a2, a1]
      unfold putR arF
      by_cases z0 : k < n
      · rw [if_neg (by omega), if_neg (by omega), if_neg (by omega), if_neg (by omega), if_neg (by omega), if_pos z0]
      rw [if_neg z0]
      by_cases z1 : k < n + 4
      · rw [if_neg (by omega), if_neg (by omega), if_neg (by omega), if_neg (by omega), if_pos (by omega), if_pos (by omega)]
        exact congrArg (byF x1) (by omega)
      by_cases z2 : k < n + 8
      · rw [if_neg (by omega), if_neg (by omega), if_neg (by omega), if_pos (by omega), if_neg (by omega), if_pos (by omega)]
        exact congrArg (byF x2) (by omega)
      by_cases z3 : k < n + 12
      · rw [if_neg (by omega), if_neg (by omega), if_pos (by omega), if_neg (by omega), if_neg (by omega), if_pos (by omega)]
        exact congrArg (byF x3) (by omega)
      by_cases z4 : k < n + 16
      · rw [if_neg (by omega), if_pos (by omega), if_neg (by omega), if_neg (by omega), if_neg (by omega), if_pos (by omega)]
        exact congrArg (byF x4) (by omega)
      · rw [if_pos (by omega), if_neg (by omega), if_neg (by omega), if_neg (by omega), if_neg (by omega)]
        exact congrArg (byF x5) (by omega)
    have e159 : M5.1 159 = M.1 159 := (o 159 (by decide)).1
    have e162 : M5.1 162 = M.1 162 := (o 162 (by decide)).1
    refine enM_feed ?_
    rw [e159, t2, lI 20, lI 900, nI_add, nI_leP (by omega) (by omega)]
    refine br_t c ?_
    refine loop_up (L := fun i Mx => wM_feed d 24 [.ref 159, .int x1, .int x2, .int x3, .int x4, .int x5, .int (nI i), .null] [] s Mx (same L (nI (n + 4 + 4 + 4 + 4 + 4)))) (I := fun i Mx => Mx.1 162 = putR (M.1 162) n i (fun k => byF (arF x1 x2 x3 x4 x5 (k / 4)) (k % 4)) ∧ Mx.1 159 5 = nI (n + i) ∧ Mx.1 159 13 = M.1 159 13 ∧ Mx.1 159 14 = M.1 159 14 ∧ off [159, 162] M5 Mx) (e := 20) ?_ ?_ _ ⟨?_, ?_, ?_, ?_, off_si off_rf (by decide)⟩
    · intro M6 h6
      obtain ⟨p1, p2, p3, p4, p5⟩ := h6
      have f1 : ∀ c, c ≠ 1 → c ≠ 14 → c ≠ 159 → c ≠ 162 → M6.1 c = M.1 c ∧ M6.2 c = M.2 c := by
        intro c z1 z2 z3 z4
        have q1 := o c (by simp; omega)
        have q2 := p5 c (by simp; omega)
        exact ⟨q2.1.trans q1.1, q2.2.trans q1.2⟩
      have e1 : M6.1 1 = M5.1 1 := (p5 1 (by decide)).1
      have e14 : M6.1 14 = M5.1 14 := (p5 14 (by decide)).1
      refine sgM_feed_24 (br_t (by decide) ⟨by rw [p2], ?_⟩)
      refine Inv_rest hI (fun c hc => (f1 c (by omega) (by omega) (by omega) (by omega)).1) ⟨⟨⟨n + 20, by omega, by rw [e1, b5], p2, fun k hk => ?_⟩, ?_, ?_⟩, fun r hr => ?_, iImg_cells (fun c hc => (f1 c (by omega) (by omega) (by omega) (by omega)).1) hM⟩
      · rw [e14, tape k hk, p1]
        by_cases z : k < n
        · rw [if_pos z, putR_out (by omega)]; exact t3 k z
        · rw [if_neg z, putR_in (by omega) (by omega)]
          exact ⟨rfl, byF_lt _ _⟩
      · rw [e1, cc 2 (by omega), p3]; exact t4
      · rw [e1, cc 3 (by omega), p4]; exact t5
      · have := hT r hr
        unfold YR at this ⊢
        rw [(f1 182 (by omega) (by omega) (by omega) (by omega)).1, (f1 183 (by omega) (by omega) (by omega) (by omega)).1, (f1 184 (by omega) (by omega) (by omega) (by omega)).2, (f1 (117 + 2 * r) (by omega) (by omega) (by omega) (by omega)).1, (f1 (117 + 2 * r + 1) (by omega) (by omega) (by omega) (by omega)).2]
        exact this
    · intro i M6 hi h6 hk
      obtain ⟨p1, p2, p3, p4, p5⟩ := h6
      refine sgM_feed_24 (br_f (by rw [lI 20, nI_leP (by omega) (by omega)]; omega) ?_)
      have ea : (if (4 : Int32) ≤ nI i then (if (8 : Int32) ≤ nI i then (if (12 : Int32) ≤ nI i then (if (16 : Int32) ≤ nI i then x5 else x4) else x3) else x2) else x1) = arF x1 x2 x3 x4 x5 (i / 4) := by
        unfold arF
        rw [lI 4, lI 8, lI 12, lI 16]
        simp only [nI_leP (a := 4) (b := i) (by omega) (by omega), nI_leP (a := 8) (b := i) (by omega) (by omega), nI_leP (a := 12) (b := i) (by omega) (by omega), nI_leP (a := 16) (b := i) (by omega) (by omega)]
        by_cases z1 : 4 ≤ i
        · rw [if_pos z1, if_neg (show ¬ i / 4 < 1 by omega)]
          by_cases z2 : 8 ≤ i
          · rw [if_pos z2, if_neg (show ¬ i / 4 < 2 by omega)]
            by_cases z3 : 12 ≤ i
            · rw [if_pos z3, if_neg (show ¬ i / 4 < 3 by omega)]
              by_cases z4 : 16 ≤ i
              · rw [if_pos z4, if_neg (show ¬ i / 4 < 4 by omega)]
              · rw [if_neg z4, if_pos (show i / 4 < 4 by omega)]
            · rw [if_neg z3, if_pos (show i / 4 < 3 by omega)]
          · rw [if_neg z2, if_pos (show i / 4 < 2 by omega)]
        · rw [if_neg z1, if_pos (show i / 4 < 1 by omega)]
      rw [ea]
      refine sgM_feed_77 ?_
      rw [p2, nI_clamp (by omega), lI 4, lI 8, lI 24, pk_rem (by omega) (by omega) (by omega), pk_mul, pk_sub (by omega), byR _ (Nat.mod_lt _ (by omega)), nI_1, nI_1]
      refine ⟨vpI (by omega) (by omega), hk _ ⟨?_, ?_, ?_, ?_, off_si (off_si p5 (by decide)) (by decide)⟩⟩
      · rw [si_ne (by decide), si_eq, p1, ← putR_s]
      · rw [si_eq, row_eq]; rfl
      · rw [si_eq, row_ne (by omega), si_ne (by decide)]; exact p3
      · rw [si_eq, row_ne (by omega), si_ne (by decide)]; exact p4
    · rw [si_ne (by decide), putR_0]; exact e162
    · rw [si_eq, row_ne (by omega), e159]; exact t2
    · rw [si_eq, row_ne (by omega), e159]
    · rw [si_eq, row_ne (by omega), e159]
  · refine enM_feed ?_
    rw [t2, lI 20, lI 900, nI_add, nI_leP (by omega) (by omega)]
    exact br_f c ⟨rfl, rd⟩
