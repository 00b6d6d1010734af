theorem who_in {g : Nat → Int32} {N T P t : Nat} (hV : Vd g N T P) (hv : Vs g N T P) (ht : t < T) : (∃ p, p < P ∧ g (50 + t) = nI (10 + p)) ∨ (¬ inI (g (50 + t) - 10) 6) := by
  have h5 := hV.2.2.2.2.1
  have h6 := hV.2.2.2.2.2.2.1
  rcases hv.2.1 t ht with ⟨k, k1, k2⟩ | ⟨p, p1, p2⟩ | k2
  · right
    rw [k2]
    rintro ⟨j, j1, j2⟩
    have : ∀ k, k < 8 → ∀ j, j < 6 → ¬ nI k - 10 = nI j := by decide +kernel
    exact this k (by omega) j j1 j2
  · exact Or.inl ⟨p, p1, p2⟩
  · right
    rw [k2]
    rintro ⟨j, j1, j2⟩
    have : ∀ j, j < 6 → ¬ nI 99 - 10 = nI j := by decide +kernel
    exact this j j1 j2
theorem sp_pointed {d : Nat} {s : pm_S} {M : pm_M} {g : Nat → Int32} {N T P L p : Nat} {Q : Int32 → pm_S → pm_M → Prop} (hd : 4 ≤ d) (hg : M.1 160 = g) (hV : Vd g N T P) (hv : Vs g N T P) (hL : okL g T P L) (hp : p < 6) (hb : bt L p = true) (hq : ∀ M', off [164, 165] M M' → Q (nI (ptF g T L p)) s M') : cI d yM_pointed [.ref 159, .int (nI p), .int (nI L)] s M Q := by
  obtain ⟨d, rfl⟩ : ∃ e, d = e + 1 := ⟨d - 1, by omega⟩
  have h2 := hV.2.1
  have h8 := hV.2.2.2.2.2.1
  have h6 := hV.2.2.2.2.2.2.1
  have hok := hV.2.2.2.2.2.2.2.2.2.2.1
  have h64 := hL.1
  obtain ⟨pP, p1, p2⟩ := okL_h hL hp hb
  refine enM_pointed (sp_heldByN (by omega) hg h2 h8 ?_)
  rw [p1]
  show wM_pointed d 12 [.ref 159, .int (nI p), .int (nI L), .int (nI (hN g T p)), .int (nI (hN g T p)), .int 0, .null] [] s M Q
  generalize ho : hN g T p = o at p2
  -- b: the thing; inL t: somebody left holds it
  refine loop_up (L := fun i M1 => ∀ b, b < T → (∃ q, q < 6 ∧ bt L q = true ∧ heldF g T q = some b) → clF g p o ≤ clF g p b → (∀ q, q < 6 → bt L q = true → hN g T q < i → clF g p (hN g T q) ≤ clF g p b) → (clF g p b = clF g p o → b = o) → (b ≠ o → ∀ q, q < 6 → bt L q = true → hN g T q < i → clF g p (hN g T q) = clF g p b → b ≤ hN g T q) → wM_pointed d 12 [.ref 159, .int (nI p), .int (nI L), .int (nI o), .int (nI b), .int (nI i), .null] [] s M1 Q) (I := fun i M1 => off [164, 165] M M1) (e := T) ?_ ?_ M off_rf o p2 ⟨p, hp, hb, by rw [p1, ho]⟩ (by grind) (fun q _ _ h => by omega) (fun _ => rfl) (fun h => absurd rfl h)
  · intro M1 o1 b hbT hex a3 a4 a5 a6
    obtain ⟨r, r1, r2, r3⟩ := hex
    have g1 := r160 o1 (by decide) hg
    have er : hN g T r = b := by unfold hN; rw [r3]; rfl
    have isp : isPt g T L p r := by
      refine ⟨r1, r2, fun q hq hbq => ?_, fun e => ?_, fun hne q hq hbq e => ?_⟩
      · rw [er]
        exact a4 q hq hbq (okL_h hL hq hbq).2.2
      · rw [er, ho] at e
        have := a5 e
        exact hN_inj r1 hp r3 (p1) (by rw [this, ho])
      · rw [er] at e ⊢
        refine a6 (fun z => hne ?_) q hq hbq (okL_h hL hq hbq).2.2 e
        exact hN_inj r1 hp r3 p1 (by rw [z, ho])
    have epr := isPt_uni hL isp (ptF_is hp hb)
    have := hq M1 o1
    rw [← epr] at this
    refine sgM_pointed_12 (br_t (by rw [g1, h2, nI_leP (by omega) (by omega)]; exact Nat.le_refl _) ?_)
    rw [lI 50, nI_add, nI_clamp (by omega), g1, (heldF_lt r3).2, lI 10, pk_sub (by omega), show 10 + r - 10 = r by omega]
    exact ⟨vpI (by omega) (by omega), this⟩
  · intro t M1 ht o1 hk b hbT hex a3 a4 a5 a6
    have g1 := r160 o1 (by decide) hg
    refine sgM_pointed_12 (br_f (by rw [g1, h2, nI_leP (by omega) (by omega)]; omega) ?_)
    rw [lI 50, nI_add, nI_clamp (by omega), g1, nI_1]
    refine ⟨vpI (by omega) (by omega), ?_⟩
    -- nobody left holds t
    have skip : (∀ q, q < 6 → bt L q = true → hN g T q ≠ t) → ∀ M2, off [164, 165] M M2 → wM_pointed d 12 [.ref 159, .int (nI p), .int (nI L), .int (nI o), .int (nI b), .int (nI (t + 1)), .null] [] s M2 Q := by
      intro hno M2 o2
      refine hk M2 o2 b hbT hex a3 (fun q hq hbq hlt => ?_) a5 (fun hne q hq hbq hlt e => ?_)
      · exact a4 q hq hbq (by have := hno q hq hbq; omega)
      · exact a6 hne q hq hbq (by have := hno q hq hbq; omega) e
    rw [lL 0, lL 5]
    rcases who_in hV hv ht with ⟨w, w1, w2⟩ | no
    · rw [w2, lI 10, pk_sub (by omega), show 10 + w - 10 = w by omega]
      refine sp_within2 (by omega) (fun _ => br_f (by decide) ?_) (fun z => absurd ((wi_inI (by omega)).mpr ⟨w, by omega, rfl⟩) z)
      refine sp_isIn (by omega) (by omega) (by omega) ?_
      have hw : ∀ q, q < 6 → bt L q = true → hN g T q = t → q = w := by
        intro q hq hbq e
        obtain ⟨_, x1, x2⟩ := okL_h hL hq hbq
        have := (heldF_lt x1).2
        rw [e, w2, nI_inj (by omega) (by omega)] at this
        omega
      cases c : bt L w with
      | false => exact br_t rfl (skip (fun q hq hbq e => by rw [hw q hq hbq e, c] at hbq; cases hbq) M1 o1)
      | true =>
        have et : hN g T w = t := by
          obtain ⟨wP, x1, x2⟩ := okL_h hL (by omega) c
          exact hv.2.2.1 (hN g T w) t w x2 ht w1 (heldF_lt x1).2 w2
        have hwt : heldF g T w = some t := by
          obtain ⟨_, x1, _⟩ := okL_h hL (by omega) c
          rw [x1, et]
        refine br_f (by decide) (sp_claimsOf (g := g) (by omega) g1 hok (by omega) (by omega) (fun M2 o2 => ?_))
        refine sp_claimsOf (g := g) (by omega) (r160 o2 (by decide) g1) hok (by omega) (by omega) (fun M3 o3 => ?_)
        have o13 := off_tr o1 (off_tr o2 o3)
        have take : (clF g p b < clF g p t ∨ (clF g p t = clF g p b ∧ b ≠ o ∧ t < b)) → ∀ M4, off [164, 165] M M4 → wM_pointed d 12 [.ref 159, .int (nI p), .int (nI L), .int (nI o), .int (nI t), .int (nI (t + 1)), .null] [] s M4 Q := by
          intro hc M4 o4
          refine hk M4 o4 t ht ⟨w, by omega, c, hwt⟩ ?_ (fun q hq hbq hlt => ?_) (fun e => ?_) (fun hne q hq hbq hlt e => ?_)
          · rcases hc with z | ⟨z, _⟩ <;> grind
          · by_cases y : hN g T q = t
            · rw [y]; grind
            · have := a4 q hq hbq (by omega)
              rcases hc with z | ⟨z, _⟩ <;> grind
          · rcases hc with z | ⟨z, z2, _⟩
            · exfalso; grind
            · exact absurd (a5 (by rw [← z]; exact e)) z2
          · by_cases y : hN g T q = t
            · omega
            · rcases hc with z | ⟨z, z2, z3⟩
              · have := a4 q hq hbq (by omega)
                exfalso; grind
              · have := a6 z2 q hq hbq (by omega) (by rw [e, z])
                omega
        have keep : ¬ clF g p b < clF g p t → ¬ (clF g p t = clF g p b ∧ b ≠ o ∧ t < b) → ∀ M4, off [164, 165] M M4 → wM_pointed d 12 [.ref 159, .int (nI p), .int (nI L), .int (nI o), .int (nI b), .int (nI (t + 1)), .null] [] s M4 Q := by
          intro z1 z2 M4 o4
          refine hk M4 o4 b hbT hex a3 (fun q hq hbq hlt => ?_) a5 (fun hne q hq hbq hlt e => ?_)
          · by_cases y : hN g T q = t
            · rw [y]; exact i_le z1
            · exact a4 q hq hbq (by omega)
          · by_cases y : hN g T q = t
            · rw [y] at e ⊢
              apply Classical.byContradiction
              intro w
              exact z2 ⟨e, hne, by omega⟩
            · exact a6 hne q hq hbq (by omega) e
        refine br_c (fun z => take (Or.inl z) M3 o13) (fun z => ?_)
        have z' : ¬ clF g p b < clF g p t := z
        refine sp_claimsOf (g := g) (by omega) (r160 o3 (by decide) (r160 o2 (by decide) g1)) hok (by omega) (by omega) (fun M4 o4 => ?_)
        refine sp_claimsOf (g := g) (by omega) (r160 o4 (by decide) (r160 o3 (by decide) (r160 o2 (by decide) g1))) hok (by omega) (by omega) (fun M5 o5 => ?_)
        have o15 := off_tr o13 (off_tr o4 o5)
        change wM_pointed d 12 [.ref 159, .int (nI p), .int (nI L), .int (nI o), .int (if clF g p t = clF g p b then (if nI b = nI o then nI b else (if nI b ≤ nI t then nI b else nI t)) else nI b), .int (nI (t + 1)), .null] [] s M5 Q
        simp only [nI_inj (a := b) (b := o) (by omega) (by omega), nI_leP (a := b) (b := t) (by omega) (by omega)]
        by_cases y1 : clF g p t = clF g p b
        · rw [if_pos y1]
          by_cases y2 : b = o
          · rw [if_pos y2]; exact keep z' (fun q => q.2.1 y2) M5 o15
          · rw [if_neg y2]
            by_cases y3 : b ≤ t
            · rw [if_pos y3]; exact keep z' (fun q => by have := q.2.2; omega) M5 o15
            · rw [if_neg y3]; exact take (Or.inr ⟨y1, y2, by omega⟩) M5 o15
        · rw [if_neg y1]; exact keep z' (fun q => y1 q.1) M5 o15
    · refine sp_within2 (by omega) (fun z => absurd ((wi_inI (by omega)).mp z) no) (fun _ => br_t rfl (skip (fun q hq hbq e => ?_) M1 o1))
      obtain ⟨qP, x1, _⟩ := okL_h hL hq hbq
      have := (heldF_lt x1).2
      rw [e] at this
      refine no ⟨q, hq, ?_⟩
      rw [this, lI 10, pk_sub (by omega), show 10 + q - 10 = q by omega]
