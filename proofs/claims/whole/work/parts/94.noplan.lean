theorem sp_noPlan {d : Nat} {s : pm_S} {M : pm_M} {g : Nat → Int32} {N T P : Nat} {v : Int32} {Q : Int32 → pm_S → pm_M → Prop} (hd : 4 ≤ d) (hg : M.1 160 = g) (hV : Vd g N T P) (hT : iTray M) (h2 : ¬ inI v 4 → Q (-2) s M) (hm : ∀ r, r < 4 → v = nI r → M.1 182 r = -1 → Q (-6) s M) (h0 : ∀ r n q, r < 4 → v = nI r → q < 4 → M.1 182 r = nI q → M.1 183 r = nI n → YR M (117 + 2 * r) n (fun k => M.2 184 (40 * r + k)) → Q (plF T P n (fun k => M.2 184 (40 * r + k))) s M) : cI d yM_noPlan [.ref 159, .int v] s M Q := by
  obtain ⟨d, rfl⟩ : ∃ e, d = e + 1 := ⟨d - 1, by omega⟩
  have h8 := hV.2.2.2.2.2.1
  have h6 := hV.2.2.2.2.2.2.1
  have e2 := hV.2.1
  have e3 := hV.2.2.1
  refine enM_noPlan (sp_noTray (by omega) hT (fun h => br_f (by decide) (h2 h)) (fun r hr e z => br_f (by decide) (hm r hr e z)) (fun r n q hr e q0 q1 q3 q4 => br_t rfl ?_))
  have hq := h0 r n q hr e q0 q1 q3 q4
  subst e
  have h40 := q4.2.1
  have v4 : vp_in (nI r) 4 := vpI (by omega) (by omega)
  rw [nI_clamp (by omega), q3, nI_l (by omega), lL 1, lL 3]
  unfold plF at hq
  refine ⟨v4, sp_within2 (by omega) (fun z => br_f (by decide) ?_) (fun z => br_t rfl ?_)⟩
  · rw [wi_k (by omega) (by omega) (by omega)] at z
    rw [if_neg (by omega)] at hq
    generalize hf : (fun k => M.2 184 (40 * r + k)) = f at hq
    refine loop_fst (L := fun i => (∀ j, j < i → okP T P f j = true) → wM_noPlan d 40 [.ref 159, .int (nI r), .null, .int (nI (orS (fun j => vN f j / 10) i)), .int (nI (orS (fun j => vN f j % 10) i)), .int (nI i), .null, .null, .null, .null] [] s M Q) (P := fun i => !okP T P f i) (e := n) (K := fun w => Q (if w = none then 0 else -3) s M) hq ?_ ?_ (fun j h => by omega)
    · intro hk _
      refine sgM_noPlan_40 ?_
      rw [nI_clamp (by omega), q3]
      exact ⟨v4, br_t (by rw [nI_leP (by omega) (by omega)]; exact Nat.le_refl _) hk⟩
    · intro i hi k1 k2 ok
      have ef : M.2 184 (40 * r + i) = f i := by rw [← hf]
      refine sgM_noPlan_40 ?_
      rw [nI_clamp (by omega), q3, lI 40, pk_mul, nI_add, nI_clamp (by omega), ef, nI_1]
      refine ⟨v4, br_f (by rw [nI_leP (by omega) (by omega)]; omega) ⟨vpI (by omega) (by omega), ?_⟩⟩
      unfold okP at k1 k2
      cases e : ixN (f i) (10 * T) with
      | none =>
        rw [e] at k1
        refine br_c (fun _ => k1 rfl) (fun c => sp_isThing (n := T) (by omega) (by rw [hg]; exact e2) h8 (fun w => absurd w (no_thing h8 e c).2) (fun _ => br_t rfl (k1 rfl)))
      | some k =>
        have hk := ixN_lt e
        have ev := ixN_eq e (by omega)
        have ek := ixN_vN e
        obtain ⟨d1, d2, _⟩ := k80 k (by omega)
        rw [e] at k1 k2
        dsimp only at k1 k2
        rw [ev, d2, d1]
        refine br_f (by rw [lL 0, lN_ltP (by omega) (by omega)]; omega) (sp_isThing (n := T) (by omega) (by rw [hg]; exact e2) h8 (fun _ => br_f (by decide) ?_) (fun w => absurd ⟨k / 10, by omega, rfl⟩ w))
        refine sp_isPerson (n := P) (by omega) (by rw [hg]; exact e3) h6 (fun w => br_f (by decide) ?_) (fun w => br_t rfl (k1 ?_))
        · obtain ⟨b, hb, eb⟩ := w
          rw [pk_lEQ (by omega) (by omega)] at eb
          intro v1 ev1 v2 ev2
          rw [lN_32] at ev1 ev2
          have hA : orS (fun j => vN f j / 10) i < 2 ^ 8 := orS_lt (fun j hj => by have := (okP_1 h8 (ok j hj)).1; omega)
          have hB : orS (fun j => vN f j % 10) i < 2 ^ 6 := orS_lt (fun j hj => by have := (okP_1 h8 (ok j hj)).2.1; omega)
          have o1 := or_k (k / 10) (by omega) _ hA
          have o2 := or_k (k % 10) (by omega) (orS (fun j => vN f j % 10) i) (by omega)
          rw [ev1, ev2, or_bits hA (by omega) (by omega) (by omega), o1, o2]
          have iff : (bt (orS (fun j => vN f j / 10) i) (k / 10) = false ∧ bt (orS (fun j => vN f j % 10) i) (k % 10) = false) ↔ okD f i = none := by
            constructor
            · rintro ⟨z1, z2⟩
              refine fst_none (fun j hj => ?_)
              rw [ek]
              simp only [decide_eq_false_iff_not, not_or]
              constructor
              · intro y
                have := (orS_bt (h := fun j => vN f j / 10) (n := i) (a := k / 10)).mpr ⟨j, hj, y⟩
                rw [this] at z1; cases z1
              · intro y
                have := (orS_bt (h := fun j => vN f j % 10) (n := i) (a := k % 10)).mpr ⟨j, hj, y⟩
                rw [this] at z2; cases z2
            · intro z
              rcases fst_cases (fun j => decide (vN f j / 10 = vN f i / 10 ∨ vN f j % 10 = vN f i % 10)) i with ⟨_, y⟩ | ⟨l, y, _⟩
              · rw [ek] at y
                constructor
                · cases w : bt (orS (fun j => vN f j / 10) i) (k / 10) with
                  | false => rfl
                  | true =>
                    obtain ⟨j, hj, ej⟩ := orS_bt.mp w
                    have := y j hj
                    simp [ej] at this
                · cases w : bt (orS (fun j => vN f j % 10) i) (k % 10) with
                  | false => rfl
                  | true =>
                    obtain ⟨j, hj, ej⟩ := orS_bt.mp w
                    have := y j hj
                    simp [ej] at this
              · unfold okD at z
                rw [y] at z; cases z
          refine br_c (fun c => ?_) (fun c => k1 ?_)
          · have okk : okP T P f i = true := by
              unfold okP
              rw [e]
              dsimp only
              rw [iff.mp c]
              simp; omega
            have q := k2 (by rw [iff.mp c]; simp; omega) (fun j hj => ?_)
            · have a1 : orS (fun j => vN f j / 10) (i + 1) = orS (fun j => vN f j / 10) i ||| 2 ^ (k / 10) := by rw [← ek]; rfl
              have a2 : orS (fun j => vN f j % 10) (i + 1) = orS (fun j => vN f j % 10) i ||| 2 ^ (k % 10) := by rw [← ek]; rfl
              rw [a1, a2] at q
              exact q
            · by_cases z : j = i
              · subst z; exact okk
              · exact ok j (by omega)
          · have : ¬ okD f i = none := fun z => c (iff.mpr z)
            simp [this]
        · have : ¬ k % 10 < P := fun z => w ⟨k % 10, z, rfl⟩
          simp [this]
  · rw [wi_k (by omega) (by omega) (by omega)] at z
    rw [if_pos (by omega)] at hq
    exact hq
