/-- days used, where what was borne can be come by -/
def GR (M : pm_M) (c : Nat) (b : Nat → Nat → Nat) (B D r : Nat) (P : Nat → Prop) : Prop := ∀ k, k < 100 → (P k ∧ M.1 c k = nI (D - fd b B r k)) ∨ (¬ P k ∧ M.1 c k = 268435456)
def FL (P : Nat → Prop) (l : Int32) : Prop := (l = 1 ∧ ∃ k, P k) ∨ (l = 0 ∧ ∀ k, ¬ P k)
theorem pr_eq {P P' : Nat → Prop} (e : ∀ k, P k ↔ P' k) : P = P' := funext (fun k => propext (e k))
theorem sp_goesThing {d : Nat} {s : pm_S} {M : pm_M} {g : Nat → Int32} {N T P p B S o t D : Nat} {rch : Nat → Prop} {Q : Int32 → pm_S → pm_M → Prop} (hd : 6 ≤ d) (hg : M.1 160 = g) (hV : Vd g N T P) (hp : p < P) (hB : g (41 + p) = nI B) (hB99 : B ≤ 99) (hS : S < 256) (ho : o ≤ S) (hs : sbN o S = true) (ht : t < 8) (hb : bt (S ^^^ o) t = true) (hM : MO M (bO g p) B S (o + 1)) (h34 : M.1 159 34 = nI D) (hD : D < 14) (hG : GR M 175 (bO g p) B D (S ^^^ o) rch) (hrch : ∀ k, rch k → k ≤ B ∧ fd (bO g p) B (S ^^^ o) k ≤ D) (hq : ∀ M' l, GR M' 176 (bO g p) B D ((S ^^^ o) - 2 ^ t) (rchN (bO g p) B rch (S ^^^ o) t) → FL (rchN (bO g p) B rch (S ^^^ o) t) l → off [164, 165, 176] M M' → Q l s M') : cI d yM_goesThing [.ref 159, .int (nI p), .int (nI o), .int (nI t)] s M Q := by
  obtain ⟨d, rfl⟩ : ∃ e, d = e + 1 := ⟨d - 1, by omega⟩
  have h6 := hV.2.2.2.2.2.2.1
  have hok := hV.2.2.2.2.2.2.2.2.2.2.2
  have F : (268435456 : Int32) = nI 268435456 := rfl
  have hx := xor_lt (a := S) (b := o) hS (by omega)
  have hx2 : (S ^^^ o) - 2 ^ t < 256 := Nat.lt_of_le_of_lt (Nat.sub_le _ _) hx
  refine enM_goesThing ?_
  refine loop_up (L := fun k M1 => wM_goesThing d 6 [.ref 159, .int (nI p), .int (nI o), .int (nI t), .int 0, .int (nI k), .null, .null, .null, .null] [] s M1 Q) (I := fun k M1 => (∀ j, j < k → M1.1 176 j = 268435456) ∧ off [164, 165, 176] M M1) (e := 100) ?_ ?_ M ⟨fun j h => by omega, off_rf⟩
  · rintro M1 ⟨b1, b2⟩
    refine sgM_goesThing_6 (br_t (by decide) ?_)
    refine loop_up (L := fun k M2 => ∀ l, GR M2 176 (bO g p) B D ((S ^^^ o) - 2 ^ t) (fun k' => ∃ j, j < k ∧ rch j ∧ arr (bO g p) B (S ^^^ o) t j k') → FL (fun k' => ∃ j, j < k ∧ rch j ∧ arr (bO g p) B (S ^^^ o) t j k') l → wM_goesThing d 32 [.ref 159, .int (nI p), .int (nI o), .int (nI t), .int l, .int (nI k), .null, .null, .null, .null] [] s M2 Q) (I := fun k M2 => off [164, 165, 176] M M2) (e := 100) ?_ ?_ M1 b2 0 (fun k hk => Or.inr ⟨fun ⟨j, h, _⟩ => by omega, b1 k hk⟩) (Or.inr ⟨rfl, fun k ⟨j, h, _⟩ => by omega⟩)
    · intro M2 o2 l hG2 hF2
      have e : (fun k' => ∃ j, j < 100 ∧ rch j ∧ arr (bO g p) B (S ^^^ o) t j k') = rchN (bO g p) B rch (S ^^^ o) t := pr_eq (fun k' => ⟨fun ⟨j, _, h1, h2⟩ => ⟨j, h1, h2⟩, fun ⟨j, h1, h2⟩ => ⟨j, by have := (hrch j h1).1; omega, h1, h2⟩⟩)
      rw [e] at hG2 hF2
      have l01 : l = 0 ∨ l = 1 := by
        rcases hF2 with ⟨x, _⟩ | ⟨x, _⟩
        · exact Or.inr x
        · exact Or.inl x
      exact sgM_goesThing_32 (br_t (by decide) ⟨l01, hq M2 l hG2 hF2 o2⟩)
    · intro k M2 hk o2 hkk l hG2 hF2
      have e175 : M2.1 175 k = M.1 175 k := by rw [(o2 175 (by decide)).1]
      have next : ∀ M3 l3 (P3 : Nat → Prop), off [164, 165, 176] M M3 → (∀ k', P3 k' ↔ ((∃ j, j < k ∧ rch j ∧ arr (bO g p) B (S ^^^ o) t j k') ∨ (rch k ∧ arr (bO g p) B (S ^^^ o) t k k'))) → GR M3 176 (bO g p) B D ((S ^^^ o) - 2 ^ t) P3 → FL P3 l3 → wM_goesThing d 32 [.ref 159, .int (nI p), .int (nI o), .int (nI t), .int l3, .int (nI (k + 1)), .null, .null, .null, .null] [] s M3 Q := by
        intro M3 l3 P3 o3 e3 hG3 hF3
        have e : P3 = (fun k' => ∃ j, j < k + 1 ∧ rch j ∧ arr (bO g p) B (S ^^^ o) t j k') := pr_eq (fun k' => by
          rw [e3]
          constructor
          · rintro (⟨j, h1, h2⟩ | h)
            · exact ⟨j, by omega, h2⟩
            · exact ⟨k, by omega, h⟩
          · rintro ⟨j, h1, h2⟩
            by_cases e : j = k
            · subst e; exact Or.inr h2
            · exact Or.inl ⟨j, by omega, h2⟩)
        rw [e] at hG3 hF3
        exact hkk M3 o3 l3 hG3 hF3
      refine sgM_goesThing_32 (br_f (by rw [lI 99, nI_ltP (by omega) (by omega)]; omega) ⟨vpI (by omega) (by omega), ?_⟩)
      rw [nI_clamp (by omega), e175, F]
      rcases hG k hk with ⟨y1, y2⟩ | ⟨y1, y2⟩
      · obtain ⟨kB, kD⟩ := hrch k y1
        rw [y2]
        refine br_t (by rw [nI_ltP (by omega) (by omega)]; omega) ?_
        have one : ∀ day M4 (P4 : Nat → Prop) l4, day < 2 → off [164, 165, 176] M M4 → GR M4 176 (bO g p) B D ((S ^^^ o) - 2 ^ t) P4 → FL P4 l4 → (∀ M5 l5, off [164, 165, 176] M M5 → GR M5 176 (bO g p) B D ((S ^^^ o) - 2 ^ t) (fun k' => P4 k' ∨ (k' = (if day = 0 then k else 0) + bO g p t (if day = 0 then k else 0) ∧ k' ≤ B ∧ fd (bO g p) B ((S ^^^ o) - 2 ^ t) k' + day = fd (bO g p) B (S ^^^ o) k)) → FL (fun k' => P4 k' ∨ (k' = (if day = 0 then k else 0) + bO g p t (if day = 0 then k else 0) ∧ k' ≤ B ∧ fd (bO g p) B ((S ^^^ o) - 2 ^ t) k' + day = fd (bO g p) B (S ^^^ o) k)) l5 → wM_goesThing d 58 [.ref 159, .int (nI p), .int (nI o), .int (nI t), .int l5, .int (nI k), .int (nI (day + 1)), .null, .null, .null] [] s M5 Q) → wM_goesThing d 58 [.ref 159, .int (nI p), .int (nI o), .int (nI t), .int l4, .int (nI k), .int (nI day), .null, .null, .null] [] s M4 Q := by
          intro day M4 P4 l4 hday o4 hG4 hF4 kont
          refine sgM_goesThing_58 (br_f (by rw [lI 2, nI_leP (by omega) (by omega)]; omega) ?_)
          have et0 : (if nI day = 0 then nI k else 0) = nI (if day = 0 then k else 0) := by
            by_cases z : day = 0
            · rw [if_pos z, if_pos (by rw [z]; rfl)]
            · rw [if_neg z, if_neg (by rw [l0, nI_inj (by omega) (by omega)]; exact z)]; rfl
          rw [et0]
          have k0 : (if day = 0 then k else 0) ≤ B := by split <;> omega
          generalize (if day = 0 then k else 0) = k1 at kont k0 ⊢
          have bl := bO_le (g := g) (p := p) (t := t) (k := k1)
          have g4 := r160 o4 (by decide) hg
          have mo4 : MO M4 (bO g p) B S (o + 1) := MO_c (o4 174 (by decide)).1 hM
          have e4 : M4.1 175 k = nI (D - fd (bO g p) B (S ^^^ o) k) := by rw [(o4 175 (by decide)).1]; exact y2
          have lf := fd_le (b := bO g p) (B := B) (r := (S ^^^ o) - 2 ^ t) (k := k1 + bO g p t k1) hx2
          have none' : ¬ (k1 + bO g p t k1 ≤ B ∧ fd (bO g p) B ((S ^^^ o) - 2 ^ t) (k1 + bO g p t k1) + day = fd (bO g p) B (S ^^^ o) k) → ∀ M5, off [164, 165] M4 M5 → wM_goesThing d 58 [.ref 159, .int (nI p), .int (nI o), .int (nI t), .int l4, .int (nI k), .int (nI (day + 1)), .null, .null, .null] [] s M5 Q := by
            intro hn M5 o5
            have e : (fun k' => P4 k' ∨ (k' = k1 + bO g p t k1 ∧ k' ≤ B ∧ fd (bO g p) B ((S ^^^ o) - 2 ^ t) k' + day = fd (bO g p) B (S ^^^ o) k)) = P4 := pr_eq (fun k' => ⟨fun h => h.elim id (fun ⟨h1, h2⟩ => by subst h1; exact absurd h2 hn), fun h => Or.inl h⟩)
            rw [e] at kont
            refine kont M5 l4 (off_tr o4 (off_mo o5 (by decide))) (fun k' hk' => ?_) hF4
            rw [(o5 176 (by decide)).1]; exact hG4 k' hk'
          refine sgM_goesThing_75 ⟨vpI (by omega) (by omega), sp_moreBy (by omega) g4 hV hp hB hB99 hS ho hs ht hb (by omega) mo4 (fun M5 o5 => ?_)⟩
          rw [nI_1, nI_clamp (by omega), e4, F]
          unfold mbF capI
          by_cases c1 : k1 + bO g p t k1 ≤ B
          · rw [if_pos c1]
            by_cases c2 : fd (bO g p) B ((S ^^^ o) - 2 ^ t) (k1 + bO g p t k1) = 14
            · rw [if_pos c2, F]
              exact br_t (by rw [nI_leP (by omega) (by omega)]; omega) (none' (fun q => by have := q.2; omega) M5 o5)
            · rw [if_neg c2]
              refine br_f (by rw [nI_leP (by omega) (by omega)]; omega) (sp_moreBy (by omega) (r160 o5 (by decide) g4) hV hp hB hB99 hS ho hs ht hb (by omega) (MO_c (o5 174 (by decide)).1 mo4) (fun M6 o6 => ?_))
              have o46 := off_tr o5 o6
              have e34 : M6.1 159 34 = nI D := by rw [(o46 159 (by decide)).1, (o4 159 (by decide)).1]; exact h34
              unfold mbF capI
              rw [if_pos c1, if_neg c2, e34, nI_add, nI_add, nI_inj (by omega) (by omega)]
              refine br_c (fun z => ?_) (fun z => none' (fun q => by have := q.2; omega) M6 o46)
              refine sp_burdenOf (g := g) (by omega) (r160 o46 (by decide) g4) hok (by omega) ht (fun M7 o7 => ?_)
              have o47 := off_tr o46 o7
              rw [(bnF_k g p t 0 k1).1]
              change vp_in (nI k1 + nI (bO g p t k1)) 100 ∧ (M7.1 176 (nI k1 + nI (bO g p t k1)).toNatClampNeg ≤ nI (D - fd (bO g p) B (S ^^^ o) k + day) → vp_in (nI k1 + nI (bO g p t k1)) 100) ∧ vp_in (nI k1 + nI (bO g p t k1)) 100 ∧ wM_goesThing d 58 [.ref 159, .int (nI p), .int (nI o), .int (nI t), .int 1, .int (nI k), .int (nI (day + 1)), .null, .null, .null] [] s (pm_si M7 176 (nI k1 + nI (bO g p t k1)).toNatClampNeg (if M7.1 176 (nI k1 + nI (bO g p t k1)).toNatClampNeg ≤ nI (D - fd (bO g p) B (S ^^^ o) k + day) then M7.1 176 (nI k1 + nI (bO g p t k1)).toNatClampNeg else nI (D - fd (bO g p) B (S ^^^ o) k + day))) Q
              rw [nI_add, nI_clamp (by omega)]
              have v100 : vp_in (nI (k1 + bO g p t k1)) 100 := vpI (by omega) (by omega)
              have eU' : D - fd (bO g p) B (S ^^^ o) k + day = D - fd (bO g p) B ((S ^^^ o) - 2 ^ t) (k1 + bO g p t k1) := by omega
              have val : (if M7.1 176 (k1 + bO g p t k1) ≤ nI (D - fd (bO g p) B (S ^^^ o) k + day) then M7.1 176 (k1 + bO g p t k1) else nI (D - fd (bO g p) B (S ^^^ o) k + day)) = nI (D - fd (bO g p) B ((S ^^^ o) - 2 ^ t) (k1 + bO g p t k1)) := by
                rw [(o47 176 (by decide)).1, eU']
                rcases hG4 (k1 + bO g p t k1) (by omega) with ⟨_, w⟩ | ⟨_, w⟩
                · rw [w]; split <;> rfl
                · rw [w, F, if_neg (by rw [nI_leP (by omega) (by omega)]; omega)]
              rw [val]
              refine ⟨v100, fun _ => v100, v100, kont _ 1 (off_si (off_tr o4 (off_mo o47 (by decide))) (by decide)) (fun k' hk' => ?_) (Or.inl ⟨rfl, k1 + bO g p t k1, Or.inr ⟨rfl, c1, by omega⟩⟩)⟩
              rw [si_eq]
              by_cases e : k' = k1 + bO g p t k1
              · subst e
                rw [row_eq]
                exact Or.inl ⟨Or.inr ⟨rfl, c1, by omega⟩, rfl⟩
              · rw [row_ne e, (o47 176 (by decide)).1]
                rcases hG4 k' hk' with ⟨w1, w2⟩ | ⟨w1, w2⟩
                · exact Or.inl ⟨Or.inl w1, w2⟩
                · exact Or.inr ⟨fun h => h.elim w1 (fun h => e h.1), w2⟩
          · rw [if_neg c1, F]
            exact br_t (by rw [nI_leP (by omega) (by omega)]; omega) (none' (fun q => c1 q.1) M5 o5)
        refine one 0 M2 _ l (by omega) o2 hG2 hF2 (fun M5 l5 o5 hG5 hF5 => one 1 M5 _ l5 (by omega) o5 hG5 hF5 (fun M6 l6 o6 hG6 hF6 => ?_))
        refine sgM_goesThing_58 (br_t (by decide) ?_)
        rw [nI_1]
        refine next M6 l6 _ o6 (fun k' => ?_) hG6 hF6
        rw [if_pos rfl, if_neg (by omega), Nat.add_zero, Nat.zero_add]
        constructor
        · rintro ((h | h) | ⟨h1, h2, h3⟩)
          · exact Or.inl h
          · exact Or.inr ⟨y1, Or.inl h⟩
          · refine Or.inr ⟨y1, Or.inr ⟨?_, h1, h2, h3⟩⟩
            apply Classical.byContradiction
            intro c
            have k0 : k = 0 := by omega
            subst k0
            have := fd_ge (b := bO g p) (B := B) (r := S ^^^ o) (k := 0) (t := t) hx ht hb (by omega)
            rw [Nat.zero_add, ← h1] at this
            omega
        · rintro (h | ⟨_, h | h⟩)
          · exact Or.inl (Or.inl h)
          · exact Or.inl (Or.inr h)
          · exact Or.inr h.2
      · rw [y2, F]
        refine br_f (by rw [nI_ltP (by omega) (by omega)]; omega) ?_
        rw [nI_1]
        exact next M2 l _ o2 (fun k' => ⟨fun h => Or.inl h, fun h => h.elim id (fun h => absurd h.1 y1)⟩) hG2 hF2
  · rintro k M1 hk ⟨b1, b2⟩ hkk
    refine sgM_goesThing_6 (br_f (by rw [lI 99, nI_ltP (by omega) (by omega)]; omega) ⟨vpI (by omega) (by omega), ?_⟩)
    rw [nI_clamp (by omega), nI_1]
    refine hkk _ ⟨fun j hj => ?_, off_si b2 (by decide)⟩
    rw [si_eq]
    by_cases e : j = k
    · subst e; rw [row_eq]
    · rw [row_ne e]; exact b1 j (by omega)
