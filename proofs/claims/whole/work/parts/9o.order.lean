/-! the order of opening -/
def arr (b : Nat → Nat → Nat) (B r t k k' : Nat) : Prop := (k' = k + b t k ∧ k' ≤ B ∧ fd b B (r - 2 ^ t) k' = fd b B r k) ∨ (0 < k ∧ k' = b t 0 ∧ k' ≤ B ∧ fd b B (r - 2 ^ t) k' + 1 = fd b B r k)
def rchN (b : Nat → Nat → Nat) (B : Nat) (rch : Nat → Prop) (r t k' : Nat) : Prop := ∃ k, rch k ∧ arr b B r t k k'
/-- what is marked, and whether anything is -/
def AR (M : pm_M) (A : Nat) (P : Nat → Prop) (l : Int32) : Prop := (∀ k, k < 100 → (M.1 A k = 1 ∧ P k) ∨ (M.1 A k = 0 ∧ ¬ P k)) ∧ ((l = 1 ∧ ∃ k, P k) ∨ (l = 0 ∧ ∀ k, ¬ P k)) ∧ ∀ k, P k → k < 100
theorem AR_eq {M : pm_M} {A : Nat} {P P' : Nat → Prop} {l : Int32} (h : AR M A P l) (e : ∀ k, P k ↔ P' k) : AR M A P' l := by
  have : P = P' := funext (fun k => propext (e k))
  rw [← this]; exact h
theorem AR_or {M M' : pm_M} {A j : Nat} {P : Nat → Prop} {l : Int32} (hj : j < 100) (h : AR M A P l) (hM : M'.1 A = pm_row (M.1 A) j 1) : AR M' A (fun k => P k ∨ k = j) 1 := by
  obtain ⟨a1, a2, a3⟩ := h
  refine ⟨fun k hk => ?_, Or.inl ⟨rfl, j, Or.inr rfl⟩, fun k hk => ?_⟩
  · rw [hM]
    by_cases e : k = j
    · subst e; rw [row_eq]; exact Or.inl ⟨rfl, Or.inr rfl⟩
    · rw [row_ne e]
      rcases a1 k hk with ⟨x, y⟩ | ⟨x, y⟩
      · exact Or.inl ⟨x, Or.inl y⟩
      · exact Or.inr ⟨x, fun z => z.elim y e⟩
  · rcases hk with z | z
    · exact a3 k z
    · omega
theorem AR_c {M M' : pm_M} {A : Nat} {P : Nat → Prop} {l : Int32} (h : AR M A P l) (hM : M'.1 A = M.1 A) : AR M' A P l := by
  unfold AR at h ⊢
  rw [hM]; exact h
theorem okS_or1 {L : Nat} {s : pm_S} (h : okS L s) : (s.2.1 = 62 ∨ s.2.1 = 63) ∧ (s.2.2.1 = 62 ∨ s.2.2.1 = 63) ∧ s.2.1 ≠ s.2.2.1 := by
  rcases h.2.1 with ⟨x, y⟩ | ⟨x, y⟩ <;> rw [x, y] <;> simp
theorem sp_reaches {L d : Nat} {s : pm_S} {M : pm_M} {g : Nat → Int32} {N T P p B r t : Nat} {rch : Nat → Prop} {Q : Int32 → pm_S → pm_M → Prop} (hd : 30 ≤ d) (ok : okS L s) (hs : s.2.2.2.1 = some 15) (hV : Vd g N T P) (hp : p < P) (hB : B ≤ 99) (hr : r < 2 ^ T) (ht : t < 8) (hl : LR M 15 g T P) (hO : ON M g T p B) (hR : ∀ k, k < 100 → (M.1 s.2.1 k = 1 ∧ rch k) ∨ (M.1 s.2.1 k = 0 ∧ ¬ rch k)) (hrch : ∀ k, rch k → k ≤ B ∧ fd (bO g p) B r k < 14) (h0 : bt r t = false → Q 0 s M) (hq : ∀ M' l, bt r t = true → AR M' s.2.2.1 (rchN (bO g p) B rch r t) l → ON M' g T p B → M'.1 s.2.1 = M.1 s.2.1 → off [25, 26, 60, 61, 62, 63] M M' → Q l s M') : cI d yN_reachesBehind [.ref 58, .int (nI t), .int (nI r)] s M Q := by
  obtain ⟨d, rfl⟩ : ∃ e, d = e + 1 := ⟨d - 1, by omega⟩
  have h8 := hV.2.2.2.2.2.1
  have h256 := pow_le8 h8
  have hr256 : r < 256 := by omega
  have pc8 := (pc_k r hr256).2
  obtain ⟨c1, c2, c3⟩ := okS_or1 ok
  have m62 : ∀ x, (x = 62 ∨ x = 63) → x ∈ [25, 26, 60, 61, 62, 63] := by rintro x (rfl | rfl) <;> decide
  refine enN_reachesBehind ?_
  rw [bitI0 ht hr256]
  refine br_c (fun z => h0 z) (fun z => ⟨c2, ?_⟩)
  have cb : bt r t = true := by simpa using z
  have tT := bt_pow hr cb
  obtain ⟨x1, _, _, x4⟩ := rm_k t ht r hr256 cb
  refine sp_fill (n := 100) (by omega) ⟨by omega, mut_sh58 c2⟩ (by omega) (fun M1 e1 o1 => ?_)
  have o1' : off [25, 26, 60, 61, 62, 63] M M1 := off_mo o1 (fun c hc => by simp at hc; rw [hc]; exact m62 _ c2)
  have r1 : M1.1 s.2.1 = M.1 s.2.1 := (o1 s.2.1 (by simp; exact c3)).1
  have ON1 : ON M1 g T p B := ON_off o1 (by simp; omega) (by simp; omega) (by simp; omega) hO
  have keepR : ∀ M2 M3 : pm_M, off [25, 26, 60, 61] M2 M3 → M2.1 s.2.1 = M.1 s.2.1 → M3.1 s.2.1 = M.1 s.2.1 := fun M2 M3 o e => by rw [(o s.2.1 (by simp; omega)).1, e]
  have keepA : ∀ M2 M3 : pm_M, off [25, 26, 60, 61] M2 M3 → M3.1 s.2.2.1 = M2.1 s.2.2.1 := fun M2 M3 o => (o s.2.2.1 (by simp; omega)).1
  refine loop_up (L := fun k M2 => ∀ l, AR M2 s.2.2.1 (fun k' => ∃ j, j < k ∧ rch j ∧ arr (bO g p) B r t j k') l → wN_reachesBehind d 23 [.ref 58, .int (nI t), .int (nI r), .int l, .int (nI k), .null, .null, .null, .null] [] s M2 Q) (I := fun k M2 => off [25, 26, 60, 61, 62, 63] M M2 ∧ ON M2 g T p B ∧ M2.1 s.2.1 = M.1 s.2.1) (e := B + 1) ?_ ?_ M1 ⟨o1', ON1, r1⟩ 0 ?_
  · rintro M2 ⟨b1, b2, b3⟩ l hA
    have l01 : l = 0 ∨ l = 1 := by
      rcases hA.2.1 with ⟨x, _⟩ | ⟨x, _⟩
      · exact Or.inr x
      · exact Or.inl x
    refine sgN_reachesBehind_23 (br_t (by rw [b2.2.2.1, nI_ltP (by omega) (by omega)]; omega) ⟨l01, hq M2 l cb (AR_eq hA (fun k' => ?_)) b2 b3 b1⟩)
    constructor
    · rintro ⟨j, _, h1, h2⟩; exact ⟨j, h1, h2⟩
    · rintro ⟨j, h1, h2⟩; exact ⟨j, by have := (hrch j h1).1; omega, h1, h2⟩
  · rintro k M2 hk ⟨b1, b2, b3⟩ hkk l hA
    have next : ∀ M3 l3, off [25, 26, 60, 61, 62, 63] M M3 → ON M3 g T p B → M3.1 s.2.1 = M.1 s.2.1 → AR M3 s.2.2.1 (fun k' => (∃ j, j < k ∧ rch j ∧ arr (bO g p) B r t j k') ∨ (rch k ∧ arr (bO g p) B r t k k')) l3 → wN_reachesBehind d 23 [.ref 58, .int (nI t), .int (nI r), .int l3, .int (nI (k + 1)), .null, .null, .null, .null] [] s M3 Q := by
      intro M3 l3 o3 n3 e3 hA3
      refine hkk M3 ⟨o3, n3, e3⟩ l3 (AR_eq hA3 (fun k' => ?_))
      constructor
      · rintro (⟨j, h1, h2⟩ | h)
        · exact ⟨j, by omega, h2⟩
        · exact ⟨k, by omega, h⟩
      · rintro ⟨j, h1, h2⟩
        by_cases e : j = k
        · subst e; exact Or.inr h2
        · exact Or.inl ⟨j, by omega, h2⟩
    refine sgN_reachesBehind_23 (br_f (by rw [b2.2.2.1, nI_ltP (by omega) (by omega)]; omega) (br_f (by rw [lI 100, nI_leP (by omega) (by omega)]; omega) ⟨c1, vpI (by omega) (by omega), ?_⟩))
    rw [nI_clamp (by omega), b3]
    rcases hR k (by omega) with ⟨y1, y2⟩ | ⟨y1, y2⟩
    · refine br_t y1 ?_
      have f14 := (hrch k y2).2
      have sz : 2 * pcN r + (if k = 0 then 0 else 1) ≤ 17 := by split <;> omega
      refine sp_further hs hV hp hB _ r k 0 d M2 _ rfl hr (by omega) (by omega) (by omega) (LR_off b1 hl (by decide)) b2 (fun M3 n3 o3 => ?_)
      have o23 := off_tr b1 (off_mo o3 (by decide : ∀ c, c ∈ [25, 26, 60, 61] → c ∈ [25, 26, 60, 61, 62, 63]))
      -- one of both
      have one : ∀ later M4 (P4 : Nat → Prop) l4, later < 2 → later ≤ k → off [25, 26, 60, 61, 62, 63] M M4 → ON M4 g T p B → M4.1 s.2.1 = M.1 s.2.1 → AR M4 s.2.2.1 P4 l4 → (∀ M5 l5, off [25, 26, 60, 61, 62, 63] M M5 → ON M5 g T p B → M5.1 s.2.1 = M.1 s.2.1 → AR M5 s.2.2.1 (fun k' => P4 k' ∨ (k' = (if later = 0 then k else 0) + bO g p t (if later = 0 then k else 0) ∧ k' ≤ B ∧ fd (bO g p) B (r - 2 ^ t) k' + later = fd (bO g p) B r k)) l5 → wN_reachesBehind d 68 [.ref 58, .int (nI t), .int (nI r), .int l5, .int (nI k), .int (nI (fd (bO g p) B r k)), .int (nI (later + 1)), .null, .null] [] s M5 Q) → wN_reachesBehind d 68 [.ref 58, .int (nI t), .int (nI r), .int l4, .int (nI k), .int (nI (fd (bO g p) B r k)), .int (nI later), .null, .null] [] s M4 Q := by
        intro later M4 P4 l4 hlat hlk o4 n4 e4 hA4 kont
        refine sgN_reachesBehind_68 (br_f (by rw [lI 2, nI_leP (by omega) (by omega)]; omega) (br_f (by rw [nI_ltP (by omega) (by omega)]; omega) (br_f (by rw [lI 14, nI_leP (by omega) (by omega)]; omega) ?_)))
        have et0 : (if nI later = 0 then nI k else 0) = nI (if later = 0 then k else 0) := by
          by_cases z : later = 0
          · rw [if_pos z, if_pos (by rw [z]; rfl)]
          · rw [if_neg z, if_neg (by rw [l0, nI_inj (by omega) (by omega)]; exact z)]; rfl
        rw [et0]
        have k0 : (if later = 0 then k else 0) ≤ B := by split <;> omega
        generalize (if later = 0 then k else 0) = k1 at kont k0 ⊢
        have bl := bO_le (g := g) (p := p) (t := t) (k := k1)
        refine sgN_reachesBehind_99 (sp_burdenAt (P := P) (by omega) hs (LR_off o4 hl (by decide)) hV hp n4 tT (by omega) (fun M5 n5 o5 => ?_))
        have o5' : off [25, 26, 60, 61] M4 M5 := off_mo o5 (by decide)
        have o45 := off_tr o4 (off_mo o5' (by decide : ∀ c, c ∈ [25, 26, 60, 61] → c ∈ [25, 26, 60, 61, 62, 63]))
        rw [n5.2.2.1, nI_add, nI_ltP (by omega) (by omega), nI_1]
        refine br_c (fun y => ?_) (fun y => ?_)
        · refine kont M5 l4 o45 n5 (keepR M4 M5 o5' e4) (AR_eq (AR_c hA4 (keepA M4 M5 o5')) (fun k' => ⟨fun h => Or.inl h, fun h => h.elim id (fun h => by omega)⟩))
        · rw [x1]
          have sz2 : 2 * pcN (r - 2 ^ t) + (if k1 + bO g p t k1 = 0 then 0 else 1) ≤ 17 := by split <;> omega
          refine sp_further hs hV hp hB _ (r - 2 ^ t) (k1 + bO g p t k1) 0 d M5 _ rfl (fd_pow (g := g) hr) (by omega) (by omega) (by omega) (LR_off o45 hl (by decide)) n5 (fun M6 n6 o6 => ?_)
          have o46 := off_tr o45 (off_mo o6 (by decide : ∀ c, c ∈ [25, 26, 60, 61] → c ∈ [25, 26, 60, 61, 62, 63]))
          have e6 := keepR M5 M6 o6 (keepR M4 M5 o5' e4)
          have a6 : M6.1 s.2.2.1 = M4.1 s.2.2.1 := by rw [keepA M5 M6 o6, keepA M4 M5 o5']
          have l6 := fd_le (b := bO g p) (B := B) (r := r - 2 ^ t) (k := k1 + bO g p t k1) (Nat.lt_of_le_of_lt (Nat.sub_le _ _) hr256)
          have iff : (nI (fd (bO g p) B (r - 2 ^ t) (k1 + bO g p t k1)) = nI (fd (bO g p) B r k) - nI later) ↔ fd (bO g p) B (r - 2 ^ t) (k1 + bO g p t k1) + later = fd (bO g p) B r k := by
            constructor
            · intro h
              have h2 : nI (fd (bO g p) B (r - 2 ^ t) (k1 + bO g p t k1)) + nI later = nI (fd (bO g p) B r k) := by rw [h]; grind
              rw [nI_add, nI_inj (by omega) (by omega)] at h2
              exact h2
            · intro h
              rw [← h, ← nI_add]; grind
          rw [iff]
          refine br_c (fun y2 => ⟨c2, vpI (by omega) (by omega), ?_⟩) (fun y2 => ?_)
          · rw [nI_clamp (by omega)]
            have hA6 := AR_or (M' := pm_si M6 s.2.2.1 (k1 + bO g p t k1) 1) (j := k1 + bO g p t k1) (by omega) hA4 (by rw [si_eq, a6])
            refine kont _ 1 (off_si o46 (m62 _ c2)) ?_ (by rw [si_ne c3]; exact e6) (AR_eq hA6 (fun k' => ?_))
            · exact ON_off (S := [s.2.2.1]) (off_si off_rf (by simp)) (by simp; omega) (by simp; omega) (by simp; omega) n6
            · constructor
              · rintro (h | h)
                · exact Or.inl h
                · exact Or.inr ⟨h, by omega, by rw [h]; exact y2⟩
              · rintro (h | h)
                · exact Or.inl h
                · exact Or.inr h.1
          · refine kont M6 l4 o46 n6 e6 (AR_eq (AR_c hA4 a6) (fun k' => ?_))
            constructor
            · intro h; exact Or.inl h
            · rintro (h | ⟨h1, h2, h3⟩)
              · exact h
              · subst h1; exact absurd h3 y2
      have hA3 := AR_c hA (keepA M2 M3 o3)
      refine one 0 M3 _ l (by omega) (by omega) o23 n3 (keepR M2 M3 o3 b3) hA3 (fun M5 l5 o5 n5 e5 hA5 => ?_)
      by_cases k0 : k = 0
      · refine sgN_reachesBehind_68 (br_f (by decide) (br_t (by rw [nI_ltP (by omega) (by omega)]; omega) ?_))
        rw [nI_1]
        refine next M5 l5 o5 n5 e5 (AR_eq hA5 (fun k' => ?_))
        rw [if_pos rfl, Nat.add_zero]
        constructor
        · rintro (h | h)
          · exact Or.inl h
          · exact Or.inr ⟨y2, Or.inl h⟩
        · rintro (h | ⟨_, h | h⟩)
          · exact Or.inl h
          · exact Or.inr h
          · omega
      · refine one 1 M5 _ l5 (by omega) (by omega) o5 n5 e5 hA5 (fun M6 l6 o6 n6 e6 hA6 => ?_)
        refine sgN_reachesBehind_68 (br_t (by decide) ?_)
        rw [nI_1]
        refine next M6 l6 o6 n6 e6 (AR_eq hA6 (fun k' => ?_))
        rw [if_pos rfl, if_neg (by omega), Nat.add_zero, Nat.zero_add]
        constructor
        · rintro ((h | h) | h)
          · exact Or.inl h
          · exact Or.inr ⟨y2, Or.inl h⟩
          · exact Or.inr ⟨y2, Or.inr ⟨by omega, h⟩⟩
        · rintro (h | ⟨_, h | h⟩)
          · exact Or.inl (Or.inl h)
          · exact Or.inl (Or.inr h)
          · exact Or.inr h.2
    · refine br_f (by rw [y1]; decide) ?_
      have go : wN_reachesBehind d 68 [.ref 58, .int (nI t), .int (nI r), .int l, .int (nI k), .int 14, .int 0, .null, .null] [] s M2 Q := by
        have nx := next M2 l b1 b2 b3 (AR_eq hA (fun k' => ⟨fun h => Or.inl h, fun h => h.elim id (fun h => absurd h.1 y2)⟩))
        rw [← nI_1] at nx
        exact sgN_reachesBehind_68 (br_f (by decide) (br_c (fun _ => nx) (fun _ => br_t (by decide) nx)))
      exact go
  · refine ⟨fun k hk => Or.inr ⟨?_, fun ⟨j, h, _⟩ => by omega⟩, Or.inr ⟨rfl, fun k ⟨j, h, _⟩ => by omega⟩, fun k ⟨j, h, _⟩ => by omega⟩
    rw [e1, putR_in (by omega) (by omega)]
