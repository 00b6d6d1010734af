noncomputable def goB (b : Nat → Nat → Nat) (B : Nat) (x : Nat × (Nat → Prop)) (t : Nat) : Bool := @decide (bt x.1 t = true ∧ ∃ k, rchN b B x.2 x.1 t k) (Classical.propDecidable _)
theorem goB_iff {b : Nat → Nat → Nat} {B t : Nat} {x : Nat × (Nat → Prop)} : goB b B x t = true ↔ (bt x.1 t = true ∧ ∃ k, rchN b B x.2 x.1 t k) := ⟨fun h => @of_decide_eq_true _ (Classical.propDecidable _) h, fun h => @decide_eq_true _ (Classical.propDecidable _) h⟩
noncomputable def stp (b : Nat → Nat → Nat) (B : Nat) (x : Nat × (Nat → Prop)) : Nat := (fst (goB b B x) 8).getD 8
noncomputable def nxt (b : Nat → Nat → Nat) (B : Nat) (x : Nat × (Nat → Prop)) : Nat × (Nat → Prop) := (x.1 - 2 ^ stp b B x, rchN b B x.2 x.1 (stp b B x))
noncomputable def stF (b : Nat → Nat → Nat) (B S i : Nat) : Nat × (Nat → Prop) := itr (fun _ x => nxt b B x) i (S, fun k => k = 0)
/-- what holds on the way -/
def okX (b : Nat → Nat → Nat) (B D : Nat) (x : Nat × (Nat → Prop)) : Prop := (∃ k, x.2 k) ∧ ∀ k, x.2 k → k ≤ B ∧ fd b B x.1 k ≤ D
theorem stp_ok {b : Nat → Nat → Nat} {B D : Nat} {x : Nat × (Nat → Prop)} (hD : D < 14) (hr : x.1 < 256) (h0 : x.1 ≠ 0) (h : okX b B D x) : fst (goB b B x) 8 = some (stp b B x) ∧ stp b B x < 8 ∧ bt x.1 (stp b B x) = true ∧ (∃ k, rchN b B x.2 x.1 (stp b B x) k) ∧ ∀ t, t < stp b B x → goB b B x t = false := by
  obtain ⟨⟨k, hk⟩, h2⟩ := h
  obtain ⟨t, t1, t2, t3⟩ := fd_ex (b := b) (B := B) hr h0 (k := k) (by have := (h2 k hk).2; omega)
  have ex : goB b B x t = true := by
    rw [goB_iff]
    refine ⟨t2, ?_⟩
    rcases t3 with ⟨a1, a2⟩ | ⟨a1, a2, a3⟩
    · exact ⟨k + b t k, k, hk, Or.inl ⟨rfl, a1, a2⟩⟩
    · exact ⟨b t 0, k, hk, Or.inr ⟨a1, rfl, a2, a3⟩⟩
  rcases fst_cases (goB b B x) 8 with ⟨_, q⟩ | ⟨i, q1, q2, q3, q4⟩
  · rw [q t t1] at ex; cases ex
  · have e : stp b B x = i := by unfold stp; rw [q1]; rfl
    rw [e]
    have := goB_iff.mp q3
    exact ⟨q1, q2, this.1, this.2, q4⟩
theorem okX_nxt {b : Nat → Nat → Nat} {B D : Nat} {x : Nat × (Nat → Prop)} (hD : D < 14) (hr : x.1 < 256) (h0 : x.1 ≠ 0) (h : okX b B D x) : okX b B D (nxt b B x) := by
  obtain ⟨_, _, _, s4, _⟩ := stp_ok hD hr h0 h
  refine ⟨s4, fun k' hk' => ?_⟩
  obtain ⟨k, hk, a⟩ := hk'
  have := h.2 k hk
  show k' ≤ B ∧ fd b B (x.1 - 2 ^ stp b B x) k' ≤ D
  rcases a with ⟨a1, a2, a3⟩ | ⟨a1, a2, a3, a4⟩
  · exact ⟨a2, by omega⟩
  · exact ⟨a3, by omega⟩
theorem stF_ok {b : Nat → Nat → Nat} {B D S : Nat} (hD : fd b B S 0 = D) (h14 : D < 14) (hS : S < 256) : ∀ i, i ≤ pcN S → okX b B D (stF b B S i) ∧ (stF b B S i).1 ≤ S ∧ pcN (stF b B S i).1 + i = pcN S := by
  intro i
  induction i with
  | zero => intro _; exact ⟨⟨⟨0, rfl⟩, fun k hk => by have hk : k = 0 := hk; subst hk; exact ⟨by omega, by show fd b B S 0 ≤ D; omega⟩⟩, Nat.le_refl _, rfl⟩
  | succ i ih =>
    intro hi
    obtain ⟨a1, a2, a3⟩ := ih (by omega)
    have h256 : (stF b B S i).1 < 256 := by omega
    have h0 : (stF b B S i).1 ≠ 0 := fun z => by
      have := (pc0 h256).mpr z
      omega
    obtain ⟨_, s2, s3, _, _⟩ := stp_ok h14 h256 h0 a1
    obtain ⟨_, _, _, e⟩ := rm_k _ s2 _ h256 s3
    refine ⟨okX_nxt h14 h256 h0 a1, ?_, ?_⟩
    · exact Nat.le_trans (Nat.sub_le _ _) a2
    · show pcN ((stF b B S i).1 - 2 ^ stp b B (stF b B S i)) + (i + 1) = pcN S
      omega
def dyI (b : Nat → Nat → Nat) (B S : Nat) : Int32 := if S = 0 then 0 else if fd b B S 0 < 14 then nI (1 + fd b B S 0) else -1
theorem sp_fewest {d : Nat} {s : pm_S} {M : pm_M} {g : Nat → Int32} {N T P p B S : Nat} {Q : Int32 → pm_S → pm_M → Prop} (hd : 30 ≤ d) (hs : s.2.2.2.1 = some 15) (hV : Vd g N T P) (hp : p < P) (hB : B ≤ 99) (hS : S < 2 ^ T) (hl : LR M 15 g T P) (hO : ON M g T p B) (hq : ∀ M', ON M' g T p B → off [25, 26, 60, 61] M M' → Q (dyI (bO g p) B S) s M') : cI d yN_fewestDays [.ref 58, .int (nI S)] s M Q := by
  obtain ⟨d, rfl⟩ : ∃ e, d = e + 1 := ⟨d - 1, by omega⟩
  have h8 := hV.2.2.2.2.2.1
  have h256 := pow_le8 h8
  have pc8 := (pc_k S (by omega)).2
  refine enN_fewestDays ?_
  rw [l0, nI_inj (by omega) (by omega)]
  unfold dyI at hq
  refine br_c (fun z => ?_) (fun z => ?_)
  · rw [if_pos z] at hq; exact hq M hO off_rf
  · rw [if_neg z] at hq
    refine sp_further hs hV hp hB _ S 0 0 d M _ rfl hS (by omega) (by rw [if_pos rfl]; omega) (by rw [if_pos rfl]; omega) hl hO (fun M1 n1 o1 => ?_)
    have l := fd_le (b := bO g p) (B := B) (r := S) (k := 0) (by omega)
    rw [lI 14, l1, nI_add]
    simp only [nI_ltP (a := fd (bO g p) B S 0) (b := 14) (by omega) (by omega)]
    exact hq M1 n1 o1
theorem okS_sw1 {L : Nat} {s : pm_S} (h : okS L s) : okS L (s.1, s.2.2.1, s.2.1, s.2.2.2.1, s.2.2.2.2.1, s.2.2.2.2.2) := by
  obtain ⟨a, b, c, d⟩ := h
  refine ⟨a, ?_, c, d⟩
  rcases b with ⟨x, y⟩ | ⟨x, y⟩
  · exact Or.inr ⟨y, x⟩
  · exact Or.inl ⟨y, x⟩
theorem sp_findOrder {L d : Nat} {s : pm_S} {M : pm_M} {g : Nat → Int32} {N T P p B S : Nat} {Q : Int32 → pm_S → pm_M → Prop} (hd : 32 ≤ d) (ok : okS L s) (hs : s.2.2.2.1 = some 15) (hV : Vd g N T P) (hp : p < P) (hB : B ≤ 99) (hS : S < 2 ^ T) (hl : LR M 15 g T P) (hO : ON M g T p B) (hq : ∀ s' M', okS L s' → (fd (bO g p) B S 0 < 14 → ∀ i, i < pcN S → M'.1 59 i = nI (stp (bO g p) B (stF (bO g p) B S i))) → off [25, 26, 59, 60, 61, 62, 63] M M' → Q (if fd (bO g p) B S 0 < 14 then nI (pcN S) else 0) s' M') : cI d yN_findOrder [.ref 58, .int (nI S)] s M Q := by
  obtain ⟨d, rfl⟩ : ∃ e, d = e + 1 := ⟨d - 1, by omega⟩
  have h8 := hV.2.2.2.2.2.1
  have h256 := pow_le8 h8
  obtain ⟨pcS, pc8⟩ := pc_k S (by omega)
  have m62 : ∀ x, (x = 62 ∨ x = 63) → x ∈ [25, 26, 59, 60, 61, 62, 63] := by rintro x (rfl | rfl) <;> decide
  refine enN_findOrder (sp_fewest (by omega) hs hV hp hB hS hl hO (fun M1 n1 o1 => ?_))
  have o1' : off [25, 26, 59, 60, 61, 62, 63] M M1 := off_mo o1 (by decide)
  have iff : (dyI (bO g p) B S = -1) ↔ ¬ fd (bO g p) B S 0 < 14 := by
    have l := fd_le (b := bO g p) (B := B) (r := S) (k := 0) (by omega)
    unfold dyI
    by_cases z : S = 0
    · rw [if_pos z, z]
      constructor
      · intro h; exact absurd h (by decide)
      · intro h; exact absurd (show fd (bO g p) B 0 0 < 14 by rw [fd_0]; omega) h
    · rw [if_neg z]
      by_cases y : fd (bO g p) B S 0 < 14
      · rw [if_pos y, m1_ne (by omega)]; simp [y]
      · rw [if_neg y]; simp [y]
  rw [iff]
  refine br_c (fun z => ?_) (fun z => ?_)
  · have := hq s M1 ok (fun h => absurd h z) o1'
    rw [if_neg z] at this
    exact this
  have hD : fd (bO g p) B S 0 < 14 := by omega
  rw [if_pos hD] at hq
  obtain ⟨c1, c2, c3⟩ := okS_or1 ok
  refine ⟨c1, sp_fill (n := 100) (by omega) ⟨by omega, mut_sh58 c1⟩ (by omega) (fun M2 e2 o2 => ⟨c1, ?_⟩)⟩
  have o2' : off [25, 26, 59, 60, 61, 62, 63] M M2 := off_tr o1' (off_mo o2 (fun c hc => by simp at hc; rw [hc]; exact m62 _ c1))
  -- the way
  refine loop_up (L := fun i M3 => ∀ s3, okS L s3 → s3.2.2.2.1 = some 15 → (∀ k, k < 100 → (M3.1 s3.2.1 k = 1 ∧ (stF (bO g p) B S i).2 k) ∨ (M3.1 s3.2.1 k = 0 ∧ ¬ (stF (bO g p) B S i).2 k)) → wN_findOrder d 30 [.ref 58, .int (nI S), .int (nI (stF (bO g p) B S i).1), .int (nI i), .null, .null] [] s3 M3 Q) (I := fun i M3 => off [25, 26, 59, 60, 61, 62, 63] M M3 ∧ ON M3 g T p B ∧ ∀ j, j < i → M3.1 59 j = nI (stp (bO g p) B (stF (bO g p) B S j))) (e := pcN S) ?_ ?_ _ ⟨off_si o2' (m62 _ c1), ON_off (S := [s.2.1]) (M := M1) (fun c hc => ?_) (by simp; omega) (by simp; omega) (by simp; omega) n1, fun j h => by omega⟩ s ok hs (fun k hk => ?_)
  · rintro M3 ⟨b1, b2, b3⟩ s3 ok3 hs3 hR3
    obtain ⟨_, a2, a3⟩ := stF_ok (b := bO g p) (B := B) (S := S) rfl hD (by omega) (pcN S) (Nat.le_refl _)
    have e0 : (stF (bO g p) B S (pcN S)).1 = 0 := (pc0 (by omega)).mp (by omega)
    have fin : cI d yint_bitCount [.int (nI S)] s3 M3 (fun r1 s1 M1 => Q r1 s1 M1) := by
      refine sp_bitCount (by omega) (by omega) ?_
      rw [pcS]
      exact hq s3 M3 ok3 (fun _ => b3) b1
    rw [e0]
    exact sgN_findOrder_30 (br_c (fun _ => fin) (fun _ => br_t rfl fin))
  · rintro i M3 hi ⟨b1, b2, b3⟩ hk s3 ok3 hs3 hR3
    obtain ⟨a1, a2, a3⟩ := stF_ok (b := bO g p) (B := B) (S := S) rfl hD (by omega) i (by omega)
    have x256 : (stF (bO g p) B S i).1 < 256 := by omega
    have x0 : (stF (bO g p) B S i).1 ≠ 0 := fun z => by
      have := (pc0 x256).mpr z
      omega
    obtain ⟨s1, s2, s4, s5, s6⟩ := stp_ok hD x256 x0 a1
    have eN : stF (bO g p) B S (i + 1) = nxt (bO g p) B (stF (bO g p) B S i) := rfl
    rw [eN] at hk
    generalize hx : stF (bO g p) B S i = x at a1 a2 a3 x256 x0 s1 s2 s4 s5 s6 hk hR3 ⊢
    refine sgN_findOrder_30 (br_f (by rw [lI 8, nI_leP (by omega) (by omega)]; omega) (br_f (by rw [l0, nI_inj (by omega) (by omega)]; exact x0) ?_))
    obtain ⟨d1, d2, d3⟩ := okS_or1 ok3
    -- the first that can be next
    have srch : ∀ t, t ≤ stp (bO g p) B x → ∀ M4, off [25, 26, 60, 61, 62, 63] M3 M4 → ON M4 g T p B → M4.1 s3.2.1 = M3.1 s3.2.1 → wN_findOrder d 43 [.ref 58, .int (nI S), .int (nI x.1), .int (nI i), .int (nI t), .null] [] s3 M4 Q := by
      intro t
      have : ∀ q t, t + q = stp (bO g p) B x → ∀ M4, off [25, 26, 60, 61, 62, 63] M3 M4 → ON M4 g T p B → M4.1 s3.2.1 = M3.1 s3.2.1 → wN_findOrder d 43 [.ref 58, .int (nI S), .int (nI x.1), .int (nI i), .int (nI t), .null] [] s3 M4 Q := by
        intro q
        induction q with
        | zero =>
          intro t ht M4 o4 n4 e4
          have et : t = stp (bO g p) B x := by omega
          subst et
          refine sgN_findOrder_43 (br_f (by rw [lI 8, nI_leP (by omega) (by omega)]; omega) (sp_reaches (by omega) ok3 hs3 hV hp hB (by omega) s2 (LR_off o4 (LR_off b1 hl (by decide)) (by decide)) n4 (fun k hk' => by rw [e4]; exact hR3 k hk') (fun k hk' => ⟨(a1.2 k hk').1, by have := (a1.2 k hk').2; omega⟩) (fun z => by rw [s4] at z; cases z) (fun M5 l cb hA n5 e5 o5 => ?_)))
          have l1' : l = 1 := by
            rcases hA.2.1 with ⟨y, _⟩ | ⟨_, y⟩
            · exact y
            · obtain ⟨k, hk'⟩ := s5
              exact absurd hk' (y k)
          refine br_f (by rw [l1']; decide) (sgN_findOrder_66 ?_)
          rw [nI_clamp (by omega), (rm_k _ s2 x.1 x256 s4).2.1, nI_1]
          have o35 := off_tr o4 o5
          refine ⟨vpI (by omega) (by omega), d1, d2, hk _ ⟨off_si (off_tr b1 (off_mo o35 (by decide))) (by decide), ON_off (S := [59]) (off_si off_rf (by decide)) (by decide) (by decide) (by decide) n5, fun j hj => ?_⟩ _ (okS_sw1 ok3) hs3 (fun k hk' => ?_)⟩
          · rw [si_eq]
            by_cases e : j = i
            · subst e; rw [row_eq, hx]
            · rw [row_ne e, (o35 59 (by decide)).1]; exact b3 j (by omega)
          · show ((pm_si M5 59 i (nI (stp (bO g p) B x))).1 s3.2.2.1 k = 1 ∧ rchN (bO g p) B x.2 x.1 (stp (bO g p) B x) k) ∨ ((pm_si M5 59 i (nI (stp (bO g p) B x))).1 s3.2.2.1 k = 0 ∧ ¬ rchN (bO g p) B x.2 x.1 (stp (bO g p) B x) k)
            rw [si_ne (by omega)]
            exact hA.1 k hk'
        | succ q ihq =>
          intro t ht M4 o4 n4 e4
          have t8 : t < 8 := by omega
          have gf := s6 t (by omega)
          refine sgN_findOrder_43 (br_f (by rw [lI 8, nI_leP (by omega) (by omega)]; omega) (sp_reaches (by omega) ok3 hs3 hV hp hB (by omega) t8 (LR_off o4 (LR_off b1 hl (by decide)) (by decide)) n4 (fun k hk' => by rw [e4]; exact hR3 k hk') (fun k hk' => ⟨(a1.2 k hk').1, by have := (a1.2 k hk').2; omega⟩) (fun z => br_t rfl ?_) (fun M5 l cb hA n5 e5 o5 => ?_)))
          · rw [nI_1]; exact ihq (t + 1) (by omega) M4 o4 n4 e4
          · have l0' : l = 0 := by
              rcases hA.2.1 with ⟨_, y⟩ | ⟨y, _⟩
              · have := goB_iff.mpr ⟨cb, y⟩
                rw [this] at gf; cases gf
              · exact y
            refine br_t l0' ?_
            rw [nI_1]
            exact ihq (t + 1) (by omega) M5 (off_tr o4 o5) n5 (e5.trans e4)
      intro ht
      exact this (stp (bO g p) B x - t) t (by omega)
    exact srch 0 (by omega) M3 off_rf b2 rfl
  · have hc' : c ≠ s.2.1 := by simpa using hc
    have := o2 c (by simp; exact hc')
    rw [si_ne hc', si_2]
    exact this
  · rw [si_eq]
    by_cases e : k = 0
    · subst e; rw [row_eq]; exact Or.inl ⟨rfl, rfl⟩
    · rw [row_ne e, e2, putR_in (by omega) (by omega)]; exact Or.inr ⟨rfl, e⟩
theorem sp_nbegin {L d : Nat} {s : pm_S} {M : pm_M} {g : Nat → Int32} {N T P p B : Nat} {Q : pm_S → pm_M → Prop} (hd : 4 ≤ d) (ok : okS L s) (hl : LV M g N T P) (hS : SR M 27 g T P) (hp : p < P) (hB : g (41 + p) = nI B) (hB99 : B ≤ 99) (hq : ∀ s' M', okS L s' → s'.2.2.2.1 = some 15 → ON M' g T p B → off [58, 60, 61] M M' → Q s' M') : cV d yN_begin [.ref 58, .ref 15, .ref 27, .int (nI p)] s M Q := by
  obtain ⟨d, rfl⟩ : ∃ e, d = e + 1 := ⟨d - 1, by omega⟩
  have hV := hl.2
  have h6 := hV.2.2.2.2.2.2.1
  have h3 := hV.2.2.1
  refine enN_begin (sp_markOfN (by omega) (SR_cells hS (fun c hc => si_ne (by simp at hc; omega))) hp h6 ?_)
  refine sp_hasPerson (P := P) (by omega) (by rw [si_ne (by decide), si_ne (by decide)]; exact hl.1.2.2.1.trans h3) h6 (fun _ => br_f (by decide) ⟨vpI (by omega) (by omega), ?_⟩) (fun q => absurd ⟨p, hp, rfl⟩ q)
  have e22 : (pm_si (pm_si M 58 7 (nI p)) 58 6 (g (66 + p))).1 22 p = nI B := by
    rw [si_ne (by decide), si_ne (by decide)]
    exact (hl.1.2.2.2.2.2.2.1 p hp).2.trans hB
  rw [nI_clamp (by omega), e22, lI 99]
  refine sp_min (by omega) ?_
  rw [if_neg (by rw [nI_ltP (by omega) (by omega)]; omega)]
  refine sgN_begin_43 ?_
  rw [nI_1, lI 32, pk_mul, l0]
  refine sp_fill4 (n := 3200) (by omega) ⟨by omega, rfl⟩ (by omega) (by omega) (by omega) (fun M2 f2 o2 => sp_fill (n := 800) (by omega) ⟨by omega, rfl⟩ (by omega) (fun M3 f3 o3 => ?_))
  refine hq _ M3 ?_ rfl ⟨?_, ?_, ?_, fun k hk r hr => ?_, fun t ht k hk => ?_⟩ ?_
  · obtain ⟨a, b, c, e⟩ := ok
    exact ⟨a, b, Or.inr rfl, e⟩
  · rw [(o3 58 (by decide)).1, (o2 58 (by decide)).1, si_eq, si_eq, si_eq, row_ne (by decide), row_ne (by decide), row_eq]
  · rw [(o3 58 (by decide)).1, (o2 58 (by decide)).1, si_eq, si_eq, row_ne (by decide), row_eq]
  · rw [(o3 58 (by decide)).1, (o2 58 (by decide)).1, si_eq, row_eq]
  · left
    rw [(o3 60 (by decide)).1, f2, putR_in (by omega) (by omega)]
    exact nb_0 _ (by omega)
  · left
    have h8 := hV.2.2.2.2.2.1
    rw [f3, putR_in (by omega) (by omega)]
  · exact off_tr (off_si (off_si (off_si off_rf (by decide)) (by decide)) (by decide)) (off_tr (off_mo o2 (by decide)) (off_mo o3 (by decide)))
