theorem sp_within2 {d : Nat} {s : pm_S} {M : pm_M} {v lo hi : Int64} {Q : Int32 → pm_S → pm_M → Prop} (hd : 1 ≤ d) (h1 : lo ≤ v ∧ v ≤ hi → Q 1 s M) (h0 : ¬ (lo ≤ v ∧ v ≤ hi) → Q 0 s M) : cI d yM_within [.long v, .long lo, .long hi] s M Q := by
  refine sp_within hd ?_
  split
  · rename_i h; exact h1 h
  · rename_i h; exact h0 h
def inI (p : Int32) (n : Nat) : Prop := ∃ k : Nat, k < n ∧ p = nI k
theorem inN_i {p : Int32} {n : Nat} (hn : n < 2 ^ 30) : inN p.toInt64 n ↔ inI p n := by
  constructor
  · rintro ⟨k, hk, h⟩
    refine ⟨k, hk, ?_⟩
    apply Int32.toInt_inj.mp
    have := congrArg Int64.toInt h
    rw [Int32.toInt_toInt64, pk_lT (by omega)] at this
    rw [nI_toInt (by omega)]
    exact this
  · rintro ⟨k, hk, rfl⟩
    exact ⟨k, hk, nI_l (by omega)⟩
theorem lN_32 {k : Nat} : (lN k).toInt32 = nI k := lN_i k
theorem sp_isStation {d : Nat} {s : pm_S} {M : pm_M} {v : Int64} {n : Nat} {Q : Int32 → pm_S → pm_M → Prop} (hd : 2 ≤ d) (hn : M.1 160 1 = nI n) (hb : n ≤ 8) (h1 : inN v n → Q 1 s M) (h0 : ¬ inN v n → Q 0 s M) : cI d yM_isStation [.ref 159, .long v] s M Q := by
  obtain ⟨d, rfl⟩ : ∃ e, d = e + 1 := ⟨d - 1, by omega⟩
  refine enM_isStation (sp_within2 (by omega) (fun h => ⟨Or.inr rfl, h1 ?_⟩) (fun h => ⟨Or.inl rfl, h0 ?_⟩))
  · rw [hn] at h; exact (inN_iff (by omega)).mp h
  · rw [hn] at h; exact fun q => h ((inN_iff (by omega)).mpr q)
theorem sp_isThing {d : Nat} {s : pm_S} {M : pm_M} {v : Int64} {n : Nat} {Q : Int32 → pm_S → pm_M → Prop} (hd : 2 ≤ d) (hn : M.1 160 2 = nI n) (hb : n ≤ 8) (h1 : inN v n → Q 1 s M) (h0 : ¬ inN v n → Q 0 s M) : cI d yM_isThing [.ref 159, .long v] s M Q := by
  obtain ⟨d, rfl⟩ : ∃ e, d = e + 1 := ⟨d - 1, by omega⟩
  refine enM_isThing (sp_within2 (by omega) (fun h => ⟨Or.inr rfl, h1 ?_⟩) (fun h => ⟨Or.inl rfl, h0 ?_⟩))
  · rw [hn] at h; exact (inN_iff (by omega)).mp h
  · rw [hn] at h; exact fun q => h ((inN_iff (by omega)).mpr q)
theorem sp_isPerson {d : Nat} {s : pm_S} {M : pm_M} {v : Int64} {n : Nat} {Q : Int32 → pm_S → pm_M → Prop} (hd : 2 ≤ d) (hn : M.1 160 3 = nI n) (hb : n ≤ 6) (h1 : inN v n → Q 1 s M) (h0 : ¬ inN v n → Q 0 s M) : cI d yM_isPerson [.ref 159, .long v] s M Q := by
  obtain ⟨d, rfl⟩ : ∃ e, d = e + 1 := ⟨d - 1, by omega⟩
  refine enM_isPerson (sp_within2 (by omega) (fun h => ⟨Or.inr rfl, h1 ?_⟩) (fun h => ⟨Or.inl rfl, h0 ?_⟩))
  · rw [hn] at h; exact (inN_iff (by omega)).mp h
  · rw [hn] at h; exact fun q => h ((inN_iff (by omega)).mpr q)
theorem sp_areTwo {d : Nat} {s : pm_S} {M : pm_M} {v w : Int64} {n : Nat} {Q : Int32 → pm_S → pm_M → Prop} (hd : 3 ≤ d) (hn : M.1 160 3 = nI n) (hb : n ≤ 6) (h1 : inN v n ∧ inN w n ∧ ¬ v = w → Q 1 s M) (h0 : ¬ (inN v n ∧ inN w n ∧ ¬ v = w) → Q 0 s M) : cI d yM_areTwo [.ref 159, .long v, .long w] s M Q := by
  obtain ⟨d, rfl⟩ : ∃ e, d = e + 1 := ⟨d - 1, by omega⟩
  refine enM_areTwo (sp_isPerson (by omega) hn hb (fun hv => br_f (by decide) ?_) (fun hv => br_t rfl (h0 (fun q => hv q.1))))
  refine sp_isPerson (by omega) hn hb (fun hw => ?_) (fun hw => ?_)
  · rw [if_neg (by decide)]
    by_cases e : v = w
    · rw [if_pos e]; exact h0 (fun q => q.2.2 e)
    · rw [if_neg e]; exact h1 ⟨hv, hw, e⟩
  · rw [if_pos rfl]; exact h0 (fun q => hw q.2.1)
def bitsF (x : Int32) : Int32 := itr (fun k n => n + ((x >>> (nI k &&& 31)) &&& 1)) 10 0
theorem sp_bitsOf {d : Nat} {s : pm_S} {M : pm_M} {x : Int32} {Q : Int32 → pm_S → pm_M → Prop} (hd : 1 ≤ d) (hq : Q (bitsF x) s M) : cI d yM_bitsOf [.int x] s M Q := by
  obtain ⟨d, rfl⟩ : ∃ e, d = e + 1 := ⟨d - 1, by omega⟩
  refine enM_bitsOf ?_
  refine loop_itr (L := fun i n => wM_bitsOf d 4 [.int x, .int n, .int (nI i)] [] s M Q) (f := fun k n => n + ((x >>> (nI k &&& 31)) &&& 1)) (e := 10) ?_ ?_
  · exact sgM_bitsOf_4 (br_t (by decide) hq)
  · intro i hi h
    refine sgM_bitsOf_4 (br_f ?_ ?_)
    · rw [lI 10, nI_leP (by omega) (by omega)]; omega
    · rw [nI_1]; exact h
theorem sp_between {d : Nat} {s : pm_S} {M : pm_M} {c a b : Int32} {Q : Int32 → pm_S → pm_M → Prop} (hd : 1 ≤ d) (hq : Q (btw c a b) s M) : cI d yM_between [.int c, .int a, .int b] s M Q := by
  obtain ⟨d, rfl⟩ : ∃ e, d = e + 1 := ⟨d - 1, by omega⟩
  refine enM_between ?_
  unfold btw at hq
  refine br_c (fun h => ?_) (fun h => ?_)
  · rw [if_pos h] at hq; exact hq
  rw [if_neg h] at hq
  refine br_c (fun h => ?_) (fun h => ?_)
  · rw [if_pos h] at hq
    have e : ((if b ≤ a then 0 else 1) : Int32) = if a < b then 1 else 0 := by grind
    rw [e]; exact hq
  rw [if_neg h] at hq
  refine br_c (fun h => ?_) (fun h => ?_)
  · rw [if_pos h] at hq
    have e : ((if a ≤ b then 0 else 1) : Int32) = if b < a then 1 else 0 := by grind
    rw [e]; exact hq
  rw [if_neg h] at hq
  refine br_c (fun h => ?_) (fun h => ?_)
  · rw [if_pos h] at hq; exact hq
  rw [if_neg h] at hq
  refine br_c (fun h => ?_) (fun h => ?_)
  · rw [if_pos h] at hq; exact hq
  rw [if_neg h] at hq
  intro v hv
  rw [hv]
  exact hq
/-- the loop of reckons, its stack as a list -/
theorem reck_loop {d : Nat} {s : pm_S} {Q : Int32 → pm_S → pm_M → Prop} {g w : Nat → Int32} {law lim n fr : Nat} {M0 : pm_M} {v : Int32} (hd : 1 ≤ d) (hlaw : law < 2) (hf : g (7 + law) = nI fr) (hn : g (9 + law) = nI n) (hb : fr + n ≤ 900) (hlim : lim ≤ 7) (hcd : ∀ k, k < n → (lwC g law k < 1000 → 0 ≤ lwC g law k) ∧ (1000 ≤ lwC g law k → lwC g law k < 3000 → ∃ j : Nat, j < lim ∧ lwC g law k = nI (1000 + j))) (hev : evL w (lwC g law) n = some [v]) (hq : ∀ M', off [164] M0 M' → Q v s M') :
    ∀ (m k : Nat), k + m = n → ∀ (M : pm_M) (l : List Int32), off [164] M0 M → M.1 160 = g → M.1 165 = w → evL w (lwC g law) k = some l → stR (M.1 164) l → wM_reckons d 65 [.ref 159, .int (nI law), .null, .null, .int (nI l.length), .int (nI k), .null] [] s M Q := by
  intro m
  induction m with
  | zero =>
    intro k hk M l hoff hg hw hl hst
    have : k = n := by omega
    subst this
    rw [hev] at hl
    cases hl
    refine sgM_reckons_65 ?_
    rw [hg, lI 9, nI_add, nI_clamp (by omega), hn, nI_leP (by omega) (by omega)]
    refine ⟨vpI (by omega) (by omega), br_t (Nat.le_refl _) ?_⟩
    have := (stR_pop hst).2
    simp only [List.length_nil] at this
    rw [this]
    exact hq M hoff
  | succ m ih =>
    intro k hk M l hoff hg hw hl hst
    have hln := evL_len hl
    have hkn : k < n := by omega
    obtain ⟨l', hl'⟩ := evL_pre (k := k + 1) hev (by omega)
    have hstep : evS w (lwC g law k) l = some l' := by
      have := hl'
      simp only [evL] at this
      rw [hl] at this
      exact this
    have hln' := evL_len hl'
    refine sgM_reckons_65 ?_
    rw [hg, lI 9, nI_add, nI_clamp (by omega), hn, nI_leP (by omega) (by omega)]
    refine ⟨vpI (by omega) (by omega), br_f (by omega) ?_⟩
    rw [lI 7, nI_add, nI_clamp (by omega), hf, lI 390, nI_add, nI_add, nI_clamp (by omega)]
    refine ⟨vpI (by omega) (by omega), vpI (by omega) (by omega), ?_⟩
    have hcode : g (390 + fr + k) = lwC g law k := by
      unfold lwC
      rw [hf, nI_clamp (by omega)]
    intro v1 hv1
    rw [hcode] at hv1
    subst hv1
    obtain ⟨hc1, hc2⟩ := hcd k hkn
    generalize hc : lwC g law k = c at hstep hc1 hc2 ⊢
    unfold evS at hstep
    have hne : ∀ x : Nat, x ≠ 164 → x ∉ ([164] : List Nat) := fun x hx => by simp [hx]
    have h160 : ∀ (i : Nat) (x : Int32), (pm_si M 164 i x).1 160 = g := fun i x => by rw [si_ne (by decide)]; exact hg
    have h165 : ∀ (i : Nat) (x : Int32), (pm_si M 164 i x).1 165 = w := fun i x => by rw [si_ne (by decide)]; exact hw
    have hof : ∀ (i : Nat) (x : Int32), off [164] M0 (pm_si M 164 i x) := fun i x => off_si hoff (by decide)
    by_cases h3 : c < 3000
    · rw [if_pos h3] at hstep
      cases hstep
      refine br_f (by grind) ?_
      refine ⟨fun q => ?_, vpI (by omega) (by omega), ?_⟩
      · obtain ⟨j, hj, rfl⟩ := hc2 q h3
        rw [lI 1000, pk_sub (by omega), show 1000 + j - 1000 = j by omega]
        exact vpI (by omega) (by omega)
      · rw [nI_clamp (by omega), nI_1, nI_1]
        have e1 : ((if c < 1000 then c else w (c - 1000).toNatClampNeg) : Int32) = (if 1000 ≤ c then M.1 165 (c - 1000).toNatClampNeg else c) := by
          rw [hw]; grind
        have := ih (k + 1) (by omega) (pm_si M 164 l.length (if c < 1000 then c else w (c - 1000).toNatClampNeg)) ((if c < 1000 then c else w (c - 1000).toNatClampNeg) :: l) (hof _ _) (h160 _ _) (h165 _ _) hl' (by rw [si_eq]; exact stR_push hst)
        rw [e1] at this
        exact this
    · rw [if_neg h3] at hstep
      refine br_t (by grind) ?_
      by_cases h6 : c = 3006
      · rw [if_pos h6] at hstep
        refine br_t h6 ?_
        match l, hstep, hst, hln, hl with
        | a :: r, hstep, hst, hln, hl =>
          cases hstep
          simp only [List.length_cons] at hln hln' ⊢
          have hp := stR_pop hst
          rw [l1, pk_sub (by omega), show r.length + 1 - 1 = r.length by omega, nI_clamp (by omega), nI_add, hp.2]
          refine ⟨vpI (by omega) (by omega), vpI (by omega) (by omega), ?_⟩
          exact ih (k + 1) (by omega) (pm_si M 164 r.length (1 - a)) ((1 - a) :: r) (hof _ _) (h160 _ _) (h165 _ _) hl' (by rw [si_eq]; exact stR_push hp.1)
      · rw [if_neg h6] at hstep
        refine br_f h6 ?_
        by_cases h9 : c = 3009
        · rw [if_pos h9] at hstep
          refine br_t h9 ?_
          match l, hstep, hst, hln, hl with
          | e :: t :: b :: r, hstep, hst, hln, hl =>
            cases hstep
            simp only [List.length_cons] at hln hln' ⊢
            have hp1 := stR_pop hst
            have hp2 := stR_pop hp1.1
            have hp3 := stR_pop hp2.1
            simp only [List.length_cons] at hp1 hp2
            have em2 : nI (r.length + 1 + 1 + 1) + (-2) = nI (r.length + 1) := by
              have : (-2 : Int32) = -nI 2 := by decide
              rw [this, ← Int32.sub_eq_add_neg, pk_sub (by omega), show r.length + 1 + 1 + 1 - 2 = r.length + 1 by omega]
            rw [em2, l1, pk_sub (by omega), show r.length + 1 - 1 = r.length by omega, nI_clamp (by omega), nI_clamp (by omega), nI_add, nI_clamp (by omega), nI_add, hp1.2, hp2.2, hp3.2]
            refine ⟨vpI (by omega) (by omega), fun _ => vpI (by omega) (by omega), fun _ => vpI (by omega) (by omega), vpI (by omega) (by omega), ?_⟩
            exact ih (k + 1) (by omega) (pm_si M 164 r.length (if b = 1 then t else e)) ((if b = 1 then t else e) :: r) (hof _ _) (h160 _ _) (h165 _ _) hl' (by rw [si_eq]; exact stR_push hp3.1)
        · rw [if_neg h9] at hstep
          refine br_f h9 ?_
          match l, hstep, hst, hln, hl with
          | b :: a :: r, hstep, hst, hln, hl =>
            cases hstep
            simp only [List.length_cons] at hln hln' ⊢
            have hp1 := stR_pop hst
            have hp2 := stR_pop hp1.1
            simp only [List.length_cons] at hp1
            have em1 : nI (r.length + 1 + 1) + (-1) = nI (r.length + 1) := pk_m1 _
            rw [em1, l1, pk_sub (by omega), show r.length + 1 - 1 = r.length by omega, nI_clamp (by omega), nI_clamp (by omega), nI_add, hp1.2, hp2.2]
            refine ⟨vpI (by omega) (by omega), vpI (by omega) (by omega), sp_between hd ⟨vpI (by omega) (by omega), ?_⟩⟩
            exact ih (k + 1) (by omega) (pm_si M 164 r.length (btw c a b)) (btw c a b :: r) (hof _ _) (h160 _ _) (h165 _ _) hl' (by rw [si_eq]; exact stR_push hp2.1)
