theorem sp_fill4 {d : Nat} {s : pm_S} {M : pm_M} {a n lo hi : Nat} {x : Int32} {Q : pm_S → pm_M → Prop} (hd : 2 ≤ d) (ha : a < 185 ∧ (EE s).2.2.1 a = (0, n)) (hn : n < 2 ^ 30) (h1 : lo ≤ hi) (h2 : hi ≤ n) (hq : ∀ M', M'.1 a = putR (M.1 a) lo (hi - lo) (fun _ => x) → off [a] M M' → Q s M') : cV d yarr_fill_IIII [.ref a, .int (nI lo), .int (nI hi), .int x] s M Q := by
  obtain ⟨d, rfl⟩ : ∃ e, d = e + 1 := ⟨d - 1, by omega⟩
  obtain ⟨d, rfl⟩ : ∃ e, d = e + 1 := ⟨d - 1, by omega⟩
  have hn' : Int32.ofNat n = nI n := rfl
  refine enarr_fill_IIII ha (enarr_rangeCheck ⟨by rw [nI_leP (by omega) (by omega)]; exact h1, by rw [l0, nI_leP (by omega) (by omega)]; omega, by rw [hn', nI_leP (by omega) (by omega)]; exact h2, ?_⟩)
  refine loop_up (L := fun i M1 => warr_fill_IIII (d + 1) 10 [.ref a, .null, .int (nI hi), .int x, .int (nI (lo + i))] [] s M1 Q) (I := fun i M1 => M1.1 a = putR (M.1 a) lo i (fun _ => x) ∧ off [a] M M1) (e := hi - lo) ?_ ?_ M ⟨putR_0.symm, off_rf⟩
  · intro M1 h
    exact sgarr_fill_IIII_10 ha (br_t (by rw [nI_leP (by omega) (by omega)]; omega) (hq M1 h.1 h.2))
  · intro i M1 hi' h hk
    refine sgarr_fill_IIII_10 ha (br_f (by rw [nI_leP (by omega) (by omega)]; omega) ?_)
    rw [nI_clamp (by omega), nI_1]
    refine ⟨vpI (by omega) (by omega), hk _ ⟨?_, off_si h.2 (by simp)⟩⟩
    rw [si_eq, h.1, ← putR_s]
theorem smS_pos {c : Nat → Nat → Int32} {f : Nat → Int32} {p S t : Nat} {b : Int32} (h : 0 ≤ b) : 0 ≤ smS c f p S t b := by
  unfold smS
  split
  · split
    · exact h
    · generalize cmF c p t S + f (S ||| 2 ^ t) = z at *; grind
  · exact h
theorem sm_pos {c : Nat → Nat → Int32} {T : Nat} : ∀ k p S, 0 ≤ smF c T k p S := by
  intro k
  induction k with
  | zero => intro p S; unfold smF; decide
  | succ k ih =>
    intro p S
    unfold smF
    exact itr_inv (I := fun _ b => 0 ≤ b) (ih _ _) (fun i x _ h => smS_pos h)
def HT (M : pm_M) (c : Nat → Nat → Int32) (T P q : Nat) : Prop := ∀ p S, q ≤ p → p ≤ P → S < 2 ^ T → M.1 53 (256 * p + S) = smF c T (P - p) p S
def swF (c : Nat → Nat → Int32) (f : Nat → Int32) (p t S : Nat) : Int32 := if 0 < cmF c p t S then cmF c p t S + f (S ||| 2 ^ t) else -1
theorem sp_sumWith {d : Nat} {s : pm_S} {M : pm_M} {g : Nat → Int32} {T P p t S : Nat} {Q : Int32 → pm_S → pm_M → Prop} (hd : 2 ≤ d) (hK : KR M g T P) (h8 : T ≤ 8) (h6 : P ≤ 6) (hp : p < P) (ht : t < T) (hS : S < 2 ^ T) (hM : HT M (clF g) T P (p + 1)) (hq : Q (swF (clF g) (smF (clF g) T (P - (p + 1)) (p + 1)) p t S) s M) : cI d yH_sumWith [.ref 52, .ref 41, .int (nI p), .int (nI t), .int (nI S)] s M Q := by
  obtain ⟨d, rfl⟩ : ∃ e, d = e + 1 := ⟨d - 1, by omega⟩
  have h256 := pow_le8 h8
  have hS' := or_lt hS ht
  refine enH_sumWith ?_
  rw [bitI (by omega) (by omega), nI_1, orI hS ht h8, lI 256, pk_mul, nI_add, nI_clamp (by omega)]
  unfold swF cmF at hq
  refine br_c (fun c => ?_) (fun c => ?_)
  · rw [if_pos c, if_neg (by decide)] at hq; exact hq
  · rw [if_neg c] at hq
    refine sp_of (by omega) hK h8 h6 hp ht (br_c (fun z => ?_) (fun z => ?_))
    · rw [if_pos z] at hq
      refine sp_of (by omega) hK h8 h6 hp ht ⟨vpI (by omega) (by omega), ?_⟩
      rw [show (p + 1) * 256 + (S ||| 2 ^ t) = 256 * (p + 1) + (S ||| 2 ^ t) by omega, hM (p + 1) _ (by omega) (by omega) hS']
      exact hq
    · rw [if_neg z] at hq; exact hq
theorem smS_max {c : Nat → Nat → Int32} {f : Nat → Int32} {p S t : Nat} {b : Int32} (h : 0 ≤ b) : (if b < swF c f p t S then swF c f p t S else b) = smS c f p S t b := by
  unfold swF smS
  by_cases z : 0 < cmF c p t S
  · simp only [if_pos z]
    generalize cmF c p t S + f (S ||| 2 ^ t) = w
    grind
  · simp only [if_neg z]
    rw [if_neg (by grind)]
theorem KR_c {M M' : pm_M} {g : Nat → Int32} {T P : Nat} (h : M'.1 42 = M.1 42) (hK : KR M g T P) : KR M' g T P := fun p t a b => by rw [h]; exact hK p t a b
theorem sp_weigh {d : Nat} {s : pm_S} {M : pm_M} {g : Nat → Int32} {T P : Nat} {Q : pm_S → pm_M → Prop} (hd : 3 ≤ d) (e1 : M.1 15 1 = nI T) (e2 : M.1 15 2 = nI P) (hK : KR M g T P) (h8 : T ≤ 8) (h6 : P ≤ 6) (hq : ∀ M', HT M' (clF g) T P 0 → off [53] M M' → Q s M') : cV d yH_weighMatchings [.ref 52, .ref 15, .ref 41] s M Q := by
  obtain ⟨d, rfl⟩ : ∃ e, d = e + 1 := ⟨d - 1, by omega⟩
  have h256 := pow_le8 h8
  refine enH_weighMatchings ?_
  rw [e2, nI_1, lI 256, pk_mul, pk_mul]
  refine sp_fill4 (n := 1792) (by omega) ⟨by omega, rfl⟩ (by omega) (by omega) (by omega) (fun M1 f1 o1 => ?_)
  have base : HT M1 (clF g) T P P := by
    intro p S a1 a2 a3
    have : p = P := by omega
    subst this
    rw [Nat.sub_self, f1, putR_in (by omega) (by omega)]
    rfl
  rw [(o1 15 (by decide)).1, e2, sub1]
  have down : ∀ q, q ≤ P → ∀ M3, off [53] M M3 → HT M3 (clF g) T P q → wH_weighMatchings d 33 [.ref 52, .ref 15, .ref 41, .int (nI q + (-1)), .null, .null, .null] [] s M3 Q := by
    intro q
    induction q with
    | zero =>
      intro _ M3 o3 m3
      exact sgH_weighMatchings_33 (br_t m1_lt0 (hq M3 m3 o3))
    | succ q ih =>
      intro hqP M3 o3 m3
      rw [pk_m1 q]
      obtain ⟨k, hk⟩ : ∃ k, P - q = k + 1 := ⟨P - q - 1, by omega⟩
      have hk' : P - (q + 1) = k := by omega
      refine sgH_weighMatchings_33 (br_f (nI_pos (by omega)) ?_)
      refine loop_up (L := fun i M4 => wH_weighMatchings d 40 [.ref 52, .ref 15, .ref 41, .int (nI q), .int (nI i), .null, .null] [] s M4 Q) (I := fun i M4 => off [53] M M4 ∧ HT M4 (clF g) T P (q + 1) ∧ ∀ S, S < i → M4.1 53 (256 * q + S) = smF (clF g) T (P - q) q S) (e := 2 ^ T) ?_ ?_ M3 ⟨o3, m3, fun S h => by omega⟩
      · intro M4 b4
        refine sgH_weighMatchings_40 (br_t ?_ (ih (by omega) M4 b4.1 ?_))
        · rw [(b4.1 15 (by decide)).1, e1, shl_k T h8, nI_leP (by omega) (by omega)]; exact Nat.le_refl _
        · intro p S z1 z2 z3
          by_cases e : p = q
          · subst e; exact b4.2.2 S z3
          · exact b4.2.1 p S (by omega) z2 z3
      · intro S M4 hS b4 hk4
        have c15 := (b4.1 15 (by decide)).1
        have c42 := KR_c (b4.1 42 (by decide)).1 hK
        refine sgH_weighMatchings_40 (br_f (by rw [c15, e1, shl_k T h8, nI_leP (by omega) (by omega)]; omega) ?_)
        rw [nI_1, lI 256, pk_mul, nI_add, nI_clamp (by omega), show (q + 1) * 256 + S = 256 * (q + 1) + S by omega, b4.2.1 (q + 1) S (by omega) (by omega) hS, hk']
        refine ⟨vpI (by omega) (by omega), ?_⟩
        refine loop_up (L := fun i M5 => wH_weighMatchings d 71 [.ref 52, .ref 15, .ref 41, .int (nI q), .int (nI S), .int (itr (smS (clF g) (smF (clF g) T k (q + 1)) q S) i (smF (clF g) T k (q + 1) S)), .int (nI i)] [] s M5 Q) (I := fun i M5 => M5 = M4) (e := T) ?_ ?_ M4 rfl
        · intro M5 e5
          subst e5
          refine sgH_weighMatchings_71 (br_t (by rw [c15, e1, nI_leP (by omega) (by omega)]; exact Nat.le_refl _) ?_)
          rw [lI 256, pk_mul, nI_add, nI_clamp (by omega), nI_1, show q * 256 + S = 256 * q + S by omega]
          refine ⟨vpI (by omega) (by omega), hk4 _ ⟨off_si b4.1 (by decide), ?_, ?_⟩⟩
          · intro p S' z1 z2 z3
            rw [si_eq, row_ne (by omega)]; exact b4.2.1 p S' z1 z2 z3
          · intro S' hS'
            rw [si_eq]
            by_cases e : S' = S
            · subst e; rw [row_eq, hk]; rfl
            · rw [row_ne (by omega)]; exact b4.2.2 S' (by omega)
        · intro t M5 ht e5 hk5
          subst e5
          have hk6 := hk5 M5 rfl
          simp only [itr_s] at hk6
          have pos : 0 ≤ itr (smS (clF g) (smF (clF g) T k (q + 1)) q S) t (smF (clF g) T k (q + 1) S) := itr_inv (I := fun _ b => 0 ≤ b) (sm_pos _ _ _) (fun i x _ h => smS_pos h)
          generalize itr (smS (clF g) (smF (clF g) T k (q + 1)) q S) t _ = b at hk6 pos ⊢
          refine sgH_weighMatchings_71 (br_f (by rw [c15, e1, nI_leP (by omega) (by omega)]; omega) (sp_sumWith (by omega) c42 h8 h6 (by omega) ht hS b4.2.1 (sp_max (by omega) ?_)))
          rw [hk', smS_max pos, nI_1]
          exact hk6
  exact down P (Nat.le_refl _) M1 o1 base
