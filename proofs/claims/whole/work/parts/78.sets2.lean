theorem or_k : ∀ t, t < 8 → ∀ S, S < 256 → nI S ||| ((1 : Int32) <<< (nI t &&& 31)) = nI (S ||| 2 ^ t) := by decide +kernel
theorem shl_k : ∀ T, T ≤ 8 → (1 : Int32) <<< (nI T &&& 31) = nI (2 ^ T) := by decide +kernel
theorem pow_le8 {T : Nat} (h : T ≤ 8) : 2 ^ T ≤ 256 := Nat.pow_le_pow_right (by omega) h
theorem or_lt {S t T : Nat} (hS : S < 2 ^ T) (ht : t < T) : S ||| 2 ^ t < 2 ^ T := Nat.or_lt_two_pow hS (Nat.pow_lt_pow_right (by omega) ht)
theorem orI {S t T : Nat} (hS : S < 2 ^ T) (ht : t < T) (h8 : T ≤ 8) : nI S ||| ((1 : Int32) <<< (nI t &&& 31)) = nI (S ||| 2 ^ t) := or_k t (by omega) S (by have := pow_le8 h8; omega)
/-! matchings: what is claimed, the greatest sum, the most, the ways, of k people from p on, when S is given -/
def cmF (c : Nat → Nat → Int32) (p t S : Nat) : Int32 := if bt S t = true then 0 else c p t
def smS (c : Nat → Nat → Int32) (f : Nat → Int32) (p S t : Nat) (b : Int32) : Int32 := if 0 < cmF c p t S then (if cmF c p t S + f (S ||| 2 ^ t) ≤ b then b else cmF c p t S + f (S ||| 2 ^ t)) else b
def smF (c : Nat → Nat → Int32) (T : Nat) : Nat → Nat → Nat → Int32
  | 0, _, _ => 0
  | k + 1, p, S => itr (smS c (smF c T k (p + 1)) p S) T (smF c T k (p + 1) S)
def m1S (c : Nat → Nat → Int32) (f : Nat → Int32) (p S t : Nat) (b : Int32) : Int32 := if 0 < cmF c p t S then (if 1 + f (S ||| 2 ^ t) ≤ b then b else 1 + f (S ||| 2 ^ t)) else b
def m1F (c : Nat → Nat → Int32) (T : Nat) : Nat → Nat → Nat → Int32
  | 0, _, _ => 0
  | k + 1, p, S => itr (m1S c (m1F c T k (p + 1)) p S) T (m1F c T k (p + 1) S)
def wyS (c : Nat → Nat → Int32) (f : Nat → Int32) (p S t : Nat) (b : Int32) : Int32 := if 0 < cmF c p t S then b + f (S ||| 2 ^ t) else b
def wyF (c : Nat → Nat → Int32) (T : Nat) : Nat → Nat → Nat → Int32
  | 0, _, _ => 1
  | k + 1, p, S => itr (wyS c (wyF c T k (p + 1)) p S) T 0
def KM (M : pm_M) (c : Nat → Nat → Int32) (T P : Nat) : Prop := ∀ p t, p < P → t < T → M.1 171 (8 * p + t) = c p t
theorem KM_off {S : List Nat} {M M' : pm_M} {c : Nat → Nat → Int32} {T P : Nat} (h : off S M M') (hS : 171 ∉ S) (hK : KM M c T P) : KM M' c T P := fun p t a b => by rw [(h 171 hS).1]; exact hK p t a b
theorem sp_claimed {d : Nat} {s : pm_S} {M : pm_M} {c : Nat → Nat → Int32} {T P p t S : Nat} {Q : Int32 → pm_S → pm_M → Prop} (hd : 2 ≤ d) (hK : KM M c T P) (h8 : T ≤ 8) (h6 : P ≤ 6) (hp : p < P) (ht : t < T) (hS : S < 2 ^ T) (hq : Q (cmF c p t S) s M) : cI d yM_claimed [.ref 159, .int (nI p), .int (nI t), .int (nI S)] s M Q := by
  obtain ⟨d, rfl⟩ : ∃ e, d = e + 1 := ⟨d - 1, by omega⟩
  have := pow_le8 h8
  refine enM_claimed (sp_isIn (by omega) (by omega) (by omega) ⟨fun _ => ?_, ?_⟩)
  · rw [lI 8, pk_mul, nI_add]; exact vpI (by omega) (by omega)
  · rw [lI 8, pk_mul, nI_add, nI_clamp (by omega), hK p t hp ht]
    unfold cmF at hq
    cases e : bt S t with
    | true => rw [if_pos e] at hq; exact hq
    | false => rw [if_neg (by rw [e]; simp)] at hq; exact hq
/-- the tables from person q on -/
def MT (M : pm_M) (c : Nat → Nat → Int32) (T P q : Nat) : Prop := ∀ p S, q ≤ p → p ≤ P → S < 2 ^ T → M.1 168 (256 * p + S) = smF c T (P - p) p S ∧ M.1 169 (256 * p + S) = m1F c T (P - p) p S ∧ M.1 170 (256 * p + S) = wyF c T (P - p) p S
theorem sp_laysGiven {d : Nat} {s : pm_S} {M : pm_M} {g : Nat → Int32} {c : Nat → Nat → Int32} {T P p S : Nat} {Q : pm_S → pm_M → Prop} (hd : 3 ≤ d) (hg : M.1 160 = g) (h2 : g 2 = nI T) (hK : KM M c T P) (h8 : T ≤ 8) (h6 : P ≤ 6) (hp : p < P) (hS : S < 2 ^ T) (hM : MT M c T P (p + 1)) (hq : Q s (pm_si (pm_si (pm_si M 168 (256 * p + S) (smF c T (P - p) p S)) 169 (256 * p + S) (m1F c T (P - p) p S)) 170 (256 * p + S) (wyF c T (P - p) p S))) : cV d yM_laysGiven [.ref 159, .int (nI p), .int (nI S)] s M Q := by
  obtain ⟨d, rfl⟩ : ∃ e, d = e + 1 := ⟨d - 1, by omega⟩
  have h256 := pow_le8 h8
  obtain ⟨k, hk⟩ : ∃ k, P - p = k + 1 := ⟨P - p - 1, by omega⟩
  have hk' : P - (p + 1) = k := by omega
  have tab := hM (p + 1)
  rw [hk'] at tab
  refine enM_laysGiven ?_
  rw [nI_1, lI 256, pk_mul, nI_add, nI_clamp (by omega), (tab S (by omega) (by omega) hS).1, (tab S (by omega) (by omega) hS).2.1]
  refine ⟨vpI (by omega) (by omega), vpI (by omega) (by omega), ?_⟩
  rw [hk] at hq
  refine loop_up (L := fun i M1 => wM_laysGiven d 34 [.ref 159, .int (nI p), .int (nI S), .int (nI (256 * (p + 1))), .int (itr (smS c (smF c T k (p + 1)) p S) i (smF c T k (p + 1) S)), .int (itr (m1S c (m1F c T k (p + 1)) p S) i (m1F c T k (p + 1) S)), .int (itr (wyS c (wyF c T k (p + 1)) p S) i 0), .int (nI i), .null, .null] [] s M1 Q) (I := fun i M1 => M1 = M) (e := T) ?_ ?_ M rfl
  · intro M1 e
    subst e
    refine sgM_laysGiven_34 (br_t (by rw [hg, h2, nI_leP (by omega) (by omega)]; exact Nat.le_refl _) ?_)
    rw [lI 256, pk_mul, nI_add, nI_clamp (by omega)]
    exact ⟨vpI (by omega) (by omega), vpI (by omega) (by omega), vpI (by omega) (by omega), hq⟩
  · intro t M1 ht e hk1
    subst e
    have hk2 := hk1 M1 rfl
    simp only [itr_s] at hk2
    generalize itr (smS c (smF c T k (p + 1)) p S) t _ = a1 at hk2 ⊢
    generalize itr (m1S c (m1F c T k (p + 1)) p S) t _ = a2 at hk2 ⊢
    generalize itr (wyS c (wyF c T k (p + 1)) p S) t 0 = a3 at hk2 ⊢
    have hS' := or_lt hS ht
    have tS := tab (S ||| 2 ^ t) (by omega) (by omega) hS'
    refine sgM_laysGiven_34 (br_f (by rw [hg, h2, nI_leP (by omega) (by omega)]; omega) (sp_claimed (by omega) hK h8 h6 hp ht hS ?_))
    rw [orI hS ht h8, nI_add, nI_clamp (by omega), tS.1]
    unfold smS m1S wyS at hk2
    refine br_c (fun z => ?_) (fun z => ?_)
    · rw [if_pos z, if_pos z, if_pos z] at hk2
      refine ⟨vpI (by omega) (by omega), fun _ => vpI (by omega) (by omega), sgM_laysGiven_103 ?_⟩
      rw [nI_clamp (by omega), tS.2.1, tS.2.2]
      refine ⟨vpI (by omega) (by omega), fun _ => vpI (by omega) (by omega), fun v ev => ⟨vpI (by omega) (by omega), ?_⟩⟩
      rw [ev, nI_1]
      exact hk2
    · rw [if_neg z, if_neg z, if_neg z] at hk2
      rw [nI_1]
      exact hk2
