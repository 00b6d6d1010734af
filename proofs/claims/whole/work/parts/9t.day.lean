/-! in one day -/
theorem z_iff {b : Nat → Nat → Nat} {B r k : Nat} (hr : r < 256) (h0 : r ≠ 0) : fd b B r k = 0 ↔ ∃ t, t < 8 ∧ bt r t = true ∧ k + b t k ≤ B ∧ fd b B (r - 2 ^ t) (k + b t k) = 0 := by
  constructor
  · intro h
    have e := (fd_eq (b := b) (B := B) hr h0 (k := k)).1
    rw [h] at e
    rcases fdI_in (b := b) (B := B) (f := fd b B) (r := r) (k := k) (i := 8) (m := if k = 0 then 14 else min 14 (1 + fd b B r 0)) with q | ⟨t, t1, t2, t3, t4⟩
    · rw [q] at e
      split at e <;> omega
    · exact ⟨t, t1, t2, t3, by rw [← t4, ← e]⟩
  · rintro ⟨t, t1, t2, t3, t4⟩
    have := fd_ge (b := b) (B := B) hr t1 t2 t3
    omega
theorem or_256 {a c : Nat} (ha : a < 256) (hc : c < 256) : a ||| c < 256 := Nat.or_lt_two_pow (n := 8) ha hc
theorem pw_256 {t : Nat} (ht : t < 8) : 2 ^ t < 256 := Nat.pow_lt_pow_right (n := 8) (by omega) ht
theorem bt_orr {a c u : Nat} : bt (a ||| c) u = (bt a u || bt c u) := by
  rw [bt_test, bt_test, bt_test, Nat.testBit_or]
theorem bt_p2 {t u : Nat} : bt (2 ^ t) u = decide (t = u) := by
  rw [bt_test, Nat.testBit_two_pow]
theorem bt_ext {a c : Nat} (h : ∀ u, bt a u = bt c u) : a = c := by
  apply Nat.eq_of_testBit_eq
  intro i
  have := h i
  rwa [bt_test, bt_test] at this
theorem or_sub {o t : Nat} (ho : o < 256) (ht : t < 8) (hb : bt o t = false) : (o ||| 2 ^ t) - 2 ^ t = o := by
  have h1 : bt (o ||| 2 ^ t) t = true := by rw [bt_or]; simp
  apply bt_ext
  intro u
  rw [bt_rm (or_256 ho (pw_256 ht)) ht h1, bt_or]
  by_cases e : t = u
  · subst e; rw [hb]; simp
  · simp [e]
def Rc (b : Nat → Nat → Nat) (B : Nat) : Nat → Nat → Nat → Prop
  | 0, o, k => o = 0 ∧ k = 0
  | n + 1, o, k => ∃ t k', t < 8 ∧ bt o t = true ∧ Rc b B n (o - 2 ^ t) k' ∧ k = k' + b t k' ∧ k ≤ B
def Rh (b : Nat → Nat → Nat) (B o k : Nat) : Prop := Rc b B (pcN o) o k
theorem Rh_step {b : Nat → Nat → Nat} {B o k : Nat} (ho : o < 256) (h0 : o ≠ 0) : Rh b B o k ↔ ∃ t k', t < 8 ∧ bt o t = true ∧ Rh b B (o - 2 ^ t) k' ∧ k = k' + b t k' ∧ k ≤ B := by
  obtain ⟨n, hn⟩ : ∃ n, pcN o = n + 1 := ⟨pcN o - 1, by have : pcN o ≠ 0 := fun z => h0 ((pc0 ho).mp z); omega⟩
  unfold Rh
  rw [hn]
  constructor
  · rintro ⟨t, k', a1, a2, a3, a4⟩
    have e := (rm_k t a1 o ho a2).2.2.2
    exact ⟨t, k', a1, a2, by rw [show pcN (o - 2 ^ t) = n by omega]; exact a3, a4⟩
  · rintro ⟨t, k', a1, a2, a3, a4⟩
    have e := (rm_k t a1 o ho a2).2.2.2
    refine ⟨t, k', a1, a2, ?_, a4⟩
    rw [show pcN (o - 2 ^ t) = n by omega] at a3
    exact a3
theorem Rh_0 {b : Nat → Nat → Nat} {B k : Nat} : Rh b B 0 k ↔ k = 0 := by
  unfold Rh
  rw [show pcN 0 = 0 from rfl]
  exact ⟨fun h => h.2, fun h => ⟨rfl, h⟩⟩
theorem Rh_Z {b : Nat → Nat → Nat} {B : Nat} : ∀ n o, pcN o = n → o < 256 → ∀ k, Rh b B o k → ∀ r, r < 256 → (∀ u, u < 8 → bt o u = true → bt r u = false) → fd b B r k = 0 → fd b B (o ||| r) 0 = 0 := by
  intro n
  induction n with
  | zero =>
    intro o hn ho k h r hr hd hz
    have : o = 0 := (pc0 ho).mp hn
    subst this
    rw [Rh_0] at h
    subst h
    rw [Nat.zero_or]; exact hz
  | succ n ih =>
    intro o hn ho k h r hr hd hz
    have h0 : o ≠ 0 := fun z => by rw [z] at hn; cases hn
    obtain ⟨t, k', a1, a2, a3, a4, a5⟩ := (Rh_step ho h0).mp h
    have e := (rm_k t a1 o ho a2).2.2.2
    have rt := hd t a1 a2
    have r256 := or_256 hr (pw_256 a1)
    have rb : bt (r ||| 2 ^ t) t = true := by rw [bt_or]; simp
    have z2 : fd b B (r ||| 2 ^ t) k' = 0 := by
      rw [z_iff r256 (fun q => by rw [q] at rb; simp [bt] at rb)]
      exact ⟨t, a1, rb, by omega, by rw [or_sub hr a1 rt, ← a4]; exact hz⟩
    have := ih (o - 2 ^ t) (by omega) (Nat.lt_of_le_of_lt (Nat.sub_le _ _) ho) k' a3 (r ||| 2 ^ t) r256 (fun u hu hb => by
      rw [bt_rm ho a1 a2] at hb
      simp only [Bool.and_eq_true, Bool.not_eq_true', decide_eq_false_iff_not] at hb
      rw [bt_or, hd u hu hb.1]
      simp [hb.2]) z2
    have eq : (o - 2 ^ t) ||| (r ||| 2 ^ t) = o ||| r := by
      apply bt_ext
      intro u
      rw [bt_orr, bt_orr, bt_orr, bt_p2, bt_rm ho a1 a2]
      by_cases e : t = u
      · subst e; rw [a2]; simp
      · simp [e]
    rw [eq] at this
    exact this
theorem Z_Rh {b : Nat → Nat → Nat} {B : Nat} : ∀ n r, pcN r = n → r < 256 → ∀ o, o < 256 → ∀ k, (∀ u, u < 8 → bt r u = true → bt o u = false) → Rh b B o k → fd b B r k = 0 → ∃ k2, Rh b B (o ||| r) k2 := by
  intro n
  induction n with
  | zero =>
    intro r hn hr o ho k hd h hz
    have : r = 0 := (pc0 hr).mp hn
    subst this
    rw [Nat.or_zero]; exact ⟨k, h⟩
  | succ n ih =>
    intro r hn hr o ho k hd h hz
    have h0 : r ≠ 0 := fun z => by rw [z] at hn; cases hn
    obtain ⟨t, a1, a2, a3, a4⟩ := (z_iff hr h0).mp hz
    have e := (rm_k t a1 r hr a2).2.2.2
    have ot := hd t a1 a2
    have o256 := or_256 ho (pw_256 a1)
    have ob : bt (o ||| 2 ^ t) t = true := by rw [bt_or]; simp
    have h2 : Rh b B (o ||| 2 ^ t) (k + b t k) := by
      rw [Rh_step o256 (fun q => by rw [q] at ob; simp [bt] at ob)]
      exact ⟨t, k, a1, ob, by rw [or_sub ho a1 ot]; exact h, rfl, a3⟩
    obtain ⟨k2, hk2⟩ := ih (r - 2 ^ t) (by omega) (Nat.lt_of_le_of_lt (Nat.sub_le _ _) hr) (o ||| 2 ^ t) o256 (k + b t k) (fun u hu hb => by
      rw [bt_rm hr a1 a2] at hb
      simp only [Bool.and_eq_true, Bool.not_eq_true', decide_eq_false_iff_not] at hb
      rw [bt_or, hd u hu hb.1]
      simp [hb.2]) h2 a4
    have eq : (o ||| 2 ^ t) ||| (r - 2 ^ t) = o ||| r := by
      apply bt_ext
      intro u
      rw [bt_orr, bt_orr, bt_orr, bt_p2, bt_rm hr a1 a2]
      by_cases e : t = u
      · subst e; rw [a2]; simp
      · simp [e]
    rw [eq] at hk2
    exact ⟨k2, hk2⟩
theorem Rh_iff {b : Nat → Nat → Nat} {B o : Nat} (ho : o < 256) : (∃ k, Rh b B o k) ↔ fd b B o 0 = 0 := by
  constructor
  · rintro ⟨k, h⟩
    have := Rh_Z (pcN o) o rfl ho k h 0 (by omega) (fun u _ _ => by simp [bt]) fd_0
    rwa [Nat.or_zero] at this
  · intro h
    have := Z_Rh (b := b) (B := B) (pcN o) o rfl ho 0 (by omega) 0 (fun u _ _ => by simp [bt]) (Rh_0.mpr rfl) h
    rwa [Nat.zero_or] at this
theorem Rh_le {b : Nat → Nat → Nat} {B o k : Nat} (ho : o < 256) (h : Rh b B o k) : k ≤ B := by
  by_cases h0 : o = 0
  · subst h0; rw [Rh_0] at h; omega
  · obtain ⟨t, k', _, _, _, _, q⟩ := (Rh_step ho h0).mp h
    exact q
/-- the least set of the most things -/
def bsS (b : Nat → Nat → Nat) (B S o m : Nat) : Nat := if sbN o S = true ∧ pcN m < pcN o ∧ fd b B o 0 = 0 then o else m
def bsF (b : Nat → Nat → Nat) (B S n : Nat) : Nat := itr (bsS b B S) n 0
theorem bsF_le {b : Nat → Nat → Nat} {B S n : Nat} (hn : n ≤ 256) : bsF b B S n < 256 := by
  refine itr_inv (I := fun _ m => m < 256) (by omega) (fun o m ho hm => ?_)
  unfold bsS
  split
  · omega
  · exact hm
theorem sp_mostInADay {d : Nat} {s : pm_S} {M : pm_M} {g : Nat → Int32} {N T P p B S : Nat} {Q : Int32 → pm_S → pm_M → Prop} (hd : 30 ≤ d) (hs : s.2.2.2.1 = some 15) (hV : Vd g N T P) (hp : p < P) (hB : B ≤ 99) (hS : S < 2 ^ T) (hl : LR M 15 g T P) (hO : ON M g T p B) (hq : ∀ M', off [25, 26, 60, 61] M M' → Q (nI (bsF (bO g p) B S (S + 1))) s M') : cI d yN_mostInADay [.ref 58, .int (nI S)] s M Q := by
  obtain ⟨d, rfl⟩ : ∃ e, d = e + 1 := ⟨d - 1, by omega⟩
  have h8 := hV.2.2.2.2.2.1
  have h256 := pow_le8 h8
  refine enN_mostInADay ?_
  have e1 : bsF (bO g p) B S 1 = 0 := by
    show bsS (bO g p) B S 0 0 = 0
    unfold bsS
    split <;> rfl
  have st := loop_up (L := fun i M1 => wN_mostInADay d 4 [.ref 58, .int (nI S), .int (nI (bsF (bO g p) B S (i + 1))), .int (nI (i + 1))] [] s M1 Q) (I := fun i M1 => off [25, 26, 60, 61] M M1 ∧ ON M1 g T p B) (e := S) ?_ ?_ M ⟨off_rf, hO⟩
  · rw [e1] at st; exact st
  · rintro M1 ⟨o1, n1⟩
    exact sgN_mostInADay_4 (br_t (by rw [nI_ltP (by omega) (by omega)]; omega) (hq M1 o1))
  · rintro i M1 hi ⟨o1, n1⟩ hk
    have hr : i + 1 < 256 := by omega
    have bl := bsF_le (b := bO g p) (B := B) (S := S) (n := i + 1) (by omega)
    obtain ⟨p1, p1'⟩ := pc_k (i + 1) hr
    obtain ⟨p2, p2'⟩ := pc_k _ bl
    have eq : bsF (bO g p) B S (i + 1 + 1) = bsS (bO g p) B S (i + 1) (bsF (bO g p) B S (i + 1)) := rfl
    rw [eq] at hk
    generalize bsF (bO g p) B S (i + 1) = m at bl p2 p2' hk ⊢
    unfold bsS at hk
    refine sgN_mostInADay_4 (br_f (by rw [nI_ltP (by omega) (by omega)]; omega) (br_f (by rw [lI 256, nI_leP (by omega) (by omega)]; omega) ?_))
    rw [sub0 hr (by omega), nI_1]
    refine br_c (fun c => ?_) (fun c => ?_)
    · refine sp_bitCount (by omega) (by omega) (sp_bitCount (by omega) (by omega) ?_)
      rw [p1, p2, nI_leP (by omega) (by omega)]
      refine br_c (fun z => ?_) (fun z => ?_)
      · rw [if_neg (by omega)] at hk
        exact hk M1 ⟨o1, n1⟩
      · refine sp_further hs hV hp hB _ (i + 1) 0 0 d M1 _ rfl (by omega) (by omega) (by rw [if_pos rfl]; omega) (by rw [if_pos rfl]; omega) (LR_off o1 hl (by decide)) n1 (fun M2 n2 o2 => ?_)
        have l := fd_le (b := bO g p) (B := B) (r := i + 1) (k := 0) hr
        rw [l0]
        simp only [nI_inj (a := fd (bO g p) B (i + 1) 0) (b := 0) (by omega) (by omega)]
        have := hk M2 ⟨off_tr o1 o2, n2⟩
        by_cases y : fd (bO g p) B (i + 1) 0 = 0
        · rw [if_pos y]
          rw [if_pos ⟨c, by omega, y⟩] at this
          exact this
        · rw [if_neg y]
          rw [if_neg (fun q => y q.2.2)] at this
          exact this
    · rw [if_neg (fun q => c q.1)] at hk
      exact hk M1 ⟨o1, n1⟩
