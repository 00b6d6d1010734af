theorem nI_bv {a : Nat} : (nI a).toBitVec = BitVec.ofNat 32 a := rfl
theorem m1_bv : (-1 : Int32).toBitVec = BitVec.allOnes 32 := by decide
theorem tb_hi {a i : Nat} (ha : a < 256) (hi : 8 ≤ i) : a.testBit i = false := Nat.testBit_lt_two_pow (Nat.lt_of_lt_of_le ha (Nat.pow_le_pow_right (n := 2) (by omega) hi))
theorem and_cpl {a b : Nat} (ha : a < 256) (hb : b < 256) : nI a &&& (nI b ^^^ (-1)) = nI (a &&& (255 ^^^ b)) := by
  apply Int32.toBitVec_inj.mp
  rw [Int32.toBitVec_and, Int32.toBitVec_xor, nI_bv, nI_bv, nI_bv, m1_bv]
  apply BitVec.eq_of_getLsbD_eq
  intro i hi
  simp only [BitVec.getLsbD_and, BitVec.getLsbD_xor, BitVec.getLsbD_ofNat, BitVec.getLsbD_allOnes, Nat.testBit_and, Nat.testBit_xor, hi, decide_true, Bool.true_and]
  by_cases c : i < 8
  · have : Nat.testBit 255 i = true := by
      rcases (show i = 0 ∨ i = 1 ∨ i = 2 ∨ i = 3 ∨ i = 4 ∨ i = 5 ∨ i = 6 ∨ i = 7 by omega) with rfl | rfl | rfl | rfl | rfl | rfl | rfl | rfl <;> decide
    rw [this]
    cases a.testBit i <;> cases b.testBit i <;> rfl
  · rw [tb_hi ha (by omega)]; rfl
theorem xor_k {a b : Nat} : nI a ^^^ nI b = nI (a ^^^ b) := by
  apply Int32.toBitVec_inj.mp
  rw [Int32.toBitVec_xor, nI_bv, nI_bv, nI_bv]
  apply BitVec.eq_of_getLsbD_eq
  intro i hi
  simp only [BitVec.getLsbD_xor, BitVec.getLsbD_ofNat, Nat.testBit_xor, hi, decide_true, Bool.true_and]
def sbN (r S : Nat) : Bool := decide (r &&& (255 ^^^ S) = 0)
theorem cpl_lt {r S : Nat} (hr : r < 256) : r &&& (255 ^^^ S) < 256 := Nat.lt_of_le_of_lt Nat.and_le_left hr
theorem sub0 {r S : Nat} (hr : r < 256) (hS : S < 256) : (nI r &&& (nI S ^^^ (-1)) = 0) = (sbN r S = true) := by
  have := cpl_lt (r := r) (S := S) hr
  rw [and_cpl hr hS, l0, nI_inj (by omega) (by omega)]
  unfold sbN
  simp
theorem sb_bt {r S t : Nat} (hr : r < 256) (hS : S < 256) (h : sbN r S = true) (hb : bt r t = true) : bt S t = true := by
  unfold sbN at h
  simp only [decide_eq_true_eq] at h
  have e := congrArg (fun z => Nat.testBit z t) h
  simp only [Nat.testBit_and, Nat.testBit_xor, Nat.zero_testBit] at e
  rw [bt_test] at hb ⊢
  rw [hb] at e
  by_cases c : t < 8
  · have : Nat.testBit 255 t = true := by
      rcases (show t = 0 ∨ t = 1 ∨ t = 2 ∨ t = 3 ∨ t = 4 ∨ t = 5 ∨ t = 6 ∨ t = 7 by omega) with rfl | rfl | rfl | rfl | rfl | rfl | rfl | rfl <;> decide
    rw [this] at e
    simpa using e
  · rw [tb_hi hr (by omega)] at hb; cases hb
theorem xor_sub {r S : Nat} (hr : r < 256) (hS : S < 256) (h : sbN r S = true) : S ^^^ r = S &&& (255 ^^^ r) := by
  apply Nat.eq_of_testBit_eq
  intro i
  simp only [Nat.testBit_and, Nat.testBit_xor]
  have q : bt r i = true → bt S i = true := sb_bt hr hS h
  rw [bt_test, bt_test] at q
  by_cases c : i < 8
  · have : Nat.testBit 255 i = true := by
      rcases (show i = 0 ∨ i = 1 ∨ i = 2 ∨ i = 3 ∨ i = 4 ∨ i = 5 ∨ i = 6 ∨ i = 7 by omega) with rfl | rfl | rfl | rfl | rfl | rfl | rfl | rfl <;> decide
    rw [this]
    cases e1 : r.testBit i <;> cases e2 : S.testBit i
    · rfl
    · rfl
    · have := q e1; rw [e2] at this; cases this
    · rfl
  · rw [tb_hi hr (by omega), tb_hi hS (by omega)]; rfl
theorem bt_pow {r t T : Nat} (hr : r < 2 ^ T) (hb : bt r t = true) : t < T := by
  apply Classical.byContradiction
  intro c
  rw [bt_test, Nat.testBit_lt_two_pow (Nat.lt_of_lt_of_le hr (Nat.pow_le_pow_right (by omega) (by omega)))] at hb
  cases hb
theorem rm_k : ∀ t, t < 8 → ∀ r, r < 256 → bt r t = true → nI r ^^^ ((1 : Int32) <<< (nI t &&& 31)) = nI (r - 2 ^ t) ∧ nI r &&& (((1 : Int32) <<< (nI t &&& 31)) ^^^ (-1)) = nI (r - 2 ^ t) ∧ 2 ^ t ≤ r ∧ pcN (r - 2 ^ t) + 1 = pcN r := by decide +kernel
theorem bt_rm {r t u : Nat} (hr : r < 256) (ht : t < 8) (hb : bt r t = true) : bt (r - 2 ^ t) u = (bt r u && !decide (t = u)) := by
  have h1 := (rm_k t ht r hr hb).2.2.1
  have e : (r - 2 ^ t) ||| 2 ^ t = r ∧ bt (r - 2 ^ t) t = false := by
    have : ∀ t, t < 8 → ∀ r, r < 256 → bt r t = true → (r - 2 ^ t) ||| 2 ^ t = r ∧ bt (r - 2 ^ t) t = false := by decide +kernel
    exact this t ht r hr hb
  by_cases c : t = u
  · subst c; rw [e.2]; simp
  · have := bt_or (S := r - 2 ^ t) (t := t) (u := u)
    rw [e.1] at this
    rw [this]
    simp [c]
theorem sb_rm {r S t : Nat} (hr : r < 256) (hS : S < 256) (ht : t < 8) (h : sbN r S = true) (hb : bt r t = true) : sbN (r - 2 ^ t) S = true := by
  unfold sbN
  simp only [decide_eq_true_eq]
  apply Nat.eq_of_testBit_eq
  intro i
  simp only [Nat.testBit_and, Nat.testBit_xor, Nat.zero_testBit]
  by_cases c : i < 8
  · have t255 : Nat.testBit 255 i = true := by
      rcases (show i = 0 ∨ i = 1 ∨ i = 2 ∨ i = 3 ∨ i = 4 ∨ i = 5 ∨ i = 6 ∨ i = 7 by omega) with rfl | rfl | rfl | rfl | rfl | rfl | rfl | rfl <;> decide
    rw [t255]
    have q := bt_rm (u := i) hr ht hb
    rw [bt_test] at q
    rw [q]
    cases e : bt r i with
    | false => rfl
    | true =>
      have := sb_bt hr hS h e
      rw [bt_test] at this
      rw [this]
      simp
  · have : r - 2 ^ t < 256 := Nat.lt_of_le_of_lt (Nat.sub_le _ _) hr
    rw [tb_hi this (by omega)]; rfl
