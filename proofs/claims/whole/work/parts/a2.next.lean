/-! the reference's next token -/
def pmv (n : Nat) : Nat := [0, 1, 6, 7, 8, 2, 9, 10, 11, 3, 4, 5, 14, 15, 16, 17, 12, 13, 19, 20, 18].getD n 0
def pmi (j : Nat) : Nat := [0, 1, 5, 9, 10, 11, 2, 3, 4, 6, 7, 8, 16, 17, 12, 13, 14, 15, 20, 18, 19].getD j 0
def sgL (k : Nat) : Nat := [59, 58, 43, 45, 42, 40, 41, 91, 93, 61, 60, 62].getD k 0
def sgK (b m : Nat) : Nat := itr (fun k v => if b = sgL k then 30 + k else v) m 25
/-- the reference's number of a kind -/
def rkK (k : Nat) : Nat := if k = 128 then 23 else if k = 129 then 24 else if k = 130 then 22 else if k = 131 then 25 else if 200 ≤ k then pmi (k - 200) else sgK k 12
def rS (n : Nat) : Nat := itr (fun i s => s + wdLen (pmv i) + 1) n 1
theorem rd_tab : ∀ n, n < 21 → (∀ i, i < wdLen (pmv n) → pm_sc 1 (rS n + i) = nI (wdC (pmv n) i)) ∧ rS n + wdLen (pmv n) < 105 ∧ pm_sc 1 (rS n + wdLen (pmv n)) = 32 ∧ pmv n < 21 ∧ pmi (pmv n) = n := by decide +kernel
theorem rd_end : rS 21 = 105 := by decide +kernel
theorem pm_inv : ∀ j, j < 21 → pmi j < 21 ∧ pmv (pmi j) = j := by decide +kernel
theorem sgK_12 : ∀ b, b < 256 → sgK b 12 = if isSg b = true then rkK b else 25 := by decide +kernel
theorem wd_one : ∀ j, j < 21 → ∀ i, i < 21 → wdLen j = wdLen i → (∀ k, k < wdLen j → wdC j k = wdC i k) → j = i := by decide +kernel
theorem sgL_tab : ∀ k, k < 12 → pm_sc 2 k = nI (sgL k) ∧ sgL k < 256 := by decide +kernel
theorem mtB_c {B : Nat → Nat} {a b j : Nat} (h : mtB B a b j = true) : a + wdLen j = b ∧ ∀ i, i < wdLen j → B (a + i) = wdC j i := by
  obtain ⟨h1, h2⟩ := mtB_t.1 h
  refine ⟨h1, fun i hi => ?_⟩
  rcases fst_cases (fun i => !decide (B (a + i) = wdC j i)) (wdLen j) with ⟨_, h4⟩ | ⟨k, h3, _⟩
  · simpa using h4 i hi
  · rw [h2] at h3; exact absurd h3 (by simp)
theorem mtB_o {B : Nat → Nat} {a b i j : Nat} (hi : i < 21) (hj : j < 21) (h1 : mtB B a b i = true) (h2 : mtB B a b j = true) : i = j := by
  obtain ⟨a1, a2⟩ := mtB_c h1
  obtain ⟨b1, b2⟩ := mtB_c h2
  exact wd_one i hi j hj (by omega) (fun k hk => by rw [← a2 k hk, b2 k (by omega)])
theorem rk_word {B : Nat → Nat} {a b : Nat} : (match fst (fun n => mtB B a b (pmv n)) 21 with | some n => n | none => 22) = rkK (wkF B a b) := by
  unfold wkF
  rcases fst_cases (mtB B a b) 21 with ⟨h1, h2⟩ | ⟨j, h1, h2, h3, h4⟩
  · rw [h1, fst_none (fun i hi => h2 _ (rd_tab i hi).2.2.2.1)]
    rfl
  · rw [h1]
    obtain ⟨p1, p2⟩ := pm_inv j h2
    rcases fst_cases (fun n => mtB B a b (pmv n)) 21 with ⟨g1, g2⟩ | ⟨n, g1, g2, g3, g4⟩
    · have := g2 _ p1
      rw [p2, h3] at this
      exact absurd this (by decide)
    · rw [g1]
      have e := mtB_o (rd_tab n g2).2.2.2.1 h2 g3 h3
      show n = rkK (200 + j)
      unfold rkK
      rw [if_neg (by omega), if_neg (by omega), if_neg (by omega), if_neg (by omega), if_pos (by omega), show 200 + j - 200 = j by omega, ← e, (rd_tab n g2).2.2.2.2]
theorem sp_keyAt {d : Nat} {s : pm_S} {M : pm_M} {B : Nat → Nat} {n a b : Nat} {Q : Int32 → pm_S → pm_M → Prop} (hd : 1 ≤ d) (hn : n ≤ 900) (hb : b ≤ n) (ha : a ≤ b) (hB : ∀ k, k < n → M.1 162 k = nI (B k) ∧ B k < 256) (h6 : M.1 159 6 = nI a) (h7 : M.1 159 7 = nI b) (hq : Q (nI (rkK (wkF B a b))) s M) : cI d yM_keyAt [.ref 159] s M Q := by
  obtain ⟨d, rfl⟩ : ∃ e, d = e + 1 := ⟨d - 1, by omega⟩
  refine enM_keyAt ?_
  rw [← rk_word] at hq
  refine loop_fst (L := fun j => wM_keyAt d 4 [.ref 159, .int (nI j), .int (nI (rS j)), .null] [] s M Q) (P := fun n => mtB B a b (pmv n)) (e := 21) (K := fun r => Q (nI (match r with | some n => n | none => 22)) s M) hq ?_ ?_
  · intro h
    refine sgM_keyAt_4 (br_t ?_ h)
    rw [rd_end]; decide
  · intro j hj k1 k2
    dsimp only at k1 k2 ⊢
    obtain ⟨t1, t2, t3, t4, _⟩ := rd_tab j hj
    obtain ⟨w1, _, _, _, _⟩ := wd_tab _ t4
    have adv97 : mtB B a b (pmv j) = false → ∀ q i, i + q = wdLen (pmv j) → wM_keyAt d 97 [.ref 159, .int (nI j), .int (nI (rS j + i)), .null] [] s M Q := by
      intro hf q
      induction q with
      | zero =>
        intro i hi
        have ei : i = wdLen (pmv j) := by omega
        subst ei
        refine sgM_keyAt_97 ⟨vpI (by omega) (by omega), br_t (by rw [nI_clamp (by omega), t3]) ?_⟩
        rw [nI_1, nI_1]
        exact k2 hf
      | succ q ih =>
        intro i hi
        obtain ⟨_, x2, x3⟩ := w1 i (by omega)
        refine sgM_keyAt_97 ⟨vpI (by omega) (by omega), br_f (by rw [nI_clamp (by omega), t1 i (by omega), lI 32, nI_inj (by omega) (by omega)]; omega) ?_⟩
        rw [nI_1]
        exact ih (i + 1) (by omega)
    have run : ∀ q i, i + q = wdLen (pmv j) → (∀ k, k < i → a + k < b ∧ B (a + k) = wdC (pmv j) k) → wM_keyAt d 15 [.ref 159, .int (nI j), .int (nI (rS j)), .int (nI i)] [] s M Q := by
      intro q
      induction q with
      | zero =>
        intro i hi hm
        have ei : i = wdLen (pmv j) := by omega
        subst ei
        refine sgM_keyAt_15 ?_
        rw [nI_add, nI_clamp (by omega), t3]
        refine ⟨vpI (by omega) (by omega), br_t rfl (sgM_keyAt_69 ?_)⟩
        rw [nI_add, nI_clamp (by omega), t3, h6, h7, nI_add, nI_inj (by omega) (by omega)]
        refine ⟨vpI (by omega) (by omega), br_t rfl (br_c (fun z => k1 (mtB_t.2 ⟨z, fst_none (fun i hi => by simp [(hm i hi).2])⟩)) (fun z => ?_))⟩
        have := adv97 (mtB_f (fun h => z h.1)) (wdLen (pmv j)) 0 (by omega)
        exact this
      | succ q ih =>
        intro i hi hm
        obtain ⟨_, x2, x3⟩ := w1 i (by omega)
        have stop : mtB B a b (pmv j) = false → wM_keyAt d 69 [.ref 159, .int (nI j), .int (nI (rS j)), .int (nI i)] [] s M Q := fun hf => by
          refine sgM_keyAt_69 ?_
          rw [nI_add, nI_clamp (by omega), t1 i (by omega), lI 32, nI_inj (by omega) (by omega)]
          exact ⟨vpI (by omega) (by omega), br_f (by omega) (adv97 hf (wdLen (pmv j)) 0 (by omega))⟩
        refine sgM_keyAt_15 ?_
        rw [nI_add, nI_clamp (by omega), t1 i (by omega), lI 32, nI_inj (by omega) (by omega), h6, h7, nI_add, nI_leP (by omega) (by omega)]
        refine ⟨vpI (by omega) (by omega), br_f (by omega) (br_c (fun z => stop (mtB_f (fun h => by omega))) (fun z => ⟨vpI (by omega) (by omega), vpI (by omega) (by omega), ?_⟩))⟩
        obtain ⟨y1, y2⟩ := hB (a + i) (by omega)
        rw [nI_clamp (by omega), y1, nI_inj (by omega) (by omega), nI_1]
        refine br_c (fun z2 => ih (i + 1) (by omega) (fun k hk => ?_)) (fun z2 => stop ?_)
        · by_cases e : k = i
          · subst e; exact ⟨by omega, z2⟩
          · exact hm k (by omega)
        · cases e : mtB B a b (pmv j) with
          | false => rfl
          | true => exact absurd ((mtB_c e).2 i (by omega)) z2
    refine sgM_keyAt_4 (br_f (by rw [lI 105, nI_leP (by omega) (by omega)]; omega) ?_)
    exact run (wdLen (pmv j)) 0 (by omega) (fun k hk => by omega)
