/-- what the words of a law tell -/
def wv (g : Nat → Int32) (mk : Int32) (p t : Nat) (wet bo : Int32) : Nat → Int32 := fun i => match i with
  | 0 => nI p
  | 1 => mk
  | 2 => nI t
  | 3 => g (19 + t)
  | 4 => g (27 + t)
  | 5 => wet
  | 6 => bo
  | _ => 0
def claimF (g : Nat → Int32) (mk : Int32) (p t : Nat) : Int32 := if g 5 = 0 then (if mk = g (19 + t) then 1 else 0) else evF g 0 (wv g mk p t 0 0)
def clip (x : Int32) : Int32 := if 0 ≤ x then (if x ≤ 99 then x else 99) else 0
def burdenF (g : Nat → Int32) (mk : Int32) (p t : Nat) (wet bo : Int32) : Int32 := clip (if g 6 = 0 then g (27 + t) else evF g 1 (wv g mk p t wet bo))
theorem evS_congr {w w' : Nat → Int32} {c : Int32} {l : List Int32} (h : 1000 ≤ c → c < 3000 → w (c - 1000).toNatClampNeg = w' (c - 1000).toNatClampNeg) : evS w c l = evS w' c l := by
  unfold evS
  by_cases h3 : c < 3000
  · rw [if_pos h3, if_pos h3]
    by_cases h1 : c < 1000
    · rw [if_pos h1, if_pos h1]
    · rw [if_neg h1, if_neg h1, h (by grind) h3]
  · rw [if_neg h3, if_neg h3]
theorem evL_congr {w w' code : Nat → Int32} {n lim : Nat} (hlim : lim ≤ 7) (hcd : ∀ k, k < n → 1000 ≤ code k → code k < 3000 → ∃ j : Nat, j < lim ∧ code k = nI (1000 + j)) (hw : ∀ i, i < lim → w i = w' i) : evL w code n = evL w' code n := by
  induction n with
  | zero => rfl
  | succ n ih =>
    simp only [evL]
    rw [ih (fun k hk => hcd k (by omega))]
    congr 1
    funext l
    refine evS_congr (fun h1 h2 => ?_)
    obtain ⟨j, hj, e⟩ := hcd n (by omega) h1 h2
    rw [e, lI 1000, pk_sub (by omega), nI_clamp (by omega), show 1000 + j - 1000 = j by omega]
    exact hw j hj
theorem evF_congr {g : Nat → Int32} {law lim : Nat} {w w' : Nat → Int32} (hlim : lim ≤ 7) (hok : lwOk g law lim) (ht : ¬ g (5 + law) = 0) (hw : ∀ i, i < lim → w i = w' i) : evF g law w = evF g law w' := by
  obtain ⟨fr, n, h1, h2, h3, h4 | ⟨h4, h5⟩⟩ := hok
  · exact absurd h4 ht
  unfold evF lwN
  rw [h2, nI_clamp (by omega), evL_congr hlim (fun k hk => (h4 k hk).2) hw]
theorem sp_reckons {d : Nat} {s : pm_S} {M : pm_M} {g : Nat → Int32} {law lim p t : Nat} {Q : Int32 → pm_S → pm_M → Prop} (hd : 2 ≤ d) (hg : M.1 160 = g) (hlaw : law < 2) (hlim : lim ≤ 7) (hok : lwOk g law lim) (ht : ¬ g (5 + law) = 0) (hp : p < 6) (h8 : t < 8) (hl5 : lim ≤ 5 ∨ True) (hq : ∀ M', off [164, 165] M M' → (∀ w, (∀ i, i < 5 → w i = wv g (g (66 + p)) p t 0 0 i) → (∀ i, 5 ≤ i → w i = M.1 165 i) → Q (evF g law w) s M')) : cI d yM_reckons [.ref 159, .int (nI law), .int (nI p), .int (nI t)] s M Q := by
  obtain ⟨d, rfl⟩ : ∃ e, d = e + 1 := ⟨d - 1, by omega⟩
  refine enM_reckons ?_
  rw [lI 66, lI 19, lI 27, nI_add, nI_add, nI_add, nI_clamp (by omega), nI_clamp (by omega), nI_clamp (by omega), hg]
  refine ⟨vpI (by omega) (by omega), vpI (by omega) (by omega), vpI (by omega) (by omega), ?_⟩
  obtain ⟨fr, n, h1, h2, h3, h4 | ⟨h4, h5⟩⟩ := id hok
  · exact absurd h4 ht
  generalize hM1 : pm_si (pm_si (pm_si (pm_si (pm_si M 165 0 (nI p)) 165 1 (g (66 + p))) 165 2 (nI t)) 165 3 (g (19 + t))) 165 4 (g (27 + t)) = M1
  have ho1 : off [164, 165] M M1 := by
    rw [← hM1]
    exact off_si (off_si (off_si (off_si (off_si off_rf (by decide)) (by decide)) (by decide)) (by decide)) (by decide)
  obtain ⟨v, hv, _⟩ := h5 (M1.1 165)
  have hw5 : ∀ i, i < 5 → M1.1 165 i = wv g (g (66 + p)) p t 0 0 i := by
    intro i hi
    rw [← hM1]
    simp only [si_eq]
    rcases (show i = 0 ∨ i = 1 ∨ i = 2 ∨ i = 3 ∨ i = 4 by omega) with rfl | rfl | rfl | rfl | rfl <;> simp [pm_row, wv]
  have hw7 : ∀ i, 5 ≤ i → M1.1 165 i = M.1 165 i := by
    intro i hi
    rw [← hM1]
    simp only [si_eq]
    rw [row_ne (by omega), row_ne (by omega), row_ne (by omega), row_ne (by omega), row_ne (by omega)]
  have he : evF g law (M1.1 165) = v := by
    unfold evF lwN
    rw [h2, nI_clamp (by omega), hv]
  refine reck_loop (g := g) (w := M1.1 165) (M0 := M1) (n := n) (fr := fr) (lim := lim) (by omega) hlaw h1 h2 h3 hlim h4 hv ?_ n 0 (by omega) M1 [] off_rf (by rw [(ho1 160 (by decide)).1]; exact hg) rfl rfl (fun i u h => by simp at h)
  intro M' hM'
  rw [← he]
  exact hq M' (off_tr ho1 (off_mo hM' (by decide))) _ hw5 hw7
theorem sp_claimsOf {d : Nat} {s : pm_S} {M : pm_M} {g : Nat → Int32} {p t : Nat} {Q : Int32 → pm_S → pm_M → Prop} (hd : 3 ≤ d) (hg : M.1 160 = g) (hok : lwOk g 0 5) (hp : p < 6) (h8 : t < 8) (hq : ∀ M', off [164, 165] M M' → Q (claimF g (g (66 + p)) p t) s M') : cI d yM_claimsOf [.ref 159, .int (nI p), .int (nI t)] s M Q := by
  obtain ⟨d, rfl⟩ : ∃ e, d = e + 1 := ⟨d - 1, by omega⟩
  refine enM_claimsOf ?_
  rw [hg]
  refine br_c (fun h => ?_) (fun h => ?_)
  · rw [lI 66, lI 19, nI_add, nI_add, nI_clamp (by omega), nI_clamp (by omega)]
    refine ⟨vpI (by omega) (by omega), vpI (by omega) (by omega), ?_⟩
    have := hq M off_rf
    unfold claimF at this
    rw [if_pos h] at this
    exact this
  · refine sp_reckons (law := 0) (lim := 5) (by omega) hg (by omega) (by omega) hok h hp h8 (Or.inr trivial) (fun M' hM' w hw _ => ?_)
    have := hq M' hM'
    unfold claimF at this
    rw [if_neg h, ← evF_congr (w := w) (by omega) hok h hw] at this
    exact this
theorem sp_burdenOf {d : Nat} {s : pm_S} {M : pm_M} {g : Nat → Int32} {p t : Nat} {wet bo : Int32} {Q : Int32 → pm_S → pm_M → Prop} (hd : 3 ≤ d) (hg : M.1 160 = g) (hok : lwOk g 1 7) (hp : p < 6) (h8 : t < 8) (hq : ∀ M', off [164, 165] M M' → Q (burdenF g (g (66 + p)) p t wet bo) s M') : cI d yM_burdenOf [.ref 159, .int (nI p), .int (nI t), .int wet, .int bo] s M Q := by
  obtain ⟨d, rfl⟩ : ∃ e, d = e + 1 := ⟨d - 1, by omega⟩
  refine enM_burdenOf ?_
  rw [hg]
  have ho1 : off [164, 165] M (pm_si (pm_si M 165 5 wet) 165 6 bo) := off_si (off_si off_rf (by decide)) (by decide)
  refine br_c (fun h => ?_) (fun h => ?_)
  · rw [lI 27, nI_add, nI_clamp (by omega)]
    refine ⟨vpI (by omega) (by omega), ?_⟩
    have := hq _ ho1
    unfold burdenF clip at this
    rw [if_pos h] at this
    exact this
  · refine sp_reckons (law := 1) (lim := 7) (g := g) (by omega) (by rw [(ho1 160 (by decide)).1]; exact hg) (by omega) (by omega) hok h hp h8 (Or.inr trivial) (fun M' hM' w hw hw2 => ?_)
    have := hq M' (off_tr ho1 hM')
    unfold burdenF clip at this
    rw [if_neg h, ← evF_congr (w := w) (by omega) hok h ?_] at this
    · exact this
    · intro i hi
      by_cases h5 : i < 5
      · rw [hw i h5]
        rcases (show i = 0 ∨ i = 1 ∨ i = 2 ∨ i = 3 ∨ i = 4 by omega) with rfl | rfl | rfl | rfl | rfl <;> rfl
      · rw [hw2 i (by omega), si_eq, si_eq]
        rcases (show i = 5 ∨ i = 6 by omega) with rfl | rfl <;> simp [pm_row, wv]
theorem sp_burdenNow {d : Nat} {s : pm_S} {M : pm_M} {g : Nat → Int32} {p t : Nat} {Q : Int32 → pm_S → pm_M → Prop} (hd : 4 ≤ d) (hg : M.1 160 = g) (hok : lwOk g 1 7) (hp : p < 6) (h8 : t < 8) (hq : ∀ M', off [164, 165] M M' → Q (burdenF g (g (66 + p)) p t (g 47) (g (72 + p))) s M') : cI d yM_burdenNow [.ref 159, .int (nI p), .int (nI t)] s M Q := by
  obtain ⟨d, rfl⟩ : ∃ e, d = e + 1 := ⟨d - 1, by omega⟩
  refine enM_burdenNow ?_
  rw [lI 72, nI_add, nI_clamp (by omega), hg]
  exact ⟨vpI (by omega) (by omega), sp_burdenOf (by omega) hg hok hp h8 hq⟩
