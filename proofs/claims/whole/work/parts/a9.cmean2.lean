/-- the same, whatever stands elsewhere -/
def mcC (c : Nat → Int32) (a b q : Nat) (D : (Nat → Int32) → Int32) : Prop := ∀ c' : Nat → Int32, (∀ k, a ≤ k → k < b → c' k = c k) → mnC c' a b q D
theorem mcC_le {c : Nat → Int32} {a b q : Nat} {D : (Nat → Int32) → Int32} (h : mcC c a b q D) : a ≤ b := (h c (fun _ _ _ => rfl)).1
theorem mcC_congr {c e : Nat → Int32} {a b q : Nat} {D : (Nat → Int32) → Int32} (h : mcC c a b q D) (he : ∀ k, a ≤ k → k < b → e k = c k) : mcC e a b q D :=
  fun c' hc => h c' (fun k h1 h2 => by rw [hc k h1 h2, he k h1 h2])
theorem mcC_mo {c : Nat → Int32} {a b q r : Nat} {D : (Nat → Int32) → Int32} (h : mcC c a b q D) (hr : q ≤ r) : mcC c a b r D := fun c' hc => mnC_mo (h c' hc) hr
theorem mcC_bin {c : Nat → Int32} {a b e p q r : Nat} {k : Int32} {D E F : (Nat → Int32) → Int32} (h1 : mcC c a b p D) (h2 : mcC c b e q E) (hp : p ≤ r) (hq : q + 1 ≤ r) (hc : c e &&& 15 = k) (hk : 1 < k) (h10 : k ≠ 10) (h11 : k ≠ 11) (h12 : k ≠ 12) (hF : ∀ w, bj k (D w) (E w) = F w) : mcC c a (e + 1) r F := by
  have l1 := mcC_le h1
  have l2 := mcC_le h2
  exact fun c' h => mnC_bin (h1 c' (fun k a1 a2 => h k a1 (by omega))) (h2 c' (fun k a1 a2 => h k (by omega) (by omega))) hp hq (by rw [h e (by omega) (by omega)]; exact hc) hk h10 h11 h12 hF
theorem mcC_not {c : Nat → Int32} {a b q : Nat} {D : (Nat → Int32) → Int32} (h1 : mcC c a b q D) (hc : c b &&& 15 = 10) : mcC c a (b + 1) q (fun w => 1 - D w) := by
  have l1 := mcC_le h1
  exact fun c' h => mnC_not (h1 c' (fun k a1 a2 => h k a1 (by omega))) (by rw [h b (by omega) (by omega)]; exact hc)
theorem mcC_if {c : Nat → Int32} {a b e f p q r t : Nat} {D E F : (Nat → Int32) → Int32} (h1 : mcC c a b p D) (h2 : mcC c (b + 1) e q E) (h3 : mcC c (e + 1) f r F) (hp : p ≤ t) (hq : q ≤ t) (hr : r ≤ t) (hf : f < 2 ^ 26)
    (c1 : c b &&& 15 = 12) (c2 : c b >>> ((4 : Int32) &&& 31) = nI (e + 1)) (c3 : c e &&& 15 = 11) (c4 : c e >>> ((4 : Int32) &&& 31) = nI f) (hD : ∀ w, D w = 0 ∨ D w = 1) : mcC c a f t (fun w => if D w = 1 then E w else F w) := by
  have l1 := mcC_le h1
  have l2 := mcC_le h2
  have l3 := mcC_le h3
  intro c' h
  have eb := h b (by omega) (by omega)
  have ee := h e (by omega) (by omega)
  exact mnC_if (h1 c' (fun k a1 a2 => h k a1 (by omega))) (h2 c' (fun k a1 a2 => h k (by omega) (by omega))) (h3 c' (fun k a1 a2 => h k (by omega) (by omega))) hp hq hr hf (by rw [eb]; exact c1) (by rw [eb]; exact c2) (by rw [ee]; exact c3) (by rw [ee]; exact c4) hD
theorem st_num : ∀ v, v < 1000 → ((0 : Int32) ||| (nI v <<< ((4 : Int32) &&& 31))) &&& 15 = 0 ∧ ((0 : Int32) ||| (nI v <<< ((4 : Int32) &&& 31))) >>> ((4 : Int32) &&& 31) = nI v := by decide +kernel
theorem st_word : ∀ v, v < 7 → ((1 : Int32) ||| (nI v <<< ((4 : Int32) &&& 31))) &&& 15 = 1 ∧ ((1 : Int32) ||| (nI v <<< ((4 : Int32) &&& 31))) >>> ((4 : Int32) &&& 31) = nI v := by decide +kernel
theorem st_op : ∀ k, k < 16 → (nI k ||| ((0 : Int32) <<< ((4 : Int32) &&& 31))) &&& 15 = nI k ∧ nI k &&& 15 = nI k := by decide +kernel
theorem st_aim : ∀ k, k < 13 → 11 ≤ k → ∀ v, v < 901 → (nI k ||| (nI v <<< ((4 : Int32) &&& 31))) &&& 15 = nI k ∧ (nI k ||| (nI v <<< ((4 : Int32) &&& 31))) >>> ((4 : Int32) &&& 31) = nI v := by decide +kernel
theorem mcC_num {c : Nat → Int32} {a v q : Nat} (hv : v < 1000) (hq : 1 ≤ q) (hc : c a = (0 : Int32) ||| (nI v <<< ((4 : Int32) &&& 31))) : mcC c a (a + 1) q (fun _ => nI v) := fun c' h => mnC_one hq (fun w st to h1 h2 => by
  obtain ⟨e1, e2⟩ := st_num v hv
  unfold cS
  rw [if_pos h1]
  simp only [h a (by omega) (by omega), hc, e1, e2]
  rw [if_neg (by decide), if_pos trivial, if_pos h2])
theorem mcC_word {c : Nat → Int32} {a v q : Nat} (hv : v < 7) (hq : 1 ≤ q) (hc : c a = (1 : Int32) ||| (nI v <<< ((4 : Int32) &&& 31))) : mcC c a (a + 1) q (fun w => w v) := fun c' h => mnC_one hq (fun w st to h1 h2 => by
  obtain ⟨e1, e2⟩ := st_word v hv
  unfold cS
  rw [if_pos h1]
  simp only [h a (by omega) (by omega), hc, e1, e2]
  rw [if_neg (by decide), if_neg (by decide), if_pos trivial, if_pos ⟨h2, nI_pos (by omega), by rw [lI 7, nI_leP (by omega) (by omega)]; omega⟩, nI_clamp (by omega)])
