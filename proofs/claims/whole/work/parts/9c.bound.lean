def bdC (v : Int32) : Prop := (-1000000) ≤ v ∧ v ≤ 1000000
theorem bd_nI {k : Nat} (h : k < 1000) : bdC (nI k) := by
  unfold bdC
  have : ∀ k, k < 1000 → (-1000000 : Int32) ≤ nI k ∧ nI k ≤ 1000000 := by decide +kernel
  exact this k h
theorem claimF_bd {g : Nat → Int32} {N T P p t m : Nat} (hV : Vd g N T P) (hp : p < P) (ht : t < T) (hm : m < 10) : bdC (claimF g (nI m) p t) := by
  obtain ⟨h1, h2, h3, h4, h5, h8, h6, h7, h9, h10, ⟨fr, n, f1, f2, f3, f4⟩, _⟩ := hV
  unfold claimF
  by_cases c : g 5 = 0
  · rw [if_pos c]
    split
    · exact bd_nI (k := 1) (by omega)
    · exact bd_nI (k := 0) (by omega)
  · rw [if_neg c]
    rcases f4 with z | ⟨_, z⟩
    · exact absurd z c
    · obtain ⟨v, e1, e2⟩ := z (wv g (nI m) p t 0 0)
      unfold evF lwN
      rw [f2, nI_clamp (by omega), e1]
      refine e2 (fun i hi => ?_)
      obtain ⟨⟨k1, l1, q1⟩, ⟨k2, l2, q2⟩⟩ := h9 t ht
      rcases (show i = 0 ∨ i = 1 ∨ i = 2 ∨ i = 3 ∨ i = 4 ∨ i = 5 ∨ i = 6 by omega) with rfl | rfl | rfl | rfl | rfl | rfl | rfl
      · exact bd_nI (k := p) (by omega)
      · exact bd_nI (k := m) (by omega)
      · exact bd_nI (k := t) (by omega)
      · show bdC (g (19 + t)); rw [q1]; exact bd_nI (by omega)
      · show bdC (g (27 + t)); rw [q2]; exact bd_nI (by omega)
      · exact bd_nI (k := 0) (by omega)
      · exact bd_nI (k := 0) (by omega)
theorem clF_bd {g : Nat → Int32} {N T P p t : Nat} (hV : Vd g N T P) (hv : Vs g N T P) (hp : p < P) (ht : t < T) : -1000000 ≤ (clF g p t).toInt ∧ (clF g p t).toInt ≤ 1000000 := by
  obtain ⟨⟨k, k1, k2⟩, _⟩ := hv.2.2.2 p hp
  unfold clF
  rw [k2]
  have := claimF_bd (m := k) hV hp ht (by omega)
  have e1 : (-1000000 : Int32).toInt = -1000000 := by decide
  have e2 : (1000000 : Int32).toInt = 1000000 := by decide
  have h1 := Int32.le_iff_toInt_le.mp this.1
  have h2 := Int32.le_iff_toInt_le.mp this.2
  rw [e1] at h1
  rw [e2] at h2
  exact ⟨h1, h2⟩
