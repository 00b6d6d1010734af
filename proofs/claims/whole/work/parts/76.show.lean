def shC (g : Nat → Int32) (p t S : Nat) (m : Nat) (r : Int32) : Int32 := if bt S m = true ∧ byB g p t (nI m) = true then r + 1 else r
def shL (g : Nat → Int32) (p S t : Nat) : Int32 := if bitsF (nI S) - itr (shC g p t S) 10 0 < itr (shC g p t S) 10 0 then bitsF (nI S) - itr (shC g p t S) 10 0 else itr (shC g p t S) 10 0
def shS (g : Nat → Int32) (p S t : Nat) (b : Option Nat × Int32) : Option Nat × Int32 := if shL g p S t ≤ b.2 then b else (some t, shL g p S t)
def shF (g : Nat → Int32) (p S T : Nat) : Int32 := oI (itr (shS g p S) T (none, -1)).1
theorem sp_showC {d : Nat} {s : pm_S} {M : pm_M} {g : Nat → Int32} {T P p S : Nat} {Q : Int32 → pm_S → pm_M → Prop} (hd : 4 ≤ d) (hl : LR M 15 g T P) (hT : g 2 = nI T) (h8 : T ≤ 8) (hS : S < 1024) (hq : ∀ M', off [25, 26] M M' → Q (shF g p S T) s M') : wG_show d 42 [.ref 0, .null, .int (nI p), .null, .int (nI S), .int (-1), .int (-1), .int 0, .null, .null] [] s M Q := by
  refine loop_mem (L := fun i (b : Option Nat × Int32) M1 => wG_show d 42 [.ref 0, .null, .int (nI p), .null, .int (nI S), .int (oI b.1), .int b.2, .int (nI i), .null, .null] [] s M1 Q) (I := fun _ M1 => off [25, 26] M M1) (f := shS g p S) (e := T) (a0 := (none, -1)) ?_ ?_ M off_rf
  · intro M1 o1
    have hl1 : LR M1 15 g T P := LR_off o1 hl (by decide)
    refine sgG_show_42 (br_t (by rw [hl1.2.1, hT, nI_leP (by omega) (by omega)]; exact Nat.le_refl _) (hq M1 o1))
  · intro t M1 ht o1 hk
    generalize itr (shS g p S) t (none, -1) = b at hk ⊢
    have hl1 : LR M1 15 g T P := LR_off o1 hl (by decide)
    refine sgG_show_42 (br_f (by rw [hl1.2.1, hT, nI_leP (by omega) (by omega)]; omega) ?_)
    refine loop_mem (L := fun i (y : Int32) M2 => wG_show d 60 [.ref 0, .null, .int (nI p), .null, .int (nI S), .int (oI b.1), .int b.2, .int (nI t), .int y, .int (nI i)] [] s M2 Q) (I := fun _ M2 => off [25, 26] M M2) (f := shC g p t S) (e := 10) (a0 := 0) ?_ ?_ M1 o1
    · intro M2 o2
      refine sgG_show_60 (br_t (by decide) (sp_bitCount (by omega) hS (sp_min (by omega) ?_)))
      have := hk M2 o2
      unfold shS shL at this
      rw [nI_1]
      generalize itr (shC g p t S) 10 0 = y at this ⊢
      generalize (if bitsF (nI S) - y < y then bitsF (nI S) - y else y) = z at this ⊢
      by_cases c : z ≤ b.2
      · rw [if_pos c] at this; rw [if_pos c, if_pos c]; exact this
      · rw [if_neg c] at this; rw [if_neg c, if_neg c]; exact this
    · intro m M2 hm o2 hk2
      generalize itr (shC g p t S) m 0 = y at hk2 ⊢
      refine sgG_show_60 (br_f (by rw [lI 10, nI_leP (by omega) (by omega)]; omega) ?_)
      rw [bitI (by omega) hS, nI_1]
      unfold shC at hk2
      refine br_c (fun c => ?_) (fun c => ?_)
      · refine sp_claimBy (by omega) (LR_off o2 hl (by decide)) hT h8 ht (fun M3 o3 => ?_)
        have := hk2 M3 (off_tr o2 o3)
        by_cases c2 : claimF g (nI m) p t ≤ 0
        · rw [if_neg (by unfold byB; simp [c2])] at this
          rw [if_pos c2]; exact this
        · rw [if_pos ⟨c, by unfold byB; simp only [c2, not_false_eq_true, decide_true]⟩] at this
          rw [if_neg c2]; exact this
      · have := hk2 M2 o2
        rw [if_neg (fun q => c q.1)] at this
        exact this
theorem add0 (x : Int32) : x + 0 = x := by simp
theorem sp_showM {d : Nat} {s : pm_S} {M : pm_M} {g : Nat → Int32} {N T P p S : Nat} {Q : Int32 → pm_S → pm_M → Prop} (hd : 5 ≤ d) (hg : M.1 160 = g) (hV : Vd g N T P) (hp : p < P) (hS : S < 1024) (hq : ∀ M', M'.1 160 = g → off [160, 164, 165] M M' → Q (if S = 0 then -1 else shF g p S T) s M') : wM_show d 35 [.ref 159, .null, .int (nI p), .null, .int (nI S), .int (-1), .int (-1), .int 0, .null, .null] [] s M Q := by
  have h8 := hV.2.2.2.2.2.1
  have h2 := hV.2.1
  by_cases z : S = 0
  · rw [if_pos z] at hq
    subst z
    exact sgM_show_35 (br_c (fun _ => hq M hg off_rf) (fun _ => br_t rfl (hq M hg off_rf)))
  rw [if_neg z] at hq
  refine loop_mem (L := fun i (b : Option Nat × Int32) M1 => wM_show d 35 [.ref 159, .null, .int (nI p), .null, .int (nI S), .int (oI b.1), .int b.2, .int (nI i), .null, .null] [] s M1 Q) (I := fun _ M1 => M1.1 160 = g ∧ off [160, 164, 165] M M1) (f := shS g p S) (e := T) (a0 := (none, -1)) ?_ ?_ M ⟨hg, off_rf⟩
  · intro M1 h
    refine sgM_show_35 (br_t (by rw [h.1, h2, nI_leP (by omega) (by omega)]; exact Nat.le_refl _) (hq M1 h.1 h.2))
  · intro t M1 ht h hk
    generalize itr (shS g p S) t (none, -1) = b at hk ⊢
    refine sgM_show_35 (br_f (by rw [h.1, h2, nI_leP (by omega) (by omega)]; omega) (br_f (by rw [l0, nI_inj (by omega) (by omega)]; exact z) ?_))
    refine loop_mem (L := fun i (y : Int32) M2 => wM_show d 57 [.ref 159, .null, .int (nI p), .null, .int (nI S), .int (oI b.1), .int b.2, .int (nI t), .int y, .int (nI i)] [] s M2 Q) (I := fun _ M2 => M2.1 160 = g ∧ off [160, 164, 165] M M2) (f := shC g p t S) (e := 10) (a0 := 0) ?_ ?_ M1 h
    · intro M2 h2'
      have := hk M2 h2'
      unfold shS shL at this
      generalize itr (shC g p t S) 10 0 = y at this ⊢
      refine sgM_show_57 (br_t (by decide) (sp_bitsOf (by omega) ?_))
      rw [nI_1]
      have key : ∀ w : Int32, (if bitsF (nI S) - y < y then bitsF (nI S) - y else y) = w → wM_show d 35 [.ref 159, .null, .int (nI p), .null, .int (nI S), .int (if b.2 < w then nI t else oI b.1), .int (if b.2 < w then w else b.2), .int (nI (t + 1)), .null, .null] [] s M2 Q := by
        intro w ew
        rw [ew] at this
        by_cases c : w ≤ b.2
        · rw [if_pos c] at this; rw [if_neg (i_nlt c), if_neg (i_nlt c)]; exact this
        · rw [if_neg c] at this; rw [if_pos (i_lt c), if_pos (i_lt c)]; exact this
      refine br_c (fun c => sp_bitsOf (by omega) ?_) (fun c => ?_)
      · refine key (bitsF (nI S) - y) ?_
        generalize bitsF (nI S) - y = u at c ⊢
        grind
      · refine key y ?_
        generalize bitsF (nI S) - y = u at c ⊢
        grind
    · intro m M2 hm h2' hk2
      generalize itr (shC g p t S) m 0 = y at hk2 ⊢
      refine sgM_show_57 (br_f (by rw [lI 10, nI_leP (by omega) (by omega)]; omega) (sp_isIn (by omega) hS (by omega) ?_))
      rw [nI_1]
      unfold shC at hk2
      cases c : bt S m with
      | false =>
        have := hk2 M2 h2'
        rw [if_neg (by simp [c])] at this
        refine br_t rfl ?_
        rw [add0]; exact this
      | true =>
        refine br_f (by decide) (sp_claimsBy (by omega) h2'.1 hV hp ht (fun M3 g3 o3 => ?_))
        have := hk2 M3 ⟨g3, off_tr h2'.2 o3⟩
        cases c2 : byB g p t (nI m) with
        | false =>
          rw [if_neg (by simp [c2])] at this
          have e : (if (if false = true then (1 : Int32) else 0) = 0 then (0 : Int32) else 1) = 0 := by decide
          rw [e, add0]; exact this
        | true =>
          rw [if_pos ⟨c, c2⟩] at this
          exact this
