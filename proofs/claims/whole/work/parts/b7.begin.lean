/-! behind both makers -/
def jPL : List (List (Option Nat)) := [[some 1, some 15, some 27, some 32, some 37, none, none, some 38, some 39, some 40, none, some 41, some 43, some 52, some 54, some 58, some 64], [some 2, none, none, none, some 14, none, none, none, none, none, none, none], [none, none, none, none, none, some 3, some 4, some 5, some 6, some 7, some 8, some 9, some 10], [], [], [], [], [], [], [], [some 11, some 12, some 13, none, none, none, none, none], [], [], [], [], [none, none, none, none, none, some 16, some 17, some 18, some 19, some 20, some 21, some 22, some 23], [], [], [], [], [], [], [], [some 24, some 25, some 26, none, none, none, none, none], [], [], [], [some 28, some 29, some 30, some 31, none, none, none, none], [], [], [], [], [some 33, some 34, some 35, some 36, none, none, none, none], [], [], [], [], [some 67, some 72, some 77, some 82, some 87, some 92, some 97, some 102, some 107, some 112], [some 117, some 119, some 121, some 123], [some 125, some 142], [some 137, some 154], [some 42], [], [some 44, some 45, some 46, some 47, some 48, some 49, some 50, some 51, none, none, none], [], [], [], [], [], [], [], [], [some 53], [], [some 55, some 56, some 57], [], [], [], [some 59, some 60, some 61, some 62, some 63, none, none, none, none], [], [], [], [], [], [none, some 65, some 66], [], [], [some 68, some 69, some 70, some 71, none, none, none, none], [], [], [], [], [some 73, some 74, some 75, some 76, none, none, none, none], [], [], [], [], [some 78, some 79, some 80, some 81, none, none, none, none], [], [], [], [], [some 83, some 84, some 85, some 86, none, none, none, none], [], [], [], [], [some 88, some 89, some 90, some 91, none, none, none, none], [], [], [], [], [some 93, some 94, some 95, some 96, none, none, none, none], [], [], [], [], [some 98, some 99, some 100, some 101, none, none, none, none], [], [], [], [], [some 103, some 104, some 105, some 106, none, none, none, none], [], [], [], [], [some 108, some 109, some 110, some 111, none, none, none, none], [], [], [], [], [some 113, some 114, some 115, some 116, none, none, none, none], [], [], [], [], [some 118, none, none], [], [some 120, none, none], [], [some 122, none, none], [], [some 124, none, none], [], [none, none, none, none, none, some 126, some 127, some 128, some 129, some 130, some 131, some 132, some 133], [], [], [], [], [], [], [], [some 134, some 135, some 136, none, none, none, none, none], [], [], [], [some 138, some 139, some 140, some 141, none, none, none, none], [], [], [], [], [none, none, none, none, none, some 143, some 144, some 145, some 146, some 147, some 148, some 149, some 150], [], [], [], [], [], [], [], [some 151, some 152, some 153, none, none, none, none, none], [], [], [], [some 155, some 156, some 157, some 158, none, none, none, none], [], [], [], [], [none, some 160, some 161, some 162, some 163, none, none, none, none, none, none, none, none, none, none, none, some 164, some 165, some 166, none, none, some 167, some 168, some 169, some 170, some 171, none, some 172, some 173, none, some 174, some 175, some 176, some 177, none, some 178, some 179, some 180, some 181, some 182, some 183, some 184], [], [], [], [], [], [], [], [], [], [], [], [], [], [], [], [], [], [], [], [], [], [], [], [], []]
theorem jM_lit : jMT50 = (pm_LS, jPL, 80222) := by decide +kernel
theorem jP_eq : ∀ c, c < 185 → ∀ k, k < 64 → (jPL.getD c []).getD k none = (EE (0, 62, 63, none, 65, 66)).2.2.2 c k := by decide +kernel
theorem jP_len : ∀ c, c < 185 → (jPL.getD c []).length ≤ 64 ∧ (pm_PT.getD c []).length ≤ 64 := by decide +kernel
theorem mE {L : Nat} : toE L jMT50 = EE (L, 62, 63, none, 65, 66) := by
  rw [jM_lit]
  have l1 : pm_LS.length = 185 := by decide +kernel
  have l2 : jPL.length = 185 := by decide +kernel
  have l3 : pm_PT.length = 185 := by decide +kernel
  have e4 : (fun c k => (jPL.getD c []).getD k none) = (EE (L, 62, 63, none, 65, 66)).2.2.2 := by
    funext c k
    by_cases hc : c < 185
    · by_cases hk : k < 64
      · exact jP_eq c hc k hk
      · obtain ⟨p1, p2⟩ := jP_len c hc
        rw [gd_o (show (jPL.getD c []).length ≤ k by omega)]
        show none = if c = 58 then (pm_PO (L, 62, 63, none, 65, 66)).getD k none else if c = 64 then (pm_PD (L, 62, 63, none, 65, 66)).getD k none else (pm_PT.getD c []).getD k none
        by_cases h58 : c = 58
        · rw [if_pos h58, gd_o (show (pm_PO (L, 62, 63, none, 65, 66)).length ≤ k by show 6 ≤ k; omega)]
        · rw [if_neg h58]
          by_cases h64 : c = 64
          · rw [if_pos h64, gd_o (show (pm_PD (L, 62, 63, none, 65, 66)).length ≤ k by show 3 ≤ k; omega)]
          · rw [if_neg h64, gd_o (by omega)]
    · show _ = if c = 58 then (pm_PO (L, 62, 63, none, 65, 66)).getD k none else if c = 64 then (pm_PD (L, 62, 63, none, 65, 66)).getD k none else (pm_PT.getD c []).getD k none
      rw [if_neg (by omega), if_neg (by omega), gd_o (l := jPL) (by omega), gd_o (l := pm_PT) (by omega)]
  show (pm_LS.length, 80222, _, (fun c k => (jPL.getD c []).getD k none)) = (185, 80222, _, _)
  rw [l1, e4]
  rfl
theorem sp_plain0 {d : Nat} {s : pm_S} {M : pm_M} {Q : pm_S → pm_M → Prop} (hd : 1 ≤ d) (hq : ∀ R : Nat → Int32, (∀ k, k < 1290 → R k = plG k) → Q s (pm_ri M 160 R)) : cV d yM_plain [.ref 160] s M Q := by
  obtain ⟨d, rfl⟩ : ∃ e, d = e + 1 := ⟨d - 1, by omega⟩
  refine enM_plain (a1n := 3870) ⟨by omega, sh_160⟩ ?_
  refine loop_up (L := fun i Mx => wM_plain d 2 [.ref 160, .int (nI i)] [] s Mx Q) (I := fun i Mx => ∃ R, Mx = pm_ri M 160 R ∧ ∀ k, k < i → R k = 0) (e := 1290) ?_ ?_ M ⟨M.1 160, ri_self.symm, fun k hk => by omega⟩
  · intro Mx hx
    obtain ⟨R, rfl, hR⟩ := hx
    refine sgM_plain_2 (a1n := 3870) ⟨by omega, sh_160⟩ (br_t (by decide) ⟨vpI (a := 1) (by omega) (by omega), ?_⟩)
    rw [ri_si]
    refine hq _ (fun k hk => ?_)
    by_cases e : k = 1
    · subst e; rw [row_eq]; rfl
    · rw [row_ne e, hR k hk, plG_0 e]
  · intro i Mx hi hx hk
    obtain ⟨R, rfl, hR⟩ := hx
    refine sgM_plain_2 (a1n := 3870) ⟨by omega, sh_160⟩ (br_f (by rw [lI 1290, nI_leP (by omega) (by omega)]; omega) ⟨vpI (by omega) (by omega), ?_⟩)
    rw [nI_clamp (by omega), nI_1, ri_si]
    refine hk _ ⟨_, rfl, fun k h => ?_⟩
    by_cases e : k = i
    · subst e; rw [row_eq]
    · rw [row_ne e]; exact hR k (by omega)
def vL (l : List (Nat × Nat × Int32)) (c k : Nat) : Int32 := match l.find? (fun e => e.1 == c && e.2.1 == k) with
  | some e => e.2.2
  | none => 0
def jVL : List (Nat × Nat × Int32) := (jMV6 (fun _ => 0)).2
theorem jV_eq {sc : Nat → Int32} {c k : Nat} : vG (jMV6 sc) c k = vL jVL c k := rfl
theorem Inv_0 {L : Nat} {sc : Nat → Int32} {M : pm_M} {R : Nat → Int32} (hM : okM 185 (jMV6 sc) M) (hR : ∀ k, k < 1290 → R k = plG k) : Inv L (L, 62, 63, none, 65, 66) (pm_ri M 160 R) := by
  have e : ∀ c k, c < 185 → c ≠ 160 → (pm_ri M 160 R).1 c k = vL jVL c k := fun c k h1 h2 => by rw [ri_ne h2, (hM.2.1 c h1 k).1]; exact jV_eq
  have e160 : (pm_ri M 160 R).1 160 = R := ri_eq
  generalize pm_ri M 160 R = M2 at e e160
  have pz : ∀ k, k < 1290 → k ≠ 1 → R k = 0 := fun k h1 h2 => by rw [hR k h1, plG_0 h2]
  have p1 : R 1 = 2 := by rw [hR 1 (by omega)]; rfl
  have z : ∀ c k, c < 185 → c ≠ 160 → vL jVL c k = 0 → M2.1 c k = 0 := fun c k h1 h2 h3 => by rw [e c k h1 h2, h3]
  have tr : ∀ r, r < 4 → vL jVL (117 + 2 * r) 2 = -1 ∧ vL jVL 182 r = -1 := by decide +kernel
  have im : ∀ i, i < 2 → vL jVL 161 i = 0 := by decide +kernel
  have st : ∀ t, t < 8 → vL jVL 28 t = 0 := by decide +kernel
  have lw : ∀ law, law < 2 → vL jVL 23 (4 + 2 * law) = 0 ∧ vL jVL 23 (5 + 2 * law) = 0 := by decide +kernel
  have lws : ∀ law lim, law < 2 → lwS M2 23 24 R law lim := fun law lim hl => by
    obtain ⟨x1, x2⟩ := lw law hl
    have g5 : R (5 + law) = 0 := pz _ (by omega) (by omega)
    exact ⟨0, 0, by omega, by omega, by rw [z 23 _ (by omega) (by omega) x1]; rfl, by rw [z 23 _ (by omega) (by omega) x2]; rfl, ⟨fun _ => rfl, fun _ => g5⟩, fun h => absurd g5 h⟩
  have lok : ∀ law lim, law < 2 → lwOk R law lim := fun law lim hl => ⟨0, 0, by rw [pz _ (by omega) (by omega)]; rfl, by rw [pz _ (by omega) (by omega)]; rfl, by omega, Or.inl (pz _ (by omega) (by omega))⟩
  refine ⟨⟨rfl, Or.inl ⟨rfl, rfl⟩, Or.inl rfl, Or.inl ⟨rfl, rfl⟩⟩, ⟨⟨⟨0, by omega, ?_, ?_, fun k hk => by omega⟩, ?_, ?_⟩, fun r hr => Or.inl ?_, 0, by omega, ?_, fun i hi => Or.inl ⟨by rw [Nat.zero_div], ?_⟩⟩, 2, 0, 0, ⟨⟨?_, ?_, ?_, ?_, ?_, fun t ht => by omega, fun p hp => by omega, ?_, ?_⟩, ?_⟩, ⟨0, 0, 0, by omega, by omega, by omega, ?_, ?_, ?_⟩, ⟨?_, fun t ht => by omega, fun t t' p h => by omega, fun p hp => by omega⟩, ⟨?_, ?_, ?_, fun t ht => by omega, fun p hp => by omega, fun t _ ht => ?_⟩, 0, 0, by omega, by omega, ?_, ?_, ?_, fun k hk => by omega⟩
  · rw [z 1 1 (by omega) (by omega) (by decide +kernel)]; rfl
  · rw [z 159 5 (by omega) (by omega) (by decide +kernel)]; rfl
  · rw [z 1 2 (by omega) (by omega) (by decide +kernel), z 159 13 (by omega) (by omega) (by decide +kernel)]
  · rw [e 1 3 (by omega) (by omega), e 159 14 (by omega) (by omega)]; decide +kernel
  · obtain ⟨x1, x2⟩ := tr r hr
    exact ⟨by rw [e _ _ (by omega) (by omega), x1], by rw [e _ _ (by omega) (by omega), x2]⟩
  · rw [z 0 10 (by omega) (by omega) (by decide +kernel)]; rfl
  · exact z _ _ (by omega) (by omega) (im i hi)
  · rw [e160, p1, e 15 0 (by omega) (by omega)]; decide +kernel
  · rw [e160, pz 2 (by omega) (by omega), z 15 1 (by omega) (by omega) (by decide +kernel)]
  · rw [e160, pz 3 (by omega) (by omega), z 15 2 (by omega) (by omega) (by decide +kernel)]
  · rw [e160, pz 0 (by omega) (by omega), z 15 3 (by omega) (by omega) (by decide +kernel)]
  · rw [e160, pz 4 (by omega) (by omega), z 15 4 (by omega) (by omega) (by decide +kernel)]
  · rw [e160]; exact lws 0 5 (by omega)
  · rw [e160]; exact lws 1 7 (by omega)
  · rw [e160]
    exact ⟨by rw [p1]; rfl, by rw [pz 2 (by omega) (by omega)]; rfl, by rw [pz 3 (by omega) (by omega)]; rfl, by omega, by omega, by omega, by omega, ⟨0, by omega, by rw [pz 4 (by omega) (by omega)]; rfl⟩, fun t ht => by omega, fun p hp => by omega, lok 0 5 (by omega), lok 1 7 (by omega)⟩
  · rw [z (15 + 8) 3 (by omega) (by omega) (by decide +kernel)]; rfl
  · rw [z (15 + 8) 5 (by omega) (by omega) (by decide +kernel)]; rfl
  · rw [z (15 + 8) 7 (by omega) (by omega) (by decide +kernel)]; rfl
  · rw [e160]; exact Or.inl (pz 47 (by omega) (by omega))
  · rw [e160, pz 47 (by omega) (by omega), z 27 4 (by omega) (by omega) (by decide +kernel)]
  · rw [e160, pz 48 (by omega) (by omega), z 27 5 (by omega) (by omega) (by decide +kernel)]
  · rw [e160, pz 49 (by omega) (by omega), z 27 6 (by omega) (by omega) (by decide +kernel)]
  · rw [z (27 + 1) t (by omega) (by omega) (st t ht)]; decide
  · rw [e160, pz 78 (by omega) (by omega)]; rfl
  · rw [z 0 5 (by omega) (by omega) (by decide +kernel)]; rfl
  · rw [z 0 6 (by omega) (by omega) (by decide +kernel)]; rfl
