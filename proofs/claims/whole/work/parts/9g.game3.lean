theorem sp_hasSet {d : Nat} {s : pm_S} {M : pm_M} {T : Nat} {x : Int32} {Q : Int32 → pm_S → pm_M → Prop} (hd : 1 ≤ d) (e1 : M.1 15 1 = nI T) (h8 : T ≤ 8) (h1 : inI x (2 ^ T) → Q 1 s M) (h0 : ¬ inI x (2 ^ T) → Q 0 s M) : cI d yL_hasSet [.ref 15, .int x] s M Q := by
  obtain ⟨d, rfl⟩ : ∃ e, d = e + 1 := ⟨d - 1, by omega⟩
  have h256 := pow_le8 h8
  refine enL_hasSet ?_
  rw [e1, shl_k T h8]
  have hi := inI_iff (x := x) (n := 2 ^ T) (by omega)
  by_cases a : x < 0
  · rw [if_pos a]; exact h0 (fun q => (hi.mp q).1 a)
  rw [if_neg a]
  by_cases b : nI (2 ^ T) ≤ x
  · rw [if_pos b]; exact h0 (fun q => (hi.mp q).2 b)
  rw [if_neg b]
  obtain ⟨j, hj, rfl⟩ := hi.mpr ⟨a, b⟩
  rw [if_neg (by rw [lI 256, nI_leP (by omega) (by omega)]; omega)]
  exact h1 ⟨j, hj, rfl⟩
theorem sp_isSet {d : Nat} {s : pm_S} {M : pm_M} {T : Nat} {x : Int32} {Q : Int32 → pm_S → pm_M → Prop} (hd : 1 ≤ d) (e1 : M.1 160 2 = nI T) (h8 : T ≤ 8) (h1 : inI x (2 ^ T) → Q 1 s M) (h0 : ¬ inI x (2 ^ T) → Q 0 s M) : cI d yM_isSet [.ref 159, .int x] s M Q := by
  obtain ⟨d, rfl⟩ : ∃ e, d = e + 1 := ⟨d - 1, by omega⟩
  have h256 := pow_le8 h8
  refine enM_isSet ?_
  rw [e1, shl_k T h8]
  have hi := inI_iff (x := x) (n := 2 ^ T) (by omega)
  by_cases a : x < 0
  · rw [if_pos a]; exact h0 (fun q => (hi.mp q).1 a)
  rw [if_neg a]
  by_cases b : nI (2 ^ T) ≤ x
  · rw [if_pos b]; exact h0 (fun q => (hi.mp q).2 b)
  rw [if_neg b]
  exact h1 (hi.mpr ⟨a, b⟩)
theorem sp_canChoose {d : Nat} {s : pm_S} {M : pm_M} {P : Nat} {x y : Int32} {Q : Int32 → pm_S → pm_M → Prop} (hd : 2 ≤ d) (e1 : M.1 15 2 = nI P) (h6 : P ≤ 6) (h1 : inI x P ∧ inI y P ∧ ¬ x = y → Q 1 s M) (h0 : ¬ (inI x P ∧ inI y P ∧ ¬ x = y) → Q 0 s M) : cI d yG_canChoose [.ref 0, .int x, .int y] s M Q := by
  obtain ⟨d, rfl⟩ : ∃ e, d = e + 1 := ⟨d - 1, by omega⟩
  refine enG_canChoose (sp_hasPerson (by omega) e1 h6 (fun a => br_f (by decide) ?_) (fun a => br_t rfl (h0 (fun q => a q.1))))
  refine sp_hasPerson (by omega) e1 h6 (fun b => ?_) (fun b => ?_)
  · rw [if_neg (by decide)]
    by_cases c : x = y
    · rw [if_pos c]; exact h0 (fun q => q.2.2 c)
    · rw [if_neg c]; exact h1 ⟨a, b, c⟩
  · rw [if_pos rfl]; exact h0 (fun q => b q.2.1)
theorem two_iff {x y : Int32} {P : Nat} (hP : P ≤ 6) : (inN x.toInt64 P ∧ inN y.toInt64 P ∧ ¬ x.toInt64 = y.toInt64) ↔ (inI x P ∧ inI y P ∧ ¬ x = y) := by
  rw [inN_i (by omega), inN_i (by omega)]
  have : x.toInt64 = y.toInt64 ↔ x = y := ⟨fun h => by have := congrArg Int64.toInt32 h; simpa using this, fun h => by rw [h]⟩
  rw [this]
theorem sb_self {S : Nat} (h : S < 256) : sbN S S = true := by
  have : ∀ S, S < 256 → sbN S S = true := by decide +kernel
  exact this S h
theorem fi_self {S : Nat} : fiB S S = true := by
  unfold fiB
  rw [Nat.xor_self]; rfl
theorem op_game {L d : Nat} {s : pm_S} {M : pm_M} {v u w : Int32} (hd : 12 ≤ d) (hI : Inv L s M) : cI d yG_game [.ref 0, .int v, .int u, .int w] s M (fun r s1 M1 => cI d yM_game [.ref 159, .int v, .int u, .int w] s1 M1 (same L r)) := by
  obtain ⟨d, rfl⟩ : ∃ e, d = e + 1 := ⟨d - 1, by omega⟩
  obtain ⟨g, N, T, P, x, n, hc⟩ := Inv_ctx hI
  have rd := ctx_read hc
  obtain ⟨a1, a2, a3, a4, a5, a6, a7, a8, a9, a10, a11, a12, a13⟩ := hc
  have h8 : T ≤ 8 := a4.2.2.2.2.2.2.1
  have h6 : P ≤ 6 := a4.2.2.2.2.2.2.2.1
  have h256 := pow_le8 h8
  have h2 := a4.2.2.1
  have h3 := a4.2.2.2.1
  have e0 : (pm_si M 159 0 0).1 160 = g := by rw [si_ne (by decide)]; exact a3
  refine enG_game (sp_canChoose (by omega) (a4.1.2.2.1.trans h3) h6 (fun hv => br_f (by decide) ?_) (fun hv => br_t rfl ?_))
  · have hv' := (two_iff h6).mpr hv
    refine sp_hasSet (by omega) (a4.1.2.1.trans h2) h8 (fun hw => br_f (by decide) ?_) (fun hw => br_t rfl ?_)
    · obtain ⟨⟨p, hp, rfl⟩, ⟨q, hq, rfl⟩, hne⟩ := hv
      have hw' := hw
      obtain ⟨S, hS, rfl⟩ := hw
      refine sp_gather (by omega) a4 a10 (fun M1 hK o1 => sp_playOut (by omega) a4.2 a9 hK hp hq hS (fun M2 f2 o2 => ⟨vpI (by omega) (by omega), ?_⟩))
      have s2 : Scr M M2 := Scr_tr (Scr_off o1 (by decide)) (Scr_off o2 (by decide))
      have s3 := Scr_tr s2 (Scr_159 (M := M2) (k := 0) (v := 0) (by omega))
      have g3 := (Scr_c s3 (c := 160) (by decide)).trans a3
      rw [nI_clamp (by omega), f2 S (Nat.le_refl _) (sb_self (by omega))]
      refine enM_game (sp_areTwo (n := P) (by omega) (by rw [g3]; exact h3) h6 (fun _ => br_f (by decide) ?_) (fun z => absurd hv' z))
      refine sp_isSet (by omega) (by rw [g3]; exact h2) h8 (fun _ => br_f (by decide) ?_) (fun z => absurd hw' z)
      refine sp_laysGame (by omega) g3 a4.2 hp hq hS (fun M3 f3 o3 => ⟨vpI (by omega) (by omega), ?_, Inv_Scr hI a1 (Scr_tr s3 (Scr_off o3 (by decide)))⟩)
      rw [nI_clamp (by omega), f3 S (Nat.le_refl _) (sb_self (by omega))]
    · refine enM_game (sp_areTwo (n := P) (by omega) (by rw [e0]; exact h3) h6 (fun _ => br_f (by decide) ?_) (fun z => absurd hv' z))
      exact sp_isSet (by omega) (by rw [e0]; exact h2) h8 (fun z => absurd z hw) (fun _ => br_t rfl ⟨rfl, rd⟩)
  · exact enM_game (sp_areTwo (n := P) (by omega) (by rw [e0]; exact h3) h6 (fun z => absurd ((two_iff h6).mp z) hv) (fun _ => br_t rfl ⟨rfl, rd⟩))
def pcB (g : Nat → Int32) (p q S t : Nat) : Bool := bt S t && decide (gmT (clF g) p q S (S + 1) (S - 2 ^ t) + clF g p t = gmT (clF g) p q S (S + 1) S)
theorem op_picks {L d : Nat} {s : pm_S} {M : pm_M} {v u w : Int32} (hd : 12 ≤ d) (hI : Inv L s M) : cI d yG_picks [.ref 0, .int v, .int u, .int w] s M (fun r s1 M1 => cI d yM_picks [.ref 159, .int v, .int u, .int w] s1 M1 (same L r)) := by
  obtain ⟨d, rfl⟩ : ∃ e, d = e + 1 := ⟨d - 1, by omega⟩
  obtain ⟨g, N, T, P, x, n, hc⟩ := Inv_ctx hI
  have rd := ctx_read hc
  obtain ⟨a1, a2, a3, a4, a5, a6, a7, a8, a9, a10, a11, a12, a13⟩ := hc
  have h8 : T ≤ 8 := a4.2.2.2.2.2.2.1
  have h6 : P ≤ 6 := a4.2.2.2.2.2.2.2.1
  have h256 := pow_le8 h8
  have h2 := a4.2.2.1
  have h3 := a4.2.2.2.1
  have e0 : (pm_si M 159 0 0).1 160 = g := by rw [si_ne (by decide)]; exact a3
  refine enG_picks (sp_canChoose (by omega) (a4.1.2.2.1.trans h3) h6 (fun hv => br_f (by decide) ?_) (fun hv => br_t rfl ?_))
  · have hv' := (two_iff h6).mpr hv
    refine sp_hasSet (by omega) (a4.1.2.1.trans h2) h8 (fun hw => br_f (by decide) ?_) (fun hw => br_t rfl ?_)
    · obtain ⟨⟨p, hp, rfl⟩, ⟨q, hq, rfl⟩, hne⟩ := hv
      have hw' := hw
      obtain ⟨S, hS, rfl⟩ := hw
      have sS := sb_self (S := S) (by omega)
      refine sp_gather (by omega) a4 a10 (fun M1 hK o1 => sp_playOut (by omega) a4.2 a9 hK hp hq hS (fun M2 f2 o2 => ?_))
      have s2 : Scr M M2 := Scr_tr (Scr_off o1 (by decide)) (Scr_off o2 (by decide))
      have s3 := Scr_tr s2 (Scr_159 (M := M2) (k := 0) (v := 0) (by omega))
      have g3 := (Scr_c s3 (c := 160) (by decide)).trans a3
      have c15 : M2.1 15 1 = nI T := by rw [Scr_c s2 (by decide)]; exact a4.1.2.1.trans h2
      have ref : cI (d + 1) yM_picks [.ref 159, .int (nI p), .int (nI q), .int (nI S)] s M2 (same L (oI (fst (pcB g p q S) T))) := by
        refine enM_picks (sp_areTwo (n := P) (by omega) (by rw [g3]; exact h3) h6 (fun _ => br_f (by decide) ?_) (fun z => absurd hv' z))
        refine sp_isSet (by omega) (by rw [g3]; exact h2) h8 (fun _ => br_f (by decide) ?_) (fun z => absurd hw' z)
        refine sp_laysGame (by omega) g3 a4.2 hp hq hS (fun M3 f3 o3 => ?_)
        have s4 := Scr_tr s3 (Scr_off o3 (by decide))
        refine loop_fst (L := fun t => ∀ M4, off [164, 165] M3 M4 → wM_picks d 40 [.ref 159, .int (nI p), .int (nI q), .int (nI S), .int (nI t)] [] s M4 (same L (oI (fst (pcB g p q S) T)))) (P := pcB g p q S) (e := T) (K := fun r => ∀ M4, off [164, 165] M3 M4 → same L (oI (fst (pcB g p q S) T)) (oI r) s M4) (fun M4 o4 => ⟨rfl, Inv_Scr hI a1 (Scr_tr s4 (Scr_off o4 (by decide)))⟩) ?_ ?_ M3 off_rf
        · intro hk M4 o4
          have g4 := r160 o4 (by decide) ((Scr_c s4 (c := 160) (by decide)).trans a3)
          exact sgM_picks_40 (br_t (by rw [g4, h2, nI_leP (by omega) (by omega)]; exact Nat.le_refl _) (hk M4 o4))
        · intro t ht k1 k2 M4 o4
          have g4 := r160 o4 (by decide) ((Scr_c s4 (c := 160) (by decide)).trans a3)
          refine sgM_picks_40 (br_f (by rw [g4, h2, nI_leP (by omega) (by omega)]; omega) (sp_isIn (by omega) (by omega) (by omega) ?_))
          rw [nI_1]
          unfold pcB at k1 k2
          cases cb : bt S t with
          | false => exact br_t rfl (k2 (by rw [cb]; rfl) M4 o4)
          | true =>
            have hl := Nat.sub_le S (2 ^ t)
            refine br_f (by decide) (sp_chosen (N := N) (T := T) (P := P) (tab := gmT (clF g) p q S (S + 1)) (by omega) g4 a4.2 hp hq hS hS sS (by omega) cb (by rw [(o4 179 (by decide)).1]; exact f3 _ hl (sb_rm (by omega) (by omega) (by omega) sS cb)) (fun M5 o5 => ⟨vpI (by omega) (by omega), ?_⟩))
            have o45 := off_tr o4 o5
            rw [if_pos fi_self, nI_clamp (by omega), (o45 179 (by decide)).1, f3 S (Nat.le_refl _) sS]
            exact br_c (fun z => k1 (by rw [cb]; simp [z]) M5 o45) (fun z => k2 (by rw [cb]; simp [z]) M5 o45)
      refine loop_fst (L := fun t => wG_picks d 58 [.ref 0, .int (nI p), .null, .int (nI S), .int (nI t)] [] s M2 (fun r s1 M1 => cI (d + 1) yM_picks [.ref 159, .int (nI p), .int (nI q), .int (nI S)] s1 M1 (same L r))) (P := pcB g p q S) (e := T) (K := fun r => cI (d + 1) yM_picks [.ref 159, .int (nI p), .int (nI q), .int (nI S)] s M2 (same L (oI r))) ref ?_ ?_
      · intro hk
        exact sgG_picks_58 (br_t (by rw [c15, nI_leP (by omega) (by omega)]; exact Nat.le_refl _) hk)
      · intro t ht k1 k2
        refine sgG_picks_58 (br_f (by rw [c15, nI_leP (by omega) (by omega)]; omega) ?_)
        rw [bitI (by omega) (by omega), nI_1]
        unfold pcB at k1 k2
        refine br_c (fun cb => ?_) (fun cb => k2 (by rw [show bt S t = false by simpa using cb]; rfl))
        have hl := Nat.sub_le S (2 ^ t)
        obtain ⟨e1, _, _, _⟩ := rm_k t (by omega) S (by omega) cb
        refine sp_of (by omega) (KR_off o2 (by decide) hK) h8 h6 hp ht ?_
        rw [e1, nI_clamp (by omega), nI_clamp (by omega), f2 _ hl (sb_rm (by omega) (by omega) (by omega) sS cb), f2 S (Nat.le_refl _) sS, Int32.add_comm]
        exact ⟨vpI (by omega) (by omega), vpI (by omega) (by omega), br_c (fun z => k1 (by rw [cb]; simp [z])) (fun z => k2 (by rw [cb]; simp [z]))⟩
    · refine enM_picks (sp_areTwo (n := P) (by omega) (by rw [e0]; exact h3) h6 (fun _ => br_f (by decide) ?_) (fun z => absurd hv' z))
      exact sp_isSet (by omega) (by rw [e0]; exact h2) h8 (fun z => absurd z hw) (fun _ => br_t rfl ⟨rfl, rd⟩)
  · exact enM_picks (sp_areTwo (n := P) (by omega) (by rw [e0]; exact h3) h6 (fun z => absurd ((two_iff h6).mp z) hv) (fun _ => br_t rfl ⟨rfl, rd⟩))
