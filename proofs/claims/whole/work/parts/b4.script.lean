/-! no run writes the script -/
theorem pm_I_sc {cal : pm_C} {o : Nat} {rt : Option FieldType} {fi : Bool} {pc : Nat} {ls st : List Value} {E : pm_E} {M : pm_M} {res : pm_Z} {i : Instr} {len : Nat} {k : Nat → List Value → List Value → pm_E → pm_M → Prop} (hcal : ∀ y as E M z, cal y as E M z → E.1 ≤ 4000 → z.2.1.1 ≤ 4000 ∧ z.2.2.1 4000 = M.1 4000 ∧ z.2.1.2.2.1 4000 = E.2.2.1 4000) (hk : ∀ pc ls st E1 M1, k pc ls st E1 M1 → E1.1 ≤ 4000 → res.2.1.1 ≤ 4000 ∧ res.2.2.1 4000 = M1.1 4000 ∧ res.2.1.2.2.1 4000 = E1.2.2.1 4000) (h : pm_I cal o rt fi pc ls st E M res i len k) (hE : E.1 ≤ 4000) : res.2.1.1 ≤ 4000 ∧ res.2.2.1 4000 = M.1 4000 ∧ res.2.1.2.2.1 4000 = E.2.2.1 4000 := by
  have si : ∀ (M : pm_M) (a j : Nat) (v : Int32), a < E.1 → (pm_si M a j v).1 4000 = M.1 4000 := fun M a j v ha => si_ne (by omega)
  have nm : E.1 < 4000 → (pm_nm E M).1 4000 = M.1 4000 := fun hn => by show pm_row M.1 E.1 (fun _ => 0) 4000 = _; rw [row_ne (by omega)]
  have ne : ∀ q n l : Nat, E.1 < 4000 → (pm_ne E q n l).2.2.1 4000 = E.2.2.1 4000 := fun q n l hn => by show pm_row E.2.2.1 E.1 (q, l) 4000 = _; rw [row_ne (by omega)]
  unfold pm_I at h
  split at h
  · obtain ⟨-, rest_, -, h⟩ := h
    exact hk _ _ _ _ _ h hE
  · obtain ⟨-, rest_, -, h⟩ := h
    exact hk _ _ _ _ _ h hE
  · obtain ⟨-, rest_, -, h⟩ := h
    exact hk _ _ _ _ _ h hE
  · obtain ⟨-, rest_, -, h⟩ := h
    exact hk _ _ _ _ _ h hE
  · obtain ⟨-, x_, rest_, -, -, h⟩ := h
    exact hk _ _ _ _ _ h hE
  · obtain ⟨-, x_, rest_, -, -, h⟩ := h
    exact hk _ _ _ _ _ h hE
  · obtain ⟨-, x_, rest_, -, -, h⟩ := h
    exact hk _ _ _ _ _ h hE
  · obtain ⟨-, x_, rest_, -, -, h⟩ := h
    exact hk _ _ _ _ _ h hE
  · obtain ⟨-, x_, rest_, -, -, h⟩ := h
    exact hk _ _ _ _ _ h hE
  · obtain ⟨-, x_, rest_, -, -, h⟩ := h
    exact hk _ _ _ _ _ h hE
  · obtain ⟨-, x_, rest_, -, -, h⟩ := h
    exact hk _ _ _ _ _ h hE
  · obtain ⟨-, x_, rest_, -, -, h⟩ := h
    exact hk _ _ _ _ _ h hE
  · obtain ⟨-, x_, rest_, -, -, h⟩ := h
    exact hk _ _ _ _ _ h hE
  · obtain ⟨-, x_, rest_, -, -, h⟩ := h
    exact hk _ _ _ _ _ h hE
  · obtain ⟨-, x_, rest_, -, -, h⟩ := h
    exact hk _ _ _ _ _ h hE
  · obtain ⟨-, x_, rest_, -, -, h⟩ := h
    exact hk _ _ _ _ _ h hE
  · obtain ⟨-, x_, rest_, -, -, -, h⟩ := h
    exact hk _ _ _ _ _ h hE
  · obtain ⟨-, x_, y_, rest_, -, h⟩ := h
    exact hk _ _ _ _ _ h hE
  · obtain ⟨-, x_, y_, rest_, -, h⟩ := h
    exact hk _ _ _ _ _ h hE
  · obtain ⟨-, x_, y_, rest_, -, h⟩ := h
    exact hk _ _ _ _ _ h hE
  · obtain ⟨-, x_, y_, rest_, -, h⟩ := h
    exact hk _ _ _ _ _ h hE
  · obtain ⟨-, x_, y_, rest_, -, h⟩ := h
    exact hk _ _ _ _ _ h hE
  · obtain ⟨-, x_, y_, rest_, -, h⟩ := h
    exact hk _ _ _ _ _ h hE
  · obtain ⟨-, x_, y_, rest_, -, h⟩ := h
    exact hk _ _ _ _ _ h hE
  · obtain ⟨-, x_, y_, rest_, -, h⟩ := h
    exact hk _ _ _ _ _ h hE
  · obtain ⟨-, x_, y_, rest_, -, h⟩ := h
    exact hk _ _ _ _ _ h hE
  · obtain ⟨-, x_, y_, rest_, -, -, h⟩ := h
    exact hk _ _ _ _ _ h hE
  · obtain ⟨-, x_, y_, rest_, -, -, h⟩ := h
    exact hk _ _ _ _ _ h hE
  · obtain ⟨-, x_, y_, rest_, -, h⟩ := h
    exact hk _ _ _ _ _ h hE
  · obtain ⟨-, x_, y_, rest_, -, h⟩ := h
    exact hk _ _ _ _ _ h hE
  · obtain ⟨-, x_, y_, rest_, -, h⟩ := h
    exact hk _ _ _ _ _ h hE
  · obtain ⟨-, x_, y_, rest_, -, h⟩ := h
    exact hk _ _ _ _ _ h hE
  · obtain ⟨-, x_, y_, rest_, -, h⟩ := h
    exact hk _ _ _ _ _ h hE
  · obtain ⟨-, x_, y_, rest_, -, -, h⟩ := h
    exact hk _ _ _ _ _ h hE
  · obtain ⟨-, x_, y_, rest_, -, -, h⟩ := h
    exact hk _ _ _ _ _ h hE
  · obtain ⟨-, x_, y_, rest_, -, h⟩ := h
    exact hk _ _ _ _ _ h hE
  · obtain ⟨-, x_, y_, rest_, -, h⟩ := h
    exact hk _ _ _ _ _ h hE
  · obtain ⟨-, x_, y_, rest_, -, h⟩ := h
    exact hk _ _ _ _ _ h hE
  · obtain ⟨-, x_, rest_, -, h⟩ := h
    exact hk _ _ _ _ _ h hE
  · obtain ⟨-, x_, rest_, -, h⟩ := h
    exact hk _ _ _ _ _ h hE
  · obtain ⟨-, x_, rest_, -, h⟩ := h
    exact hk _ _ _ _ _ h hE
  · obtain ⟨-, x_, rest_, -, h⟩ := h
    exact hk _ _ _ _ _ h hE
  · obtain ⟨-, x_, rest_, -, -, h⟩ := h
    exact hk _ _ _ _ _ h hE
  · obtain ⟨-, x_, rest_, -, -, h⟩ := h
    exact hk _ _ _ _ _ h hE
  · obtain ⟨-, x_, rest_, -, -, h⟩ := h
    exact hk _ _ _ _ _ h hE
  · obtain ⟨-, h⟩ := h
    rcases h with ⟨x, y, rest, -, -, -, h⟩ | ⟨x, rest, -, -, h⟩
    · exact hk _ _ _ _ _ h hE
    · exact hk _ _ _ _ _ h hE
  · obtain ⟨-, x_, rest_, tgt_, -, -, h⟩ := h
    rcases h with ⟨-, h⟩ | ⟨-, h⟩
    · exact hk _ _ _ _ _ h hE
    · exact hk _ _ _ _ _ h hE
  · obtain ⟨-, x_, rest_, tgt_, -, -, h⟩ := h
    rcases h with ⟨-, h⟩ | ⟨-, h⟩
    · exact hk _ _ _ _ _ h hE
    · exact hk _ _ _ _ _ h hE
  · obtain ⟨-, x_, rest_, tgt_, -, -, h⟩ := h
    rcases h with ⟨-, h⟩ | ⟨-, h⟩
    · exact hk _ _ _ _ _ h hE
    · exact hk _ _ _ _ _ h hE
  · obtain ⟨-, x_, rest_, tgt_, -, -, h⟩ := h
    rcases h with ⟨-, h⟩ | ⟨-, h⟩
    · exact hk _ _ _ _ _ h hE
    · exact hk _ _ _ _ _ h hE
  · obtain ⟨-, x_, rest_, tgt_, -, -, h⟩ := h
    rcases h with ⟨-, h⟩ | ⟨-, h⟩
    · exact hk _ _ _ _ _ h hE
    · exact hk _ _ _ _ _ h hE
  · obtain ⟨-, x_, rest_, tgt_, -, -, h⟩ := h
    rcases h with ⟨-, h⟩ | ⟨-, h⟩
    · exact hk _ _ _ _ _ h hE
    · exact hk _ _ _ _ _ h hE
  · obtain ⟨-, x_, y_, rest_, tgt_, -, -, h⟩ := h
    rcases h with ⟨-, h⟩ | ⟨-, h⟩
    · exact hk _ _ _ _ _ h hE
    · exact hk _ _ _ _ _ h hE
  · obtain ⟨-, x_, y_, rest_, tgt_, -, -, h⟩ := h
    rcases h with ⟨-, h⟩ | ⟨-, h⟩
    · exact hk _ _ _ _ _ h hE
    · exact hk _ _ _ _ _ h hE
  · obtain ⟨-, x_, y_, rest_, tgt_, -, -, h⟩ := h
    rcases h with ⟨-, h⟩ | ⟨-, h⟩
    · exact hk _ _ _ _ _ h hE
    · exact hk _ _ _ _ _ h hE
  · obtain ⟨-, x_, y_, rest_, tgt_, -, -, h⟩ := h
    rcases h with ⟨-, h⟩ | ⟨-, h⟩
    · exact hk _ _ _ _ _ h hE
    · exact hk _ _ _ _ _ h hE
  · obtain ⟨-, x_, y_, rest_, tgt_, -, -, h⟩ := h
    rcases h with ⟨-, h⟩ | ⟨-, h⟩
    · exact hk _ _ _ _ _ h hE
    · exact hk _ _ _ _ _ h hE
  · obtain ⟨-, x_, y_, rest_, tgt_, -, -, h⟩ := h
    rcases h with ⟨-, h⟩ | ⟨-, h⟩
    · exact hk _ _ _ _ _ h hE
    · exact hk _ _ _ _ _ h hE
  · obtain ⟨-, tgt_, -, h⟩ := h
    exact hk _ _ _ _ _ h hE
  · obtain ⟨-, x_, rest_, tgt_, -, -, h⟩ := h
    exact hk _ _ _ _ _ h hE
  · obtain ⟨x_, rest_, tgt_, -, -, -, h⟩ := h
    exact hk _ _ _ _ _ h hE
  · obtain ⟨x_, rest_, tgt_, -, -, -, h⟩ := h
    exact hk _ _ _ _ _ h hE
  · obtain ⟨-, v_, -, h⟩ := h
    exact hk _ _ _ _ _ h hE
  · obtain ⟨-, v_, -, h⟩ := h
    exact hk _ _ _ _ _ h hE
  · obtain ⟨-, v_, -, h⟩ := h
    exact hk _ _ _ _ _ h hE
  · obtain ⟨-, ci_, kf_, kd_, fin_, a_, rest_, -, -, -, -, h⟩ := h
    exact hk _ _ _ _ _ h hE
  · obtain ⟨-, ci, kf, kd, fin, a, rest, -, ha, -, -, h⟩ := h
    rcases h with ⟨x, -, -, h⟩ | ⟨x, -, -, h⟩ | ⟨x, -, -, h⟩
    · have := hk _ _ _ _ _ h hE
      rw [si M a kf x ha] at this
      exact this
    · have := hk _ _ _ _ _ h hE
      exact this
    · have := hk _ _ _ _ _ h hE
      exact this
  · obtain ⟨-, a_, rest_, -, -, h⟩ := h
    exact hk _ _ _ _ _ h hE
  · obtain ⟨-, i_, a_, rest_, -, -, -, h⟩ := h
    exact hk _ _ _ _ _ h hE
  · obtain ⟨-, i_, a_, rest_, -, -, -, h⟩ := h
    exact hk _ _ _ _ _ h hE
  · obtain ⟨-, i_, a_, rest_, -, -, -, h⟩ := h
    exact hk _ _ _ _ _ h hE
  · obtain ⟨-, x_, i_, a_, rest_, hc0, hc1, hc2, h⟩ := h
    have := hk _ _ _ _ _ h hE
    rw [si M a_ _ _ hc1.1] at this
    exact this
  · obtain ⟨-, x_, i_, a_, rest_, hc0, hc1, hc2, hc3, h⟩ := h
    have := hk _ _ _ _ _ h hE
    rw [si M a_ _ _ hc1.1] at this
    exact this
  · obtain ⟨-, x_, i_, a_, rest_, -, -, -, h⟩ := h
    have := hk _ _ _ _ _ h hE
    exact this
  · obtain ⟨-, i_, a_, rest_, -, -, -, h⟩ := h
    exact hk _ _ _ _ _ h hE
  · obtain ⟨-, x_, i_, a_, rest_, -, -, -, -, h⟩ := h
    have := hk _ _ _ _ _ h hE
    exact this
  · obtain ⟨-, ci_, -, hn, h⟩ := h
    obtain ⟨t1, t2, t3⟩ := hk _ _ _ _ _ h (by show E.1 + 1 ≤ 4000; omega)
    exact ⟨t1, t2.trans (nm hn), t3.trans (ne _ _ _ hn)⟩
  · obtain ⟨-, n_, kd_, rest_, -, -, -, -, hn, h⟩ := h
    obtain ⟨t1, t2, t3⟩ := hk _ _ _ _ _ h (by show E.1 + 1 ≤ 4000; omega)
    exact ⟨t1, t2.trans (nm hn), t3.trans (ne _ _ _ hn)⟩
  · obtain ⟨-, n_, kd_, rest_, -, -, -, -, hn, h⟩ := h
    obtain ⟨t1, t2, t3⟩ := hk _ _ _ _ _ h (by show E.1 + 1 ≤ 4000; omega)
    exact ⟨t1, t2.trans (nm hn), t3.trans (ne _ _ _ hn)⟩
  · obtain ⟨-, h⟩ := h
    rcases h with ⟨y, a, As, rest, r, E1, M1, -, -, -, -, -, -, hc, h⟩ | ⟨j, rest, -, -, -, -, h⟩ | ⟨j, i, rest, -, -, -, -, -, h⟩
    · obtain ⟨c1, c2, c3⟩ := hcal _ _ _ _ _ hc hE
      obtain ⟨d1, d2, d3⟩ := hk _ _ _ _ _ h c1
      exact ⟨d1, d2.trans c2, d3.trans c3⟩
    · exact hk _ _ _ _ _ h hE
    · exact hk _ _ _ _ _ h hE
  · obtain ⟨-, h⟩ := h
    rcases h with ⟨y, As, rest, r, E1, M1, -, -, -, -, hc, h⟩ | ⟨a, c, sp, dp, n, rest, -, -, -, hcE, -, -, -, -, -, -, -, -, h⟩
    · obtain ⟨c1, c2, c3⟩ := hcal _ _ _ _ _ hc hE
      obtain ⟨d1, d2, d3⟩ := hk _ _ _ _ _ h c1
      exact ⟨d1, d2.trans c2, d3.trans c3⟩
    · have := hk _ _ _ _ _ h hE
      rw [ri_ne (by omega)] at this
      exact this
  · obtain ⟨-, h⟩ := h
    rcases h with ⟨y, a, As, rest, r, E1, M1, -, -, -, -, hc, h⟩ | ⟨a, rest, -, -, -, h⟩
    · obtain ⟨c1, c2, c3⟩ := hcal _ _ _ _ _ hc hE
      obtain ⟨d1, d2, d3⟩ := hk _ _ _ _ _ h c1
      exact ⟨d1, d2.trans c2, d3.trans c3⟩
    · exact hk _ _ _ _ _ h hE
  · obtain ⟨-, v, -, -, rfl⟩ := h
    exact ⟨hE, rfl, rfl⟩
  · obtain ⟨-, v, -, -, rfl⟩ := h
    exact ⟨hE, rfl, rfl⟩
  · obtain ⟨-, -, -, rfl⟩ := h
    exact ⟨hE, rfl, rfl⟩
  · exact absurd h id
theorem pm_R_sc {cal : pm_C} {b : ByteArray} {o : Nat} {rt : Option FieldType} {fi : Bool} {res : pm_Z} (hcal : ∀ y as E M z, cal y as E M z → E.1 ≤ 4000 → z.2.1.1 ≤ 4000 ∧ z.2.2.1 4000 = M.1 4000 ∧ z.2.1.2.2.1 4000 = E.2.2.1 4000) : ∀ n pc ls st E M, pm_R cal b o rt fi n pc ls st E M res → E.1 ≤ 4000 → res.2.1.1 ≤ 4000 ∧ res.2.2.1 4000 = M.1 4000 ∧ res.2.1.2.2.1 4000 = E.2.2.1 4000 := by
  intro n
  induction n with
  | zero => intro pc ls st E M h _; exact absurd h id
  | succ n ih =>
    intro pc ls st E M h hE
    obtain ⟨i, len, -, h⟩ := h
    exact pm_I_sc hcal ih h hE
theorem pm_cal_sc : ∀ d y as E M z, pm_cal d y as E M z → E.1 ≤ 4000 → z.2.1.1 ≤ 4000 ∧ z.2.2.1 4000 = M.1 4000 ∧ z.2.1.2.2.1 4000 = E.2.2.1 4000 := by
  intro d
  induction d with
  | zero => intro y as E M z h _; exact absurd h id
  | succ d ih =>
    intro y as E M z h hE
    obtain ⟨-, -, n, h⟩ := h
    exact pm_R_sc ih n _ _ _ _ _ h hE
theorem cI_sc {d y : Nat} {as : List Value} {s : pm_S} {M : pm_M} {Q : Int32 → pm_S → pm_M → Prop} (h : cI d y as s M Q) : cI d y as s M (fun v s1 M1 => M1.1 4000 = M.1 4000 ∧ s1.1 = s.1 ∧ Q v s1 M1) := by
  obtain ⟨z, h1, v, h2, s1, e, hq⟩ := h
  obtain ⟨t1, t2, t3⟩ := pm_cal_sc _ _ _ _ _ _ h1 (by show 185 ≤ 4000; omega)
  rw [e] at t3
  exact ⟨z, h1, v, h2, s1, e, t2, congrArg Prod.snd t3, hq⟩
theorem cL_sc {d y : Nat} {as : List Value} {s : pm_S} {M : pm_M} {Q : Int64 → pm_S → pm_M → Prop} (h : cL d y as s M Q) : cL d y as s M (fun v s1 M1 => M1.1 4000 = M.1 4000 ∧ s1.1 = s.1 ∧ Q v s1 M1) := by
  obtain ⟨z, h1, v, h2, s1, e, hq⟩ := h
  obtain ⟨t1, t2, t3⟩ := pm_cal_sc _ _ _ _ _ _ h1 (by show 185 ≤ 4000; omega)
  rw [e] at t3
  exact ⟨z, h1, v, h2, s1, e, t2, congrArg Prod.snd t3, hq⟩
theorem cI_mo {d y : Nat} {as : List Value} {s : pm_S} {M : pm_M} {Q Q' : Int32 → pm_S → pm_M → Prop} (h : cI d y as s M Q) (hq : ∀ v s1 M1, Q v s1 M1 → Q' v s1 M1) : cI d y as s M Q' := by
  obtain ⟨z, h1, v, h2, s1, e, h3⟩ := h
  exact ⟨z, h1, v, h2, s1, e, hq _ _ _ h3⟩
theorem cL_mo {d y : Nat} {as : List Value} {s : pm_S} {M : pm_M} {Q Q' : Int64 → pm_S → pm_M → Prop} (h : cL d y as s M Q) (hq : ∀ v s1 M1, Q v s1 M1 → Q' v s1 M1) : cL d y as s M Q' := by
  obtain ⟨z, h1, v, h2, s1, e, h3⟩ := h
  exact ⟨z, h1, v, h2, s1, e, hq _ _ _ h3⟩
