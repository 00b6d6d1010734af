/-! a text, the reference -/
theorem sp_plain {d : Nat} {s : pm_S} {M : pm_M} {Q : pm_S → pm_M → Prop} (hd : 1 ≤ d) (hq : ∀ R : Nat → Int32, (∀ k, k < 1290 → R k = plG k) → Q s (pm_ri M 163 R)) : cV d yM_plain [.ref 163] s M Q := by
  obtain ⟨d, rfl⟩ : ∃ e, d = e + 1 := ⟨d - 1, by omega⟩
  refine enM_plain (a1n := 1290) ⟨by omega, sh_163⟩ ?_
  refine loop_up (L := fun i Mx => wM_plain d 2 [.ref 163, .int (nI i)] [] s Mx Q) (I := fun i Mx => ∃ R, Mx = pm_ri M 163 R ∧ ∀ k, k < i → R k = 0) (e := 1290) ?_ ?_ M ⟨M.1 163, ri_self.symm, fun k hk => by omega⟩
  · intro Mx hx
    obtain ⟨R, rfl, hR⟩ := hx
    refine sgM_plain_2 (a1n := 1290) ⟨by omega, sh_163⟩ (br_t (by decide) ⟨vpI (a := 1) (by omega) (by omega), ?_⟩)
    rw [ri_si]
    refine hq _ (fun k hk => ?_)
    by_cases e : k = 1
    · subst e; rw [row_eq]; rfl
    · rw [row_ne e, hR k hk, plG_0 e]
  · intro i Mx hi hx hk
    obtain ⟨R, rfl, hR⟩ := hx
    refine sgM_plain_2 (a1n := 1290) ⟨by omega, sh_163⟩ (br_f (by rw [lI 1290, nI_leP (by omega) (by omega)]; omega) ⟨vpI (by omega) (by omega), ?_⟩)
    rw [nI_clamp (by omega), nI_1, ri_si]
    refine hk _ ⟨_, rfl, fun k h => ?_⟩
    by_cases e : k = i
    · subst e; rw [row_eq]
    · rw [row_ne e]; exact hR k (by omega)
theorem fa_dead {B : Nat → Nat} {n k : Nat} {x : PS} (h : ∀ q, x ≠ .inr q) : faF B n k x = x := by
  cases x with
  | inl f => rfl
  | inr p => exact absurd rfl (h p)
theorem ki_dead {B : Nat → Nat} {n : Nat} {x : PS} (h : ∀ q, x ≠ .inr q) : kiF B n x = 131 := by
  cases x with
  | inl f => rfl
  | inr p => exact absurd rfl (h p)
/-- a fault that waits is told by the next line -/
theorem dl_M {d : Nat} {s : pm_S} {M0 M : pm_M} {B : Nat → Nat} {n a : Nat} {x : PS} {g : RW} {l0 l1 : LWD} {Q : pm_S → pm_M → Prop} (hd : 8 ≤ d) (h : sM B n M0 M x g a l0 l1) (hx : ∀ q, x ≠ .inr q) (h0 : M.1 159 11 = 0)
    (hq : ∀ M', sM B n M0 M' x g a l0 l1 → M'.1 159 11 ≠ 0 → Q s M') : cV d yM_readLine [.ref 159] s M (fun s1 M1 => cV d yM_ends [.ref 159] s1 M1 (fun s2 M2 => Q s2 M2)) := by
  obtain ⟨d, rfl⟩ : ∃ e, d = e + 1 := ⟨d - 1, by omega⟩
  have kd := ki_dead (B := B) (n := n) hx
  have fin : ∀ M1, sM B n M0 M1 x g a l0 l1 → cV (d + 1) yM_ends [.ref 159] s M1 (fun s2 M2 => Q s2 M2) := by
    intro M1 s1
    refine enM_ends (sp_eatsX (w := 59) (m := 30) (by omega) s1.2.1 (by decide) (by decide) (by decide) s1.2.2.1 (fun e => by rw [kd] at e; omega) (fun e => br_t rfl (sp_faR (k := 2) (by omega) s1 (by omega) (by omega) (fun R s2 nz => hq _ ?_ ?_))))
    · rw [fa_dead hx] at s2
      exact sM_put s2 (fM_si fM_rf) (si_ne (by decide)) (fun al _ => absurd al.choose_spec (hx _))
    · rw [si_ne (by decide), ri_eq]; exact nz
  refine enM_readLine (br_t h0 (sp_isX (w := 201) (m := 1) (by omega) h.2.1 (by decide) (by decide) (by decide) h.2.2.1 (fun c1 => by rw [kd] at c1; omega) (fun c1 => br_t rfl (sp_isX (w := 202) (m := 5) (by omega) h.2.1 (by decide) (by decide) (by decide) h.2.2.1 (fun c2 => by rw [kd] at c2; omega) (fun c2 => br_t rfl (sp_isX (w := 203) (m := 9) (by omega) h.2.1 (by decide) (by decide) (by decide) h.2.2.1 (fun c3 => by rw [kd] at c3; omega) (fun c3 => br_t rfl (sp_isX (w := 204) (m := 10) (by omega) h.2.1 (by decide) (by decide) (by decide) h.2.2.1 (fun c4 => by rw [kd] at c4; omega) (fun c4 => br_t rfl (sp_eatsX (w := 205) (m := 11) (by omega) h.2.1 (by decide) (by decide) (by decide) h.2.2.1 (fun c5 => by rw [kd] at c5; omega) (fun c5 => br_t rfl (sp_faR (k := 2) (by omega) h (by omega) (by omega) (fun R s1 _ => fin _ ?_)))))))))))))
  rw [fa_dead hx] at s1
  exact s1
theorem lnL_dead {B : Nat → Nat} {n f : Nat} {z : LSt} (h : kiF B n z.1 = 129 ∨ kiF B n z.1 = 131) : lnL B n f z = z := by
  cases f with
  | zero => rfl
  | succ f => unfold lnL; rw [if_pos h]
theorem ln_M {d : Nat} {s : pm_S} {M0 : pm_M} {B : Nat → Nat} {n : Nat} {Q : Int32 → pm_S → pm_M → Prop} (hd : 70 ≤ d) : ∀ f M z, (∀ p, z.1 = .inr p → n ≤ p + f) → rLn B n M0 M z → pV z → (∀ M', rLn B n M0 M' (lnL B n f z) → ((∀ q, (lnL B n f z).1 ≠ .inr q) → M'.1 159 11 ≠ 0) → wM_line d 110 [.ref 159, .null, .null] [] s M' Q) → wM_line d 83 [.ref 159, .null, .null] [] s M Q := by
  -- a fault
  have dead : ∀ f M z, (∀ q, z.1 ≠ .inr q) → rLn B n M0 M z → (∀ M', rLn B n M0 M' (lnL B n f z) → ((∀ q, (lnL B n f z).1 ≠ .inr q) → M'.1 159 11 ≠ 0) → wM_line d 110 [.ref 159, .null, .null] [] s M' Q) → wM_line d 83 [.ref 159, .null, .null] [] s M Q := by
    intro f M z hz hr hq
    rw [lnL_dead (Or.inr (ki_dead hz))] at hq
    obtain ⟨a, hs, hap⟩ := hr
    refine sgM_line_83 (br_c (fun z0 => ?_) (fun z0 => hq M ⟨a, hs, hap⟩ (fun _ => z0)))
    obtain ⟨e9, _⟩ := MAt_k (fun k hk => (hs.2.1.2 k hk).2) hs.2.2.1 z0
    rw [e9, ki_dead hz]
    refine br_f (by decide) (dl_M (by omega) hs hz z0 (fun M' s' nz => sgM_line_83 (br_f nz (hq M' ⟨a, s', hap⟩ (fun _ => nz)))))
  -- the end
  have done : ∀ f M z p, z.1 = .inr p → kiF B n z.1 = 129 → rLn B n M0 M z → (∀ M', rLn B n M0 M' (lnL B n f z) → ((∀ q, (lnL B n f z).1 ≠ .inr q) → M'.1 159 11 ≠ 0) → wM_line d 110 [.ref 159, .null, .null] [] s M' Q) → wM_line d 83 [.ref 159, .null, .null] [] s M Q := by
    intro f M z p ep hk hr hq
    rw [lnL_dead (Or.inl hk)] at hq
    obtain ⟨a, hs, hap⟩ := hr
    have z0 : M.1 159 11 = 0 := by have := hs.2.2.1; rw [ep] at this; exact MAt_0 this
    obtain ⟨e9, _⟩ := MAt_k (fun k hk => (hs.2.1.2 k hk).2) hs.2.2.1 z0
    refine sgM_line_83 (br_t z0 (br_t ?_ (hq M ⟨a, hs, hap⟩ (fun h => absurd ep (h p)))))
    rw [e9, hk]; decide
  intro f
  induction f with
  | zero =>
    intro M z hf hr hv hq
    rcases al_or (x := z.1) with ⟨p, ep⟩ | hz
    · have hk : kiF B n z.1 = 129 := by
        obtain ⟨a, hs, _⟩ := hr
        rw [ep, ki_end (by have := hf p ep; omega) (MAt_n hs.2.2.1 p ep)]
      exact done 0 M z p ep hk hr hq
    · exact dead 0 M z hz hr hq
  | succ f ih =>
    intro M z hf hr hv hq
    rcases al_or (x := z.1) with ⟨p, ep⟩ | hz
    · by_cases hk : kiF B n z.1 = 129
      · exact done (f + 1) M z p ep hk hr hq
      · have hr' := hr
        obtain ⟨a, hs, _⟩ := hr
        have z0 : M.1 159 11 = 0 := by have := hs.2.2.1; rw [ep] at this; exact MAt_0 this
        obtain ⟨e9, i9⟩ := MAt_k (fun k hk => (hs.2.1.2 k hk).2) hs.2.2.1 z0
        have k31 : kiF B n z.1 ≠ 131 := by have := hs.2.2.1; rw [ep] at this ⊢; exact this.2.2.1
        have lk := rk_le _ i9
        unfold lnL at hq
        rw [if_neg (by omega)] at hq
        refine sgM_line_83 (br_t z0 (br_f ?_ (li_M hd hr' hv ep hk (fun M' r' ad => ih M' _ (fun q eq => ?_) r' (li_V hv ⟨p, ep⟩) hq))))
        · rw [e9, lI 24, nI_inj (by omega) (by omega)]
          exact fun e => hk (rk_inj _ i9 129 (by decide) (by rw [e]; decide))
        · have := ad q eq
          have := hf p ep
          omega
    · exact dead (f + 1) M z hz hr hq
theorem tx_M {d : Nat} {s : pm_S} {M : pm_M} {B : Nat → Nat} {n m : Nat} {Q : Int32 → pm_S → pm_M → Prop} (hd : 71 ≤ d) (hm : m ≤ 900) (hn : n ≤ m) (h1 : M.1 159 5 = nI m) (hB : ∀ k, k < n → M.1 162 k = nI (B k) ∧ B k < 256)
    (hq : ∀ M', rLn B n (pm_si (pm_si (pm_si M 159 0 0) 159 8 (nI n)) 159 5 0) M' (txF B n) → ((∀ q, (txF B n).1 ≠ .inr q) → M'.1 159 11 ≠ 0) → wM_line (d - 1) 110 [.ref 159, .null, .null] [] s M' Q) : cI d yM_line [.ref 159, .int (nI n)] s M Q := by
  obtain ⟨d, rfl⟩ : ∃ e, d = e + 1 := ⟨d - 1, by omega⟩
  rw [Nat.add_sub_cancel] at hq
  refine enM_line ?_
  rw [h1]
  refine sp_within2 (by omega) (fun _ => br_f (by decide) ?_) (fun h => absurd ?_ h)
  rotate_left
  · have e0 : (0 : Int64) = (nI 0).toInt64 := by decide
    rw [e0, le64, le64, nI_leP (by omega) (by omega), nI_leP (by omega) (by omega)]
    omega
  have ra : ∀ k, (pm_si (pm_si (pm_si (pm_si (pm_si M 159 0 0) 159 8 (nI n)) 159 5 0) 159 7 0) 159 11 0).1 159 k = pm_row (pm_row ((pm_si (pm_si (pm_si M 159 0 0) 159 8 (nI n)) 159 5 0).1 159) 7 0) 11 0 k := fun k => by rw [si_eq, si_eq]
  have rc : ∀ c, c ≠ 159 → (pm_si (pm_si (pm_si (pm_si (pm_si M 159 0 0) 159 8 (nI n)) 159 5 0) 159 7 0) 159 11 0).1 c = (pm_si (pm_si (pm_si M 159 0 0) 159 8 (nI n)) 159 5 0).1 c := fun c hc => by rw [si_ne hc, si_ne hc]
  have r2 : (pm_si (pm_si (pm_si (pm_si (pm_si M 159 0 0) 159 8 (nI n)) 159 5 0) 159 7 0) 159 11 0).2 = (pm_si (pm_si (pm_si M 159 0 0) 159 8 (nI n)) 159 5 0).2 := rfl
  have b8 : (pm_si (pm_si (pm_si M 159 0 0) 159 8 (nI n)) 159 5 0).1 159 8 = nI n := by rw [si_eq, row_ne (by decide), si_eq, row_eq]
  have b162 : (pm_si (pm_si (pm_si M 159 0 0) 159 8 (nI n)) 159 5 0).1 162 = M.1 162 := by rw [si_ne (by decide), si_ne (by decide), si_ne (by decide)]
  generalize pm_si (pm_si (pm_si (pm_si (pm_si M 159 0 0) 159 8 (nI n)) 159 5 0) 159 7 0) 159 11 0 = Mb at ra rc r2
  generalize pm_si (pm_si (pm_si M 159 0 0) 159 8 (nI n)) 159 5 0 = M0 at ra rc r2 b8 b162 hq
  refine sp_plain (by omega) (fun R0 hR0 => ?_)
  have c8 : (pm_ri Mb 163 R0).1 159 8 = nI n := by rw [ri_ne (by decide), ra, row_ne (by decide), row_ne (by decide), b8]
  have c7 : (pm_ri Mb 163 R0).1 159 7 = nI 0 := by rw [ri_ne (by decide), ra, row_ne (by decide), row_eq]; rfl
  have c11 : (pm_ri Mb 163 R0).1 159 11 = 0 := by rw [ri_ne (by decide), ra, row_eq]
  have c162 : ∀ k, k < n → (pm_ri Mb 163 R0).1 162 k = nI (B k) ∧ B k < 256 := fun k hk => by rw [ri_ne (by decide), rc 162 (by decide), b162]; exact hB k hk
  have cf : fM M0 (pm_ri Mb 163 R0) := ⟨fun c h1 h2 => by rw [ri_ne h2, rc c h1], by show Mb.2 = _; rw [r2], fun k _ k7 _ _ k11 _ _ => by rw [ri_ne (by decide), ra, row_ne k11, row_ne k7]⟩
  have cr : (pm_ri Mb 163 R0).1 163 = R0 := ri_eq
  generalize pm_ri Mb 163 R0 = Mc at c8 c7 c11 c162 cf cr
  refine sp_next (p := 0) (by omega) (by omega) (by omega) c162 c8 c7 (fun R1 hR => ?_)
  have hm1 : mdK (Mc.1 159) R1 := fun k k6 k7 k9 k10 _ _ => hR.1 k k6 k7 k9 k10
  have s1 : sM B n M0 (pm_ri Mc 159 R1) (psF B n 0) plG 0 none none := by
    refine ⟨fM_md cf hm1, ⟨by omega, fun k hk => by rw [ri_ne (by decide)]; exact c162 k hk⟩, by rw [ri_eq]; exact MAt_st (by omega) (fun k hk => (c162 k hk).2) c8 c11 hR, fun p _ => ⟨fun k h1 h2 => ?_, ?_, by omega, ⟨?_, ?_, ?_⟩, ?_, ?_, ?_⟩⟩
    · rw [ri_ne (by decide), cr, hR0 k (by omega)]
    · rw [ri_ne (by decide), cr, hR0 389 (by omega)]; rfl
    · rw [ri_ne (by decide), cr, hR0 _ (by omega)]; rfl
    · rw [ri_ne (by decide), cr, hR0 _ (by omega)]; rfl
    · rw [ri_ne (by decide), cr, hR0 _ (by omega)]; rfl
    · rw [ri_ne (by decide), cr, hR0 _ (by omega)]; rfl
    · rw [ri_ne (by decide), cr, hR0 _ (by omega)]; rfl
    · rw [ri_ne (by decide), cr, hR0 _ (by omega)]; rfl
  generalize pm_ri Mc 159 R1 = Md at s1
  refine sp_efR (w := 200) (m := 0) (K := fun s7 M7 => cI d yM_takesN [.ref 159, .int 2, .int 8] s7 M7 (fun r4 s8 M8 => cV d yM_ends [.ref 159] s8 (pm_si M8 163 1 r4) (fun s9 M9 => wM_line d 83 [.ref 159, .null, .null] [] s9 M9 Q))) (by omega) s1 (by decide) (by decide) (by decide) (fun R2 s2 => ?_)
  refine sp_taR (lo := 2) (hi := 8) (by omega) s2 (by omega) (by omega) (fun R3 r s3 e3 _ => ?_)
  have s4 : sM B n M0 (pm_si (pm_ri (pm_ri Md 159 R2) 159 R3) 163 1 r) (nuF B n 2 8 (exF B n 200 (psF B n 0))) (pm_row plG 1 (nI (hdN B n))) 0 none none :=
    sM_put s3 (fM_si fM_rf) (si_ne (by decide)) (fun al t => by
      obtain ⟨p, ep⟩ := al
      exact TM_row t (by omega) (e3 p ep).1)
  refine en_M (by omega) s4 (fun M' s5 => ?_)
  refine ln_M (by omega) 900 M' (hdZ B n) (fun p _ => by omega) ⟨0, ?_, fun p _ => by omega⟩ hdZ_V hq
  have eg : (hdZ B n).2.1 = pm_row (pm_row plG 1 (nI (hdN B n))) 0 (0 + 1) := rfl
  rw [eg]
  have e0 : pm_row plG 1 (nI (hdN B n)) 0 = 0 := by rw [row_ne (by decide)]; rfl
  rw [e0] at s5
  exact s5
