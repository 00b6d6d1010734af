def bO (g : Nat → Int32) (p t k : Nat) : Nat := bnF g p t 0 k
theorem bO_le {g : Nat → Int32} {p t k : Nat} : bO g p t k ≤ 99 := (bnF_k g p t 0 k).2
/-- what the opener keeps in mind is so -/
def ON (M : pm_M) (g : Nat → Int32) (T p B : Nat) : Prop := M.1 58 7 = nI p ∧ M.1 58 6 = g (66 + p) ∧ M.1 58 8 = nI B ∧ (∀ k, k ≤ B → ∀ r, r < 256 → nbI (M.1 60 (32 * k + r / 8)) (r % 8) = 0 ∨ (r < 2 ^ T ∧ nbI (M.1 60 (32 * k + r / 8)) (r % 8) = nI (fd (bO g p) B r k + 1))) ∧ ∀ t, t < T → ∀ k, k < 100 → M.1 61 (100 * t + k) = -1 ∨ M.1 61 (100 * t + k) = nI (bO g p t k)
theorem ON_off {S : List Nat} {M M' : pm_M} {g : Nat → Int32} {T p B : Nat} (h : off S M M') (h58 : 58 ∉ S) (h60 : 60 ∉ S) (h61 : 61 ∉ S) (hO : ON M g T p B) : ON M' g T p B := by
  unfold ON at hO ⊢
  rw [(h 58 h58).1, (h 60 h60).1, (h 61 h61).1]; exact hO
theorem sp_burdenAt {d : Nat} {s : pm_S} {M : pm_M} {g : Nat → Int32} {N T P p B t k : Nat} {Q : Int32 → pm_S → pm_M → Prop} (hd : 4 ≤ d) (hs : s.2.2.2.1 = some 15) (hl : LR M 15 g T P) (hV : Vd g N T P) (hp : p < P) (hO : ON M g T p B) (ht : t < T) (hk : k < 100) (hq : ∀ M', ON M' g T p B → off [25, 26, 61] M M' → Q (nI (bO g p t k)) s M') : cI d yN_burdenAt [.ref 58, .int (nI t), .int (nI k)] s M Q := by
  obtain ⟨d, rfl⟩ : ∃ e, d = e + 1 := ⟨d - 1, by omega⟩
  have h8 := hV.2.2.2.2.2.1
  have hO2 := hO
  obtain ⟨o1, o2, o3, o4, o5⟩ := hO
  have v8 : vp_in (nI (100 * t + k)) 800 := vpI (by omega) (by omega)
  have em : t * 100 + k = 100 * t + k := by omega
  refine enN_burdenAt (br_f (nI_pos (by omega)) (br_f (by rw [lI 8, nI_leP (by omega) (by omega)]; omega) (br_f (nI_pos (by omega)) (br_f (by rw [lI 100, nI_leP (by omega) (by omega)]; omega) ⟨hs, ?_⟩))))
  rw [lI 100, pk_mul, nI_add, nI_clamp (by omega), em, o1, o2]
  refine ⟨v8, br_c (fun z => ⟨hs, ?_⟩) (fun z => ⟨v8, ?_⟩)⟩
  · have hw := (hV.2.2.2.2.2.2.2.2.1 t ht).2
    refine sp_cburden (by omega) hl hV.2.1 h8 hw ht (fun M1 c1 => ?_)
    rw [(bnF_k g p t 0 k).1, si_eq, row_eq]
    refine ⟨v8, v8, hq _ ?_ (off_si (off_mo c1 (by decide)) (by decide))⟩
    refine ⟨by rw [si_ne (by decide), (c1 58 (by decide)).1]; exact o1, by rw [si_ne (by decide), (c1 58 (by decide)).1]; exact o2, by rw [si_ne (by decide), (c1 58 (by decide)).1]; exact o3, fun k' hk' r hr => by rw [si_ne (by decide), (c1 60 (by decide)).1]; exact o4 k' hk' r hr, fun t' ht' k' hk' => ?_⟩
    rw [si_eq]
    by_cases e : 100 * t' + k' = 100 * t + k
    · have e1 : t' = t := by omega
      have e2 : k' = k := by omega
      subst e1
      subst e2
      rw [row_eq]; exact Or.inr rfl
    · rw [row_ne e, (c1 61 (by decide)).1]; exact o5 t' ht' k' hk'
  · have := hq M hO2 off_rf
    rcases o5 t ht k hk with y | y
    · exact absurd y z
    · rw [y]; exact this
theorem fd_pow {g : Nat → Int32} {T r t : Nat} (hr : r < 2 ^ T) : r - 2 ^ t < 2 ^ T := Nat.lt_of_le_of_lt (Nat.sub_le _ _) hr
theorem sp_further {s : pm_S} {g : Nat → Int32} {N T P p B : Nat} (hs : s.2.2.2.1 = some 15) (hV : Vd g N T P) (hp : p < P) (hB : B ≤ 99) : ∀ m r k dp d M (Q : Int32 → pm_S → pm_M → Prop), m = 2 * pcN r + (if k = 0 then 0 else 1) → r < 2 ^ T → k ≤ B → dp + m ≤ 18 → m + 6 ≤ d → LR M 15 g T P → ON M g T p B → (∀ M', ON M' g T p B → off [25, 26, 60, 61] M M' → Q (nI (fd (bO g p) B r k)) s M') → cI d yN_furtherDays [.ref 58, .int (nI r), .int (nI k), .int (nI dp)] s M Q := by
  have h8 := hV.2.2.2.2.2.1
  have h256 := pow_le8 h8
  intro m
  induction m using Nat.strongRecOn with
  | ind m ih =>
  intro r k dp d M Q hm hr hk hdp hd hl hO hq
  obtain ⟨d, rfl⟩ : ∃ e, d = e + 1 := ⟨d - 1, by omega⟩
  have hr256 : r < 256 := by omega
  by_cases r0 : r = 0
  · subst r0
    exact enN_furtherDays (br_t (by decide) (hq M hO off_rf))
  have pc1 : pcN r ≠ 0 := fun z => r0 ((pc0 hr256).mp z)
  obtain ⟨q1, q2⟩ := r8 r hr256
  have hplace : nI k * 32 + nI r >>> ((3 : Int32) &&& 31) = nI (32 * k + r / 8) := by
    rw [q1, lI 32, pk_mul, nI_add]
    congr 1; omega
  have vp : vp_in (nI (32 * k + r / 8)) 3200 := vpI (by omega) (by omega)
  have e58 := hO.2.2.1
  refine enN_furtherDays (br_f (by rw [l0, nI_leP (by omega) (by omega)]; omega) (br_t (by rw [lI 256, nI_ltP (by omega) (by omega)]; omega) (br_f (nI_pos (by omega)) (br_f (by rw [e58, nI_ltP (by omega) (by omega)]; omega) (br_t (by rw [lI 18, nI_leP (by omega) (by omega)]; omega) ?_)))))
  rw [hplace, nI_clamp (by omega), q2]
  have fin14 := fd_le (b := bO g p) (B := B) (k := k) hr256
  -- the loop over things
  have loop : ∀ M1, off [25, 26, 60, 61] M M1 → ON M1 g T p B → wN_furtherDays d 107 [.ref 58, .int (nI r), .int (nI k), .int (nI dp), .int (nI (32 * k + r / 8)), .int (nI (4 * (r % 8))), .null, .int (nI (if k = 0 then 14 else min 14 (1 + fd (bO g p) B r 0))), .int 0, .null] [] s M1 Q := by
    intro M1 o1 hO1
    have fin : ∀ M2 x, off [25, 26, 60, 61] M M2 → ON M2 g T p B → x = fd (bO g p) B r k → vp_in (nI (32 * k + r / 8)) 3200 ∧ vp_in (nI (32 * k + r / 8)) 3200 ∧ Q (nI x) s (pm_si M2 60 (nI (32 * k + r / 8)).toNatClampNeg (M2.1 60 (nI (32 * k + r / 8)).toNatClampNeg ||| (nI x + 1) <<< (nI (4 * (r % 8)) &&& 31))) := by
      intro M2 x o2 hO2 ex
      subst ex
      rw [nI_clamp (by omega), nI_1]
      refine ⟨vp, vp, hq _ ?_ (off_si o2 (by decide))⟩
      obtain ⟨p1, p2, p3, p4, p5⟩ := hO2
      refine ⟨by rw [si_ne (by decide)]; exact p1, by rw [si_ne (by decide)]; exact p2, by rw [si_ne (by decide)]; exact p3, fun k' hk' r' hr' => ?_, fun t ht k' hk' => by rw [si_ne (by decide)]; exact p5 t ht k' hk'⟩
      rw [si_eq]
      by_cases e : 32 * k' + r' / 8 = 32 * k + r / 8
      · have ek : k' = k := by omega
        have e8 : r' / 8 = r / 8 := by omega
        rw [e, row_eq, nbI_or, nb_sh (r % 8) (by omega) (r' % 8) (by omega) _ (by omega)]
        by_cases e2 : r' % 8 = r % 8
        · have er : r' = r := by omega
          subst er
          subst ek
          rw [if_pos rfl]
          right
          refine ⟨hr, ?_⟩
          have no := nb_or (fd (bO g p) B r' k' + 1) (by omega)
          rcases p4 k' hk' r' hr' with z | ⟨_, z⟩
          · rw [z]; exact no.2
          · rw [z]; exact no.1
        · rw [if_neg e2, or_zero, ← e]
          exact p4 k' hk' r' hr'
      · rw [row_ne e]; exact p4 k' hk' r' hr'
    have eqk := (fd_eq (b := bO g p) (B := B) hr256 r0 (k := k)).1
    refine loop_mem (L := fun i (x : Nat) M2 => wN_furtherDays d 107 [.ref 58, .int (nI r), .int (nI k), .int (nI dp), .int (nI (32 * k + r / 8)), .int (nI (4 * (r % 8))), .null, .int (nI x), .int (nI i), .null] [] s M2 Q) (I := fun _ M2 => off [25, 26, 60, 61] M M2 ∧ ON M2 g T p B) (f := fdS (bO g p) B (fd (bO g p) B) r k) (e := 8) (a0 := if k = 0 then 14 else min 14 (1 + fd (bO g p) B r 0)) ?_ ?_ M1 ⟨o1, hO1⟩
    · rintro M2 ⟨o2, hO2⟩
      exact sgN_furtherDays_107 (br_t (by decide) (fin M2 _ o2 hO2 eqk.symm))
    · rintro t M2 ht ⟨o2, hO2⟩ hk2
      have le14 : itr (fdS (bO g p) B (fd (bO g p) B) r k) t (if k = 0 then 14 else min 14 (1 + fd (bO g p) B r 0)) ≤ 14 := by
        refine Nat.le_trans fdI_le ?_
        split <;> omega
      have z0 : itr (fdS (bO g p) B (fd (bO g p) B) r k) t (if k = 0 then 14 else min 14 (1 + fd (bO g p) B r 0)) = 0 → fd (bO g p) B r k = 0 := by
        intro z
        have mono : ∀ j, t ≤ j → itr (fdS (bO g p) B (fd (bO g p) B) r k) j (if k = 0 then 14 else min 14 (1 + fd (bO g p) B r 0)) = 0 := by
          intro j hj
          induction j with
          | zero => rw [show t = 0 by omega] at z; exact z
          | succ j ihj =>
            by_cases e : t = j + 1
            · rw [← e]; exact z
            · rw [itr_s, ihj (by omega)]
              unfold fdS
              split <;> omega
        rw [eqk]
        exact mono 8 (by omega)
      generalize itr (fdS (bO g p) B (fd (bO g p) B) r k) t (if k = 0 then 14 else min 14 (1 + fd (bO g p) B r 0)) = x at hk2 le14 z0 ⊢
      refine sgN_furtherDays_107 (br_f (by rw [lI 8, nI_leP (by omega) (by omega)]; omega) (br_c (fun z => ?_) (fun z => ?_)))
      · rw [l0, nI_leP (by omega) (by omega)] at z
        have x0 : x = 0 := by omega
        exact fin M2 x o2 hO2 (by rw [x0, z0 x0])
      rw [bitI (by omega) (by omega), nI_1]
      have hl2 : LR M2 15 g T P := LR_off o2 hl (by decide)
      unfold fdS at hk2
      refine br_c (fun cb => ?_) (fun cb => ?_)
      · have tT := bt_pow hr cb
        obtain ⟨x1, _, _, x4⟩ := rm_k t ht r hr256 cb
        have bl := bO_le (g := g) (p := p) (t := t) (k := k)
        refine sp_burdenAt (P := P) (by omega) hs hl2 hV hp hO2 tT (by omega) (fun M3 hO3 o3 => ?_)
        have o23 := off_tr o2 (off_mo o3 (by decide : ∀ c, c ∈ [25, 26, 61] → c ∈ [25, 26, 60, 61]))
        rw [hO3.2.2.1, nI_add, nI_ltP (by omega) (by omega)]
        refine br_c (fun z2 => ?_) (fun z2 => ?_)
        · rw [if_neg (by omega)] at hk2
          exact hk2 M3 ⟨o23, hO3⟩
        · rw [if_pos ⟨cb, by omega⟩] at hk2
          rw [x1, nI_1]
          refine ih (2 * pcN (r - 2 ^ t) + (if k + bO g p t k = 0 then 0 else 1)) (by split <;> split at hm <;> omega) (r - 2 ^ t) (k + bO g p t k) (dp + 1) d M3 _ rfl (fd_pow (g := g) hr) (by omega) (by split <;> split at hm <;> omega) (by split <;> split at hm <;> omega) (LR_off o23 hl (by decide)) hO3 (fun M4 hO4 o4 => sp_min (by omega) ?_)
          have l4 := fd_le (b := bO g p) (B := B) (r := r - 2 ^ t) (k := k + bO g p t k) (Nat.lt_of_le_of_lt (Nat.sub_le _ _) hr256)
          have em : (if nI (fd (bO g p) B (r - 2 ^ t) (k + bO g p t k)) < nI x then nI (fd (bO g p) B (r - 2 ^ t) (k + bO g p t k)) else nI x) = nI (min x (fd (bO g p) B (r - 2 ^ t) (k + bO g p t k))) := by
            by_cases y : fd (bO g p) B (r - 2 ^ t) (k + bO g p t k) < x
            · rw [if_pos (by rw [nI_ltP (by omega) (by omega)]; exact y), Nat.min_eq_right (by omega)]
            · rw [if_neg (by rw [nI_ltP (by omega) (by omega)]; exact y), Nat.min_eq_left (by omega)]
          rw [em]
          exact hk2 M4 ⟨off_tr o23 o4, hO4⟩
      · rw [if_neg (fun q => cb q.1)] at hk2
        exact hk2 M2 ⟨o2, hO2⟩
  refine ⟨vp, fun v ev => ?_⟩
  have ev' : v = nbI (M.1 60 (32 * k + r / 8)) (r % 8) := ev
  refine br_c (fun z => ?_) (fun z => ?_)
  · rw [l0, nI_leP (by omega) (by omega)]
    refine br_c (fun k0 => ?_) (fun k0 => ?_)
    · have := loop M off_rf hO
      rw [if_pos (show k = 0 by omega)] at this
      exact this
    · rw [nI_1]
      refine ih (2 * pcN r + (if 0 = 0 then 0 else 1)) (by rw [if_pos rfl]; rw [if_neg (by omega)] at hm; omega) r 0 (dp + 1) d M _ rfl hr (by omega) (by rw [if_pos rfl]; rw [if_neg (by omega)] at hm; omega) (by rw [if_pos rfl]; rw [if_neg (by omega)] at hm; omega) hl hO (fun M1 hO1 o1 => sp_min (by omega) ?_)
      have l0' := (fd_le (b := bO g p) (B := B) (r := r) (k := 0) hr256).1
      have := loop M1 o1 hO1
      rw [if_neg (show ¬ k = 0 by omega)] at this
      rw [l1, nI_add, lI 14]
      have em : (if nI (1 + fd (bO g p) B r 0) < nI 14 then nI (1 + fd (bO g p) B r 0) else nI 14) = nI (min 14 (1 + fd (bO g p) B r 0)) := by
        by_cases y : 1 + fd (bO g p) B r 0 < 14
        · rw [if_pos (by rw [nI_ltP (by omega) (by omega)]; exact y), Nat.min_eq_right (by omega)]
        · rw [if_neg (by rw [nI_ltP (by omega) (by omega)]; exact y), Nat.min_eq_left (by omega)]
      rw [em]
      exact this
  · rw [ev'] at z ⊢
    rcases hO.2.2.2.1 k hk r hr256 with y | ⟨_, y⟩
    · exact absurd y z
    · rw [y, l1, pk_sub (by omega), Nat.add_sub_cancel]
      exact hq M hO off_rf
