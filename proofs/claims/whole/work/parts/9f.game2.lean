theorem par_k : ∀ k, k < 9 → ((nI k &&& 1 = 0) ↔ k % 2 = 0) := by decide +kernel
theorem xor_lt {a b : Nat} (ha : a < 256) (hb : b < 256) : a ^^^ b < 256 := Nat.xor_lt_two_pow (n := 8) ha hb
theorem sp_bestTurn {d : Nat} {s : pm_S} {M : pm_M} {g tab : Nat → Int32} {T P w r : Nat} {sd : Int32} {Q : Int32 → pm_S → pm_M → Prop} (hd : 2 ≤ d) (hK : KR M g T P) (h8 : T ≤ 8) (h6 : P ≤ 6) (hw : w < P) (hr : r < 2 ^ T) (hM : ∀ t, t < 8 → bt r t = true → M.1 53 (r - 2 ^ t) = tab (r - 2 ^ t)) (hq : Q (sd * itr (mxS (gvC (clF g) w sd tab r)) 8 (-99000003)) s M) : cI d yH_bestTurn [.ref 52, .ref 41, .int (nI w), .int sd, .int (nI r)] s M Q := by
  obtain ⟨d, rfl⟩ : ∃ e, d = e + 1 := ⟨d - 1, by omega⟩
  have h256 := pow_le8 h8
  refine enH_bestTurn ?_
  refine loop_itr (L := fun i (b : Int32) => wH_bestTurn d 7 [.ref 52, .ref 41, .int (nI w), .int sd, .int (nI r), .int b, .int (nI i)] [] s M Q) (f := mxS (gvC (clF g) w sd tab r)) (e := 8) (a0 := -99000003) ?_ ?_
  · exact sgH_bestTurn_7 (br_t (by decide) hq)
  · intro t ht hk
    generalize itr (mxS (gvC (clF g) w sd tab r)) t (-99000003) = b at hk ⊢
    refine sgH_bestTurn_7 (br_f (by rw [lI 8, nI_leP (by omega) (by omega)]; omega) ?_)
    rw [bitI (by omega) (by omega), nI_1]
    unfold mxS gvC at hk
    refine br_c (fun c => ?_) (fun c => ?_)
    · rw [if_pos c] at hk
      obtain ⟨e1, _, e3, _⟩ := rm_k t ht r (by omega) c
      have hl := Nat.sub_le r (2 ^ t)
      refine sp_of (by omega) hK h8 h6 hw (bt_pow hr c) ?_
      rw [e1, nI_clamp (by omega), hM t ht c]
      refine ⟨vpI (by omega) (by omega), sp_max (by omega) ?_⟩
      dsimp only at hk
      by_cases z : clF g w t + sd * tab (r - 2 ^ t) ≤ b
      · rw [if_pos z] at hk; rw [if_neg (i_nlt z)]; exact hk
      · rw [if_neg z] at hk; rw [if_pos (i_lt z)]; exact hk
    · rw [if_neg c] at hk; exact hk
theorem bdL_of {g : Nat → Int32} {N T P w r : Nat} (hV : Vd g N T P) (hv : Vs g N T P) (hw : w < P) (hr : r < 2 ^ T) : bdL (clF g) w r := fun t _ hb => clF_bd hV hv hw (bt_pow hr hb)
/-- the table is bounded -/
theorem gmT_bd {g : Nat → Int32} {N T P p q S : Nat} (hV : Vd g N T P) (hv : Vs g N T P) (hp : p < P) (hq : q < P) (hS : S < 2 ^ T) : ∀ n, n ≤ S + 1 → ∀ r, r < n → sbN r S = true → -(1000000 * (pcN r : Int)) ≤ (gmT (clF g) p q S n r).toInt ∧ (gmT (clF g) p q S n r).toInt ≤ 1000000 * (pcN r : Int) := by
  have h8 := hV.2.2.2.2.2.1
  have h256 := pow_le8 h8
  intro n
  induction n with
  | zero => intro _ r h; omega
  | succ n ih =>
    intro hn r hr hs
    have ih := ih (by omega)
    by_cases e : r = n
    · subst e
      have eq : gmT (clF g) p q S (r + 1) = if ¬ r = 0 ∧ sbN r S = true then pm_row (gmT (clF g) p q S r) r (gvR (clF g) p q (gmT (clF g) p q S r) S r) else gmT (clF g) p q S r := rfl
      by_cases z : r = 0
      · subst z
        rw [eq, if_neg (by simp)]
        have e0 : gmT (clF g) p q S 0 0 = 0 := rfl
        rw [e0]
        decide
      · rw [eq, if_pos ⟨z, hs⟩, row_eq]
        have bT : bdT (gmT (clF g) p q S r) r := by
          intro t ht hb
          have := Nat.two_pow_pos t
          exact ih (r - 2 ^ t) (by omega) (sb_rm (by omega) (by omega) ht hs hb)
        cases f : fiB S r with
        | true => exact (gv_1 (q := q) z (by omega) bT (bdL_of hV hv hp (by omega)) f).2
        | false => exact (gv_2 (p := p) z (by omega) bT (bdL_of hV hv hq (by omega)) f).2
    · rw [gmT_s (by omega)]
      exact ih r (by omega) hs
theorem sp_playOut {d : Nat} {s : pm_S} {M : pm_M} {g : Nat → Int32} {N T P p q S : Nat} {Q : pm_S → pm_M → Prop} (hd : 3 ≤ d) (hV : Vd g N T P) (hv : Vs g N T P) (hK : KR M g T P) (hp : p < P) (hq' : q < P) (hS : S < 2 ^ T) (hq : ∀ M', (∀ r, r ≤ S → sbN r S = true → M'.1 53 r = gmT (clF g) p q S (S + 1) r) → off [53] M M' → Q s M') : cV d yH_playOut [.ref 52, .ref 41, .int (nI p), .int (nI q), .int (nI S)] s M Q := by
  obtain ⟨d, rfl⟩ : ∃ e, d = e + 1 := ⟨d - 1, by omega⟩
  have h8 := hV.2.2.2.2.2.1
  have h6 := hV.2.2.2.2.2.2.1
  have h256 := pow_le8 h8
  refine enH_playOut ?_
  refine loop_up (L := fun i M1 => wH_playOut d 10 [.ref 52, .ref 41, .int (nI p), .int (nI q), .int (nI S), .int (nI (i + 1)), .null] [] s M1 Q) (I := fun i M1 => (∀ r, r < i + 1 → sbN r S = true → M1.1 53 r = gmT (clF g) p q S (i + 1) r) ∧ off [53] M M1) (e := S) ?_ ?_ _ ⟨fun r hr _ => ?_, off_si off_rf (by decide)⟩
  · rintro M1 ⟨b1, b2⟩
    exact sgH_playOut_10 (br_t (by rw [nI_ltP (by omega) (by omega)]; omega) (hq M1 (fun r hr hs => b1 r (by omega) hs) b2))
  · rintro i M1 hi ⟨b1, b2⟩ hk
    have hr : i + 1 < 256 := by omega
    refine sgH_playOut_10 (br_f (by rw [nI_ltP (by omega) (by omega)]; omega) (br_f (by rw [lI 256, nI_leP (by omega) (by omega)]; omega) ?_))
    rw [sub0 hr (by omega), nI_1]
    have eq : gmT (clF g) p q S (i + 1 + 1) = if ¬ i + 1 = 0 ∧ sbN (i + 1) S = true then pm_row (gmT (clF g) p q S (i + 1)) (i + 1) (gvR (clF g) p q (gmT (clF g) p q S (i + 1)) S (i + 1)) else gmT (clF g) p q S (i + 1) := rfl
    refine br_c (fun c => ?_) (fun c => ?_)
    · have xl := xor_lt (a := S) (b := i + 1) (by omega) hr
      obtain ⟨pc1, pc2⟩ := pc_k _ xl
      rw [xor_k]
      refine sp_bitCount (by omega) (by omega) ?_
      rw [pc1]
      have bT : bdT (gmT (clF g) p q S (i + 1)) (i + 1) := by
        intro t ht hb
        have := Nat.two_pow_pos t
        exact gmT_bd hV hv hp hq' hS (i + 1) (by omega) (i + 1 - 2 ^ t) (by omega) (sb_rm hr (by omega) ht c hb)
      have mem : ∀ t, t < 8 → bt (i + 1) t = true → M1.1 53 (i + 1 - 2 ^ t) = gmT (clF g) p q S (i + 1) (i + 1 - 2 ^ t) := by
        intro t ht hb
        have := Nat.two_pow_pos t
        exact b1 _ (by omega) (sb_rm hr (by omega) ht c hb)
      have fin : ∀ M2 (v : Int32), v = gvR (clF g) p q (gmT (clF g) p q S (i + 1)) S (i + 1) → M2 = M1 → wH_playOut d 10 [.ref 52, .ref 41, .int (nI p), .int (nI q), .int (nI S), .int (nI (i + 1 + 1)), .null] [] s (pm_si M2 53 (i + 1) v) Q := by
        intro M2 v ev e2
        subst e2
        refine hk _ ⟨fun r hr' hs => ?_, off_si b2 (by decide)⟩
        rw [si_eq, eq, if_pos ⟨by omega, c⟩, ev]
        by_cases z : r = i + 1
        · subst z; rw [row_eq, row_eq]
        · rw [row_ne z, row_ne z]; exact b1 r (by omega) hs
      have pk := par_k (pcN (S ^^^ (i + 1))) (by omega)
      cases f : fiB S (i + 1) with
      | true =>
        have pz : nI (pcN (S ^^^ (i + 1))) &&& 1 = 0 := pk.mpr (by unfold fiB at f; simpa using f)
        rw [if_pos pz, if_neg (by decide)]
        refine sgH_playOut_73 ?_
        rw [if_neg (by decide)]
        refine sp_bestTurn (tab := gmT (clF g) p q S (i + 1)) (by omega) (KR_off b2 (by decide) hK) h8 h6 hp (by omega) mem ?_
        rw [nI_clamp (by omega), nI_1]
        exact ⟨vpI (by omega) (by omega), fin M1 _ (gv_1 (q := q) (by omega) hr bT (bdL_of hV hv hp (by omega)) f).1 rfl⟩
      | false =>
        have pz : ¬ nI (pcN (S ^^^ (i + 1))) &&& 1 = 0 := fun z => by
          have := pk.mp z
          unfold fiB at f
          simp [this] at f
        rw [if_neg pz, if_pos rfl]
        refine sgH_playOut_73 ?_
        rw [if_pos rfl]
        refine sp_bestTurn (tab := gmT (clF g) p q S (i + 1)) (by omega) (KR_off b2 (by decide) hK) h8 h6 hq' (by omega) mem ?_
        rw [nI_clamp (by omega), nI_1]
        exact ⟨vpI (by omega) (by omega), fin M1 _ (gv_2 (p := p) (by omega) hr bT (bdL_of hV hv hq' (by omega)) f).1 rfl⟩
    · rw [if_neg (fun z => c z.2)] at eq
      refine hk M1 ⟨fun r hr' hs => ?_, b2⟩
      by_cases z : r = i + 1
      · subst z; exact absurd hs c
      · rw [eq]; exact b1 r (by omega) hs
  · rw [show r = 0 by omega, si_eq, row_eq]
    rfl
theorem sp_chosen {d : Nat} {s : pm_S} {M : pm_M} {g tab : Nat → Int32} {N T P p q S r t : Nat} {Q : Int32 → pm_S → pm_M → Prop} (hd : 4 ≤ d) (hg : M.1 160 = g) (hV : Vd g N T P) (hp : p < P) (hq' : q < P) (hS : S < 2 ^ T) (hr : r < 2 ^ T) (hs : sbN r S = true) (ht : t < 8) (hb : bt r t = true) (hM : M.1 179 (r - 2 ^ t) = tab (r - 2 ^ t)) (hq : ∀ M', off [164, 165] M M' → Q (if fiB S r = true then tab (r - 2 ^ t) + clF g p t else tab (r - 2 ^ t) - clF g q t) s M') : cI d yM_chosen [.ref 159, .int (nI p), .int (nI q), .int (nI S), .int (nI r), .int (nI t)] s M Q := by
  obtain ⟨d, rfl⟩ : ∃ e, d = e + 1 := ⟨d - 1, by omega⟩
  have h8 := hV.2.2.2.2.2.1
  have h6 := hV.2.2.2.2.2.2.1
  have hok := hV.2.2.2.2.2.2.2.2.2.2.1
  have h256 := pow_le8 h8
  have xl := xor_lt (a := S) (b := r) (by omega) (by omega)
  obtain ⟨pc1, pc2⟩ := pc_k _ xl
  obtain ⟨_, e2, e3, _⟩ := rm_k t ht r (by omega) hb
  have hl := Nat.sub_le r (2 ^ t)
  refine enM_chosen (sp_bitsOf (by omega) ?_)
  rw [and_cpl (by omega) (by omega), ← xor_sub (by omega) (by omega) hs, pc1, lI 2, pk_rem (by omega) (by omega) (by omega), l0]
  simp only [nI_inj (a := pcN (S ^^^ r) % 2) (b := 0) (by omega) (by omega)]
  refine sgM_chosen_19 ?_
  rw [e2, nI_clamp (by omega), hM]
  refine ⟨vpI (by omega) (by omega), fun v ev => ?_⟩
  rw [ev]
  unfold fiB at hq
  by_cases f : pcN (S ^^^ r) % 2 = 0
  · rw [if_pos f]
    refine br_f (by decide) (sp_claimsOf (g := g) (by omega) hg hok (by omega) ht (fun M1 o1 => ?_))
    have := hq M1 o1
    rw [if_pos (by simp [f])] at this
    exact this
  · rw [if_neg f]
    refine br_t rfl (sp_claimsOf (g := g) (by omega) hg hok (by omega) ht (fun M1 o1 => ?_))
    have := hq M1 o1
    rw [if_neg (by simp [f])] at this
    exact this
theorem sp_laysGame {d : Nat} {s : pm_S} {M : pm_M} {g : Nat → Int32} {N T P p q S : Nat} {Q : pm_S → pm_M → Prop} (hd : 5 ≤ d) (hg : M.1 160 = g) (hV : Vd g N T P) (hp : p < P) (hq' : q < P) (hS : S < 2 ^ T) (hq : ∀ M', (∀ r, r ≤ S → sbN r S = true → M'.1 179 r = gmT (clF g) p q S (S + 1) r) → off [164, 165, 179] M M' → Q s M') : cV d yM_laysGame [.ref 159, .int (nI p), .int (nI q), .int (nI S)] s M Q := by
  obtain ⟨d, rfl⟩ : ∃ e, d = e + 1 := ⟨d - 1, by omega⟩
  have h8 := hV.2.2.2.2.2.1
  have h6 := hV.2.2.2.2.2.2.1
  have h256 := pow_le8 h8
  refine enM_laysGame ?_
  refine loop_up (L := fun i M1 => wM_laysGame d 10 [.ref 159, .int (nI p), .int (nI q), .int (nI S), .int (nI (i + 1)), .null, .null, .null, .null] [] s M1 Q) (I := fun i M1 => (∀ r, r < i + 1 → sbN r S = true → M1.1 179 r = gmT (clF g) p q S (i + 1) r) ∧ off [164, 165, 179] M M1) (e := S) ?_ ?_ _ ⟨fun r hr _ => ?_, off_si off_rf (by decide)⟩
  · rintro M1 ⟨b1, b2⟩
    exact sgM_laysGame_10 (br_t (by rw [nI_ltP (by omega) (by omega)]; omega) (hq M1 (fun r hr hs => b1 r (by omega) hs) b2))
  · rintro i M1 hi ⟨b1, b2⟩ hk
    have hr : i + 1 < 256 := by omega
    refine sgM_laysGame_10 (br_f (by rw [nI_ltP (by omega) (by omega)]; omega) ?_)
    rw [sub0 hr (by omega), nI_1]
    have eq : gmT (clF g) p q S (i + 1 + 1) = if ¬ i + 1 = 0 ∧ sbN (i + 1) S = true then pm_row (gmT (clF g) p q S (i + 1)) (i + 1) (gvR (clF g) p q (gmT (clF g) p q S (i + 1)) S (i + 1)) else gmT (clF g) p q S (i + 1) := rfl
    refine br_c (fun c => ?_) (fun c => ?_)
    · have xl := xor_lt (a := S) (b := i + 1) (by omega) hr
      obtain ⟨pc1, pc2⟩ := pc_k _ xl
      rw [and_cpl (by omega) hr, ← xor_sub hr (by omega) c]
      refine sp_bitsOf (by omega) ?_
      rw [pc1, lI 2, pk_rem (by omega) (by omega) (by omega), l0]
      simp only [nI_inj (a := pcN (S ^^^ (i + 1)) % 2) (b := 0) (by omega) (by omega)]
      intro v0 ev0
      have mem : ∀ t, t < 8 → bt (i + 1) t = true → M1.1 179 (i + 1 - 2 ^ t) = gmT (clF g) p q S (i + 1) (i + 1 - 2 ^ t) := by
        intro t ht hb
        have := Nat.two_pow_pos t
        exact b1 _ (by omega) (sb_rm hr (by omega) ht c hb)
      have fin : ∀ M2 (v : Int32), v = gvR (clF g) p q (gmT (clF g) p q S (i + 1)) S (i + 1) → off [164, 165] M1 M2 → wM_laysGame d 10 [.ref 159, .int (nI p), .int (nI q), .int (nI S), .int (nI (i + 1 + 1)), .null, .null, .null, .null] [] s (pm_si M2 179 (i + 1) v) Q := by
        intro M2 v ev o2
        refine hk _ ⟨fun r hr' hs => ?_, off_si (off_tr b2 (off_mo o2 (by decide))) (by decide)⟩
        rw [si_eq, eq, if_pos ⟨by omega, c⟩, ev, (o2 179 (by decide)).1]
        by_cases z : r = i + 1
        · subst z; rw [row_eq, row_eq]
        · rw [row_ne z, row_ne z]; exact b1 r (by omega) hs
      have g1 : ∀ M2, off [164, 165] M1 M2 → M2.1 160 = g := fun M2 o2 => r160 o2 (by decide) (r160 b2 (by decide) hg)
      cases f : fiB S (i + 1) with
      | true =>
        have pz : pcN (S ^^^ (i + 1)) % 2 = 0 := by unfold fiB at f; simpa using f
        rw [if_pos pz, if_neg (by decide)] at ev0
        rw [if_pos pz, ev0]
        refine loop_mem (L := fun t (b : Int32) M2 => wM_laysGame d 68 [.ref 159, .int (nI p), .int (nI q), .int (nI S), .int (nI (i + 1)), .int 1, .int b, .int (nI t), .null] [] s M2 Q) (I := fun _ M2 => off [164, 165] M1 M2) (f := mxS (gv1 (clF g) p (gmT (clF g) p q S (i + 1)) (i + 1))) (e := 8) (a0 := -268435456) ?_ ?_ M1 off_rf
        · intro M2 o2
          refine sgM_laysGame_68 (br_t (by decide) ⟨vpI (by omega) (by omega), ?_⟩)
          rw [nI_clamp (by omega), nI_1]
          exact fin M2 _ (by unfold gvR; rw [if_pos f]) o2
        · intro t M2 ht o2 hk2
          generalize itr (mxS (gv1 (clF g) p (gmT (clF g) p q S (i + 1)) (i + 1))) t (-268435456) = b at hk2 ⊢
          refine sgM_laysGame_68 (br_f (by rw [lI 8, nI_leP (by omega) (by omega)]; omega) (sp_isIn (by omega) (by omega) (by omega) ?_))
          rw [nI_1]
          unfold mxS gv1 at hk2
          cases cb : bt (i + 1) t with
          | false =>
            rw [if_neg (by rw [cb]; simp)] at hk2
            exact br_t rfl (hk2 M2 o2)
          | true =>
            rw [if_pos cb] at hk2
            refine br_f (by decide) (sp_chosen (N := N) (T := T) (P := P) (tab := gmT (clF g) p q S (i + 1)) (by omega) (g1 M2 o2) hV hp hq' hS (by omega) c ht cb (by rw [(o2 179 (by decide)).1]; exact mem t ht cb) (fun M3 o3 => ?_))
            rw [if_pos f]
            intro v ev
            rw [if_neg (by decide)] at ev
            rw [ev]
            exact hk2 M3 (off_tr o2 o3)
      | false =>
        have pz : ¬ pcN (S ^^^ (i + 1)) % 2 = 0 := by unfold fiB at f; simpa using f
        rw [if_neg pz, if_pos rfl] at ev0
        rw [if_neg pz, ev0]
        refine loop_mem (L := fun t (b : Int32) M2 => wM_laysGame d 68 [.ref 159, .int (nI p), .int (nI q), .int (nI S), .int (nI (i + 1)), .int 0, .int b, .int (nI t), .null] [] s M2 Q) (I := fun _ M2 => off [164, 165] M1 M2) (f := mnS (gv2 (clF g) q (gmT (clF g) p q S (i + 1)) (i + 1))) (e := 8) (a0 := 268435456) ?_ ?_ M1 off_rf
        · intro M2 o2
          refine sgM_laysGame_68 (br_t (by decide) ⟨vpI (by omega) (by omega), ?_⟩)
          rw [nI_clamp (by omega), nI_1]
          exact fin M2 _ (by unfold gvR; rw [if_neg (by rw [f]; simp)]) o2
        · intro t M2 ht o2 hk2
          generalize itr (mnS (gv2 (clF g) q (gmT (clF g) p q S (i + 1)) (i + 1))) t 268435456 = b at hk2 ⊢
          refine sgM_laysGame_68 (br_f (by rw [lI 8, nI_leP (by omega) (by omega)]; omega) (sp_isIn (by omega) (by omega) (by omega) ?_))
          rw [nI_1]
          unfold mnS gv2 at hk2
          cases cb : bt (i + 1) t with
          | false =>
            rw [if_neg (by rw [cb]; simp)] at hk2
            exact br_t rfl (hk2 M2 o2)
          | true =>
            rw [if_pos cb] at hk2
            refine br_f (by decide) (sp_chosen (N := N) (T := T) (P := P) (tab := gmT (clF g) p q S (i + 1)) (by omega) (g1 M2 o2) hV hp hq' hS (by omega) c ht cb (by rw [(o2 179 (by decide)).1]; exact mem t ht cb) (fun M3 o3 => ?_))
            rw [if_neg (show ¬ fiB S (i + 1) = true by rw [f]; simp)]
            intro v ev
            rw [if_pos rfl] at ev
            rw [ev]
            exact hk2 M3 (off_tr o2 o3)
    · rw [if_neg (fun z => c z.2)] at eq
      refine hk M1 ⟨fun r hr' hs => ?_, b2⟩
      by_cases z : r = i + 1
      · subst z; exact absurd hs c
      · rw [eq]; exact b1 r (by omega) hs
  · rw [show r = 0 by omega, si_eq, row_eq]
    rfl
