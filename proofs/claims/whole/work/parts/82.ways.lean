def pcN (S : Nat) : Nat := itr (fun k n => n + S / 2 ^ k % 2) 10 0
theorem pc_k : ∀ S, S < 256 → bitsF (nI S) = nI (pcN S) ∧ pcN S ≤ 8 := by decide +kernel
theorem pc_or : ∀ t, t < 8 → ∀ S, S < 256 → bt S t = false → pcN (S ||| 2 ^ t) = pcN S + 1 ∧ S < S ||| 2 ^ t := by decide +kernel
theorem bit_k0 : ∀ t, t < 8 → ∀ S, S < 256 → decide ((nI S >>> (nI t &&& 31)) &&& 1 = 0) = !bt S t := by decide +kernel
theorem bitI0 {t S : Nat} (ht : t < 8) (hS : S < 256) : ((nI S >>> (nI t &&& 31)) &&& 1 = 0) = (bt S t = false) := by
  have := bit_k0 t ht S hS
  rw [Bool.eq_iff_iff] at this
  simp only [decide_eq_true_eq, Bool.not_eq_true'] at this
  exact propext this
def wyV (c : Nat → Nat → Int32) (T P S : Nat) : Int32 := if pcN S ≤ P then wyF c T (P - pcN S) (pcN S) S else 0
def wW (V f : Nat → Int32) (i : Nat) (n : Nat) : Int32 := itr (fun j r => if i ≤ j then r + f j * V j else r) n 0
theorem wW_low {V f : Nat → Int32} {i k n : Nat} {v : Int32} (h : n ≤ k) : wW V (pm_row f k v) i n = wW V f i n := by
  unfold wW
  refine itr_congr (fun j hj x => ?_)
  rw [row_ne (by omega)]
theorem wW_row {V f : Nat → Int32} {i k n : Nat} {v : Int32} (hi : i ≤ k) (hk : k < n) : wW V (pm_row f k v) i n = wW V f i n + (v - f k) * V k := by
  induction n with
  | zero => omega
  | succ n ih =>
    have e1 : ∀ f', wW V f' i (n + 1) = if i ≤ n then wW V f' i n + f' n * V n else wW V f' i n := fun f' => rfl
    rw [e1, e1]
    by_cases e : k = n
    · subst e
      rw [if_pos hi, if_pos hi, wW_low (Nat.le_refl _), row_eq]
      grind
    · rw [ih (by omega), row_ne (by omega)]
      by_cases z : i ≤ n
      · rw [if_pos z, if_pos z]; grind
      · omega
theorem wW_zero {V f : Nat → Int32} {i n : Nat} (h : n ≤ i) : wW V f i n = 0 := by
  unfold wW
  refine itr_inv (I := fun _ r => r = 0) rfl (fun j x hj hx => ?_)
  rw [if_neg (by omega)]; exact hx
theorem wW_next {V f : Nat → Int32} {i n : Nat} (h : i < n) : wW V f i n = wW V f (i + 1) n + f i * V i := by
  induction n with
  | zero => omega
  | succ n ih =>
    have e1 : ∀ i', wW V f i' (n + 1) = if i' ≤ n then wW V f i' n + f n * V n else wW V f i' n := fun i' => rfl
    rw [e1, e1]
    by_cases e : i = n
    · subst e
      rw [if_pos (Nat.le_refl _), if_neg (by omega), wW_zero (Nat.le_refl _), wW_zero (by omega)]
    · rw [ih (by omega), if_pos (by omega), if_pos (by omega)]
      grind
theorem wW_one {V f : Nat → Int32} {n : Nat} (hn : 0 < n) (h0 : f 0 = 1) (h : ∀ j, 0 < j → j < n → f j = 0) : wW V f 0 n = V 0 := by
  have : ∀ m, m < n → wW V f 0 (m + 1) = V 0 := by
    intro m
    induction m with
    | zero =>
      intro _
      show (0 : Int32) + f 0 * V 0 = V 0
      rw [h0]; grind
    | succ m ih =>
      intro hm
      show wW V f 0 (m + 1) + f (m + 1) * V (m + 1) = V 0
      rw [ih (by omega), h (m + 1) (by omega) hm]; grind
  have := this (n - 1) (by omega)
  rwa [show n - 1 + 1 = n by omega] at this
theorem sp_waysForAll {d : Nat} {s : pm_S} {M : pm_M} {g : Nat → Int32} {T P : Nat} {Q : Int32 → pm_S → pm_M → Prop} (hd : 3 ≤ d) (e1 : M.1 15 1 = nI T) (e2 : M.1 15 2 = nI P) (hK : KR M g T P) (h8 : T ≤ 8) (h6 : P ≤ 6) (hq : ∀ M', off [53] M M' → Q (wyF (clF g) T P 0 0) s M') : cI d yH_waysForAll [.ref 52, .ref 15, .ref 41] s M Q := by
  obtain ⟨d, rfl⟩ : ∃ e, d = e + 1 := ⟨d - 1, by omega⟩
  have h256 := pow_le8 h8
  have pos := Nat.two_pow_pos T
  refine enH_waysForAll ?_
  rw [lI 256, l0]
  refine sp_fill4 (n := 1792) (by omega) ⟨by omega, rfl⟩ (by omega) (by omega) (by omega) (fun M1 f1 o1 => ?_)
  refine loop_up (L := fun i M2 => ∀ l3, l3 + wW (wyV (clF g) T P) (M2.1 53) i (2 ^ T) = wyF (clF g) T P 0 0 → wH_waysForAll d 24 [.ref 52, .ref 15, .ref 41, .int l3, .int (nI i), .null, .null] [] s M2 Q) (I := fun i M2 => off [53] M M2) (e := 2 ^ T) ?_ ?_ _ (off_si o1 (by decide)) 0 ?_
  · intro M2 o2 l3 h3
    rw [wW_zero (Nat.le_refl _), add0] at h3
    rw [h3]
    exact sgH_waysForAll_24 (br_t (by rw [(o2 15 (by decide)).1, e1, shl_k T h8, nI_leP (by omega) (by omega)]; exact Nat.le_refl _) (hq M2 o2))
  · intro S M2 hS o2 hk l3 h3
    have c15 := (o2 15 (by decide)).1
    obtain ⟨pc1, pc2⟩ := pc_k S (by omega)
    refine sgH_waysForAll_24 (br_f (by rw [c15, e1, shl_k T h8, nI_leP (by omega) (by omega)]; omega) (sp_bitCount (by omega) (by omega) ?_))
    rw [pc1, c15, e2, nI_clamp (by omega)]
    simp only [nI_inj (a := pcN S) (b := P) (by omega) (by omega)]
    refine ⟨fun _ => vpI (by omega) (by omega), ?_⟩
    rw [wW_next hS] at h3
    by_cases hp : pcN S < P
    · obtain ⟨k, hk1⟩ : ∃ k, P - pcN S = k + 1 := ⟨P - pcN S - 1, by omega⟩
      have hk2 : P - (pcN S + 1) = k := by omega
      have eV : wyV (clF g) T P S = itr (wyS (clF g) (wyF (clF g) T k (pcN S + 1)) (pcN S) S) T 0 := by
        unfold wyV
        rw [if_pos (by omega), hk1]; rfl
      rw [if_neg (by omega)]
      rw [eV] at h3
      generalize hA : wW (wyV (clF g) T P) (M2.1 53) (S + 1) (2 ^ T) = A at h3
      generalize hF : M2.1 53 S = F at h3
      refine loop_up (L := fun t M3 => wH_waysForAll d 64 [.ref 52, .ref 15, .ref 41, .int l3, .int (nI S), .int (nI (pcN S)), .int (nI t)] [] s M3 Q) (I := fun t M3 => off [53] M M3 ∧ M3.1 53 S = F ∧ wW (wyV (clF g) T P) (M3.1 53) (S + 1) (2 ^ T) = A + F * itr (wyS (clF g) (wyF (clF g) T k (pcN S + 1)) (pcN S) S) t 0) (e := T) ?_ ?_ M2 ⟨o2, hF, by rw [hA, itr_0]; grind⟩
      · intro M3 b
        refine sgH_waysForAll_64 (br_t (by rw [(b.1 15 (by decide)).1, e1, nI_leP (by omega) (by omega)]; exact Nat.le_refl _) ?_)
        rw [nI_1]
        refine hk M3 b.1 l3 ?_
        rw [b.2.2]; exact h3
      · intro t M3 ht b hk3
        have c15' := (b.1 15 (by decide)).1
        have hK3 : KR M3 g T P := KR_off b.1 (by decide) hK
        refine sgH_waysForAll_64 (br_f (by rw [c15', e1, nI_leP (by omega) (by omega)]; omega) (br_f (by rw [c15', e2, nI_leP (by omega) (by omega)]; omega) ?_))
        rw [bitI0 (by omega) (by omega), nI_1]
        have st : ∀ x, wyS (clF g) (wyF (clF g) T k (pcN S + 1)) (pcN S) S t x = if 0 < cmF (clF g) (pcN S) t S then x + wyF (clF g) T k (pcN S + 1) (S ||| 2 ^ t) else x := fun x => rfl
        refine br_c (fun z => ?_) (fun z => ?_)
        · have ecm : cmF (clF g) (pcN S) t S = clF g (pcN S) t := by unfold cmF; rw [if_neg (by rw [z]; simp)]
          refine sp_of (by omega) hK3 h8 h6 hp ht (br_c (fun z2 => ?_) (fun z2 => ?_))
          · refine hk3 M3 ⟨b.1, b.2.1, ?_⟩
            rw [itr_s, st, ecm, if_neg (i_nlt z2)]; exact b.2.2
          · have hS' := or_lt hS ht
            obtain ⟨po1, po2⟩ := pc_or t (by omega) S (by omega) z
            rw [orI hS ht h8, nI_clamp (by omega), nI_clamp (by omega)]
            refine ⟨vpI (by omega) (by omega), vpI (by omega) (by omega), vpI (by omega) (by omega), hk3 _ ⟨off_si b.1 (by decide), ?_, ?_⟩⟩
            · rw [si_eq, row_ne (by omega)]; exact b.2.1
            · rw [si_eq, wW_row (by omega) hS', b.2.2, b.2.1, itr_s, st, ecm, if_pos (i_lt z2)]
              have eV2 : wyV (clF g) T P (S ||| 2 ^ t) = wyF (clF g) T k (pcN S + 1) (S ||| 2 ^ t) := by
                unfold wyV
                rw [po1, if_pos (by omega), hk2]
              rw [eV2]
              grind
        · refine hk3 M3 ⟨b.1, b.2.1, ?_⟩
          have z' : bt S t = true := by simpa using z
          have ecm : cmF (clF g) (pcN S) t S = 0 := by unfold cmF; rw [if_pos z']
          rw [itr_s, st, ecm, if_neg (by decide)]; exact b.2.2
    · have fin : ∀ l3', l3' + wW (wyV (clF g) T P) (M2.1 53) (S + 1) (2 ^ T) = wyF (clF g) T P 0 0 → wH_waysForAll d 64 [.ref 52, .ref 15, .ref 41, .int l3', .int (nI S), .int (nI (pcN S)), .int 0] [] s M2 Q := by
        intro l3' h
        have kk := hk M2 o2 l3' h
        rw [← nI_1] at kk
        exact sgH_waysForAll_64 (br_c (fun _ => kk) (fun _ => br_t (by rw [c15, e2, nI_leP (by omega) (by omega)]; omega) kk))
      by_cases he : pcN S = P
      · rw [if_pos he]
        refine fin _ ?_
        have eV : wyV (clF g) T P S = 1 := by
          unfold wyV
          rw [if_pos (by omega), he, Nat.sub_self]; rfl
        rw [eV] at h3
        rw [← h3]; grind
      · rw [if_neg he]
        refine fin _ ?_
        have eV : wyV (clF g) T P S = 0 := by
          unfold wyV
          rw [if_neg (by omega)]
        rw [eV] at h3
        rw [← h3]; grind
  · have e0 : wW (wyV (clF g) T P) ((pm_si M1 53 0 1).1 53) 0 (2 ^ T) = wyV (clF g) T P 0 := by
      rw [si_eq, f1]
      refine wW_one pos row_eq (fun j h1 h2 => ?_)
      rw [row_ne (by omega), putR_in (by omega) (by omega)]; rfl
    rw [e0]
    have : wyV (clF g) T P 0 = wyF (clF g) T P 0 0 := by
      unfold wyV
      rw [show pcN 0 = 0 from rfl, if_pos (by omega)]; rfl
    rw [this]
    grind
theorem op_matchings {L d : Nat} {s : pm_S} {M : pm_M} (hd : 12 ≤ d) (hI : Inv L s M) : cI d yG_matchings [.ref 0] s M (fun r s1 M1 => cI d yM_matchings [.ref 159] s1 M1 (same L r)) := by
  obtain ⟨d, rfl⟩ : ∃ e, d = e + 1 := ⟨d - 1, by omega⟩
  obtain ⟨g, N, T, P, x, n, hc⟩ := Inv_ctx hI
  obtain ⟨a1, a2, a3, a4, a5, a6, a7, a8, a9, a10, a11, a12, a13⟩ := hc
  have h8 : T ≤ 8 := a4.2.2.2.2.2.2.1
  have h6 : P ≤ 6 := a4.2.2.2.2.2.2.2.1
  have h2 := a4.2.2.1
  have h3 := a4.2.2.2.1
  refine enG_matchings (sp_gather (by omega) a4 a10 (fun M1 hK o1 => ?_))
  have c15 := (o1 15 (by decide)).1
  refine sp_waysForAll (T := T) (P := P) (by omega) (by rw [c15]; exact a4.1.2.1.trans h2) (by rw [c15]; exact a4.1.2.2.1.trans h3) hK h8 h6 (fun M2 o2 => ?_)
  have s2 : Scr M M2 := Scr_off (S := [25, 26, 42, 53]) (off_tr (off_mo o1 (by decide)) (off_mo o2 (by decide))) (by decide)
  have s3 := Scr_tr s2 (Scr_159 (M := M2) (k := 0) (v := 0) (by omega))
  have g3 := (Scr_c s3 (c := 160) (by decide)).trans a3
  refine enM_matchings (sp_laysMatching (by omega) g3 a4.2 (fun M3 k3 m3 o3 => ⟨?_, Inv_Scr hI a1 (Scr_tr s3 (Scr_off o3 (by decide)))⟩))
  exact (m3 0 0 (by omega) (by omega) (Nat.two_pow_pos T)).2.2.symm
