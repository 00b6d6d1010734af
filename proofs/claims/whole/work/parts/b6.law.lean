/-! the law: a call of each kind on both sides -/
def lawQ : Option Value → pm_E → pm_M → Prop := fun r E _ => r = some (.int 1) ∧ E.1 = 185 ∧ E.2.1 = 80222
abbrev wLaw (d pc : Nat) (ls st : List Value) (s : pm_S) (M : pm_M) : Prop := pm_wp (pm_cal d) code 13 (some .boolean) false pc ls st (EE s) M lawQ
theorem sc_at {s : pm_S} {L i k : Nat} {x : Int32} (h : s.1 = L) (hx : x = nI (i + k)) (h6 : i + k < L) (hL : L ≤ 3072) : vp_in x (pm_al (EE s) 4000) := by
  subst hx
  have e : pm_al (EE s) 4000 = L := h
  rw [e]
  exact vpI h6 (by omega)
theorem sc_ok {s : pm_S} : pm_ok (EE s) 4000 0 := ⟨Or.inr rfl, rfl⟩
theorem law_feed {d L i : Nat} {s : pm_S} {M : pm_M} (hd : 100 ≤ d) (hI : Inv L s M) (h6 : i + 6 ≤ L) (hL : L ≤ 3072) (next : ∀ s1 M1, Inv L s1 M1 → M1.1 4000 = M.1 4000 → wLaw d 1652 [.ref 4000, .ref 0, .ref 159, .int (nI i)] [] s1 M1) : wLaw d 232 [.ref 4000, .ref 0, .ref 159, .int (nI i)] [] s M := by
  have hs : s.1 = L := hI.1.1
  show pm_wp (pm_cal d) code 13 (some .boolean) false 232 [.ref 4000, .ref 0, .ref 159, .int (nI i)] [] (EE s) M lawQ
  refine s_aload_n (i := 1) (by decide +kernel) rfl (pn 233 rfl ?_)
  refine s_aload_n (i := 0) (by decide +kernel) rfl (pn 234 rfl ?_)
  refine s_iload_n (i := 3) (by decide +kernel) rfl (pn 235 rfl ?_)
  refine t_iconst (n := 1) (v := nI 1) (by decide +kernel) (by decide +kernel) (pn 236 rfl ?_)
  refine s_iadd (by decide +kernel) (pn 237 rfl ?_)
  refine t_iaload (v := M.1 4000 (i + 1)) (by decide +kernel) sc_ok (sc_at (i := i) (k := 1) hs (nI_add i 1) (by omega) hL) (by rw [nI_add, nI_clamp (by omega)]) (pn 238 rfl ?_)
  refine s_aload_n (i := 0) (by decide +kernel) rfl (pn 239 rfl ?_)
  refine s_iload_n (i := 3) (by decide +kernel) rfl (pn 240 rfl ?_)
  refine t_iconst (n := 2) (v := nI 2) (by decide +kernel) (by decide +kernel) (pn 241 rfl ?_)
  refine s_iadd (by decide +kernel) (pn 242 rfl ?_)
  refine t_iaload (v := M.1 4000 (i + 2)) (by decide +kernel) sc_ok (sc_at (i := i) (k := 2) hs (nI_add i 2) (by omega) hL) (by rw [nI_add, nI_clamp (by omega)]) (pn 243 rfl ?_)
  refine s_aload_n (i := 0) (by decide +kernel) rfl (pn 244 rfl ?_)
  refine s_iload_n (i := 3) (by decide +kernel) rfl (pn 245 rfl ?_)
  refine t_iconst (n := 3) (v := nI 3) (by decide +kernel) (by decide +kernel) (pn 246 rfl ?_)
  refine s_iadd (by decide +kernel) (pn 247 rfl ?_)
  refine t_iaload (v := M.1 4000 (i + 3)) (by decide +kernel) sc_ok (sc_at (i := i) (k := 3) hs (nI_add i 3) (by omega) hL) (by rw [nI_add, nI_clamp (by omega)]) (pn 248 rfl ?_)
  refine s_aload_n (i := 0) (by decide +kernel) rfl (pn 249 rfl ?_)
  refine s_iload_n (i := 3) (by decide +kernel) rfl (pn 250 rfl ?_)
  refine t_iconst (n := 4) (v := nI 4) (by decide +kernel) (by decide +kernel) (pn 251 rfl ?_)
  refine s_iadd (by decide +kernel) (pn 252 rfl ?_)
  refine t_iaload (v := M.1 4000 (i + 4)) (by decide +kernel) sc_ok (sc_at (i := i) (k := 4) hs (nI_add i 4) (by omega) hL) (by rw [nI_add, nI_clamp (by omega)]) (pn 253 rfl ?_)
  refine s_aload_n (i := 0) (by decide +kernel) rfl (pn 254 rfl ?_)
  refine s_iload_n (i := 3) (by decide +kernel) rfl (pn 255 rfl ?_)
  refine t_iconst (n := 5) (v := nI 5) (by decide +kernel) (by decide +kernel) (pn 256 rfl ?_)
  refine s_iadd (by decide +kernel) (pn 257 rfl ?_)
  refine t_iaload (v := M.1 4000 (i + 5)) (by decide +kernel) sc_ok (sc_at (i := i) (k := 5) hs (nI_add i 5) (by omega) hL) (by rw [nI_add, nI_clamp (by omega)]) (pn 258 rfl ?_)
  refine s_callvI (ix := 13) (y := yG_feed) [.int (M.1 4000 (i + 1)), .int (M.1 4000 (i + 2)), .int (M.1 4000 (i + 3)), .int (M.1 4000 (i + 4)), .int (M.1 4000 (i + 5))] rfl (by decide +kernel) mv_13_13 np_122 (Nat.le_of_ble_eq_true rfl) lq_0 ((congrArg Prod.fst sh_0).trans oc_122) (cI_use (cI_sc (op_feed (L := L) (by omega) hI)) (fun v s1 M1 h => (pn 261 rfl ?_)))
  obtain ⟨e4, hs1, h⟩ := h
  rw [hs] at hs1
  refine s_aload_n (i := 2) (by decide +kernel) rfl (pn 262 rfl ?_)
  refine s_aload_n (i := 0) (by decide +kernel) rfl (pn 263 rfl ?_)
  refine s_iload_n (i := 3) (by decide +kernel) rfl (pn 264 rfl ?_)
  refine t_iconst (n := 1) (v := nI 1) (by decide +kernel) (by decide +kernel) (pn 265 rfl ?_)
  refine s_iadd (by decide +kernel) (pn 266 rfl ?_)
  refine t_iaload (v := M.1 4000 (i + 1)) (by decide +kernel) sc_ok (sc_at (i := i) (k := 1) hs1 (nI_add i 1) (by omega) hL) (by rw [nI_add, nI_clamp (by omega), e4]) (pn 267 rfl ?_)
  refine s_aload_n (i := 0) (by decide +kernel) rfl (pn 268 rfl ?_)
  refine s_iload_n (i := 3) (by decide +kernel) rfl (pn 269 rfl ?_)
  refine t_iconst (n := 2) (v := nI 2) (by decide +kernel) (by decide +kernel) (pn 270 rfl ?_)
  refine s_iadd (by decide +kernel) (pn 271 rfl ?_)
  refine t_iaload (v := M.1 4000 (i + 2)) (by decide +kernel) sc_ok (sc_at (i := i) (k := 2) hs1 (nI_add i 2) (by omega) hL) (by rw [nI_add, nI_clamp (by omega), e4]) (pn 272 rfl ?_)
  refine s_aload_n (i := 0) (by decide +kernel) rfl (pn 273 rfl ?_)
  refine s_iload_n (i := 3) (by decide +kernel) rfl (pn 274 rfl ?_)
  refine t_iconst (n := 3) (v := nI 3) (by decide +kernel) (by decide +kernel) (pn 275 rfl ?_)
  refine s_iadd (by decide +kernel) (pn 276 rfl ?_)
  refine t_iaload (v := M.1 4000 (i + 3)) (by decide +kernel) sc_ok (sc_at (i := i) (k := 3) hs1 (nI_add i 3) (by omega) hL) (by rw [nI_add, nI_clamp (by omega), e4]) (pn 277 rfl ?_)
  refine s_aload_n (i := 0) (by decide +kernel) rfl (pn 278 rfl ?_)
  refine s_iload_n (i := 3) (by decide +kernel) rfl (pn 279 rfl ?_)
  refine t_iconst (n := 4) (v := nI 4) (by decide +kernel) (by decide +kernel) (pn 280 rfl ?_)
  refine s_iadd (by decide +kernel) (pn 281 rfl ?_)
  refine t_iaload (v := M.1 4000 (i + 4)) (by decide +kernel) sc_ok (sc_at (i := i) (k := 4) hs1 (nI_add i 4) (by omega) hL) (by rw [nI_add, nI_clamp (by omega), e4]) (pn 282 rfl ?_)
  refine s_aload_n (i := 0) (by decide +kernel) rfl (pn 283 rfl ?_)
  refine s_iload_n (i := 3) (by decide +kernel) rfl (pn 284 rfl ?_)
  refine t_iconst (n := 5) (v := nI 5) (by decide +kernel) (by decide +kernel) (pn 285 rfl ?_)
  refine s_iadd (by decide +kernel) (pn 286 rfl ?_)
  refine t_iaload (v := M.1 4000 (i + 5)) (by decide +kernel) sc_ok (sc_at (i := i) (k := 5) hs1 (nI_add i 5) (by omega) hL) (by rw [nI_add, nI_clamp (by omega), e4]) (pn 287 rfl ?_)
  refine s_callvI (ix := 17) (y := yM_feed) [.int (M.1 4000 (i + 1)), .int (M.1 4000 (i + 2)), .int (M.1 4000 (i + 3)), .int (M.1 4000 (i + 4)), .int (M.1 4000 (i + 5))] rfl (by decide +kernel) mv_13_17 np_186 (Nat.le_of_ble_eq_true rfl) lq_159 ((congrArg Prod.fst sh_159).trans oc_186) (cI_use (cI_sc h) (fun v2 s2 M2 h2 => (pn 290 rfl ?_)))
  obtain ⟨e5, -, ev, hI2⟩ := h2
  subst ev
  refine s_icmp_eq (off := 1362) (tgt := 1652) (by decide +kernel) rfl (fun _ => ?_) (fun c => absurd rfl c)
  exact next s2 M2 hI2 (e5.trans e4)
theorem law_line {d L i : Nat} {s : pm_S} {M : pm_M} (hd : 100 ≤ d) (hI : Inv L s M) (h6 : i + 6 ≤ L) (hL : L ≤ 3072) (next : ∀ s1 M1, Inv L s1 M1 → M1.1 4000 = M.1 4000 → wLaw d 1652 [.ref 4000, .ref 0, .ref 159, .int (nI i)] [] s1 M1) : wLaw d 295 [.ref 4000, .ref 0, .ref 159, .int (nI i)] [] s M := by
  have hs : s.1 = L := hI.1.1
  show pm_wp (pm_cal d) code 13 (some .boolean) false 295 [.ref 4000, .ref 0, .ref 159, .int (nI i)] [] (EE s) M lawQ
  refine s_aload_n (i := 1) (by decide +kernel) rfl (pn 296 rfl ?_)
  refine s_aload_n (i := 0) (by decide +kernel) rfl (pn 297 rfl ?_)
  refine s_iload_n (i := 3) (by decide +kernel) rfl (pn 298 rfl ?_)
  refine t_iconst (n := 1) (v := nI 1) (by decide +kernel) (by decide +kernel) (pn 299 rfl ?_)
  refine s_iadd (by decide +kernel) (pn 300 rfl ?_)
  refine t_iaload (v := M.1 4000 (i + 1)) (by decide +kernel) sc_ok (sc_at (i := i) (k := 1) hs (nI_add i 1) (by omega) hL) (by rw [nI_add, nI_clamp (by omega)]) (pn 301 rfl ?_)
  refine s_callvI (ix := 18) (y := yG_line) [.int (M.1 4000 (i + 1))] rfl (by decide +kernel) mv_13_18 np_123 (Nat.le_of_ble_eq_true rfl) lq_0 ((congrArg Prod.fst sh_0).trans oc_123) (cI_use (cI_sc (op_line (L := L) (by omega) hI)) (fun v s1 M1 h => (pn 304 rfl ?_)))
  obtain ⟨e4, hs1, h⟩ := h
  rw [hs] at hs1
  refine s_aload_n (i := 2) (by decide +kernel) rfl (pn 305 rfl ?_)
  refine s_aload_n (i := 0) (by decide +kernel) rfl (pn 306 rfl ?_)
  refine s_iload_n (i := 3) (by decide +kernel) rfl (pn 307 rfl ?_)
  refine t_iconst (n := 1) (v := nI 1) (by decide +kernel) (by decide +kernel) (pn 308 rfl ?_)
  refine s_iadd (by decide +kernel) (pn 309 rfl ?_)
  refine t_iaload (v := M.1 4000 (i + 1)) (by decide +kernel) sc_ok (sc_at (i := i) (k := 1) hs1 (nI_add i 1) (by omega) hL) (by rw [nI_add, nI_clamp (by omega), e4]) (pn 310 rfl ?_)
  refine s_callvI (ix := 22) (y := yM_line) [.int (M.1 4000 (i + 1))] rfl (by decide +kernel) mv_13_22 np_187 (Nat.le_of_ble_eq_true rfl) lq_159 ((congrArg Prod.fst sh_159).trans oc_187) (cI_use (cI_sc h) (fun v2 s2 M2 h2 => (pn 313 rfl ?_)))
  obtain ⟨e5, -, ev, hI2⟩ := h2
  subst ev
  refine s_icmp_eq (off := 1339) (tgt := 1652) (by decide +kernel) rfl (fun _ => ?_) (fun c => absurd rfl c)
  exact next s2 M2 hI2 (e5.trans e4)
theorem law_fault {d L i : Nat} {s : pm_S} {M : pm_M} (hd : 100 ≤ d) (hI : Inv L s M) (h6 : i + 6 ≤ L) (hL : L ≤ 3072) (next : ∀ s1 M1, Inv L s1 M1 → M1.1 4000 = M.1 4000 → wLaw d 1652 [.ref 4000, .ref 0, .ref 159, .int (nI i)] [] s1 M1) : wLaw d 318 [.ref 4000, .ref 0, .ref 159, .int (nI i)] [] s M := by
  have hs : s.1 = L := hI.1.1
  show pm_wp (pm_cal d) code 13 (some .boolean) false 318 [.ref 4000, .ref 0, .ref 159, .int (nI i)] [] (EE s) M lawQ
  refine s_aload_n (i := 1) (by decide +kernel) rfl (pn 319 rfl ?_)
  refine s_aload_n (i := 0) (by decide +kernel) rfl (pn 320 rfl ?_)
  refine s_iload_n (i := 3) (by decide +kernel) rfl (pn 321 rfl ?_)
  refine t_iconst (n := 1) (v := nI 1) (by decide +kernel) (by decide +kernel) (pn 322 rfl ?_)
  refine s_iadd (by decide +kernel) (pn 323 rfl ?_)
  refine t_iaload (v := M.1 4000 (i + 1)) (by decide +kernel) sc_ok (sc_at (i := i) (k := 1) hs (nI_add i 1) (by omega) hL) (by rw [nI_add, nI_clamp (by omega)]) (pn 324 rfl ?_)
  refine s_callvI (ix := 23) (y := yG_fault) [.int (M.1 4000 (i + 1))] rfl (by decide +kernel) mv_13_23 np_125 (Nat.le_of_ble_eq_true rfl) lq_0 ((congrArg Prod.fst sh_0).trans oc_125) (cI_use (cI_sc (op_fault (L := L) (by omega) hI)) (fun v s1 M1 h => (pn 327 rfl ?_)))
  obtain ⟨e4, hs1, h⟩ := h
  rw [hs] at hs1
  refine s_aload_n (i := 2) (by decide +kernel) rfl (pn 328 rfl ?_)
  refine s_aload_n (i := 0) (by decide +kernel) rfl (pn 329 rfl ?_)
  refine s_iload_n (i := 3) (by decide +kernel) rfl (pn 330 rfl ?_)
  refine t_iconst (n := 1) (v := nI 1) (by decide +kernel) (by decide +kernel) (pn 331 rfl ?_)
  refine s_iadd (by decide +kernel) (pn 332 rfl ?_)
  refine t_iaload (v := M.1 4000 (i + 1)) (by decide +kernel) sc_ok (sc_at (i := i) (k := 1) hs1 (nI_add i 1) (by omega) hL) (by rw [nI_add, nI_clamp (by omega), e4]) (pn 333 rfl ?_)
  refine s_callvI (ix := 26) (y := yM_fault) [.int (M.1 4000 (i + 1))] rfl (by decide +kernel) mv_13_26 np_215 (Nat.le_of_ble_eq_true rfl) lq_159 ((congrArg Prod.fst sh_159).trans oc_215) (cI_use (cI_sc h) (fun v2 s2 M2 h2 => (pn 336 rfl ?_)))
  obtain ⟨e5, -, ev, hI2⟩ := h2
  subst ev
  refine s_icmp_eq (off := 1316) (tgt := 1652) (by decide +kernel) rfl (fun _ => ?_) (fun c => absurd rfl c)
  exact next s2 M2 hI2 (e5.trans e4)
theorem law_thing {d L i : Nat} {s : pm_S} {M : pm_M} (hd : 100 ≤ d) (hI : Inv L s M) (h6 : i + 6 ≤ L) (hL : L ≤ 3072) (next : ∀ s1 M1, Inv L s1 M1 → M1.1 4000 = M.1 4000 → wLaw d 1652 [.ref 4000, .ref 0, .ref 159, .int (nI i)] [] s1 M1) : wLaw d 341 [.ref 4000, .ref 0, .ref 159, .int (nI i)] [] s M := by
  have hs : s.1 = L := hI.1.1
  show pm_wp (pm_cal d) code 13 (some .boolean) false 341 [.ref 4000, .ref 0, .ref 159, .int (nI i)] [] (EE s) M lawQ
  refine s_aload_n (i := 1) (by decide +kernel) rfl (pn 342 rfl ?_)
  refine s_aload_n (i := 0) (by decide +kernel) rfl (pn 343 rfl ?_)
  refine s_iload_n (i := 3) (by decide +kernel) rfl (pn 344 rfl ?_)
  refine t_iconst (n := 1) (v := nI 1) (by decide +kernel) (by decide +kernel) (pn 345 rfl ?_)
  refine s_iadd (by decide +kernel) (pn 346 rfl ?_)
  refine t_iaload (v := M.1 4000 (i + 1)) (by decide +kernel) sc_ok (sc_at (i := i) (k := 1) hs (nI_add i 1) (by omega) hL) (by rw [nI_add, nI_clamp (by omega)]) (pn 347 rfl ?_)
  refine s_aload_n (i := 0) (by decide +kernel) rfl (pn 348 rfl ?_)
  refine s_iload_n (i := 3) (by decide +kernel) rfl (pn 349 rfl ?_)
  refine t_iconst (n := 2) (v := nI 2) (by decide +kernel) (by decide +kernel) (pn 350 rfl ?_)
  refine s_iadd (by decide +kernel) (pn 351 rfl ?_)
  refine t_iaload (v := M.1 4000 (i + 2)) (by decide +kernel) sc_ok (sc_at (i := i) (k := 2) hs (nI_add i 2) (by omega) hL) (by rw [nI_add, nI_clamp (by omega)]) (pn 352 rfl ?_)
  refine s_callvI (ix := 27) (y := yG_thing) [.int (M.1 4000 (i + 1)), .int (M.1 4000 (i + 2))] rfl (by decide +kernel) mv_13_27 np_126 (Nat.le_of_ble_eq_true rfl) lq_0 ((congrArg Prod.fst sh_0).trans oc_126) (cI_use (cI_sc (op_thing (L := L) (by omega) hI)) (fun v s1 M1 h => (pn 355 rfl ?_)))
  obtain ⟨e4, hs1, h⟩ := h
  rw [hs] at hs1
  refine s_aload_n (i := 2) (by decide +kernel) rfl (pn 356 rfl ?_)
  refine s_aload_n (i := 0) (by decide +kernel) rfl (pn 357 rfl ?_)
  refine s_iload_n (i := 3) (by decide +kernel) rfl (pn 358 rfl ?_)
  refine t_iconst (n := 1) (v := nI 1) (by decide +kernel) (by decide +kernel) (pn 359 rfl ?_)
  refine s_iadd (by decide +kernel) (pn 360 rfl ?_)
  refine t_iaload (v := M.1 4000 (i + 1)) (by decide +kernel) sc_ok (sc_at (i := i) (k := 1) hs1 (nI_add i 1) (by omega) hL) (by rw [nI_add, nI_clamp (by omega), e4]) (pn 361 rfl ?_)
  refine s_aload_n (i := 0) (by decide +kernel) rfl (pn 362 rfl ?_)
  refine s_iload_n (i := 3) (by decide +kernel) rfl (pn 363 rfl ?_)
  refine t_iconst (n := 2) (v := nI 2) (by decide +kernel) (by decide +kernel) (pn 364 rfl ?_)
  refine s_iadd (by decide +kernel) (pn 365 rfl ?_)
  refine t_iaload (v := M.1 4000 (i + 2)) (by decide +kernel) sc_ok (sc_at (i := i) (k := 2) hs1 (nI_add i 2) (by omega) hL) (by rw [nI_add, nI_clamp (by omega), e4]) (pn 366 rfl ?_)
  refine s_callvI (ix := 31) (y := yM_thing) [.int (M.1 4000 (i + 1)), .int (M.1 4000 (i + 2))] rfl (by decide +kernel) mv_13_31 np_216 (Nat.le_of_ble_eq_true rfl) lq_159 ((congrArg Prod.fst sh_159).trans oc_216) (cI_use (cI_sc h) (fun v2 s2 M2 h2 => (pn 369 rfl ?_)))
  obtain ⟨e5, -, ev, hI2⟩ := h2
  subst ev
  refine s_icmp_eq (off := 1283) (tgt := 1652) (by decide +kernel) rfl (fun _ => ?_) (fun c => absurd rfl c)
  exact next s2 M2 hI2 (e5.trans e4)
theorem law_person {d L i : Nat} {s : pm_S} {M : pm_M} (hd : 100 ≤ d) (hI : Inv L s M) (h6 : i + 6 ≤ L) (hL : L ≤ 3072) (next : ∀ s1 M1, Inv L s1 M1 → M1.1 4000 = M.1 4000 → wLaw d 1652 [.ref 4000, .ref 0, .ref 159, .int (nI i)] [] s1 M1) : wLaw d 374 [.ref 4000, .ref 0, .ref 159, .int (nI i)] [] s M := by
  have hs : s.1 = L := hI.1.1
  show pm_wp (pm_cal d) code 13 (some .boolean) false 374 [.ref 4000, .ref 0, .ref 159, .int (nI i)] [] (EE s) M lawQ
  refine s_aload_n (i := 1) (by decide +kernel) rfl (pn 375 rfl ?_)
  refine s_aload_n (i := 0) (by decide +kernel) rfl (pn 376 rfl ?_)
  refine s_iload_n (i := 3) (by decide +kernel) rfl (pn 377 rfl ?_)
  refine t_iconst (n := 1) (v := nI 1) (by decide +kernel) (by decide +kernel) (pn 378 rfl ?_)
  refine s_iadd (by decide +kernel) (pn 379 rfl ?_)
  refine t_iaload (v := M.1 4000 (i + 1)) (by decide +kernel) sc_ok (sc_at (i := i) (k := 1) hs (nI_add i 1) (by omega) hL) (by rw [nI_add, nI_clamp (by omega)]) (pn 380 rfl ?_)
  refine s_aload_n (i := 0) (by decide +kernel) rfl (pn 381 rfl ?_)
  refine s_iload_n (i := 3) (by decide +kernel) rfl (pn 382 rfl ?_)
  refine t_iconst (n := 2) (v := nI 2) (by decide +kernel) (by decide +kernel) (pn 383 rfl ?_)
  refine s_iadd (by decide +kernel) (pn 384 rfl ?_)
  refine t_iaload (v := M.1 4000 (i + 2)) (by decide +kernel) sc_ok (sc_at (i := i) (k := 2) hs (nI_add i 2) (by omega) hL) (by rw [nI_add, nI_clamp (by omega)]) (pn 385 rfl ?_)
  refine s_callvI (ix := 32) (y := yG_person) [.int (M.1 4000 (i + 1)), .int (M.1 4000 (i + 2))] rfl (by decide +kernel) mv_13_32 np_127 (Nat.le_of_ble_eq_true rfl) lq_0 ((congrArg Prod.fst sh_0).trans oc_127) (cI_use (cI_sc (op_person (L := L) (by omega) hI)) (fun v s1 M1 h => (pn 388 rfl ?_)))
  obtain ⟨e4, hs1, h⟩ := h
  rw [hs] at hs1
  refine s_aload_n (i := 2) (by decide +kernel) rfl (pn 389 rfl ?_)
  refine s_aload_n (i := 0) (by decide +kernel) rfl (pn 390 rfl ?_)
  refine s_iload_n (i := 3) (by decide +kernel) rfl (pn 391 rfl ?_)
  refine t_iconst (n := 1) (v := nI 1) (by decide +kernel) (by decide +kernel) (pn 392 rfl ?_)
  refine s_iadd (by decide +kernel) (pn 393 rfl ?_)
  refine t_iaload (v := M.1 4000 (i + 1)) (by decide +kernel) sc_ok (sc_at (i := i) (k := 1) hs1 (nI_add i 1) (by omega) hL) (by rw [nI_add, nI_clamp (by omega), e4]) (pn 394 rfl ?_)
  refine s_aload_n (i := 0) (by decide +kernel) rfl (pn 395 rfl ?_)
  refine s_iload_n (i := 3) (by decide +kernel) rfl (pn 396 rfl ?_)
  refine t_iconst (n := 2) (v := nI 2) (by decide +kernel) (by decide +kernel) (pn 397 rfl ?_)
  refine s_iadd (by decide +kernel) (pn 398 rfl ?_)
  refine t_iaload (v := M.1 4000 (i + 2)) (by decide +kernel) sc_ok (sc_at (i := i) (k := 2) hs1 (nI_add i 2) (by omega) hL) (by rw [nI_add, nI_clamp (by omega), e4]) (pn 399 rfl ?_)
  refine s_callvI (ix := 35) (y := yM_person) [.int (M.1 4000 (i + 1)), .int (M.1 4000 (i + 2))] rfl (by decide +kernel) mv_13_35 np_218 (Nat.le_of_ble_eq_true rfl) lq_159 ((congrArg Prod.fst sh_159).trans oc_218) (cI_use (cI_sc h) (fun v2 s2 M2 h2 => (pn 402 rfl ?_)))
  obtain ⟨e5, -, ev, hI2⟩ := h2
  subst ev
  refine s_icmp_eq (off := 1250) (tgt := 1652) (by decide +kernel) rfl (fun _ => ?_) (fun c => absurd rfl c)
  exact next s2 M2 hI2 (e5.trans e4)
theorem law_claims {d L i : Nat} {s : pm_S} {M : pm_M} (hd : 100 ≤ d) (hI : Inv L s M) (h6 : i + 6 ≤ L) (hL : L ≤ 3072) (next : ∀ s1 M1, Inv L s1 M1 → M1.1 4000 = M.1 4000 → wLaw d 1652 [.ref 4000, .ref 0, .ref 159, .int (nI i)] [] s1 M1) : wLaw d 407 [.ref 4000, .ref 0, .ref 159, .int (nI i)] [] s M := by
  have hs : s.1 = L := hI.1.1
  show pm_wp (pm_cal d) code 13 (some .boolean) false 407 [.ref 4000, .ref 0, .ref 159, .int (nI i)] [] (EE s) M lawQ
  refine s_aload_n (i := 1) (by decide +kernel) rfl (pn 408 rfl ?_)
  refine s_aload_n (i := 0) (by decide +kernel) rfl (pn 409 rfl ?_)
  refine s_iload_n (i := 3) (by decide +kernel) rfl (pn 410 rfl ?_)
  refine t_iconst (n := 1) (v := nI 1) (by decide +kernel) (by decide +kernel) (pn 411 rfl ?_)
  refine s_iadd (by decide +kernel) (pn 412 rfl ?_)
  refine t_iaload (v := M.1 4000 (i + 1)) (by decide +kernel) sc_ok (sc_at (i := i) (k := 1) hs (nI_add i 1) (by omega) hL) (by rw [nI_add, nI_clamp (by omega)]) (pn 413 rfl ?_)
  refine s_aload_n (i := 0) (by decide +kernel) rfl (pn 414 rfl ?_)
  refine s_iload_n (i := 3) (by decide +kernel) rfl (pn 415 rfl ?_)
  refine t_iconst (n := 2) (v := nI 2) (by decide +kernel) (by decide +kernel) (pn 416 rfl ?_)
  refine s_iadd (by decide +kernel) (pn 417 rfl ?_)
  refine t_iaload (v := M.1 4000 (i + 2)) (by decide +kernel) sc_ok (sc_at (i := i) (k := 2) hs (nI_add i 2) (by omega) hL) (by rw [nI_add, nI_clamp (by omega)]) (pn 418 rfl ?_)
  refine s_callvI (ix := 36) (y := yG_claims) [.int (M.1 4000 (i + 1)), .int (M.1 4000 (i + 2))] rfl (by decide +kernel) mv_13_36 np_128 (Nat.le_of_ble_eq_true rfl) lq_0 ((congrArg Prod.fst sh_0).trans oc_128) (cI_use (cI_sc (op_claims (L := L) (by omega) hI)) (fun v s1 M1 h => (pn 421 rfl ?_)))
  obtain ⟨e4, hs1, h⟩ := h
  rw [hs] at hs1
  refine s_aload_n (i := 2) (by decide +kernel) rfl (pn 422 rfl ?_)
  refine s_aload_n (i := 0) (by decide +kernel) rfl (pn 423 rfl ?_)
  refine s_iload_n (i := 3) (by decide +kernel) rfl (pn 424 rfl ?_)
  refine t_iconst (n := 1) (v := nI 1) (by decide +kernel) (by decide +kernel) (pn 425 rfl ?_)
  refine s_iadd (by decide +kernel) (pn 426 rfl ?_)
  refine t_iaload (v := M.1 4000 (i + 1)) (by decide +kernel) sc_ok (sc_at (i := i) (k := 1) hs1 (nI_add i 1) (by omega) hL) (by rw [nI_add, nI_clamp (by omega), e4]) (pn 427 rfl ?_)
  refine s_aload_n (i := 0) (by decide +kernel) rfl (pn 428 rfl ?_)
  refine s_iload_n (i := 3) (by decide +kernel) rfl (pn 429 rfl ?_)
  refine t_iconst (n := 2) (v := nI 2) (by decide +kernel) (by decide +kernel) (pn 430 rfl ?_)
  refine s_iadd (by decide +kernel) (pn 431 rfl ?_)
  refine t_iaload (v := M.1 4000 (i + 2)) (by decide +kernel) sc_ok (sc_at (i := i) (k := 2) hs1 (nI_add i 2) (by omega) hL) (by rw [nI_add, nI_clamp (by omega), e4]) (pn 432 rfl ?_)
  refine s_callvI (ix := 39) (y := yM_claims) [.int (M.1 4000 (i + 1)), .int (M.1 4000 (i + 2))] rfl (by decide +kernel) mv_13_39 np_221 (Nat.le_of_ble_eq_true rfl) lq_159 ((congrArg Prod.fst sh_159).trans oc_221) (cI_use (cI_sc h) (fun v2 s2 M2 h2 => (pn 435 rfl ?_)))
  obtain ⟨e5, -, ev, hI2⟩ := h2
  subst ev
  refine s_icmp_eq (off := 1217) (tgt := 1652) (by decide +kernel) rfl (fun _ => ?_) (fun c => absurd rfl c)
  exact next s2 M2 hI2 (e5.trans e4)
theorem law_burden {d L i : Nat} {s : pm_S} {M : pm_M} (hd : 100 ≤ d) (hI : Inv L s M) (h6 : i + 6 ≤ L) (hL : L ≤ 3072) (next : ∀ s1 M1, Inv L s1 M1 → M1.1 4000 = M.1 4000 → wLaw d 1652 [.ref 4000, .ref 0, .ref 159, .int (nI i)] [] s1 M1) : wLaw d 440 [.ref 4000, .ref 0, .ref 159, .int (nI i)] [] s M := by
  have hs : s.1 = L := hI.1.1
  show pm_wp (pm_cal d) code 13 (some .boolean) false 440 [.ref 4000, .ref 0, .ref 159, .int (nI i)] [] (EE s) M lawQ
  refine s_aload_n (i := 1) (by decide +kernel) rfl (pn 441 rfl ?_)
  refine s_aload_n (i := 0) (by decide +kernel) rfl (pn 442 rfl ?_)
  refine s_iload_n (i := 3) (by decide +kernel) rfl (pn 443 rfl ?_)
  refine t_iconst (n := 1) (v := nI 1) (by decide +kernel) (by decide +kernel) (pn 444 rfl ?_)
  refine s_iadd (by decide +kernel) (pn 445 rfl ?_)
  refine t_iaload (v := M.1 4000 (i + 1)) (by decide +kernel) sc_ok (sc_at (i := i) (k := 1) hs (nI_add i 1) (by omega) hL) (by rw [nI_add, nI_clamp (by omega)]) (pn 446 rfl ?_)
  refine s_aload_n (i := 0) (by decide +kernel) rfl (pn 447 rfl ?_)
  refine s_iload_n (i := 3) (by decide +kernel) rfl (pn 448 rfl ?_)
  refine t_iconst (n := 2) (v := nI 2) (by decide +kernel) (by decide +kernel) (pn 449 rfl ?_)
  refine s_iadd (by decide +kernel) (pn 450 rfl ?_)
  refine t_iaload (v := M.1 4000 (i + 2)) (by decide +kernel) sc_ok (sc_at (i := i) (k := 2) hs (nI_add i 2) (by omega) hL) (by rw [nI_add, nI_clamp (by omega)]) (pn 451 rfl ?_)
  refine s_callvI (ix := 40) (y := yG_burden) [.int (M.1 4000 (i + 1)), .int (M.1 4000 (i + 2))] rfl (by decide +kernel) mv_13_40 np_129 (Nat.le_of_ble_eq_true rfl) lq_0 ((congrArg Prod.fst sh_0).trans oc_129) (cI_use (cI_sc (op_burden (L := L) (by omega) hI)) (fun v s1 M1 h => (pn 454 rfl ?_)))
  obtain ⟨e4, hs1, h⟩ := h
  rw [hs] at hs1
  refine s_aload_n (i := 2) (by decide +kernel) rfl (pn 455 rfl ?_)
  refine s_aload_n (i := 0) (by decide +kernel) rfl (pn 456 rfl ?_)
  refine s_iload_n (i := 3) (by decide +kernel) rfl (pn 457 rfl ?_)
  refine t_iconst (n := 1) (v := nI 1) (by decide +kernel) (by decide +kernel) (pn 458 rfl ?_)
  refine s_iadd (by decide +kernel) (pn 459 rfl ?_)
  refine t_iaload (v := M.1 4000 (i + 1)) (by decide +kernel) sc_ok (sc_at (i := i) (k := 1) hs1 (nI_add i 1) (by omega) hL) (by rw [nI_add, nI_clamp (by omega), e4]) (pn 460 rfl ?_)
  refine s_aload_n (i := 0) (by decide +kernel) rfl (pn 461 rfl ?_)
  refine s_iload_n (i := 3) (by decide +kernel) rfl (pn 462 rfl ?_)
  refine t_iconst (n := 2) (v := nI 2) (by decide +kernel) (by decide +kernel) (pn 463 rfl ?_)
  refine s_iadd (by decide +kernel) (pn 464 rfl ?_)
  refine t_iaload (v := M.1 4000 (i + 2)) (by decide +kernel) sc_ok (sc_at (i := i) (k := 2) hs1 (nI_add i 2) (by omega) hL) (by rw [nI_add, nI_clamp (by omega), e4]) (pn 465 rfl ?_)
  refine s_callvI (ix := 43) (y := yM_burden) [.int (M.1 4000 (i + 1)), .int (M.1 4000 (i + 2))] rfl (by decide +kernel) mv_13_43 np_225 (Nat.le_of_ble_eq_true rfl) lq_159 ((congrArg Prod.fst sh_159).trans oc_225) (cI_use (cI_sc h) (fun v2 s2 M2 h2 => (pn 468 rfl ?_)))
  obtain ⟨e5, -, ev, hI2⟩ := h2
  subst ev
  refine s_icmp_eq (off := 1184) (tgt := 1652) (by decide +kernel) rfl (fun _ => ?_) (fun c => absurd rfl c)
  exact next s2 M2 hI2 (e5.trans e4)
theorem law_seed {d L i : Nat} {s : pm_S} {M : pm_M} (hd : 100 ≤ d) (hI : Inv L s M) (h6 : i + 6 ≤ L) (hL : L ≤ 3072) (next : ∀ s1 M1, Inv L s1 M1 → M1.1 4000 = M.1 4000 → wLaw d 1652 [.ref 4000, .ref 0, .ref 159, .int (nI i)] [] s1 M1) : wLaw d 473 [.ref 4000, .ref 0, .ref 159, .int (nI i)] [] s M := by
  have hs : s.1 = L := hI.1.1
  show pm_wp (pm_cal d) code 13 (some .boolean) false 473 [.ref 4000, .ref 0, .ref 159, .int (nI i)] [] (EE s) M lawQ
  refine s_aload_n (i := 1) (by decide +kernel) rfl (pn 474 rfl ?_)
  refine s_aload_n (i := 0) (by decide +kernel) rfl (pn 475 rfl ?_)
  refine s_iload_n (i := 3) (by decide +kernel) rfl (pn 476 rfl ?_)
  refine t_iconst (n := 1) (v := nI 1) (by decide +kernel) (by decide +kernel) (pn 477 rfl ?_)
  refine s_iadd (by decide +kernel) (pn 478 rfl ?_)
  refine t_iaload (v := M.1 4000 (i + 1)) (by decide +kernel) sc_ok (sc_at (i := i) (k := 1) hs (nI_add i 1) (by omega) hL) (by rw [nI_add, nI_clamp (by omega)]) (pn 479 rfl ?_)
  refine s_callvI (ix := 44) (y := yG_seed) [.int (M.1 4000 (i + 1))] rfl (by decide +kernel) mv_13_44 np_130 (Nat.le_of_ble_eq_true rfl) lq_0 ((congrArg Prod.fst sh_0).trans oc_130) (cI_use (cI_sc (op_seed (L := L) (by omega) hI)) (fun v s1 M1 h => (pn 482 rfl ?_)))
  obtain ⟨e4, hs1, h⟩ := h
  rw [hs] at hs1
  refine s_aload_n (i := 2) (by decide +kernel) rfl (pn 483 rfl ?_)
  refine s_aload_n (i := 0) (by decide +kernel) rfl (pn 484 rfl ?_)
  refine s_iload_n (i := 3) (by decide +kernel) rfl (pn 485 rfl ?_)
  refine t_iconst (n := 1) (v := nI 1) (by decide +kernel) (by decide +kernel) (pn 486 rfl ?_)
  refine s_iadd (by decide +kernel) (pn 487 rfl ?_)
  refine t_iaload (v := M.1 4000 (i + 1)) (by decide +kernel) sc_ok (sc_at (i := i) (k := 1) hs1 (nI_add i 1) (by omega) hL) (by rw [nI_add, nI_clamp (by omega), e4]) (pn 488 rfl ?_)
  refine s_callvI (ix := 47) (y := yM_seed) [.int (M.1 4000 (i + 1))] rfl (by decide +kernel) mv_13_47 np_228 (Nat.le_of_ble_eq_true rfl) lq_159 ((congrArg Prod.fst sh_159).trans oc_228) (cI_use (cI_sc h) (fun v2 s2 M2 h2 => (pn 491 rfl ?_)))
  obtain ⟨e5, -, ev, hI2⟩ := h2
  subst ev
  refine s_icmp_eq (off := 1161) (tgt := 1652) (by decide +kernel) rfl (fun _ => ?_) (fun c => absurd rfl c)
  exact next s2 M2 hI2 (e5.trans e4)
theorem law_leave {d L i : Nat} {s : pm_S} {M : pm_M} (hd : 100 ≤ d) (hI : Inv L s M) (h6 : i + 6 ≤ L) (hL : L ≤ 3072) (next : ∀ s1 M1, Inv L s1 M1 → M1.1 4000 = M.1 4000 → wLaw d 1652 [.ref 4000, .ref 0, .ref 159, .int (nI i)] [] s1 M1) : wLaw d 496 [.ref 4000, .ref 0, .ref 159, .int (nI i)] [] s M := by
  have hs : s.1 = L := hI.1.1
  show pm_wp (pm_cal d) code 13 (some .boolean) false 496 [.ref 4000, .ref 0, .ref 159, .int (nI i)] [] (EE s) M lawQ
  refine s_aload_n (i := 1) (by decide +kernel) rfl (pn 497 rfl ?_)
  refine s_aload_n (i := 0) (by decide +kernel) rfl (pn 498 rfl ?_)
  refine s_iload_n (i := 3) (by decide +kernel) rfl (pn 499 rfl ?_)
  refine t_iconst (n := 1) (v := nI 1) (by decide +kernel) (by decide +kernel) (pn 500 rfl ?_)
  refine s_iadd (by decide +kernel) (pn 501 rfl ?_)
  refine t_iaload (v := M.1 4000 (i + 1)) (by decide +kernel) sc_ok (sc_at (i := i) (k := 1) hs (nI_add i 1) (by omega) hL) (by rw [nI_add, nI_clamp (by omega)]) (pn 502 rfl ?_)
  refine s_callvI (ix := 48) (y := yG_leave) [.int (M.1 4000 (i + 1))] rfl (by decide +kernel) mv_13_48 np_132 (Nat.le_of_ble_eq_true rfl) lq_0 ((congrArg Prod.fst sh_0).trans oc_132) (cI_use (cI_sc (op_leave (L := L) (by omega) hI)) (fun v s1 M1 h => (pn 505 rfl ?_)))
  obtain ⟨e4, hs1, h⟩ := h
  rw [hs] at hs1
  refine s_aload_n (i := 2) (by decide +kernel) rfl (pn 506 rfl ?_)
  refine s_aload_n (i := 0) (by decide +kernel) rfl (pn 507 rfl ?_)
  refine s_iload_n (i := 3) (by decide +kernel) rfl (pn 508 rfl ?_)
  refine t_iconst (n := 1) (v := nI 1) (by decide +kernel) (by decide +kernel) (pn 509 rfl ?_)
  refine s_iadd (by decide +kernel) (pn 510 rfl ?_)
  refine t_iaload (v := M.1 4000 (i + 1)) (by decide +kernel) sc_ok (sc_at (i := i) (k := 1) hs1 (nI_add i 1) (by omega) hL) (by rw [nI_add, nI_clamp (by omega), e4]) (pn 511 rfl ?_)
  refine s_callvI (ix := 51) (y := yM_leave) [.int (M.1 4000 (i + 1))] rfl (by decide +kernel) mv_13_51 np_231 (Nat.le_of_ble_eq_true rfl) lq_159 ((congrArg Prod.fst sh_159).trans oc_231) (cI_use (cI_sc h) (fun v2 s2 M2 h2 => (pn 514 rfl ?_)))
  obtain ⟨e5, -, ev, hI2⟩ := h2
  subst ev
  refine s_icmp_eq (off := 1138) (tgt := 1652) (by decide +kernel) rfl (fun _ => ?_) (fun c => absurd rfl c)
  exact next s2 M2 hI2 (e5.trans e4)
theorem law_fetch {d L i : Nat} {s : pm_S} {M : pm_M} (hd : 100 ≤ d) (hI : Inv L s M) (h6 : i + 6 ≤ L) (hL : L ≤ 3072) (next : ∀ s1 M1, Inv L s1 M1 → M1.1 4000 = M.1 4000 → wLaw d 1652 [.ref 4000, .ref 0, .ref 159, .int (nI i)] [] s1 M1) : wLaw d 519 [.ref 4000, .ref 0, .ref 159, .int (nI i)] [] s M := by
  have hs : s.1 = L := hI.1.1
  show pm_wp (pm_cal d) code 13 (some .boolean) false 519 [.ref 4000, .ref 0, .ref 159, .int (nI i)] [] (EE s) M lawQ
  refine s_aload_n (i := 1) (by decide +kernel) rfl (pn 520 rfl ?_)
  refine s_aload_n (i := 0) (by decide +kernel) rfl (pn 521 rfl ?_)
  refine s_iload_n (i := 3) (by decide +kernel) rfl (pn 522 rfl ?_)
  refine t_iconst (n := 1) (v := nI 1) (by decide +kernel) (by decide +kernel) (pn 523 rfl ?_)
  refine s_iadd (by decide +kernel) (pn 524 rfl ?_)
  refine t_iaload (v := M.1 4000 (i + 1)) (by decide +kernel) sc_ok (sc_at (i := i) (k := 1) hs (nI_add i 1) (by omega) hL) (by rw [nI_add, nI_clamp (by omega)]) (pn 525 rfl ?_)
  refine s_aload_n (i := 0) (by decide +kernel) rfl (pn 526 rfl ?_)
  refine s_iload_n (i := 3) (by decide +kernel) rfl (pn 527 rfl ?_)
  refine t_iconst (n := 2) (v := nI 2) (by decide +kernel) (by decide +kernel) (pn 528 rfl ?_)
  refine s_iadd (by decide +kernel) (pn 529 rfl ?_)
  refine t_iaload (v := M.1 4000 (i + 2)) (by decide +kernel) sc_ok (sc_at (i := i) (k := 2) hs (nI_add i 2) (by omega) hL) (by rw [nI_add, nI_clamp (by omega)]) (pn 530 rfl ?_)
  refine s_callvI (ix := 52) (y := yG_fetch) [.int (M.1 4000 (i + 1)), .int (M.1 4000 (i + 2))] rfl (by decide +kernel) mv_13_52 np_134 (Nat.le_of_ble_eq_true rfl) lq_0 ((congrArg Prod.fst sh_0).trans oc_134) (cI_use (cI_sc (op_fetch (L := L) (by omega) hI)) (fun v s1 M1 h => (pn 533 rfl ?_)))
  obtain ⟨e4, hs1, h⟩ := h
  rw [hs] at hs1
  refine s_aload_n (i := 2) (by decide +kernel) rfl (pn 534 rfl ?_)
  refine s_aload_n (i := 0) (by decide +kernel) rfl (pn 535 rfl ?_)
  refine s_iload_n (i := 3) (by decide +kernel) rfl (pn 536 rfl ?_)
  refine t_iconst (n := 1) (v := nI 1) (by decide +kernel) (by decide +kernel) (pn 537 rfl ?_)
  refine s_iadd (by decide +kernel) (pn 538 rfl ?_)
  refine t_iaload (v := M.1 4000 (i + 1)) (by decide +kernel) sc_ok (sc_at (i := i) (k := 1) hs1 (nI_add i 1) (by omega) hL) (by rw [nI_add, nI_clamp (by omega), e4]) (pn 539 rfl ?_)
  refine s_aload_n (i := 0) (by decide +kernel) rfl (pn 540 rfl ?_)
  refine s_iload_n (i := 3) (by decide +kernel) rfl (pn 541 rfl ?_)
  refine t_iconst (n := 2) (v := nI 2) (by decide +kernel) (by decide +kernel) (pn 542 rfl ?_)
  refine s_iadd (by decide +kernel) (pn 543 rfl ?_)
  refine t_iaload (v := M.1 4000 (i + 2)) (by decide +kernel) sc_ok (sc_at (i := i) (k := 2) hs1 (nI_add i 2) (by omega) hL) (by rw [nI_add, nI_clamp (by omega), e4]) (pn 544 rfl ?_)
  refine s_callvI (ix := 55) (y := yM_fetch) [.int (M.1 4000 (i + 1)), .int (M.1 4000 (i + 2))] rfl (by decide +kernel) mv_13_55 np_234 (Nat.le_of_ble_eq_true rfl) lq_159 ((congrArg Prod.fst sh_159).trans oc_234) (cI_use (cI_sc h) (fun v2 s2 M2 h2 => (pn 547 rfl ?_)))
  obtain ⟨e5, -, ev, hI2⟩ := h2
  subst ev
  refine s_icmp_eq (off := 1105) (tgt := 1652) (by decide +kernel) rfl (fun _ => ?_) (fun c => absurd rfl c)
  exact next s2 M2 hI2 (e5.trans e4)
theorem law_open {d L i : Nat} {s : pm_S} {M : pm_M} (hd : 100 ≤ d) (hI : Inv L s M) (h6 : i + 6 ≤ L) (hL : L ≤ 3072) (next : ∀ s1 M1, Inv L s1 M1 → M1.1 4000 = M.1 4000 → wLaw d 1652 [.ref 4000, .ref 0, .ref 159, .int (nI i)] [] s1 M1) : wLaw d 552 [.ref 4000, .ref 0, .ref 159, .int (nI i)] [] s M := by
  have hs : s.1 = L := hI.1.1
  show pm_wp (pm_cal d) code 13 (some .boolean) false 552 [.ref 4000, .ref 0, .ref 159, .int (nI i)] [] (EE s) M lawQ
  refine s_aload_n (i := 1) (by decide +kernel) rfl (pn 553 rfl ?_)
  refine s_aload_n (i := 0) (by decide +kernel) rfl (pn 554 rfl ?_)
  refine s_iload_n (i := 3) (by decide +kernel) rfl (pn 555 rfl ?_)
  refine t_iconst (n := 1) (v := nI 1) (by decide +kernel) (by decide +kernel) (pn 556 rfl ?_)
  refine s_iadd (by decide +kernel) (pn 557 rfl ?_)
  refine t_iaload (v := M.1 4000 (i + 1)) (by decide +kernel) sc_ok (sc_at (i := i) (k := 1) hs (nI_add i 1) (by omega) hL) (by rw [nI_add, nI_clamp (by omega)]) (pn 558 rfl ?_)
  refine s_callvI (ix := 56) (y := yG_open) [.int (M.1 4000 (i + 1))] rfl (by decide +kernel) mv_13_56 np_135 (Nat.le_of_ble_eq_true rfl) lq_0 ((congrArg Prod.fst sh_0).trans oc_135) (cI_use (cI_sc (op_open (L := L) (by omega) hI)) (fun v s1 M1 h => (pn 561 rfl ?_)))
  obtain ⟨e4, hs1, h⟩ := h
  rw [hs] at hs1
  refine s_aload_n (i := 2) (by decide +kernel) rfl (pn 562 rfl ?_)
  refine s_aload_n (i := 0) (by decide +kernel) rfl (pn 563 rfl ?_)
  refine s_iload_n (i := 3) (by decide +kernel) rfl (pn 564 rfl ?_)
  refine t_iconst (n := 1) (v := nI 1) (by decide +kernel) (by decide +kernel) (pn 565 rfl ?_)
  refine s_iadd (by decide +kernel) (pn 566 rfl ?_)
  refine t_iaload (v := M.1 4000 (i + 1)) (by decide +kernel) sc_ok (sc_at (i := i) (k := 1) hs1 (nI_add i 1) (by omega) hL) (by rw [nI_add, nI_clamp (by omega), e4]) (pn 567 rfl ?_)
  refine s_callvI (ix := 59) (y := yM_open) [.int (M.1 4000 (i + 1))] rfl (by decide +kernel) mv_13_59 np_238 (Nat.le_of_ble_eq_true rfl) lq_159 ((congrArg Prod.fst sh_159).trans oc_238) (cI_use (cI_sc h) (fun v2 s2 M2 h2 => (pn 570 rfl ?_)))
  obtain ⟨e5, -, ev, hI2⟩ := h2
  subst ev
  refine s_icmp_eq (off := 1082) (tgt := 1652) (by decide +kernel) rfl (fun _ => ?_) (fun c => absurd rfl c)
  exact next s2 M2 hI2 (e5.trans e4)
theorem law_swap {d L i : Nat} {s : pm_S} {M : pm_M} (hd : 100 ≤ d) (hI : Inv L s M) (h6 : i + 6 ≤ L) (hL : L ≤ 3072) (next : ∀ s1 M1, Inv L s1 M1 → M1.1 4000 = M.1 4000 → wLaw d 1652 [.ref 4000, .ref 0, .ref 159, .int (nI i)] [] s1 M1) : wLaw d 575 [.ref 4000, .ref 0, .ref 159, .int (nI i)] [] s M := by
  have hs : s.1 = L := hI.1.1
  show pm_wp (pm_cal d) code 13 (some .boolean) false 575 [.ref 4000, .ref 0, .ref 159, .int (nI i)] [] (EE s) M lawQ
  refine s_aload_n (i := 1) (by decide +kernel) rfl (pn 576 rfl ?_)
  refine s_aload_n (i := 0) (by decide +kernel) rfl (pn 577 rfl ?_)
  refine s_iload_n (i := 3) (by decide +kernel) rfl (pn 578 rfl ?_)
  refine t_iconst (n := 1) (v := nI 1) (by decide +kernel) (by decide +kernel) (pn 579 rfl ?_)
  refine s_iadd (by decide +kernel) (pn 580 rfl ?_)
  refine t_iaload (v := M.1 4000 (i + 1)) (by decide +kernel) sc_ok (sc_at (i := i) (k := 1) hs (nI_add i 1) (by omega) hL) (by rw [nI_add, nI_clamp (by omega)]) (pn 581 rfl ?_)
  refine s_aload_n (i := 0) (by decide +kernel) rfl (pn 582 rfl ?_)
  refine s_iload_n (i := 3) (by decide +kernel) rfl (pn 583 rfl ?_)
  refine t_iconst (n := 2) (v := nI 2) (by decide +kernel) (by decide +kernel) (pn 584 rfl ?_)
  refine s_iadd (by decide +kernel) (pn 585 rfl ?_)
  refine t_iaload (v := M.1 4000 (i + 2)) (by decide +kernel) sc_ok (sc_at (i := i) (k := 2) hs (nI_add i 2) (by omega) hL) (by rw [nI_add, nI_clamp (by omega)]) (pn 586 rfl ?_)
  refine s_callvI (ix := 60) (y := yG_swap) [.int (M.1 4000 (i + 1)), .int (M.1 4000 (i + 2))] rfl (by decide +kernel) mv_13_60 np_136 (Nat.le_of_ble_eq_true rfl) lq_0 ((congrArg Prod.fst sh_0).trans oc_136) (cI_use (cI_sc (op_swap (L := L) (by omega) hI)) (fun v s1 M1 h => (pn 589 rfl ?_)))
  obtain ⟨e4, hs1, h⟩ := h
  rw [hs] at hs1
  refine s_aload_n (i := 2) (by decide +kernel) rfl (pn 590 rfl ?_)
  refine s_aload_n (i := 0) (by decide +kernel) rfl (pn 591 rfl ?_)
  refine s_iload_n (i := 3) (by decide +kernel) rfl (pn 592 rfl ?_)
  refine t_iconst (n := 1) (v := nI 1) (by decide +kernel) (by decide +kernel) (pn 593 rfl ?_)
  refine s_iadd (by decide +kernel) (pn 594 rfl ?_)
  refine t_iaload (v := M.1 4000 (i + 1)) (by decide +kernel) sc_ok (sc_at (i := i) (k := 1) hs1 (nI_add i 1) (by omega) hL) (by rw [nI_add, nI_clamp (by omega), e4]) (pn 595 rfl ?_)
  refine s_aload_n (i := 0) (by decide +kernel) rfl (pn 596 rfl ?_)
  refine s_iload_n (i := 3) (by decide +kernel) rfl (pn 597 rfl ?_)
  refine t_iconst (n := 2) (v := nI 2) (by decide +kernel) (by decide +kernel) (pn 598 rfl ?_)
  refine s_iadd (by decide +kernel) (pn 599 rfl ?_)
  refine t_iaload (v := M.1 4000 (i + 2)) (by decide +kernel) sc_ok (sc_at (i := i) (k := 2) hs1 (nI_add i 2) (by omega) hL) (by rw [nI_add, nI_clamp (by omega), e4]) (pn 600 rfl ?_)
  refine s_callvI (ix := 63) (y := yM_swap) [.int (M.1 4000 (i + 1)), .int (M.1 4000 (i + 2))] rfl (by decide +kernel) mv_13_63 np_241 (Nat.le_of_ble_eq_true rfl) lq_159 ((congrArg Prod.fst sh_159).trans oc_241) (cI_use (cI_sc h) (fun v2 s2 M2 h2 => (pn 603 rfl ?_)))
  obtain ⟨e5, -, ev, hI2⟩ := h2
  subst ev
  refine s_icmp_eq (off := 1049) (tgt := 1652) (by decide +kernel) rfl (fun _ => ?_) (fun c => absurd rfl c)
  exact next s2 M2 hI2 (e5.trans e4)
theorem law_mark {d L i : Nat} {s : pm_S} {M : pm_M} (hd : 100 ≤ d) (hI : Inv L s M) (h6 : i + 6 ≤ L) (hL : L ≤ 3072) (next : ∀ s1 M1, Inv L s1 M1 → M1.1 4000 = M.1 4000 → wLaw d 1652 [.ref 4000, .ref 0, .ref 159, .int (nI i)] [] s1 M1) : wLaw d 608 [.ref 4000, .ref 0, .ref 159, .int (nI i)] [] s M := by
  have hs : s.1 = L := hI.1.1
  show pm_wp (pm_cal d) code 13 (some .boolean) false 608 [.ref 4000, .ref 0, .ref 159, .int (nI i)] [] (EE s) M lawQ
  refine s_aload_n (i := 1) (by decide +kernel) rfl (pn 609 rfl ?_)
  refine s_aload_n (i := 0) (by decide +kernel) rfl (pn 610 rfl ?_)
  refine s_iload_n (i := 3) (by decide +kernel) rfl (pn 611 rfl ?_)
  refine t_iconst (n := 1) (v := nI 1) (by decide +kernel) (by decide +kernel) (pn 612 rfl ?_)
  refine s_iadd (by decide +kernel) (pn 613 rfl ?_)
  refine t_iaload (v := M.1 4000 (i + 1)) (by decide +kernel) sc_ok (sc_at (i := i) (k := 1) hs (nI_add i 1) (by omega) hL) (by rw [nI_add, nI_clamp (by omega)]) (pn 614 rfl ?_)
  refine s_aload_n (i := 0) (by decide +kernel) rfl (pn 615 rfl ?_)
  refine s_iload_n (i := 3) (by decide +kernel) rfl (pn 616 rfl ?_)
  refine t_iconst (n := 2) (v := nI 2) (by decide +kernel) (by decide +kernel) (pn 617 rfl ?_)
  refine s_iadd (by decide +kernel) (pn 618 rfl ?_)
  refine t_iaload (v := M.1 4000 (i + 2)) (by decide +kernel) sc_ok (sc_at (i := i) (k := 2) hs (nI_add i 2) (by omega) hL) (by rw [nI_add, nI_clamp (by omega)]) (pn 619 rfl ?_)
  refine s_callvI (ix := 64) (y := yG_mark) [.int (M.1 4000 (i + 1)), .int (M.1 4000 (i + 2))] rfl (by decide +kernel) mv_13_64 np_137 (Nat.le_of_ble_eq_true rfl) lq_0 ((congrArg Prod.fst sh_0).trans oc_137) (cI_use (cI_sc (op_mark (L := L) (by omega) hI)) (fun v s1 M1 h => (pn 622 rfl ?_)))
  obtain ⟨e4, hs1, h⟩ := h
  rw [hs] at hs1
  refine s_aload_n (i := 2) (by decide +kernel) rfl (pn 623 rfl ?_)
  refine s_aload_n (i := 0) (by decide +kernel) rfl (pn 624 rfl ?_)
  refine s_iload_n (i := 3) (by decide +kernel) rfl (pn 625 rfl ?_)
  refine t_iconst (n := 1) (v := nI 1) (by decide +kernel) (by decide +kernel) (pn 626 rfl ?_)
  refine s_iadd (by decide +kernel) (pn 627 rfl ?_)
  refine t_iaload (v := M.1 4000 (i + 1)) (by decide +kernel) sc_ok (sc_at (i := i) (k := 1) hs1 (nI_add i 1) (by omega) hL) (by rw [nI_add, nI_clamp (by omega), e4]) (pn 628 rfl ?_)
  refine s_aload_n (i := 0) (by decide +kernel) rfl (pn 629 rfl ?_)
  refine s_iload_n (i := 3) (by decide +kernel) rfl (pn 630 rfl ?_)
  refine t_iconst (n := 2) (v := nI 2) (by decide +kernel) (by decide +kernel) (pn 631 rfl ?_)
  refine s_iadd (by decide +kernel) (pn 632 rfl ?_)
  refine t_iaload (v := M.1 4000 (i + 2)) (by decide +kernel) sc_ok (sc_at (i := i) (k := 2) hs1 (nI_add i 2) (by omega) hL) (by rw [nI_add, nI_clamp (by omega), e4]) (pn 633 rfl ?_)
  refine s_callvI (ix := 67) (y := yM_mark) [.int (M.1 4000 (i + 1)), .int (M.1 4000 (i + 2))] rfl (by decide +kernel) mv_13_67 np_245 (Nat.le_of_ble_eq_true rfl) lq_159 ((congrArg Prod.fst sh_159).trans oc_245) (cI_use (cI_sc h) (fun v2 s2 M2 h2 => (pn 636 rfl ?_)))
  obtain ⟨e5, -, ev, hI2⟩ := h2
  subst ev
  refine s_icmp_eq (off := 1016) (tgt := 1652) (by decide +kernel) rfl (fun _ => ?_) (fun c => absurd rfl c)
  exact next s2 M2 hI2 (e5.trans e4)
theorem law_days {d L i : Nat} {s : pm_S} {M : pm_M} (hd : 100 ≤ d) (hI : Inv L s M) (h6 : i + 6 ≤ L) (hL : L ≤ 3072) (next : ∀ s1 M1, Inv L s1 M1 → M1.1 4000 = M.1 4000 → wLaw d 1652 [.ref 4000, .ref 0, .ref 159, .int (nI i)] [] s1 M1) : wLaw d 641 [.ref 4000, .ref 0, .ref 159, .int (nI i)] [] s M := by
  have hs : s.1 = L := hI.1.1
  show pm_wp (pm_cal d) code 13 (some .boolean) false 641 [.ref 4000, .ref 0, .ref 159, .int (nI i)] [] (EE s) M lawQ
  refine s_aload_n (i := 1) (by decide +kernel) rfl (pn 642 rfl ?_)
  refine s_aload_n (i := 0) (by decide +kernel) rfl (pn 643 rfl ?_)
  refine s_iload_n (i := 3) (by decide +kernel) rfl (pn 644 rfl ?_)
  refine t_iconst (n := 1) (v := nI 1) (by decide +kernel) (by decide +kernel) (pn 645 rfl ?_)
  refine s_iadd (by decide +kernel) (pn 646 rfl ?_)
  refine t_iaload (v := M.1 4000 (i + 1)) (by decide +kernel) sc_ok (sc_at (i := i) (k := 1) hs (nI_add i 1) (by omega) hL) (by rw [nI_add, nI_clamp (by omega)]) (pn 647 rfl ?_)
  refine s_callvI (ix := 68) (y := yG_days) [.int (M.1 4000 (i + 1))] rfl (by decide +kernel) mv_13_68 np_138 (Nat.le_of_ble_eq_true rfl) lq_0 ((congrArg Prod.fst sh_0).trans oc_138) (cI_use (cI_sc (op_days (L := L) (by omega) hI)) (fun v s1 M1 h => (pn 650 rfl ?_)))
  obtain ⟨e4, hs1, h⟩ := h
  rw [hs] at hs1
  refine s_aload_n (i := 2) (by decide +kernel) rfl (pn 651 rfl ?_)
  refine s_aload_n (i := 0) (by decide +kernel) rfl (pn 652 rfl ?_)
  refine s_iload_n (i := 3) (by decide +kernel) rfl (pn 653 rfl ?_)
  refine t_iconst (n := 1) (v := nI 1) (by decide +kernel) (by decide +kernel) (pn 654 rfl ?_)
  refine s_iadd (by decide +kernel) (pn 655 rfl ?_)
  refine t_iaload (v := M.1 4000 (i + 1)) (by decide +kernel) sc_ok (sc_at (i := i) (k := 1) hs1 (nI_add i 1) (by omega) hL) (by rw [nI_add, nI_clamp (by omega), e4]) (pn 656 rfl ?_)
  refine s_callvI (ix := 71) (y := yM_days) [.int (M.1 4000 (i + 1))] rfl (by decide +kernel) mv_13_71 np_246 (Nat.le_of_ble_eq_true rfl) lq_159 ((congrArg Prod.fst sh_159).trans oc_246) (cI_use (cI_sc h) (fun v2 s2 M2 h2 => (pn 659 rfl ?_)))
  obtain ⟨e5, -, ev, hI2⟩ := h2
  subst ev
  refine s_icmp_eq (off := 993) (tgt := 1652) (by decide +kernel) rfl (fun _ => ?_) (fun c => absurd rfl c)
  exact next s2 M2 hI2 (e5.trans e4)
theorem law_undo {d L i : Nat} {s : pm_S} {M : pm_M} (hd : 100 ≤ d) (hI : Inv L s M) (h6 : i + 6 ≤ L) (hL : L ≤ 3072) (next : ∀ s1 M1, Inv L s1 M1 → M1.1 4000 = M.1 4000 → wLaw d 1652 [.ref 4000, .ref 0, .ref 159, .int (nI i)] [] s1 M1) : wLaw d 664 [.ref 4000, .ref 0, .ref 159, .int (nI i)] [] s M := by
  have hs : s.1 = L := hI.1.1
  show pm_wp (pm_cal d) code 13 (some .boolean) false 664 [.ref 4000, .ref 0, .ref 159, .int (nI i)] [] (EE s) M lawQ
  refine s_aload_n (i := 1) (by decide +kernel) rfl (pn 665 rfl ?_)
  refine s_aload_n (i := 0) (by decide +kernel) rfl (pn 666 rfl ?_)
  refine s_iload_n (i := 3) (by decide +kernel) rfl (pn 667 rfl ?_)
  refine t_iconst (n := 1) (v := nI 1) (by decide +kernel) (by decide +kernel) (pn 668 rfl ?_)
  refine s_iadd (by decide +kernel) (pn 669 rfl ?_)
  refine t_iaload (v := M.1 4000 (i + 1)) (by decide +kernel) sc_ok (sc_at (i := i) (k := 1) hs (nI_add i 1) (by omega) hL) (by rw [nI_add, nI_clamp (by omega)]) (pn 670 rfl ?_)
  refine s_callvI (ix := 72) (y := yG_undo) [.int (M.1 4000 (i + 1))] rfl (by decide +kernel) mv_13_72 np_139 (Nat.le_of_ble_eq_true rfl) lq_0 ((congrArg Prod.fst sh_0).trans oc_139) (cI_use (cI_sc (op_undo (L := L) (by omega) hI)) (fun v s1 M1 h => (pn 673 rfl ?_)))
  obtain ⟨e4, hs1, h⟩ := h
  rw [hs] at hs1
  refine s_aload_n (i := 2) (by decide +kernel) rfl (pn 674 rfl ?_)
  refine s_aload_n (i := 0) (by decide +kernel) rfl (pn 675 rfl ?_)
  refine s_iload_n (i := 3) (by decide +kernel) rfl (pn 676 rfl ?_)
  refine t_iconst (n := 1) (v := nI 1) (by decide +kernel) (by decide +kernel) (pn 677 rfl ?_)
  refine s_iadd (by decide +kernel) (pn 678 rfl ?_)
  refine t_iaload (v := M.1 4000 (i + 1)) (by decide +kernel) sc_ok (sc_at (i := i) (k := 1) hs1 (nI_add i 1) (by omega) hL) (by rw [nI_add, nI_clamp (by omega), e4]) (pn 679 rfl ?_)
  refine s_callvI (ix := 75) (y := yM_undo) [.int (M.1 4000 (i + 1))] rfl (by decide +kernel) mv_13_75 np_251 (Nat.le_of_ble_eq_true rfl) lq_159 ((congrArg Prod.fst sh_159).trans oc_251) (cI_use (cI_sc h) (fun v2 s2 M2 h2 => (pn 682 rfl ?_)))
  obtain ⟨e5, -, ev, hI2⟩ := h2
  subst ev
  refine s_icmp_eq (off := 970) (tgt := 1652) (by decide +kernel) rfl (fun _ => ?_) (fun c => absurd rfl c)
  exact next s2 M2 hI2 (e5.trans e4)
theorem law_judge {d L i : Nat} {s : pm_S} {M : pm_M} (hd : 100 ≤ d) (hI : Inv L s M) (h6 : i + 6 ≤ L) (hL : L ≤ 3072) (next : ∀ s1 M1, Inv L s1 M1 → M1.1 4000 = M.1 4000 → wLaw d 1652 [.ref 4000, .ref 0, .ref 159, .int (nI i)] [] s1 M1) : wLaw d 687 [.ref 4000, .ref 0, .ref 159, .int (nI i)] [] s M := by
  have hs : s.1 = L := hI.1.1
  show pm_wp (pm_cal d) code 13 (some .boolean) false 687 [.ref 4000, .ref 0, .ref 159, .int (nI i)] [] (EE s) M lawQ
  refine s_aload_n (i := 1) (by decide +kernel) rfl (pn 688 rfl ?_)
  refine s_aload_n (i := 0) (by decide +kernel) rfl (pn 689 rfl ?_)
  refine s_iload_n (i := 3) (by decide +kernel) rfl (pn 690 rfl ?_)
  refine t_iconst (n := 1) (v := nI 1) (by decide +kernel) (by decide +kernel) (pn 691 rfl ?_)
  refine s_iadd (by decide +kernel) (pn 692 rfl ?_)
  refine t_iaload (v := M.1 4000 (i + 1)) (by decide +kernel) sc_ok (sc_at (i := i) (k := 1) hs (nI_add i 1) (by omega) hL) (by rw [nI_add, nI_clamp (by omega)]) (pn 693 rfl ?_)
  refine s_aload_n (i := 0) (by decide +kernel) rfl (pn 694 rfl ?_)
  refine s_iload_n (i := 3) (by decide +kernel) rfl (pn 695 rfl ?_)
  refine t_iconst (n := 2) (v := nI 2) (by decide +kernel) (by decide +kernel) (pn 696 rfl ?_)
  refine s_iadd (by decide +kernel) (pn 697 rfl ?_)
  refine t_iaload (v := M.1 4000 (i + 2)) (by decide +kernel) sc_ok (sc_at (i := i) (k := 2) hs (nI_add i 2) (by omega) hL) (by rw [nI_add, nI_clamp (by omega)]) (pn 698 rfl ?_)
  refine s_callvI (ix := 76) (y := yG_judge) [.int (M.1 4000 (i + 1)), .int (M.1 4000 (i + 2))] rfl (by decide +kernel) mv_13_76 np_140 (Nat.le_of_ble_eq_true rfl) lq_0 ((congrArg Prod.fst sh_0).trans oc_140) (cI_use (cI_sc (op_judge (L := L) (by omega) hI)) (fun v s1 M1 h => (pn 701 rfl ?_)))
  obtain ⟨e4, hs1, h⟩ := h
  rw [hs] at hs1
  refine s_aload_n (i := 2) (by decide +kernel) rfl (pn 702 rfl ?_)
  refine s_aload_n (i := 0) (by decide +kernel) rfl (pn 703 rfl ?_)
  refine s_iload_n (i := 3) (by decide +kernel) rfl (pn 704 rfl ?_)
  refine t_iconst (n := 1) (v := nI 1) (by decide +kernel) (by decide +kernel) (pn 705 rfl ?_)
  refine s_iadd (by decide +kernel) (pn 706 rfl ?_)
  refine t_iaload (v := M.1 4000 (i + 1)) (by decide +kernel) sc_ok (sc_at (i := i) (k := 1) hs1 (nI_add i 1) (by omega) hL) (by rw [nI_add, nI_clamp (by omega), e4]) (pn 707 rfl ?_)
  refine s_aload_n (i := 0) (by decide +kernel) rfl (pn 708 rfl ?_)
  refine s_iload_n (i := 3) (by decide +kernel) rfl (pn 709 rfl ?_)
  refine t_iconst (n := 2) (v := nI 2) (by decide +kernel) (by decide +kernel) (pn 710 rfl ?_)
  refine s_iadd (by decide +kernel) (pn 711 rfl ?_)
  refine t_iaload (v := M.1 4000 (i + 2)) (by decide +kernel) sc_ok (sc_at (i := i) (k := 2) hs1 (nI_add i 2) (by omega) hL) (by rw [nI_add, nI_clamp (by omega), e4]) (pn 712 rfl ?_)
  refine s_callvI (ix := 79) (y := yM_judge) [.int (M.1 4000 (i + 1)), .int (M.1 4000 (i + 2))] rfl (by decide +kernel) mv_13_79 np_252 (Nat.le_of_ble_eq_true rfl) lq_159 ((congrArg Prod.fst sh_159).trans oc_252) (cI_use (cI_sc h) (fun v2 s2 M2 h2 => (pn 715 rfl ?_)))
  obtain ⟨e5, -, ev, hI2⟩ := h2
  subst ev
  refine s_icmp_eq (off := 937) (tgt := 1652) (by decide +kernel) rfl (fun _ => ?_) (fun c => absurd rfl c)
  exact next s2 M2 hI2 (e5.trans e4)
theorem law_perform {d L i : Nat} {s : pm_S} {M : pm_M} (hd : 100 ≤ d) (hI : Inv L s M) (h6 : i + 6 ≤ L) (hL : L ≤ 3072) (next : ∀ s1 M1, Inv L s1 M1 → M1.1 4000 = M.1 4000 → wLaw d 1652 [.ref 4000, .ref 0, .ref 159, .int (nI i)] [] s1 M1) : wLaw d 720 [.ref 4000, .ref 0, .ref 159, .int (nI i)] [] s M := by
  have hs : s.1 = L := hI.1.1
  show pm_wp (pm_cal d) code 13 (some .boolean) false 720 [.ref 4000, .ref 0, .ref 159, .int (nI i)] [] (EE s) M lawQ
  refine s_aload_n (i := 1) (by decide +kernel) rfl (pn 721 rfl ?_)
  refine s_aload_n (i := 0) (by decide +kernel) rfl (pn 722 rfl ?_)
  refine s_iload_n (i := 3) (by decide +kernel) rfl (pn 723 rfl ?_)
  refine t_iconst (n := 1) (v := nI 1) (by decide +kernel) (by decide +kernel) (pn 724 rfl ?_)
  refine s_iadd (by decide +kernel) (pn 725 rfl ?_)
  refine t_iaload (v := M.1 4000 (i + 1)) (by decide +kernel) sc_ok (sc_at (i := i) (k := 1) hs (nI_add i 1) (by omega) hL) (by rw [nI_add, nI_clamp (by omega)]) (pn 726 rfl ?_)
  refine s_callvI (ix := 80) (y := yG_perform) [.int (M.1 4000 (i + 1))] rfl (by decide +kernel) mv_13_80 np_142 (Nat.le_of_ble_eq_true rfl) lq_0 ((congrArg Prod.fst sh_0).trans oc_142) (cI_use (cI_sc (op_perform (L := L) (by omega) hI)) (fun v s1 M1 h => (pn 729 rfl ?_)))
  obtain ⟨e4, hs1, h⟩ := h
  rw [hs] at hs1
  refine s_aload_n (i := 2) (by decide +kernel) rfl (pn 730 rfl ?_)
  refine s_aload_n (i := 0) (by decide +kernel) rfl (pn 731 rfl ?_)
  refine s_iload_n (i := 3) (by decide +kernel) rfl (pn 732 rfl ?_)
  refine t_iconst (n := 1) (v := nI 1) (by decide +kernel) (by decide +kernel) (pn 733 rfl ?_)
  refine s_iadd (by decide +kernel) (pn 734 rfl ?_)
  refine t_iaload (v := M.1 4000 (i + 1)) (by decide +kernel) sc_ok (sc_at (i := i) (k := 1) hs1 (nI_add i 1) (by omega) hL) (by rw [nI_add, nI_clamp (by omega), e4]) (pn 735 rfl ?_)
  refine s_callvI (ix := 83) (y := yM_perform) [.int (M.1 4000 (i + 1))] rfl (by decide +kernel) mv_13_83 np_259 (Nat.le_of_ble_eq_true rfl) lq_159 ((congrArg Prod.fst sh_159).trans oc_259) (cI_use (cI_sc h) (fun v2 s2 M2 h2 => (pn 738 rfl ?_)))
  obtain ⟨e5, -, ev, hI2⟩ := h2
  subst ev
  refine s_icmp_eq (off := 914) (tgt := 1652) (by decide +kernel) rfl (fun _ => ?_) (fun c => absurd rfl c)
  exact next s2 M2 hI2 (e5.trans e4)
theorem law_season {d L i : Nat} {s : pm_S} {M : pm_M} (hd : 100 ≤ d) (hI : Inv L s M) (h6 : i + 6 ≤ L) (hL : L ≤ 3072) (next : ∀ s1 M1, Inv L s1 M1 → M1.1 4000 = M.1 4000 → wLaw d 1652 [.ref 4000, .ref 0, .ref 159, .int (nI i)] [] s1 M1) : wLaw d 743 [.ref 4000, .ref 0, .ref 159, .int (nI i)] [] s M := by
  have hs : s.1 = L := hI.1.1
  show pm_wp (pm_cal d) code 13 (some .boolean) false 743 [.ref 4000, .ref 0, .ref 159, .int (nI i)] [] (EE s) M lawQ
  refine s_aload_n (i := 1) (by decide +kernel) rfl (pn 744 rfl ?_)
  refine s_aload_n (i := 0) (by decide +kernel) rfl (pn 745 rfl ?_)
  refine s_iload_n (i := 3) (by decide +kernel) rfl (pn 746 rfl ?_)
  refine t_iconst (n := 1) (v := nI 1) (by decide +kernel) (by decide +kernel) (pn 747 rfl ?_)
  refine s_iadd (by decide +kernel) (pn 748 rfl ?_)
  refine t_iaload (v := M.1 4000 (i + 1)) (by decide +kernel) sc_ok (sc_at (i := i) (k := 1) hs (nI_add i 1) (by omega) hL) (by rw [nI_add, nI_clamp (by omega)]) (pn 749 rfl ?_)
  refine s_aload_n (i := 0) (by decide +kernel) rfl (pn 750 rfl ?_)
  refine s_iload_n (i := 3) (by decide +kernel) rfl (pn 751 rfl ?_)
  refine t_iconst (n := 2) (v := nI 2) (by decide +kernel) (by decide +kernel) (pn 752 rfl ?_)
  refine s_iadd (by decide +kernel) (pn 753 rfl ?_)
  refine t_iaload (v := M.1 4000 (i + 2)) (by decide +kernel) sc_ok (sc_at (i := i) (k := 2) hs (nI_add i 2) (by omega) hL) (by rw [nI_add, nI_clamp (by omega)]) (pn 754 rfl ?_)
  refine s_callvI (ix := 84) (y := yG_season) [.int (M.1 4000 (i + 1)), .int (M.1 4000 (i + 2))] rfl (by decide +kernel) mv_13_84 np_144 (Nat.le_of_ble_eq_true rfl) lq_0 ((congrArg Prod.fst sh_0).trans oc_144) (cI_use (cI_sc (op_season (L := L) (by omega) hI)) (fun v s1 M1 h => (pn 757 rfl ?_)))
  obtain ⟨e4, hs1, h⟩ := h
  rw [hs] at hs1
  refine s_aload_n (i := 2) (by decide +kernel) rfl (pn 758 rfl ?_)
  refine s_aload_n (i := 0) (by decide +kernel) rfl (pn 759 rfl ?_)
  refine s_iload_n (i := 3) (by decide +kernel) rfl (pn 760 rfl ?_)
  refine t_iconst (n := 1) (v := nI 1) (by decide +kernel) (by decide +kernel) (pn 761 rfl ?_)
  refine s_iadd (by decide +kernel) (pn 762 rfl ?_)
  refine t_iaload (v := M.1 4000 (i + 1)) (by decide +kernel) sc_ok (sc_at (i := i) (k := 1) hs1 (nI_add i 1) (by omega) hL) (by rw [nI_add, nI_clamp (by omega), e4]) (pn 763 rfl ?_)
  refine s_aload_n (i := 0) (by decide +kernel) rfl (pn 764 rfl ?_)
  refine s_iload_n (i := 3) (by decide +kernel) rfl (pn 765 rfl ?_)
  refine t_iconst (n := 2) (v := nI 2) (by decide +kernel) (by decide +kernel) (pn 766 rfl ?_)
  refine s_iadd (by decide +kernel) (pn 767 rfl ?_)
  refine t_iaload (v := M.1 4000 (i + 2)) (by decide +kernel) sc_ok (sc_at (i := i) (k := 2) hs1 (nI_add i 2) (by omega) hL) (by rw [nI_add, nI_clamp (by omega), e4]) (pn 768 rfl ?_)
  refine s_callvI (ix := 87) (y := yM_season) [.int (M.1 4000 (i + 1)), .int (M.1 4000 (i + 2))] rfl (by decide +kernel) mv_13_87 np_260 (Nat.le_of_ble_eq_true rfl) lq_159 ((congrArg Prod.fst sh_159).trans oc_260) (cI_use (cI_sc h) (fun v2 s2 M2 h2 => (pn 771 rfl ?_)))
  obtain ⟨e5, -, ev, hI2⟩ := h2
  subst ev
  refine s_icmp_eq (off := 881) (tgt := 1652) (by decide +kernel) rfl (fun _ => ?_) (fun c => absurd rfl c)
  exact next s2 M2 hI2 (e5.trans e4)
theorem law_goes {d L i : Nat} {s : pm_S} {M : pm_M} (hd : 100 ≤ d) (hI : Inv L s M) (h6 : i + 6 ≤ L) (hL : L ≤ 3072) (next : ∀ s1 M1, Inv L s1 M1 → M1.1 4000 = M.1 4000 → wLaw d 1652 [.ref 4000, .ref 0, .ref 159, .int (nI i)] [] s1 M1) : wLaw d 776 [.ref 4000, .ref 0, .ref 159, .int (nI i)] [] s M := by
  have hs : s.1 = L := hI.1.1
  show pm_wp (pm_cal d) code 13 (some .boolean) false 776 [.ref 4000, .ref 0, .ref 159, .int (nI i)] [] (EE s) M lawQ
  refine s_aload_n (i := 1) (by decide +kernel) rfl (pn 777 rfl ?_)
  refine s_aload_n (i := 0) (by decide +kernel) rfl (pn 778 rfl ?_)
  refine s_iload_n (i := 3) (by decide +kernel) rfl (pn 779 rfl ?_)
  refine t_iconst (n := 1) (v := nI 1) (by decide +kernel) (by decide +kernel) (pn 780 rfl ?_)
  refine s_iadd (by decide +kernel) (pn 781 rfl ?_)
  refine t_iaload (v := M.1 4000 (i + 1)) (by decide +kernel) sc_ok (sc_at (i := i) (k := 1) hs (nI_add i 1) (by omega) hL) (by rw [nI_add, nI_clamp (by omega)]) (pn 782 rfl ?_)
  refine s_aload_n (i := 0) (by decide +kernel) rfl (pn 783 rfl ?_)
  refine s_iload_n (i := 3) (by decide +kernel) rfl (pn 784 rfl ?_)
  refine t_iconst (n := 2) (v := nI 2) (by decide +kernel) (by decide +kernel) (pn 785 rfl ?_)
  refine s_iadd (by decide +kernel) (pn 786 rfl ?_)
  refine t_iaload (v := M.1 4000 (i + 2)) (by decide +kernel) sc_ok (sc_at (i := i) (k := 2) hs (nI_add i 2) (by omega) hL) (by rw [nI_add, nI_clamp (by omega)]) (pn 787 rfl ?_)
  refine s_callvI (ix := 88) (y := yG_goes) [.int (M.1 4000 (i + 1)), .int (M.1 4000 (i + 2))] rfl (by decide +kernel) mv_13_88 np_145 (Nat.le_of_ble_eq_true rfl) lq_0 ((congrArg Prod.fst sh_0).trans oc_145) (cI_use (cI_sc (op_goes (L := L) (by omega) hI)) (fun v s1 M1 h => (pn 790 rfl ?_)))
  obtain ⟨e4, hs1, h⟩ := h
  rw [hs] at hs1
  refine s_aload_n (i := 2) (by decide +kernel) rfl (pn 791 rfl ?_)
  refine s_aload_n (i := 0) (by decide +kernel) rfl (pn 792 rfl ?_)
  refine s_iload_n (i := 3) (by decide +kernel) rfl (pn 793 rfl ?_)
  refine t_iconst (n := 1) (v := nI 1) (by decide +kernel) (by decide +kernel) (pn 794 rfl ?_)
  refine s_iadd (by decide +kernel) (pn 795 rfl ?_)
  refine t_iaload (v := M.1 4000 (i + 1)) (by decide +kernel) sc_ok (sc_at (i := i) (k := 1) hs1 (nI_add i 1) (by omega) hL) (by rw [nI_add, nI_clamp (by omega), e4]) (pn 796 rfl ?_)
  refine s_aload_n (i := 0) (by decide +kernel) rfl (pn 797 rfl ?_)
  refine s_iload_n (i := 3) (by decide +kernel) rfl (pn 798 rfl ?_)
  refine t_iconst (n := 2) (v := nI 2) (by decide +kernel) (by decide +kernel) (pn 799 rfl ?_)
  refine s_iadd (by decide +kernel) (pn 800 rfl ?_)
  refine t_iaload (v := M.1 4000 (i + 2)) (by decide +kernel) sc_ok (sc_at (i := i) (k := 2) hs1 (nI_add i 2) (by omega) hL) (by rw [nI_add, nI_clamp (by omega), e4]) (pn 801 rfl ?_)
  refine s_callvI (ix := 91) (y := yM_goes) [.int (M.1 4000 (i + 1)), .int (M.1 4000 (i + 2))] rfl (by decide +kernel) mv_13_91 np_262 (Nat.le_of_ble_eq_true rfl) lq_159 ((congrArg Prod.fst sh_159).trans oc_262) (cI_use (cI_sc h) (fun v2 s2 M2 h2 => (pn 804 rfl ?_)))
  obtain ⟨e5, -, ev, hI2⟩ := h2
  subst ev
  refine s_icmp_eq (off := 848) (tgt := 1652) (by decide +kernel) rfl (fun _ => ?_) (fun c => absurd rfl c)
  exact next s2 M2 hI2 (e5.trans e4)
theorem law_takes {d L i : Nat} {s : pm_S} {M : pm_M} (hd : 100 ≤ d) (hI : Inv L s M) (h6 : i + 6 ≤ L) (hL : L ≤ 3072) (next : ∀ s1 M1, Inv L s1 M1 → M1.1 4000 = M.1 4000 → wLaw d 1652 [.ref 4000, .ref 0, .ref 159, .int (nI i)] [] s1 M1) : wLaw d 809 [.ref 4000, .ref 0, .ref 159, .int (nI i)] [] s M := by
  have hs : s.1 = L := hI.1.1
  show pm_wp (pm_cal d) code 13 (some .boolean) false 809 [.ref 4000, .ref 0, .ref 159, .int (nI i)] [] (EE s) M lawQ
  refine s_aload_n (i := 1) (by decide +kernel) rfl (pn 810 rfl ?_)
  refine s_aload_n (i := 0) (by decide +kernel) rfl (pn 811 rfl ?_)
  refine s_iload_n (i := 3) (by decide +kernel) rfl (pn 812 rfl ?_)
  refine t_iconst (n := 1) (v := nI 1) (by decide +kernel) (by decide +kernel) (pn 813 rfl ?_)
  refine s_iadd (by decide +kernel) (pn 814 rfl ?_)
  refine t_iaload (v := M.1 4000 (i + 1)) (by decide +kernel) sc_ok (sc_at (i := i) (k := 1) hs (nI_add i 1) (by omega) hL) (by rw [nI_add, nI_clamp (by omega)]) (pn 815 rfl ?_)
  refine s_aload_n (i := 0) (by decide +kernel) rfl (pn 816 rfl ?_)
  refine s_iload_n (i := 3) (by decide +kernel) rfl (pn 817 rfl ?_)
  refine t_iconst (n := 2) (v := nI 2) (by decide +kernel) (by decide +kernel) (pn 818 rfl ?_)
  refine s_iadd (by decide +kernel) (pn 819 rfl ?_)
  refine t_iaload (v := M.1 4000 (i + 2)) (by decide +kernel) sc_ok (sc_at (i := i) (k := 2) hs (nI_add i 2) (by omega) hL) (by rw [nI_add, nI_clamp (by omega)]) (pn 820 rfl ?_)
  refine s_callvI (ix := 92) (y := yG_takes) [.int (M.1 4000 (i + 1)), .int (M.1 4000 (i + 2))] rfl (by decide +kernel) mv_13_92 np_147 (Nat.le_of_ble_eq_true rfl) lq_0 ((congrArg Prod.fst sh_0).trans oc_147) (cI_use (cI_sc (op_takes (L := L) (by omega) hI)) (fun v s1 M1 h => (pn 823 rfl ?_)))
  obtain ⟨e4, hs1, h⟩ := h
  rw [hs] at hs1
  refine s_aload_n (i := 2) (by decide +kernel) rfl (pn 824 rfl ?_)
  refine s_aload_n (i := 0) (by decide +kernel) rfl (pn 825 rfl ?_)
  refine s_iload_n (i := 3) (by decide +kernel) rfl (pn 826 rfl ?_)
  refine t_iconst (n := 1) (v := nI 1) (by decide +kernel) (by decide +kernel) (pn 827 rfl ?_)
  refine s_iadd (by decide +kernel) (pn 828 rfl ?_)
  refine t_iaload (v := M.1 4000 (i + 1)) (by decide +kernel) sc_ok (sc_at (i := i) (k := 1) hs1 (nI_add i 1) (by omega) hL) (by rw [nI_add, nI_clamp (by omega), e4]) (pn 829 rfl ?_)
  refine s_aload_n (i := 0) (by decide +kernel) rfl (pn 830 rfl ?_)
  refine s_iload_n (i := 3) (by decide +kernel) rfl (pn 831 rfl ?_)
  refine t_iconst (n := 2) (v := nI 2) (by decide +kernel) (by decide +kernel) (pn 832 rfl ?_)
  refine s_iadd (by decide +kernel) (pn 833 rfl ?_)
  refine t_iaload (v := M.1 4000 (i + 2)) (by decide +kernel) sc_ok (sc_at (i := i) (k := 2) hs1 (nI_add i 2) (by omega) hL) (by rw [nI_add, nI_clamp (by omega), e4]) (pn 834 rfl ?_)
  refine s_callvI (ix := 95) (y := yM_takes) [.int (M.1 4000 (i + 1)), .int (M.1 4000 (i + 2))] rfl (by decide +kernel) mv_13_95 np_266 (Nat.le_of_ble_eq_true rfl) lq_159 ((congrArg Prod.fst sh_159).trans oc_266) (cI_use (cI_sc h) (fun v2 s2 M2 h2 => (pn 837 rfl ?_)))
  obtain ⟨e5, -, ev, hI2⟩ := h2
  subst ev
  refine s_icmp_eq (off := 815) (tgt := 1652) (by decide +kernel) rfl (fun _ => ?_) (fun c => absurd rfl c)
  exact next s2 M2 hI2 (e5.trans e4)
theorem law_sources {d L i : Nat} {s : pm_S} {M : pm_M} (hd : 100 ≤ d) (hI : Inv L s M) (h6 : i + 6 ≤ L) (hL : L ≤ 3072) (next : ∀ s1 M1, Inv L s1 M1 → M1.1 4000 = M.1 4000 → wLaw d 1652 [.ref 4000, .ref 0, .ref 159, .int (nI i)] [] s1 M1) : wLaw d 842 [.ref 4000, .ref 0, .ref 159, .int (nI i)] [] s M := by
  have hs : s.1 = L := hI.1.1
  show pm_wp (pm_cal d) code 13 (some .boolean) false 842 [.ref 4000, .ref 0, .ref 159, .int (nI i)] [] (EE s) M lawQ
  refine s_aload_n (i := 1) (by decide +kernel) rfl (pn 843 rfl ?_)
  refine s_aload_n (i := 0) (by decide +kernel) rfl (pn 844 rfl ?_)
  refine s_iload_n (i := 3) (by decide +kernel) rfl (pn 845 rfl ?_)
  refine t_iconst (n := 1) (v := nI 1) (by decide +kernel) (by decide +kernel) (pn 846 rfl ?_)
  refine s_iadd (by decide +kernel) (pn 847 rfl ?_)
  refine t_iaload (v := M.1 4000 (i + 1)) (by decide +kernel) sc_ok (sc_at (i := i) (k := 1) hs (nI_add i 1) (by omega) hL) (by rw [nI_add, nI_clamp (by omega)]) (pn 848 rfl ?_)
  refine s_aload_n (i := 0) (by decide +kernel) rfl (pn 849 rfl ?_)
  refine s_iload_n (i := 3) (by decide +kernel) rfl (pn 850 rfl ?_)
  refine t_iconst (n := 2) (v := nI 2) (by decide +kernel) (by decide +kernel) (pn 851 rfl ?_)
  refine s_iadd (by decide +kernel) (pn 852 rfl ?_)
  refine t_iaload (v := M.1 4000 (i + 2)) (by decide +kernel) sc_ok (sc_at (i := i) (k := 2) hs (nI_add i 2) (by omega) hL) (by rw [nI_add, nI_clamp (by omega)]) (pn 853 rfl ?_)
  refine s_callvI (ix := 96) (y := yG_sources) [.int (M.1 4000 (i + 1)), .int (M.1 4000 (i + 2))] rfl (by decide +kernel) mv_13_96 np_148 (Nat.le_of_ble_eq_true rfl) lq_0 ((congrArg Prod.fst sh_0).trans oc_148) (cI_use (cI_sc (op_sources (L := L) (by omega) hI)) (fun v s1 M1 h => (pn 856 rfl ?_)))
  obtain ⟨e4, hs1, h⟩ := h
  rw [hs] at hs1
  refine s_aload_n (i := 2) (by decide +kernel) rfl (pn 857 rfl ?_)
  refine s_aload_n (i := 0) (by decide +kernel) rfl (pn 858 rfl ?_)
  refine s_iload_n (i := 3) (by decide +kernel) rfl (pn 859 rfl ?_)
  refine t_iconst (n := 1) (v := nI 1) (by decide +kernel) (by decide +kernel) (pn 860 rfl ?_)
  refine s_iadd (by decide +kernel) (pn 861 rfl ?_)
  refine t_iaload (v := M.1 4000 (i + 1)) (by decide +kernel) sc_ok (sc_at (i := i) (k := 1) hs1 (nI_add i 1) (by omega) hL) (by rw [nI_add, nI_clamp (by omega), e4]) (pn 862 rfl ?_)
  refine s_aload_n (i := 0) (by decide +kernel) rfl (pn 863 rfl ?_)
  refine s_iload_n (i := 3) (by decide +kernel) rfl (pn 864 rfl ?_)
  refine t_iconst (n := 2) (v := nI 2) (by decide +kernel) (by decide +kernel) (pn 865 rfl ?_)
  refine s_iadd (by decide +kernel) (pn 866 rfl ?_)
  refine t_iaload (v := M.1 4000 (i + 2)) (by decide +kernel) sc_ok (sc_at (i := i) (k := 2) hs1 (nI_add i 2) (by omega) hL) (by rw [nI_add, nI_clamp (by omega), e4]) (pn 867 rfl ?_)
  refine s_callvI (ix := 99) (y := yM_sources) [.int (M.1 4000 (i + 1)), .int (M.1 4000 (i + 2))] rfl (by decide +kernel) mv_13_99 np_267 (Nat.le_of_ble_eq_true rfl) lq_159 ((congrArg Prod.fst sh_159).trans oc_267) (cI_use (cI_sc h) (fun v2 s2 M2 h2 => (pn 870 rfl ?_)))
  obtain ⟨e5, -, ev, hI2⟩ := h2
  subst ev
  refine s_icmp_eq (off := 782) (tgt := 1652) (by decide +kernel) rfl (fun _ => ?_) (fun c => absurd rfl c)
  exact next s2 M2 hI2 (e5.trans e4)
theorem law_plan {d L i : Nat} {s : pm_S} {M : pm_M} (hd : 100 ≤ d) (hI : Inv L s M) (h6 : i + 6 ≤ L) (hL : L ≤ 3072) (next : ∀ s1 M1, Inv L s1 M1 → M1.1 4000 = M.1 4000 → wLaw d 1652 [.ref 4000, .ref 0, .ref 159, .int (nI i)] [] s1 M1) : wLaw d 875 [.ref 4000, .ref 0, .ref 159, .int (nI i)] [] s M := by
  have hs : s.1 = L := hI.1.1
  show pm_wp (pm_cal d) code 13 (some .boolean) false 875 [.ref 4000, .ref 0, .ref 159, .int (nI i)] [] (EE s) M lawQ
  refine s_aload_n (i := 1) (by decide +kernel) rfl (pn 876 rfl ?_)
  refine s_aload_n (i := 0) (by decide +kernel) rfl (pn 877 rfl ?_)
  refine s_iload_n (i := 3) (by decide +kernel) rfl (pn 878 rfl ?_)
  refine t_iconst (n := 1) (v := nI 1) (by decide +kernel) (by decide +kernel) (pn 879 rfl ?_)
  refine s_iadd (by decide +kernel) (pn 880 rfl ?_)
  refine t_iaload (v := M.1 4000 (i + 1)) (by decide +kernel) sc_ok (sc_at (i := i) (k := 1) hs (nI_add i 1) (by omega) hL) (by rw [nI_add, nI_clamp (by omega)]) (pn 881 rfl ?_)
  refine s_aload_n (i := 0) (by decide +kernel) rfl (pn 882 rfl ?_)
  refine s_iload_n (i := 3) (by decide +kernel) rfl (pn 883 rfl ?_)
  refine t_iconst (n := 2) (v := nI 2) (by decide +kernel) (by decide +kernel) (pn 884 rfl ?_)
  refine s_iadd (by decide +kernel) (pn 885 rfl ?_)
  refine t_iaload (v := M.1 4000 (i + 2)) (by decide +kernel) sc_ok (sc_at (i := i) (k := 2) hs (nI_add i 2) (by omega) hL) (by rw [nI_add, nI_clamp (by omega)]) (pn 886 rfl ?_)
  refine s_callvI (ix := 100) (y := yG_plan) [.int (M.1 4000 (i + 1)), .int (M.1 4000 (i + 2))] rfl (by decide +kernel) mv_13_100 np_149 (Nat.le_of_ble_eq_true rfl) lq_0 ((congrArg Prod.fst sh_0).trans oc_149) (cI_use (cI_sc (op_plan (L := L) (by omega) hI)) (fun v s1 M1 h => (pn 889 rfl ?_)))
  obtain ⟨e4, hs1, h⟩ := h
  rw [hs] at hs1
  refine s_aload_n (i := 2) (by decide +kernel) rfl (pn 890 rfl ?_)
  refine s_aload_n (i := 0) (by decide +kernel) rfl (pn 891 rfl ?_)
  refine s_iload_n (i := 3) (by decide +kernel) rfl (pn 892 rfl ?_)
  refine t_iconst (n := 1) (v := nI 1) (by decide +kernel) (by decide +kernel) (pn 893 rfl ?_)
  refine s_iadd (by decide +kernel) (pn 894 rfl ?_)
  refine t_iaload (v := M.1 4000 (i + 1)) (by decide +kernel) sc_ok (sc_at (i := i) (k := 1) hs1 (nI_add i 1) (by omega) hL) (by rw [nI_add, nI_clamp (by omega), e4]) (pn 895 rfl ?_)
  refine s_aload_n (i := 0) (by decide +kernel) rfl (pn 896 rfl ?_)
  refine s_iload_n (i := 3) (by decide +kernel) rfl (pn 897 rfl ?_)
  refine t_iconst (n := 2) (v := nI 2) (by decide +kernel) (by decide +kernel) (pn 898 rfl ?_)
  refine s_iadd (by decide +kernel) (pn 899 rfl ?_)
  refine t_iaload (v := M.1 4000 (i + 2)) (by decide +kernel) sc_ok (sc_at (i := i) (k := 2) hs1 (nI_add i 2) (by omega) hL) (by rw [nI_add, nI_clamp (by omega), e4]) (pn 900 rfl ?_)
  refine s_callvI (ix := 103) (y := yM_plan) [.int (M.1 4000 (i + 1)), .int (M.1 4000 (i + 2))] rfl (by decide +kernel) mv_13_103 np_268 (Nat.le_of_ble_eq_true rfl) lq_159 ((congrArg Prod.fst sh_159).trans oc_268) (cI_use (cI_sc h) (fun v2 s2 M2 h2 => (pn 903 rfl ?_)))
  obtain ⟨e5, -, ev, hI2⟩ := h2
  subst ev
  refine s_icmp_eq (off := 749) (tgt := 1652) (by decide +kernel) rfl (fun _ => ?_) (fun c => absurd rfl c)
  exact next s2 M2 hI2 (e5.trans e4)
theorem law_plans {d L i : Nat} {s : pm_S} {M : pm_M} (hd : 100 ≤ d) (hI : Inv L s M) (h6 : i + 6 ≤ L) (hL : L ≤ 3072) (next : ∀ s1 M1, Inv L s1 M1 → M1.1 4000 = M.1 4000 → wLaw d 1652 [.ref 4000, .ref 0, .ref 159, .int (nI i)] [] s1 M1) : wLaw d 908 [.ref 4000, .ref 0, .ref 159, .int (nI i)] [] s M := by
  have hs : s.1 = L := hI.1.1
  show pm_wp (pm_cal d) code 13 (some .boolean) false 908 [.ref 4000, .ref 0, .ref 159, .int (nI i)] [] (EE s) M lawQ
  refine s_aload_n (i := 1) (by decide +kernel) rfl (pn 909 rfl ?_)
  refine s_aload_n (i := 0) (by decide +kernel) rfl (pn 910 rfl ?_)
  refine s_iload_n (i := 3) (by decide +kernel) rfl (pn 911 rfl ?_)
  refine t_iconst (n := 1) (v := nI 1) (by decide +kernel) (by decide +kernel) (pn 912 rfl ?_)
  refine s_iadd (by decide +kernel) (pn 913 rfl ?_)
  refine t_iaload (v := M.1 4000 (i + 1)) (by decide +kernel) sc_ok (sc_at (i := i) (k := 1) hs (nI_add i 1) (by omega) hL) (by rw [nI_add, nI_clamp (by omega)]) (pn 914 rfl ?_)
  refine s_callvI (ix := 104) (y := yG_plans) [.int (M.1 4000 (i + 1))] rfl (by decide +kernel) mv_13_104 np_153 (Nat.le_of_ble_eq_true rfl) lq_0 ((congrArg Prod.fst sh_0).trans oc_153) (cI_use (cI_sc (op_plans (L := L) (by omega) hI)) (fun v s1 M1 h => (pn 917 rfl ?_)))
  obtain ⟨e4, hs1, h⟩ := h
  rw [hs] at hs1
  refine s_aload_n (i := 2) (by decide +kernel) rfl (pn 918 rfl ?_)
  refine s_aload_n (i := 0) (by decide +kernel) rfl (pn 919 rfl ?_)
  refine s_iload_n (i := 3) (by decide +kernel) rfl (pn 920 rfl ?_)
  refine t_iconst (n := 1) (v := nI 1) (by decide +kernel) (by decide +kernel) (pn 921 rfl ?_)
  refine s_iadd (by decide +kernel) (pn 922 rfl ?_)
  refine t_iaload (v := M.1 4000 (i + 1)) (by decide +kernel) sc_ok (sc_at (i := i) (k := 1) hs1 (nI_add i 1) (by omega) hL) (by rw [nI_add, nI_clamp (by omega), e4]) (pn 923 rfl ?_)
  refine s_callvI (ix := 107) (y := yM_plans) [.int (M.1 4000 (i + 1))] rfl (by decide +kernel) mv_13_107 np_273 (Nat.le_of_ble_eq_true rfl) lq_159 ((congrArg Prod.fst sh_159).trans oc_273) (cI_use (cI_sc h) (fun v2 s2 M2 h2 => (pn 926 rfl ?_)))
  obtain ⟨e5, -, ev, hI2⟩ := h2
  subst ev
  refine s_icmp_eq (off := 726) (tgt := 1652) (by decide +kernel) rfl (fun _ => ?_) (fun c => absurd rfl c)
  exact next s2 M2 hI2 (e5.trans e4)
theorem law_match {d L i : Nat} {s : pm_S} {M : pm_M} (hd : 100 ≤ d) (hI : Inv L s M) (h6 : i + 6 ≤ L) (hL : L ≤ 3072) (next : ∀ s1 M1, Inv L s1 M1 → M1.1 4000 = M.1 4000 → wLaw d 1652 [.ref 4000, .ref 0, .ref 159, .int (nI i)] [] s1 M1) : wLaw d 931 [.ref 4000, .ref 0, .ref 159, .int (nI i)] [] s M := by
  have hs : s.1 = L := hI.1.1
  show pm_wp (pm_cal d) code 13 (some .boolean) false 931 [.ref 4000, .ref 0, .ref 159, .int (nI i)] [] (EE s) M lawQ
  refine s_aload_n (i := 1) (by decide +kernel) rfl (pn 932 rfl ?_)
  refine s_aload_n (i := 0) (by decide +kernel) rfl (pn 933 rfl ?_)
  refine s_iload_n (i := 3) (by decide +kernel) rfl (pn 934 rfl ?_)
  refine t_iconst (n := 1) (v := nI 1) (by decide +kernel) (by decide +kernel) (pn 935 rfl ?_)
  refine s_iadd (by decide +kernel) (pn 936 rfl ?_)
  refine t_iaload (v := M.1 4000 (i + 1)) (by decide +kernel) sc_ok (sc_at (i := i) (k := 1) hs (nI_add i 1) (by omega) hL) (by rw [nI_add, nI_clamp (by omega)]) (pn 937 rfl ?_)
  refine s_callvI (ix := 108) (y := yG_match) [.int (M.1 4000 (i + 1))] rfl (by decide +kernel) mv_13_108 np_154 (Nat.le_of_ble_eq_true rfl) lq_0 ((congrArg Prod.fst sh_0).trans oc_154) (cI_use (cI_sc (op_match (L := L) (by omega) hI)) (fun v s1 M1 h => (pn 940 rfl ?_)))
  obtain ⟨e4, hs1, h⟩ := h
  rw [hs] at hs1
  refine s_aload_n (i := 2) (by decide +kernel) rfl (pn 941 rfl ?_)
  refine s_aload_n (i := 0) (by decide +kernel) rfl (pn 942 rfl ?_)
  refine s_iload_n (i := 3) (by decide +kernel) rfl (pn 943 rfl ?_)
  refine t_iconst (n := 1) (v := nI 1) (by decide +kernel) (by decide +kernel) (pn 944 rfl ?_)
  refine s_iadd (by decide +kernel) (pn 945 rfl ?_)
  refine t_iaload (v := M.1 4000 (i + 1)) (by decide +kernel) sc_ok (sc_at (i := i) (k := 1) hs1 (nI_add i 1) (by omega) hL) (by rw [nI_add, nI_clamp (by omega), e4]) (pn 946 rfl ?_)
  refine s_callvI (ix := 111) (y := yM_match) [.int (M.1 4000 (i + 1))] rfl (by decide +kernel) mv_13_111 np_274 (Nat.le_of_ble_eq_true rfl) lq_159 ((congrArg Prod.fst sh_159).trans oc_274) (cI_use (cI_sc h) (fun v2 s2 M2 h2 => (pn 949 rfl ?_)))
  obtain ⟨e5, -, ev, hI2⟩ := h2
  subst ev
  refine s_icmp_eq (off := 703) (tgt := 1652) (by decide +kernel) rfl (fun _ => ?_) (fun c => absurd rfl c)
  exact next s2 M2 hI2 (e5.trans e4)
theorem law_matchings {d L i : Nat} {s : pm_S} {M : pm_M} (hd : 100 ≤ d) (hI : Inv L s M) (h6 : i + 6 ≤ L) (hL : L ≤ 3072) (next : ∀ s1 M1, Inv L s1 M1 → M1.1 4000 = M.1 4000 → wLaw d 1652 [.ref 4000, .ref 0, .ref 159, .int (nI i)] [] s1 M1) : wLaw d 954 [.ref 4000, .ref 0, .ref 159, .int (nI i)] [] s M := by
  have hs : s.1 = L := hI.1.1
  show pm_wp (pm_cal d) code 13 (some .boolean) false 954 [.ref 4000, .ref 0, .ref 159, .int (nI i)] [] (EE s) M lawQ
  refine s_aload_n (i := 1) (by decide +kernel) rfl (pn 955 rfl ?_)
  refine s_callvI (ix := 112) (y := yG_matchings) [] rfl (by decide +kernel) mv_13_112 np_155 (Nat.le_of_ble_eq_true rfl) lq_0 ((congrArg Prod.fst sh_0).trans oc_155) (cI_use (cI_sc (op_matchings (L := L) (by omega) hI)) (fun v s1 M1 h => (pn 958 rfl ?_)))
  obtain ⟨e4, hs1, h⟩ := h
  rw [hs] at hs1
  refine s_aload_n (i := 2) (by decide +kernel) rfl (pn 959 rfl ?_)
  refine s_callvI (ix := 116) (y := yM_matchings) [] rfl (by decide +kernel) mv_13_116 np_279 (Nat.le_of_ble_eq_true rfl) lq_159 ((congrArg Prod.fst sh_159).trans oc_279) (cI_use (cI_sc h) (fun v2 s2 M2 h2 => (pn 962 rfl ?_)))
  obtain ⟨e5, -, ev, hI2⟩ := h2
  subst ev
  refine s_icmp_eq (off := 690) (tgt := 1652) (by decide +kernel) rfl (fun _ => ?_) (fun c => absurd rfl c)
  exact next s2 M2 hI2 (e5.trans e4)
theorem law_without {d L i : Nat} {s : pm_S} {M : pm_M} (hd : 100 ≤ d) (hI : Inv L s M) (h6 : i + 6 ≤ L) (hL : L ≤ 3072) (next : ∀ s1 M1, Inv L s1 M1 → M1.1 4000 = M.1 4000 → wLaw d 1652 [.ref 4000, .ref 0, .ref 159, .int (nI i)] [] s1 M1) : wLaw d 967 [.ref 4000, .ref 0, .ref 159, .int (nI i)] [] s M := by
  have hs : s.1 = L := hI.1.1
  show pm_wp (pm_cal d) code 13 (some .boolean) false 967 [.ref 4000, .ref 0, .ref 159, .int (nI i)] [] (EE s) M lawQ
  refine s_aload_n (i := 1) (by decide +kernel) rfl (pn 968 rfl ?_)
  refine s_callvI (ix := 117) (y := yG_without) [] rfl (by decide +kernel) mv_13_117 np_156 (Nat.le_of_ble_eq_true rfl) lq_0 ((congrArg Prod.fst sh_0).trans oc_156) (cI_use (cI_sc (op_without (L := L) (by omega) hI)) (fun v s1 M1 h => (pn 971 rfl ?_)))
  obtain ⟨e4, hs1, h⟩ := h
  rw [hs] at hs1
  refine s_aload_n (i := 2) (by decide +kernel) rfl (pn 972 rfl ?_)
  refine s_callvI (ix := 120) (y := yM_without) [] rfl (by decide +kernel) mv_13_120 np_280 (Nat.le_of_ble_eq_true rfl) lq_159 ((congrArg Prod.fst sh_159).trans oc_280) (cI_use (cI_sc h) (fun v2 s2 M2 h2 => (pn 975 rfl ?_)))
  obtain ⟨e5, -, ev, hI2⟩ := h2
  subst ev
  refine s_icmp_eq (off := 677) (tgt := 1652) (by decide +kernel) rfl (fun _ => ?_) (fun c => absurd rfl c)
  exact next s2 M2 hI2 (e5.trans e4)
theorem law_fetches {d L i : Nat} {s : pm_S} {M : pm_M} (hd : 100 ≤ d) (hI : Inv L s M) (h6 : i + 6 ≤ L) (hL : L ≤ 3072) (next : ∀ s1 M1, Inv L s1 M1 → M1.1 4000 = M.1 4000 → wLaw d 1652 [.ref 4000, .ref 0, .ref 159, .int (nI i)] [] s1 M1) : wLaw d 980 [.ref 4000, .ref 0, .ref 159, .int (nI i)] [] s M := by
  have hs : s.1 = L := hI.1.1
  show pm_wp (pm_cal d) code 13 (some .boolean) false 980 [.ref 4000, .ref 0, .ref 159, .int (nI i)] [] (EE s) M lawQ
  refine s_aload_n (i := 1) (by decide +kernel) rfl (pn 981 rfl ?_)
  refine s_aload_n (i := 0) (by decide +kernel) rfl (pn 982 rfl ?_)
  refine s_iload_n (i := 3) (by decide +kernel) rfl (pn 983 rfl ?_)
  refine t_iconst (n := 1) (v := nI 1) (by decide +kernel) (by decide +kernel) (pn 984 rfl ?_)
  refine s_iadd (by decide +kernel) (pn 985 rfl ?_)
  refine t_iaload (v := M.1 4000 (i + 1)) (by decide +kernel) sc_ok (sc_at (i := i) (k := 1) hs (nI_add i 1) (by omega) hL) (by rw [nI_add, nI_clamp (by omega)]) (pn 986 rfl ?_)
  refine s_aload_n (i := 0) (by decide +kernel) rfl (pn 987 rfl ?_)
  refine s_iload_n (i := 3) (by decide +kernel) rfl (pn 988 rfl ?_)
  refine t_iconst (n := 2) (v := nI 2) (by decide +kernel) (by decide +kernel) (pn 989 rfl ?_)
  refine s_iadd (by decide +kernel) (pn 990 rfl ?_)
  refine t_iaload (v := M.1 4000 (i + 2)) (by decide +kernel) sc_ok (sc_at (i := i) (k := 2) hs (nI_add i 2) (by omega) hL) (by rw [nI_add, nI_clamp (by omega)]) (pn 991 rfl ?_)
  refine s_callvI (ix := 121) (y := yG_fetches) [.int (M.1 4000 (i + 1)), .int (M.1 4000 (i + 2))] rfl (by decide +kernel) mv_13_121 np_157 (Nat.le_of_ble_eq_true rfl) lq_0 ((congrArg Prod.fst sh_0).trans oc_157) (cI_use (cI_sc (op_fetches (L := L) (by omega) hI)) (fun v s1 M1 h => (pn 994 rfl ?_)))
  obtain ⟨e4, hs1, h⟩ := h
  rw [hs] at hs1
  refine s_aload_n (i := 2) (by decide +kernel) rfl (pn 995 rfl ?_)
  refine s_aload_n (i := 0) (by decide +kernel) rfl (pn 996 rfl ?_)
  refine s_iload_n (i := 3) (by decide +kernel) rfl (pn 997 rfl ?_)
  refine t_iconst (n := 1) (v := nI 1) (by decide +kernel) (by decide +kernel) (pn 998 rfl ?_)
  refine s_iadd (by decide +kernel) (pn 999 rfl ?_)
  refine t_iaload (v := M.1 4000 (i + 1)) (by decide +kernel) sc_ok (sc_at (i := i) (k := 1) hs1 (nI_add i 1) (by omega) hL) (by rw [nI_add, nI_clamp (by omega), e4]) (pn 1000 rfl ?_)
  refine s_aload_n (i := 0) (by decide +kernel) rfl (pn 1001 rfl ?_)
  refine s_iload_n (i := 3) (by decide +kernel) rfl (pn 1002 rfl ?_)
  refine t_iconst (n := 2) (v := nI 2) (by decide +kernel) (by decide +kernel) (pn 1003 rfl ?_)
  refine s_iadd (by decide +kernel) (pn 1004 rfl ?_)
  refine t_iaload (v := M.1 4000 (i + 2)) (by decide +kernel) sc_ok (sc_at (i := i) (k := 2) hs1 (nI_add i 2) (by omega) hL) (by rw [nI_add, nI_clamp (by omega), e4]) (pn 1005 rfl ?_)
  refine s_callvI (ix := 124) (y := yM_fetches) [.int (M.1 4000 (i + 1)), .int (M.1 4000 (i + 2))] rfl (by decide +kernel) mv_13_124 np_282 (Nat.le_of_ble_eq_true rfl) lq_159 ((congrArg Prod.fst sh_159).trans oc_282) (cI_use (cI_sc h) (fun v2 s2 M2 h2 => (pn 1008 rfl ?_)))
  obtain ⟨e5, -, ev, hI2⟩ := h2
  subst ev
  refine s_icmp_eq (off := 644) (tgt := 1652) (by decide +kernel) rfl (fun _ => ?_) (fun c => absurd rfl c)
  exact next s2 M2 hI2 (e5.trans e4)
theorem law_trade {d L i : Nat} {s : pm_S} {M : pm_M} (hd : 100 ≤ d) (hI : Inv L s M) (h6 : i + 6 ≤ L) (hL : L ≤ 3072) (next : ∀ s1 M1, Inv L s1 M1 → M1.1 4000 = M.1 4000 → wLaw d 1652 [.ref 4000, .ref 0, .ref 159, .int (nI i)] [] s1 M1) : wLaw d 1013 [.ref 4000, .ref 0, .ref 159, .int (nI i)] [] s M := by
  have hs : s.1 = L := hI.1.1
  show pm_wp (pm_cal d) code 13 (some .boolean) false 1013 [.ref 4000, .ref 0, .ref 159, .int (nI i)] [] (EE s) M lawQ
  refine s_aload_n (i := 1) (by decide +kernel) rfl (pn 1014 rfl ?_)
  refine s_aload_n (i := 0) (by decide +kernel) rfl (pn 1015 rfl ?_)
  refine s_iload_n (i := 3) (by decide +kernel) rfl (pn 1016 rfl ?_)
  refine t_iconst (n := 1) (v := nI 1) (by decide +kernel) (by decide +kernel) (pn 1017 rfl ?_)
  refine s_iadd (by decide +kernel) (pn 1018 rfl ?_)
  refine t_iaload (v := M.1 4000 (i + 1)) (by decide +kernel) sc_ok (sc_at (i := i) (k := 1) hs (nI_add i 1) (by omega) hL) (by rw [nI_add, nI_clamp (by omega)]) (pn 1019 rfl ?_)
  refine s_callvI (ix := 125) (y := yG_trade) [.int (M.1 4000 (i + 1))] rfl (by decide +kernel) mv_13_125 np_158 (Nat.le_of_ble_eq_true rfl) lq_0 ((congrArg Prod.fst sh_0).trans oc_158) (cI_use (cI_sc (op_trade (L := L) (by omega) hI)) (fun v s1 M1 h => (pn 1022 rfl ?_)))
  obtain ⟨e4, hs1, h⟩ := h
  rw [hs] at hs1
  refine s_aload_n (i := 2) (by decide +kernel) rfl (pn 1023 rfl ?_)
  refine s_aload_n (i := 0) (by decide +kernel) rfl (pn 1024 rfl ?_)
  refine s_iload_n (i := 3) (by decide +kernel) rfl (pn 1025 rfl ?_)
  refine t_iconst (n := 1) (v := nI 1) (by decide +kernel) (by decide +kernel) (pn 1026 rfl ?_)
  refine s_iadd (by decide +kernel) (pn 1027 rfl ?_)
  refine t_iaload (v := M.1 4000 (i + 1)) (by decide +kernel) sc_ok (sc_at (i := i) (k := 1) hs1 (nI_add i 1) (by omega) hL) (by rw [nI_add, nI_clamp (by omega), e4]) (pn 1028 rfl ?_)
  refine s_callvI (ix := 128) (y := yM_trade) [.int (M.1 4000 (i + 1))] rfl (by decide +kernel) mv_13_128 np_283 (Nat.le_of_ble_eq_true rfl) lq_159 ((congrArg Prod.fst sh_159).trans oc_283) (cI_use (cI_sc h) (fun v2 s2 M2 h2 => (pn 1031 rfl ?_)))
  obtain ⟨e5, -, ev, hI2⟩ := h2
  subst ev
  refine s_icmp_eq (off := 621) (tgt := 1652) (by decide +kernel) rfl (fun _ => ?_) (fun c => absurd rfl c)
  exact next s2 M2 hI2 (e5.trans e4)
theorem law_rounds {d L i : Nat} {s : pm_S} {M : pm_M} (hd : 100 ≤ d) (hI : Inv L s M) (h6 : i + 6 ≤ L) (hL : L ≤ 3072) (next : ∀ s1 M1, Inv L s1 M1 → M1.1 4000 = M.1 4000 → wLaw d 1652 [.ref 4000, .ref 0, .ref 159, .int (nI i)] [] s1 M1) : wLaw d 1036 [.ref 4000, .ref 0, .ref 159, .int (nI i)] [] s M := by
  have hs : s.1 = L := hI.1.1
  show pm_wp (pm_cal d) code 13 (some .boolean) false 1036 [.ref 4000, .ref 0, .ref 159, .int (nI i)] [] (EE s) M lawQ
  refine s_aload_n (i := 1) (by decide +kernel) rfl (pn 1037 rfl ?_)
  refine s_callvI (ix := 129) (y := yG_rounds) [] rfl (by decide +kernel) mv_13_129 np_159 (Nat.le_of_ble_eq_true rfl) lq_0 ((congrArg Prod.fst sh_0).trans oc_159) (cI_use (cI_sc (op_rounds (L := L) (by omega) hI)) (fun v s1 M1 h => (pn 1040 rfl ?_)))
  obtain ⟨e4, hs1, h⟩ := h
  rw [hs] at hs1
  refine s_aload_n (i := 2) (by decide +kernel) rfl (pn 1041 rfl ?_)
  refine s_callvI (ix := 132) (y := yM_rounds) [] rfl (by decide +kernel) mv_13_132 np_287 (Nat.le_of_ble_eq_true rfl) lq_159 ((congrArg Prod.fst sh_159).trans oc_287) (cI_use (cI_sc h) (fun v2 s2 M2 h2 => (pn 1044 rfl ?_)))
  obtain ⟨e5, -, ev, hI2⟩ := h2
  subst ev
  refine s_icmp_eq (off := 608) (tgt := 1652) (by decide +kernel) rfl (fun _ => ?_) (fun c => absurd rfl c)
  exact next s2 M2 hI2 (e5.trans e4)
theorem law_traders {d L i : Nat} {s : pm_S} {M : pm_M} (hd : 100 ≤ d) (hI : Inv L s M) (h6 : i + 6 ≤ L) (hL : L ≤ 3072) (next : ∀ s1 M1, Inv L s1 M1 → M1.1 4000 = M.1 4000 → wLaw d 1652 [.ref 4000, .ref 0, .ref 159, .int (nI i)] [] s1 M1) : wLaw d 1049 [.ref 4000, .ref 0, .ref 159, .int (nI i)] [] s M := by
  have hs : s.1 = L := hI.1.1
  show pm_wp (pm_cal d) code 13 (some .boolean) false 1049 [.ref 4000, .ref 0, .ref 159, .int (nI i)] [] (EE s) M lawQ
  refine s_aload_n (i := 1) (by decide +kernel) rfl (pn 1050 rfl ?_)
  refine s_callvI (ix := 133) (y := yG_traders) [] rfl (by decide +kernel) mv_13_133 np_160 (Nat.le_of_ble_eq_true rfl) lq_0 ((congrArg Prod.fst sh_0).trans oc_160) (cI_use (cI_sc (op_traders (L := L) (by omega) hI)) (fun v s1 M1 h => (pn 1053 rfl ?_)))
  obtain ⟨e4, hs1, h⟩ := h
  rw [hs] at hs1
  refine s_aload_n (i := 2) (by decide +kernel) rfl (pn 1054 rfl ?_)
  refine s_callvI (ix := 136) (y := yM_traders) [] rfl (by decide +kernel) mv_13_136 np_288 (Nat.le_of_ble_eq_true rfl) lq_159 ((congrArg Prod.fst sh_159).trans oc_288) (cI_use (cI_sc h) (fun v2 s2 M2 h2 => (pn 1057 rfl ?_)))
  obtain ⟨e5, -, ev, hI2⟩ := h2
  subst ev
  refine s_icmp_eq (off := 595) (tgt := 1652) (by decide +kernel) rfl (fun _ => ?_) (fun c => absurd rfl c)
  exact next s2 M2 hI2 (e5.trans e4)
theorem law_bargain {d L i : Nat} {s : pm_S} {M : pm_M} (hd : 100 ≤ d) (hI : Inv L s M) (h6 : i + 6 ≤ L) (hL : L ≤ 3072) (next : ∀ s1 M1, Inv L s1 M1 → M1.1 4000 = M.1 4000 → wLaw d 1652 [.ref 4000, .ref 0, .ref 159, .int (nI i)] [] s1 M1) : wLaw d 1062 [.ref 4000, .ref 0, .ref 159, .int (nI i)] [] s M := by
  have hs : s.1 = L := hI.1.1
  show pm_wp (pm_cal d) code 13 (some .boolean) false 1062 [.ref 4000, .ref 0, .ref 159, .int (nI i)] [] (EE s) M lawQ
  refine s_aload_n (i := 1) (by decide +kernel) rfl (pn 1063 rfl ?_)
  refine s_callvI (ix := 137) (y := yG_bargain) [] rfl (by decide +kernel) mv_13_137 np_161 (Nat.le_of_ble_eq_true rfl) lq_0 ((congrArg Prod.fst sh_0).trans oc_161) (cI_use (cI_sc (op_bargain (L := L) (by omega) hI)) (fun v s1 M1 h => (pn 1066 rfl ?_)))
  obtain ⟨e4, hs1, h⟩ := h
  rw [hs] at hs1
  refine s_aload_n (i := 2) (by decide +kernel) rfl (pn 1067 rfl ?_)
  refine s_callvI (ix := 140) (y := yM_bargain) [] rfl (by decide +kernel) mv_13_140 np_289 (Nat.le_of_ble_eq_true rfl) lq_159 ((congrArg Prod.fst sh_159).trans oc_289) (cI_use (cI_sc h) (fun v2 s2 M2 h2 => (pn 1070 rfl ?_)))
  obtain ⟨e5, -, ev, hI2⟩ := h2
  subst ev
  refine s_icmp_eq (off := 582) (tgt := 1652) (by decide +kernel) rfl (fun _ => ?_) (fun c => absurd rfl c)
  exact next s2 M2 hI2 (e5.trans e4)
theorem law_opening {d L i : Nat} {s : pm_S} {M : pm_M} (hd : 100 ≤ d) (hI : Inv L s M) (h6 : i + 6 ≤ L) (hL : L ≤ 3072) (next : ∀ s1 M1, Inv L s1 M1 → M1.1 4000 = M.1 4000 → wLaw d 1652 [.ref 4000, .ref 0, .ref 159, .int (nI i)] [] s1 M1) : wLaw d 1075 [.ref 4000, .ref 0, .ref 159, .int (nI i)] [] s M := by
  have hs : s.1 = L := hI.1.1
  show pm_wp (pm_cal d) code 13 (some .boolean) false 1075 [.ref 4000, .ref 0, .ref 159, .int (nI i)] [] (EE s) M lawQ
  refine s_aload_n (i := 1) (by decide +kernel) rfl (pn 1076 rfl ?_)
  refine s_aload_n (i := 0) (by decide +kernel) rfl (pn 1077 rfl ?_)
  refine s_iload_n (i := 3) (by decide +kernel) rfl (pn 1078 rfl ?_)
  refine t_iconst (n := 1) (v := nI 1) (by decide +kernel) (by decide +kernel) (pn 1079 rfl ?_)
  refine s_iadd (by decide +kernel) (pn 1080 rfl ?_)
  refine t_iaload (v := M.1 4000 (i + 1)) (by decide +kernel) sc_ok (sc_at (i := i) (k := 1) hs (nI_add i 1) (by omega) hL) (by rw [nI_add, nI_clamp (by omega)]) (pn 1081 rfl ?_)
  refine s_aload_n (i := 0) (by decide +kernel) rfl (pn 1082 rfl ?_)
  refine s_iload_n (i := 3) (by decide +kernel) rfl (pn 1083 rfl ?_)
  refine t_iconst (n := 2) (v := nI 2) (by decide +kernel) (by decide +kernel) (pn 1084 rfl ?_)
  refine s_iadd (by decide +kernel) (pn 1085 rfl ?_)
  refine t_iaload (v := M.1 4000 (i + 2)) (by decide +kernel) sc_ok (sc_at (i := i) (k := 2) hs (nI_add i 2) (by omega) hL) (by rw [nI_add, nI_clamp (by omega)]) (pn 1086 rfl ?_)
  refine s_callvI (ix := 141) (y := yG_opening) [.int (M.1 4000 (i + 1)), .int (M.1 4000 (i + 2))] rfl (by decide +kernel) mv_13_141 np_163 (Nat.le_of_ble_eq_true rfl) lq_0 ((congrArg Prod.fst sh_0).trans oc_163) (cI_use (cI_sc (op_opening (L := L) (by omega) hI)) (fun v s1 M1 h => (pn 1089 rfl ?_)))
  obtain ⟨e4, hs1, h⟩ := h
  rw [hs] at hs1
  refine s_aload_n (i := 2) (by decide +kernel) rfl (pn 1090 rfl ?_)
  refine s_aload_n (i := 0) (by decide +kernel) rfl (pn 1091 rfl ?_)
  refine s_iload_n (i := 3) (by decide +kernel) rfl (pn 1092 rfl ?_)
  refine t_iconst (n := 1) (v := nI 1) (by decide +kernel) (by decide +kernel) (pn 1093 rfl ?_)
  refine s_iadd (by decide +kernel) (pn 1094 rfl ?_)
  refine t_iaload (v := M.1 4000 (i + 1)) (by decide +kernel) sc_ok (sc_at (i := i) (k := 1) hs1 (nI_add i 1) (by omega) hL) (by rw [nI_add, nI_clamp (by omega), e4]) (pn 1095 rfl ?_)
  refine s_aload_n (i := 0) (by decide +kernel) rfl (pn 1096 rfl ?_)
  refine s_iload_n (i := 3) (by decide +kernel) rfl (pn 1097 rfl ?_)
  refine t_iconst (n := 2) (v := nI 2) (by decide +kernel) (by decide +kernel) (pn 1098 rfl ?_)
  refine s_iadd (by decide +kernel) (pn 1099 rfl ?_)
  refine t_iaload (v := M.1 4000 (i + 2)) (by decide +kernel) sc_ok (sc_at (i := i) (k := 2) hs1 (nI_add i 2) (by omega) hL) (by rw [nI_add, nI_clamp (by omega), e4]) (pn 1100 rfl ?_)
  refine s_callvI (ix := 144) (y := yM_opening) [.int (M.1 4000 (i + 1)), .int (M.1 4000 (i + 2))] rfl (by decide +kernel) mv_13_144 np_290 (Nat.le_of_ble_eq_true rfl) lq_159 ((congrArg Prod.fst sh_159).trans oc_290) (cI_use (cI_sc h) (fun v2 s2 M2 h2 => (pn 1103 rfl ?_)))
  obtain ⟨e5, -, ev, hI2⟩ := h2
  subst ev
  refine s_icmp_eq (off := 549) (tgt := 1652) (by decide +kernel) rfl (fun _ => ?_) (fun c => absurd rfl c)
  exact next s2 M2 hI2 (e5.trans e4)
theorem law_openedBy {d L i : Nat} {s : pm_S} {M : pm_M} (hd : 100 ≤ d) (hI : Inv L s M) (h6 : i + 6 ≤ L) (hL : L ≤ 3072) (next : ∀ s1 M1, Inv L s1 M1 → M1.1 4000 = M.1 4000 → wLaw d 1652 [.ref 4000, .ref 0, .ref 159, .int (nI i)] [] s1 M1) : wLaw d 1108 [.ref 4000, .ref 0, .ref 159, .int (nI i)] [] s M := by
  have hs : s.1 = L := hI.1.1
  show pm_wp (pm_cal d) code 13 (some .boolean) false 1108 [.ref 4000, .ref 0, .ref 159, .int (nI i)] [] (EE s) M lawQ
  refine s_aload_n (i := 1) (by decide +kernel) rfl (pn 1109 rfl ?_)
  refine s_aload_n (i := 0) (by decide +kernel) rfl (pn 1110 rfl ?_)
  refine s_iload_n (i := 3) (by decide +kernel) rfl (pn 1111 rfl ?_)
  refine t_iconst (n := 1) (v := nI 1) (by decide +kernel) (by decide +kernel) (pn 1112 rfl ?_)
  refine s_iadd (by decide +kernel) (pn 1113 rfl ?_)
  refine t_iaload (v := M.1 4000 (i + 1)) (by decide +kernel) sc_ok (sc_at (i := i) (k := 1) hs (nI_add i 1) (by omega) hL) (by rw [nI_add, nI_clamp (by omega)]) (pn 1114 rfl ?_)
  refine s_aload_n (i := 0) (by decide +kernel) rfl (pn 1115 rfl ?_)
  refine s_iload_n (i := 3) (by decide +kernel) rfl (pn 1116 rfl ?_)
  refine t_iconst (n := 2) (v := nI 2) (by decide +kernel) (by decide +kernel) (pn 1117 rfl ?_)
  refine s_iadd (by decide +kernel) (pn 1118 rfl ?_)
  refine t_iaload (v := M.1 4000 (i + 2)) (by decide +kernel) sc_ok (sc_at (i := i) (k := 2) hs (nI_add i 2) (by omega) hL) (by rw [nI_add, nI_clamp (by omega)]) (pn 1119 rfl ?_)
  refine s_aload_n (i := 0) (by decide +kernel) rfl (pn 1120 rfl ?_)
  refine s_iload_n (i := 3) (by decide +kernel) rfl (pn 1121 rfl ?_)
  refine t_iconst (n := 3) (v := nI 3) (by decide +kernel) (by decide +kernel) (pn 1122 rfl ?_)
  refine s_iadd (by decide +kernel) (pn 1123 rfl ?_)
  refine t_iaload (v := M.1 4000 (i + 3)) (by decide +kernel) sc_ok (sc_at (i := i) (k := 3) hs (nI_add i 3) (by omega) hL) (by rw [nI_add, nI_clamp (by omega)]) (pn 1124 rfl ?_)
  refine s_callvI (ix := 145) (y := yG_openedBy) [.int (M.1 4000 (i + 1)), .int (M.1 4000 (i + 2)), .int (M.1 4000 (i + 3))] rfl (by decide +kernel) mv_13_145 np_165 (Nat.le_of_ble_eq_true rfl) lq_0 ((congrArg Prod.fst sh_0).trans oc_165) (cI_use (cI_sc (op_openedBy (L := L) (by omega) hI)) (fun v s1 M1 h => (pn 1127 rfl ?_)))
  obtain ⟨e4, hs1, h⟩ := h
  rw [hs] at hs1
  refine s_aload_n (i := 2) (by decide +kernel) rfl (pn 1128 rfl ?_)
  refine s_aload_n (i := 0) (by decide +kernel) rfl (pn 1129 rfl ?_)
  refine s_iload_n (i := 3) (by decide +kernel) rfl (pn 1130 rfl ?_)
  refine t_iconst (n := 1) (v := nI 1) (by decide +kernel) (by decide +kernel) (pn 1131 rfl ?_)
  refine s_iadd (by decide +kernel) (pn 1132 rfl ?_)
  refine t_iaload (v := M.1 4000 (i + 1)) (by decide +kernel) sc_ok (sc_at (i := i) (k := 1) hs1 (nI_add i 1) (by omega) hL) (by rw [nI_add, nI_clamp (by omega), e4]) (pn 1133 rfl ?_)
  refine s_aload_n (i := 0) (by decide +kernel) rfl (pn 1134 rfl ?_)
  refine s_iload_n (i := 3) (by decide +kernel) rfl (pn 1135 rfl ?_)
  refine t_iconst (n := 2) (v := nI 2) (by decide +kernel) (by decide +kernel) (pn 1136 rfl ?_)
  refine s_iadd (by decide +kernel) (pn 1137 rfl ?_)
  refine t_iaload (v := M.1 4000 (i + 2)) (by decide +kernel) sc_ok (sc_at (i := i) (k := 2) hs1 (nI_add i 2) (by omega) hL) (by rw [nI_add, nI_clamp (by omega), e4]) (pn 1138 rfl ?_)
  refine s_aload_n (i := 0) (by decide +kernel) rfl (pn 1139 rfl ?_)
  refine s_iload_n (i := 3) (by decide +kernel) rfl (pn 1140 rfl ?_)
  refine t_iconst (n := 3) (v := nI 3) (by decide +kernel) (by decide +kernel) (pn 1141 rfl ?_)
  refine s_iadd (by decide +kernel) (pn 1142 rfl ?_)
  refine t_iaload (v := M.1 4000 (i + 3)) (by decide +kernel) sc_ok (sc_at (i := i) (k := 3) hs1 (nI_add i 3) (by omega) hL) (by rw [nI_add, nI_clamp (by omega), e4]) (pn 1143 rfl ?_)
  refine s_callvI (ix := 149) (y := yM_openedBy) [.int (M.1 4000 (i + 1)), .int (M.1 4000 (i + 2)), .int (M.1 4000 (i + 3))] rfl (by decide +kernel) mv_13_149 np_296 (Nat.le_of_ble_eq_true rfl) lq_159 ((congrArg Prod.fst sh_159).trans oc_296) (cI_use (cI_sc h) (fun v2 s2 M2 h2 => (pn 1146 rfl ?_)))
  obtain ⟨e5, -, ev, hI2⟩ := h2
  subst ev
  refine s_icmp_eq (off := 506) (tgt := 1652) (by decide +kernel) rfl (fun _ => ?_) (fun c => absurd rfl c)
  exact next s2 M2 hI2 (e5.trans e4)
theorem law_inADay {d L i : Nat} {s : pm_S} {M : pm_M} (hd : 100 ≤ d) (hI : Inv L s M) (h6 : i + 6 ≤ L) (hL : L ≤ 3072) (next : ∀ s1 M1, Inv L s1 M1 → M1.1 4000 = M.1 4000 → wLaw d 1652 [.ref 4000, .ref 0, .ref 159, .int (nI i)] [] s1 M1) : wLaw d 1151 [.ref 4000, .ref 0, .ref 159, .int (nI i)] [] s M := by
  have hs : s.1 = L := hI.1.1
  show pm_wp (pm_cal d) code 13 (some .boolean) false 1151 [.ref 4000, .ref 0, .ref 159, .int (nI i)] [] (EE s) M lawQ
  refine s_aload_n (i := 1) (by decide +kernel) rfl (pn 1152 rfl ?_)
  refine s_aload_n (i := 0) (by decide +kernel) rfl (pn 1153 rfl ?_)
  refine s_iload_n (i := 3) (by decide +kernel) rfl (pn 1154 rfl ?_)
  refine t_iconst (n := 1) (v := nI 1) (by decide +kernel) (by decide +kernel) (pn 1155 rfl ?_)
  refine s_iadd (by decide +kernel) (pn 1156 rfl ?_)
  refine t_iaload (v := M.1 4000 (i + 1)) (by decide +kernel) sc_ok (sc_at (i := i) (k := 1) hs (nI_add i 1) (by omega) hL) (by rw [nI_add, nI_clamp (by omega)]) (pn 1157 rfl ?_)
  refine s_aload_n (i := 0) (by decide +kernel) rfl (pn 1158 rfl ?_)
  refine s_iload_n (i := 3) (by decide +kernel) rfl (pn 1159 rfl ?_)
  refine t_iconst (n := 2) (v := nI 2) (by decide +kernel) (by decide +kernel) (pn 1160 rfl ?_)
  refine s_iadd (by decide +kernel) (pn 1161 rfl ?_)
  refine t_iaload (v := M.1 4000 (i + 2)) (by decide +kernel) sc_ok (sc_at (i := i) (k := 2) hs (nI_add i 2) (by omega) hL) (by rw [nI_add, nI_clamp (by omega)]) (pn 1162 rfl ?_)
  refine s_callvI (ix := 150) (y := yG_inADay) [.int (M.1 4000 (i + 1)), .int (M.1 4000 (i + 2))] rfl (by decide +kernel) mv_13_150 np_166 (Nat.le_of_ble_eq_true rfl) lq_0 ((congrArg Prod.fst sh_0).trans oc_166) (cI_use (cI_sc (op_inADay (L := L) (by omega) hI)) (fun v s1 M1 h => (pn 1165 rfl ?_)))
  obtain ⟨e4, hs1, h⟩ := h
  rw [hs] at hs1
  refine s_aload_n (i := 2) (by decide +kernel) rfl (pn 1166 rfl ?_)
  refine s_aload_n (i := 0) (by decide +kernel) rfl (pn 1167 rfl ?_)
  refine s_iload_n (i := 3) (by decide +kernel) rfl (pn 1168 rfl ?_)
  refine t_iconst (n := 1) (v := nI 1) (by decide +kernel) (by decide +kernel) (pn 1169 rfl ?_)
  refine s_iadd (by decide +kernel) (pn 1170 rfl ?_)
  refine t_iaload (v := M.1 4000 (i + 1)) (by decide +kernel) sc_ok (sc_at (i := i) (k := 1) hs1 (nI_add i 1) (by omega) hL) (by rw [nI_add, nI_clamp (by omega), e4]) (pn 1171 rfl ?_)
  refine s_aload_n (i := 0) (by decide +kernel) rfl (pn 1172 rfl ?_)
  refine s_iload_n (i := 3) (by decide +kernel) rfl (pn 1173 rfl ?_)
  refine t_iconst (n := 2) (v := nI 2) (by decide +kernel) (by decide +kernel) (pn 1174 rfl ?_)
  refine s_iadd (by decide +kernel) (pn 1175 rfl ?_)
  refine t_iaload (v := M.1 4000 (i + 2)) (by decide +kernel) sc_ok (sc_at (i := i) (k := 2) hs1 (nI_add i 2) (by omega) hL) (by rw [nI_add, nI_clamp (by omega), e4]) (pn 1176 rfl ?_)
  refine s_callvI (ix := 153) (y := yM_inADay) [.int (M.1 4000 (i + 1)), .int (M.1 4000 (i + 2))] rfl (by decide +kernel) mv_13_153 np_297 (Nat.le_of_ble_eq_true rfl) lq_159 ((congrArg Prod.fst sh_159).trans oc_297) (cI_use (cI_sc h) (fun v2 s2 M2 h2 => (pn 1179 rfl ?_)))
  obtain ⟨e5, -, ev, hI2⟩ := h2
  subst ev
  refine s_icmp_eq (off := 473) (tgt := 1652) (by decide +kernel) rfl (fun _ => ?_) (fun c => absurd rfl c)
  exact next s2 M2 hI2 (e5.trans e4)
theorem law_marks {d L i : Nat} {s : pm_S} {M : pm_M} (hd : 100 ≤ d) (hI : Inv L s M) (h6 : i + 6 ≤ L) (hL : L ≤ 3072) (next : ∀ s1 M1, Inv L s1 M1 → M1.1 4000 = M.1 4000 → wLaw d 1652 [.ref 4000, .ref 0, .ref 159, .int (nI i)] [] s1 M1) : wLaw d 1184 [.ref 4000, .ref 0, .ref 159, .int (nI i)] [] s M := by
  have hs : s.1 = L := hI.1.1
  show pm_wp (pm_cal d) code 13 (some .boolean) false 1184 [.ref 4000, .ref 0, .ref 159, .int (nI i)] [] (EE s) M lawQ
  refine s_aload_n (i := 1) (by decide +kernel) rfl (pn 1185 rfl ?_)
  refine s_aload_n (i := 0) (by decide +kernel) rfl (pn 1186 rfl ?_)
  refine s_iload_n (i := 3) (by decide +kernel) rfl (pn 1187 rfl ?_)
  refine t_iconst (n := 1) (v := nI 1) (by decide +kernel) (by decide +kernel) (pn 1188 rfl ?_)
  refine s_iadd (by decide +kernel) (pn 1189 rfl ?_)
  refine t_iaload (v := M.1 4000 (i + 1)) (by decide +kernel) sc_ok (sc_at (i := i) (k := 1) hs (nI_add i 1) (by omega) hL) (by rw [nI_add, nI_clamp (by omega)]) (pn 1190 rfl ?_)
  refine s_aload_n (i := 0) (by decide +kernel) rfl (pn 1191 rfl ?_)
  refine s_iload_n (i := 3) (by decide +kernel) rfl (pn 1192 rfl ?_)
  refine t_iconst (n := 2) (v := nI 2) (by decide +kernel) (by decide +kernel) (pn 1193 rfl ?_)
  refine s_iadd (by decide +kernel) (pn 1194 rfl ?_)
  refine t_iaload (v := M.1 4000 (i + 2)) (by decide +kernel) sc_ok (sc_at (i := i) (k := 2) hs (nI_add i 2) (by omega) hL) (by rw [nI_add, nI_clamp (by omega)]) (pn 1195 rfl ?_)
  refine s_callvI (ix := 154) (y := yG_marks) [.int (M.1 4000 (i + 1)), .int (M.1 4000 (i + 2))] rfl (by decide +kernel) mv_13_154 np_167 (Nat.le_of_ble_eq_true rfl) lq_0 ((congrArg Prod.fst sh_0).trans oc_167) (cI_use (cI_sc (op_marks (L := L) (by omega) hI)) (fun v s1 M1 h => (pn 1198 rfl ?_)))
  obtain ⟨e4, hs1, h⟩ := h
  rw [hs] at hs1
  refine s_aload_n (i := 2) (by decide +kernel) rfl (pn 1199 rfl ?_)
  refine s_aload_n (i := 0) (by decide +kernel) rfl (pn 1200 rfl ?_)
  refine s_iload_n (i := 3) (by decide +kernel) rfl (pn 1201 rfl ?_)
  refine t_iconst (n := 1) (v := nI 1) (by decide +kernel) (by decide +kernel) (pn 1202 rfl ?_)
  refine s_iadd (by decide +kernel) (pn 1203 rfl ?_)
  refine t_iaload (v := M.1 4000 (i + 1)) (by decide +kernel) sc_ok (sc_at (i := i) (k := 1) hs1 (nI_add i 1) (by omega) hL) (by rw [nI_add, nI_clamp (by omega), e4]) (pn 1204 rfl ?_)
  refine s_aload_n (i := 0) (by decide +kernel) rfl (pn 1205 rfl ?_)
  refine s_iload_n (i := 3) (by decide +kernel) rfl (pn 1206 rfl ?_)
  refine t_iconst (n := 2) (v := nI 2) (by decide +kernel) (by decide +kernel) (pn 1207 rfl ?_)
  refine s_iadd (by decide +kernel) (pn 1208 rfl ?_)
  refine t_iaload (v := M.1 4000 (i + 2)) (by decide +kernel) sc_ok (sc_at (i := i) (k := 2) hs1 (nI_add i 2) (by omega) hL) (by rw [nI_add, nI_clamp (by omega), e4]) (pn 1209 rfl ?_)
  refine s_callvI (ix := 157) (y := yM_marks) [.int (M.1 4000 (i + 1)), .int (M.1 4000 (i + 2))] rfl (by decide +kernel) mv_13_157 np_298 (Nat.le_of_ble_eq_true rfl) lq_159 ((congrArg Prod.fst sh_159).trans oc_298) (cI_use (cI_sc h) (fun v2 s2 M2 h2 => (pn 1212 rfl ?_)))
  obtain ⟨e5, -, ev, hI2⟩ := h2
  subst ev
  refine s_icmp_eq (off := 440) (tgt := 1652) (by decide +kernel) rfl (fun _ => ?_) (fun c => absurd rfl c)
  exact next s2 M2 hI2 (e5.trans e4)
theorem law_show {d L i : Nat} {s : pm_S} {M : pm_M} (hd : 100 ≤ d) (hI : Inv L s M) (h6 : i + 6 ≤ L) (hL : L ≤ 3072) (next : ∀ s1 M1, Inv L s1 M1 → M1.1 4000 = M.1 4000 → wLaw d 1652 [.ref 4000, .ref 0, .ref 159, .int (nI i)] [] s1 M1) : wLaw d 1217 [.ref 4000, .ref 0, .ref 159, .int (nI i)] [] s M := by
  have hs : s.1 = L := hI.1.1
  show pm_wp (pm_cal d) code 13 (some .boolean) false 1217 [.ref 4000, .ref 0, .ref 159, .int (nI i)] [] (EE s) M lawQ
  refine s_aload_n (i := 1) (by decide +kernel) rfl (pn 1218 rfl ?_)
  refine s_aload_n (i := 0) (by decide +kernel) rfl (pn 1219 rfl ?_)
  refine s_iload_n (i := 3) (by decide +kernel) rfl (pn 1220 rfl ?_)
  refine t_iconst (n := 1) (v := nI 1) (by decide +kernel) (by decide +kernel) (pn 1221 rfl ?_)
  refine s_iadd (by decide +kernel) (pn 1222 rfl ?_)
  refine t_iaload (v := M.1 4000 (i + 1)) (by decide +kernel) sc_ok (sc_at (i := i) (k := 1) hs (nI_add i 1) (by omega) hL) (by rw [nI_add, nI_clamp (by omega)]) (pn 1223 rfl ?_)
  refine s_aload_n (i := 0) (by decide +kernel) rfl (pn 1224 rfl ?_)
  refine s_iload_n (i := 3) (by decide +kernel) rfl (pn 1225 rfl ?_)
  refine t_iconst (n := 2) (v := nI 2) (by decide +kernel) (by decide +kernel) (pn 1226 rfl ?_)
  refine s_iadd (by decide +kernel) (pn 1227 rfl ?_)
  refine t_iaload (v := M.1 4000 (i + 2)) (by decide +kernel) sc_ok (sc_at (i := i) (k := 2) hs (nI_add i 2) (by omega) hL) (by rw [nI_add, nI_clamp (by omega)]) (pn 1228 rfl ?_)
  refine s_callvI (ix := 158) (y := yG_show) [.int (M.1 4000 (i + 1)), .int (M.1 4000 (i + 2))] rfl (by decide +kernel) mv_13_158 np_171 (Nat.le_of_ble_eq_true rfl) lq_0 ((congrArg Prod.fst sh_0).trans oc_171) (cI_use (cI_sc (op_show (L := L) (by omega) hI)) (fun v s1 M1 h => (pn 1231 rfl ?_)))
  obtain ⟨e4, hs1, h⟩ := h
  rw [hs] at hs1
  refine s_aload_n (i := 2) (by decide +kernel) rfl (pn 1232 rfl ?_)
  refine s_aload_n (i := 0) (by decide +kernel) rfl (pn 1233 rfl ?_)
  refine s_iload_n (i := 3) (by decide +kernel) rfl (pn 1234 rfl ?_)
  refine t_iconst (n := 1) (v := nI 1) (by decide +kernel) (by decide +kernel) (pn 1235 rfl ?_)
  refine s_iadd (by decide +kernel) (pn 1236 rfl ?_)
  refine t_iaload (v := M.1 4000 (i + 1)) (by decide +kernel) sc_ok (sc_at (i := i) (k := 1) hs1 (nI_add i 1) (by omega) hL) (by rw [nI_add, nI_clamp (by omega), e4]) (pn 1237 rfl ?_)
  refine s_aload_n (i := 0) (by decide +kernel) rfl (pn 1238 rfl ?_)
  refine s_iload_n (i := 3) (by decide +kernel) rfl (pn 1239 rfl ?_)
  refine t_iconst (n := 2) (v := nI 2) (by decide +kernel) (by decide +kernel) (pn 1240 rfl ?_)
  refine s_iadd (by decide +kernel) (pn 1241 rfl ?_)
  refine t_iaload (v := M.1 4000 (i + 2)) (by decide +kernel) sc_ok (sc_at (i := i) (k := 2) hs1 (nI_add i 2) (by omega) hL) (by rw [nI_add, nI_clamp (by omega), e4]) (pn 1242 rfl ?_)
  refine s_callvI (ix := 161) (y := yM_show) [.int (M.1 4000 (i + 1)), .int (M.1 4000 (i + 2))] rfl (by decide +kernel) mv_13_161 np_303 (Nat.le_of_ble_eq_true rfl) lq_159 ((congrArg Prod.fst sh_159).trans oc_303) (cI_use (cI_sc h) (fun v2 s2 M2 h2 => (pn 1245 rfl ?_)))
  obtain ⟨e5, -, ev, hI2⟩ := h2
  subst ev
  refine s_icmp_eq (off := 407) (tgt := 1652) (by decide +kernel) rfl (fun _ => ?_) (fun c => absurd rfl c)
  exact next s2 M2 hI2 (e5.trans e4)
theorem law_game {d L i : Nat} {s : pm_S} {M : pm_M} (hd : 100 ≤ d) (hI : Inv L s M) (h6 : i + 6 ≤ L) (hL : L ≤ 3072) (next : ∀ s1 M1, Inv L s1 M1 → M1.1 4000 = M.1 4000 → wLaw d 1652 [.ref 4000, .ref 0, .ref 159, .int (nI i)] [] s1 M1) : wLaw d 1250 [.ref 4000, .ref 0, .ref 159, .int (nI i)] [] s M := by
  have hs : s.1 = L := hI.1.1
  show pm_wp (pm_cal d) code 13 (some .boolean) false 1250 [.ref 4000, .ref 0, .ref 159, .int (nI i)] [] (EE s) M lawQ
  refine s_aload_n (i := 1) (by decide +kernel) rfl (pn 1251 rfl ?_)
  refine s_aload_n (i := 0) (by decide +kernel) rfl (pn 1252 rfl ?_)
  refine s_iload_n (i := 3) (by decide +kernel) rfl (pn 1253 rfl ?_)
  refine t_iconst (n := 1) (v := nI 1) (by decide +kernel) (by decide +kernel) (pn 1254 rfl ?_)
  refine s_iadd (by decide +kernel) (pn 1255 rfl ?_)
  refine t_iaload (v := M.1 4000 (i + 1)) (by decide +kernel) sc_ok (sc_at (i := i) (k := 1) hs (nI_add i 1) (by omega) hL) (by rw [nI_add, nI_clamp (by omega)]) (pn 1256 rfl ?_)
  refine s_aload_n (i := 0) (by decide +kernel) rfl (pn 1257 rfl ?_)
  refine s_iload_n (i := 3) (by decide +kernel) rfl (pn 1258 rfl ?_)
  refine t_iconst (n := 2) (v := nI 2) (by decide +kernel) (by decide +kernel) (pn 1259 rfl ?_)
  refine s_iadd (by decide +kernel) (pn 1260 rfl ?_)
  refine t_iaload (v := M.1 4000 (i + 2)) (by decide +kernel) sc_ok (sc_at (i := i) (k := 2) hs (nI_add i 2) (by omega) hL) (by rw [nI_add, nI_clamp (by omega)]) (pn 1261 rfl ?_)
  refine s_aload_n (i := 0) (by decide +kernel) rfl (pn 1262 rfl ?_)
  refine s_iload_n (i := 3) (by decide +kernel) rfl (pn 1263 rfl ?_)
  refine t_iconst (n := 3) (v := nI 3) (by decide +kernel) (by decide +kernel) (pn 1264 rfl ?_)
  refine s_iadd (by decide +kernel) (pn 1265 rfl ?_)
  refine t_iaload (v := M.1 4000 (i + 3)) (by decide +kernel) sc_ok (sc_at (i := i) (k := 3) hs (nI_add i 3) (by omega) hL) (by rw [nI_add, nI_clamp (by omega)]) (pn 1266 rfl ?_)
  refine s_callvI (ix := 162) (y := yG_game) [.int (M.1 4000 (i + 1)), .int (M.1 4000 (i + 2)), .int (M.1 4000 (i + 3))] rfl (by decide +kernel) mv_13_162 np_172 (Nat.le_of_ble_eq_true rfl) lq_0 ((congrArg Prod.fst sh_0).trans oc_172) (cI_use (cI_sc (op_game (L := L) (by omega) hI)) (fun v s1 M1 h => (pn 1269 rfl ?_)))
  obtain ⟨e4, hs1, h⟩ := h
  rw [hs] at hs1
  refine s_aload_n (i := 2) (by decide +kernel) rfl (pn 1270 rfl ?_)
  refine s_aload_n (i := 0) (by decide +kernel) rfl (pn 1271 rfl ?_)
  refine s_iload_n (i := 3) (by decide +kernel) rfl (pn 1272 rfl ?_)
  refine t_iconst (n := 1) (v := nI 1) (by decide +kernel) (by decide +kernel) (pn 1273 rfl ?_)
  refine s_iadd (by decide +kernel) (pn 1274 rfl ?_)
  refine t_iaload (v := M.1 4000 (i + 1)) (by decide +kernel) sc_ok (sc_at (i := i) (k := 1) hs1 (nI_add i 1) (by omega) hL) (by rw [nI_add, nI_clamp (by omega), e4]) (pn 1275 rfl ?_)
  refine s_aload_n (i := 0) (by decide +kernel) rfl (pn 1276 rfl ?_)
  refine s_iload_n (i := 3) (by decide +kernel) rfl (pn 1277 rfl ?_)
  refine t_iconst (n := 2) (v := nI 2) (by decide +kernel) (by decide +kernel) (pn 1278 rfl ?_)
  refine s_iadd (by decide +kernel) (pn 1279 rfl ?_)
  refine t_iaload (v := M.1 4000 (i + 2)) (by decide +kernel) sc_ok (sc_at (i := i) (k := 2) hs1 (nI_add i 2) (by omega) hL) (by rw [nI_add, nI_clamp (by omega), e4]) (pn 1280 rfl ?_)
  refine s_aload_n (i := 0) (by decide +kernel) rfl (pn 1281 rfl ?_)
  refine s_iload_n (i := 3) (by decide +kernel) rfl (pn 1282 rfl ?_)
  refine t_iconst (n := 3) (v := nI 3) (by decide +kernel) (by decide +kernel) (pn 1283 rfl ?_)
  refine s_iadd (by decide +kernel) (pn 1284 rfl ?_)
  refine t_iaload (v := M.1 4000 (i + 3)) (by decide +kernel) sc_ok (sc_at (i := i) (k := 3) hs1 (nI_add i 3) (by omega) hL) (by rw [nI_add, nI_clamp (by omega), e4]) (pn 1285 rfl ?_)
  refine s_callvI (ix := 165) (y := yM_game) [.int (M.1 4000 (i + 1)), .int (M.1 4000 (i + 2)), .int (M.1 4000 (i + 3))] rfl (by decide +kernel) mv_13_165 np_304 (Nat.le_of_ble_eq_true rfl) lq_159 ((congrArg Prod.fst sh_159).trans oc_304) (cI_use (cI_sc h) (fun v2 s2 M2 h2 => (pn 1288 rfl ?_)))
  obtain ⟨e5, -, ev, hI2⟩ := h2
  subst ev
  refine s_icmp_eq (off := 364) (tgt := 1652) (by decide +kernel) rfl (fun _ => ?_) (fun c => absurd rfl c)
  exact next s2 M2 hI2 (e5.trans e4)
theorem law_picks {d L i : Nat} {s : pm_S} {M : pm_M} (hd : 100 ≤ d) (hI : Inv L s M) (h6 : i + 6 ≤ L) (hL : L ≤ 3072) (next : ∀ s1 M1, Inv L s1 M1 → M1.1 4000 = M.1 4000 → wLaw d 1652 [.ref 4000, .ref 0, .ref 159, .int (nI i)] [] s1 M1) : wLaw d 1293 [.ref 4000, .ref 0, .ref 159, .int (nI i)] [] s M := by
  have hs : s.1 = L := hI.1.1
  show pm_wp (pm_cal d) code 13 (some .boolean) false 1293 [.ref 4000, .ref 0, .ref 159, .int (nI i)] [] (EE s) M lawQ
  refine s_aload_n (i := 1) (by decide +kernel) rfl (pn 1294 rfl ?_)
  refine s_aload_n (i := 0) (by decide +kernel) rfl (pn 1295 rfl ?_)
  refine s_iload_n (i := 3) (by decide +kernel) rfl (pn 1296 rfl ?_)
  refine t_iconst (n := 1) (v := nI 1) (by decide +kernel) (by decide +kernel) (pn 1297 rfl ?_)
  refine s_iadd (by decide +kernel) (pn 1298 rfl ?_)
  refine t_iaload (v := M.1 4000 (i + 1)) (by decide +kernel) sc_ok (sc_at (i := i) (k := 1) hs (nI_add i 1) (by omega) hL) (by rw [nI_add, nI_clamp (by omega)]) (pn 1299 rfl ?_)
  refine s_aload_n (i := 0) (by decide +kernel) rfl (pn 1300 rfl ?_)
  refine s_iload_n (i := 3) (by decide +kernel) rfl (pn 1301 rfl ?_)
  refine t_iconst (n := 2) (v := nI 2) (by decide +kernel) (by decide +kernel) (pn 1302 rfl ?_)
  refine s_iadd (by decide +kernel) (pn 1303 rfl ?_)
  refine t_iaload (v := M.1 4000 (i + 2)) (by decide +kernel) sc_ok (sc_at (i := i) (k := 2) hs (nI_add i 2) (by omega) hL) (by rw [nI_add, nI_clamp (by omega)]) (pn 1304 rfl ?_)
  refine s_aload_n (i := 0) (by decide +kernel) rfl (pn 1305 rfl ?_)
  refine s_iload_n (i := 3) (by decide +kernel) rfl (pn 1306 rfl ?_)
  refine t_iconst (n := 3) (v := nI 3) (by decide +kernel) (by decide +kernel) (pn 1307 rfl ?_)
  refine s_iadd (by decide +kernel) (pn 1308 rfl ?_)
  refine t_iaload (v := M.1 4000 (i + 3)) (by decide +kernel) sc_ok (sc_at (i := i) (k := 3) hs (nI_add i 3) (by omega) hL) (by rw [nI_add, nI_clamp (by omega)]) (pn 1309 rfl ?_)
  refine s_callvI (ix := 166) (y := yG_picks) [.int (M.1 4000 (i + 1)), .int (M.1 4000 (i + 2)), .int (M.1 4000 (i + 3))] rfl (by decide +kernel) mv_13_166 np_174 (Nat.le_of_ble_eq_true rfl) lq_0 ((congrArg Prod.fst sh_0).trans oc_174) (cI_use (cI_sc (op_picks (L := L) (by omega) hI)) (fun v s1 M1 h => (pn 1312 rfl ?_)))
  obtain ⟨e4, hs1, h⟩ := h
  rw [hs] at hs1
  refine s_aload_n (i := 2) (by decide +kernel) rfl (pn 1313 rfl ?_)
  refine s_aload_n (i := 0) (by decide +kernel) rfl (pn 1314 rfl ?_)
  refine s_iload_n (i := 3) (by decide +kernel) rfl (pn 1315 rfl ?_)
  refine t_iconst (n := 1) (v := nI 1) (by decide +kernel) (by decide +kernel) (pn 1316 rfl ?_)
  refine s_iadd (by decide +kernel) (pn 1317 rfl ?_)
  refine t_iaload (v := M.1 4000 (i + 1)) (by decide +kernel) sc_ok (sc_at (i := i) (k := 1) hs1 (nI_add i 1) (by omega) hL) (by rw [nI_add, nI_clamp (by omega), e4]) (pn 1318 rfl ?_)
  refine s_aload_n (i := 0) (by decide +kernel) rfl (pn 1319 rfl ?_)
  refine s_iload_n (i := 3) (by decide +kernel) rfl (pn 1320 rfl ?_)
  refine t_iconst (n := 2) (v := nI 2) (by decide +kernel) (by decide +kernel) (pn 1321 rfl ?_)
  refine s_iadd (by decide +kernel) (pn 1322 rfl ?_)
  refine t_iaload (v := M.1 4000 (i + 2)) (by decide +kernel) sc_ok (sc_at (i := i) (k := 2) hs1 (nI_add i 2) (by omega) hL) (by rw [nI_add, nI_clamp (by omega), e4]) (pn 1323 rfl ?_)
  refine s_aload_n (i := 0) (by decide +kernel) rfl (pn 1324 rfl ?_)
  refine s_iload_n (i := 3) (by decide +kernel) rfl (pn 1325 rfl ?_)
  refine t_iconst (n := 3) (v := nI 3) (by decide +kernel) (by decide +kernel) (pn 1326 rfl ?_)
  refine s_iadd (by decide +kernel) (pn 1327 rfl ?_)
  refine t_iaload (v := M.1 4000 (i + 3)) (by decide +kernel) sc_ok (sc_at (i := i) (k := 3) hs1 (nI_add i 3) (by omega) hL) (by rw [nI_add, nI_clamp (by omega), e4]) (pn 1328 rfl ?_)
  refine s_callvI (ix := 169) (y := yM_picks) [.int (M.1 4000 (i + 1)), .int (M.1 4000 (i + 2)), .int (M.1 4000 (i + 3))] rfl (by decide +kernel) mv_13_169 np_307 (Nat.le_of_ble_eq_true rfl) lq_159 ((congrArg Prod.fst sh_159).trans oc_307) (cI_use (cI_sc h) (fun v2 s2 M2 h2 => (pn 1331 rfl ?_)))
  obtain ⟨e5, -, ev, hI2⟩ := h2
  subst ev
  refine s_icmp_eq (off := 321) (tgt := 1652) (by decide +kernel) rfl (fun _ => ?_) (fun c => absurd rfl c)
  exact next s2 M2 hI2 (e5.trans e4)
theorem law_chance {d L i : Nat} {s : pm_S} {M : pm_M} (hd : 100 ≤ d) (hI : Inv L s M) (h6 : i + 6 ≤ L) (hL : L ≤ 3072) (next : ∀ s1 M1, Inv L s1 M1 → M1.1 4000 = M.1 4000 → wLaw d 1652 [.ref 4000, .ref 0, .ref 159, .int (nI i)] [] s1 M1) : wLaw d 1336 [.ref 4000, .ref 0, .ref 159, .int (nI i)] [] s M := by
  have hs : s.1 = L := hI.1.1
  show pm_wp (pm_cal d) code 13 (some .boolean) false 1336 [.ref 4000, .ref 0, .ref 159, .int (nI i)] [] (EE s) M lawQ
  refine s_aload_n (i := 1) (by decide +kernel) rfl (pn 1337 rfl ?_)
  refine s_aload_n (i := 0) (by decide +kernel) rfl (pn 1338 rfl ?_)
  refine s_iload_n (i := 3) (by decide +kernel) rfl (pn 1339 rfl ?_)
  refine t_iconst (n := 1) (v := nI 1) (by decide +kernel) (by decide +kernel) (pn 1340 rfl ?_)
  refine s_iadd (by decide +kernel) (pn 1341 rfl ?_)
  refine t_iaload (v := M.1 4000 (i + 1)) (by decide +kernel) sc_ok (sc_at (i := i) (k := 1) hs (nI_add i 1) (by omega) hL) (by rw [nI_add, nI_clamp (by omega)]) (pn 1342 rfl ?_)
  refine s_aload_n (i := 0) (by decide +kernel) rfl (pn 1343 rfl ?_)
  refine s_iload_n (i := 3) (by decide +kernel) rfl (pn 1344 rfl ?_)
  refine t_iconst (n := 2) (v := nI 2) (by decide +kernel) (by decide +kernel) (pn 1345 rfl ?_)
  refine s_iadd (by decide +kernel) (pn 1346 rfl ?_)
  refine t_iaload (v := M.1 4000 (i + 2)) (by decide +kernel) sc_ok (sc_at (i := i) (k := 2) hs (nI_add i 2) (by omega) hL) (by rw [nI_add, nI_clamp (by omega)]) (pn 1347 rfl ?_)
  refine s_aload_n (i := 0) (by decide +kernel) rfl (pn 1348 rfl ?_)
  refine s_iload_n (i := 3) (by decide +kernel) rfl (pn 1349 rfl ?_)
  refine t_iconst (n := 3) (v := nI 3) (by decide +kernel) (by decide +kernel) (pn 1350 rfl ?_)
  refine s_iadd (by decide +kernel) (pn 1351 rfl ?_)
  refine t_iaload (v := M.1 4000 (i + 3)) (by decide +kernel) sc_ok (sc_at (i := i) (k := 3) hs (nI_add i 3) (by omega) hL) (by rw [nI_add, nI_clamp (by omega)]) (pn 1352 rfl ?_)
  refine s_callvL (ix := 170) (y := yG_chance) [.int (M.1 4000 (i + 1)), .int (M.1 4000 (i + 2)), .int (M.1 4000 (i + 3))] rfl (by decide +kernel) mv_13_170 np_175 (Nat.le_of_ble_eq_true rfl) lq_0 ((congrArg Prod.fst sh_0).trans oc_175) (cL_use (cL_sc (op_chance (L := L) (by omega) hI)) (fun v s1 M1 h => (pn 1355 rfl ?_)))
  obtain ⟨e4, hs1, h⟩ := h
  rw [hs] at hs1
  refine s_aload_n (i := 2) (by decide +kernel) rfl (pn 1356 rfl ?_)
  refine s_aload_n (i := 0) (by decide +kernel) rfl (pn 1357 rfl ?_)
  refine s_iload_n (i := 3) (by decide +kernel) rfl (pn 1358 rfl ?_)
  refine t_iconst (n := 1) (v := nI 1) (by decide +kernel) (by decide +kernel) (pn 1359 rfl ?_)
  refine s_iadd (by decide +kernel) (pn 1360 rfl ?_)
  refine t_iaload (v := M.1 4000 (i + 1)) (by decide +kernel) sc_ok (sc_at (i := i) (k := 1) hs1 (nI_add i 1) (by omega) hL) (by rw [nI_add, nI_clamp (by omega), e4]) (pn 1361 rfl ?_)
  refine s_aload_n (i := 0) (by decide +kernel) rfl (pn 1362 rfl ?_)
  refine s_iload_n (i := 3) (by decide +kernel) rfl (pn 1363 rfl ?_)
  refine t_iconst (n := 2) (v := nI 2) (by decide +kernel) (by decide +kernel) (pn 1364 rfl ?_)
  refine s_iadd (by decide +kernel) (pn 1365 rfl ?_)
  refine t_iaload (v := M.1 4000 (i + 2)) (by decide +kernel) sc_ok (sc_at (i := i) (k := 2) hs1 (nI_add i 2) (by omega) hL) (by rw [nI_add, nI_clamp (by omega), e4]) (pn 1366 rfl ?_)
  refine s_aload_n (i := 0) (by decide +kernel) rfl (pn 1367 rfl ?_)
  refine s_iload_n (i := 3) (by decide +kernel) rfl (pn 1368 rfl ?_)
  refine t_iconst (n := 3) (v := nI 3) (by decide +kernel) (by decide +kernel) (pn 1369 rfl ?_)
  refine s_iadd (by decide +kernel) (pn 1370 rfl ?_)
  refine t_iaload (v := M.1 4000 (i + 3)) (by decide +kernel) sc_ok (sc_at (i := i) (k := 3) hs1 (nI_add i 3) (by omega) hL) (by rw [nI_add, nI_clamp (by omega), e4]) (pn 1371 rfl ?_)
  refine s_callvL (ix := 174) (y := yM_chance) [.int (M.1 4000 (i + 1)), .int (M.1 4000 (i + 2)), .int (M.1 4000 (i + 3))] rfl (by decide +kernel) mv_13_174 np_308 (Nat.le_of_ble_eq_true rfl) lq_159 ((congrArg Prod.fst sh_159).trans oc_308) (cL_use (cL_sc h) (fun v2 s2 M2 h2 => (pn 1374 rfl ?_)))
  obtain ⟨e5, -, ev, hI2⟩ := h2
  subst ev
  refine t_lc_eq (off := 277) (tgt := 1652) (by decide +kernel) (by decide +kernel) rfl (fun _ => ?_) (fun c => absurd rfl c)
  exact next s2 M2 hI2 (e5.trans e4)
theorem law_bearing {d L i : Nat} {s : pm_S} {M : pm_M} (hd : 100 ≤ d) (hI : Inv L s M) (h6 : i + 6 ≤ L) (hL : L ≤ 3072) (next : ∀ s1 M1, Inv L s1 M1 → M1.1 4000 = M.1 4000 → wLaw d 1652 [.ref 4000, .ref 0, .ref 159, .int (nI i)] [] s1 M1) : wLaw d 1380 [.ref 4000, .ref 0, .ref 159, .int (nI i)] [] s M := by
  have hs : s.1 = L := hI.1.1
  show pm_wp (pm_cal d) code 13 (some .boolean) false 1380 [.ref 4000, .ref 0, .ref 159, .int (nI i)] [] (EE s) M lawQ
  refine s_aload_n (i := 1) (by decide +kernel) rfl (pn 1381 rfl ?_)
  refine s_aload_n (i := 0) (by decide +kernel) rfl (pn 1382 rfl ?_)
  refine s_iload_n (i := 3) (by decide +kernel) rfl (pn 1383 rfl ?_)
  refine t_iconst (n := 1) (v := nI 1) (by decide +kernel) (by decide +kernel) (pn 1384 rfl ?_)
  refine s_iadd (by decide +kernel) (pn 1385 rfl ?_)
  refine t_iaload (v := M.1 4000 (i + 1)) (by decide +kernel) sc_ok (sc_at (i := i) (k := 1) hs (nI_add i 1) (by omega) hL) (by rw [nI_add, nI_clamp (by omega)]) (pn 1386 rfl ?_)
  refine s_aload_n (i := 0) (by decide +kernel) rfl (pn 1387 rfl ?_)
  refine s_iload_n (i := 3) (by decide +kernel) rfl (pn 1388 rfl ?_)
  refine t_iconst (n := 2) (v := nI 2) (by decide +kernel) (by decide +kernel) (pn 1389 rfl ?_)
  refine s_iadd (by decide +kernel) (pn 1390 rfl ?_)
  refine t_iaload (v := M.1 4000 (i + 2)) (by decide +kernel) sc_ok (sc_at (i := i) (k := 2) hs (nI_add i 2) (by omega) hL) (by rw [nI_add, nI_clamp (by omega)]) (pn 1391 rfl ?_)
  refine s_aload_n (i := 0) (by decide +kernel) rfl (pn 1392 rfl ?_)
  refine s_iload_n (i := 3) (by decide +kernel) rfl (pn 1393 rfl ?_)
  refine t_iconst (n := 3) (v := nI 3) (by decide +kernel) (by decide +kernel) (pn 1394 rfl ?_)
  refine s_iadd (by decide +kernel) (pn 1395 rfl ?_)
  refine t_iaload (v := M.1 4000 (i + 3)) (by decide +kernel) sc_ok (sc_at (i := i) (k := 3) hs (nI_add i 3) (by omega) hL) (by rw [nI_add, nI_clamp (by omega)]) (pn 1396 rfl ?_)
  refine s_callvI (ix := 175) (y := yG_bearing) [.int (M.1 4000 (i + 1)), .int (M.1 4000 (i + 2)), .int (M.1 4000 (i + 3))] rfl (by decide +kernel) mv_13_175 np_177 (Nat.le_of_ble_eq_true rfl) lq_0 ((congrArg Prod.fst sh_0).trans oc_177) (cI_use (cI_sc (op_bearing (L := L) (by omega) hI)) (fun v s1 M1 h => (pn 1399 rfl ?_)))
  obtain ⟨e4, hs1, h⟩ := h
  rw [hs] at hs1
  refine s_aload_n (i := 2) (by decide +kernel) rfl (pn 1400 rfl ?_)
  refine s_aload_n (i := 0) (by decide +kernel) rfl (pn 1401 rfl ?_)
  refine s_iload_n (i := 3) (by decide +kernel) rfl (pn 1402 rfl ?_)
  refine t_iconst (n := 1) (v := nI 1) (by decide +kernel) (by decide +kernel) (pn 1403 rfl ?_)
  refine s_iadd (by decide +kernel) (pn 1404 rfl ?_)
  refine t_iaload (v := M.1 4000 (i + 1)) (by decide +kernel) sc_ok (sc_at (i := i) (k := 1) hs1 (nI_add i 1) (by omega) hL) (by rw [nI_add, nI_clamp (by omega), e4]) (pn 1405 rfl ?_)
  refine s_aload_n (i := 0) (by decide +kernel) rfl (pn 1406 rfl ?_)
  refine s_iload_n (i := 3) (by decide +kernel) rfl (pn 1407 rfl ?_)
  refine t_iconst (n := 2) (v := nI 2) (by decide +kernel) (by decide +kernel) (pn 1408 rfl ?_)
  refine s_iadd (by decide +kernel) (pn 1409 rfl ?_)
  refine t_iaload (v := M.1 4000 (i + 2)) (by decide +kernel) sc_ok (sc_at (i := i) (k := 2) hs1 (nI_add i 2) (by omega) hL) (by rw [nI_add, nI_clamp (by omega), e4]) (pn 1410 rfl ?_)
  refine s_aload_n (i := 0) (by decide +kernel) rfl (pn 1411 rfl ?_)
  refine s_iload_n (i := 3) (by decide +kernel) rfl (pn 1412 rfl ?_)
  refine t_iconst (n := 3) (v := nI 3) (by decide +kernel) (by decide +kernel) (pn 1413 rfl ?_)
  refine s_iadd (by decide +kernel) (pn 1414 rfl ?_)
  refine t_iaload (v := M.1 4000 (i + 3)) (by decide +kernel) sc_ok (sc_at (i := i) (k := 3) hs1 (nI_add i 3) (by omega) hL) (by rw [nI_add, nI_clamp (by omega), e4]) (pn 1415 rfl ?_)
  refine s_callvI (ix := 178) (y := yM_bearing) [.int (M.1 4000 (i + 1)), .int (M.1 4000 (i + 2)), .int (M.1 4000 (i + 3))] rfl (by decide +kernel) mv_13_178 np_313 (Nat.le_of_ble_eq_true rfl) lq_159 ((congrArg Prod.fst sh_159).trans oc_313) (cI_use (cI_sc h) (fun v2 s2 M2 h2 => (pn 1418 rfl ?_)))
  obtain ⟨e5, -, ev, hI2⟩ := h2
  subst ev
  refine s_icmp_eq (off := 234) (tgt := 1652) (by decide +kernel) rfl (fun _ => ?_) (fun c => absurd rfl c)
  exact next s2 M2 hI2 (e5.trans e4)
theorem law_numbers {d L i : Nat} {s : pm_S} {M : pm_M} (hd : 100 ≤ d) (hI : Inv L s M) (h6 : i + 6 ≤ L) (hL : L ≤ 3072) (next : ∀ s1 M1, Inv L s1 M1 → M1.1 4000 = M.1 4000 → wLaw d 1652 [.ref 4000, .ref 0, .ref 159, .int (nI i)] [] s1 M1) : wLaw d 1423 [.ref 4000, .ref 0, .ref 159, .int (nI i)] [] s M := by
  have hs : s.1 = L := hI.1.1
  show pm_wp (pm_cal d) code 13 (some .boolean) false 1423 [.ref 4000, .ref 0, .ref 159, .int (nI i)] [] (EE s) M lawQ
  refine s_aload_n (i := 1) (by decide +kernel) rfl (pn 1424 rfl ?_)
  refine s_aload_n (i := 0) (by decide +kernel) rfl (pn 1425 rfl ?_)
  refine s_iload_n (i := 3) (by decide +kernel) rfl (pn 1426 rfl ?_)
  refine t_iconst (n := 1) (v := nI 1) (by decide +kernel) (by decide +kernel) (pn 1427 rfl ?_)
  refine s_iadd (by decide +kernel) (pn 1428 rfl ?_)
  refine t_iaload (v := M.1 4000 (i + 1)) (by decide +kernel) sc_ok (sc_at (i := i) (k := 1) hs (nI_add i 1) (by omega) hL) (by rw [nI_add, nI_clamp (by omega)]) (pn 1429 rfl ?_)
  refine s_aload_n (i := 0) (by decide +kernel) rfl (pn 1430 rfl ?_)
  refine s_iload_n (i := 3) (by decide +kernel) rfl (pn 1431 rfl ?_)
  refine t_iconst (n := 2) (v := nI 2) (by decide +kernel) (by decide +kernel) (pn 1432 rfl ?_)
  refine s_iadd (by decide +kernel) (pn 1433 rfl ?_)
  refine t_iaload (v := M.1 4000 (i + 2)) (by decide +kernel) sc_ok (sc_at (i := i) (k := 2) hs (nI_add i 2) (by omega) hL) (by rw [nI_add, nI_clamp (by omega)]) (pn 1434 rfl ?_)
  refine s_aload_n (i := 0) (by decide +kernel) rfl (pn 1435 rfl ?_)
  refine s_iload_n (i := 3) (by decide +kernel) rfl (pn 1436 rfl ?_)
  refine t_iconst (n := 3) (v := nI 3) (by decide +kernel) (by decide +kernel) (pn 1437 rfl ?_)
  refine s_iadd (by decide +kernel) (pn 1438 rfl ?_)
  refine t_iaload (v := M.1 4000 (i + 3)) (by decide +kernel) sc_ok (sc_at (i := i) (k := 3) hs (nI_add i 3) (by omega) hL) (by rw [nI_add, nI_clamp (by omega)]) (pn 1439 rfl ?_)
  refine s_callvI (ix := 179) (y := yG_numbers) [.int (M.1 4000 (i + 1)), .int (M.1 4000 (i + 2)), .int (M.1 4000 (i + 3))] rfl (by decide +kernel) mv_13_179 np_178 (Nat.le_of_ble_eq_true rfl) lq_0 ((congrArg Prod.fst sh_0).trans oc_178) (cI_use (cI_sc (op_numbers (L := L) (by omega) hI)) (fun v s1 M1 h => (pn 1442 rfl ?_)))
  obtain ⟨e4, hs1, h⟩ := h
  rw [hs] at hs1
  refine s_aload_n (i := 2) (by decide +kernel) rfl (pn 1443 rfl ?_)
  refine s_aload_n (i := 0) (by decide +kernel) rfl (pn 1444 rfl ?_)
  refine s_iload_n (i := 3) (by decide +kernel) rfl (pn 1445 rfl ?_)
  refine t_iconst (n := 1) (v := nI 1) (by decide +kernel) (by decide +kernel) (pn 1446 rfl ?_)
  refine s_iadd (by decide +kernel) (pn 1447 rfl ?_)
  refine t_iaload (v := M.1 4000 (i + 1)) (by decide +kernel) sc_ok (sc_at (i := i) (k := 1) hs1 (nI_add i 1) (by omega) hL) (by rw [nI_add, nI_clamp (by omega), e4]) (pn 1448 rfl ?_)
  refine s_aload_n (i := 0) (by decide +kernel) rfl (pn 1449 rfl ?_)
  refine s_iload_n (i := 3) (by decide +kernel) rfl (pn 1450 rfl ?_)
  refine t_iconst (n := 2) (v := nI 2) (by decide +kernel) (by decide +kernel) (pn 1451 rfl ?_)
  refine s_iadd (by decide +kernel) (pn 1452 rfl ?_)
  refine t_iaload (v := M.1 4000 (i + 2)) (by decide +kernel) sc_ok (sc_at (i := i) (k := 2) hs1 (nI_add i 2) (by omega) hL) (by rw [nI_add, nI_clamp (by omega), e4]) (pn 1453 rfl ?_)
  refine s_aload_n (i := 0) (by decide +kernel) rfl (pn 1454 rfl ?_)
  refine s_iload_n (i := 3) (by decide +kernel) rfl (pn 1455 rfl ?_)
  refine t_iconst (n := 3) (v := nI 3) (by decide +kernel) (by decide +kernel) (pn 1456 rfl ?_)
  refine s_iadd (by decide +kernel) (pn 1457 rfl ?_)
  refine t_iaload (v := M.1 4000 (i + 3)) (by decide +kernel) sc_ok (sc_at (i := i) (k := 3) hs1 (nI_add i 3) (by omega) hL) (by rw [nI_add, nI_clamp (by omega), e4]) (pn 1458 rfl ?_)
  refine s_callvI (ix := 182) (y := yM_numbers) [.int (M.1 4000 (i + 1)), .int (M.1 4000 (i + 2)), .int (M.1 4000 (i + 3))] rfl (by decide +kernel) mv_13_182 np_314 (Nat.le_of_ble_eq_true rfl) lq_159 ((congrArg Prod.fst sh_159).trans oc_314) (cI_use (cI_sc h) (fun v2 s2 M2 h2 => (pn 1461 rfl ?_)))
  obtain ⟨e5, -, ev, hI2⟩ := h2
  subst ev
  refine s_icmp_eq (off := 191) (tgt := 1652) (by decide +kernel) rfl (fun _ => ?_) (fun c => absurd rfl c)
  exact next s2 M2 hI2 (e5.trans e4)
theorem law_write {d L i : Nat} {s : pm_S} {M : pm_M} (hd : 100 ≤ d) (hI : Inv L s M) (h6 : i + 6 ≤ L) (hL : L ≤ 3072) (next : ∀ s1 M1, Inv L s1 M1 → M1.1 4000 = M.1 4000 → wLaw d 1652 [.ref 4000, .ref 0, .ref 159, .int (nI i)] [] s1 M1) : wLaw d 1466 [.ref 4000, .ref 0, .ref 159, .int (nI i)] [] s M := by
  have hs : s.1 = L := hI.1.1
  show pm_wp (pm_cal d) code 13 (some .boolean) false 1466 [.ref 4000, .ref 0, .ref 159, .int (nI i)] [] (EE s) M lawQ
  refine s_aload_n (i := 1) (by decide +kernel) rfl (pn 1467 rfl ?_)
  refine s_aload_n (i := 0) (by decide +kernel) rfl (pn 1468 rfl ?_)
  refine s_iload_n (i := 3) (by decide +kernel) rfl (pn 1469 rfl ?_)
  refine t_iconst (n := 1) (v := nI 1) (by decide +kernel) (by decide +kernel) (pn 1470 rfl ?_)
  refine s_iadd (by decide +kernel) (pn 1471 rfl ?_)
  refine t_iaload (v := M.1 4000 (i + 1)) (by decide +kernel) sc_ok (sc_at (i := i) (k := 1) hs (nI_add i 1) (by omega) hL) (by rw [nI_add, nI_clamp (by omega)]) (pn 1472 rfl ?_)
  refine s_aload_n (i := 0) (by decide +kernel) rfl (pn 1473 rfl ?_)
  refine s_iload_n (i := 3) (by decide +kernel) rfl (pn 1474 rfl ?_)
  refine t_iconst (n := 2) (v := nI 2) (by decide +kernel) (by decide +kernel) (pn 1475 rfl ?_)
  refine s_iadd (by decide +kernel) (pn 1476 rfl ?_)
  refine t_iaload (v := M.1 4000 (i + 2)) (by decide +kernel) sc_ok (sc_at (i := i) (k := 2) hs (nI_add i 2) (by omega) hL) (by rw [nI_add, nI_clamp (by omega)]) (pn 1477 rfl ?_)
  refine s_aload_n (i := 0) (by decide +kernel) rfl (pn 1478 rfl ?_)
  refine s_iload_n (i := 3) (by decide +kernel) rfl (pn 1479 rfl ?_)
  refine t_iconst (n := 3) (v := nI 3) (by decide +kernel) (by decide +kernel) (pn 1480 rfl ?_)
  refine s_iadd (by decide +kernel) (pn 1481 rfl ?_)
  refine t_iaload (v := M.1 4000 (i + 3)) (by decide +kernel) sc_ok (sc_at (i := i) (k := 3) hs (nI_add i 3) (by omega) hL) (by rw [nI_add, nI_clamp (by omega)]) (pn 1482 rfl ?_)
  refine s_i2l (by decide +kernel) (pn 1483 rfl ?_)
  refine t_bipush (n := 32) (v := 32) (by decide +kernel) (by decide +kernel) (pn 1485 rfl ?_)
  refine s_lshl (by decide +kernel) (pn 1486 rfl ?_)
  refine s_aload_n (i := 0) (by decide +kernel) rfl (pn 1487 rfl ?_)
  refine s_iload_n (i := 3) (by decide +kernel) rfl (pn 1488 rfl ?_)
  refine t_iconst (n := 4) (v := nI 4) (by decide +kernel) (by decide +kernel) (pn 1489 rfl ?_)
  refine s_iadd (by decide +kernel) (pn 1490 rfl ?_)
  refine t_iaload (v := M.1 4000 (i + 4)) (by decide +kernel) sc_ok (sc_at (i := i) (k := 4) hs (nI_add i 4) (by omega) hL) (by rw [nI_add, nI_clamp (by omega)]) (pn 1491 rfl ?_)
  refine s_i2l (by decide +kernel) (pn 1492 rfl ?_)
  refine s_ldc2_w (ix := 183) (v := (4294967295)) (by decide +kernel) (by decide +kernel) (pn 1495 rfl ?_)
  refine s_land (by decide +kernel) (pn 1496 rfl ?_)
  refine s_lor (by decide +kernel) (pn 1497 rfl ?_)
  refine s_callvL (ix := 185) (y := yG_write) [.int (M.1 4000 (i + 1)), .int (M.1 4000 (i + 2)), .long ((((M.1 4000 (i + 3)).toInt64 <<< ((32 : Int32).toInt64 &&& 63)) ||| ((M.1 4000 (i + 4)).toInt64 &&& ((4294967295)))))] rfl (by decide +kernel) mv_13_185 np_179 (Nat.le_of_ble_eq_true rfl) lq_0 ((congrArg Prod.fst sh_0).trans oc_179) (cL_use (cL_sc (op_write (L := L) (by omega) hI)) (fun v s1 M1 h => (pn 1500 rfl ?_)))
  obtain ⟨e4, hs1, h⟩ := h
  rw [hs] at hs1
  refine s_aload_n (i := 2) (by decide +kernel) rfl (pn 1501 rfl ?_)
  refine s_aload_n (i := 0) (by decide +kernel) rfl (pn 1502 rfl ?_)
  refine s_iload_n (i := 3) (by decide +kernel) rfl (pn 1503 rfl ?_)
  refine t_iconst (n := 1) (v := nI 1) (by decide +kernel) (by decide +kernel) (pn 1504 rfl ?_)
  refine s_iadd (by decide +kernel) (pn 1505 rfl ?_)
  refine t_iaload (v := M.1 4000 (i + 1)) (by decide +kernel) sc_ok (sc_at (i := i) (k := 1) hs1 (nI_add i 1) (by omega) hL) (by rw [nI_add, nI_clamp (by omega), e4]) (pn 1506 rfl ?_)
  refine s_aload_n (i := 0) (by decide +kernel) rfl (pn 1507 rfl ?_)
  refine s_iload_n (i := 3) (by decide +kernel) rfl (pn 1508 rfl ?_)
  refine t_iconst (n := 2) (v := nI 2) (by decide +kernel) (by decide +kernel) (pn 1509 rfl ?_)
  refine s_iadd (by decide +kernel) (pn 1510 rfl ?_)
  refine t_iaload (v := M.1 4000 (i + 2)) (by decide +kernel) sc_ok (sc_at (i := i) (k := 2) hs1 (nI_add i 2) (by omega) hL) (by rw [nI_add, nI_clamp (by omega), e4]) (pn 1511 rfl ?_)
  refine s_aload_n (i := 0) (by decide +kernel) rfl (pn 1512 rfl ?_)
  refine s_iload_n (i := 3) (by decide +kernel) rfl (pn 1513 rfl ?_)
  refine t_iconst (n := 3) (v := nI 3) (by decide +kernel) (by decide +kernel) (pn 1514 rfl ?_)
  refine s_iadd (by decide +kernel) (pn 1515 rfl ?_)
  refine t_iaload (v := M.1 4000 (i + 3)) (by decide +kernel) sc_ok (sc_at (i := i) (k := 3) hs1 (nI_add i 3) (by omega) hL) (by rw [nI_add, nI_clamp (by omega), e4]) (pn 1516 rfl ?_)
  refine s_i2l (by decide +kernel) (pn 1517 rfl ?_)
  refine t_bipush (n := 32) (v := 32) (by decide +kernel) (by decide +kernel) (pn 1519 rfl ?_)
  refine s_lshl (by decide +kernel) (pn 1520 rfl ?_)
  refine s_aload_n (i := 0) (by decide +kernel) rfl (pn 1521 rfl ?_)
  refine s_iload_n (i := 3) (by decide +kernel) rfl (pn 1522 rfl ?_)
  refine t_iconst (n := 4) (v := nI 4) (by decide +kernel) (by decide +kernel) (pn 1523 rfl ?_)
  refine s_iadd (by decide +kernel) (pn 1524 rfl ?_)
  refine t_iaload (v := M.1 4000 (i + 4)) (by decide +kernel) sc_ok (sc_at (i := i) (k := 4) hs1 (nI_add i 4) (by omega) hL) (by rw [nI_add, nI_clamp (by omega), e4]) (pn 1525 rfl ?_)
  refine s_i2l (by decide +kernel) (pn 1526 rfl ?_)
  refine s_ldc2_w (ix := 183) (v := (4294967295)) (by decide +kernel) (by decide +kernel) (pn 1529 rfl ?_)
  refine s_land (by decide +kernel) (pn 1530 rfl ?_)
  refine s_lor (by decide +kernel) (pn 1531 rfl ?_)
  refine s_callvL (ix := 189) (y := yM_write) [.int (M.1 4000 (i + 1)), .int (M.1 4000 (i + 2)), .long ((((M.1 4000 (i + 3)).toInt64 <<< ((32 : Int32).toInt64 &&& 63)) ||| ((M.1 4000 (i + 4)).toInt64 &&& ((4294967295)))))] rfl (by decide +kernel) mv_13_189 np_315 (Nat.le_of_ble_eq_true rfl) lq_159 ((congrArg Prod.fst sh_159).trans oc_315) (cL_use (cL_sc h) (fun v2 s2 M2 h2 => (pn 1534 rfl ?_)))
  obtain ⟨e5, -, ev, hI2⟩ := h2
  subst ev
  refine t_lc_eq (off := 117) (tgt := 1652) (by decide +kernel) (by decide +kernel) rfl (fun _ => ?_) (fun c => absurd rfl c)
  exact next s2 M2 hI2 (e5.trans e4)
theorem law_lists {d L i : Nat} {s : pm_S} {M : pm_M} (hd : 100 ≤ d) (hI : Inv L s M) (h6 : i + 6 ≤ L) (hL : L ≤ 3072) (next : ∀ s1 M1, Inv L s1 M1 → M1.1 4000 = M.1 4000 → wLaw d 1652 [.ref 4000, .ref 0, .ref 159, .int (nI i)] [] s1 M1) : wLaw d 1540 [.ref 4000, .ref 0, .ref 159, .int (nI i)] [] s M := by
  have hs : s.1 = L := hI.1.1
  show pm_wp (pm_cal d) code 13 (some .boolean) false 1540 [.ref 4000, .ref 0, .ref 159, .int (nI i)] [] (EE s) M lawQ
  refine s_aload_n (i := 1) (by decide +kernel) rfl (pn 1541 rfl ?_)
  refine s_aload_n (i := 0) (by decide +kernel) rfl (pn 1542 rfl ?_)
  refine s_iload_n (i := 3) (by decide +kernel) rfl (pn 1543 rfl ?_)
  refine t_iconst (n := 1) (v := nI 1) (by decide +kernel) (by decide +kernel) (pn 1544 rfl ?_)
  refine s_iadd (by decide +kernel) (pn 1545 rfl ?_)
  refine t_iaload (v := M.1 4000 (i + 1)) (by decide +kernel) sc_ok (sc_at (i := i) (k := 1) hs (nI_add i 1) (by omega) hL) (by rw [nI_add, nI_clamp (by omega)]) (pn 1546 rfl ?_)
  refine s_aload_n (i := 0) (by decide +kernel) rfl (pn 1547 rfl ?_)
  refine s_iload_n (i := 3) (by decide +kernel) rfl (pn 1548 rfl ?_)
  refine t_iconst (n := 2) (v := nI 2) (by decide +kernel) (by decide +kernel) (pn 1549 rfl ?_)
  refine s_iadd (by decide +kernel) (pn 1550 rfl ?_)
  refine t_iaload (v := M.1 4000 (i + 2)) (by decide +kernel) sc_ok (sc_at (i := i) (k := 2) hs (nI_add i 2) (by omega) hL) (by rw [nI_add, nI_clamp (by omega)]) (pn 1551 rfl ?_)
  refine s_aload_n (i := 0) (by decide +kernel) rfl (pn 1552 rfl ?_)
  refine s_iload_n (i := 3) (by decide +kernel) rfl (pn 1553 rfl ?_)
  refine t_iconst (n := 3) (v := nI 3) (by decide +kernel) (by decide +kernel) (pn 1554 rfl ?_)
  refine s_iadd (by decide +kernel) (pn 1555 rfl ?_)
  refine t_iaload (v := M.1 4000 (i + 3)) (by decide +kernel) sc_ok (sc_at (i := i) (k := 3) hs (nI_add i 3) (by omega) hL) (by rw [nI_add, nI_clamp (by omega)]) (pn 1556 rfl ?_)
  refine s_callvI (ix := 190) (y := yG_lists) [.int (M.1 4000 (i + 1)), .int (M.1 4000 (i + 2)), .int (M.1 4000 (i + 3))] rfl (by decide +kernel) mv_13_190 np_180 (Nat.le_of_ble_eq_true rfl) lq_0 ((congrArg Prod.fst sh_0).trans oc_180) (cI_use (cI_sc (op_lists (L := L) (by omega) hI)) (fun v s1 M1 h => (pn 1559 rfl ?_)))
  obtain ⟨e4, hs1, h⟩ := h
  rw [hs] at hs1
  refine s_aload_n (i := 2) (by decide +kernel) rfl (pn 1560 rfl ?_)
  refine s_aload_n (i := 0) (by decide +kernel) rfl (pn 1561 rfl ?_)
  refine s_iload_n (i := 3) (by decide +kernel) rfl (pn 1562 rfl ?_)
  refine t_iconst (n := 1) (v := nI 1) (by decide +kernel) (by decide +kernel) (pn 1563 rfl ?_)
  refine s_iadd (by decide +kernel) (pn 1564 rfl ?_)
  refine t_iaload (v := M.1 4000 (i + 1)) (by decide +kernel) sc_ok (sc_at (i := i) (k := 1) hs1 (nI_add i 1) (by omega) hL) (by rw [nI_add, nI_clamp (by omega), e4]) (pn 1565 rfl ?_)
  refine s_aload_n (i := 0) (by decide +kernel) rfl (pn 1566 rfl ?_)
  refine s_iload_n (i := 3) (by decide +kernel) rfl (pn 1567 rfl ?_)
  refine t_iconst (n := 2) (v := nI 2) (by decide +kernel) (by decide +kernel) (pn 1568 rfl ?_)
  refine s_iadd (by decide +kernel) (pn 1569 rfl ?_)
  refine t_iaload (v := M.1 4000 (i + 2)) (by decide +kernel) sc_ok (sc_at (i := i) (k := 2) hs1 (nI_add i 2) (by omega) hL) (by rw [nI_add, nI_clamp (by omega), e4]) (pn 1570 rfl ?_)
  refine s_aload_n (i := 0) (by decide +kernel) rfl (pn 1571 rfl ?_)
  refine s_iload_n (i := 3) (by decide +kernel) rfl (pn 1572 rfl ?_)
  refine t_iconst (n := 3) (v := nI 3) (by decide +kernel) (by decide +kernel) (pn 1573 rfl ?_)
  refine s_iadd (by decide +kernel) (pn 1574 rfl ?_)
  refine t_iaload (v := M.1 4000 (i + 3)) (by decide +kernel) sc_ok (sc_at (i := i) (k := 3) hs1 (nI_add i 3) (by omega) hL) (by rw [nI_add, nI_clamp (by omega), e4]) (pn 1575 rfl ?_)
  refine s_callvI (ix := 193) (y := yM_lists) [.int (M.1 4000 (i + 1)), .int (M.1 4000 (i + 2)), .int (M.1 4000 (i + 3))] rfl (by decide +kernel) mv_13_193 np_317 (Nat.le_of_ble_eq_true rfl) lq_159 ((congrArg Prod.fst sh_159).trans oc_317) (cI_use (cI_sc h) (fun v2 s2 M2 h2 => (pn 1578 rfl ?_)))
  obtain ⟨e5, -, ev, hI2⟩ := h2
  subst ev
  refine s_icmp_eq (off := 74) (tgt := 1652) (by decide +kernel) rfl (fun _ => ?_) (fun c => absurd rfl c)
  exact next s2 M2 hI2 (e5.trans e4)
theorem law_image {d L i : Nat} {s : pm_S} {M : pm_M} (hd : 100 ≤ d) (hI : Inv L s M) (h6 : i + 6 ≤ L) (hL : L ≤ 3072) (next : ∀ s1 M1, Inv L s1 M1 → M1.1 4000 = M.1 4000 → wLaw d 1652 [.ref 4000, .ref 0, .ref 159, .int (nI i)] [] s1 M1) : wLaw d 1583 [.ref 4000, .ref 0, .ref 159, .int (nI i)] [] s M := by
  have hs : s.1 = L := hI.1.1
  show pm_wp (pm_cal d) code 13 (some .boolean) false 1583 [.ref 4000, .ref 0, .ref 159, .int (nI i)] [] (EE s) M lawQ
  refine s_aload_n (i := 1) (by decide +kernel) rfl (pn 1584 rfl ?_)
  refine s_aload_n (i := 0) (by decide +kernel) rfl (pn 1585 rfl ?_)
  refine s_iload_n (i := 3) (by decide +kernel) rfl (pn 1586 rfl ?_)
  refine t_iconst (n := 1) (v := nI 1) (by decide +kernel) (by decide +kernel) (pn 1587 rfl ?_)
  refine s_iadd (by decide +kernel) (pn 1588 rfl ?_)
  refine t_iaload (v := M.1 4000 (i + 1)) (by decide +kernel) sc_ok (sc_at (i := i) (k := 1) hs (nI_add i 1) (by omega) hL) (by rw [nI_add, nI_clamp (by omega)]) (pn 1589 rfl ?_)
  refine s_callvI (ix := 194) (y := yG_image) [.int (M.1 4000 (i + 1))] rfl (by decide +kernel) mv_13_194 np_181 (Nat.le_of_ble_eq_true rfl) lq_0 ((congrArg Prod.fst sh_0).trans oc_181) (cI_use (cI_sc (op_image (L := L) (by omega) hI)) (fun v s1 M1 h => (pn 1592 rfl ?_)))
  obtain ⟨e4, hs1, h⟩ := h
  rw [hs] at hs1
  refine s_aload_n (i := 2) (by decide +kernel) rfl (pn 1593 rfl ?_)
  refine s_aload_n (i := 0) (by decide +kernel) rfl (pn 1594 rfl ?_)
  refine s_iload_n (i := 3) (by decide +kernel) rfl (pn 1595 rfl ?_)
  refine t_iconst (n := 1) (v := nI 1) (by decide +kernel) (by decide +kernel) (pn 1596 rfl ?_)
  refine s_iadd (by decide +kernel) (pn 1597 rfl ?_)
  refine t_iaload (v := M.1 4000 (i + 1)) (by decide +kernel) sc_ok (sc_at (i := i) (k := 1) hs1 (nI_add i 1) (by omega) hL) (by rw [nI_add, nI_clamp (by omega), e4]) (pn 1598 rfl ?_)
  refine s_callvI (ix := 197) (y := yM_image) [.int (M.1 4000 (i + 1))] rfl (by decide +kernel) mv_13_197 np_318 (Nat.le_of_ble_eq_true rfl) lq_159 ((congrArg Prod.fst sh_159).trans oc_318) (cI_use (cI_sc h) (fun v2 s2 M2 h2 => (pn 1601 rfl ?_)))
  obtain ⟨e5, -, ev, hI2⟩ := h2
  subst ev
  refine s_icmp_eq (off := 51) (tgt := 1652) (by decide +kernel) rfl (fun _ => ?_) (fun c => absurd rfl c)
  exact next s2 M2 hI2 (e5.trans e4)
theorem law_restore {d L i : Nat} {s : pm_S} {M : pm_M} (hd : 100 ≤ d) (hI : Inv L s M) (h6 : i + 6 ≤ L) (hL : L ≤ 3072) (next : ∀ s1 M1, Inv L s1 M1 → M1.1 4000 = M.1 4000 → wLaw d 1652 [.ref 4000, .ref 0, .ref 159, .int (nI i)] [] s1 M1) : wLaw d 1606 [.ref 4000, .ref 0, .ref 159, .int (nI i)] [] s M := by
  have hs : s.1 = L := hI.1.1
  show pm_wp (pm_cal d) code 13 (some .boolean) false 1606 [.ref 4000, .ref 0, .ref 159, .int (nI i)] [] (EE s) M lawQ
  refine s_aload_n (i := 1) (by decide +kernel) rfl (pn 1607 rfl ?_)
  refine s_aload_n (i := 0) (by decide +kernel) rfl (pn 1608 rfl ?_)
  refine s_iload_n (i := 3) (by decide +kernel) rfl (pn 1609 rfl ?_)
  refine t_iconst (n := 1) (v := nI 1) (by decide +kernel) (by decide +kernel) (pn 1610 rfl ?_)
  refine s_iadd (by decide +kernel) (pn 1611 rfl ?_)
  refine t_iaload (v := M.1 4000 (i + 1)) (by decide +kernel) sc_ok (sc_at (i := i) (k := 1) hs (nI_add i 1) (by omega) hL) (by rw [nI_add, nI_clamp (by omega)]) (pn 1612 rfl ?_)
  refine s_callvI (ix := 198) (y := yG_restore) [.int (M.1 4000 (i + 1))] rfl (by decide +kernel) mv_13_198 np_182 (Nat.le_of_ble_eq_true rfl) lq_0 ((congrArg Prod.fst sh_0).trans oc_182) (cI_use (cI_sc (op_restore (L := L) (by omega) hI)) (fun v s1 M1 h => (pn 1615 rfl ?_)))
  obtain ⟨e4, hs1, h⟩ := h
  rw [hs] at hs1
  refine s_aload_n (i := 2) (by decide +kernel) rfl (pn 1616 rfl ?_)
  refine s_aload_n (i := 0) (by decide +kernel) rfl (pn 1617 rfl ?_)
  refine s_iload_n (i := 3) (by decide +kernel) rfl (pn 1618 rfl ?_)
  refine t_iconst (n := 1) (v := nI 1) (by decide +kernel) (by decide +kernel) (pn 1619 rfl ?_)
  refine s_iadd (by decide +kernel) (pn 1620 rfl ?_)
  refine t_iaload (v := M.1 4000 (i + 1)) (by decide +kernel) sc_ok (sc_at (i := i) (k := 1) hs1 (nI_add i 1) (by omega) hL) (by rw [nI_add, nI_clamp (by omega), e4]) (pn 1621 rfl ?_)
  refine s_callvI (ix := 201) (y := yM_restore) [.int (M.1 4000 (i + 1))] rfl (by decide +kernel) mv_13_201 np_319 (Nat.le_of_ble_eq_true rfl) lq_159 ((congrArg Prod.fst sh_159).trans oc_319) (cI_use (cI_sc h) (fun v2 s2 M2 h2 => (pn 1624 rfl ?_)))
  obtain ⟨e5, -, ev, hI2⟩ := h2
  subst ev
  refine s_icmp_eq (off := 28) (tgt := 1652) (by decide +kernel) rfl (fun _ => ?_) (fun c => absurd rfl c)
  exact next s2 M2 hI2 (e5.trans e4)
theorem law_count {d L i : Nat} {s : pm_S} {M : pm_M} (hd : 100 ≤ d) (hI : Inv L s M) (h6 : i + 6 ≤ L) (hL : L ≤ 3072) (next : ∀ s1 M1, Inv L s1 M1 → M1.1 4000 = M.1 4000 → wLaw d 1652 [.ref 4000, .ref 0, .ref 159, .int (nI i)] [] s1 M1) : wLaw d 1629 [.ref 4000, .ref 0, .ref 159, .int (nI i)] [] s M := by
  have hs : s.1 = L := hI.1.1
  show pm_wp (pm_cal d) code 13 (some .boolean) false 1629 [.ref 4000, .ref 0, .ref 159, .int (nI i)] [] (EE s) M lawQ
  refine s_aload_n (i := 1) (by decide +kernel) rfl (pn 1630 rfl ?_)
  refine s_aload_n (i := 0) (by decide +kernel) rfl (pn 1631 rfl ?_)
  refine s_iload_n (i := 3) (by decide +kernel) rfl (pn 1632 rfl ?_)
  refine t_iconst (n := 1) (v := nI 1) (by decide +kernel) (by decide +kernel) (pn 1633 rfl ?_)
  refine s_iadd (by decide +kernel) (pn 1634 rfl ?_)
  refine t_iaload (v := M.1 4000 (i + 1)) (by decide +kernel) sc_ok (sc_at (i := i) (k := 1) hs (nI_add i 1) (by omega) hL) (by rw [nI_add, nI_clamp (by omega)]) (pn 1635 rfl ?_)
  refine s_callvI (ix := 202) (y := yG_count) [.int (M.1 4000 (i + 1))] rfl (by decide +kernel) mv_13_202 np_183 (Nat.le_of_ble_eq_true rfl) lq_0 ((congrArg Prod.fst sh_0).trans oc_183) (cI_use (cI_sc (op_count (L := L) (by omega) hI)) (fun v s1 M1 h => (pn 1638 rfl ?_)))
  obtain ⟨e4, hs1, h⟩ := h
  rw [hs] at hs1
  refine s_aload_n (i := 2) (by decide +kernel) rfl (pn 1639 rfl ?_)
  refine s_aload_n (i := 0) (by decide +kernel) rfl (pn 1640 rfl ?_)
  refine s_iload_n (i := 3) (by decide +kernel) rfl (pn 1641 rfl ?_)
  refine t_iconst (n := 1) (v := nI 1) (by decide +kernel) (by decide +kernel) (pn 1642 rfl ?_)
  refine s_iadd (by decide +kernel) (pn 1643 rfl ?_)
  refine t_iaload (v := M.1 4000 (i + 1)) (by decide +kernel) sc_ok (sc_at (i := i) (k := 1) hs1 (nI_add i 1) (by omega) hL) (by rw [nI_add, nI_clamp (by omega), e4]) (pn 1644 rfl ?_)
  refine s_callvI (ix := 205) (y := yM_count) [.int (M.1 4000 (i + 1))] rfl (by decide +kernel) mv_13_205 np_320 (Nat.le_of_ble_eq_true rfl) lq_159 ((congrArg Prod.fst sh_159).trans oc_320) (cI_use (cI_sc h) (fun v2 s2 M2 h2 => (pn 1647 rfl ?_)))
  obtain ⟨e5, -, ev, hI2⟩ := h2
  subst ev
  refine s_icmp_eq (off := 5) (tgt := 1652) (by decide +kernel) rfl (fun _ => ?_) (fun c => absurd rfl c)
  exact next s2 M2 hI2 (e5.trans e4)
