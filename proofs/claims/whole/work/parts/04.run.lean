def pm_strL : MethodName := ⟨"java/lang/String", "length", "()I"⟩
def pm_strC : MethodName := ⟨"java/lang/String", "charAt", "(I)C"⟩
abbrev pm_wsL : List Cond := .code pm_strL prog_17_method_54_code 1 (some .int) :: lw_good
abbrev pm_wsC : List Cond := .code pm_strC prog_17_method_56_code 2 (some .char) :: lw_good
/-- a contract out of the pure machine's run -/
def pm_mt (l : Launch) (g : pm_G) (d y : Nat) (as : List Value) (E : pm_E) (M : pm_M) (z : pm_Z) : Prop := Met l (pm_mn y) (.code (pm_mn y) (pm_by y) (pm_mx y) (pm_rt y) :: lw_good) { frames := d + 8, cells := z.2.1.1 - E.1, slots := z.2.1.2.1 - E.2.1, locals := 60 * (d + 8) } (pm_Pc g as E M) (pm_Qc g z) (z.2.1.1 - E.1) (z.2.1.2.1 - E.2.1) (pm_A g)
def pm_mS (l : Launch) (g : pm_G) : Prop := (∀ (j : Nat) (E : pm_E) (M : pm_M), j < 3 → Met l pm_strL pm_wsL { frames := 5, cells := 0, slots := 0, locals := 300 } (pm_Pc g [.ref (4001 + j)] E M) (pm_Qc g (some (.int (Int32.ofNat (pm_sl j))), E, M)) 0 0 (pm_A g)) ∧ (∀ (j : Nat) (i : Int32) (E : pm_E) (M : pm_M), j < 3 → vp_in i (pm_sl j) → Met l pm_strC pm_wsC { frames := 5, cells := 0, slots := 0, locals := 300 } (pm_Pc g [.ref (4001 + j), .int i] E M) (pm_Qc g (some (.int (pm_sc j i.toNatClampNeg)), E, M)) 0 0 (pm_A g))
theorem pm_ad_lt {g : pm_G} {k : Nat} (h : k < 4000) : pm_ad g k = g.2.1 + k := by unfold pm_ad; rw [if_pos h]
theorem pm_cl_at {c : Nat} (h : c < 13) : pm_cl[c]? = some (pm_ow c, pm_cT c, pm_nf c) := by simp [pm_cl, h]
theorem pm_u_ws {c : Nat} (h : c < 13) : ∀ w ∈ u_ws (pm_ow c) (pm_cT c) (pm_nf c), w ∈ lw_good := by
  intro w hw
  obtain ⟨k, hk, rfl⟩ := List.mem_map.mp hw
  exact pm_has_mem (pm_k1 c h k (List.mem_range.mp hk))
theorem pm_hty {c : Nat} (h : c < 13) : ∀ k, k < pm_nf c → parseFieldDescriptor (pm_cT c k).2.2.1 = some (pm_ty c k) := by
  intro k hk
  have := (pm_k2 c h k hk).1
  unfold pm_ty
  obtain ⟨v, hv⟩ := Option.isSome_iff_exists.mp this
  rw [hv]
  rfl
theorem pm_good {ws : List Cond} {w0 : Cond} (h0 : w0 ∈ lw_good) (hws : ws = w0 :: lw_good) : GoodIn lw_good ws := by
  subst hws
  intro w hw
  have hm : w ∈ lw_good := by
    rcases List.mem_cons.mp hw with rfl | h
    · exact h0
    · exact h
  exact ⟨hm, good_of_word (List.mem_filter.mp hm).2⟩
theorem pm_fk0 {c k : Nat} (h : pm_fk c k = 0) : pm_ty c k = .int := by
  unfold pm_fk at h
  split at h <;> first | assumption | cases h
theorem pm_fk1 {c k : Nat} (h : pm_fk c k = 1) : pm_ty c k = .long := by
  unfold pm_fk at h
  split at h <;> first | assumption | cases h
theorem pm_fk3 {c k : Nat} (h : pm_fk c k = 3) : pm_ty c k = .boolean := by
  unfold pm_fk at h
  split at h <;> first | assumption | cases h
theorem pm_fk2 : ∀ c, c < 13 → ∀ k, k < pm_nf c → pm_fk c k = 2 → fits (pm_ty c k) (.ref 0) = true := by decide +kernel
theorem pm_fitr {ty : FieldType} {a : Nat} (h : fits ty (.ref 0) = true) : fits ty (.ref a) = true ∧ narrow ty (.ref a) = .ref a := by
  cases ty <;> first | exact ⟨h, rfl⟩ | cases h
theorem pm_def : ∀ c, c < 13 → ∀ k, k < pm_nf c → defaultValue (pm_ty c k) = (match pm_fk c k with | 0 => .int 0 | 3 => .int 0 | 1 => .long 0 | _ => .null) := by decide +kernel
theorem pm_fs_at {g : pm_G} {E : pm_E} {M : pm_M} {a c k : Nat} (hk : k < pm_nf c) : (pm_fs g E M a c)[k]? = some (pm_rv g (pm_fv E M a k (pm_fk c k))) := by simp [pm_fs, hk]
theorem pm_fs_len {g : pm_G} {E : pm_E} {M : pm_M} {a c : Nat} : (pm_fs g E M a c).length = pm_nf c := by simp [pm_fs]
theorem pm_fs_set {g : pm_G} {E E' : pm_E} {M M' : pm_M} {a c k : Nat} {v : Value} (h1 : ∀ j, j ≠ k → pm_fv E' M' a j (pm_fk c j) = pm_fv E M a j (pm_fk c j)) (h2 : pm_rv g (pm_fv E' M' a k (pm_fk c k)) = v) : pm_fs g E' M' a c = (pm_fs g E M a c).set k v := by
  apply List.ext_getElem?
  intro i
  rw [List.getElem?_set]
  by_cases hi : i < pm_nf c
  · rw [pm_fs_at hi, pm_fs_at hi, pm_fs_len]
    by_cases hik : k = i
    · subst hik
      simp [hi, h2]
    · simp [hik, h1 i (fun z => hik z.symm)]
  · have e1 : (pm_fs g E' M' a c)[i]? = none := by simp [pm_fs]; omega
    have e2 : (pm_fs g E M a c)[i]? = none := by simp [pm_fs]; omega
    rw [e1, e2, pm_fs_len]
    by_cases hik : k = i
    · subst hik
      simp [hi]
    · simp [hik]
theorem pm_nar01 {x : Int32} (h : x = 0 ∨ x = 1) : narrow .boolean (.int x) = .int x ∧ fits .boolean (.int x) = true ∧ vp_nar .boolean x = x := by
  rcases h with rfl | rfl <;> exact ⟨rfl, rfl, rfl⟩
theorem pm_upd (f : Nat → Int32) (k : Nat) (v : Int32) : upd f k v = pm_row f k v := rfl
theorem pm_updL (f : Nat → Int64) (k : Nat) (v : Int64) : vp_updL f k v = pm_row f k v := rfl
section
variable {p : Program} {l : Launch} {e : Env} {R : Room} {s : State} {m : MethodId} {args : Array Value} {below : List Frame} {meth : Method} {c : Code} {H : Heap} {locs : List Loc} {Q : State → Prop} {g : pm_G}
/-- the heap's size, out of the room that is used -/
theorem pm_size {E E0 : pm_E} {M : pm_M} {slots : Nat} {f : JFrame} (hz : s.heap.size = g.2.1 + E0.1) (hE : E0.1 ≤ E.1) (hH : pm_H g E M H) (hS : va_S (pm_A g) s.heap H locs) (k : H.size = g.2.1 + E.1 → W p l e R s m args below meth c H locs (E.1 - E0.1) slots Q f) : W p l e R s m args below meth c H locs (E.1 - E0.1) slots Q f := by
  intro T hT X
  refine k ?_ T hT X
  have h1 := X.heapSize
  rw [hT] at h1
  have h2 := hS.1
  rcases Nat.eq_zero_or_pos E.1 with h0 | h0
  · omega
  · have h3 := (hH.1 (E.1 - 1) _ (pm_wd_at (by omega))).lt
    dsimp only at h3
    omega
/-- behind a call -/
theorem pm_cont {z : pm_Z} {cells slots mc ms pc : Nat} {ls : Array Slot} {st0 rest : List Value} {a : Array Value} (hr : va_Run p l e R s m args below meth c H locs cells slots mc ms (F0 m pc ls st0) rest (pm_Qc g z a) (pm_A g)) (hS : va_S (pm_A g) s.heap H locs) (kk : ∀ (H1 : Heap) (locs1 : List Loc), pm_H g z.2.1 z.2.2 H1 → va_S (pm_A g) s.heap H1 locs1 → W p l e R s m args below meth c H1 locs1 (cells + mc) (slots + ms) Q (F0 m (pc + 3) ls ((z.1.map (pm_rv g)).toList ++ rest))) : W p l e R s m args below meth c H locs cells slots Q (F0 m pc ls st0) := by
  intro T hT X
  obtain ⟨v, st₀, t, T', L, h0, X', hL, e1, e2, ⟨hv, hp, hz, hk⟩, st⟩ := hr T hT X
  cases hv
  rw [h0] at hz hk
  obtain ⟨t2, a1, b1⟩ := kk T'.heap (locs ++ L) (by rw [e1]; exact hp)
    ⟨Nat.le_trans hS.1 (by rw [e1]; exact hz), fun q h1 h2 => by rw [e1, hk q (Nat.lt_of_lt_of_le h1 hS.1) h2]; exact hS.2.1 q h1 h2, fun q hq => by
      rcases List.mem_append.mp hq with h | h
      · exact hS.2.2 q h
      · exact hL q h⟩ T' rfl X'
  exact ⟨t2, st t2 a1, b1⟩
end
theorem pm_mono {cal : pm_C} {b : ByteArray} {o : Nat} {rt : Option FieldType} {fi : Bool} (hc : ∀ y as E M z, cal y as E M z → E.1 ≤ z.2.1.1 ∧ E.2.1 ≤ z.2.1.2.1) : ∀ (n pc : Nat) (ls st : List Value) (E : pm_E) (M : pm_M) (z : pm_Z), pm_R cal b o rt fi n pc ls st E M z → E.1 ≤ z.2.1.1 ∧ E.2.1 ≤ z.2.1.2.1 := by
  intro n
  induction n with
  | zero => intro pc ls st E M z h; exact h.elim
  | succ n ih =>
    intro pc ls st E M z h
    obtain ⟨i, len, hd, h⟩ := h
    cases i with
    | iconst n =>
      obtain ⟨rfl, rest, rfl, h⟩ := h
      (have h2 := ih _ _ _ _ _ _ h; exact h2)
    | bipush n =>
      obtain ⟨rfl, rest, rfl, h⟩ := h
      (have h2 := ih _ _ _ _ _ _ h; exact h2)
    | sipush n =>
      obtain ⟨rfl, rest, rfl, h⟩ := h
      (have h2 := ih _ _ _ _ _ _ h; exact h2)
    | lconst n =>
      obtain ⟨rfl, rest, rfl, h⟩ := h
      (have h2 := ih _ _ _ _ _ _ h; exact h2)
    | iload i =>
      obtain ⟨rfl, x, rest, rfl, hl, h⟩ := h
      (have h2 := ih _ _ _ _ _ _ h; exact h2)
    | iload_n i =>
      obtain ⟨rfl, x, rest, rfl, hl, h⟩ := h
      (have h2 := ih _ _ _ _ _ _ h; exact h2)
    | istore i =>
      obtain ⟨rfl, x, rest, rfl, hn, h⟩ := h
      (have h2 := ih _ _ _ _ _ _ h; exact h2)
    | istore_n i =>
      obtain ⟨rfl, x, rest, rfl, hn, h⟩ := h
      (have h2 := ih _ _ _ _ _ _ h; exact h2)
    | lload i =>
      obtain ⟨rfl, x, rest, rfl, hl, h⟩ := h
      (have h2 := ih _ _ _ _ _ _ h; exact h2)
    | lload_n i =>
      obtain ⟨rfl, x, rest, rfl, hl, h⟩ := h
      (have h2 := ih _ _ _ _ _ _ h; exact h2)
    | lstore i =>
      obtain ⟨rfl, x, rest, rfl, hn, h⟩ := h
      (have h2 := ih _ _ _ _ _ _ h; exact h2)
    | lstore_n i =>
      obtain ⟨rfl, x, rest, rfl, hn, h⟩ := h
      (have h2 := ih _ _ _ _ _ _ h; exact h2)
    | aload i =>
      obtain ⟨rfl, x, rest, rfl, hl, h⟩ := h
      (have h2 := ih _ _ _ _ _ _ h; exact h2)
    | aload_n i =>
      obtain ⟨rfl, x, rest, rfl, hl, h⟩ := h
      (have h2 := ih _ _ _ _ _ _ h; exact h2)
    | astore i =>
      obtain ⟨rfl, x, rest, rfl, hn, h⟩ := h
      (have h2 := ih _ _ _ _ _ _ h; exact h2)
    | astore_n i =>
      obtain ⟨rfl, x, rest, rfl, hn, h⟩ := h
      (have h2 := ih _ _ _ _ _ _ h; exact h2)
    | iinc i n =>
      obtain ⟨rfl, x, rest, rfl, hl, hn, h⟩ := h
      (have h2 := ih _ _ _ _ _ _ h; exact h2)
    | iadd =>
      obtain ⟨rfl, x, y, rest, rfl, h⟩ := h
      (have h2 := ih _ _ _ _ _ _ h; exact h2)
    | isub =>
      obtain ⟨rfl, x, y, rest, rfl, h⟩ := h
      (have h2 := ih _ _ _ _ _ _ h; exact h2)
    | imul =>
      obtain ⟨rfl, x, y, rest, rfl, h⟩ := h
      (have h2 := ih _ _ _ _ _ _ h; exact h2)
    | iand =>
      obtain ⟨rfl, x, y, rest, rfl, h⟩ := h
      (have h2 := ih _ _ _ _ _ _ h; exact h2)
    | ior =>
      obtain ⟨rfl, x, y, rest, rfl, h⟩ := h
      (have h2 := ih _ _ _ _ _ _ h; exact h2)
    | ixor =>
      obtain ⟨rfl, x, y, rest, rfl, h⟩ := h
      (have h2 := ih _ _ _ _ _ _ h; exact h2)
    | ishl =>
      obtain ⟨rfl, x, y, rest, rfl, h⟩ := h
      (have h2 := ih _ _ _ _ _ _ h; exact h2)
    | ishr =>
      obtain ⟨rfl, x, y, rest, rfl, h⟩ := h
      (have h2 := ih _ _ _ _ _ _ h; exact h2)
    | ladd =>
      obtain ⟨rfl, x, y, rest, rfl, h⟩ := h
      (have h2 := ih _ _ _ _ _ _ h; exact h2)
    | lsub =>
      obtain ⟨rfl, x, y, rest, rfl, h⟩ := h
      (have h2 := ih _ _ _ _ _ _ h; exact h2)
    | lmul =>
      obtain ⟨rfl, x, y, rest, rfl, h⟩ := h
      (have h2 := ih _ _ _ _ _ _ h; exact h2)
    | land =>
      obtain ⟨rfl, x, y, rest, rfl, h⟩ := h
      (have h2 := ih _ _ _ _ _ _ h; exact h2)
    | lor =>
      obtain ⟨rfl, x, y, rest, rfl, h⟩ := h
      (have h2 := ih _ _ _ _ _ _ h; exact h2)
    | iushr =>
      obtain ⟨rfl, x, y, rest, rfl, h⟩ := h
      (have h2 := ih _ _ _ _ _ _ h; exact h2)
    | lshl =>
      obtain ⟨rfl, x, y, rest, rfl, h⟩ := h
      (have h2 := ih _ _ _ _ _ _ h; exact h2)
    | lshr =>
      obtain ⟨rfl, x, y, rest, rfl, h⟩ := h
      (have h2 := ih _ _ _ _ _ _ h; exact h2)
    | idiv =>
      obtain ⟨rfl, x, y, rest, rfl, hne, h⟩ := h
      (have h2 := ih _ _ _ _ _ _ h; exact h2)
    | irem =>
      obtain ⟨rfl, x, y, rest, rfl, hne, h⟩ := h
      (have h2 := ih _ _ _ _ _ _ h; exact h2)
    | ldiv =>
      obtain ⟨rfl, x, y, rest, rfl, hne, h⟩ := h
      (have h2 := ih _ _ _ _ _ _ h; exact h2)
    | lrem =>
      obtain ⟨rfl, x, y, rest, rfl, hne, h⟩ := h
      (have h2 := ih _ _ _ _ _ _ h; exact h2)
    | lcmp =>
      obtain ⟨rfl, x, y, rest, rfl, h⟩ := h
      (have h2 := ih _ _ _ _ _ _ h; exact h2)
    | i2l =>
      obtain ⟨rfl, x, rest, rfl, h⟩ := h
      (have h2 := ih _ _ _ _ _ _ h; exact h2)
    | l2i =>
      obtain ⟨rfl, x, rest, rfl, h⟩ := h
      (have h2 := ih _ _ _ _ _ _ h; exact h2)
    | i2b =>
      obtain ⟨rfl, x, rest, rfl, h⟩ := h
      (have h2 := ih _ _ _ _ _ _ h; exact h2)
    | i2s =>
      obtain ⟨rfl, x, rest, rfl, h⟩ := h
      (have h2 := ih _ _ _ _ _ _ h; exact h2)
    | dup =>
      obtain ⟨rfl, x, rest, rfl, hc1, h⟩ := h
      (have h2 := ih _ _ _ _ _ _ h; exact h2)
    | pop =>
      obtain ⟨rfl, x, rest, rfl, hc1, h⟩ := h
      (have h2 := ih _ _ _ _ _ _ h; exact h2)
    | pop2 =>
      obtain ⟨rfl, x, rest, rfl, hc1, h⟩ := h
      (have h2 := ih _ _ _ _ _ _ h; exact h2)
    | dup2 =>
      obtain ⟨rfl, ⟨x, y, rest, rfl, hc1, hc2, h⟩ | ⟨x, rest, rfl, hc1, h⟩⟩ := h
      · (have h2 := ih _ _ _ _ _ _ h; exact h2)
      · (have h2 := ih _ _ _ _ _ _ h; exact h2)
    | ifCond cnd off =>
      cases cnd <;> (obtain ⟨rfl, x, rest, tgt, rfl, ht, ⟨-, h⟩ | ⟨-, h⟩⟩ := h <;> (have h2 := ih _ _ _ _ _ _ h; exact h2))
    | if_icmp cnd off =>
      cases cnd <;> (obtain ⟨rfl, x, y, rest, tgt, rfl, ht, ⟨-, h⟩ | ⟨-, h⟩⟩ := h <;> (have h2 := ih _ _ _ _ _ _ h; exact h2))
    | goto off =>
      obtain ⟨rfl, tgt, ht, h⟩ := h
      (have h2 := ih _ _ _ _ _ _ h; exact h2)
    | ifnonnull off =>
      obtain ⟨rfl, x, rest, tgt, rfl, ht, h⟩ := h
      (have h2 := ih _ _ _ _ _ _ h; exact h2)
    | tableswitch dflt lo hi offs =>
      obtain ⟨x, rest, tgt, rfl, ht, hsz, h⟩ := h
      (have h2 := ih _ _ _ _ _ _ h; exact h2)
    | lookupswitch dflt ps =>
      obtain ⟨x, rest, tgt, rfl, hp, ht, h⟩ := h
      (have h2 := ih _ _ _ _ _ _ h; exact h2)
    | ldc ix =>
      obtain ⟨rfl, v, hv, h⟩ := h
      (have h2 := ih _ _ _ _ _ _ h; exact h2)
    | ldc_w ix =>
      obtain ⟨rfl, v, hv, h⟩ := h
      (have h2 := ih _ _ _ _ _ _ h; exact h2)
    | ldc2_w ix =>
      obtain ⟨rfl, v, hv, h⟩ := h
      (have h2 := ih _ _ _ _ _ _ h; exact h2)
    | getfield ix =>
      obtain ⟨rfl, ci, kf, kd, fin, a, rest, hf, rfl, h1, h2, h⟩ := h
      (have h2 := ih _ _ _ _ _ _ h; exact h2)
    | putfield ix =>
      obtain ⟨rfl, ci, kf, kd, fin, a, rest, hf, h1, h2, h3, ⟨x, rfl, hk2, h⟩ | ⟨x, rfl, hk2, h⟩ | ⟨x, rfl, hk2, h⟩⟩ := h
      · (have h2 := ih _ _ _ _ _ _ h; exact h2)
      · (have h2 := ih _ _ _ _ _ _ h; exact h2)
      · (have h2 := ih _ _ _ _ _ _ h; exact h2)
    | arraylength =>
      obtain ⟨rfl, a, rest, rfl, ⟨ha, hq⟩, h⟩ := h
      (have h2 := ih _ _ _ _ _ _ h; exact h2)
    | iaload =>
      obtain ⟨rfl, i, a, rest, rfl, ⟨ha, hq⟩, hi, h⟩ := h
      (have h2 := ih _ _ _ _ _ _ h; exact h2)
    | baload =>
      obtain ⟨rfl, i, a, rest, rfl, ⟨ha, hq⟩, hi, h⟩ := h
      (have h2 := ih _ _ _ _ _ _ h; exact h2)
    | laload =>
      obtain ⟨rfl, i, a, rest, rfl, ⟨ha, hq⟩, hi, h⟩ := h
      (have h2 := ih _ _ _ _ _ _ h; exact h2)
    | iastore =>
      obtain ⟨rfl, x, i, a, rest, rfl, ⟨ha, hq⟩, hi, h⟩ := h
      (have h2 := ih _ _ _ _ _ _ h; exact h2)
    | bastore =>
      obtain ⟨rfl, x, i, a, rest, rfl, ⟨ha, hq⟩, hi, hx01, h⟩ := h
      (have h2 := ih _ _ _ _ _ _ h; exact h2)
    | lastore =>
      obtain ⟨rfl, x, i, a, rest, rfl, ⟨ha, hq⟩, hi, h⟩ := h
      (have h2 := ih _ _ _ _ _ _ h; exact h2)
    | aaload =>
      obtain ⟨rfl, i, a, rest, rfl, ⟨ha, hq1, hq2⟩, hi, h⟩ := h
      (have h2 := ih _ _ _ _ _ _ h; exact h2)
    | aastore =>
      obtain ⟨rfl, x, i, a, rest, rfl, ⟨ha, hq1, hq2⟩, hi, ⟨hx1, hx2⟩, h⟩ := h
      (have h2 := ih _ _ _ _ _ _ h; exact h2)
    | new ix =>
      obtain ⟨rfl, ci, hn, hs4, h⟩ := h
      have := ih _ _ _ _ _ _ h
      simp only [pm_ne] at this
      omega
    | newarray ty =>
      obtain ⟨rfl, n, kd, rest, rfl, hk, hn, hmx, hs4, h⟩ := h
      have := ih _ _ _ _ _ _ h
      simp only [pm_ne] at this
      omega
    | anewarray ix =>
      obtain ⟨rfl, n, kd, rest, rfl, hk, hn, hmx, hs4, h⟩ := h
      have := ih _ _ _ _ _ _ h
      simp only [pm_ne] at this
      omega
    | invokevirtual ix =>
      obtain ⟨rfl, ⟨y, a, As, rest, r, E1, M1, ht, rfl, hl, hcat, ha1, ha2, hcal, h⟩ | ⟨j, rest, ht, hj, rfl, hcat, h⟩ | ⟨j, i, rest, ht, hj, rfl, hi, hcat, h⟩⟩ := h
      · have h1 := hc _ _ _ _ _ hcal
        have h2 := ih _ _ _ _ _ _ h
        dsimp only at h1
        omega
      · (have h2 := ih _ _ _ _ _ _ h; exact h2)
      · (have h2 := ih _ _ _ _ _ _ h; exact h2)
    | invokestatic ix =>
      obtain ⟨rfl, ⟨y, As, rest, r, E1, M1, ht, rfl, hl, hcat, hcal, h⟩ | ⟨a, c2, sp, dp, n2, rest, ht, rfl, ha1, hc1, hka, hkc, g1, g2, g3, g4, g5, hcat, h⟩⟩ := h
      · have h1 := hc _ _ _ _ _ hcal
        have h2 := ih _ _ _ _ _ _ h
        dsimp only at h1
        omega
      · (have h2 := ih _ _ _ _ _ _ h; exact h2)
    | invokespecial ix =>
      obtain ⟨rfl, ⟨y, a, As, rest, r, E1, M1, ht, rfl, hl, hcat, hcal, h⟩ | ⟨a, rest, ht, rfl, hcat, h⟩⟩ := h
      · have h1 := hc _ _ _ _ _ hcal
        have h2 := ih _ _ _ _ _ _ h
        dsimp only at h1
        omega
      · (have h2 := ih _ _ _ _ _ _ h; exact h2)
    | ireturn =>
      obtain ⟨rfl, v, rfl, hr, rfl⟩ := h
      exact ⟨Nat.le_refl _, Nat.le_refl _⟩
    | lreturn =>
      obtain ⟨rfl, v, rfl, hr, rfl⟩ := h
      exact ⟨Nat.le_refl _, Nat.le_refl _⟩
    | return_ =>
      obtain ⟨rfl, rfl, hr, rfl⟩ := h
      exact ⟨Nat.le_refl _, Nat.le_refl _⟩
    | _ => exact h.elim
theorem pm_cmono : ∀ (d y : Nat) (as : List Value) (E : pm_E) (M : pm_M) (z : pm_Z), pm_cal d y as E M z → E.1 ≤ z.2.1.1 ∧ E.2.1 ≤ z.2.1.2.1 := by
  intro d
  induction d with
  | zero => intro y as E M z h; exact h.elim
  | succ d ih => intro y as E M z h; obtain ⟨-, -, n, h⟩ := h; exact pm_mono ih _ _ _ _ _ _ _ h
set_option maxRecDepth 100000 in
theorem pm_s13 : ∀ o, o < 17 → ∀ p ∈ pm_svL.getD o [], (p.2 = 0 → pm_has (pm_q pm_qsv o p.1) (.methodLink (pm_ow o) p.1 pm_strL) = true) ∧ (p.2 = 1 → pm_has (pm_q pm_qsv o p.1) (.methodLink (pm_ow o) p.1 pm_strC) = true) := by decide +kernel
set_option maxRecDepth 100000 in
theorem pm_s14 : pm_has 3009 (.instanceMethod pm_strL) = true ∧ pm_has 3010 (.selects "java/lang/String" pm_strL pm_strL) = true ∧ pm_has 3019 (.instanceMethod pm_strC) = true ∧ pm_has 3020 (.selects "java/lang/String" pm_strC pm_strC) = true ∧ pm_has 1015 (.initialized "java/lang/String") = true ∧ True := by decide +kernel
theorem pm_s15 : Cond.code pm_strL prog_17_method_54_code 1 (some .int) ∈ lw_good ∧ Cond.code pm_strC prog_17_method_56_code 2 (some .char) ∈ lw_good := ⟨pm_cw (j := 3) (i := 11) rfl rfl, pm_cw (j := 3) (i := 21) rfl rfl⟩
set_option maxHeartbeats 4000000 in
theorem pm_run {p : Program} {l : Launch} {e : Env} {R : Room} {s : State} {m : MethodId} {args : Array Value} {below : List Frame} {meth : Method} {c : Code} {Q : State → Prop} {g : pm_G} {b : ByteArray} {o : Nat} {rt : Option FieldType} {fi : Bool} {d nL : Nat} {E0 : pm_E} {Z : pm_Z}
    (hx : p.tables.exec = Jvm.exec) (hb : c.code = b) (hml : c.maxLocals = nL) (hown : s.vm.findClass (pm_ow o) = some m.cls) (hts : ∀ w ∈ lw_good, w.before args s = true) (hX : pm_X g s) (hinit : fi = true → meth.name = "<init>") (hz : s.heap.size = g.2.1 + E0.1)
    (hstr : pm_mS l g) (hcl : ∀ y as E M z, pm_cal d y as E M z → pm_mt l g d y as E M z)
    (hR1 : d + 9 ≤ R.frames) (hR2 : 60 * (d + 9) ≤ R.locals) (hR3 : Z.2.1.1 - E0.1 ≤ R.cells) (hR4 : Z.2.1.2.1 - E0.2.1 ≤ R.slots)
    (hretI : ∀ (pc : Nat) (lsA : Array Slot) (H : Heap) (locs : List Loc) (v : Int32), decode b pc = .ok (.ireturn, 1) → (rt = some .int ∨ (rt = some .boolean ∧ (v = 0 ∨ v = 1))) → Z.1 = some (.int v) → pm_H g Z.2.1 Z.2.2 H → va_S (pm_A g) s.heap H locs → W p l e R s m args below meth c H locs (Z.2.1.1 - E0.1) (Z.2.1.2.1 - E0.2.1) Q (F0 m pc lsA [.int v]))
    (hretL : ∀ (pc : Nat) (lsA : Array Slot) (H : Heap) (locs : List Loc) (v : Int64), decode b pc = .ok (.lreturn, 1) → rt = some .long → Z.1 = some (.long v) → pm_H g Z.2.1 Z.2.2 H → va_S (pm_A g) s.heap H locs → W p l e R s m args below meth c H locs (Z.2.1.1 - E0.1) (Z.2.1.2.1 - E0.2.1) Q (F0 m pc lsA [.long v]))
    (hretV : ∀ (pc : Nat) (lsA : Array Slot) (H : Heap) (locs : List Loc), decode b pc = .ok (.return_, 1) → rt = none → Z.1 = none → pm_H g Z.2.1 Z.2.2 H → va_S (pm_A g) s.heap H locs → W p l e R s m args below meth c H locs (Z.2.1.1 - E0.1) (Z.2.1.2.1 - E0.2.1) Q (F0 m pc lsA [])) :
    ∀ (n pc : Nat) (ls st : List Value) (E : pm_E) (M : pm_M), pm_R (pm_cal d) b o rt fi n pc ls st E M Z → ∀ (H : Heap) (locs : List Loc) (lsA : Array Slot), pm_L g nL lsA ls → pm_H g E M H → va_S (pm_A g) s.heap H locs → E0.1 ≤ E.1 ∧ E0.2.1 ≤ E.2.1 → W p l e R s m args below meth c H locs (E.1 - E0.1) (E.2.1 - E0.2.1) Q (F0 m pc lsA (st.map (pm_rv g))) := by
  have hcm := pm_cmono d
  have hA : ∀ q, s.heap.size ≤ q → pm_A g q := fun q h => by unfold pm_A; omega
  intro n
  induction n with
  | zero => intro pc ls st E M h; exact h.elim
  | succ n ih =>
    intro pc ls st E M h H locs lsA hL hH hS hm
    obtain ⟨i, len, hd, h⟩ := h
    cases i with
    | iconst n =>
      obtain ⟨rfl, rest, rfl, h⟩ := h
      exact lv_iconst hx hb hd rfl (ih _ _ _ _ _ h _ _ _ hL hH hS hm)
    | bipush n =>
      obtain ⟨rfl, rest, rfl, h⟩ := h
      exact lv_bipush hx hb hd rfl (ih _ _ _ _ _ h _ _ _ hL hH hS hm)
    | sipush n =>
      obtain ⟨rfl, rest, rfl, h⟩ := h
      exact lv_sipush hx hb hd rfl (ih _ _ _ _ _ h _ _ _ hL hH hS hm)
    | lconst n =>
      obtain ⟨rfl, rest, rfl, h⟩ := h
      exact lv_lconst hx hb hd rfl (ih _ _ _ _ _ h _ _ _ hL hH hS hm)
    | iload i =>
      obtain ⟨rfl, x, rest, rfl, hl, h⟩ := h
      exact lv_iload hx hb hd (pm_L_at hL hl (fun q => by cases q)) (ih _ _ _ _ _ h _ _ _ hL hH hS hm)
    | iload_n i =>
      obtain ⟨rfl, x, rest, rfl, hl, h⟩ := h
      exact lv_iload_n hx hb hd rfl (pm_L_at hL hl (fun q => by cases q)) (ih _ _ _ _ _ h _ _ _ hL hH hS hm)
    | istore i =>
      obtain ⟨rfl, x, rest, rfl, hn, h⟩ := h
      obtain ⟨hlen, l0, hhas, hl0⟩ := id hL
      exact lv_istore hx hb hd hhas (by rw [← hlen]; exact hn) rfl (fun lsB hB => ih _ _ _ _ _ h _ _ _ (pm_L_sto1 hL hl0 rfl hB) hH hS hm)
    | istore_n i =>
      obtain ⟨rfl, x, rest, rfl, hn, h⟩ := h
      obtain ⟨hlen, l0, hhas, hl0⟩ := id hL
      exact lv_istore_n hx hb hd rfl hhas (by rw [← hlen]; exact hn) rfl (fun lsB hB => ih _ _ _ _ _ h _ _ _ (pm_L_sto1 hL hl0 rfl hB) hH hS hm)
    | lload i =>
      obtain ⟨rfl, x, rest, rfl, hl, h⟩ := h
      exact lv_lload hx hb hd (pm_L_at hL hl (fun q => by cases q)) (ih _ _ _ _ _ h _ _ _ hL hH hS hm)
    | lload_n i =>
      obtain ⟨rfl, x, rest, rfl, hl, h⟩ := h
      exact lv_lload_n hx hb hd rfl (pm_L_at hL hl (fun q => by cases q)) (ih _ _ _ _ _ h _ _ _ hL hH hS hm)
    | lstore i =>
      obtain ⟨rfl, x, rest, rfl, hn, h⟩ := h
      obtain ⟨hlen, l0, hhas, hl0⟩ := id hL
      exact lv_lstore hx hb hd hhas (by rw [← hlen]; exact hn) rfl (fun lsB hB => ih _ _ _ _ _ h _ _ _ (pm_L_sto2 hL hl0 rfl hB) hH hS hm)
    | lstore_n i =>
      obtain ⟨rfl, x, rest, rfl, hn, h⟩ := h
      obtain ⟨hlen, l0, hhas, hl0⟩ := id hL
      exact lv_lstore_n hx hb hd rfl hhas (by rw [← hlen]; exact hn) rfl (fun lsB hB => ih _ _ _ _ _ h _ _ _ (pm_L_sto2 hL hl0 rfl hB) hH hS hm)
    | aload i =>
      obtain ⟨rfl, x, rest, rfl, hl, h⟩ := h
      exact lv_aload hx hb hd (pm_L_at hL hl (fun q => by cases q)) (ih _ _ _ _ _ h _ _ _ hL hH hS hm)
    | aload_n i =>
      obtain ⟨rfl, x, rest, rfl, hl, h⟩ := h
      exact lv_aload_n hx hb hd rfl (pm_L_at hL hl (fun q => by cases q)) (ih _ _ _ _ _ h _ _ _ hL hH hS hm)
    | astore i =>
      obtain ⟨rfl, x, rest, rfl, hn, h⟩ := h
      obtain ⟨hlen, l0, hhas, hl0⟩ := id hL
      exact lv_astore hx hb hd hhas (by rw [← hlen]; exact hn) rfl (fun lsB hB => ih _ _ _ _ _ h _ _ _ (pm_L_sto1 hL hl0 rfl hB) hH hS hm)
    | astore_n i =>
      obtain ⟨rfl, x, rest, rfl, hn, h⟩ := h
      obtain ⟨hlen, l0, hhas, hl0⟩ := id hL
      exact lv_astore_n hx hb hd rfl hhas (by rw [← hlen]; exact hn) rfl (fun lsB hB => ih _ _ _ _ _ h _ _ _ (pm_L_sto1 hL hl0 rfl hB) hH hS hm)
    | iinc i n =>
      obtain ⟨rfl, x, rest, rfl, hl, hn, h⟩ := h
      obtain ⟨hlen, l0, hhas, hl0⟩ := id hL
      obtain ⟨k, hk⟩ := List.getElem?_of_mem (hl0 i _ hl (fun q => by cases q))
      exact lv_iinc hx hb hd hhas hk rfl (by rw [← hlen]; exact hn) rfl (fun lsB hB => ih _ _ _ _ _ h _ _ _ (pm_L_sto1 hL hl0 rfl hB) hH hS hm)
    | iadd =>
      obtain ⟨rfl, x, y, rest, rfl, h⟩ := h
      exact lv_iadd hx hb hd (ih _ _ _ _ _ h _ _ _ hL hH hS hm)
    | isub =>
      obtain ⟨rfl, x, y, rest, rfl, h⟩ := h
      exact lv_isub hx hb hd (ih _ _ _ _ _ h _ _ _ hL hH hS hm)
    | imul =>
      obtain ⟨rfl, x, y, rest, rfl, h⟩ := h
      exact lv_imul hx hb hd (ih _ _ _ _ _ h _ _ _ hL hH hS hm)
    | iand =>
      obtain ⟨rfl, x, y, rest, rfl, h⟩ := h
      exact lv_iand hx hb hd (ih _ _ _ _ _ h _ _ _ hL hH hS hm)
    | ior =>
      obtain ⟨rfl, x, y, rest, rfl, h⟩ := h
      exact lv_ior hx hb hd (ih _ _ _ _ _ h _ _ _ hL hH hS hm)
    | ixor =>
      obtain ⟨rfl, x, y, rest, rfl, h⟩ := h
      exact lv_ixor hx hb hd (ih _ _ _ _ _ h _ _ _ hL hH hS hm)
    | ishl =>
      obtain ⟨rfl, x, y, rest, rfl, h⟩ := h
      exact lv_ishl hx hb hd (ih _ _ _ _ _ h _ _ _ hL hH hS hm)
    | ishr =>
      obtain ⟨rfl, x, y, rest, rfl, h⟩ := h
      exact lv_ishr hx hb hd (ih _ _ _ _ _ h _ _ _ hL hH hS hm)
    | ladd =>
      obtain ⟨rfl, x, y, rest, rfl, h⟩ := h
      exact lv_ladd hx hb hd (ih _ _ _ _ _ h _ _ _ hL hH hS hm)
    | lsub =>
      obtain ⟨rfl, x, y, rest, rfl, h⟩ := h
      exact lv_lsub hx hb hd (ih _ _ _ _ _ h _ _ _ hL hH hS hm)
    | lmul =>
      obtain ⟨rfl, x, y, rest, rfl, h⟩ := h
      exact lv_lmul hx hb hd (ih _ _ _ _ _ h _ _ _ hL hH hS hm)
    | land =>
      obtain ⟨rfl, x, y, rest, rfl, h⟩ := h
      exact lv_land hx hb hd (ih _ _ _ _ _ h _ _ _ hL hH hS hm)
    | lor =>
      obtain ⟨rfl, x, y, rest, rfl, h⟩ := h
      exact lv_lor hx hb hd (ih _ _ _ _ _ h _ _ _ hL hH hS hm)
    | iushr =>
      obtain ⟨rfl, x, y, rest, rfl, h⟩ := h
      exact lv_iushr hx hb hd rfl (ih _ _ _ _ _ h _ _ _ hL hH hS hm)
    | lshl =>
      obtain ⟨rfl, x, y, rest, rfl, h⟩ := h
      exact lv_lshl hx hb hd rfl (ih _ _ _ _ _ h _ _ _ hL hH hS hm)
    | lshr =>
      obtain ⟨rfl, x, y, rest, rfl, h⟩ := h
      exact lv_lshr hx hb hd rfl (ih _ _ _ _ _ h _ _ _ hL hH hS hm)
    | idiv =>
      obtain ⟨rfl, x, y, rest, rfl, hne, h⟩ := h
      exact lv_idiv hx hb hd hne (ih _ _ _ _ _ h _ _ _ hL hH hS hm)
    | irem =>
      obtain ⟨rfl, x, y, rest, rfl, hne, h⟩ := h
      exact lv_irem hx hb hd hne (ih _ _ _ _ _ h _ _ _ hL hH hS hm)
    | ldiv =>
      obtain ⟨rfl, x, y, rest, rfl, hne, h⟩ := h
      exact lv_ldiv hx hb hd hne (ih _ _ _ _ _ h _ _ _ hL hH hS hm)
    | lrem =>
      obtain ⟨rfl, x, y, rest, rfl, hne, h⟩ := h
      exact lv_lrem hx hb hd hne (ih _ _ _ _ _ h _ _ _ hL hH hS hm)
    | lcmp =>
      obtain ⟨rfl, x, y, rest, rfl, h⟩ := h
      exact W.lcmp hx hb hd (ih _ _ _ _ _ h _ _ _ hL hH hS hm)
    | i2l =>
      obtain ⟨rfl, x, rest, rfl, h⟩ := h
      exact lv_i2l hx hb hd rfl (ih _ _ _ _ _ h _ _ _ hL hH hS hm)
    | l2i =>
      obtain ⟨rfl, x, rest, rfl, h⟩ := h
      exact lv_l2i hx hb hd rfl (ih _ _ _ _ _ h _ _ _ hL hH hS hm)
    | i2b =>
      obtain ⟨rfl, x, rest, rfl, h⟩ := h
      exact lv_i2b hx hb hd rfl (ih _ _ _ _ _ h _ _ _ hL hH hS hm)
    | i2s =>
      obtain ⟨rfl, x, rest, rfl, h⟩ := h
      exact lv_i2s hx hb hd rfl (ih _ _ _ _ _ h _ _ _ hL hH hS hm)
    | dup =>
      obtain ⟨rfl, x, rest, rfl, hc1, h⟩ := h
      exact lv_dup hx hb hd (by rw [pm_rv_cat]; exact hc1) (ih _ _ _ _ _ h _ _ _ hL hH hS hm)
    | pop =>
      obtain ⟨rfl, x, rest, rfl, hc1, h⟩ := h
      exact lv_pop hx hb hd (by rw [pm_rv_cat]; exact hc1) (ih _ _ _ _ _ h _ _ _ hL hH hS hm)
    | pop2 =>
      obtain ⟨rfl, x, rest, rfl, hc1, h⟩ := h
      exact lv_pop2_2 hx hb hd (by rw [pm_rv_cat]; exact hc1) (ih _ _ _ _ _ h _ _ _ hL hH hS hm)
    | dup2 =>
      obtain ⟨rfl, ⟨x, y, rest, rfl, hc1, hc2, h⟩ | ⟨x, rest, rfl, hc1, h⟩⟩ := h
      · exact lv_dup2_11 hx hb hd (by rw [pm_rv_cat]; exact hc1) (by rw [pm_rv_cat]; exact hc2) (ih _ _ _ _ _ h _ _ _ hL hH hS hm)
      · exact lv_dup2_2 hx hb hd (by rw [pm_rv_cat]; exact hc1) (ih _ _ _ _ _ h _ _ _ hL hH hS hm)
    | ifCond cnd off =>
      cases cnd with
      | eq =>
        obtain ⟨rfl, x, rest, tgt, rfl, ht, h⟩ := h
        exact lv_if_eq hx hb hd ht (fun q => h.elim (fun z => (ih _ _ _ _ _ z.2 _ _ _ hL hH hS hm)) (fun z => absurd q z.1)) (fun q => h.elim (fun z => absurd z.1 q) (fun z => (ih _ _ _ _ _ z.2 _ _ _ hL hH hS hm)))
      | ne =>
        obtain ⟨rfl, x, rest, tgt, rfl, ht, h⟩ := h
        exact lv_if_ne hx hb hd ht (fun q => h.elim (fun z => (ih _ _ _ _ _ z.2 _ _ _ hL hH hS hm)) (fun z => absurd q z.1)) (fun q => h.elim (fun z => absurd q z.1) (fun z => (ih _ _ _ _ _ z.2 _ _ _ hL hH hS hm)))
      | lt =>
        obtain ⟨rfl, x, rest, tgt, rfl, ht, h⟩ := h
        exact lv_if_lt hx hb hd ht (fun q => h.elim (fun z => (ih _ _ _ _ _ z.2 _ _ _ hL hH hS hm)) (fun z => absurd q z.1)) (fun q => h.elim (fun z => absurd z.1 q) (fun z => (ih _ _ _ _ _ z.2 _ _ _ hL hH hS hm)))
      | ge =>
        obtain ⟨rfl, x, rest, tgt, rfl, ht, h⟩ := h
        exact lv_if_ge hx hb hd ht (fun q => h.elim (fun z => (ih _ _ _ _ _ z.2 _ _ _ hL hH hS hm)) (fun z => absurd q z.1)) (fun q => h.elim (fun z => absurd z.1 q) (fun z => (ih _ _ _ _ _ z.2 _ _ _ hL hH hS hm)))
      | gt =>
        obtain ⟨rfl, x, rest, tgt, rfl, ht, h⟩ := h
        exact lv_if_gt hx hb hd ht (fun q => h.elim (fun z => (ih _ _ _ _ _ z.2 _ _ _ hL hH hS hm)) (fun z => absurd q z.1)) (fun q => h.elim (fun z => absurd z.1 q) (fun z => (ih _ _ _ _ _ z.2 _ _ _ hL hH hS hm)))
      | le =>
        obtain ⟨rfl, x, rest, tgt, rfl, ht, h⟩ := h
        exact lv_if_le hx hb hd ht (fun q => h.elim (fun z => (ih _ _ _ _ _ z.2 _ _ _ hL hH hS hm)) (fun z => absurd q z.1)) (fun q => h.elim (fun z => absurd z.1 q) (fun z => (ih _ _ _ _ _ z.2 _ _ _ hL hH hS hm)))
    | if_icmp cnd off =>
      cases cnd with
      | eq =>
        obtain ⟨rfl, x, y, rest, tgt, rfl, ht, h⟩ := h
        exact lv_icmp_eq hx hb hd ht (fun q => h.elim (fun z => (ih _ _ _ _ _ z.2 _ _ _ hL hH hS hm)) (fun z => absurd q z.1)) (fun q => h.elim (fun z => absurd z.1 q) (fun z => (ih _ _ _ _ _ z.2 _ _ _ hL hH hS hm)))
      | ne =>
        obtain ⟨rfl, x, y, rest, tgt, rfl, ht, h⟩ := h
        exact lv_icmp_ne hx hb hd ht (fun q => h.elim (fun z => (ih _ _ _ _ _ z.2 _ _ _ hL hH hS hm)) (fun z => absurd q z.1)) (fun q => h.elim (fun z => absurd q z.1) (fun z => (ih _ _ _ _ _ z.2 _ _ _ hL hH hS hm)))
      | lt =>
        obtain ⟨rfl, x, y, rest, tgt, rfl, ht, h⟩ := h
        exact lv_icmp_lt hx hb hd ht (fun q => h.elim (fun z => (ih _ _ _ _ _ z.2 _ _ _ hL hH hS hm)) (fun z => absurd q z.1)) (fun q => h.elim (fun z => absurd z.1 q) (fun z => (ih _ _ _ _ _ z.2 _ _ _ hL hH hS hm)))
      | ge =>
        obtain ⟨rfl, x, y, rest, tgt, rfl, ht, h⟩ := h
        exact lv_icmp_ge hx hb hd ht (fun q => h.elim (fun z => (ih _ _ _ _ _ z.2 _ _ _ hL hH hS hm)) (fun z => absurd q z.1)) (fun q => h.elim (fun z => absurd z.1 q) (fun z => (ih _ _ _ _ _ z.2 _ _ _ hL hH hS hm)))
      | gt =>
        obtain ⟨rfl, x, y, rest, tgt, rfl, ht, h⟩ := h
        exact lv_icmp_gt hx hb hd ht (fun q => h.elim (fun z => (ih _ _ _ _ _ z.2 _ _ _ hL hH hS hm)) (fun z => absurd q z.1)) (fun q => h.elim (fun z => absurd z.1 q) (fun z => (ih _ _ _ _ _ z.2 _ _ _ hL hH hS hm)))
      | le =>
        obtain ⟨rfl, x, y, rest, tgt, rfl, ht, h⟩ := h
        exact lv_icmp_le hx hb hd ht (fun q => h.elim (fun z => (ih _ _ _ _ _ z.2 _ _ _ hL hH hS hm)) (fun z => absurd q z.1)) (fun q => h.elim (fun z => absurd z.1 q) (fun z => (ih _ _ _ _ _ z.2 _ _ _ hL hH hS hm)))
    | goto off =>
      obtain ⟨rfl, tgt, ht, h⟩ := h
      exact lv_goto hx hb hd ht (ih _ _ _ _ _ h _ _ _ hL hH hS hm)
    | ifnonnull off =>
      obtain ⟨rfl, x, rest, tgt, rfl, ht, h⟩ := h
      exact lv_ifnonnull hx hb hd ht (ih _ _ _ _ _ h _ _ _ hL hH hS hm)
    | tableswitch dflt lo hi offs =>
      obtain ⟨x, rest, tgt, rfl, ht, hsz, h⟩ := h
      by_cases hout : x.toInt < lo ∨ hi < x.toInt
      · rw [if_pos hout] at ht
        exact lv_tableOut hx hb hd hout ht (ih _ _ _ _ _ h _ _ _ hL hH hS hm)
      · rw [if_neg hout] at ht
        have hlt := hsz hout
        rw [Array.getElem?_eq_getElem hlt] at ht
        exact lv_tableIn hx hb hd (fun q => hout (Or.inl q)) (fun q => hout (Or.inr q)) (Array.getElem?_eq_getElem hlt) ht (ih _ _ _ _ _ h _ _ _ hL hH hS hm)
    | lookupswitch dflt ps =>
      obtain ⟨x, rest, tgt, rfl, hp, ht, h⟩ := h
      exact lv_lookup hx hb hd hp rfl ht (ih _ _ _ _ _ h _ _ _ hL hH hS hm)
    | ldc ix =>
      obtain ⟨rfl, v, hv, h⟩ := h
      obtain ⟨ho, hmem⟩ := pm_lk hv
      rcases pm_s10 o ho _ hmem with ⟨h1, h2⟩ | ⟨⟨j, hj⟩, h1, h2⟩
      · dsimp only at h1 h2
        have hw := ih _ _ _ _ _ h _ _ _ hL hH hS hm
        rw [h1] at hw
        exact lv_ldc hx hb hown (hts _ (pm_has_mem h2)) hd hw
      · dsimp only at h1 h2
        subst h1
        have hw := ih _ _ _ _ _ h _ _ _ hL hH hS hm
        have hR := hX.2.2.2.1 j hj
        have e1 : pm_ow o = (pm_sow j).1 ∧ ix = (pm_sow j).2.1 := by
          rcases (show j = 0 ∨ j = 1 ∨ j = 2 by omega) with rfl | rfl | rfl
          all_goals
            simp only [List.getD_cons_zero, List.getD_cons_succ, Prod.mk.injEq] at h2
            obtain ⟨rfl, rfl⟩ := h2
            exact ⟨by decide, rfl⟩
        rw [← e1.1, ← e1.2] at hR
        refine va_ldcS hx hb hown hR hd ?_
        have e2 : pm_rv g (.ref (4001 + j)) = .ref (g.2.2.1 (4001 + j)) := by
          show Value.ref (pm_ad g (4001 + j)) = _
          unfold pm_ad
          rw [if_neg (by omega)]
        rw [List.map_cons, e2] at hw
        exact hw
    | ldc_w ix =>
      obtain ⟨rfl, v, hv, h⟩ := h
      obtain ⟨ho, hmem⟩ := pm_lk hv
      rcases pm_s10 o ho _ hmem with ⟨h1, h2⟩ | ⟨⟨j, hj⟩, h1, h2⟩
      · exact lv_ldcw hx hb hown (hts _ (pm_has_mem h2)) hd (ih _ _ _ _ _ h _ _ _ hL hH hS hm)
      · cases h1
    | ldc2_w ix =>
      obtain ⟨rfl, v, hv, h⟩ := h
      obtain ⟨ho, hmem⟩ := pm_lk hv
      exact lv_ldc2 hx hb hown (hts _ (pm_has_mem (pm_s11 o ho _ hmem))) hd (ih _ _ _ _ _ h _ _ _ hL hH hS hm)
    | getfield ix =>
      obtain ⟨rfl, ci, kf, kd, fin, a, rest, hf, rfl, h1, h2, h⟩ := h
      obtain ⟨ho, hmem⟩ := pm_lk hf
      obtain ⟨hci, hkf, hkd, -, hlk⟩ := pm_s4 o ho _ hmem
      dsimp only at hci hkf hkd hlk
      subst hkd
      refine va_get (C := pm_ow ci) (T := pm_cT ci) (N := pm_nf ci) (ref := pm_ow ci) hx hb hts (pm_u_ws hci) hown hX.1 hH.1 a (he := by rw [pm_wd_at h1, pm_en_o h2, ← pm_ad_lt (g := g) (Nat.lt_of_lt_of_le h1 hH.2.1)]) (pm_cl_at hci) kf hkf (hts _ (pm_has_mem hlk)) (fun x q => by rw [(pm_k2 ci hci kf hkf).2] at q; exact q) (pm_fs_at hkf) hd ?_
      exact ih _ _ _ _ _ h _ _ _ hL hH hS hm
    | putfield ix =>
      obtain ⟨rfl, ci, kf, kd, fin, a, rest, hf, h1, h2, h3, ⟨x, rfl, hk2, h⟩ | ⟨x, rfl, hk2, h⟩ | ⟨x, rfl, hk2, h⟩⟩ := h
      · obtain ⟨ho, hmem⟩ := pm_lk hf
        obtain ⟨hci, hkf, hkd, hfin, hlk⟩ := pm_s4 o ho _ hmem
        dsimp only at hci hkf hkd hfin hlk
        have h4000 : a < 4000 := Nat.lt_of_lt_of_le h1 hH.2.1
        have hat : (pm_wd g E M)[a]? = some (pm_ad g a, .inr (ci, pm_fs g E M a ci)) := by rw [pm_wd_at h1, pm_en_o h2, ← pm_ad_lt (g := g) h4000]
        have hlen : kf < (pm_fs g E M a ci).length := by rw [pm_fs_len]; exact hkf
        have put : ∀ (v : Value) (rest : List Value), narrow (pm_ty ci kf) v = v → fits (pm_ty ci kf) v = true → (∀ (H1 : Heap) (locs1 : List Loc), va_P g.1 pm_cl ((pm_wd g E M).set a (pm_ad g a, .inr (ci, (pm_fs g E M a ci).set kf v))) H1 → va_S (pm_A g) s.heap H1 locs1 → W p l e R s m args below meth c H1 locs1 (E.1 - E0.1) (E.2.1 - E0.2.1) Q (F0 m (pc + 3) lsA rest)) → W p l e R s m args below meth c H locs (E.1 - E0.1) (E.2.1 - E0.2.1) Q (F0 m pc lsA (v :: .ref (pm_ad g a) :: rest)) := by
          intro v rest hn hfit kk
          cases hfb : fin with
          | false =>
            exact va_put (C := pm_ow ci) (T := pm_cT ci) (N := pm_nf ci) (ref := pm_ow ci) hx hb hts (pm_u_ws hci) (pm_ty ci) (pm_hty hci) (pm_k3 ci hci) hown hX.1 hH.1 pm_wd_D hS a hat (pm_cl_at hci) kf hkf (hts _ (pm_has_mem hlk)) (fun x q => by rw [(pm_k2 ci hci kf hkf).2] at q; exact q) (by rw [← hfin, hfb]) (pm_hty hci kf hkf) hn hfit hlen hd (fun H1 locs1 q1 _ q3 => kk H1 locs1 q1 q3)
          | true =>
            obtain ⟨hi1, hi2⟩ := h3 hfb
            exact va_putF (C := pm_ow ci) (T := pm_cT ci) (N := pm_nf ci) (ref := pm_ow ci) hx hb hts (pm_u_ws hci) (pm_ty ci) (pm_hty hci) (pm_k3 ci hci) hown hX.1 hH.1 pm_wd_D hS a hat (pm_cl_at hci) kf hkf (hts _ (pm_has_mem hlk)) (fun x q => by rw [(pm_k2 ci hci kf hkf).2] at q; exact q) (by rw [← hfin, hfb]) (hinit hi1) (by rw [(pm_k2 ci hci kf hkf).2, hi2]) (pm_hty hci kf hkf) hn hfit hlen hd (fun H1 locs1 q1 _ q3 => kk H1 locs1 q1 q3)
        have hnf : narrow (pm_ty ci kf) (.int x) = .int x ∧ fits (pm_ty ci kf) (.int x) = true := by
          rcases hk2 with hk2 | ⟨hk2, hx01⟩
          · rw [pm_fk0 (hkd ▸ hk2)]; exact ⟨rfl, rfl⟩
          · rw [pm_fk3 (hkd ▸ hk2)]; exact ⟨(pm_nar01 hx01).1, (pm_nar01 hx01).2.1⟩
        refine put (.int x) _ hnf.1 hnf.2 (fun H1 locs1 q1 q3 => ?_)
        have hH1 : pm_H g E (pm_si M a kf x) H1 := by
          refine ⟨?_, hH.2.1, hH.2.2.1, ?_⟩
          · rw [pm_wd_set (E := E) (M := M) (E' := E) (M' := (pm_si M a kf x)) (a := a) (e := .inr (ci, (pm_fs g E M a ci).set kf (.int x))) rfl (fun k hk => pm_en_congr rfl rfl (by simp [pm_si, pm_up, pm_row, hk]) rfl) ?_]
            · rw [← pm_ad_lt (g := g) h4000]; exact q1
            · rw [pm_en_o (E := E) (c := ci) h2, pm_fs_set (k := kf)]
              · intro j hj
                simp only [pm_fv, pm_si, pm_up, pm_row, if_true, if_neg hj]
              · rcases hk2 with hk2 | ⟨hk2, -⟩ <;> (rw [← hkd, hk2]; simp [pm_fv, pm_si, pm_up, pm_row]; rfl)
          · have h44 : ¬ 4000 = a := by omega
            simp only [pm_si, pm_up, pm_row, if_neg h44]; exact hH.2.2.2
        exact ih _ _ _ _ _ h _ _ _ hL hH1 q3 hm
      · obtain ⟨ho, hmem⟩ := pm_lk hf
        obtain ⟨hci, hkf, hkd, hfin, hlk⟩ := pm_s4 o ho _ hmem
        dsimp only at hci hkf hkd hfin hlk
        have h4000 : a < 4000 := Nat.lt_of_lt_of_le h1 hH.2.1
        have hat : (pm_wd g E M)[a]? = some (pm_ad g a, .inr (ci, pm_fs g E M a ci)) := by rw [pm_wd_at h1, pm_en_o h2, ← pm_ad_lt (g := g) h4000]
        have hlen : kf < (pm_fs g E M a ci).length := by rw [pm_fs_len]; exact hkf
        have put : ∀ (v : Value) (rest : List Value), narrow (pm_ty ci kf) v = v → fits (pm_ty ci kf) v = true → (∀ (H1 : Heap) (locs1 : List Loc), va_P g.1 pm_cl ((pm_wd g E M).set a (pm_ad g a, .inr (ci, (pm_fs g E M a ci).set kf v))) H1 → va_S (pm_A g) s.heap H1 locs1 → W p l e R s m args below meth c H1 locs1 (E.1 - E0.1) (E.2.1 - E0.2.1) Q (F0 m (pc + 3) lsA rest)) → W p l e R s m args below meth c H locs (E.1 - E0.1) (E.2.1 - E0.2.1) Q (F0 m pc lsA (v :: .ref (pm_ad g a) :: rest)) := by
          intro v rest hn hfit kk
          cases hfb : fin with
          | false =>
            exact va_put (C := pm_ow ci) (T := pm_cT ci) (N := pm_nf ci) (ref := pm_ow ci) hx hb hts (pm_u_ws hci) (pm_ty ci) (pm_hty hci) (pm_k3 ci hci) hown hX.1 hH.1 pm_wd_D hS a hat (pm_cl_at hci) kf hkf (hts _ (pm_has_mem hlk)) (fun x q => by rw [(pm_k2 ci hci kf hkf).2] at q; exact q) (by rw [← hfin, hfb]) (pm_hty hci kf hkf) hn hfit hlen hd (fun H1 locs1 q1 _ q3 => kk H1 locs1 q1 q3)
          | true =>
            obtain ⟨hi1, hi2⟩ := h3 hfb
            exact va_putF (C := pm_ow ci) (T := pm_cT ci) (N := pm_nf ci) (ref := pm_ow ci) hx hb hts (pm_u_ws hci) (pm_ty ci) (pm_hty hci) (pm_k3 ci hci) hown hX.1 hH.1 pm_wd_D hS a hat (pm_cl_at hci) kf hkf (hts _ (pm_has_mem hlk)) (fun x q => by rw [(pm_k2 ci hci kf hkf).2] at q; exact q) (by rw [← hfin, hfb]) (hinit hi1) (by rw [(pm_k2 ci hci kf hkf).2, hi2]) (pm_hty hci kf hkf) hn hfit hlen hd (fun H1 locs1 q1 _ q3 => kk H1 locs1 q1 q3)
        have hnf : narrow (pm_ty ci kf) (.long x) = .long x ∧ fits (pm_ty ci kf) (.long x) = true := by
          rw [pm_fk1 (hkd ▸ hk2)]; exact ⟨rfl, rfl⟩
        refine put (.long x) _ hnf.1 hnf.2 (fun H1 locs1 q1 q3 => ?_)
        have hH1 : pm_H g E (pm_sj M a kf x) H1 := by
          refine ⟨?_, hH.2.1, hH.2.2.1, ?_⟩
          · rw [pm_wd_set (E := E) (M := M) (E' := E) (M' := (pm_sj M a kf x)) (a := a) (e := .inr (ci, (pm_fs g E M a ci).set kf (.long x))) rfl (fun k hk => pm_en_congr rfl rfl rfl (by simp [pm_sj, pm_up, pm_row, hk])) ?_]
            · rw [← pm_ad_lt (g := g) h4000]; exact q1
            · rw [pm_en_o (E := E) (c := ci) h2, pm_fs_set (k := kf)]
              · intro j hj
                simp only [pm_fv, pm_sj, pm_up, pm_row, if_true, if_neg hj]
              · rw [← hkd, hk2]; simp [pm_fv, pm_sj, pm_up, pm_row]; rfl
          · exact hH.2.2.2
        exact ih _ _ _ _ _ h _ _ _ hL hH1 q3 hm
      · obtain ⟨ho, hmem⟩ := pm_lk hf
        obtain ⟨hci, hkf, hkd, hfin, hlk⟩ := pm_s4 o ho _ hmem
        dsimp only at hci hkf hkd hfin hlk
        have h4000 : a < 4000 := Nat.lt_of_lt_of_le h1 hH.2.1
        have hat : (pm_wd g E M)[a]? = some (pm_ad g a, .inr (ci, pm_fs g E M a ci)) := by rw [pm_wd_at h1, pm_en_o h2, ← pm_ad_lt (g := g) h4000]
        have hlen : kf < (pm_fs g E M a ci).length := by rw [pm_fs_len]; exact hkf
        have put : ∀ (v : Value) (rest : List Value), narrow (pm_ty ci kf) v = v → fits (pm_ty ci kf) v = true → (∀ (H1 : Heap) (locs1 : List Loc), va_P g.1 pm_cl ((pm_wd g E M).set a (pm_ad g a, .inr (ci, (pm_fs g E M a ci).set kf v))) H1 → va_S (pm_A g) s.heap H1 locs1 → W p l e R s m args below meth c H1 locs1 (E.1 - E0.1) (E.2.1 - E0.2.1) Q (F0 m (pc + 3) lsA rest)) → W p l e R s m args below meth c H locs (E.1 - E0.1) (E.2.1 - E0.2.1) Q (F0 m pc lsA (v :: .ref (pm_ad g a) :: rest)) := by
          intro v rest hn hfit kk
          cases hfb : fin with
          | false =>
            exact va_put (C := pm_ow ci) (T := pm_cT ci) (N := pm_nf ci) (ref := pm_ow ci) hx hb hts (pm_u_ws hci) (pm_ty ci) (pm_hty hci) (pm_k3 ci hci) hown hX.1 hH.1 pm_wd_D hS a hat (pm_cl_at hci) kf hkf (hts _ (pm_has_mem hlk)) (fun x q => by rw [(pm_k2 ci hci kf hkf).2] at q; exact q) (by rw [← hfin, hfb]) (pm_hty hci kf hkf) hn hfit hlen hd (fun H1 locs1 q1 _ q3 => kk H1 locs1 q1 q3)
          | true =>
            obtain ⟨hi1, hi2⟩ := h3 hfb
            exact va_putF (C := pm_ow ci) (T := pm_cT ci) (N := pm_nf ci) (ref := pm_ow ci) hx hb hts (pm_u_ws hci) (pm_ty ci) (pm_hty hci) (pm_k3 ci hci) hown hX.1 hH.1 pm_wd_D hS a hat (pm_cl_at hci) kf hkf (hts _ (pm_has_mem hlk)) (fun x q => by rw [(pm_k2 ci hci kf hkf).2] at q; exact q) (by rw [← hfin, hfb]) (hinit hi1) (by rw [(pm_k2 ci hci kf hkf).2, hi2]) (pm_hty hci kf hkf) hn hfit hlen hd (fun H1 locs1 q1 _ q3 => kk H1 locs1 q1 q3)
        have hnf := pm_fitr (a := pm_ad g x) (pm_fk2 ci hci kf hkf (hkd ▸ hk2))
        refine put (.ref (pm_ad g x)) _ hnf.2 hnf.1 (fun H1 locs1 q1 q3 => ?_)
        have hH1 : pm_H g (pm_sp E a kf (some x)) M H1 := by
          refine ⟨?_, hH.2.1, hH.2.2.1, ?_⟩
          · rw [pm_wd_set (E := E) (M := M) (E' := (pm_sp E a kf (some x))) (M' := M) (a := a) (e := .inr (ci, (pm_fs g E M a ci).set kf (.ref (pm_ad g x)))) rfl (fun k hk => pm_en_congr rfl (by simp [pm_sp, pm_up, pm_row, hk]) rfl rfl) ?_]
            · rw [← pm_ad_lt (g := g) h4000]; exact q1
            · rw [pm_en_o (E := (pm_sp E a kf (some x))) (c := ci) h2, pm_fs_set (k := kf)]
              · intro j hj
                simp only [pm_fv, pm_sp, pm_up, pm_row, if_true, if_neg hj]
              · rw [← hkd, hk2]; simp [pm_fv, pm_sp, pm_up, pm_row]; rfl
          · exact hH.2.2.2
        exact ih _ _ _ _ _ h _ _ _ hL hH1 q3 hm
    | arraylength =>
      obtain ⟨rfl, a, rest, rfl, ⟨ha, hq⟩, h⟩ := h
      rcases ha with ha | rfl
      · have h4000 : a < 4000 := Nat.lt_of_lt_of_le ha hH.2.1
        have hn : ∃ (t0 : Nat) (cA : ClassId) (x : vp_A) (ty : FieldType), (pm_wd g E M)[a]? = some (pm_ad g a, .inl (cA, x)) ∧ (pm_tys g)[t0]? = some (cA, ty) ∧ x.1 = pm_al E a := by
          rw [pm_wd_at ha, ← pm_ad_lt (g := g) h4000]
          rcases (show (E.2.2.1 a).1 = 0 ∨ (E.2.2.1 a).1 = 1 ∨ (E.2.2.1 a).1 = 2 ∨ (E.2.2.1 a).1 = 3 ∨ (E.2.2.1 a).1 = 4 ∨ (E.2.2.1 a).1 = 5 by omega) with q | q | q | q | q | q
          · exact ⟨0, _, _, _, by rw [pm_en_i q], rfl, rfl⟩
          · exact ⟨1, _, _, _, by rw [pm_en_l q], rfl, rfl⟩
          · exact ⟨2, _, _, _, by rw [pm_en_z q], rfl, rfl⟩
          · exact ⟨3, _, _, _, by rw [pm_en_r (by omega) (by omega), q], rfl, rfl⟩
          · exact ⟨4, _, _, _, by rw [pm_en_r (by omega) (by omega), q], rfl, rfl⟩
          · exact ⟨5, _, _, _, by rw [pm_en_r (by omega) (by omega), q], rfl, rfl⟩
        obtain ⟨t0, cA, x, ty, e1, e2, e3⟩ := hn
        exact va_alen hx hb hX.1 hH.1 a t0 e1 e2 (by rw [e3]) hd (ih _ _ _ _ _ h _ _ _ hL hH hS hm)
      · refine va_slen hx hb hX.2.2.2.2.2.2.2.1 hX.2.2.2.2.2.2.2.2.1 (Nat.not_le.mpr hX.2.2.2.2.2.2.2.2.2.1) hS hd ?_
        have e1 : pm_al E 4000 = g.2.2.2.2.1 := by unfold pm_al; rw [hH.2.2.1]
        have hw := ih _ _ _ _ _ h _ _ _ hL hH hS hm
        rw [e1] at hw
        exact hw
    | iaload =>
      obtain ⟨rfl, i, a, rest, rfl, ⟨ha, hq⟩, hi, h⟩ := h
      rcases ha with ha | rfl
      · have h4000 : a < 4000 := Nat.lt_of_lt_of_le ha hH.2.1
        exact va_iald hx hb hX.1 hH.1 a 0 (by rw [pm_wd_at ha, pm_en_i hq, ← pm_ad_lt (g := g) h4000]) rfl hi hd (ih _ _ _ _ _ h _ _ _ hL hH hS hm)
      · have e1 : pm_al E 4000 = g.2.2.2.2.1 := by unfold pm_al; rw [hH.2.2.1]
        rw [e1] at hi
        refine va_sld hx hb hX.2.2.2.2.2.2.2.1 hX.2.2.2.2.2.2.2.2.1 (Nat.not_le.mpr hX.2.2.2.2.2.2.2.2.2.1) hS hi hd ?_
        have hw := ih _ _ _ _ _ h _ _ _ hL hH hS hm
        rw [hH.2.2.2] at hw
        exact hw
    | baload =>
      obtain ⟨rfl, i, a, rest, rfl, ⟨ha, hq⟩, hi, h⟩ := h
      exact va_zald hx hb hX.1 hH.1 a 2 (by rw [pm_wd_at ha, pm_en_z hq, ← pm_ad_lt (g := g) (Nat.lt_of_lt_of_le ha hH.2.1)]) rfl hi hd (ih _ _ _ _ _ h _ _ _ hL hH hS hm)
    | laload =>
      obtain ⟨rfl, i, a, rest, rfl, ⟨ha, hq⟩, hi, h⟩ := h
      exact va_lald hx hb hX.1 hH.1 a 1 (by rw [pm_wd_at ha, pm_en_l hq, ← pm_ad_lt (g := g) (Nat.lt_of_lt_of_le ha hH.2.1)]) rfl hi hd (ih _ _ _ _ _ h _ _ _ hL hH hS hm)
    | iastore =>
      obtain ⟨rfl, x, i, a, rest, rfl, ⟨ha, hq⟩, hi, h⟩ := h
      have h4000 : a < 4000 := Nat.lt_of_lt_of_le ha hH.2.1
      refine va_iast hx hb hX.1 hH.1 pm_wd_D hS a 0 (by rw [pm_wd_at ha, pm_en_i hq, ← pm_ad_lt (g := g) h4000]) rfl hi hd (fun H1 locs1 q1 _ q3 => ?_)
      have hH1 : pm_H g E (pm_si M a i.toNatClampNeg x) H1 := by
        refine ⟨?_, hH.2.1, hH.2.2.1, ?_⟩
        · rw [pm_wd_set (E := E) (M := M) (E' := E) (M' := (pm_si M a i.toNatClampNeg x)) (a := a) (e := .inl (g.2.2.2.1 0, pm_al E a, .inl (upd (M.1 a) i.toNatClampNeg x))) rfl (fun k hk => pm_en_congr rfl rfl (by simp [pm_si, pm_up, pm_row, hk]) rfl) ?_]
          · rw [← pm_ad_lt (g := g) h4000]; exact q1
          · rw [pm_en_i hq]; simp only [pm_si, pm_up, pm_row, if_true]; rfl
        · have h44 : ¬ 4000 = a := by omega
          simp only [pm_si, pm_up, pm_row, if_neg h44]; exact hH.2.2.2
      exact ih _ _ _ _ _ h _ _ _ hL hH1 q3 hm
    | bastore =>
      obtain ⟨rfl, x, i, a, rest, rfl, ⟨ha, hq⟩, hi, hx01, h⟩ := h
      have h4000 : a < 4000 := Nat.lt_of_lt_of_le ha hH.2.1
      refine va_zast hx hb hX.1 hH.1 pm_wd_D hS a 2 (by rw [pm_wd_at ha, pm_en_z hq, ← pm_ad_lt (g := g) h4000]) rfl hi hd (fun H1 locs1 q1 _ q3 => ?_)
      have hH1 : pm_H g E (pm_si M a i.toNatClampNeg x) H1 := by
        refine ⟨?_, hH.2.1, hH.2.2.1, ?_⟩
        · rw [pm_wd_set (E := E) (M := M) (E' := E) (M' := (pm_si M a i.toNatClampNeg x)) (a := a) (e := .inl (g.2.2.2.1 2, pm_al E a, .inl (upd (M.1 a) i.toNatClampNeg x))) rfl (fun k hk => pm_en_congr rfl rfl (by simp [pm_si, pm_up, pm_row, hk]) rfl) ?_]
          · rw [← pm_ad_lt (g := g) h4000]; rw [(pm_nar01 hx01).2.2] at q1; exact q1
          · rw [pm_en_z hq]; simp only [pm_si, pm_up, pm_row, if_true]; rfl
        · have h44 : ¬ 4000 = a := by omega
          simp only [pm_si, pm_up, pm_row, if_neg h44]; exact hH.2.2.2
      exact ih _ _ _ _ _ h _ _ _ hL hH1 q3 hm
    | lastore =>
      obtain ⟨rfl, x, i, a, rest, rfl, ⟨ha, hq⟩, hi, h⟩ := h
      have h4000 : a < 4000 := Nat.lt_of_lt_of_le ha hH.2.1
      refine va_last hx hb hX.1 hH.1 pm_wd_D hS a 1 (by rw [pm_wd_at ha, pm_en_l hq, ← pm_ad_lt (g := g) h4000]) rfl hi hd (fun H1 locs1 q1 _ q3 => ?_)
      have hH1 : pm_H g E (pm_sj M a i.toNatClampNeg x) H1 := by
        refine ⟨?_, hH.2.1, hH.2.2.1, ?_⟩
        · rw [pm_wd_set (E := E) (M := M) (E' := E) (M' := (pm_sj M a i.toNatClampNeg x)) (a := a) (e := .inl (g.2.2.2.1 1, pm_al E a, .inr (.inl (vp_updL (M.2 a) i.toNatClampNeg x)))) rfl (fun k hk => pm_en_congr rfl rfl rfl (by simp [pm_sj, pm_up, pm_row, hk])) ?_]
          · rw [← pm_ad_lt (g := g) h4000]; exact q1
          · rw [pm_en_l hq]; simp only [pm_sj, pm_up, pm_row, if_true]; rfl
        · exact hH.2.2.2
      exact ih _ _ _ _ _ h _ _ _ hL hH1 q3 hm
    | aaload =>
      obtain ⟨rfl, i, a, rest, rfl, ⟨ha, hq1, hq2⟩, hi, h⟩ := h
      have h4000 : a < 4000 := Nat.lt_of_lt_of_le ha hH.2.1
      have hw := ih _ _ _ _ _ h _ _ _ hL hH hS hm
      have e1 : pm_rv g (pm_rf (E.2.2.2 a i.toNatClampNeg)) = va_rf ((E.2.2.2 a i.toNatClampNeg).map (pm_ad g)) := by
        cases E.2.2.2 a i.toNatClampNeg <;> rfl
      rw [List.map_cons, e1] at hw
      have hat : (pm_wd g E M)[a]? = some (pm_ad g a, .inl (g.2.2.2.1 (E.2.2.1 a).1, pm_al E a, .inr (.inr (.inr (.inr (fun i => (E.2.2.2 a i).map (pm_ad g))))))) := by rw [pm_wd_at ha, pm_en_r hq1 hq2, ← pm_ad_lt (g := g) h4000]
      rcases (show (E.2.2.1 a).1 = 3 ∨ (E.2.2.1 a).1 = 4 ∨ (E.2.2.1 a).1 = 5 by omega) with q | q | q <;> rw [q] at hat
      · exact va_aldq hx hb hX.1 hH.1 a 3 hat rfl hi hd hw
      · exact va_aldq hx hb hX.1 hH.1 a 4 hat rfl hi hd hw
      · exact va_aldq hx hb hX.1 hH.1 a 5 hat rfl hi hd hw
    | aastore =>
      obtain ⟨rfl, x, i, a, rest, rfl, ⟨ha, hq1, hq2⟩, hi, ⟨hx1, hx2⟩, h⟩ := h
      have h4000 : a < 4000 := Nat.lt_of_lt_of_le ha hH.2.1
      have hx4 : x < 4000 := Nat.lt_of_lt_of_le hx1 hH.2.1
      have hat : (pm_wd g E M)[a]? = some (pm_ad g a, .inl (g.2.2.2.1 (E.2.2.1 a).1, pm_al E a, .inr (.inr (.inr (.inr (fun i => (E.2.2.2 a i).map (pm_ad g))))))) := by rw [pm_wd_at ha, pm_en_r hq1 hq2, ← pm_ad_lt (g := g) h4000]
      have hxt : (pm_wd g E M)[x]? = some (pm_ad g x, .inr (pm_ae (E.2.2.1 a).1, pm_fs g E M x (pm_ae (E.2.2.1 a).1))) := by rw [pm_wd_at hx1, pm_en_o hx2, ← pm_ad_lt (g := g) hx4]
      have fin : ∀ (H1 : Heap) (locs1 : List Loc), va_P g.1 pm_cl ((pm_wd g E M).set a (pm_ad g a, .inl (g.2.2.2.1 (E.2.2.1 a).1, pm_al E a, .inr (.inr (.inr (.inr (va_up (fun i => (E.2.2.2 a i).map (pm_ad g)) i.toNatClampNeg (some (pm_ad g x)))))))))  H1 → va_S (pm_A g) s.heap H1 locs1 → W p l e R s m args below meth c H1 locs1 (E.1 - E0.1) (E.2.1 - E0.2.1) Q (F0 m (pc + 1) lsA (rest.map (pm_rv g))) := by
        intro H1 locs1 q1 q3
        have hH1 : pm_H g (pm_sp E a i.toNatClampNeg (some x)) M H1 := by
          refine ⟨?_, hH.2.1, hH.2.2.1, hH.2.2.2⟩
          rw [pm_wd_set (E := E) (M := M) (E' := pm_sp E a i.toNatClampNeg (some x)) (M' := M) (a := a) rfl (fun k hk => pm_en_congr rfl (by simp [pm_sp, pm_up, pm_row, hk]) rfl rfl) ?_]
          · rw [← pm_ad_lt (g := g) h4000]; exact q1
          · have e0 : (fun j => ((pm_sp E a i.toNatClampNeg (some x)).2.2.2 a j).map (pm_ad g)) = va_up (fun i => (E.2.2.2 a i).map (pm_ad g)) i.toNatClampNeg (some (pm_ad g x)) := by
              funext j
              simp only [pm_sp, pm_up, pm_row, if_true, va_up]
              by_cases hj : j = i.toNatClampNeg <;> simp [hj]
            rw [pm_en_r (E := pm_sp E a i.toNatClampNeg (some x)) hq1 hq2, e0]
            rfl
        exact ih _ _ _ _ _ h _ _ _ hL hH1 q3 hm
      rcases (show (E.2.2.1 a).1 = 3 ∨ (E.2.2.1 a).1 = 4 ∨ (E.2.2.1 a).1 = 5 by omega) with q | q | q <;> rw [q] at hat hxt fin
      · exact va_astq hx hb hX.1 hH.1 pm_wd_D hS a 3 x 7 (r := (pm_ow 7, pm_cT 7, pm_nf 7)) hat rfl hxt (pm_cl_at (by decide)) hi hd (fun H1 locs1 q1 _ q3 => fin H1 locs1 q1 q3)
      · exact va_astq hx hb hX.1 hH.1 pm_wd_D hS a 4 x 9 (r := (pm_ow 9, pm_cT 9, pm_nf 9)) hat rfl hxt (pm_cl_at (by decide)) hi hd (fun H1 locs1 q1 _ q3 => fin H1 locs1 q1 q3)
      · exact va_astq hx hb hX.1 hH.1 pm_wd_D hS a 5 x 3 (r := (pm_ow 3, pm_cT 3, pm_nf 3)) hat rfl hxt (pm_cl_at (by decide)) hi hd (fun H1 locs1 q1 _ q3 => fin H1 locs1 q1 q3)
    | new ix =>
      obtain ⟨rfl, ci, hn, hs4, h⟩ := h
      obtain ⟨ho, hmem⟩ := pm_lk hn
      obtain ⟨hci, hlk⟩ := pm_s5 o ho _ hmem
      dsimp only at hci hlk
      have hm2 := pm_mono hcm _ _ _ _ _ _ _ h
      simp only [pm_ne] at hm2
      refine va_new (ci := ci) (C := pm_ow ci) (T := pm_cT ci) (N := pm_nf ci) (fs := pm_fs g (pm_ne E (10 + ci) (pm_nf ci) 0) (pm_nm E M) E.1 ci) hx hb hts (pm_u_ws hci) (pm_ty ci) (pm_hty hci) hown (hts _ (pm_has_mem hlk)) (hts _ (pm_has_mem (pm_k4 ci hci).1)) (hts _ (pm_has_mem (pm_k4 ci hci).2)) hX.1 hH.1 pm_wd_D hS hA (pm_cl_at hci) ?_ (by omega) (by omega) hd (fun q H1 q1 q2 q3 => ?_)
      · intro j hj
        rw [pm_def ci hci j hj, vp_V, List.getD_eq_getElem?_getD, pm_fs_at hj]
        simp only [pm_fv, pm_ne, pm_nm, pm_row, if_true]
        split <;> rename_i q <;> simp only [q] <;> first | rfl | (split <;> first | rfl | (rename_i q2; exact absurd q2 (by assumption)))
      · intro T hT X
        have hq : q = g.2.1 + E.1 := by
          have z1 := X.heapSize
          rw [hT] at z1
          have hat : (pm_wd g E M ++ [(q, .inr (ci, pm_fs g (pm_ne E (10 + ci) (pm_nf ci) 0) (pm_nm E M) E.1 ci))])[E.1]? = some (q, .inr (ci, pm_fs g (pm_ne E (10 + ci) (pm_nf ci) 0) (pm_nm E M) E.1 ci)) := by
            rw [List.getElem?_append_right (by simp [pm_wd])]; simp [pm_wd]
          have z2 := (q1 E.1 _ hat).lt
          have z3 : pm_A g q := q2.2 E.1 _ hat
          have z4 : ∀ k, k < E.1 → g.2.1 + k ≠ q := by
            intro k hk e
            have := q2.1 k E.1 _ _ (by rw [List.getElem?_append_left (by simp [pm_wd]; exact hk)]; exact pm_wd_at hk) hat e
            omega
          have z5 := z4 (q - g.2.1)
          unfold pm_A at z3
          dsimp only at z2
          omega
        subst hq
        have e4 : Value.ref (g.2.1 + E.1) = pm_rv g (.ref E.1) := by
          show _ = Value.ref (pm_ad g E.1)
          rw [pm_ad_lt hs4]
        have hH1 : pm_H g (pm_ne E (10 + ci) (pm_nf ci) 0) (pm_nm E M) H1 := by
          refine ⟨?_, by simp only [pm_ne]; omega, ?_, ?_⟩
          · rw [pm_wd_push (e := .inr (ci, pm_fs g (pm_ne E (10 + ci) (pm_nf ci) 0) (pm_nm E M) E.1 ci)) ?_]
            · exact q1
            · rw [pm_en_o (c := ci) (by simp [pm_ne, pm_row])]
          · have h44 : ¬ 4000 = E.1 := by omega
            simp only [pm_ne, pm_row, if_neg h44]; exact hH.2.2.1
          · have h44 : ¬ 4000 = E.1 := by omega
            simp only [pm_nm, pm_row, if_neg h44]; exact hH.2.2.2
        have hw := ih _ _ _ _ _ h _ _ _ hL hH1 q3 (by simp only [pm_ne]; omega)
        simp only [pm_ne] at hw
        rw [List.map_cons, ← e4, show E.1 + 1 - E0.1 = E.1 - E0.1 + 1 by omega, show E.2.1 + pm_nf ci - E0.2.1 = E.2.1 - E0.2.1 + pm_nf ci by omega] at hw
        exact hw T hT X
    | newarray ty =>
      obtain ⟨rfl, n, kd, rest, rfl, hk, hn, hmx, hs4, h⟩ := h
      have hm2 := pm_mono hcm _ _ _ _ _ _ _ h
      simp only [pm_ne] at hm2
      have hn32 : n.toNatClampNeg < 2 ^ 31 := by omega
      cases ty with
      | int =>
        cases hk
        refine va_newa (a0 := (n.toNatClampNeg, .inl (fun _ => 0))) hx hb (hts _ (pm_has_mem pm_s12.1)) rfl hX.1 hH.1 pm_wd_D hS hA (fun _ => rfl) hn rfl (by simp only [newarray.typeOf, componentBytes]; omega) (by omega) (by omega) hd (fun q cA H1 qK q1 q2 q3 => ?_)
        have hcA : cA = g.2.2.2.1 0 := by
          have z0 := (hX.1.2 0 _ rfl).2
          have z1 := (qK.2 6 _ rfl).2
          exact Option.some.inj (z1.symm.trans z0)
        subst hcA
        intro T hT X
        have hq : q = g.2.1 + E.1 := by
          have z1 := X.heapSize
          rw [hT] at z1
          have hat : (pm_wd g E M ++ [(q, .inl (g.2.2.2.1 0, (n.toNatClampNeg, .inl (fun _ => 0))))])[E.1]? = some (q, .inl (g.2.2.2.1 0, (n.toNatClampNeg, .inl (fun _ => 0)))) := by
            rw [List.getElem?_append_right (by simp [pm_wd])]; simp [pm_wd]
          have z2 := (q1 E.1 _ hat).lt
          have z3 : pm_A g q := q2.2 E.1 _ hat
          have z4 : ∀ k, k < E.1 → g.2.1 + k ≠ q := by
            intro k hk e
            have := q2.1 k E.1 _ _ (by rw [List.getElem?_append_left (by simp [pm_wd]; exact hk)]; exact pm_wd_at hk) hat e
            omega
          have z5 := z4 (q - g.2.1)
          unfold pm_A at z3
          dsimp only at z2
          omega
        subst hq
        have e4 : Value.ref (g.2.1 + E.1) = pm_rv g (.ref E.1) := by
          show _ = Value.ref (pm_ad g E.1)
          rw [pm_ad_lt hs4]
        have hH1 : pm_H g (pm_ne E 0 n.toNatClampNeg n.toNatClampNeg) (pm_nm E M) H1 := by
          refine ⟨?_, by simp only [pm_ne]; omega, ?_, ?_⟩
          · rw [pm_wd_push (e := .inl (g.2.2.2.1 0, (n.toNatClampNeg, .inl (fun _ => 0)))) ?_]
            · exact q1
            · rw [pm_en_i (by simp [pm_ne, pm_row])]; simp [pm_ne, pm_nm, pm_row, pm_al]
          · have h44 : ¬ 4000 = E.1 := by omega
            simp only [pm_ne, pm_row, if_neg h44]; exact hH.2.2.1
          · have h44 : ¬ 4000 = E.1 := by omega
            simp only [pm_nm, pm_row, if_neg h44]; exact hH.2.2.2
        have hw := ih _ _ _ _ _ h _ _ _ hL hH1 q3 (by simp only [pm_ne]; omega)
        simp only [pm_ne] at hw
        rw [List.map_cons, ← e4, show E.1 + 1 - E0.1 = E.1 - E0.1 + 1 by omega, show E.2.1 + n.toNatClampNeg - E0.2.1 = E.2.1 - E0.2.1 + n.toNatClampNeg by omega] at hw
        exact hw T hT X
      | long =>
        cases hk
        refine va_newa (a0 := (n.toNatClampNeg, .inr (.inl (fun _ => 0)))) hx hb (hts _ (pm_has_mem pm_s12.2.1)) rfl hX.1 hH.1 pm_wd_D hS hA (fun _ => rfl) hn rfl (by simp only [newarray.typeOf, componentBytes]; omega) (by omega) (by omega) hd (fun q cA H1 qK q1 q2 q3 => ?_)
        have hcA : cA = g.2.2.2.1 1 := by
          have z0 := (hX.1.2 1 _ rfl).2
          have z1 := (qK.2 6 _ rfl).2
          exact Option.some.inj (z1.symm.trans z0)
        subst hcA
        intro T hT X
        have hq : q = g.2.1 + E.1 := by
          have z1 := X.heapSize
          rw [hT] at z1
          have hat : (pm_wd g E M ++ [(q, .inl (g.2.2.2.1 1, (n.toNatClampNeg, .inr (.inl (fun _ => 0)))))])[E.1]? = some (q, .inl (g.2.2.2.1 1, (n.toNatClampNeg, .inr (.inl (fun _ => 0))))) := by
            rw [List.getElem?_append_right (by simp [pm_wd])]; simp [pm_wd]
          have z2 := (q1 E.1 _ hat).lt
          have z3 : pm_A g q := q2.2 E.1 _ hat
          have z4 : ∀ k, k < E.1 → g.2.1 + k ≠ q := by
            intro k hk e
            have := q2.1 k E.1 _ _ (by rw [List.getElem?_append_left (by simp [pm_wd]; exact hk)]; exact pm_wd_at hk) hat e
            omega
          have z5 := z4 (q - g.2.1)
          unfold pm_A at z3
          dsimp only at z2
          omega
        subst hq
        have e4 : Value.ref (g.2.1 + E.1) = pm_rv g (.ref E.1) := by
          show _ = Value.ref (pm_ad g E.1)
          rw [pm_ad_lt hs4]
        have hH1 : pm_H g (pm_ne E 1 n.toNatClampNeg n.toNatClampNeg) (pm_nm E M) H1 := by
          refine ⟨?_, by simp only [pm_ne]; omega, ?_, ?_⟩
          · rw [pm_wd_push (e := .inl (g.2.2.2.1 1, (n.toNatClampNeg, .inr (.inl (fun _ => 0))))) ?_]
            · exact q1
            · rw [pm_en_l (by simp [pm_ne, pm_row])]; simp [pm_ne, pm_nm, pm_row, pm_al]
          · have h44 : ¬ 4000 = E.1 := by omega
            simp only [pm_ne, pm_row, if_neg h44]; exact hH.2.2.1
          · have h44 : ¬ 4000 = E.1 := by omega
            simp only [pm_nm, pm_row, if_neg h44]; exact hH.2.2.2
        have hw := ih _ _ _ _ _ h _ _ _ hL hH1 q3 (by simp only [pm_ne]; omega)
        simp only [pm_ne] at hw
        rw [List.map_cons, ← e4, show E.1 + 1 - E0.1 = E.1 - E0.1 + 1 by omega, show E.2.1 + n.toNatClampNeg - E0.2.1 = E.2.1 - E0.2.1 + n.toNatClampNeg by omega] at hw
        exact hw T hT X
      | boolean =>
        cases hk
        refine va_newa (a0 := (n.toNatClampNeg, .inl (fun _ => 0))) hx hb (hts _ (pm_has_mem pm_s12.2.2)) rfl hX.1 hH.1 pm_wd_D hS hA (fun _ => rfl) hn rfl (by simp only [newarray.typeOf, componentBytes]; omega) (by omega) (by omega) hd (fun q cA H1 qK q1 q2 q3 => ?_)
        have hcA : cA = g.2.2.2.1 2 := by
          have z0 := (hX.1.2 2 _ rfl).2
          have z1 := (qK.2 6 _ rfl).2
          exact Option.some.inj (z1.symm.trans z0)
        subst hcA
        intro T hT X
        have hq : q = g.2.1 + E.1 := by
          have z1 := X.heapSize
          rw [hT] at z1
          have hat : (pm_wd g E M ++ [(q, .inl (g.2.2.2.1 2, (n.toNatClampNeg, .inl (fun _ => 0))))])[E.1]? = some (q, .inl (g.2.2.2.1 2, (n.toNatClampNeg, .inl (fun _ => 0)))) := by
            rw [List.getElem?_append_right (by simp [pm_wd])]; simp [pm_wd]
          have z2 := (q1 E.1 _ hat).lt
          have z3 : pm_A g q := q2.2 E.1 _ hat
          have z4 : ∀ k, k < E.1 → g.2.1 + k ≠ q := by
            intro k hk e
            have := q2.1 k E.1 _ _ (by rw [List.getElem?_append_left (by simp [pm_wd]; exact hk)]; exact pm_wd_at hk) hat e
            omega
          have z5 := z4 (q - g.2.1)
          unfold pm_A at z3
          dsimp only at z2
          omega
        subst hq
        have e4 : Value.ref (g.2.1 + E.1) = pm_rv g (.ref E.1) := by
          show _ = Value.ref (pm_ad g E.1)
          rw [pm_ad_lt hs4]
        have hH1 : pm_H g (pm_ne E 2 n.toNatClampNeg n.toNatClampNeg) (pm_nm E M) H1 := by
          refine ⟨?_, by simp only [pm_ne]; omega, ?_, ?_⟩
          · rw [pm_wd_push (e := .inl (g.2.2.2.1 2, (n.toNatClampNeg, .inl (fun _ => 0)))) ?_]
            · exact q1
            · rw [pm_en_z (by simp [pm_ne, pm_row])]; simp [pm_ne, pm_nm, pm_row, pm_al]
          · have h44 : ¬ 4000 = E.1 := by omega
            simp only [pm_ne, pm_row, if_neg h44]; exact hH.2.2.1
          · have h44 : ¬ 4000 = E.1 := by omega
            simp only [pm_nm, pm_row, if_neg h44]; exact hH.2.2.2
        have hw := ih _ _ _ _ _ h _ _ _ hL hH1 q3 (by simp only [pm_ne]; omega)
        simp only [pm_ne] at hw
        rw [List.map_cons, ← e4, show E.1 + 1 - E0.1 = E.1 - E0.1 + 1 by omega, show E.2.1 + n.toNatClampNeg - E0.2.1 = E.2.1 - E0.2.1 + n.toNatClampNeg by omega] at hw
        exact hw T hT X
      | _ => cases hk
    | anewarray ix =>
      obtain ⟨rfl, n, kd, rest, rfl, hk, hn, hmx, hs4, h⟩ := h
      obtain ⟨ho, hmem⟩ := pm_lk hk
      obtain ⟨hk1, hk2, hlk⟩ := pm_s6 o ho _ hmem
      dsimp only at hk1 hk2 hlk
      have hm2 := pm_mono hcm _ _ _ _ _ _ _ h
      simp only [pm_ne] at hm2
      rcases (show kd = 3 ∨ kd = 4 ∨ kd = 5 by omega) with rfl | rfl | rfl
      · refine va_newq hx hb hown (hts _ (pm_has_mem hlk)) hX.2.2.1.1 hX.1 hH.1 pm_wd_D hS hA hn rfl (by omega) (by omega) (by omega) hd (fun q cA H1 qK q1 q2 q3 => ?_)
        have hcA : cA = g.2.2.2.1 3 := by
          obtain ⟨_, _, -, -, -, z0⟩ := (hX.1.2 3 _ rfl).2
          obtain ⟨_, _, -, -, -, z1⟩ := (qK.2 6 _ rfl).2
          exact Option.some.inj (z1.symm.trans z0)
        subst hcA
        intro T hT X
        have hq : q = g.2.1 + E.1 := by
          have z1 := X.heapSize
          rw [hT] at z1
          have hat : (pm_wd g E M ++ [(q, .inl (g.2.2.2.1 3, n.toNatClampNeg, .inr (.inr (.inr (.inr (fun _ => none))))))])[E.1]? = some (q, .inl (g.2.2.2.1 3, n.toNatClampNeg, .inr (.inr (.inr (.inr (fun _ => none)))))) := by
            rw [List.getElem?_append_right (by simp [pm_wd])]; simp [pm_wd]
          have z2 := (q1 E.1 _ hat).lt
          have z3 : pm_A g q := q2.2 E.1 _ hat
          have z4 : ∀ k, k < E.1 → g.2.1 + k ≠ q := by
            intro k hk e
            have := q2.1 k E.1 _ _ (by rw [List.getElem?_append_left (by simp [pm_wd]; exact hk)]; exact pm_wd_at hk) hat e
            omega
          have z5 := z4 (q - g.2.1)
          unfold pm_A at z3
          dsimp only at z2
          omega
        subst hq
        have e4 : Value.ref (g.2.1 + E.1) = pm_rv g (.ref E.1) := by
          show _ = Value.ref (pm_ad g E.1)
          rw [pm_ad_lt hs4]
        have hH1 : pm_H g (pm_ne E 3 n.toNatClampNeg n.toNatClampNeg) (pm_nm E M) H1 := by
          refine ⟨?_, by simp only [pm_ne]; omega, ?_, ?_⟩
          · rw [pm_wd_push (e := .inl (g.2.2.2.1 3, n.toNatClampNeg, .inr (.inr (.inr (.inr (fun _ => none)))))) ?_]
            · exact q1
            · rw [pm_en_r (by simp [pm_ne, pm_row]) (by simp [pm_ne, pm_row])]; simp [pm_ne, pm_row, pm_al]
          · have h44 : ¬ 4000 = E.1 := by omega
            simp only [pm_ne, pm_row, if_neg h44]; exact hH.2.2.1
          · have h44 : ¬ 4000 = E.1 := by omega
            simp only [pm_nm, pm_row, if_neg h44]; exact hH.2.2.2
        have hw := ih _ _ _ _ _ h _ _ _ hL hH1 q3 (by simp only [pm_ne]; omega)
        simp only [pm_ne] at hw
        rw [List.map_cons, ← e4, show E.1 + 1 - E0.1 = E.1 - E0.1 + 1 by omega, show E.2.1 + n.toNatClampNeg - E0.2.1 = E.2.1 - E0.2.1 + n.toNatClampNeg by omega] at hw
        exact hw T hT X
      · refine va_newq hx hb hown (hts _ (pm_has_mem hlk)) hX.2.2.1.2.1 hX.1 hH.1 pm_wd_D hS hA hn rfl (by omega) (by omega) (by omega) hd (fun q cA H1 qK q1 q2 q3 => ?_)
        have hcA : cA = g.2.2.2.1 4 := by
          obtain ⟨_, _, -, -, -, z0⟩ := (hX.1.2 4 _ rfl).2
          obtain ⟨_, _, -, -, -, z1⟩ := (qK.2 6 _ rfl).2
          exact Option.some.inj (z1.symm.trans z0)
        subst hcA
        intro T hT X
        have hq : q = g.2.1 + E.1 := by
          have z1 := X.heapSize
          rw [hT] at z1
          have hat : (pm_wd g E M ++ [(q, .inl (g.2.2.2.1 4, n.toNatClampNeg, .inr (.inr (.inr (.inr (fun _ => none))))))])[E.1]? = some (q, .inl (g.2.2.2.1 4, n.toNatClampNeg, .inr (.inr (.inr (.inr (fun _ => none)))))) := by
            rw [List.getElem?_append_right (by simp [pm_wd])]; simp [pm_wd]
          have z2 := (q1 E.1 _ hat).lt
          have z3 : pm_A g q := q2.2 E.1 _ hat
          have z4 : ∀ k, k < E.1 → g.2.1 + k ≠ q := by
            intro k hk e
            have := q2.1 k E.1 _ _ (by rw [List.getElem?_append_left (by simp [pm_wd]; exact hk)]; exact pm_wd_at hk) hat e
            omega
          have z5 := z4 (q - g.2.1)
          unfold pm_A at z3
          dsimp only at z2
          omega
        subst hq
        have e4 : Value.ref (g.2.1 + E.1) = pm_rv g (.ref E.1) := by
          show _ = Value.ref (pm_ad g E.1)
          rw [pm_ad_lt hs4]
        have hH1 : pm_H g (pm_ne E 4 n.toNatClampNeg n.toNatClampNeg) (pm_nm E M) H1 := by
          refine ⟨?_, by simp only [pm_ne]; omega, ?_, ?_⟩
          · rw [pm_wd_push (e := .inl (g.2.2.2.1 4, n.toNatClampNeg, .inr (.inr (.inr (.inr (fun _ => none)))))) ?_]
            · exact q1
            · rw [pm_en_r (by simp [pm_ne, pm_row]) (by simp [pm_ne, pm_row])]; simp [pm_ne, pm_row, pm_al]
          · have h44 : ¬ 4000 = E.1 := by omega
            simp only [pm_ne, pm_row, if_neg h44]; exact hH.2.2.1
          · have h44 : ¬ 4000 = E.1 := by omega
            simp only [pm_nm, pm_row, if_neg h44]; exact hH.2.2.2
        have hw := ih _ _ _ _ _ h _ _ _ hL hH1 q3 (by simp only [pm_ne]; omega)
        simp only [pm_ne] at hw
        rw [List.map_cons, ← e4, show E.1 + 1 - E0.1 = E.1 - E0.1 + 1 by omega, show E.2.1 + n.toNatClampNeg - E0.2.1 = E.2.1 - E0.2.1 + n.toNatClampNeg by omega] at hw
        exact hw T hT X
      · refine va_newq hx hb hown (hts _ (pm_has_mem hlk)) hX.2.2.1.2.2 hX.1 hH.1 pm_wd_D hS hA hn rfl (by omega) (by omega) (by omega) hd (fun q cA H1 qK q1 q2 q3 => ?_)
        have hcA : cA = g.2.2.2.1 5 := by
          obtain ⟨_, _, -, -, -, z0⟩ := (hX.1.2 5 _ rfl).2
          obtain ⟨_, _, -, -, -, z1⟩ := (qK.2 6 _ rfl).2
          exact Option.some.inj (z1.symm.trans z0)
        subst hcA
        intro T hT X
        have hq : q = g.2.1 + E.1 := by
          have z1 := X.heapSize
          rw [hT] at z1
          have hat : (pm_wd g E M ++ [(q, .inl (g.2.2.2.1 5, n.toNatClampNeg, .inr (.inr (.inr (.inr (fun _ => none))))))])[E.1]? = some (q, .inl (g.2.2.2.1 5, n.toNatClampNeg, .inr (.inr (.inr (.inr (fun _ => none)))))) := by
            rw [List.getElem?_append_right (by simp [pm_wd])]; simp [pm_wd]
          have z2 := (q1 E.1 _ hat).lt
          have z3 : pm_A g q := q2.2 E.1 _ hat
          have z4 : ∀ k, k < E.1 → g.2.1 + k ≠ q := by
            intro k hk e
            have := q2.1 k E.1 _ _ (by rw [List.getElem?_append_left (by simp [pm_wd]; exact hk)]; exact pm_wd_at hk) hat e
            omega
          have z5 := z4 (q - g.2.1)
          unfold pm_A at z3
          dsimp only at z2
          omega
        subst hq
        have e4 : Value.ref (g.2.1 + E.1) = pm_rv g (.ref E.1) := by
          show _ = Value.ref (pm_ad g E.1)
          rw [pm_ad_lt hs4]
        have hH1 : pm_H g (pm_ne E 5 n.toNatClampNeg n.toNatClampNeg) (pm_nm E M) H1 := by
          refine ⟨?_, by simp only [pm_ne]; omega, ?_, ?_⟩
          · rw [pm_wd_push (e := .inl (g.2.2.2.1 5, n.toNatClampNeg, .inr (.inr (.inr (.inr (fun _ => none)))))) ?_]
            · exact q1
            · rw [pm_en_r (by simp [pm_ne, pm_row]) (by simp [pm_ne, pm_row])]; simp [pm_ne, pm_row, pm_al]
          · have h44 : ¬ 4000 = E.1 := by omega
            simp only [pm_ne, pm_row, if_neg h44]; exact hH.2.2.1
          · have h44 : ¬ 4000 = E.1 := by omega
            simp only [pm_nm, pm_row, if_neg h44]; exact hH.2.2.2
        have hw := ih _ _ _ _ _ h _ _ _ hL hH1 q3 (by simp only [pm_ne]; omega)
        simp only [pm_ne] at hw
        rw [List.map_cons, ← e4, show E.1 + 1 - E0.1 = E.1 - E0.1 + 1 by omega, show E.2.1 + n.toNatClampNeg - E0.2.1 = E.2.1 - E0.2.1 + n.toNatClampNeg by omega] at hw
        exact hw T hT X
    | invokevirtual ix =>
      obtain ⟨rfl, ⟨y, a, As, rest, r, E1, M1, ht, rfl, hl, hcat, ha1, ha2, hcal, h⟩ | ⟨j, rest, ht, hj, rfl, hcat, h⟩ | ⟨j, i, rest, ht, hj, rfl, hi, hcat, h⟩⟩ := h
      · obtain ⟨ho, hmem⟩ := pm_lk ht
        obtain ⟨hy, hlk, hin, hse, hoc⟩ := pm_s1 o ho _ hmem
        dsimp only at hy hlk hin hse hoc
        have hm1 := hcm _ _ _ _ _ hcal
        have hm2 := pm_mono hcm _ _ _ _ _ _ _ h
        dsimp only at hm1 hm2
        have hmt : pm_mt l g d y (.ref a :: As) E M (r, E1, M1) := hcl _ _ _ _ _ hcal
        refine pm_size hz hm.1 hH hS (fun hsz => ?_)
        have hrest : (List.map (fun v => v.category) (rest.map (pm_rv g))).sum ≤ 8 := by
          rw [List.map_map]
          rw [show ((fun v => v.category) ∘ pm_rv g) = (fun v : Value => v.category) from funext (fun v => pm_rv_cat v)]
          exact hcat
        have hyf := pm_m2 y hy
        have hoo := pm_m3 (pm_oc y) hyf.2.1
        have hwI : Cond.initialized (pm_mn y).cls ∈ lw_good := by rw [hyf.1]; exact pm_has_mem hoo.1
        have hne : (pm_mn y).cls ≠ "java/lang/invoke/MethodHandle" ∧ (pm_mn y).cls ≠ "java/lang/invoke/VarHandle" := by rw [hyf.1]; exact ⟨hoo.2.1, hoo.2.2⟩
        have hG : GoodIn lw_good (Cond.code (pm_mn y) (pm_by y) (pm_mx y) (pm_rt y) :: lw_good) := pm_good (pm_m1 y hy) rfl
        have hrm : d + 8 + 1 ≤ R.frames ∧ 8 + (pm_mx y + 11) + 60 * (d + 8) ≤ R.locals := by
          have := hyf.2.2.1
          omega
        have ha4 : a < 4000 := Nat.lt_of_lt_of_le ha1 hH.2.1
        refine pm_cont (z := (r, E1, M1)) (mc := E1.1 - E.1) (ms := E1.2.1 - E.2.1) (rest := rest.map (pm_rv g)) (a := (Value.ref (pm_ad g a) :: As.map (pm_rv g) : List Value).toArray) ?_ hS (fun H1 locs1 hH1 hS1 => ?_)
        rotate_left
        · have hw := ih _ _ _ _ _ h _ _ _ hL hH1 hS1 (by omega)
          rw [show E1.1 - E0.1 = E.1 - E0.1 + (E1.1 - E.1) by omega, show E1.2.1 - E0.2.1 = E.2.1 - E0.2.1 + (E1.2.1 - E.2.1) by omega] at hw
          have e5 : List.map (pm_rv g) (r.toList ++ rest) = (r.map (pm_rv g)).toList ++ rest.map (pm_rv g) := by cases r <;> simp
          rw [e5] at hw
          exact hw
        exact va_runV (As := As.map (pm_rv g)) (rest := rest.map (pm_rv g)) (C := (pm_mn y).cls) ⟨hx, hb, hml, hown, hts⟩ hmt (cwV (pm_np y) hts (fun w hw => by
          rcases List.mem_append.mp hw with q | q
          · have hq : w ∈ lw_good := by
              simp only [List.mem_cons, List.not_mem_nil, or_false] at q
              rcases q with rfl | rfl | rfl | rfl
              · exact pm_has_mem hlk
              · exact pm_has_mem hin
              · exact pm_has_mem hse
              · exact hwI
            exact ⟨hq, good_of_word (List.mem_filter.mp hq).2⟩
          · exact hG w q) rfl rfl rfl ⟨rfl, hne.1, hne.2, hyf.2.2.2.1⟩ hrm) ⟨pm_blind, (by have := va_recv hX.1 hH.1 (pm_cl_at hoc) (show (pm_wd g E M)[a]? = some (pm_ad g a, .inr (pm_oc y, pm_fs g E M a (pm_oc y))) by rw [pm_wd_at ha1, pm_en_o ha2, ← pm_ad_lt (g := g) ha4]); rw [hyf.1]; exact this), (fun U hU hW => ⟨by simp [pm_rv], pm_X_step hX hW (by rw [hU]; exact hS.1) (fun q z1 z2 => by rw [hU]; exact hS.2.1 q z1 z2), by rw [hU]; exact hH, by rw [hU]; exact hsz⟩)⟩ rfl (by simp [hl]) hL.2.choose_spec.1.1 (by simp [pm_rv]) (lv_room hrest) hd ⟨by omega, by omega⟩
      · have hm2 := pm_mono hcm _ _ _ _ _ _ _ h
        refine pm_size hz hm.1 hH hS (fun hsz => ?_)
        have hrest : (List.map (fun v => v.category) (rest.map (pm_rv g))).sum ≤ 8 := by
          rw [List.map_map]
          rw [show ((fun v => v.category) ∘ pm_rv g) = (fun v : Value => v.category) from funext (fun v => pm_rv_cat v)]
          exact hcat
        obtain ⟨ho, hmem⟩ := pm_lk ht
        have hsv := pm_s13 o ho _ hmem
        dsimp only at hsv
        have hrecv : ∃ cellB : Cell, H[pm_ad g (4001 + j)]? = some cellB ∧ cellB.vm.isStatics = false ∧ s.vm.findClass "java/lang/String" = some cellB.cls := by
          have := vk_recv hX.2.2.2.2.1 hj hS
          unfold pm_ad
          rw [if_neg (by omega)]
          exact this
        refine pm_cont (z := (some (.int (Int32.ofNat (pm_sl j))), E, M)) (mc := 0) (ms := 0) (rest := rest.map (pm_rv g)) (a := ([Value.ref (pm_ad g (4001 + j))] : List Value).toArray) ?_ hS (fun H1 locs1 hH1 hS1 => ih _ _ _ _ _ h _ _ _ hL hH1 hS1 hm)
        exact va_runV (As := []) (rest := rest.map (pm_rv g)) (C := "java/lang/String") ⟨hx, hb, hml, hown, hts⟩ (hstr.1 j E M hj) (cwV 0 hts (fun w hw => by
          rcases List.mem_append.mp hw with q | q
          · have hq : w ∈ lw_good := by
              simp only [List.mem_cons, List.not_mem_nil, or_false] at q
              rcases q with rfl | rfl | rfl | rfl
              · exact pm_has_mem (hsv.1 rfl)
              · exact pm_has_mem pm_s14.1
              · exact pm_has_mem pm_s14.2.1
              · exact pm_has_mem pm_s14.2.2.2.2.1
            exact ⟨hq, good_of_word (List.mem_filter.mp hq).2⟩
          · exact pm_good (pm_s15.1) rfl w q) rfl rfl rfl (by decide +kernel) ⟨by dsimp only; omega, by dsimp only; omega⟩) ⟨pm_blind, hrecv, (fun U hU hW => ⟨by simp [pm_rv], pm_X_step hX hW (by rw [hU]; exact hS.1) (fun q z1 z2 => by rw [hU]; exact hS.2.1 q z1 z2), by rw [hU]; exact hH, by rw [hU]; exact hsz⟩)⟩ rfl (by simp) hL.2.choose_spec.1.1 (by simp [pm_rv]) (lv_room hrest) hd ⟨by omega, by omega⟩
      · have hm2 := pm_mono hcm _ _ _ _ _ _ _ h
        refine pm_size hz hm.1 hH hS (fun hsz => ?_)
        have hrest : (List.map (fun v => v.category) (rest.map (pm_rv g))).sum ≤ 8 := by
          rw [List.map_map]
          rw [show ((fun v => v.category) ∘ pm_rv g) = (fun v : Value => v.category) from funext (fun v => pm_rv_cat v)]
          exact hcat
        obtain ⟨ho, hmem⟩ := pm_lk ht
        have hsv := pm_s13 o ho _ hmem
        dsimp only at hsv
        have hrecv : ∃ cellB : Cell, H[pm_ad g (4001 + j)]? = some cellB ∧ cellB.vm.isStatics = false ∧ s.vm.findClass "java/lang/String" = some cellB.cls := by
          have := vk_recv hX.2.2.2.2.1 hj hS
          unfold pm_ad
          rw [if_neg (by omega)]
          exact this
        refine pm_cont (z := (some (.int (pm_sc j i.toNatClampNeg)), E, M)) (mc := 0) (ms := 0) (rest := rest.map (pm_rv g)) (a := ([Value.ref (pm_ad g (4001 + j)), .int i] : List Value).toArray) ?_ hS (fun H1 locs1 hH1 hS1 => ih _ _ _ _ _ h _ _ _ hL hH1 hS1 hm)
        exact va_runV (As := [.int i]) (rest := rest.map (pm_rv g)) (C := "java/lang/String") ⟨hx, hb, hml, hown, hts⟩ (hstr.2 j i E M hj hi) (cwV 1 hts (fun w hw => by
          rcases List.mem_append.mp hw with q | q
          · have hq : w ∈ lw_good := by
              simp only [List.mem_cons, List.not_mem_nil, or_false] at q
              rcases q with rfl | rfl | rfl | rfl
              · exact pm_has_mem (hsv.2 rfl)
              · exact pm_has_mem pm_s14.2.2.1
              · exact pm_has_mem pm_s14.2.2.2.1
              · exact pm_has_mem pm_s14.2.2.2.2.1
            exact ⟨hq, good_of_word (List.mem_filter.mp hq).2⟩
          · exact pm_good (pm_s15.2) rfl w q) rfl rfl rfl (by decide +kernel) ⟨by dsimp only; omega, by dsimp only; omega⟩) ⟨pm_blind, hrecv, (fun U hU hW => ⟨by simp [pm_rv], pm_X_step hX hW (by rw [hU]; exact hS.1) (fun q z1 z2 => by rw [hU]; exact hS.2.1 q z1 z2), by rw [hU]; exact hH, by rw [hU]; exact hsz⟩)⟩ rfl (by simp) hL.2.choose_spec.1.1 (by simp [pm_rv]) (lv_room hrest) hd ⟨by omega, by omega⟩
    | invokestatic ix =>
      obtain ⟨rfl, ⟨y, As, rest, r, E1, M1, ht, rfl, hl, hcat, hcal, h⟩ | ⟨a, c2, sp, dp, n2, rest, ht, rfl, ha1, hc1, hka, hkc, g1, g2, g3, g4, g5, hcat, h⟩⟩ := h
      · obtain ⟨ho, hmem⟩ := pm_lk ht
        obtain ⟨hy, hlk, hstt⟩ := pm_s2 o ho _ hmem
        dsimp only at hy hlk hstt
        have hm1 := hcm _ _ _ _ _ hcal
        have hm2 := pm_mono hcm _ _ _ _ _ _ _ h
        dsimp only at hm1 hm2
        have hmt : pm_mt l g d y As E M (r, E1, M1) := hcl _ _ _ _ _ hcal
        refine pm_size hz hm.1 hH hS (fun hsz => ?_)
        have hrest : (List.map (fun v => v.category) (rest.map (pm_rv g))).sum ≤ 8 := by
          rw [List.map_map]
          rw [show ((fun v => v.category) ∘ pm_rv g) = (fun v : Value => v.category) from funext (fun v => pm_rv_cat v)]
          exact hcat
        have hyf := pm_m2 y hy
        have hoo := pm_m3 (pm_oc y) hyf.2.1
        have hwI : Cond.initialized (pm_mn y).cls ∈ lw_good := by rw [hyf.1]; exact pm_has_mem hoo.1
        have hne : (pm_mn y).cls ≠ "java/lang/invoke/MethodHandle" ∧ (pm_mn y).cls ≠ "java/lang/invoke/VarHandle" := by rw [hyf.1]; exact ⟨hoo.2.1, hoo.2.2⟩
        have hG : GoodIn lw_good (Cond.code (pm_mn y) (pm_by y) (pm_mx y) (pm_rt y) :: lw_good) := pm_good (pm_m1 y hy) rfl
        have hrm : d + 8 + 1 ≤ R.frames ∧ 8 + (pm_mx y + 11) + 60 * (d + 8) ≤ R.locals := by
          have := hyf.2.2.1
          omega
        refine pm_cont (z := (r, E1, M1)) (mc := E1.1 - E.1) (ms := E1.2.1 - E.2.1) (rest := rest.map (pm_rv g)) (a := (As.map (pm_rv g) : List Value).toArray) ?_ hS (fun H1 locs1 hH1 hS1 => ?_)
        rotate_left
        · have hw := ih _ _ _ _ _ h _ _ _ hL hH1 hS1 (by omega)
          rw [show E1.1 - E0.1 = E.1 - E0.1 + (E1.1 - E.1) by omega, show E1.2.1 - E0.2.1 = E.2.1 - E0.2.1 + (E1.2.1 - E.2.1) by omega] at hw
          have e5 : List.map (pm_rv g) (r.toList ++ rest) = (r.map (pm_rv g)).toList ++ rest.map (pm_rv g) := by cases r <;> simp
          rw [e5] at hw
          exact hw
        exact va_runS (As := As.map (pm_rv g)) (rest := rest.map (pm_rv g)) ⟨hx, hb, hml, hown, hts⟩ hmt ⟨callB_of (pm_np y) hts hG rfl rfl rfl (hts _ hwI) (hts _ (pm_has_mem hlk)) ⟨hne.1, hne.2, hyf.2.2.2.1⟩ hrm, hts _ (pm_has_mem hstt)⟩ ⟨pm_blind, (fun U hU hW => ⟨by simp [pm_rv], pm_X_step hX hW (by rw [hU]; exact hS.1) (fun q z1 z2 => by rw [hU]; exact hS.2.1 q z1 z2), by rw [hU]; exact hH, by rw [hU]; exact hsz⟩)⟩ rfl (by simp [hl]) hL.2.choose_spec.1.1 (by simp) (lv_room hrest) hd ⟨by omega, by omega⟩
      · have hal : o < 17 ∧ (ix, true) ∈ pm_acqL.getD o [] := by
          unfold pm_ac pm_acq at ht
          cases hq : (pm_acqL.getD o []).lookup ix with
          | none => rw [hq] at ht; cases ht
          | some v => rw [hq] at ht; cases ht; exact pm_lk hq
        have hrest : (List.map (fun v => v.category) (rest.map (pm_rv g))).sum ≤ 8 := by
          rw [List.map_map]
          rw [show ((fun v => v.category) ∘ pm_rv g) = (fun v : Value => v.category) from funext (fun v => pm_rv_cat v)]
          exact hcat
        have ha4 : a < 4000 := Nat.lt_of_lt_of_le ha1 hH.2.1
        have hc4 : c2 < 4000 := Nat.lt_of_lt_of_le hc1 hH.2.1
        have hnw : nativeFrameWords "java/lang/System" "arraycopy" 5 ≤ 40 := by decide
        refine va_copyi hx hb (by rw [hml]; exact hL.2.choose_spec.1.1.symm) hown (hts _ (pm_has_mem (pm_s9 o hal.1 _ hal.2))) (hts _ (pm_has_mem pm_s8.2.2.1)) (hts _ (pm_has_mem pm_s8.2.2.2.1)) (hts _ (pm_has_mem pm_s8.2.2.2.2)) hX.1 hH.1 pm_wd_D hS a c2 0 0 (by rw [pm_wd_at ha1, pm_en_i hka, ← pm_ad_lt (g := g) ha4]) (by rw [pm_wd_at hc1, pm_en_i hkc, ← pm_ad_lt (g := g) hc4]) rfl rfl rfl g1 g2 g3 g4 g5 (fun _ _ => rfl) (by omega) (by omega) hd (fun H1 locs1 q1 _ q3 => ?_)
        have hH1 : pm_H g E (pm_ri M c2 (va_cpy (M.1 a) (M.1 c2) sp.toNatClampNeg dp.toNatClampNeg n2.toNatClampNeg)) H1 := by
          refine ⟨?_, hH.2.1, hH.2.2.1, ?_⟩
          · rw [pm_wd_set (E := E) (M := M) (E' := E) (M' := pm_ri M c2 (va_cpy (M.1 a) (M.1 c2) sp.toNatClampNeg dp.toNatClampNeg n2.toNatClampNeg)) (a := c2) (e := .inl (g.2.2.2.1 0, pm_al E c2, .inl (va_cpy (M.1 a) (M.1 c2) sp.toNatClampNeg dp.toNatClampNeg n2.toNatClampNeg))) rfl (fun k hk => pm_en_congr rfl rfl (by simp [pm_ri, pm_row, hk]) rfl) ?_]
            · rw [← pm_ad_lt (g := g) hc4]; exact q1
            · rw [pm_en_i hkc]; simp only [pm_ri, pm_row, if_true]
          · have h44 : ¬ 4000 = c2 := by omega
            simp only [pm_ri, pm_row, if_neg h44]; exact hH.2.2.2
        exact ih _ _ _ _ _ h _ _ _ hL hH1 q3 hm
    | invokespecial ix =>
      obtain ⟨rfl, ⟨y, a, As, rest, r, E1, M1, ht, rfl, hl, hcat, hcal, h⟩ | ⟨a, rest, ht, rfl, hcat, h⟩⟩ := h
      · obtain ⟨ho, hmem⟩ := pm_lk ht
        obtain ⟨hy, hfi2, hin, hlk⟩ := pm_s3 o ho _ hmem
        dsimp only at hy hfi2 hin hlk
        have hm1 := hcm _ _ _ _ _ hcal
        have hm2 := pm_mono hcm _ _ _ _ _ _ _ h
        dsimp only at hm1 hm2
        have hmt : pm_mt l g d y (.ref a :: As) E M (r, E1, M1) := hcl _ _ _ _ _ hcal
        refine pm_size hz hm.1 hH hS (fun hsz => ?_)
        have hrest : (List.map (fun v => v.category) (rest.map (pm_rv g))).sum ≤ 8 := by
          rw [List.map_map]
          rw [show ((fun v => v.category) ∘ pm_rv g) = (fun v : Value => v.category) from funext (fun v => pm_rv_cat v)]
          exact hcat
        have hyf := pm_m2 y hy
        have hoo := pm_m3 (pm_oc y) hyf.2.1
        have hwI : Cond.initialized (pm_mn y).cls ∈ lw_good := by rw [hyf.1]; exact pm_has_mem hoo.1
        have hne : (pm_mn y).cls ≠ "java/lang/invoke/MethodHandle" ∧ (pm_mn y).cls ≠ "java/lang/invoke/VarHandle" := by rw [hyf.1]; exact ⟨hoo.2.1, hoo.2.2⟩
        have hG : GoodIn lw_good (Cond.code (pm_mn y) (pm_by y) (pm_mx y) (pm_rt y) :: lw_good) := pm_good (pm_m1 y hy) rfl
        have hrm : d + 8 + 1 ≤ R.frames ∧ 8 + (pm_mx y + 11) + 60 * (d + 8) ≤ R.locals := by
          have := hyf.2.2.1
          omega
        obtain ⟨hin1, hrt1⟩ := hyf.2.2.2.2 hfi2
        refine pm_cont (z := (r, E1, M1)) (mc := E1.1 - E.1) (ms := E1.2.1 - E.2.1) (rest := rest.map (pm_rv g)) (a := (Value.ref (pm_ad g a) :: As.map (pm_rv g) : List Value).toArray) ?_ hS (fun H1 locs1 hH1 hS1 => ?_)
        rotate_left
        · have hw := ih _ _ _ _ _ h _ _ _ hL hH1 hS1 (by omega)
          rw [show E1.1 - E0.1 = E.1 - E0.1 + (E1.1 - E.1) by omega, show E1.2.1 - E0.2.1 = E.2.1 - E0.2.1 + (E1.2.1 - E.2.1) by omega] at hw
          have e5 : List.map (pm_rv g) (r.toList ++ rest) = (r.map (pm_rv g)).toList ++ rest.map (pm_rv g) := by cases r <;> simp
          rw [e5] at hw
          exact hw
        rcases hlk with hlk | hlk
        · exact va_runI (As := As.map (pm_rv g)) (rest := rest.map (pm_rv g)) ⟨hx, hb, hml, hown, hts⟩ hmt ⟨callB_of (pm_np y) hts hG (by rw [hrt1]) rfl rfl (hts _ hwI) (hts _ (pm_has_mem hlk)) ⟨hne.1, hne.2, hyf.2.2.2.1⟩ hrm, hin1, hts _ (pm_has_mem hin)⟩ ⟨pm_blind, (fun U hU hW => ⟨by simp [pm_rv], pm_X_step hX hW (by rw [hU]; exact hS.1) (fun q z1 z2 => by rw [hU]; exact hS.2.1 q z1 z2), by rw [hU]; exact hH, by rw [hU]; exact hsz⟩)⟩ rfl (by simp [hl]) hL.2.choose_spec.1.1 (by simp [pm_rv]) (lv_room hrest) hd ⟨by omega, by omega⟩
        · exact va_runIN (As := As.map (pm_rv g)) (rest := rest.map (pm_rv g)) ⟨hx, hb, hml, hown, hts⟩ hmt ⟨va_cnB (pm_np y) hts hG (by rw [hrt1]) rfl rfl (hX.2.1 _ hlk) (hts _ hwI) ⟨hne.1, hne.2, hyf.2.2.2.1⟩ hrm, hin1, hts _ (pm_has_mem hin)⟩ ⟨pm_blind, (fun U hU hW => ⟨by simp [pm_rv], pm_X_step hX hW (by rw [hU]; exact hS.1) (fun q z1 z2 => by rw [hU]; exact hS.2.1 q z1 z2), by rw [hU]; exact hH, by rw [hU]; exact hsz⟩)⟩ rfl (by simp [hl]) hL.2.choose_spec.1.1 (by simp [pm_rv]) (lv_room hrest) hd ⟨by omega, by omega⟩
      · have hal : o < 17 ∧ (ix, true) ∈ pm_oiqL.getD o [] := by
          unfold pm_oi pm_oiq at ht
          cases hq : (pm_oiqL.getD o []).lookup ix with
          | none => rw [hq] at ht; cases ht
          | some v => rw [hq] at ht; cases ht; exact pm_lk hq
        have hrest : (List.map (fun v => v.category) (rest.map (pm_rv g))).sum ≤ 8 := by
          rw [List.map_map]
          rw [show ((fun v => v.category) ∘ pm_rv g) = (fun v : Value => v.category) from funext (fun v => pm_rv_cat v)]
          exact hcat
        exact W.objInit hx hb hown (hts _ (pm_has_mem (pm_s7 o hal.1 _ hal.2))) (hts _ (pm_has_mem pm_s8.1)) (hts _ (pm_has_mem pm_s8.2.1)) rfl (by rw [hml]; exact hL.2.choose_spec.1.1) rfl hd (by omega) (by show 2 * 0 + _ + 12 ≤ _; omega) (ih _ _ _ _ _ h _ _ _ hL hH hS hm)
    | ireturn =>
      obtain ⟨rfl, v, rfl, hr, rfl⟩ := h
      exact hretI pc lsA H locs v hd hr rfl hH hS
    | lreturn =>
      obtain ⟨rfl, v, rfl, hr, rfl⟩ := h
      exact hretL pc lsA H locs v hd hr rfl hH hS
    | return_ =>
      obtain ⟨rfl, rfl, hr, rfl⟩ := h
      exact hretV pc lsA H locs hd hr rfl hH hS
    | _ => exact h.elim
