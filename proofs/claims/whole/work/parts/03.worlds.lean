/-! what the real heap is to the pure one -/
/-- tables, the first cell's address, addresses of what lies outside, numbers of the arrays' kinds, the script's length and ints, the texts' rows -/
abbrev pm_G : Type := va_G × Nat × (Nat → Nat) × (Nat → ClassId) × Nat × (Nat → Int32) × (Nat → Nat)
def pm_ad (g : pm_G) (k : Nat) : Nat := if k < 4000 then g.2.1 + k else g.2.2.1 k
def pm_rv (g : pm_G) (v : Value) : Value := match v with
  | .ref k => .ref (pm_ad g k)
  | .int x => .int x
  | .long x => .long x
  | .float x => .float x
  | .double x => .double x
  | .null => .null
  | .retAddr x => .retAddr x
def pm_en (g : pm_G) (E : pm_E) (M : pm_M) (k : Nat) : va_E := match (E.2.2.1 k).1 with
  | 0 => .inl (g.2.2.2.1 0, pm_al E k, .inl (M.1 k))
  | 1 => .inl (g.2.2.2.1 1, pm_al E k, .inr (.inl (M.2 k)))
  | 2 => .inl (g.2.2.2.1 2, pm_al E k, .inl (M.1 k))
  | 3 => .inl (g.2.2.2.1 3, pm_al E k, .inr (.inr (.inr (.inr (fun i => (E.2.2.2 k i).map (pm_ad g))))))
  | 4 => .inl (g.2.2.2.1 4, pm_al E k, .inr (.inr (.inr (.inr (fun i => (E.2.2.2 k i).map (pm_ad g))))))
  | 5 => .inl (g.2.2.2.1 5, pm_al E k, .inr (.inr (.inr (.inr (fun i => (E.2.2.2 k i).map (pm_ad g))))))
  | q => .inr (q - 10, (List.range (pm_nf (q - 10))).map (fun j => pm_rv g (pm_fv E M k j (pm_fk (q - 10) j))))
def pm_wd (g : pm_G) (E : pm_E) (M : pm_M) : va_W := (List.range E.1).map (fun k => (g.2.1 + k, pm_en g E M k))
theorem pm_wd_at {g : pm_G} {E : pm_E} {M : pm_M} {k : Nat} (h : k < E.1) : (pm_wd g E M)[k]? = some (g.2.1 + k, pm_en g E M k) := by
  simp [pm_wd, h]
theorem pm_wd_D {g : pm_G} {E : pm_E} {M : pm_M} : va_D (fun q => g.2.1 ≤ q) (pm_wd g E M) := by
  refine ⟨fun i j p q hi hj hpq => ?_, fun k q hk => ?_⟩
  · simp only [pm_wd, List.getElem?_map, List.getElem?_range, Option.map_eq_some_iff] at hi hj
    obtain ⟨a, ha, rfl⟩ := hi
    obtain ⟨b, hb, rfl⟩ := hj
    have ha2 := List.getElem?_eq_some_iff.mp ha
    have hb2 := List.getElem?_eq_some_iff.mp hb
    simp only [List.getElem_range] at ha2 hb2
    obtain ⟨-, rfl⟩ := ha2
    obtain ⟨-, rfl⟩ := hb2
    dsimp only at hpq
    omega
  · simp only [pm_wd, List.getElem?_map, Option.map_eq_some_iff] at hk
    obtain ⟨a, -, rfl⟩ := hk
    exact Nat.le_add_right _ _
theorem pm_en_i {g : pm_G} {E : pm_E} {M : pm_M} {k : Nat} (h : (E.2.2.1 k).1 = 0) : pm_en g E M k = .inl (g.2.2.2.1 0, pm_al E k, .inl (M.1 k)) := by unfold pm_en; rw [h]; rfl
theorem pm_en_l {g : pm_G} {E : pm_E} {M : pm_M} {k : Nat} (h : (E.2.2.1 k).1 = 1) : pm_en g E M k = .inl (g.2.2.2.1 1, pm_al E k, .inr (.inl (M.2 k))) := by unfold pm_en; rw [h]; rfl
theorem pm_en_z {g : pm_G} {E : pm_E} {M : pm_M} {k : Nat} (h : (E.2.2.1 k).1 = 2) : pm_en g E M k = .inl (g.2.2.2.1 2, pm_al E k, .inl (M.1 k)) := by unfold pm_en; rw [h]; rfl
theorem pm_en_r {g : pm_G} {E : pm_E} {M : pm_M} {k : Nat} (h1 : 3 ≤ (E.2.2.1 k).1) (h2 : (E.2.2.1 k).1 < 6) : pm_en g E M k = .inl (g.2.2.2.1 (E.2.2.1 k).1, pm_al E k, .inr (.inr (.inr (.inr (fun i => (E.2.2.2 k i).map (pm_ad g)))))) := by
  unfold pm_en
  rcases (show (E.2.2.1 k).1 = 3 ∨ (E.2.2.1 k).1 = 4 ∨ (E.2.2.1 k).1 = 5 by omega) with h | h | h <;> rw [h] <;> rfl
def pm_fs (g : pm_G) (E : pm_E) (M : pm_M) (k c : Nat) : List Value := (List.range (pm_nf c)).map (fun j => pm_rv g (pm_fv E M k j (pm_fk c j)))
theorem pm_en_o {g : pm_G} {E : pm_E} {M : pm_M} {k c : Nat} (h : (E.2.2.1 k).1 = 10 + c) : pm_en g E M k = .inr (c, pm_fs g E M k c) := by
  unfold pm_en
  rw [h, Nat.add_comm 10 c]
  rfl
theorem pm_en_congr {g : pm_G} {E E' : pm_E} {M M' : pm_M} {k : Nat} (h1 : E'.2.2.1 k = E.2.2.1 k) (h2 : E'.2.2.2 k = E.2.2.2 k) (h3 : M'.1 k = M.1 k) (h4 : M'.2 k = M.2 k) : pm_en g E' M' k = pm_en g E M k := by
  unfold pm_en pm_al pm_fv
  rw [h1, h2, h3, h4]
theorem pm_wd_set {g : pm_G} {E E' : pm_E} {M M' : pm_M} {a : Nat} {e : va_E} (hn : E'.1 = E.1) (h1 : ∀ k, k ≠ a → pm_en g E' M' k = pm_en g E M k) (h2 : pm_en g E' M' a = e) : pm_wd g E' M' = (pm_wd g E M).set a (g.2.1 + a, e) := by
  apply List.ext_getElem?
  intro i
  rw [List.getElem?_set]
  simp only [pm_wd, hn, List.length_map, List.length_range, List.getElem?_map]
  by_cases hi : i < E.1
  · rw [List.getElem?_range hi]
    by_cases hia : a = i
    · subst hia
      simp [hi, h2]
    · simp [hia, h1 i (fun z => hia z.symm)]
  · have hnone : (List.range E.1)[i]? = none := by simp; omega
    rw [hnone]
    by_cases hia : a = i
    · subst hia
      simp [hi]
    · simp [hia]
theorem pm_wd_push {g : pm_G} {E : pm_E} {M : pm_M} {q n len : Nat} {e : va_E} (h2 : pm_en g (pm_ne E q n len) (pm_nm E M) E.1 = e) : pm_wd g (pm_ne E q n len) (pm_nm E M) = pm_wd g E M ++ [(g.2.1 + E.1, e)] := by
  have hn : (pm_ne E q n len).1 = E.1 + 1 := rfl
  simp only [pm_wd, hn, List.range_succ, List.map_append, List.map_cons, List.map_nil, h2]
  congr 1
  apply List.map_congr_left
  intro k hk
  have hk := List.mem_range.mp hk
  have hne : k ≠ E.1 := by omega
  rw [pm_en_congr (E := E) (M := M)]
  · simp [pm_ne, pm_row, hne]
  · simp [pm_ne, pm_row, hne]
  · simp [pm_nm, pm_row, hne]
  · simp [pm_nm, pm_row, hne]
/-- the kinds of arrays, by number -/
def pm_tys (g : pm_G) : List (ClassId × FieldType) := [(g.2.2.2.1 0, .int), (g.2.2.2.1 1, .long), (g.2.2.2.1 2, .boolean), (g.2.2.2.1 3, .object (pm_ow 7)), (g.2.2.2.1 4, .object (pm_ow 9)), (g.2.2.2.1 5, .object (pm_ow 3))]
/-- which cells are ours -/
def pm_A (g : pm_G) : Nat → Prop := fun q => g.2.1 ≤ q
def pm_sow (j : Nat) : String × Nat × String := match j with
  | 0 => ("GampLine$Reader", 97, "line thing person claims opens wet at hue weight mark bears holds who borne if then else end not and or")
  | 1 => ("GampLineModel", 107, " line thing at hue weight person mark bears holds claims opens wet if then else end who borne and or not ")
  | _ => ("GampLineModel", 145, ";:+-*()[]=<>")
def pm_sby : List (List Int32) := pm_st.map (fun l => l.map (fun n => Int32.ofNat n))
/-- what stays as it is in all states of the run -/
def pm_X (g : pm_G) (U : State) : Prop := va_K g.1 pm_cl (pm_tys g) U ∧ (∀ w ∈ pm_nest, va_Nw w U) ∧ (va_AO (pm_ow 7) U ∧ va_AO (pm_ow 9) U ∧ va_AO (pm_ow 3) U) ∧ (∀ j, j < 3 → vk_R (pm_sow j).1 (pm_sow j).2.1 (pm_sow j).2.2 (g.2.2.1 (4001 + j)) U) ∧ vk_S 3 (pm_st.map List.length) pm_sby (fun j => g.2.2.1 (4001 + j)) g.2.2.2.2.2.2 (pm_A g) U U.heap ∧ va_Z "java/lang/String" "COMPACT_STRINGS" "Z" (.int 1) (pm_A g) U U.heap ∧ va_Zq "jdk/internal/util/Preconditions" "SIOOBE_FORMATTER" "Ljava/util/function/BiFunction;" (pm_A g) U U.heap ∧ va_X (g.2.2.1 4000) g.2.2.2.2.1 g.2.2.2.2.2.1 U U.heap ∧ g.2.2.1 4000 < U.heap.size ∧ g.2.2.1 4000 < g.2.1 ∧ g.2.1 ≤ U.heap.size
def pm_H (g : pm_G) (E : pm_E) (M : pm_M) (H : Heap) : Prop := va_P g.1 pm_cl (pm_wd g E M) H ∧ E.1 ≤ 4000 ∧ E.2.2.1 4000 = (0, g.2.2.2.2.1) ∧ M.1 4000 = g.2.2.2.2.2.1
theorem pm_nest_warm {w : Cond} (hw : w ∈ pm_nest) {s U : State} (hW : s.WarmedH U.vm) (h : va_Nw w s) : va_Nw w U := by
  simp only [pm_nest, List.mem_cons, List.not_mem_nil, or_false] at hw
  rcases hw with rfl | rfl | rfl | rfl | rfl | rfl | rfl | rfl | rfl | rfl | rfl | rfl <;> exact va_Nw.warmM hW h
theorem pm_nest_same {w : Cond} (hw : w ∈ pm_nest) {s U : State} (hv : s.vm = U.vm) (h : va_Nw w s) : va_Nw w U := by
  simp only [pm_nest, List.mem_cons, List.not_mem_nil, or_false] at hw
  rcases hw with rfl | rfl | rfl | rfl | rfl | rfl | rfl | rfl | rfl | rfl | rfl | rfl <;> exact va_Nw.same rfl hv h
theorem pm_X_step {g : pm_G} {s t : State} (h : pm_X g s) (hW : s.WarmedH t.vm) (hz : s.heap.size ≤ t.heap.size) (hk : ∀ q : Nat, q < s.heap.size → ¬ pm_A g q → t.heap[q]? = s.heap[q]?) : pm_X g t := by
  obtain ⟨h1, h2, ⟨h3, h4, h5⟩, h6, h7, h8, h9, h10, h11, h12, h13⟩ := h
  have hv := hW.alike
  refine ⟨h1.moved hv, fun w hw => pm_nest_warm hw hW (h2 w hw), ⟨h3.moved hv, h4.moved hv, h5.moved hv⟩, fun j hj => (h6 j hj).warm hW, (h7.moved hv).kept hk, (h8.moved hv).kept hk, (h9.moved hv).kept hk, (h10.moved hv).kept (hk _ h11 (fun q => absurd q (Nat.not_le.mpr h12))), Nat.lt_of_lt_of_le h11 hz, h12, Nat.le_trans h13 hz⟩
theorem pm_X_same {g : pm_G} {s t : State} (h : pm_X g s) (hv : s.vm = t.vm) (hh : t.heap = s.heap) : pm_X g t := by
  obtain ⟨h1, h2, ⟨h3, h4, h5⟩, h6, h7, h8, h9, h10, h11, h12, h13⟩ := h
  have ha : s.vm.Alike t.vm := by rw [hv]; exact Vm.Alike.refl _
  unfold pm_X
  rw [hh]
  exact ⟨h1.moved ha, fun w hw => pm_nest_same hw hv (h2 w hw), ⟨h3.moved ha, h4.moved ha, h5.moved ha⟩, fun j hj => (h6 j hj).same hv.symm, h7.moved ha, h8.moved ha, h9.moved ha, h10.moved ha, h11, h12, h13⟩
/-- a method's start and end, by the pure machine's -/
def pm_Pc (g : pm_G) (as : List Value) (E : pm_E) (M : pm_M) : Array Value → State → Prop := fun v U => v = (as.map (pm_rv g)).toArray ∧ pm_X g U ∧ pm_H g E M U.heap ∧ U.heap.size = g.2.1 + E.1
def pm_Qc (g : pm_G) (z : pm_Z) : Array Value → State → Outcome → State → Prop := fun _ st oc t => oc = .returned (z.1.map (pm_rv g)) ∧ pm_H g z.2.1 z.2.2 t.heap ∧ va_F (pm_A g) st t
theorem pm_blind {g : pm_G} {as : List Value} {E : pm_E} {M : pm_M} : FrameBlind (pm_Pc g as E M) := by
  intro a U g0 mk h
  obtain ⟨h1, h2, h3⟩ := h
  exact ⟨h1, pm_X_same (t := U.calling g0 mk a) h2 rfl rfl, h3⟩
/-- the frame's places -/
def pm_L (g : pm_G) (nL : Nat) (lsA : Array Slot) (ls : List Value) : Prop := ls.length = nL ∧ ∃ l : List (Nat × Value), lv_has lsA nL l ∧ ∀ (i : Nat) (v : Value), ls[i]? = some v → v ≠ .null → (i, pm_rv g v) ∈ l
theorem pm_L_at {g : pm_G} {nL : Nat} {lsA : Array Slot} {ls : List Value} (h : pm_L g nL lsA ls) {i : Nat} {v : Value} (hv : ls[i]? = some v) (hn : v ≠ .null) : lsA[i]? = some (.val (pm_rv g v)) := by
  obtain ⟨-, l, h1, h2⟩ := h
  exact h1.2.2 _ (h2 i v hv hn)
theorem pm_rv_cat {g : pm_G} (v : Value) : (pm_rv g v).category = v.category := by cases v <;> rfl
theorem pm_set_self {l : List Value} {i : Nat} {v u : Value} (h : (l.set i v)[i]? = some u) : u = v := by
  rw [List.getElem?_set] at h
  simp only [if_true] at h
  split at h
  · exact (Option.some.inj h).symm
  · cases h
theorem pm_sto1 {ls : List Value} {i j : Nat} {v u : Value} (hc : v.category = 1) (h : (pm_sto ls i v)[j]? = some u) (hu : u ≠ .null) : (j = i ∧ u = v) ∨ (j ≠ i ∧ ls[j]? = some u ∧ ¬ (j + 1 = i ∧ u.category = 2)) := by
  have hlg : pm_lg v = false := by simp [pm_lg, hc]
  unfold pm_sto at h
  simp only [hlg] at h
  by_cases hji : j = i
  · subst hji
    simp only [Bool.false_eq_true, if_false] at h
    exact Or.inl ⟨rfl, pm_set_self h⟩
  · refine Or.inr ⟨hji, ?_⟩
    simp only [Bool.false_eq_true, if_false] at h
    rw [List.getElem?_set_ne (fun z => hji z.symm)] at h
    cases i with
    | zero => exact ⟨h, fun z => by omega⟩
    | succ k =>
      dsimp only at h
      by_cases hk : pm_lg (ls.getD k .null) = true
      · rw [if_pos hk] at h
        by_cases hjk : j = k
        · subst hjk
          exact absurd (pm_set_self h) hu
        · rw [List.getElem?_set_ne (fun z => hjk z.symm)] at h
          exact ⟨h, fun z => hjk (by omega)⟩
      · rw [if_neg hk] at h
        refine ⟨h, fun z => hk ?_⟩
        obtain ⟨z1, z2⟩ := z
        have : j = k := by omega
        subst this
        rw [List.getD_eq_getElem?_getD, h]
        simp [pm_lg, z2]
theorem pm_sto2 {ls : List Value} {i j : Nat} {v u : Value} (hc : v.category = 2) (h : (pm_sto ls i v)[j]? = some u) (hu : u ≠ .null) : (j = i ∧ u = v) ∨ (j ≠ i ∧ j ≠ i + 1 ∧ ls[j]? = some u ∧ ¬ (j + 1 = i ∧ u.category = 2)) := by
  have hlg : pm_lg v = true := by simp [pm_lg, hc]
  unfold pm_sto at h
  simp only [hlg, if_true] at h
  by_cases hj1 : j = i + 1
  · subst hj1
    exact absurd (pm_set_self h) hu
  rw [List.getElem?_set_ne (fun z => hj1 z.symm)] at h
  by_cases hji : j = i
  · subst hji
    exact Or.inl ⟨rfl, pm_set_self h⟩
  · refine Or.inr ⟨hji, hj1, ?_⟩
    rw [List.getElem?_set_ne (fun z => hji z.symm)] at h
    cases i with
    | zero => exact ⟨h, fun z => by omega⟩
    | succ k =>
      dsimp only at h
      by_cases hk : pm_lg (ls.getD k .null) = true
      · rw [if_pos hk] at h
        by_cases hjk : j = k
        · subst hjk
          exact absurd (pm_set_self h) hu
        · rw [List.getElem?_set_ne (fun z => hjk z.symm)] at h
          exact ⟨h, fun z => hjk (by omega)⟩
      · rw [if_neg hk] at h
        refine ⟨h, fun z => hk ?_⟩
        obtain ⟨z1, z2⟩ := z
        have : j = k := by omega
        subst this
        rw [List.getD_eq_getElem?_getD, h]
        simp [pm_lg, z2]
theorem pm_sto_len (ls : List Value) (i : Nat) (v : Value) : (pm_sto ls i v).length = ls.length := by
  unfold pm_sto
  cases i with
  | zero => dsimp only; split <;> simp
  | succ k => dsimp only; split <;> split <;> simp
theorem pm_L_sto1 {g : pm_G} {nL : Nat} {lsA : Array Slot} {ls : List Value} (h : pm_L g nL lsA ls) {l : List (Nat × Value)} (hl : ∀ (i : Nat) (v : Value), ls[i]? = some v → v ≠ .null → (i, pm_rv g v) ∈ l) {i : Nat} {v : Value} (hc : v.category = 1) {lsB : Array Slot} (hB : lv_has lsB nL ((i, pm_rv g v) :: l.filter (fun q => !(q.1 == i) && !(q.1 + 1 == i && q.2.category == 2)))) : pm_L g nL lsB (pm_sto ls i v) := by
  refine ⟨by rw [pm_sto_len]; exact h.1, _, hB, fun j u hj hu => ?_⟩
  rcases pm_sto1 hc hj hu with ⟨rfl, rfl⟩ | ⟨h1, h2, h3⟩
  · exact List.mem_cons_self
  · refine List.mem_cons_of_mem _ (List.mem_filter.mpr ⟨hl j u h2 hu, ?_⟩)
    simp only [pm_rv_cat, Bool.and_eq_true, Bool.not_eq_true', beq_eq_false_iff_ne, Bool.and_eq_false_iff]
    refine ⟨h1, ?_⟩
    by_cases z : j + 1 = i
    · exact Or.inr (by simp; exact fun q => h3 ⟨z, q⟩)
    · exact Or.inl z
theorem pm_L_sto2 {g : pm_G} {nL : Nat} {lsA : Array Slot} {ls : List Value} (h : pm_L g nL lsA ls) {l : List (Nat × Value)} (hl : ∀ (i : Nat) (v : Value), ls[i]? = some v → v ≠ .null → (i, pm_rv g v) ∈ l) {i : Nat} {v : Value} (hc : v.category = 2) {lsB : Array Slot} (hB : lv_has lsB nL ((i, pm_rv g v) :: l.filter (fun q => !(q.1 == i) && (!(q.1 == i + 1) && !(q.1 + 1 == i && q.2.category == 2))))) : pm_L g nL lsB (pm_sto ls i v) := by
  refine ⟨by rw [pm_sto_len]; exact h.1, _, hB, fun j u hj hu => ?_⟩
  rcases pm_sto2 hc hj hu with ⟨rfl, rfl⟩ | ⟨h1, h2, h3, h4⟩
  · exact List.mem_cons_self
  · refine List.mem_cons_of_mem _ (List.mem_filter.mpr ⟨hl j u h3 hu, ?_⟩)
    simp only [pm_rv_cat, Bool.and_eq_true, Bool.not_eq_true', beq_eq_false_iff_ne, Bool.and_eq_false_iff]
    refine ⟨h1, h2, ?_⟩
    by_cases z : j + 1 = i
    · exact Or.inr (by simp; exact fun q => h4 ⟨z, q⟩)
    · exact Or.inl z
theorem pm_ent_has {g : pm_G} (as : List Value) : ∀ (k : Nat) (i : Nat) (v : Value), (as.flatMap (fun v => if pm_lg v then [v, Value.null] else [v]))[i]? = some v → v ≠ .null → (k + i, pm_rv g v) ∈ lv_args k (as.map (pm_rv g)) := by
  induction as with
  | nil => intro k i v h; simp at h
  | cons a as ih =>
    intro k i v h hn
    simp only [List.flatMap_cons] at h
    simp only [List.map_cons, lv_args, pm_rv_cat]
    by_cases ha : pm_lg a = true
    · have ha2 : a.category = 2 := by simpa [pm_lg] using ha
      rw [if_pos ha] at h
      match i, h with
      | 0, h => simp at h; subst h; exact List.mem_cons_self
      | 1, h => simp at h; exact absurd h.symm hn
      | i + 2, h =>
        refine List.mem_cons_of_mem _ ?_
        rw [if_pos ha2]
        have := ih (k + 2) i v (by simpa using h) hn
        rwa [show k + 2 + i = k + (i + 2) by omega] at this
    · have ha2 : ¬ a.category = 2 := by simpa [pm_lg] using ha
      rw [if_neg ha] at h
      match i, h with
      | 0, h => simp at h; subst h; exact List.mem_cons_self
      | i + 1, h =>
        refine List.mem_cons_of_mem _ ?_
        rw [if_neg ha2]
        have := ih (k + 1) i v (by simpa using h) hn
        rwa [show k + 1 + i = k + (i + 1) by omega] at this
theorem pm_ent_len {g : pm_G} (as : List Value) : (lg_sl (as.map (pm_rv g))).length = (as.flatMap (fun v => if pm_lg v then [v, Value.null] else [v])).length := by
  induction as with
  | nil => rfl
  | cons a as ih =>
    simp only [lg_sl, List.map_cons, List.flatMap_cons, List.length_append, pm_rv_cat] at ih ⊢
    rw [ih]
    by_cases ha : a.category = 2 <;> simp [pm_lg, ha]
theorem pm_ent_L {g : pm_G} {as : List Value} {n : Nat} (h : (as.flatMap (fun v => if pm_lg v then [v, Value.null] else [v])).length ≤ n) : pm_L g n ((lg_sl (as.map (pm_rv g)) ++ List.replicate (n - (lg_sl (as.map (pm_rv g))).length) Slot.unset).toArray) (pm_ent as n) := by
  refine ⟨?_, lv_args 0 (as.map (pm_rv g)), lv_entry _ (by rw [pm_ent_len]; exact h), fun i v hi hn => ?_⟩
  · simp only [pm_ent, List.length_append, List.length_replicate]
    omega
  · simp only [pm_ent] at hi
    rw [List.getElem?_append] at hi
    split at hi
    · have := pm_ent_has (g := g) as 0 i v hi hn
      rwa [Nat.zero_add] at this
    · rw [List.getElem?_replicate] at hi
      split at hi
      · exact absurd (Option.some.inj hi).symm hn
      · cases hi
