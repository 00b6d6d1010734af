/-! the law's start: which world the pure machine stands for -/
def lw_tm (j : Nat) : Term := match j with
  | 0 => .string "GampLine$Reader" 97
  | 1 => .string "GampLineModel" 107
  | _ => .string "GampLineModel" 145
def lw_fl : List Cond := flatC (Jvm.Cond.and given_1 narrow_1)
def lw_ix (j : Nat) : Nat := match j with
  | 0 => 48
  | 1 => 155
  | _ => 265
theorem lw_f0 : ∀ i, i < 3 → (pm_st.map List.length).getD i 0 < 2 ^ 31 := by decide +kernel
theorem lw_f1 : ∀ i, i < 3 → lw_fl[lw_ix i]? = some (Cond.exactly (lw_tm i) "java/lang/String") := by decide +kernel
theorem lw_f2 : ∀ i, i < 3 → lw_fl[lw_ix i + 1]? = some (Cond.eq (.field (lw_tm i) "java/lang/String" "coder" "B") (.int 0)) := by decide +kernel
theorem lw_f3 : ∀ i, i < 3 → lw_fl[lw_ix i + 2]? = some (Cond.arrayOf (.field (lw_tm i) "java/lang/String" "value" "[B") .byte) := by decide +kernel
theorem lw_f4 : ∀ i, i < 3 → lw_fl[lw_ix i + 3]? = some (Cond.eq (.length (.field (lw_tm i) "java/lang/String" "value" "[B")) (.int (Int32.ofNat ((pm_st.map List.length).getD i 0)))) := by decide +kernel
theorem lw_f5 : ∀ i, i < 3 → ∀ j, j < (pm_st.map List.length).getD i 0 → lw_fl[lw_ix i + 4 + j]? = some (Cond.eq (.elem (.field (lw_tm i) "java/lang/String" "value" "[B") (.int (Int32.ofNat j))) (.int ((pm_sby.getD i []).getD j 0))) := by decide +kernel
theorem lw_f6 : lw_fl[264]? = some (Cond.not (Cond.eq (lw_tm 0) (lw_tm 1))) ∧ lw_fl[281]? = some (Cond.not (Cond.eq (lw_tm 0) (lw_tm 2))) ∧ lw_fl[282]? = some (Cond.not (Cond.eq (lw_tm 1) (lw_tm 2))) := by decide +kernel
theorem lw_f7 : lw_fl[4]? = some (Cond.eq (.static "java/lang/String" "COMPACT_STRINGS" "Z") (.int 1)) ∧ lw_fl[5]? = some (Cond.isRef (.static "jdk/internal/util/Preconditions" "SIOOBE_FORMATTER" "Ljava/util/function/BiFunction;")) := by decide +kernel
theorem lw_at {j i : Nat} {w : Cond} (h : (pm_tb j)[i]? = some w) : w ∈ lw_tbl := pm_tb_in (List.mem_of_getElem? h)
theorem lw_w1 : (pm_tb 3)[17]? = some (.laysStatic "java/lang/String" "COMPACT_STRINGS" "Z") ∧ (pm_tb 3)[33]? = some (.laysStatic "jdk/internal/util/Preconditions" "SIOOBE_FORMATTER" "Ljava/util/function/BiFunction;") ∧ (pm_tb 1)[15]? = some (.initialized "java/lang/String") ∧ (pm_tb 1)[17]? = some (.initialized "jdk/internal/util/Preconditions") := by decide +kernel
theorem lw_w2 : (pm_tb 1)[237]? = some (.arrayOver (.object (pm_ow 7))) ∧ (pm_tb 1)[239]? = some (.arrayOver (.object (pm_ow 9))) ∧ (pm_tb 2)[0]? = some (.arrayOver (.object (pm_ow 3))) := by decide +kernel
theorem lw_w3 : (pm_tb 3)[7]? = some (.stringRef (pm_sow 0).1 (pm_sow 0).2.1 (pm_sow 0).2.2) ∧ (pm_tb 7)[3]? = some (.stringRef (pm_sow 1).1 (pm_sow 1).2.1 (pm_sow 1).2.2) ∧ (pm_tb 7)[9]? = some (.stringRef (pm_sow 2).1 (pm_sow 2).2.1 (pm_sow 2).2.2) := by decide +kernel
def lw_nx : List Nat := [1032, 1196, 1199, 2003, 2013, 2057, 2068, 2086, 2120, 2137, 1044, 1038]
theorem lw_w4 : ∀ k, k < 12 → (pm_tb (lw_nx.getD k 0 / 1000))[lw_nx.getD k 0 % 1000]? = pm_nest[k]? ∧ (pm_nest[k]?.map Cond.onTables) = some true := by decide +kernel
theorem lw_nest {w : Cond} (h : w ∈ pm_nest) : w ∈ lw_tbl ∧ w.onTables = true := by
  obtain ⟨k, hk⟩ := List.mem_iff_getElem?.mp h
  have hl : k < 12 := (List.getElem?_eq_some_iff.mp hk).1
  obtain ⟨h1, h2⟩ := lw_w4 k hl
  rw [hk] at h1 h2
  exact ⟨lw_at h1, by simpa using h2⟩
theorem lw_arr {s : State} {A : Array Value} {ty : FieldType} (h : (Cond.arrayClass ty).before A s = true) (hr : ∀ cA, s.vm.findClass ("[" ++ ty.toString) = some cA → va_RA s cA ty) (hn : ∀ (n : Nat) (z : Nat → Value) (cA : ClassId) (k : Class) (comp : ClassId), s.vm.classes[cA]? = some k → k.kind = .array comp ty → s.isArrayOf (arrV cA n z) ty) : ∃ cA, ArrOfT s cA ty ∧ va_RA s cA ty := by
  obtain ⟨cA, k, comp, h1, h2, h3⟩ := Cond.arrayClass_spec h
  exact ⟨cA, fun n z => hn n z cA k comp h2 h3, hr cA h1⟩
theorem lw_arq {s : State} {C : String} (h : va_AO C s) : ∃ cA, ArrOfT s cA (.object C) ∧ va_RA s cA (.object C) := by
  obtain ⟨comp, cA, kA, h1, h2, h3, h4, h5⟩ := Cond.arrayOver_spec h
  exact ⟨cA, fun n z => ⟨(fun k h => by cases h), kA, h3, comp, h4⟩, kA, comp, h3, h4, h1, h5⟩
def lw_ty (k : Nat) : FieldType := match k with
  | 0 => .int
  | 1 => .long
  | 2 => .boolean
  | 3 => .object (pm_ow 7)
  | 4 => .object (pm_ow 9)
  | _ => .object (pm_ow 3)
theorem lw_world {s : State} {b L : Nat} {xs : Nat → Int32} (hts : ∀ w ∈ lw_tbl, w.before #[Value.ref b] s = true) (hX : va_X b L xs s s.heap) (hbl : b < s.heap.size) (hgv : (Jvm.Cond.and given_1 narrow_1).before #[Value.ref b] s = true) :
    ∃ g : pm_G, pm_X g s ∧ g.2.1 = s.heap.size ∧ g.2.2.1 4000 = b ∧ g.2.2.2.2.1 = L ∧ g.2.2.2.2.2.1 = xs := by
  have hfl : ∀ (i : Nat) (w : Cond), lw_fl[i]? = some w → w.before #[Value.ref b] s = true := fun i w h => flat_of_before _ hgv w (List.mem_of_getElem? h)
  have hA : ∀ a : Nat, a < s.heap.size → ¬ (fun q : Nat => s.heap.size ≤ q) a := fun a h q => absurd q (Nat.not_le.mpr h)
  obtain ⟨a1, a2, a3⟩ := lw_w2
  have o7 : va_AO (pm_ow 7) s := va_AO.of (hts _ (lw_at a1))
  have o9 : va_AO (pm_ow 9) s := va_AO.of (hts _ (lw_at a2))
  have o3 : va_AO (pm_ow 3) s := va_AO.of (hts _ (lw_at a3))
  have hk0 : ∀ c : Nat, ∃ q : ClassId × (Nat → Nat), c < 13 → u_Kn s (pm_ow c) (pm_cT c) (pm_nf c) q.1 q.2 := by
    intro c
    by_cases hc : c < 13
    · obtain ⟨cC, iS, h⟩ := u_known (ws := lw_good) (fun w hw => hts w (List.mem_filter.mp hw).1) (pm_u_ws hc) (hts _ (List.mem_filter.mp (pm_has_mem (pm_k4 c hc).1)).1)
      exact ⟨(cC, iS), fun _ => h⟩
    · exact ⟨(0, fun _ => 0), fun h => absurd h hc⟩
  obtain ⟨D, hD⟩ := Classical.axiomOfChoice hk0
  have hc0 : ∀ k : Nat, ∃ cA : ClassId, ArrOfT s cA (lw_ty k) ∧ va_RA s cA (lw_ty k) := by
    intro k
    obtain ⟨w1, w2, w3⟩ := pm_s12
    match k with
    | 0 => exact lw_arr (hts _ (List.mem_filter.mp (pm_has_mem w1)).1) (fun _ h => h) (fun n z cA k comp h2 h3 => ⟨(fun k h => by cases h), k, h2, comp, h3⟩)
    | 1 => exact lw_arr (hts _ (List.mem_filter.mp (pm_has_mem w2)).1) (fun _ h => h) (fun n z cA k comp h2 h3 => ⟨(fun k h => by cases h), k, h2, comp, h3⟩)
    | 2 => exact lw_arr (hts _ (List.mem_filter.mp (pm_has_mem w3)).1) (fun _ h => h) (fun n z cA k comp h2 h3 => ⟨(fun k h => by cases h), k, h2, comp, h3⟩)
    | 3 => exact lw_arq o7
    | 4 => exact lw_arq o9
    | k + 5 => exact lw_arq o3
  obtain ⟨ck, hck⟩ := Classical.axiomOfChoice hc0
  obtain ⟨n1, n2, n3⟩ := lw_f6
  obtain ⟨adK, adV, hVS, hev⟩ := vk_Sof (args := #[Value.ref b]) (s := s) (N := 3) (tm := lw_tm) (len := pm_st.map List.length) (byt := pm_sby) (A := fun q : Nat => s.heap.size ≤ q) lw_f0 (fun i hi => hfl _ _ (lw_f1 i hi)) (fun i hi => hfl _ _ (lw_f2 i hi)) (fun i hi => hfl _ _ (lw_f3 i hi)) (fun i hi => hfl _ _ (lw_f4 i hi)) (fun i hi j hj => hfl _ _ (lw_f5 i hi j hj))
    (fun i j hi hj hij => by
      match i, j, hi, hj, hij with
      | 0, 0, _, _, h => exact absurd rfl h
      | 0, 1, _, _, _ => exact Or.inl (hfl _ _ n1)
      | 0, 2, _, _, _ => exact Or.inl (hfl _ _ n2)
      | 1, 0, _, _, _ => exact Or.inr (hfl _ _ n1)
      | 1, 1, _, _, h => exact absurd rfl h
      | 1, 2, _, _, _ => exact Or.inl (hfl _ _ n3)
      | 2, 0, _, _, _ => exact Or.inr (hfl _ _ n2)
      | 2, 1, _, _, _ => exact Or.inr (hfl _ _ n3)
      | 2, 2, _, _, h => exact absurd rfl h
      | i + 3, _, h, _, _ => exact absurd h (by omega)
      | _, j + 3, _, h, _ => exact absurd h (by omega)) hA
  have ek : ∀ j : Nat, (if 4001 + j = 4000 then b else adK (4001 + j - 4001)) = adK j := fun j => by rw [if_neg (by omega), Nat.add_sub_cancel_left]
  obtain ⟨r0, r1, r2⟩ := lw_w3
  obtain ⟨z1, z2, z3, z4⟩ := lw_w1
  obtain ⟨y1, y2⟩ := lw_f7
  refine ⟨((fun c => (D c).1, fun c => (D c).2), s.heap.size, fun k => if k = 4000 then b else adK (k - 4001), ck, L, xs, adV), ⟨⟨fun c q hq => ?_, fun k q hk => ?_⟩, fun w hw => va_Nw.of (lw_nest hw).2 (hts w (lw_nest hw).1), ⟨o7, o9, o3⟩, fun j hj => ?_, ?_, va_Zof (hts _ (lw_at z1)) (hts _ (lw_at z3)) (va_eqi (hfl _ _ y1)) hA, va_Zqof (hts _ (lw_at z2)) (hts _ (lw_at z4)) (hfl _ _ y2) hA, hX, hbl, hbl, Nat.le_refl _⟩, rfl, rfl, rfl, rfl⟩
  · have hc : c < 13 := by
      have := (List.getElem?_eq_some_iff.mp hq).1
      simpa [pm_cl] using this
    rw [pm_cl_at hc] at hq
    cases hq
    exact hD c hc
  · match k, hk with
    | 0, hk => cases hk; exact hck 0
    | 1, hk => cases hk; exact hck 1
    | 2, hk => cases hk; exact hck 2
    | 3, hk => cases hk; exact hck 3
    | 4, hk => cases hk; exact hck 4
    | 5, hk => cases hk; exact hck 5
    | k + 6, hk => simp [pm_tys] at hk
  · show vk_R _ _ _ (if 4001 + j = 4000 then b else adK (4001 + j - 4001)) s
    rw [ek j]
    match j, hj with
    | 0, _ => exact vk_R.of (hts _ (lw_at r0)) (hev 0 (by omega))
    | 1, _ => exact vk_R.of (hts _ (lw_at r1)) (hev 1 (by omega))
    | 2, _ => exact vk_R.of (hts _ (lw_at r2)) (hev 2 (by omega))
    | j + 3, h => exact absurd h (by omega)
  · show vk_S 3 _ _ (fun j => if 4001 + j = 4000 then b else adK (4001 + j - 4001)) adV _ s s.heap
    rw [show (fun j => if 4001 + j = 4000 then b else adK (4001 + j - 4001)) = adK from funext ek]
    exact hVS
