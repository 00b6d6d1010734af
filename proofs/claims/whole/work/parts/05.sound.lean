theorem pm_ofW {l : Launch} {y : MethodName} {ws ws' : List Cond} {rm : Room} {Pc : Array Value → State → Prop} {Qc : Array Value → State → Outcome → State → Prop} {mc ms : Nat} {free : Addr → Prop} {cc : ByteArray} {maxL : Nat} {ret : Option FieldType}
    (hy : plainFor y = true) (hw : ws = Cond.code y cc maxL ret :: ws')
    (body : ∀ p e s m args below meth c s₁, BodyLoose p l y (headSpec ws rm) cc maxL ret e s m args below meth c s₁ → c.maxLocals = maxL → Pc args s →
      W p l e (headSpec ws rm).room s m args below meth c s.heap [] 0 0 (MQ below Qc args s mc ms free) (entryFrame m args maxL)) : Met l y ws rm Pc Qc mc ms free := by
  refine MetFree.of_bodySF (code := cc) (maxLocals := maxL) (ret := ret) hy ?_ ?_
  · intro args s m h hn
    obtain ⟨meth, c, h1, h2, h3, h4, h5, h6, -, -⟩ := Cond.code_spec hn (atoms_spec (ws := ws) h _ (by rw [hw]; exact List.mem_cons_self))
    exact ⟨meth, c, h1, h2, h3, h4, h5, h6⟩
  · intro p e s m args below meth c s₁ B hml hP _
    have hh0 : s₁.heap = s.heap := by rw [B.state]; rfl
    obtain ⟨t, a1, o, b1, b2, b3⟩ := body p e s m args below meth c s₁ B hml hP s₁ hh0 (Stand.of_body B)
    exact ⟨t, o, a1, b1, b2, ⟨b3.1, b3.2⟩⟩
/-- each run of the pure machine is a contract of the real one -/
theorem pm_sound {l : Launch} {g : pm_G} (hstr : pm_mS l g) : ∀ (d y : Nat) (as : List Value) (E : pm_E) (M : pm_M) (z : pm_Z), pm_cal d y as E M z → pm_mt l g d y as E M z := by
  intro d
  induction d with
  | zero => intro y as E M z h; exact h.elim
  | succ d ih =>
    intro y as E M z h
    obtain ⟨hy, hlen, n, h⟩ := h
    unfold pm_mt
    refine pm_ofW (cc := pm_by y) (maxL := pm_mx y) (ret := pm_rt y) (pm_m4 y hy) rfl ?_
    intro p e s m args below meth c s₁ B hml hP
    obtain ⟨rfl, hX, hH, hz⟩ := hP
    have hts : ∀ w ∈ lw_good, w.before (as.map (pm_rv g)).toArray s = true := fun w hw => atoms_spec B.pre w (List.mem_cons_of_mem _ hw)
    have hown : s.vm.findClass (pm_ow (pm_oc y)) = some m.cls := by
      have := findClass_of_methodNamed B.named
      rwa [(pm_m2 y hy).1] at this
    have hname : meth.name = (pm_mn y).name := (name_of_methodNamed B.named B.method).1
    have hlocks : meth.locks = false := B.notSynchronized
    rw [lg_entry_eq]
    have hrun := pm_run (p := p) (l := l) (e := e) (R := (headSpec (Cond.code (pm_mn y) (pm_by y) (pm_mx y) (pm_rt y) :: lw_good) { frames := d + 1 + 8, cells := z.2.1.1 - E.1, slots := z.2.1.2.1 - E.2.1, locals := 60 * (d + 1 + 8) }).room) (s := s) (m := m) (args := (as.map (pm_rv g)).toArray) (below := below) (meth := meth) (c := c) (Q := MQ below (pm_Qc g z) (as.map (pm_rv g)).toArray s (z.2.1.1 - E.1) (z.2.1.2.1 - E.2.1) (pm_A g)) (g := g) (b := pm_by y) (o := pm_oc y) (rt := pm_rt y) (fi := pm_fi y) (d := d) (nL := pm_mx y) (E0 := E) (Z := z)
      B.exec B.bytes hml hown hts hX (fun q => by rw [hname]; exact ((pm_m2 y hy).2.2.2.2 q).1) hz hstr ih (Nat.le_refl _) (Nat.le_refl _) (Nat.le_refl _) (Nat.le_refl _)
      ?_ ?_ ?_ n 0 _ _ E M h s.heap [] _ (pm_ent_L hlen) hH va_S.rf ⟨Nat.le_refl _, Nat.le_refl _⟩
    · rw [Nat.sub_self, Nat.sub_self] at hrun
      exact hrun
    · intro pc lsA H locs v hd hr hZ hH1 hS1
      have hq : ∀ t : State, t.heap = H → s.WarmedH t.vm → pm_Qc g z (as.map (pm_rv g)).toArray s (.returned (some (.int v))) t := fun t ht _ => ⟨by rw [hZ]; rfl, by rw [ht]; exact hH1, hS1.F ht⟩
      rcases hr with hr | ⟨hr, h01⟩
      · exact W.iret B.exec B.bytes (B.returns.trans hr) hq (fun q hq => hS1.2.2 q hq) hd hlocks
      · exact W.zret B.exec B.bytes (B.returns.trans hr) (pm_nar01 h01).1 hq (fun q hq => hS1.2.2 q hq) hd hlocks
    · intro pc lsA H locs v hd hr hZ hH1 hS1
      have hq : ∀ t : State, t.heap = H → s.WarmedH t.vm → pm_Qc g z (as.map (pm_rv g)).toArray s (.returned (some (.long v))) t := fun t ht _ => ⟨by rw [hZ]; rfl, by rw [ht]; exact hH1, hS1.F ht⟩
      exact W.lret B.exec B.bytes (B.returns.trans hr) hq (fun q hq => hS1.2.2 q hq) hd hlocks
    · intro pc lsA H locs hd hr hZ hH1 hS1
      have hq : ∀ t : State, t.heap = H → s.WarmedH t.vm → pm_Qc g z (as.map (pm_rv g)).toArray s (.returned none) t := fun t ht _ => ⟨by rw [hZ]; rfl, by rw [ht]; exact hH1, hS1.F ht⟩
      exact W.vret B.exec B.bytes (B.returns.trans hr) hq (fun q hq => hS1.2.2 q hq) hd hlocks
