/-! makers: the straight ones (written by gen_mk.py) -/
def uf_K (a : Nat) (t : mS) : mS := mNP (t) a 0 0 48
def uv_K (a : Nat) (t : mS) (V : mV) : mV := V
theorem uex_K {a : Nat} {t : mS} {m : Nat} (g : gC t a 10 0 m) : exT t (uf_K a t) ∧ (uf_K a t).1.length = t.1.length + 1 := by
  exact xl_NP (xl_rf) g.2.1
theorem umk_K {L d : Nat} (hd : 1 ≤ d) : mkOk L d yK_init 0 1 1 3000 uf_K uv_K := by
  refine ⟨fun a t m g => uex_K g, fun t V M a Q g hl hM hq => ?_⟩
  obtain ⟨d, rfl⟩ : ∃ e, d = e + 1 := ⟨d - 1, by omega⟩
  refine pm_toV (by decide) (Nat.le_of_ble_eq_true rfl) ?_
  show pm_wp (pm_cal d) prog_2_method_1_code 0 none true 0 [.ref a] [] (toE L t) M (fun r E1 M1 => r = none ∧ Q E1 M1)
  refine s_aload_n (i := 0) (by decide +kernel) rfl (pn 1 rfl ?_)
  refine s_objinit (ix := 3) (by decide +kernel) (by decide +kernel) (by decide) (pn 4 rfl ?_)
  refine s_aload_n (i := 0) (by decide +kernel) rfl (pn 5 rfl ?_)
  refine t_bipush (n := 48) (v := nI 48) (by decide +kernel) (by decide +kernel) (pn 7 rfl ?_)
  refine k_np (ty := .int) (ix := 9) (kd := 0) (n := 48) (kf := 0) (ci := 0) (by decide +kernel) rfl (by omega) (by decide +kernel) (fin := true) (by decide +kernel) (fun _ => ⟨rfl, rfl⟩) g (by omega) (by omega) hM (fun M g hM l1 => ?_)
  refine pn 12 rfl ?_
  generalize e1 : mNP t a 0 0 48 = t1 at g hM l1 ⊢
  have ef : uf_K a t = t1 := by unfold uf_K; rw [e1]
  unfold uv_K at hq
  rw [ef] at hq
  exact s_return (st := []) (by decide +kernel) rfl ⟨rfl, hq M hM⟩
def uf_W (a : Nat) (t : mS) : mS := mNP (mNP (mNP (t) a 0 0 900) a 1 0 64) a 2 0 7
def uv_W (a : Nat) (t : mS) (V : mV) : mV := V
theorem uex_W {a : Nat} {t : mS} {m : Nat} (g : gC t a 11 0 m) : exT t (uf_W a t) ∧ (uf_W a t).1.length = t.1.length + 3 := by
  exact xl_NP (xl_NP (xl_NP (xl_rf) g.2.1) g.2.1) g.2.1
theorem umk_W {L d : Nat} (hd : 1 ≤ d) : mkOk L d yW_init 1 8 3 3000 uf_W uv_W := by
  refine ⟨fun a t m g => uex_W g, fun t V M a Q g hl hM hq => ?_⟩
  obtain ⟨d, rfl⟩ : ∃ e, d = e + 1 := ⟨d - 1, by omega⟩
  refine pm_toV (by decide) (Nat.le_of_ble_eq_true rfl) ?_
  show pm_wp (pm_cal d) prog_3_method_1_code 1 none true 0 [.ref a] [] (toE L t) M (fun r E1 M1 => r = none ∧ Q E1 M1)
  refine s_aload_n (i := 0) (by decide +kernel) rfl (pn 1 rfl ?_)
  refine s_objinit (ix := 3) (by decide +kernel) (by decide +kernel) (by decide) (pn 4 rfl ?_)
  refine s_aload_n (i := 0) (by decide +kernel) rfl (pn 5 rfl ?_)
  refine t_sipush (n := 900) (v := nI 900) (by decide +kernel) (by decide +kernel) (pn 8 rfl ?_)
  refine k_np (ty := .int) (ix := 9) (kd := 0) (n := 900) (kf := 0) (ci := 1) (by decide +kernel) rfl (by omega) (by decide +kernel) (fin := true) (by decide +kernel) (fun _ => ⟨rfl, rfl⟩) g (by omega) (by omega) hM (fun M g hM l1 => ?_)
  refine pn 13 rfl ?_
  generalize e1 : mNP t a 0 0 900 = t1 at g hM l1 ⊢
  refine s_aload_n (i := 0) (by decide +kernel) rfl (pn 14 rfl ?_)
  refine t_bipush (n := 64) (v := nI 64) (by decide +kernel) (by decide +kernel) (pn 16 rfl ?_)
  refine k_np (ty := .int) (ix := 15) (kd := 0) (n := 64) (kf := 1) (ci := 1) (by decide +kernel) rfl (by omega) (by decide +kernel) (fin := true) (by decide +kernel) (fun _ => ⟨rfl, rfl⟩) g (by omega) (by omega) hM (fun M g hM l2 => ?_)
  refine pn 21 rfl ?_
  generalize e2 : mNP t1 a 1 0 64 = t2 at g hM l2 ⊢
  refine s_aload_n (i := 0) (by decide +kernel) rfl (pn 22 rfl ?_)
  refine t_bipush (n := 7) (v := nI 7) (by decide +kernel) (by decide +kernel) (pn 24 rfl ?_)
  refine k_np (ty := .int) (ix := 18) (kd := 0) (n := 7) (kf := 2) (ci := 1) (by decide +kernel) rfl (by omega) (by decide +kernel) (fin := true) (by decide +kernel) (fun _ => ⟨rfl, rfl⟩) g (by omega) (by omega) hM (fun M g hM l3 => ?_)
  refine pn 29 rfl ?_
  generalize e3 : mNP t2 a 2 0 7 = t3 at g hM l3 ⊢
  have ef : uf_W a t = t3 := by unfold uf_W; rw [e1, e2, e3]
  unfold uv_W at hq
  rw [ef] at hq
  exact s_return (st := []) (by decide +kernel) rfl ⟨rfl, hq M hM⟩
def uf_F (a : Nat) (t : mS) : mS := mNP (mNP (mNP (mNP (mNP (mNP (mNP (mNP (t) a 0 0 3) a 1 0 3) a 2 0 3) a 3 0 3) a 4 0 3) a 5 0 3) a 6 0 3) a 7 0 3
def uv_F (a : Nat) (t : mS) (V : mV) : mV := V
theorem uex_F {a : Nat} {t : mS} {m : Nat} (g : gC t a 12 0 m) : exT t (uf_F a t) ∧ (uf_F a t).1.length = t.1.length + 8 := by
  exact xl_NP (xl_NP (xl_NP (xl_NP (xl_NP (xl_NP (xl_NP (xl_NP (xl_rf) g.2.1) g.2.1) g.2.1) g.2.1) g.2.1) g.2.1) g.2.1) g.2.1
theorem umk_F {L d : Nat} (hd : 1 ≤ d) : mkOk L d yF_init 2 11 8 3000 uf_F uv_F := by
  refine ⟨fun a t m g => uex_F g, fun t V M a Q g hl hM hq => ?_⟩
  obtain ⟨d, rfl⟩ : ∃ e, d = e + 1 := ⟨d - 1, by omega⟩
  refine pm_toV (by decide) (Nat.le_of_ble_eq_true rfl) ?_
  show pm_wp (pm_cal d) prog_4_method_1_code 2 none true 0 [.ref a] [] (toE L t) M (fun r E1 M1 => r = none ∧ Q E1 M1)
  refine s_aload_n (i := 0) (by decide +kernel) rfl (pn 1 rfl ?_)
  refine s_objinit (ix := 3) (by decide +kernel) (by decide +kernel) (by decide) (pn 4 rfl ?_)
  refine s_aload_n (i := 0) (by decide +kernel) rfl (pn 5 rfl ?_)
  refine t_iconst (n := 3) (v := nI 3) (by decide +kernel) (by decide +kernel) (pn 6 rfl ?_)
  refine k_np (ty := .int) (ix := 9) (kd := 0) (n := 3) (kf := 0) (ci := 2) (by decide +kernel) rfl (by omega) (by decide +kernel) (fin := true) (by decide +kernel) (fun _ => ⟨rfl, rfl⟩) g (by omega) (by omega) hM (fun M g hM l1 => ?_)
  refine pn 11 rfl ?_
  generalize e1 : mNP t a 0 0 3 = t1 at g hM l1 ⊢
  refine s_aload_n (i := 0) (by decide +kernel) rfl (pn 12 rfl ?_)
  refine t_iconst (n := 3) (v := nI 3) (by decide +kernel) (by decide +kernel) (pn 13 rfl ?_)
  refine k_np (ty := .int) (ix := 15) (kd := 0) (n := 3) (kf := 1) (ci := 2) (by decide +kernel) rfl (by omega) (by decide +kernel) (fin := true) (by decide +kernel) (fun _ => ⟨rfl, rfl⟩) g (by omega) (by omega) hM (fun M g hM l2 => ?_)
  refine pn 18 rfl ?_
  generalize e2 : mNP t1 a 1 0 3 = t2 at g hM l2 ⊢
  refine s_aload_n (i := 0) (by decide +kernel) rfl (pn 19 rfl ?_)
  refine t_iconst (n := 3) (v := nI 3) (by decide +kernel) (by decide +kernel) (pn 20 rfl ?_)
  refine k_np (ty := .int) (ix := 18) (kd := 0) (n := 3) (kf := 2) (ci := 2) (by decide +kernel) rfl (by omega) (by decide +kernel) (fin := true) (by decide +kernel) (fun _ => ⟨rfl, rfl⟩) g (by omega) (by omega) hM (fun M g hM l3 => ?_)
  refine pn 25 rfl ?_
  generalize e3 : mNP t2 a 2 0 3 = t3 at g hM l3 ⊢
  refine s_aload_n (i := 0) (by decide +kernel) rfl (pn 26 rfl ?_)
  refine t_iconst (n := 3) (v := nI 3) (by decide +kernel) (by decide +kernel) (pn 27 rfl ?_)
  refine k_np (ty := .int) (ix := 21) (kd := 0) (n := 3) (kf := 3) (ci := 2) (by decide +kernel) rfl (by omega) (by decide +kernel) (fin := true) (by decide +kernel) (fun _ => ⟨rfl, rfl⟩) g (by omega) (by omega) hM (fun M g hM l4 => ?_)
  refine pn 32 rfl ?_
  generalize e4 : mNP t3 a 3 0 3 = t4 at g hM l4 ⊢
  refine s_aload_n (i := 0) (by decide +kernel) rfl (pn 33 rfl ?_)
  refine t_iconst (n := 3) (v := nI 3) (by decide +kernel) (by decide +kernel) (pn 34 rfl ?_)
  refine k_np (ty := .int) (ix := 24) (kd := 0) (n := 3) (kf := 4) (ci := 2) (by decide +kernel) rfl (by omega) (by decide +kernel) (fin := true) (by decide +kernel) (fun _ => ⟨rfl, rfl⟩) g (by omega) (by omega) hM (fun M g hM l5 => ?_)
  refine pn 39 rfl ?_
  generalize e5 : mNP t4 a 4 0 3 = t5 at g hM l5 ⊢
  refine s_aload_n (i := 0) (by decide +kernel) rfl (pn 40 rfl ?_)
  refine t_iconst (n := 3) (v := nI 3) (by decide +kernel) (by decide +kernel) (pn 41 rfl ?_)
  refine k_np (ty := .int) (ix := 27) (kd := 0) (n := 3) (kf := 5) (ci := 2) (by decide +kernel) rfl (by omega) (by decide +kernel) (fin := true) (by decide +kernel) (fun _ => ⟨rfl, rfl⟩) g (by omega) (by omega) hM (fun M g hM l6 => ?_)
  refine pn 46 rfl ?_
  generalize e6 : mNP t5 a 5 0 3 = t6 at g hM l6 ⊢
  refine s_aload_n (i := 0) (by decide +kernel) rfl (pn 47 rfl ?_)
  refine t_iconst (n := 3) (v := nI 3) (by decide +kernel) (by decide +kernel) (pn 48 rfl ?_)
  refine k_np (ty := .int) (ix := 30) (kd := 0) (n := 3) (kf := 6) (ci := 2) (by decide +kernel) rfl (by omega) (by decide +kernel) (fin := true) (by decide +kernel) (fun _ => ⟨rfl, rfl⟩) g (by omega) (by omega) hM (fun M g hM l7 => ?_)
  refine pn 53 rfl ?_
  generalize e7 : mNP t6 a 6 0 3 = t7 at g hM l7 ⊢
  refine s_aload_n (i := 0) (by decide +kernel) rfl (pn 54 rfl ?_)
  refine t_iconst (n := 3) (v := nI 3) (by decide +kernel) (by decide +kernel) (pn 55 rfl ?_)
  refine k_np (ty := .int) (ix := 33) (kd := 0) (n := 3) (kf := 7) (ci := 2) (by decide +kernel) rfl (by omega) (by decide +kernel) (fin := true) (by decide +kernel) (fun _ => ⟨rfl, rfl⟩) g (by omega) (by omega) hM (fun M g hM l8 => ?_)
  refine pn 60 rfl ?_
  generalize e8 : mNP t7 a 7 0 3 = t8 at g hM l8 ⊢
  have ef : uf_F a t = t8 := by unfold uf_F; rw [e1, e2, e3, e4, e5, e6, e7, e8]
  unfold uv_F at hq
  rw [ef] at hq
  exact s_return (st := []) (by decide +kernel) rfl ⟨rfl, hq M hM⟩
def uf_L (a : Nat) (t : mS) : mS := mSet (uf_W (mNP (mNP (mNP (mNP (mNP (mNP (mNP (t) a 5 0 8) a 6 0 8) a 7 0 8) a 8 0 8) a 9 0 6) a 10 0 6) a 11 0 6).1.length (mNew (mNP (mNP (mNP (mNP (mNP (mNP (mNP (t) a 5 0 8) a 6 0 8) a 7 0 8) a 8 0 8) a 9 0 6) a 10 0 6) a 11 0 6) 11 0 8 8)) a 12 (mNP (mNP (mNP (mNP (mNP (mNP (mNP (t) a 5 0 8) a 6 0 8) a 7 0 8) a 8 0 8) a 9 0 6) a 10 0 6) a 11 0 6).1.length
def uv_L (a : Nat) (t : mS) (V : mV) : mV := uv_W (mNP (mNP (mNP (mNP (mNP (mNP (mNP (t) a 5 0 8) a 6 0 8) a 7 0 8) a 8 0 8) a 9 0 6) a 10 0 6) a 11 0 6).1.length (mNew (mNP (mNP (mNP (mNP (mNP (mNP (mNP (t) a 5 0 8) a 6 0 8) a 7 0 8) a 8 0 8) a 9 0 6) a 10 0 6) a 11 0 6) 11 0 8 8) (mP (V) a 0 (nI 2))
theorem uex_L {a : Nat} {t : mS} {m : Nat} (g : gC t a 13 0 m) : exT t (uf_L a t) ∧ (uf_L a t).1.length = t.1.length + 11 := by
  exact xl_NO (xl_NP (xl_NP (xl_NP (xl_NP (xl_NP (xl_NP (xl_NP (xl_rf) g.2.1) g.2.1) g.2.1) g.2.1) g.2.1) g.2.1) g.2.1) g.2.1 g.1 (fun a t m g => uex_W g)
theorem umk_L {L d : Nat} (hd : 2 ≤ d) : mkOk L d yL_init 3 13 11 2900 uf_L uv_L := by
  refine ⟨fun a t m g => uex_L g, fun t V M a Q g hl hM hq => ?_⟩
  obtain ⟨d, rfl⟩ : ∃ e, d = e + 1 := ⟨d - 1, by omega⟩
  refine pm_toV (by decide) (Nat.le_of_ble_eq_true rfl) ?_
  show pm_wp (pm_cal d) prog_5_method_1_code 3 none true 0 [.ref a] [] (toE L t) M (fun r E1 M1 => r = none ∧ Q E1 M1)
  refine s_aload_n (i := 0) (by decide +kernel) rfl (pn 1 rfl ?_)
  refine s_objinit (ix := 3) (by decide +kernel) (by decide +kernel) (by decide) (pn 4 rfl ?_)
  refine s_aload_n (i := 0) (by decide +kernel) rfl (pn 5 rfl ?_)
  refine t_iconst (n := 2) (v := nI 2) (by decide +kernel) (by decide +kernel) (pn 6 rfl ?_)
  refine k_pi (ix := 9) (kf := 0) (ci := 3) (fin := false) (by decide +kernel) (by decide +kernel) (fun _ => ⟨rfl, rfl⟩) g (by omega) hM (fun M hM => ?_)
  refine pn 9 rfl ?_
  refine s_aload_n (i := 0) (by decide +kernel) rfl (pn 10 rfl ?_)
  refine t_bipush (n := 8) (v := nI 8) (by decide +kernel) (by decide +kernel) (pn 12 rfl ?_)
  refine k_np (ty := .int) (ix := 15) (kd := 0) (n := 8) (kf := 5) (ci := 3) (by decide +kernel) rfl (by omega) (by decide +kernel) (fin := true) (by decide +kernel) (fun _ => ⟨rfl, rfl⟩) g (by omega) (by omega) hM (fun M g hM l1 => ?_)
  refine pn 17 rfl ?_
  generalize e1 : mNP t a 5 0 8 = t1 at g hM l1 ⊢
  refine s_aload_n (i := 0) (by decide +kernel) rfl (pn 18 rfl ?_)
  refine t_bipush (n := 8) (v := nI 8) (by decide +kernel) (by decide +kernel) (pn 20 rfl ?_)
  refine k_np (ty := .int) (ix := 19) (kd := 0) (n := 8) (kf := 6) (ci := 3) (by decide +kernel) rfl (by omega) (by decide +kernel) (fin := true) (by decide +kernel) (fun _ => ⟨rfl, rfl⟩) g (by omega) (by omega) hM (fun M g hM l2 => ?_)
  refine pn 25 rfl ?_
  generalize e2 : mNP t1 a 6 0 8 = t2 at g hM l2 ⊢
  refine s_aload_n (i := 0) (by decide +kernel) rfl (pn 26 rfl ?_)
  refine t_bipush (n := 8) (v := nI 8) (by decide +kernel) (by decide +kernel) (pn 28 rfl ?_)
  refine k_np (ty := .int) (ix := 22) (kd := 0) (n := 8) (kf := 7) (ci := 3) (by decide +kernel) rfl (by omega) (by decide +kernel) (fin := true) (by decide +kernel) (fun _ => ⟨rfl, rfl⟩) g (by omega) (by omega) hM (fun M g hM l3 => ?_)
  refine pn 33 rfl ?_
  generalize e3 : mNP t2 a 7 0 8 = t3 at g hM l3 ⊢
  refine s_aload_n (i := 0) (by decide +kernel) rfl (pn 34 rfl ?_)
  refine t_bipush (n := 8) (v := nI 8) (by decide +kernel) (by decide +kernel) (pn 36 rfl ?_)
  refine k_np (ty := .int) (ix := 25) (kd := 0) (n := 8) (kf := 8) (ci := 3) (by decide +kernel) rfl (by omega) (by decide +kernel) (fin := true) (by decide +kernel) (fun _ => ⟨rfl, rfl⟩) g (by omega) (by omega) hM (fun M g hM l4 => ?_)
  refine pn 41 rfl ?_
  generalize e4 : mNP t3 a 8 0 8 = t4 at g hM l4 ⊢
  refine s_aload_n (i := 0) (by decide +kernel) rfl (pn 42 rfl ?_)
  refine t_bipush (n := 6) (v := nI 6) (by decide +kernel) (by decide +kernel) (pn 44 rfl ?_)
  refine k_np (ty := .int) (ix := 28) (kd := 0) (n := 6) (kf := 9) (ci := 3) (by decide +kernel) rfl (by omega) (by decide +kernel) (fin := true) (by decide +kernel) (fun _ => ⟨rfl, rfl⟩) g (by omega) (by omega) hM (fun M g hM l5 => ?_)
  refine pn 49 rfl ?_
  generalize e5 : mNP t4 a 9 0 6 = t5 at g hM l5 ⊢
  refine s_aload_n (i := 0) (by decide +kernel) rfl (pn 50 rfl ?_)
  refine t_bipush (n := 6) (v := nI 6) (by decide +kernel) (by decide +kernel) (pn 52 rfl ?_)
  refine k_np (ty := .int) (ix := 31) (kd := 0) (n := 6) (kf := 10) (ci := 3) (by decide +kernel) rfl (by omega) (by decide +kernel) (fin := true) (by decide +kernel) (fun _ => ⟨rfl, rfl⟩) g (by omega) (by omega) hM (fun M g hM l6 => ?_)
  refine pn 57 rfl ?_
  generalize e6 : mNP t5 a 10 0 6 = t6 at g hM l6 ⊢
  refine s_aload_n (i := 0) (by decide +kernel) rfl (pn 58 rfl ?_)
  refine t_bipush (n := 6) (v := nI 6) (by decide +kernel) (by decide +kernel) (pn 60 rfl ?_)
  refine k_np (ty := .int) (ix := 34) (kd := 0) (n := 6) (kf := 11) (ci := 3) (by decide +kernel) rfl (by omega) (by decide +kernel) (fin := true) (by decide +kernel) (fun _ => ⟨rfl, rfl⟩) g (by omega) (by omega) hM (fun M g hM l7 => ?_)
  refine pn 65 rfl ?_
  generalize e7 : mNP t6 a 11 0 6 = t7 at g hM l7 ⊢
  refine s_aload_n (i := 0) (by decide +kernel) rfl (pn 66 rfl ?_)
  refine k_no (i1 := 37) (i2 := 39) (cj := 1) (by decide +kernel) (by decide +kernel) (by decide +kernel) (by decide +kernel) (by decide +kernel) (by decide +kernel) rfl (mj := 8) (umk_W (d := d) (by omega)) g.1 (by omega) (by omega) (Nat.le_of_ble_eq_true rfl) hM (fun M x8 _ hM l8 => ?_)
  refine pn 73 rfl ?_
  have g := gC_ex g x8
  generalize e8 : uf_W t7.1.length (mNew t7 11 0 8 8) = t8 at g hM l8 x8 ⊢
  refine k_pa (ix := 40) (kf := 12) (ci := 3) (fin := true) (by decide +kernel) (by decide +kernel) (fun _ => ⟨rfl, rfl⟩) g (by omega) (by omega) (fun g m8 _ => ?_)
  refine pn 76 rfl ?_
  generalize h8 : mSet t8 a 12 t7.1.length = u8 at g m8 ⊢
  rw [← m8] at hM l8
  have ef : uf_L a t = u8 := by unfold uf_L; rw [e1, e2, e3, e4, e5, e6, e7, e8, h8]
  unfold uv_L at hq
  try simp only [e1, e2, e3, e4, e5, e6, e7, e8, h8] at hq
  rw [ef] at hq
  exact s_return (st := []) (by decide +kernel) rfl ⟨rfl, hq M hM⟩
def uf_O (a : Nat) (t : mS) : mS := mNP (mNP (t) a 1 1 1000) a 2 1 1000
def uv_O (a : Nat) (t : mS) (V : mV) : mV := V
theorem uex_O {a : Nat} {t : mS} {m : Nat} (g : gC t a 14 0 m) : exT t (uf_O a t) ∧ (uf_O a t).1.length = t.1.length + 2 := by
  exact xl_NP (xl_NP (xl_rf) g.2.1) g.2.1
theorem umk_O {L d : Nat} (hd : 1 ≤ d) : mkOk L d yO_init 4 3 2 3000 uf_O uv_O := by
  refine ⟨fun a t m g => uex_O g, fun t V M a Q g hl hM hq => ?_⟩
  obtain ⟨d, rfl⟩ : ∃ e, d = e + 1 := ⟨d - 1, by omega⟩
  refine pm_toV (by decide) (Nat.le_of_ble_eq_true rfl) ?_
  show pm_wp (pm_cal d) prog_6_method_1_code 4 none true 0 [.ref a] [] (toE L t) M (fun r E1 M1 => r = none ∧ Q E1 M1)
  refine s_aload_n (i := 0) (by decide +kernel) rfl (pn 1 rfl ?_)
  refine s_objinit (ix := 3) (by decide +kernel) (by decide +kernel) (by decide) (pn 4 rfl ?_)
  refine s_aload_n (i := 0) (by decide +kernel) rfl (pn 5 rfl ?_)
  refine t_sipush (n := 1000) (v := nI 1000) (by decide +kernel) (by decide +kernel) (pn 8 rfl ?_)
  refine k_np (ty := .long) (ix := 11) (kd := 1) (n := 1000) (kf := 1) (ci := 4) (by decide +kernel) rfl (by omega) (by decide +kernel) (fin := false) (by decide +kernel) (fun _ => ⟨rfl, rfl⟩) g (by omega) (by omega) hM (fun M g hM l1 => ?_)
  refine pn 13 rfl ?_
  generalize e1 : mNP t a 1 1 1000 = t1 at g hM l1 ⊢
  refine s_aload_n (i := 0) (by decide +kernel) rfl (pn 14 rfl ?_)
  refine t_sipush (n := 1000) (v := nI 1000) (by decide +kernel) (by decide +kernel) (pn 17 rfl ?_)
  refine k_np (ty := .long) (ix := 15) (kd := 1) (n := 1000) (kf := 2) (ci := 4) (by decide +kernel) rfl (by omega) (by decide +kernel) (fin := false) (by decide +kernel) (fun _ => ⟨rfl, rfl⟩) g (by omega) (by omega) hM (fun M g hM l2 => ?_)
  refine pn 22 rfl ?_
  generalize e2 : mNP t1 a 2 1 1000 = t2 at g hM l2 ⊢
  have ef : uf_O a t = t2 := by unfold uf_O; rw [e1, e2]
  unfold uv_O at hq
  rw [ef] at hq
  exact s_return (st := []) (by decide +kernel) rfl ⟨rfl, hq M hM⟩
def uf_N (a : Nat) (t : mS) : mS := mNP (mNP (mNP (mNP (mNP (t) a 0 0 8) a 1 0 3200) a 2 0 800) a 3 0 100) a 4 0 100
def uv_N (a : Nat) (t : mS) (V : mV) : mV := V
theorem uex_N {a : Nat} {t : mS} {m : Nat} (g : gC t a 15 0 m) : exT t (uf_N a t) ∧ (uf_N a t).1.length = t.1.length + 5 := by
  exact xl_NP (xl_NP (xl_NP (xl_NP (xl_NP (xl_rf) g.2.1) g.2.1) g.2.1) g.2.1) g.2.1
theorem umk_N {L d : Nat} (hd : 1 ≤ d) : mkOk L d yN_init 5 9 5 3000 uf_N uv_N := by
  refine ⟨fun a t m g => uex_N g, fun t V M a Q g hl hM hq => ?_⟩
  obtain ⟨d, rfl⟩ : ∃ e, d = e + 1 := ⟨d - 1, by omega⟩
  refine pm_toV (by decide) (Nat.le_of_ble_eq_true rfl) ?_
  show pm_wp (pm_cal d) prog_7_method_1_code 5 none true 0 [.ref a] [] (toE L t) M (fun r E1 M1 => r = none ∧ Q E1 M1)
  refine s_aload_n (i := 0) (by decide +kernel) rfl (pn 1 rfl ?_)
  refine s_objinit (ix := 3) (by decide +kernel) (by decide +kernel) (by decide) (pn 4 rfl ?_)
  refine s_aload_n (i := 0) (by decide +kernel) rfl (pn 5 rfl ?_)
  refine t_bipush (n := 8) (v := nI 8) (by decide +kernel) (by decide +kernel) (pn 7 rfl ?_)
  refine k_np (ty := .int) (ix := 9) (kd := 0) (n := 8) (kf := 0) (ci := 5) (by decide +kernel) rfl (by omega) (by decide +kernel) (fin := true) (by decide +kernel) (fun _ => ⟨rfl, rfl⟩) g (by omega) (by omega) hM (fun M g hM l1 => ?_)
  refine pn 12 rfl ?_
  generalize e1 : mNP t a 0 0 8 = t1 at g hM l1 ⊢
  refine s_aload_n (i := 0) (by decide +kernel) rfl (pn 13 rfl ?_)
  refine t_sipush (n := 3200) (v := nI 3200) (by decide +kernel) (by decide +kernel) (pn 16 rfl ?_)
  refine k_np (ty := .int) (ix := 15) (kd := 0) (n := 3200) (kf := 1) (ci := 5) (by decide +kernel) rfl (by omega) (by decide +kernel) (fin := true) (by decide +kernel) (fun _ => ⟨rfl, rfl⟩) g (by omega) (by omega) hM (fun M g hM l2 => ?_)
  refine pn 21 rfl ?_
  generalize e2 : mNP t1 a 1 0 3200 = t2 at g hM l2 ⊢
  refine s_aload_n (i := 0) (by decide +kernel) rfl (pn 22 rfl ?_)
  refine t_sipush (n := 800) (v := nI 800) (by decide +kernel) (by decide +kernel) (pn 25 rfl ?_)
  refine k_np (ty := .int) (ix := 18) (kd := 0) (n := 800) (kf := 2) (ci := 5) (by decide +kernel) rfl (by omega) (by decide +kernel) (fin := true) (by decide +kernel) (fun _ => ⟨rfl, rfl⟩) g (by omega) (by omega) hM (fun M g hM l3 => ?_)
  refine pn 30 rfl ?_
  generalize e3 : mNP t2 a 2 0 800 = t3 at g hM l3 ⊢
  refine s_aload_n (i := 0) (by decide +kernel) rfl (pn 31 rfl ?_)
  refine t_bipush (n := 100) (v := nI 100) (by decide +kernel) (by decide +kernel) (pn 33 rfl ?_)
  refine k_np (ty := .int) (ix := 21) (kd := 0) (n := 100) (kf := 3) (ci := 5) (by decide +kernel) rfl (by omega) (by decide +kernel) (fin := false) (by decide +kernel) (fun _ => ⟨rfl, rfl⟩) g (by omega) (by omega) hM (fun M g hM l4 => ?_)
  refine pn 38 rfl ?_
  generalize e4 : mNP t3 a 3 0 100 = t4 at g hM l4 ⊢
  refine s_aload_n (i := 0) (by decide +kernel) rfl (pn 39 rfl ?_)
  refine t_bipush (n := 100) (v := nI 100) (by decide +kernel) (by decide +kernel) (pn 41 rfl ?_)
  refine k_np (ty := .int) (ix := 24) (kd := 0) (n := 100) (kf := 4) (ci := 5) (by decide +kernel) rfl (by omega) (by decide +kernel) (fin := false) (by decide +kernel) (fun _ => ⟨rfl, rfl⟩) g (by omega) (by omega) hM (fun M g hM l5 => ?_)
  refine pn 46 rfl ?_
  generalize e5 : mNP t4 a 4 0 100 = t5 at g hM l5 ⊢
  have ef : uf_N a t = t5 := by unfold uf_N; rw [e1, e2, e3, e4, e5]
  unfold uv_N at hq
  rw [ef] at hq
  exact s_return (st := []) (by decide +kernel) rfl ⟨rfl, hq M hM⟩
def uf_R (a : Nat) (t : mS) : mS := mNP (mSet (uf_L (t).1.length (mNew (t) 13 0 13 13)) a 0 (t).1.length) a 4 0 900
def uv_R (a : Nat) (t : mS) (V : mV) : mV := mP (uv_L (t).1.length (mNew (t) 13 0 13 13) (V)) a 3 ((-1))
theorem uex_R {a : Nat} {t : mS} {m : Nat} (g : gC t a 16 0 m) : exT t (uf_R a t) ∧ (uf_R a t).1.length = t.1.length + 13 := by
  exact xl_NP (xl_NO (xl_rf) g.2.1 g.1 (fun a t m g => uex_L g)) g.2.1
theorem umk_R {L d : Nat} (hd : 3 ≤ d) : mkOk L d yR_init 6 12 13 2800 uf_R uv_R := by
  refine ⟨fun a t m g => uex_R g, fun t V M a Q g hl hM hq => ?_⟩
  obtain ⟨d, rfl⟩ : ∃ e, d = e + 1 := ⟨d - 1, by omega⟩
  refine pm_toV (by decide) (Nat.le_of_ble_eq_true rfl) ?_
  show pm_wp (pm_cal d) prog_8_method_1_code 6 none true 0 [.ref a] [] (toE L t) M (fun r E1 M1 => r = none ∧ Q E1 M1)
  refine s_aload_n (i := 0) (by decide +kernel) rfl (pn 1 rfl ?_)
  refine s_objinit (ix := 3) (by decide +kernel) (by decide +kernel) (by decide) (pn 4 rfl ?_)
  refine s_aload_n (i := 0) (by decide +kernel) rfl (pn 5 rfl ?_)
  refine k_no (i1 := 9) (i2 := 11) (cj := 3) (by decide +kernel) (by decide +kernel) (by decide +kernel) (by decide +kernel) (by decide +kernel) (by decide +kernel) rfl (mj := 13) (umk_L (d := d) (by omega)) g.1 (by omega) (by omega) (Nat.le_of_ble_eq_true rfl) hM (fun M x1 _ hM l1 => ?_)
  refine pn 12 rfl ?_
  have g := gC_ex g x1
  generalize e1 : uf_L t.1.length (mNew t 13 0 13 13) = t1 at g hM l1 x1 ⊢
  refine k_pa (ix := 12) (kf := 0) (ci := 6) (fin := true) (by decide +kernel) (by decide +kernel) (fun _ => ⟨rfl, rfl⟩) g (by omega) (by omega) (fun g m1 _ => ?_)
  refine pn 15 rfl ?_
  generalize h1 : mSet t1 a 0 t.1.length = u1 at g m1 ⊢
  rw [← m1] at hM l1
  refine s_aload_n (i := 0) (by decide +kernel) rfl (pn 16 rfl ?_)
  refine t_iconst (n := -1) (v := (-1)) (by decide +kernel) (by decide +kernel) (pn 17 rfl ?_)
  refine k_pi (ix := 18) (kf := 3) (ci := 6) (fin := false) (by decide +kernel) (by decide +kernel) (fun _ => ⟨rfl, rfl⟩) g (by omega) hM (fun M hM => ?_)
  refine pn 20 rfl ?_
  refine s_aload_n (i := 0) (by decide +kernel) rfl (pn 21 rfl ?_)
  refine t_sipush (n := 900) (v := nI 900) (by decide +kernel) (by decide +kernel) (pn 24 rfl ?_)
  refine k_np (ty := .int) (ix := 22) (kd := 0) (n := 900) (kf := 4) (ci := 6) (by decide +kernel) rfl (by omega) (by decide +kernel) (fin := true) (by decide +kernel) (fun _ => ⟨rfl, rfl⟩) g (by omega) (by omega) hM (fun M g hM l2 => ?_)
  refine pn 29 rfl ?_
  generalize e2 : mNP u1 a 4 0 900 = t2 at g hM l2 ⊢
  have ef : uf_R a t = t2 := by unfold uf_R; rw [e1, h1, e2]
  unfold uv_R at hq
  try simp only [e1, h1, e2] at hq
  rw [ef] at hq
  exact s_return (st := []) (by decide +kernel) rfl ⟨rfl, hq M hM⟩
def uf_S (a : Nat) (t : mS) : mS := mNP (mNP (mNP (mNP (t) a 0 0 8) a 1 0 8) a 2 0 6) a 3 0 6
def uv_S (a : Nat) (t : mS) (V : mV) : mV := V
theorem uex_S {a : Nat} {t : mS} {m : Nat} (g : gC t a 17 0 m) : exT t (uf_S a t) ∧ (uf_S a t).1.length = t.1.length + 4 := by
  exact xl_NP (xl_NP (xl_NP (xl_NP (xl_rf) g.2.1) g.2.1) g.2.1) g.2.1
theorem umk_S {L d : Nat} (hd : 1 ≤ d) : mkOk L d yS_init 7 8 4 3000 uf_S uv_S := by
  refine ⟨fun a t m g => uex_S g, fun t V M a Q g hl hM hq => ?_⟩
  obtain ⟨d, rfl⟩ : ∃ e, d = e + 1 := ⟨d - 1, by omega⟩
  refine pm_toV (by decide) (Nat.le_of_ble_eq_true rfl) ?_
  show pm_wp (pm_cal d) prog_9_method_1_code 7 none true 0 [.ref a] [] (toE L t) M (fun r E1 M1 => r = none ∧ Q E1 M1)
  refine s_aload_n (i := 0) (by decide +kernel) rfl (pn 1 rfl ?_)
  refine s_objinit (ix := 3) (by decide +kernel) (by decide +kernel) (by decide) (pn 4 rfl ?_)
  refine s_aload_n (i := 0) (by decide +kernel) rfl (pn 5 rfl ?_)
  refine t_bipush (n := 8) (v := nI 8) (by decide +kernel) (by decide +kernel) (pn 7 rfl ?_)
  refine k_np (ty := .int) (ix := 9) (kd := 0) (n := 8) (kf := 0) (ci := 7) (by decide +kernel) rfl (by omega) (by decide +kernel) (fin := true) (by decide +kernel) (fun _ => ⟨rfl, rfl⟩) g (by omega) (by omega) hM (fun M g hM l1 => ?_)
  refine pn 12 rfl ?_
  generalize e1 : mNP t a 0 0 8 = t1 at g hM l1 ⊢
  refine s_aload_n (i := 0) (by decide +kernel) rfl (pn 13 rfl ?_)
  refine t_bipush (n := 8) (v := nI 8) (by decide +kernel) (by decide +kernel) (pn 15 rfl ?_)
  refine k_np (ty := .int) (ix := 15) (kd := 0) (n := 8) (kf := 1) (ci := 7) (by decide +kernel) rfl (by omega) (by decide +kernel) (fin := true) (by decide +kernel) (fun _ => ⟨rfl, rfl⟩) g (by omega) (by omega) hM (fun M g hM l2 => ?_)
  refine pn 20 rfl ?_
  generalize e2 : mNP t1 a 1 0 8 = t2 at g hM l2 ⊢
  refine s_aload_n (i := 0) (by decide +kernel) rfl (pn 21 rfl ?_)
  refine t_bipush (n := 6) (v := nI 6) (by decide +kernel) (by decide +kernel) (pn 23 rfl ?_)
  refine k_np (ty := .int) (ix := 18) (kd := 0) (n := 6) (kf := 2) (ci := 7) (by decide +kernel) rfl (by omega) (by decide +kernel) (fin := true) (by decide +kernel) (fun _ => ⟨rfl, rfl⟩) g (by omega) (by omega) hM (fun M g hM l3 => ?_)
  refine pn 28 rfl ?_
  generalize e3 : mNP t2 a 2 0 6 = t3 at g hM l3 ⊢
  refine s_aload_n (i := 0) (by decide +kernel) rfl (pn 29 rfl ?_)
  refine t_bipush (n := 6) (v := nI 6) (by decide +kernel) (by decide +kernel) (pn 31 rfl ?_)
  refine k_np (ty := .int) (ix := 21) (kd := 0) (n := 6) (kf := 3) (ci := 7) (by decide +kernel) rfl (by omega) (by decide +kernel) (fin := true) (by decide +kernel) (fun _ => ⟨rfl, rfl⟩) g (by omega) (by omega) hM (fun M g hM l4 => ?_)
  refine pn 36 rfl ?_
  generalize e4 : mNP t3 a 3 0 6 = t4 at g hM l4 ⊢
  have ef : uf_S a t = t4 := by unfold uf_S; rw [e1, e2, e3, e4]
  unfold uv_S at hq
  rw [ef] at hq
  exact s_return (st := []) (by decide +kernel) rfl ⟨rfl, hq M hM⟩
def uf_T (a : Nat) (t : mS) : mS := mNP (mNP (mNP (t) a 0 0 6) a 1 0 6) a 2 0 6
def uv_T (a : Nat) (t : mS) (V : mV) : mV := V
theorem uex_T {a : Nat} {t : mS} {m : Nat} (g : gC t a 18 0 m) : exT t (uf_T a t) ∧ (uf_T a t).1.length = t.1.length + 3 := by
  exact xl_NP (xl_NP (xl_NP (xl_rf) g.2.1) g.2.1) g.2.1
theorem umk_T {L d : Nat} (hd : 1 ≤ d) : mkOk L d yT_init 8 3 3 3000 uf_T uv_T := by
  refine ⟨fun a t m g => uex_T g, fun t V M a Q g hl hM hq => ?_⟩
  obtain ⟨d, rfl⟩ : ∃ e, d = e + 1 := ⟨d - 1, by omega⟩
  refine pm_toV (by decide) (Nat.le_of_ble_eq_true rfl) ?_
  show pm_wp (pm_cal d) prog_10_method_1_code 8 none true 0 [.ref a] [] (toE L t) M (fun r E1 M1 => r = none ∧ Q E1 M1)
  refine s_aload_n (i := 0) (by decide +kernel) rfl (pn 1 rfl ?_)
  refine s_objinit (ix := 3) (by decide +kernel) (by decide +kernel) (by decide) (pn 4 rfl ?_)
  refine s_aload_n (i := 0) (by decide +kernel) rfl (pn 5 rfl ?_)
  refine t_bipush (n := 6) (v := nI 6) (by decide +kernel) (by decide +kernel) (pn 7 rfl ?_)
  refine k_np (ty := .int) (ix := 9) (kd := 0) (n := 6) (kf := 0) (ci := 8) (by decide +kernel) rfl (by omega) (by decide +kernel) (fin := true) (by decide +kernel) (fun _ => ⟨rfl, rfl⟩) g (by omega) (by omega) hM (fun M g hM l1 => ?_)
  refine pn 12 rfl ?_
  generalize e1 : mNP t a 0 0 6 = t1 at g hM l1 ⊢
  refine s_aload_n (i := 0) (by decide +kernel) rfl (pn 13 rfl ?_)
  refine t_bipush (n := 6) (v := nI 6) (by decide +kernel) (by decide +kernel) (pn 15 rfl ?_)
  refine k_np (ty := .int) (ix := 15) (kd := 0) (n := 6) (kf := 1) (ci := 8) (by decide +kernel) rfl (by omega) (by decide +kernel) (fin := true) (by decide +kernel) (fun _ => ⟨rfl, rfl⟩) g (by omega) (by omega) hM (fun M g hM l2 => ?_)
  refine pn 20 rfl ?_
  generalize e2 : mNP t1 a 1 0 6 = t2 at g hM l2 ⊢
  refine s_aload_n (i := 0) (by decide +kernel) rfl (pn 21 rfl ?_)
  refine t_bipush (n := 6) (v := nI 6) (by decide +kernel) (by decide +kernel) (pn 23 rfl ?_)
  refine k_np (ty := .int) (ix := 18) (kd := 0) (n := 6) (kf := 2) (ci := 8) (by decide +kernel) rfl (by omega) (by decide +kernel) (fin := true) (by decide +kernel) (fun _ => ⟨rfl, rfl⟩) g (by omega) (by omega) hM (fun M g hM l3 => ?_)
  refine pn 28 rfl ?_
  generalize e3 : mNP t2 a 2 0 6 = t3 at g hM l3 ⊢
  have ef : uf_T a t = t3 := by unfold uf_T; rw [e1, e2, e3]
  unfold uv_T at hq
  rw [ef] at hq
  exact s_return (st := []) (by decide +kernel) rfl ⟨rfl, hq M hM⟩
def uf_Y (a : Nat) (t : mS) : mS := mNP (t) a 0 1 40
def uv_Y (a : Nat) (t : mS) (V : mV) : mV := mP (V) a 2 ((-1))
theorem uex_Y {a : Nat} {t : mS} {m : Nat} (g : gC t a 19 0 m) : exT t (uf_Y a t) ∧ (uf_Y a t).1.length = t.1.length + 1 := by
  exact xl_NP (xl_rf) g.2.1
theorem umk_Y {L d : Nat} (hd : 1 ≤ d) : mkOk L d yY_init 9 3 1 3000 uf_Y uv_Y := by
  refine ⟨fun a t m g => uex_Y g, fun t V M a Q g hl hM hq => ?_⟩
  obtain ⟨d, rfl⟩ : ∃ e, d = e + 1 := ⟨d - 1, by omega⟩
  refine pm_toV (by decide) (Nat.le_of_ble_eq_true rfl) ?_
  show pm_wp (pm_cal d) prog_11_method_1_code 9 none true 0 [.ref a] [] (toE L t) M (fun r E1 M1 => r = none ∧ Q E1 M1)
  refine s_aload_n (i := 0) (by decide +kernel) rfl (pn 1 rfl ?_)
  refine s_objinit (ix := 3) (by decide +kernel) (by decide +kernel) (by decide) (pn 4 rfl ?_)
  refine s_aload_n (i := 0) (by decide +kernel) rfl (pn 5 rfl ?_)
  refine t_bipush (n := 40) (v := nI 40) (by decide +kernel) (by decide +kernel) (pn 7 rfl ?_)
  refine k_np (ty := .long) (ix := 9) (kd := 1) (n := 40) (kf := 0) (ci := 9) (by decide +kernel) rfl (by omega) (by decide +kernel) (fin := true) (by decide +kernel) (fun _ => ⟨rfl, rfl⟩) g (by omega) (by omega) hM (fun M g hM l1 => ?_)
  refine pn 12 rfl ?_
  generalize e1 : mNP t a 0 1 40 = t1 at g hM l1 ⊢
  refine s_aload_n (i := 0) (by decide +kernel) rfl (pn 13 rfl ?_)
  refine t_iconst (n := -1) (v := (-1)) (by decide +kernel) (by decide +kernel) (pn 14 rfl ?_)
  refine k_pi (ix := 15) (kf := 2) (ci := 9) (fin := false) (by decide +kernel) (by decide +kernel) (fun _ => ⟨rfl, rfl⟩) g (by omega) hM (fun M hM => ?_)
  refine pn 17 rfl ?_
  have ef : uf_Y a t = t1 := by unfold uf_Y; rw [e1]
  unfold uv_Y at hq
  rw [ef] at hq
  exact s_return (st := []) (by decide +kernel) rfl ⟨rfl, hq M hM⟩
def uf_H (a : Nat) (t : mS) : mS := mNP (t) a 0 0 1792
def uv_H (a : Nat) (t : mS) (V : mV) : mV := V
theorem uex_H {a : Nat} {t : mS} {m : Nat} (g : gC t a 20 0 m) : exT t (uf_H a t) ∧ (uf_H a t).1.length = t.1.length + 1 := by
  exact xl_NP (xl_rf) g.2.1
theorem umk_H {L d : Nat} (hd : 1 ≤ d) : mkOk L d yH_init 10 1 1 3000 uf_H uv_H := by
  refine ⟨fun a t m g => uex_H g, fun t V M a Q g hl hM hq => ?_⟩
  obtain ⟨d, rfl⟩ : ∃ e, d = e + 1 := ⟨d - 1, by omega⟩
  refine pm_toV (by decide) (Nat.le_of_ble_eq_true rfl) ?_
  show pm_wp (pm_cal d) prog_12_method_1_code 10 none true 0 [.ref a] [] (toE L t) M (fun r E1 M1 => r = none ∧ Q E1 M1)
  refine s_aload_n (i := 0) (by decide +kernel) rfl (pn 1 rfl ?_)
  refine s_objinit (ix := 3) (by decide +kernel) (by decide +kernel) (by decide) (pn 4 rfl ?_)
  refine s_aload_n (i := 0) (by decide +kernel) rfl (pn 5 rfl ?_)
  refine t_sipush (n := 1792) (v := nI 1792) (by decide +kernel) (by decide +kernel) (pn 8 rfl ?_)
  refine k_np (ty := .int) (ix := 9) (kd := 0) (n := 1792) (kf := 0) (ci := 10) (by decide +kernel) rfl (by omega) (by decide +kernel) (fin := true) (by decide +kernel) (fun _ => ⟨rfl, rfl⟩) g (by omega) (by omega) hM (fun M g hM l1 => ?_)
  refine pn 13 rfl ?_
  generalize e1 : mNP t a 0 0 1792 = t1 at g hM l1 ⊢
  have ef : uf_H a t = t1 := by unfold uf_H; rw [e1]
  unfold uv_H at hq
  rw [ef] at hq
  exact s_return (st := []) (by decide +kernel) rfl ⟨rfl, hq M hM⟩
