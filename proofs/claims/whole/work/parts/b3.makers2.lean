/-! makers: the object, the model (written by gen_mk2.py) -/
def jGT0 : mS := mNew ([], [], 0) 21 0 17 17
def jGV0 (sc : Nat → Int32) : mV := (sc, [])
def jGT1 : mS := uf_R 1 (mNew jGT0 16 0 12 12)
def jGV1 (sc : Nat → Int32) : mV := uv_R 1 (mNew jGT0 16 0 12 12) (jGV0 sc)
def jGT2 : mS := mSet jGT1 0 0 1
def jGT3 : mS := uf_L 15 (mNew jGT2 13 0 13 13)
def jGV2 (sc : Nat → Int32) : mV := uv_L 15 (mNew jGT2 13 0 13 13) (jGV1 sc)
def jGT4 : mS := mSet jGT3 0 1 15
def jGT5 : mS := uf_S 27 (mNew jGT4 17 0 8 8)
def jGV3 (sc : Nat → Int32) : mV := uv_S 27 (mNew jGT4 17 0 8 8) (jGV2 sc)
def jGT6 : mS := mSet jGT5 0 2 27
def jGT7 : mS := uf_S 32 (mNew jGT6 17 0 8 8)
def jGV4 (sc : Nat → Int32) : mV := uv_S 32 (mNew jGT6 17 0 8 8) (jGV3 sc)
def jGT8 : mS := mSet jGT7 0 3 32
def jGT9 : mS := mNew jGT8 3 10 10 10
def jGT10 : mS := mSet jGT9 0 4 37
def jGT11 : mS := mNew jGT10 4 4 4 4
def jGT12 : mS := mSet jGT11 0 7 38
def jGT13 : mS := mNew jGT12 5 2 2 2
def jGT14 : mS := mSet jGT13 0 8 39
def jGT15 : mS := mNew jGT14 3 2 2 2
def jGT16 : mS := mSet jGT15 0 9 40
def jGT17 : mS := uf_K 41 (mNew jGT16 10 0 1 1)
def jGV5 (sc : Nat → Int32) : mV := uv_K 41 (mNew jGT16 10 0 1 1) (jGV4 sc)
def jGT18 : mS := mSet jGT17 0 11 41
def jGT19 : mS := uf_F 43 (mNew jGT18 12 0 11 11)
def jGV6 (sc : Nat → Int32) : mV := uv_F 43 (mNew jGT18 12 0 11 11) (jGV5 sc)
def jGT20 : mS := mSet jGT19 0 12 43
def jGT21 : mS := uf_H 52 (mNew jGT20 20 0 1 1)
def jGV7 (sc : Nat → Int32) : mV := uv_H 52 (mNew jGT20 20 0 1 1) (jGV6 sc)
def jGT22 : mS := mSet jGT21 0 13 52
def jGT23 : mS := uf_T 54 (mNew jGT22 18 0 3 3)
def jGV8 (sc : Nat → Int32) : mV := uv_T 54 (mNew jGT22 18 0 3 3) (jGV7 sc)
def jGT24 : mS := mSet jGT23 0 14 54
def jGT25 : mS := uf_N 58 (mNew jGT24 15 0 9 9)
def jGV9 (sc : Nat → Int32) : mV := uv_N 58 (mNew jGT24 15 0 9 9) (jGV8 sc)
def jGT26 : mS := mSet jGT25 0 15 58
def jGT27 : mS := uf_O 64 (mNew jGT26 14 0 3 3)
def jGV10 (sc : Nat → Int32) : mV := uv_O 64 (mNew jGT26 14 0 3 3) (jGV9 sc)
def jGT28 : mS := mSet jGT27 0 16 64
def jGT29 : mS := uf_S 67 (mNew jGT28 17 0 8 8)
def jGV11 (sc : Nat → Int32) : mV := uv_S 67 (mNew jGT28 17 0 8 8) (jGV10 sc)
def jGT30 : mS := mSet jGT29 37 0 67
def jGT31 : mS := uf_S 72 (mNew jGT30 17 0 8 8)
def jGV12 (sc : Nat → Int32) : mV := uv_S 72 (mNew jGT30 17 0 8 8) (jGV11 sc)
def jGT32 : mS := mSet jGT31 37 1 72
def jGT33 : mS := uf_S 77 (mNew jGT32 17 0 8 8)
def jGV13 (sc : Nat → Int32) : mV := uv_S 77 (mNew jGT32 17 0 8 8) (jGV12 sc)
def jGT34 : mS := mSet jGT33 37 2 77
def jGT35 : mS := uf_S 82 (mNew jGT34 17 0 8 8)
def jGV14 (sc : Nat → Int32) : mV := uv_S 82 (mNew jGT34 17 0 8 8) (jGV13 sc)
def jGT36 : mS := mSet jGT35 37 3 82
def jGT37 : mS := uf_S 87 (mNew jGT36 17 0 8 8)
def jGV15 (sc : Nat → Int32) : mV := uv_S 87 (mNew jGT36 17 0 8 8) (jGV14 sc)
def jGT38 : mS := mSet jGT37 37 4 87
def jGT39 : mS := uf_S 92 (mNew jGT38 17 0 8 8)
def jGV16 (sc : Nat → Int32) : mV := uv_S 92 (mNew jGT38 17 0 8 8) (jGV15 sc)
def jGT40 : mS := mSet jGT39 37 5 92
def jGT41 : mS := uf_S 97 (mNew jGT40 17 0 8 8)
def jGV17 (sc : Nat → Int32) : mV := uv_S 97 (mNew jGT40 17 0 8 8) (jGV16 sc)
def jGT42 : mS := mSet jGT41 37 6 97
def jGT43 : mS := uf_S 102 (mNew jGT42 17 0 8 8)
def jGV18 (sc : Nat → Int32) : mV := uv_S 102 (mNew jGT42 17 0 8 8) (jGV17 sc)
def jGT44 : mS := mSet jGT43 37 7 102
def jGT45 : mS := uf_S 107 (mNew jGT44 17 0 8 8)
def jGV19 (sc : Nat → Int32) : mV := uv_S 107 (mNew jGT44 17 0 8 8) (jGV18 sc)
def jGT46 : mS := mSet jGT45 37 8 107
def jGT47 : mS := uf_S 112 (mNew jGT46 17 0 8 8)
def jGV20 (sc : Nat → Int32) : mV := uv_S 112 (mNew jGT46 17 0 8 8) (jGV19 sc)
def jGT48 : mS := mSet jGT47 37 9 112
def jGT49 : mS := uf_Y 117 (mNew jGT48 19 0 3 3)
def jGV21 (sc : Nat → Int32) : mV := uv_Y 117 (mNew jGT48 19 0 3 3) (jGV20 sc)
def jGT50 : mS := mSet jGT49 38 0 117
def jGT51 : mS := uf_Y 119 (mNew jGT50 19 0 3 3)
def jGV22 (sc : Nat → Int32) : mV := uv_Y 119 (mNew jGT50 19 0 3 3) (jGV21 sc)
def jGT52 : mS := mSet jGT51 38 1 119
def jGT53 : mS := uf_Y 121 (mNew jGT52 19 0 3 3)
def jGV23 (sc : Nat → Int32) : mV := uv_Y 121 (mNew jGT52 19 0 3 3) (jGV22 sc)
def jGT54 : mS := mSet jGT53 38 2 121
def jGT55 : mS := uf_Y 123 (mNew jGT54 19 0 3 3)
def jGV24 (sc : Nat → Int32) : mV := uv_Y 123 (mNew jGT54 19 0 3 3) (jGV23 sc)
def jGT56 : mS := mSet jGT55 38 3 123
def jGT57 : mS := uf_L 125 (mNew jGT56 13 0 13 13)
def jGV25 (sc : Nat → Int32) : mV := uv_L 125 (mNew jGT56 13 0 13 13) (jGV24 sc)
def jGT58 : mS := mSet jGT57 39 0 125
def jGT59 : mS := uf_S 137 (mNew jGT58 17 0 8 8)
def jGV26 (sc : Nat → Int32) : mV := uv_S 137 (mNew jGT58 17 0 8 8) (jGV25 sc)
def jGT60 : mS := mSet jGT59 40 0 137
def jGT61 : mS := uf_L 142 (mNew jGT60 13 0 13 13)
def jGV27 (sc : Nat → Int32) : mV := uv_L 142 (mNew jGT60 13 0 13 13) (jGV26 sc)
def jGT62 : mS := mSet jGT61 39 1 142
def jGT63 : mS := uf_S 154 (mNew jGT62 17 0 8 8)
def jGV28 (sc : Nat → Int32) : mV := uv_S 154 (mNew jGT62 17 0 8 8) (jGV27 sc)
def jGT64 : mS := mSet jGT63 40 1 154
theorem umk_G {L d : Nat} (hd : 4 ≤ d) {M : pm_M} {Q : pm_E → pm_M → Prop} {sc : Nat → Int32} (hM : okM 1 (sc, []) M) (hq : ∀ M, okM 159 (jGV28 sc) M → Q (toE L jGT64) M) : pm_callV (pm_cal d) yG_init [.ref 0] (toE L jGT0) M Q := by
  obtain ⟨d, rfl⟩ : ∃ e, d = e + 1 := ⟨d - 1, by omega⟩
  refine pm_toV (by decide) (Nat.le_of_ble_eq_true rfl) ?_
  show pm_wp (pm_cal d) prog_1_method_1_code 11 none true 0 [.ref 0, .null] [] (toE L jGT0) M (fun r E1 M1 => r = none ∧ Q E1 M1)
  have hM : okM 1 (jGV0 sc) M := hM
  refine s_aload_n (i := 0) (by decide +kernel) rfl (pn 1 rfl ?_)
  refine s_objinit (ix := 1) (by decide +kernel) (by decide +kernel) (by decide) (pn 4 rfl ?_)
  refine s_aload_n (i := 0) (by decide +kernel) rfl (pn 5 rfl ?_)
  refine k_noC (i1 := 7) (i2 := 9) (cj := 6) (mj := 12) 1 (by decide +kernel) (by decide +kernel) (by decide +kernel) (by decide +kernel) (by decide +kernel) (by decide +kernel) (by decide +kernel) rfl (umk_R (by omega)) (by omega) (by omega) (Nat.le_of_ble_eq_true rfl) hM (fun M hM => ?_)
  refine pn 12 rfl ?_
  show pm_wp (pm_cal d) prog_1_method_1_code 11 none true 12 [.ref 0, .null] [.ref 1, .ref 0] (toE L jGT1) M (fun r E1 M1 => r = none ∧ Q E1 M1)
  have hM : okM 15 (jGV1 sc) M := hM
  refine k_paC (ix := 10) (kf := 0) (ci := 11) (m := 17) (fin := true) (by decide +kernel) (by decide +kernel) (fun _ => ⟨rfl, rfl⟩) (by decide +kernel) (by omega) (by decide +kernel) ?_
  refine pn 15 rfl ?_
  show pm_wp (pm_cal d) prog_1_method_1_code 11 none true 15 [.ref 0, .null] [] (toE L jGT2) M (fun r E1 M1 => r = none ∧ Q E1 M1)
  have hM : okM 15 (jGV1 sc) M := hM
  refine s_aload_n (i := 0) (by decide +kernel) rfl (pn 16 rfl ?_)
  refine k_noC (i1 := 16) (i2 := 18) (cj := 3) (mj := 13) 15 (by decide +kernel) (by decide +kernel) (by decide +kernel) (by decide +kernel) (by decide +kernel) (by decide +kernel) (by decide +kernel) rfl (umk_L (by omega)) (by omega) (by omega) (Nat.le_of_ble_eq_true rfl) hM (fun M hM => ?_)
  refine pn 23 rfl ?_
  show pm_wp (pm_cal d) prog_1_method_1_code 11 none true 23 [.ref 0, .null] [.ref 15, .ref 0] (toE L jGT3) M (fun r E1 M1 => r = none ∧ Q E1 M1)
  have hM : okM 27 (jGV2 sc) M := hM
  refine k_paC (ix := 19) (kf := 1) (ci := 11) (m := 17) (fin := true) (by decide +kernel) (by decide +kernel) (fun _ => ⟨rfl, rfl⟩) (by decide +kernel) (by omega) (by decide +kernel) ?_
  refine pn 26 rfl ?_
  show pm_wp (pm_cal d) prog_1_method_1_code 11 none true 26 [.ref 0, .null] [] (toE L jGT4) M (fun r E1 M1 => r = none ∧ Q E1 M1)
  have hM : okM 27 (jGV2 sc) M := hM
  refine s_aload_n (i := 0) (by decide +kernel) rfl (pn 27 rfl ?_)
  refine k_noC (i1 := 23) (i2 := 25) (cj := 7) (mj := 8) 27 (by decide +kernel) (by decide +kernel) (by decide +kernel) (by decide +kernel) (by decide +kernel) (by decide +kernel) (by decide +kernel) rfl (umk_S (by omega)) (by omega) (by omega) (Nat.le_of_ble_eq_true rfl) hM (fun M hM => ?_)
  refine pn 34 rfl ?_
  show pm_wp (pm_cal d) prog_1_method_1_code 11 none true 34 [.ref 0, .null] [.ref 27, .ref 0] (toE L jGT5) M (fun r E1 M1 => r = none ∧ Q E1 M1)
  have hM : okM 32 (jGV3 sc) M := hM
  refine k_paC (ix := 26) (kf := 2) (ci := 11) (m := 17) (fin := true) (by decide +kernel) (by decide +kernel) (fun _ => ⟨rfl, rfl⟩) (by decide +kernel) (by omega) (by decide +kernel) ?_
  refine pn 37 rfl ?_
  show pm_wp (pm_cal d) prog_1_method_1_code 11 none true 37 [.ref 0, .null] [] (toE L jGT6) M (fun r E1 M1 => r = none ∧ Q E1 M1)
  have hM : okM 32 (jGV3 sc) M := hM
  refine s_aload_n (i := 0) (by decide +kernel) rfl (pn 38 rfl ?_)
  refine k_noC (i1 := 23) (i2 := 25) (cj := 7) (mj := 8) 32 (by decide +kernel) (by decide +kernel) (by decide +kernel) (by decide +kernel) (by decide +kernel) (by decide +kernel) (by decide +kernel) rfl (umk_S (by omega)) (by omega) (by omega) (Nat.le_of_ble_eq_true rfl) hM (fun M hM => ?_)
  refine pn 45 rfl ?_
  show pm_wp (pm_cal d) prog_1_method_1_code 11 none true 45 [.ref 0, .null] [.ref 32, .ref 0] (toE L jGT7) M (fun r E1 M1 => r = none ∧ Q E1 M1)
  have hM : okM 37 (jGV4 sc) M := hM
  refine k_paC (ix := 30) (kf := 3) (ci := 11) (m := 17) (fin := true) (by decide +kernel) (by decide +kernel) (fun _ => ⟨rfl, rfl⟩) (by decide +kernel) (by omega) (by decide +kernel) ?_
  refine pn 48 rfl ?_
  show pm_wp (pm_cal d) prog_1_method_1_code 11 none true 48 [.ref 0, .null] [] (toE L jGT8) M (fun r E1 M1 => r = none ∧ Q E1 M1)
  have hM : okM 37 (jGV4 sc) M := hM
  refine s_aload_n (i := 0) (by decide +kernel) rfl (pn 49 rfl ?_)
  refine t_bipush (n := 10) (v := nI 10) (by decide +kernel) (by decide +kernel) (pn 51 rfl ?_)
  refine k_awC (ix := 23) (kd := 3) (n := 10) 37 (by decide +kernel) (by decide +kernel) (by decide +kernel) (by omega) (by omega) hM (fun M hM => ?_)
  refine pn 54 rfl ?_
  show pm_wp (pm_cal d) prog_1_method_1_code 11 none true 54 [.ref 0, .null] [.ref 37, .ref 0] (toE L jGT9) M (fun r E1 M1 => r = none ∧ Q E1 M1)
  have hM : okM 38 (jGV4 sc) M := hM
  refine k_paC (ix := 33) (kf := 4) (ci := 11) (m := 17) (fin := true) (by decide +kernel) (by decide +kernel) (fun _ => ⟨rfl, rfl⟩) (by decide +kernel) (by omega) (by decide +kernel) ?_
  refine pn 57 rfl ?_
  show pm_wp (pm_cal d) prog_1_method_1_code 11 none true 57 [.ref 0, .null] [] (toE L jGT10) M (fun r E1 M1 => r = none ∧ Q E1 M1)
  have hM : okM 38 (jGV4 sc) M := hM
  refine s_aload_n (i := 0) (by decide +kernel) rfl (pn 58 rfl ?_)
  refine t_iconst (n := 4) (v := nI 4) (by decide +kernel) (by decide +kernel) (pn 59 rfl ?_)
  refine k_awC (ix := 37) (kd := 4) (n := 4) 38 (by decide +kernel) (by decide +kernel) (by decide +kernel) (by omega) (by omega) hM (fun M hM => ?_)
  refine pn 62 rfl ?_
  show pm_wp (pm_cal d) prog_1_method_1_code 11 none true 62 [.ref 0, .null] [.ref 38, .ref 0] (toE L jGT11) M (fun r E1 M1 => r = none ∧ Q E1 M1)
  have hM : okM 39 (jGV4 sc) M := hM
  refine k_paC (ix := 39) (kf := 7) (ci := 11) (m := 17) (fin := true) (by decide +kernel) (by decide +kernel) (fun _ => ⟨rfl, rfl⟩) (by decide +kernel) (by omega) (by decide +kernel) ?_
  refine pn 65 rfl ?_
  show pm_wp (pm_cal d) prog_1_method_1_code 11 none true 65 [.ref 0, .null] [] (toE L jGT12) M (fun r E1 M1 => r = none ∧ Q E1 M1)
  have hM : okM 39 (jGV4 sc) M := hM
  refine s_aload_n (i := 0) (by decide +kernel) rfl (pn 66 rfl ?_)
  refine t_iconst (n := 2) (v := nI 2) (by decide +kernel) (by decide +kernel) (pn 67 rfl ?_)
  refine k_awC (ix := 16) (kd := 5) (n := 2) 39 (by decide +kernel) (by decide +kernel) (by decide +kernel) (by omega) (by omega) hM (fun M hM => ?_)
  refine pn 70 rfl ?_
  show pm_wp (pm_cal d) prog_1_method_1_code 11 none true 70 [.ref 0, .null] [.ref 39, .ref 0] (toE L jGT13) M (fun r E1 M1 => r = none ∧ Q E1 M1)
  have hM : okM 40 (jGV4 sc) M := hM
  refine k_paC (ix := 43) (kf := 8) (ci := 11) (m := 17) (fin := true) (by decide +kernel) (by decide +kernel) (fun _ => ⟨rfl, rfl⟩) (by decide +kernel) (by omega) (by decide +kernel) ?_
  refine pn 73 rfl ?_
  show pm_wp (pm_cal d) prog_1_method_1_code 11 none true 73 [.ref 0, .null] [] (toE L jGT14) M (fun r E1 M1 => r = none ∧ Q E1 M1)
  have hM : okM 40 (jGV4 sc) M := hM
  refine s_aload_n (i := 0) (by decide +kernel) rfl (pn 74 rfl ?_)
  refine t_iconst (n := 2) (v := nI 2) (by decide +kernel) (by decide +kernel) (pn 75 rfl ?_)
  refine k_awC (ix := 23) (kd := 3) (n := 2) 40 (by decide +kernel) (by decide +kernel) (by decide +kernel) (by omega) (by omega) hM (fun M hM => ?_)
  refine pn 78 rfl ?_
  show pm_wp (pm_cal d) prog_1_method_1_code 11 none true 78 [.ref 0, .null] [.ref 40, .ref 0] (toE L jGT15) M (fun r E1 M1 => r = none ∧ Q E1 M1)
  have hM : okM 41 (jGV4 sc) M := hM
  refine k_paC (ix := 47) (kf := 9) (ci := 11) (m := 17) (fin := true) (by decide +kernel) (by decide +kernel) (fun _ => ⟨rfl, rfl⟩) (by decide +kernel) (by omega) (by decide +kernel) ?_
  refine pn 81 rfl ?_
  show pm_wp (pm_cal d) prog_1_method_1_code 11 none true 81 [.ref 0, .null] [] (toE L jGT16) M (fun r E1 M1 => r = none ∧ Q E1 M1)
  have hM : okM 41 (jGV4 sc) M := hM
  refine s_aload_n (i := 0) (by decide +kernel) rfl (pn 82 rfl ?_)
  refine k_noC (i1 := 50) (i2 := 52) (cj := 0) (mj := 1) 41 (by decide +kernel) (by decide +kernel) (by decide +kernel) (by decide +kernel) (by decide +kernel) (by decide +kernel) (by decide +kernel) rfl (umk_K (by omega)) (by omega) (by omega) (Nat.le_of_ble_eq_true rfl) hM (fun M hM => ?_)
  refine pn 89 rfl ?_
  show pm_wp (pm_cal d) prog_1_method_1_code 11 none true 89 [.ref 0, .null] [.ref 41, .ref 0] (toE L jGT17) M (fun r E1 M1 => r = none ∧ Q E1 M1)
  have hM : okM 43 (jGV5 sc) M := hM
  refine k_paC (ix := 53) (kf := 11) (ci := 11) (m := 17) (fin := true) (by decide +kernel) (by decide +kernel) (fun _ => ⟨rfl, rfl⟩) (by decide +kernel) (by omega) (by decide +kernel) ?_
  refine pn 92 rfl ?_
  show pm_wp (pm_cal d) prog_1_method_1_code 11 none true 92 [.ref 0, .null] [] (toE L jGT18) M (fun r E1 M1 => r = none ∧ Q E1 M1)
  have hM : okM 43 (jGV5 sc) M := hM
  refine s_aload_n (i := 0) (by decide +kernel) rfl (pn 93 rfl ?_)
  refine k_noC (i1 := 57) (i2 := 59) (cj := 2) (mj := 11) 43 (by decide +kernel) (by decide +kernel) (by decide +kernel) (by decide +kernel) (by decide +kernel) (by decide +kernel) (by decide +kernel) rfl (umk_F (by omega)) (by omega) (by omega) (Nat.le_of_ble_eq_true rfl) hM (fun M hM => ?_)
  refine pn 100 rfl ?_
  show pm_wp (pm_cal d) prog_1_method_1_code 11 none true 100 [.ref 0, .null] [.ref 43, .ref 0] (toE L jGT19) M (fun r E1 M1 => r = none ∧ Q E1 M1)
  have hM : okM 52 (jGV6 sc) M := hM
  refine k_paC (ix := 60) (kf := 12) (ci := 11) (m := 17) (fin := true) (by decide +kernel) (by decide +kernel) (fun _ => ⟨rfl, rfl⟩) (by decide +kernel) (by omega) (by decide +kernel) ?_
  refine pn 103 rfl ?_
  show pm_wp (pm_cal d) prog_1_method_1_code 11 none true 103 [.ref 0, .null] [] (toE L jGT20) M (fun r E1 M1 => r = none ∧ Q E1 M1)
  have hM : okM 52 (jGV6 sc) M := hM
  refine s_aload_n (i := 0) (by decide +kernel) rfl (pn 104 rfl ?_)
  refine k_noC (i1 := 64) (i2 := 66) (cj := 10) (mj := 1) 52 (by decide +kernel) (by decide +kernel) (by decide +kernel) (by decide +kernel) (by decide +kernel) (by decide +kernel) (by decide +kernel) rfl (umk_H (by omega)) (by omega) (by omega) (Nat.le_of_ble_eq_true rfl) hM (fun M hM => ?_)
  refine pn 111 rfl ?_
  show pm_wp (pm_cal d) prog_1_method_1_code 11 none true 111 [.ref 0, .null] [.ref 52, .ref 0] (toE L jGT21) M (fun r E1 M1 => r = none ∧ Q E1 M1)
  have hM : okM 54 (jGV7 sc) M := hM
  refine k_paC (ix := 67) (kf := 13) (ci := 11) (m := 17) (fin := true) (by decide +kernel) (by decide +kernel) (fun _ => ⟨rfl, rfl⟩) (by decide +kernel) (by omega) (by decide +kernel) ?_
  refine pn 114 rfl ?_
  show pm_wp (pm_cal d) prog_1_method_1_code 11 none true 114 [.ref 0, .null] [] (toE L jGT22) M (fun r E1 M1 => r = none ∧ Q E1 M1)
  have hM : okM 54 (jGV7 sc) M := hM
  refine s_aload_n (i := 0) (by decide +kernel) rfl (pn 115 rfl ?_)
  refine k_noC (i1 := 71) (i2 := 73) (cj := 8) (mj := 3) 54 (by decide +kernel) (by decide +kernel) (by decide +kernel) (by decide +kernel) (by decide +kernel) (by decide +kernel) (by decide +kernel) rfl (umk_T (by omega)) (by omega) (by omega) (Nat.le_of_ble_eq_true rfl) hM (fun M hM => ?_)
  refine pn 122 rfl ?_
  show pm_wp (pm_cal d) prog_1_method_1_code 11 none true 122 [.ref 0, .null] [.ref 54, .ref 0] (toE L jGT23) M (fun r E1 M1 => r = none ∧ Q E1 M1)
  have hM : okM 58 (jGV8 sc) M := hM
  refine k_paC (ix := 74) (kf := 14) (ci := 11) (m := 17) (fin := true) (by decide +kernel) (by decide +kernel) (fun _ => ⟨rfl, rfl⟩) (by decide +kernel) (by omega) (by decide +kernel) ?_
  refine pn 125 rfl ?_
  show pm_wp (pm_cal d) prog_1_method_1_code 11 none true 125 [.ref 0, .null] [] (toE L jGT24) M (fun r E1 M1 => r = none ∧ Q E1 M1)
  have hM : okM 58 (jGV8 sc) M := hM
  refine s_aload_n (i := 0) (by decide +kernel) rfl (pn 126 rfl ?_)
  refine k_noC (i1 := 78) (i2 := 80) (cj := 5) (mj := 9) 58 (by decide +kernel) (by decide +kernel) (by decide +kernel) (by decide +kernel) (by decide +kernel) (by decide +kernel) (by decide +kernel) rfl (umk_N (by omega)) (by omega) (by omega) (Nat.le_of_ble_eq_true rfl) hM (fun M hM => ?_)
  refine pn 133 rfl ?_
  show pm_wp (pm_cal d) prog_1_method_1_code 11 none true 133 [.ref 0, .null] [.ref 58, .ref 0] (toE L jGT25) M (fun r E1 M1 => r = none ∧ Q E1 M1)
  have hM : okM 64 (jGV9 sc) M := hM
  refine k_paC (ix := 81) (kf := 15) (ci := 11) (m := 17) (fin := true) (by decide +kernel) (by decide +kernel) (fun _ => ⟨rfl, rfl⟩) (by decide +kernel) (by omega) (by decide +kernel) ?_
  refine pn 136 rfl ?_
  show pm_wp (pm_cal d) prog_1_method_1_code 11 none true 136 [.ref 0, .null] [] (toE L jGT26) M (fun r E1 M1 => r = none ∧ Q E1 M1)
  have hM : okM 64 (jGV9 sc) M := hM
  refine s_aload_n (i := 0) (by decide +kernel) rfl (pn 137 rfl ?_)
  refine k_noC (i1 := 85) (i2 := 87) (cj := 4) (mj := 3) 64 (by decide +kernel) (by decide +kernel) (by decide +kernel) (by decide +kernel) (by decide +kernel) (by decide +kernel) (by decide +kernel) rfl (umk_O (by omega)) (by omega) (by omega) (Nat.le_of_ble_eq_true rfl) hM (fun M hM => ?_)
  refine pn 144 rfl ?_
  show pm_wp (pm_cal d) prog_1_method_1_code 11 none true 144 [.ref 0, .null] [.ref 64, .ref 0] (toE L jGT27) M (fun r E1 M1 => r = none ∧ Q E1 M1)
  have hM : okM 67 (jGV10 sc) M := hM
  refine k_paC (ix := 88) (kf := 16) (ci := 11) (m := 17) (fin := true) (by decide +kernel) (by decide +kernel) (fun _ => ⟨rfl, rfl⟩) (by decide +kernel) (by omega) (by decide +kernel) ?_
  refine pn 147 rfl ?_
  show pm_wp (pm_cal d) prog_1_method_1_code 11 none true 147 [.ref 0, .null] [] (toE L jGT28) M (fun r E1 M1 => r = none ∧ Q E1 M1)
  have hM : okM 67 (jGV10 sc) M := hM
  refine t_iconst (n := 0) (v := nI 0) (by decide +kernel) (by decide +kernel) (pn 148 rfl ?_)
  refine s_istore_n (i := 1) (by decide +kernel) (Nat.le_of_ble_eq_true rfl) (pn 149 rfl (t_store (ls' := [.ref 0, .int (nI 0)]) rfl ?_))
  refine s_iload_n (i := 1) (by decide +kernel) rfl (pn 150 rfl ?_)
  refine t_bipush (n := 10) (v := nI 10) (by decide +kernel) (by decide +kernel) (pn 152 rfl ?_)
  refine s_icmp_ge (off := 22) (tgt := 174) (by decide +kernel) rfl (fun c => absurd c (by decide)) (fun _ => (pn 155 rfl ?_))
  refine s_aload_n (i := 0) (by decide +kernel) rfl (pn 156 rfl ?_)
  refine k_gfC (x := 37) (ix := 33) (kf := 4) (ci := 11) (m := 17) (fin := true) (by decide +kernel) (by decide +kernel) (by decide +kernel) (by decide +kernel) (by decide +kernel) (pn 159 rfl ?_)
  refine s_iload_n (i := 1) (by decide +kernel) rfl (pn 160 rfl ?_)
  refine k_noC (i1 := 23) (i2 := 25) (cj := 7) (mj := 8) 67 (by decide +kernel) (by decide +kernel) (by decide +kernel) (by decide +kernel) (by decide +kernel) (by decide +kernel) (by decide +kernel) rfl (umk_S (by omega)) (by omega) (by omega) (Nat.le_of_ble_eq_true rfl) hM (fun M hM => ?_)
  refine pn 167 rfl ?_
  show pm_wp (pm_cal d) prog_1_method_1_code 11 none true 167 [.ref 0, .int (nI 0)] [.ref 67, .int (nI 0), .ref 37] (toE L jGT29) M (fun r E1 M1 => r = none ∧ Q E1 M1)
  have hM : okM 72 (jGV11 sc) M := hM
  refine k_asC (q := 3) (n := 10) (cj := 7) (m := 8) (by decide +kernel) (by decide +kernel) ⟨by omega, by omega, rfl⟩ (by decide +kernel) (by omega) (by omega) (by decide +kernel) ?_
  refine pn 168 rfl ?_
  show pm_wp (pm_cal d) prog_1_method_1_code 11 none true 168 [.ref 0, .int (nI 0)] [] (toE L jGT30) M (fun r E1 M1 => r = none ∧ Q E1 M1)
  have hM : okM 72 (jGV11 sc) M := hM
  refine t_iinc (i := 1) (n := 1) (v := 1) (ls' := [.ref 0, .int (nI 1)]) (by decide +kernel) rfl (Nat.le_of_ble_eq_true rfl) (by decide +kernel) rfl (pn 171 rfl ?_)
  refine s_goto (off := (-22)) (tgt := 149) (by decide +kernel) rfl ?_
  refine s_iload_n (i := 1) (by decide +kernel) rfl (pn 150 rfl ?_)
  refine t_bipush (n := 10) (v := nI 10) (by decide +kernel) (by decide +kernel) (pn 152 rfl ?_)
  refine s_icmp_ge (off := 22) (tgt := 174) (by decide +kernel) rfl (fun c => absurd c (by decide)) (fun _ => (pn 155 rfl ?_))
  refine s_aload_n (i := 0) (by decide +kernel) rfl (pn 156 rfl ?_)
  refine k_gfC (x := 37) (ix := 33) (kf := 4) (ci := 11) (m := 17) (fin := true) (by decide +kernel) (by decide +kernel) (by decide +kernel) (by decide +kernel) (by decide +kernel) (pn 159 rfl ?_)
  refine s_iload_n (i := 1) (by decide +kernel) rfl (pn 160 rfl ?_)
  refine k_noC (i1 := 23) (i2 := 25) (cj := 7) (mj := 8) 72 (by decide +kernel) (by decide +kernel) (by decide +kernel) (by decide +kernel) (by decide +kernel) (by decide +kernel) (by decide +kernel) rfl (umk_S (by omega)) (by omega) (by omega) (Nat.le_of_ble_eq_true rfl) hM (fun M hM => ?_)
  refine pn 167 rfl ?_
  show pm_wp (pm_cal d) prog_1_method_1_code 11 none true 167 [.ref 0, .int (nI 1)] [.ref 72, .int (nI 1), .ref 37] (toE L jGT31) M (fun r E1 M1 => r = none ∧ Q E1 M1)
  have hM : okM 77 (jGV12 sc) M := hM
  refine k_asC (q := 3) (n := 10) (cj := 7) (m := 8) (by decide +kernel) (by decide +kernel) ⟨by omega, by omega, rfl⟩ (by decide +kernel) (by omega) (by omega) (by decide +kernel) ?_
  refine pn 168 rfl ?_
  show pm_wp (pm_cal d) prog_1_method_1_code 11 none true 168 [.ref 0, .int (nI 1)] [] (toE L jGT32) M (fun r E1 M1 => r = none ∧ Q E1 M1)
  have hM : okM 77 (jGV12 sc) M := hM
  refine t_iinc (i := 1) (n := 1) (v := 1) (ls' := [.ref 0, .int (nI 2)]) (by decide +kernel) rfl (Nat.le_of_ble_eq_true rfl) (by decide +kernel) rfl (pn 171 rfl ?_)
  refine s_goto (off := (-22)) (tgt := 149) (by decide +kernel) rfl ?_
  refine s_iload_n (i := 1) (by decide +kernel) rfl (pn 150 rfl ?_)
  refine t_bipush (n := 10) (v := nI 10) (by decide +kernel) (by decide +kernel) (pn 152 rfl ?_)
  refine s_icmp_ge (off := 22) (tgt := 174) (by decide +kernel) rfl (fun c => absurd c (by decide)) (fun _ => (pn 155 rfl ?_))
  refine s_aload_n (i := 0) (by decide +kernel) rfl (pn 156 rfl ?_)
  refine k_gfC (x := 37) (ix := 33) (kf := 4) (ci := 11) (m := 17) (fin := true) (by decide +kernel) (by decide +kernel) (by decide +kernel) (by decide +kernel) (by decide +kernel) (pn 159 rfl ?_)
  refine s_iload_n (i := 1) (by decide +kernel) rfl (pn 160 rfl ?_)
  refine k_noC (i1 := 23) (i2 := 25) (cj := 7) (mj := 8) 77 (by decide +kernel) (by decide +kernel) (by decide +kernel) (by decide +kernel) (by decide +kernel) (by decide +kernel) (by decide +kernel) rfl (umk_S (by omega)) (by omega) (by omega) (Nat.le_of_ble_eq_true rfl) hM (fun M hM => ?_)
  refine pn 167 rfl ?_
  show pm_wp (pm_cal d) prog_1_method_1_code 11 none true 167 [.ref 0, .int (nI 2)] [.ref 77, .int (nI 2), .ref 37] (toE L jGT33) M (fun r E1 M1 => r = none ∧ Q E1 M1)
  have hM : okM 82 (jGV13 sc) M := hM
  refine k_asC (q := 3) (n := 10) (cj := 7) (m := 8) (by decide +kernel) (by decide +kernel) ⟨by omega, by omega, rfl⟩ (by decide +kernel) (by omega) (by omega) (by decide +kernel) ?_
  refine pn 168 rfl ?_
  show pm_wp (pm_cal d) prog_1_method_1_code 11 none true 168 [.ref 0, .int (nI 2)] [] (toE L jGT34) M (fun r E1 M1 => r = none ∧ Q E1 M1)
  have hM : okM 82 (jGV13 sc) M := hM
  refine t_iinc (i := 1) (n := 1) (v := 1) (ls' := [.ref 0, .int (nI 3)]) (by decide +kernel) rfl (Nat.le_of_ble_eq_true rfl) (by decide +kernel) rfl (pn 171 rfl ?_)
  refine s_goto (off := (-22)) (tgt := 149) (by decide +kernel) rfl ?_
  refine s_iload_n (i := 1) (by decide +kernel) rfl (pn 150 rfl ?_)
  refine t_bipush (n := 10) (v := nI 10) (by decide +kernel) (by decide +kernel) (pn 152 rfl ?_)
  refine s_icmp_ge (off := 22) (tgt := 174) (by decide +kernel) rfl (fun c => absurd c (by decide)) (fun _ => (pn 155 rfl ?_))
  refine s_aload_n (i := 0) (by decide +kernel) rfl (pn 156 rfl ?_)
  refine k_gfC (x := 37) (ix := 33) (kf := 4) (ci := 11) (m := 17) (fin := true) (by decide +kernel) (by decide +kernel) (by decide +kernel) (by decide +kernel) (by decide +kernel) (pn 159 rfl ?_)
  refine s_iload_n (i := 1) (by decide +kernel) rfl (pn 160 rfl ?_)
  refine k_noC (i1 := 23) (i2 := 25) (cj := 7) (mj := 8) 82 (by decide +kernel) (by decide +kernel) (by decide +kernel) (by decide +kernel) (by decide +kernel) (by decide +kernel) (by decide +kernel) rfl (umk_S (by omega)) (by omega) (by omega) (Nat.le_of_ble_eq_true rfl) hM (fun M hM => ?_)
  refine pn 167 rfl ?_
  show pm_wp (pm_cal d) prog_1_method_1_code 11 none true 167 [.ref 0, .int (nI 3)] [.ref 82, .int (nI 3), .ref 37] (toE L jGT35) M (fun r E1 M1 => r = none ∧ Q E1 M1)
  have hM : okM 87 (jGV14 sc) M := hM
  refine k_asC (q := 3) (n := 10) (cj := 7) (m := 8) (by decide +kernel) (by decide +kernel) ⟨by omega, by omega, rfl⟩ (by decide +kernel) (by omega) (by omega) (by decide +kernel) ?_
  refine pn 168 rfl ?_
  show pm_wp (pm_cal d) prog_1_method_1_code 11 none true 168 [.ref 0, .int (nI 3)] [] (toE L jGT36) M (fun r E1 M1 => r = none ∧ Q E1 M1)
  have hM : okM 87 (jGV14 sc) M := hM
  refine t_iinc (i := 1) (n := 1) (v := 1) (ls' := [.ref 0, .int (nI 4)]) (by decide +kernel) rfl (Nat.le_of_ble_eq_true rfl) (by decide +kernel) rfl (pn 171 rfl ?_)
  refine s_goto (off := (-22)) (tgt := 149) (by decide +kernel) rfl ?_
  refine s_iload_n (i := 1) (by decide +kernel) rfl (pn 150 rfl ?_)
  refine t_bipush (n := 10) (v := nI 10) (by decide +kernel) (by decide +kernel) (pn 152 rfl ?_)
  refine s_icmp_ge (off := 22) (tgt := 174) (by decide +kernel) rfl (fun c => absurd c (by decide)) (fun _ => (pn 155 rfl ?_))
  refine s_aload_n (i := 0) (by decide +kernel) rfl (pn 156 rfl ?_)
  refine k_gfC (x := 37) (ix := 33) (kf := 4) (ci := 11) (m := 17) (fin := true) (by decide +kernel) (by decide +kernel) (by decide +kernel) (by decide +kernel) (by decide +kernel) (pn 159 rfl ?_)
  refine s_iload_n (i := 1) (by decide +kernel) rfl (pn 160 rfl ?_)
  refine k_noC (i1 := 23) (i2 := 25) (cj := 7) (mj := 8) 87 (by decide +kernel) (by decide +kernel) (by decide +kernel) (by decide +kernel) (by decide +kernel) (by decide +kernel) (by decide +kernel) rfl (umk_S (by omega)) (by omega) (by omega) (Nat.le_of_ble_eq_true rfl) hM (fun M hM => ?_)
  refine pn 167 rfl ?_
  show pm_wp (pm_cal d) prog_1_method_1_code 11 none true 167 [.ref 0, .int (nI 4)] [.ref 87, .int (nI 4), .ref 37] (toE L jGT37) M (fun r E1 M1 => r = none ∧ Q E1 M1)
  have hM : okM 92 (jGV15 sc) M := hM
  refine k_asC (q := 3) (n := 10) (cj := 7) (m := 8) (by decide +kernel) (by decide +kernel) ⟨by omega, by omega, rfl⟩ (by decide +kernel) (by omega) (by omega) (by decide +kernel) ?_
  refine pn 168 rfl ?_
  show pm_wp (pm_cal d) prog_1_method_1_code 11 none true 168 [.ref 0, .int (nI 4)] [] (toE L jGT38) M (fun r E1 M1 => r = none ∧ Q E1 M1)
  have hM : okM 92 (jGV15 sc) M := hM
  refine t_iinc (i := 1) (n := 1) (v := 1) (ls' := [.ref 0, .int (nI 5)]) (by decide +kernel) rfl (Nat.le_of_ble_eq_true rfl) (by decide +kernel) rfl (pn 171 rfl ?_)
  refine s_goto (off := (-22)) (tgt := 149) (by decide +kernel) rfl ?_
  refine s_iload_n (i := 1) (by decide +kernel) rfl (pn 150 rfl ?_)
  refine t_bipush (n := 10) (v := nI 10) (by decide +kernel) (by decide +kernel) (pn 152 rfl ?_)
  refine s_icmp_ge (off := 22) (tgt := 174) (by decide +kernel) rfl (fun c => absurd c (by decide)) (fun _ => (pn 155 rfl ?_))
  refine s_aload_n (i := 0) (by decide +kernel) rfl (pn 156 rfl ?_)
  refine k_gfC (x := 37) (ix := 33) (kf := 4) (ci := 11) (m := 17) (fin := true) (by decide +kernel) (by decide +kernel) (by decide +kernel) (by decide +kernel) (by decide +kernel) (pn 159 rfl ?_)
  refine s_iload_n (i := 1) (by decide +kernel) rfl (pn 160 rfl ?_)
  refine k_noC (i1 := 23) (i2 := 25) (cj := 7) (mj := 8) 92 (by decide +kernel) (by decide +kernel) (by decide +kernel) (by decide +kernel) (by decide +kernel) (by decide +kernel) (by decide +kernel) rfl (umk_S (by omega)) (by omega) (by omega) (Nat.le_of_ble_eq_true rfl) hM (fun M hM => ?_)
  refine pn 167 rfl ?_
  show pm_wp (pm_cal d) prog_1_method_1_code 11 none true 167 [.ref 0, .int (nI 5)] [.ref 92, .int (nI 5), .ref 37] (toE L jGT39) M (fun r E1 M1 => r = none ∧ Q E1 M1)
  have hM : okM 97 (jGV16 sc) M := hM
  refine k_asC (q := 3) (n := 10) (cj := 7) (m := 8) (by decide +kernel) (by decide +kernel) ⟨by omega, by omega, rfl⟩ (by decide +kernel) (by omega) (by omega) (by decide +kernel) ?_
  refine pn 168 rfl ?_
  show pm_wp (pm_cal d) prog_1_method_1_code 11 none true 168 [.ref 0, .int (nI 5)] [] (toE L jGT40) M (fun r E1 M1 => r = none ∧ Q E1 M1)
  have hM : okM 97 (jGV16 sc) M := hM
  refine t_iinc (i := 1) (n := 1) (v := 1) (ls' := [.ref 0, .int (nI 6)]) (by decide +kernel) rfl (Nat.le_of_ble_eq_true rfl) (by decide +kernel) rfl (pn 171 rfl ?_)
  refine s_goto (off := (-22)) (tgt := 149) (by decide +kernel) rfl ?_
  refine s_iload_n (i := 1) (by decide +kernel) rfl (pn 150 rfl ?_)
  refine t_bipush (n := 10) (v := nI 10) (by decide +kernel) (by decide +kernel) (pn 152 rfl ?_)
  refine s_icmp_ge (off := 22) (tgt := 174) (by decide +kernel) rfl (fun c => absurd c (by decide)) (fun _ => (pn 155 rfl ?_))
  refine s_aload_n (i := 0) (by decide +kernel) rfl (pn 156 rfl ?_)
  refine k_gfC (x := 37) (ix := 33) (kf := 4) (ci := 11) (m := 17) (fin := true) (by decide +kernel) (by decide +kernel) (by decide +kernel) (by decide +kernel) (by decide +kernel) (pn 159 rfl ?_)
  refine s_iload_n (i := 1) (by decide +kernel) rfl (pn 160 rfl ?_)
  refine k_noC (i1 := 23) (i2 := 25) (cj := 7) (mj := 8) 97 (by decide +kernel) (by decide +kernel) (by decide +kernel) (by decide +kernel) (by decide +kernel) (by decide +kernel) (by decide +kernel) rfl (umk_S (by omega)) (by omega) (by omega) (Nat.le_of_ble_eq_true rfl) hM (fun M hM => ?_)
  refine pn 167 rfl ?_
  show pm_wp (pm_cal d) prog_1_method_1_code 11 none true 167 [.ref 0, .int (nI 6)] [.ref 97, .int (nI 6), .ref 37] (toE L jGT41) M (fun r E1 M1 => r = none ∧ Q E1 M1)
  have hM : okM 102 (jGV17 sc) M := hM
  refine k_asC (q := 3) (n := 10) (cj := 7) (m := 8) (by decide +kernel) (by decide +kernel) ⟨by omega, by omega, rfl⟩ (by decide +kernel) (by omega) (by omega) (by decide +kernel) ?_
  refine pn 168 rfl ?_
  show pm_wp (pm_cal d) prog_1_method_1_code 11 none true 168 [.ref 0, .int (nI 6)] [] (toE L jGT42) M (fun r E1 M1 => r = none ∧ Q E1 M1)
  have hM : okM 102 (jGV17 sc) M := hM
  refine t_iinc (i := 1) (n := 1) (v := 1) (ls' := [.ref 0, .int (nI 7)]) (by decide +kernel) rfl (Nat.le_of_ble_eq_true rfl) (by decide +kernel) rfl (pn 171 rfl ?_)
  refine s_goto (off := (-22)) (tgt := 149) (by decide +kernel) rfl ?_
  refine s_iload_n (i := 1) (by decide +kernel) rfl (pn 150 rfl ?_)
  refine t_bipush (n := 10) (v := nI 10) (by decide +kernel) (by decide +kernel) (pn 152 rfl ?_)
  refine s_icmp_ge (off := 22) (tgt := 174) (by decide +kernel) rfl (fun c => absurd c (by decide)) (fun _ => (pn 155 rfl ?_))
  refine s_aload_n (i := 0) (by decide +kernel) rfl (pn 156 rfl ?_)
  refine k_gfC (x := 37) (ix := 33) (kf := 4) (ci := 11) (m := 17) (fin := true) (by decide +kernel) (by decide +kernel) (by decide +kernel) (by decide +kernel) (by decide +kernel) (pn 159 rfl ?_)
  refine s_iload_n (i := 1) (by decide +kernel) rfl (pn 160 rfl ?_)
  refine k_noC (i1 := 23) (i2 := 25) (cj := 7) (mj := 8) 102 (by decide +kernel) (by decide +kernel) (by decide +kernel) (by decide +kernel) (by decide +kernel) (by decide +kernel) (by decide +kernel) rfl (umk_S (by omega)) (by omega) (by omega) (Nat.le_of_ble_eq_true rfl) hM (fun M hM => ?_)
  refine pn 167 rfl ?_
  show pm_wp (pm_cal d) prog_1_method_1_code 11 none true 167 [.ref 0, .int (nI 7)] [.ref 102, .int (nI 7), .ref 37] (toE L jGT43) M (fun r E1 M1 => r = none ∧ Q E1 M1)
  have hM : okM 107 (jGV18 sc) M := hM
  refine k_asC (q := 3) (n := 10) (cj := 7) (m := 8) (by decide +kernel) (by decide +kernel) ⟨by omega, by omega, rfl⟩ (by decide +kernel) (by omega) (by omega) (by decide +kernel) ?_
  refine pn 168 rfl ?_
  show pm_wp (pm_cal d) prog_1_method_1_code 11 none true 168 [.ref 0, .int (nI 7)] [] (toE L jGT44) M (fun r E1 M1 => r = none ∧ Q E1 M1)
  have hM : okM 107 (jGV18 sc) M := hM
  refine t_iinc (i := 1) (n := 1) (v := 1) (ls' := [.ref 0, .int (nI 8)]) (by decide +kernel) rfl (Nat.le_of_ble_eq_true rfl) (by decide +kernel) rfl (pn 171 rfl ?_)
  refine s_goto (off := (-22)) (tgt := 149) (by decide +kernel) rfl ?_
  refine s_iload_n (i := 1) (by decide +kernel) rfl (pn 150 rfl ?_)
  refine t_bipush (n := 10) (v := nI 10) (by decide +kernel) (by decide +kernel) (pn 152 rfl ?_)
  refine s_icmp_ge (off := 22) (tgt := 174) (by decide +kernel) rfl (fun c => absurd c (by decide)) (fun _ => (pn 155 rfl ?_))
  refine s_aload_n (i := 0) (by decide +kernel) rfl (pn 156 rfl ?_)
  refine k_gfC (x := 37) (ix := 33) (kf := 4) (ci := 11) (m := 17) (fin := true) (by decide +kernel) (by decide +kernel) (by decide +kernel) (by decide +kernel) (by decide +kernel) (pn 159 rfl ?_)
  refine s_iload_n (i := 1) (by decide +kernel) rfl (pn 160 rfl ?_)
  refine k_noC (i1 := 23) (i2 := 25) (cj := 7) (mj := 8) 107 (by decide +kernel) (by decide +kernel) (by decide +kernel) (by decide +kernel) (by decide +kernel) (by decide +kernel) (by decide +kernel) rfl (umk_S (by omega)) (by omega) (by omega) (Nat.le_of_ble_eq_true rfl) hM (fun M hM => ?_)
  refine pn 167 rfl ?_
  show pm_wp (pm_cal d) prog_1_method_1_code 11 none true 167 [.ref 0, .int (nI 8)] [.ref 107, .int (nI 8), .ref 37] (toE L jGT45) M (fun r E1 M1 => r = none ∧ Q E1 M1)
  have hM : okM 112 (jGV19 sc) M := hM
  refine k_asC (q := 3) (n := 10) (cj := 7) (m := 8) (by decide +kernel) (by decide +kernel) ⟨by omega, by omega, rfl⟩ (by decide +kernel) (by omega) (by omega) (by decide +kernel) ?_
  refine pn 168 rfl ?_
  show pm_wp (pm_cal d) prog_1_method_1_code 11 none true 168 [.ref 0, .int (nI 8)] [] (toE L jGT46) M (fun r E1 M1 => r = none ∧ Q E1 M1)
  have hM : okM 112 (jGV19 sc) M := hM
  refine t_iinc (i := 1) (n := 1) (v := 1) (ls' := [.ref 0, .int (nI 9)]) (by decide +kernel) rfl (Nat.le_of_ble_eq_true rfl) (by decide +kernel) rfl (pn 171 rfl ?_)
  refine s_goto (off := (-22)) (tgt := 149) (by decide +kernel) rfl ?_
  refine s_iload_n (i := 1) (by decide +kernel) rfl (pn 150 rfl ?_)
  refine t_bipush (n := 10) (v := nI 10) (by decide +kernel) (by decide +kernel) (pn 152 rfl ?_)
  refine s_icmp_ge (off := 22) (tgt := 174) (by decide +kernel) rfl (fun c => absurd c (by decide)) (fun _ => (pn 155 rfl ?_))
  refine s_aload_n (i := 0) (by decide +kernel) rfl (pn 156 rfl ?_)
  refine k_gfC (x := 37) (ix := 33) (kf := 4) (ci := 11) (m := 17) (fin := true) (by decide +kernel) (by decide +kernel) (by decide +kernel) (by decide +kernel) (by decide +kernel) (pn 159 rfl ?_)
  refine s_iload_n (i := 1) (by decide +kernel) rfl (pn 160 rfl ?_)
  refine k_noC (i1 := 23) (i2 := 25) (cj := 7) (mj := 8) 112 (by decide +kernel) (by decide +kernel) (by decide +kernel) (by decide +kernel) (by decide +kernel) (by decide +kernel) (by decide +kernel) rfl (umk_S (by omega)) (by omega) (by omega) (Nat.le_of_ble_eq_true rfl) hM (fun M hM => ?_)
  refine pn 167 rfl ?_
  show pm_wp (pm_cal d) prog_1_method_1_code 11 none true 167 [.ref 0, .int (nI 9)] [.ref 112, .int (nI 9), .ref 37] (toE L jGT47) M (fun r E1 M1 => r = none ∧ Q E1 M1)
  have hM : okM 117 (jGV20 sc) M := hM
  refine k_asC (q := 3) (n := 10) (cj := 7) (m := 8) (by decide +kernel) (by decide +kernel) ⟨by omega, by omega, rfl⟩ (by decide +kernel) (by omega) (by omega) (by decide +kernel) ?_
  refine pn 168 rfl ?_
  show pm_wp (pm_cal d) prog_1_method_1_code 11 none true 168 [.ref 0, .int (nI 9)] [] (toE L jGT48) M (fun r E1 M1 => r = none ∧ Q E1 M1)
  have hM : okM 117 (jGV20 sc) M := hM
  refine t_iinc (i := 1) (n := 1) (v := 1) (ls' := [.ref 0, .int (nI 10)]) (by decide +kernel) rfl (Nat.le_of_ble_eq_true rfl) (by decide +kernel) rfl (pn 171 rfl ?_)
  refine s_goto (off := (-22)) (tgt := 149) (by decide +kernel) rfl ?_
  refine s_iload_n (i := 1) (by decide +kernel) rfl (pn 150 rfl ?_)
  refine t_bipush (n := 10) (v := nI 10) (by decide +kernel) (by decide +kernel) (pn 152 rfl ?_)
  refine s_icmp_ge (off := 22) (tgt := 174) (by decide +kernel) rfl (fun _ => ?_) (fun c => absurd (by decide) c)
  refine t_iconst (n := 0) (v := nI 0) (by decide +kernel) (by decide +kernel) (pn 175 rfl ?_)
  refine s_istore_n (i := 1) (by decide +kernel) (Nat.le_of_ble_eq_true rfl) (pn 176 rfl (t_store (ls' := [.ref 0, .int (nI 0)]) rfl ?_))
  refine s_iload_n (i := 1) (by decide +kernel) rfl (pn 177 rfl ?_)
  refine t_iconst (n := 4) (v := nI 4) (by decide +kernel) (by decide +kernel) (pn 178 rfl ?_)
  refine s_icmp_ge (off := 22) (tgt := 200) (by decide +kernel) rfl (fun c => absurd c (by decide)) (fun _ => (pn 181 rfl ?_))
  refine s_aload_n (i := 0) (by decide +kernel) rfl (pn 182 rfl ?_)
  refine k_gfC (x := 38) (ix := 39) (kf := 7) (ci := 11) (m := 17) (fin := true) (by decide +kernel) (by decide +kernel) (by decide +kernel) (by decide +kernel) (by decide +kernel) (pn 185 rfl ?_)
  refine s_iload_n (i := 1) (by decide +kernel) rfl (pn 186 rfl ?_)
  refine k_noC (i1 := 37) (i2 := 92) (cj := 9) (mj := 3) 117 (by decide +kernel) (by decide +kernel) (by decide +kernel) (by decide +kernel) (by decide +kernel) (by decide +kernel) (by decide +kernel) rfl (umk_Y (by omega)) (by omega) (by omega) (Nat.le_of_ble_eq_true rfl) hM (fun M hM => ?_)
  refine pn 193 rfl ?_
  show pm_wp (pm_cal d) prog_1_method_1_code 11 none true 193 [.ref 0, .int (nI 0)] [.ref 117, .int (nI 0), .ref 38] (toE L jGT49) M (fun r E1 M1 => r = none ∧ Q E1 M1)
  have hM : okM 119 (jGV21 sc) M := hM
  refine k_asC (q := 4) (n := 4) (cj := 9) (m := 3) (by decide +kernel) (by decide +kernel) ⟨by omega, by omega, rfl⟩ (by decide +kernel) (by omega) (by omega) (by decide +kernel) ?_
  refine pn 194 rfl ?_
  show pm_wp (pm_cal d) prog_1_method_1_code 11 none true 194 [.ref 0, .int (nI 0)] [] (toE L jGT50) M (fun r E1 M1 => r = none ∧ Q E1 M1)
  have hM : okM 119 (jGV21 sc) M := hM
  refine t_iinc (i := 1) (n := 1) (v := 1) (ls' := [.ref 0, .int (nI 1)]) (by decide +kernel) rfl (Nat.le_of_ble_eq_true rfl) (by decide +kernel) rfl (pn 197 rfl ?_)
  refine s_goto (off := (-21)) (tgt := 176) (by decide +kernel) rfl ?_
  refine s_iload_n (i := 1) (by decide +kernel) rfl (pn 177 rfl ?_)
  refine t_iconst (n := 4) (v := nI 4) (by decide +kernel) (by decide +kernel) (pn 178 rfl ?_)
  refine s_icmp_ge (off := 22) (tgt := 200) (by decide +kernel) rfl (fun c => absurd c (by decide)) (fun _ => (pn 181 rfl ?_))
  refine s_aload_n (i := 0) (by decide +kernel) rfl (pn 182 rfl ?_)
  refine k_gfC (x := 38) (ix := 39) (kf := 7) (ci := 11) (m := 17) (fin := true) (by decide +kernel) (by decide +kernel) (by decide +kernel) (by decide +kernel) (by decide +kernel) (pn 185 rfl ?_)
  refine s_iload_n (i := 1) (by decide +kernel) rfl (pn 186 rfl ?_)
  refine k_noC (i1 := 37) (i2 := 92) (cj := 9) (mj := 3) 119 (by decide +kernel) (by decide +kernel) (by decide +kernel) (by decide +kernel) (by decide +kernel) (by decide +kernel) (by decide +kernel) rfl (umk_Y (by omega)) (by omega) (by omega) (Nat.le_of_ble_eq_true rfl) hM (fun M hM => ?_)
  refine pn 193 rfl ?_
  show pm_wp (pm_cal d) prog_1_method_1_code 11 none true 193 [.ref 0, .int (nI 1)] [.ref 119, .int (nI 1), .ref 38] (toE L jGT51) M (fun r E1 M1 => r = none ∧ Q E1 M1)
  have hM : okM 121 (jGV22 sc) M := hM
  refine k_asC (q := 4) (n := 4) (cj := 9) (m := 3) (by decide +kernel) (by decide +kernel) ⟨by omega, by omega, rfl⟩ (by decide +kernel) (by omega) (by omega) (by decide +kernel) ?_
  refine pn 194 rfl ?_
  show pm_wp (pm_cal d) prog_1_method_1_code 11 none true 194 [.ref 0, .int (nI 1)] [] (toE L jGT52) M (fun r E1 M1 => r = none ∧ Q E1 M1)
  have hM : okM 121 (jGV22 sc) M := hM
  refine t_iinc (i := 1) (n := 1) (v := 1) (ls' := [.ref 0, .int (nI 2)]) (by decide +kernel) rfl (Nat.le_of_ble_eq_true rfl) (by decide +kernel) rfl (pn 197 rfl ?_)
  refine s_goto (off := (-21)) (tgt := 176) (by decide +kernel) rfl ?_
  refine s_iload_n (i := 1) (by decide +kernel) rfl (pn 177 rfl ?_)
  refine t_iconst (n := 4) (v := nI 4) (by decide +kernel) (by decide +kernel) (pn 178 rfl ?_)
  refine s_icmp_ge (off := 22) (tgt := 200) (by decide +kernel) rfl (fun c => absurd c (by decide)) (fun _ => (pn 181 rfl ?_))
  refine s_aload_n (i := 0) (by decide +kernel) rfl (pn 182 rfl ?_)
  refine k_gfC (x := 38) (ix := 39) (kf := 7) (ci := 11) (m := 17) (fin := true) (by decide +kernel) (by decide +kernel) (by decide +kernel) (by decide +kernel) (by decide +kernel) (pn 185 rfl ?_)
  refine s_iload_n (i := 1) (by decide +kernel) rfl (pn 186 rfl ?_)
  refine k_noC (i1 := 37) (i2 := 92) (cj := 9) (mj := 3) 121 (by decide +kernel) (by decide +kernel) (by decide +kernel) (by decide +kernel) (by decide +kernel) (by decide +kernel) (by decide +kernel) rfl (umk_Y (by omega)) (by omega) (by omega) (Nat.le_of_ble_eq_true rfl) hM (fun M hM => ?_)
  refine pn 193 rfl ?_
  show pm_wp (pm_cal d) prog_1_method_1_code 11 none true 193 [.ref 0, .int (nI 2)] [.ref 121, .int (nI 2), .ref 38] (toE L jGT53) M (fun r E1 M1 => r = none ∧ Q E1 M1)
  have hM : okM 123 (jGV23 sc) M := hM
  refine k_asC (q := 4) (n := 4) (cj := 9) (m := 3) (by decide +kernel) (by decide +kernel) ⟨by omega, by omega, rfl⟩ (by decide +kernel) (by omega) (by omega) (by decide +kernel) ?_
  refine pn 194 rfl ?_
  show pm_wp (pm_cal d) prog_1_method_1_code 11 none true 194 [.ref 0, .int (nI 2)] [] (toE L jGT54) M (fun r E1 M1 => r = none ∧ Q E1 M1)
  have hM : okM 123 (jGV23 sc) M := hM
  refine t_iinc (i := 1) (n := 1) (v := 1) (ls' := [.ref 0, .int (nI 3)]) (by decide +kernel) rfl (Nat.le_of_ble_eq_true rfl) (by decide +kernel) rfl (pn 197 rfl ?_)
  refine s_goto (off := (-21)) (tgt := 176) (by decide +kernel) rfl ?_
  refine s_iload_n (i := 1) (by decide +kernel) rfl (pn 177 rfl ?_)
  refine t_iconst (n := 4) (v := nI 4) (by decide +kernel) (by decide +kernel) (pn 178 rfl ?_)
  refine s_icmp_ge (off := 22) (tgt := 200) (by decide +kernel) rfl (fun c => absurd c (by decide)) (fun _ => (pn 181 rfl ?_))
  refine s_aload_n (i := 0) (by decide +kernel) rfl (pn 182 rfl ?_)
  refine k_gfC (x := 38) (ix := 39) (kf := 7) (ci := 11) (m := 17) (fin := true) (by decide +kernel) (by decide +kernel) (by decide +kernel) (by decide +kernel) (by decide +kernel) (pn 185 rfl ?_)
  refine s_iload_n (i := 1) (by decide +kernel) rfl (pn 186 rfl ?_)
  refine k_noC (i1 := 37) (i2 := 92) (cj := 9) (mj := 3) 123 (by decide +kernel) (by decide +kernel) (by decide +kernel) (by decide +kernel) (by decide +kernel) (by decide +kernel) (by decide +kernel) rfl (umk_Y (by omega)) (by omega) (by omega) (Nat.le_of_ble_eq_true rfl) hM (fun M hM => ?_)
  refine pn 193 rfl ?_
  show pm_wp (pm_cal d) prog_1_method_1_code 11 none true 193 [.ref 0, .int (nI 3)] [.ref 123, .int (nI 3), .ref 38] (toE L jGT55) M (fun r E1 M1 => r = none ∧ Q E1 M1)
  have hM : okM 125 (jGV24 sc) M := hM
  refine k_asC (q := 4) (n := 4) (cj := 9) (m := 3) (by decide +kernel) (by decide +kernel) ⟨by omega, by omega, rfl⟩ (by decide +kernel) (by omega) (by omega) (by decide +kernel) ?_
  refine pn 194 rfl ?_
  show pm_wp (pm_cal d) prog_1_method_1_code 11 none true 194 [.ref 0, .int (nI 3)] [] (toE L jGT56) M (fun r E1 M1 => r = none ∧ Q E1 M1)
  have hM : okM 125 (jGV24 sc) M := hM
  refine t_iinc (i := 1) (n := 1) (v := 1) (ls' := [.ref 0, .int (nI 4)]) (by decide +kernel) rfl (Nat.le_of_ble_eq_true rfl) (by decide +kernel) rfl (pn 197 rfl ?_)
  refine s_goto (off := (-21)) (tgt := 176) (by decide +kernel) rfl ?_
  refine s_iload_n (i := 1) (by decide +kernel) rfl (pn 177 rfl ?_)
  refine t_iconst (n := 4) (v := nI 4) (by decide +kernel) (by decide +kernel) (pn 178 rfl ?_)
  refine s_icmp_ge (off := 22) (tgt := 200) (by decide +kernel) rfl (fun _ => ?_) (fun c => absurd (by decide) c)
  refine t_iconst (n := 0) (v := nI 0) (by decide +kernel) (by decide +kernel) (pn 201 rfl ?_)
  refine s_istore_n (i := 1) (by decide +kernel) (Nat.le_of_ble_eq_true rfl) (pn 202 rfl (t_store (ls' := [.ref 0, .int (nI 0)]) rfl ?_))
  refine s_iload_n (i := 1) (by decide +kernel) rfl (pn 203 rfl ?_)
  refine t_iconst (n := 2) (v := nI 2) (by decide +kernel) (by decide +kernel) (pn 204 rfl ?_)
  refine s_icmp_ge (off := 35) (tgt := 239) (by decide +kernel) rfl (fun c => absurd c (by decide)) (fun _ => (pn 207 rfl ?_))
  refine s_aload_n (i := 0) (by decide +kernel) rfl (pn 208 rfl ?_)
  refine k_gfC (x := 39) (ix := 43) (kf := 8) (ci := 11) (m := 17) (fin := true) (by decide +kernel) (by decide +kernel) (by decide +kernel) (by decide +kernel) (by decide +kernel) (pn 211 rfl ?_)
  refine s_iload_n (i := 1) (by decide +kernel) rfl (pn 212 rfl ?_)
  refine k_noC (i1 := 16) (i2 := 18) (cj := 3) (mj := 13) 125 (by decide +kernel) (by decide +kernel) (by decide +kernel) (by decide +kernel) (by decide +kernel) (by decide +kernel) (by decide +kernel) rfl (umk_L (by omega)) (by omega) (by omega) (Nat.le_of_ble_eq_true rfl) hM (fun M hM => ?_)
  refine pn 219 rfl ?_
  show pm_wp (pm_cal d) prog_1_method_1_code 11 none true 219 [.ref 0, .int (nI 0)] [.ref 125, .int (nI 0), .ref 39] (toE L jGT57) M (fun r E1 M1 => r = none ∧ Q E1 M1)
  have hM : okM 137 (jGV25 sc) M := hM
  refine k_asC (q := 5) (n := 2) (cj := 3) (m := 13) (by decide +kernel) (by decide +kernel) ⟨by omega, by omega, rfl⟩ (by decide +kernel) (by omega) (by omega) (by decide +kernel) ?_
  refine pn 220 rfl ?_
  show pm_wp (pm_cal d) prog_1_method_1_code 11 none true 220 [.ref 0, .int (nI 0)] [] (toE L jGT58) M (fun r E1 M1 => r = none ∧ Q E1 M1)
  have hM : okM 137 (jGV25 sc) M := hM
  refine s_aload_n (i := 0) (by decide +kernel) rfl (pn 221 rfl ?_)
  refine k_gfC (x := 40) (ix := 47) (kf := 9) (ci := 11) (m := 17) (fin := true) (by decide +kernel) (by decide +kernel) (by decide +kernel) (by decide +kernel) (by decide +kernel) (pn 224 rfl ?_)
  refine s_iload_n (i := 1) (by decide +kernel) rfl (pn 225 rfl ?_)
  refine k_noC (i1 := 23) (i2 := 25) (cj := 7) (mj := 8) 137 (by decide +kernel) (by decide +kernel) (by decide +kernel) (by decide +kernel) (by decide +kernel) (by decide +kernel) (by decide +kernel) rfl (umk_S (by omega)) (by omega) (by omega) (Nat.le_of_ble_eq_true rfl) hM (fun M hM => ?_)
  refine pn 232 rfl ?_
  show pm_wp (pm_cal d) prog_1_method_1_code 11 none true 232 [.ref 0, .int (nI 0)] [.ref 137, .int (nI 0), .ref 40] (toE L jGT59) M (fun r E1 M1 => r = none ∧ Q E1 M1)
  have hM : okM 142 (jGV26 sc) M := hM
  refine k_asC (q := 3) (n := 2) (cj := 7) (m := 8) (by decide +kernel) (by decide +kernel) ⟨by omega, by omega, rfl⟩ (by decide +kernel) (by omega) (by omega) (by decide +kernel) ?_
  refine pn 233 rfl ?_
  show pm_wp (pm_cal d) prog_1_method_1_code 11 none true 233 [.ref 0, .int (nI 0)] [] (toE L jGT60) M (fun r E1 M1 => r = none ∧ Q E1 M1)
  have hM : okM 142 (jGV26 sc) M := hM
  refine t_iinc (i := 1) (n := 1) (v := 1) (ls' := [.ref 0, .int (nI 1)]) (by decide +kernel) rfl (Nat.le_of_ble_eq_true rfl) (by decide +kernel) rfl (pn 236 rfl ?_)
  refine s_goto (off := (-34)) (tgt := 202) (by decide +kernel) rfl ?_
  refine s_iload_n (i := 1) (by decide +kernel) rfl (pn 203 rfl ?_)
  refine t_iconst (n := 2) (v := nI 2) (by decide +kernel) (by decide +kernel) (pn 204 rfl ?_)
  refine s_icmp_ge (off := 35) (tgt := 239) (by decide +kernel) rfl (fun c => absurd c (by decide)) (fun _ => (pn 207 rfl ?_))
  refine s_aload_n (i := 0) (by decide +kernel) rfl (pn 208 rfl ?_)
  refine k_gfC (x := 39) (ix := 43) (kf := 8) (ci := 11) (m := 17) (fin := true) (by decide +kernel) (by decide +kernel) (by decide +kernel) (by decide +kernel) (by decide +kernel) (pn 211 rfl ?_)
  refine s_iload_n (i := 1) (by decide +kernel) rfl (pn 212 rfl ?_)
  refine k_noC (i1 := 16) (i2 := 18) (cj := 3) (mj := 13) 142 (by decide +kernel) (by decide +kernel) (by decide +kernel) (by decide +kernel) (by decide +kernel) (by decide +kernel) (by decide +kernel) rfl (umk_L (by omega)) (by omega) (by omega) (Nat.le_of_ble_eq_true rfl) hM (fun M hM => ?_)
  refine pn 219 rfl ?_
  show pm_wp (pm_cal d) prog_1_method_1_code 11 none true 219 [.ref 0, .int (nI 1)] [.ref 142, .int (nI 1), .ref 39] (toE L jGT61) M (fun r E1 M1 => r = none ∧ Q E1 M1)
  have hM : okM 154 (jGV27 sc) M := hM
  refine k_asC (q := 5) (n := 2) (cj := 3) (m := 13) (by decide +kernel) (by decide +kernel) ⟨by omega, by omega, rfl⟩ (by decide +kernel) (by omega) (by omega) (by decide +kernel) ?_
  refine pn 220 rfl ?_
  show pm_wp (pm_cal d) prog_1_method_1_code 11 none true 220 [.ref 0, .int (nI 1)] [] (toE L jGT62) M (fun r E1 M1 => r = none ∧ Q E1 M1)
  have hM : okM 154 (jGV27 sc) M := hM
  refine s_aload_n (i := 0) (by decide +kernel) rfl (pn 221 rfl ?_)
  refine k_gfC (x := 40) (ix := 47) (kf := 9) (ci := 11) (m := 17) (fin := true) (by decide +kernel) (by decide +kernel) (by decide +kernel) (by decide +kernel) (by decide +kernel) (pn 224 rfl ?_)
  refine s_iload_n (i := 1) (by decide +kernel) rfl (pn 225 rfl ?_)
  refine k_noC (i1 := 23) (i2 := 25) (cj := 7) (mj := 8) 154 (by decide +kernel) (by decide +kernel) (by decide +kernel) (by decide +kernel) (by decide +kernel) (by decide +kernel) (by decide +kernel) rfl (umk_S (by omega)) (by omega) (by omega) (Nat.le_of_ble_eq_true rfl) hM (fun M hM => ?_)
  refine pn 232 rfl ?_
  show pm_wp (pm_cal d) prog_1_method_1_code 11 none true 232 [.ref 0, .int (nI 1)] [.ref 154, .int (nI 1), .ref 40] (toE L jGT63) M (fun r E1 M1 => r = none ∧ Q E1 M1)
  have hM : okM 159 (jGV28 sc) M := hM
  refine k_asC (q := 3) (n := 2) (cj := 7) (m := 8) (by decide +kernel) (by decide +kernel) ⟨by omega, by omega, rfl⟩ (by decide +kernel) (by omega) (by omega) (by decide +kernel) ?_
  refine pn 233 rfl ?_
  show pm_wp (pm_cal d) prog_1_method_1_code 11 none true 233 [.ref 0, .int (nI 1)] [] (toE L jGT64) M (fun r E1 M1 => r = none ∧ Q E1 M1)
  have hM : okM 159 (jGV28 sc) M := hM
  refine t_iinc (i := 1) (n := 1) (v := 1) (ls' := [.ref 0, .int (nI 2)]) (by decide +kernel) rfl (Nat.le_of_ble_eq_true rfl) (by decide +kernel) rfl (pn 236 rfl ?_)
  refine s_goto (off := (-34)) (tgt := 202) (by decide +kernel) rfl ?_
  refine s_iload_n (i := 1) (by decide +kernel) rfl (pn 203 rfl ?_)
  refine t_iconst (n := 2) (v := nI 2) (by decide +kernel) (by decide +kernel) (pn 204 rfl ?_)
  refine s_icmp_ge (off := 35) (tgt := 239) (by decide +kernel) rfl (fun _ => ?_) (fun c => absurd (by decide) c)
  exact s_return (st := []) (by decide +kernel) rfl ⟨rfl, hq M hM⟩
def jMT0 : mS := mNew jGT64 22 0 42 42
def jMV0 (sc : Nat → Int32) : mV := jGV28 sc
def jMT1 : mS := mNew jMT0 0 3870 3870 0
def jMT2 : mS := mSet jMT1 159 1 160
def jMT3 : mS := mNew jMT2 2 2 2 0
def jMT4 : mS := mSet jMT3 159 2 161
def jMT5 : mS := mNew jMT4 0 900 900 0
def jMT6 : mS := mSet jMT5 159 3 162
def jMT7 : mS := mNew jMT6 0 1290 1290 0
def jMT8 : mS := mSet jMT7 159 4 163
def jMV1 (sc : Nat → Int32) : mV := mP (jMV0 sc) 159 14 ((-1))
def jMT9 : mS := mNew jMT8 0 900 900 0
def jMT10 : mS := mSet jMT9 159 16 164
def jMT11 : mS := mNew jMT10 0 7 7 0
def jMT12 : mS := mSet jMT11 159 17 165
def jMT13 : mS := mNew jMT12 0 31 31 0
def jMT14 : mS := mSet jMT13 159 18 166
def jMT15 : mS := mNew jMT14 0 3 3 0
def jMT16 : mS := mSet jMT15 159 21 167
def jMT17 : mS := mNew jMT16 0 1792 1792 0
def jMT18 : mS := mSet jMT17 159 22 168
def jMT19 : mS := mNew jMT18 0 1792 1792 0
def jMT20 : mS := mSet jMT19 159 23 169
def jMT21 : mS := mNew jMT20 0 1792 1792 0
def jMT22 : mS := mSet jMT21 159 24 170
def jMT23 : mS := mNew jMT22 0 48 48 0
def jMT24 : mS := mSet jMT23 159 25 171
def jMV2 (sc : Nat → Int32) : mV := mP (jMV1 sc) 159 26 ((-1))
def jMT25 : mS := mNew jMT24 0 6 6 0
def jMT26 : mS := mSet jMT25 159 27 172
def jMT27 : mS := mNew jMT26 0 6 6 0
def jMT28 : mS := mSet jMT27 159 28 173
def jMT29 : mS := mNew jMT28 0 25600 25600 0
def jMT30 : mS := mSet jMT29 159 30 174
def jMT31 : mS := mNew jMT30 0 100 100 0
def jMT32 : mS := mSet jMT31 159 31 175
def jMT33 : mS := mNew jMT32 0 100 100 0
def jMT34 : mS := mSet jMT33 159 32 176
def jMT35 : mS := mNew jMT34 0 8 8 0
def jMT36 : mS := mSet jMT35 159 33 177
def jMT37 : mS := mNew jMT36 2 25600 25600 0
def jMT38 : mS := mSet jMT37 159 35 178
def jMT39 : mS := mNew jMT38 0 256 256 0
def jMT40 : mS := mSet jMT39 159 36 179
def jMT41 : mS := mNew jMT40 1 1000 1000 0
def jMT42 : mS := mSet jMT41 159 37 180
def jMT43 : mS := mNew jMT42 1 1000 1000 0
def jMT44 : mS := mSet jMT43 159 38 181
def jMT45 : mS := mNew jMT44 0 4 4 0
def jMV3 (sc : Nat → Int32) : mV := mP (jMV2 sc) 182 0 ((-1))
def jMV4 (sc : Nat → Int32) : mV := mP (jMV3 sc) 182 1 ((-1))
def jMV5 (sc : Nat → Int32) : mV := mP (jMV4 sc) 182 2 ((-1))
def jMV6 (sc : Nat → Int32) : mV := mP (jMV5 sc) 182 3 ((-1))
def jMT46 : mS := mSet jMT45 159 39 182
def jMT47 : mS := mNew jMT46 0 4 4 0
def jMT48 : mS := mSet jMT47 159 40 183
def jMT49 : mS := mNew jMT48 1 160 160 0
def jMT50 : mS := mSet jMT49 159 41 184
theorem umk_M {L d : Nat} {M : pm_M} {Q : pm_E → pm_M → Prop} {sc : Nat → Int32} (hM : okM 160 (jGV28 sc) M) (hq : ∀ M, okM 185 (jMV6 sc) M → pm_wp (pm_cal d) prog_14_method_3_code 12 none true 243 [.ref 159] [.ref 160] (toE L jMT50) M (fun r E1 M1 => r = none ∧ Q E1 M1)) : pm_callV (pm_cal (d + 1)) yM_init [.ref 159] (toE L jMT0) M Q := by
  refine pm_toV (by decide) (Nat.le_of_ble_eq_true rfl) ?_
  show pm_wp (pm_cal d) prog_14_method_3_code 12 none true 0 [.ref 159] [] (toE L jMT0) M (fun r E1 M1 => r = none ∧ Q E1 M1)
  have hM : okM 160 (jMV0 sc) M := hM
  refine s_aload_n (i := 0) (by decide +kernel) rfl (pn 1 rfl ?_)
  refine s_objinit (ix := 7) (by decide +kernel) (by decide +kernel) (by decide) (pn 4 rfl ?_)
  refine s_aload_n (i := 0) (by decide +kernel) rfl (pn 5 rfl ?_)
  refine t_sipush (n := 3870) (v := nI 3870) (by decide +kernel) (by decide +kernel) (pn 8 rfl ?_)
  refine k_nwC (ty := .int) (kd := 0) (n := 3870) 160 (by decide +kernel) (by decide +kernel) rfl (by omega) (by omega) hM (fun M hM => ?_)
  refine pn 10 rfl ?_
  show pm_wp (pm_cal d) prog_14_method_3_code 12 none true 10 [.ref 159] [.ref 160, .ref 159] (toE L jMT1) M (fun r E1 M1 => r = none ∧ Q E1 M1)
  have hM : okM 161 (jMV0 sc) M := hM
  refine k_paC (ix := 13) (kf := 1) (ci := 12) (m := 42) (fin := true) (by decide +kernel) (by decide +kernel) (fun _ => ⟨rfl, rfl⟩) (by decide +kernel) (by omega) (by decide +kernel) ?_
  refine pn 13 rfl ?_
  show pm_wp (pm_cal d) prog_14_method_3_code 12 none true 13 [.ref 159] [] (toE L jMT2) M (fun r E1 M1 => r = none ∧ Q E1 M1)
  have hM : okM 161 (jMV0 sc) M := hM
  refine s_aload_n (i := 0) (by decide +kernel) rfl (pn 14 rfl ?_)
  refine t_iconst (n := 2) (v := nI 2) (by decide +kernel) (by decide +kernel) (pn 15 rfl ?_)
  refine k_nwC (ty := .boolean) (kd := 2) (n := 2) 161 (by decide +kernel) (by decide +kernel) rfl (by omega) (by omega) hM (fun M hM => ?_)
  refine pn 17 rfl ?_
  show pm_wp (pm_cal d) prog_14_method_3_code 12 none true 17 [.ref 159] [.ref 161, .ref 159] (toE L jMT3) M (fun r E1 M1 => r = none ∧ Q E1 M1)
  have hM : okM 162 (jMV0 sc) M := hM
  refine k_paC (ix := 17) (kf := 2) (ci := 12) (m := 42) (fin := true) (by decide +kernel) (by decide +kernel) (fun _ => ⟨rfl, rfl⟩) (by decide +kernel) (by omega) (by decide +kernel) ?_
  refine pn 20 rfl ?_
  show pm_wp (pm_cal d) prog_14_method_3_code 12 none true 20 [.ref 159] [] (toE L jMT4) M (fun r E1 M1 => r = none ∧ Q E1 M1)
  have hM : okM 162 (jMV0 sc) M := hM
  refine s_aload_n (i := 0) (by decide +kernel) rfl (pn 21 rfl ?_)
  refine t_sipush (n := 900) (v := nI 900) (by decide +kernel) (by decide +kernel) (pn 24 rfl ?_)
  refine k_nwC (ty := .int) (kd := 0) (n := 900) 162 (by decide +kernel) (by decide +kernel) rfl (by omega) (by omega) hM (fun M hM => ?_)
  refine pn 26 rfl ?_
  show pm_wp (pm_cal d) prog_14_method_3_code 12 none true 26 [.ref 159] [.ref 162, .ref 159] (toE L jMT5) M (fun r E1 M1 => r = none ∧ Q E1 M1)
  have hM : okM 163 (jMV0 sc) M := hM
  refine k_paC (ix := 21) (kf := 3) (ci := 12) (m := 42) (fin := true) (by decide +kernel) (by decide +kernel) (fun _ => ⟨rfl, rfl⟩) (by decide +kernel) (by omega) (by decide +kernel) ?_
  refine pn 29 rfl ?_
  show pm_wp (pm_cal d) prog_14_method_3_code 12 none true 29 [.ref 159] [] (toE L jMT6) M (fun r E1 M1 => r = none ∧ Q E1 M1)
  have hM : okM 163 (jMV0 sc) M := hM
  refine s_aload_n (i := 0) (by decide +kernel) rfl (pn 30 rfl ?_)
  refine t_sipush (n := 1290) (v := nI 1290) (by decide +kernel) (by decide +kernel) (pn 33 rfl ?_)
  refine k_nwC (ty := .int) (kd := 0) (n := 1290) 163 (by decide +kernel) (by decide +kernel) rfl (by omega) (by omega) hM (fun M hM => ?_)
  refine pn 35 rfl ?_
  show pm_wp (pm_cal d) prog_14_method_3_code 12 none true 35 [.ref 159] [.ref 163, .ref 159] (toE L jMT7) M (fun r E1 M1 => r = none ∧ Q E1 M1)
  have hM : okM 164 (jMV0 sc) M := hM
  refine k_paC (ix := 24) (kf := 4) (ci := 12) (m := 42) (fin := true) (by decide +kernel) (by decide +kernel) (fun _ => ⟨rfl, rfl⟩) (by decide +kernel) (by omega) (by decide +kernel) ?_
  refine pn 38 rfl ?_
  show pm_wp (pm_cal d) prog_14_method_3_code 12 none true 38 [.ref 159] [] (toE L jMT8) M (fun r E1 M1 => r = none ∧ Q E1 M1)
  have hM : okM 164 (jMV0 sc) M := hM
  refine s_aload_n (i := 0) (by decide +kernel) rfl (pn 39 rfl ?_)
  refine t_iconst (n := -1) (v := (-1)) (by decide +kernel) (by decide +kernel) (pn 40 rfl ?_)
  refine k_piC (ix := 27) (kf := 14) (ci := 12) (m := 42) (fin := false) (by decide +kernel) (by decide +kernel) (fun _ => ⟨rfl, rfl⟩) (by decide +kernel) (by decide +kernel) (n0 := 164) (by omega) hM (fun M hM => ?_)
  refine pn 43 rfl ?_
  show pm_wp (pm_cal d) prog_14_method_3_code 12 none true 43 [.ref 159] [] (toE L jMT8) M (fun r E1 M1 => r = none ∧ Q E1 M1)
  have hM : okM 164 (jMV1 sc) M := hM
  refine s_aload_n (i := 0) (by decide +kernel) rfl (pn 44 rfl ?_)
  refine t_sipush (n := 900) (v := nI 900) (by decide +kernel) (by decide +kernel) (pn 47 rfl ?_)
  refine k_nwC (ty := .int) (kd := 0) (n := 900) 164 (by decide +kernel) (by decide +kernel) rfl (by omega) (by omega) hM (fun M hM => ?_)
  refine pn 49 rfl ?_
  show pm_wp (pm_cal d) prog_14_method_3_code 12 none true 49 [.ref 159] [.ref 164, .ref 159] (toE L jMT9) M (fun r E1 M1 => r = none ∧ Q E1 M1)
  have hM : okM 165 (jMV1 sc) M := hM
  refine k_paC (ix := 30) (kf := 16) (ci := 12) (m := 42) (fin := true) (by decide +kernel) (by decide +kernel) (fun _ => ⟨rfl, rfl⟩) (by decide +kernel) (by omega) (by decide +kernel) ?_
  refine pn 52 rfl ?_
  show pm_wp (pm_cal d) prog_14_method_3_code 12 none true 52 [.ref 159] [] (toE L jMT10) M (fun r E1 M1 => r = none ∧ Q E1 M1)
  have hM : okM 165 (jMV1 sc) M := hM
  refine s_aload_n (i := 0) (by decide +kernel) rfl (pn 53 rfl ?_)
  refine t_bipush (n := 7) (v := nI 7) (by decide +kernel) (by decide +kernel) (pn 55 rfl ?_)
  refine k_nwC (ty := .int) (kd := 0) (n := 7) 165 (by decide +kernel) (by decide +kernel) rfl (by omega) (by omega) hM (fun M hM => ?_)
  refine pn 57 rfl ?_
  show pm_wp (pm_cal d) prog_14_method_3_code 12 none true 57 [.ref 159] [.ref 165, .ref 159] (toE L jMT11) M (fun r E1 M1 => r = none ∧ Q E1 M1)
  have hM : okM 166 (jMV1 sc) M := hM
  refine k_paC (ix := 33) (kf := 17) (ci := 12) (m := 42) (fin := true) (by decide +kernel) (by decide +kernel) (fun _ => ⟨rfl, rfl⟩) (by decide +kernel) (by omega) (by decide +kernel) ?_
  refine pn 60 rfl ?_
  show pm_wp (pm_cal d) prog_14_method_3_code 12 none true 60 [.ref 159] [] (toE L jMT12) M (fun r E1 M1 => r = none ∧ Q E1 M1)
  have hM : okM 166 (jMV1 sc) M := hM
  refine s_aload_n (i := 0) (by decide +kernel) rfl (pn 61 rfl ?_)
  refine t_bipush (n := 31) (v := nI 31) (by decide +kernel) (by decide +kernel) (pn 63 rfl ?_)
  refine k_nwC (ty := .int) (kd := 0) (n := 31) 166 (by decide +kernel) (by decide +kernel) rfl (by omega) (by omega) hM (fun M hM => ?_)
  refine pn 65 rfl ?_
  show pm_wp (pm_cal d) prog_14_method_3_code 12 none true 65 [.ref 159] [.ref 166, .ref 159] (toE L jMT13) M (fun r E1 M1 => r = none ∧ Q E1 M1)
  have hM : okM 167 (jMV1 sc) M := hM
  refine k_paC (ix := 36) (kf := 18) (ci := 12) (m := 42) (fin := true) (by decide +kernel) (by decide +kernel) (fun _ => ⟨rfl, rfl⟩) (by decide +kernel) (by omega) (by decide +kernel) ?_
  refine pn 68 rfl ?_
  show pm_wp (pm_cal d) prog_14_method_3_code 12 none true 68 [.ref 159] [] (toE L jMT14) M (fun r E1 M1 => r = none ∧ Q E1 M1)
  have hM : okM 167 (jMV1 sc) M := hM
  refine s_aload_n (i := 0) (by decide +kernel) rfl (pn 69 rfl ?_)
  refine t_iconst (n := 3) (v := nI 3) (by decide +kernel) (by decide +kernel) (pn 70 rfl ?_)
  refine k_nwC (ty := .int) (kd := 0) (n := 3) 167 (by decide +kernel) (by decide +kernel) rfl (by omega) (by omega) hM (fun M hM => ?_)
  refine pn 72 rfl ?_
  show pm_wp (pm_cal d) prog_14_method_3_code 12 none true 72 [.ref 159] [.ref 167, .ref 159] (toE L jMT15) M (fun r E1 M1 => r = none ∧ Q E1 M1)
  have hM : okM 168 (jMV1 sc) M := hM
  refine k_paC (ix := 39) (kf := 21) (ci := 12) (m := 42) (fin := true) (by decide +kernel) (by decide +kernel) (fun _ => ⟨rfl, rfl⟩) (by decide +kernel) (by omega) (by decide +kernel) ?_
  refine pn 75 rfl ?_
  show pm_wp (pm_cal d) prog_14_method_3_code 12 none true 75 [.ref 159] [] (toE L jMT16) M (fun r E1 M1 => r = none ∧ Q E1 M1)
  have hM : okM 168 (jMV1 sc) M := hM
  refine s_aload_n (i := 0) (by decide +kernel) rfl (pn 76 rfl ?_)
  refine t_sipush (n := 1792) (v := nI 1792) (by decide +kernel) (by decide +kernel) (pn 79 rfl ?_)
  refine k_nwC (ty := .int) (kd := 0) (n := 1792) 168 (by decide +kernel) (by decide +kernel) rfl (by omega) (by omega) hM (fun M hM => ?_)
  refine pn 81 rfl ?_
  show pm_wp (pm_cal d) prog_14_method_3_code 12 none true 81 [.ref 159] [.ref 168, .ref 159] (toE L jMT17) M (fun r E1 M1 => r = none ∧ Q E1 M1)
  have hM : okM 169 (jMV1 sc) M := hM
  refine k_paC (ix := 42) (kf := 22) (ci := 12) (m := 42) (fin := true) (by decide +kernel) (by decide +kernel) (fun _ => ⟨rfl, rfl⟩) (by decide +kernel) (by omega) (by decide +kernel) ?_
  refine pn 84 rfl ?_
  show pm_wp (pm_cal d) prog_14_method_3_code 12 none true 84 [.ref 159] [] (toE L jMT18) M (fun r E1 M1 => r = none ∧ Q E1 M1)
  have hM : okM 169 (jMV1 sc) M := hM
  refine s_aload_n (i := 0) (by decide +kernel) rfl (pn 85 rfl ?_)
  refine t_sipush (n := 1792) (v := nI 1792) (by decide +kernel) (by decide +kernel) (pn 88 rfl ?_)
  refine k_nwC (ty := .int) (kd := 0) (n := 1792) 169 (by decide +kernel) (by decide +kernel) rfl (by omega) (by omega) hM (fun M hM => ?_)
  refine pn 90 rfl ?_
  show pm_wp (pm_cal d) prog_14_method_3_code 12 none true 90 [.ref 159] [.ref 169, .ref 159] (toE L jMT19) M (fun r E1 M1 => r = none ∧ Q E1 M1)
  have hM : okM 170 (jMV1 sc) M := hM
  refine k_paC (ix := 45) (kf := 23) (ci := 12) (m := 42) (fin := true) (by decide +kernel) (by decide +kernel) (fun _ => ⟨rfl, rfl⟩) (by decide +kernel) (by omega) (by decide +kernel) ?_
  refine pn 93 rfl ?_
  show pm_wp (pm_cal d) prog_14_method_3_code 12 none true 93 [.ref 159] [] (toE L jMT20) M (fun r E1 M1 => r = none ∧ Q E1 M1)
  have hM : okM 170 (jMV1 sc) M := hM
  refine s_aload_n (i := 0) (by decide +kernel) rfl (pn 94 rfl ?_)
  refine t_sipush (n := 1792) (v := nI 1792) (by decide +kernel) (by decide +kernel) (pn 97 rfl ?_)
  refine k_nwC (ty := .int) (kd := 0) (n := 1792) 170 (by decide +kernel) (by decide +kernel) rfl (by omega) (by omega) hM (fun M hM => ?_)
  refine pn 99 rfl ?_
  show pm_wp (pm_cal d) prog_14_method_3_code 12 none true 99 [.ref 159] [.ref 170, .ref 159] (toE L jMT21) M (fun r E1 M1 => r = none ∧ Q E1 M1)
  have hM : okM 171 (jMV1 sc) M := hM
  refine k_paC (ix := 48) (kf := 24) (ci := 12) (m := 42) (fin := true) (by decide +kernel) (by decide +kernel) (fun _ => ⟨rfl, rfl⟩) (by decide +kernel) (by omega) (by decide +kernel) ?_
  refine pn 102 rfl ?_
  show pm_wp (pm_cal d) prog_14_method_3_code 12 none true 102 [.ref 159] [] (toE L jMT22) M (fun r E1 M1 => r = none ∧ Q E1 M1)
  have hM : okM 171 (jMV1 sc) M := hM
  refine s_aload_n (i := 0) (by decide +kernel) rfl (pn 103 rfl ?_)
  refine t_bipush (n := 48) (v := nI 48) (by decide +kernel) (by decide +kernel) (pn 105 rfl ?_)
  refine k_nwC (ty := .int) (kd := 0) (n := 48) 171 (by decide +kernel) (by decide +kernel) rfl (by omega) (by omega) hM (fun M hM => ?_)
  refine pn 107 rfl ?_
  show pm_wp (pm_cal d) prog_14_method_3_code 12 none true 107 [.ref 159] [.ref 171, .ref 159] (toE L jMT23) M (fun r E1 M1 => r = none ∧ Q E1 M1)
  have hM : okM 172 (jMV1 sc) M := hM
  refine k_paC (ix := 51) (kf := 25) (ci := 12) (m := 42) (fin := true) (by decide +kernel) (by decide +kernel) (fun _ => ⟨rfl, rfl⟩) (by decide +kernel) (by omega) (by decide +kernel) ?_
  refine pn 110 rfl ?_
  show pm_wp (pm_cal d) prog_14_method_3_code 12 none true 110 [.ref 159] [] (toE L jMT24) M (fun r E1 M1 => r = none ∧ Q E1 M1)
  have hM : okM 172 (jMV1 sc) M := hM
  refine s_aload_n (i := 0) (by decide +kernel) rfl (pn 111 rfl ?_)
  refine t_iconst (n := -1) (v := (-1)) (by decide +kernel) (by decide +kernel) (pn 112 rfl ?_)
  refine k_piC (ix := 54) (kf := 26) (ci := 12) (m := 42) (fin := false) (by decide +kernel) (by decide +kernel) (fun _ => ⟨rfl, rfl⟩) (by decide +kernel) (by decide +kernel) (n0 := 172) (by omega) hM (fun M hM => ?_)
  refine pn 115 rfl ?_
  show pm_wp (pm_cal d) prog_14_method_3_code 12 none true 115 [.ref 159] [] (toE L jMT24) M (fun r E1 M1 => r = none ∧ Q E1 M1)
  have hM : okM 172 (jMV2 sc) M := hM
  refine s_aload_n (i := 0) (by decide +kernel) rfl (pn 116 rfl ?_)
  refine t_bipush (n := 6) (v := nI 6) (by decide +kernel) (by decide +kernel) (pn 118 rfl ?_)
  refine k_nwC (ty := .int) (kd := 0) (n := 6) 172 (by decide +kernel) (by decide +kernel) rfl (by omega) (by omega) hM (fun M hM => ?_)
  refine pn 120 rfl ?_
  show pm_wp (pm_cal d) prog_14_method_3_code 12 none true 120 [.ref 159] [.ref 172, .ref 159] (toE L jMT25) M (fun r E1 M1 => r = none ∧ Q E1 M1)
  have hM : okM 173 (jMV2 sc) M := hM
  refine k_paC (ix := 57) (kf := 27) (ci := 12) (m := 42) (fin := true) (by decide +kernel) (by decide +kernel) (fun _ => ⟨rfl, rfl⟩) (by decide +kernel) (by omega) (by decide +kernel) ?_
  refine pn 123 rfl ?_
  show pm_wp (pm_cal d) prog_14_method_3_code 12 none true 123 [.ref 159] [] (toE L jMT26) M (fun r E1 M1 => r = none ∧ Q E1 M1)
  have hM : okM 173 (jMV2 sc) M := hM
  refine s_aload_n (i := 0) (by decide +kernel) rfl (pn 124 rfl ?_)
  refine t_bipush (n := 6) (v := nI 6) (by decide +kernel) (by decide +kernel) (pn 126 rfl ?_)
  refine k_nwC (ty := .int) (kd := 0) (n := 6) 173 (by decide +kernel) (by decide +kernel) rfl (by omega) (by omega) hM (fun M hM => ?_)
  refine pn 128 rfl ?_
  show pm_wp (pm_cal d) prog_14_method_3_code 12 none true 128 [.ref 159] [.ref 173, .ref 159] (toE L jMT27) M (fun r E1 M1 => r = none ∧ Q E1 M1)
  have hM : okM 174 (jMV2 sc) M := hM
  refine k_paC (ix := 60) (kf := 28) (ci := 12) (m := 42) (fin := true) (by decide +kernel) (by decide +kernel) (fun _ => ⟨rfl, rfl⟩) (by decide +kernel) (by omega) (by decide +kernel) ?_
  refine pn 131 rfl ?_
  show pm_wp (pm_cal d) prog_14_method_3_code 12 none true 131 [.ref 159] [] (toE L jMT28) M (fun r E1 M1 => r = none ∧ Q E1 M1)
  have hM : okM 174 (jMV2 sc) M := hM
  refine s_aload_n (i := 0) (by decide +kernel) rfl (pn 132 rfl ?_)
  refine t_sipush (n := 25600) (v := nI 25600) (by decide +kernel) (by decide +kernel) (pn 135 rfl ?_)
  refine k_nwC (ty := .int) (kd := 0) (n := 25600) 174 (by decide +kernel) (by decide +kernel) rfl (by omega) (by omega) hM (fun M hM => ?_)
  refine pn 137 rfl ?_
  show pm_wp (pm_cal d) prog_14_method_3_code 12 none true 137 [.ref 159] [.ref 174, .ref 159] (toE L jMT29) M (fun r E1 M1 => r = none ∧ Q E1 M1)
  have hM : okM 175 (jMV2 sc) M := hM
  refine k_paC (ix := 63) (kf := 30) (ci := 12) (m := 42) (fin := true) (by decide +kernel) (by decide +kernel) (fun _ => ⟨rfl, rfl⟩) (by decide +kernel) (by omega) (by decide +kernel) ?_
  refine pn 140 rfl ?_
  show pm_wp (pm_cal d) prog_14_method_3_code 12 none true 140 [.ref 159] [] (toE L jMT30) M (fun r E1 M1 => r = none ∧ Q E1 M1)
  have hM : okM 175 (jMV2 sc) M := hM
  refine s_aload_n (i := 0) (by decide +kernel) rfl (pn 141 rfl ?_)
  refine t_bipush (n := 100) (v := nI 100) (by decide +kernel) (by decide +kernel) (pn 143 rfl ?_)
  refine k_nwC (ty := .int) (kd := 0) (n := 100) 175 (by decide +kernel) (by decide +kernel) rfl (by omega) (by omega) hM (fun M hM => ?_)
  refine pn 145 rfl ?_
  show pm_wp (pm_cal d) prog_14_method_3_code 12 none true 145 [.ref 159] [.ref 175, .ref 159] (toE L jMT31) M (fun r E1 M1 => r = none ∧ Q E1 M1)
  have hM : okM 176 (jMV2 sc) M := hM
  refine k_paC (ix := 66) (kf := 31) (ci := 12) (m := 42) (fin := true) (by decide +kernel) (by decide +kernel) (fun _ => ⟨rfl, rfl⟩) (by decide +kernel) (by omega) (by decide +kernel) ?_
  refine pn 148 rfl ?_
  show pm_wp (pm_cal d) prog_14_method_3_code 12 none true 148 [.ref 159] [] (toE L jMT32) M (fun r E1 M1 => r = none ∧ Q E1 M1)
  have hM : okM 176 (jMV2 sc) M := hM
  refine s_aload_n (i := 0) (by decide +kernel) rfl (pn 149 rfl ?_)
  refine t_bipush (n := 100) (v := nI 100) (by decide +kernel) (by decide +kernel) (pn 151 rfl ?_)
  refine k_nwC (ty := .int) (kd := 0) (n := 100) 176 (by decide +kernel) (by decide +kernel) rfl (by omega) (by omega) hM (fun M hM => ?_)
  refine pn 153 rfl ?_
  show pm_wp (pm_cal d) prog_14_method_3_code 12 none true 153 [.ref 159] [.ref 176, .ref 159] (toE L jMT33) M (fun r E1 M1 => r = none ∧ Q E1 M1)
  have hM : okM 177 (jMV2 sc) M := hM
  refine k_paC (ix := 69) (kf := 32) (ci := 12) (m := 42) (fin := true) (by decide +kernel) (by decide +kernel) (fun _ => ⟨rfl, rfl⟩) (by decide +kernel) (by omega) (by decide +kernel) ?_
  refine pn 156 rfl ?_
  show pm_wp (pm_cal d) prog_14_method_3_code 12 none true 156 [.ref 159] [] (toE L jMT34) M (fun r E1 M1 => r = none ∧ Q E1 M1)
  have hM : okM 177 (jMV2 sc) M := hM
  refine s_aload_n (i := 0) (by decide +kernel) rfl (pn 157 rfl ?_)
  refine t_bipush (n := 8) (v := nI 8) (by decide +kernel) (by decide +kernel) (pn 159 rfl ?_)
  refine k_nwC (ty := .int) (kd := 0) (n := 8) 177 (by decide +kernel) (by decide +kernel) rfl (by omega) (by omega) hM (fun M hM => ?_)
  refine pn 161 rfl ?_
  show pm_wp (pm_cal d) prog_14_method_3_code 12 none true 161 [.ref 159] [.ref 177, .ref 159] (toE L jMT35) M (fun r E1 M1 => r = none ∧ Q E1 M1)
  have hM : okM 178 (jMV2 sc) M := hM
  refine k_paC (ix := 72) (kf := 33) (ci := 12) (m := 42) (fin := true) (by decide +kernel) (by decide +kernel) (fun _ => ⟨rfl, rfl⟩) (by decide +kernel) (by omega) (by decide +kernel) ?_
  refine pn 164 rfl ?_
  show pm_wp (pm_cal d) prog_14_method_3_code 12 none true 164 [.ref 159] [] (toE L jMT36) M (fun r E1 M1 => r = none ∧ Q E1 M1)
  have hM : okM 178 (jMV2 sc) M := hM
  refine s_aload_n (i := 0) (by decide +kernel) rfl (pn 165 rfl ?_)
  refine t_sipush (n := 25600) (v := nI 25600) (by decide +kernel) (by decide +kernel) (pn 168 rfl ?_)
  refine k_nwC (ty := .boolean) (kd := 2) (n := 25600) 178 (by decide +kernel) (by decide +kernel) rfl (by omega) (by omega) hM (fun M hM => ?_)
  refine pn 170 rfl ?_
  show pm_wp (pm_cal d) prog_14_method_3_code 12 none true 170 [.ref 159] [.ref 178, .ref 159] (toE L jMT37) M (fun r E1 M1 => r = none ∧ Q E1 M1)
  have hM : okM 179 (jMV2 sc) M := hM
  refine k_paC (ix := 75) (kf := 35) (ci := 12) (m := 42) (fin := true) (by decide +kernel) (by decide +kernel) (fun _ => ⟨rfl, rfl⟩) (by decide +kernel) (by omega) (by decide +kernel) ?_
  refine pn 173 rfl ?_
  show pm_wp (pm_cal d) prog_14_method_3_code 12 none true 173 [.ref 159] [] (toE L jMT38) M (fun r E1 M1 => r = none ∧ Q E1 M1)
  have hM : okM 179 (jMV2 sc) M := hM
  refine s_aload_n (i := 0) (by decide +kernel) rfl (pn 174 rfl ?_)
  refine t_sipush (n := 256) (v := nI 256) (by decide +kernel) (by decide +kernel) (pn 177 rfl ?_)
  refine k_nwC (ty := .int) (kd := 0) (n := 256) 179 (by decide +kernel) (by decide +kernel) rfl (by omega) (by omega) hM (fun M hM => ?_)
  refine pn 179 rfl ?_
  show pm_wp (pm_cal d) prog_14_method_3_code 12 none true 179 [.ref 159] [.ref 179, .ref 159] (toE L jMT39) M (fun r E1 M1 => r = none ∧ Q E1 M1)
  have hM : okM 180 (jMV2 sc) M := hM
  refine k_paC (ix := 78) (kf := 36) (ci := 12) (m := 42) (fin := true) (by decide +kernel) (by decide +kernel) (fun _ => ⟨rfl, rfl⟩) (by decide +kernel) (by omega) (by decide +kernel) ?_
  refine pn 182 rfl ?_
  show pm_wp (pm_cal d) prog_14_method_3_code 12 none true 182 [.ref 159] [] (toE L jMT40) M (fun r E1 M1 => r = none ∧ Q E1 M1)
  have hM : okM 180 (jMV2 sc) M := hM
  refine s_aload_n (i := 0) (by decide +kernel) rfl (pn 183 rfl ?_)
  refine t_sipush (n := 1000) (v := nI 1000) (by decide +kernel) (by decide +kernel) (pn 186 rfl ?_)
  refine k_nwC (ty := .long) (kd := 1) (n := 1000) 180 (by decide +kernel) (by decide +kernel) rfl (by omega) (by omega) hM (fun M hM => ?_)
  refine pn 188 rfl ?_
  show pm_wp (pm_cal d) prog_14_method_3_code 12 none true 188 [.ref 159] [.ref 180, .ref 159] (toE L jMT41) M (fun r E1 M1 => r = none ∧ Q E1 M1)
  have hM : okM 181 (jMV2 sc) M := hM
  refine k_paC (ix := 81) (kf := 37) (ci := 12) (m := 42) (fin := true) (by decide +kernel) (by decide +kernel) (fun _ => ⟨rfl, rfl⟩) (by decide +kernel) (by omega) (by decide +kernel) ?_
  refine pn 191 rfl ?_
  show pm_wp (pm_cal d) prog_14_method_3_code 12 none true 191 [.ref 159] [] (toE L jMT42) M (fun r E1 M1 => r = none ∧ Q E1 M1)
  have hM : okM 181 (jMV2 sc) M := hM
  refine s_aload_n (i := 0) (by decide +kernel) rfl (pn 192 rfl ?_)
  refine t_sipush (n := 1000) (v := nI 1000) (by decide +kernel) (by decide +kernel) (pn 195 rfl ?_)
  refine k_nwC (ty := .long) (kd := 1) (n := 1000) 181 (by decide +kernel) (by decide +kernel) rfl (by omega) (by omega) hM (fun M hM => ?_)
  refine pn 197 rfl ?_
  show pm_wp (pm_cal d) prog_14_method_3_code 12 none true 197 [.ref 159] [.ref 181, .ref 159] (toE L jMT43) M (fun r E1 M1 => r = none ∧ Q E1 M1)
  have hM : okM 182 (jMV2 sc) M := hM
  refine k_paC (ix := 85) (kf := 38) (ci := 12) (m := 42) (fin := true) (by decide +kernel) (by decide +kernel) (fun _ => ⟨rfl, rfl⟩) (by decide +kernel) (by omega) (by decide +kernel) ?_
  refine pn 200 rfl ?_
  show pm_wp (pm_cal d) prog_14_method_3_code 12 none true 200 [.ref 159] [] (toE L jMT44) M (fun r E1 M1 => r = none ∧ Q E1 M1)
  have hM : okM 182 (jMV2 sc) M := hM
  refine s_aload_n (i := 0) (by decide +kernel) rfl (pn 201 rfl ?_)
  refine t_iconst (n := 4) (v := nI 4) (by decide +kernel) (by decide +kernel) (pn 202 rfl ?_)
  refine k_nwC (ty := .int) (kd := 0) (n := 4) 182 (by decide +kernel) (by decide +kernel) rfl (by omega) (by omega) hM (fun M hM => ?_)
  refine pn 204 rfl ?_
  show pm_wp (pm_cal d) prog_14_method_3_code 12 none true 204 [.ref 159] [.ref 182, .ref 159] (toE L jMT45) M (fun r E1 M1 => r = none ∧ Q E1 M1)
  have hM : okM 183 (jMV2 sc) M := hM
  refine s_dup (by decide +kernel) rfl (pn 205 rfl ?_)
  refine t_iconst (n := 0) (v := nI 0) (by decide +kernel) (by decide +kernel) (pn 206 rfl ?_)
  refine t_iconst (n := -1) (v := (-1)) (by decide +kernel) (by decide +kernel) (pn 207 rfl ?_)
  refine k_isC (n := 4) (by decide +kernel) (by decide +kernel) (by omega) (by omega) (by decide +kernel) (n0 := 183) (by omega) hM (fun M hM => ?_)
  refine pn 208 rfl ?_
  show pm_wp (pm_cal d) prog_14_method_3_code 12 none true 208 [.ref 159] [.ref 182, .ref 159] (toE L jMT45) M (fun r E1 M1 => r = none ∧ Q E1 M1)
  have hM : okM 183 (jMV3 sc) M := hM
  refine s_dup (by decide +kernel) rfl (pn 209 rfl ?_)
  refine t_iconst (n := 1) (v := nI 1) (by decide +kernel) (by decide +kernel) (pn 210 rfl ?_)
  refine t_iconst (n := -1) (v := (-1)) (by decide +kernel) (by decide +kernel) (pn 211 rfl ?_)
  refine k_isC (n := 4) (by decide +kernel) (by decide +kernel) (by omega) (by omega) (by decide +kernel) (n0 := 183) (by omega) hM (fun M hM => ?_)
  refine pn 212 rfl ?_
  show pm_wp (pm_cal d) prog_14_method_3_code 12 none true 212 [.ref 159] [.ref 182, .ref 159] (toE L jMT45) M (fun r E1 M1 => r = none ∧ Q E1 M1)
  have hM : okM 183 (jMV4 sc) M := hM
  refine s_dup (by decide +kernel) rfl (pn 213 rfl ?_)
  refine t_iconst (n := 2) (v := nI 2) (by decide +kernel) (by decide +kernel) (pn 214 rfl ?_)
  refine t_iconst (n := -1) (v := (-1)) (by decide +kernel) (by decide +kernel) (pn 215 rfl ?_)
  refine k_isC (n := 4) (by decide +kernel) (by decide +kernel) (by omega) (by omega) (by decide +kernel) (n0 := 183) (by omega) hM (fun M hM => ?_)
  refine pn 216 rfl ?_
  show pm_wp (pm_cal d) prog_14_method_3_code 12 none true 216 [.ref 159] [.ref 182, .ref 159] (toE L jMT45) M (fun r E1 M1 => r = none ∧ Q E1 M1)
  have hM : okM 183 (jMV5 sc) M := hM
  refine s_dup (by decide +kernel) rfl (pn 217 rfl ?_)
  refine t_iconst (n := 3) (v := nI 3) (by decide +kernel) (by decide +kernel) (pn 218 rfl ?_)
  refine t_iconst (n := -1) (v := (-1)) (by decide +kernel) (by decide +kernel) (pn 219 rfl ?_)
  refine k_isC (n := 4) (by decide +kernel) (by decide +kernel) (by omega) (by omega) (by decide +kernel) (n0 := 183) (by omega) hM (fun M hM => ?_)
  refine pn 220 rfl ?_
  show pm_wp (pm_cal d) prog_14_method_3_code 12 none true 220 [.ref 159] [.ref 182, .ref 159] (toE L jMT45) M (fun r E1 M1 => r = none ∧ Q E1 M1)
  have hM : okM 183 (jMV6 sc) M := hM
  refine k_paC (ix := 88) (kf := 39) (ci := 12) (m := 42) (fin := true) (by decide +kernel) (by decide +kernel) (fun _ => ⟨rfl, rfl⟩) (by decide +kernel) (by omega) (by decide +kernel) ?_
  refine pn 223 rfl ?_
  show pm_wp (pm_cal d) prog_14_method_3_code 12 none true 223 [.ref 159] [] (toE L jMT46) M (fun r E1 M1 => r = none ∧ Q E1 M1)
  have hM : okM 183 (jMV6 sc) M := hM
  refine s_aload_n (i := 0) (by decide +kernel) rfl (pn 224 rfl ?_)
  refine t_iconst (n := 4) (v := nI 4) (by decide +kernel) (by decide +kernel) (pn 225 rfl ?_)
  refine k_nwC (ty := .int) (kd := 0) (n := 4) 183 (by decide +kernel) (by decide +kernel) rfl (by omega) (by omega) hM (fun M hM => ?_)
  refine pn 227 rfl ?_
  show pm_wp (pm_cal d) prog_14_method_3_code 12 none true 227 [.ref 159] [.ref 183, .ref 159] (toE L jMT47) M (fun r E1 M1 => r = none ∧ Q E1 M1)
  have hM : okM 184 (jMV6 sc) M := hM
  refine k_paC (ix := 91) (kf := 40) (ci := 12) (m := 42) (fin := true) (by decide +kernel) (by decide +kernel) (fun _ => ⟨rfl, rfl⟩) (by decide +kernel) (by omega) (by decide +kernel) ?_
  refine pn 230 rfl ?_
  show pm_wp (pm_cal d) prog_14_method_3_code 12 none true 230 [.ref 159] [] (toE L jMT48) M (fun r E1 M1 => r = none ∧ Q E1 M1)
  have hM : okM 184 (jMV6 sc) M := hM
  refine s_aload_n (i := 0) (by decide +kernel) rfl (pn 231 rfl ?_)
  refine t_sipush (n := 160) (v := nI 160) (by decide +kernel) (by decide +kernel) (pn 234 rfl ?_)
  refine k_nwC (ty := .long) (kd := 1) (n := 160) 184 (by decide +kernel) (by decide +kernel) rfl (by omega) (by omega) hM (fun M hM => ?_)
  refine pn 236 rfl ?_
  show pm_wp (pm_cal d) prog_14_method_3_code 12 none true 236 [.ref 159] [.ref 184, .ref 159] (toE L jMT49) M (fun r E1 M1 => r = none ∧ Q E1 M1)
  have hM : okM 185 (jMV6 sc) M := hM
  refine k_paC (ix := 94) (kf := 41) (ci := 12) (m := 42) (fin := true) (by decide +kernel) (by decide +kernel) (fun _ => ⟨rfl, rfl⟩) (by decide +kernel) (by omega) (by decide +kernel) ?_
  refine pn 239 rfl ?_
  show pm_wp (pm_cal d) prog_14_method_3_code 12 none true 239 [.ref 159] [] (toE L jMT50) M (fun r E1 M1 => r = none ∧ Q E1 M1)
  have hM : okM 185 (jMV6 sc) M := hM
  refine s_aload_n (i := 0) (by decide +kernel) rfl (pn 240 rfl ?_)
  refine k_gfC (x := 160) (ix := 13) (kf := 1) (ci := 12) (m := 42) (fin := true) (by decide +kernel) (by decide +kernel) (by decide +kernel) (by decide +kernel) (by decide +kernel) (pn 243 rfl ?_)
  exact hq M hM
