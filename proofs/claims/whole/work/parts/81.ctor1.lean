def ctFo (o : Nat) (m : zM) : zM := upm (upm m o 0 1) o 2 1
set_option maxRecDepth 100000 in
set_option maxHeartbeats 40000000 in
theorem ct_ctFo (l : Launch) (D : va_G) (aC : Nat → ClassId) (B : Nat) {o : Nat} {m : zM} {S V : Nat} (ko : kdC o = (0, 1)) (hz : ∀ id, o + 1 ≤ id → m id = fun _ => 0) : zCt l yX1_init cX1_init 1 1 2 1664 D aC B kdC o (o + 3) m (ctFo o m) S V := by
  refine zCt.of mf_X1_init rfl (by decide) hz (fun K e1 e2 e3 e4 hk => ?_)
  subst e1 e2 e3 e4
  refine gw_aload_n hk.1.1 0 rfl dX1_init_0 ?_
  refine gc_obj hk.1 (inT2 139 rfl rfl) wObI wObC (by decide) dX1_init_1 ?_
  refine gw_aload_n hk.1.1 0 rfl dX1_init_4 ?_
  refine gw_sipush hk.1.1 (v := 1600) rfl dX1_init_5 ?_
  refine gc_newi hk.1 wAint rfl (by decide) (kdC_s1_0 ko) (by decide) (by decide) dX1_init_8 ?_
  refine gc_putF hk.1 (ci := 1) (C := RX1) (T := TX1) (ty := (.array .int)) (k := 0) (o := o) tyX1 rfl inX1 (Nat.le_of_ble_eq_true rfl) (inT2 140 rfl rfl) tyX1_ok nmX1 rfl rfl (by decide +kernel) ko (by omega) rfl rfl (fun _ => rfl) (fun _ => rfl) dX1_init_10 ?_
  refine gw_aload_n hk.1.1 0 rfl dX1_init_13 ?_
  refine gw_bipush hk.1.1 (v := 64) rfl dX1_init_14 ?_
  refine gc_newi hk.1 wAint rfl (by decide) (kdC_s1_2 ko) (by decide) (by decide) dX1_init_16 ?_
  refine gc_putF hk.1 (ci := 1) (C := RX1) (T := TX1) (ty := (.array .int)) (k := 2) (o := o) tyX1 rfl inX1 (Nat.le_of_ble_eq_true rfl) (inT2 145 rfl rfl) tyX1_ok nmX1 rfl rfl (by decide +kernel) ko (by omega) rfl rfl (fun _ => rfl) (fun _ => rfl) dX1_init_18 ?_
  exact gc_return hk.1 dX1_init_21
def ctZo (o : Nat) (m : zM) : zM := upm (upm (upm (upm (upm (ctFo (o + 14) (upm (ctFo (o + 11) (upm (upm (upm (upm (upm (upm (upm (upm (upm (upm m o 2 1) o 3 1) o 4 1) o 5 1) o 6 1) o 7 1) o 8 1) o 9 1) o 10 1) o 11 1)) o 12 1)) o 13 1) o 14 6) o 15 1) o 16 3) o 17 5
set_option maxRecDepth 100000 in
set_option maxHeartbeats 40000000 in
theorem ct_ctZo (l : Launch) (D : va_G) (aC : Nat → ClassId) (B : Nat) {o : Nat} {m : zM} {S V : Nat} (ko : kdC o = (0, 10)) (hz : ∀ id, o + 1 ≤ id → m id = fun _ => 0) : zCt l yX10_init cX10_init 1 2 16 3432 D aC B kdC o (o + 17) m (ctZo o m) S V := by
  refine zCt.of mf_X10_init rfl (by decide) hz (fun K e1 e2 e3 e4 hk => ?_)
  subst e1 e2 e3 e4
  refine gw_aload_n hk.1.1 0 rfl dX10_init_0 ?_
  refine gc_obj hk.1 (inT2 133 rfl rfl) wObI wObC (by decide) dX10_init_1 ?_
  refine gw_aload_n hk.1.1 0 rfl dX10_init_4 ?_
  refine gw_bipush hk.1.1 (v := 6) rfl dX10_init_5 ?_
  refine gc_newi hk.1 wAint rfl (by decide) (kdC_s10_2 ko) (by decide) (by decide) dX10_init_7 ?_
  refine gc_putF hk.1 (ci := 10) (C := RX10) (T := TX10) (ty := (.array .int)) (k := 2) (o := o) tyX10 rfl inX10 (Nat.le_of_ble_eq_true rfl) (inT2 166 rfl rfl) tyX10_ok nmX10 rfl rfl (by decide +kernel) ko (by omega) rfl rfl (fun _ => rfl) (fun _ => rfl) dX10_init_9 ?_
  refine gw_aload_n hk.1.1 0 rfl dX10_init_12 ?_
  refine gw_bipush hk.1.1 (v := 6) rfl dX10_init_13 ?_
  refine gc_newi hk.1 wAint rfl (by decide) (kdC_s10_3 ko) (by decide) (by decide) dX10_init_15 ?_
  refine gc_putF hk.1 (ci := 10) (C := RX10) (T := TX10) (ty := (.array .int)) (k := 3) (o := o) tyX10 rfl inX10 (Nat.le_of_ble_eq_true rfl) (inT2 168 rfl rfl) tyX10_ok nmX10 rfl rfl (by decide +kernel) ko (by omega) rfl rfl (fun _ => rfl) (fun _ => rfl) dX10_init_17 ?_
  refine gw_aload_n hk.1.1 0 rfl dX10_init_20 ?_
  refine gw_bipush hk.1.1 (v := 6) rfl dX10_init_21 ?_
  refine gc_newi hk.1 wAint rfl (by decide) (kdC_s10_4 ko) (by decide) (by decide) dX10_init_23 ?_
  refine gc_putF hk.1 (ci := 10) (C := RX10) (T := TX10) (ty := (.array .int)) (k := 4) (o := o) tyX10 rfl inX10 (Nat.le_of_ble_eq_true rfl) (inT2 170 rfl rfl) tyX10_ok nmX10 rfl rfl (by decide +kernel) ko (by omega) rfl rfl (fun _ => rfl) (fun _ => rfl) dX10_init_25 ?_
  refine gw_aload_n hk.1.1 0 rfl dX10_init_28 ?_
  refine gw_bipush hk.1.1 (v := 6) rfl dX10_init_29 ?_
  refine gc_newi hk.1 wAint rfl (by decide) (kdC_s10_5 ko) (by decide) (by decide) dX10_init_31 ?_
  refine gc_putF hk.1 (ci := 10) (C := RX10) (T := TX10) (ty := (.array .int)) (k := 5) (o := o) tyX10 rfl inX10 (Nat.le_of_ble_eq_true rfl) (inT2 172 rfl rfl) tyX10_ok nmX10 rfl rfl (by decide +kernel) ko (by omega) rfl rfl (fun _ => rfl) (fun _ => rfl) dX10_init_33 ?_
  refine gw_aload_n hk.1.1 0 rfl dX10_init_36 ?_
  refine gw_bipush hk.1.1 (v := 18) rfl dX10_init_37 ?_
  refine gc_newi hk.1 wAint rfl (by decide) (kdC_s10_6 ko) (by decide) (by decide) dX10_init_39 ?_
  refine gc_putF hk.1 (ci := 10) (C := RX10) (T := TX10) (ty := (.array .int)) (k := 6) (o := o) tyX10 rfl inX10 (Nat.le_of_ble_eq_true rfl) (inT2 174 rfl rfl) tyX10_ok nmX10 rfl rfl (by decide +kernel) ko (by omega) rfl rfl (fun _ => rfl) (fun _ => rfl) dX10_init_41 ?_
  refine gw_aload_n hk.1.1 0 rfl dX10_init_44 ?_
  refine gw_bipush hk.1.1 (v := 8) rfl dX10_init_45 ?_
  refine gc_newi hk.1 wAint rfl (by decide) (kdC_s10_7 ko) (by decide) (by decide) dX10_init_47 ?_
  refine gc_putF hk.1 (ci := 10) (C := RX10) (T := TX10) (ty := (.array .int)) (k := 7) (o := o) tyX10 rfl inX10 (Nat.le_of_ble_eq_true rfl) (inT2 177 rfl rfl) tyX10_ok nmX10 rfl rfl (by decide +kernel) ko (by omega) rfl rfl (fun _ => rfl) (fun _ => rfl) dX10_init_49 ?_
  refine gw_aload_n hk.1.1 0 rfl dX10_init_52 ?_
  refine gw_bipush hk.1.1 (v := 8) rfl dX10_init_53 ?_
  refine gc_newi hk.1 wAint rfl (by decide) (kdC_s10_8 ko) (by decide) (by decide) dX10_init_55 ?_
  refine gc_putF hk.1 (ci := 10) (C := RX10) (T := TX10) (ty := (.array .int)) (k := 8) (o := o) tyX10 rfl inX10 (Nat.le_of_ble_eq_true rfl) (inT2 179 rfl rfl) tyX10_ok nmX10 rfl rfl (by decide +kernel) ko (by omega) rfl rfl (fun _ => rfl) (fun _ => rfl) dX10_init_57 ?_
  refine gw_aload_n hk.1.1 0 rfl dX10_init_60 ?_
  refine gw_bipush hk.1.1 (v := 8) rfl dX10_init_61 ?_
  refine gc_newi hk.1 wAint rfl (by decide) (kdC_s10_9 ko) (by decide) (by decide) dX10_init_63 ?_
  refine gc_putF hk.1 (ci := 10) (C := RX10) (T := TX10) (ty := (.array .int)) (k := 9) (o := o) tyX10 rfl inX10 (Nat.le_of_ble_eq_true rfl) (inT2 181 rfl rfl) tyX10_ok nmX10 rfl rfl (by decide +kernel) ko (by omega) rfl rfl (fun _ => rfl) (fun _ => rfl) dX10_init_65 ?_
  refine gw_aload_n hk.1.1 0 rfl dX10_init_68 ?_
  refine gw_bipush hk.1.1 (v := 8) rfl dX10_init_69 ?_
  refine gc_newi hk.1 wAint rfl (by decide) (kdC_s10_10 ko) (by decide) (by decide) dX10_init_71 ?_
  refine gc_putF hk.1 (ci := 10) (C := RX10) (T := TX10) (ty := (.array .int)) (k := 10) (o := o) tyX10 rfl inX10 (Nat.le_of_ble_eq_true rfl) (inT2 183 rfl rfl) tyX10_ok nmX10 rfl rfl (by decide +kernel) ko (by omega) rfl rfl (fun _ => rfl) (fun _ => rfl) dX10_init_73 ?_
  refine gw_aload_n hk.1.1 0 rfl dX10_init_76 ?_
  refine gw_bipush hk.1.1 (v := 24) rfl dX10_init_77 ?_
  refine gc_newi hk.1 wAint rfl (by decide) (kdC_s10_11 ko) (by decide) (by decide) dX10_init_79 ?_
  refine gc_putF hk.1 (ci := 10) (C := RX10) (T := TX10) (ty := (.array .int)) (k := 11) (o := o) tyX10 rfl inX10 (Nat.le_of_ble_eq_true rfl) (inT2 186 rfl rfl) tyX10_ok nmX10 rfl rfl (by decide +kernel) ko (by omega) rfl rfl (fun _ => rfl) (fun _ => rfl) dX10_init_81 ?_
  refine gw_aload_n hk.1.1 0 rfl dX10_init_84 ?_
  refine gc_new hk.1 (ci := 1) (C := RX1) (T := TX1) tyX1 rfl inX1 tyX1_ok dfX1 (inT2 134 rfl rfl) (inT2 135 rfl rfl) (inT1 16 rfl rfl) (kdC_s10_12 ko) (by decide) (by decide) dX10_init_85 ?_
  refine gw_dup hk.1.1 rfl dX10_init_88 ?_
  refine gc_initN hk (st := [.ref (kB K + (o + 11)), .ref (kB K + o)]) (o := (o + 11)) mf_X1_init rfl rfl (List.mem_of_getElem? (i := 8) rfl) (inT2 137 rfl rfl) (by decide) (Nat.le_of_ble_eq_true rfl) (by decide) (by decide) rfl dX10_init_89 (fun hz => ct_ctFo _ _ _ _ (o := (o + 11)) (kdC_s10_12 ko) hz) ?_
  refine gc_putF hk.1 (ci := 10) (C := RX10) (T := TX10) (ty := (.object "BeastsChoose$Formula")) (k := 12) (o := o) tyX10 rfl inX10 (Nat.le_of_ble_eq_true rfl) (inT2 189 rfl rfl) tyX10_ok nmX10 rfl rfl (by decide +kernel) ko (by omega) rfl rfl (fun _ => rfl) (fun _ => rfl) dX10_init_92 ?_
  refine gw_aload_n hk.1.1 0 rfl dX10_init_95 ?_
  refine gc_new hk.1 (ci := 1) (C := RX1) (T := TX1) tyX1 rfl inX1 tyX1_ok dfX1 (inT2 134 rfl rfl) (inT2 135 rfl rfl) (inT1 16 rfl rfl) (kdC_s10_13 ko) (by decide) (by decide) dX10_init_96 ?_
  refine gw_dup hk.1.1 rfl dX10_init_99 ?_
  refine gc_initN hk (st := [.ref (kB K + (o + 14)), .ref (kB K + o)]) (o := (o + 14)) mf_X1_init rfl rfl (List.mem_of_getElem? (i := 8) rfl) (inT2 137 rfl rfl) (by decide) (Nat.le_of_ble_eq_true rfl) (by decide) (by decide) rfl dX10_init_100 (fun hz => ct_ctFo _ _ _ _ (o := (o + 14)) (kdC_s10_13 ko) hz) ?_
  refine gc_putF hk.1 (ci := 10) (C := RX10) (T := TX10) (ty := (.object "BeastsChoose$Formula")) (k := 13) (o := o) tyX10 rfl inX10 (Nat.le_of_ble_eq_true rfl) (inT2 192 rfl rfl) tyX10_ok nmX10 rfl rfl (by decide +kernel) ko (by omega) rfl rfl (fun _ => rfl) (fun _ => rfl) dX10_init_103 ?_
  refine gw_aload_n hk.1.1 0 rfl dX10_init_106 ?_
  refine gw_bipush hk.1.1 (v := 6) rfl dX10_init_107 ?_
  refine gc_putv hk.1 (k := 14) (o := o) (v := 6) fpc_X10_52 ko (by omega) (fun f => by unfold zfv; rw [sets_eq]; rfl) (vp_nar_int _) rfl dX10_init_109 ?_
  refine gw_aload_n hk.1.1 0 rfl dX10_init_112 ?_
  refine gw_iconst hk.1.1 (v := 1) rfl dX10_init_113 ?_
  refine gc_putv hk.1 (k := 15) (o := o) (v := 1) fpc_X10_56 ko (by omega) (fun f => by unfold zfv; rw [sets_eq]; rfl) (vp_nar_int _) rfl dX10_init_114 ?_
  refine gw_aload_n hk.1.1 0 rfl dX10_init_117 ?_
  refine gw_iconst hk.1.1 (v := 3) rfl dX10_init_118 ?_
  refine gc_putv hk.1 (k := 16) (o := o) (v := 3) fpc_X10_59 ko (by omega) (fun f => by unfold zfv; rw [sets_eq]; rfl) (vp_nar_int _) rfl dX10_init_119 ?_
  refine gw_aload_n hk.1.1 0 rfl dX10_init_122 ?_
  refine gw_iconst hk.1.1 (v := 5) rfl dX10_init_123 ?_
  refine gc_putv hk.1 (k := 17) (o := o) (v := 5) fpc_X10_62 ko (by omega) (fun f => by unfold zfv; rw [sets_eq]; rfl) (vp_nar_int _) rfl dX10_init_124 ?_
  exact gc_return hk.1 dX10_init_127
def ctKe (m : zM) : zM := upm (upm (upm (upm m 25 0 1) 25 1 1) 25 2 1) 25 3 1
set_option maxRecDepth 100000 in
set_option maxHeartbeats 40000000 in
theorem ct_ctKe (l : Launch) (D : va_G) (aC : Nat → ClassId) (B : Nat) {m : zM} {S V : Nat} (hz : ∀ id, 25 + 1 ≤ id → m id = fun _ => 0) : zCt l yX4_init cX4_init 1 1 4 67 D aC B kdC 25 30 m (ctKe m) S V := by
  refine zCt.of mf_X4_init rfl (by decide) hz (fun K e1 e2 e3 e4 hk => ?_)
  subst e1 e2 e3 e4
  refine gw_aload_n hk.1.1 0 rfl dX4_init_0 ?_
  refine gc_obj hk.1 (inT2 4 rfl rfl) wObI wObC (by decide) dX4_init_1 ?_
  refine gw_aload_n hk.1.1 0 rfl dX4_init_4 ?_
  refine gw_bipush hk.1.1 (v := 48) rfl dX4_init_5 ?_
  refine gc_newi hk.1 wAint rfl (by decide) kdC_26 (by decide) (by decide) dX4_init_7 ?_
  refine gc_putF hk.1 (ci := 4) (C := RX4) (T := TX4) (ty := (.array .int)) (k := 0) (o := 25) tyX4 rfl inX4 (Nat.le_of_ble_eq_true rfl) (inT2 5 rfl rfl) tyX4_ok nmX4 rfl rfl (by decide +kernel) kdC_25 (by omega) rfl rfl (fun _ => rfl) (fun _ => rfl) dX4_init_9 ?_
  refine gw_aload_n hk.1.1 0 rfl dX4_init_12 ?_
  refine gw_bipush hk.1.1 (v := 6) rfl dX4_init_13 ?_
  refine gc_newi hk.1 wAint rfl (by decide) kdC_27 (by decide) (by decide) dX4_init_15 ?_
  refine gc_putF hk.1 (ci := 4) (C := RX4) (T := TX4) (ty := (.array .int)) (k := 1) (o := 25) tyX4 rfl inX4 (Nat.le_of_ble_eq_true rfl) (inT2 7 rfl rfl) tyX4_ok nmX4 rfl rfl (by decide +kernel) kdC_25 (by omega) rfl rfl (fun _ => rfl) (fun _ => rfl) dX4_init_17 ?_
  refine gw_aload_n hk.1.1 0 rfl dX4_init_20 ?_
  refine gw_iconst hk.1.1 (v := 4) rfl dX4_init_21 ?_
  refine gc_newi hk.1 wAint rfl (by decide) kdC_28 (by decide) (by decide) dX4_init_22 ?_
  refine gc_putF hk.1 (ci := 4) (C := RX4) (T := TX4) (ty := (.array .int)) (k := 2) (o := 25) tyX4 rfl inX4 (Nat.le_of_ble_eq_true rfl) (inT2 9 rfl rfl) tyX4_ok nmX4 rfl rfl (by decide +kernel) kdC_25 (by omega) rfl rfl (fun _ => rfl) (fun _ => rfl) dX4_init_24 ?_
  refine gw_aload_n hk.1.1 0 rfl dX4_init_27 ?_
  refine gw_bipush hk.1.1 (v := 9) rfl dX4_init_28 ?_
  refine gc_newi hk.1 wAint rfl (by decide) kdC_29 (by decide) (by decide) dX4_init_30 ?_
  refine gc_putF hk.1 (ci := 4) (C := RX4) (T := TX4) (ty := (.array .int)) (k := 3) (o := 25) tyX4 rfl inX4 (Nat.le_of_ble_eq_true rfl) (inT2 11 rfl rfl) tyX4_ok nmX4 rfl rfl (by decide +kernel) kdC_25 (by omega) rfl rfl (fun _ => rfl) (fun _ => rfl) dX4_init_32 ?_
  exact gc_return hk.1 dX4_init_35
def ctGu (m : zM) : zM := upm (upm (upm m 40 2 1) 40 3 1) 40 4 1
set_option maxRecDepth 100000 in
set_option maxHeartbeats 40000000 in
theorem ct_ctGu (l : Launch) (D : va_G) (aC : Nat → ClassId) (B : Nat) {m : zM} {S V : Nat} (hz : ∀ id, 40 + 1 ≤ id → m id = fun _ => 0) : zCt l yX2_init cX2_init 1 1 3 1035 D aC B kdC 40 44 m (ctGu m) S V := by
  refine zCt.of mf_X2_init rfl (by decide) hz (fun K e1 e2 e3 e4 hk => ?_)
  subst e1 e2 e3 e4
  refine gw_aload_n hk.1.1 0 rfl dX2_init_0 ?_
  refine gc_obj hk.1 (inT2 46 rfl rfl) wObI wObC (by decide) dX2_init_1 ?_
  refine gw_aload_n hk.1.1 0 rfl dX2_init_4 ?_
  refine gw_iconst hk.1.1 (v := 3) rfl dX2_init_5 ?_
  refine gc_newi hk.1 wAint rfl (by decide) kdC_41 (by decide) (by decide) dX2_init_6 ?_
  refine gc_putF hk.1 (ci := 2) (C := RX2) (T := TX2) (ty := (.array .int)) (k := 2) (o := 40) tyX2 rfl inX2 (Nat.le_of_ble_eq_true rfl) (inT2 51 rfl rfl) tyX2_ok nmX2 rfl rfl (by decide +kernel) kdC_40 (by omega) rfl rfl (fun _ => rfl) (fun _ => rfl) dX2_init_8 ?_
  refine gw_aload_n hk.1.1 0 rfl dX2_init_11 ?_
  refine gw_bipush hk.1.1 (v := 32) rfl dX2_init_12 ?_
  refine gc_newi hk.1 wAint rfl (by decide) kdC_42 (by decide) (by decide) dX2_init_14 ?_
  refine gc_putF hk.1 (ci := 2) (C := RX2) (T := TX2) (ty := (.array .int)) (k := 3) (o := 40) tyX2 rfl inX2 (Nat.le_of_ble_eq_true rfl) (inT2 53 rfl rfl) tyX2_ok nmX2 rfl rfl (by decide +kernel) kdC_40 (by omega) rfl rfl (fun _ => rfl) (fun _ => rfl) dX2_init_16 ?_
  refine gw_aload_n hk.1.1 0 rfl dX2_init_19 ?_
  refine gw_sipush hk.1.1 (v := 1000) rfl dX2_init_20 ?_
  refine gc_newi hk.1 wAint rfl (by decide) kdC_43 (by decide) (by decide) dX2_init_23 ?_
  refine gc_putF hk.1 (ci := 2) (C := RX2) (T := TX2) (ty := (.array .int)) (k := 4) (o := 40) tyX2 rfl inX2 (Nat.le_of_ble_eq_true rfl) (inT2 54 rfl rfl) tyX2_ok nmX2 rfl rfl (by decide +kernel) kdC_40 (by omega) rfl rfl (fun _ => rfl) (fun _ => rfl) dX2_init_25 ?_
  exact gc_return hk.1 dX2_init_28
def ctRi (m : zM) : zM := upm (upm (upm (upm m 44 0 1) 44 1 1) 44 2 1) 44 3 1
set_option maxRecDepth 100000 in
set_option maxHeartbeats 40000000 in
theorem ct_ctRi (l : Launch) (D : va_G) (aC : Nat → ClassId) (B : Nat) {m : zM} {S V : Nat} (hz : ∀ id, 44 + 1 ≤ id → m id = fun _ => 0) : zCt l yX6_init cX6_init 1 1 4 24 D aC B kdC 44 49 m (ctRi m) S V := by
  refine zCt.of mf_X6_init rfl (by decide) hz (fun K e1 e2 e3 e4 hk => ?_)
  subst e1 e2 e3 e4
  refine gw_aload_n hk.1.1 0 rfl dX6_init_0 ?_
  refine gc_obj hk.1 (inT2 71 rfl rfl) wObI wObC (by decide) dX6_init_1 ?_
  refine gw_aload_n hk.1.1 0 rfl dX6_init_4 ?_
  refine gw_bipush hk.1.1 (v := 6) rfl dX6_init_5 ?_
  refine gc_newi hk.1 wAint rfl (by decide) kdC_45 (by decide) (by decide) dX6_init_7 ?_
  refine gc_putF hk.1 (ci := 6) (C := RX6) (T := TX6) (ty := (.array .int)) (k := 0) (o := 44) tyX6 rfl inX6 (Nat.le_of_ble_eq_true rfl) (inT2 72 rfl rfl) tyX6_ok nmX6 rfl rfl (by decide +kernel) kdC_44 (by omega) rfl rfl (fun _ => rfl) (fun _ => rfl) dX6_init_9 ?_
  refine gw_aload_n hk.1.1 0 rfl dX6_init_12 ?_
  refine gw_bipush hk.1.1 (v := 6) rfl dX6_init_13 ?_
  refine gc_newi hk.1 wAint rfl (by decide) kdC_46 (by decide) (by decide) dX6_init_15 ?_
  refine gc_putF hk.1 (ci := 6) (C := RX6) (T := TX6) (ty := (.array .int)) (k := 1) (o := 44) tyX6 rfl inX6 (Nat.le_of_ble_eq_true rfl) (inT2 74 rfl rfl) tyX6_ok nmX6 rfl rfl (by decide +kernel) kdC_44 (by omega) rfl rfl (fun _ => rfl) (fun _ => rfl) dX6_init_17 ?_
  refine gw_aload_n hk.1.1 0 rfl dX6_init_20 ?_
  refine gw_bipush hk.1.1 (v := 6) rfl dX6_init_21 ?_
  refine gc_newi hk.1 wAint rfl (by decide) kdC_47 (by decide) (by decide) dX6_init_23 ?_
  refine gc_putF hk.1 (ci := 6) (C := RX6) (T := TX6) (ty := (.array .int)) (k := 2) (o := 44) tyX6 rfl inX6 (Nat.le_of_ble_eq_true rfl) (inT2 76 rfl rfl) tyX6_ok nmX6 rfl rfl (by decide +kernel) kdC_44 (by omega) rfl rfl (fun _ => rfl) (fun _ => rfl) dX6_init_25 ?_
  refine gw_aload_n hk.1.1 0 rfl dX6_init_28 ?_
  refine gw_bipush hk.1.1 (v := 6) rfl dX6_init_29 ?_
  refine gc_newi hk.1 wAint rfl (by decide) kdC_48 (by decide) (by decide) dX6_init_31 ?_
  refine gc_putF hk.1 (ci := 6) (C := RX6) (T := TX6) (ty := (.array .int)) (k := 3) (o := 44) tyX6 rfl inX6 (Nat.le_of_ble_eq_true rfl) (inT2 78 rfl rfl) tyX6_ok nmX6 rfl rfl (by decide +kernel) kdC_44 (by omega) rfl rfl (fun _ => rfl) (fun _ => rfl) dX6_init_33 ?_
  exact gc_return hk.1 dX6_init_36
def ctWa (m : zM) : zM := upm (upm m 49 0 1) 49 1 1
set_option maxRecDepth 100000 in
set_option maxHeartbeats 40000000 in
theorem ct_ctWa (l : Launch) (D : va_G) (aC : Nat → ClassId) (B : Nat) {m : zM} {S V : Nat} (hz : ∀ id, 49 + 1 ≤ id → m id = fun _ => 0) : zCt l yX9_init cX9_init 1 1 2 128 D aC B kdC 49 52 m (ctWa m) S V := by
  refine zCt.of mf_X9_init rfl (by decide) hz (fun K e1 e2 e3 e4 hk => ?_)
  subst e1 e2 e3 e4
  refine gw_aload_n hk.1.1 0 rfl dX9_init_0 ?_
  refine gc_obj hk.1 (inT2 96 rfl rfl) wObI wObC (by decide) dX9_init_1 ?_
  refine gw_aload_n hk.1.1 0 rfl dX9_init_4 ?_
  refine gw_bipush hk.1.1 (v := 64) rfl dX9_init_5 ?_
  refine gc_newi hk.1 wAint rfl (by decide) kdC_50 (by decide) (by decide) dX9_init_7 ?_
  refine gc_putF hk.1 (ci := 9) (C := RX9) (T := TX9) (ty := (.array .int)) (k := 0) (o := 49) tyX9 rfl inX9 (Nat.le_of_ble_eq_true rfl) (inT2 97 rfl rfl) tyX9_ok nmX9 rfl rfl (by decide +kernel) kdC_49 (by omega) rfl rfl (fun _ => rfl) (fun _ => rfl) dX9_init_9 ?_
  refine gw_aload_n hk.1.1 0 rfl dX9_init_12 ?_
  refine gw_bipush hk.1.1 (v := 64) rfl dX9_init_13 ?_
  refine gc_newi hk.1 wAint rfl (by decide) kdC_51 (by decide) (by decide) dX9_init_15 ?_
  refine gc_putF hk.1 (ci := 9) (C := RX9) (T := TX9) (ty := (.array .int)) (k := 1) (o := 49) tyX9 rfl inX9 (Nat.le_of_ble_eq_true rfl) (inT2 98 rfl rfl) tyX9_ok nmX9 rfl rfl (by decide +kernel) kdC_49 (by omega) rfl rfl (fun _ => rfl) (fun _ => rfl) dX9_init_17 ?_
  exact gc_return hk.1 dX9_init_20
def ctIm (m : zM) : zM := upm (upm m 52 0 1) 52 2 54
set_option maxRecDepth 100000 in
set_option maxHeartbeats 40000000 in
theorem ct_ctIm (l : Launch) (D : va_G) (aC : Nat → ClassId) (B : Nat) {m : zM} {S V : Nat} (hz : ∀ id, 52 + 1 ≤ id → m id = fun _ => 0) : zCt l yX3_init cX3_init 1 1 1 160 D aC B kdC 52 54 m (ctIm m) S V := by
  refine zCt.of mf_X3_init rfl (by decide) hz (fun K e1 e2 e3 e4 hk => ?_)
  subst e1 e2 e3 e4
  refine gw_aload_n hk.1.1 0 rfl dX3_init_0 ?_
  refine gc_obj hk.1 (inT2 109 rfl rfl) wObI wObC (by decide) dX3_init_1 ?_
  refine gw_aload_n hk.1.1 0 rfl dX3_init_4 ?_
  refine gw_sipush hk.1.1 (v := 160) rfl dX3_init_5 ?_
  refine gc_newi hk.1 wAint rfl (by decide) kdC_53 (by decide) (by decide) dX3_init_8 ?_
  refine gc_putF hk.1 (ci := 3) (C := RX3) (T := TX3) (ty := (.array .int)) (k := 0) (o := 52) tyX3 rfl inX3 (Nat.le_of_ble_eq_true rfl) (inT2 110 rfl rfl) tyX3_ok nmX3 rfl rfl (by decide +kernel) kdC_52 (by omega) rfl rfl (fun _ => rfl) (fun _ => rfl) dX3_init_10 ?_
  refine gw_aload_n hk.1.1 0 rfl dX3_init_13 ?_
  refine gw_aload_n hk.1.1 0 rfl dX3_init_14 ?_
  refine gc_get2 hk.1 (k := 0) (o := 52) fgc_X3_11 rfl kdC_52 (by omega) rfl rfl dX3_init_15 ?_
  refine gc_putv hk.1 (k := 2) (o := 52) (v := 54) fpc_X3_15 kdC_52 (by omega) (fun f => by unfold zfv; rw [sets_eq]; rfl) rfl rfl dX3_init_18 ?_
  exact gc_return hk.1 dX3_init_21
