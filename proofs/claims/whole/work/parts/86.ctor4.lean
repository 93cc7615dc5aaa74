def ctBr (m : zM) : zM := upm (mul7 (upm m 30 1 1)) 30 2 1
set_option maxRecDepth 100000 in
set_option maxHeartbeats 40000000 in
theorem ct_ctBr (l : Launch) (D : va_G) (aC : Nat → ClassId) (B : Nat) {m : zM} {S V : Nat} (hz : ∀ id, 30 + 1 ≤ id → m id = fun _ => 0) : zCt l yX0_init cX0_init 1 1 9 1805 D aC B kdC 30 40 m (ctBr m) S V := by
  refine zCt.of mf_X0_init rfl (by decide) hz (fun K e1 e2 e3 e4 hk => ?_)
  subst e1 e2 e3 e4
  refine gw_aload_n hk.1.1 0 rfl dX0_init_0 ?_
  refine gc_obj hk.1 (inT2 26 rfl rfl) wObI wObC (by decide) dX0_init_1 ?_
  refine gw_aload_n hk.1.1 0 rfl dX0_init_4 ?_
  refine gw_bipush hk.1.1 (v := 6) rfl dX0_init_5 ?_
  refine gc_newi hk.1 wAint rfl (by decide) kdC_31 (by decide) (by decide) dX0_init_7 ?_
  refine gc_putF hk.1 (ci := 0) (C := RX0) (T := TX0) (ty := (.array .int)) (k := 1) (o := 30) tyX0 rfl inX0 (Nat.le_of_ble_eq_true rfl) (inT2 31 rfl rfl) tyX0_ok nmX0 rfl rfl (by decide +kernel) kdC_30 (by omega) rfl rfl (fun _ => rfl) (fun _ => rfl) dX0_init_9 ?_
  refine gw_aload_n hk.1.1 0 rfl dX0_init_12 ?_
  refine gw_bipush hk.1.1 (v := 7) rfl dX0_init_13 ?_
  refine gw_sipush hk.1.1 (v := 256) rfl dX0_init_15 ?_
  refine gc_multi hk (by decide) (by decide) dX0_init_18 ?_
  refine gc_putF hk.1 (ci := 0) (C := RX0) (T := TX0) (ty := (.array (.array .int))) (k := 2) (o := 30) tyX0 rfl inX0 (Nat.le_of_ble_eq_true rfl) (inT2 33 rfl rfl) tyX0_ok nmX0 rfl rfl (by decide +kernel) kdC_30 (by omega) rfl rfl (fun _ => rfl) (fun _ => rfl) dX0_init_22 ?_
  exact gc_return hk.1 dX0_init_25
def ctC : zM := upm (ctSt 241 (upm (ctSt 233 (upm (ctSt 225 (upm (ctSt 217 (upm (ctSt 209 (upm (ctSt 201 (upm (ctSt 193 (upm (ctSt 185 (upm (ctSt 177 (upm (ctSt 169 (upm (ctSt 161 (upm (ctSt 153 (upm (ctSt 145 (upm (ctSt 137 (upm (ctSt 129 (upm (ctSt 121 (upm (ctSt 113 (upm (ctSt 105 (upm (ctSt 97 (upm (ctSt 89 (upm (upm (ctZo 72 (upm (ctZo 55 (upm (upm (ctIm (upm (ctWa (upm (ctRi (upm (ctGu (upm (ctBr (upm (ctKe (upm (upm (ctSt 16 (upm (ctSt 8 (upm (upm (ctPa z0M) 0 0 1) 0 1 1)) 0 2 1)) 0 3 1) 0 4 1)) 0 5 1)) 0 6 1)) 0 7 1)) 0 8 1)) 0 9 1)) 0 10 1) 0 11 1)) 0 12 56)) 0 13 73) 0 16 1)) 24 0 1)) 24 1 1)) 24 2 1)) 24 3 1)) 24 4 1)) 24 5 1)) 24 6 1)) 24 7 1)) 24 8 1)) 24 9 1)) 24 10 1)) 24 11 1)) 24 12 1)) 24 13 1)) 24 14 1)) 24 15 1)) 24 16 1)) 24 17 1)) 24 18 1)) 24 19 1
set_option maxRecDepth 100000 in
set_option maxHeartbeats 40000000 in
theorem ct_ctC (l : Launch) (D : va_G) (aC : Nat → ClassId) (B : Nat) {S V : Nat} : zCt l yX11_init cX11_init 2 7 248 21594 D aC B kdC 0 249 z0M ctC S V := by
  refine zCt.of mf_X11_init rfl (by decide) (fun _ _ => rfl) (fun K e1 e2 e3 e4 hk => ?_)
  subst e1 e2 e3 e4
  refine gw_aload_n hk.1.1 0 rfl dX11_init_0 ?_
  refine gc_obj hk.1 (inT1 26 rfl rfl) wObI wObC (by decide) dX11_init_1 ?_
  refine gw_aload_n hk.1.1 0 rfl dX11_init_4 ?_
  refine gc_new hk.1 (ci := 5) (C := RX5) (T := TX5) tyX5 rfl inX5 tyX5_ok dfX5 (inT1 29 rfl rfl) (inT1 30 rfl rfl) (inT1 2 rfl rfl) kdC_1 (by decide) (by decide) dX11_init_5 ?_
  refine gw_dup hk.1.1 rfl dX11_init_8 ?_
  refine gc_initN hk (st := [.ref (kB K + 1), .ref (kB K + 0)]) (o := 1) mf_X5_init rfl rfl (List.mem_of_getElem? (i := 0) rfl) (inT1 32 rfl rfl) (by decide) (Nat.le_of_ble_eq_true rfl) (by decide) (by decide) rfl dX11_init_9 (fun hz => ct_ctPa _ _ _ _ hz) ?_
  refine gc_putF hk.1 (ci := 11) (C := RX11) (T := TX11) (ty := (.object "BeastsChoose$Parser")) (k := 0) (o := 0) tyX11 rfl inX11 (Nat.le_of_ble_eq_true rfl) (inT3 12 rfl rfl) tyX11_ok nmX11 rfl rfl (by decide +kernel) kdC_0 (by omega) rfl rfl (fun _ => rfl) (fun _ => rfl) dX11_init_12 ?_
  refine gw_aload_n hk.1.1 0 rfl dX11_init_15 ?_
  refine gw_aload_n hk.1.1 0 rfl dX11_init_16 ?_
  refine gc_get2 hk.1 (k := 0) (o := 0) fgc_X11_12 rfl kdC_0 (by omega) rfl rfl dX11_init_17 ?_
  refine gc_get2 hk.1 (k := 0) (o := 1) fgc_X11_16 rfl kdC_1 (by omega) rfl rfl dX11_init_20 ?_
  refine gc_putF hk.1 (ci := 11) (C := RX11) (T := TX11) (ty := (.object "BeastsChoose$Tape")) (k := 1) (o := 0) tyX11 rfl inX11 (Nat.le_of_ble_eq_true rfl) (inT3 13 rfl rfl) tyX11_ok nmX11 rfl rfl (by decide +kernel) kdC_0 (by omega) rfl rfl (fun _ => rfl) (fun _ => rfl) dX11_init_23 ?_
  refine gw_aload_n hk.1.1 0 rfl dX11_init_26 ?_
  refine gc_new hk.1 (ci := 7) (C := RX7) (T := TX7) tyX7 rfl inX7 tyX7_ok dfX7 (inT1 165 rfl rfl) (inT1 166 rfl rfl) (inT1 8 rfl rfl) kdC_8 (by decide) (by decide) dX11_init_27 ?_
  refine gw_dup hk.1.1 rfl dX11_init_30 ?_
  refine gc_initS hk (st := [.ref (kB K + 8), .ref (kB K + 0)]) (o := 8) mf_X7_init rfl rfl (inT1 167 rfl rfl) (inT1 168 rfl rfl) (by decide) (Nat.le_of_ble_eq_true rfl) (by decide) (by decide) rfl dX11_init_31 (fun hz => ct_ctSt _ _ _ _ (o := 8) kdC_8 rfl hz) ?_
  refine gc_putF hk.1 (ci := 11) (C := RX11) (T := TX11) (ty := (.object "BeastsChoose$State")) (k := 2) (o := 0) tyX11 rfl inX11 (Nat.le_of_ble_eq_true rfl) (inT3 14 rfl rfl) tyX11_ok nmX11 rfl rfl (by decide +kernel) kdC_0 (by omega) rfl rfl (fun _ => rfl) (fun _ => rfl) dX11_init_34 ?_
  refine gw_aload_n hk.1.1 0 rfl dX11_init_37 ?_
  refine gc_new hk.1 (ci := 7) (C := RX7) (T := TX7) tyX7 rfl inX7 tyX7_ok dfX7 (inT1 165 rfl rfl) (inT1 166 rfl rfl) (inT1 8 rfl rfl) kdC_16 (by decide) (by decide) dX11_init_38 ?_
  refine gw_dup hk.1.1 rfl dX11_init_41 ?_
  refine gc_initS hk (st := [.ref (kB K + 16), .ref (kB K + 0)]) (o := 16) mf_X7_init rfl rfl (inT1 167 rfl rfl) (inT1 168 rfl rfl) (by decide) (Nat.le_of_ble_eq_true rfl) (by decide) (by decide) rfl dX11_init_42 (fun hz => ct_ctSt _ _ _ _ (o := 16) kdC_16 rfl hz) ?_
  refine gc_putF hk.1 (ci := 11) (C := RX11) (T := TX11) (ty := (.object "BeastsChoose$State")) (k := 3) (o := 0) tyX11 rfl inX11 (Nat.le_of_ble_eq_true rfl) (inT3 15 rfl rfl) tyX11_ok nmX11 rfl rfl (by decide +kernel) kdC_0 (by omega) rfl rfl (fun _ => rfl) (fun _ => rfl) dX11_init_45 ?_
  refine gw_aload_n hk.1.1 0 rfl dX11_init_48 ?_
  refine gw_bipush hk.1.1 (v := 20) rfl dX11_init_49 ?_
  refine gc_anewa hk (inT1 165 rfl rfl) rfl (by decide) kdC_24 (by decide) (by decide) dX11_init_51 ?_
  refine gc_putF hk.1 (ci := 11) (C := RX11) (T := TX11) (ty := (.array (.object "BeastsChoose$State"))) (k := 4) (o := 0) tyX11 rfl inX11 (Nat.le_of_ble_eq_true rfl) (inT3 16 rfl rfl) tyX11_ok nmX11 rfl rfl (by decide +kernel) kdC_0 (by omega) rfl rfl (fun _ => rfl) (fun _ => rfl) dX11_init_54 ?_
  refine gw_aload_n hk.1.1 0 rfl dX11_init_57 ?_
  refine gc_new hk.1 (ci := 4) (C := RX4) (T := TX4) tyX4 rfl inX4 tyX4_ok dfX4 (inT1 239 rfl rfl) (inT2 0 rfl rfl) (inT1 9 rfl rfl) kdC_25 (by decide) (by decide) dX11_init_58 ?_
  refine gw_dup hk.1.1 rfl dX11_init_61 ?_
  refine gc_initN hk (st := [.ref (kB K + 25), .ref (kB K + 0)]) (o := 25) mf_X4_init rfl rfl (List.mem_of_getElem? (i := 1) rfl) (inT2 2 rfl rfl) (by decide) (Nat.le_of_ble_eq_true rfl) (by decide) (by decide) rfl dX11_init_62 (fun hz => ct_ctKe _ _ _ _ hz) ?_
  refine gc_putF hk.1 (ci := 11) (C := RX11) (T := TX11) (ty := (.object "BeastsChoose$Keeper")) (k := 5) (o := 0) tyX11 rfl inX11 (Nat.le_of_ble_eq_true rfl) (inT3 17 rfl rfl) tyX11_ok nmX11 rfl rfl (by decide +kernel) kdC_0 (by omega) rfl rfl (fun _ => rfl) (fun _ => rfl) dX11_init_65 ?_
  refine gw_aload_n hk.1.1 0 rfl dX11_init_68 ?_
  refine gc_new hk.1 (ci := 0) (C := RX0) (T := TX0) tyX0 rfl inX0 tyX0_ok dfX0 (inT2 21 rfl rfl) (inT2 22 rfl rfl) (inT1 10 rfl rfl) kdC_30 (by decide) (by decide) dX11_init_69 ?_
  refine gw_dup hk.1.1 rfl dX11_init_72 ?_
  refine gc_initN hk (st := [.ref (kB K + 30), .ref (kB K + 0)]) (o := 30) mf_X0_init rfl rfl (List.mem_of_getElem? (i := 2) rfl) (inT2 24 rfl rfl) (by decide) (Nat.le_of_ble_eq_true rfl) (by decide) (by decide) rfl dX11_init_73 (fun hz => ct_ctBr _ _ _ _ hz) ?_
  refine gc_putF hk.1 (ci := 11) (C := RX11) (T := TX11) (ty := (.object "BeastsChoose$Bringing")) (k := 6) (o := 0) tyX11 rfl inX11 (Nat.le_of_ble_eq_true rfl) (inT3 18 rfl rfl) tyX11_ok nmX11 rfl rfl (by decide +kernel) kdC_0 (by omega) rfl rfl (fun _ => rfl) (fun _ => rfl) dX11_init_76 ?_
  refine gw_aload_n hk.1.1 0 rfl dX11_init_79 ?_
  refine gc_new hk.1 (ci := 2) (C := RX2) (T := TX2) tyX2 rfl inX2 tyX2_ok dfX2 (inT2 41 rfl rfl) (inT2 42 rfl rfl) (inT1 11 rfl rfl) kdC_40 (by decide) (by decide) dX11_init_80 ?_
  refine gw_dup hk.1.1 rfl dX11_init_83 ?_
  refine gc_initN hk (st := [.ref (kB K + 40), .ref (kB K + 0)]) (o := 40) mf_X2_init rfl rfl (List.mem_of_getElem? (i := 3) rfl) (inT2 44 rfl rfl) (by decide) (Nat.le_of_ble_eq_true rfl) (by decide) (by decide) rfl dX11_init_84 (fun hz => ct_ctGu _ _ _ _ hz) ?_
  refine gc_putF hk.1 (ci := 11) (C := RX11) (T := TX11) (ty := (.object "BeastsChoose$Guesses")) (k := 7) (o := 0) tyX11 rfl inX11 (Nat.le_of_ble_eq_true rfl) (inT3 19 rfl rfl) tyX11_ok nmX11 rfl rfl (by decide +kernel) kdC_0 (by omega) rfl rfl (fun _ => rfl) (fun _ => rfl) dX11_init_87 ?_
  refine gw_aload_n hk.1.1 0 rfl dX11_init_90 ?_
  refine gc_new hk.1 (ci := 6) (C := RX6) (T := TX6) tyX6 rfl inX6 tyX6_ok dfX6 (inT2 66 rfl rfl) (inT2 67 rfl rfl) (inT1 12 rfl rfl) kdC_44 (by decide) (by decide) dX11_init_91 ?_
  refine gw_dup hk.1.1 rfl dX11_init_94 ?_
  refine gc_initN hk (st := [.ref (kB K + 44), .ref (kB K + 0)]) (o := 44) mf_X6_init rfl rfl (List.mem_of_getElem? (i := 4) rfl) (inT2 69 rfl rfl) (by decide) (Nat.le_of_ble_eq_true rfl) (by decide) (by decide) rfl dX11_init_95 (fun hz => ct_ctRi _ _ _ _ hz) ?_
  refine gc_putF hk.1 (ci := 11) (C := RX11) (T := TX11) (ty := (.object "BeastsChoose$Ring")) (k := 8) (o := 0) tyX11 rfl inX11 (Nat.le_of_ble_eq_true rfl) (inT3 20 rfl rfl) tyX11_ok nmX11 rfl rfl (by decide +kernel) kdC_0 (by omega) rfl rfl (fun _ => rfl) (fun _ => rfl) dX11_init_98 ?_
  refine gw_aload_n hk.1.1 0 rfl dX11_init_101 ?_
  refine gc_new hk.1 (ci := 9) (C := RX9) (T := TX9) tyX9 rfl inX9 tyX9_ok dfX9 (inT2 91 rfl rfl) (inT2 92 rfl rfl) (inT1 13 rfl rfl) kdC_49 (by decide) (by decide) dX11_init_102 ?_
  refine gw_dup hk.1.1 rfl dX11_init_105 ?_
  refine gc_initN hk (st := [.ref (kB K + 49), .ref (kB K + 0)]) (o := 49) mf_X9_init rfl rfl (List.mem_of_getElem? (i := 5) rfl) (inT2 94 rfl rfl) (by decide) (Nat.le_of_ble_eq_true rfl) (by decide) (by decide) rfl dX11_init_106 (fun hz => ct_ctWa _ _ _ _ hz) ?_
  refine gc_putF hk.1 (ci := 11) (C := RX11) (T := TX11) (ty := (.object "BeastsChoose$Walk")) (k := 9) (o := 0) tyX11 rfl inX11 (Nat.le_of_ble_eq_true rfl) (inT3 21 rfl rfl) tyX11_ok nmX11 rfl rfl (by decide +kernel) kdC_0 (by omega) rfl rfl (fun _ => rfl) (fun _ => rfl) dX11_init_109 ?_
  refine gw_aload_n hk.1.1 0 rfl dX11_init_112 ?_
  refine gc_new hk.1 (ci := 3) (C := RX3) (T := TX3) tyX3 rfl inX3 tyX3_ok dfX3 (inT2 104 rfl rfl) (inT2 105 rfl rfl) (inT1 14 rfl rfl) kdC_52 (by decide) (by decide) dX11_init_113 ?_
  refine gw_dup hk.1.1 rfl dX11_init_116 ?_
  refine gc_initN hk (st := [.ref (kB K + 52), .ref (kB K + 0)]) (o := 52) mf_X3_init rfl rfl (List.mem_of_getElem? (i := 6) rfl) (inT2 107 rfl rfl) (by decide) (Nat.le_of_ble_eq_true rfl) (by decide) (by decide) rfl dX11_init_117 (fun hz => ct_ctIm _ _ _ _ hz) ?_
  refine gc_putF hk.1 (ci := 11) (C := RX11) (T := TX11) (ty := (.object "BeastsChoose$Image")) (k := 10) (o := 0) tyX11 rfl inX11 (Nat.le_of_ble_eq_true rfl) (inT3 22 rfl rfl) tyX11_ok nmX11 rfl rfl (by decide +kernel) kdC_0 (by omega) rfl rfl (fun _ => rfl) (fun _ => rfl) dX11_init_120 ?_
  refine gw_aload_n hk.1.1 0 rfl dX11_init_123 ?_
  refine gw_bipush hk.1.1 (v := 6) rfl dX11_init_124 ?_
  refine gc_newi hk.1 wAint rfl (by decide) kdC_54 (by decide) (by decide) dX11_init_126 ?_
  refine gc_putF hk.1 (ci := 11) (C := RX11) (T := TX11) (ty := (.array .int)) (k := 11) (o := 0) tyX11 rfl inX11 (Nat.le_of_ble_eq_true rfl) (inT3 23 rfl rfl) tyX11_ok nmX11 rfl rfl (by decide +kernel) kdC_0 (by omega) rfl rfl (fun _ => rfl) (fun _ => rfl) dX11_init_128 ?_
  refine gw_aload_n hk.1.1 0 rfl dX11_init_131 ?_
  refine gc_new hk.1 (ci := 10) (C := RX10) (T := TX10) tyX10 rfl inX10 tyX10_ok dfX10 (inT2 128 rfl rfl) (inT2 129 rfl rfl) (inT1 15 rfl rfl) kdC_55 (by decide) (by decide) dX11_init_132 ?_
  refine gw_dup hk.1.1 rfl dX11_init_135 ?_
  refine gc_initN hk (st := [.ref (kB K + 55), .ref (kB K + 0)]) (o := 55) mf_X10_init rfl rfl (List.mem_of_getElem? (i := 7) rfl) (inT2 131 rfl rfl) (by decide) (Nat.le_of_ble_eq_true rfl) (by decide) (by decide) rfl dX11_init_136 (fun hz => ct_ctZo _ _ _ _ (o := 55) kdC_55 hz) ?_
  refine gc_putv hk.1 (k := 12) (o := 0) (v := 56) fpc_X11_84 kdC_0 (by omega) (fun f => by unfold zfv; rw [sets_eq]; rfl) rfl rfl dX11_init_139 ?_
  refine gw_aload_n hk.1.1 0 rfl dX11_init_142 ?_
  refine gc_new hk.1 (ci := 10) (C := RX10) (T := TX10) tyX10 rfl inX10 tyX10_ok dfX10 (inT2 128 rfl rfl) (inT2 129 rfl rfl) (inT1 15 rfl rfl) kdC_72 (by decide) (by decide) dX11_init_143 ?_
  refine gw_dup hk.1.1 rfl dX11_init_146 ?_
  refine gc_initN hk (st := [.ref (kB K + 72), .ref (kB K + 0)]) (o := 72) mf_X10_init rfl rfl (List.mem_of_getElem? (i := 7) rfl) (inT2 131 rfl rfl) (by decide) (Nat.le_of_ble_eq_true rfl) (by decide) (by decide) rfl dX11_init_147 (fun hz => ct_ctZo _ _ _ _ (o := 72) kdC_72 hz) ?_
  refine gc_putv hk.1 (k := 13) (o := 0) (v := 73) fpc_X11_88 kdC_0 (by omega) (fun f => by unfold zfv; rw [sets_eq]; rfl) rfl rfl dX11_init_150 ?_
  refine gw_aload_n hk.1.1 0 rfl dX11_init_153 ?_
  refine gw_iconst hk.1.1 (v := 1) rfl dX11_init_154 ?_
  refine gc_putv hk.1 (k := 16) (o := 0) (v := 1) fpc_X11_91 kdC_0 (by omega) (fun f => by unfold zfv; rw [sets_eq]; rfl) (vp_nar_int _) rfl dX11_init_155 ?_
  refine gw_iconst hk.1.1 (v := 0) rfl dX11_init_158 ?_
  refine gw_istore_n hk.1.1 rfl (lv' := [(1, mI 0), (0, .ref (kB K + 0))]) (Nat.le_of_ble_eq_true rfl) rfl dX11_init_159 ?_
  refine gw_iload_n hk.1.1 0 rfl dX11_init_160 ?_
  refine gw_bipush hk.1.1 (v := 20) rfl dX11_init_161 ?_
  refine gw_icmp_ge hk.1.1 (cIk rfl) (cIk rfl) dX11_init_163 (fun q => absurd q (by decide)) (fun _ => ?_)
  refine gw_aload_n hk.1.1 1 rfl dX11_init_166 ?_
  refine gc_get2 hk.1 (k := 4) (o := 0) fgc_X11_31 rfl kdC_0 (by omega) rfl rfl dX11_init_167 ?_
  refine gw_iload_n hk.1.1 0 rfl dX11_init_170 ?_
  refine gc_new hk.1 (ci := 7) (C := RX7) (T := TX7) tyX7 rfl inX7 tyX7_ok dfX7 (inT1 165 rfl rfl) (inT1 166 rfl rfl) (inT1 8 rfl rfl) kdC_89 (by decide) (by decide) dX11_init_171 ?_
  refine gw_dup hk.1.1 rfl dX11_init_174 ?_
  refine gc_initS hk (st := [.ref (kB K + 89), mI 0, .ref (kB K + 24)]) (o := 89) mf_X7_init rfl rfl (inT1 167 rfl rfl) (inT1 168 rfl rfl) (by decide) (Nat.le_of_ble_eq_true rfl) (by decide) (by decide) rfl dX11_init_175 (fun hz => ct_ctSt _ _ _ _ (o := 89) kdC_89 rfl hz) ?_
  refine gc_aast hk.1 (a := 24) (i := 0) (cIk rfl) (by decide) (by decide) kdC_24 (by omega) kdC_89 (by decide) dX11_init_178 ?_
  refine gw_iinc hk.1.1 (lv' := [(1, mI 1), (0, .ref (kB K + 0))]) 0 rfl (Nat.le_of_ble_eq_true rfl) rfl dX11_init_179 ?_
  refine gw_goto hk.1.1 dX11_init_182 ?_
  refine gw_iload_n hk.1.1 0 rfl dX11_init_160 ?_
  refine gw_bipush hk.1.1 (v := 20) rfl dX11_init_161 ?_
  refine gw_icmp_ge hk.1.1 (cIk rfl) (cIk rfl) dX11_init_163 (fun q => absurd q (by decide)) (fun _ => ?_)
  refine gw_aload_n hk.1.1 1 rfl dX11_init_166 ?_
  refine gc_get2 hk.1 (k := 4) (o := 0) fgc_X11_31 rfl kdC_0 (by omega) rfl rfl dX11_init_167 ?_
  refine gw_iload_n hk.1.1 0 rfl dX11_init_170 ?_
  refine gc_new hk.1 (ci := 7) (C := RX7) (T := TX7) tyX7 rfl inX7 tyX7_ok dfX7 (inT1 165 rfl rfl) (inT1 166 rfl rfl) (inT1 8 rfl rfl) kdC_97 (by decide) (by decide) dX11_init_171 ?_
  refine gw_dup hk.1.1 rfl dX11_init_174 ?_
  refine gc_initS hk (st := [.ref (kB K + 97), mI 1, .ref (kB K + 24)]) (o := 97) mf_X7_init rfl rfl (inT1 167 rfl rfl) (inT1 168 rfl rfl) (by decide) (Nat.le_of_ble_eq_true rfl) (by decide) (by decide) rfl dX11_init_175 (fun hz => ct_ctSt _ _ _ _ (o := 97) kdC_97 rfl hz) ?_
  refine gc_aast hk.1 (a := 24) (i := 1) (cIk rfl) (by decide) (by decide) kdC_24 (by omega) kdC_97 (by decide) dX11_init_178 ?_
  refine gw_iinc hk.1.1 (lv' := [(1, mI 2), (0, .ref (kB K + 0))]) 0 rfl (Nat.le_of_ble_eq_true rfl) rfl dX11_init_179 ?_
  refine gw_goto hk.1.1 dX11_init_182 ?_
  refine gw_iload_n hk.1.1 0 rfl dX11_init_160 ?_
  refine gw_bipush hk.1.1 (v := 20) rfl dX11_init_161 ?_
  refine gw_icmp_ge hk.1.1 (cIk rfl) (cIk rfl) dX11_init_163 (fun q => absurd q (by decide)) (fun _ => ?_)
  refine gw_aload_n hk.1.1 1 rfl dX11_init_166 ?_
  refine gc_get2 hk.1 (k := 4) (o := 0) fgc_X11_31 rfl kdC_0 (by omega) rfl rfl dX11_init_167 ?_
  refine gw_iload_n hk.1.1 0 rfl dX11_init_170 ?_
  refine gc_new hk.1 (ci := 7) (C := RX7) (T := TX7) tyX7 rfl inX7 tyX7_ok dfX7 (inT1 165 rfl rfl) (inT1 166 rfl rfl) (inT1 8 rfl rfl) kdC_105 (by decide) (by decide) dX11_init_171 ?_
  refine gw_dup hk.1.1 rfl dX11_init_174 ?_
  refine gc_initS hk (st := [.ref (kB K + 105), mI 2, .ref (kB K + 24)]) (o := 105) mf_X7_init rfl rfl (inT1 167 rfl rfl) (inT1 168 rfl rfl) (by decide) (Nat.le_of_ble_eq_true rfl) (by decide) (by decide) rfl dX11_init_175 (fun hz => ct_ctSt _ _ _ _ (o := 105) kdC_105 rfl hz) ?_
  refine gc_aast hk.1 (a := 24) (i := 2) (cIk rfl) (by decide) (by decide) kdC_24 (by omega) kdC_105 (by decide) dX11_init_178 ?_
  refine gw_iinc hk.1.1 (lv' := [(1, mI 3), (0, .ref (kB K + 0))]) 0 rfl (Nat.le_of_ble_eq_true rfl) rfl dX11_init_179 ?_
  refine gw_goto hk.1.1 dX11_init_182 ?_
  refine gw_iload_n hk.1.1 0 rfl dX11_init_160 ?_
  refine gw_bipush hk.1.1 (v := 20) rfl dX11_init_161 ?_
  refine gw_icmp_ge hk.1.1 (cIk rfl) (cIk rfl) dX11_init_163 (fun q => absurd q (by decide)) (fun _ => ?_)
  refine gw_aload_n hk.1.1 1 rfl dX11_init_166 ?_
  refine gc_get2 hk.1 (k := 4) (o := 0) fgc_X11_31 rfl kdC_0 (by omega) rfl rfl dX11_init_167 ?_
  refine gw_iload_n hk.1.1 0 rfl dX11_init_170 ?_
  refine gc_new hk.1 (ci := 7) (C := RX7) (T := TX7) tyX7 rfl inX7 tyX7_ok dfX7 (inT1 165 rfl rfl) (inT1 166 rfl rfl) (inT1 8 rfl rfl) kdC_113 (by decide) (by decide) dX11_init_171 ?_
  refine gw_dup hk.1.1 rfl dX11_init_174 ?_
  refine gc_initS hk (st := [.ref (kB K + 113), mI 3, .ref (kB K + 24)]) (o := 113) mf_X7_init rfl rfl (inT1 167 rfl rfl) (inT1 168 rfl rfl) (by decide) (Nat.le_of_ble_eq_true rfl) (by decide) (by decide) rfl dX11_init_175 (fun hz => ct_ctSt _ _ _ _ (o := 113) kdC_113 rfl hz) ?_
  refine gc_aast hk.1 (a := 24) (i := 3) (cIk rfl) (by decide) (by decide) kdC_24 (by omega) kdC_113 (by decide) dX11_init_178 ?_
  refine gw_iinc hk.1.1 (lv' := [(1, mI 4), (0, .ref (kB K + 0))]) 0 rfl (Nat.le_of_ble_eq_true rfl) rfl dX11_init_179 ?_
  refine gw_goto hk.1.1 dX11_init_182 ?_
  refine gw_iload_n hk.1.1 0 rfl dX11_init_160 ?_
  refine gw_bipush hk.1.1 (v := 20) rfl dX11_init_161 ?_
  refine gw_icmp_ge hk.1.1 (cIk rfl) (cIk rfl) dX11_init_163 (fun q => absurd q (by decide)) (fun _ => ?_)
  refine gw_aload_n hk.1.1 1 rfl dX11_init_166 ?_
  refine gc_get2 hk.1 (k := 4) (o := 0) fgc_X11_31 rfl kdC_0 (by omega) rfl rfl dX11_init_167 ?_
  refine gw_iload_n hk.1.1 0 rfl dX11_init_170 ?_
  refine gc_new hk.1 (ci := 7) (C := RX7) (T := TX7) tyX7 rfl inX7 tyX7_ok dfX7 (inT1 165 rfl rfl) (inT1 166 rfl rfl) (inT1 8 rfl rfl) kdC_121 (by decide) (by decide) dX11_init_171 ?_
  refine gw_dup hk.1.1 rfl dX11_init_174 ?_
  refine gc_initS hk (st := [.ref (kB K + 121), mI 4, .ref (kB K + 24)]) (o := 121) mf_X7_init rfl rfl (inT1 167 rfl rfl) (inT1 168 rfl rfl) (by decide) (Nat.le_of_ble_eq_true rfl) (by decide) (by decide) rfl dX11_init_175 (fun hz => ct_ctSt _ _ _ _ (o := 121) kdC_121 rfl hz) ?_
  refine gc_aast hk.1 (a := 24) (i := 4) (cIk rfl) (by decide) (by decide) kdC_24 (by omega) kdC_121 (by decide) dX11_init_178 ?_
  refine gw_iinc hk.1.1 (lv' := [(1, mI 5), (0, .ref (kB K + 0))]) 0 rfl (Nat.le_of_ble_eq_true rfl) rfl dX11_init_179 ?_
  refine gw_goto hk.1.1 dX11_init_182 ?_
  refine gw_iload_n hk.1.1 0 rfl dX11_init_160 ?_
  refine gw_bipush hk.1.1 (v := 20) rfl dX11_init_161 ?_
  refine gw_icmp_ge hk.1.1 (cIk rfl) (cIk rfl) dX11_init_163 (fun q => absurd q (by decide)) (fun _ => ?_)
  refine gw_aload_n hk.1.1 1 rfl dX11_init_166 ?_
  refine gc_get2 hk.1 (k := 4) (o := 0) fgc_X11_31 rfl kdC_0 (by omega) rfl rfl dX11_init_167 ?_
  refine gw_iload_n hk.1.1 0 rfl dX11_init_170 ?_
  refine gc_new hk.1 (ci := 7) (C := RX7) (T := TX7) tyX7 rfl inX7 tyX7_ok dfX7 (inT1 165 rfl rfl) (inT1 166 rfl rfl) (inT1 8 rfl rfl) kdC_129 (by decide) (by decide) dX11_init_171 ?_
  refine gw_dup hk.1.1 rfl dX11_init_174 ?_
  refine gc_initS hk (st := [.ref (kB K + 129), mI 5, .ref (kB K + 24)]) (o := 129) mf_X7_init rfl rfl (inT1 167 rfl rfl) (inT1 168 rfl rfl) (by decide) (Nat.le_of_ble_eq_true rfl) (by decide) (by decide) rfl dX11_init_175 (fun hz => ct_ctSt _ _ _ _ (o := 129) kdC_129 rfl hz) ?_
  refine gc_aast hk.1 (a := 24) (i := 5) (cIk rfl) (by decide) (by decide) kdC_24 (by omega) kdC_129 (by decide) dX11_init_178 ?_
  refine gw_iinc hk.1.1 (lv' := [(1, mI 6), (0, .ref (kB K + 0))]) 0 rfl (Nat.le_of_ble_eq_true rfl) rfl dX11_init_179 ?_
  refine gw_goto hk.1.1 dX11_init_182 ?_
  refine gw_iload_n hk.1.1 0 rfl dX11_init_160 ?_
  refine gw_bipush hk.1.1 (v := 20) rfl dX11_init_161 ?_
  refine gw_icmp_ge hk.1.1 (cIk rfl) (cIk rfl) dX11_init_163 (fun q => absurd q (by decide)) (fun _ => ?_)
  refine gw_aload_n hk.1.1 1 rfl dX11_init_166 ?_
  refine gc_get2 hk.1 (k := 4) (o := 0) fgc_X11_31 rfl kdC_0 (by omega) rfl rfl dX11_init_167 ?_
  refine gw_iload_n hk.1.1 0 rfl dX11_init_170 ?_
  refine gc_new hk.1 (ci := 7) (C := RX7) (T := TX7) tyX7 rfl inX7 tyX7_ok dfX7 (inT1 165 rfl rfl) (inT1 166 rfl rfl) (inT1 8 rfl rfl) kdC_137 (by decide) (by decide) dX11_init_171 ?_
  refine gw_dup hk.1.1 rfl dX11_init_174 ?_
  refine gc_initS hk (st := [.ref (kB K + 137), mI 6, .ref (kB K + 24)]) (o := 137) mf_X7_init rfl rfl (inT1 167 rfl rfl) (inT1 168 rfl rfl) (by decide) (Nat.le_of_ble_eq_true rfl) (by decide) (by decide) rfl dX11_init_175 (fun hz => ct_ctSt _ _ _ _ (o := 137) kdC_137 rfl hz) ?_
  refine gc_aast hk.1 (a := 24) (i := 6) (cIk rfl) (by decide) (by decide) kdC_24 (by omega) kdC_137 (by decide) dX11_init_178 ?_
  refine gw_iinc hk.1.1 (lv' := [(1, mI 7), (0, .ref (kB K + 0))]) 0 rfl (Nat.le_of_ble_eq_true rfl) rfl dX11_init_179 ?_
  refine gw_goto hk.1.1 dX11_init_182 ?_
  refine gw_iload_n hk.1.1 0 rfl dX11_init_160 ?_
  refine gw_bipush hk.1.1 (v := 20) rfl dX11_init_161 ?_
  refine gw_icmp_ge hk.1.1 (cIk rfl) (cIk rfl) dX11_init_163 (fun q => absurd q (by decide)) (fun _ => ?_)
  refine gw_aload_n hk.1.1 1 rfl dX11_init_166 ?_
  refine gc_get2 hk.1 (k := 4) (o := 0) fgc_X11_31 rfl kdC_0 (by omega) rfl rfl dX11_init_167 ?_
  refine gw_iload_n hk.1.1 0 rfl dX11_init_170 ?_
  refine gc_new hk.1 (ci := 7) (C := RX7) (T := TX7) tyX7 rfl inX7 tyX7_ok dfX7 (inT1 165 rfl rfl) (inT1 166 rfl rfl) (inT1 8 rfl rfl) kdC_145 (by decide) (by decide) dX11_init_171 ?_
  refine gw_dup hk.1.1 rfl dX11_init_174 ?_
  refine gc_initS hk (st := [.ref (kB K + 145), mI 7, .ref (kB K + 24)]) (o := 145) mf_X7_init rfl rfl (inT1 167 rfl rfl) (inT1 168 rfl rfl) (by decide) (Nat.le_of_ble_eq_true rfl) (by decide) (by decide) rfl dX11_init_175 (fun hz => ct_ctSt _ _ _ _ (o := 145) kdC_145 rfl hz) ?_
  refine gc_aast hk.1 (a := 24) (i := 7) (cIk rfl) (by decide) (by decide) kdC_24 (by omega) kdC_145 (by decide) dX11_init_178 ?_
  refine gw_iinc hk.1.1 (lv' := [(1, mI 8), (0, .ref (kB K + 0))]) 0 rfl (Nat.le_of_ble_eq_true rfl) rfl dX11_init_179 ?_
  refine gw_goto hk.1.1 dX11_init_182 ?_
  refine gw_iload_n hk.1.1 0 rfl dX11_init_160 ?_
  refine gw_bipush hk.1.1 (v := 20) rfl dX11_init_161 ?_
  refine gw_icmp_ge hk.1.1 (cIk rfl) (cIk rfl) dX11_init_163 (fun q => absurd q (by decide)) (fun _ => ?_)
  refine gw_aload_n hk.1.1 1 rfl dX11_init_166 ?_
  refine gc_get2 hk.1 (k := 4) (o := 0) fgc_X11_31 rfl kdC_0 (by omega) rfl rfl dX11_init_167 ?_
  refine gw_iload_n hk.1.1 0 rfl dX11_init_170 ?_
  refine gc_new hk.1 (ci := 7) (C := RX7) (T := TX7) tyX7 rfl inX7 tyX7_ok dfX7 (inT1 165 rfl rfl) (inT1 166 rfl rfl) (inT1 8 rfl rfl) kdC_153 (by decide) (by decide) dX11_init_171 ?_
  refine gw_dup hk.1.1 rfl dX11_init_174 ?_
  refine gc_initS hk (st := [.ref (kB K + 153), mI 8, .ref (kB K + 24)]) (o := 153) mf_X7_init rfl rfl (inT1 167 rfl rfl) (inT1 168 rfl rfl) (by decide) (Nat.le_of_ble_eq_true rfl) (by decide) (by decide) rfl dX11_init_175 (fun hz => ct_ctSt _ _ _ _ (o := 153) kdC_153 rfl hz) ?_
  refine gc_aast hk.1 (a := 24) (i := 8) (cIk rfl) (by decide) (by decide) kdC_24 (by omega) kdC_153 (by decide) dX11_init_178 ?_
  refine gw_iinc hk.1.1 (lv' := [(1, mI 9), (0, .ref (kB K + 0))]) 0 rfl (Nat.le_of_ble_eq_true rfl) rfl dX11_init_179 ?_
  refine gw_goto hk.1.1 dX11_init_182 ?_
  refine gw_iload_n hk.1.1 0 rfl dX11_init_160 ?_
  refine gw_bipush hk.1.1 (v := 20) rfl dX11_init_161 ?_
  refine gw_icmp_ge hk.1.1 (cIk rfl) (cIk rfl) dX11_init_163 (fun q => absurd q (by decide)) (fun _ => ?_)
  refine gw_aload_n hk.1.1 1 rfl dX11_init_166 ?_
  refine gc_get2 hk.1 (k := 4) (o := 0) fgc_X11_31 rfl kdC_0 (by omega) rfl rfl dX11_init_167 ?_
  refine gw_iload_n hk.1.1 0 rfl dX11_init_170 ?_
  refine gc_new hk.1 (ci := 7) (C := RX7) (T := TX7) tyX7 rfl inX7 tyX7_ok dfX7 (inT1 165 rfl rfl) (inT1 166 rfl rfl) (inT1 8 rfl rfl) kdC_161 (by decide) (by decide) dX11_init_171 ?_
  refine gw_dup hk.1.1 rfl dX11_init_174 ?_
  refine gc_initS hk (st := [.ref (kB K + 161), mI 9, .ref (kB K + 24)]) (o := 161) mf_X7_init rfl rfl (inT1 167 rfl rfl) (inT1 168 rfl rfl) (by decide) (Nat.le_of_ble_eq_true rfl) (by decide) (by decide) rfl dX11_init_175 (fun hz => ct_ctSt _ _ _ _ (o := 161) kdC_161 rfl hz) ?_
  refine gc_aast hk.1 (a := 24) (i := 9) (cIk rfl) (by decide) (by decide) kdC_24 (by omega) kdC_161 (by decide) dX11_init_178 ?_
  refine gw_iinc hk.1.1 (lv' := [(1, mI 10), (0, .ref (kB K + 0))]) 0 rfl (Nat.le_of_ble_eq_true rfl) rfl dX11_init_179 ?_
  refine gw_goto hk.1.1 dX11_init_182 ?_
  refine gw_iload_n hk.1.1 0 rfl dX11_init_160 ?_
  refine gw_bipush hk.1.1 (v := 20) rfl dX11_init_161 ?_
  refine gw_icmp_ge hk.1.1 (cIk rfl) (cIk rfl) dX11_init_163 (fun q => absurd q (by decide)) (fun _ => ?_)
  refine gw_aload_n hk.1.1 1 rfl dX11_init_166 ?_
  refine gc_get2 hk.1 (k := 4) (o := 0) fgc_X11_31 rfl kdC_0 (by omega) rfl rfl dX11_init_167 ?_
  refine gw_iload_n hk.1.1 0 rfl dX11_init_170 ?_
  refine gc_new hk.1 (ci := 7) (C := RX7) (T := TX7) tyX7 rfl inX7 tyX7_ok dfX7 (inT1 165 rfl rfl) (inT1 166 rfl rfl) (inT1 8 rfl rfl) kdC_169 (by decide) (by decide) dX11_init_171 ?_
  refine gw_dup hk.1.1 rfl dX11_init_174 ?_
  refine gc_initS hk (st := [.ref (kB K + 169), mI 10, .ref (kB K + 24)]) (o := 169) mf_X7_init rfl rfl (inT1 167 rfl rfl) (inT1 168 rfl rfl) (by decide) (Nat.le_of_ble_eq_true rfl) (by decide) (by decide) rfl dX11_init_175 (fun hz => ct_ctSt _ _ _ _ (o := 169) kdC_169 rfl hz) ?_
  refine gc_aast hk.1 (a := 24) (i := 10) (cIk rfl) (by decide) (by decide) kdC_24 (by omega) kdC_169 (by decide) dX11_init_178 ?_
  refine gw_iinc hk.1.1 (lv' := [(1, mI 11), (0, .ref (kB K + 0))]) 0 rfl (Nat.le_of_ble_eq_true rfl) rfl dX11_init_179 ?_
  refine gw_goto hk.1.1 dX11_init_182 ?_
  refine gw_iload_n hk.1.1 0 rfl dX11_init_160 ?_
  refine gw_bipush hk.1.1 (v := 20) rfl dX11_init_161 ?_
  refine gw_icmp_ge hk.1.1 (cIk rfl) (cIk rfl) dX11_init_163 (fun q => absurd q (by decide)) (fun _ => ?_)
  refine gw_aload_n hk.1.1 1 rfl dX11_init_166 ?_
  refine gc_get2 hk.1 (k := 4) (o := 0) fgc_X11_31 rfl kdC_0 (by omega) rfl rfl dX11_init_167 ?_
  refine gw_iload_n hk.1.1 0 rfl dX11_init_170 ?_
  refine gc_new hk.1 (ci := 7) (C := RX7) (T := TX7) tyX7 rfl inX7 tyX7_ok dfX7 (inT1 165 rfl rfl) (inT1 166 rfl rfl) (inT1 8 rfl rfl) kdC_177 (by decide) (by decide) dX11_init_171 ?_
  refine gw_dup hk.1.1 rfl dX11_init_174 ?_
  refine gc_initS hk (st := [.ref (kB K + 177), mI 11, .ref (kB K + 24)]) (o := 177) mf_X7_init rfl rfl (inT1 167 rfl rfl) (inT1 168 rfl rfl) (by decide) (Nat.le_of_ble_eq_true rfl) (by decide) (by decide) rfl dX11_init_175 (fun hz => ct_ctSt _ _ _ _ (o := 177) kdC_177 rfl hz) ?_
  refine gc_aast hk.1 (a := 24) (i := 11) (cIk rfl) (by decide) (by decide) kdC_24 (by omega) kdC_177 (by decide) dX11_init_178 ?_
  refine gw_iinc hk.1.1 (lv' := [(1, mI 12), (0, .ref (kB K + 0))]) 0 rfl (Nat.le_of_ble_eq_true rfl) rfl dX11_init_179 ?_
  refine gw_goto hk.1.1 dX11_init_182 ?_
  refine gw_iload_n hk.1.1 0 rfl dX11_init_160 ?_
  refine gw_bipush hk.1.1 (v := 20) rfl dX11_init_161 ?_
  refine gw_icmp_ge hk.1.1 (cIk rfl) (cIk rfl) dX11_init_163 (fun q => absurd q (by decide)) (fun _ => ?_)
  refine gw_aload_n hk.1.1 1 rfl dX11_init_166 ?_
  refine gc_get2 hk.1 (k := 4) (o := 0) fgc_X11_31 rfl kdC_0 (by omega) rfl rfl dX11_init_167 ?_
  refine gw_iload_n hk.1.1 0 rfl dX11_init_170 ?_
  refine gc_new hk.1 (ci := 7) (C := RX7) (T := TX7) tyX7 rfl inX7 tyX7_ok dfX7 (inT1 165 rfl rfl) (inT1 166 rfl rfl) (inT1 8 rfl rfl) kdC_185 (by decide) (by decide) dX11_init_171 ?_
  refine gw_dup hk.1.1 rfl dX11_init_174 ?_
  refine gc_initS hk (st := [.ref (kB K + 185), mI 12, .ref (kB K + 24)]) (o := 185) mf_X7_init rfl rfl (inT1 167 rfl rfl) (inT1 168 rfl rfl) (by decide) (Nat.le_of_ble_eq_true rfl) (by decide) (by decide) rfl dX11_init_175 (fun hz => ct_ctSt _ _ _ _ (o := 185) kdC_185 rfl hz) ?_
  refine gc_aast hk.1 (a := 24) (i := 12) (cIk rfl) (by decide) (by decide) kdC_24 (by omega) kdC_185 (by decide) dX11_init_178 ?_
  refine gw_iinc hk.1.1 (lv' := [(1, mI 13), (0, .ref (kB K + 0))]) 0 rfl (Nat.le_of_ble_eq_true rfl) rfl dX11_init_179 ?_
  refine gw_goto hk.1.1 dX11_init_182 ?_
  refine gw_iload_n hk.1.1 0 rfl dX11_init_160 ?_
  refine gw_bipush hk.1.1 (v := 20) rfl dX11_init_161 ?_
  refine gw_icmp_ge hk.1.1 (cIk rfl) (cIk rfl) dX11_init_163 (fun q => absurd q (by decide)) (fun _ => ?_)
  refine gw_aload_n hk.1.1 1 rfl dX11_init_166 ?_
  refine gc_get2 hk.1 (k := 4) (o := 0) fgc_X11_31 rfl kdC_0 (by omega) rfl rfl dX11_init_167 ?_
  refine gw_iload_n hk.1.1 0 rfl dX11_init_170 ?_
  refine gc_new hk.1 (ci := 7) (C := RX7) (T := TX7) tyX7 rfl inX7 tyX7_ok dfX7 (inT1 165 rfl rfl) (inT1 166 rfl rfl) (inT1 8 rfl rfl) kdC_193 (by decide) (by decide) dX11_init_171 ?_
  refine gw_dup hk.1.1 rfl dX11_init_174 ?_
  refine gc_initS hk (st := [.ref (kB K + 193), mI 13, .ref (kB K + 24)]) (o := 193) mf_X7_init rfl rfl (inT1 167 rfl rfl) (inT1 168 rfl rfl) (by decide) (Nat.le_of_ble_eq_true rfl) (by decide) (by decide) rfl dX11_init_175 (fun hz => ct_ctSt _ _ _ _ (o := 193) kdC_193 rfl hz) ?_
  refine gc_aast hk.1 (a := 24) (i := 13) (cIk rfl) (by decide) (by decide) kdC_24 (by omega) kdC_193 (by decide) dX11_init_178 ?_
  refine gw_iinc hk.1.1 (lv' := [(1, mI 14), (0, .ref (kB K + 0))]) 0 rfl (Nat.le_of_ble_eq_true rfl) rfl dX11_init_179 ?_
  refine gw_goto hk.1.1 dX11_init_182 ?_
  refine gw_iload_n hk.1.1 0 rfl dX11_init_160 ?_
  refine gw_bipush hk.1.1 (v := 20) rfl dX11_init_161 ?_
  refine gw_icmp_ge hk.1.1 (cIk rfl) (cIk rfl) dX11_init_163 (fun q => absurd q (by decide)) (fun _ => ?_)
  refine gw_aload_n hk.1.1 1 rfl dX11_init_166 ?_
  refine gc_get2 hk.1 (k := 4) (o := 0) fgc_X11_31 rfl kdC_0 (by omega) rfl rfl dX11_init_167 ?_
  refine gw_iload_n hk.1.1 0 rfl dX11_init_170 ?_
  refine gc_new hk.1 (ci := 7) (C := RX7) (T := TX7) tyX7 rfl inX7 tyX7_ok dfX7 (inT1 165 rfl rfl) (inT1 166 rfl rfl) (inT1 8 rfl rfl) kdC_201 (by decide) (by decide) dX11_init_171 ?_
  refine gw_dup hk.1.1 rfl dX11_init_174 ?_
  refine gc_initS hk (st := [.ref (kB K + 201), mI 14, .ref (kB K + 24)]) (o := 201) mf_X7_init rfl rfl (inT1 167 rfl rfl) (inT1 168 rfl rfl) (by decide) (Nat.le_of_ble_eq_true rfl) (by decide) (by decide) rfl dX11_init_175 (fun hz => ct_ctSt _ _ _ _ (o := 201) kdC_201 rfl hz) ?_
  refine gc_aast hk.1 (a := 24) (i := 14) (cIk rfl) (by decide) (by decide) kdC_24 (by omega) kdC_201 (by decide) dX11_init_178 ?_
  refine gw_iinc hk.1.1 (lv' := [(1, mI 15), (0, .ref (kB K + 0))]) 0 rfl (Nat.le_of_ble_eq_true rfl) rfl dX11_init_179 ?_
  refine gw_goto hk.1.1 dX11_init_182 ?_
  refine gw_iload_n hk.1.1 0 rfl dX11_init_160 ?_
  refine gw_bipush hk.1.1 (v := 20) rfl dX11_init_161 ?_
  refine gw_icmp_ge hk.1.1 (cIk rfl) (cIk rfl) dX11_init_163 (fun q => absurd q (by decide)) (fun _ => ?_)
  refine gw_aload_n hk.1.1 1 rfl dX11_init_166 ?_
  refine gc_get2 hk.1 (k := 4) (o := 0) fgc_X11_31 rfl kdC_0 (by omega) rfl rfl dX11_init_167 ?_
  refine gw_iload_n hk.1.1 0 rfl dX11_init_170 ?_
  refine gc_new hk.1 (ci := 7) (C := RX7) (T := TX7) tyX7 rfl inX7 tyX7_ok dfX7 (inT1 165 rfl rfl) (inT1 166 rfl rfl) (inT1 8 rfl rfl) kdC_209 (by decide) (by decide) dX11_init_171 ?_
  refine gw_dup hk.1.1 rfl dX11_init_174 ?_
  refine gc_initS hk (st := [.ref (kB K + 209), mI 15, .ref (kB K + 24)]) (o := 209) mf_X7_init rfl rfl (inT1 167 rfl rfl) (inT1 168 rfl rfl) (by decide) (Nat.le_of_ble_eq_true rfl) (by decide) (by decide) rfl dX11_init_175 (fun hz => ct_ctSt _ _ _ _ (o := 209) kdC_209 rfl hz) ?_
  refine gc_aast hk.1 (a := 24) (i := 15) (cIk rfl) (by decide) (by decide) kdC_24 (by omega) kdC_209 (by decide) dX11_init_178 ?_
  refine gw_iinc hk.1.1 (lv' := [(1, mI 16), (0, .ref (kB K + 0))]) 0 rfl (Nat.le_of_ble_eq_true rfl) rfl dX11_init_179 ?_
  refine gw_goto hk.1.1 dX11_init_182 ?_
  refine gw_iload_n hk.1.1 0 rfl dX11_init_160 ?_
  refine gw_bipush hk.1.1 (v := 20) rfl dX11_init_161 ?_
  refine gw_icmp_ge hk.1.1 (cIk rfl) (cIk rfl) dX11_init_163 (fun q => absurd q (by decide)) (fun _ => ?_)
  refine gw_aload_n hk.1.1 1 rfl dX11_init_166 ?_
  refine gc_get2 hk.1 (k := 4) (o := 0) fgc_X11_31 rfl kdC_0 (by omega) rfl rfl dX11_init_167 ?_
  refine gw_iload_n hk.1.1 0 rfl dX11_init_170 ?_
  refine gc_new hk.1 (ci := 7) (C := RX7) (T := TX7) tyX7 rfl inX7 tyX7_ok dfX7 (inT1 165 rfl rfl) (inT1 166 rfl rfl) (inT1 8 rfl rfl) kdC_217 (by decide) (by decide) dX11_init_171 ?_
  refine gw_dup hk.1.1 rfl dX11_init_174 ?_
  refine gc_initS hk (st := [.ref (kB K + 217), mI 16, .ref (kB K + 24)]) (o := 217) mf_X7_init rfl rfl (inT1 167 rfl rfl) (inT1 168 rfl rfl) (by decide) (Nat.le_of_ble_eq_true rfl) (by decide) (by decide) rfl dX11_init_175 (fun hz => ct_ctSt _ _ _ _ (o := 217) kdC_217 rfl hz) ?_
  refine gc_aast hk.1 (a := 24) (i := 16) (cIk rfl) (by decide) (by decide) kdC_24 (by omega) kdC_217 (by decide) dX11_init_178 ?_
  refine gw_iinc hk.1.1 (lv' := [(1, mI 17), (0, .ref (kB K + 0))]) 0 rfl (Nat.le_of_ble_eq_true rfl) rfl dX11_init_179 ?_
  refine gw_goto hk.1.1 dX11_init_182 ?_
  refine gw_iload_n hk.1.1 0 rfl dX11_init_160 ?_
  refine gw_bipush hk.1.1 (v := 20) rfl dX11_init_161 ?_
  refine gw_icmp_ge hk.1.1 (cIk rfl) (cIk rfl) dX11_init_163 (fun q => absurd q (by decide)) (fun _ => ?_)
  refine gw_aload_n hk.1.1 1 rfl dX11_init_166 ?_
  refine gc_get2 hk.1 (k := 4) (o := 0) fgc_X11_31 rfl kdC_0 (by omega) rfl rfl dX11_init_167 ?_
  refine gw_iload_n hk.1.1 0 rfl dX11_init_170 ?_
  refine gc_new hk.1 (ci := 7) (C := RX7) (T := TX7) tyX7 rfl inX7 tyX7_ok dfX7 (inT1 165 rfl rfl) (inT1 166 rfl rfl) (inT1 8 rfl rfl) kdC_225 (by decide) (by decide) dX11_init_171 ?_
  refine gw_dup hk.1.1 rfl dX11_init_174 ?_
  refine gc_initS hk (st := [.ref (kB K + 225), mI 17, .ref (kB K + 24)]) (o := 225) mf_X7_init rfl rfl (inT1 167 rfl rfl) (inT1 168 rfl rfl) (by decide) (Nat.le_of_ble_eq_true rfl) (by decide) (by decide) rfl dX11_init_175 (fun hz => ct_ctSt _ _ _ _ (o := 225) kdC_225 rfl hz) ?_
  refine gc_aast hk.1 (a := 24) (i := 17) (cIk rfl) (by decide) (by decide) kdC_24 (by omega) kdC_225 (by decide) dX11_init_178 ?_
  refine gw_iinc hk.1.1 (lv' := [(1, mI 18), (0, .ref (kB K + 0))]) 0 rfl (Nat.le_of_ble_eq_true rfl) rfl dX11_init_179 ?_
  refine gw_goto hk.1.1 dX11_init_182 ?_
  refine gw_iload_n hk.1.1 0 rfl dX11_init_160 ?_
  refine gw_bipush hk.1.1 (v := 20) rfl dX11_init_161 ?_
  refine gw_icmp_ge hk.1.1 (cIk rfl) (cIk rfl) dX11_init_163 (fun q => absurd q (by decide)) (fun _ => ?_)
  refine gw_aload_n hk.1.1 1 rfl dX11_init_166 ?_
  refine gc_get2 hk.1 (k := 4) (o := 0) fgc_X11_31 rfl kdC_0 (by omega) rfl rfl dX11_init_167 ?_
  refine gw_iload_n hk.1.1 0 rfl dX11_init_170 ?_
  refine gc_new hk.1 (ci := 7) (C := RX7) (T := TX7) tyX7 rfl inX7 tyX7_ok dfX7 (inT1 165 rfl rfl) (inT1 166 rfl rfl) (inT1 8 rfl rfl) kdC_233 (by decide) (by decide) dX11_init_171 ?_
  refine gw_dup hk.1.1 rfl dX11_init_174 ?_
  refine gc_initS hk (st := [.ref (kB K + 233), mI 18, .ref (kB K + 24)]) (o := 233) mf_X7_init rfl rfl (inT1 167 rfl rfl) (inT1 168 rfl rfl) (by decide) (Nat.le_of_ble_eq_true rfl) (by decide) (by decide) rfl dX11_init_175 (fun hz => ct_ctSt _ _ _ _ (o := 233) kdC_233 rfl hz) ?_
  refine gc_aast hk.1 (a := 24) (i := 18) (cIk rfl) (by decide) (by decide) kdC_24 (by omega) kdC_233 (by decide) dX11_init_178 ?_
  refine gw_iinc hk.1.1 (lv' := [(1, mI 19), (0, .ref (kB K + 0))]) 0 rfl (Nat.le_of_ble_eq_true rfl) rfl dX11_init_179 ?_
  refine gw_goto hk.1.1 dX11_init_182 ?_
  refine gw_iload_n hk.1.1 0 rfl dX11_init_160 ?_
  refine gw_bipush hk.1.1 (v := 20) rfl dX11_init_161 ?_
  refine gw_icmp_ge hk.1.1 (cIk rfl) (cIk rfl) dX11_init_163 (fun q => absurd q (by decide)) (fun _ => ?_)
  refine gw_aload_n hk.1.1 1 rfl dX11_init_166 ?_
  refine gc_get2 hk.1 (k := 4) (o := 0) fgc_X11_31 rfl kdC_0 (by omega) rfl rfl dX11_init_167 ?_
  refine gw_iload_n hk.1.1 0 rfl dX11_init_170 ?_
  refine gc_new hk.1 (ci := 7) (C := RX7) (T := TX7) tyX7 rfl inX7 tyX7_ok dfX7 (inT1 165 rfl rfl) (inT1 166 rfl rfl) (inT1 8 rfl rfl) kdC_241 (by decide) (by decide) dX11_init_171 ?_
  refine gw_dup hk.1.1 rfl dX11_init_174 ?_
  refine gc_initS hk (st := [.ref (kB K + 241), mI 19, .ref (kB K + 24)]) (o := 241) mf_X7_init rfl rfl (inT1 167 rfl rfl) (inT1 168 rfl rfl) (by decide) (Nat.le_of_ble_eq_true rfl) (by decide) (by decide) rfl dX11_init_175 (fun hz => ct_ctSt _ _ _ _ (o := 241) kdC_241 rfl hz) ?_
  refine gc_aast hk.1 (a := 24) (i := 19) (cIk rfl) (by decide) (by decide) kdC_24 (by omega) kdC_241 (by decide) dX11_init_178 ?_
  refine gw_iinc hk.1.1 (lv' := [(1, mI 20), (0, .ref (kB K + 0))]) 0 rfl (Nat.le_of_ble_eq_true rfl) rfl dX11_init_179 ?_
  refine gw_goto hk.1.1 dX11_init_182 ?_
  refine gw_iload_n hk.1.1 0 rfl dX11_init_160 ?_
  refine gw_bipush hk.1.1 (v := 20) rfl dX11_init_161 ?_
  refine gw_icmp_ge hk.1.1 (cIk rfl) (cIk rfl) dX11_init_163 (fun _ => ?_) (fun q => absurd (by decide) q)
  exact gc_return hk.1 dX11_init_185
