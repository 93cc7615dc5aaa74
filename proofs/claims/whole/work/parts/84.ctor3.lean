def ctTa (m : zM) : zM := upm (upm (upm (upm (upm (upm (upm (upm (upm (upm (upm (upm (upm (upm (upm (upm (upm (upm (upm (upm (upm (upm (upm (upm (upm (upm (upm (upm (upm (upm (upm (upm (upm (upm (upm m 2 0 1) 2 2 1) 2 3 1) 2 4 1) 2 7 1) 7 0 31389093) 7 1 330776973) 7 2 294949755) 7 3 24977727) 7 4 287898273) 7 5 111715416) 7 6 51278373) 7 7 88783965) 7 8 177190524) 7 9 187559307) 7 10 311586040) 7 11 37027881) 7 12 160605774) 7 13 88849062) 7 14 258999120) 7 15 283981734) 7 16 273613383) 7 17 123189336) 7 18 180462276) 7 19 279645453) 7 20 287753796) 7 21 177193312) 7 22 95761440) 7 23 132328809) 7 24 224799543) 7 25 21867813) 7 26 209249973) 7 27 20962395) 7 28 191594322) 7 29 187539624
set_option maxRecDepth 100000 in
set_option maxHeartbeats 40000000 in
theorem ct_ctTa (l : Launch) (D : va_G) (aC : Nat → ClassId) (B : Nat) {m : zM} {S V : Nat} (hz : ∀ id, 2 + 1 ≤ id → m id = fun _ => 0) : zCt l yX8_init cX8_init 6 5 5 6433 D aC B kdC 2 8 m (ctTa m) S V := by
  refine zCt.of mf_X8_init rfl (by decide) hz (fun K e1 e2 e3 e4 hk => ?_)
  subst e1 e2 e3 e4
  refine gw_aload_n hk.1.1 0 rfl dX8_init_0 ?_
  refine gc_obj hk.1 (inT1 40 rfl rfl) wObI wObC (by decide) dX8_init_1 ?_
  refine gw_aload_n hk.1.1 0 rfl dX8_init_4 ?_
  refine gw_sipush hk.1.1 (v := 1600) rfl dX8_init_5 ?_
  refine gc_newi hk.1 wAint rfl (by decide) kdC_3 (by decide) (by decide) dX8_init_8 ?_
  refine gc_putF hk.1 (ci := 8) (C := RX8) (T := TX8) (ty := (.array .int)) (k := 0) (o := 2) tyX8 rfl inX8 (Nat.le_of_ble_eq_true rfl) (inT1 93 rfl rfl) tyX8_ok nmX8 rfl rfl (by decide +kernel) kdC_2 (by omega) rfl rfl (fun _ => rfl) (fun _ => rfl) dX8_init_10 ?_
  refine gw_aload_n hk.1.1 0 rfl dX8_init_13 ?_
  refine gw_sipush hk.1.1 (v := 1601) rfl dX8_init_14 ?_
  refine gc_newi hk.1 wAint rfl (by decide) kdC_4 (by decide) (by decide) dX8_init_17 ?_
  refine gc_putF hk.1 (ci := 8) (C := RX8) (T := TX8) (ty := (.array .int)) (k := 2) (o := 2) tyX8 rfl inX8 (Nat.le_of_ble_eq_true rfl) (inT1 102 rfl rfl) tyX8_ok nmX8 rfl rfl (by decide +kernel) kdC_2 (by omega) rfl rfl (fun _ => rfl) (fun _ => rfl) dX8_init_19 ?_
  refine gw_aload_n hk.1.1 0 rfl dX8_init_22 ?_
  refine gw_sipush hk.1.1 (v := 1601) rfl dX8_init_23 ?_
  refine gc_newi hk.1 wAint rfl (by decide) kdC_5 (by decide) (by decide) dX8_init_26 ?_
  refine gc_putF hk.1 (ci := 8) (C := RX8) (T := TX8) (ty := (.array .int)) (k := 3) (o := 2) tyX8 rfl inX8 (Nat.le_of_ble_eq_true rfl) (inT1 104 rfl rfl) tyX8_ok nmX8 rfl rfl (by decide +kernel) kdC_2 (by omega) rfl rfl (fun _ => rfl) (fun _ => rfl) dX8_init_28 ?_
  refine gw_aload_n hk.1.1 0 rfl dX8_init_31 ?_
  refine gw_sipush hk.1.1 (v := 1601) rfl dX8_init_32 ?_
  refine gc_newi hk.1 wAint rfl (by decide) kdC_6 (by decide) (by decide) dX8_init_35 ?_
  refine gc_putF hk.1 (ci := 8) (C := RX8) (T := TX8) (ty := (.array .int)) (k := 4) (o := 2) tyX8 rfl inX8 (Nat.le_of_ble_eq_true rfl) (inT1 106 rfl rfl) tyX8_ok nmX8 rfl rfl (by decide +kernel) kdC_2 (by omega) rfl rfl (fun _ => rfl) (fun _ => rfl) dX8_init_37 ?_
  refine gw_aload_n hk.1.1 0 rfl dX8_init_40 ?_
  refine gw_bipush hk.1.1 (v := 30) rfl dX8_init_41 ?_
  refine gc_newi hk.1 wAint rfl (by decide) kdC_7 (by decide) (by decide) dX8_init_43 ?_
  refine gc_putF hk.1 (ci := 8) (C := RX8) (T := TX8) (ty := (.array .int)) (k := 7) (o := 2) tyX8 rfl inX8 (Nat.le_of_ble_eq_true rfl) (inT1 111 rfl rfl) tyX8_ok nmX8 rfl rfl (by decide +kernel) kdC_2 (by omega) rfl rfl (fun _ => rfl) (fun _ => rfl) dX8_init_45 ?_
  refine gw_iconst hk.1.1 (v := 0) rfl dX8_init_48 ?_
  refine gw_istore_n hk.1.1 rfl (lv' := [(1, mI 0), (0, .ref (kB K + 2))]) (Nat.le_of_ble_eq_true rfl) rfl dX8_init_49 ?_
  refine gw_iconst hk.1.1 (v := 0) rfl dX8_init_50 ?_
  refine gw_istore_n hk.1.1 rfl (lv' := [(2, mI 0), (1, mI 0), (0, .ref (kB K + 2))]) (Nat.le_of_ble_eq_true rfl) rfl dX8_init_51 ?_
  refine gw_iconst hk.1.1 (v := 0) rfl dX8_init_52 ?_
  refine gw_istore_n hk.1.1 rfl (lv' := [(3, mI 0), (2, mI 0), (1, mI 0), (0, .ref (kB K + 2))]) (Nat.le_of_ble_eq_true rfl) rfl dX8_init_53 ?_
  refine gw_iconst hk.1.1 (v := 0) rfl dX8_init_54 ?_
  refine gw_istore hk.1.1 (lv' := [(4, mI 0), (3, mI 0), (2, mI 0), (1, mI 0), (0, .ref (kB K + 2))]) (Nat.le_of_ble_eq_true rfl) rfl dX8_init_55 ?_
  refine gw_iload hk.1.1 0 rfl dX8_init_57 ?_
  refine gc_ldcS hk dX8_init_59 ?_
  refine gc_jcall hk (st := [mI 0]) mf_J0_length_8abf5 (inT1 42 rfl rfl) (inT1 43 rfl rfl) (inT1 44 rfl rfl) (by decide) rfl (Nat.le_of_ble_eq_true rfl) rfl dX8_init_61 (met_len _) (by decide) (by decide) ?_
  refine gw_icmp_ge hk.1.1 (cIk rfl) (cIk rfl) dX8_init_64 (fun q => absurd q (by decide)) (fun _ => ?_)
  refine gw_iload_n hk.1.1 3 rfl dX8_init_67 ?_
  refine gw_bipush hk.1.1 (v := 30) rfl dX8_init_68 ?_
  refine gw_icmp_ge hk.1.1 (cIk rfl) (cIk rfl) dX8_init_70 (fun q => absurd q (by decide)) (fun _ => ?_)
  refine gc_ldcS hk dX8_init_73 ?_
  refine gw_iload hk.1.1 0 rfl dX8_init_75 ?_
  refine gc_jcall hk (st := []) mf_J0_charAt_5068e (inT1 52 rfl rfl) (inT1 53 rfl rfl) (inT1 54 rfl rfl) (by decide) rfl (Nat.le_of_ble_eq_true rfl) rfl dX8_init_77 (met_cha (i := 0) (x := 98) _ (cIk rfl) (by decide) (by decide) rfl) (by decide) (by decide) ?_
  refine gw_istore hk.1.1 (lv' := [(5, mI 98), (4, mI 0), (3, mI 0), (2, mI 0), (1, mI 0), (0, .ref (kB K + 2))]) (Nat.le_of_ble_eq_true rfl) rfl dX8_init_80 ?_
  refine gw_iload hk.1.1 0 rfl dX8_init_82 ?_
  refine gw_bipush hk.1.1 (v := 32) rfl dX8_init_84 ?_
  refine gw_icmp_ne hk.1.1 (cIk rfl) (cIk rfl) dX8_init_86 (fun _ => ?_) (fun q => absurd (by decide) q)
  refine gw_iload_n hk.1.1 3 rfl dX8_init_110 ?_
  refine gw_bipush hk.1.1 (v := 27) rfl dX8_init_111 ?_
  refine gw_imul hk.1.1 dX8_init_113 ?_
  refine gw_iload hk.1.1 0 rfl dX8_init_114 ?_
  refine gw_iadd hk.1.1 dX8_init_116 ?_
  refine gw_bipush hk.1.1 (v := 97) rfl dX8_init_117 ?_
  refine gw_isub hk.1.1 dX8_init_119 ?_
  refine gw_iconst hk.1.1 (v := 1) rfl dX8_init_120 ?_
  refine gw_iadd hk.1.1 dX8_init_121 ?_
  refine gw_top (y := 2) (by decide) ?_
  refine gw_istore_n hk.1.1 rfl (lv' := [(2, mI 2), (5, mI 98), (4, mI 0), (3, mI 0), (1, mI 0), (0, .ref (kB K + 2))]) (Nat.le_of_ble_eq_true rfl) rfl dX8_init_122 ?_
  refine gw_iinc hk.1.1 (lv' := [(3, mI 1), (2, mI 2), (5, mI 98), (4, mI 0), (1, mI 0), (0, .ref (kB K + 2))]) 3 rfl (Nat.le_of_ble_eq_true rfl) rfl dX8_init_123 ?_
  refine gw_iinc hk.1.1 (lv' := [(4, mI 1), (3, mI 1), (2, mI 2), (5, mI 98), (1, mI 0), (0, .ref (kB K + 2))]) 3 rfl (Nat.le_of_ble_eq_true rfl) rfl dX8_init_126 ?_
  refine gw_goto hk.1.1 dX8_init_129 ?_
  refine gw_iload hk.1.1 0 rfl dX8_init_57 ?_
  refine gc_ldcS hk dX8_init_59 ?_
  refine gc_jcall hk (st := [mI 1]) mf_J0_length_8abf5 (inT1 42 rfl rfl) (inT1 43 rfl rfl) (inT1 44 rfl rfl) (by decide) rfl (Nat.le_of_ble_eq_true rfl) rfl dX8_init_61 (met_len _) (by decide) (by decide) ?_
  refine gw_icmp_ge hk.1.1 (cIk rfl) (cIk rfl) dX8_init_64 (fun q => absurd q (by decide)) (fun _ => ?_)
  refine gw_iload_n hk.1.1 4 rfl dX8_init_67 ?_
  refine gw_bipush hk.1.1 (v := 30) rfl dX8_init_68 ?_
  refine gw_icmp_ge hk.1.1 (cIk rfl) (cIk rfl) dX8_init_70 (fun q => absurd q (by decide)) (fun _ => ?_)
  refine gc_ldcS hk dX8_init_73 ?_
  refine gw_iload hk.1.1 0 rfl dX8_init_75 ?_
  refine gc_jcall hk (st := []) mf_J0_charAt_5068e (inT1 52 rfl rfl) (inT1 53 rfl rfl) (inT1 54 rfl rfl) (by decide) rfl (Nat.le_of_ble_eq_true rfl) rfl dX8_init_77 (met_cha (i := 1) (x := 101) _ (cIk rfl) (by decide) (by decide) rfl) (by decide) (by decide) ?_
  refine gw_istore hk.1.1 (lv' := [(5, mI 101), (4, mI 1), (3, mI 1), (2, mI 2), (1, mI 0), (0, .ref (kB K + 2))]) (Nat.le_of_ble_eq_true rfl) rfl dX8_init_80 ?_
  refine gw_iload hk.1.1 0 rfl dX8_init_82 ?_
  refine gw_bipush hk.1.1 (v := 32) rfl dX8_init_84 ?_
  refine gw_icmp_ne hk.1.1 (cIk rfl) (cIk rfl) dX8_init_86 (fun _ => ?_) (fun q => absurd (by decide) q)
  refine gw_iload_n hk.1.1 3 rfl dX8_init_110 ?_
  refine gw_bipush hk.1.1 (v := 27) rfl dX8_init_111 ?_
  refine gw_imul hk.1.1 dX8_init_113 ?_
  refine gw_iload hk.1.1 0 rfl dX8_init_114 ?_
  refine gw_iadd hk.1.1 dX8_init_116 ?_
  refine gw_bipush hk.1.1 (v := 97) rfl dX8_init_117 ?_
  refine gw_isub hk.1.1 dX8_init_119 ?_
  refine gw_iconst hk.1.1 (v := 1) rfl dX8_init_120 ?_
  refine gw_iadd hk.1.1 dX8_init_121 ?_
  refine gw_top (y := 59) (by decide) ?_
  refine gw_istore_n hk.1.1 rfl (lv' := [(2, mI 59), (5, mI 101), (4, mI 1), (3, mI 1), (1, mI 0), (0, .ref (kB K + 2))]) (Nat.le_of_ble_eq_true rfl) rfl dX8_init_122 ?_
  refine gw_iinc hk.1.1 (lv' := [(3, mI 2), (2, mI 59), (5, mI 101), (4, mI 1), (1, mI 0), (0, .ref (kB K + 2))]) 3 rfl (Nat.le_of_ble_eq_true rfl) rfl dX8_init_123 ?_
  refine gw_iinc hk.1.1 (lv' := [(4, mI 2), (3, mI 2), (2, mI 59), (5, mI 101), (1, mI 0), (0, .ref (kB K + 2))]) 3 rfl (Nat.le_of_ble_eq_true rfl) rfl dX8_init_126 ?_
  refine gw_goto hk.1.1 dX8_init_129 ?_
  refine gw_iload hk.1.1 0 rfl dX8_init_57 ?_
  refine gc_ldcS hk dX8_init_59 ?_
  refine gc_jcall hk (st := [mI 2]) mf_J0_length_8abf5 (inT1 42 rfl rfl) (inT1 43 rfl rfl) (inT1 44 rfl rfl) (by decide) rfl (Nat.le_of_ble_eq_true rfl) rfl dX8_init_61 (met_len _) (by decide) (by decide) ?_
  refine gw_icmp_ge hk.1.1 (cIk rfl) (cIk rfl) dX8_init_64 (fun q => absurd q (by decide)) (fun _ => ?_)
  refine gw_iload_n hk.1.1 4 rfl dX8_init_67 ?_
  refine gw_bipush hk.1.1 (v := 30) rfl dX8_init_68 ?_
  refine gw_icmp_ge hk.1.1 (cIk rfl) (cIk rfl) dX8_init_70 (fun q => absurd q (by decide)) (fun _ => ?_)
  refine gc_ldcS hk dX8_init_73 ?_
  refine gw_iload hk.1.1 0 rfl dX8_init_75 ?_
  refine gc_jcall hk (st := []) mf_J0_charAt_5068e (inT1 52 rfl rfl) (inT1 53 rfl rfl) (inT1 54 rfl rfl) (by decide) rfl (Nat.le_of_ble_eq_true rfl) rfl dX8_init_77 (met_cha (i := 2) (x := 97) _ (cIk rfl) (by decide) (by decide) rfl) (by decide) (by decide) ?_
  refine gw_istore hk.1.1 (lv' := [(5, mI 97), (4, mI 2), (3, mI 2), (2, mI 59), (1, mI 0), (0, .ref (kB K + 2))]) (Nat.le_of_ble_eq_true rfl) rfl dX8_init_80 ?_
  refine gw_iload hk.1.1 0 rfl dX8_init_82 ?_
  refine gw_bipush hk.1.1 (v := 32) rfl dX8_init_84 ?_
  refine gw_icmp_ne hk.1.1 (cIk rfl) (cIk rfl) dX8_init_86 (fun _ => ?_) (fun q => absurd (by decide) q)
  refine gw_iload_n hk.1.1 3 rfl dX8_init_110 ?_
  refine gw_bipush hk.1.1 (v := 27) rfl dX8_init_111 ?_
  refine gw_imul hk.1.1 dX8_init_113 ?_
  refine gw_iload hk.1.1 0 rfl dX8_init_114 ?_
  refine gw_iadd hk.1.1 dX8_init_116 ?_
  refine gw_bipush hk.1.1 (v := 97) rfl dX8_init_117 ?_
  refine gw_isub hk.1.1 dX8_init_119 ?_
  refine gw_iconst hk.1.1 (v := 1) rfl dX8_init_120 ?_
  refine gw_iadd hk.1.1 dX8_init_121 ?_
  refine gw_top (y := 1594) (by decide) ?_
  refine gw_istore_n hk.1.1 rfl (lv' := [(2, mI 1594), (5, mI 97), (4, mI 2), (3, mI 2), (1, mI 0), (0, .ref (kB K + 2))]) (Nat.le_of_ble_eq_true rfl) rfl dX8_init_122 ?_
  refine gw_iinc hk.1.1 (lv' := [(3, mI 3), (2, mI 1594), (5, mI 97), (4, mI 2), (1, mI 0), (0, .ref (kB K + 2))]) 3 rfl (Nat.le_of_ble_eq_true rfl) rfl dX8_init_123 ?_
  refine gw_iinc hk.1.1 (lv' := [(4, mI 3), (3, mI 3), (2, mI 1594), (5, mI 97), (1, mI 0), (0, .ref (kB K + 2))]) 3 rfl (Nat.le_of_ble_eq_true rfl) rfl dX8_init_126 ?_
  refine gw_goto hk.1.1 dX8_init_129 ?_
  refine gw_iload hk.1.1 0 rfl dX8_init_57 ?_
  refine gc_ldcS hk dX8_init_59 ?_
  refine gc_jcall hk (st := [mI 3]) mf_J0_length_8abf5 (inT1 42 rfl rfl) (inT1 43 rfl rfl) (inT1 44 rfl rfl) (by decide) rfl (Nat.le_of_ble_eq_true rfl) rfl dX8_init_61 (met_len _) (by decide) (by decide) ?_
  refine gw_icmp_ge hk.1.1 (cIk rfl) (cIk rfl) dX8_init_64 (fun q => absurd q (by decide)) (fun _ => ?_)
  refine gw_iload_n hk.1.1 4 rfl dX8_init_67 ?_
  refine gw_bipush hk.1.1 (v := 30) rfl dX8_init_68 ?_
  refine gw_icmp_ge hk.1.1 (cIk rfl) (cIk rfl) dX8_init_70 (fun q => absurd q (by decide)) (fun _ => ?_)
  refine gc_ldcS hk dX8_init_73 ?_
  refine gw_iload hk.1.1 0 rfl dX8_init_75 ?_
  refine gc_jcall hk (st := []) mf_J0_charAt_5068e (inT1 52 rfl rfl) (inT1 53 rfl rfl) (inT1 54 rfl rfl) (by decide) rfl (Nat.le_of_ble_eq_true rfl) rfl dX8_init_77 (met_cha (i := 3) (x := 115) _ (cIk rfl) (by decide) (by decide) rfl) (by decide) (by decide) ?_
  refine gw_istore hk.1.1 (lv' := [(5, mI 115), (4, mI 3), (3, mI 3), (2, mI 1594), (1, mI 0), (0, .ref (kB K + 2))]) (Nat.le_of_ble_eq_true rfl) rfl dX8_init_80 ?_
  refine gw_iload hk.1.1 0 rfl dX8_init_82 ?_
  refine gw_bipush hk.1.1 (v := 32) rfl dX8_init_84 ?_
  refine gw_icmp_ne hk.1.1 (cIk rfl) (cIk rfl) dX8_init_86 (fun _ => ?_) (fun q => absurd (by decide) q)
  refine gw_iload_n hk.1.1 3 rfl dX8_init_110 ?_
  refine gw_bipush hk.1.1 (v := 27) rfl dX8_init_111 ?_
  refine gw_imul hk.1.1 dX8_init_113 ?_
  refine gw_iload hk.1.1 0 rfl dX8_init_114 ?_
  refine gw_iadd hk.1.1 dX8_init_116 ?_
  refine gw_bipush hk.1.1 (v := 97) rfl dX8_init_117 ?_
  refine gw_isub hk.1.1 dX8_init_119 ?_
  refine gw_iconst hk.1.1 (v := 1) rfl dX8_init_120 ?_
  refine gw_iadd hk.1.1 dX8_init_121 ?_
  refine gw_top (y := 43057) (by decide) ?_
  refine gw_istore_n hk.1.1 rfl (lv' := [(2, mI 43057), (5, mI 115), (4, mI 3), (3, mI 3), (1, mI 0), (0, .ref (kB K + 2))]) (Nat.le_of_ble_eq_true rfl) rfl dX8_init_122 ?_
  refine gw_iinc hk.1.1 (lv' := [(3, mI 4), (2, mI 43057), (5, mI 115), (4, mI 3), (1, mI 0), (0, .ref (kB K + 2))]) 3 rfl (Nat.le_of_ble_eq_true rfl) rfl dX8_init_123 ?_
  refine gw_iinc hk.1.1 (lv' := [(4, mI 4), (3, mI 4), (2, mI 43057), (5, mI 115), (1, mI 0), (0, .ref (kB K + 2))]) 3 rfl (Nat.le_of_ble_eq_true rfl) rfl dX8_init_126 ?_
  refine gw_goto hk.1.1 dX8_init_129 ?_
  refine gw_iload hk.1.1 0 rfl dX8_init_57 ?_
  refine gc_ldcS hk dX8_init_59 ?_
  refine gc_jcall hk (st := [mI 4]) mf_J0_length_8abf5 (inT1 42 rfl rfl) (inT1 43 rfl rfl) (inT1 44 rfl rfl) (by decide) rfl (Nat.le_of_ble_eq_true rfl) rfl dX8_init_61 (met_len _) (by decide) (by decide) ?_
  refine gw_icmp_ge hk.1.1 (cIk rfl) (cIk rfl) dX8_init_64 (fun q => absurd q (by decide)) (fun _ => ?_)
  refine gw_iload_n hk.1.1 4 rfl dX8_init_67 ?_
  refine gw_bipush hk.1.1 (v := 30) rfl dX8_init_68 ?_
  refine gw_icmp_ge hk.1.1 (cIk rfl) (cIk rfl) dX8_init_70 (fun q => absurd q (by decide)) (fun _ => ?_)
  refine gc_ldcS hk dX8_init_73 ?_
  refine gw_iload hk.1.1 0 rfl dX8_init_75 ?_
  refine gc_jcall hk (st := []) mf_J0_charAt_5068e (inT1 52 rfl rfl) (inT1 53 rfl rfl) (inT1 54 rfl rfl) (by decide) rfl (Nat.le_of_ble_eq_true rfl) rfl dX8_init_77 (met_cha (i := 4) (x := 116) _ (cIk rfl) (by decide) (by decide) rfl) (by decide) (by decide) ?_
  refine gw_istore hk.1.1 (lv' := [(5, mI 116), (4, mI 4), (3, mI 4), (2, mI 43057), (1, mI 0), (0, .ref (kB K + 2))]) (Nat.le_of_ble_eq_true rfl) rfl dX8_init_80 ?_
  refine gw_iload hk.1.1 0 rfl dX8_init_82 ?_
  refine gw_bipush hk.1.1 (v := 32) rfl dX8_init_84 ?_
  refine gw_icmp_ne hk.1.1 (cIk rfl) (cIk rfl) dX8_init_86 (fun _ => ?_) (fun q => absurd (by decide) q)
  refine gw_iload_n hk.1.1 3 rfl dX8_init_110 ?_
  refine gw_bipush hk.1.1 (v := 27) rfl dX8_init_111 ?_
  refine gw_imul hk.1.1 dX8_init_113 ?_
  refine gw_iload hk.1.1 0 rfl dX8_init_114 ?_
  refine gw_iadd hk.1.1 dX8_init_116 ?_
  refine gw_bipush hk.1.1 (v := 97) rfl dX8_init_117 ?_
  refine gw_isub hk.1.1 dX8_init_119 ?_
  refine gw_iconst hk.1.1 (v := 1) rfl dX8_init_120 ?_
  refine gw_iadd hk.1.1 dX8_init_121 ?_
  refine gw_top (y := 1162559) (by decide) ?_
  refine gw_istore_n hk.1.1 rfl (lv' := [(2, mI 1162559), (5, mI 116), (4, mI 4), (3, mI 4), (1, mI 0), (0, .ref (kB K + 2))]) (Nat.le_of_ble_eq_true rfl) rfl dX8_init_122 ?_
  refine gw_iinc hk.1.1 (lv' := [(3, mI 5), (2, mI 1162559), (5, mI 116), (4, mI 4), (1, mI 0), (0, .ref (kB K + 2))]) 3 rfl (Nat.le_of_ble_eq_true rfl) rfl dX8_init_123 ?_
  refine gw_iinc hk.1.1 (lv' := [(4, mI 5), (3, mI 5), (2, mI 1162559), (5, mI 116), (1, mI 0), (0, .ref (kB K + 2))]) 3 rfl (Nat.le_of_ble_eq_true rfl) rfl dX8_init_126 ?_
  refine gw_goto hk.1.1 dX8_init_129 ?_
  refine gw_iload hk.1.1 0 rfl dX8_init_57 ?_
  refine gc_ldcS hk dX8_init_59 ?_
  refine gc_jcall hk (st := [mI 5]) mf_J0_length_8abf5 (inT1 42 rfl rfl) (inT1 43 rfl rfl) (inT1 44 rfl rfl) (by decide) rfl (Nat.le_of_ble_eq_true rfl) rfl dX8_init_61 (met_len _) (by decide) (by decide) ?_
  refine gw_icmp_ge hk.1.1 (cIk rfl) (cIk rfl) dX8_init_64 (fun q => absurd q (by decide)) (fun _ => ?_)
  refine gw_iload_n hk.1.1 4 rfl dX8_init_67 ?_
  refine gw_bipush hk.1.1 (v := 30) rfl dX8_init_68 ?_
  refine gw_icmp_ge hk.1.1 (cIk rfl) (cIk rfl) dX8_init_70 (fun q => absurd q (by decide)) (fun _ => ?_)
  refine gc_ldcS hk dX8_init_73 ?_
  refine gw_iload hk.1.1 0 rfl dX8_init_75 ?_
  refine gc_jcall hk (st := []) mf_J0_charAt_5068e (inT1 52 rfl rfl) (inT1 53 rfl rfl) (inT1 54 rfl rfl) (by decide) rfl (Nat.le_of_ble_eq_true rfl) rfl dX8_init_77 (met_cha (i := 5) (x := 32) _ (cIk rfl) (by decide) (by decide) rfl) (by decide) (by decide) ?_
  refine gw_istore hk.1.1 (lv' := [(5, mI 32), (4, mI 5), (3, mI 5), (2, mI 1162559), (1, mI 0), (0, .ref (kB K + 2))]) (Nat.le_of_ble_eq_true rfl) rfl dX8_init_80 ?_
  refine gw_iload hk.1.1 0 rfl dX8_init_82 ?_
  refine gw_bipush hk.1.1 (v := 32) rfl dX8_init_84 ?_
  refine gw_icmp_ne hk.1.1 (cIk rfl) (cIk rfl) dX8_init_86 (fun q => absurd q (by decide)) (fun _ => ?_)
  refine gw_aload_n hk.1.1 5 rfl dX8_init_89 ?_
  refine gc_get2 hk.1 (k := 7) (o := 2) fgc_X8_24 rfl kdC_2 (by omega) rfl rfl dX8_init_90 ?_
  refine gw_iload_n hk.1.1 4 rfl dX8_init_93 ?_
  refine gw_iload_n hk.1.1 3 rfl dX8_init_94 ?_
  refine gw_iload_n hk.1.1 2 rfl dX8_init_95 ?_
  refine gc_padded hk (st := [mI 0, .ref (kB K + 7)]) (a := 1162559) (b := 5) (r := 31389093) (inT1 90 rfl rfl) (by decide +kernel) (cIk rfl) (cIk rfl) (by decide) (Nat.le_of_ble_eq_true rfl) (by decide) (by decide) dX8_init_96 ?_
  refine gc_iast hk.1 (a := 7) (v := 31389093) (cIk rfl) (by decide) (by decide) kdC_7 (by omega) dX8_init_99 ?_
  refine gw_iinc hk.1.1 (lv' := [(1, mI 1), (5, mI 32), (4, mI 5), (3, mI 5), (2, mI 1162559), (0, .ref (kB K + 2))]) 4 rfl (Nat.le_of_ble_eq_true rfl) rfl dX8_init_100 ?_
  refine gw_iconst hk.1.1 (v := 0) rfl dX8_init_103 ?_
  refine gw_istore_n hk.1.1 rfl (lv' := [(2, mI 0), (1, mI 1), (5, mI 32), (4, mI 5), (3, mI 5), (0, .ref (kB K + 2))]) (Nat.le_of_ble_eq_true rfl) rfl dX8_init_104 ?_
  refine gw_iconst hk.1.1 (v := 0) rfl dX8_init_105 ?_
  refine gw_istore_n hk.1.1 rfl (lv' := [(3, mI 0), (2, mI 0), (1, mI 1), (5, mI 32), (4, mI 5), (0, .ref (kB K + 2))]) (Nat.le_of_ble_eq_true rfl) rfl dX8_init_106 ?_
  refine gw_goto hk.1.1 dX8_init_107 ?_
  refine gw_iinc hk.1.1 (lv' := [(4, mI 6), (3, mI 0), (2, mI 0), (1, mI 1), (5, mI 32), (0, .ref (kB K + 2))]) 4 rfl (Nat.le_of_ble_eq_true rfl) rfl dX8_init_126 ?_
  refine gw_goto hk.1.1 dX8_init_129 ?_
  refine gw_iload hk.1.1 0 rfl dX8_init_57 ?_
  refine gc_ldcS hk dX8_init_59 ?_
  refine gc_jcall hk (st := [mI 6]) mf_J0_length_8abf5 (inT1 42 rfl rfl) (inT1 43 rfl rfl) (inT1 44 rfl rfl) (by decide) rfl (Nat.le_of_ble_eq_true rfl) rfl dX8_init_61 (met_len _) (by decide) (by decide) ?_
  refine gw_icmp_ge hk.1.1 (cIk rfl) (cIk rfl) dX8_init_64 (fun q => absurd q (by decide)) (fun _ => ?_)
  refine gw_iload_n hk.1.1 3 rfl dX8_init_67 ?_
  refine gw_bipush hk.1.1 (v := 30) rfl dX8_init_68 ?_
  refine gw_icmp_ge hk.1.1 (cIk rfl) (cIk rfl) dX8_init_70 (fun q => absurd q (by decide)) (fun _ => ?_)
  refine gc_ldcS hk dX8_init_73 ?_
  refine gw_iload hk.1.1 0 rfl dX8_init_75 ?_
  refine gc_jcall hk (st := []) mf_J0_charAt_5068e (inT1 52 rfl rfl) (inT1 53 rfl rfl) (inT1 54 rfl rfl) (by decide) rfl (Nat.le_of_ble_eq_true rfl) rfl dX8_init_77 (met_cha (i := 6) (x := 119) _ (cIk rfl) (by decide) (by decide) rfl) (by decide) (by decide) ?_
  refine gw_istore hk.1.1 (lv' := [(5, mI 119), (4, mI 6), (3, mI 0), (2, mI 0), (1, mI 1), (0, .ref (kB K + 2))]) (Nat.le_of_ble_eq_true rfl) rfl dX8_init_80 ?_
  refine gw_iload hk.1.1 0 rfl dX8_init_82 ?_
  refine gw_bipush hk.1.1 (v := 32) rfl dX8_init_84 ?_
  refine gw_icmp_ne hk.1.1 (cIk rfl) (cIk rfl) dX8_init_86 (fun _ => ?_) (fun q => absurd (by decide) q)
  refine gw_iload_n hk.1.1 3 rfl dX8_init_110 ?_
  refine gw_bipush hk.1.1 (v := 27) rfl dX8_init_111 ?_
  refine gw_imul hk.1.1 dX8_init_113 ?_
  refine gw_iload hk.1.1 0 rfl dX8_init_114 ?_
  refine gw_iadd hk.1.1 dX8_init_116 ?_
  refine gw_bipush hk.1.1 (v := 97) rfl dX8_init_117 ?_
  refine gw_isub hk.1.1 dX8_init_119 ?_
  refine gw_iconst hk.1.1 (v := 1) rfl dX8_init_120 ?_
  refine gw_iadd hk.1.1 dX8_init_121 ?_
  refine gw_top (y := 23) (by decide) ?_
  refine gw_istore_n hk.1.1 rfl (lv' := [(2, mI 23), (5, mI 119), (4, mI 6), (3, mI 0), (1, mI 1), (0, .ref (kB K + 2))]) (Nat.le_of_ble_eq_true rfl) rfl dX8_init_122 ?_
  refine gw_iinc hk.1.1 (lv' := [(3, mI 1), (2, mI 23), (5, mI 119), (4, mI 6), (1, mI 1), (0, .ref (kB K + 2))]) 3 rfl (Nat.le_of_ble_eq_true rfl) rfl dX8_init_123 ?_
  refine gw_iinc hk.1.1 (lv' := [(4, mI 7), (3, mI 1), (2, mI 23), (5, mI 119), (1, mI 1), (0, .ref (kB K + 2))]) 3 rfl (Nat.le_of_ble_eq_true rfl) rfl dX8_init_126 ?_
  refine gw_goto hk.1.1 dX8_init_129 ?_
  refine gw_iload hk.1.1 0 rfl dX8_init_57 ?_
  refine gc_ldcS hk dX8_init_59 ?_
  refine gc_jcall hk (st := [mI 7]) mf_J0_length_8abf5 (inT1 42 rfl rfl) (inT1 43 rfl rfl) (inT1 44 rfl rfl) (by decide) rfl (Nat.le_of_ble_eq_true rfl) rfl dX8_init_61 (met_len _) (by decide) (by decide) ?_
  refine gw_icmp_ge hk.1.1 (cIk rfl) (cIk rfl) dX8_init_64 (fun q => absurd q (by decide)) (fun _ => ?_)
  refine gw_iload_n hk.1.1 4 rfl dX8_init_67 ?_
  refine gw_bipush hk.1.1 (v := 30) rfl dX8_init_68 ?_
  refine gw_icmp_ge hk.1.1 (cIk rfl) (cIk rfl) dX8_init_70 (fun q => absurd q (by decide)) (fun _ => ?_)
  refine gc_ldcS hk dX8_init_73 ?_
  refine gw_iload hk.1.1 0 rfl dX8_init_75 ?_
  refine gc_jcall hk (st := []) mf_J0_charAt_5068e (inT1 52 rfl rfl) (inT1 53 rfl rfl) (inT1 54 rfl rfl) (by decide) rfl (Nat.le_of_ble_eq_true rfl) rfl dX8_init_77 (met_cha (i := 7) (x := 97) _ (cIk rfl) (by decide) (by decide) rfl) (by decide) (by decide) ?_
  refine gw_istore hk.1.1 (lv' := [(5, mI 97), (4, mI 7), (3, mI 1), (2, mI 23), (1, mI 1), (0, .ref (kB K + 2))]) (Nat.le_of_ble_eq_true rfl) rfl dX8_init_80 ?_
  refine gw_iload hk.1.1 0 rfl dX8_init_82 ?_
  refine gw_bipush hk.1.1 (v := 32) rfl dX8_init_84 ?_
  refine gw_icmp_ne hk.1.1 (cIk rfl) (cIk rfl) dX8_init_86 (fun _ => ?_) (fun q => absurd (by decide) q)
  refine gw_iload_n hk.1.1 3 rfl dX8_init_110 ?_
  refine gw_bipush hk.1.1 (v := 27) rfl dX8_init_111 ?_
  refine gw_imul hk.1.1 dX8_init_113 ?_
  refine gw_iload hk.1.1 0 rfl dX8_init_114 ?_
  refine gw_iadd hk.1.1 dX8_init_116 ?_
  refine gw_bipush hk.1.1 (v := 97) rfl dX8_init_117 ?_
  refine gw_isub hk.1.1 dX8_init_119 ?_
  refine gw_iconst hk.1.1 (v := 1) rfl dX8_init_120 ?_
  refine gw_iadd hk.1.1 dX8_init_121 ?_
  refine gw_top (y := 622) (by decide) ?_
  refine gw_istore_n hk.1.1 rfl (lv' := [(2, mI 622), (5, mI 97), (4, mI 7), (3, mI 1), (1, mI 1), (0, .ref (kB K + 2))]) (Nat.le_of_ble_eq_true rfl) rfl dX8_init_122 ?_
  refine gw_iinc hk.1.1 (lv' := [(3, mI 2), (2, mI 622), (5, mI 97), (4, mI 7), (1, mI 1), (0, .ref (kB K + 2))]) 3 rfl (Nat.le_of_ble_eq_true rfl) rfl dX8_init_123 ?_
  refine gw_iinc hk.1.1 (lv' := [(4, mI 8), (3, mI 2), (2, mI 622), (5, mI 97), (1, mI 1), (0, .ref (kB K + 2))]) 3 rfl (Nat.le_of_ble_eq_true rfl) rfl dX8_init_126 ?_
  refine gw_goto hk.1.1 dX8_init_129 ?_
  refine gw_iload hk.1.1 0 rfl dX8_init_57 ?_
  refine gc_ldcS hk dX8_init_59 ?_
  refine gc_jcall hk (st := [mI 8]) mf_J0_length_8abf5 (inT1 42 rfl rfl) (inT1 43 rfl rfl) (inT1 44 rfl rfl) (by decide) rfl (Nat.le_of_ble_eq_true rfl) rfl dX8_init_61 (met_len _) (by decide) (by decide) ?_
  refine gw_icmp_ge hk.1.1 (cIk rfl) (cIk rfl) dX8_init_64 (fun q => absurd q (by decide)) (fun _ => ?_)
  refine gw_iload_n hk.1.1 4 rfl dX8_init_67 ?_
  refine gw_bipush hk.1.1 (v := 30) rfl dX8_init_68 ?_
  refine gw_icmp_ge hk.1.1 (cIk rfl) (cIk rfl) dX8_init_70 (fun q => absurd q (by decide)) (fun _ => ?_)
  refine gc_ldcS hk dX8_init_73 ?_
  refine gw_iload hk.1.1 0 rfl dX8_init_75 ?_
  refine gc_jcall hk (st := []) mf_J0_charAt_5068e (inT1 52 rfl rfl) (inT1 53 rfl rfl) (inT1 54 rfl rfl) (by decide) rfl (Nat.le_of_ble_eq_true rfl) rfl dX8_init_77 (met_cha (i := 8) (x := 107) _ (cIk rfl) (by decide) (by decide) rfl) (by decide) (by decide) ?_
  refine gw_istore hk.1.1 (lv' := [(5, mI 107), (4, mI 8), (3, mI 2), (2, mI 622), (1, mI 1), (0, .ref (kB K + 2))]) (Nat.le_of_ble_eq_true rfl) rfl dX8_init_80 ?_
  refine gw_iload hk.1.1 0 rfl dX8_init_82 ?_
  refine gw_bipush hk.1.1 (v := 32) rfl dX8_init_84 ?_
  refine gw_icmp_ne hk.1.1 (cIk rfl) (cIk rfl) dX8_init_86 (fun _ => ?_) (fun q => absurd (by decide) q)
  refine gw_iload_n hk.1.1 3 rfl dX8_init_110 ?_
  refine gw_bipush hk.1.1 (v := 27) rfl dX8_init_111 ?_
  refine gw_imul hk.1.1 dX8_init_113 ?_
  refine gw_iload hk.1.1 0 rfl dX8_init_114 ?_
  refine gw_iadd hk.1.1 dX8_init_116 ?_
  refine gw_bipush hk.1.1 (v := 97) rfl dX8_init_117 ?_
  refine gw_isub hk.1.1 dX8_init_119 ?_
  refine gw_iconst hk.1.1 (v := 1) rfl dX8_init_120 ?_
  refine gw_iadd hk.1.1 dX8_init_121 ?_
  refine gw_top (y := 16805) (by decide) ?_
  refine gw_istore_n hk.1.1 rfl (lv' := [(2, mI 16805), (5, mI 107), (4, mI 8), (3, mI 2), (1, mI 1), (0, .ref (kB K + 2))]) (Nat.le_of_ble_eq_true rfl) rfl dX8_init_122 ?_
  refine gw_iinc hk.1.1 (lv' := [(3, mI 3), (2, mI 16805), (5, mI 107), (4, mI 8), (1, mI 1), (0, .ref (kB K + 2))]) 3 rfl (Nat.le_of_ble_eq_true rfl) rfl dX8_init_123 ?_
  refine gw_iinc hk.1.1 (lv' := [(4, mI 9), (3, mI 3), (2, mI 16805), (5, mI 107), (1, mI 1), (0, .ref (kB K + 2))]) 3 rfl (Nat.le_of_ble_eq_true rfl) rfl dX8_init_126 ?_
  refine gw_goto hk.1.1 dX8_init_129 ?_
  refine gw_iload hk.1.1 0 rfl dX8_init_57 ?_
  refine gc_ldcS hk dX8_init_59 ?_
  refine gc_jcall hk (st := [mI 9]) mf_J0_length_8abf5 (inT1 42 rfl rfl) (inT1 43 rfl rfl) (inT1 44 rfl rfl) (by decide) rfl (Nat.le_of_ble_eq_true rfl) rfl dX8_init_61 (met_len _) (by decide) (by decide) ?_
  refine gw_icmp_ge hk.1.1 (cIk rfl) (cIk rfl) dX8_init_64 (fun q => absurd q (by decide)) (fun _ => ?_)
  refine gw_iload_n hk.1.1 4 rfl dX8_init_67 ?_
  refine gw_bipush hk.1.1 (v := 30) rfl dX8_init_68 ?_
  refine gw_icmp_ge hk.1.1 (cIk rfl) (cIk rfl) dX8_init_70 (fun q => absurd q (by decide)) (fun _ => ?_)
  refine gc_ldcS hk dX8_init_73 ?_
  refine gw_iload hk.1.1 0 rfl dX8_init_75 ?_
  refine gc_jcall hk (st := []) mf_J0_charAt_5068e (inT1 52 rfl rfl) (inT1 53 rfl rfl) (inT1 54 rfl rfl) (by decide) rfl (Nat.le_of_ble_eq_true rfl) rfl dX8_init_77 (met_cha (i := 9) (x := 101) _ (cIk rfl) (by decide) (by decide) rfl) (by decide) (by decide) ?_
  refine gw_istore hk.1.1 (lv' := [(5, mI 101), (4, mI 9), (3, mI 3), (2, mI 16805), (1, mI 1), (0, .ref (kB K + 2))]) (Nat.le_of_ble_eq_true rfl) rfl dX8_init_80 ?_
  refine gw_iload hk.1.1 0 rfl dX8_init_82 ?_
  refine gw_bipush hk.1.1 (v := 32) rfl dX8_init_84 ?_
  refine gw_icmp_ne hk.1.1 (cIk rfl) (cIk rfl) dX8_init_86 (fun _ => ?_) (fun q => absurd (by decide) q)
  refine gw_iload_n hk.1.1 3 rfl dX8_init_110 ?_
  refine gw_bipush hk.1.1 (v := 27) rfl dX8_init_111 ?_
  refine gw_imul hk.1.1 dX8_init_113 ?_
  refine gw_iload hk.1.1 0 rfl dX8_init_114 ?_
  refine gw_iadd hk.1.1 dX8_init_116 ?_
  refine gw_bipush hk.1.1 (v := 97) rfl dX8_init_117 ?_
  refine gw_isub hk.1.1 dX8_init_119 ?_
  refine gw_iconst hk.1.1 (v := 1) rfl dX8_init_120 ?_
  refine gw_iadd hk.1.1 dX8_init_121 ?_
  refine gw_top (y := 453740) (by decide) ?_
  refine gw_istore_n hk.1.1 rfl (lv' := [(2, mI 453740), (5, mI 101), (4, mI 9), (3, mI 3), (1, mI 1), (0, .ref (kB K + 2))]) (Nat.le_of_ble_eq_true rfl) rfl dX8_init_122 ?_
  refine gw_iinc hk.1.1 (lv' := [(3, mI 4), (2, mI 453740), (5, mI 101), (4, mI 9), (1, mI 1), (0, .ref (kB K + 2))]) 3 rfl (Nat.le_of_ble_eq_true rfl) rfl dX8_init_123 ?_
  refine gw_iinc hk.1.1 (lv' := [(4, mI 10), (3, mI 4), (2, mI 453740), (5, mI 101), (1, mI 1), (0, .ref (kB K + 2))]) 3 rfl (Nat.le_of_ble_eq_true rfl) rfl dX8_init_126 ?_
  refine gw_goto hk.1.1 dX8_init_129 ?_
  refine gw_iload hk.1.1 0 rfl dX8_init_57 ?_
  refine gc_ldcS hk dX8_init_59 ?_
  refine gc_jcall hk (st := [mI 10]) mf_J0_length_8abf5 (inT1 42 rfl rfl) (inT1 43 rfl rfl) (inT1 44 rfl rfl) (by decide) rfl (Nat.le_of_ble_eq_true rfl) rfl dX8_init_61 (met_len _) (by decide) (by decide) ?_
  refine gw_icmp_ge hk.1.1 (cIk rfl) (cIk rfl) dX8_init_64 (fun q => absurd q (by decide)) (fun _ => ?_)
  refine gw_iload_n hk.1.1 4 rfl dX8_init_67 ?_
  refine gw_bipush hk.1.1 (v := 30) rfl dX8_init_68 ?_
  refine gw_icmp_ge hk.1.1 (cIk rfl) (cIk rfl) dX8_init_70 (fun q => absurd q (by decide)) (fun _ => ?_)
  refine gc_ldcS hk dX8_init_73 ?_
  refine gw_iload hk.1.1 0 rfl dX8_init_75 ?_
  refine gc_jcall hk (st := []) mf_J0_charAt_5068e (inT1 52 rfl rfl) (inT1 53 rfl rfl) (inT1 54 rfl rfl) (by decide) rfl (Nat.le_of_ble_eq_true rfl) rfl dX8_init_77 (met_cha (i := 10) (x := 115) _ (cIk rfl) (by decide) (by decide) rfl) (by decide) (by decide) ?_
  refine gw_istore hk.1.1 (lv' := [(5, mI 115), (4, mI 10), (3, mI 4), (2, mI 453740), (1, mI 1), (0, .ref (kB K + 2))]) (Nat.le_of_ble_eq_true rfl) rfl dX8_init_80 ?_
  refine gw_iload hk.1.1 0 rfl dX8_init_82 ?_
  refine gw_bipush hk.1.1 (v := 32) rfl dX8_init_84 ?_
  refine gw_icmp_ne hk.1.1 (cIk rfl) (cIk rfl) dX8_init_86 (fun _ => ?_) (fun q => absurd (by decide) q)
  refine gw_iload_n hk.1.1 3 rfl dX8_init_110 ?_
  refine gw_bipush hk.1.1 (v := 27) rfl dX8_init_111 ?_
  refine gw_imul hk.1.1 dX8_init_113 ?_
  refine gw_iload hk.1.1 0 rfl dX8_init_114 ?_
  refine gw_iadd hk.1.1 dX8_init_116 ?_
  refine gw_bipush hk.1.1 (v := 97) rfl dX8_init_117 ?_
  refine gw_isub hk.1.1 dX8_init_119 ?_
  refine gw_iconst hk.1.1 (v := 1) rfl dX8_init_120 ?_
  refine gw_iadd hk.1.1 dX8_init_121 ?_
  refine gw_top (y := 12250999) (by decide) ?_
  refine gw_istore_n hk.1.1 rfl (lv' := [(2, mI 12250999), (5, mI 115), (4, mI 10), (3, mI 4), (1, mI 1), (0, .ref (kB K + 2))]) (Nat.le_of_ble_eq_true rfl) rfl dX8_init_122 ?_
  refine gw_iinc hk.1.1 (lv' := [(3, mI 5), (2, mI 12250999), (5, mI 115), (4, mI 10), (1, mI 1), (0, .ref (kB K + 2))]) 3 rfl (Nat.le_of_ble_eq_true rfl) rfl dX8_init_123 ?_
  refine gw_iinc hk.1.1 (lv' := [(4, mI 11), (3, mI 5), (2, mI 12250999), (5, mI 115), (1, mI 1), (0, .ref (kB K + 2))]) 3 rfl (Nat.le_of_ble_eq_true rfl) rfl dX8_init_126 ?_
  refine gw_goto hk.1.1 dX8_init_129 ?_
  refine gw_iload hk.1.1 0 rfl dX8_init_57 ?_
  refine gc_ldcS hk dX8_init_59 ?_
  refine gc_jcall hk (st := [mI 11]) mf_J0_length_8abf5 (inT1 42 rfl rfl) (inT1 43 rfl rfl) (inT1 44 rfl rfl) (by decide) rfl (Nat.le_of_ble_eq_true rfl) rfl dX8_init_61 (met_len _) (by decide) (by decide) ?_
  refine gw_icmp_ge hk.1.1 (cIk rfl) (cIk rfl) dX8_init_64 (fun q => absurd q (by decide)) (fun _ => ?_)
  refine gw_iload_n hk.1.1 4 rfl dX8_init_67 ?_
  refine gw_bipush hk.1.1 (v := 30) rfl dX8_init_68 ?_
  refine gw_icmp_ge hk.1.1 (cIk rfl) (cIk rfl) dX8_init_70 (fun q => absurd q (by decide)) (fun _ => ?_)
  refine gc_ldcS hk dX8_init_73 ?_
  refine gw_iload hk.1.1 0 rfl dX8_init_75 ?_
  refine gc_jcall hk (st := []) mf_J0_charAt_5068e (inT1 52 rfl rfl) (inT1 53 rfl rfl) (inT1 54 rfl rfl) (by decide) rfl (Nat.le_of_ble_eq_true rfl) rfl dX8_init_77 (met_cha (i := 11) (x := 32) _ (cIk rfl) (by decide) (by decide) rfl) (by decide) (by decide) ?_
  refine gw_istore hk.1.1 (lv' := [(5, mI 32), (4, mI 11), (3, mI 5), (2, mI 12250999), (1, mI 1), (0, .ref (kB K + 2))]) (Nat.le_of_ble_eq_true rfl) rfl dX8_init_80 ?_
  refine gw_iload hk.1.1 0 rfl dX8_init_82 ?_
  refine gw_bipush hk.1.1 (v := 32) rfl dX8_init_84 ?_
  refine gw_icmp_ne hk.1.1 (cIk rfl) (cIk rfl) dX8_init_86 (fun q => absurd q (by decide)) (fun _ => ?_)
  refine gw_aload_n hk.1.1 5 rfl dX8_init_89 ?_
  refine gc_get2 hk.1 (k := 7) (o := 2) fgc_X8_24 rfl kdC_2 (by omega) rfl rfl dX8_init_90 ?_
  refine gw_iload_n hk.1.1 4 rfl dX8_init_93 ?_
  refine gw_iload_n hk.1.1 3 rfl dX8_init_94 ?_
  refine gw_iload_n hk.1.1 2 rfl dX8_init_95 ?_
  refine gc_padded hk (st := [mI 1, .ref (kB K + 7)]) (a := 12250999) (b := 5) (r := 330776973) (inT1 90 rfl rfl) (by decide +kernel) (cIk rfl) (cIk rfl) (by decide) (Nat.le_of_ble_eq_true rfl) (by decide) (by decide) dX8_init_96 ?_
  refine gc_iast hk.1 (a := 7) (v := 330776973) (cIk rfl) (by decide) (by decide) kdC_7 (by omega) dX8_init_99 ?_
  refine gw_iinc hk.1.1 (lv' := [(1, mI 2), (5, mI 32), (4, mI 11), (3, mI 5), (2, mI 12250999), (0, .ref (kB K + 2))]) 4 rfl (Nat.le_of_ble_eq_true rfl) rfl dX8_init_100 ?_
  refine gw_iconst hk.1.1 (v := 0) rfl dX8_init_103 ?_
  refine gw_istore_n hk.1.1 rfl (lv' := [(2, mI 0), (1, mI 2), (5, mI 32), (4, mI 11), (3, mI 5), (0, .ref (kB K + 2))]) (Nat.le_of_ble_eq_true rfl) rfl dX8_init_104 ?_
  refine gw_iconst hk.1.1 (v := 0) rfl dX8_init_105 ?_
  refine gw_istore_n hk.1.1 rfl (lv' := [(3, mI 0), (2, mI 0), (1, mI 2), (5, mI 32), (4, mI 11), (0, .ref (kB K + 2))]) (Nat.le_of_ble_eq_true rfl) rfl dX8_init_106 ?_
  refine gw_goto hk.1.1 dX8_init_107 ?_
  refine gw_iinc hk.1.1 (lv' := [(4, mI 12), (3, mI 0), (2, mI 0), (1, mI 2), (5, mI 32), (0, .ref (kB K + 2))]) 4 rfl (Nat.le_of_ble_eq_true rfl) rfl dX8_init_126 ?_
  refine gw_goto hk.1.1 dX8_init_129 ?_
  refine gw_iload hk.1.1 0 rfl dX8_init_57 ?_
  refine gc_ldcS hk dX8_init_59 ?_
  refine gc_jcall hk (st := [mI 12]) mf_J0_length_8abf5 (inT1 42 rfl rfl) (inT1 43 rfl rfl) (inT1 44 rfl rfl) (by decide) rfl (Nat.le_of_ble_eq_true rfl) rfl dX8_init_61 (met_len _) (by decide) (by decide) ?_
  refine gw_icmp_ge hk.1.1 (cIk rfl) (cIk rfl) dX8_init_64 (fun q => absurd q (by decide)) (fun _ => ?_)
  refine gw_iload_n hk.1.1 3 rfl dX8_init_67 ?_
  refine gw_bipush hk.1.1 (v := 30) rfl dX8_init_68 ?_
  refine gw_icmp_ge hk.1.1 (cIk rfl) (cIk rfl) dX8_init_70 (fun q => absurd q (by decide)) (fun _ => ?_)
  refine gc_ldcS hk dX8_init_73 ?_
  refine gw_iload hk.1.1 0 rfl dX8_init_75 ?_
  refine gc_jcall hk (st := []) mf_J0_charAt_5068e (inT1 52 rfl rfl) (inT1 53 rfl rfl) (inT1 54 rfl rfl) (by decide) rfl (Nat.le_of_ble_eq_true rfl) rfl dX8_init_77 (met_cha (i := 12) (x := 116) _ (cIk rfl) (by decide) (by decide) rfl) (by decide) (by decide) ?_
  refine gw_istore hk.1.1 (lv' := [(5, mI 116), (4, mI 12), (3, mI 0), (2, mI 0), (1, mI 2), (0, .ref (kB K + 2))]) (Nat.le_of_ble_eq_true rfl) rfl dX8_init_80 ?_
  refine gw_iload hk.1.1 0 rfl dX8_init_82 ?_
  refine gw_bipush hk.1.1 (v := 32) rfl dX8_init_84 ?_
  refine gw_icmp_ne hk.1.1 (cIk rfl) (cIk rfl) dX8_init_86 (fun _ => ?_) (fun q => absurd (by decide) q)
  refine gw_iload_n hk.1.1 3 rfl dX8_init_110 ?_
  refine gw_bipush hk.1.1 (v := 27) rfl dX8_init_111 ?_
  refine gw_imul hk.1.1 dX8_init_113 ?_
  refine gw_iload hk.1.1 0 rfl dX8_init_114 ?_
  refine gw_iadd hk.1.1 dX8_init_116 ?_
  refine gw_bipush hk.1.1 (v := 97) rfl dX8_init_117 ?_
  refine gw_isub hk.1.1 dX8_init_119 ?_
  refine gw_iconst hk.1.1 (v := 1) rfl dX8_init_120 ?_
  refine gw_iadd hk.1.1 dX8_init_121 ?_
  refine gw_top (y := 20) (by decide) ?_
  refine gw_istore_n hk.1.1 rfl (lv' := [(2, mI 20), (5, mI 116), (4, mI 12), (3, mI 0), (1, mI 2), (0, .ref (kB K + 2))]) (Nat.le_of_ble_eq_true rfl) rfl dX8_init_122 ?_
  refine gw_iinc hk.1.1 (lv' := [(3, mI 1), (2, mI 20), (5, mI 116), (4, mI 12), (1, mI 2), (0, .ref (kB K + 2))]) 3 rfl (Nat.le_of_ble_eq_true rfl) rfl dX8_init_123 ?_
  refine gw_iinc hk.1.1 (lv' := [(4, mI 13), (3, mI 1), (2, mI 20), (5, mI 116), (1, mI 2), (0, .ref (kB K + 2))]) 3 rfl (Nat.le_of_ble_eq_true rfl) rfl dX8_init_126 ?_
  refine gw_goto hk.1.1 dX8_init_129 ?_
  refine gw_iload hk.1.1 0 rfl dX8_init_57 ?_
  refine gc_ldcS hk dX8_init_59 ?_
  refine gc_jcall hk (st := [mI 13]) mf_J0_length_8abf5 (inT1 42 rfl rfl) (inT1 43 rfl rfl) (inT1 44 rfl rfl) (by decide) rfl (Nat.le_of_ble_eq_true rfl) rfl dX8_init_61 (met_len _) (by decide) (by decide) ?_
  refine gw_icmp_ge hk.1.1 (cIk rfl) (cIk rfl) dX8_init_64 (fun q => absurd q (by decide)) (fun _ => ?_)
  refine gw_iload_n hk.1.1 4 rfl dX8_init_67 ?_
  refine gw_bipush hk.1.1 (v := 30) rfl dX8_init_68 ?_
  refine gw_icmp_ge hk.1.1 (cIk rfl) (cIk rfl) dX8_init_70 (fun q => absurd q (by decide)) (fun _ => ?_)
  refine gc_ldcS hk dX8_init_73 ?_
  refine gw_iload hk.1.1 0 rfl dX8_init_75 ?_
  refine gc_jcall hk (st := []) mf_J0_charAt_5068e (inT1 52 rfl rfl) (inT1 53 rfl rfl) (inT1 54 rfl rfl) (by decide) rfl (Nat.le_of_ble_eq_true rfl) rfl dX8_init_77 (met_cha (i := 13) (x := 111) _ (cIk rfl) (by decide) (by decide) rfl) (by decide) (by decide) ?_
  refine gw_istore hk.1.1 (lv' := [(5, mI 111), (4, mI 13), (3, mI 1), (2, mI 20), (1, mI 2), (0, .ref (kB K + 2))]) (Nat.le_of_ble_eq_true rfl) rfl dX8_init_80 ?_
  refine gw_iload hk.1.1 0 rfl dX8_init_82 ?_
  refine gw_bipush hk.1.1 (v := 32) rfl dX8_init_84 ?_
  refine gw_icmp_ne hk.1.1 (cIk rfl) (cIk rfl) dX8_init_86 (fun _ => ?_) (fun q => absurd (by decide) q)
  refine gw_iload_n hk.1.1 3 rfl dX8_init_110 ?_
  refine gw_bipush hk.1.1 (v := 27) rfl dX8_init_111 ?_
  refine gw_imul hk.1.1 dX8_init_113 ?_
  refine gw_iload hk.1.1 0 rfl dX8_init_114 ?_
  refine gw_iadd hk.1.1 dX8_init_116 ?_
  refine gw_bipush hk.1.1 (v := 97) rfl dX8_init_117 ?_
  refine gw_isub hk.1.1 dX8_init_119 ?_
  refine gw_iconst hk.1.1 (v := 1) rfl dX8_init_120 ?_
  refine gw_iadd hk.1.1 dX8_init_121 ?_
  refine gw_top (y := 555) (by decide) ?_
  refine gw_istore_n hk.1.1 rfl (lv' := [(2, mI 555), (5, mI 111), (4, mI 13), (3, mI 1), (1, mI 2), (0, .ref (kB K + 2))]) (Nat.le_of_ble_eq_true rfl) rfl dX8_init_122 ?_
  refine gw_iinc hk.1.1 (lv' := [(3, mI 2), (2, mI 555), (5, mI 111), (4, mI 13), (1, mI 2), (0, .ref (kB K + 2))]) 3 rfl (Nat.le_of_ble_eq_true rfl) rfl dX8_init_123 ?_
  refine gw_iinc hk.1.1 (lv' := [(4, mI 14), (3, mI 2), (2, mI 555), (5, mI 111), (1, mI 2), (0, .ref (kB K + 2))]) 3 rfl (Nat.le_of_ble_eq_true rfl) rfl dX8_init_126 ?_
  refine gw_goto hk.1.1 dX8_init_129 ?_
  refine gw_iload hk.1.1 0 rfl dX8_init_57 ?_
  refine gc_ldcS hk dX8_init_59 ?_
  refine gc_jcall hk (st := [mI 14]) mf_J0_length_8abf5 (inT1 42 rfl rfl) (inT1 43 rfl rfl) (inT1 44 rfl rfl) (by decide) rfl (Nat.le_of_ble_eq_true rfl) rfl dX8_init_61 (met_len _) (by decide) (by decide) ?_
  refine gw_icmp_ge hk.1.1 (cIk rfl) (cIk rfl) dX8_init_64 (fun q => absurd q (by decide)) (fun _ => ?_)
  refine gw_iload_n hk.1.1 4 rfl dX8_init_67 ?_
  refine gw_bipush hk.1.1 (v := 30) rfl dX8_init_68 ?_
  refine gw_icmp_ge hk.1.1 (cIk rfl) (cIk rfl) dX8_init_70 (fun q => absurd q (by decide)) (fun _ => ?_)
  refine gc_ldcS hk dX8_init_73 ?_
  refine gw_iload hk.1.1 0 rfl dX8_init_75 ?_
  refine gc_jcall hk (st := []) mf_J0_charAt_5068e (inT1 52 rfl rfl) (inT1 53 rfl rfl) (inT1 54 rfl rfl) (by decide) rfl (Nat.le_of_ble_eq_true rfl) rfl dX8_init_77 (met_cha (i := 14) (x := 32) _ (cIk rfl) (by decide) (by decide) rfl) (by decide) (by decide) ?_
  refine gw_istore hk.1.1 (lv' := [(5, mI 32), (4, mI 14), (3, mI 2), (2, mI 555), (1, mI 2), (0, .ref (kB K + 2))]) (Nat.le_of_ble_eq_true rfl) rfl dX8_init_80 ?_
  refine gw_iload hk.1.1 0 rfl dX8_init_82 ?_
  refine gw_bipush hk.1.1 (v := 32) rfl dX8_init_84 ?_
  refine gw_icmp_ne hk.1.1 (cIk rfl) (cIk rfl) dX8_init_86 (fun q => absurd q (by decide)) (fun _ => ?_)
  refine gw_aload_n hk.1.1 5 rfl dX8_init_89 ?_
  refine gc_get2 hk.1 (k := 7) (o := 2) fgc_X8_24 rfl kdC_2 (by omega) rfl rfl dX8_init_90 ?_
  refine gw_iload_n hk.1.1 4 rfl dX8_init_93 ?_
  refine gw_iload_n hk.1.1 3 rfl dX8_init_94 ?_
  refine gw_iload_n hk.1.1 2 rfl dX8_init_95 ?_
  refine gc_padded hk (st := [mI 2, .ref (kB K + 7)]) (a := 555) (b := 2) (r := 294949755) (inT1 90 rfl rfl) (by decide +kernel) (cIk rfl) (cIk rfl) (by decide) (Nat.le_of_ble_eq_true rfl) (by decide) (by decide) dX8_init_96 ?_
  refine gc_iast hk.1 (a := 7) (v := 294949755) (cIk rfl) (by decide) (by decide) kdC_7 (by omega) dX8_init_99 ?_
  refine gw_iinc hk.1.1 (lv' := [(1, mI 3), (5, mI 32), (4, mI 14), (3, mI 2), (2, mI 555), (0, .ref (kB K + 2))]) 4 rfl (Nat.le_of_ble_eq_true rfl) rfl dX8_init_100 ?_
  refine gw_iconst hk.1.1 (v := 0) rfl dX8_init_103 ?_
  refine gw_istore_n hk.1.1 rfl (lv' := [(2, mI 0), (1, mI 3), (5, mI 32), (4, mI 14), (3, mI 2), (0, .ref (kB K + 2))]) (Nat.le_of_ble_eq_true rfl) rfl dX8_init_104 ?_
  refine gw_iconst hk.1.1 (v := 0) rfl dX8_init_105 ?_
  refine gw_istore_n hk.1.1 rfl (lv' := [(3, mI 0), (2, mI 0), (1, mI 3), (5, mI 32), (4, mI 14), (0, .ref (kB K + 2))]) (Nat.le_of_ble_eq_true rfl) rfl dX8_init_106 ?_
  refine gw_goto hk.1.1 dX8_init_107 ?_
  refine gw_iinc hk.1.1 (lv' := [(4, mI 15), (3, mI 0), (2, mI 0), (1, mI 3), (5, mI 32), (0, .ref (kB K + 2))]) 4 rfl (Nat.le_of_ble_eq_true rfl) rfl dX8_init_126 ?_
  refine gw_goto hk.1.1 dX8_init_129 ?_
  refine gw_iload hk.1.1 0 rfl dX8_init_57 ?_
  refine gc_ldcS hk dX8_init_59 ?_
  refine gc_jcall hk (st := [mI 15]) mf_J0_length_8abf5 (inT1 42 rfl rfl) (inT1 43 rfl rfl) (inT1 44 rfl rfl) (by decide) rfl (Nat.le_of_ble_eq_true rfl) rfl dX8_init_61 (met_len _) (by decide) (by decide) ?_
  refine gw_icmp_ge hk.1.1 (cIk rfl) (cIk rfl) dX8_init_64 (fun q => absurd q (by decide)) (fun _ => ?_)
  refine gw_iload_n hk.1.1 3 rfl dX8_init_67 ?_
  refine gw_bipush hk.1.1 (v := 30) rfl dX8_init_68 ?_
  refine gw_icmp_ge hk.1.1 (cIk rfl) (cIk rfl) dX8_init_70 (fun q => absurd q (by decide)) (fun _ => ?_)
  refine gc_ldcS hk dX8_init_73 ?_
  refine gw_iload hk.1.1 0 rfl dX8_init_75 ?_
  refine gc_jcall hk (st := []) mf_J0_charAt_5068e (inT1 52 rfl rfl) (inT1 53 rfl rfl) (inT1 54 rfl rfl) (by decide) rfl (Nat.le_of_ble_eq_true rfl) rfl dX8_init_77 (met_cha (i := 15) (x := 97) _ (cIk rfl) (by decide) (by decide) rfl) (by decide) (by decide) ?_
  refine gw_istore hk.1.1 (lv' := [(5, mI 97), (4, mI 15), (3, mI 0), (2, mI 0), (1, mI 3), (0, .ref (kB K + 2))]) (Nat.le_of_ble_eq_true rfl) rfl dX8_init_80 ?_
  refine gw_iload hk.1.1 0 rfl dX8_init_82 ?_
  refine gw_bipush hk.1.1 (v := 32) rfl dX8_init_84 ?_
  refine gw_icmp_ne hk.1.1 (cIk rfl) (cIk rfl) dX8_init_86 (fun _ => ?_) (fun q => absurd (by decide) q)
  refine gw_iload_n hk.1.1 3 rfl dX8_init_110 ?_
  refine gw_bipush hk.1.1 (v := 27) rfl dX8_init_111 ?_
  refine gw_imul hk.1.1 dX8_init_113 ?_
  refine gw_iload hk.1.1 0 rfl dX8_init_114 ?_
  refine gw_iadd hk.1.1 dX8_init_116 ?_
  refine gw_bipush hk.1.1 (v := 97) rfl dX8_init_117 ?_
  refine gw_isub hk.1.1 dX8_init_119 ?_
  refine gw_iconst hk.1.1 (v := 1) rfl dX8_init_120 ?_
  refine gw_iadd hk.1.1 dX8_init_121 ?_
  refine gw_top (y := 1) (by decide) ?_
  refine gw_istore_n hk.1.1 rfl (lv' := [(2, mI 1), (5, mI 97), (4, mI 15), (3, mI 0), (1, mI 3), (0, .ref (kB K + 2))]) (Nat.le_of_ble_eq_true rfl) rfl dX8_init_122 ?_
  refine gw_iinc hk.1.1 (lv' := [(3, mI 1), (2, mI 1), (5, mI 97), (4, mI 15), (1, mI 3), (0, .ref (kB K + 2))]) 3 rfl (Nat.le_of_ble_eq_true rfl) rfl dX8_init_123 ?_
  refine gw_iinc hk.1.1 (lv' := [(4, mI 16), (3, mI 1), (2, mI 1), (5, mI 97), (1, mI 3), (0, .ref (kB K + 2))]) 3 rfl (Nat.le_of_ble_eq_true rfl) rfl dX8_init_126 ?_
  refine gw_goto hk.1.1 dX8_init_129 ?_
  refine gw_iload hk.1.1 0 rfl dX8_init_57 ?_
  refine gc_ldcS hk dX8_init_59 ?_
  refine gc_jcall hk (st := [mI 16]) mf_J0_length_8abf5 (inT1 42 rfl rfl) (inT1 43 rfl rfl) (inT1 44 rfl rfl) (by decide) rfl (Nat.le_of_ble_eq_true rfl) rfl dX8_init_61 (met_len _) (by decide) (by decide) ?_
  refine gw_icmp_ge hk.1.1 (cIk rfl) (cIk rfl) dX8_init_64 (fun q => absurd q (by decide)) (fun _ => ?_)
  refine gw_iload_n hk.1.1 4 rfl dX8_init_67 ?_
  refine gw_bipush hk.1.1 (v := 30) rfl dX8_init_68 ?_
  refine gw_icmp_ge hk.1.1 (cIk rfl) (cIk rfl) dX8_init_70 (fun q => absurd q (by decide)) (fun _ => ?_)
  refine gc_ldcS hk dX8_init_73 ?_
  refine gw_iload hk.1.1 0 rfl dX8_init_75 ?_
  refine gc_jcall hk (st := []) mf_J0_charAt_5068e (inT1 52 rfl rfl) (inT1 53 rfl rfl) (inT1 54 rfl rfl) (by decide) rfl (Nat.le_of_ble_eq_true rfl) rfl dX8_init_77 (met_cha (i := 16) (x := 116) _ (cIk rfl) (by decide) (by decide) rfl) (by decide) (by decide) ?_
  refine gw_istore hk.1.1 (lv' := [(5, mI 116), (4, mI 16), (3, mI 1), (2, mI 1), (1, mI 3), (0, .ref (kB K + 2))]) (Nat.le_of_ble_eq_true rfl) rfl dX8_init_80 ?_
  refine gw_iload hk.1.1 0 rfl dX8_init_82 ?_
  refine gw_bipush hk.1.1 (v := 32) rfl dX8_init_84 ?_
  refine gw_icmp_ne hk.1.1 (cIk rfl) (cIk rfl) dX8_init_86 (fun _ => ?_) (fun q => absurd (by decide) q)
  refine gw_iload_n hk.1.1 3 rfl dX8_init_110 ?_
  refine gw_bipush hk.1.1 (v := 27) rfl dX8_init_111 ?_
  refine gw_imul hk.1.1 dX8_init_113 ?_
  refine gw_iload hk.1.1 0 rfl dX8_init_114 ?_
  refine gw_iadd hk.1.1 dX8_init_116 ?_
  refine gw_bipush hk.1.1 (v := 97) rfl dX8_init_117 ?_
  refine gw_isub hk.1.1 dX8_init_119 ?_
  refine gw_iconst hk.1.1 (v := 1) rfl dX8_init_120 ?_
  refine gw_iadd hk.1.1 dX8_init_121 ?_
  refine gw_top (y := 47) (by decide) ?_
  refine gw_istore_n hk.1.1 rfl (lv' := [(2, mI 47), (5, mI 116), (4, mI 16), (3, mI 1), (1, mI 3), (0, .ref (kB K + 2))]) (Nat.le_of_ble_eq_true rfl) rfl dX8_init_122 ?_
  refine gw_iinc hk.1.1 (lv' := [(3, mI 2), (2, mI 47), (5, mI 116), (4, mI 16), (1, mI 3), (0, .ref (kB K + 2))]) 3 rfl (Nat.le_of_ble_eq_true rfl) rfl dX8_init_123 ?_
  refine gw_iinc hk.1.1 (lv' := [(4, mI 17), (3, mI 2), (2, mI 47), (5, mI 116), (1, mI 3), (0, .ref (kB K + 2))]) 3 rfl (Nat.le_of_ble_eq_true rfl) rfl dX8_init_126 ?_
  refine gw_goto hk.1.1 dX8_init_129 ?_
  refine gw_iload hk.1.1 0 rfl dX8_init_57 ?_
  refine gc_ldcS hk dX8_init_59 ?_
  refine gc_jcall hk (st := [mI 17]) mf_J0_length_8abf5 (inT1 42 rfl rfl) (inT1 43 rfl rfl) (inT1 44 rfl rfl) (by decide) rfl (Nat.le_of_ble_eq_true rfl) rfl dX8_init_61 (met_len _) (by decide) (by decide) ?_
  refine gw_icmp_ge hk.1.1 (cIk rfl) (cIk rfl) dX8_init_64 (fun q => absurd q (by decide)) (fun _ => ?_)
  refine gw_iload_n hk.1.1 4 rfl dX8_init_67 ?_
  refine gw_bipush hk.1.1 (v := 30) rfl dX8_init_68 ?_
  refine gw_icmp_ge hk.1.1 (cIk rfl) (cIk rfl) dX8_init_70 (fun q => absurd q (by decide)) (fun _ => ?_)
  refine gc_ldcS hk dX8_init_73 ?_
  refine gw_iload hk.1.1 0 rfl dX8_init_75 ?_
  refine gc_jcall hk (st := []) mf_J0_charAt_5068e (inT1 52 rfl rfl) (inT1 53 rfl rfl) (inT1 54 rfl rfl) (by decide) rfl (Nat.le_of_ble_eq_true rfl) rfl dX8_init_77 (met_cha (i := 17) (x := 32) _ (cIk rfl) (by decide) (by decide) rfl) (by decide) (by decide) ?_
  refine gw_istore hk.1.1 (lv' := [(5, mI 32), (4, mI 17), (3, mI 2), (2, mI 47), (1, mI 3), (0, .ref (kB K + 2))]) (Nat.le_of_ble_eq_true rfl) rfl dX8_init_80 ?_
  refine gw_iload hk.1.1 0 rfl dX8_init_82 ?_
  refine gw_bipush hk.1.1 (v := 32) rfl dX8_init_84 ?_
  refine gw_icmp_ne hk.1.1 (cIk rfl) (cIk rfl) dX8_init_86 (fun q => absurd q (by decide)) (fun _ => ?_)
  refine gw_aload_n hk.1.1 5 rfl dX8_init_89 ?_
  refine gc_get2 hk.1 (k := 7) (o := 2) fgc_X8_24 rfl kdC_2 (by omega) rfl rfl dX8_init_90 ?_
  refine gw_iload_n hk.1.1 4 rfl dX8_init_93 ?_
  refine gw_iload_n hk.1.1 3 rfl dX8_init_94 ?_
  refine gw_iload_n hk.1.1 2 rfl dX8_init_95 ?_
  refine gc_padded hk (st := [mI 3, .ref (kB K + 7)]) (a := 47) (b := 2) (r := 24977727) (inT1 90 rfl rfl) (by decide +kernel) (cIk rfl) (cIk rfl) (by decide) (Nat.le_of_ble_eq_true rfl) (by decide) (by decide) dX8_init_96 ?_
  refine gc_iast hk.1 (a := 7) (v := 24977727) (cIk rfl) (by decide) (by decide) kdC_7 (by omega) dX8_init_99 ?_
  refine gw_iinc hk.1.1 (lv' := [(1, mI 4), (5, mI 32), (4, mI 17), (3, mI 2), (2, mI 47), (0, .ref (kB K + 2))]) 4 rfl (Nat.le_of_ble_eq_true rfl) rfl dX8_init_100 ?_
  refine gw_iconst hk.1.1 (v := 0) rfl dX8_init_103 ?_
  refine gw_istore_n hk.1.1 rfl (lv' := [(2, mI 0), (1, mI 4), (5, mI 32), (4, mI 17), (3, mI 2), (0, .ref (kB K + 2))]) (Nat.le_of_ble_eq_true rfl) rfl dX8_init_104 ?_
  refine gw_iconst hk.1.1 (v := 0) rfl dX8_init_105 ?_
  refine gw_istore_n hk.1.1 rfl (lv' := [(3, mI 0), (2, mI 0), (1, mI 4), (5, mI 32), (4, mI 17), (0, .ref (kB K + 2))]) (Nat.le_of_ble_eq_true rfl) rfl dX8_init_106 ?_
  refine gw_goto hk.1.1 dX8_init_107 ?_
  refine gw_iinc hk.1.1 (lv' := [(4, mI 18), (3, mI 0), (2, mI 0), (1, mI 4), (5, mI 32), (0, .ref (kB K + 2))]) 4 rfl (Nat.le_of_ble_eq_true rfl) rfl dX8_init_126 ?_
  refine gw_goto hk.1.1 dX8_init_129 ?_
  refine gw_iload hk.1.1 0 rfl dX8_init_57 ?_
  refine gc_ldcS hk dX8_init_59 ?_
  refine gc_jcall hk (st := [mI 18]) mf_J0_length_8abf5 (inT1 42 rfl rfl) (inT1 43 rfl rfl) (inT1 44 rfl rfl) (by decide) rfl (Nat.le_of_ble_eq_true rfl) rfl dX8_init_61 (met_len _) (by decide) (by decide) ?_
  refine gw_icmp_ge hk.1.1 (cIk rfl) (cIk rfl) dX8_init_64 (fun q => absurd q (by decide)) (fun _ => ?_)
  refine gw_iload_n hk.1.1 3 rfl dX8_init_67 ?_
  refine gw_bipush hk.1.1 (v := 30) rfl dX8_init_68 ?_
  refine gw_icmp_ge hk.1.1 (cIk rfl) (cIk rfl) dX8_init_70 (fun q => absurd q (by decide)) (fun _ => ?_)
  refine gc_ldcS hk dX8_init_73 ?_
  refine gw_iload hk.1.1 0 rfl dX8_init_75 ?_
  refine gc_jcall hk (st := []) mf_J0_charAt_5068e (inT1 52 rfl rfl) (inT1 53 rfl rfl) (inT1 54 rfl rfl) (by decide) rfl (Nat.le_of_ble_eq_true rfl) rfl dX8_init_77 (met_cha (i := 18) (x := 116) _ (cIk rfl) (by decide) (by decide) rfl) (by decide) (by decide) ?_
  refine gw_istore hk.1.1 (lv' := [(5, mI 116), (4, mI 18), (3, mI 0), (2, mI 0), (1, mI 4), (0, .ref (kB K + 2))]) (Nat.le_of_ble_eq_true rfl) rfl dX8_init_80 ?_
  refine gw_iload hk.1.1 0 rfl dX8_init_82 ?_
  refine gw_bipush hk.1.1 (v := 32) rfl dX8_init_84 ?_
  refine gw_icmp_ne hk.1.1 (cIk rfl) (cIk rfl) dX8_init_86 (fun _ => ?_) (fun q => absurd (by decide) q)
  refine gw_iload_n hk.1.1 3 rfl dX8_init_110 ?_
  refine gw_bipush hk.1.1 (v := 27) rfl dX8_init_111 ?_
  refine gw_imul hk.1.1 dX8_init_113 ?_
  refine gw_iload hk.1.1 0 rfl dX8_init_114 ?_
  refine gw_iadd hk.1.1 dX8_init_116 ?_
  refine gw_bipush hk.1.1 (v := 97) rfl dX8_init_117 ?_
  refine gw_isub hk.1.1 dX8_init_119 ?_
  refine gw_iconst hk.1.1 (v := 1) rfl dX8_init_120 ?_
  refine gw_iadd hk.1.1 dX8_init_121 ?_
  refine gw_top (y := 20) (by decide) ?_
  refine gw_istore_n hk.1.1 rfl (lv' := [(2, mI 20), (5, mI 116), (4, mI 18), (3, mI 0), (1, mI 4), (0, .ref (kB K + 2))]) (Nat.le_of_ble_eq_true rfl) rfl dX8_init_122 ?_
  refine gw_iinc hk.1.1 (lv' := [(3, mI 1), (2, mI 20), (5, mI 116), (4, mI 18), (1, mI 4), (0, .ref (kB K + 2))]) 3 rfl (Nat.le_of_ble_eq_true rfl) rfl dX8_init_123 ?_
  refine gw_iinc hk.1.1 (lv' := [(4, mI 19), (3, mI 1), (2, mI 20), (5, mI 116), (1, mI 4), (0, .ref (kB K + 2))]) 3 rfl (Nat.le_of_ble_eq_true rfl) rfl dX8_init_126 ?_
  refine gw_goto hk.1.1 dX8_init_129 ?_
  refine gw_iload hk.1.1 0 rfl dX8_init_57 ?_
  refine gc_ldcS hk dX8_init_59 ?_
  refine gc_jcall hk (st := [mI 19]) mf_J0_length_8abf5 (inT1 42 rfl rfl) (inT1 43 rfl rfl) (inT1 44 rfl rfl) (by decide) rfl (Nat.le_of_ble_eq_true rfl) rfl dX8_init_61 (met_len _) (by decide) (by decide) ?_
  refine gw_icmp_ge hk.1.1 (cIk rfl) (cIk rfl) dX8_init_64 (fun q => absurd q (by decide)) (fun _ => ?_)
  refine gw_iload_n hk.1.1 4 rfl dX8_init_67 ?_
  refine gw_bipush hk.1.1 (v := 30) rfl dX8_init_68 ?_
  refine gw_icmp_ge hk.1.1 (cIk rfl) (cIk rfl) dX8_init_70 (fun q => absurd q (by decide)) (fun _ => ?_)
  refine gc_ldcS hk dX8_init_73 ?_
  refine gw_iload hk.1.1 0 rfl dX8_init_75 ?_
  refine gc_jcall hk (st := []) mf_J0_charAt_5068e (inT1 52 rfl rfl) (inT1 53 rfl rfl) (inT1 54 rfl rfl) (by decide) rfl (Nat.le_of_ble_eq_true rfl) rfl dX8_init_77 (met_cha (i := 19) (x := 97) _ (cIk rfl) (by decide) (by decide) rfl) (by decide) (by decide) ?_
  refine gw_istore hk.1.1 (lv' := [(5, mI 97), (4, mI 19), (3, mI 1), (2, mI 20), (1, mI 4), (0, .ref (kB K + 2))]) (Nat.le_of_ble_eq_true rfl) rfl dX8_init_80 ?_
  refine gw_iload hk.1.1 0 rfl dX8_init_82 ?_
  refine gw_bipush hk.1.1 (v := 32) rfl dX8_init_84 ?_
  refine gw_icmp_ne hk.1.1 (cIk rfl) (cIk rfl) dX8_init_86 (fun _ => ?_) (fun q => absurd (by decide) q)
  refine gw_iload_n hk.1.1 3 rfl dX8_init_110 ?_
  refine gw_bipush hk.1.1 (v := 27) rfl dX8_init_111 ?_
  refine gw_imul hk.1.1 dX8_init_113 ?_
  refine gw_iload hk.1.1 0 rfl dX8_init_114 ?_
  refine gw_iadd hk.1.1 dX8_init_116 ?_
  refine gw_bipush hk.1.1 (v := 97) rfl dX8_init_117 ?_
  refine gw_isub hk.1.1 dX8_init_119 ?_
  refine gw_iconst hk.1.1 (v := 1) rfl dX8_init_120 ?_
  refine gw_iadd hk.1.1 dX8_init_121 ?_
  refine gw_top (y := 541) (by decide) ?_
  refine gw_istore_n hk.1.1 rfl (lv' := [(2, mI 541), (5, mI 97), (4, mI 19), (3, mI 1), (1, mI 4), (0, .ref (kB K + 2))]) (Nat.le_of_ble_eq_true rfl) rfl dX8_init_122 ?_
  refine gw_iinc hk.1.1 (lv' := [(3, mI 2), (2, mI 541), (5, mI 97), (4, mI 19), (1, mI 4), (0, .ref (kB K + 2))]) 3 rfl (Nat.le_of_ble_eq_true rfl) rfl dX8_init_123 ?_
  refine gw_iinc hk.1.1 (lv' := [(4, mI 20), (3, mI 2), (2, mI 541), (5, mI 97), (1, mI 4), (0, .ref (kB K + 2))]) 3 rfl (Nat.le_of_ble_eq_true rfl) rfl dX8_init_126 ?_
  refine gw_goto hk.1.1 dX8_init_129 ?_
  refine gw_iload hk.1.1 0 rfl dX8_init_57 ?_
  refine gc_ldcS hk dX8_init_59 ?_
  refine gc_jcall hk (st := [mI 20]) mf_J0_length_8abf5 (inT1 42 rfl rfl) (inT1 43 rfl rfl) (inT1 44 rfl rfl) (by decide) rfl (Nat.le_of_ble_eq_true rfl) rfl dX8_init_61 (met_len _) (by decide) (by decide) ?_
  refine gw_icmp_ge hk.1.1 (cIk rfl) (cIk rfl) dX8_init_64 (fun q => absurd q (by decide)) (fun _ => ?_)
  refine gw_iload_n hk.1.1 4 rfl dX8_init_67 ?_
  refine gw_bipush hk.1.1 (v := 30) rfl dX8_init_68 ?_
  refine gw_icmp_ge hk.1.1 (cIk rfl) (cIk rfl) dX8_init_70 (fun q => absurd q (by decide)) (fun _ => ?_)
  refine gc_ldcS hk dX8_init_73 ?_
  refine gw_iload hk.1.1 0 rfl dX8_init_75 ?_
  refine gc_jcall hk (st := []) mf_J0_charAt_5068e (inT1 52 rfl rfl) (inT1 53 rfl rfl) (inT1 54 rfl rfl) (by decide) rfl (Nat.le_of_ble_eq_true rfl) rfl dX8_init_77 (met_cha (i := 20) (x := 115) _ (cIk rfl) (by decide) (by decide) rfl) (by decide) (by decide) ?_
  refine gw_istore hk.1.1 (lv' := [(5, mI 115), (4, mI 20), (3, mI 2), (2, mI 541), (1, mI 4), (0, .ref (kB K + 2))]) (Nat.le_of_ble_eq_true rfl) rfl dX8_init_80 ?_
  refine gw_iload hk.1.1 0 rfl dX8_init_82 ?_
  refine gw_bipush hk.1.1 (v := 32) rfl dX8_init_84 ?_
  refine gw_icmp_ne hk.1.1 (cIk rfl) (cIk rfl) dX8_init_86 (fun _ => ?_) (fun q => absurd (by decide) q)
  refine gw_iload_n hk.1.1 3 rfl dX8_init_110 ?_
  refine gw_bipush hk.1.1 (v := 27) rfl dX8_init_111 ?_
  refine gw_imul hk.1.1 dX8_init_113 ?_
  refine gw_iload hk.1.1 0 rfl dX8_init_114 ?_
  refine gw_iadd hk.1.1 dX8_init_116 ?_
  refine gw_bipush hk.1.1 (v := 97) rfl dX8_init_117 ?_
  refine gw_isub hk.1.1 dX8_init_119 ?_
  refine gw_iconst hk.1.1 (v := 1) rfl dX8_init_120 ?_
  refine gw_iadd hk.1.1 dX8_init_121 ?_
  refine gw_top (y := 14626) (by decide) ?_
  refine gw_istore_n hk.1.1 rfl (lv' := [(2, mI 14626), (5, mI 115), (4, mI 20), (3, mI 2), (1, mI 4), (0, .ref (kB K + 2))]) (Nat.le_of_ble_eq_true rfl) rfl dX8_init_122 ?_
  refine gw_iinc hk.1.1 (lv' := [(3, mI 3), (2, mI 14626), (5, mI 115), (4, mI 20), (1, mI 4), (0, .ref (kB K + 2))]) 3 rfl (Nat.le_of_ble_eq_true rfl) rfl dX8_init_123 ?_
  refine gw_iinc hk.1.1 (lv' := [(4, mI 21), (3, mI 3), (2, mI 14626), (5, mI 115), (1, mI 4), (0, .ref (kB K + 2))]) 3 rfl (Nat.le_of_ble_eq_true rfl) rfl dX8_init_126 ?_
  refine gw_goto hk.1.1 dX8_init_129 ?_
  refine gw_iload hk.1.1 0 rfl dX8_init_57 ?_
  refine gc_ldcS hk dX8_init_59 ?_
  refine gc_jcall hk (st := [mI 21]) mf_J0_length_8abf5 (inT1 42 rfl rfl) (inT1 43 rfl rfl) (inT1 44 rfl rfl) (by decide) rfl (Nat.le_of_ble_eq_true rfl) rfl dX8_init_61 (met_len _) (by decide) (by decide) ?_
  refine gw_icmp_ge hk.1.1 (cIk rfl) (cIk rfl) dX8_init_64 (fun q => absurd q (by decide)) (fun _ => ?_)
  refine gw_iload_n hk.1.1 4 rfl dX8_init_67 ?_
  refine gw_bipush hk.1.1 (v := 30) rfl dX8_init_68 ?_
  refine gw_icmp_ge hk.1.1 (cIk rfl) (cIk rfl) dX8_init_70 (fun q => absurd q (by decide)) (fun _ => ?_)
  refine gc_ldcS hk dX8_init_73 ?_
  refine gw_iload hk.1.1 0 rfl dX8_init_75 ?_
  refine gc_jcall hk (st := []) mf_J0_charAt_5068e (inT1 52 rfl rfl) (inT1 53 rfl rfl) (inT1 54 rfl rfl) (by decide) rfl (Nat.le_of_ble_eq_true rfl) rfl dX8_init_77 (met_cha (i := 21) (x := 116) _ (cIk rfl) (by decide) (by decide) rfl) (by decide) (by decide) ?_
  refine gw_istore hk.1.1 (lv' := [(5, mI 116), (4, mI 21), (3, mI 3), (2, mI 14626), (1, mI 4), (0, .ref (kB K + 2))]) (Nat.le_of_ble_eq_true rfl) rfl dX8_init_80 ?_
  refine gw_iload hk.1.1 0 rfl dX8_init_82 ?_
  refine gw_bipush hk.1.1 (v := 32) rfl dX8_init_84 ?_
  refine gw_icmp_ne hk.1.1 (cIk rfl) (cIk rfl) dX8_init_86 (fun _ => ?_) (fun q => absurd (by decide) q)
  refine gw_iload_n hk.1.1 3 rfl dX8_init_110 ?_
  refine gw_bipush hk.1.1 (v := 27) rfl dX8_init_111 ?_
  refine gw_imul hk.1.1 dX8_init_113 ?_
  refine gw_iload hk.1.1 0 rfl dX8_init_114 ?_
  refine gw_iadd hk.1.1 dX8_init_116 ?_
  refine gw_bipush hk.1.1 (v := 97) rfl dX8_init_117 ?_
  refine gw_isub hk.1.1 dX8_init_119 ?_
  refine gw_iconst hk.1.1 (v := 1) rfl dX8_init_120 ?_
  refine gw_iadd hk.1.1 dX8_init_121 ?_
  refine gw_top (y := 394922) (by decide) ?_
  refine gw_istore_n hk.1.1 rfl (lv' := [(2, mI 394922), (5, mI 116), (4, mI 21), (3, mI 3), (1, mI 4), (0, .ref (kB K + 2))]) (Nat.le_of_ble_eq_true rfl) rfl dX8_init_122 ?_
  refine gw_iinc hk.1.1 (lv' := [(3, mI 4), (2, mI 394922), (5, mI 116), (4, mI 21), (1, mI 4), (0, .ref (kB K + 2))]) 3 rfl (Nat.le_of_ble_eq_true rfl) rfl dX8_init_123 ?_
  refine gw_iinc hk.1.1 (lv' := [(4, mI 22), (3, mI 4), (2, mI 394922), (5, mI 116), (1, mI 4), (0, .ref (kB K + 2))]) 3 rfl (Nat.le_of_ble_eq_true rfl) rfl dX8_init_126 ?_
  refine gw_goto hk.1.1 dX8_init_129 ?_
  refine gw_iload hk.1.1 0 rfl dX8_init_57 ?_
  refine gc_ldcS hk dX8_init_59 ?_
  refine gc_jcall hk (st := [mI 22]) mf_J0_length_8abf5 (inT1 42 rfl rfl) (inT1 43 rfl rfl) (inT1 44 rfl rfl) (by decide) rfl (Nat.le_of_ble_eq_true rfl) rfl dX8_init_61 (met_len _) (by decide) (by decide) ?_
  refine gw_icmp_ge hk.1.1 (cIk rfl) (cIk rfl) dX8_init_64 (fun q => absurd q (by decide)) (fun _ => ?_)
  refine gw_iload_n hk.1.1 4 rfl dX8_init_67 ?_
  refine gw_bipush hk.1.1 (v := 30) rfl dX8_init_68 ?_
  refine gw_icmp_ge hk.1.1 (cIk rfl) (cIk rfl) dX8_init_70 (fun q => absurd q (by decide)) (fun _ => ?_)
  refine gc_ldcS hk dX8_init_73 ?_
  refine gw_iload hk.1.1 0 rfl dX8_init_75 ?_
  refine gc_jcall hk (st := []) mf_J0_charAt_5068e (inT1 52 rfl rfl) (inT1 53 rfl rfl) (inT1 54 rfl rfl) (by decide) rfl (Nat.le_of_ble_eq_true rfl) rfl dX8_init_77 (met_cha (i := 22) (x := 101) _ (cIk rfl) (by decide) (by decide) rfl) (by decide) (by decide) ?_
  refine gw_istore hk.1.1 (lv' := [(5, mI 101), (4, mI 22), (3, mI 4), (2, mI 394922), (1, mI 4), (0, .ref (kB K + 2))]) (Nat.le_of_ble_eq_true rfl) rfl dX8_init_80 ?_
  refine gw_iload hk.1.1 0 rfl dX8_init_82 ?_
  refine gw_bipush hk.1.1 (v := 32) rfl dX8_init_84 ?_
  refine gw_icmp_ne hk.1.1 (cIk rfl) (cIk rfl) dX8_init_86 (fun _ => ?_) (fun q => absurd (by decide) q)
  refine gw_iload_n hk.1.1 3 rfl dX8_init_110 ?_
  refine gw_bipush hk.1.1 (v := 27) rfl dX8_init_111 ?_
  refine gw_imul hk.1.1 dX8_init_113 ?_
  refine gw_iload hk.1.1 0 rfl dX8_init_114 ?_
  refine gw_iadd hk.1.1 dX8_init_116 ?_
  refine gw_bipush hk.1.1 (v := 97) rfl dX8_init_117 ?_
  refine gw_isub hk.1.1 dX8_init_119 ?_
  refine gw_iconst hk.1.1 (v := 1) rfl dX8_init_120 ?_
  refine gw_iadd hk.1.1 dX8_init_121 ?_
  refine gw_top (y := 10662899) (by decide) ?_
  refine gw_istore_n hk.1.1 rfl (lv' := [(2, mI 10662899), (5, mI 101), (4, mI 22), (3, mI 4), (1, mI 4), (0, .ref (kB K + 2))]) (Nat.le_of_ble_eq_true rfl) rfl dX8_init_122 ?_
  refine gw_iinc hk.1.1 (lv' := [(3, mI 5), (2, mI 10662899), (5, mI 101), (4, mI 22), (1, mI 4), (0, .ref (kB K + 2))]) 3 rfl (Nat.le_of_ble_eq_true rfl) rfl dX8_init_123 ?_
  refine gw_iinc hk.1.1 (lv' := [(4, mI 23), (3, mI 5), (2, mI 10662899), (5, mI 101), (1, mI 4), (0, .ref (kB K + 2))]) 3 rfl (Nat.le_of_ble_eq_true rfl) rfl dX8_init_126 ?_
  refine gw_goto hk.1.1 dX8_init_129 ?_
  refine gw_iload hk.1.1 0 rfl dX8_init_57 ?_
  refine gc_ldcS hk dX8_init_59 ?_
  refine gc_jcall hk (st := [mI 23]) mf_J0_length_8abf5 (inT1 42 rfl rfl) (inT1 43 rfl rfl) (inT1 44 rfl rfl) (by decide) rfl (Nat.le_of_ble_eq_true rfl) rfl dX8_init_61 (met_len _) (by decide) (by decide) ?_
  refine gw_icmp_ge hk.1.1 (cIk rfl) (cIk rfl) dX8_init_64 (fun q => absurd q (by decide)) (fun _ => ?_)
  refine gw_iload_n hk.1.1 4 rfl dX8_init_67 ?_
  refine gw_bipush hk.1.1 (v := 30) rfl dX8_init_68 ?_
  refine gw_icmp_ge hk.1.1 (cIk rfl) (cIk rfl) dX8_init_70 (fun q => absurd q (by decide)) (fun _ => ?_)
  refine gc_ldcS hk dX8_init_73 ?_
  refine gw_iload hk.1.1 0 rfl dX8_init_75 ?_
  refine gc_jcall hk (st := []) mf_J0_charAt_5068e (inT1 52 rfl rfl) (inT1 53 rfl rfl) (inT1 54 rfl rfl) (by decide) rfl (Nat.le_of_ble_eq_true rfl) rfl dX8_init_77 (met_cha (i := 23) (x := 32) _ (cIk rfl) (by decide) (by decide) rfl) (by decide) (by decide) ?_
  refine gw_istore hk.1.1 (lv' := [(5, mI 32), (4, mI 23), (3, mI 5), (2, mI 10662899), (1, mI 4), (0, .ref (kB K + 2))]) (Nat.le_of_ble_eq_true rfl) rfl dX8_init_80 ?_
  refine gw_iload hk.1.1 0 rfl dX8_init_82 ?_
  refine gw_bipush hk.1.1 (v := 32) rfl dX8_init_84 ?_
  refine gw_icmp_ne hk.1.1 (cIk rfl) (cIk rfl) dX8_init_86 (fun q => absurd q (by decide)) (fun _ => ?_)
  refine gw_aload_n hk.1.1 5 rfl dX8_init_89 ?_
  refine gc_get2 hk.1 (k := 7) (o := 2) fgc_X8_24 rfl kdC_2 (by omega) rfl rfl dX8_init_90 ?_
  refine gw_iload_n hk.1.1 4 rfl dX8_init_93 ?_
  refine gw_iload_n hk.1.1 3 rfl dX8_init_94 ?_
  refine gw_iload_n hk.1.1 2 rfl dX8_init_95 ?_
  refine gc_padded hk (st := [mI 4, .ref (kB K + 7)]) (a := 10662899) (b := 5) (r := 287898273) (inT1 90 rfl rfl) (by decide +kernel) (cIk rfl) (cIk rfl) (by decide) (Nat.le_of_ble_eq_true rfl) (by decide) (by decide) dX8_init_96 ?_
  refine gc_iast hk.1 (a := 7) (v := 287898273) (cIk rfl) (by decide) (by decide) kdC_7 (by omega) dX8_init_99 ?_
  refine gw_iinc hk.1.1 (lv' := [(1, mI 5), (5, mI 32), (4, mI 23), (3, mI 5), (2, mI 10662899), (0, .ref (kB K + 2))]) 4 rfl (Nat.le_of_ble_eq_true rfl) rfl dX8_init_100 ?_
  refine gw_iconst hk.1.1 (v := 0) rfl dX8_init_103 ?_
  refine gw_istore_n hk.1.1 rfl (lv' := [(2, mI 0), (1, mI 5), (5, mI 32), (4, mI 23), (3, mI 5), (0, .ref (kB K + 2))]) (Nat.le_of_ble_eq_true rfl) rfl dX8_init_104 ?_
  refine gw_iconst hk.1.1 (v := 0) rfl dX8_init_105 ?_
  refine gw_istore_n hk.1.1 rfl (lv' := [(3, mI 0), (2, mI 0), (1, mI 5), (5, mI 32), (4, mI 23), (0, .ref (kB K + 2))]) (Nat.le_of_ble_eq_true rfl) rfl dX8_init_106 ?_
  refine gw_goto hk.1.1 dX8_init_107 ?_
  refine gw_iinc hk.1.1 (lv' := [(4, mI 24), (3, mI 0), (2, mI 0), (1, mI 5), (5, mI 32), (0, .ref (kB K + 2))]) 4 rfl (Nat.le_of_ble_eq_true rfl) rfl dX8_init_126 ?_
  refine gw_goto hk.1.1 dX8_init_129 ?_
  refine gw_iload hk.1.1 0 rfl dX8_init_57 ?_
  refine gc_ldcS hk dX8_init_59 ?_
  refine gc_jcall hk (st := [mI 24]) mf_J0_length_8abf5 (inT1 42 rfl rfl) (inT1 43 rfl rfl) (inT1 44 rfl rfl) (by decide) rfl (Nat.le_of_ble_eq_true rfl) rfl dX8_init_61 (met_len _) (by decide) (by decide) ?_
  refine gw_icmp_ge hk.1.1 (cIk rfl) (cIk rfl) dX8_init_64 (fun q => absurd q (by decide)) (fun _ => ?_)
  refine gw_iload_n hk.1.1 3 rfl dX8_init_67 ?_
  refine gw_bipush hk.1.1 (v := 30) rfl dX8_init_68 ?_
  refine gw_icmp_ge hk.1.1 (cIk rfl) (cIk rfl) dX8_init_70 (fun q => absurd q (by decide)) (fun _ => ?_)
  refine gc_ldcS hk dX8_init_73 ?_
  refine gw_iload hk.1.1 0 rfl dX8_init_75 ?_
  refine gc_jcall hk (st := []) mf_J0_charAt_5068e (inT1 52 rfl rfl) (inT1 53 rfl rfl) (inT1 54 rfl rfl) (by decide) rfl (Nat.le_of_ble_eq_true rfl) rfl dX8_init_77 (met_cha (i := 24) (x := 103) _ (cIk rfl) (by decide) (by decide) rfl) (by decide) (by decide) ?_
  refine gw_istore hk.1.1 (lv' := [(5, mI 103), (4, mI 24), (3, mI 0), (2, mI 0), (1, mI 5), (0, .ref (kB K + 2))]) (Nat.le_of_ble_eq_true rfl) rfl dX8_init_80 ?_
  refine gw_iload hk.1.1 0 rfl dX8_init_82 ?_
  refine gw_bipush hk.1.1 (v := 32) rfl dX8_init_84 ?_
  refine gw_icmp_ne hk.1.1 (cIk rfl) (cIk rfl) dX8_init_86 (fun _ => ?_) (fun q => absurd (by decide) q)
  refine gw_iload_n hk.1.1 3 rfl dX8_init_110 ?_
  refine gw_bipush hk.1.1 (v := 27) rfl dX8_init_111 ?_
  refine gw_imul hk.1.1 dX8_init_113 ?_
  refine gw_iload hk.1.1 0 rfl dX8_init_114 ?_
  refine gw_iadd hk.1.1 dX8_init_116 ?_
  refine gw_bipush hk.1.1 (v := 97) rfl dX8_init_117 ?_
  refine gw_isub hk.1.1 dX8_init_119 ?_
  refine gw_iconst hk.1.1 (v := 1) rfl dX8_init_120 ?_
  refine gw_iadd hk.1.1 dX8_init_121 ?_
  refine gw_top (y := 7) (by decide) ?_
  refine gw_istore_n hk.1.1 rfl (lv' := [(2, mI 7), (5, mI 103), (4, mI 24), (3, mI 0), (1, mI 5), (0, .ref (kB K + 2))]) (Nat.le_of_ble_eq_true rfl) rfl dX8_init_122 ?_
  refine gw_iinc hk.1.1 (lv' := [(3, mI 1), (2, mI 7), (5, mI 103), (4, mI 24), (1, mI 5), (0, .ref (kB K + 2))]) 3 rfl (Nat.le_of_ble_eq_true rfl) rfl dX8_init_123 ?_
  refine gw_iinc hk.1.1 (lv' := [(4, mI 25), (3, mI 1), (2, mI 7), (5, mI 103), (1, mI 5), (0, .ref (kB K + 2))]) 3 rfl (Nat.le_of_ble_eq_true rfl) rfl dX8_init_126 ?_
  refine gw_goto hk.1.1 dX8_init_129 ?_
  refine gw_iload hk.1.1 0 rfl dX8_init_57 ?_
  refine gc_ldcS hk dX8_init_59 ?_
  refine gc_jcall hk (st := [mI 25]) mf_J0_length_8abf5 (inT1 42 rfl rfl) (inT1 43 rfl rfl) (inT1 44 rfl rfl) (by decide) rfl (Nat.le_of_ble_eq_true rfl) rfl dX8_init_61 (met_len _) (by decide) (by decide) ?_
  refine gw_icmp_ge hk.1.1 (cIk rfl) (cIk rfl) dX8_init_64 (fun q => absurd q (by decide)) (fun _ => ?_)
  refine gw_iload_n hk.1.1 4 rfl dX8_init_67 ?_
  refine gw_bipush hk.1.1 (v := 30) rfl dX8_init_68 ?_
  refine gw_icmp_ge hk.1.1 (cIk rfl) (cIk rfl) dX8_init_70 (fun q => absurd q (by decide)) (fun _ => ?_)
  refine gc_ldcS hk dX8_init_73 ?_
  refine gw_iload hk.1.1 0 rfl dX8_init_75 ?_
  refine gc_jcall hk (st := []) mf_J0_charAt_5068e (inT1 52 rfl rfl) (inT1 53 rfl rfl) (inT1 54 rfl rfl) (by decide) rfl (Nat.le_of_ble_eq_true rfl) rfl dX8_init_77 (met_cha (i := 25) (x := 117) _ (cIk rfl) (by decide) (by decide) rfl) (by decide) (by decide) ?_
  refine gw_istore hk.1.1 (lv' := [(5, mI 117), (4, mI 25), (3, mI 1), (2, mI 7), (1, mI 5), (0, .ref (kB K + 2))]) (Nat.le_of_ble_eq_true rfl) rfl dX8_init_80 ?_
  refine gw_iload hk.1.1 0 rfl dX8_init_82 ?_
  refine gw_bipush hk.1.1 (v := 32) rfl dX8_init_84 ?_
  refine gw_icmp_ne hk.1.1 (cIk rfl) (cIk rfl) dX8_init_86 (fun _ => ?_) (fun q => absurd (by decide) q)
  refine gw_iload_n hk.1.1 3 rfl dX8_init_110 ?_
  refine gw_bipush hk.1.1 (v := 27) rfl dX8_init_111 ?_
  refine gw_imul hk.1.1 dX8_init_113 ?_
  refine gw_iload hk.1.1 0 rfl dX8_init_114 ?_
  refine gw_iadd hk.1.1 dX8_init_116 ?_
  refine gw_bipush hk.1.1 (v := 97) rfl dX8_init_117 ?_
  refine gw_isub hk.1.1 dX8_init_119 ?_
  refine gw_iconst hk.1.1 (v := 1) rfl dX8_init_120 ?_
  refine gw_iadd hk.1.1 dX8_init_121 ?_
  refine gw_top (y := 210) (by decide) ?_
  refine gw_istore_n hk.1.1 rfl (lv' := [(2, mI 210), (5, mI 117), (4, mI 25), (3, mI 1), (1, mI 5), (0, .ref (kB K + 2))]) (Nat.le_of_ble_eq_true rfl) rfl dX8_init_122 ?_
  refine gw_iinc hk.1.1 (lv' := [(3, mI 2), (2, mI 210), (5, mI 117), (4, mI 25), (1, mI 5), (0, .ref (kB K + 2))]) 3 rfl (Nat.le_of_ble_eq_true rfl) rfl dX8_init_123 ?_
  refine gw_iinc hk.1.1 (lv' := [(4, mI 26), (3, mI 2), (2, mI 210), (5, mI 117), (1, mI 5), (0, .ref (kB K + 2))]) 3 rfl (Nat.le_of_ble_eq_true rfl) rfl dX8_init_126 ?_
  refine gw_goto hk.1.1 dX8_init_129 ?_
  refine gw_iload hk.1.1 0 rfl dX8_init_57 ?_
  refine gc_ldcS hk dX8_init_59 ?_
  refine gc_jcall hk (st := [mI 26]) mf_J0_length_8abf5 (inT1 42 rfl rfl) (inT1 43 rfl rfl) (inT1 44 rfl rfl) (by decide) rfl (Nat.le_of_ble_eq_true rfl) rfl dX8_init_61 (met_len _) (by decide) (by decide) ?_
  refine gw_icmp_ge hk.1.1 (cIk rfl) (cIk rfl) dX8_init_64 (fun q => absurd q (by decide)) (fun _ => ?_)
  refine gw_iload_n hk.1.1 4 rfl dX8_init_67 ?_
  refine gw_bipush hk.1.1 (v := 30) rfl dX8_init_68 ?_
  refine gw_icmp_ge hk.1.1 (cIk rfl) (cIk rfl) dX8_init_70 (fun q => absurd q (by decide)) (fun _ => ?_)
  refine gc_ldcS hk dX8_init_73 ?_
  refine gw_iload hk.1.1 0 rfl dX8_init_75 ?_
  refine gc_jcall hk (st := []) mf_J0_charAt_5068e (inT1 52 rfl rfl) (inT1 53 rfl rfl) (inT1 54 rfl rfl) (by decide) rfl (Nat.le_of_ble_eq_true rfl) rfl dX8_init_77 (met_cha (i := 26) (x := 101) _ (cIk rfl) (by decide) (by decide) rfl) (by decide) (by decide) ?_
  refine gw_istore hk.1.1 (lv' := [(5, mI 101), (4, mI 26), (3, mI 2), (2, mI 210), (1, mI 5), (0, .ref (kB K + 2))]) (Nat.le_of_ble_eq_true rfl) rfl dX8_init_80 ?_
  refine gw_iload hk.1.1 0 rfl dX8_init_82 ?_
  refine gw_bipush hk.1.1 (v := 32) rfl dX8_init_84 ?_
  refine gw_icmp_ne hk.1.1 (cIk rfl) (cIk rfl) dX8_init_86 (fun _ => ?_) (fun q => absurd (by decide) q)
  refine gw_iload_n hk.1.1 3 rfl dX8_init_110 ?_
  refine gw_bipush hk.1.1 (v := 27) rfl dX8_init_111 ?_
  refine gw_imul hk.1.1 dX8_init_113 ?_
  refine gw_iload hk.1.1 0 rfl dX8_init_114 ?_
  refine gw_iadd hk.1.1 dX8_init_116 ?_
  refine gw_bipush hk.1.1 (v := 97) rfl dX8_init_117 ?_
  refine gw_isub hk.1.1 dX8_init_119 ?_
  refine gw_iconst hk.1.1 (v := 1) rfl dX8_init_120 ?_
  refine gw_iadd hk.1.1 dX8_init_121 ?_
  refine gw_top (y := 5675) (by decide) ?_
  refine gw_istore_n hk.1.1 rfl (lv' := [(2, mI 5675), (5, mI 101), (4, mI 26), (3, mI 2), (1, mI 5), (0, .ref (kB K + 2))]) (Nat.le_of_ble_eq_true rfl) rfl dX8_init_122 ?_
  refine gw_iinc hk.1.1 (lv' := [(3, mI 3), (2, mI 5675), (5, mI 101), (4, mI 26), (1, mI 5), (0, .ref (kB K + 2))]) 3 rfl (Nat.le_of_ble_eq_true rfl) rfl dX8_init_123 ?_
  refine gw_iinc hk.1.1 (lv' := [(4, mI 27), (3, mI 3), (2, mI 5675), (5, mI 101), (1, mI 5), (0, .ref (kB K + 2))]) 3 rfl (Nat.le_of_ble_eq_true rfl) rfl dX8_init_126 ?_
  refine gw_goto hk.1.1 dX8_init_129 ?_
  refine gw_iload hk.1.1 0 rfl dX8_init_57 ?_
  refine gc_ldcS hk dX8_init_59 ?_
  refine gc_jcall hk (st := [mI 27]) mf_J0_length_8abf5 (inT1 42 rfl rfl) (inT1 43 rfl rfl) (inT1 44 rfl rfl) (by decide) rfl (Nat.le_of_ble_eq_true rfl) rfl dX8_init_61 (met_len _) (by decide) (by decide) ?_
  refine gw_icmp_ge hk.1.1 (cIk rfl) (cIk rfl) dX8_init_64 (fun q => absurd q (by decide)) (fun _ => ?_)
  refine gw_iload_n hk.1.1 4 rfl dX8_init_67 ?_
  refine gw_bipush hk.1.1 (v := 30) rfl dX8_init_68 ?_
  refine gw_icmp_ge hk.1.1 (cIk rfl) (cIk rfl) dX8_init_70 (fun q => absurd q (by decide)) (fun _ => ?_)
  refine gc_ldcS hk dX8_init_73 ?_
  refine gw_iload hk.1.1 0 rfl dX8_init_75 ?_
  refine gc_jcall hk (st := []) mf_J0_charAt_5068e (inT1 52 rfl rfl) (inT1 53 rfl rfl) (inT1 54 rfl rfl) (by decide) rfl (Nat.le_of_ble_eq_true rfl) rfl dX8_init_77 (met_cha (i := 27) (x := 115) _ (cIk rfl) (by decide) (by decide) rfl) (by decide) (by decide) ?_
  refine gw_istore hk.1.1 (lv' := [(5, mI 115), (4, mI 27), (3, mI 3), (2, mI 5675), (1, mI 5), (0, .ref (kB K + 2))]) (Nat.le_of_ble_eq_true rfl) rfl dX8_init_80 ?_
  refine gw_iload hk.1.1 0 rfl dX8_init_82 ?_
  refine gw_bipush hk.1.1 (v := 32) rfl dX8_init_84 ?_
  refine gw_icmp_ne hk.1.1 (cIk rfl) (cIk rfl) dX8_init_86 (fun _ => ?_) (fun q => absurd (by decide) q)
  refine gw_iload_n hk.1.1 3 rfl dX8_init_110 ?_
  refine gw_bipush hk.1.1 (v := 27) rfl dX8_init_111 ?_
  refine gw_imul hk.1.1 dX8_init_113 ?_
  refine gw_iload hk.1.1 0 rfl dX8_init_114 ?_
  refine gw_iadd hk.1.1 dX8_init_116 ?_
  refine gw_bipush hk.1.1 (v := 97) rfl dX8_init_117 ?_
  refine gw_isub hk.1.1 dX8_init_119 ?_
  refine gw_iconst hk.1.1 (v := 1) rfl dX8_init_120 ?_
  refine gw_iadd hk.1.1 dX8_init_121 ?_
  refine gw_top (y := 153244) (by decide) ?_
  refine gw_istore_n hk.1.1 rfl (lv' := [(2, mI 153244), (5, mI 115), (4, mI 27), (3, mI 3), (1, mI 5), (0, .ref (kB K + 2))]) (Nat.le_of_ble_eq_true rfl) rfl dX8_init_122 ?_
  refine gw_iinc hk.1.1 (lv' := [(3, mI 4), (2, mI 153244), (5, mI 115), (4, mI 27), (1, mI 5), (0, .ref (kB K + 2))]) 3 rfl (Nat.le_of_ble_eq_true rfl) rfl dX8_init_123 ?_
  refine gw_iinc hk.1.1 (lv' := [(4, mI 28), (3, mI 4), (2, mI 153244), (5, mI 115), (1, mI 5), (0, .ref (kB K + 2))]) 3 rfl (Nat.le_of_ble_eq_true rfl) rfl dX8_init_126 ?_
  refine gw_goto hk.1.1 dX8_init_129 ?_
  refine gw_iload hk.1.1 0 rfl dX8_init_57 ?_
  refine gc_ldcS hk dX8_init_59 ?_
  refine gc_jcall hk (st := [mI 28]) mf_J0_length_8abf5 (inT1 42 rfl rfl) (inT1 43 rfl rfl) (inT1 44 rfl rfl) (by decide) rfl (Nat.le_of_ble_eq_true rfl) rfl dX8_init_61 (met_len _) (by decide) (by decide) ?_
  refine gw_icmp_ge hk.1.1 (cIk rfl) (cIk rfl) dX8_init_64 (fun q => absurd q (by decide)) (fun _ => ?_)
  refine gw_iload_n hk.1.1 4 rfl dX8_init_67 ?_
  refine gw_bipush hk.1.1 (v := 30) rfl dX8_init_68 ?_
  refine gw_icmp_ge hk.1.1 (cIk rfl) (cIk rfl) dX8_init_70 (fun q => absurd q (by decide)) (fun _ => ?_)
  refine gc_ldcS hk dX8_init_73 ?_
  refine gw_iload hk.1.1 0 rfl dX8_init_75 ?_
  refine gc_jcall hk (st := []) mf_J0_charAt_5068e (inT1 52 rfl rfl) (inT1 53 rfl rfl) (inT1 54 rfl rfl) (by decide) rfl (Nat.le_of_ble_eq_true rfl) rfl dX8_init_77 (met_cha (i := 28) (x := 116) _ (cIk rfl) (by decide) (by decide) rfl) (by decide) (by decide) ?_
  refine gw_istore hk.1.1 (lv' := [(5, mI 116), (4, mI 28), (3, mI 4), (2, mI 153244), (1, mI 5), (0, .ref (kB K + 2))]) (Nat.le_of_ble_eq_true rfl) rfl dX8_init_80 ?_
  refine gw_iload hk.1.1 0 rfl dX8_init_82 ?_
  refine gw_bipush hk.1.1 (v := 32) rfl dX8_init_84 ?_
  refine gw_icmp_ne hk.1.1 (cIk rfl) (cIk rfl) dX8_init_86 (fun _ => ?_) (fun q => absurd (by decide) q)
  refine gw_iload_n hk.1.1 3 rfl dX8_init_110 ?_
  refine gw_bipush hk.1.1 (v := 27) rfl dX8_init_111 ?_
  refine gw_imul hk.1.1 dX8_init_113 ?_
  refine gw_iload hk.1.1 0 rfl dX8_init_114 ?_
  refine gw_iadd hk.1.1 dX8_init_116 ?_
  refine gw_bipush hk.1.1 (v := 97) rfl dX8_init_117 ?_
  refine gw_isub hk.1.1 dX8_init_119 ?_
  refine gw_iconst hk.1.1 (v := 1) rfl dX8_init_120 ?_
  refine gw_iadd hk.1.1 dX8_init_121 ?_
  refine gw_top (y := 4137608) (by decide) ?_
  refine gw_istore_n hk.1.1 rfl (lv' := [(2, mI 4137608), (5, mI 116), (4, mI 28), (3, mI 4), (1, mI 5), (0, .ref (kB K + 2))]) (Nat.le_of_ble_eq_true rfl) rfl dX8_init_122 ?_
  refine gw_iinc hk.1.1 (lv' := [(3, mI 5), (2, mI 4137608), (5, mI 116), (4, mI 28), (1, mI 5), (0, .ref (kB K + 2))]) 3 rfl (Nat.le_of_ble_eq_true rfl) rfl dX8_init_123 ?_
  refine gw_iinc hk.1.1 (lv' := [(4, mI 29), (3, mI 5), (2, mI 4137608), (5, mI 116), (1, mI 5), (0, .ref (kB K + 2))]) 3 rfl (Nat.le_of_ble_eq_true rfl) rfl dX8_init_126 ?_
  refine gw_goto hk.1.1 dX8_init_129 ?_
  refine gw_iload hk.1.1 0 rfl dX8_init_57 ?_
  refine gc_ldcS hk dX8_init_59 ?_
  refine gc_jcall hk (st := [mI 29]) mf_J0_length_8abf5 (inT1 42 rfl rfl) (inT1 43 rfl rfl) (inT1 44 rfl rfl) (by decide) rfl (Nat.le_of_ble_eq_true rfl) rfl dX8_init_61 (met_len _) (by decide) (by decide) ?_
  refine gw_icmp_ge hk.1.1 (cIk rfl) (cIk rfl) dX8_init_64 (fun q => absurd q (by decide)) (fun _ => ?_)
  refine gw_iload_n hk.1.1 4 rfl dX8_init_67 ?_
  refine gw_bipush hk.1.1 (v := 30) rfl dX8_init_68 ?_
  refine gw_icmp_ge hk.1.1 (cIk rfl) (cIk rfl) dX8_init_70 (fun q => absurd q (by decide)) (fun _ => ?_)
  refine gc_ldcS hk dX8_init_73 ?_
  refine gw_iload hk.1.1 0 rfl dX8_init_75 ?_
  refine gc_jcall hk (st := []) mf_J0_charAt_5068e (inT1 52 rfl rfl) (inT1 53 rfl rfl) (inT1 54 rfl rfl) (by decide) rfl (Nat.le_of_ble_eq_true rfl) rfl dX8_init_77 (met_cha (i := 29) (x := 32) _ (cIk rfl) (by decide) (by decide) rfl) (by decide) (by decide) ?_
  refine gw_istore hk.1.1 (lv' := [(5, mI 32), (4, mI 29), (3, mI 5), (2, mI 4137608), (1, mI 5), (0, .ref (kB K + 2))]) (Nat.le_of_ble_eq_true rfl) rfl dX8_init_80 ?_
  refine gw_iload hk.1.1 0 rfl dX8_init_82 ?_
  refine gw_bipush hk.1.1 (v := 32) rfl dX8_init_84 ?_
  refine gw_icmp_ne hk.1.1 (cIk rfl) (cIk rfl) dX8_init_86 (fun q => absurd q (by decide)) (fun _ => ?_)
  refine gw_aload_n hk.1.1 5 rfl dX8_init_89 ?_
  refine gc_get2 hk.1 (k := 7) (o := 2) fgc_X8_24 rfl kdC_2 (by omega) rfl rfl dX8_init_90 ?_
  refine gw_iload_n hk.1.1 4 rfl dX8_init_93 ?_
  refine gw_iload_n hk.1.1 3 rfl dX8_init_94 ?_
  refine gw_iload_n hk.1.1 2 rfl dX8_init_95 ?_
  refine gc_padded hk (st := [mI 5, .ref (kB K + 7)]) (a := 4137608) (b := 5) (r := 111715416) (inT1 90 rfl rfl) (by decide +kernel) (cIk rfl) (cIk rfl) (by decide) (Nat.le_of_ble_eq_true rfl) (by decide) (by decide) dX8_init_96 ?_
  refine gc_iast hk.1 (a := 7) (v := 111715416) (cIk rfl) (by decide) (by decide) kdC_7 (by omega) dX8_init_99 ?_
  refine gw_iinc hk.1.1 (lv' := [(1, mI 6), (5, mI 32), (4, mI 29), (3, mI 5), (2, mI 4137608), (0, .ref (kB K + 2))]) 4 rfl (Nat.le_of_ble_eq_true rfl) rfl dX8_init_100 ?_
  refine gw_iconst hk.1.1 (v := 0) rfl dX8_init_103 ?_
  refine gw_istore_n hk.1.1 rfl (lv' := [(2, mI 0), (1, mI 6), (5, mI 32), (4, mI 29), (3, mI 5), (0, .ref (kB K + 2))]) (Nat.le_of_ble_eq_true rfl) rfl dX8_init_104 ?_
  refine gw_iconst hk.1.1 (v := 0) rfl dX8_init_105 ?_
  refine gw_istore_n hk.1.1 rfl (lv' := [(3, mI 0), (2, mI 0), (1, mI 6), (5, mI 32), (4, mI 29), (0, .ref (kB K + 2))]) (Nat.le_of_ble_eq_true rfl) rfl dX8_init_106 ?_
  refine gw_goto hk.1.1 dX8_init_107 ?_
  refine gw_iinc hk.1.1 (lv' := [(4, mI 30), (3, mI 0), (2, mI 0), (1, mI 6), (5, mI 32), (0, .ref (kB K + 2))]) 4 rfl (Nat.le_of_ble_eq_true rfl) rfl dX8_init_126 ?_
  refine gw_goto hk.1.1 dX8_init_129 ?_
  refine gw_iload hk.1.1 0 rfl dX8_init_57 ?_
  refine gc_ldcS hk dX8_init_59 ?_
  refine gc_jcall hk (st := [mI 30]) mf_J0_length_8abf5 (inT1 42 rfl rfl) (inT1 43 rfl rfl) (inT1 44 rfl rfl) (by decide) rfl (Nat.le_of_ble_eq_true rfl) rfl dX8_init_61 (met_len _) (by decide) (by decide) ?_
  refine gw_icmp_ge hk.1.1 (cIk rfl) (cIk rfl) dX8_init_64 (fun q => absurd q (by decide)) (fun _ => ?_)
  refine gw_iload_n hk.1.1 3 rfl dX8_init_67 ?_
  refine gw_bipush hk.1.1 (v := 30) rfl dX8_init_68 ?_
  refine gw_icmp_ge hk.1.1 (cIk rfl) (cIk rfl) dX8_init_70 (fun q => absurd q (by decide)) (fun _ => ?_)
  refine gc_ldcS hk dX8_init_73 ?_
  refine gw_iload hk.1.1 0 rfl dX8_init_75 ?_
  refine gc_jcall hk (st := []) mf_J0_charAt_5068e (inT1 52 rfl rfl) (inT1 53 rfl rfl) (inT1 54 rfl rfl) (by decide) rfl (Nat.le_of_ble_eq_true rfl) rfl dX8_init_77 (met_cha (i := 30) (x := 99) _ (cIk rfl) (by decide) (by decide) rfl) (by decide) (by decide) ?_
  refine gw_istore hk.1.1 (lv' := [(5, mI 99), (4, mI 30), (3, mI 0), (2, mI 0), (1, mI 6), (0, .ref (kB K + 2))]) (Nat.le_of_ble_eq_true rfl) rfl dX8_init_80 ?_
  refine gw_iload hk.1.1 0 rfl dX8_init_82 ?_
  refine gw_bipush hk.1.1 (v := 32) rfl dX8_init_84 ?_
  refine gw_icmp_ne hk.1.1 (cIk rfl) (cIk rfl) dX8_init_86 (fun _ => ?_) (fun q => absurd (by decide) q)
  refine gw_iload_n hk.1.1 3 rfl dX8_init_110 ?_
  refine gw_bipush hk.1.1 (v := 27) rfl dX8_init_111 ?_
  refine gw_imul hk.1.1 dX8_init_113 ?_
  refine gw_iload hk.1.1 0 rfl dX8_init_114 ?_
  refine gw_iadd hk.1.1 dX8_init_116 ?_
  refine gw_bipush hk.1.1 (v := 97) rfl dX8_init_117 ?_
  refine gw_isub hk.1.1 dX8_init_119 ?_
  refine gw_iconst hk.1.1 (v := 1) rfl dX8_init_120 ?_
  refine gw_iadd hk.1.1 dX8_init_121 ?_
  refine gw_top (y := 3) (by decide) ?_
  refine gw_istore_n hk.1.1 rfl (lv' := [(2, mI 3), (5, mI 99), (4, mI 30), (3, mI 0), (1, mI 6), (0, .ref (kB K + 2))]) (Nat.le_of_ble_eq_true rfl) rfl dX8_init_122 ?_
  refine gw_iinc hk.1.1 (lv' := [(3, mI 1), (2, mI 3), (5, mI 99), (4, mI 30), (1, mI 6), (0, .ref (kB K + 2))]) 3 rfl (Nat.le_of_ble_eq_true rfl) rfl dX8_init_123 ?_
  refine gw_iinc hk.1.1 (lv' := [(4, mI 31), (3, mI 1), (2, mI 3), (5, mI 99), (1, mI 6), (0, .ref (kB K + 2))]) 3 rfl (Nat.le_of_ble_eq_true rfl) rfl dX8_init_126 ?_
  refine gw_goto hk.1.1 dX8_init_129 ?_
  refine gw_iload hk.1.1 0 rfl dX8_init_57 ?_
  refine gc_ldcS hk dX8_init_59 ?_
  refine gc_jcall hk (st := [mI 31]) mf_J0_length_8abf5 (inT1 42 rfl rfl) (inT1 43 rfl rfl) (inT1 44 rfl rfl) (by decide) rfl (Nat.le_of_ble_eq_true rfl) rfl dX8_init_61 (met_len _) (by decide) (by decide) ?_
  refine gw_icmp_ge hk.1.1 (cIk rfl) (cIk rfl) dX8_init_64 (fun q => absurd q (by decide)) (fun _ => ?_)
  refine gw_iload_n hk.1.1 4 rfl dX8_init_67 ?_
  refine gw_bipush hk.1.1 (v := 30) rfl dX8_init_68 ?_
  refine gw_icmp_ge hk.1.1 (cIk rfl) (cIk rfl) dX8_init_70 (fun q => absurd q (by decide)) (fun _ => ?_)
  refine gc_ldcS hk dX8_init_73 ?_
  refine gw_iload hk.1.1 0 rfl dX8_init_75 ?_
  refine gc_jcall hk (st := []) mf_J0_charAt_5068e (inT1 52 rfl rfl) (inT1 53 rfl rfl) (inT1 54 rfl rfl) (by decide) rfl (Nat.le_of_ble_eq_true rfl) rfl dX8_init_77 (met_cha (i := 31) (x := 111) _ (cIk rfl) (by decide) (by decide) rfl) (by decide) (by decide) ?_
  refine gw_istore hk.1.1 (lv' := [(5, mI 111), (4, mI 31), (3, mI 1), (2, mI 3), (1, mI 6), (0, .ref (kB K + 2))]) (Nat.le_of_ble_eq_true rfl) rfl dX8_init_80 ?_
  refine gw_iload hk.1.1 0 rfl dX8_init_82 ?_
  refine gw_bipush hk.1.1 (v := 32) rfl dX8_init_84 ?_
  refine gw_icmp_ne hk.1.1 (cIk rfl) (cIk rfl) dX8_init_86 (fun _ => ?_) (fun q => absurd (by decide) q)
  refine gw_iload_n hk.1.1 3 rfl dX8_init_110 ?_
  refine gw_bipush hk.1.1 (v := 27) rfl dX8_init_111 ?_
  refine gw_imul hk.1.1 dX8_init_113 ?_
  refine gw_iload hk.1.1 0 rfl dX8_init_114 ?_
  refine gw_iadd hk.1.1 dX8_init_116 ?_
  refine gw_bipush hk.1.1 (v := 97) rfl dX8_init_117 ?_
  refine gw_isub hk.1.1 dX8_init_119 ?_
  refine gw_iconst hk.1.1 (v := 1) rfl dX8_init_120 ?_
  refine gw_iadd hk.1.1 dX8_init_121 ?_
  refine gw_top (y := 96) (by decide) ?_
  refine gw_istore_n hk.1.1 rfl (lv' := [(2, mI 96), (5, mI 111), (4, mI 31), (3, mI 1), (1, mI 6), (0, .ref (kB K + 2))]) (Nat.le_of_ble_eq_true rfl) rfl dX8_init_122 ?_
  refine gw_iinc hk.1.1 (lv' := [(3, mI 2), (2, mI 96), (5, mI 111), (4, mI 31), (1, mI 6), (0, .ref (kB K + 2))]) 3 rfl (Nat.le_of_ble_eq_true rfl) rfl dX8_init_123 ?_
  refine gw_iinc hk.1.1 (lv' := [(4, mI 32), (3, mI 2), (2, mI 96), (5, mI 111), (1, mI 6), (0, .ref (kB K + 2))]) 3 rfl (Nat.le_of_ble_eq_true rfl) rfl dX8_init_126 ?_
  refine gw_goto hk.1.1 dX8_init_129 ?_
  refine gw_iload hk.1.1 0 rfl dX8_init_57 ?_
  refine gc_ldcS hk dX8_init_59 ?_
  refine gc_jcall hk (st := [mI 32]) mf_J0_length_8abf5 (inT1 42 rfl rfl) (inT1 43 rfl rfl) (inT1 44 rfl rfl) (by decide) rfl (Nat.le_of_ble_eq_true rfl) rfl dX8_init_61 (met_len _) (by decide) (by decide) ?_
  refine gw_icmp_ge hk.1.1 (cIk rfl) (cIk rfl) dX8_init_64 (fun q => absurd q (by decide)) (fun _ => ?_)
  refine gw_iload_n hk.1.1 4 rfl dX8_init_67 ?_
  refine gw_bipush hk.1.1 (v := 30) rfl dX8_init_68 ?_
  refine gw_icmp_ge hk.1.1 (cIk rfl) (cIk rfl) dX8_init_70 (fun q => absurd q (by decide)) (fun _ => ?_)
  refine gc_ldcS hk dX8_init_73 ?_
  refine gw_iload hk.1.1 0 rfl dX8_init_75 ?_
  refine gc_jcall hk (st := []) mf_J0_charAt_5068e (inT1 52 rfl rfl) (inT1 53 rfl rfl) (inT1 54 rfl rfl) (by decide) rfl (Nat.le_of_ble_eq_true rfl) rfl dX8_init_77 (met_cha (i := 32) (x := 109) _ (cIk rfl) (by decide) (by decide) rfl) (by decide) (by decide) ?_
  refine gw_istore hk.1.1 (lv' := [(5, mI 109), (4, mI 32), (3, mI 2), (2, mI 96), (1, mI 6), (0, .ref (kB K + 2))]) (Nat.le_of_ble_eq_true rfl) rfl dX8_init_80 ?_
  refine gw_iload hk.1.1 0 rfl dX8_init_82 ?_
  refine gw_bipush hk.1.1 (v := 32) rfl dX8_init_84 ?_
  refine gw_icmp_ne hk.1.1 (cIk rfl) (cIk rfl) dX8_init_86 (fun _ => ?_) (fun q => absurd (by decide) q)
  refine gw_iload_n hk.1.1 3 rfl dX8_init_110 ?_
  refine gw_bipush hk.1.1 (v := 27) rfl dX8_init_111 ?_
  refine gw_imul hk.1.1 dX8_init_113 ?_
  refine gw_iload hk.1.1 0 rfl dX8_init_114 ?_
  refine gw_iadd hk.1.1 dX8_init_116 ?_
  refine gw_bipush hk.1.1 (v := 97) rfl dX8_init_117 ?_
  refine gw_isub hk.1.1 dX8_init_119 ?_
  refine gw_iconst hk.1.1 (v := 1) rfl dX8_init_120 ?_
  refine gw_iadd hk.1.1 dX8_init_121 ?_
  refine gw_top (y := 2605) (by decide) ?_
  refine gw_istore_n hk.1.1 rfl (lv' := [(2, mI 2605), (5, mI 109), (4, mI 32), (3, mI 2), (1, mI 6), (0, .ref (kB K + 2))]) (Nat.le_of_ble_eq_true rfl) rfl dX8_init_122 ?_
  refine gw_iinc hk.1.1 (lv' := [(3, mI 3), (2, mI 2605), (5, mI 109), (4, mI 32), (1, mI 6), (0, .ref (kB K + 2))]) 3 rfl (Nat.le_of_ble_eq_true rfl) rfl dX8_init_123 ?_
  refine gw_iinc hk.1.1 (lv' := [(4, mI 33), (3, mI 3), (2, mI 2605), (5, mI 109), (1, mI 6), (0, .ref (kB K + 2))]) 3 rfl (Nat.le_of_ble_eq_true rfl) rfl dX8_init_126 ?_
  refine gw_goto hk.1.1 dX8_init_129 ?_
  refine gw_iload hk.1.1 0 rfl dX8_init_57 ?_
  refine gc_ldcS hk dX8_init_59 ?_
  refine gc_jcall hk (st := [mI 33]) mf_J0_length_8abf5 (inT1 42 rfl rfl) (inT1 43 rfl rfl) (inT1 44 rfl rfl) (by decide) rfl (Nat.le_of_ble_eq_true rfl) rfl dX8_init_61 (met_len _) (by decide) (by decide) ?_
  refine gw_icmp_ge hk.1.1 (cIk rfl) (cIk rfl) dX8_init_64 (fun q => absurd q (by decide)) (fun _ => ?_)
  refine gw_iload_n hk.1.1 4 rfl dX8_init_67 ?_
  refine gw_bipush hk.1.1 (v := 30) rfl dX8_init_68 ?_
  refine gw_icmp_ge hk.1.1 (cIk rfl) (cIk rfl) dX8_init_70 (fun q => absurd q (by decide)) (fun _ => ?_)
  refine gc_ldcS hk dX8_init_73 ?_
  refine gw_iload hk.1.1 0 rfl dX8_init_75 ?_
  refine gc_jcall hk (st := []) mf_J0_charAt_5068e (inT1 52 rfl rfl) (inT1 53 rfl rfl) (inT1 54 rfl rfl) (by decide) rfl (Nat.le_of_ble_eq_true rfl) rfl dX8_init_77 (met_cha (i := 33) (x := 101) _ (cIk rfl) (by decide) (by decide) rfl) (by decide) (by decide) ?_
  refine gw_istore hk.1.1 (lv' := [(5, mI 101), (4, mI 33), (3, mI 3), (2, mI 2605), (1, mI 6), (0, .ref (kB K + 2))]) (Nat.le_of_ble_eq_true rfl) rfl dX8_init_80 ?_
  refine gw_iload hk.1.1 0 rfl dX8_init_82 ?_
  refine gw_bipush hk.1.1 (v := 32) rfl dX8_init_84 ?_
  refine gw_icmp_ne hk.1.1 (cIk rfl) (cIk rfl) dX8_init_86 (fun _ => ?_) (fun q => absurd (by decide) q)
  refine gw_iload_n hk.1.1 3 rfl dX8_init_110 ?_
  refine gw_bipush hk.1.1 (v := 27) rfl dX8_init_111 ?_
  refine gw_imul hk.1.1 dX8_init_113 ?_
  refine gw_iload hk.1.1 0 rfl dX8_init_114 ?_
  refine gw_iadd hk.1.1 dX8_init_116 ?_
  refine gw_bipush hk.1.1 (v := 97) rfl dX8_init_117 ?_
  refine gw_isub hk.1.1 dX8_init_119 ?_
  refine gw_iconst hk.1.1 (v := 1) rfl dX8_init_120 ?_
  refine gw_iadd hk.1.1 dX8_init_121 ?_
  refine gw_top (y := 70340) (by decide) ?_
  refine gw_istore_n hk.1.1 rfl (lv' := [(2, mI 70340), (5, mI 101), (4, mI 33), (3, mI 3), (1, mI 6), (0, .ref (kB K + 2))]) (Nat.le_of_ble_eq_true rfl) rfl dX8_init_122 ?_
  refine gw_iinc hk.1.1 (lv' := [(3, mI 4), (2, mI 70340), (5, mI 101), (4, mI 33), (1, mI 6), (0, .ref (kB K + 2))]) 3 rfl (Nat.le_of_ble_eq_true rfl) rfl dX8_init_123 ?_
  refine gw_iinc hk.1.1 (lv' := [(4, mI 34), (3, mI 4), (2, mI 70340), (5, mI 101), (1, mI 6), (0, .ref (kB K + 2))]) 3 rfl (Nat.le_of_ble_eq_true rfl) rfl dX8_init_126 ?_
  refine gw_goto hk.1.1 dX8_init_129 ?_
  refine gw_iload hk.1.1 0 rfl dX8_init_57 ?_
  refine gc_ldcS hk dX8_init_59 ?_
  refine gc_jcall hk (st := [mI 34]) mf_J0_length_8abf5 (inT1 42 rfl rfl) (inT1 43 rfl rfl) (inT1 44 rfl rfl) (by decide) rfl (Nat.le_of_ble_eq_true rfl) rfl dX8_init_61 (met_len _) (by decide) (by decide) ?_
  refine gw_icmp_ge hk.1.1 (cIk rfl) (cIk rfl) dX8_init_64 (fun q => absurd q (by decide)) (fun _ => ?_)
  refine gw_iload_n hk.1.1 4 rfl dX8_init_67 ?_
  refine gw_bipush hk.1.1 (v := 30) rfl dX8_init_68 ?_
  refine gw_icmp_ge hk.1.1 (cIk rfl) (cIk rfl) dX8_init_70 (fun q => absurd q (by decide)) (fun _ => ?_)
  refine gc_ldcS hk dX8_init_73 ?_
  refine gw_iload hk.1.1 0 rfl dX8_init_75 ?_
  refine gc_jcall hk (st := []) mf_J0_charAt_5068e (inT1 52 rfl rfl) (inT1 53 rfl rfl) (inT1 54 rfl rfl) (by decide) rfl (Nat.le_of_ble_eq_true rfl) rfl dX8_init_77 (met_cha (i := 34) (x := 115) _ (cIk rfl) (by decide) (by decide) rfl) (by decide) (by decide) ?_
  refine gw_istore hk.1.1 (lv' := [(5, mI 115), (4, mI 34), (3, mI 4), (2, mI 70340), (1, mI 6), (0, .ref (kB K + 2))]) (Nat.le_of_ble_eq_true rfl) rfl dX8_init_80 ?_
  refine gw_iload hk.1.1 0 rfl dX8_init_82 ?_
  refine gw_bipush hk.1.1 (v := 32) rfl dX8_init_84 ?_
  refine gw_icmp_ne hk.1.1 (cIk rfl) (cIk rfl) dX8_init_86 (fun _ => ?_) (fun q => absurd (by decide) q)
  refine gw_iload_n hk.1.1 3 rfl dX8_init_110 ?_
  refine gw_bipush hk.1.1 (v := 27) rfl dX8_init_111 ?_
  refine gw_imul hk.1.1 dX8_init_113 ?_
  refine gw_iload hk.1.1 0 rfl dX8_init_114 ?_
  refine gw_iadd hk.1.1 dX8_init_116 ?_
  refine gw_bipush hk.1.1 (v := 97) rfl dX8_init_117 ?_
  refine gw_isub hk.1.1 dX8_init_119 ?_
  refine gw_iconst hk.1.1 (v := 1) rfl dX8_init_120 ?_
  refine gw_iadd hk.1.1 dX8_init_121 ?_
  refine gw_top (y := 1899199) (by decide) ?_
  refine gw_istore_n hk.1.1 rfl (lv' := [(2, mI 1899199), (5, mI 115), (4, mI 34), (3, mI 4), (1, mI 6), (0, .ref (kB K + 2))]) (Nat.le_of_ble_eq_true rfl) rfl dX8_init_122 ?_
  refine gw_iinc hk.1.1 (lv' := [(3, mI 5), (2, mI 1899199), (5, mI 115), (4, mI 34), (1, mI 6), (0, .ref (kB K + 2))]) 3 rfl (Nat.le_of_ble_eq_true rfl) rfl dX8_init_123 ?_
  refine gw_iinc hk.1.1 (lv' := [(4, mI 35), (3, mI 5), (2, mI 1899199), (5, mI 115), (1, mI 6), (0, .ref (kB K + 2))]) 3 rfl (Nat.le_of_ble_eq_true rfl) rfl dX8_init_126 ?_
  refine gw_goto hk.1.1 dX8_init_129 ?_
  refine gw_iload hk.1.1 0 rfl dX8_init_57 ?_
  refine gc_ldcS hk dX8_init_59 ?_
  refine gc_jcall hk (st := [mI 35]) mf_J0_length_8abf5 (inT1 42 rfl rfl) (inT1 43 rfl rfl) (inT1 44 rfl rfl) (by decide) rfl (Nat.le_of_ble_eq_true rfl) rfl dX8_init_61 (met_len _) (by decide) (by decide) ?_
  refine gw_icmp_ge hk.1.1 (cIk rfl) (cIk rfl) dX8_init_64 (fun q => absurd q (by decide)) (fun _ => ?_)
  refine gw_iload_n hk.1.1 4 rfl dX8_init_67 ?_
  refine gw_bipush hk.1.1 (v := 30) rfl dX8_init_68 ?_
  refine gw_icmp_ge hk.1.1 (cIk rfl) (cIk rfl) dX8_init_70 (fun q => absurd q (by decide)) (fun _ => ?_)
  refine gc_ldcS hk dX8_init_73 ?_
  refine gw_iload hk.1.1 0 rfl dX8_init_75 ?_
  refine gc_jcall hk (st := []) mf_J0_charAt_5068e (inT1 52 rfl rfl) (inT1 53 rfl rfl) (inT1 54 rfl rfl) (by decide) rfl (Nat.le_of_ble_eq_true rfl) rfl dX8_init_77 (met_cha (i := 35) (x := 32) _ (cIk rfl) (by decide) (by decide) rfl) (by decide) (by decide) ?_
  refine gw_istore hk.1.1 (lv' := [(5, mI 32), (4, mI 35), (3, mI 5), (2, mI 1899199), (1, mI 6), (0, .ref (kB K + 2))]) (Nat.le_of_ble_eq_true rfl) rfl dX8_init_80 ?_
  refine gw_iload hk.1.1 0 rfl dX8_init_82 ?_
  refine gw_bipush hk.1.1 (v := 32) rfl dX8_init_84 ?_
  refine gw_icmp_ne hk.1.1 (cIk rfl) (cIk rfl) dX8_init_86 (fun q => absurd q (by decide)) (fun _ => ?_)
  refine gw_aload_n hk.1.1 5 rfl dX8_init_89 ?_
  refine gc_get2 hk.1 (k := 7) (o := 2) fgc_X8_24 rfl kdC_2 (by omega) rfl rfl dX8_init_90 ?_
  refine gw_iload_n hk.1.1 4 rfl dX8_init_93 ?_
  refine gw_iload_n hk.1.1 3 rfl dX8_init_94 ?_
  refine gw_iload_n hk.1.1 2 rfl dX8_init_95 ?_
  refine gc_padded hk (st := [mI 6, .ref (kB K + 7)]) (a := 1899199) (b := 5) (r := 51278373) (inT1 90 rfl rfl) (by decide +kernel) (cIk rfl) (cIk rfl) (by decide) (Nat.le_of_ble_eq_true rfl) (by decide) (by decide) dX8_init_96 ?_
  refine gc_iast hk.1 (a := 7) (v := 51278373) (cIk rfl) (by decide) (by decide) kdC_7 (by omega) dX8_init_99 ?_
  refine gw_iinc hk.1.1 (lv' := [(1, mI 7), (5, mI 32), (4, mI 35), (3, mI 5), (2, mI 1899199), (0, .ref (kB K + 2))]) 4 rfl (Nat.le_of_ble_eq_true rfl) rfl dX8_init_100 ?_
  refine gw_iconst hk.1.1 (v := 0) rfl dX8_init_103 ?_
  refine gw_istore_n hk.1.1 rfl (lv' := [(2, mI 0), (1, mI 7), (5, mI 32), (4, mI 35), (3, mI 5), (0, .ref (kB K + 2))]) (Nat.le_of_ble_eq_true rfl) rfl dX8_init_104 ?_
  refine gw_iconst hk.1.1 (v := 0) rfl dX8_init_105 ?_
  refine gw_istore_n hk.1.1 rfl (lv' := [(3, mI 0), (2, mI 0), (1, mI 7), (5, mI 32), (4, mI 35), (0, .ref (kB K + 2))]) (Nat.le_of_ble_eq_true rfl) rfl dX8_init_106 ?_
  refine gw_goto hk.1.1 dX8_init_107 ?_
  refine gw_iinc hk.1.1 (lv' := [(4, mI 36), (3, mI 0), (2, mI 0), (1, mI 7), (5, mI 32), (0, .ref (kB K + 2))]) 4 rfl (Nat.le_of_ble_eq_true rfl) rfl dX8_init_126 ?_
  refine gw_goto hk.1.1 dX8_init_129 ?_
  refine gw_iload hk.1.1 0 rfl dX8_init_57 ?_
  refine gc_ldcS hk dX8_init_59 ?_
  refine gc_jcall hk (st := [mI 36]) mf_J0_length_8abf5 (inT1 42 rfl rfl) (inT1 43 rfl rfl) (inT1 44 rfl rfl) (by decide) rfl (Nat.le_of_ble_eq_true rfl) rfl dX8_init_61 (met_len _) (by decide) (by decide) ?_
  refine gw_icmp_ge hk.1.1 (cIk rfl) (cIk rfl) dX8_init_64 (fun q => absurd q (by decide)) (fun _ => ?_)
  refine gw_iload_n hk.1.1 3 rfl dX8_init_67 ?_
  refine gw_bipush hk.1.1 (v := 30) rfl dX8_init_68 ?_
  refine gw_icmp_ge hk.1.1 (cIk rfl) (cIk rfl) dX8_init_70 (fun q => absurd q (by decide)) (fun _ => ?_)
  refine gc_ldcS hk dX8_init_73 ?_
  refine gw_iload hk.1.1 0 rfl dX8_init_75 ?_
  refine gc_jcall hk (st := []) mf_J0_charAt_5068e (inT1 52 rfl rfl) (inT1 53 rfl rfl) (inT1 54 rfl rfl) (by decide) rfl (Nat.le_of_ble_eq_true rfl) rfl dX8_init_77 (met_cha (i := 36) (x := 102) _ (cIk rfl) (by decide) (by decide) rfl) (by decide) (by decide) ?_
  refine gw_istore hk.1.1 (lv' := [(5, mI 102), (4, mI 36), (3, mI 0), (2, mI 0), (1, mI 7), (0, .ref (kB K + 2))]) (Nat.le_of_ble_eq_true rfl) rfl dX8_init_80 ?_
  refine gw_iload hk.1.1 0 rfl dX8_init_82 ?_
  refine gw_bipush hk.1.1 (v := 32) rfl dX8_init_84 ?_
  refine gw_icmp_ne hk.1.1 (cIk rfl) (cIk rfl) dX8_init_86 (fun _ => ?_) (fun q => absurd (by decide) q)
  refine gw_iload_n hk.1.1 3 rfl dX8_init_110 ?_
  refine gw_bipush hk.1.1 (v := 27) rfl dX8_init_111 ?_
  refine gw_imul hk.1.1 dX8_init_113 ?_
  refine gw_iload hk.1.1 0 rfl dX8_init_114 ?_
  refine gw_iadd hk.1.1 dX8_init_116 ?_
  refine gw_bipush hk.1.1 (v := 97) rfl dX8_init_117 ?_
  refine gw_isub hk.1.1 dX8_init_119 ?_
  refine gw_iconst hk.1.1 (v := 1) rfl dX8_init_120 ?_
  refine gw_iadd hk.1.1 dX8_init_121 ?_
  refine gw_top (y := 6) (by decide) ?_
  refine gw_istore_n hk.1.1 rfl (lv' := [(2, mI 6), (5, mI 102), (4, mI 36), (3, mI 0), (1, mI 7), (0, .ref (kB K + 2))]) (Nat.le_of_ble_eq_true rfl) rfl dX8_init_122 ?_
  refine gw_iinc hk.1.1 (lv' := [(3, mI 1), (2, mI 6), (5, mI 102), (4, mI 36), (1, mI 7), (0, .ref (kB K + 2))]) 3 rfl (Nat.le_of_ble_eq_true rfl) rfl dX8_init_123 ?_
  refine gw_iinc hk.1.1 (lv' := [(4, mI 37), (3, mI 1), (2, mI 6), (5, mI 102), (1, mI 7), (0, .ref (kB K + 2))]) 3 rfl (Nat.le_of_ble_eq_true rfl) rfl dX8_init_126 ?_
  refine gw_goto hk.1.1 dX8_init_129 ?_
  refine gw_iload hk.1.1 0 rfl dX8_init_57 ?_
  refine gc_ldcS hk dX8_init_59 ?_
  refine gc_jcall hk (st := [mI 37]) mf_J0_length_8abf5 (inT1 42 rfl rfl) (inT1 43 rfl rfl) (inT1 44 rfl rfl) (by decide) rfl (Nat.le_of_ble_eq_true rfl) rfl dX8_init_61 (met_len _) (by decide) (by decide) ?_
  refine gw_icmp_ge hk.1.1 (cIk rfl) (cIk rfl) dX8_init_64 (fun q => absurd q (by decide)) (fun _ => ?_)
  refine gw_iload_n hk.1.1 4 rfl dX8_init_67 ?_
  refine gw_bipush hk.1.1 (v := 30) rfl dX8_init_68 ?_
  refine gw_icmp_ge hk.1.1 (cIk rfl) (cIk rfl) dX8_init_70 (fun q => absurd q (by decide)) (fun _ => ?_)
  refine gc_ldcS hk dX8_init_73 ?_
  refine gw_iload hk.1.1 0 rfl dX8_init_75 ?_
  refine gc_jcall hk (st := []) mf_J0_charAt_5068e (inT1 52 rfl rfl) (inT1 53 rfl rfl) (inT1 54 rfl rfl) (by decide) rfl (Nat.le_of_ble_eq_true rfl) rfl dX8_init_77 (met_cha (i := 37) (x := 101) _ (cIk rfl) (by decide) (by decide) rfl) (by decide) (by decide) ?_
  refine gw_istore hk.1.1 (lv' := [(5, mI 101), (4, mI 37), (3, mI 1), (2, mI 6), (1, mI 7), (0, .ref (kB K + 2))]) (Nat.le_of_ble_eq_true rfl) rfl dX8_init_80 ?_
  refine gw_iload hk.1.1 0 rfl dX8_init_82 ?_
  refine gw_bipush hk.1.1 (v := 32) rfl dX8_init_84 ?_
  refine gw_icmp_ne hk.1.1 (cIk rfl) (cIk rfl) dX8_init_86 (fun _ => ?_) (fun q => absurd (by decide) q)
  refine gw_iload_n hk.1.1 3 rfl dX8_init_110 ?_
  refine gw_bipush hk.1.1 (v := 27) rfl dX8_init_111 ?_
  refine gw_imul hk.1.1 dX8_init_113 ?_
  refine gw_iload hk.1.1 0 rfl dX8_init_114 ?_
  refine gw_iadd hk.1.1 dX8_init_116 ?_
  refine gw_bipush hk.1.1 (v := 97) rfl dX8_init_117 ?_
  refine gw_isub hk.1.1 dX8_init_119 ?_
  refine gw_iconst hk.1.1 (v := 1) rfl dX8_init_120 ?_
  refine gw_iadd hk.1.1 dX8_init_121 ?_
  refine gw_top (y := 167) (by decide) ?_
  refine gw_istore_n hk.1.1 rfl (lv' := [(2, mI 167), (5, mI 101), (4, mI 37), (3, mI 1), (1, mI 7), (0, .ref (kB K + 2))]) (Nat.le_of_ble_eq_true rfl) rfl dX8_init_122 ?_
  refine gw_iinc hk.1.1 (lv' := [(3, mI 2), (2, mI 167), (5, mI 101), (4, mI 37), (1, mI 7), (0, .ref (kB K + 2))]) 3 rfl (Nat.le_of_ble_eq_true rfl) rfl dX8_init_123 ?_
  refine gw_iinc hk.1.1 (lv' := [(4, mI 38), (3, mI 2), (2, mI 167), (5, mI 101), (1, mI 7), (0, .ref (kB K + 2))]) 3 rfl (Nat.le_of_ble_eq_true rfl) rfl dX8_init_126 ?_
  refine gw_goto hk.1.1 dX8_init_129 ?_
  refine gw_iload hk.1.1 0 rfl dX8_init_57 ?_
  refine gc_ldcS hk dX8_init_59 ?_
  refine gc_jcall hk (st := [mI 38]) mf_J0_length_8abf5 (inT1 42 rfl rfl) (inT1 43 rfl rfl) (inT1 44 rfl rfl) (by decide) rfl (Nat.le_of_ble_eq_true rfl) rfl dX8_init_61 (met_len _) (by decide) (by decide) ?_
  refine gw_icmp_ge hk.1.1 (cIk rfl) (cIk rfl) dX8_init_64 (fun q => absurd q (by decide)) (fun _ => ?_)
  refine gw_iload_n hk.1.1 4 rfl dX8_init_67 ?_
  refine gw_bipush hk.1.1 (v := 30) rfl dX8_init_68 ?_
  refine gw_icmp_ge hk.1.1 (cIk rfl) (cIk rfl) dX8_init_70 (fun q => absurd q (by decide)) (fun _ => ?_)
  refine gc_ldcS hk dX8_init_73 ?_
  refine gw_iload hk.1.1 0 rfl dX8_init_75 ?_
  refine gc_jcall hk (st := []) mf_J0_charAt_5068e (inT1 52 rfl rfl) (inT1 53 rfl rfl) (inT1 54 rfl rfl) (by decide) rfl (Nat.le_of_ble_eq_true rfl) rfl dX8_init_77 (met_cha (i := 38) (x := 97) _ (cIk rfl) (by decide) (by decide) rfl) (by decide) (by decide) ?_
  refine gw_istore hk.1.1 (lv' := [(5, mI 97), (4, mI 38), (3, mI 2), (2, mI 167), (1, mI 7), (0, .ref (kB K + 2))]) (Nat.le_of_ble_eq_true rfl) rfl dX8_init_80 ?_
  refine gw_iload hk.1.1 0 rfl dX8_init_82 ?_
  refine gw_bipush hk.1.1 (v := 32) rfl dX8_init_84 ?_
  refine gw_icmp_ne hk.1.1 (cIk rfl) (cIk rfl) dX8_init_86 (fun _ => ?_) (fun q => absurd (by decide) q)
  refine gw_iload_n hk.1.1 3 rfl dX8_init_110 ?_
  refine gw_bipush hk.1.1 (v := 27) rfl dX8_init_111 ?_
  refine gw_imul hk.1.1 dX8_init_113 ?_
  refine gw_iload hk.1.1 0 rfl dX8_init_114 ?_
  refine gw_iadd hk.1.1 dX8_init_116 ?_
  refine gw_bipush hk.1.1 (v := 97) rfl dX8_init_117 ?_
  refine gw_isub hk.1.1 dX8_init_119 ?_
  refine gw_iconst hk.1.1 (v := 1) rfl dX8_init_120 ?_
  refine gw_iadd hk.1.1 dX8_init_121 ?_
  refine gw_top (y := 4510) (by decide) ?_
  refine gw_istore_n hk.1.1 rfl (lv' := [(2, mI 4510), (5, mI 97), (4, mI 38), (3, mI 2), (1, mI 7), (0, .ref (kB K + 2))]) (Nat.le_of_ble_eq_true rfl) rfl dX8_init_122 ?_
  refine gw_iinc hk.1.1 (lv' := [(3, mI 3), (2, mI 4510), (5, mI 97), (4, mI 38), (1, mI 7), (0, .ref (kB K + 2))]) 3 rfl (Nat.le_of_ble_eq_true rfl) rfl dX8_init_123 ?_
  refine gw_iinc hk.1.1 (lv' := [(4, mI 39), (3, mI 3), (2, mI 4510), (5, mI 97), (1, mI 7), (0, .ref (kB K + 2))]) 3 rfl (Nat.le_of_ble_eq_true rfl) rfl dX8_init_126 ?_
  refine gw_goto hk.1.1 dX8_init_129 ?_
  refine gw_iload hk.1.1 0 rfl dX8_init_57 ?_
  refine gc_ldcS hk dX8_init_59 ?_
  refine gc_jcall hk (st := [mI 39]) mf_J0_length_8abf5 (inT1 42 rfl rfl) (inT1 43 rfl rfl) (inT1 44 rfl rfl) (by decide) rfl (Nat.le_of_ble_eq_true rfl) rfl dX8_init_61 (met_len _) (by decide) (by decide) ?_
  refine gw_icmp_ge hk.1.1 (cIk rfl) (cIk rfl) dX8_init_64 (fun q => absurd q (by decide)) (fun _ => ?_)
  refine gw_iload_n hk.1.1 4 rfl dX8_init_67 ?_
  refine gw_bipush hk.1.1 (v := 30) rfl dX8_init_68 ?_
  refine gw_icmp_ge hk.1.1 (cIk rfl) (cIk rfl) dX8_init_70 (fun q => absurd q (by decide)) (fun _ => ?_)
  refine gc_ldcS hk dX8_init_73 ?_
  refine gw_iload hk.1.1 0 rfl dX8_init_75 ?_
  refine gc_jcall hk (st := []) mf_J0_charAt_5068e (inT1 52 rfl rfl) (inT1 53 rfl rfl) (inT1 54 rfl rfl) (by decide) rfl (Nat.le_of_ble_eq_true rfl) rfl dX8_init_77 (met_cha (i := 39) (x := 114) _ (cIk rfl) (by decide) (by decide) rfl) (by decide) (by decide) ?_
  refine gw_istore hk.1.1 (lv' := [(5, mI 114), (4, mI 39), (3, mI 3), (2, mI 4510), (1, mI 7), (0, .ref (kB K + 2))]) (Nat.le_of_ble_eq_true rfl) rfl dX8_init_80 ?_
  refine gw_iload hk.1.1 0 rfl dX8_init_82 ?_
  refine gw_bipush hk.1.1 (v := 32) rfl dX8_init_84 ?_
  refine gw_icmp_ne hk.1.1 (cIk rfl) (cIk rfl) dX8_init_86 (fun _ => ?_) (fun q => absurd (by decide) q)
  refine gw_iload_n hk.1.1 3 rfl dX8_init_110 ?_
  refine gw_bipush hk.1.1 (v := 27) rfl dX8_init_111 ?_
  refine gw_imul hk.1.1 dX8_init_113 ?_
  refine gw_iload hk.1.1 0 rfl dX8_init_114 ?_
  refine gw_iadd hk.1.1 dX8_init_116 ?_
  refine gw_bipush hk.1.1 (v := 97) rfl dX8_init_117 ?_
  refine gw_isub hk.1.1 dX8_init_119 ?_
  refine gw_iconst hk.1.1 (v := 1) rfl dX8_init_120 ?_
  refine gw_iadd hk.1.1 dX8_init_121 ?_
  refine gw_top (y := 121788) (by decide) ?_
  refine gw_istore_n hk.1.1 rfl (lv' := [(2, mI 121788), (5, mI 114), (4, mI 39), (3, mI 3), (1, mI 7), (0, .ref (kB K + 2))]) (Nat.le_of_ble_eq_true rfl) rfl dX8_init_122 ?_
  refine gw_iinc hk.1.1 (lv' := [(3, mI 4), (2, mI 121788), (5, mI 114), (4, mI 39), (1, mI 7), (0, .ref (kB K + 2))]) 3 rfl (Nat.le_of_ble_eq_true rfl) rfl dX8_init_123 ?_
  refine gw_iinc hk.1.1 (lv' := [(4, mI 40), (3, mI 4), (2, mI 121788), (5, mI 114), (1, mI 7), (0, .ref (kB K + 2))]) 3 rfl (Nat.le_of_ble_eq_true rfl) rfl dX8_init_126 ?_
  refine gw_goto hk.1.1 dX8_init_129 ?_
  refine gw_iload hk.1.1 0 rfl dX8_init_57 ?_
  refine gc_ldcS hk dX8_init_59 ?_
  refine gc_jcall hk (st := [mI 40]) mf_J0_length_8abf5 (inT1 42 rfl rfl) (inT1 43 rfl rfl) (inT1 44 rfl rfl) (by decide) rfl (Nat.le_of_ble_eq_true rfl) rfl dX8_init_61 (met_len _) (by decide) (by decide) ?_
  refine gw_icmp_ge hk.1.1 (cIk rfl) (cIk rfl) dX8_init_64 (fun q => absurd q (by decide)) (fun _ => ?_)
  refine gw_iload_n hk.1.1 4 rfl dX8_init_67 ?_
  refine gw_bipush hk.1.1 (v := 30) rfl dX8_init_68 ?_
  refine gw_icmp_ge hk.1.1 (cIk rfl) (cIk rfl) dX8_init_70 (fun q => absurd q (by decide)) (fun _ => ?_)
  refine gc_ldcS hk dX8_init_73 ?_
  refine gw_iload hk.1.1 0 rfl dX8_init_75 ?_
  refine gc_jcall hk (st := []) mf_J0_charAt_5068e (inT1 52 rfl rfl) (inT1 53 rfl rfl) (inT1 54 rfl rfl) (by decide) rfl (Nat.le_of_ble_eq_true rfl) rfl dX8_init_77 (met_cha (i := 40) (x := 115) _ (cIk rfl) (by decide) (by decide) rfl) (by decide) (by decide) ?_
  refine gw_istore hk.1.1 (lv' := [(5, mI 115), (4, mI 40), (3, mI 4), (2, mI 121788), (1, mI 7), (0, .ref (kB K + 2))]) (Nat.le_of_ble_eq_true rfl) rfl dX8_init_80 ?_
  refine gw_iload hk.1.1 0 rfl dX8_init_82 ?_
  refine gw_bipush hk.1.1 (v := 32) rfl dX8_init_84 ?_
  refine gw_icmp_ne hk.1.1 (cIk rfl) (cIk rfl) dX8_init_86 (fun _ => ?_) (fun q => absurd (by decide) q)
  refine gw_iload_n hk.1.1 3 rfl dX8_init_110 ?_
  refine gw_bipush hk.1.1 (v := 27) rfl dX8_init_111 ?_
  refine gw_imul hk.1.1 dX8_init_113 ?_
  refine gw_iload hk.1.1 0 rfl dX8_init_114 ?_
  refine gw_iadd hk.1.1 dX8_init_116 ?_
  refine gw_bipush hk.1.1 (v := 97) rfl dX8_init_117 ?_
  refine gw_isub hk.1.1 dX8_init_119 ?_
  refine gw_iconst hk.1.1 (v := 1) rfl dX8_init_120 ?_
  refine gw_iadd hk.1.1 dX8_init_121 ?_
  refine gw_top (y := 3288295) (by decide) ?_
  refine gw_istore_n hk.1.1 rfl (lv' := [(2, mI 3288295), (5, mI 115), (4, mI 40), (3, mI 4), (1, mI 7), (0, .ref (kB K + 2))]) (Nat.le_of_ble_eq_true rfl) rfl dX8_init_122 ?_
  refine gw_iinc hk.1.1 (lv' := [(3, mI 5), (2, mI 3288295), (5, mI 115), (4, mI 40), (1, mI 7), (0, .ref (kB K + 2))]) 3 rfl (Nat.le_of_ble_eq_true rfl) rfl dX8_init_123 ?_
  refine gw_iinc hk.1.1 (lv' := [(4, mI 41), (3, mI 5), (2, mI 3288295), (5, mI 115), (1, mI 7), (0, .ref (kB K + 2))]) 3 rfl (Nat.le_of_ble_eq_true rfl) rfl dX8_init_126 ?_
  refine gw_goto hk.1.1 dX8_init_129 ?_
  refine gw_iload hk.1.1 0 rfl dX8_init_57 ?_
  refine gc_ldcS hk dX8_init_59 ?_
  refine gc_jcall hk (st := [mI 41]) mf_J0_length_8abf5 (inT1 42 rfl rfl) (inT1 43 rfl rfl) (inT1 44 rfl rfl) (by decide) rfl (Nat.le_of_ble_eq_true rfl) rfl dX8_init_61 (met_len _) (by decide) (by decide) ?_
  refine gw_icmp_ge hk.1.1 (cIk rfl) (cIk rfl) dX8_init_64 (fun q => absurd q (by decide)) (fun _ => ?_)
  refine gw_iload_n hk.1.1 4 rfl dX8_init_67 ?_
  refine gw_bipush hk.1.1 (v := 30) rfl dX8_init_68 ?_
  refine gw_icmp_ge hk.1.1 (cIk rfl) (cIk rfl) dX8_init_70 (fun q => absurd q (by decide)) (fun _ => ?_)
  refine gc_ldcS hk dX8_init_73 ?_
  refine gw_iload hk.1.1 0 rfl dX8_init_75 ?_
  refine gc_jcall hk (st := []) mf_J0_charAt_5068e (inT1 52 rfl rfl) (inT1 53 rfl rfl) (inT1 54 rfl rfl) (by decide) rfl (Nat.le_of_ble_eq_true rfl) rfl dX8_init_77 (met_cha (i := 41) (x := 32) _ (cIk rfl) (by decide) (by decide) rfl) (by decide) (by decide) ?_
  refine gw_istore hk.1.1 (lv' := [(5, mI 32), (4, mI 41), (3, mI 5), (2, mI 3288295), (1, mI 7), (0, .ref (kB K + 2))]) (Nat.le_of_ble_eq_true rfl) rfl dX8_init_80 ?_
  refine gw_iload hk.1.1 0 rfl dX8_init_82 ?_
  refine gw_bipush hk.1.1 (v := 32) rfl dX8_init_84 ?_
  refine gw_icmp_ne hk.1.1 (cIk rfl) (cIk rfl) dX8_init_86 (fun q => absurd q (by decide)) (fun _ => ?_)
  refine gw_aload_n hk.1.1 5 rfl dX8_init_89 ?_
  refine gc_get2 hk.1 (k := 7) (o := 2) fgc_X8_24 rfl kdC_2 (by omega) rfl rfl dX8_init_90 ?_
  refine gw_iload_n hk.1.1 4 rfl dX8_init_93 ?_
  refine gw_iload_n hk.1.1 3 rfl dX8_init_94 ?_
  refine gw_iload_n hk.1.1 2 rfl dX8_init_95 ?_
  refine gc_padded hk (st := [mI 7, .ref (kB K + 7)]) (a := 3288295) (b := 5) (r := 88783965) (inT1 90 rfl rfl) (by decide +kernel) (cIk rfl) (cIk rfl) (by decide) (Nat.le_of_ble_eq_true rfl) (by decide) (by decide) dX8_init_96 ?_
  refine gc_iast hk.1 (a := 7) (v := 88783965) (cIk rfl) (by decide) (by decide) kdC_7 (by omega) dX8_init_99 ?_
  refine gw_iinc hk.1.1 (lv' := [(1, mI 8), (5, mI 32), (4, mI 41), (3, mI 5), (2, mI 3288295), (0, .ref (kB K + 2))]) 4 rfl (Nat.le_of_ble_eq_true rfl) rfl dX8_init_100 ?_
  refine gw_iconst hk.1.1 (v := 0) rfl dX8_init_103 ?_
  refine gw_istore_n hk.1.1 rfl (lv' := [(2, mI 0), (1, mI 8), (5, mI 32), (4, mI 41), (3, mI 5), (0, .ref (kB K + 2))]) (Nat.le_of_ble_eq_true rfl) rfl dX8_init_104 ?_
  refine gw_iconst hk.1.1 (v := 0) rfl dX8_init_105 ?_
  refine gw_istore_n hk.1.1 rfl (lv' := [(3, mI 0), (2, mI 0), (1, mI 8), (5, mI 32), (4, mI 41), (0, .ref (kB K + 2))]) (Nat.le_of_ble_eq_true rfl) rfl dX8_init_106 ?_
  refine gw_goto hk.1.1 dX8_init_107 ?_
  refine gw_iinc hk.1.1 (lv' := [(4, mI 42), (3, mI 0), (2, mI 0), (1, mI 8), (5, mI 32), (0, .ref (kB K + 2))]) 4 rfl (Nat.le_of_ble_eq_true rfl) rfl dX8_init_126 ?_
  refine gw_goto hk.1.1 dX8_init_129 ?_
  refine gw_iload hk.1.1 0 rfl dX8_init_57 ?_
  refine gc_ldcS hk dX8_init_59 ?_
  refine gc_jcall hk (st := [mI 42]) mf_J0_length_8abf5 (inT1 42 rfl rfl) (inT1 43 rfl rfl) (inT1 44 rfl rfl) (by decide) rfl (Nat.le_of_ble_eq_true rfl) rfl dX8_init_61 (met_len _) (by decide) (by decide) ?_
  refine gw_icmp_ge hk.1.1 (cIk rfl) (cIk rfl) dX8_init_64 (fun q => absurd q (by decide)) (fun _ => ?_)
  refine gw_iload_n hk.1.1 3 rfl dX8_init_67 ?_
  refine gw_bipush hk.1.1 (v := 30) rfl dX8_init_68 ?_
  refine gw_icmp_ge hk.1.1 (cIk rfl) (cIk rfl) dX8_init_70 (fun q => absurd q (by decide)) (fun _ => ?_)
  refine gc_ldcS hk dX8_init_73 ?_
  refine gw_iload hk.1.1 0 rfl dX8_init_75 ?_
  refine gc_jcall hk (st := []) mf_J0_charAt_5068e (inT1 52 rfl rfl) (inT1 53 rfl rfl) (inT1 54 rfl rfl) (by decide) rfl (Nat.le_of_ble_eq_true rfl) rfl dX8_init_77 (met_cha (i := 42) (x := 108) _ (cIk rfl) (by decide) (by decide) rfl) (by decide) (by decide) ?_
  refine gw_istore hk.1.1 (lv' := [(5, mI 108), (4, mI 42), (3, mI 0), (2, mI 0), (1, mI 8), (0, .ref (kB K + 2))]) (Nat.le_of_ble_eq_true rfl) rfl dX8_init_80 ?_
  refine gw_iload hk.1.1 0 rfl dX8_init_82 ?_
  refine gw_bipush hk.1.1 (v := 32) rfl dX8_init_84 ?_
  refine gw_icmp_ne hk.1.1 (cIk rfl) (cIk rfl) dX8_init_86 (fun _ => ?_) (fun q => absurd (by decide) q)
  refine gw_iload_n hk.1.1 3 rfl dX8_init_110 ?_
  refine gw_bipush hk.1.1 (v := 27) rfl dX8_init_111 ?_
  refine gw_imul hk.1.1 dX8_init_113 ?_
  refine gw_iload hk.1.1 0 rfl dX8_init_114 ?_
  refine gw_iadd hk.1.1 dX8_init_116 ?_
  refine gw_bipush hk.1.1 (v := 97) rfl dX8_init_117 ?_
  refine gw_isub hk.1.1 dX8_init_119 ?_
  refine gw_iconst hk.1.1 (v := 1) rfl dX8_init_120 ?_
  refine gw_iadd hk.1.1 dX8_init_121 ?_
  refine gw_top (y := 12) (by decide) ?_
  refine gw_istore_n hk.1.1 rfl (lv' := [(2, mI 12), (5, mI 108), (4, mI 42), (3, mI 0), (1, mI 8), (0, .ref (kB K + 2))]) (Nat.le_of_ble_eq_true rfl) rfl dX8_init_122 ?_
  refine gw_iinc hk.1.1 (lv' := [(3, mI 1), (2, mI 12), (5, mI 108), (4, mI 42), (1, mI 8), (0, .ref (kB K + 2))]) 3 rfl (Nat.le_of_ble_eq_true rfl) rfl dX8_init_123 ?_
  refine gw_iinc hk.1.1 (lv' := [(4, mI 43), (3, mI 1), (2, mI 12), (5, mI 108), (1, mI 8), (0, .ref (kB K + 2))]) 3 rfl (Nat.le_of_ble_eq_true rfl) rfl dX8_init_126 ?_
  refine gw_goto hk.1.1 dX8_init_129 ?_
  refine gw_iload hk.1.1 0 rfl dX8_init_57 ?_
  refine gc_ldcS hk dX8_init_59 ?_
  refine gc_jcall hk (st := [mI 43]) mf_J0_length_8abf5 (inT1 42 rfl rfl) (inT1 43 rfl rfl) (inT1 44 rfl rfl) (by decide) rfl (Nat.le_of_ble_eq_true rfl) rfl dX8_init_61 (met_len _) (by decide) (by decide) ?_
  refine gw_icmp_ge hk.1.1 (cIk rfl) (cIk rfl) dX8_init_64 (fun q => absurd q (by decide)) (fun _ => ?_)
  refine gw_iload_n hk.1.1 4 rfl dX8_init_67 ?_
  refine gw_bipush hk.1.1 (v := 30) rfl dX8_init_68 ?_
  refine gw_icmp_ge hk.1.1 (cIk rfl) (cIk rfl) dX8_init_70 (fun q => absurd q (by decide)) (fun _ => ?_)
  refine gc_ldcS hk dX8_init_73 ?_
  refine gw_iload hk.1.1 0 rfl dX8_init_75 ?_
  refine gc_jcall hk (st := []) mf_J0_charAt_5068e (inT1 52 rfl rfl) (inT1 53 rfl rfl) (inT1 54 rfl rfl) (by decide) rfl (Nat.le_of_ble_eq_true rfl) rfl dX8_init_77 (met_cha (i := 43) (x := 105) _ (cIk rfl) (by decide) (by decide) rfl) (by decide) (by decide) ?_
  refine gw_istore hk.1.1 (lv' := [(5, mI 105), (4, mI 43), (3, mI 1), (2, mI 12), (1, mI 8), (0, .ref (kB K + 2))]) (Nat.le_of_ble_eq_true rfl) rfl dX8_init_80 ?_
  refine gw_iload hk.1.1 0 rfl dX8_init_82 ?_
  refine gw_bipush hk.1.1 (v := 32) rfl dX8_init_84 ?_
  refine gw_icmp_ne hk.1.1 (cIk rfl) (cIk rfl) dX8_init_86 (fun _ => ?_) (fun q => absurd (by decide) q)
  refine gw_iload_n hk.1.1 3 rfl dX8_init_110 ?_
  refine gw_bipush hk.1.1 (v := 27) rfl dX8_init_111 ?_
  refine gw_imul hk.1.1 dX8_init_113 ?_
  refine gw_iload hk.1.1 0 rfl dX8_init_114 ?_
  refine gw_iadd hk.1.1 dX8_init_116 ?_
  refine gw_bipush hk.1.1 (v := 97) rfl dX8_init_117 ?_
  refine gw_isub hk.1.1 dX8_init_119 ?_
  refine gw_iconst hk.1.1 (v := 1) rfl dX8_init_120 ?_
  refine gw_iadd hk.1.1 dX8_init_121 ?_
  refine gw_top (y := 333) (by decide) ?_
  refine gw_istore_n hk.1.1 rfl (lv' := [(2, mI 333), (5, mI 105), (4, mI 43), (3, mI 1), (1, mI 8), (0, .ref (kB K + 2))]) (Nat.le_of_ble_eq_true rfl) rfl dX8_init_122 ?_
  refine gw_iinc hk.1.1 (lv' := [(3, mI 2), (2, mI 333), (5, mI 105), (4, mI 43), (1, mI 8), (0, .ref (kB K + 2))]) 3 rfl (Nat.le_of_ble_eq_true rfl) rfl dX8_init_123 ?_
  refine gw_iinc hk.1.1 (lv' := [(4, mI 44), (3, mI 2), (2, mI 333), (5, mI 105), (1, mI 8), (0, .ref (kB K + 2))]) 3 rfl (Nat.le_of_ble_eq_true rfl) rfl dX8_init_126 ?_
  refine gw_goto hk.1.1 dX8_init_129 ?_
  refine gw_iload hk.1.1 0 rfl dX8_init_57 ?_
  refine gc_ldcS hk dX8_init_59 ?_
  refine gc_jcall hk (st := [mI 44]) mf_J0_length_8abf5 (inT1 42 rfl rfl) (inT1 43 rfl rfl) (inT1 44 rfl rfl) (by decide) rfl (Nat.le_of_ble_eq_true rfl) rfl dX8_init_61 (met_len _) (by decide) (by decide) ?_
  refine gw_icmp_ge hk.1.1 (cIk rfl) (cIk rfl) dX8_init_64 (fun q => absurd q (by decide)) (fun _ => ?_)
  refine gw_iload_n hk.1.1 4 rfl dX8_init_67 ?_
  refine gw_bipush hk.1.1 (v := 30) rfl dX8_init_68 ?_
  refine gw_icmp_ge hk.1.1 (cIk rfl) (cIk rfl) dX8_init_70 (fun q => absurd q (by decide)) (fun _ => ?_)
  refine gc_ldcS hk dX8_init_73 ?_
  refine gw_iload hk.1.1 0 rfl dX8_init_75 ?_
  refine gc_jcall hk (st := []) mf_J0_charAt_5068e (inT1 52 rfl rfl) (inT1 53 rfl rfl) (inT1 54 rfl rfl) (by decide) rfl (Nat.le_of_ble_eq_true rfl) rfl dX8_init_77 (met_cha (i := 44) (x := 107) _ (cIk rfl) (by decide) (by decide) rfl) (by decide) (by decide) ?_
  refine gw_istore hk.1.1 (lv' := [(5, mI 107), (4, mI 44), (3, mI 2), (2, mI 333), (1, mI 8), (0, .ref (kB K + 2))]) (Nat.le_of_ble_eq_true rfl) rfl dX8_init_80 ?_
  refine gw_iload hk.1.1 0 rfl dX8_init_82 ?_
  refine gw_bipush hk.1.1 (v := 32) rfl dX8_init_84 ?_
  refine gw_icmp_ne hk.1.1 (cIk rfl) (cIk rfl) dX8_init_86 (fun _ => ?_) (fun q => absurd (by decide) q)
  refine gw_iload_n hk.1.1 3 rfl dX8_init_110 ?_
  refine gw_bipush hk.1.1 (v := 27) rfl dX8_init_111 ?_
  refine gw_imul hk.1.1 dX8_init_113 ?_
  refine gw_iload hk.1.1 0 rfl dX8_init_114 ?_
  refine gw_iadd hk.1.1 dX8_init_116 ?_
  refine gw_bipush hk.1.1 (v := 97) rfl dX8_init_117 ?_
  refine gw_isub hk.1.1 dX8_init_119 ?_
  refine gw_iconst hk.1.1 (v := 1) rfl dX8_init_120 ?_
  refine gw_iadd hk.1.1 dX8_init_121 ?_
  refine gw_top (y := 9002) (by decide) ?_
  refine gw_istore_n hk.1.1 rfl (lv' := [(2, mI 9002), (5, mI 107), (4, mI 44), (3, mI 2), (1, mI 8), (0, .ref (kB K + 2))]) (Nat.le_of_ble_eq_true rfl) rfl dX8_init_122 ?_
  refine gw_iinc hk.1.1 (lv' := [(3, mI 3), (2, mI 9002), (5, mI 107), (4, mI 44), (1, mI 8), (0, .ref (kB K + 2))]) 3 rfl (Nat.le_of_ble_eq_true rfl) rfl dX8_init_123 ?_
  refine gw_iinc hk.1.1 (lv' := [(4, mI 45), (3, mI 3), (2, mI 9002), (5, mI 107), (1, mI 8), (0, .ref (kB K + 2))]) 3 rfl (Nat.le_of_ble_eq_true rfl) rfl dX8_init_126 ?_
  refine gw_goto hk.1.1 dX8_init_129 ?_
  refine gw_iload hk.1.1 0 rfl dX8_init_57 ?_
  refine gc_ldcS hk dX8_init_59 ?_
  refine gc_jcall hk (st := [mI 45]) mf_J0_length_8abf5 (inT1 42 rfl rfl) (inT1 43 rfl rfl) (inT1 44 rfl rfl) (by decide) rfl (Nat.le_of_ble_eq_true rfl) rfl dX8_init_61 (met_len _) (by decide) (by decide) ?_
  refine gw_icmp_ge hk.1.1 (cIk rfl) (cIk rfl) dX8_init_64 (fun q => absurd q (by decide)) (fun _ => ?_)
  refine gw_iload_n hk.1.1 4 rfl dX8_init_67 ?_
  refine gw_bipush hk.1.1 (v := 30) rfl dX8_init_68 ?_
  refine gw_icmp_ge hk.1.1 (cIk rfl) (cIk rfl) dX8_init_70 (fun q => absurd q (by decide)) (fun _ => ?_)
  refine gc_ldcS hk dX8_init_73 ?_
  refine gw_iload hk.1.1 0 rfl dX8_init_75 ?_
  refine gc_jcall hk (st := []) mf_J0_charAt_5068e (inT1 52 rfl rfl) (inT1 53 rfl rfl) (inT1 54 rfl rfl) (by decide) rfl (Nat.le_of_ble_eq_true rfl) rfl dX8_init_77 (met_cha (i := 45) (x := 101) _ (cIk rfl) (by decide) (by decide) rfl) (by decide) (by decide) ?_
  refine gw_istore hk.1.1 (lv' := [(5, mI 101), (4, mI 45), (3, mI 3), (2, mI 9002), (1, mI 8), (0, .ref (kB K + 2))]) (Nat.le_of_ble_eq_true rfl) rfl dX8_init_80 ?_
  refine gw_iload hk.1.1 0 rfl dX8_init_82 ?_
  refine gw_bipush hk.1.1 (v := 32) rfl dX8_init_84 ?_
  refine gw_icmp_ne hk.1.1 (cIk rfl) (cIk rfl) dX8_init_86 (fun _ => ?_) (fun q => absurd (by decide) q)
  refine gw_iload_n hk.1.1 3 rfl dX8_init_110 ?_
  refine gw_bipush hk.1.1 (v := 27) rfl dX8_init_111 ?_
  refine gw_imul hk.1.1 dX8_init_113 ?_
  refine gw_iload hk.1.1 0 rfl dX8_init_114 ?_
  refine gw_iadd hk.1.1 dX8_init_116 ?_
  refine gw_bipush hk.1.1 (v := 97) rfl dX8_init_117 ?_
  refine gw_isub hk.1.1 dX8_init_119 ?_
  refine gw_iconst hk.1.1 (v := 1) rfl dX8_init_120 ?_
  refine gw_iadd hk.1.1 dX8_init_121 ?_
  refine gw_top (y := 243059) (by decide) ?_
  refine gw_istore_n hk.1.1 rfl (lv' := [(2, mI 243059), (5, mI 101), (4, mI 45), (3, mI 3), (1, mI 8), (0, .ref (kB K + 2))]) (Nat.le_of_ble_eq_true rfl) rfl dX8_init_122 ?_
  refine gw_iinc hk.1.1 (lv' := [(3, mI 4), (2, mI 243059), (5, mI 101), (4, mI 45), (1, mI 8), (0, .ref (kB K + 2))]) 3 rfl (Nat.le_of_ble_eq_true rfl) rfl dX8_init_123 ?_
  refine gw_iinc hk.1.1 (lv' := [(4, mI 46), (3, mI 4), (2, mI 243059), (5, mI 101), (1, mI 8), (0, .ref (kB K + 2))]) 3 rfl (Nat.le_of_ble_eq_true rfl) rfl dX8_init_126 ?_
  refine gw_goto hk.1.1 dX8_init_129 ?_
  refine gw_iload hk.1.1 0 rfl dX8_init_57 ?_
  refine gc_ldcS hk dX8_init_59 ?_
  refine gc_jcall hk (st := [mI 46]) mf_J0_length_8abf5 (inT1 42 rfl rfl) (inT1 43 rfl rfl) (inT1 44 rfl rfl) (by decide) rfl (Nat.le_of_ble_eq_true rfl) rfl dX8_init_61 (met_len _) (by decide) (by decide) ?_
  refine gw_icmp_ge hk.1.1 (cIk rfl) (cIk rfl) dX8_init_64 (fun q => absurd q (by decide)) (fun _ => ?_)
  refine gw_iload_n hk.1.1 4 rfl dX8_init_67 ?_
  refine gw_bipush hk.1.1 (v := 30) rfl dX8_init_68 ?_
  refine gw_icmp_ge hk.1.1 (cIk rfl) (cIk rfl) dX8_init_70 (fun q => absurd q (by decide)) (fun _ => ?_)
  refine gc_ldcS hk dX8_init_73 ?_
  refine gw_iload hk.1.1 0 rfl dX8_init_75 ?_
  refine gc_jcall hk (st := []) mf_J0_charAt_5068e (inT1 52 rfl rfl) (inT1 53 rfl rfl) (inT1 54 rfl rfl) (by decide) rfl (Nat.le_of_ble_eq_true rfl) rfl dX8_init_77 (met_cha (i := 46) (x := 115) _ (cIk rfl) (by decide) (by decide) rfl) (by decide) (by decide) ?_
  refine gw_istore hk.1.1 (lv' := [(5, mI 115), (4, mI 46), (3, mI 4), (2, mI 243059), (1, mI 8), (0, .ref (kB K + 2))]) (Nat.le_of_ble_eq_true rfl) rfl dX8_init_80 ?_
  refine gw_iload hk.1.1 0 rfl dX8_init_82 ?_
  refine gw_bipush hk.1.1 (v := 32) rfl dX8_init_84 ?_
  refine gw_icmp_ne hk.1.1 (cIk rfl) (cIk rfl) dX8_init_86 (fun _ => ?_) (fun q => absurd (by decide) q)
  refine gw_iload_n hk.1.1 3 rfl dX8_init_110 ?_
  refine gw_bipush hk.1.1 (v := 27) rfl dX8_init_111 ?_
  refine gw_imul hk.1.1 dX8_init_113 ?_
  refine gw_iload hk.1.1 0 rfl dX8_init_114 ?_
  refine gw_iadd hk.1.1 dX8_init_116 ?_
  refine gw_bipush hk.1.1 (v := 97) rfl dX8_init_117 ?_
  refine gw_isub hk.1.1 dX8_init_119 ?_
  refine gw_iconst hk.1.1 (v := 1) rfl dX8_init_120 ?_
  refine gw_iadd hk.1.1 dX8_init_121 ?_
  refine gw_top (y := 6562612) (by decide) ?_
  refine gw_istore_n hk.1.1 rfl (lv' := [(2, mI 6562612), (5, mI 115), (4, mI 46), (3, mI 4), (1, mI 8), (0, .ref (kB K + 2))]) (Nat.le_of_ble_eq_true rfl) rfl dX8_init_122 ?_
  refine gw_iinc hk.1.1 (lv' := [(3, mI 5), (2, mI 6562612), (5, mI 115), (4, mI 46), (1, mI 8), (0, .ref (kB K + 2))]) 3 rfl (Nat.le_of_ble_eq_true rfl) rfl dX8_init_123 ?_
  refine gw_iinc hk.1.1 (lv' := [(4, mI 47), (3, mI 5), (2, mI 6562612), (5, mI 115), (1, mI 8), (0, .ref (kB K + 2))]) 3 rfl (Nat.le_of_ble_eq_true rfl) rfl dX8_init_126 ?_
  refine gw_goto hk.1.1 dX8_init_129 ?_
  refine gw_iload hk.1.1 0 rfl dX8_init_57 ?_
  refine gc_ldcS hk dX8_init_59 ?_
  refine gc_jcall hk (st := [mI 47]) mf_J0_length_8abf5 (inT1 42 rfl rfl) (inT1 43 rfl rfl) (inT1 44 rfl rfl) (by decide) rfl (Nat.le_of_ble_eq_true rfl) rfl dX8_init_61 (met_len _) (by decide) (by decide) ?_
  refine gw_icmp_ge hk.1.1 (cIk rfl) (cIk rfl) dX8_init_64 (fun q => absurd q (by decide)) (fun _ => ?_)
  refine gw_iload_n hk.1.1 4 rfl dX8_init_67 ?_
  refine gw_bipush hk.1.1 (v := 30) rfl dX8_init_68 ?_
  refine gw_icmp_ge hk.1.1 (cIk rfl) (cIk rfl) dX8_init_70 (fun q => absurd q (by decide)) (fun _ => ?_)
  refine gc_ldcS hk dX8_init_73 ?_
  refine gw_iload hk.1.1 0 rfl dX8_init_75 ?_
  refine gc_jcall hk (st := []) mf_J0_charAt_5068e (inT1 52 rfl rfl) (inT1 53 rfl rfl) (inT1 54 rfl rfl) (by decide) rfl (Nat.le_of_ble_eq_true rfl) rfl dX8_init_77 (met_cha (i := 47) (x := 32) _ (cIk rfl) (by decide) (by decide) rfl) (by decide) (by decide) ?_
  refine gw_istore hk.1.1 (lv' := [(5, mI 32), (4, mI 47), (3, mI 5), (2, mI 6562612), (1, mI 8), (0, .ref (kB K + 2))]) (Nat.le_of_ble_eq_true rfl) rfl dX8_init_80 ?_
  refine gw_iload hk.1.1 0 rfl dX8_init_82 ?_
  refine gw_bipush hk.1.1 (v := 32) rfl dX8_init_84 ?_
  refine gw_icmp_ne hk.1.1 (cIk rfl) (cIk rfl) dX8_init_86 (fun q => absurd q (by decide)) (fun _ => ?_)
  refine gw_aload_n hk.1.1 5 rfl dX8_init_89 ?_
  refine gc_get2 hk.1 (k := 7) (o := 2) fgc_X8_24 rfl kdC_2 (by omega) rfl rfl dX8_init_90 ?_
  refine gw_iload_n hk.1.1 4 rfl dX8_init_93 ?_
  refine gw_iload_n hk.1.1 3 rfl dX8_init_94 ?_
  refine gw_iload_n hk.1.1 2 rfl dX8_init_95 ?_
  refine gc_padded hk (st := [mI 8, .ref (kB K + 7)]) (a := 6562612) (b := 5) (r := 177190524) (inT1 90 rfl rfl) (by decide +kernel) (cIk rfl) (cIk rfl) (by decide) (Nat.le_of_ble_eq_true rfl) (by decide) (by decide) dX8_init_96 ?_
  refine gc_iast hk.1 (a := 7) (v := 177190524) (cIk rfl) (by decide) (by decide) kdC_7 (by omega) dX8_init_99 ?_
  refine gw_iinc hk.1.1 (lv' := [(1, mI 9), (5, mI 32), (4, mI 47), (3, mI 5), (2, mI 6562612), (0, .ref (kB K + 2))]) 4 rfl (Nat.le_of_ble_eq_true rfl) rfl dX8_init_100 ?_
  refine gw_iconst hk.1.1 (v := 0) rfl dX8_init_103 ?_
  refine gw_istore_n hk.1.1 rfl (lv' := [(2, mI 0), (1, mI 9), (5, mI 32), (4, mI 47), (3, mI 5), (0, .ref (kB K + 2))]) (Nat.le_of_ble_eq_true rfl) rfl dX8_init_104 ?_
  refine gw_iconst hk.1.1 (v := 0) rfl dX8_init_105 ?_
  refine gw_istore_n hk.1.1 rfl (lv' := [(3, mI 0), (2, mI 0), (1, mI 9), (5, mI 32), (4, mI 47), (0, .ref (kB K + 2))]) (Nat.le_of_ble_eq_true rfl) rfl dX8_init_106 ?_
  refine gw_goto hk.1.1 dX8_init_107 ?_
  refine gw_iinc hk.1.1 (lv' := [(4, mI 48), (3, mI 0), (2, mI 0), (1, mI 9), (5, mI 32), (0, .ref (kB K + 2))]) 4 rfl (Nat.le_of_ble_eq_true rfl) rfl dX8_init_126 ?_
  refine gw_goto hk.1.1 dX8_init_129 ?_
  refine gw_iload hk.1.1 0 rfl dX8_init_57 ?_
  refine gc_ldcS hk dX8_init_59 ?_
  refine gc_jcall hk (st := [mI 48]) mf_J0_length_8abf5 (inT1 42 rfl rfl) (inT1 43 rfl rfl) (inT1 44 rfl rfl) (by decide) rfl (Nat.le_of_ble_eq_true rfl) rfl dX8_init_61 (met_len _) (by decide) (by decide) ?_
  refine gw_icmp_ge hk.1.1 (cIk rfl) (cIk rfl) dX8_init_64 (fun q => absurd q (by decide)) (fun _ => ?_)
  refine gw_iload_n hk.1.1 3 rfl dX8_init_67 ?_
  refine gw_bipush hk.1.1 (v := 30) rfl dX8_init_68 ?_
  refine gw_icmp_ge hk.1.1 (cIk rfl) (cIk rfl) dX8_init_70 (fun q => absurd q (by decide)) (fun _ => ?_)
  refine gc_ldcS hk dX8_init_73 ?_
  refine gw_iload hk.1.1 0 rfl dX8_init_75 ?_
  refine gc_jcall hk (st := []) mf_J0_charAt_5068e (inT1 52 rfl rfl) (inT1 53 rfl rfl) (inT1 54 rfl rfl) (by decide) rfl (Nat.le_of_ble_eq_true rfl) rfl dX8_init_77 (met_cha (i := 48) (x := 109) _ (cIk rfl) (by decide) (by decide) rfl) (by decide) (by decide) ?_
  refine gw_istore hk.1.1 (lv' := [(5, mI 109), (4, mI 48), (3, mI 0), (2, mI 0), (1, mI 9), (0, .ref (kB K + 2))]) (Nat.le_of_ble_eq_true rfl) rfl dX8_init_80 ?_
  refine gw_iload hk.1.1 0 rfl dX8_init_82 ?_
  refine gw_bipush hk.1.1 (v := 32) rfl dX8_init_84 ?_
  refine gw_icmp_ne hk.1.1 (cIk rfl) (cIk rfl) dX8_init_86 (fun _ => ?_) (fun q => absurd (by decide) q)
  refine gw_iload_n hk.1.1 3 rfl dX8_init_110 ?_
  refine gw_bipush hk.1.1 (v := 27) rfl dX8_init_111 ?_
  refine gw_imul hk.1.1 dX8_init_113 ?_
  refine gw_iload hk.1.1 0 rfl dX8_init_114 ?_
  refine gw_iadd hk.1.1 dX8_init_116 ?_
  refine gw_bipush hk.1.1 (v := 97) rfl dX8_init_117 ?_
  refine gw_isub hk.1.1 dX8_init_119 ?_
  refine gw_iconst hk.1.1 (v := 1) rfl dX8_init_120 ?_
  refine gw_iadd hk.1.1 dX8_init_121 ?_
  refine gw_top (y := 13) (by decide) ?_
  refine gw_istore_n hk.1.1 rfl (lv' := [(2, mI 13), (5, mI 109), (4, mI 48), (3, mI 0), (1, mI 9), (0, .ref (kB K + 2))]) (Nat.le_of_ble_eq_true rfl) rfl dX8_init_122 ?_
  refine gw_iinc hk.1.1 (lv' := [(3, mI 1), (2, mI 13), (5, mI 109), (4, mI 48), (1, mI 9), (0, .ref (kB K + 2))]) 3 rfl (Nat.le_of_ble_eq_true rfl) rfl dX8_init_123 ?_
  refine gw_iinc hk.1.1 (lv' := [(4, mI 49), (3, mI 1), (2, mI 13), (5, mI 109), (1, mI 9), (0, .ref (kB K + 2))]) 3 rfl (Nat.le_of_ble_eq_true rfl) rfl dX8_init_126 ?_
  refine gw_goto hk.1.1 dX8_init_129 ?_
  refine gw_iload hk.1.1 0 rfl dX8_init_57 ?_
  refine gc_ldcS hk dX8_init_59 ?_
  refine gc_jcall hk (st := [mI 49]) mf_J0_length_8abf5 (inT1 42 rfl rfl) (inT1 43 rfl rfl) (inT1 44 rfl rfl) (by decide) rfl (Nat.le_of_ble_eq_true rfl) rfl dX8_init_61 (met_len _) (by decide) (by decide) ?_
  refine gw_icmp_ge hk.1.1 (cIk rfl) (cIk rfl) dX8_init_64 (fun q => absurd q (by decide)) (fun _ => ?_)
  refine gw_iload_n hk.1.1 4 rfl dX8_init_67 ?_
  refine gw_bipush hk.1.1 (v := 30) rfl dX8_init_68 ?_
  refine gw_icmp_ge hk.1.1 (cIk rfl) (cIk rfl) dX8_init_70 (fun q => absurd q (by decide)) (fun _ => ?_)
  refine gc_ldcS hk dX8_init_73 ?_
  refine gw_iload hk.1.1 0 rfl dX8_init_75 ?_
  refine gc_jcall hk (st := []) mf_J0_charAt_5068e (inT1 52 rfl rfl) (inT1 53 rfl rfl) (inT1 54 rfl rfl) (by decide) rfl (Nat.le_of_ble_eq_true rfl) rfl dX8_init_77 (met_cha (i := 49) (x := 97) _ (cIk rfl) (by decide) (by decide) rfl) (by decide) (by decide) ?_
  refine gw_istore hk.1.1 (lv' := [(5, mI 97), (4, mI 49), (3, mI 1), (2, mI 13), (1, mI 9), (0, .ref (kB K + 2))]) (Nat.le_of_ble_eq_true rfl) rfl dX8_init_80 ?_
  refine gw_iload hk.1.1 0 rfl dX8_init_82 ?_
  refine gw_bipush hk.1.1 (v := 32) rfl dX8_init_84 ?_
  refine gw_icmp_ne hk.1.1 (cIk rfl) (cIk rfl) dX8_init_86 (fun _ => ?_) (fun q => absurd (by decide) q)
  refine gw_iload_n hk.1.1 3 rfl dX8_init_110 ?_
  refine gw_bipush hk.1.1 (v := 27) rfl dX8_init_111 ?_
  refine gw_imul hk.1.1 dX8_init_113 ?_
  refine gw_iload hk.1.1 0 rfl dX8_init_114 ?_
  refine gw_iadd hk.1.1 dX8_init_116 ?_
  refine gw_bipush hk.1.1 (v := 97) rfl dX8_init_117 ?_
  refine gw_isub hk.1.1 dX8_init_119 ?_
  refine gw_iconst hk.1.1 (v := 1) rfl dX8_init_120 ?_
  refine gw_iadd hk.1.1 dX8_init_121 ?_
  refine gw_top (y := 352) (by decide) ?_
  refine gw_istore_n hk.1.1 rfl (lv' := [(2, mI 352), (5, mI 97), (4, mI 49), (3, mI 1), (1, mI 9), (0, .ref (kB K + 2))]) (Nat.le_of_ble_eq_true rfl) rfl dX8_init_122 ?_
  refine gw_iinc hk.1.1 (lv' := [(3, mI 2), (2, mI 352), (5, mI 97), (4, mI 49), (1, mI 9), (0, .ref (kB K + 2))]) 3 rfl (Nat.le_of_ble_eq_true rfl) rfl dX8_init_123 ?_
  refine gw_iinc hk.1.1 (lv' := [(4, mI 50), (3, mI 2), (2, mI 352), (5, mI 97), (1, mI 9), (0, .ref (kB K + 2))]) 3 rfl (Nat.le_of_ble_eq_true rfl) rfl dX8_init_126 ?_
  refine gw_goto hk.1.1 dX8_init_129 ?_
  refine gw_iload hk.1.1 0 rfl dX8_init_57 ?_
  refine gc_ldcS hk dX8_init_59 ?_
  refine gc_jcall hk (st := [mI 50]) mf_J0_length_8abf5 (inT1 42 rfl rfl) (inT1 43 rfl rfl) (inT1 44 rfl rfl) (by decide) rfl (Nat.le_of_ble_eq_true rfl) rfl dX8_init_61 (met_len _) (by decide) (by decide) ?_
  refine gw_icmp_ge hk.1.1 (cIk rfl) (cIk rfl) dX8_init_64 (fun q => absurd q (by decide)) (fun _ => ?_)
  refine gw_iload_n hk.1.1 4 rfl dX8_init_67 ?_
  refine gw_bipush hk.1.1 (v := 30) rfl dX8_init_68 ?_
  refine gw_icmp_ge hk.1.1 (cIk rfl) (cIk rfl) dX8_init_70 (fun q => absurd q (by decide)) (fun _ => ?_)
  refine gc_ldcS hk dX8_init_73 ?_
  refine gw_iload hk.1.1 0 rfl dX8_init_75 ?_
  refine gc_jcall hk (st := []) mf_J0_charAt_5068e (inT1 52 rfl rfl) (inT1 53 rfl rfl) (inT1 54 rfl rfl) (by decide) rfl (Nat.le_of_ble_eq_true rfl) rfl dX8_init_77 (met_cha (i := 50) (x := 121) _ (cIk rfl) (by decide) (by decide) rfl) (by decide) (by decide) ?_
  refine gw_istore hk.1.1 (lv' := [(5, mI 121), (4, mI 50), (3, mI 2), (2, mI 352), (1, mI 9), (0, .ref (kB K + 2))]) (Nat.le_of_ble_eq_true rfl) rfl dX8_init_80 ?_
  refine gw_iload hk.1.1 0 rfl dX8_init_82 ?_
  refine gw_bipush hk.1.1 (v := 32) rfl dX8_init_84 ?_
  refine gw_icmp_ne hk.1.1 (cIk rfl) (cIk rfl) dX8_init_86 (fun _ => ?_) (fun q => absurd (by decide) q)
  refine gw_iload_n hk.1.1 3 rfl dX8_init_110 ?_
  refine gw_bipush hk.1.1 (v := 27) rfl dX8_init_111 ?_
  refine gw_imul hk.1.1 dX8_init_113 ?_
  refine gw_iload hk.1.1 0 rfl dX8_init_114 ?_
  refine gw_iadd hk.1.1 dX8_init_116 ?_
  refine gw_bipush hk.1.1 (v := 97) rfl dX8_init_117 ?_
  refine gw_isub hk.1.1 dX8_init_119 ?_
  refine gw_iconst hk.1.1 (v := 1) rfl dX8_init_120 ?_
  refine gw_iadd hk.1.1 dX8_init_121 ?_
  refine gw_top (y := 9529) (by decide) ?_
  refine gw_istore_n hk.1.1 rfl (lv' := [(2, mI 9529), (5, mI 121), (4, mI 50), (3, mI 2), (1, mI 9), (0, .ref (kB K + 2))]) (Nat.le_of_ble_eq_true rfl) rfl dX8_init_122 ?_
  refine gw_iinc hk.1.1 (lv' := [(3, mI 3), (2, mI 9529), (5, mI 121), (4, mI 50), (1, mI 9), (0, .ref (kB K + 2))]) 3 rfl (Nat.le_of_ble_eq_true rfl) rfl dX8_init_123 ?_
  refine gw_iinc hk.1.1 (lv' := [(4, mI 51), (3, mI 3), (2, mI 9529), (5, mI 121), (1, mI 9), (0, .ref (kB K + 2))]) 3 rfl (Nat.le_of_ble_eq_true rfl) rfl dX8_init_126 ?_
  refine gw_goto hk.1.1 dX8_init_129 ?_
  refine gw_iload hk.1.1 0 rfl dX8_init_57 ?_
  refine gc_ldcS hk dX8_init_59 ?_
  refine gc_jcall hk (st := [mI 51]) mf_J0_length_8abf5 (inT1 42 rfl rfl) (inT1 43 rfl rfl) (inT1 44 rfl rfl) (by decide) rfl (Nat.le_of_ble_eq_true rfl) rfl dX8_init_61 (met_len _) (by decide) (by decide) ?_
  refine gw_icmp_ge hk.1.1 (cIk rfl) (cIk rfl) dX8_init_64 (fun q => absurd q (by decide)) (fun _ => ?_)
  refine gw_iload_n hk.1.1 4 rfl dX8_init_67 ?_
  refine gw_bipush hk.1.1 (v := 30) rfl dX8_init_68 ?_
  refine gw_icmp_ge hk.1.1 (cIk rfl) (cIk rfl) dX8_init_70 (fun q => absurd q (by decide)) (fun _ => ?_)
  refine gc_ldcS hk dX8_init_73 ?_
  refine gw_iload hk.1.1 0 rfl dX8_init_75 ?_
  refine gc_jcall hk (st := []) mf_J0_charAt_5068e (inT1 52 rfl rfl) (inT1 53 rfl rfl) (inT1 54 rfl rfl) (by decide) rfl (Nat.le_of_ble_eq_true rfl) rfl dX8_init_77 (met_cha (i := 51) (x := 32) _ (cIk rfl) (by decide) (by decide) rfl) (by decide) (by decide) ?_
  refine gw_istore hk.1.1 (lv' := [(5, mI 32), (4, mI 51), (3, mI 3), (2, mI 9529), (1, mI 9), (0, .ref (kB K + 2))]) (Nat.le_of_ble_eq_true rfl) rfl dX8_init_80 ?_
  refine gw_iload hk.1.1 0 rfl dX8_init_82 ?_
  refine gw_bipush hk.1.1 (v := 32) rfl dX8_init_84 ?_
  refine gw_icmp_ne hk.1.1 (cIk rfl) (cIk rfl) dX8_init_86 (fun q => absurd q (by decide)) (fun _ => ?_)
  refine gw_aload_n hk.1.1 5 rfl dX8_init_89 ?_
  refine gc_get2 hk.1 (k := 7) (o := 2) fgc_X8_24 rfl kdC_2 (by omega) rfl rfl dX8_init_90 ?_
  refine gw_iload_n hk.1.1 4 rfl dX8_init_93 ?_
  refine gw_iload_n hk.1.1 3 rfl dX8_init_94 ?_
  refine gw_iload_n hk.1.1 2 rfl dX8_init_95 ?_
  refine gc_padded hk (st := [mI 9, .ref (kB K + 7)]) (a := 9529) (b := 3) (r := 187559307) (inT1 90 rfl rfl) (by decide +kernel) (cIk rfl) (cIk rfl) (by decide) (Nat.le_of_ble_eq_true rfl) (by decide) (by decide) dX8_init_96 ?_
  refine gc_iast hk.1 (a := 7) (v := 187559307) (cIk rfl) (by decide) (by decide) kdC_7 (by omega) dX8_init_99 ?_
  refine gw_iinc hk.1.1 (lv' := [(1, mI 10), (5, mI 32), (4, mI 51), (3, mI 3), (2, mI 9529), (0, .ref (kB K + 2))]) 4 rfl (Nat.le_of_ble_eq_true rfl) rfl dX8_init_100 ?_
  refine gw_iconst hk.1.1 (v := 0) rfl dX8_init_103 ?_
  refine gw_istore_n hk.1.1 rfl (lv' := [(2, mI 0), (1, mI 10), (5, mI 32), (4, mI 51), (3, mI 3), (0, .ref (kB K + 2))]) (Nat.le_of_ble_eq_true rfl) rfl dX8_init_104 ?_
  refine gw_iconst hk.1.1 (v := 0) rfl dX8_init_105 ?_
  refine gw_istore_n hk.1.1 rfl (lv' := [(3, mI 0), (2, mI 0), (1, mI 10), (5, mI 32), (4, mI 51), (0, .ref (kB K + 2))]) (Nat.le_of_ble_eq_true rfl) rfl dX8_init_106 ?_
  refine gw_goto hk.1.1 dX8_init_107 ?_
  refine gw_iinc hk.1.1 (lv' := [(4, mI 52), (3, mI 0), (2, mI 0), (1, mI 10), (5, mI 32), (0, .ref (kB K + 2))]) 4 rfl (Nat.le_of_ble_eq_true rfl) rfl dX8_init_126 ?_
  refine gw_goto hk.1.1 dX8_init_129 ?_
  refine gw_iload hk.1.1 0 rfl dX8_init_57 ?_
  refine gc_ldcS hk dX8_init_59 ?_
  refine gc_jcall hk (st := [mI 52]) mf_J0_length_8abf5 (inT1 42 rfl rfl) (inT1 43 rfl rfl) (inT1 44 rfl rfl) (by decide) rfl (Nat.le_of_ble_eq_true rfl) rfl dX8_init_61 (met_len _) (by decide) (by decide) ?_
  refine gw_icmp_ge hk.1.1 (cIk rfl) (cIk rfl) dX8_init_64 (fun q => absurd q (by decide)) (fun _ => ?_)
  refine gw_iload_n hk.1.1 3 rfl dX8_init_67 ?_
  refine gw_bipush hk.1.1 (v := 30) rfl dX8_init_68 ?_
  refine gw_icmp_ge hk.1.1 (cIk rfl) (cIk rfl) dX8_init_70 (fun q => absurd q (by decide)) (fun _ => ?_)
  refine gc_ldcS hk dX8_init_73 ?_
  refine gw_iload hk.1.1 0 rfl dX8_init_75 ?_
  refine gc_jcall hk (st := []) mf_J0_charAt_5068e (inT1 52 rfl rfl) (inT1 53 rfl rfl) (inT1 54 rfl rfl) (by decide) rfl (Nat.le_of_ble_eq_true rfl) rfl dX8_init_77 (met_cha (i := 52) (x := 117) _ (cIk rfl) (by decide) (by decide) rfl) (by decide) (by decide) ?_
  refine gw_istore hk.1.1 (lv' := [(5, mI 117), (4, mI 52), (3, mI 0), (2, mI 0), (1, mI 10), (0, .ref (kB K + 2))]) (Nat.le_of_ble_eq_true rfl) rfl dX8_init_80 ?_
  refine gw_iload hk.1.1 0 rfl dX8_init_82 ?_
  refine gw_bipush hk.1.1 (v := 32) rfl dX8_init_84 ?_
  refine gw_icmp_ne hk.1.1 (cIk rfl) (cIk rfl) dX8_init_86 (fun _ => ?_) (fun q => absurd (by decide) q)
  refine gw_iload_n hk.1.1 3 rfl dX8_init_110 ?_
  refine gw_bipush hk.1.1 (v := 27) rfl dX8_init_111 ?_
  refine gw_imul hk.1.1 dX8_init_113 ?_
  refine gw_iload hk.1.1 0 rfl dX8_init_114 ?_
  refine gw_iadd hk.1.1 dX8_init_116 ?_
  refine gw_bipush hk.1.1 (v := 97) rfl dX8_init_117 ?_
  refine gw_isub hk.1.1 dX8_init_119 ?_
  refine gw_iconst hk.1.1 (v := 1) rfl dX8_init_120 ?_
  refine gw_iadd hk.1.1 dX8_init_121 ?_
  refine gw_top (y := 21) (by decide) ?_
  refine gw_istore_n hk.1.1 rfl (lv' := [(2, mI 21), (5, mI 117), (4, mI 52), (3, mI 0), (1, mI 10), (0, .ref (kB K + 2))]) (Nat.le_of_ble_eq_true rfl) rfl dX8_init_122 ?_
  refine gw_iinc hk.1.1 (lv' := [(3, mI 1), (2, mI 21), (5, mI 117), (4, mI 52), (1, mI 10), (0, .ref (kB K + 2))]) 3 rfl (Nat.le_of_ble_eq_true rfl) rfl dX8_init_123 ?_
  refine gw_iinc hk.1.1 (lv' := [(4, mI 53), (3, mI 1), (2, mI 21), (5, mI 117), (1, mI 10), (0, .ref (kB K + 2))]) 3 rfl (Nat.le_of_ble_eq_true rfl) rfl dX8_init_126 ?_
  refine gw_goto hk.1.1 dX8_init_129 ?_
  refine gw_iload hk.1.1 0 rfl dX8_init_57 ?_
  refine gc_ldcS hk dX8_init_59 ?_
  refine gc_jcall hk (st := [mI 53]) mf_J0_length_8abf5 (inT1 42 rfl rfl) (inT1 43 rfl rfl) (inT1 44 rfl rfl) (by decide) rfl (Nat.le_of_ble_eq_true rfl) rfl dX8_init_61 (met_len _) (by decide) (by decide) ?_
  refine gw_icmp_ge hk.1.1 (cIk rfl) (cIk rfl) dX8_init_64 (fun q => absurd q (by decide)) (fun _ => ?_)
  refine gw_iload_n hk.1.1 4 rfl dX8_init_67 ?_
  refine gw_bipush hk.1.1 (v := 30) rfl dX8_init_68 ?_
  refine gw_icmp_ge hk.1.1 (cIk rfl) (cIk rfl) dX8_init_70 (fun q => absurd q (by decide)) (fun _ => ?_)
  refine gc_ldcS hk dX8_init_73 ?_
  refine gw_iload hk.1.1 0 rfl dX8_init_75 ?_
  refine gc_jcall hk (st := []) mf_J0_charAt_5068e (inT1 52 rfl rfl) (inT1 53 rfl rfl) (inT1 54 rfl rfl) (by decide) rfl (Nat.le_of_ble_eq_true rfl) rfl dX8_init_77 (met_cha (i := 53) (x := 115) _ (cIk rfl) (by decide) (by decide) rfl) (by decide) (by decide) ?_
  refine gw_istore hk.1.1 (lv' := [(5, mI 115), (4, mI 53), (3, mI 1), (2, mI 21), (1, mI 10), (0, .ref (kB K + 2))]) (Nat.le_of_ble_eq_true rfl) rfl dX8_init_80 ?_
  refine gw_iload hk.1.1 0 rfl dX8_init_82 ?_
  refine gw_bipush hk.1.1 (v := 32) rfl dX8_init_84 ?_
  refine gw_icmp_ne hk.1.1 (cIk rfl) (cIk rfl) dX8_init_86 (fun _ => ?_) (fun q => absurd (by decide) q)
  refine gw_iload_n hk.1.1 3 rfl dX8_init_110 ?_
  refine gw_bipush hk.1.1 (v := 27) rfl dX8_init_111 ?_
  refine gw_imul hk.1.1 dX8_init_113 ?_
  refine gw_iload hk.1.1 0 rfl dX8_init_114 ?_
  refine gw_iadd hk.1.1 dX8_init_116 ?_
  refine gw_bipush hk.1.1 (v := 97) rfl dX8_init_117 ?_
  refine gw_isub hk.1.1 dX8_init_119 ?_
  refine gw_iconst hk.1.1 (v := 1) rfl dX8_init_120 ?_
  refine gw_iadd hk.1.1 dX8_init_121 ?_
  refine gw_top (y := 586) (by decide) ?_
  refine gw_istore_n hk.1.1 rfl (lv' := [(2, mI 586), (5, mI 115), (4, mI 53), (3, mI 1), (1, mI 10), (0, .ref (kB K + 2))]) (Nat.le_of_ble_eq_true rfl) rfl dX8_init_122 ?_
  refine gw_iinc hk.1.1 (lv' := [(3, mI 2), (2, mI 586), (5, mI 115), (4, mI 53), (1, mI 10), (0, .ref (kB K + 2))]) 3 rfl (Nat.le_of_ble_eq_true rfl) rfl dX8_init_123 ?_
  refine gw_iinc hk.1.1 (lv' := [(4, mI 54), (3, mI 2), (2, mI 586), (5, mI 115), (1, mI 10), (0, .ref (kB K + 2))]) 3 rfl (Nat.le_of_ble_eq_true rfl) rfl dX8_init_126 ?_
  refine gw_goto hk.1.1 dX8_init_129 ?_
  refine gw_iload hk.1.1 0 rfl dX8_init_57 ?_
  refine gc_ldcS hk dX8_init_59 ?_
  refine gc_jcall hk (st := [mI 54]) mf_J0_length_8abf5 (inT1 42 rfl rfl) (inT1 43 rfl rfl) (inT1 44 rfl rfl) (by decide) rfl (Nat.le_of_ble_eq_true rfl) rfl dX8_init_61 (met_len _) (by decide) (by decide) ?_
  refine gw_icmp_ge hk.1.1 (cIk rfl) (cIk rfl) dX8_init_64 (fun q => absurd q (by decide)) (fun _ => ?_)
  refine gw_iload_n hk.1.1 4 rfl dX8_init_67 ?_
  refine gw_bipush hk.1.1 (v := 30) rfl dX8_init_68 ?_
  refine gw_icmp_ge hk.1.1 (cIk rfl) (cIk rfl) dX8_init_70 (fun q => absurd q (by decide)) (fun _ => ?_)
  refine gc_ldcS hk dX8_init_73 ?_
  refine gw_iload hk.1.1 0 rfl dX8_init_75 ?_
  refine gc_jcall hk (st := []) mf_J0_charAt_5068e (inT1 52 rfl rfl) (inT1 53 rfl rfl) (inT1 54 rfl rfl) (by decide) rfl (Nat.le_of_ble_eq_true rfl) rfl dX8_init_77 (met_cha (i := 54) (x := 104) _ (cIk rfl) (by decide) (by decide) rfl) (by decide) (by decide) ?_
  refine gw_istore hk.1.1 (lv' := [(5, mI 104), (4, mI 54), (3, mI 2), (2, mI 586), (1, mI 10), (0, .ref (kB K + 2))]) (Nat.le_of_ble_eq_true rfl) rfl dX8_init_80 ?_
  refine gw_iload hk.1.1 0 rfl dX8_init_82 ?_
  refine gw_bipush hk.1.1 (v := 32) rfl dX8_init_84 ?_
  refine gw_icmp_ne hk.1.1 (cIk rfl) (cIk rfl) dX8_init_86 (fun _ => ?_) (fun q => absurd (by decide) q)
  refine gw_iload_n hk.1.1 3 rfl dX8_init_110 ?_
  refine gw_bipush hk.1.1 (v := 27) rfl dX8_init_111 ?_
  refine gw_imul hk.1.1 dX8_init_113 ?_
  refine gw_iload hk.1.1 0 rfl dX8_init_114 ?_
  refine gw_iadd hk.1.1 dX8_init_116 ?_
  refine gw_bipush hk.1.1 (v := 97) rfl dX8_init_117 ?_
  refine gw_isub hk.1.1 dX8_init_119 ?_
  refine gw_iconst hk.1.1 (v := 1) rfl dX8_init_120 ?_
  refine gw_iadd hk.1.1 dX8_init_121 ?_
  refine gw_top (y := 15830) (by decide) ?_
  refine gw_istore_n hk.1.1 rfl (lv' := [(2, mI 15830), (5, mI 104), (4, mI 54), (3, mI 2), (1, mI 10), (0, .ref (kB K + 2))]) (Nat.le_of_ble_eq_true rfl) rfl dX8_init_122 ?_
  refine gw_iinc hk.1.1 (lv' := [(3, mI 3), (2, mI 15830), (5, mI 104), (4, mI 54), (1, mI 10), (0, .ref (kB K + 2))]) 3 rfl (Nat.le_of_ble_eq_true rfl) rfl dX8_init_123 ?_
  refine gw_iinc hk.1.1 (lv' := [(4, mI 55), (3, mI 3), (2, mI 15830), (5, mI 104), (1, mI 10), (0, .ref (kB K + 2))]) 3 rfl (Nat.le_of_ble_eq_true rfl) rfl dX8_init_126 ?_
  refine gw_goto hk.1.1 dX8_init_129 ?_
  refine gw_iload hk.1.1 0 rfl dX8_init_57 ?_
  refine gc_ldcS hk dX8_init_59 ?_
  refine gc_jcall hk (st := [mI 55]) mf_J0_length_8abf5 (inT1 42 rfl rfl) (inT1 43 rfl rfl) (inT1 44 rfl rfl) (by decide) rfl (Nat.le_of_ble_eq_true rfl) rfl dX8_init_61 (met_len _) (by decide) (by decide) ?_
  refine gw_icmp_ge hk.1.1 (cIk rfl) (cIk rfl) dX8_init_64 (fun q => absurd q (by decide)) (fun _ => ?_)
  refine gw_iload_n hk.1.1 4 rfl dX8_init_67 ?_
  refine gw_bipush hk.1.1 (v := 30) rfl dX8_init_68 ?_
  refine gw_icmp_ge hk.1.1 (cIk rfl) (cIk rfl) dX8_init_70 (fun q => absurd q (by decide)) (fun _ => ?_)
  refine gc_ldcS hk dX8_init_73 ?_
  refine gw_iload hk.1.1 0 rfl dX8_init_75 ?_
  refine gc_jcall hk (st := []) mf_J0_charAt_5068e (inT1 52 rfl rfl) (inT1 53 rfl rfl) (inT1 54 rfl rfl) (by decide) rfl (Nat.le_of_ble_eq_true rfl) rfl dX8_init_77 (met_cha (i := 55) (x := 101) _ (cIk rfl) (by decide) (by decide) rfl) (by decide) (by decide) ?_
  refine gw_istore hk.1.1 (lv' := [(5, mI 101), (4, mI 55), (3, mI 3), (2, mI 15830), (1, mI 10), (0, .ref (kB K + 2))]) (Nat.le_of_ble_eq_true rfl) rfl dX8_init_80 ?_
  refine gw_iload hk.1.1 0 rfl dX8_init_82 ?_
  refine gw_bipush hk.1.1 (v := 32) rfl dX8_init_84 ?_
  refine gw_icmp_ne hk.1.1 (cIk rfl) (cIk rfl) dX8_init_86 (fun _ => ?_) (fun q => absurd (by decide) q)
  refine gw_iload_n hk.1.1 3 rfl dX8_init_110 ?_
  refine gw_bipush hk.1.1 (v := 27) rfl dX8_init_111 ?_
  refine gw_imul hk.1.1 dX8_init_113 ?_
  refine gw_iload hk.1.1 0 rfl dX8_init_114 ?_
  refine gw_iadd hk.1.1 dX8_init_116 ?_
  refine gw_bipush hk.1.1 (v := 97) rfl dX8_init_117 ?_
  refine gw_isub hk.1.1 dX8_init_119 ?_
  refine gw_iconst hk.1.1 (v := 1) rfl dX8_init_120 ?_
  refine gw_iadd hk.1.1 dX8_init_121 ?_
  refine gw_top (y := 427415) (by decide) ?_
  refine gw_istore_n hk.1.1 rfl (lv' := [(2, mI 427415), (5, mI 101), (4, mI 55), (3, mI 3), (1, mI 10), (0, .ref (kB K + 2))]) (Nat.le_of_ble_eq_true rfl) rfl dX8_init_122 ?_
  refine gw_iinc hk.1.1 (lv' := [(3, mI 4), (2, mI 427415), (5, mI 101), (4, mI 55), (1, mI 10), (0, .ref (kB K + 2))]) 3 rfl (Nat.le_of_ble_eq_true rfl) rfl dX8_init_123 ?_
  refine gw_iinc hk.1.1 (lv' := [(4, mI 56), (3, mI 4), (2, mI 427415), (5, mI 101), (1, mI 10), (0, .ref (kB K + 2))]) 3 rfl (Nat.le_of_ble_eq_true rfl) rfl dX8_init_126 ?_
  refine gw_goto hk.1.1 dX8_init_129 ?_
  refine gw_iload hk.1.1 0 rfl dX8_init_57 ?_
  refine gc_ldcS hk dX8_init_59 ?_
  refine gc_jcall hk (st := [mI 56]) mf_J0_length_8abf5 (inT1 42 rfl rfl) (inT1 43 rfl rfl) (inT1 44 rfl rfl) (by decide) rfl (Nat.le_of_ble_eq_true rfl) rfl dX8_init_61 (met_len _) (by decide) (by decide) ?_
  refine gw_icmp_ge hk.1.1 (cIk rfl) (cIk rfl) dX8_init_64 (fun q => absurd q (by decide)) (fun _ => ?_)
  refine gw_iload_n hk.1.1 4 rfl dX8_init_67 ?_
  refine gw_bipush hk.1.1 (v := 30) rfl dX8_init_68 ?_
  refine gw_icmp_ge hk.1.1 (cIk rfl) (cIk rfl) dX8_init_70 (fun q => absurd q (by decide)) (fun _ => ?_)
  refine gc_ldcS hk dX8_init_73 ?_
  refine gw_iload hk.1.1 0 rfl dX8_init_75 ?_
  refine gc_jcall hk (st := []) mf_J0_charAt_5068e (inT1 52 rfl rfl) (inT1 53 rfl rfl) (inT1 54 rfl rfl) (by decide) rfl (Nat.le_of_ble_eq_true rfl) rfl dX8_init_77 (met_cha (i := 56) (x := 114) _ (cIk rfl) (by decide) (by decide) rfl) (by decide) (by decide) ?_
  refine gw_istore hk.1.1 (lv' := [(5, mI 114), (4, mI 56), (3, mI 4), (2, mI 427415), (1, mI 10), (0, .ref (kB K + 2))]) (Nat.le_of_ble_eq_true rfl) rfl dX8_init_80 ?_
  refine gw_iload hk.1.1 0 rfl dX8_init_82 ?_
  refine gw_bipush hk.1.1 (v := 32) rfl dX8_init_84 ?_
  refine gw_icmp_ne hk.1.1 (cIk rfl) (cIk rfl) dX8_init_86 (fun _ => ?_) (fun q => absurd (by decide) q)
  refine gw_iload_n hk.1.1 3 rfl dX8_init_110 ?_
  refine gw_bipush hk.1.1 (v := 27) rfl dX8_init_111 ?_
  refine gw_imul hk.1.1 dX8_init_113 ?_
  refine gw_iload hk.1.1 0 rfl dX8_init_114 ?_
  refine gw_iadd hk.1.1 dX8_init_116 ?_
  refine gw_bipush hk.1.1 (v := 97) rfl dX8_init_117 ?_
  refine gw_isub hk.1.1 dX8_init_119 ?_
  refine gw_iconst hk.1.1 (v := 1) rfl dX8_init_120 ?_
  refine gw_iadd hk.1.1 dX8_init_121 ?_
  refine gw_top (y := 11540223) (by decide) ?_
  refine gw_istore_n hk.1.1 rfl (lv' := [(2, mI 11540223), (5, mI 114), (4, mI 56), (3, mI 4), (1, mI 10), (0, .ref (kB K + 2))]) (Nat.le_of_ble_eq_true rfl) rfl dX8_init_122 ?_
  refine gw_iinc hk.1.1 (lv' := [(3, mI 5), (2, mI 11540223), (5, mI 114), (4, mI 56), (1, mI 10), (0, .ref (kB K + 2))]) 3 rfl (Nat.le_of_ble_eq_true rfl) rfl dX8_init_123 ?_
  refine gw_iinc hk.1.1 (lv' := [(4, mI 57), (3, mI 5), (2, mI 11540223), (5, mI 114), (1, mI 10), (0, .ref (kB K + 2))]) 3 rfl (Nat.le_of_ble_eq_true rfl) rfl dX8_init_126 ?_
  refine gw_goto hk.1.1 dX8_init_129 ?_
  refine gw_iload hk.1.1 0 rfl dX8_init_57 ?_
  refine gc_ldcS hk dX8_init_59 ?_
  refine gc_jcall hk (st := [mI 57]) mf_J0_length_8abf5 (inT1 42 rfl rfl) (inT1 43 rfl rfl) (inT1 44 rfl rfl) (by decide) rfl (Nat.le_of_ble_eq_true rfl) rfl dX8_init_61 (met_len _) (by decide) (by decide) ?_
  refine gw_icmp_ge hk.1.1 (cIk rfl) (cIk rfl) dX8_init_64 (fun q => absurd q (by decide)) (fun _ => ?_)
  refine gw_iload_n hk.1.1 4 rfl dX8_init_67 ?_
  refine gw_bipush hk.1.1 (v := 30) rfl dX8_init_68 ?_
  refine gw_icmp_ge hk.1.1 (cIk rfl) (cIk rfl) dX8_init_70 (fun q => absurd q (by decide)) (fun _ => ?_)
  refine gc_ldcS hk dX8_init_73 ?_
  refine gw_iload hk.1.1 0 rfl dX8_init_75 ?_
  refine gc_jcall hk (st := []) mf_J0_charAt_5068e (inT1 52 rfl rfl) (inT1 53 rfl rfl) (inT1 54 rfl rfl) (by decide) rfl (Nat.le_of_ble_eq_true rfl) rfl dX8_init_77 (met_cha (i := 57) (x := 115) _ (cIk rfl) (by decide) (by decide) rfl) (by decide) (by decide) ?_
  refine gw_istore hk.1.1 (lv' := [(5, mI 115), (4, mI 57), (3, mI 5), (2, mI 11540223), (1, mI 10), (0, .ref (kB K + 2))]) (Nat.le_of_ble_eq_true rfl) rfl dX8_init_80 ?_
  refine gw_iload hk.1.1 0 rfl dX8_init_82 ?_
  refine gw_bipush hk.1.1 (v := 32) rfl dX8_init_84 ?_
  refine gw_icmp_ne hk.1.1 (cIk rfl) (cIk rfl) dX8_init_86 (fun _ => ?_) (fun q => absurd (by decide) q)
  refine gw_iload_n hk.1.1 3 rfl dX8_init_110 ?_
  refine gw_bipush hk.1.1 (v := 27) rfl dX8_init_111 ?_
  refine gw_imul hk.1.1 dX8_init_113 ?_
  refine gw_iload hk.1.1 0 rfl dX8_init_114 ?_
  refine gw_iadd hk.1.1 dX8_init_116 ?_
  refine gw_bipush hk.1.1 (v := 97) rfl dX8_init_117 ?_
  refine gw_isub hk.1.1 dX8_init_119 ?_
  refine gw_iconst hk.1.1 (v := 1) rfl dX8_init_120 ?_
  refine gw_iadd hk.1.1 dX8_init_121 ?_
  refine gw_top (y := 311586040) (by decide) ?_
  refine gw_istore_n hk.1.1 rfl (lv' := [(2, mI 311586040), (5, mI 115), (4, mI 57), (3, mI 5), (1, mI 10), (0, .ref (kB K + 2))]) (Nat.le_of_ble_eq_true rfl) rfl dX8_init_122 ?_
  refine gw_iinc hk.1.1 (lv' := [(3, mI 6), (2, mI 311586040), (5, mI 115), (4, mI 57), (1, mI 10), (0, .ref (kB K + 2))]) 3 rfl (Nat.le_of_ble_eq_true rfl) rfl dX8_init_123 ?_
  refine gw_iinc hk.1.1 (lv' := [(4, mI 58), (3, mI 6), (2, mI 311586040), (5, mI 115), (1, mI 10), (0, .ref (kB K + 2))]) 3 rfl (Nat.le_of_ble_eq_true rfl) rfl dX8_init_126 ?_
  refine gw_goto hk.1.1 dX8_init_129 ?_
  refine gw_iload hk.1.1 0 rfl dX8_init_57 ?_
  refine gc_ldcS hk dX8_init_59 ?_
  refine gc_jcall hk (st := [mI 58]) mf_J0_length_8abf5 (inT1 42 rfl rfl) (inT1 43 rfl rfl) (inT1 44 rfl rfl) (by decide) rfl (Nat.le_of_ble_eq_true rfl) rfl dX8_init_61 (met_len _) (by decide) (by decide) ?_
  refine gw_icmp_ge hk.1.1 (cIk rfl) (cIk rfl) dX8_init_64 (fun q => absurd q (by decide)) (fun _ => ?_)
  refine gw_iload_n hk.1.1 4 rfl dX8_init_67 ?_
  refine gw_bipush hk.1.1 (v := 30) rfl dX8_init_68 ?_
  refine gw_icmp_ge hk.1.1 (cIk rfl) (cIk rfl) dX8_init_70 (fun q => absurd q (by decide)) (fun _ => ?_)
  refine gc_ldcS hk dX8_init_73 ?_
  refine gw_iload hk.1.1 0 rfl dX8_init_75 ?_
  refine gc_jcall hk (st := []) mf_J0_charAt_5068e (inT1 52 rfl rfl) (inT1 53 rfl rfl) (inT1 54 rfl rfl) (by decide) rfl (Nat.le_of_ble_eq_true rfl) rfl dX8_init_77 (met_cha (i := 58) (x := 32) _ (cIk rfl) (by decide) (by decide) rfl) (by decide) (by decide) ?_
  refine gw_istore hk.1.1 (lv' := [(5, mI 32), (4, mI 58), (3, mI 6), (2, mI 311586040), (1, mI 10), (0, .ref (kB K + 2))]) (Nat.le_of_ble_eq_true rfl) rfl dX8_init_80 ?_
  refine gw_iload hk.1.1 0 rfl dX8_init_82 ?_
  refine gw_bipush hk.1.1 (v := 32) rfl dX8_init_84 ?_
  refine gw_icmp_ne hk.1.1 (cIk rfl) (cIk rfl) dX8_init_86 (fun q => absurd q (by decide)) (fun _ => ?_)
  refine gw_aload_n hk.1.1 5 rfl dX8_init_89 ?_
  refine gc_get2 hk.1 (k := 7) (o := 2) fgc_X8_24 rfl kdC_2 (by omega) rfl rfl dX8_init_90 ?_
  refine gw_iload_n hk.1.1 4 rfl dX8_init_93 ?_
  refine gw_iload_n hk.1.1 3 rfl dX8_init_94 ?_
  refine gw_iload_n hk.1.1 2 rfl dX8_init_95 ?_
  refine gc_padded hk (st := [mI 10, .ref (kB K + 7)]) (a := 311586040) (b := 6) (r := 311586040) (inT1 90 rfl rfl) (by decide +kernel) (cIk rfl) (cIk rfl) (by decide) (Nat.le_of_ble_eq_true rfl) (by decide) (by decide) dX8_init_96 ?_
  refine gc_iast hk.1 (a := 7) (v := 311586040) (cIk rfl) (by decide) (by decide) kdC_7 (by omega) dX8_init_99 ?_
  refine gw_iinc hk.1.1 (lv' := [(1, mI 11), (5, mI 32), (4, mI 58), (3, mI 6), (2, mI 311586040), (0, .ref (kB K + 2))]) 4 rfl (Nat.le_of_ble_eq_true rfl) rfl dX8_init_100 ?_
  refine gw_iconst hk.1.1 (v := 0) rfl dX8_init_103 ?_
  refine gw_istore_n hk.1.1 rfl (lv' := [(2, mI 0), (1, mI 11), (5, mI 32), (4, mI 58), (3, mI 6), (0, .ref (kB K + 2))]) (Nat.le_of_ble_eq_true rfl) rfl dX8_init_104 ?_
  refine gw_iconst hk.1.1 (v := 0) rfl dX8_init_105 ?_
  refine gw_istore_n hk.1.1 rfl (lv' := [(3, mI 0), (2, mI 0), (1, mI 11), (5, mI 32), (4, mI 58), (0, .ref (kB K + 2))]) (Nat.le_of_ble_eq_true rfl) rfl dX8_init_106 ?_
  refine gw_goto hk.1.1 dX8_init_107 ?_
  refine gw_iinc hk.1.1 (lv' := [(4, mI 59), (3, mI 0), (2, mI 0), (1, mI 11), (5, mI 32), (0, .ref (kB K + 2))]) 4 rfl (Nat.le_of_ble_eq_true rfl) rfl dX8_init_126 ?_
  refine gw_goto hk.1.1 dX8_init_129 ?_
  refine gw_iload hk.1.1 0 rfl dX8_init_57 ?_
  refine gc_ldcS hk dX8_init_59 ?_
  refine gc_jcall hk (st := [mI 59]) mf_J0_length_8abf5 (inT1 42 rfl rfl) (inT1 43 rfl rfl) (inT1 44 rfl rfl) (by decide) rfl (Nat.le_of_ble_eq_true rfl) rfl dX8_init_61 (met_len _) (by decide) (by decide) ?_
  refine gw_icmp_ge hk.1.1 (cIk rfl) (cIk rfl) dX8_init_64 (fun q => absurd q (by decide)) (fun _ => ?_)
  refine gw_iload_n hk.1.1 3 rfl dX8_init_67 ?_
  refine gw_bipush hk.1.1 (v := 30) rfl dX8_init_68 ?_
  refine gw_icmp_ge hk.1.1 (cIk rfl) (cIk rfl) dX8_init_70 (fun q => absurd q (by decide)) (fun _ => ?_)
  refine gc_ldcS hk dX8_init_73 ?_
  refine gw_iload hk.1.1 0 rfl dX8_init_75 ?_
  refine gc_jcall hk (st := []) mf_J0_charAt_5068e (inT1 52 rfl rfl) (inT1 53 rfl rfl) (inT1 54 rfl rfl) (by decide) rfl (Nat.le_of_ble_eq_true rfl) rfl dX8_init_77 (met_cha (i := 59) (x := 98) _ (cIk rfl) (by decide) (by decide) rfl) (by decide) (by decide) ?_
  refine gw_istore hk.1.1 (lv' := [(5, mI 98), (4, mI 59), (3, mI 0), (2, mI 0), (1, mI 11), (0, .ref (kB K + 2))]) (Nat.le_of_ble_eq_true rfl) rfl dX8_init_80 ?_
  refine gw_iload hk.1.1 0 rfl dX8_init_82 ?_
  refine gw_bipush hk.1.1 (v := 32) rfl dX8_init_84 ?_
  refine gw_icmp_ne hk.1.1 (cIk rfl) (cIk rfl) dX8_init_86 (fun _ => ?_) (fun q => absurd (by decide) q)
  refine gw_iload_n hk.1.1 3 rfl dX8_init_110 ?_
  refine gw_bipush hk.1.1 (v := 27) rfl dX8_init_111 ?_
  refine gw_imul hk.1.1 dX8_init_113 ?_
  refine gw_iload hk.1.1 0 rfl dX8_init_114 ?_
  refine gw_iadd hk.1.1 dX8_init_116 ?_
  refine gw_bipush hk.1.1 (v := 97) rfl dX8_init_117 ?_
  refine gw_isub hk.1.1 dX8_init_119 ?_
  refine gw_iconst hk.1.1 (v := 1) rfl dX8_init_120 ?_
  refine gw_iadd hk.1.1 dX8_init_121 ?_
  refine gw_top (y := 2) (by decide) ?_
  refine gw_istore_n hk.1.1 rfl (lv' := [(2, mI 2), (5, mI 98), (4, mI 59), (3, mI 0), (1, mI 11), (0, .ref (kB K + 2))]) (Nat.le_of_ble_eq_true rfl) rfl dX8_init_122 ?_
  refine gw_iinc hk.1.1 (lv' := [(3, mI 1), (2, mI 2), (5, mI 98), (4, mI 59), (1, mI 11), (0, .ref (kB K + 2))]) 3 rfl (Nat.le_of_ble_eq_true rfl) rfl dX8_init_123 ?_
  refine gw_iinc hk.1.1 (lv' := [(4, mI 60), (3, mI 1), (2, mI 2), (5, mI 98), (1, mI 11), (0, .ref (kB K + 2))]) 3 rfl (Nat.le_of_ble_eq_true rfl) rfl dX8_init_126 ?_
  refine gw_goto hk.1.1 dX8_init_129 ?_
  refine gw_iload hk.1.1 0 rfl dX8_init_57 ?_
  refine gc_ldcS hk dX8_init_59 ?_
  refine gc_jcall hk (st := [mI 60]) mf_J0_length_8abf5 (inT1 42 rfl rfl) (inT1 43 rfl rfl) (inT1 44 rfl rfl) (by decide) rfl (Nat.le_of_ble_eq_true rfl) rfl dX8_init_61 (met_len _) (by decide) (by decide) ?_
  refine gw_icmp_ge hk.1.1 (cIk rfl) (cIk rfl) dX8_init_64 (fun q => absurd q (by decide)) (fun _ => ?_)
  refine gw_iload_n hk.1.1 4 rfl dX8_init_67 ?_
  refine gw_bipush hk.1.1 (v := 30) rfl dX8_init_68 ?_
  refine gw_icmp_ge hk.1.1 (cIk rfl) (cIk rfl) dX8_init_70 (fun q => absurd q (by decide)) (fun _ => ?_)
  refine gc_ldcS hk dX8_init_73 ?_
  refine gw_iload hk.1.1 0 rfl dX8_init_75 ?_
  refine gc_jcall hk (st := []) mf_J0_charAt_5068e (inT1 52 rfl rfl) (inT1 53 rfl rfl) (inT1 54 rfl rfl) (by decide) rfl (Nat.le_of_ble_eq_true rfl) rfl dX8_init_77 (met_cha (i := 60) (x := 111) _ (cIk rfl) (by decide) (by decide) rfl) (by decide) (by decide) ?_
  refine gw_istore hk.1.1 (lv' := [(5, mI 111), (4, mI 60), (3, mI 1), (2, mI 2), (1, mI 11), (0, .ref (kB K + 2))]) (Nat.le_of_ble_eq_true rfl) rfl dX8_init_80 ?_
  refine gw_iload hk.1.1 0 rfl dX8_init_82 ?_
  refine gw_bipush hk.1.1 (v := 32) rfl dX8_init_84 ?_
  refine gw_icmp_ne hk.1.1 (cIk rfl) (cIk rfl) dX8_init_86 (fun _ => ?_) (fun q => absurd (by decide) q)
  refine gw_iload_n hk.1.1 3 rfl dX8_init_110 ?_
  refine gw_bipush hk.1.1 (v := 27) rfl dX8_init_111 ?_
  refine gw_imul hk.1.1 dX8_init_113 ?_
  refine gw_iload hk.1.1 0 rfl dX8_init_114 ?_
  refine gw_iadd hk.1.1 dX8_init_116 ?_
  refine gw_bipush hk.1.1 (v := 97) rfl dX8_init_117 ?_
  refine gw_isub hk.1.1 dX8_init_119 ?_
  refine gw_iconst hk.1.1 (v := 1) rfl dX8_init_120 ?_
  refine gw_iadd hk.1.1 dX8_init_121 ?_
  refine gw_top (y := 69) (by decide) ?_
  refine gw_istore_n hk.1.1 rfl (lv' := [(2, mI 69), (5, mI 111), (4, mI 60), (3, mI 1), (1, mI 11), (0, .ref (kB K + 2))]) (Nat.le_of_ble_eq_true rfl) rfl dX8_init_122 ?_
  refine gw_iinc hk.1.1 (lv' := [(3, mI 2), (2, mI 69), (5, mI 111), (4, mI 60), (1, mI 11), (0, .ref (kB K + 2))]) 3 rfl (Nat.le_of_ble_eq_true rfl) rfl dX8_init_123 ?_
  refine gw_iinc hk.1.1 (lv' := [(4, mI 61), (3, mI 2), (2, mI 69), (5, mI 111), (1, mI 11), (0, .ref (kB K + 2))]) 3 rfl (Nat.le_of_ble_eq_true rfl) rfl dX8_init_126 ?_
  refine gw_goto hk.1.1 dX8_init_129 ?_
  refine gw_iload hk.1.1 0 rfl dX8_init_57 ?_
  refine gc_ldcS hk dX8_init_59 ?_
  refine gc_jcall hk (st := [mI 61]) mf_J0_length_8abf5 (inT1 42 rfl rfl) (inT1 43 rfl rfl) (inT1 44 rfl rfl) (by decide) rfl (Nat.le_of_ble_eq_true rfl) rfl dX8_init_61 (met_len _) (by decide) (by decide) ?_
  refine gw_icmp_ge hk.1.1 (cIk rfl) (cIk rfl) dX8_init_64 (fun q => absurd q (by decide)) (fun _ => ?_)
  refine gw_iload_n hk.1.1 4 rfl dX8_init_67 ?_
  refine gw_bipush hk.1.1 (v := 30) rfl dX8_init_68 ?_
  refine gw_icmp_ge hk.1.1 (cIk rfl) (cIk rfl) dX8_init_70 (fun q => absurd q (by decide)) (fun _ => ?_)
  refine gc_ldcS hk dX8_init_73 ?_
  refine gw_iload hk.1.1 0 rfl dX8_init_75 ?_
  refine gc_jcall hk (st := []) mf_J0_charAt_5068e (inT1 52 rfl rfl) (inT1 53 rfl rfl) (inT1 54 rfl rfl) (by decide) rfl (Nat.le_of_ble_eq_true rfl) rfl dX8_init_77 (met_cha (i := 61) (x := 114) _ (cIk rfl) (by decide) (by decide) rfl) (by decide) (by decide) ?_
  refine gw_istore hk.1.1 (lv' := [(5, mI 114), (4, mI 61), (3, mI 2), (2, mI 69), (1, mI 11), (0, .ref (kB K + 2))]) (Nat.le_of_ble_eq_true rfl) rfl dX8_init_80 ?_
  refine gw_iload hk.1.1 0 rfl dX8_init_82 ?_
  refine gw_bipush hk.1.1 (v := 32) rfl dX8_init_84 ?_
  refine gw_icmp_ne hk.1.1 (cIk rfl) (cIk rfl) dX8_init_86 (fun _ => ?_) (fun q => absurd (by decide) q)
  refine gw_iload_n hk.1.1 3 rfl dX8_init_110 ?_
  refine gw_bipush hk.1.1 (v := 27) rfl dX8_init_111 ?_
  refine gw_imul hk.1.1 dX8_init_113 ?_
  refine gw_iload hk.1.1 0 rfl dX8_init_114 ?_
  refine gw_iadd hk.1.1 dX8_init_116 ?_
  refine gw_bipush hk.1.1 (v := 97) rfl dX8_init_117 ?_
  refine gw_isub hk.1.1 dX8_init_119 ?_
  refine gw_iconst hk.1.1 (v := 1) rfl dX8_init_120 ?_
  refine gw_iadd hk.1.1 dX8_init_121 ?_
  refine gw_top (y := 1881) (by decide) ?_
  refine gw_istore_n hk.1.1 rfl (lv' := [(2, mI 1881), (5, mI 114), (4, mI 61), (3, mI 2), (1, mI 11), (0, .ref (kB K + 2))]) (Nat.le_of_ble_eq_true rfl) rfl dX8_init_122 ?_
  refine gw_iinc hk.1.1 (lv' := [(3, mI 3), (2, mI 1881), (5, mI 114), (4, mI 61), (1, mI 11), (0, .ref (kB K + 2))]) 3 rfl (Nat.le_of_ble_eq_true rfl) rfl dX8_init_123 ?_
  refine gw_iinc hk.1.1 (lv' := [(4, mI 62), (3, mI 3), (2, mI 1881), (5, mI 114), (1, mI 11), (0, .ref (kB K + 2))]) 3 rfl (Nat.le_of_ble_eq_true rfl) rfl dX8_init_126 ?_
  refine gw_goto hk.1.1 dX8_init_129 ?_
  refine gw_iload hk.1.1 0 rfl dX8_init_57 ?_
  refine gc_ldcS hk dX8_init_59 ?_
  refine gc_jcall hk (st := [mI 62]) mf_J0_length_8abf5 (inT1 42 rfl rfl) (inT1 43 rfl rfl) (inT1 44 rfl rfl) (by decide) rfl (Nat.le_of_ble_eq_true rfl) rfl dX8_init_61 (met_len _) (by decide) (by decide) ?_
  refine gw_icmp_ge hk.1.1 (cIk rfl) (cIk rfl) dX8_init_64 (fun q => absurd q (by decide)) (fun _ => ?_)
  refine gw_iload_n hk.1.1 4 rfl dX8_init_67 ?_
  refine gw_bipush hk.1.1 (v := 30) rfl dX8_init_68 ?_
  refine gw_icmp_ge hk.1.1 (cIk rfl) (cIk rfl) dX8_init_70 (fun q => absurd q (by decide)) (fun _ => ?_)
  refine gc_ldcS hk dX8_init_73 ?_
  refine gw_iload hk.1.1 0 rfl dX8_init_75 ?_
  refine gc_jcall hk (st := []) mf_J0_charAt_5068e (inT1 52 rfl rfl) (inT1 53 rfl rfl) (inT1 54 rfl rfl) (by decide) rfl (Nat.le_of_ble_eq_true rfl) rfl dX8_init_77 (met_cha (i := 62) (x := 101) _ (cIk rfl) (by decide) (by decide) rfl) (by decide) (by decide) ?_
  refine gw_istore hk.1.1 (lv' := [(5, mI 101), (4, mI 62), (3, mI 3), (2, mI 1881), (1, mI 11), (0, .ref (kB K + 2))]) (Nat.le_of_ble_eq_true rfl) rfl dX8_init_80 ?_
  refine gw_iload hk.1.1 0 rfl dX8_init_82 ?_
  refine gw_bipush hk.1.1 (v := 32) rfl dX8_init_84 ?_
  refine gw_icmp_ne hk.1.1 (cIk rfl) (cIk rfl) dX8_init_86 (fun _ => ?_) (fun q => absurd (by decide) q)
  refine gw_iload_n hk.1.1 3 rfl dX8_init_110 ?_
  refine gw_bipush hk.1.1 (v := 27) rfl dX8_init_111 ?_
  refine gw_imul hk.1.1 dX8_init_113 ?_
  refine gw_iload hk.1.1 0 rfl dX8_init_114 ?_
  refine gw_iadd hk.1.1 dX8_init_116 ?_
  refine gw_bipush hk.1.1 (v := 97) rfl dX8_init_117 ?_
  refine gw_isub hk.1.1 dX8_init_119 ?_
  refine gw_iconst hk.1.1 (v := 1) rfl dX8_init_120 ?_
  refine gw_iadd hk.1.1 dX8_init_121 ?_
  refine gw_top (y := 50792) (by decide) ?_
  refine gw_istore_n hk.1.1 rfl (lv' := [(2, mI 50792), (5, mI 101), (4, mI 62), (3, mI 3), (1, mI 11), (0, .ref (kB K + 2))]) (Nat.le_of_ble_eq_true rfl) rfl dX8_init_122 ?_
  refine gw_iinc hk.1.1 (lv' := [(3, mI 4), (2, mI 50792), (5, mI 101), (4, mI 62), (1, mI 11), (0, .ref (kB K + 2))]) 3 rfl (Nat.le_of_ble_eq_true rfl) rfl dX8_init_123 ?_
  refine gw_iinc hk.1.1 (lv' := [(4, mI 63), (3, mI 4), (2, mI 50792), (5, mI 101), (1, mI 11), (0, .ref (kB K + 2))]) 3 rfl (Nat.le_of_ble_eq_true rfl) rfl dX8_init_126 ?_
  refine gw_goto hk.1.1 dX8_init_129 ?_
  refine gw_iload hk.1.1 0 rfl dX8_init_57 ?_
  refine gc_ldcS hk dX8_init_59 ?_
  refine gc_jcall hk (st := [mI 63]) mf_J0_length_8abf5 (inT1 42 rfl rfl) (inT1 43 rfl rfl) (inT1 44 rfl rfl) (by decide) rfl (Nat.le_of_ble_eq_true rfl) rfl dX8_init_61 (met_len _) (by decide) (by decide) ?_
  refine gw_icmp_ge hk.1.1 (cIk rfl) (cIk rfl) dX8_init_64 (fun q => absurd q (by decide)) (fun _ => ?_)
  refine gw_iload_n hk.1.1 4 rfl dX8_init_67 ?_
  refine gw_bipush hk.1.1 (v := 30) rfl dX8_init_68 ?_
  refine gw_icmp_ge hk.1.1 (cIk rfl) (cIk rfl) dX8_init_70 (fun q => absurd q (by decide)) (fun _ => ?_)
  refine gc_ldcS hk dX8_init_73 ?_
  refine gw_iload hk.1.1 0 rfl dX8_init_75 ?_
  refine gc_jcall hk (st := []) mf_J0_charAt_5068e (inT1 52 rfl rfl) (inT1 53 rfl rfl) (inT1 54 rfl rfl) (by decide) rfl (Nat.le_of_ble_eq_true rfl) rfl dX8_init_77 (met_cha (i := 63) (x := 115) _ (cIk rfl) (by decide) (by decide) rfl) (by decide) (by decide) ?_
  refine gw_istore hk.1.1 (lv' := [(5, mI 115), (4, mI 63), (3, mI 4), (2, mI 50792), (1, mI 11), (0, .ref (kB K + 2))]) (Nat.le_of_ble_eq_true rfl) rfl dX8_init_80 ?_
  refine gw_iload hk.1.1 0 rfl dX8_init_82 ?_
  refine gw_bipush hk.1.1 (v := 32) rfl dX8_init_84 ?_
  refine gw_icmp_ne hk.1.1 (cIk rfl) (cIk rfl) dX8_init_86 (fun _ => ?_) (fun q => absurd (by decide) q)
  refine gw_iload_n hk.1.1 3 rfl dX8_init_110 ?_
  refine gw_bipush hk.1.1 (v := 27) rfl dX8_init_111 ?_
  refine gw_imul hk.1.1 dX8_init_113 ?_
  refine gw_iload hk.1.1 0 rfl dX8_init_114 ?_
  refine gw_iadd hk.1.1 dX8_init_116 ?_
  refine gw_bipush hk.1.1 (v := 97) rfl dX8_init_117 ?_
  refine gw_isub hk.1.1 dX8_init_119 ?_
  refine gw_iconst hk.1.1 (v := 1) rfl dX8_init_120 ?_
  refine gw_iadd hk.1.1 dX8_init_121 ?_
  refine gw_top (y := 1371403) (by decide) ?_
  refine gw_istore_n hk.1.1 rfl (lv' := [(2, mI 1371403), (5, mI 115), (4, mI 63), (3, mI 4), (1, mI 11), (0, .ref (kB K + 2))]) (Nat.le_of_ble_eq_true rfl) rfl dX8_init_122 ?_
  refine gw_iinc hk.1.1 (lv' := [(3, mI 5), (2, mI 1371403), (5, mI 115), (4, mI 63), (1, mI 11), (0, .ref (kB K + 2))]) 3 rfl (Nat.le_of_ble_eq_true rfl) rfl dX8_init_123 ?_
  refine gw_iinc hk.1.1 (lv' := [(4, mI 64), (3, mI 5), (2, mI 1371403), (5, mI 115), (1, mI 11), (0, .ref (kB K + 2))]) 3 rfl (Nat.le_of_ble_eq_true rfl) rfl dX8_init_126 ?_
  refine gw_goto hk.1.1 dX8_init_129 ?_
  refine gw_iload hk.1.1 0 rfl dX8_init_57 ?_
  refine gc_ldcS hk dX8_init_59 ?_
  refine gc_jcall hk (st := [mI 64]) mf_J0_length_8abf5 (inT1 42 rfl rfl) (inT1 43 rfl rfl) (inT1 44 rfl rfl) (by decide) rfl (Nat.le_of_ble_eq_true rfl) rfl dX8_init_61 (met_len _) (by decide) (by decide) ?_
  refine gw_icmp_ge hk.1.1 (cIk rfl) (cIk rfl) dX8_init_64 (fun q => absurd q (by decide)) (fun _ => ?_)
  refine gw_iload_n hk.1.1 4 rfl dX8_init_67 ?_
  refine gw_bipush hk.1.1 (v := 30) rfl dX8_init_68 ?_
  refine gw_icmp_ge hk.1.1 (cIk rfl) (cIk rfl) dX8_init_70 (fun q => absurd q (by decide)) (fun _ => ?_)
  refine gc_ldcS hk dX8_init_73 ?_
  refine gw_iload hk.1.1 0 rfl dX8_init_75 ?_
  refine gc_jcall hk (st := []) mf_J0_charAt_5068e (inT1 52 rfl rfl) (inT1 53 rfl rfl) (inT1 54 rfl rfl) (by decide) rfl (Nat.le_of_ble_eq_true rfl) rfl dX8_init_77 (met_cha (i := 64) (x := 32) _ (cIk rfl) (by decide) (by decide) rfl) (by decide) (by decide) ?_
  refine gw_istore hk.1.1 (lv' := [(5, mI 32), (4, mI 64), (3, mI 5), (2, mI 1371403), (1, mI 11), (0, .ref (kB K + 2))]) (Nat.le_of_ble_eq_true rfl) rfl dX8_init_80 ?_
  refine gw_iload hk.1.1 0 rfl dX8_init_82 ?_
  refine gw_bipush hk.1.1 (v := 32) rfl dX8_init_84 ?_
  refine gw_icmp_ne hk.1.1 (cIk rfl) (cIk rfl) dX8_init_86 (fun q => absurd q (by decide)) (fun _ => ?_)
  refine gw_aload_n hk.1.1 5 rfl dX8_init_89 ?_
  refine gc_get2 hk.1 (k := 7) (o := 2) fgc_X8_24 rfl kdC_2 (by omega) rfl rfl dX8_init_90 ?_
  refine gw_iload_n hk.1.1 4 rfl dX8_init_93 ?_
  refine gw_iload_n hk.1.1 3 rfl dX8_init_94 ?_
  refine gw_iload_n hk.1.1 2 rfl dX8_init_95 ?_
  refine gc_padded hk (st := [mI 11, .ref (kB K + 7)]) (a := 1371403) (b := 5) (r := 37027881) (inT1 90 rfl rfl) (by decide +kernel) (cIk rfl) (cIk rfl) (by decide) (Nat.le_of_ble_eq_true rfl) (by decide) (by decide) dX8_init_96 ?_
  refine gc_iast hk.1 (a := 7) (v := 37027881) (cIk rfl) (by decide) (by decide) kdC_7 (by omega) dX8_init_99 ?_
  refine gw_iinc hk.1.1 (lv' := [(1, mI 12), (5, mI 32), (4, mI 64), (3, mI 5), (2, mI 1371403), (0, .ref (kB K + 2))]) 4 rfl (Nat.le_of_ble_eq_true rfl) rfl dX8_init_100 ?_
  refine gw_iconst hk.1.1 (v := 0) rfl dX8_init_103 ?_
  refine gw_istore_n hk.1.1 rfl (lv' := [(2, mI 0), (1, mI 12), (5, mI 32), (4, mI 64), (3, mI 5), (0, .ref (kB K + 2))]) (Nat.le_of_ble_eq_true rfl) rfl dX8_init_104 ?_
  refine gw_iconst hk.1.1 (v := 0) rfl dX8_init_105 ?_
  refine gw_istore_n hk.1.1 rfl (lv' := [(3, mI 0), (2, mI 0), (1, mI 12), (5, mI 32), (4, mI 64), (0, .ref (kB K + 2))]) (Nat.le_of_ble_eq_true rfl) rfl dX8_init_106 ?_
  refine gw_goto hk.1.1 dX8_init_107 ?_
  refine gw_iinc hk.1.1 (lv' := [(4, mI 65), (3, mI 0), (2, mI 0), (1, mI 12), (5, mI 32), (0, .ref (kB K + 2))]) 4 rfl (Nat.le_of_ble_eq_true rfl) rfl dX8_init_126 ?_
  refine gw_goto hk.1.1 dX8_init_129 ?_
  refine gw_iload hk.1.1 0 rfl dX8_init_57 ?_
  refine gc_ldcS hk dX8_init_59 ?_
  refine gc_jcall hk (st := [mI 65]) mf_J0_length_8abf5 (inT1 42 rfl rfl) (inT1 43 rfl rfl) (inT1 44 rfl rfl) (by decide) rfl (Nat.le_of_ble_eq_true rfl) rfl dX8_init_61 (met_len _) (by decide) (by decide) ?_
  refine gw_icmp_ge hk.1.1 (cIk rfl) (cIk rfl) dX8_init_64 (fun q => absurd q (by decide)) (fun _ => ?_)
  refine gw_iload_n hk.1.1 3 rfl dX8_init_67 ?_
  refine gw_bipush hk.1.1 (v := 30) rfl dX8_init_68 ?_
  refine gw_icmp_ge hk.1.1 (cIk rfl) (cIk rfl) dX8_init_70 (fun q => absurd q (by decide)) (fun _ => ?_)
  refine gc_ldcS hk dX8_init_73 ?_
  refine gw_iload hk.1.1 0 rfl dX8_init_75 ?_
  refine gc_jcall hk (st := []) mf_J0_charAt_5068e (inT1 52 rfl rfl) (inT1 53 rfl rfl) (inT1 54 rfl rfl) (by decide) rfl (Nat.le_of_ble_eq_true rfl) rfl dX8_init_77 (met_cha (i := 65) (x := 107) _ (cIk rfl) (by decide) (by decide) rfl) (by decide) (by decide) ?_
  refine gw_istore hk.1.1 (lv' := [(5, mI 107), (4, mI 65), (3, mI 0), (2, mI 0), (1, mI 12), (0, .ref (kB K + 2))]) (Nat.le_of_ble_eq_true rfl) rfl dX8_init_80 ?_
  refine gw_iload hk.1.1 0 rfl dX8_init_82 ?_
  refine gw_bipush hk.1.1 (v := 32) rfl dX8_init_84 ?_
  refine gw_icmp_ne hk.1.1 (cIk rfl) (cIk rfl) dX8_init_86 (fun _ => ?_) (fun q => absurd (by decide) q)
  refine gw_iload_n hk.1.1 3 rfl dX8_init_110 ?_
  refine gw_bipush hk.1.1 (v := 27) rfl dX8_init_111 ?_
  refine gw_imul hk.1.1 dX8_init_113 ?_
  refine gw_iload hk.1.1 0 rfl dX8_init_114 ?_
  refine gw_iadd hk.1.1 dX8_init_116 ?_
  refine gw_bipush hk.1.1 (v := 97) rfl dX8_init_117 ?_
  refine gw_isub hk.1.1 dX8_init_119 ?_
  refine gw_iconst hk.1.1 (v := 1) rfl dX8_init_120 ?_
  refine gw_iadd hk.1.1 dX8_init_121 ?_
  refine gw_top (y := 11) (by decide) ?_
  refine gw_istore_n hk.1.1 rfl (lv' := [(2, mI 11), (5, mI 107), (4, mI 65), (3, mI 0), (1, mI 12), (0, .ref (kB K + 2))]) (Nat.le_of_ble_eq_true rfl) rfl dX8_init_122 ?_
  refine gw_iinc hk.1.1 (lv' := [(3, mI 1), (2, mI 11), (5, mI 107), (4, mI 65), (1, mI 12), (0, .ref (kB K + 2))]) 3 rfl (Nat.le_of_ble_eq_true rfl) rfl dX8_init_123 ?_
  refine gw_iinc hk.1.1 (lv' := [(4, mI 66), (3, mI 1), (2, mI 11), (5, mI 107), (1, mI 12), (0, .ref (kB K + 2))]) 3 rfl (Nat.le_of_ble_eq_true rfl) rfl dX8_init_126 ?_
  refine gw_goto hk.1.1 dX8_init_129 ?_
  refine gw_iload hk.1.1 0 rfl dX8_init_57 ?_
  refine gc_ldcS hk dX8_init_59 ?_
  refine gc_jcall hk (st := [mI 66]) mf_J0_length_8abf5 (inT1 42 rfl rfl) (inT1 43 rfl rfl) (inT1 44 rfl rfl) (by decide) rfl (Nat.le_of_ble_eq_true rfl) rfl dX8_init_61 (met_len _) (by decide) (by decide) ?_
  refine gw_icmp_ge hk.1.1 (cIk rfl) (cIk rfl) dX8_init_64 (fun q => absurd q (by decide)) (fun _ => ?_)
  refine gw_iload_n hk.1.1 4 rfl dX8_init_67 ?_
  refine gw_bipush hk.1.1 (v := 30) rfl dX8_init_68 ?_
  refine gw_icmp_ge hk.1.1 (cIk rfl) (cIk rfl) dX8_init_70 (fun q => absurd q (by decide)) (fun _ => ?_)
  refine gc_ldcS hk dX8_init_73 ?_
  refine gw_iload hk.1.1 0 rfl dX8_init_75 ?_
  refine gc_jcall hk (st := []) mf_J0_charAt_5068e (inT1 52 rfl rfl) (inT1 53 rfl rfl) (inT1 54 rfl rfl) (by decide) rfl (Nat.le_of_ble_eq_true rfl) rfl dX8_init_77 (met_cha (i := 66) (x := 101) _ (cIk rfl) (by decide) (by decide) rfl) (by decide) (by decide) ?_
  refine gw_istore hk.1.1 (lv' := [(5, mI 101), (4, mI 66), (3, mI 1), (2, mI 11), (1, mI 12), (0, .ref (kB K + 2))]) (Nat.le_of_ble_eq_true rfl) rfl dX8_init_80 ?_
  refine gw_iload hk.1.1 0 rfl dX8_init_82 ?_
  refine gw_bipush hk.1.1 (v := 32) rfl dX8_init_84 ?_
  refine gw_icmp_ne hk.1.1 (cIk rfl) (cIk rfl) dX8_init_86 (fun _ => ?_) (fun q => absurd (by decide) q)
  refine gw_iload_n hk.1.1 3 rfl dX8_init_110 ?_
  refine gw_bipush hk.1.1 (v := 27) rfl dX8_init_111 ?_
  refine gw_imul hk.1.1 dX8_init_113 ?_
  refine gw_iload hk.1.1 0 rfl dX8_init_114 ?_
  refine gw_iadd hk.1.1 dX8_init_116 ?_
  refine gw_bipush hk.1.1 (v := 97) rfl dX8_init_117 ?_
  refine gw_isub hk.1.1 dX8_init_119 ?_
  refine gw_iconst hk.1.1 (v := 1) rfl dX8_init_120 ?_
  refine gw_iadd hk.1.1 dX8_init_121 ?_
  refine gw_top (y := 302) (by decide) ?_
  refine gw_istore_n hk.1.1 rfl (lv' := [(2, mI 302), (5, mI 101), (4, mI 66), (3, mI 1), (1, mI 12), (0, .ref (kB K + 2))]) (Nat.le_of_ble_eq_true rfl) rfl dX8_init_122 ?_
  refine gw_iinc hk.1.1 (lv' := [(3, mI 2), (2, mI 302), (5, mI 101), (4, mI 66), (1, mI 12), (0, .ref (kB K + 2))]) 3 rfl (Nat.le_of_ble_eq_true rfl) rfl dX8_init_123 ?_
  refine gw_iinc hk.1.1 (lv' := [(4, mI 67), (3, mI 2), (2, mI 302), (5, mI 101), (1, mI 12), (0, .ref (kB K + 2))]) 3 rfl (Nat.le_of_ble_eq_true rfl) rfl dX8_init_126 ?_
  refine gw_goto hk.1.1 dX8_init_129 ?_
  refine gw_iload hk.1.1 0 rfl dX8_init_57 ?_
  refine gc_ldcS hk dX8_init_59 ?_
  refine gc_jcall hk (st := [mI 67]) mf_J0_length_8abf5 (inT1 42 rfl rfl) (inT1 43 rfl rfl) (inT1 44 rfl rfl) (by decide) rfl (Nat.le_of_ble_eq_true rfl) rfl dX8_init_61 (met_len _) (by decide) (by decide) ?_
  refine gw_icmp_ge hk.1.1 (cIk rfl) (cIk rfl) dX8_init_64 (fun q => absurd q (by decide)) (fun _ => ?_)
  refine gw_iload_n hk.1.1 4 rfl dX8_init_67 ?_
  refine gw_bipush hk.1.1 (v := 30) rfl dX8_init_68 ?_
  refine gw_icmp_ge hk.1.1 (cIk rfl) (cIk rfl) dX8_init_70 (fun q => absurd q (by decide)) (fun _ => ?_)
  refine gc_ldcS hk dX8_init_73 ?_
  refine gw_iload hk.1.1 0 rfl dX8_init_75 ?_
  refine gc_jcall hk (st := []) mf_J0_charAt_5068e (inT1 52 rfl rfl) (inT1 53 rfl rfl) (inT1 54 rfl rfl) (by decide) rfl (Nat.le_of_ble_eq_true rfl) rfl dX8_init_77 (met_cha (i := 67) (x := 101) _ (cIk rfl) (by decide) (by decide) rfl) (by decide) (by decide) ?_
  refine gw_istore hk.1.1 (lv' := [(5, mI 101), (4, mI 67), (3, mI 2), (2, mI 302), (1, mI 12), (0, .ref (kB K + 2))]) (Nat.le_of_ble_eq_true rfl) rfl dX8_init_80 ?_
  refine gw_iload hk.1.1 0 rfl dX8_init_82 ?_
  refine gw_bipush hk.1.1 (v := 32) rfl dX8_init_84 ?_
  refine gw_icmp_ne hk.1.1 (cIk rfl) (cIk rfl) dX8_init_86 (fun _ => ?_) (fun q => absurd (by decide) q)
  refine gw_iload_n hk.1.1 3 rfl dX8_init_110 ?_
  refine gw_bipush hk.1.1 (v := 27) rfl dX8_init_111 ?_
  refine gw_imul hk.1.1 dX8_init_113 ?_
  refine gw_iload hk.1.1 0 rfl dX8_init_114 ?_
  refine gw_iadd hk.1.1 dX8_init_116 ?_
  refine gw_bipush hk.1.1 (v := 97) rfl dX8_init_117 ?_
  refine gw_isub hk.1.1 dX8_init_119 ?_
  refine gw_iconst hk.1.1 (v := 1) rfl dX8_init_120 ?_
  refine gw_iadd hk.1.1 dX8_init_121 ?_
  refine gw_top (y := 8159) (by decide) ?_
  refine gw_istore_n hk.1.1 rfl (lv' := [(2, mI 8159), (5, mI 101), (4, mI 67), (3, mI 2), (1, mI 12), (0, .ref (kB K + 2))]) (Nat.le_of_ble_eq_true rfl) rfl dX8_init_122 ?_
  refine gw_iinc hk.1.1 (lv' := [(3, mI 3), (2, mI 8159), (5, mI 101), (4, mI 67), (1, mI 12), (0, .ref (kB K + 2))]) 3 rfl (Nat.le_of_ble_eq_true rfl) rfl dX8_init_123 ?_
  refine gw_iinc hk.1.1 (lv' := [(4, mI 68), (3, mI 3), (2, mI 8159), (5, mI 101), (1, mI 12), (0, .ref (kB K + 2))]) 3 rfl (Nat.le_of_ble_eq_true rfl) rfl dX8_init_126 ?_
  refine gw_goto hk.1.1 dX8_init_129 ?_
  refine gw_iload hk.1.1 0 rfl dX8_init_57 ?_
  refine gc_ldcS hk dX8_init_59 ?_
  refine gc_jcall hk (st := [mI 68]) mf_J0_length_8abf5 (inT1 42 rfl rfl) (inT1 43 rfl rfl) (inT1 44 rfl rfl) (by decide) rfl (Nat.le_of_ble_eq_true rfl) rfl dX8_init_61 (met_len _) (by decide) (by decide) ?_
  refine gw_icmp_ge hk.1.1 (cIk rfl) (cIk rfl) dX8_init_64 (fun q => absurd q (by decide)) (fun _ => ?_)
  refine gw_iload_n hk.1.1 4 rfl dX8_init_67 ?_
  refine gw_bipush hk.1.1 (v := 30) rfl dX8_init_68 ?_
  refine gw_icmp_ge hk.1.1 (cIk rfl) (cIk rfl) dX8_init_70 (fun q => absurd q (by decide)) (fun _ => ?_)
  refine gc_ldcS hk dX8_init_73 ?_
  refine gw_iload hk.1.1 0 rfl dX8_init_75 ?_
  refine gc_jcall hk (st := []) mf_J0_charAt_5068e (inT1 52 rfl rfl) (inT1 53 rfl rfl) (inT1 54 rfl rfl) (by decide) rfl (Nat.le_of_ble_eq_true rfl) rfl dX8_init_77 (met_cha (i := 68) (x := 112) _ (cIk rfl) (by decide) (by decide) rfl) (by decide) (by decide) ?_
  refine gw_istore hk.1.1 (lv' := [(5, mI 112), (4, mI 68), (3, mI 3), (2, mI 8159), (1, mI 12), (0, .ref (kB K + 2))]) (Nat.le_of_ble_eq_true rfl) rfl dX8_init_80 ?_
  refine gw_iload hk.1.1 0 rfl dX8_init_82 ?_
  refine gw_bipush hk.1.1 (v := 32) rfl dX8_init_84 ?_
  refine gw_icmp_ne hk.1.1 (cIk rfl) (cIk rfl) dX8_init_86 (fun _ => ?_) (fun q => absurd (by decide) q)
  refine gw_iload_n hk.1.1 3 rfl dX8_init_110 ?_
  refine gw_bipush hk.1.1 (v := 27) rfl dX8_init_111 ?_
  refine gw_imul hk.1.1 dX8_init_113 ?_
  refine gw_iload hk.1.1 0 rfl dX8_init_114 ?_
  refine gw_iadd hk.1.1 dX8_init_116 ?_
  refine gw_bipush hk.1.1 (v := 97) rfl dX8_init_117 ?_
  refine gw_isub hk.1.1 dX8_init_119 ?_
  refine gw_iconst hk.1.1 (v := 1) rfl dX8_init_120 ?_
  refine gw_iadd hk.1.1 dX8_init_121 ?_
  refine gw_top (y := 220309) (by decide) ?_
  refine gw_istore_n hk.1.1 rfl (lv' := [(2, mI 220309), (5, mI 112), (4, mI 68), (3, mI 3), (1, mI 12), (0, .ref (kB K + 2))]) (Nat.le_of_ble_eq_true rfl) rfl dX8_init_122 ?_
  refine gw_iinc hk.1.1 (lv' := [(3, mI 4), (2, mI 220309), (5, mI 112), (4, mI 68), (1, mI 12), (0, .ref (kB K + 2))]) 3 rfl (Nat.le_of_ble_eq_true rfl) rfl dX8_init_123 ?_
  refine gw_iinc hk.1.1 (lv' := [(4, mI 69), (3, mI 4), (2, mI 220309), (5, mI 112), (1, mI 12), (0, .ref (kB K + 2))]) 3 rfl (Nat.le_of_ble_eq_true rfl) rfl dX8_init_126 ?_
  refine gw_goto hk.1.1 dX8_init_129 ?_
  refine gw_iload hk.1.1 0 rfl dX8_init_57 ?_
  refine gc_ldcS hk dX8_init_59 ?_
  refine gc_jcall hk (st := [mI 69]) mf_J0_length_8abf5 (inT1 42 rfl rfl) (inT1 43 rfl rfl) (inT1 44 rfl rfl) (by decide) rfl (Nat.le_of_ble_eq_true rfl) rfl dX8_init_61 (met_len _) (by decide) (by decide) ?_
  refine gw_icmp_ge hk.1.1 (cIk rfl) (cIk rfl) dX8_init_64 (fun q => absurd q (by decide)) (fun _ => ?_)
  refine gw_iload_n hk.1.1 4 rfl dX8_init_67 ?_
  refine gw_bipush hk.1.1 (v := 30) rfl dX8_init_68 ?_
  refine gw_icmp_ge hk.1.1 (cIk rfl) (cIk rfl) dX8_init_70 (fun q => absurd q (by decide)) (fun _ => ?_)
  refine gc_ldcS hk dX8_init_73 ?_
  refine gw_iload hk.1.1 0 rfl dX8_init_75 ?_
  refine gc_jcall hk (st := []) mf_J0_charAt_5068e (inT1 52 rfl rfl) (inT1 53 rfl rfl) (inT1 54 rfl rfl) (by decide) rfl (Nat.le_of_ble_eq_true rfl) rfl dX8_init_77 (met_cha (i := 69) (x := 115) _ (cIk rfl) (by decide) (by decide) rfl) (by decide) (by decide) ?_
  refine gw_istore hk.1.1 (lv' := [(5, mI 115), (4, mI 69), (3, mI 4), (2, mI 220309), (1, mI 12), (0, .ref (kB K + 2))]) (Nat.le_of_ble_eq_true rfl) rfl dX8_init_80 ?_
  refine gw_iload hk.1.1 0 rfl dX8_init_82 ?_
  refine gw_bipush hk.1.1 (v := 32) rfl dX8_init_84 ?_
  refine gw_icmp_ne hk.1.1 (cIk rfl) (cIk rfl) dX8_init_86 (fun _ => ?_) (fun q => absurd (by decide) q)
  refine gw_iload_n hk.1.1 3 rfl dX8_init_110 ?_
  refine gw_bipush hk.1.1 (v := 27) rfl dX8_init_111 ?_
  refine gw_imul hk.1.1 dX8_init_113 ?_
  refine gw_iload hk.1.1 0 rfl dX8_init_114 ?_
  refine gw_iadd hk.1.1 dX8_init_116 ?_
  refine gw_bipush hk.1.1 (v := 97) rfl dX8_init_117 ?_
  refine gw_isub hk.1.1 dX8_init_119 ?_
  refine gw_iconst hk.1.1 (v := 1) rfl dX8_init_120 ?_
  refine gw_iadd hk.1.1 dX8_init_121 ?_
  refine gw_top (y := 5948362) (by decide) ?_
  refine gw_istore_n hk.1.1 rfl (lv' := [(2, mI 5948362), (5, mI 115), (4, mI 69), (3, mI 4), (1, mI 12), (0, .ref (kB K + 2))]) (Nat.le_of_ble_eq_true rfl) rfl dX8_init_122 ?_
  refine gw_iinc hk.1.1 (lv' := [(3, mI 5), (2, mI 5948362), (5, mI 115), (4, mI 69), (1, mI 12), (0, .ref (kB K + 2))]) 3 rfl (Nat.le_of_ble_eq_true rfl) rfl dX8_init_123 ?_
  refine gw_iinc hk.1.1 (lv' := [(4, mI 70), (3, mI 5), (2, mI 5948362), (5, mI 115), (1, mI 12), (0, .ref (kB K + 2))]) 3 rfl (Nat.le_of_ble_eq_true rfl) rfl dX8_init_126 ?_
  refine gw_goto hk.1.1 dX8_init_129 ?_
  refine gw_iload hk.1.1 0 rfl dX8_init_57 ?_
  refine gc_ldcS hk dX8_init_59 ?_
  refine gc_jcall hk (st := [mI 70]) mf_J0_length_8abf5 (inT1 42 rfl rfl) (inT1 43 rfl rfl) (inT1 44 rfl rfl) (by decide) rfl (Nat.le_of_ble_eq_true rfl) rfl dX8_init_61 (met_len _) (by decide) (by decide) ?_
  refine gw_icmp_ge hk.1.1 (cIk rfl) (cIk rfl) dX8_init_64 (fun q => absurd q (by decide)) (fun _ => ?_)
  refine gw_iload_n hk.1.1 4 rfl dX8_init_67 ?_
  refine gw_bipush hk.1.1 (v := 30) rfl dX8_init_68 ?_
  refine gw_icmp_ge hk.1.1 (cIk rfl) (cIk rfl) dX8_init_70 (fun q => absurd q (by decide)) (fun _ => ?_)
  refine gc_ldcS hk dX8_init_73 ?_
  refine gw_iload hk.1.1 0 rfl dX8_init_75 ?_
  refine gc_jcall hk (st := []) mf_J0_charAt_5068e (inT1 52 rfl rfl) (inT1 53 rfl rfl) (inT1 54 rfl rfl) (by decide) rfl (Nat.le_of_ble_eq_true rfl) rfl dX8_init_77 (met_cha (i := 70) (x := 32) _ (cIk rfl) (by decide) (by decide) rfl) (by decide) (by decide) ?_
  refine gw_istore hk.1.1 (lv' := [(5, mI 32), (4, mI 70), (3, mI 5), (2, mI 5948362), (1, mI 12), (0, .ref (kB K + 2))]) (Nat.le_of_ble_eq_true rfl) rfl dX8_init_80 ?_
  refine gw_iload hk.1.1 0 rfl dX8_init_82 ?_
  refine gw_bipush hk.1.1 (v := 32) rfl dX8_init_84 ?_
  refine gw_icmp_ne hk.1.1 (cIk rfl) (cIk rfl) dX8_init_86 (fun q => absurd q (by decide)) (fun _ => ?_)
  refine gw_aload_n hk.1.1 5 rfl dX8_init_89 ?_
  refine gc_get2 hk.1 (k := 7) (o := 2) fgc_X8_24 rfl kdC_2 (by omega) rfl rfl dX8_init_90 ?_
  refine gw_iload_n hk.1.1 4 rfl dX8_init_93 ?_
  refine gw_iload_n hk.1.1 3 rfl dX8_init_94 ?_
  refine gw_iload_n hk.1.1 2 rfl dX8_init_95 ?_
  refine gc_padded hk (st := [mI 12, .ref (kB K + 7)]) (a := 5948362) (b := 5) (r := 160605774) (inT1 90 rfl rfl) (by decide +kernel) (cIk rfl) (cIk rfl) (by decide) (Nat.le_of_ble_eq_true rfl) (by decide) (by decide) dX8_init_96 ?_
  refine gc_iast hk.1 (a := 7) (v := 160605774) (cIk rfl) (by decide) (by decide) kdC_7 (by omega) dX8_init_99 ?_
  refine gw_iinc hk.1.1 (lv' := [(1, mI 13), (5, mI 32), (4, mI 70), (3, mI 5), (2, mI 5948362), (0, .ref (kB K + 2))]) 4 rfl (Nat.le_of_ble_eq_true rfl) rfl dX8_init_100 ?_
  refine gw_iconst hk.1.1 (v := 0) rfl dX8_init_103 ?_
  refine gw_istore_n hk.1.1 rfl (lv' := [(2, mI 0), (1, mI 13), (5, mI 32), (4, mI 70), (3, mI 5), (0, .ref (kB K + 2))]) (Nat.le_of_ble_eq_true rfl) rfl dX8_init_104 ?_
  refine gw_iconst hk.1.1 (v := 0) rfl dX8_init_105 ?_
  refine gw_istore_n hk.1.1 rfl (lv' := [(3, mI 0), (2, mI 0), (1, mI 13), (5, mI 32), (4, mI 70), (0, .ref (kB K + 2))]) (Nat.le_of_ble_eq_true rfl) rfl dX8_init_106 ?_
  refine gw_goto hk.1.1 dX8_init_107 ?_
  refine gw_iinc hk.1.1 (lv' := [(4, mI 71), (3, mI 0), (2, mI 0), (1, mI 13), (5, mI 32), (0, .ref (kB K + 2))]) 4 rfl (Nat.le_of_ble_eq_true rfl) rfl dX8_init_126 ?_
  refine gw_goto hk.1.1 dX8_init_129 ?_
  refine gw_iload hk.1.1 0 rfl dX8_init_57 ?_
  refine gc_ldcS hk dX8_init_59 ?_
  refine gc_jcall hk (st := [mI 71]) mf_J0_length_8abf5 (inT1 42 rfl rfl) (inT1 43 rfl rfl) (inT1 44 rfl rfl) (by decide) rfl (Nat.le_of_ble_eq_true rfl) rfl dX8_init_61 (met_len _) (by decide) (by decide) ?_
  refine gw_icmp_ge hk.1.1 (cIk rfl) (cIk rfl) dX8_init_64 (fun q => absurd q (by decide)) (fun _ => ?_)
  refine gw_iload_n hk.1.1 3 rfl dX8_init_67 ?_
  refine gw_bipush hk.1.1 (v := 30) rfl dX8_init_68 ?_
  refine gw_icmp_ge hk.1.1 (cIk rfl) (cIk rfl) dX8_init_70 (fun q => absurd q (by decide)) (fun _ => ?_)
  refine gc_ldcS hk dX8_init_73 ?_
  refine gw_iload hk.1.1 0 rfl dX8_init_75 ?_
  refine gc_jcall hk (st := []) mf_J0_charAt_5068e (inT1 52 rfl rfl) (inT1 53 rfl rfl) (inT1 54 rfl rfl) (by decide) rfl (Nat.le_of_ble_eq_true rfl) rfl dX8_init_77 (met_cha (i := 71) (x := 102) _ (cIk rfl) (by decide) (by decide) rfl) (by decide) (by decide) ?_
  refine gw_istore hk.1.1 (lv' := [(5, mI 102), (4, mI 71), (3, mI 0), (2, mI 0), (1, mI 13), (0, .ref (kB K + 2))]) (Nat.le_of_ble_eq_true rfl) rfl dX8_init_80 ?_
  refine gw_iload hk.1.1 0 rfl dX8_init_82 ?_
  refine gw_bipush hk.1.1 (v := 32) rfl dX8_init_84 ?_
  refine gw_icmp_ne hk.1.1 (cIk rfl) (cIk rfl) dX8_init_86 (fun _ => ?_) (fun q => absurd (by decide) q)
  refine gw_iload_n hk.1.1 3 rfl dX8_init_110 ?_
  refine gw_bipush hk.1.1 (v := 27) rfl dX8_init_111 ?_
  refine gw_imul hk.1.1 dX8_init_113 ?_
  refine gw_iload hk.1.1 0 rfl dX8_init_114 ?_
  refine gw_iadd hk.1.1 dX8_init_116 ?_
  refine gw_bipush hk.1.1 (v := 97) rfl dX8_init_117 ?_
  refine gw_isub hk.1.1 dX8_init_119 ?_
  refine gw_iconst hk.1.1 (v := 1) rfl dX8_init_120 ?_
  refine gw_iadd hk.1.1 dX8_init_121 ?_
  refine gw_top (y := 6) (by decide) ?_
  refine gw_istore_n hk.1.1 rfl (lv' := [(2, mI 6), (5, mI 102), (4, mI 71), (3, mI 0), (1, mI 13), (0, .ref (kB K + 2))]) (Nat.le_of_ble_eq_true rfl) rfl dX8_init_122 ?_
  refine gw_iinc hk.1.1 (lv' := [(3, mI 1), (2, mI 6), (5, mI 102), (4, mI 71), (1, mI 13), (0, .ref (kB K + 2))]) 3 rfl (Nat.le_of_ble_eq_true rfl) rfl dX8_init_123 ?_
  refine gw_iinc hk.1.1 (lv' := [(4, mI 72), (3, mI 1), (2, mI 6), (5, mI 102), (1, mI 13), (0, .ref (kB K + 2))]) 3 rfl (Nat.le_of_ble_eq_true rfl) rfl dX8_init_126 ?_
  refine gw_goto hk.1.1 dX8_init_129 ?_
  refine gw_iload hk.1.1 0 rfl dX8_init_57 ?_
  refine gc_ldcS hk dX8_init_59 ?_
  refine gc_jcall hk (st := [mI 72]) mf_J0_length_8abf5 (inT1 42 rfl rfl) (inT1 43 rfl rfl) (inT1 44 rfl rfl) (by decide) rfl (Nat.le_of_ble_eq_true rfl) rfl dX8_init_61 (met_len _) (by decide) (by decide) ?_
  refine gw_icmp_ge hk.1.1 (cIk rfl) (cIk rfl) dX8_init_64 (fun q => absurd q (by decide)) (fun _ => ?_)
  refine gw_iload_n hk.1.1 4 rfl dX8_init_67 ?_
  refine gw_bipush hk.1.1 (v := 30) rfl dX8_init_68 ?_
  refine gw_icmp_ge hk.1.1 (cIk rfl) (cIk rfl) dX8_init_70 (fun q => absurd q (by decide)) (fun _ => ?_)
  refine gc_ldcS hk dX8_init_73 ?_
  refine gw_iload hk.1.1 0 rfl dX8_init_75 ?_
  refine gc_jcall hk (st := []) mf_J0_charAt_5068e (inT1 52 rfl rfl) (inT1 53 rfl rfl) (inT1 54 rfl rfl) (by decide) rfl (Nat.le_of_ble_eq_true rfl) rfl dX8_init_77 (met_cha (i := 72) (x := 101) _ (cIk rfl) (by decide) (by decide) rfl) (by decide) (by decide) ?_
  refine gw_istore hk.1.1 (lv' := [(5, mI 101), (4, mI 72), (3, mI 1), (2, mI 6), (1, mI 13), (0, .ref (kB K + 2))]) (Nat.le_of_ble_eq_true rfl) rfl dX8_init_80 ?_
  refine gw_iload hk.1.1 0 rfl dX8_init_82 ?_
  refine gw_bipush hk.1.1 (v := 32) rfl dX8_init_84 ?_
  refine gw_icmp_ne hk.1.1 (cIk rfl) (cIk rfl) dX8_init_86 (fun _ => ?_) (fun q => absurd (by decide) q)
  refine gw_iload_n hk.1.1 3 rfl dX8_init_110 ?_
  refine gw_bipush hk.1.1 (v := 27) rfl dX8_init_111 ?_
  refine gw_imul hk.1.1 dX8_init_113 ?_
  refine gw_iload hk.1.1 0 rfl dX8_init_114 ?_
  refine gw_iadd hk.1.1 dX8_init_116 ?_
  refine gw_bipush hk.1.1 (v := 97) rfl dX8_init_117 ?_
  refine gw_isub hk.1.1 dX8_init_119 ?_
  refine gw_iconst hk.1.1 (v := 1) rfl dX8_init_120 ?_
  refine gw_iadd hk.1.1 dX8_init_121 ?_
  refine gw_top (y := 167) (by decide) ?_
  refine gw_istore_n hk.1.1 rfl (lv' := [(2, mI 167), (5, mI 101), (4, mI 72), (3, mI 1), (1, mI 13), (0, .ref (kB K + 2))]) (Nat.le_of_ble_eq_true rfl) rfl dX8_init_122 ?_
  refine gw_iinc hk.1.1 (lv' := [(3, mI 2), (2, mI 167), (5, mI 101), (4, mI 72), (1, mI 13), (0, .ref (kB K + 2))]) 3 rfl (Nat.le_of_ble_eq_true rfl) rfl dX8_init_123 ?_
  refine gw_iinc hk.1.1 (lv' := [(4, mI 73), (3, mI 2), (2, mI 167), (5, mI 101), (1, mI 13), (0, .ref (kB K + 2))]) 3 rfl (Nat.le_of_ble_eq_true rfl) rfl dX8_init_126 ?_
  refine gw_goto hk.1.1 dX8_init_129 ?_
  refine gw_iload hk.1.1 0 rfl dX8_init_57 ?_
  refine gc_ldcS hk dX8_init_59 ?_
  refine gc_jcall hk (st := [mI 73]) mf_J0_length_8abf5 (inT1 42 rfl rfl) (inT1 43 rfl rfl) (inT1 44 rfl rfl) (by decide) rfl (Nat.le_of_ble_eq_true rfl) rfl dX8_init_61 (met_len _) (by decide) (by decide) ?_
  refine gw_icmp_ge hk.1.1 (cIk rfl) (cIk rfl) dX8_init_64 (fun q => absurd q (by decide)) (fun _ => ?_)
  refine gw_iload_n hk.1.1 4 rfl dX8_init_67 ?_
  refine gw_bipush hk.1.1 (v := 30) rfl dX8_init_68 ?_
  refine gw_icmp_ge hk.1.1 (cIk rfl) (cIk rfl) dX8_init_70 (fun q => absurd q (by decide)) (fun _ => ?_)
  refine gc_ldcS hk dX8_init_73 ?_
  refine gw_iload hk.1.1 0 rfl dX8_init_75 ?_
  refine gc_jcall hk (st := []) mf_J0_charAt_5068e (inT1 52 rfl rfl) (inT1 53 rfl rfl) (inT1 54 rfl rfl) (by decide) rfl (Nat.le_of_ble_eq_true rfl) rfl dX8_init_77 (met_cha (i := 73) (x := 101) _ (cIk rfl) (by decide) (by decide) rfl) (by decide) (by decide) ?_
  refine gw_istore hk.1.1 (lv' := [(5, mI 101), (4, mI 73), (3, mI 2), (2, mI 167), (1, mI 13), (0, .ref (kB K + 2))]) (Nat.le_of_ble_eq_true rfl) rfl dX8_init_80 ?_
  refine gw_iload hk.1.1 0 rfl dX8_init_82 ?_
  refine gw_bipush hk.1.1 (v := 32) rfl dX8_init_84 ?_
  refine gw_icmp_ne hk.1.1 (cIk rfl) (cIk rfl) dX8_init_86 (fun _ => ?_) (fun q => absurd (by decide) q)
  refine gw_iload_n hk.1.1 3 rfl dX8_init_110 ?_
  refine gw_bipush hk.1.1 (v := 27) rfl dX8_init_111 ?_
  refine gw_imul hk.1.1 dX8_init_113 ?_
  refine gw_iload hk.1.1 0 rfl dX8_init_114 ?_
  refine gw_iadd hk.1.1 dX8_init_116 ?_
  refine gw_bipush hk.1.1 (v := 97) rfl dX8_init_117 ?_
  refine gw_isub hk.1.1 dX8_init_119 ?_
  refine gw_iconst hk.1.1 (v := 1) rfl dX8_init_120 ?_
  refine gw_iadd hk.1.1 dX8_init_121 ?_
  refine gw_top (y := 4514) (by decide) ?_
  refine gw_istore_n hk.1.1 rfl (lv' := [(2, mI 4514), (5, mI 101), (4, mI 73), (3, mI 2), (1, mI 13), (0, .ref (kB K + 2))]) (Nat.le_of_ble_eq_true rfl) rfl dX8_init_122 ?_
  refine gw_iinc hk.1.1 (lv' := [(3, mI 3), (2, mI 4514), (5, mI 101), (4, mI 73), (1, mI 13), (0, .ref (kB K + 2))]) 3 rfl (Nat.le_of_ble_eq_true rfl) rfl dX8_init_123 ?_
  refine gw_iinc hk.1.1 (lv' := [(4, mI 74), (3, mI 3), (2, mI 4514), (5, mI 101), (1, mI 13), (0, .ref (kB K + 2))]) 3 rfl (Nat.le_of_ble_eq_true rfl) rfl dX8_init_126 ?_
  refine gw_goto hk.1.1 dX8_init_129 ?_
  refine gw_iload hk.1.1 0 rfl dX8_init_57 ?_
  refine gc_ldcS hk dX8_init_59 ?_
  refine gc_jcall hk (st := [mI 74]) mf_J0_length_8abf5 (inT1 42 rfl rfl) (inT1 43 rfl rfl) (inT1 44 rfl rfl) (by decide) rfl (Nat.le_of_ble_eq_true rfl) rfl dX8_init_61 (met_len _) (by decide) (by decide) ?_
  refine gw_icmp_ge hk.1.1 (cIk rfl) (cIk rfl) dX8_init_64 (fun q => absurd q (by decide)) (fun _ => ?_)
  refine gw_iload_n hk.1.1 4 rfl dX8_init_67 ?_
  refine gw_bipush hk.1.1 (v := 30) rfl dX8_init_68 ?_
  refine gw_icmp_ge hk.1.1 (cIk rfl) (cIk rfl) dX8_init_70 (fun q => absurd q (by decide)) (fun _ => ?_)
  refine gc_ldcS hk dX8_init_73 ?_
  refine gw_iload hk.1.1 0 rfl dX8_init_75 ?_
  refine gc_jcall hk (st := []) mf_J0_charAt_5068e (inT1 52 rfl rfl) (inT1 53 rfl rfl) (inT1 54 rfl rfl) (by decide) rfl (Nat.le_of_ble_eq_true rfl) rfl dX8_init_77 (met_cha (i := 74) (x := 32) _ (cIk rfl) (by decide) (by decide) rfl) (by decide) (by decide) ?_
  refine gw_istore hk.1.1 (lv' := [(5, mI 32), (4, mI 74), (3, mI 3), (2, mI 4514), (1, mI 13), (0, .ref (kB K + 2))]) (Nat.le_of_ble_eq_true rfl) rfl dX8_init_80 ?_
  refine gw_iload hk.1.1 0 rfl dX8_init_82 ?_
  refine gw_bipush hk.1.1 (v := 32) rfl dX8_init_84 ?_
  refine gw_icmp_ne hk.1.1 (cIk rfl) (cIk rfl) dX8_init_86 (fun q => absurd q (by decide)) (fun _ => ?_)
  refine gw_aload_n hk.1.1 5 rfl dX8_init_89 ?_
  refine gc_get2 hk.1 (k := 7) (o := 2) fgc_X8_24 rfl kdC_2 (by omega) rfl rfl dX8_init_90 ?_
  refine gw_iload_n hk.1.1 4 rfl dX8_init_93 ?_
  refine gw_iload_n hk.1.1 3 rfl dX8_init_94 ?_
  refine gw_iload_n hk.1.1 2 rfl dX8_init_95 ?_
  refine gc_padded hk (st := [mI 13, .ref (kB K + 7)]) (a := 4514) (b := 3) (r := 88849062) (inT1 90 rfl rfl) (by decide +kernel) (cIk rfl) (cIk rfl) (by decide) (Nat.le_of_ble_eq_true rfl) (by decide) (by decide) dX8_init_96 ?_
  refine gc_iast hk.1 (a := 7) (v := 88849062) (cIk rfl) (by decide) (by decide) kdC_7 (by omega) dX8_init_99 ?_
  refine gw_iinc hk.1.1 (lv' := [(1, mI 14), (5, mI 32), (4, mI 74), (3, mI 3), (2, mI 4514), (0, .ref (kB K + 2))]) 4 rfl (Nat.le_of_ble_eq_true rfl) rfl dX8_init_100 ?_
  refine gw_iconst hk.1.1 (v := 0) rfl dX8_init_103 ?_
  refine gw_istore_n hk.1.1 rfl (lv' := [(2, mI 0), (1, mI 14), (5, mI 32), (4, mI 74), (3, mI 3), (0, .ref (kB K + 2))]) (Nat.le_of_ble_eq_true rfl) rfl dX8_init_104 ?_
  refine gw_iconst hk.1.1 (v := 0) rfl dX8_init_105 ?_
  refine gw_istore_n hk.1.1 rfl (lv' := [(3, mI 0), (2, mI 0), (1, mI 14), (5, mI 32), (4, mI 74), (0, .ref (kB K + 2))]) (Nat.le_of_ble_eq_true rfl) rfl dX8_init_106 ?_
  refine gw_goto hk.1.1 dX8_init_107 ?_
  refine gw_iinc hk.1.1 (lv' := [(4, mI 75), (3, mI 0), (2, mI 0), (1, mI 14), (5, mI 32), (0, .ref (kB K + 2))]) 4 rfl (Nat.le_of_ble_eq_true rfl) rfl dX8_init_126 ?_
  refine gw_goto hk.1.1 dX8_init_129 ?_
  refine gw_iload hk.1.1 0 rfl dX8_init_57 ?_
  refine gc_ldcS hk dX8_init_59 ?_
  refine gc_jcall hk (st := [mI 75]) mf_J0_length_8abf5 (inT1 42 rfl rfl) (inT1 43 rfl rfl) (inT1 44 rfl rfl) (by decide) rfl (Nat.le_of_ble_eq_true rfl) rfl dX8_init_61 (met_len _) (by decide) (by decide) ?_
  refine gw_icmp_ge hk.1.1 (cIk rfl) (cIk rfl) dX8_init_64 (fun q => absurd q (by decide)) (fun _ => ?_)
  refine gw_iload_n hk.1.1 3 rfl dX8_init_67 ?_
  refine gw_bipush hk.1.1 (v := 30) rfl dX8_init_68 ?_
  refine gw_icmp_ge hk.1.1 (cIk rfl) (cIk rfl) dX8_init_70 (fun q => absurd q (by decide)) (fun _ => ?_)
  refine gc_ldcS hk dX8_init_73 ?_
  refine gw_iload hk.1.1 0 rfl dX8_init_75 ?_
  refine gc_jcall hk (st := []) mf_J0_charAt_5068e (inT1 52 rfl rfl) (inT1 53 rfl rfl) (inT1 54 rfl rfl) (by decide) rfl (Nat.le_of_ble_eq_true rfl) rfl dX8_init_77 (met_cha (i := 75) (x := 114) _ (cIk rfl) (by decide) (by decide) rfl) (by decide) (by decide) ?_
  refine gw_istore hk.1.1 (lv' := [(5, mI 114), (4, mI 75), (3, mI 0), (2, mI 0), (1, mI 14), (0, .ref (kB K + 2))]) (Nat.le_of_ble_eq_true rfl) rfl dX8_init_80 ?_
  refine gw_iload hk.1.1 0 rfl dX8_init_82 ?_
  refine gw_bipush hk.1.1 (v := 32) rfl dX8_init_84 ?_
  refine gw_icmp_ne hk.1.1 (cIk rfl) (cIk rfl) dX8_init_86 (fun _ => ?_) (fun q => absurd (by decide) q)
  refine gw_iload_n hk.1.1 3 rfl dX8_init_110 ?_
  refine gw_bipush hk.1.1 (v := 27) rfl dX8_init_111 ?_
  refine gw_imul hk.1.1 dX8_init_113 ?_
  refine gw_iload hk.1.1 0 rfl dX8_init_114 ?_
  refine gw_iadd hk.1.1 dX8_init_116 ?_
  refine gw_bipush hk.1.1 (v := 97) rfl dX8_init_117 ?_
  refine gw_isub hk.1.1 dX8_init_119 ?_
  refine gw_iconst hk.1.1 (v := 1) rfl dX8_init_120 ?_
  refine gw_iadd hk.1.1 dX8_init_121 ?_
  refine gw_top (y := 18) (by decide) ?_
  refine gw_istore_n hk.1.1 rfl (lv' := [(2, mI 18), (5, mI 114), (4, mI 75), (3, mI 0), (1, mI 14), (0, .ref (kB K + 2))]) (Nat.le_of_ble_eq_true rfl) rfl dX8_init_122 ?_
  refine gw_iinc hk.1.1 (lv' := [(3, mI 1), (2, mI 18), (5, mI 114), (4, mI 75), (1, mI 14), (0, .ref (kB K + 2))]) 3 rfl (Nat.le_of_ble_eq_true rfl) rfl dX8_init_123 ?_
  refine gw_iinc hk.1.1 (lv' := [(4, mI 76), (3, mI 1), (2, mI 18), (5, mI 114), (1, mI 14), (0, .ref (kB K + 2))]) 3 rfl (Nat.le_of_ble_eq_true rfl) rfl dX8_init_126 ?_
  refine gw_goto hk.1.1 dX8_init_129 ?_
  refine gw_iload hk.1.1 0 rfl dX8_init_57 ?_
  refine gc_ldcS hk dX8_init_59 ?_
  refine gc_jcall hk (st := [mI 76]) mf_J0_length_8abf5 (inT1 42 rfl rfl) (inT1 43 rfl rfl) (inT1 44 rfl rfl) (by decide) rfl (Nat.le_of_ble_eq_true rfl) rfl dX8_init_61 (met_len _) (by decide) (by decide) ?_
  refine gw_icmp_ge hk.1.1 (cIk rfl) (cIk rfl) dX8_init_64 (fun q => absurd q (by decide)) (fun _ => ?_)
  refine gw_iload_n hk.1.1 4 rfl dX8_init_67 ?_
  refine gw_bipush hk.1.1 (v := 30) rfl dX8_init_68 ?_
  refine gw_icmp_ge hk.1.1 (cIk rfl) (cIk rfl) dX8_init_70 (fun q => absurd q (by decide)) (fun _ => ?_)
  refine gc_ldcS hk dX8_init_73 ?_
  refine gw_iload hk.1.1 0 rfl dX8_init_75 ?_
  refine gc_jcall hk (st := []) mf_J0_charAt_5068e (inT1 52 rfl rfl) (inT1 53 rfl rfl) (inT1 54 rfl rfl) (by decide) rfl (Nat.le_of_ble_eq_true rfl) rfl dX8_init_77 (met_cha (i := 76) (x := 97) _ (cIk rfl) (by decide) (by decide) rfl) (by decide) (by decide) ?_
  refine gw_istore hk.1.1 (lv' := [(5, mI 97), (4, mI 76), (3, mI 1), (2, mI 18), (1, mI 14), (0, .ref (kB K + 2))]) (Nat.le_of_ble_eq_true rfl) rfl dX8_init_80 ?_
  refine gw_iload hk.1.1 0 rfl dX8_init_82 ?_
  refine gw_bipush hk.1.1 (v := 32) rfl dX8_init_84 ?_
  refine gw_icmp_ne hk.1.1 (cIk rfl) (cIk rfl) dX8_init_86 (fun _ => ?_) (fun q => absurd (by decide) q)
  refine gw_iload_n hk.1.1 3 rfl dX8_init_110 ?_
  refine gw_bipush hk.1.1 (v := 27) rfl dX8_init_111 ?_
  refine gw_imul hk.1.1 dX8_init_113 ?_
  refine gw_iload hk.1.1 0 rfl dX8_init_114 ?_
  refine gw_iadd hk.1.1 dX8_init_116 ?_
  refine gw_bipush hk.1.1 (v := 97) rfl dX8_init_117 ?_
  refine gw_isub hk.1.1 dX8_init_119 ?_
  refine gw_iconst hk.1.1 (v := 1) rfl dX8_init_120 ?_
  refine gw_iadd hk.1.1 dX8_init_121 ?_
  refine gw_top (y := 487) (by decide) ?_
  refine gw_istore_n hk.1.1 rfl (lv' := [(2, mI 487), (5, mI 97), (4, mI 76), (3, mI 1), (1, mI 14), (0, .ref (kB K + 2))]) (Nat.le_of_ble_eq_true rfl) rfl dX8_init_122 ?_
  refine gw_iinc hk.1.1 (lv' := [(3, mI 2), (2, mI 487), (5, mI 97), (4, mI 76), (1, mI 14), (0, .ref (kB K + 2))]) 3 rfl (Nat.le_of_ble_eq_true rfl) rfl dX8_init_123 ?_
  refine gw_iinc hk.1.1 (lv' := [(4, mI 77), (3, mI 2), (2, mI 487), (5, mI 97), (1, mI 14), (0, .ref (kB K + 2))]) 3 rfl (Nat.le_of_ble_eq_true rfl) rfl dX8_init_126 ?_
  refine gw_goto hk.1.1 dX8_init_129 ?_
  refine gw_iload hk.1.1 0 rfl dX8_init_57 ?_
  refine gc_ldcS hk dX8_init_59 ?_
  refine gc_jcall hk (st := [mI 77]) mf_J0_length_8abf5 (inT1 42 rfl rfl) (inT1 43 rfl rfl) (inT1 44 rfl rfl) (by decide) rfl (Nat.le_of_ble_eq_true rfl) rfl dX8_init_61 (met_len _) (by decide) (by decide) ?_
  refine gw_icmp_ge hk.1.1 (cIk rfl) (cIk rfl) dX8_init_64 (fun q => absurd q (by decide)) (fun _ => ?_)
  refine gw_iload_n hk.1.1 4 rfl dX8_init_67 ?_
  refine gw_bipush hk.1.1 (v := 30) rfl dX8_init_68 ?_
  refine gw_icmp_ge hk.1.1 (cIk rfl) (cIk rfl) dX8_init_70 (fun q => absurd q (by decide)) (fun _ => ?_)
  refine gc_ldcS hk dX8_init_73 ?_
  refine gw_iload hk.1.1 0 rfl dX8_init_75 ?_
  refine gc_jcall hk (st := []) mf_J0_charAt_5068e (inT1 52 rfl rfl) (inT1 53 rfl rfl) (inT1 54 rfl rfl) (by decide) rfl (Nat.le_of_ble_eq_true rfl) rfl dX8_init_77 (met_cha (i := 77) (x := 105) _ (cIk rfl) (by decide) (by decide) rfl) (by decide) (by decide) ?_
  refine gw_istore hk.1.1 (lv' := [(5, mI 105), (4, mI 77), (3, mI 2), (2, mI 487), (1, mI 14), (0, .ref (kB K + 2))]) (Nat.le_of_ble_eq_true rfl) rfl dX8_init_80 ?_
  refine gw_iload hk.1.1 0 rfl dX8_init_82 ?_
  refine gw_bipush hk.1.1 (v := 32) rfl dX8_init_84 ?_
  refine gw_icmp_ne hk.1.1 (cIk rfl) (cIk rfl) dX8_init_86 (fun _ => ?_) (fun q => absurd (by decide) q)
  refine gw_iload_n hk.1.1 3 rfl dX8_init_110 ?_
  refine gw_bipush hk.1.1 (v := 27) rfl dX8_init_111 ?_
  refine gw_imul hk.1.1 dX8_init_113 ?_
  refine gw_iload hk.1.1 0 rfl dX8_init_114 ?_
  refine gw_iadd hk.1.1 dX8_init_116 ?_
  refine gw_bipush hk.1.1 (v := 97) rfl dX8_init_117 ?_
  refine gw_isub hk.1.1 dX8_init_119 ?_
  refine gw_iconst hk.1.1 (v := 1) rfl dX8_init_120 ?_
  refine gw_iadd hk.1.1 dX8_init_121 ?_
  refine gw_top (y := 13158) (by decide) ?_
  refine gw_istore_n hk.1.1 rfl (lv' := [(2, mI 13158), (5, mI 105), (4, mI 77), (3, mI 2), (1, mI 14), (0, .ref (kB K + 2))]) (Nat.le_of_ble_eq_true rfl) rfl dX8_init_122 ?_
  refine gw_iinc hk.1.1 (lv' := [(3, mI 3), (2, mI 13158), (5, mI 105), (4, mI 77), (1, mI 14), (0, .ref (kB K + 2))]) 3 rfl (Nat.le_of_ble_eq_true rfl) rfl dX8_init_123 ?_
  refine gw_iinc hk.1.1 (lv' := [(4, mI 78), (3, mI 3), (2, mI 13158), (5, mI 105), (1, mI 14), (0, .ref (kB K + 2))]) 3 rfl (Nat.le_of_ble_eq_true rfl) rfl dX8_init_126 ?_
  refine gw_goto hk.1.1 dX8_init_129 ?_
  refine gw_iload hk.1.1 0 rfl dX8_init_57 ?_
  refine gc_ldcS hk dX8_init_59 ?_
  refine gc_jcall hk (st := [mI 78]) mf_J0_length_8abf5 (inT1 42 rfl rfl) (inT1 43 rfl rfl) (inT1 44 rfl rfl) (by decide) rfl (Nat.le_of_ble_eq_true rfl) rfl dX8_init_61 (met_len _) (by decide) (by decide) ?_
  refine gw_icmp_ge hk.1.1 (cIk rfl) (cIk rfl) dX8_init_64 (fun q => absurd q (by decide)) (fun _ => ?_)
  refine gw_iload_n hk.1.1 4 rfl dX8_init_67 ?_
  refine gw_bipush hk.1.1 (v := 30) rfl dX8_init_68 ?_
  refine gw_icmp_ge hk.1.1 (cIk rfl) (cIk rfl) dX8_init_70 (fun q => absurd q (by decide)) (fun _ => ?_)
  refine gc_ldcS hk dX8_init_73 ?_
  refine gw_iload hk.1.1 0 rfl dX8_init_75 ?_
  refine gc_jcall hk (st := []) mf_J0_charAt_5068e (inT1 52 rfl rfl) (inT1 53 rfl rfl) (inT1 54 rfl rfl) (by decide) rfl (Nat.le_of_ble_eq_true rfl) rfl dX8_init_77 (met_cha (i := 78) (x := 110) _ (cIk rfl) (by decide) (by decide) rfl) (by decide) (by decide) ?_
  refine gw_istore hk.1.1 (lv' := [(5, mI 110), (4, mI 78), (3, mI 3), (2, mI 13158), (1, mI 14), (0, .ref (kB K + 2))]) (Nat.le_of_ble_eq_true rfl) rfl dX8_init_80 ?_
  refine gw_iload hk.1.1 0 rfl dX8_init_82 ?_
  refine gw_bipush hk.1.1 (v := 32) rfl dX8_init_84 ?_
  refine gw_icmp_ne hk.1.1 (cIk rfl) (cIk rfl) dX8_init_86 (fun _ => ?_) (fun q => absurd (by decide) q)
  refine gw_iload_n hk.1.1 3 rfl dX8_init_110 ?_
  refine gw_bipush hk.1.1 (v := 27) rfl dX8_init_111 ?_
  refine gw_imul hk.1.1 dX8_init_113 ?_
  refine gw_iload hk.1.1 0 rfl dX8_init_114 ?_
  refine gw_iadd hk.1.1 dX8_init_116 ?_
  refine gw_bipush hk.1.1 (v := 97) rfl dX8_init_117 ?_
  refine gw_isub hk.1.1 dX8_init_119 ?_
  refine gw_iconst hk.1.1 (v := 1) rfl dX8_init_120 ?_
  refine gw_iadd hk.1.1 dX8_init_121 ?_
  refine gw_top (y := 355280) (by decide) ?_
  refine gw_istore_n hk.1.1 rfl (lv' := [(2, mI 355280), (5, mI 110), (4, mI 78), (3, mI 3), (1, mI 14), (0, .ref (kB K + 2))]) (Nat.le_of_ble_eq_true rfl) rfl dX8_init_122 ?_
  refine gw_iinc hk.1.1 (lv' := [(3, mI 4), (2, mI 355280), (5, mI 110), (4, mI 78), (1, mI 14), (0, .ref (kB K + 2))]) 3 rfl (Nat.le_of_ble_eq_true rfl) rfl dX8_init_123 ?_
  refine gw_iinc hk.1.1 (lv' := [(4, mI 79), (3, mI 4), (2, mI 355280), (5, mI 110), (1, mI 14), (0, .ref (kB K + 2))]) 3 rfl (Nat.le_of_ble_eq_true rfl) rfl dX8_init_126 ?_
  refine gw_goto hk.1.1 dX8_init_129 ?_
  refine gw_iload hk.1.1 0 rfl dX8_init_57 ?_
  refine gc_ldcS hk dX8_init_59 ?_
  refine gc_jcall hk (st := [mI 79]) mf_J0_length_8abf5 (inT1 42 rfl rfl) (inT1 43 rfl rfl) (inT1 44 rfl rfl) (by decide) rfl (Nat.le_of_ble_eq_true rfl) rfl dX8_init_61 (met_len _) (by decide) (by decide) ?_
  refine gw_icmp_ge hk.1.1 (cIk rfl) (cIk rfl) dX8_init_64 (fun q => absurd q (by decide)) (fun _ => ?_)
  refine gw_iload_n hk.1.1 4 rfl dX8_init_67 ?_
  refine gw_bipush hk.1.1 (v := 30) rfl dX8_init_68 ?_
  refine gw_icmp_ge hk.1.1 (cIk rfl) (cIk rfl) dX8_init_70 (fun q => absurd q (by decide)) (fun _ => ?_)
  refine gc_ldcS hk dX8_init_73 ?_
  refine gw_iload hk.1.1 0 rfl dX8_init_75 ?_
  refine gc_jcall hk (st := []) mf_J0_charAt_5068e (inT1 52 rfl rfl) (inT1 53 rfl rfl) (inT1 54 rfl rfl) (by decide) rfl (Nat.le_of_ble_eq_true rfl) rfl dX8_init_77 (met_cha (i := 79) (x := 32) _ (cIk rfl) (by decide) (by decide) rfl) (by decide) (by decide) ?_
  refine gw_istore hk.1.1 (lv' := [(5, mI 32), (4, mI 79), (3, mI 4), (2, mI 355280), (1, mI 14), (0, .ref (kB K + 2))]) (Nat.le_of_ble_eq_true rfl) rfl dX8_init_80 ?_
  refine gw_iload hk.1.1 0 rfl dX8_init_82 ?_
  refine gw_bipush hk.1.1 (v := 32) rfl dX8_init_84 ?_
  refine gw_icmp_ne hk.1.1 (cIk rfl) (cIk rfl) dX8_init_86 (fun q => absurd q (by decide)) (fun _ => ?_)
  refine gw_aload_n hk.1.1 5 rfl dX8_init_89 ?_
  refine gc_get2 hk.1 (k := 7) (o := 2) fgc_X8_24 rfl kdC_2 (by omega) rfl rfl dX8_init_90 ?_
  refine gw_iload_n hk.1.1 4 rfl dX8_init_93 ?_
  refine gw_iload_n hk.1.1 3 rfl dX8_init_94 ?_
  refine gw_iload_n hk.1.1 2 rfl dX8_init_95 ?_
  refine gc_padded hk (st := [mI 14, .ref (kB K + 7)]) (a := 355280) (b := 4) (r := 258999120) (inT1 90 rfl rfl) (by decide +kernel) (cIk rfl) (cIk rfl) (by decide) (Nat.le_of_ble_eq_true rfl) (by decide) (by decide) dX8_init_96 ?_
  refine gc_iast hk.1 (a := 7) (v := 258999120) (cIk rfl) (by decide) (by decide) kdC_7 (by omega) dX8_init_99 ?_
  refine gw_iinc hk.1.1 (lv' := [(1, mI 15), (5, mI 32), (4, mI 79), (3, mI 4), (2, mI 355280), (0, .ref (kB K + 2))]) 4 rfl (Nat.le_of_ble_eq_true rfl) rfl dX8_init_100 ?_
  refine gw_iconst hk.1.1 (v := 0) rfl dX8_init_103 ?_
  refine gw_istore_n hk.1.1 rfl (lv' := [(2, mI 0), (1, mI 15), (5, mI 32), (4, mI 79), (3, mI 4), (0, .ref (kB K + 2))]) (Nat.le_of_ble_eq_true rfl) rfl dX8_init_104 ?_
  refine gw_iconst hk.1.1 (v := 0) rfl dX8_init_105 ?_
  refine gw_istore_n hk.1.1 rfl (lv' := [(3, mI 0), (2, mI 0), (1, mI 15), (5, mI 32), (4, mI 79), (0, .ref (kB K + 2))]) (Nat.le_of_ble_eq_true rfl) rfl dX8_init_106 ?_
  refine gw_goto hk.1.1 dX8_init_107 ?_
  refine gw_iinc hk.1.1 (lv' := [(4, mI 80), (3, mI 0), (2, mI 0), (1, mI 15), (5, mI 32), (0, .ref (kB K + 2))]) 4 rfl (Nat.le_of_ble_eq_true rfl) rfl dX8_init_126 ?_
  refine gw_goto hk.1.1 dX8_init_129 ?_
  refine gw_iload hk.1.1 0 rfl dX8_init_57 ?_
  refine gc_ldcS hk dX8_init_59 ?_
  refine gc_jcall hk (st := [mI 80]) mf_J0_length_8abf5 (inT1 42 rfl rfl) (inT1 43 rfl rfl) (inT1 44 rfl rfl) (by decide) rfl (Nat.le_of_ble_eq_true rfl) rfl dX8_init_61 (met_len _) (by decide) (by decide) ?_
  refine gw_icmp_ge hk.1.1 (cIk rfl) (cIk rfl) dX8_init_64 (fun q => absurd q (by decide)) (fun _ => ?_)
  refine gw_iload_n hk.1.1 3 rfl dX8_init_67 ?_
  refine gw_bipush hk.1.1 (v := 30) rfl dX8_init_68 ?_
  refine gw_icmp_ge hk.1.1 (cIk rfl) (cIk rfl) dX8_init_70 (fun q => absurd q (by decide)) (fun _ => ?_)
  refine gc_ldcS hk dX8_init_73 ?_
  refine gw_iload hk.1.1 0 rfl dX8_init_75 ?_
  refine gc_jcall hk (st := []) mf_J0_charAt_5068e (inT1 52 rfl rfl) (inT1 53 rfl rfl) (inT1 54 rfl rfl) (by decide) rfl (Nat.le_of_ble_eq_true rfl) rfl dX8_init_77 (met_cha (i := 80) (x := 115) _ (cIk rfl) (by decide) (by decide) rfl) (by decide) (by decide) ?_
  refine gw_istore hk.1.1 (lv' := [(5, mI 115), (4, mI 80), (3, mI 0), (2, mI 0), (1, mI 15), (0, .ref (kB K + 2))]) (Nat.le_of_ble_eq_true rfl) rfl dX8_init_80 ?_
  refine gw_iload hk.1.1 0 rfl dX8_init_82 ?_
  refine gw_bipush hk.1.1 (v := 32) rfl dX8_init_84 ?_
  refine gw_icmp_ne hk.1.1 (cIk rfl) (cIk rfl) dX8_init_86 (fun _ => ?_) (fun q => absurd (by decide) q)
  refine gw_iload_n hk.1.1 3 rfl dX8_init_110 ?_
  refine gw_bipush hk.1.1 (v := 27) rfl dX8_init_111 ?_
  refine gw_imul hk.1.1 dX8_init_113 ?_
  refine gw_iload hk.1.1 0 rfl dX8_init_114 ?_
  refine gw_iadd hk.1.1 dX8_init_116 ?_
  refine gw_bipush hk.1.1 (v := 97) rfl dX8_init_117 ?_
  refine gw_isub hk.1.1 dX8_init_119 ?_
  refine gw_iconst hk.1.1 (v := 1) rfl dX8_init_120 ?_
  refine gw_iadd hk.1.1 dX8_init_121 ?_
  refine gw_top (y := 19) (by decide) ?_
  refine gw_istore_n hk.1.1 rfl (lv' := [(2, mI 19), (5, mI 115), (4, mI 80), (3, mI 0), (1, mI 15), (0, .ref (kB K + 2))]) (Nat.le_of_ble_eq_true rfl) rfl dX8_init_122 ?_
  refine gw_iinc hk.1.1 (lv' := [(3, mI 1), (2, mI 19), (5, mI 115), (4, mI 80), (1, mI 15), (0, .ref (kB K + 2))]) 3 rfl (Nat.le_of_ble_eq_true rfl) rfl dX8_init_123 ?_
  refine gw_iinc hk.1.1 (lv' := [(4, mI 81), (3, mI 1), (2, mI 19), (5, mI 115), (1, mI 15), (0, .ref (kB K + 2))]) 3 rfl (Nat.le_of_ble_eq_true rfl) rfl dX8_init_126 ?_
  refine gw_goto hk.1.1 dX8_init_129 ?_
  refine gw_iload hk.1.1 0 rfl dX8_init_57 ?_
  refine gc_ldcS hk dX8_init_59 ?_
  refine gc_jcall hk (st := [mI 81]) mf_J0_length_8abf5 (inT1 42 rfl rfl) (inT1 43 rfl rfl) (inT1 44 rfl rfl) (by decide) rfl (Nat.le_of_ble_eq_true rfl) rfl dX8_init_61 (met_len _) (by decide) (by decide) ?_
  refine gw_icmp_ge hk.1.1 (cIk rfl) (cIk rfl) dX8_init_64 (fun q => absurd q (by decide)) (fun _ => ?_)
  refine gw_iload_n hk.1.1 4 rfl dX8_init_67 ?_
  refine gw_bipush hk.1.1 (v := 30) rfl dX8_init_68 ?_
  refine gw_icmp_ge hk.1.1 (cIk rfl) (cIk rfl) dX8_init_70 (fun q => absurd q (by decide)) (fun _ => ?_)
  refine gc_ldcS hk dX8_init_73 ?_
  refine gw_iload hk.1.1 0 rfl dX8_init_75 ?_
  refine gc_jcall hk (st := []) mf_J0_charAt_5068e (inT1 52 rfl rfl) (inT1 53 rfl rfl) (inT1 54 rfl rfl) (by decide) rfl (Nat.le_of_ble_eq_true rfl) rfl dX8_init_77 (met_cha (i := 81) (x := 117) _ (cIk rfl) (by decide) (by decide) rfl) (by decide) (by decide) ?_
  refine gw_istore hk.1.1 (lv' := [(5, mI 117), (4, mI 81), (3, mI 1), (2, mI 19), (1, mI 15), (0, .ref (kB K + 2))]) (Nat.le_of_ble_eq_true rfl) rfl dX8_init_80 ?_
  refine gw_iload hk.1.1 0 rfl dX8_init_82 ?_
  refine gw_bipush hk.1.1 (v := 32) rfl dX8_init_84 ?_
  refine gw_icmp_ne hk.1.1 (cIk rfl) (cIk rfl) dX8_init_86 (fun _ => ?_) (fun q => absurd (by decide) q)
  refine gw_iload_n hk.1.1 3 rfl dX8_init_110 ?_
  refine gw_bipush hk.1.1 (v := 27) rfl dX8_init_111 ?_
  refine gw_imul hk.1.1 dX8_init_113 ?_
  refine gw_iload hk.1.1 0 rfl dX8_init_114 ?_
  refine gw_iadd hk.1.1 dX8_init_116 ?_
  refine gw_bipush hk.1.1 (v := 97) rfl dX8_init_117 ?_
  refine gw_isub hk.1.1 dX8_init_119 ?_
  refine gw_iconst hk.1.1 (v := 1) rfl dX8_init_120 ?_
  refine gw_iadd hk.1.1 dX8_init_121 ?_
  refine gw_top (y := 534) (by decide) ?_
  refine gw_istore_n hk.1.1 rfl (lv' := [(2, mI 534), (5, mI 117), (4, mI 81), (3, mI 1), (1, mI 15), (0, .ref (kB K + 2))]) (Nat.le_of_ble_eq_true rfl) rfl dX8_init_122 ?_
  refine gw_iinc hk.1.1 (lv' := [(3, mI 2), (2, mI 534), (5, mI 117), (4, mI 81), (1, mI 15), (0, .ref (kB K + 2))]) 3 rfl (Nat.le_of_ble_eq_true rfl) rfl dX8_init_123 ?_
  refine gw_iinc hk.1.1 (lv' := [(4, mI 82), (3, mI 2), (2, mI 534), (5, mI 117), (1, mI 15), (0, .ref (kB K + 2))]) 3 rfl (Nat.le_of_ble_eq_true rfl) rfl dX8_init_126 ?_
  refine gw_goto hk.1.1 dX8_init_129 ?_
  refine gw_iload hk.1.1 0 rfl dX8_init_57 ?_
  refine gc_ldcS hk dX8_init_59 ?_
  refine gc_jcall hk (st := [mI 82]) mf_J0_length_8abf5 (inT1 42 rfl rfl) (inT1 43 rfl rfl) (inT1 44 rfl rfl) (by decide) rfl (Nat.le_of_ble_eq_true rfl) rfl dX8_init_61 (met_len _) (by decide) (by decide) ?_
  refine gw_icmp_ge hk.1.1 (cIk rfl) (cIk rfl) dX8_init_64 (fun q => absurd q (by decide)) (fun _ => ?_)
  refine gw_iload_n hk.1.1 4 rfl dX8_init_67 ?_
  refine gw_bipush hk.1.1 (v := 30) rfl dX8_init_68 ?_
  refine gw_icmp_ge hk.1.1 (cIk rfl) (cIk rfl) dX8_init_70 (fun q => absurd q (by decide)) (fun _ => ?_)
  refine gc_ldcS hk dX8_init_73 ?_
  refine gw_iload hk.1.1 0 rfl dX8_init_75 ?_
  refine gc_jcall hk (st := []) mf_J0_charAt_5068e (inT1 52 rfl rfl) (inT1 53 rfl rfl) (inT1 54 rfl rfl) (by decide) rfl (Nat.le_of_ble_eq_true rfl) rfl dX8_init_77 (met_cha (i := 82) (x := 105) _ (cIk rfl) (by decide) (by decide) rfl) (by decide) (by decide) ?_
  refine gw_istore hk.1.1 (lv' := [(5, mI 105), (4, mI 82), (3, mI 2), (2, mI 534), (1, mI 15), (0, .ref (kB K + 2))]) (Nat.le_of_ble_eq_true rfl) rfl dX8_init_80 ?_
  refine gw_iload hk.1.1 0 rfl dX8_init_82 ?_
  refine gw_bipush hk.1.1 (v := 32) rfl dX8_init_84 ?_
  refine gw_icmp_ne hk.1.1 (cIk rfl) (cIk rfl) dX8_init_86 (fun _ => ?_) (fun q => absurd (by decide) q)
  refine gw_iload_n hk.1.1 3 rfl dX8_init_110 ?_
  refine gw_bipush hk.1.1 (v := 27) rfl dX8_init_111 ?_
  refine gw_imul hk.1.1 dX8_init_113 ?_
  refine gw_iload hk.1.1 0 rfl dX8_init_114 ?_
  refine gw_iadd hk.1.1 dX8_init_116 ?_
  refine gw_bipush hk.1.1 (v := 97) rfl dX8_init_117 ?_
  refine gw_isub hk.1.1 dX8_init_119 ?_
  refine gw_iconst hk.1.1 (v := 1) rfl dX8_init_120 ?_
  refine gw_iadd hk.1.1 dX8_init_121 ?_
  refine gw_top (y := 14427) (by decide) ?_
  refine gw_istore_n hk.1.1 rfl (lv' := [(2, mI 14427), (5, mI 105), (4, mI 82), (3, mI 2), (1, mI 15), (0, .ref (kB K + 2))]) (Nat.le_of_ble_eq_true rfl) rfl dX8_init_122 ?_
  refine gw_iinc hk.1.1 (lv' := [(3, mI 3), (2, mI 14427), (5, mI 105), (4, mI 82), (1, mI 15), (0, .ref (kB K + 2))]) 3 rfl (Nat.le_of_ble_eq_true rfl) rfl dX8_init_123 ?_
  refine gw_iinc hk.1.1 (lv' := [(4, mI 83), (3, mI 3), (2, mI 14427), (5, mI 105), (1, mI 15), (0, .ref (kB K + 2))]) 3 rfl (Nat.le_of_ble_eq_true rfl) rfl dX8_init_126 ?_
  refine gw_goto hk.1.1 dX8_init_129 ?_
  refine gw_iload hk.1.1 0 rfl dX8_init_57 ?_
  refine gc_ldcS hk dX8_init_59 ?_
  refine gc_jcall hk (st := [mI 83]) mf_J0_length_8abf5 (inT1 42 rfl rfl) (inT1 43 rfl rfl) (inT1 44 rfl rfl) (by decide) rfl (Nat.le_of_ble_eq_true rfl) rfl dX8_init_61 (met_len _) (by decide) (by decide) ?_
  refine gw_icmp_ge hk.1.1 (cIk rfl) (cIk rfl) dX8_init_64 (fun q => absurd q (by decide)) (fun _ => ?_)
  refine gw_iload_n hk.1.1 4 rfl dX8_init_67 ?_
  refine gw_bipush hk.1.1 (v := 30) rfl dX8_init_68 ?_
  refine gw_icmp_ge hk.1.1 (cIk rfl) (cIk rfl) dX8_init_70 (fun q => absurd q (by decide)) (fun _ => ?_)
  refine gc_ldcS hk dX8_init_73 ?_
  refine gw_iload hk.1.1 0 rfl dX8_init_75 ?_
  refine gc_jcall hk (st := []) mf_J0_charAt_5068e (inT1 52 rfl rfl) (inT1 53 rfl rfl) (inT1 54 rfl rfl) (by decide) rfl (Nat.le_of_ble_eq_true rfl) rfl dX8_init_77 (met_cha (i := 83) (x := 116) _ (cIk rfl) (by decide) (by decide) rfl) (by decide) (by decide) ?_
  refine gw_istore hk.1.1 (lv' := [(5, mI 116), (4, mI 83), (3, mI 3), (2, mI 14427), (1, mI 15), (0, .ref (kB K + 2))]) (Nat.le_of_ble_eq_true rfl) rfl dX8_init_80 ?_
  refine gw_iload hk.1.1 0 rfl dX8_init_82 ?_
  refine gw_bipush hk.1.1 (v := 32) rfl dX8_init_84 ?_
  refine gw_icmp_ne hk.1.1 (cIk rfl) (cIk rfl) dX8_init_86 (fun _ => ?_) (fun q => absurd (by decide) q)
  refine gw_iload_n hk.1.1 3 rfl dX8_init_110 ?_
  refine gw_bipush hk.1.1 (v := 27) rfl dX8_init_111 ?_
  refine gw_imul hk.1.1 dX8_init_113 ?_
  refine gw_iload hk.1.1 0 rfl dX8_init_114 ?_
  refine gw_iadd hk.1.1 dX8_init_116 ?_
  refine gw_bipush hk.1.1 (v := 97) rfl dX8_init_117 ?_
  refine gw_isub hk.1.1 dX8_init_119 ?_
  refine gw_iconst hk.1.1 (v := 1) rfl dX8_init_120 ?_
  refine gw_iadd hk.1.1 dX8_init_121 ?_
  refine gw_top (y := 389549) (by decide) ?_
  refine gw_istore_n hk.1.1 rfl (lv' := [(2, mI 389549), (5, mI 116), (4, mI 83), (3, mI 3), (1, mI 15), (0, .ref (kB K + 2))]) (Nat.le_of_ble_eq_true rfl) rfl dX8_init_122 ?_
  refine gw_iinc hk.1.1 (lv' := [(3, mI 4), (2, mI 389549), (5, mI 116), (4, mI 83), (1, mI 15), (0, .ref (kB K + 2))]) 3 rfl (Nat.le_of_ble_eq_true rfl) rfl dX8_init_123 ?_
  refine gw_iinc hk.1.1 (lv' := [(4, mI 84), (3, mI 4), (2, mI 389549), (5, mI 116), (1, mI 15), (0, .ref (kB K + 2))]) 3 rfl (Nat.le_of_ble_eq_true rfl) rfl dX8_init_126 ?_
  refine gw_goto hk.1.1 dX8_init_129 ?_
  refine gw_iload hk.1.1 0 rfl dX8_init_57 ?_
  refine gc_ldcS hk dX8_init_59 ?_
  refine gc_jcall hk (st := [mI 84]) mf_J0_length_8abf5 (inT1 42 rfl rfl) (inT1 43 rfl rfl) (inT1 44 rfl rfl) (by decide) rfl (Nat.le_of_ble_eq_true rfl) rfl dX8_init_61 (met_len _) (by decide) (by decide) ?_
  refine gw_icmp_ge hk.1.1 (cIk rfl) (cIk rfl) dX8_init_64 (fun q => absurd q (by decide)) (fun _ => ?_)
  refine gw_iload_n hk.1.1 4 rfl dX8_init_67 ?_
  refine gw_bipush hk.1.1 (v := 30) rfl dX8_init_68 ?_
  refine gw_icmp_ge hk.1.1 (cIk rfl) (cIk rfl) dX8_init_70 (fun q => absurd q (by decide)) (fun _ => ?_)
  refine gc_ldcS hk dX8_init_73 ?_
  refine gw_iload hk.1.1 0 rfl dX8_init_75 ?_
  refine gc_jcall hk (st := []) mf_J0_charAt_5068e (inT1 52 rfl rfl) (inT1 53 rfl rfl) (inT1 54 rfl rfl) (by decide) rfl (Nat.le_of_ble_eq_true rfl) rfl dX8_init_77 (met_cha (i := 84) (x := 115) _ (cIk rfl) (by decide) (by decide) rfl) (by decide) (by decide) ?_
  refine gw_istore hk.1.1 (lv' := [(5, mI 115), (4, mI 84), (3, mI 4), (2, mI 389549), (1, mI 15), (0, .ref (kB K + 2))]) (Nat.le_of_ble_eq_true rfl) rfl dX8_init_80 ?_
  refine gw_iload hk.1.1 0 rfl dX8_init_82 ?_
  refine gw_bipush hk.1.1 (v := 32) rfl dX8_init_84 ?_
  refine gw_icmp_ne hk.1.1 (cIk rfl) (cIk rfl) dX8_init_86 (fun _ => ?_) (fun q => absurd (by decide) q)
  refine gw_iload_n hk.1.1 3 rfl dX8_init_110 ?_
  refine gw_bipush hk.1.1 (v := 27) rfl dX8_init_111 ?_
  refine gw_imul hk.1.1 dX8_init_113 ?_
  refine gw_iload hk.1.1 0 rfl dX8_init_114 ?_
  refine gw_iadd hk.1.1 dX8_init_116 ?_
  refine gw_bipush hk.1.1 (v := 97) rfl dX8_init_117 ?_
  refine gw_isub hk.1.1 dX8_init_119 ?_
  refine gw_iconst hk.1.1 (v := 1) rfl dX8_init_120 ?_
  refine gw_iadd hk.1.1 dX8_init_121 ?_
  refine gw_top (y := 10517842) (by decide) ?_
  refine gw_istore_n hk.1.1 rfl (lv' := [(2, mI 10517842), (5, mI 115), (4, mI 84), (3, mI 4), (1, mI 15), (0, .ref (kB K + 2))]) (Nat.le_of_ble_eq_true rfl) rfl dX8_init_122 ?_
  refine gw_iinc hk.1.1 (lv' := [(3, mI 5), (2, mI 10517842), (5, mI 115), (4, mI 84), (1, mI 15), (0, .ref (kB K + 2))]) 3 rfl (Nat.le_of_ble_eq_true rfl) rfl dX8_init_123 ?_
  refine gw_iinc hk.1.1 (lv' := [(4, mI 85), (3, mI 5), (2, mI 10517842), (5, mI 115), (1, mI 15), (0, .ref (kB K + 2))]) 3 rfl (Nat.le_of_ble_eq_true rfl) rfl dX8_init_126 ?_
  refine gw_goto hk.1.1 dX8_init_129 ?_
  refine gw_iload hk.1.1 0 rfl dX8_init_57 ?_
  refine gc_ldcS hk dX8_init_59 ?_
  refine gc_jcall hk (st := [mI 85]) mf_J0_length_8abf5 (inT1 42 rfl rfl) (inT1 43 rfl rfl) (inT1 44 rfl rfl) (by decide) rfl (Nat.le_of_ble_eq_true rfl) rfl dX8_init_61 (met_len _) (by decide) (by decide) ?_
  refine gw_icmp_ge hk.1.1 (cIk rfl) (cIk rfl) dX8_init_64 (fun q => absurd q (by decide)) (fun _ => ?_)
  refine gw_iload_n hk.1.1 4 rfl dX8_init_67 ?_
  refine gw_bipush hk.1.1 (v := 30) rfl dX8_init_68 ?_
  refine gw_icmp_ge hk.1.1 (cIk rfl) (cIk rfl) dX8_init_70 (fun q => absurd q (by decide)) (fun _ => ?_)
  refine gc_ldcS hk dX8_init_73 ?_
  refine gw_iload hk.1.1 0 rfl dX8_init_75 ?_
  refine gc_jcall hk (st := []) mf_J0_charAt_5068e (inT1 52 rfl rfl) (inT1 53 rfl rfl) (inT1 54 rfl rfl) (by decide) rfl (Nat.le_of_ble_eq_true rfl) rfl dX8_init_77 (met_cha (i := 85) (x := 32) _ (cIk rfl) (by decide) (by decide) rfl) (by decide) (by decide) ?_
  refine gw_istore hk.1.1 (lv' := [(5, mI 32), (4, mI 85), (3, mI 5), (2, mI 10517842), (1, mI 15), (0, .ref (kB K + 2))]) (Nat.le_of_ble_eq_true rfl) rfl dX8_init_80 ?_
  refine gw_iload hk.1.1 0 rfl dX8_init_82 ?_
  refine gw_bipush hk.1.1 (v := 32) rfl dX8_init_84 ?_
  refine gw_icmp_ne hk.1.1 (cIk rfl) (cIk rfl) dX8_init_86 (fun q => absurd q (by decide)) (fun _ => ?_)
  refine gw_aload_n hk.1.1 5 rfl dX8_init_89 ?_
  refine gc_get2 hk.1 (k := 7) (o := 2) fgc_X8_24 rfl kdC_2 (by omega) rfl rfl dX8_init_90 ?_
  refine gw_iload_n hk.1.1 4 rfl dX8_init_93 ?_
  refine gw_iload_n hk.1.1 3 rfl dX8_init_94 ?_
  refine gw_iload_n hk.1.1 2 rfl dX8_init_95 ?_
  refine gc_padded hk (st := [mI 15, .ref (kB K + 7)]) (a := 10517842) (b := 5) (r := 283981734) (inT1 90 rfl rfl) (by decide +kernel) (cIk rfl) (cIk rfl) (by decide) (Nat.le_of_ble_eq_true rfl) (by decide) (by decide) dX8_init_96 ?_
  refine gc_iast hk.1 (a := 7) (v := 283981734) (cIk rfl) (by decide) (by decide) kdC_7 (by omega) dX8_init_99 ?_
  refine gw_iinc hk.1.1 (lv' := [(1, mI 16), (5, mI 32), (4, mI 85), (3, mI 5), (2, mI 10517842), (0, .ref (kB K + 2))]) 4 rfl (Nat.le_of_ble_eq_true rfl) rfl dX8_init_100 ?_
  refine gw_iconst hk.1.1 (v := 0) rfl dX8_init_103 ?_
  refine gw_istore_n hk.1.1 rfl (lv' := [(2, mI 0), (1, mI 16), (5, mI 32), (4, mI 85), (3, mI 5), (0, .ref (kB K + 2))]) (Nat.le_of_ble_eq_true rfl) rfl dX8_init_104 ?_
  refine gw_iconst hk.1.1 (v := 0) rfl dX8_init_105 ?_
  refine gw_istore_n hk.1.1 rfl (lv' := [(3, mI 0), (2, mI 0), (1, mI 16), (5, mI 32), (4, mI 85), (0, .ref (kB K + 2))]) (Nat.le_of_ble_eq_true rfl) rfl dX8_init_106 ?_
  refine gw_goto hk.1.1 dX8_init_107 ?_
  refine gw_iinc hk.1.1 (lv' := [(4, mI 86), (3, mI 0), (2, mI 0), (1, mI 16), (5, mI 32), (0, .ref (kB K + 2))]) 4 rfl (Nat.le_of_ble_eq_true rfl) rfl dX8_init_126 ?_
  refine gw_goto hk.1.1 dX8_init_129 ?_
  refine gw_iload hk.1.1 0 rfl dX8_init_57 ?_
  refine gc_ldcS hk dX8_init_59 ?_
  refine gc_jcall hk (st := [mI 86]) mf_J0_length_8abf5 (inT1 42 rfl rfl) (inT1 43 rfl rfl) (inT1 44 rfl rfl) (by decide) rfl (Nat.le_of_ble_eq_true rfl) rfl dX8_init_61 (met_len _) (by decide) (by decide) ?_
  refine gw_icmp_ge hk.1.1 (cIk rfl) (cIk rfl) dX8_init_64 (fun q => absurd q (by decide)) (fun _ => ?_)
  refine gw_iload_n hk.1.1 3 rfl dX8_init_67 ?_
  refine gw_bipush hk.1.1 (v := 30) rfl dX8_init_68 ?_
  refine gw_icmp_ge hk.1.1 (cIk rfl) (cIk rfl) dX8_init_70 (fun q => absurd q (by decide)) (fun _ => ?_)
  refine gc_ldcS hk dX8_init_73 ?_
  refine gw_iload hk.1.1 0 rfl dX8_init_75 ?_
  refine gc_jcall hk (st := []) mf_J0_charAt_5068e (inT1 52 rfl rfl) (inT1 53 rfl rfl) (inT1 54 rfl rfl) (by decide) rfl (Nat.le_of_ble_eq_true rfl) rfl dX8_init_77 (met_cha (i := 86) (x := 115) _ (cIk rfl) (by decide) (by decide) rfl) (by decide) (by decide) ?_
  refine gw_istore hk.1.1 (lv' := [(5, mI 115), (4, mI 86), (3, mI 0), (2, mI 0), (1, mI 16), (0, .ref (kB K + 2))]) (Nat.le_of_ble_eq_true rfl) rfl dX8_init_80 ?_
  refine gw_iload hk.1.1 0 rfl dX8_init_82 ?_
  refine gw_bipush hk.1.1 (v := 32) rfl dX8_init_84 ?_
  refine gw_icmp_ne hk.1.1 (cIk rfl) (cIk rfl) dX8_init_86 (fun _ => ?_) (fun q => absurd (by decide) q)
  refine gw_iload_n hk.1.1 3 rfl dX8_init_110 ?_
  refine gw_bipush hk.1.1 (v := 27) rfl dX8_init_111 ?_
  refine gw_imul hk.1.1 dX8_init_113 ?_
  refine gw_iload hk.1.1 0 rfl dX8_init_114 ?_
  refine gw_iadd hk.1.1 dX8_init_116 ?_
  refine gw_bipush hk.1.1 (v := 97) rfl dX8_init_117 ?_
  refine gw_isub hk.1.1 dX8_init_119 ?_
  refine gw_iconst hk.1.1 (v := 1) rfl dX8_init_120 ?_
  refine gw_iadd hk.1.1 dX8_init_121 ?_
  refine gw_top (y := 19) (by decide) ?_
  refine gw_istore_n hk.1.1 rfl (lv' := [(2, mI 19), (5, mI 115), (4, mI 86), (3, mI 0), (1, mI 16), (0, .ref (kB K + 2))]) (Nat.le_of_ble_eq_true rfl) rfl dX8_init_122 ?_
  refine gw_iinc hk.1.1 (lv' := [(3, mI 1), (2, mI 19), (5, mI 115), (4, mI 86), (1, mI 16), (0, .ref (kB K + 2))]) 3 rfl (Nat.le_of_ble_eq_true rfl) rfl dX8_init_123 ?_
  refine gw_iinc hk.1.1 (lv' := [(4, mI 87), (3, mI 1), (2, mI 19), (5, mI 115), (1, mI 16), (0, .ref (kB K + 2))]) 3 rfl (Nat.le_of_ble_eq_true rfl) rfl dX8_init_126 ?_
  refine gw_goto hk.1.1 dX8_init_129 ?_
  refine gw_iload hk.1.1 0 rfl dX8_init_57 ?_
  refine gc_ldcS hk dX8_init_59 ?_
  refine gc_jcall hk (st := [mI 87]) mf_J0_length_8abf5 (inT1 42 rfl rfl) (inT1 43 rfl rfl) (inT1 44 rfl rfl) (by decide) rfl (Nat.le_of_ble_eq_true rfl) rfl dX8_init_61 (met_len _) (by decide) (by decide) ?_
  refine gw_icmp_ge hk.1.1 (cIk rfl) (cIk rfl) dX8_init_64 (fun q => absurd q (by decide)) (fun _ => ?_)
  refine gw_iload_n hk.1.1 4 rfl dX8_init_67 ?_
  refine gw_bipush hk.1.1 (v := 30) rfl dX8_init_68 ?_
  refine gw_icmp_ge hk.1.1 (cIk rfl) (cIk rfl) dX8_init_70 (fun q => absurd q (by decide)) (fun _ => ?_)
  refine gc_ldcS hk dX8_init_73 ?_
  refine gw_iload hk.1.1 0 rfl dX8_init_75 ?_
  refine gc_jcall hk (st := []) mf_J0_charAt_5068e (inT1 52 rfl rfl) (inT1 53 rfl rfl) (inT1 54 rfl rfl) (by decide) rfl (Nat.le_of_ble_eq_true rfl) rfl dX8_init_77 (met_cha (i := 87) (x := 97) _ (cIk rfl) (by decide) (by decide) rfl) (by decide) (by decide) ?_
  refine gw_istore hk.1.1 (lv' := [(5, mI 97), (4, mI 87), (3, mI 1), (2, mI 19), (1, mI 16), (0, .ref (kB K + 2))]) (Nat.le_of_ble_eq_true rfl) rfl dX8_init_80 ?_
  refine gw_iload hk.1.1 0 rfl dX8_init_82 ?_
  refine gw_bipush hk.1.1 (v := 32) rfl dX8_init_84 ?_
  refine gw_icmp_ne hk.1.1 (cIk rfl) (cIk rfl) dX8_init_86 (fun _ => ?_) (fun q => absurd (by decide) q)
  refine gw_iload_n hk.1.1 3 rfl dX8_init_110 ?_
  refine gw_bipush hk.1.1 (v := 27) rfl dX8_init_111 ?_
  refine gw_imul hk.1.1 dX8_init_113 ?_
  refine gw_iload hk.1.1 0 rfl dX8_init_114 ?_
  refine gw_iadd hk.1.1 dX8_init_116 ?_
  refine gw_bipush hk.1.1 (v := 97) rfl dX8_init_117 ?_
  refine gw_isub hk.1.1 dX8_init_119 ?_
  refine gw_iconst hk.1.1 (v := 1) rfl dX8_init_120 ?_
  refine gw_iadd hk.1.1 dX8_init_121 ?_
  refine gw_top (y := 514) (by decide) ?_
  refine gw_istore_n hk.1.1 rfl (lv' := [(2, mI 514), (5, mI 97), (4, mI 87), (3, mI 1), (1, mI 16), (0, .ref (kB K + 2))]) (Nat.le_of_ble_eq_true rfl) rfl dX8_init_122 ?_
  refine gw_iinc hk.1.1 (lv' := [(3, mI 2), (2, mI 514), (5, mI 97), (4, mI 87), (1, mI 16), (0, .ref (kB K + 2))]) 3 rfl (Nat.le_of_ble_eq_true rfl) rfl dX8_init_123 ?_
  refine gw_iinc hk.1.1 (lv' := [(4, mI 88), (3, mI 2), (2, mI 514), (5, mI 97), (1, mI 16), (0, .ref (kB K + 2))]) 3 rfl (Nat.le_of_ble_eq_true rfl) rfl dX8_init_126 ?_
  refine gw_goto hk.1.1 dX8_init_129 ?_
  refine gw_iload hk.1.1 0 rfl dX8_init_57 ?_
  refine gc_ldcS hk dX8_init_59 ?_
  refine gc_jcall hk (st := [mI 88]) mf_J0_length_8abf5 (inT1 42 rfl rfl) (inT1 43 rfl rfl) (inT1 44 rfl rfl) (by decide) rfl (Nat.le_of_ble_eq_true rfl) rfl dX8_init_61 (met_len _) (by decide) (by decide) ?_
  refine gw_icmp_ge hk.1.1 (cIk rfl) (cIk rfl) dX8_init_64 (fun q => absurd q (by decide)) (fun _ => ?_)
  refine gw_iload_n hk.1.1 4 rfl dX8_init_67 ?_
  refine gw_bipush hk.1.1 (v := 30) rfl dX8_init_68 ?_
  refine gw_icmp_ge hk.1.1 (cIk rfl) (cIk rfl) dX8_init_70 (fun q => absurd q (by decide)) (fun _ => ?_)
  refine gc_ldcS hk dX8_init_73 ?_
  refine gw_iload hk.1.1 0 rfl dX8_init_75 ?_
  refine gc_jcall hk (st := []) mf_J0_charAt_5068e (inT1 52 rfl rfl) (inT1 53 rfl rfl) (inT1 54 rfl rfl) (by decide) rfl (Nat.le_of_ble_eq_true rfl) rfl dX8_init_77 (met_cha (i := 88) (x := 119) _ (cIk rfl) (by decide) (by decide) rfl) (by decide) (by decide) ?_
  refine gw_istore hk.1.1 (lv' := [(5, mI 119), (4, mI 88), (3, mI 2), (2, mI 514), (1, mI 16), (0, .ref (kB K + 2))]) (Nat.le_of_ble_eq_true rfl) rfl dX8_init_80 ?_
  refine gw_iload hk.1.1 0 rfl dX8_init_82 ?_
  refine gw_bipush hk.1.1 (v := 32) rfl dX8_init_84 ?_
  refine gw_icmp_ne hk.1.1 (cIk rfl) (cIk rfl) dX8_init_86 (fun _ => ?_) (fun q => absurd (by decide) q)
  refine gw_iload_n hk.1.1 3 rfl dX8_init_110 ?_
  refine gw_bipush hk.1.1 (v := 27) rfl dX8_init_111 ?_
  refine gw_imul hk.1.1 dX8_init_113 ?_
  refine gw_iload hk.1.1 0 rfl dX8_init_114 ?_
  refine gw_iadd hk.1.1 dX8_init_116 ?_
  refine gw_bipush hk.1.1 (v := 97) rfl dX8_init_117 ?_
  refine gw_isub hk.1.1 dX8_init_119 ?_
  refine gw_iconst hk.1.1 (v := 1) rfl dX8_init_120 ?_
  refine gw_iadd hk.1.1 dX8_init_121 ?_
  refine gw_top (y := 13901) (by decide) ?_
  refine gw_istore_n hk.1.1 rfl (lv' := [(2, mI 13901), (5, mI 119), (4, mI 88), (3, mI 2), (1, mI 16), (0, .ref (kB K + 2))]) (Nat.le_of_ble_eq_true rfl) rfl dX8_init_122 ?_
  refine gw_iinc hk.1.1 (lv' := [(3, mI 3), (2, mI 13901), (5, mI 119), (4, mI 88), (1, mI 16), (0, .ref (kB K + 2))]) 3 rfl (Nat.le_of_ble_eq_true rfl) rfl dX8_init_123 ?_
  refine gw_iinc hk.1.1 (lv' := [(4, mI 89), (3, mI 3), (2, mI 13901), (5, mI 119), (1, mI 16), (0, .ref (kB K + 2))]) 3 rfl (Nat.le_of_ble_eq_true rfl) rfl dX8_init_126 ?_
  refine gw_goto hk.1.1 dX8_init_129 ?_
  refine gw_iload hk.1.1 0 rfl dX8_init_57 ?_
  refine gc_ldcS hk dX8_init_59 ?_
  refine gc_jcall hk (st := [mI 89]) mf_J0_length_8abf5 (inT1 42 rfl rfl) (inT1 43 rfl rfl) (inT1 44 rfl rfl) (by decide) rfl (Nat.le_of_ble_eq_true rfl) rfl dX8_init_61 (met_len _) (by decide) (by decide) ?_
  refine gw_icmp_ge hk.1.1 (cIk rfl) (cIk rfl) dX8_init_64 (fun q => absurd q (by decide)) (fun _ => ?_)
  refine gw_iload_n hk.1.1 4 rfl dX8_init_67 ?_
  refine gw_bipush hk.1.1 (v := 30) rfl dX8_init_68 ?_
  refine gw_icmp_ge hk.1.1 (cIk rfl) (cIk rfl) dX8_init_70 (fun q => absurd q (by decide)) (fun _ => ?_)
  refine gc_ldcS hk dX8_init_73 ?_
  refine gw_iload hk.1.1 0 rfl dX8_init_75 ?_
  refine gc_jcall hk (st := []) mf_J0_charAt_5068e (inT1 52 rfl rfl) (inT1 53 rfl rfl) (inT1 54 rfl rfl) (by decide) rfl (Nat.le_of_ble_eq_true rfl) rfl dX8_init_77 (met_cha (i := 89) (x := 32) _ (cIk rfl) (by decide) (by decide) rfl) (by decide) (by decide) ?_
  refine gw_istore hk.1.1 (lv' := [(5, mI 32), (4, mI 89), (3, mI 3), (2, mI 13901), (1, mI 16), (0, .ref (kB K + 2))]) (Nat.le_of_ble_eq_true rfl) rfl dX8_init_80 ?_
  refine gw_iload hk.1.1 0 rfl dX8_init_82 ?_
  refine gw_bipush hk.1.1 (v := 32) rfl dX8_init_84 ?_
  refine gw_icmp_ne hk.1.1 (cIk rfl) (cIk rfl) dX8_init_86 (fun q => absurd q (by decide)) (fun _ => ?_)
  refine gw_aload_n hk.1.1 5 rfl dX8_init_89 ?_
  refine gc_get2 hk.1 (k := 7) (o := 2) fgc_X8_24 rfl kdC_2 (by omega) rfl rfl dX8_init_90 ?_
  refine gw_iload_n hk.1.1 4 rfl dX8_init_93 ?_
  refine gw_iload_n hk.1.1 3 rfl dX8_init_94 ?_
  refine gw_iload_n hk.1.1 2 rfl dX8_init_95 ?_
  refine gc_padded hk (st := [mI 16, .ref (kB K + 7)]) (a := 13901) (b := 3) (r := 273613383) (inT1 90 rfl rfl) (by decide +kernel) (cIk rfl) (cIk rfl) (by decide) (Nat.le_of_ble_eq_true rfl) (by decide) (by decide) dX8_init_96 ?_
  refine gc_iast hk.1 (a := 7) (v := 273613383) (cIk rfl) (by decide) (by decide) kdC_7 (by omega) dX8_init_99 ?_
  refine gw_iinc hk.1.1 (lv' := [(1, mI 17), (5, mI 32), (4, mI 89), (3, mI 3), (2, mI 13901), (0, .ref (kB K + 2))]) 4 rfl (Nat.le_of_ble_eq_true rfl) rfl dX8_init_100 ?_
  refine gw_iconst hk.1.1 (v := 0) rfl dX8_init_103 ?_
  refine gw_istore_n hk.1.1 rfl (lv' := [(2, mI 0), (1, mI 17), (5, mI 32), (4, mI 89), (3, mI 3), (0, .ref (kB K + 2))]) (Nat.le_of_ble_eq_true rfl) rfl dX8_init_104 ?_
  refine gw_iconst hk.1.1 (v := 0) rfl dX8_init_105 ?_
  refine gw_istore_n hk.1.1 rfl (lv' := [(3, mI 0), (2, mI 0), (1, mI 17), (5, mI 32), (4, mI 89), (0, .ref (kB K + 2))]) (Nat.le_of_ble_eq_true rfl) rfl dX8_init_106 ?_
  refine gw_goto hk.1.1 dX8_init_107 ?_
  refine gw_iinc hk.1.1 (lv' := [(4, mI 90), (3, mI 0), (2, mI 0), (1, mI 17), (5, mI 32), (0, .ref (kB K + 2))]) 4 rfl (Nat.le_of_ble_eq_true rfl) rfl dX8_init_126 ?_
  refine gw_goto hk.1.1 dX8_init_129 ?_
  refine gw_iload hk.1.1 0 rfl dX8_init_57 ?_
  refine gc_ldcS hk dX8_init_59 ?_
  refine gc_jcall hk (st := [mI 90]) mf_J0_length_8abf5 (inT1 42 rfl rfl) (inT1 43 rfl rfl) (inT1 44 rfl rfl) (by decide) rfl (Nat.le_of_ble_eq_true rfl) rfl dX8_init_61 (met_len _) (by decide) (by decide) ?_
  refine gw_icmp_ge hk.1.1 (cIk rfl) (cIk rfl) dX8_init_64 (fun q => absurd q (by decide)) (fun _ => ?_)
  refine gw_iload_n hk.1.1 3 rfl dX8_init_67 ?_
  refine gw_bipush hk.1.1 (v := 30) rfl dX8_init_68 ?_
  refine gw_icmp_ge hk.1.1 (cIk rfl) (cIk rfl) dX8_init_70 (fun q => absurd q (by decide)) (fun _ => ?_)
  refine gc_ldcS hk dX8_init_73 ?_
  refine gw_iload hk.1.1 0 rfl dX8_init_75 ?_
  refine gc_jcall hk (st := []) mf_J0_charAt_5068e (inT1 52 rfl rfl) (inT1 53 rfl rfl) (inT1 54 rfl rfl) (by decide) rfl (Nat.le_of_ble_eq_true rfl) rfl dX8_init_77 (met_cha (i := 90) (x := 104) _ (cIk rfl) (by decide) (by decide) rfl) (by decide) (by decide) ?_
  refine gw_istore hk.1.1 (lv' := [(5, mI 104), (4, mI 90), (3, mI 0), (2, mI 0), (1, mI 17), (0, .ref (kB K + 2))]) (Nat.le_of_ble_eq_true rfl) rfl dX8_init_80 ?_
  refine gw_iload hk.1.1 0 rfl dX8_init_82 ?_
  refine gw_bipush hk.1.1 (v := 32) rfl dX8_init_84 ?_
  refine gw_icmp_ne hk.1.1 (cIk rfl) (cIk rfl) dX8_init_86 (fun _ => ?_) (fun q => absurd (by decide) q)
  refine gw_iload_n hk.1.1 3 rfl dX8_init_110 ?_
  refine gw_bipush hk.1.1 (v := 27) rfl dX8_init_111 ?_
  refine gw_imul hk.1.1 dX8_init_113 ?_
  refine gw_iload hk.1.1 0 rfl dX8_init_114 ?_
  refine gw_iadd hk.1.1 dX8_init_116 ?_
  refine gw_bipush hk.1.1 (v := 97) rfl dX8_init_117 ?_
  refine gw_isub hk.1.1 dX8_init_119 ?_
  refine gw_iconst hk.1.1 (v := 1) rfl dX8_init_120 ?_
  refine gw_iadd hk.1.1 dX8_init_121 ?_
  refine gw_top (y := 8) (by decide) ?_
  refine gw_istore_n hk.1.1 rfl (lv' := [(2, mI 8), (5, mI 104), (4, mI 90), (3, mI 0), (1, mI 17), (0, .ref (kB K + 2))]) (Nat.le_of_ble_eq_true rfl) rfl dX8_init_122 ?_
  refine gw_iinc hk.1.1 (lv' := [(3, mI 1), (2, mI 8), (5, mI 104), (4, mI 90), (1, mI 17), (0, .ref (kB K + 2))]) 3 rfl (Nat.le_of_ble_eq_true rfl) rfl dX8_init_123 ?_
  refine gw_iinc hk.1.1 (lv' := [(4, mI 91), (3, mI 1), (2, mI 8), (5, mI 104), (1, mI 17), (0, .ref (kB K + 2))]) 3 rfl (Nat.le_of_ble_eq_true rfl) rfl dX8_init_126 ?_
  refine gw_goto hk.1.1 dX8_init_129 ?_
  refine gw_iload hk.1.1 0 rfl dX8_init_57 ?_
  refine gc_ldcS hk dX8_init_59 ?_
  refine gc_jcall hk (st := [mI 91]) mf_J0_length_8abf5 (inT1 42 rfl rfl) (inT1 43 rfl rfl) (inT1 44 rfl rfl) (by decide) rfl (Nat.le_of_ble_eq_true rfl) rfl dX8_init_61 (met_len _) (by decide) (by decide) ?_
  refine gw_icmp_ge hk.1.1 (cIk rfl) (cIk rfl) dX8_init_64 (fun q => absurd q (by decide)) (fun _ => ?_)
  refine gw_iload_n hk.1.1 4 rfl dX8_init_67 ?_
  refine gw_bipush hk.1.1 (v := 30) rfl dX8_init_68 ?_
  refine gw_icmp_ge hk.1.1 (cIk rfl) (cIk rfl) dX8_init_70 (fun q => absurd q (by decide)) (fun _ => ?_)
  refine gc_ldcS hk dX8_init_73 ?_
  refine gw_iload hk.1.1 0 rfl dX8_init_75 ?_
  refine gc_jcall hk (st := []) mf_J0_charAt_5068e (inT1 52 rfl rfl) (inT1 53 rfl rfl) (inT1 54 rfl rfl) (by decide) rfl (Nat.le_of_ble_eq_true rfl) rfl dX8_init_77 (met_cha (i := 91) (x := 111) _ (cIk rfl) (by decide) (by decide) rfl) (by decide) (by decide) ?_
  refine gw_istore hk.1.1 (lv' := [(5, mI 111), (4, mI 91), (3, mI 1), (2, mI 8), (1, mI 17), (0, .ref (kB K + 2))]) (Nat.le_of_ble_eq_true rfl) rfl dX8_init_80 ?_
  refine gw_iload hk.1.1 0 rfl dX8_init_82 ?_
  refine gw_bipush hk.1.1 (v := 32) rfl dX8_init_84 ?_
  refine gw_icmp_ne hk.1.1 (cIk rfl) (cIk rfl) dX8_init_86 (fun _ => ?_) (fun q => absurd (by decide) q)
  refine gw_iload_n hk.1.1 3 rfl dX8_init_110 ?_
  refine gw_bipush hk.1.1 (v := 27) rfl dX8_init_111 ?_
  refine gw_imul hk.1.1 dX8_init_113 ?_
  refine gw_iload hk.1.1 0 rfl dX8_init_114 ?_
  refine gw_iadd hk.1.1 dX8_init_116 ?_
  refine gw_bipush hk.1.1 (v := 97) rfl dX8_init_117 ?_
  refine gw_isub hk.1.1 dX8_init_119 ?_
  refine gw_iconst hk.1.1 (v := 1) rfl dX8_init_120 ?_
  refine gw_iadd hk.1.1 dX8_init_121 ?_
  refine gw_top (y := 231) (by decide) ?_
  refine gw_istore_n hk.1.1 rfl (lv' := [(2, mI 231), (5, mI 111), (4, mI 91), (3, mI 1), (1, mI 17), (0, .ref (kB K + 2))]) (Nat.le_of_ble_eq_true rfl) rfl dX8_init_122 ?_
  refine gw_iinc hk.1.1 (lv' := [(3, mI 2), (2, mI 231), (5, mI 111), (4, mI 91), (1, mI 17), (0, .ref (kB K + 2))]) 3 rfl (Nat.le_of_ble_eq_true rfl) rfl dX8_init_123 ?_
  refine gw_iinc hk.1.1 (lv' := [(4, mI 92), (3, mI 2), (2, mI 231), (5, mI 111), (1, mI 17), (0, .ref (kB K + 2))]) 3 rfl (Nat.le_of_ble_eq_true rfl) rfl dX8_init_126 ?_
  refine gw_goto hk.1.1 dX8_init_129 ?_
  refine gw_iload hk.1.1 0 rfl dX8_init_57 ?_
  refine gc_ldcS hk dX8_init_59 ?_
  refine gc_jcall hk (st := [mI 92]) mf_J0_length_8abf5 (inT1 42 rfl rfl) (inT1 43 rfl rfl) (inT1 44 rfl rfl) (by decide) rfl (Nat.le_of_ble_eq_true rfl) rfl dX8_init_61 (met_len _) (by decide) (by decide) ?_
  refine gw_icmp_ge hk.1.1 (cIk rfl) (cIk rfl) dX8_init_64 (fun q => absurd q (by decide)) (fun _ => ?_)
  refine gw_iload_n hk.1.1 4 rfl dX8_init_67 ?_
  refine gw_bipush hk.1.1 (v := 30) rfl dX8_init_68 ?_
  refine gw_icmp_ge hk.1.1 (cIk rfl) (cIk rfl) dX8_init_70 (fun q => absurd q (by decide)) (fun _ => ?_)
  refine gc_ldcS hk dX8_init_73 ?_
  refine gw_iload hk.1.1 0 rfl dX8_init_75 ?_
  refine gc_jcall hk (st := []) mf_J0_charAt_5068e (inT1 52 rfl rfl) (inT1 53 rfl rfl) (inT1 54 rfl rfl) (by decide) rfl (Nat.le_of_ble_eq_true rfl) rfl dX8_init_77 (met_cha (i := 92) (x := 117) _ (cIk rfl) (by decide) (by decide) rfl) (by decide) (by decide) ?_
  refine gw_istore hk.1.1 (lv' := [(5, mI 117), (4, mI 92), (3, mI 2), (2, mI 231), (1, mI 17), (0, .ref (kB K + 2))]) (Nat.le_of_ble_eq_true rfl) rfl dX8_init_80 ?_
  refine gw_iload hk.1.1 0 rfl dX8_init_82 ?_
  refine gw_bipush hk.1.1 (v := 32) rfl dX8_init_84 ?_
  refine gw_icmp_ne hk.1.1 (cIk rfl) (cIk rfl) dX8_init_86 (fun _ => ?_) (fun q => absurd (by decide) q)
  refine gw_iload_n hk.1.1 3 rfl dX8_init_110 ?_
  refine gw_bipush hk.1.1 (v := 27) rfl dX8_init_111 ?_
  refine gw_imul hk.1.1 dX8_init_113 ?_
  refine gw_iload hk.1.1 0 rfl dX8_init_114 ?_
  refine gw_iadd hk.1.1 dX8_init_116 ?_
  refine gw_bipush hk.1.1 (v := 97) rfl dX8_init_117 ?_
  refine gw_isub hk.1.1 dX8_init_119 ?_
  refine gw_iconst hk.1.1 (v := 1) rfl dX8_init_120 ?_
  refine gw_iadd hk.1.1 dX8_init_121 ?_
  refine gw_top (y := 6258) (by decide) ?_
  refine gw_istore_n hk.1.1 rfl (lv' := [(2, mI 6258), (5, mI 117), (4, mI 92), (3, mI 2), (1, mI 17), (0, .ref (kB K + 2))]) (Nat.le_of_ble_eq_true rfl) rfl dX8_init_122 ?_
  refine gw_iinc hk.1.1 (lv' := [(3, mI 3), (2, mI 6258), (5, mI 117), (4, mI 92), (1, mI 17), (0, .ref (kB K + 2))]) 3 rfl (Nat.le_of_ble_eq_true rfl) rfl dX8_init_123 ?_
  refine gw_iinc hk.1.1 (lv' := [(4, mI 93), (3, mI 3), (2, mI 6258), (5, mI 117), (1, mI 17), (0, .ref (kB K + 2))]) 3 rfl (Nat.le_of_ble_eq_true rfl) rfl dX8_init_126 ?_
  refine gw_goto hk.1.1 dX8_init_129 ?_
  refine gw_iload hk.1.1 0 rfl dX8_init_57 ?_
  refine gc_ldcS hk dX8_init_59 ?_
  refine gc_jcall hk (st := [mI 93]) mf_J0_length_8abf5 (inT1 42 rfl rfl) (inT1 43 rfl rfl) (inT1 44 rfl rfl) (by decide) rfl (Nat.le_of_ble_eq_true rfl) rfl dX8_init_61 (met_len _) (by decide) (by decide) ?_
  refine gw_icmp_ge hk.1.1 (cIk rfl) (cIk rfl) dX8_init_64 (fun q => absurd q (by decide)) (fun _ => ?_)
  refine gw_iload_n hk.1.1 4 rfl dX8_init_67 ?_
  refine gw_bipush hk.1.1 (v := 30) rfl dX8_init_68 ?_
  refine gw_icmp_ge hk.1.1 (cIk rfl) (cIk rfl) dX8_init_70 (fun q => absurd q (by decide)) (fun _ => ?_)
  refine gc_ldcS hk dX8_init_73 ?_
  refine gw_iload hk.1.1 0 rfl dX8_init_75 ?_
  refine gc_jcall hk (st := []) mf_J0_charAt_5068e (inT1 52 rfl rfl) (inT1 53 rfl rfl) (inT1 54 rfl rfl) (by decide) rfl (Nat.le_of_ble_eq_true rfl) rfl dX8_init_77 (met_cha (i := 93) (x := 114) _ (cIk rfl) (by decide) (by decide) rfl) (by decide) (by decide) ?_
  refine gw_istore hk.1.1 (lv' := [(5, mI 114), (4, mI 93), (3, mI 3), (2, mI 6258), (1, mI 17), (0, .ref (kB K + 2))]) (Nat.le_of_ble_eq_true rfl) rfl dX8_init_80 ?_
  refine gw_iload hk.1.1 0 rfl dX8_init_82 ?_
  refine gw_bipush hk.1.1 (v := 32) rfl dX8_init_84 ?_
  refine gw_icmp_ne hk.1.1 (cIk rfl) (cIk rfl) dX8_init_86 (fun _ => ?_) (fun q => absurd (by decide) q)
  refine gw_iload_n hk.1.1 3 rfl dX8_init_110 ?_
  refine gw_bipush hk.1.1 (v := 27) rfl dX8_init_111 ?_
  refine gw_imul hk.1.1 dX8_init_113 ?_
  refine gw_iload hk.1.1 0 rfl dX8_init_114 ?_
  refine gw_iadd hk.1.1 dX8_init_116 ?_
  refine gw_bipush hk.1.1 (v := 97) rfl dX8_init_117 ?_
  refine gw_isub hk.1.1 dX8_init_119 ?_
  refine gw_iconst hk.1.1 (v := 1) rfl dX8_init_120 ?_
  refine gw_iadd hk.1.1 dX8_init_121 ?_
  refine gw_top (y := 168984) (by decide) ?_
  refine gw_istore_n hk.1.1 rfl (lv' := [(2, mI 168984), (5, mI 114), (4, mI 93), (3, mI 3), (1, mI 17), (0, .ref (kB K + 2))]) (Nat.le_of_ble_eq_true rfl) rfl dX8_init_122 ?_
  refine gw_iinc hk.1.1 (lv' := [(3, mI 4), (2, mI 168984), (5, mI 114), (4, mI 93), (1, mI 17), (0, .ref (kB K + 2))]) 3 rfl (Nat.le_of_ble_eq_true rfl) rfl dX8_init_123 ?_
  refine gw_iinc hk.1.1 (lv' := [(4, mI 94), (3, mI 4), (2, mI 168984), (5, mI 114), (1, mI 17), (0, .ref (kB K + 2))]) 3 rfl (Nat.le_of_ble_eq_true rfl) rfl dX8_init_126 ?_
  refine gw_goto hk.1.1 dX8_init_129 ?_
  refine gw_iload hk.1.1 0 rfl dX8_init_57 ?_
  refine gc_ldcS hk dX8_init_59 ?_
  refine gc_jcall hk (st := [mI 94]) mf_J0_length_8abf5 (inT1 42 rfl rfl) (inT1 43 rfl rfl) (inT1 44 rfl rfl) (by decide) rfl (Nat.le_of_ble_eq_true rfl) rfl dX8_init_61 (met_len _) (by decide) (by decide) ?_
  refine gw_icmp_ge hk.1.1 (cIk rfl) (cIk rfl) dX8_init_64 (fun q => absurd q (by decide)) (fun _ => ?_)
  refine gw_iload_n hk.1.1 4 rfl dX8_init_67 ?_
  refine gw_bipush hk.1.1 (v := 30) rfl dX8_init_68 ?_
  refine gw_icmp_ge hk.1.1 (cIk rfl) (cIk rfl) dX8_init_70 (fun q => absurd q (by decide)) (fun _ => ?_)
  refine gc_ldcS hk dX8_init_73 ?_
  refine gw_iload hk.1.1 0 rfl dX8_init_75 ?_
  refine gc_jcall hk (st := []) mf_J0_charAt_5068e (inT1 52 rfl rfl) (inT1 53 rfl rfl) (inT1 54 rfl rfl) (by decide) rfl (Nat.le_of_ble_eq_true rfl) rfl dX8_init_77 (met_cha (i := 94) (x := 32) _ (cIk rfl) (by decide) (by decide) rfl) (by decide) (by decide) ?_
  refine gw_istore hk.1.1 (lv' := [(5, mI 32), (4, mI 94), (3, mI 4), (2, mI 168984), (1, mI 17), (0, .ref (kB K + 2))]) (Nat.le_of_ble_eq_true rfl) rfl dX8_init_80 ?_
  refine gw_iload hk.1.1 0 rfl dX8_init_82 ?_
  refine gw_bipush hk.1.1 (v := 32) rfl dX8_init_84 ?_
  refine gw_icmp_ne hk.1.1 (cIk rfl) (cIk rfl) dX8_init_86 (fun q => absurd q (by decide)) (fun _ => ?_)
  refine gw_aload_n hk.1.1 5 rfl dX8_init_89 ?_
  refine gc_get2 hk.1 (k := 7) (o := 2) fgc_X8_24 rfl kdC_2 (by omega) rfl rfl dX8_init_90 ?_
  refine gw_iload_n hk.1.1 4 rfl dX8_init_93 ?_
  refine gw_iload_n hk.1.1 3 rfl dX8_init_94 ?_
  refine gw_iload_n hk.1.1 2 rfl dX8_init_95 ?_
  refine gc_padded hk (st := [mI 17, .ref (kB K + 7)]) (a := 168984) (b := 4) (r := 123189336) (inT1 90 rfl rfl) (by decide +kernel) (cIk rfl) (cIk rfl) (by decide) (Nat.le_of_ble_eq_true rfl) (by decide) (by decide) dX8_init_96 ?_
  refine gc_iast hk.1 (a := 7) (v := 123189336) (cIk rfl) (by decide) (by decide) kdC_7 (by omega) dX8_init_99 ?_
  refine gw_iinc hk.1.1 (lv' := [(1, mI 18), (5, mI 32), (4, mI 94), (3, mI 4), (2, mI 168984), (0, .ref (kB K + 2))]) 4 rfl (Nat.le_of_ble_eq_true rfl) rfl dX8_init_100 ?_
  refine gw_iconst hk.1.1 (v := 0) rfl dX8_init_103 ?_
  refine gw_istore_n hk.1.1 rfl (lv' := [(2, mI 0), (1, mI 18), (5, mI 32), (4, mI 94), (3, mI 4), (0, .ref (kB K + 2))]) (Nat.le_of_ble_eq_true rfl) rfl dX8_init_104 ?_
  refine gw_iconst hk.1.1 (v := 0) rfl dX8_init_105 ?_
  refine gw_istore_n hk.1.1 rfl (lv' := [(3, mI 0), (2, mI 0), (1, mI 18), (5, mI 32), (4, mI 94), (0, .ref (kB K + 2))]) (Nat.le_of_ble_eq_true rfl) rfl dX8_init_106 ?_
  refine gw_goto hk.1.1 dX8_init_107 ?_
  refine gw_iinc hk.1.1 (lv' := [(4, mI 95), (3, mI 0), (2, mI 0), (1, mI 18), (5, mI 32), (0, .ref (kB K + 2))]) 4 rfl (Nat.le_of_ble_eq_true rfl) rfl dX8_init_126 ?_
  refine gw_goto hk.1.1 dX8_init_129 ?_
  refine gw_iload hk.1.1 0 rfl dX8_init_57 ?_
  refine gc_ldcS hk dX8_init_59 ?_
  refine gc_jcall hk (st := [mI 95]) mf_J0_length_8abf5 (inT1 42 rfl rfl) (inT1 43 rfl rfl) (inT1 44 rfl rfl) (by decide) rfl (Nat.le_of_ble_eq_true rfl) rfl dX8_init_61 (met_len _) (by decide) (by decide) ?_
  refine gw_icmp_ge hk.1.1 (cIk rfl) (cIk rfl) dX8_init_64 (fun q => absurd q (by decide)) (fun _ => ?_)
  refine gw_iload_n hk.1.1 3 rfl dX8_init_67 ?_
  refine gw_bipush hk.1.1 (v := 30) rfl dX8_init_68 ?_
  refine gw_icmp_ge hk.1.1 (cIk rfl) (cIk rfl) dX8_init_70 (fun q => absurd q (by decide)) (fun _ => ?_)
  refine gc_ldcS hk dX8_init_73 ?_
  refine gw_iload hk.1.1 0 rfl dX8_init_75 ?_
  refine gc_jcall hk (st := []) mf_J0_charAt_5068e (inT1 52 rfl rfl) (inT1 53 rfl rfl) (inT1 54 rfl rfl) (by decide) rfl (Nat.le_of_ble_eq_true rfl) rfl dX8_init_77 (met_cha (i := 95) (x := 108) _ (cIk rfl) (by decide) (by decide) rfl) (by decide) (by decide) ?_
  refine gw_istore hk.1.1 (lv' := [(5, mI 108), (4, mI 95), (3, mI 0), (2, mI 0), (1, mI 18), (0, .ref (kB K + 2))]) (Nat.le_of_ble_eq_true rfl) rfl dX8_init_80 ?_
  refine gw_iload hk.1.1 0 rfl dX8_init_82 ?_
  refine gw_bipush hk.1.1 (v := 32) rfl dX8_init_84 ?_
  refine gw_icmp_ne hk.1.1 (cIk rfl) (cIk rfl) dX8_init_86 (fun _ => ?_) (fun q => absurd (by decide) q)
  refine gw_iload_n hk.1.1 3 rfl dX8_init_110 ?_
  refine gw_bipush hk.1.1 (v := 27) rfl dX8_init_111 ?_
  refine gw_imul hk.1.1 dX8_init_113 ?_
  refine gw_iload hk.1.1 0 rfl dX8_init_114 ?_
  refine gw_iadd hk.1.1 dX8_init_116 ?_
  refine gw_bipush hk.1.1 (v := 97) rfl dX8_init_117 ?_
  refine gw_isub hk.1.1 dX8_init_119 ?_
  refine gw_iconst hk.1.1 (v := 1) rfl dX8_init_120 ?_
  refine gw_iadd hk.1.1 dX8_init_121 ?_
  refine gw_top (y := 12) (by decide) ?_
  refine gw_istore_n hk.1.1 rfl (lv' := [(2, mI 12), (5, mI 108), (4, mI 95), (3, mI 0), (1, mI 18), (0, .ref (kB K + 2))]) (Nat.le_of_ble_eq_true rfl) rfl dX8_init_122 ?_
  refine gw_iinc hk.1.1 (lv' := [(3, mI 1), (2, mI 12), (5, mI 108), (4, mI 95), (1, mI 18), (0, .ref (kB K + 2))]) 3 rfl (Nat.le_of_ble_eq_true rfl) rfl dX8_init_123 ?_
  refine gw_iinc hk.1.1 (lv' := [(4, mI 96), (3, mI 1), (2, mI 12), (5, mI 108), (1, mI 18), (0, .ref (kB K + 2))]) 3 rfl (Nat.le_of_ble_eq_true rfl) rfl dX8_init_126 ?_
  refine gw_goto hk.1.1 dX8_init_129 ?_
  refine gw_iload hk.1.1 0 rfl dX8_init_57 ?_
  refine gc_ldcS hk dX8_init_59 ?_
  refine gc_jcall hk (st := [mI 96]) mf_J0_length_8abf5 (inT1 42 rfl rfl) (inT1 43 rfl rfl) (inT1 44 rfl rfl) (by decide) rfl (Nat.le_of_ble_eq_true rfl) rfl dX8_init_61 (met_len _) (by decide) (by decide) ?_
  refine gw_icmp_ge hk.1.1 (cIk rfl) (cIk rfl) dX8_init_64 (fun q => absurd q (by decide)) (fun _ => ?_)
  refine gw_iload_n hk.1.1 4 rfl dX8_init_67 ?_
  refine gw_bipush hk.1.1 (v := 30) rfl dX8_init_68 ?_
  refine gw_icmp_ge hk.1.1 (cIk rfl) (cIk rfl) dX8_init_70 (fun q => absurd q (by decide)) (fun _ => ?_)
  refine gc_ldcS hk dX8_init_73 ?_
  refine gw_iload hk.1.1 0 rfl dX8_init_75 ?_
  refine gc_jcall hk (st := []) mf_J0_charAt_5068e (inT1 52 rfl rfl) (inT1 53 rfl rfl) (inT1 54 rfl rfl) (by decide) rfl (Nat.le_of_ble_eq_true rfl) rfl dX8_init_77 (met_cha (i := 96) (x := 111) _ (cIk rfl) (by decide) (by decide) rfl) (by decide) (by decide) ?_
  refine gw_istore hk.1.1 (lv' := [(5, mI 111), (4, mI 96), (3, mI 1), (2, mI 12), (1, mI 18), (0, .ref (kB K + 2))]) (Nat.le_of_ble_eq_true rfl) rfl dX8_init_80 ?_
  refine gw_iload hk.1.1 0 rfl dX8_init_82 ?_
  refine gw_bipush hk.1.1 (v := 32) rfl dX8_init_84 ?_
  refine gw_icmp_ne hk.1.1 (cIk rfl) (cIk rfl) dX8_init_86 (fun _ => ?_) (fun q => absurd (by decide) q)
  refine gw_iload_n hk.1.1 3 rfl dX8_init_110 ?_
  refine gw_bipush hk.1.1 (v := 27) rfl dX8_init_111 ?_
  refine gw_imul hk.1.1 dX8_init_113 ?_
  refine gw_iload hk.1.1 0 rfl dX8_init_114 ?_
  refine gw_iadd hk.1.1 dX8_init_116 ?_
  refine gw_bipush hk.1.1 (v := 97) rfl dX8_init_117 ?_
  refine gw_isub hk.1.1 dX8_init_119 ?_
  refine gw_iconst hk.1.1 (v := 1) rfl dX8_init_120 ?_
  refine gw_iadd hk.1.1 dX8_init_121 ?_
  refine gw_top (y := 339) (by decide) ?_
  refine gw_istore_n hk.1.1 rfl (lv' := [(2, mI 339), (5, mI 111), (4, mI 96), (3, mI 1), (1, mI 18), (0, .ref (kB K + 2))]) (Nat.le_of_ble_eq_true rfl) rfl dX8_init_122 ?_
  refine gw_iinc hk.1.1 (lv' := [(3, mI 2), (2, mI 339), (5, mI 111), (4, mI 96), (1, mI 18), (0, .ref (kB K + 2))]) 3 rfl (Nat.le_of_ble_eq_true rfl) rfl dX8_init_123 ?_
  refine gw_iinc hk.1.1 (lv' := [(4, mI 97), (3, mI 2), (2, mI 339), (5, mI 111), (1, mI 18), (0, .ref (kB K + 2))]) 3 rfl (Nat.le_of_ble_eq_true rfl) rfl dX8_init_126 ?_
  refine gw_goto hk.1.1 dX8_init_129 ?_
  refine gw_iload hk.1.1 0 rfl dX8_init_57 ?_
  refine gc_ldcS hk dX8_init_59 ?_
  refine gc_jcall hk (st := [mI 97]) mf_J0_length_8abf5 (inT1 42 rfl rfl) (inT1 43 rfl rfl) (inT1 44 rfl rfl) (by decide) rfl (Nat.le_of_ble_eq_true rfl) rfl dX8_init_61 (met_len _) (by decide) (by decide) ?_
  refine gw_icmp_ge hk.1.1 (cIk rfl) (cIk rfl) dX8_init_64 (fun q => absurd q (by decide)) (fun _ => ?_)
  refine gw_iload_n hk.1.1 4 rfl dX8_init_67 ?_
  refine gw_bipush hk.1.1 (v := 30) rfl dX8_init_68 ?_
  refine gw_icmp_ge hk.1.1 (cIk rfl) (cIk rfl) dX8_init_70 (fun q => absurd q (by decide)) (fun _ => ?_)
  refine gc_ldcS hk dX8_init_73 ?_
  refine gw_iload hk.1.1 0 rfl dX8_init_75 ?_
  refine gc_jcall hk (st := []) mf_J0_charAt_5068e (inT1 52 rfl rfl) (inT1 53 rfl rfl) (inT1 54 rfl rfl) (by decide) rfl (Nat.le_of_ble_eq_true rfl) rfl dX8_init_77 (met_cha (i := 97) (x := 111) _ (cIk rfl) (by decide) (by decide) rfl) (by decide) (by decide) ?_
  refine gw_istore hk.1.1 (lv' := [(5, mI 111), (4, mI 97), (3, mI 2), (2, mI 339), (1, mI 18), (0, .ref (kB K + 2))]) (Nat.le_of_ble_eq_true rfl) rfl dX8_init_80 ?_
  refine gw_iload hk.1.1 0 rfl dX8_init_82 ?_
  refine gw_bipush hk.1.1 (v := 32) rfl dX8_init_84 ?_
  refine gw_icmp_ne hk.1.1 (cIk rfl) (cIk rfl) dX8_init_86 (fun _ => ?_) (fun q => absurd (by decide) q)
  refine gw_iload_n hk.1.1 3 rfl dX8_init_110 ?_
  refine gw_bipush hk.1.1 (v := 27) rfl dX8_init_111 ?_
  refine gw_imul hk.1.1 dX8_init_113 ?_
  refine gw_iload hk.1.1 0 rfl dX8_init_114 ?_
  refine gw_iadd hk.1.1 dX8_init_116 ?_
  refine gw_bipush hk.1.1 (v := 97) rfl dX8_init_117 ?_
  refine gw_isub hk.1.1 dX8_init_119 ?_
  refine gw_iconst hk.1.1 (v := 1) rfl dX8_init_120 ?_
  refine gw_iadd hk.1.1 dX8_init_121 ?_
  refine gw_top (y := 9168) (by decide) ?_
  refine gw_istore_n hk.1.1 rfl (lv' := [(2, mI 9168), (5, mI 111), (4, mI 97), (3, mI 2), (1, mI 18), (0, .ref (kB K + 2))]) (Nat.le_of_ble_eq_true rfl) rfl dX8_init_122 ?_
  refine gw_iinc hk.1.1 (lv' := [(3, mI 3), (2, mI 9168), (5, mI 111), (4, mI 97), (1, mI 18), (0, .ref (kB K + 2))]) 3 rfl (Nat.le_of_ble_eq_true rfl) rfl dX8_init_123 ?_
  refine gw_iinc hk.1.1 (lv' := [(4, mI 98), (3, mI 3), (2, mI 9168), (5, mI 111), (1, mI 18), (0, .ref (kB K + 2))]) 3 rfl (Nat.le_of_ble_eq_true rfl) rfl dX8_init_126 ?_
  refine gw_goto hk.1.1 dX8_init_129 ?_
  refine gw_iload hk.1.1 0 rfl dX8_init_57 ?_
  refine gc_ldcS hk dX8_init_59 ?_
  refine gc_jcall hk (st := [mI 98]) mf_J0_length_8abf5 (inT1 42 rfl rfl) (inT1 43 rfl rfl) (inT1 44 rfl rfl) (by decide) rfl (Nat.le_of_ble_eq_true rfl) rfl dX8_init_61 (met_len _) (by decide) (by decide) ?_
  refine gw_icmp_ge hk.1.1 (cIk rfl) (cIk rfl) dX8_init_64 (fun q => absurd q (by decide)) (fun _ => ?_)
  refine gw_iload_n hk.1.1 4 rfl dX8_init_67 ?_
  refine gw_bipush hk.1.1 (v := 30) rfl dX8_init_68 ?_
  refine gw_icmp_ge hk.1.1 (cIk rfl) (cIk rfl) dX8_init_70 (fun q => absurd q (by decide)) (fun _ => ?_)
  refine gc_ldcS hk dX8_init_73 ?_
  refine gw_iload hk.1.1 0 rfl dX8_init_75 ?_
  refine gc_jcall hk (st := []) mf_J0_charAt_5068e (inT1 52 rfl rfl) (inT1 53 rfl rfl) (inT1 54 rfl rfl) (by decide) rfl (Nat.le_of_ble_eq_true rfl) rfl dX8_init_77 (met_cha (i := 98) (x := 107) _ (cIk rfl) (by decide) (by decide) rfl) (by decide) (by decide) ?_
  refine gw_istore hk.1.1 (lv' := [(5, mI 107), (4, mI 98), (3, mI 3), (2, mI 9168), (1, mI 18), (0, .ref (kB K + 2))]) (Nat.le_of_ble_eq_true rfl) rfl dX8_init_80 ?_
  refine gw_iload hk.1.1 0 rfl dX8_init_82 ?_
  refine gw_bipush hk.1.1 (v := 32) rfl dX8_init_84 ?_
  refine gw_icmp_ne hk.1.1 (cIk rfl) (cIk rfl) dX8_init_86 (fun _ => ?_) (fun q => absurd (by decide) q)
  refine gw_iload_n hk.1.1 3 rfl dX8_init_110 ?_
  refine gw_bipush hk.1.1 (v := 27) rfl dX8_init_111 ?_
  refine gw_imul hk.1.1 dX8_init_113 ?_
  refine gw_iload hk.1.1 0 rfl dX8_init_114 ?_
  refine gw_iadd hk.1.1 dX8_init_116 ?_
  refine gw_bipush hk.1.1 (v := 97) rfl dX8_init_117 ?_
  refine gw_isub hk.1.1 dX8_init_119 ?_
  refine gw_iconst hk.1.1 (v := 1) rfl dX8_init_120 ?_
  refine gw_iadd hk.1.1 dX8_init_121 ?_
  refine gw_top (y := 247547) (by decide) ?_
  refine gw_istore_n hk.1.1 rfl (lv' := [(2, mI 247547), (5, mI 107), (4, mI 98), (3, mI 3), (1, mI 18), (0, .ref (kB K + 2))]) (Nat.le_of_ble_eq_true rfl) rfl dX8_init_122 ?_
  refine gw_iinc hk.1.1 (lv' := [(3, mI 4), (2, mI 247547), (5, mI 107), (4, mI 98), (1, mI 18), (0, .ref (kB K + 2))]) 3 rfl (Nat.le_of_ble_eq_true rfl) rfl dX8_init_123 ?_
  refine gw_iinc hk.1.1 (lv' := [(4, mI 99), (3, mI 4), (2, mI 247547), (5, mI 107), (1, mI 18), (0, .ref (kB K + 2))]) 3 rfl (Nat.le_of_ble_eq_true rfl) rfl dX8_init_126 ?_
  refine gw_goto hk.1.1 dX8_init_129 ?_
  refine gw_iload hk.1.1 0 rfl dX8_init_57 ?_
  refine gc_ldcS hk dX8_init_59 ?_
  refine gc_jcall hk (st := [mI 99]) mf_J0_length_8abf5 (inT1 42 rfl rfl) (inT1 43 rfl rfl) (inT1 44 rfl rfl) (by decide) rfl (Nat.le_of_ble_eq_true rfl) rfl dX8_init_61 (met_len _) (by decide) (by decide) ?_
  refine gw_icmp_ge hk.1.1 (cIk rfl) (cIk rfl) dX8_init_64 (fun q => absurd q (by decide)) (fun _ => ?_)
  refine gw_iload_n hk.1.1 4 rfl dX8_init_67 ?_
  refine gw_bipush hk.1.1 (v := 30) rfl dX8_init_68 ?_
  refine gw_icmp_ge hk.1.1 (cIk rfl) (cIk rfl) dX8_init_70 (fun q => absurd q (by decide)) (fun _ => ?_)
  refine gc_ldcS hk dX8_init_73 ?_
  refine gw_iload hk.1.1 0 rfl dX8_init_75 ?_
  refine gc_jcall hk (st := []) mf_J0_charAt_5068e (inT1 52 rfl rfl) (inT1 53 rfl rfl) (inT1 54 rfl rfl) (by decide) rfl (Nat.le_of_ble_eq_true rfl) rfl dX8_init_77 (met_cha (i := 99) (x := 115) _ (cIk rfl) (by decide) (by decide) rfl) (by decide) (by decide) ?_
  refine gw_istore hk.1.1 (lv' := [(5, mI 115), (4, mI 99), (3, mI 4), (2, mI 247547), (1, mI 18), (0, .ref (kB K + 2))]) (Nat.le_of_ble_eq_true rfl) rfl dX8_init_80 ?_
  refine gw_iload hk.1.1 0 rfl dX8_init_82 ?_
  refine gw_bipush hk.1.1 (v := 32) rfl dX8_init_84 ?_
  refine gw_icmp_ne hk.1.1 (cIk rfl) (cIk rfl) dX8_init_86 (fun _ => ?_) (fun q => absurd (by decide) q)
  refine gw_iload_n hk.1.1 3 rfl dX8_init_110 ?_
  refine gw_bipush hk.1.1 (v := 27) rfl dX8_init_111 ?_
  refine gw_imul hk.1.1 dX8_init_113 ?_
  refine gw_iload hk.1.1 0 rfl dX8_init_114 ?_
  refine gw_iadd hk.1.1 dX8_init_116 ?_
  refine gw_bipush hk.1.1 (v := 97) rfl dX8_init_117 ?_
  refine gw_isub hk.1.1 dX8_init_119 ?_
  refine gw_iconst hk.1.1 (v := 1) rfl dX8_init_120 ?_
  refine gw_iadd hk.1.1 dX8_init_121 ?_
  refine gw_top (y := 6683788) (by decide) ?_
  refine gw_istore_n hk.1.1 rfl (lv' := [(2, mI 6683788), (5, mI 115), (4, mI 99), (3, mI 4), (1, mI 18), (0, .ref (kB K + 2))]) (Nat.le_of_ble_eq_true rfl) rfl dX8_init_122 ?_
  refine gw_iinc hk.1.1 (lv' := [(3, mI 5), (2, mI 6683788), (5, mI 115), (4, mI 99), (1, mI 18), (0, .ref (kB K + 2))]) 3 rfl (Nat.le_of_ble_eq_true rfl) rfl dX8_init_123 ?_
  refine gw_iinc hk.1.1 (lv' := [(4, mI 100), (3, mI 5), (2, mI 6683788), (5, mI 115), (1, mI 18), (0, .ref (kB K + 2))]) 3 rfl (Nat.le_of_ble_eq_true rfl) rfl dX8_init_126 ?_
  refine gw_goto hk.1.1 dX8_init_129 ?_
  refine gw_iload hk.1.1 0 rfl dX8_init_57 ?_
  refine gc_ldcS hk dX8_init_59 ?_
  refine gc_jcall hk (st := [mI 100]) mf_J0_length_8abf5 (inT1 42 rfl rfl) (inT1 43 rfl rfl) (inT1 44 rfl rfl) (by decide) rfl (Nat.le_of_ble_eq_true rfl) rfl dX8_init_61 (met_len _) (by decide) (by decide) ?_
  refine gw_icmp_ge hk.1.1 (cIk rfl) (cIk rfl) dX8_init_64 (fun q => absurd q (by decide)) (fun _ => ?_)
  refine gw_iload_n hk.1.1 4 rfl dX8_init_67 ?_
  refine gw_bipush hk.1.1 (v := 30) rfl dX8_init_68 ?_
  refine gw_icmp_ge hk.1.1 (cIk rfl) (cIk rfl) dX8_init_70 (fun q => absurd q (by decide)) (fun _ => ?_)
  refine gc_ldcS hk dX8_init_73 ?_
  refine gw_iload hk.1.1 0 rfl dX8_init_75 ?_
  refine gc_jcall hk (st := []) mf_J0_charAt_5068e (inT1 52 rfl rfl) (inT1 53 rfl rfl) (inT1 54 rfl rfl) (by decide) rfl (Nat.le_of_ble_eq_true rfl) rfl dX8_init_77 (met_cha (i := 100) (x := 32) _ (cIk rfl) (by decide) (by decide) rfl) (by decide) (by decide) ?_
  refine gw_istore hk.1.1 (lv' := [(5, mI 32), (4, mI 100), (3, mI 5), (2, mI 6683788), (1, mI 18), (0, .ref (kB K + 2))]) (Nat.le_of_ble_eq_true rfl) rfl dX8_init_80 ?_
  refine gw_iload hk.1.1 0 rfl dX8_init_82 ?_
  refine gw_bipush hk.1.1 (v := 32) rfl dX8_init_84 ?_
  refine gw_icmp_ne hk.1.1 (cIk rfl) (cIk rfl) dX8_init_86 (fun q => absurd q (by decide)) (fun _ => ?_)
  refine gw_aload_n hk.1.1 5 rfl dX8_init_89 ?_
  refine gc_get2 hk.1 (k := 7) (o := 2) fgc_X8_24 rfl kdC_2 (by omega) rfl rfl dX8_init_90 ?_
  refine gw_iload_n hk.1.1 4 rfl dX8_init_93 ?_
  refine gw_iload_n hk.1.1 3 rfl dX8_init_94 ?_
  refine gw_iload_n hk.1.1 2 rfl dX8_init_95 ?_
  refine gc_padded hk (st := [mI 18, .ref (kB K + 7)]) (a := 6683788) (b := 5) (r := 180462276) (inT1 90 rfl rfl) (by decide +kernel) (cIk rfl) (cIk rfl) (by decide) (Nat.le_of_ble_eq_true rfl) (by decide) (by decide) dX8_init_96 ?_
  refine gc_iast hk.1 (a := 7) (v := 180462276) (cIk rfl) (by decide) (by decide) kdC_7 (by omega) dX8_init_99 ?_
  refine gw_iinc hk.1.1 (lv' := [(1, mI 19), (5, mI 32), (4, mI 100), (3, mI 5), (2, mI 6683788), (0, .ref (kB K + 2))]) 4 rfl (Nat.le_of_ble_eq_true rfl) rfl dX8_init_100 ?_
  refine gw_iconst hk.1.1 (v := 0) rfl dX8_init_103 ?_
  refine gw_istore_n hk.1.1 rfl (lv' := [(2, mI 0), (1, mI 19), (5, mI 32), (4, mI 100), (3, mI 5), (0, .ref (kB K + 2))]) (Nat.le_of_ble_eq_true rfl) rfl dX8_init_104 ?_
  refine gw_iconst hk.1.1 (v := 0) rfl dX8_init_105 ?_
  refine gw_istore_n hk.1.1 rfl (lv' := [(3, mI 0), (2, mI 0), (1, mI 19), (5, mI 32), (4, mI 100), (0, .ref (kB K + 2))]) (Nat.le_of_ble_eq_true rfl) rfl dX8_init_106 ?_
  refine gw_goto hk.1.1 dX8_init_107 ?_
  refine gw_iinc hk.1.1 (lv' := [(4, mI 101), (3, mI 0), (2, mI 0), (1, mI 19), (5, mI 32), (0, .ref (kB K + 2))]) 4 rfl (Nat.le_of_ble_eq_true rfl) rfl dX8_init_126 ?_
  refine gw_goto hk.1.1 dX8_init_129 ?_
  refine gw_iload hk.1.1 0 rfl dX8_init_57 ?_
  refine gc_ldcS hk dX8_init_59 ?_
  refine gc_jcall hk (st := [mI 101]) mf_J0_length_8abf5 (inT1 42 rfl rfl) (inT1 43 rfl rfl) (inT1 44 rfl rfl) (by decide) rfl (Nat.le_of_ble_eq_true rfl) rfl dX8_init_61 (met_len _) (by decide) (by decide) ?_
  refine gw_icmp_ge hk.1.1 (cIk rfl) (cIk rfl) dX8_init_64 (fun q => absurd q (by decide)) (fun _ => ?_)
  refine gw_iload_n hk.1.1 3 rfl dX8_init_67 ?_
  refine gw_bipush hk.1.1 (v := 30) rfl dX8_init_68 ?_
  refine gw_icmp_ge hk.1.1 (cIk rfl) (cIk rfl) dX8_init_70 (fun q => absurd q (by decide)) (fun _ => ?_)
  refine gc_ldcS hk dX8_init_73 ?_
  refine gw_iload hk.1.1 0 rfl dX8_init_75 ?_
  refine gc_jcall hk (st := []) mf_J0_charAt_5068e (inT1 52 rfl rfl) (inT1 53 rfl rfl) (inT1 54 rfl rfl) (by decide) rfl (Nat.le_of_ble_eq_true rfl) rfl dX8_init_77 (met_cha (i := 101) (x := 115) _ (cIk rfl) (by decide) (by decide) rfl) (by decide) (by decide) ?_
  refine gw_istore hk.1.1 (lv' := [(5, mI 115), (4, mI 101), (3, mI 0), (2, mI 0), (1, mI 19), (0, .ref (kB K + 2))]) (Nat.le_of_ble_eq_true rfl) rfl dX8_init_80 ?_
  refine gw_iload hk.1.1 0 rfl dX8_init_82 ?_
  refine gw_bipush hk.1.1 (v := 32) rfl dX8_init_84 ?_
  refine gw_icmp_ne hk.1.1 (cIk rfl) (cIk rfl) dX8_init_86 (fun _ => ?_) (fun q => absurd (by decide) q)
  refine gw_iload_n hk.1.1 3 rfl dX8_init_110 ?_
  refine gw_bipush hk.1.1 (v := 27) rfl dX8_init_111 ?_
  refine gw_imul hk.1.1 dX8_init_113 ?_
  refine gw_iload hk.1.1 0 rfl dX8_init_114 ?_
  refine gw_iadd hk.1.1 dX8_init_116 ?_
  refine gw_bipush hk.1.1 (v := 97) rfl dX8_init_117 ?_
  refine gw_isub hk.1.1 dX8_init_119 ?_
  refine gw_iconst hk.1.1 (v := 1) rfl dX8_init_120 ?_
  refine gw_iadd hk.1.1 dX8_init_121 ?_
  refine gw_top (y := 19) (by decide) ?_
  refine gw_istore_n hk.1.1 rfl (lv' := [(2, mI 19), (5, mI 115), (4, mI 101), (3, mI 0), (1, mI 19), (0, .ref (kB K + 2))]) (Nat.le_of_ble_eq_true rfl) rfl dX8_init_122 ?_
  refine gw_iinc hk.1.1 (lv' := [(3, mI 1), (2, mI 19), (5, mI 115), (4, mI 101), (1, mI 19), (0, .ref (kB K + 2))]) 3 rfl (Nat.le_of_ble_eq_true rfl) rfl dX8_init_123 ?_
  refine gw_iinc hk.1.1 (lv' := [(4, mI 102), (3, mI 1), (2, mI 19), (5, mI 115), (1, mI 19), (0, .ref (kB K + 2))]) 3 rfl (Nat.le_of_ble_eq_true rfl) rfl dX8_init_126 ?_
  refine gw_goto hk.1.1 dX8_init_129 ?_
  refine gw_iload hk.1.1 0 rfl dX8_init_57 ?_
  refine gc_ldcS hk dX8_init_59 ?_
  refine gc_jcall hk (st := [mI 102]) mf_J0_length_8abf5 (inT1 42 rfl rfl) (inT1 43 rfl rfl) (inT1 44 rfl rfl) (by decide) rfl (Nat.le_of_ble_eq_true rfl) rfl dX8_init_61 (met_len _) (by decide) (by decide) ?_
  refine gw_icmp_ge hk.1.1 (cIk rfl) (cIk rfl) dX8_init_64 (fun q => absurd q (by decide)) (fun _ => ?_)
  refine gw_iload_n hk.1.1 4 rfl dX8_init_67 ?_
  refine gw_bipush hk.1.1 (v := 30) rfl dX8_init_68 ?_
  refine gw_icmp_ge hk.1.1 (cIk rfl) (cIk rfl) dX8_init_70 (fun q => absurd q (by decide)) (fun _ => ?_)
  refine gc_ldcS hk dX8_init_73 ?_
  refine gw_iload hk.1.1 0 rfl dX8_init_75 ?_
  refine gc_jcall hk (st := []) mf_J0_charAt_5068e (inT1 52 rfl rfl) (inT1 53 rfl rfl) (inT1 54 rfl rfl) (by decide) rfl (Nat.le_of_ble_eq_true rfl) rfl dX8_init_77 (met_cha (i := 102) (x := 109) _ (cIk rfl) (by decide) (by decide) rfl) (by decide) (by decide) ?_
  refine gw_istore hk.1.1 (lv' := [(5, mI 109), (4, mI 102), (3, mI 1), (2, mI 19), (1, mI 19), (0, .ref (kB K + 2))]) (Nat.le_of_ble_eq_true rfl) rfl dX8_init_80 ?_
  refine gw_iload hk.1.1 0 rfl dX8_init_82 ?_
  refine gw_bipush hk.1.1 (v := 32) rfl dX8_init_84 ?_
  refine gw_icmp_ne hk.1.1 (cIk rfl) (cIk rfl) dX8_init_86 (fun _ => ?_) (fun q => absurd (by decide) q)
  refine gw_iload_n hk.1.1 3 rfl dX8_init_110 ?_
  refine gw_bipush hk.1.1 (v := 27) rfl dX8_init_111 ?_
  refine gw_imul hk.1.1 dX8_init_113 ?_
  refine gw_iload hk.1.1 0 rfl dX8_init_114 ?_
  refine gw_iadd hk.1.1 dX8_init_116 ?_
  refine gw_bipush hk.1.1 (v := 97) rfl dX8_init_117 ?_
  refine gw_isub hk.1.1 dX8_init_119 ?_
  refine gw_iconst hk.1.1 (v := 1) rfl dX8_init_120 ?_
  refine gw_iadd hk.1.1 dX8_init_121 ?_
  refine gw_top (y := 526) (by decide) ?_
  refine gw_istore_n hk.1.1 rfl (lv' := [(2, mI 526), (5, mI 109), (4, mI 102), (3, mI 1), (1, mI 19), (0, .ref (kB K + 2))]) (Nat.le_of_ble_eq_true rfl) rfl dX8_init_122 ?_
  refine gw_iinc hk.1.1 (lv' := [(3, mI 2), (2, mI 526), (5, mI 109), (4, mI 102), (1, mI 19), (0, .ref (kB K + 2))]) 3 rfl (Nat.le_of_ble_eq_true rfl) rfl dX8_init_123 ?_
  refine gw_iinc hk.1.1 (lv' := [(4, mI 103), (3, mI 2), (2, mI 526), (5, mI 109), (1, mI 19), (0, .ref (kB K + 2))]) 3 rfl (Nat.le_of_ble_eq_true rfl) rfl dX8_init_126 ?_
  refine gw_goto hk.1.1 dX8_init_129 ?_
  refine gw_iload hk.1.1 0 rfl dX8_init_57 ?_
  refine gc_ldcS hk dX8_init_59 ?_
  refine gc_jcall hk (st := [mI 103]) mf_J0_length_8abf5 (inT1 42 rfl rfl) (inT1 43 rfl rfl) (inT1 44 rfl rfl) (by decide) rfl (Nat.le_of_ble_eq_true rfl) rfl dX8_init_61 (met_len _) (by decide) (by decide) ?_
  refine gw_icmp_ge hk.1.1 (cIk rfl) (cIk rfl) dX8_init_64 (fun q => absurd q (by decide)) (fun _ => ?_)
  refine gw_iload_n hk.1.1 4 rfl dX8_init_67 ?_
  refine gw_bipush hk.1.1 (v := 30) rfl dX8_init_68 ?_
  refine gw_icmp_ge hk.1.1 (cIk rfl) (cIk rfl) dX8_init_70 (fun q => absurd q (by decide)) (fun _ => ?_)
  refine gc_ldcS hk dX8_init_73 ?_
  refine gw_iload hk.1.1 0 rfl dX8_init_75 ?_
  refine gc_jcall hk (st := []) mf_J0_charAt_5068e (inT1 52 rfl rfl) (inT1 53 rfl rfl) (inT1 54 rfl rfl) (by decide) rfl (Nat.le_of_ble_eq_true rfl) rfl dX8_init_77 (met_cha (i := 103) (x := 101) _ (cIk rfl) (by decide) (by decide) rfl) (by decide) (by decide) ?_
  refine gw_istore hk.1.1 (lv' := [(5, mI 101), (4, mI 103), (3, mI 2), (2, mI 526), (1, mI 19), (0, .ref (kB K + 2))]) (Nat.le_of_ble_eq_true rfl) rfl dX8_init_80 ?_
  refine gw_iload hk.1.1 0 rfl dX8_init_82 ?_
  refine gw_bipush hk.1.1 (v := 32) rfl dX8_init_84 ?_
  refine gw_icmp_ne hk.1.1 (cIk rfl) (cIk rfl) dX8_init_86 (fun _ => ?_) (fun q => absurd (by decide) q)
  refine gw_iload_n hk.1.1 3 rfl dX8_init_110 ?_
  refine gw_bipush hk.1.1 (v := 27) rfl dX8_init_111 ?_
  refine gw_imul hk.1.1 dX8_init_113 ?_
  refine gw_iload hk.1.1 0 rfl dX8_init_114 ?_
  refine gw_iadd hk.1.1 dX8_init_116 ?_
  refine gw_bipush hk.1.1 (v := 97) rfl dX8_init_117 ?_
  refine gw_isub hk.1.1 dX8_init_119 ?_
  refine gw_iconst hk.1.1 (v := 1) rfl dX8_init_120 ?_
  refine gw_iadd hk.1.1 dX8_init_121 ?_
  refine gw_top (y := 14207) (by decide) ?_
  refine gw_istore_n hk.1.1 rfl (lv' := [(2, mI 14207), (5, mI 101), (4, mI 103), (3, mI 2), (1, mI 19), (0, .ref (kB K + 2))]) (Nat.le_of_ble_eq_true rfl) rfl dX8_init_122 ?_
  refine gw_iinc hk.1.1 (lv' := [(3, mI 3), (2, mI 14207), (5, mI 101), (4, mI 103), (1, mI 19), (0, .ref (kB K + 2))]) 3 rfl (Nat.le_of_ble_eq_true rfl) rfl dX8_init_123 ?_
  refine gw_iinc hk.1.1 (lv' := [(4, mI 104), (3, mI 3), (2, mI 14207), (5, mI 101), (1, mI 19), (0, .ref (kB K + 2))]) 3 rfl (Nat.le_of_ble_eq_true rfl) rfl dX8_init_126 ?_
  refine gw_goto hk.1.1 dX8_init_129 ?_
  refine gw_iload hk.1.1 0 rfl dX8_init_57 ?_
  refine gc_ldcS hk dX8_init_59 ?_
  refine gc_jcall hk (st := [mI 104]) mf_J0_length_8abf5 (inT1 42 rfl rfl) (inT1 43 rfl rfl) (inT1 44 rfl rfl) (by decide) rfl (Nat.le_of_ble_eq_true rfl) rfl dX8_init_61 (met_len _) (by decide) (by decide) ?_
  refine gw_icmp_ge hk.1.1 (cIk rfl) (cIk rfl) dX8_init_64 (fun q => absurd q (by decide)) (fun _ => ?_)
  refine gw_iload_n hk.1.1 4 rfl dX8_init_67 ?_
  refine gw_bipush hk.1.1 (v := 30) rfl dX8_init_68 ?_
  refine gw_icmp_ge hk.1.1 (cIk rfl) (cIk rfl) dX8_init_70 (fun q => absurd q (by decide)) (fun _ => ?_)
  refine gc_ldcS hk dX8_init_73 ?_
  refine gw_iload hk.1.1 0 rfl dX8_init_75 ?_
  refine gc_jcall hk (st := []) mf_J0_charAt_5068e (inT1 52 rfl rfl) (inT1 53 rfl rfl) (inT1 54 rfl rfl) (by decide) rfl (Nat.le_of_ble_eq_true rfl) rfl dX8_init_77 (met_cha (i := 104) (x := 108) _ (cIk rfl) (by decide) (by decide) rfl) (by decide) (by decide) ?_
  refine gw_istore hk.1.1 (lv' := [(5, mI 108), (4, mI 104), (3, mI 3), (2, mI 14207), (1, mI 19), (0, .ref (kB K + 2))]) (Nat.le_of_ble_eq_true rfl) rfl dX8_init_80 ?_
  refine gw_iload hk.1.1 0 rfl dX8_init_82 ?_
  refine gw_bipush hk.1.1 (v := 32) rfl dX8_init_84 ?_
  refine gw_icmp_ne hk.1.1 (cIk rfl) (cIk rfl) dX8_init_86 (fun _ => ?_) (fun q => absurd (by decide) q)
  refine gw_iload_n hk.1.1 3 rfl dX8_init_110 ?_
  refine gw_bipush hk.1.1 (v := 27) rfl dX8_init_111 ?_
  refine gw_imul hk.1.1 dX8_init_113 ?_
  refine gw_iload hk.1.1 0 rfl dX8_init_114 ?_
  refine gw_iadd hk.1.1 dX8_init_116 ?_
  refine gw_bipush hk.1.1 (v := 97) rfl dX8_init_117 ?_
  refine gw_isub hk.1.1 dX8_init_119 ?_
  refine gw_iconst hk.1.1 (v := 1) rfl dX8_init_120 ?_
  refine gw_iadd hk.1.1 dX8_init_121 ?_
  refine gw_top (y := 383601) (by decide) ?_
  refine gw_istore_n hk.1.1 rfl (lv' := [(2, mI 383601), (5, mI 108), (4, mI 104), (3, mI 3), (1, mI 19), (0, .ref (kB K + 2))]) (Nat.le_of_ble_eq_true rfl) rfl dX8_init_122 ?_
  refine gw_iinc hk.1.1 (lv' := [(3, mI 4), (2, mI 383601), (5, mI 108), (4, mI 104), (1, mI 19), (0, .ref (kB K + 2))]) 3 rfl (Nat.le_of_ble_eq_true rfl) rfl dX8_init_123 ?_
  refine gw_iinc hk.1.1 (lv' := [(4, mI 105), (3, mI 4), (2, mI 383601), (5, mI 108), (1, mI 19), (0, .ref (kB K + 2))]) 3 rfl (Nat.le_of_ble_eq_true rfl) rfl dX8_init_126 ?_
  refine gw_goto hk.1.1 dX8_init_129 ?_
  refine gw_iload hk.1.1 0 rfl dX8_init_57 ?_
  refine gc_ldcS hk dX8_init_59 ?_
  refine gc_jcall hk (st := [mI 105]) mf_J0_length_8abf5 (inT1 42 rfl rfl) (inT1 43 rfl rfl) (inT1 44 rfl rfl) (by decide) rfl (Nat.le_of_ble_eq_true rfl) rfl dX8_init_61 (met_len _) (by decide) (by decide) ?_
  refine gw_icmp_ge hk.1.1 (cIk rfl) (cIk rfl) dX8_init_64 (fun q => absurd q (by decide)) (fun _ => ?_)
  refine gw_iload_n hk.1.1 4 rfl dX8_init_67 ?_
  refine gw_bipush hk.1.1 (v := 30) rfl dX8_init_68 ?_
  refine gw_icmp_ge hk.1.1 (cIk rfl) (cIk rfl) dX8_init_70 (fun q => absurd q (by decide)) (fun _ => ?_)
  refine gc_ldcS hk dX8_init_73 ?_
  refine gw_iload hk.1.1 0 rfl dX8_init_75 ?_
  refine gc_jcall hk (st := []) mf_J0_charAt_5068e (inT1 52 rfl rfl) (inT1 53 rfl rfl) (inT1 54 rfl rfl) (by decide) rfl (Nat.le_of_ble_eq_true rfl) rfl dX8_init_77 (met_cha (i := 105) (x := 108) _ (cIk rfl) (by decide) (by decide) rfl) (by decide) (by decide) ?_
  refine gw_istore hk.1.1 (lv' := [(5, mI 108), (4, mI 105), (3, mI 4), (2, mI 383601), (1, mI 19), (0, .ref (kB K + 2))]) (Nat.le_of_ble_eq_true rfl) rfl dX8_init_80 ?_
  refine gw_iload hk.1.1 0 rfl dX8_init_82 ?_
  refine gw_bipush hk.1.1 (v := 32) rfl dX8_init_84 ?_
  refine gw_icmp_ne hk.1.1 (cIk rfl) (cIk rfl) dX8_init_86 (fun _ => ?_) (fun q => absurd (by decide) q)
  refine gw_iload_n hk.1.1 3 rfl dX8_init_110 ?_
  refine gw_bipush hk.1.1 (v := 27) rfl dX8_init_111 ?_
  refine gw_imul hk.1.1 dX8_init_113 ?_
  refine gw_iload hk.1.1 0 rfl dX8_init_114 ?_
  refine gw_iadd hk.1.1 dX8_init_116 ?_
  refine gw_bipush hk.1.1 (v := 97) rfl dX8_init_117 ?_
  refine gw_isub hk.1.1 dX8_init_119 ?_
  refine gw_iconst hk.1.1 (v := 1) rfl dX8_init_120 ?_
  refine gw_iadd hk.1.1 dX8_init_121 ?_
  refine gw_top (y := 10357239) (by decide) ?_
  refine gw_istore_n hk.1.1 rfl (lv' := [(2, mI 10357239), (5, mI 108), (4, mI 105), (3, mI 4), (1, mI 19), (0, .ref (kB K + 2))]) (Nat.le_of_ble_eq_true rfl) rfl dX8_init_122 ?_
  refine gw_iinc hk.1.1 (lv' := [(3, mI 5), (2, mI 10357239), (5, mI 108), (4, mI 105), (1, mI 19), (0, .ref (kB K + 2))]) 3 rfl (Nat.le_of_ble_eq_true rfl) rfl dX8_init_123 ?_
  refine gw_iinc hk.1.1 (lv' := [(4, mI 106), (3, mI 5), (2, mI 10357239), (5, mI 108), (1, mI 19), (0, .ref (kB K + 2))]) 3 rfl (Nat.le_of_ble_eq_true rfl) rfl dX8_init_126 ?_
  refine gw_goto hk.1.1 dX8_init_129 ?_
  refine gw_iload hk.1.1 0 rfl dX8_init_57 ?_
  refine gc_ldcS hk dX8_init_59 ?_
  refine gc_jcall hk (st := [mI 106]) mf_J0_length_8abf5 (inT1 42 rfl rfl) (inT1 43 rfl rfl) (inT1 44 rfl rfl) (by decide) rfl (Nat.le_of_ble_eq_true rfl) rfl dX8_init_61 (met_len _) (by decide) (by decide) ?_
  refine gw_icmp_ge hk.1.1 (cIk rfl) (cIk rfl) dX8_init_64 (fun q => absurd q (by decide)) (fun _ => ?_)
  refine gw_iload_n hk.1.1 4 rfl dX8_init_67 ?_
  refine gw_bipush hk.1.1 (v := 30) rfl dX8_init_68 ?_
  refine gw_icmp_ge hk.1.1 (cIk rfl) (cIk rfl) dX8_init_70 (fun q => absurd q (by decide)) (fun _ => ?_)
  refine gc_ldcS hk dX8_init_73 ?_
  refine gw_iload hk.1.1 0 rfl dX8_init_75 ?_
  refine gc_jcall hk (st := []) mf_J0_charAt_5068e (inT1 52 rfl rfl) (inT1 53 rfl rfl) (inT1 54 rfl rfl) (by decide) rfl (Nat.le_of_ble_eq_true rfl) rfl dX8_init_77 (met_cha (i := 106) (x := 32) _ (cIk rfl) (by decide) (by decide) rfl) (by decide) (by decide) ?_
  refine gw_istore hk.1.1 (lv' := [(5, mI 32), (4, mI 106), (3, mI 5), (2, mI 10357239), (1, mI 19), (0, .ref (kB K + 2))]) (Nat.le_of_ble_eq_true rfl) rfl dX8_init_80 ?_
  refine gw_iload hk.1.1 0 rfl dX8_init_82 ?_
  refine gw_bipush hk.1.1 (v := 32) rfl dX8_init_84 ?_
  refine gw_icmp_ne hk.1.1 (cIk rfl) (cIk rfl) dX8_init_86 (fun q => absurd q (by decide)) (fun _ => ?_)
  refine gw_aload_n hk.1.1 5 rfl dX8_init_89 ?_
  refine gc_get2 hk.1 (k := 7) (o := 2) fgc_X8_24 rfl kdC_2 (by omega) rfl rfl dX8_init_90 ?_
  refine gw_iload_n hk.1.1 4 rfl dX8_init_93 ?_
  refine gw_iload_n hk.1.1 3 rfl dX8_init_94 ?_
  refine gw_iload_n hk.1.1 2 rfl dX8_init_95 ?_
  refine gc_padded hk (st := [mI 19, .ref (kB K + 7)]) (a := 10357239) (b := 5) (r := 279645453) (inT1 90 rfl rfl) (by decide +kernel) (cIk rfl) (cIk rfl) (by decide) (Nat.le_of_ble_eq_true rfl) (by decide) (by decide) dX8_init_96 ?_
  refine gc_iast hk.1 (a := 7) (v := 279645453) (cIk rfl) (by decide) (by decide) kdC_7 (by omega) dX8_init_99 ?_
  refine gw_iinc hk.1.1 (lv' := [(1, mI 20), (5, mI 32), (4, mI 106), (3, mI 5), (2, mI 10357239), (0, .ref (kB K + 2))]) 4 rfl (Nat.le_of_ble_eq_true rfl) rfl dX8_init_100 ?_
  refine gw_iconst hk.1.1 (v := 0) rfl dX8_init_103 ?_
  refine gw_istore_n hk.1.1 rfl (lv' := [(2, mI 0), (1, mI 20), (5, mI 32), (4, mI 106), (3, mI 5), (0, .ref (kB K + 2))]) (Nat.le_of_ble_eq_true rfl) rfl dX8_init_104 ?_
  refine gw_iconst hk.1.1 (v := 0) rfl dX8_init_105 ?_
  refine gw_istore_n hk.1.1 rfl (lv' := [(3, mI 0), (2, mI 0), (1, mI 20), (5, mI 32), (4, mI 106), (0, .ref (kB K + 2))]) (Nat.le_of_ble_eq_true rfl) rfl dX8_init_106 ?_
  refine gw_goto hk.1.1 dX8_init_107 ?_
  refine gw_iinc hk.1.1 (lv' := [(4, mI 107), (3, mI 0), (2, mI 0), (1, mI 20), (5, mI 32), (0, .ref (kB K + 2))]) 4 rfl (Nat.le_of_ble_eq_true rfl) rfl dX8_init_126 ?_
  refine gw_goto hk.1.1 dX8_init_129 ?_
  refine gw_iload hk.1.1 0 rfl dX8_init_57 ?_
  refine gc_ldcS hk dX8_init_59 ?_
  refine gc_jcall hk (st := [mI 107]) mf_J0_length_8abf5 (inT1 42 rfl rfl) (inT1 43 rfl rfl) (inT1 44 rfl rfl) (by decide) rfl (Nat.le_of_ble_eq_true rfl) rfl dX8_init_61 (met_len _) (by decide) (by decide) ?_
  refine gw_icmp_ge hk.1.1 (cIk rfl) (cIk rfl) dX8_init_64 (fun q => absurd q (by decide)) (fun _ => ?_)
  refine gw_iload_n hk.1.1 3 rfl dX8_init_67 ?_
  refine gw_bipush hk.1.1 (v := 30) rfl dX8_init_68 ?_
  refine gw_icmp_ge hk.1.1 (cIk rfl) (cIk rfl) dX8_init_70 (fun q => absurd q (by decide)) (fun _ => ?_)
  refine gc_ldcS hk dX8_init_73 ?_
  refine gw_iload hk.1.1 0 rfl dX8_init_75 ?_
  refine gc_jcall hk (st := []) mf_J0_charAt_5068e (inT1 52 rfl rfl) (inT1 53 rfl rfl) (inT1 54 rfl rfl) (by decide) rfl (Nat.le_of_ble_eq_true rfl) rfl dX8_init_77 (met_cha (i := 107) (x := 116) _ (cIk rfl) (by decide) (by decide) rfl) (by decide) (by decide) ?_
  refine gw_istore hk.1.1 (lv' := [(5, mI 116), (4, mI 107), (3, mI 0), (2, mI 0), (1, mI 20), (0, .ref (kB K + 2))]) (Nat.le_of_ble_eq_true rfl) rfl dX8_init_80 ?_
  refine gw_iload hk.1.1 0 rfl dX8_init_82 ?_
  refine gw_bipush hk.1.1 (v := 32) rfl dX8_init_84 ?_
  refine gw_icmp_ne hk.1.1 (cIk rfl) (cIk rfl) dX8_init_86 (fun _ => ?_) (fun q => absurd (by decide) q)
  refine gw_iload_n hk.1.1 3 rfl dX8_init_110 ?_
  refine gw_bipush hk.1.1 (v := 27) rfl dX8_init_111 ?_
  refine gw_imul hk.1.1 dX8_init_113 ?_
  refine gw_iload hk.1.1 0 rfl dX8_init_114 ?_
  refine gw_iadd hk.1.1 dX8_init_116 ?_
  refine gw_bipush hk.1.1 (v := 97) rfl dX8_init_117 ?_
  refine gw_isub hk.1.1 dX8_init_119 ?_
  refine gw_iconst hk.1.1 (v := 1) rfl dX8_init_120 ?_
  refine gw_iadd hk.1.1 dX8_init_121 ?_
  refine gw_top (y := 20) (by decide) ?_
  refine gw_istore_n hk.1.1 rfl (lv' := [(2, mI 20), (5, mI 116), (4, mI 107), (3, mI 0), (1, mI 20), (0, .ref (kB K + 2))]) (Nat.le_of_ble_eq_true rfl) rfl dX8_init_122 ?_
  refine gw_iinc hk.1.1 (lv' := [(3, mI 1), (2, mI 20), (5, mI 116), (4, mI 107), (1, mI 20), (0, .ref (kB K + 2))]) 3 rfl (Nat.le_of_ble_eq_true rfl) rfl dX8_init_123 ?_
  refine gw_iinc hk.1.1 (lv' := [(4, mI 108), (3, mI 1), (2, mI 20), (5, mI 116), (1, mI 20), (0, .ref (kB K + 2))]) 3 rfl (Nat.le_of_ble_eq_true rfl) rfl dX8_init_126 ?_
  refine gw_goto hk.1.1 dX8_init_129 ?_
  refine gw_iload hk.1.1 0 rfl dX8_init_57 ?_
  refine gc_ldcS hk dX8_init_59 ?_
  refine gc_jcall hk (st := [mI 108]) mf_J0_length_8abf5 (inT1 42 rfl rfl) (inT1 43 rfl rfl) (inT1 44 rfl rfl) (by decide) rfl (Nat.le_of_ble_eq_true rfl) rfl dX8_init_61 (met_len _) (by decide) (by decide) ?_
  refine gw_icmp_ge hk.1.1 (cIk rfl) (cIk rfl) dX8_init_64 (fun q => absurd q (by decide)) (fun _ => ?_)
  refine gw_iload_n hk.1.1 4 rfl dX8_init_67 ?_
  refine gw_bipush hk.1.1 (v := 30) rfl dX8_init_68 ?_
  refine gw_icmp_ge hk.1.1 (cIk rfl) (cIk rfl) dX8_init_70 (fun q => absurd q (by decide)) (fun _ => ?_)
  refine gc_ldcS hk dX8_init_73 ?_
  refine gw_iload hk.1.1 0 rfl dX8_init_75 ?_
  refine gc_jcall hk (st := []) mf_J0_charAt_5068e (inT1 52 rfl rfl) (inT1 53 rfl rfl) (inT1 54 rfl rfl) (by decide) rfl (Nat.le_of_ble_eq_true rfl) rfl dX8_init_77 (met_cha (i := 108) (x := 97) _ (cIk rfl) (by decide) (by decide) rfl) (by decide) (by decide) ?_
  refine gw_istore hk.1.1 (lv' := [(5, mI 97), (4, mI 108), (3, mI 1), (2, mI 20), (1, mI 20), (0, .ref (kB K + 2))]) (Nat.le_of_ble_eq_true rfl) rfl dX8_init_80 ?_
  refine gw_iload hk.1.1 0 rfl dX8_init_82 ?_
  refine gw_bipush hk.1.1 (v := 32) rfl dX8_init_84 ?_
  refine gw_icmp_ne hk.1.1 (cIk rfl) (cIk rfl) dX8_init_86 (fun _ => ?_) (fun q => absurd (by decide) q)
  refine gw_iload_n hk.1.1 3 rfl dX8_init_110 ?_
  refine gw_bipush hk.1.1 (v := 27) rfl dX8_init_111 ?_
  refine gw_imul hk.1.1 dX8_init_113 ?_
  refine gw_iload hk.1.1 0 rfl dX8_init_114 ?_
  refine gw_iadd hk.1.1 dX8_init_116 ?_
  refine gw_bipush hk.1.1 (v := 97) rfl dX8_init_117 ?_
  refine gw_isub hk.1.1 dX8_init_119 ?_
  refine gw_iconst hk.1.1 (v := 1) rfl dX8_init_120 ?_
  refine gw_iadd hk.1.1 dX8_init_121 ?_
  refine gw_top (y := 541) (by decide) ?_
  refine gw_istore_n hk.1.1 rfl (lv' := [(2, mI 541), (5, mI 97), (4, mI 108), (3, mI 1), (1, mI 20), (0, .ref (kB K + 2))]) (Nat.le_of_ble_eq_true rfl) rfl dX8_init_122 ?_
  refine gw_iinc hk.1.1 (lv' := [(3, mI 2), (2, mI 541), (5, mI 97), (4, mI 108), (1, mI 20), (0, .ref (kB K + 2))]) 3 rfl (Nat.le_of_ble_eq_true rfl) rfl dX8_init_123 ?_
  refine gw_iinc hk.1.1 (lv' := [(4, mI 109), (3, mI 2), (2, mI 541), (5, mI 97), (1, mI 20), (0, .ref (kB K + 2))]) 3 rfl (Nat.le_of_ble_eq_true rfl) rfl dX8_init_126 ?_
  refine gw_goto hk.1.1 dX8_init_129 ?_
  refine gw_iload hk.1.1 0 rfl dX8_init_57 ?_
  refine gc_ldcS hk dX8_init_59 ?_
  refine gc_jcall hk (st := [mI 109]) mf_J0_length_8abf5 (inT1 42 rfl rfl) (inT1 43 rfl rfl) (inT1 44 rfl rfl) (by decide) rfl (Nat.le_of_ble_eq_true rfl) rfl dX8_init_61 (met_len _) (by decide) (by decide) ?_
  refine gw_icmp_ge hk.1.1 (cIk rfl) (cIk rfl) dX8_init_64 (fun q => absurd q (by decide)) (fun _ => ?_)
  refine gw_iload_n hk.1.1 4 rfl dX8_init_67 ?_
  refine gw_bipush hk.1.1 (v := 30) rfl dX8_init_68 ?_
  refine gw_icmp_ge hk.1.1 (cIk rfl) (cIk rfl) dX8_init_70 (fun q => absurd q (by decide)) (fun _ => ?_)
  refine gc_ldcS hk dX8_init_73 ?_
  refine gw_iload hk.1.1 0 rfl dX8_init_75 ?_
  refine gc_jcall hk (st := []) mf_J0_charAt_5068e (inT1 52 rfl rfl) (inT1 53 rfl rfl) (inT1 54 rfl rfl) (by decide) rfl (Nat.le_of_ble_eq_true rfl) rfl dX8_init_77 (met_cha (i := 109) (x := 108) _ (cIk rfl) (by decide) (by decide) rfl) (by decide) (by decide) ?_
  refine gw_istore hk.1.1 (lv' := [(5, mI 108), (4, mI 109), (3, mI 2), (2, mI 541), (1, mI 20), (0, .ref (kB K + 2))]) (Nat.le_of_ble_eq_true rfl) rfl dX8_init_80 ?_
  refine gw_iload hk.1.1 0 rfl dX8_init_82 ?_
  refine gw_bipush hk.1.1 (v := 32) rfl dX8_init_84 ?_
  refine gw_icmp_ne hk.1.1 (cIk rfl) (cIk rfl) dX8_init_86 (fun _ => ?_) (fun q => absurd (by decide) q)
  refine gw_iload_n hk.1.1 3 rfl dX8_init_110 ?_
  refine gw_bipush hk.1.1 (v := 27) rfl dX8_init_111 ?_
  refine gw_imul hk.1.1 dX8_init_113 ?_
  refine gw_iload hk.1.1 0 rfl dX8_init_114 ?_
  refine gw_iadd hk.1.1 dX8_init_116 ?_
  refine gw_bipush hk.1.1 (v := 97) rfl dX8_init_117 ?_
  refine gw_isub hk.1.1 dX8_init_119 ?_
  refine gw_iconst hk.1.1 (v := 1) rfl dX8_init_120 ?_
  refine gw_iadd hk.1.1 dX8_init_121 ?_
  refine gw_top (y := 14619) (by decide) ?_
  refine gw_istore_n hk.1.1 rfl (lv' := [(2, mI 14619), (5, mI 108), (4, mI 109), (3, mI 2), (1, mI 20), (0, .ref (kB K + 2))]) (Nat.le_of_ble_eq_true rfl) rfl dX8_init_122 ?_
  refine gw_iinc hk.1.1 (lv' := [(3, mI 3), (2, mI 14619), (5, mI 108), (4, mI 109), (1, mI 20), (0, .ref (kB K + 2))]) 3 rfl (Nat.le_of_ble_eq_true rfl) rfl dX8_init_123 ?_
  refine gw_iinc hk.1.1 (lv' := [(4, mI 110), (3, mI 3), (2, mI 14619), (5, mI 108), (1, mI 20), (0, .ref (kB K + 2))]) 3 rfl (Nat.le_of_ble_eq_true rfl) rfl dX8_init_126 ?_
  refine gw_goto hk.1.1 dX8_init_129 ?_
  refine gw_iload hk.1.1 0 rfl dX8_init_57 ?_
  refine gc_ldcS hk dX8_init_59 ?_
  refine gc_jcall hk (st := [mI 110]) mf_J0_length_8abf5 (inT1 42 rfl rfl) (inT1 43 rfl rfl) (inT1 44 rfl rfl) (by decide) rfl (Nat.le_of_ble_eq_true rfl) rfl dX8_init_61 (met_len _) (by decide) (by decide) ?_
  refine gw_icmp_ge hk.1.1 (cIk rfl) (cIk rfl) dX8_init_64 (fun q => absurd q (by decide)) (fun _ => ?_)
  refine gw_iload_n hk.1.1 4 rfl dX8_init_67 ?_
  refine gw_bipush hk.1.1 (v := 30) rfl dX8_init_68 ?_
  refine gw_icmp_ge hk.1.1 (cIk rfl) (cIk rfl) dX8_init_70 (fun q => absurd q (by decide)) (fun _ => ?_)
  refine gc_ldcS hk dX8_init_73 ?_
  refine gw_iload hk.1.1 0 rfl dX8_init_75 ?_
  refine gc_jcall hk (st := []) mf_J0_charAt_5068e (inT1 52 rfl rfl) (inT1 53 rfl rfl) (inT1 54 rfl rfl) (by decide) rfl (Nat.le_of_ble_eq_true rfl) rfl dX8_init_77 (met_cha (i := 110) (x := 107) _ (cIk rfl) (by decide) (by decide) rfl) (by decide) (by decide) ?_
  refine gw_istore hk.1.1 (lv' := [(5, mI 107), (4, mI 110), (3, mI 3), (2, mI 14619), (1, mI 20), (0, .ref (kB K + 2))]) (Nat.le_of_ble_eq_true rfl) rfl dX8_init_80 ?_
  refine gw_iload hk.1.1 0 rfl dX8_init_82 ?_
  refine gw_bipush hk.1.1 (v := 32) rfl dX8_init_84 ?_
  refine gw_icmp_ne hk.1.1 (cIk rfl) (cIk rfl) dX8_init_86 (fun _ => ?_) (fun q => absurd (by decide) q)
  refine gw_iload_n hk.1.1 3 rfl dX8_init_110 ?_
  refine gw_bipush hk.1.1 (v := 27) rfl dX8_init_111 ?_
  refine gw_imul hk.1.1 dX8_init_113 ?_
  refine gw_iload hk.1.1 0 rfl dX8_init_114 ?_
  refine gw_iadd hk.1.1 dX8_init_116 ?_
  refine gw_bipush hk.1.1 (v := 97) rfl dX8_init_117 ?_
  refine gw_isub hk.1.1 dX8_init_119 ?_
  refine gw_iconst hk.1.1 (v := 1) rfl dX8_init_120 ?_
  refine gw_iadd hk.1.1 dX8_init_121 ?_
  refine gw_top (y := 394724) (by decide) ?_
  refine gw_istore_n hk.1.1 rfl (lv' := [(2, mI 394724), (5, mI 107), (4, mI 110), (3, mI 3), (1, mI 20), (0, .ref (kB K + 2))]) (Nat.le_of_ble_eq_true rfl) rfl dX8_init_122 ?_
  refine gw_iinc hk.1.1 (lv' := [(3, mI 4), (2, mI 394724), (5, mI 107), (4, mI 110), (1, mI 20), (0, .ref (kB K + 2))]) 3 rfl (Nat.le_of_ble_eq_true rfl) rfl dX8_init_123 ?_
  refine gw_iinc hk.1.1 (lv' := [(4, mI 111), (3, mI 4), (2, mI 394724), (5, mI 107), (1, mI 20), (0, .ref (kB K + 2))]) 3 rfl (Nat.le_of_ble_eq_true rfl) rfl dX8_init_126 ?_
  refine gw_goto hk.1.1 dX8_init_129 ?_
  refine gw_iload hk.1.1 0 rfl dX8_init_57 ?_
  refine gc_ldcS hk dX8_init_59 ?_
  refine gc_jcall hk (st := [mI 111]) mf_J0_length_8abf5 (inT1 42 rfl rfl) (inT1 43 rfl rfl) (inT1 44 rfl rfl) (by decide) rfl (Nat.le_of_ble_eq_true rfl) rfl dX8_init_61 (met_len _) (by decide) (by decide) ?_
  refine gw_icmp_ge hk.1.1 (cIk rfl) (cIk rfl) dX8_init_64 (fun q => absurd q (by decide)) (fun _ => ?_)
  refine gw_iload_n hk.1.1 4 rfl dX8_init_67 ?_
  refine gw_bipush hk.1.1 (v := 30) rfl dX8_init_68 ?_
  refine gw_icmp_ge hk.1.1 (cIk rfl) (cIk rfl) dX8_init_70 (fun q => absurd q (by decide)) (fun _ => ?_)
  refine gc_ldcS hk dX8_init_73 ?_
  refine gw_iload hk.1.1 0 rfl dX8_init_75 ?_
  refine gc_jcall hk (st := []) mf_J0_charAt_5068e (inT1 52 rfl rfl) (inT1 53 rfl rfl) (inT1 54 rfl rfl) (by decide) rfl (Nat.le_of_ble_eq_true rfl) rfl dX8_init_77 (met_cha (i := 111) (x := 32) _ (cIk rfl) (by decide) (by decide) rfl) (by decide) (by decide) ?_
  refine gw_istore hk.1.1 (lv' := [(5, mI 32), (4, mI 111), (3, mI 4), (2, mI 394724), (1, mI 20), (0, .ref (kB K + 2))]) (Nat.le_of_ble_eq_true rfl) rfl dX8_init_80 ?_
  refine gw_iload hk.1.1 0 rfl dX8_init_82 ?_
  refine gw_bipush hk.1.1 (v := 32) rfl dX8_init_84 ?_
  refine gw_icmp_ne hk.1.1 (cIk rfl) (cIk rfl) dX8_init_86 (fun q => absurd q (by decide)) (fun _ => ?_)
  refine gw_aload_n hk.1.1 5 rfl dX8_init_89 ?_
  refine gc_get2 hk.1 (k := 7) (o := 2) fgc_X8_24 rfl kdC_2 (by omega) rfl rfl dX8_init_90 ?_
  refine gw_iload_n hk.1.1 4 rfl dX8_init_93 ?_
  refine gw_iload_n hk.1.1 3 rfl dX8_init_94 ?_
  refine gw_iload_n hk.1.1 2 rfl dX8_init_95 ?_
  refine gc_padded hk (st := [mI 20, .ref (kB K + 7)]) (a := 394724) (b := 4) (r := 287753796) (inT1 90 rfl rfl) (by decide +kernel) (cIk rfl) (cIk rfl) (by decide) (Nat.le_of_ble_eq_true rfl) (by decide) (by decide) dX8_init_96 ?_
  refine gc_iast hk.1 (a := 7) (v := 287753796) (cIk rfl) (by decide) (by decide) kdC_7 (by omega) dX8_init_99 ?_
  refine gw_iinc hk.1.1 (lv' := [(1, mI 21), (5, mI 32), (4, mI 111), (3, mI 4), (2, mI 394724), (0, .ref (kB K + 2))]) 4 rfl (Nat.le_of_ble_eq_true rfl) rfl dX8_init_100 ?_
  refine gw_iconst hk.1.1 (v := 0) rfl dX8_init_103 ?_
  refine gw_istore_n hk.1.1 rfl (lv' := [(2, mI 0), (1, mI 21), (5, mI 32), (4, mI 111), (3, mI 4), (0, .ref (kB K + 2))]) (Nat.le_of_ble_eq_true rfl) rfl dX8_init_104 ?_
  refine gw_iconst hk.1.1 (v := 0) rfl dX8_init_105 ?_
  refine gw_istore_n hk.1.1 rfl (lv' := [(3, mI 0), (2, mI 0), (1, mI 21), (5, mI 32), (4, mI 111), (0, .ref (kB K + 2))]) (Nat.le_of_ble_eq_true rfl) rfl dX8_init_106 ?_
  refine gw_goto hk.1.1 dX8_init_107 ?_
  refine gw_iinc hk.1.1 (lv' := [(4, mI 112), (3, mI 0), (2, mI 0), (1, mI 21), (5, mI 32), (0, .ref (kB K + 2))]) 4 rfl (Nat.le_of_ble_eq_true rfl) rfl dX8_init_126 ?_
  refine gw_goto hk.1.1 dX8_init_129 ?_
  refine gw_iload hk.1.1 0 rfl dX8_init_57 ?_
  refine gc_ldcS hk dX8_init_59 ?_
  refine gc_jcall hk (st := [mI 112]) mf_J0_length_8abf5 (inT1 42 rfl rfl) (inT1 43 rfl rfl) (inT1 44 rfl rfl) (by decide) rfl (Nat.le_of_ble_eq_true rfl) rfl dX8_init_61 (met_len _) (by decide) (by decide) ?_
  refine gw_icmp_ge hk.1.1 (cIk rfl) (cIk rfl) dX8_init_64 (fun q => absurd q (by decide)) (fun _ => ?_)
  refine gw_iload_n hk.1.1 3 rfl dX8_init_67 ?_
  refine gw_bipush hk.1.1 (v := 30) rfl dX8_init_68 ?_
  refine gw_icmp_ge hk.1.1 (cIk rfl) (cIk rfl) dX8_init_70 (fun q => absurd q (by decide)) (fun _ => ?_)
  refine gc_ldcS hk dX8_init_73 ?_
  refine gw_iload hk.1.1 0 rfl dX8_init_75 ?_
  refine gc_jcall hk (st := []) mf_J0_charAt_5068e (inT1 52 rfl rfl) (inT1 53 rfl rfl) (inT1 54 rfl rfl) (by decide) rfl (Nat.le_of_ble_eq_true rfl) rfl dX8_init_77 (met_cha (i := 112) (x := 108) _ (cIk rfl) (by decide) (by decide) rfl) (by decide) (by decide) ?_
  refine gw_istore hk.1.1 (lv' := [(5, mI 108), (4, mI 112), (3, mI 0), (2, mI 0), (1, mI 21), (0, .ref (kB K + 2))]) (Nat.le_of_ble_eq_true rfl) rfl dX8_init_80 ?_
  refine gw_iload hk.1.1 0 rfl dX8_init_82 ?_
  refine gw_bipush hk.1.1 (v := 32) rfl dX8_init_84 ?_
  refine gw_icmp_ne hk.1.1 (cIk rfl) (cIk rfl) dX8_init_86 (fun _ => ?_) (fun q => absurd (by decide) q)
  refine gw_iload_n hk.1.1 3 rfl dX8_init_110 ?_
  refine gw_bipush hk.1.1 (v := 27) rfl dX8_init_111 ?_
  refine gw_imul hk.1.1 dX8_init_113 ?_
  refine gw_iload hk.1.1 0 rfl dX8_init_114 ?_
  refine gw_iadd hk.1.1 dX8_init_116 ?_
  refine gw_bipush hk.1.1 (v := 97) rfl dX8_init_117 ?_
  refine gw_isub hk.1.1 dX8_init_119 ?_
  refine gw_iconst hk.1.1 (v := 1) rfl dX8_init_120 ?_
  refine gw_iadd hk.1.1 dX8_init_121 ?_
  refine gw_top (y := 12) (by decide) ?_
  refine gw_istore_n hk.1.1 rfl (lv' := [(2, mI 12), (5, mI 108), (4, mI 112), (3, mI 0), (1, mI 21), (0, .ref (kB K + 2))]) (Nat.le_of_ble_eq_true rfl) rfl dX8_init_122 ?_
  refine gw_iinc hk.1.1 (lv' := [(3, mI 1), (2, mI 12), (5, mI 108), (4, mI 112), (1, mI 21), (0, .ref (kB K + 2))]) 3 rfl (Nat.le_of_ble_eq_true rfl) rfl dX8_init_123 ?_
  refine gw_iinc hk.1.1 (lv' := [(4, mI 113), (3, mI 1), (2, mI 12), (5, mI 108), (1, mI 21), (0, .ref (kB K + 2))]) 3 rfl (Nat.le_of_ble_eq_true rfl) rfl dX8_init_126 ?_
  refine gw_goto hk.1.1 dX8_init_129 ?_
  refine gw_iload hk.1.1 0 rfl dX8_init_57 ?_
  refine gc_ldcS hk dX8_init_59 ?_
  refine gc_jcall hk (st := [mI 113]) mf_J0_length_8abf5 (inT1 42 rfl rfl) (inT1 43 rfl rfl) (inT1 44 rfl rfl) (by decide) rfl (Nat.le_of_ble_eq_true rfl) rfl dX8_init_61 (met_len _) (by decide) (by decide) ?_
  refine gw_icmp_ge hk.1.1 (cIk rfl) (cIk rfl) dX8_init_64 (fun q => absurd q (by decide)) (fun _ => ?_)
  refine gw_iload_n hk.1.1 4 rfl dX8_init_67 ?_
  refine gw_bipush hk.1.1 (v := 30) rfl dX8_init_68 ?_
  refine gw_icmp_ge hk.1.1 (cIk rfl) (cIk rfl) dX8_init_70 (fun q => absurd q (by decide)) (fun _ => ?_)
  refine gc_ldcS hk dX8_init_73 ?_
  refine gw_iload hk.1.1 0 rfl dX8_init_75 ?_
  refine gc_jcall hk (st := []) mf_J0_charAt_5068e (inT1 52 rfl rfl) (inT1 53 rfl rfl) (inT1 54 rfl rfl) (by decide) rfl (Nat.le_of_ble_eq_true rfl) rfl dX8_init_77 (met_cha (i := 113) (x := 105) _ (cIk rfl) (by decide) (by decide) rfl) (by decide) (by decide) ?_
  refine gw_istore hk.1.1 (lv' := [(5, mI 105), (4, mI 113), (3, mI 1), (2, mI 12), (1, mI 21), (0, .ref (kB K + 2))]) (Nat.le_of_ble_eq_true rfl) rfl dX8_init_80 ?_
  refine gw_iload hk.1.1 0 rfl dX8_init_82 ?_
  refine gw_bipush hk.1.1 (v := 32) rfl dX8_init_84 ?_
  refine gw_icmp_ne hk.1.1 (cIk rfl) (cIk rfl) dX8_init_86 (fun _ => ?_) (fun q => absurd (by decide) q)
  refine gw_iload_n hk.1.1 3 rfl dX8_init_110 ?_
  refine gw_bipush hk.1.1 (v := 27) rfl dX8_init_111 ?_
  refine gw_imul hk.1.1 dX8_init_113 ?_
  refine gw_iload hk.1.1 0 rfl dX8_init_114 ?_
  refine gw_iadd hk.1.1 dX8_init_116 ?_
  refine gw_bipush hk.1.1 (v := 97) rfl dX8_init_117 ?_
  refine gw_isub hk.1.1 dX8_init_119 ?_
  refine gw_iconst hk.1.1 (v := 1) rfl dX8_init_120 ?_
  refine gw_iadd hk.1.1 dX8_init_121 ?_
  refine gw_top (y := 333) (by decide) ?_
  refine gw_istore_n hk.1.1 rfl (lv' := [(2, mI 333), (5, mI 105), (4, mI 113), (3, mI 1), (1, mI 21), (0, .ref (kB K + 2))]) (Nat.le_of_ble_eq_true rfl) rfl dX8_init_122 ?_
  refine gw_iinc hk.1.1 (lv' := [(3, mI 2), (2, mI 333), (5, mI 105), (4, mI 113), (1, mI 21), (0, .ref (kB K + 2))]) 3 rfl (Nat.le_of_ble_eq_true rfl) rfl dX8_init_123 ?_
  refine gw_iinc hk.1.1 (lv' := [(4, mI 114), (3, mI 2), (2, mI 333), (5, mI 105), (1, mI 21), (0, .ref (kB K + 2))]) 3 rfl (Nat.le_of_ble_eq_true rfl) rfl dX8_init_126 ?_
  refine gw_goto hk.1.1 dX8_init_129 ?_
  refine gw_iload hk.1.1 0 rfl dX8_init_57 ?_
  refine gc_ldcS hk dX8_init_59 ?_
  refine gc_jcall hk (st := [mI 114]) mf_J0_length_8abf5 (inT1 42 rfl rfl) (inT1 43 rfl rfl) (inT1 44 rfl rfl) (by decide) rfl (Nat.le_of_ble_eq_true rfl) rfl dX8_init_61 (met_len _) (by decide) (by decide) ?_
  refine gw_icmp_ge hk.1.1 (cIk rfl) (cIk rfl) dX8_init_64 (fun q => absurd q (by decide)) (fun _ => ?_)
  refine gw_iload_n hk.1.1 4 rfl dX8_init_67 ?_
  refine gw_bipush hk.1.1 (v := 30) rfl dX8_init_68 ?_
  refine gw_icmp_ge hk.1.1 (cIk rfl) (cIk rfl) dX8_init_70 (fun q => absurd q (by decide)) (fun _ => ?_)
  refine gc_ldcS hk dX8_init_73 ?_
  refine gw_iload hk.1.1 0 rfl dX8_init_75 ?_
  refine gc_jcall hk (st := []) mf_J0_charAt_5068e (inT1 52 rfl rfl) (inT1 53 rfl rfl) (inT1 54 rfl rfl) (by decide) rfl (Nat.le_of_ble_eq_true rfl) rfl dX8_init_77 (met_cha (i := 114) (x := 107) _ (cIk rfl) (by decide) (by decide) rfl) (by decide) (by decide) ?_
  refine gw_istore hk.1.1 (lv' := [(5, mI 107), (4, mI 114), (3, mI 2), (2, mI 333), (1, mI 21), (0, .ref (kB K + 2))]) (Nat.le_of_ble_eq_true rfl) rfl dX8_init_80 ?_
  refine gw_iload hk.1.1 0 rfl dX8_init_82 ?_
  refine gw_bipush hk.1.1 (v := 32) rfl dX8_init_84 ?_
  refine gw_icmp_ne hk.1.1 (cIk rfl) (cIk rfl) dX8_init_86 (fun _ => ?_) (fun q => absurd (by decide) q)
  refine gw_iload_n hk.1.1 3 rfl dX8_init_110 ?_
  refine gw_bipush hk.1.1 (v := 27) rfl dX8_init_111 ?_
  refine gw_imul hk.1.1 dX8_init_113 ?_
  refine gw_iload hk.1.1 0 rfl dX8_init_114 ?_
  refine gw_iadd hk.1.1 dX8_init_116 ?_
  refine gw_bipush hk.1.1 (v := 97) rfl dX8_init_117 ?_
  refine gw_isub hk.1.1 dX8_init_119 ?_
  refine gw_iconst hk.1.1 (v := 1) rfl dX8_init_120 ?_
  refine gw_iadd hk.1.1 dX8_init_121 ?_
  refine gw_top (y := 9002) (by decide) ?_
  refine gw_istore_n hk.1.1 rfl (lv' := [(2, mI 9002), (5, mI 107), (4, mI 114), (3, mI 2), (1, mI 21), (0, .ref (kB K + 2))]) (Nat.le_of_ble_eq_true rfl) rfl dX8_init_122 ?_
  refine gw_iinc hk.1.1 (lv' := [(3, mI 3), (2, mI 9002), (5, mI 107), (4, mI 114), (1, mI 21), (0, .ref (kB K + 2))]) 3 rfl (Nat.le_of_ble_eq_true rfl) rfl dX8_init_123 ?_
  refine gw_iinc hk.1.1 (lv' := [(4, mI 115), (3, mI 3), (2, mI 9002), (5, mI 107), (1, mI 21), (0, .ref (kB K + 2))]) 3 rfl (Nat.le_of_ble_eq_true rfl) rfl dX8_init_126 ?_
  refine gw_goto hk.1.1 dX8_init_129 ?_
  refine gw_iload hk.1.1 0 rfl dX8_init_57 ?_
  refine gc_ldcS hk dX8_init_59 ?_
  refine gc_jcall hk (st := [mI 115]) mf_J0_length_8abf5 (inT1 42 rfl rfl) (inT1 43 rfl rfl) (inT1 44 rfl rfl) (by decide) rfl (Nat.le_of_ble_eq_true rfl) rfl dX8_init_61 (met_len _) (by decide) (by decide) ?_
  refine gw_icmp_ge hk.1.1 (cIk rfl) (cIk rfl) dX8_init_64 (fun q => absurd q (by decide)) (fun _ => ?_)
  refine gw_iload_n hk.1.1 4 rfl dX8_init_67 ?_
  refine gw_bipush hk.1.1 (v := 30) rfl dX8_init_68 ?_
  refine gw_icmp_ge hk.1.1 (cIk rfl) (cIk rfl) dX8_init_70 (fun q => absurd q (by decide)) (fun _ => ?_)
  refine gc_ldcS hk dX8_init_73 ?_
  refine gw_iload hk.1.1 0 rfl dX8_init_75 ?_
  refine gc_jcall hk (st := []) mf_J0_charAt_5068e (inT1 52 rfl rfl) (inT1 53 rfl rfl) (inT1 54 rfl rfl) (by decide) rfl (Nat.le_of_ble_eq_true rfl) rfl dX8_init_77 (met_cha (i := 115) (x := 105) _ (cIk rfl) (by decide) (by decide) rfl) (by decide) (by decide) ?_
  refine gw_istore hk.1.1 (lv' := [(5, mI 105), (4, mI 115), (3, mI 3), (2, mI 9002), (1, mI 21), (0, .ref (kB K + 2))]) (Nat.le_of_ble_eq_true rfl) rfl dX8_init_80 ?_
  refine gw_iload hk.1.1 0 rfl dX8_init_82 ?_
  refine gw_bipush hk.1.1 (v := 32) rfl dX8_init_84 ?_
  refine gw_icmp_ne hk.1.1 (cIk rfl) (cIk rfl) dX8_init_86 (fun _ => ?_) (fun q => absurd (by decide) q)
  refine gw_iload_n hk.1.1 3 rfl dX8_init_110 ?_
  refine gw_bipush hk.1.1 (v := 27) rfl dX8_init_111 ?_
  refine gw_imul hk.1.1 dX8_init_113 ?_
  refine gw_iload hk.1.1 0 rfl dX8_init_114 ?_
  refine gw_iadd hk.1.1 dX8_init_116 ?_
  refine gw_bipush hk.1.1 (v := 97) rfl dX8_init_117 ?_
  refine gw_isub hk.1.1 dX8_init_119 ?_
  refine gw_iconst hk.1.1 (v := 1) rfl dX8_init_120 ?_
  refine gw_iadd hk.1.1 dX8_init_121 ?_
  refine gw_top (y := 243063) (by decide) ?_
  refine gw_istore_n hk.1.1 rfl (lv' := [(2, mI 243063), (5, mI 105), (4, mI 115), (3, mI 3), (1, mI 21), (0, .ref (kB K + 2))]) (Nat.le_of_ble_eq_true rfl) rfl dX8_init_122 ?_
  refine gw_iinc hk.1.1 (lv' := [(3, mI 4), (2, mI 243063), (5, mI 105), (4, mI 115), (1, mI 21), (0, .ref (kB K + 2))]) 3 rfl (Nat.le_of_ble_eq_true rfl) rfl dX8_init_123 ?_
  refine gw_iinc hk.1.1 (lv' := [(4, mI 116), (3, mI 4), (2, mI 243063), (5, mI 105), (1, mI 21), (0, .ref (kB K + 2))]) 3 rfl (Nat.le_of_ble_eq_true rfl) rfl dX8_init_126 ?_
  refine gw_goto hk.1.1 dX8_init_129 ?_
  refine gw_iload hk.1.1 0 rfl dX8_init_57 ?_
  refine gc_ldcS hk dX8_init_59 ?_
  refine gc_jcall hk (st := [mI 116]) mf_J0_length_8abf5 (inT1 42 rfl rfl) (inT1 43 rfl rfl) (inT1 44 rfl rfl) (by decide) rfl (Nat.le_of_ble_eq_true rfl) rfl dX8_init_61 (met_len _) (by decide) (by decide) ?_
  refine gw_icmp_ge hk.1.1 (cIk rfl) (cIk rfl) dX8_init_64 (fun q => absurd q (by decide)) (fun _ => ?_)
  refine gw_iload_n hk.1.1 4 rfl dX8_init_67 ?_
  refine gw_bipush hk.1.1 (v := 30) rfl dX8_init_68 ?_
  refine gw_icmp_ge hk.1.1 (cIk rfl) (cIk rfl) dX8_init_70 (fun q => absurd q (by decide)) (fun _ => ?_)
  refine gc_ldcS hk dX8_init_73 ?_
  refine gw_iload hk.1.1 0 rfl dX8_init_75 ?_
  refine gc_jcall hk (st := []) mf_J0_charAt_5068e (inT1 52 rfl rfl) (inT1 53 rfl rfl) (inT1 54 rfl rfl) (by decide) rfl (Nat.le_of_ble_eq_true rfl) rfl dX8_init_77 (met_cha (i := 116) (x := 110) _ (cIk rfl) (by decide) (by decide) rfl) (by decide) (by decide) ?_
  refine gw_istore hk.1.1 (lv' := [(5, mI 110), (4, mI 116), (3, mI 4), (2, mI 243063), (1, mI 21), (0, .ref (kB K + 2))]) (Nat.le_of_ble_eq_true rfl) rfl dX8_init_80 ?_
  refine gw_iload hk.1.1 0 rfl dX8_init_82 ?_
  refine gw_bipush hk.1.1 (v := 32) rfl dX8_init_84 ?_
  refine gw_icmp_ne hk.1.1 (cIk rfl) (cIk rfl) dX8_init_86 (fun _ => ?_) (fun q => absurd (by decide) q)
  refine gw_iload_n hk.1.1 3 rfl dX8_init_110 ?_
  refine gw_bipush hk.1.1 (v := 27) rfl dX8_init_111 ?_
  refine gw_imul hk.1.1 dX8_init_113 ?_
  refine gw_iload hk.1.1 0 rfl dX8_init_114 ?_
  refine gw_iadd hk.1.1 dX8_init_116 ?_
  refine gw_bipush hk.1.1 (v := 97) rfl dX8_init_117 ?_
  refine gw_isub hk.1.1 dX8_init_119 ?_
  refine gw_iconst hk.1.1 (v := 1) rfl dX8_init_120 ?_
  refine gw_iadd hk.1.1 dX8_init_121 ?_
  refine gw_top (y := 6562715) (by decide) ?_
  refine gw_istore_n hk.1.1 rfl (lv' := [(2, mI 6562715), (5, mI 110), (4, mI 116), (3, mI 4), (1, mI 21), (0, .ref (kB K + 2))]) (Nat.le_of_ble_eq_true rfl) rfl dX8_init_122 ?_
  refine gw_iinc hk.1.1 (lv' := [(3, mI 5), (2, mI 6562715), (5, mI 110), (4, mI 116), (1, mI 21), (0, .ref (kB K + 2))]) 3 rfl (Nat.le_of_ble_eq_true rfl) rfl dX8_init_123 ?_
  refine gw_iinc hk.1.1 (lv' := [(4, mI 117), (3, mI 5), (2, mI 6562715), (5, mI 110), (1, mI 21), (0, .ref (kB K + 2))]) 3 rfl (Nat.le_of_ble_eq_true rfl) rfl dX8_init_126 ?_
  refine gw_goto hk.1.1 dX8_init_129 ?_
  refine gw_iload hk.1.1 0 rfl dX8_init_57 ?_
  refine gc_ldcS hk dX8_init_59 ?_
  refine gc_jcall hk (st := [mI 117]) mf_J0_length_8abf5 (inT1 42 rfl rfl) (inT1 43 rfl rfl) (inT1 44 rfl rfl) (by decide) rfl (Nat.le_of_ble_eq_true rfl) rfl dX8_init_61 (met_len _) (by decide) (by decide) ?_
  refine gw_icmp_ge hk.1.1 (cIk rfl) (cIk rfl) dX8_init_64 (fun q => absurd q (by decide)) (fun _ => ?_)
  refine gw_iload_n hk.1.1 4 rfl dX8_init_67 ?_
  refine gw_bipush hk.1.1 (v := 30) rfl dX8_init_68 ?_
  refine gw_icmp_ge hk.1.1 (cIk rfl) (cIk rfl) dX8_init_70 (fun q => absurd q (by decide)) (fun _ => ?_)
  refine gc_ldcS hk dX8_init_73 ?_
  refine gw_iload hk.1.1 0 rfl dX8_init_75 ?_
  refine gc_jcall hk (st := []) mf_J0_charAt_5068e (inT1 52 rfl rfl) (inT1 53 rfl rfl) (inT1 54 rfl rfl) (by decide) rfl (Nat.le_of_ble_eq_true rfl) rfl dX8_init_77 (met_cha (i := 117) (x := 103) _ (cIk rfl) (by decide) (by decide) rfl) (by decide) (by decide) ?_
  refine gw_istore hk.1.1 (lv' := [(5, mI 103), (4, mI 117), (3, mI 5), (2, mI 6562715), (1, mI 21), (0, .ref (kB K + 2))]) (Nat.le_of_ble_eq_true rfl) rfl dX8_init_80 ?_
  refine gw_iload hk.1.1 0 rfl dX8_init_82 ?_
  refine gw_bipush hk.1.1 (v := 32) rfl dX8_init_84 ?_
  refine gw_icmp_ne hk.1.1 (cIk rfl) (cIk rfl) dX8_init_86 (fun _ => ?_) (fun q => absurd (by decide) q)
  refine gw_iload_n hk.1.1 3 rfl dX8_init_110 ?_
  refine gw_bipush hk.1.1 (v := 27) rfl dX8_init_111 ?_
  refine gw_imul hk.1.1 dX8_init_113 ?_
  refine gw_iload hk.1.1 0 rfl dX8_init_114 ?_
  refine gw_iadd hk.1.1 dX8_init_116 ?_
  refine gw_bipush hk.1.1 (v := 97) rfl dX8_init_117 ?_
  refine gw_isub hk.1.1 dX8_init_119 ?_
  refine gw_iconst hk.1.1 (v := 1) rfl dX8_init_120 ?_
  refine gw_iadd hk.1.1 dX8_init_121 ?_
  refine gw_top (y := 177193312) (by decide) ?_
  refine gw_istore_n hk.1.1 rfl (lv' := [(2, mI 177193312), (5, mI 103), (4, mI 117), (3, mI 5), (1, mI 21), (0, .ref (kB K + 2))]) (Nat.le_of_ble_eq_true rfl) rfl dX8_init_122 ?_
  refine gw_iinc hk.1.1 (lv' := [(3, mI 6), (2, mI 177193312), (5, mI 103), (4, mI 117), (1, mI 21), (0, .ref (kB K + 2))]) 3 rfl (Nat.le_of_ble_eq_true rfl) rfl dX8_init_123 ?_
  refine gw_iinc hk.1.1 (lv' := [(4, mI 118), (3, mI 6), (2, mI 177193312), (5, mI 103), (1, mI 21), (0, .ref (kB K + 2))]) 3 rfl (Nat.le_of_ble_eq_true rfl) rfl dX8_init_126 ?_
  refine gw_goto hk.1.1 dX8_init_129 ?_
  refine gw_iload hk.1.1 0 rfl dX8_init_57 ?_
  refine gc_ldcS hk dX8_init_59 ?_
  refine gc_jcall hk (st := [mI 118]) mf_J0_length_8abf5 (inT1 42 rfl rfl) (inT1 43 rfl rfl) (inT1 44 rfl rfl) (by decide) rfl (Nat.le_of_ble_eq_true rfl) rfl dX8_init_61 (met_len _) (by decide) (by decide) ?_
  refine gw_icmp_ge hk.1.1 (cIk rfl) (cIk rfl) dX8_init_64 (fun q => absurd q (by decide)) (fun _ => ?_)
  refine gw_iload_n hk.1.1 4 rfl dX8_init_67 ?_
  refine gw_bipush hk.1.1 (v := 30) rfl dX8_init_68 ?_
  refine gw_icmp_ge hk.1.1 (cIk rfl) (cIk rfl) dX8_init_70 (fun q => absurd q (by decide)) (fun _ => ?_)
  refine gc_ldcS hk dX8_init_73 ?_
  refine gw_iload hk.1.1 0 rfl dX8_init_75 ?_
  refine gc_jcall hk (st := []) mf_J0_charAt_5068e (inT1 52 rfl rfl) (inT1 53 rfl rfl) (inT1 54 rfl rfl) (by decide) rfl (Nat.le_of_ble_eq_true rfl) rfl dX8_init_77 (met_cha (i := 118) (x := 32) _ (cIk rfl) (by decide) (by decide) rfl) (by decide) (by decide) ?_
  refine gw_istore hk.1.1 (lv' := [(5, mI 32), (4, mI 118), (3, mI 6), (2, mI 177193312), (1, mI 21), (0, .ref (kB K + 2))]) (Nat.le_of_ble_eq_true rfl) rfl dX8_init_80 ?_
  refine gw_iload hk.1.1 0 rfl dX8_init_82 ?_
  refine gw_bipush hk.1.1 (v := 32) rfl dX8_init_84 ?_
  refine gw_icmp_ne hk.1.1 (cIk rfl) (cIk rfl) dX8_init_86 (fun q => absurd q (by decide)) (fun _ => ?_)
  refine gw_aload_n hk.1.1 5 rfl dX8_init_89 ?_
  refine gc_get2 hk.1 (k := 7) (o := 2) fgc_X8_24 rfl kdC_2 (by omega) rfl rfl dX8_init_90 ?_
  refine gw_iload_n hk.1.1 4 rfl dX8_init_93 ?_
  refine gw_iload_n hk.1.1 3 rfl dX8_init_94 ?_
  refine gw_iload_n hk.1.1 2 rfl dX8_init_95 ?_
  refine gc_padded hk (st := [mI 21, .ref (kB K + 7)]) (a := 177193312) (b := 6) (r := 177193312) (inT1 90 rfl rfl) (by decide +kernel) (cIk rfl) (cIk rfl) (by decide) (Nat.le_of_ble_eq_true rfl) (by decide) (by decide) dX8_init_96 ?_
  refine gc_iast hk.1 (a := 7) (v := 177193312) (cIk rfl) (by decide) (by decide) kdC_7 (by omega) dX8_init_99 ?_
  refine gw_iinc hk.1.1 (lv' := [(1, mI 22), (5, mI 32), (4, mI 118), (3, mI 6), (2, mI 177193312), (0, .ref (kB K + 2))]) 4 rfl (Nat.le_of_ble_eq_true rfl) rfl dX8_init_100 ?_
  refine gw_iconst hk.1.1 (v := 0) rfl dX8_init_103 ?_
  refine gw_istore_n hk.1.1 rfl (lv' := [(2, mI 0), (1, mI 22), (5, mI 32), (4, mI 118), (3, mI 6), (0, .ref (kB K + 2))]) (Nat.le_of_ble_eq_true rfl) rfl dX8_init_104 ?_
  refine gw_iconst hk.1.1 (v := 0) rfl dX8_init_105 ?_
  refine gw_istore_n hk.1.1 rfl (lv' := [(3, mI 0), (2, mI 0), (1, mI 22), (5, mI 32), (4, mI 118), (0, .ref (kB K + 2))]) (Nat.le_of_ble_eq_true rfl) rfl dX8_init_106 ?_
  refine gw_goto hk.1.1 dX8_init_107 ?_
  refine gw_iinc hk.1.1 (lv' := [(4, mI 119), (3, mI 0), (2, mI 0), (1, mI 22), (5, mI 32), (0, .ref (kB K + 2))]) 4 rfl (Nat.le_of_ble_eq_true rfl) rfl dX8_init_126 ?_
  refine gw_goto hk.1.1 dX8_init_129 ?_
  refine gw_iload hk.1.1 0 rfl dX8_init_57 ?_
  refine gc_ldcS hk dX8_init_59 ?_
  refine gc_jcall hk (st := [mI 119]) mf_J0_length_8abf5 (inT1 42 rfl rfl) (inT1 43 rfl rfl) (inT1 44 rfl rfl) (by decide) rfl (Nat.le_of_ble_eq_true rfl) rfl dX8_init_61 (met_len _) (by decide) (by decide) ?_
  refine gw_icmp_ge hk.1.1 (cIk rfl) (cIk rfl) dX8_init_64 (fun q => absurd q (by decide)) (fun _ => ?_)
  refine gw_iload_n hk.1.1 3 rfl dX8_init_67 ?_
  refine gw_bipush hk.1.1 (v := 30) rfl dX8_init_68 ?_
  refine gw_icmp_ge hk.1.1 (cIk rfl) (cIk rfl) dX8_init_70 (fun q => absurd q (by decide)) (fun _ => ?_)
  refine gc_ldcS hk dX8_init_73 ?_
  refine gw_iload hk.1.1 0 rfl dX8_init_75 ?_
  refine gc_jcall hk (st := []) mf_J0_charAt_5068e (inT1 52 rfl rfl) (inT1 53 rfl rfl) (inT1 54 rfl rfl) (by decide) rfl (Nat.le_of_ble_eq_true rfl) rfl dX8_init_77 (met_cha (i := 119) (x := 102) _ (cIk rfl) (by decide) (by decide) rfl) (by decide) (by decide) ?_
  refine gw_istore hk.1.1 (lv' := [(5, mI 102), (4, mI 119), (3, mI 0), (2, mI 0), (1, mI 22), (0, .ref (kB K + 2))]) (Nat.le_of_ble_eq_true rfl) rfl dX8_init_80 ?_
  refine gw_iload hk.1.1 0 rfl dX8_init_82 ?_
  refine gw_bipush hk.1.1 (v := 32) rfl dX8_init_84 ?_
  refine gw_icmp_ne hk.1.1 (cIk rfl) (cIk rfl) dX8_init_86 (fun _ => ?_) (fun q => absurd (by decide) q)
  refine gw_iload_n hk.1.1 3 rfl dX8_init_110 ?_
  refine gw_bipush hk.1.1 (v := 27) rfl dX8_init_111 ?_
  refine gw_imul hk.1.1 dX8_init_113 ?_
  refine gw_iload hk.1.1 0 rfl dX8_init_114 ?_
  refine gw_iadd hk.1.1 dX8_init_116 ?_
  refine gw_bipush hk.1.1 (v := 97) rfl dX8_init_117 ?_
  refine gw_isub hk.1.1 dX8_init_119 ?_
  refine gw_iconst hk.1.1 (v := 1) rfl dX8_init_120 ?_
  refine gw_iadd hk.1.1 dX8_init_121 ?_
  refine gw_top (y := 6) (by decide) ?_
  refine gw_istore_n hk.1.1 rfl (lv' := [(2, mI 6), (5, mI 102), (4, mI 119), (3, mI 0), (1, mI 22), (0, .ref (kB K + 2))]) (Nat.le_of_ble_eq_true rfl) rfl dX8_init_122 ?_
  refine gw_iinc hk.1.1 (lv' := [(3, mI 1), (2, mI 6), (5, mI 102), (4, mI 119), (1, mI 22), (0, .ref (kB K + 2))]) 3 rfl (Nat.le_of_ble_eq_true rfl) rfl dX8_init_123 ?_
  refine gw_iinc hk.1.1 (lv' := [(4, mI 120), (3, mI 1), (2, mI 6), (5, mI 102), (1, mI 22), (0, .ref (kB K + 2))]) 3 rfl (Nat.le_of_ble_eq_true rfl) rfl dX8_init_126 ?_
  refine gw_goto hk.1.1 dX8_init_129 ?_
  refine gw_iload hk.1.1 0 rfl dX8_init_57 ?_
  refine gc_ldcS hk dX8_init_59 ?_
  refine gc_jcall hk (st := [mI 120]) mf_J0_length_8abf5 (inT1 42 rfl rfl) (inT1 43 rfl rfl) (inT1 44 rfl rfl) (by decide) rfl (Nat.le_of_ble_eq_true rfl) rfl dX8_init_61 (met_len _) (by decide) (by decide) ?_
  refine gw_icmp_ge hk.1.1 (cIk rfl) (cIk rfl) dX8_init_64 (fun q => absurd q (by decide)) (fun _ => ?_)
  refine gw_iload_n hk.1.1 4 rfl dX8_init_67 ?_
  refine gw_bipush hk.1.1 (v := 30) rfl dX8_init_68 ?_
  refine gw_icmp_ge hk.1.1 (cIk rfl) (cIk rfl) dX8_init_70 (fun q => absurd q (by decide)) (fun _ => ?_)
  refine gc_ldcS hk dX8_init_73 ?_
  refine gw_iload hk.1.1 0 rfl dX8_init_75 ?_
  refine gc_jcall hk (st := []) mf_J0_charAt_5068e (inT1 52 rfl rfl) (inT1 53 rfl rfl) (inT1 54 rfl rfl) (by decide) rfl (Nat.le_of_ble_eq_true rfl) rfl dX8_init_77 (met_cha (i := 120) (x := 114) _ (cIk rfl) (by decide) (by decide) rfl) (by decide) (by decide) ?_
  refine gw_istore hk.1.1 (lv' := [(5, mI 114), (4, mI 120), (3, mI 1), (2, mI 6), (1, mI 22), (0, .ref (kB K + 2))]) (Nat.le_of_ble_eq_true rfl) rfl dX8_init_80 ?_
  refine gw_iload hk.1.1 0 rfl dX8_init_82 ?_
  refine gw_bipush hk.1.1 (v := 32) rfl dX8_init_84 ?_
  refine gw_icmp_ne hk.1.1 (cIk rfl) (cIk rfl) dX8_init_86 (fun _ => ?_) (fun q => absurd (by decide) q)
  refine gw_iload_n hk.1.1 3 rfl dX8_init_110 ?_
  refine gw_bipush hk.1.1 (v := 27) rfl dX8_init_111 ?_
  refine gw_imul hk.1.1 dX8_init_113 ?_
  refine gw_iload hk.1.1 0 rfl dX8_init_114 ?_
  refine gw_iadd hk.1.1 dX8_init_116 ?_
  refine gw_bipush hk.1.1 (v := 97) rfl dX8_init_117 ?_
  refine gw_isub hk.1.1 dX8_init_119 ?_
  refine gw_iconst hk.1.1 (v := 1) rfl dX8_init_120 ?_
  refine gw_iadd hk.1.1 dX8_init_121 ?_
  refine gw_top (y := 180) (by decide) ?_
  refine gw_istore_n hk.1.1 rfl (lv' := [(2, mI 180), (5, mI 114), (4, mI 120), (3, mI 1), (1, mI 22), (0, .ref (kB K + 2))]) (Nat.le_of_ble_eq_true rfl) rfl dX8_init_122 ?_
  refine gw_iinc hk.1.1 (lv' := [(3, mI 2), (2, mI 180), (5, mI 114), (4, mI 120), (1, mI 22), (0, .ref (kB K + 2))]) 3 rfl (Nat.le_of_ble_eq_true rfl) rfl dX8_init_123 ?_
  refine gw_iinc hk.1.1 (lv' := [(4, mI 121), (3, mI 2), (2, mI 180), (5, mI 114), (1, mI 22), (0, .ref (kB K + 2))]) 3 rfl (Nat.le_of_ble_eq_true rfl) rfl dX8_init_126 ?_
  refine gw_goto hk.1.1 dX8_init_129 ?_
  refine gw_iload hk.1.1 0 rfl dX8_init_57 ?_
  refine gc_ldcS hk dX8_init_59 ?_
  refine gc_jcall hk (st := [mI 121]) mf_J0_length_8abf5 (inT1 42 rfl rfl) (inT1 43 rfl rfl) (inT1 44 rfl rfl) (by decide) rfl (Nat.le_of_ble_eq_true rfl) rfl dX8_init_61 (met_len _) (by decide) (by decide) ?_
  refine gw_icmp_ge hk.1.1 (cIk rfl) (cIk rfl) dX8_init_64 (fun q => absurd q (by decide)) (fun _ => ?_)
  refine gw_iload_n hk.1.1 4 rfl dX8_init_67 ?_
  refine gw_bipush hk.1.1 (v := 30) rfl dX8_init_68 ?_
  refine gw_icmp_ge hk.1.1 (cIk rfl) (cIk rfl) dX8_init_70 (fun q => absurd q (by decide)) (fun _ => ?_)
  refine gc_ldcS hk dX8_init_73 ?_
  refine gw_iload hk.1.1 0 rfl dX8_init_75 ?_
  refine gc_jcall hk (st := []) mf_J0_charAt_5068e (inT1 52 rfl rfl) (inT1 53 rfl rfl) (inT1 54 rfl rfl) (by decide) rfl (Nat.le_of_ble_eq_true rfl) rfl dX8_init_77 (met_cha (i := 121) (x := 101) _ (cIk rfl) (by decide) (by decide) rfl) (by decide) (by decide) ?_
  refine gw_istore hk.1.1 (lv' := [(5, mI 101), (4, mI 121), (3, mI 2), (2, mI 180), (1, mI 22), (0, .ref (kB K + 2))]) (Nat.le_of_ble_eq_true rfl) rfl dX8_init_80 ?_
  refine gw_iload hk.1.1 0 rfl dX8_init_82 ?_
  refine gw_bipush hk.1.1 (v := 32) rfl dX8_init_84 ?_
  refine gw_icmp_ne hk.1.1 (cIk rfl) (cIk rfl) dX8_init_86 (fun _ => ?_) (fun q => absurd (by decide) q)
  refine gw_iload_n hk.1.1 3 rfl dX8_init_110 ?_
  refine gw_bipush hk.1.1 (v := 27) rfl dX8_init_111 ?_
  refine gw_imul hk.1.1 dX8_init_113 ?_
  refine gw_iload hk.1.1 0 rfl dX8_init_114 ?_
  refine gw_iadd hk.1.1 dX8_init_116 ?_
  refine gw_bipush hk.1.1 (v := 97) rfl dX8_init_117 ?_
  refine gw_isub hk.1.1 dX8_init_119 ?_
  refine gw_iconst hk.1.1 (v := 1) rfl dX8_init_120 ?_
  refine gw_iadd hk.1.1 dX8_init_121 ?_
  refine gw_top (y := 4865) (by decide) ?_
  refine gw_istore_n hk.1.1 rfl (lv' := [(2, mI 4865), (5, mI 101), (4, mI 121), (3, mI 2), (1, mI 22), (0, .ref (kB K + 2))]) (Nat.le_of_ble_eq_true rfl) rfl dX8_init_122 ?_
  refine gw_iinc hk.1.1 (lv' := [(3, mI 3), (2, mI 4865), (5, mI 101), (4, mI 121), (1, mI 22), (0, .ref (kB K + 2))]) 3 rfl (Nat.le_of_ble_eq_true rfl) rfl dX8_init_123 ?_
  refine gw_iinc hk.1.1 (lv' := [(4, mI 122), (3, mI 3), (2, mI 4865), (5, mI 101), (1, mI 22), (0, .ref (kB K + 2))]) 3 rfl (Nat.le_of_ble_eq_true rfl) rfl dX8_init_126 ?_
  refine gw_goto hk.1.1 dX8_init_129 ?_
  refine gw_iload hk.1.1 0 rfl dX8_init_57 ?_
  refine gc_ldcS hk dX8_init_59 ?_
  refine gc_jcall hk (st := [mI 122]) mf_J0_length_8abf5 (inT1 42 rfl rfl) (inT1 43 rfl rfl) (inT1 44 rfl rfl) (by decide) rfl (Nat.le_of_ble_eq_true rfl) rfl dX8_init_61 (met_len _) (by decide) (by decide) ?_
  refine gw_icmp_ge hk.1.1 (cIk rfl) (cIk rfl) dX8_init_64 (fun q => absurd q (by decide)) (fun _ => ?_)
  refine gw_iload_n hk.1.1 4 rfl dX8_init_67 ?_
  refine gw_bipush hk.1.1 (v := 30) rfl dX8_init_68 ?_
  refine gw_icmp_ge hk.1.1 (cIk rfl) (cIk rfl) dX8_init_70 (fun q => absurd q (by decide)) (fun _ => ?_)
  refine gc_ldcS hk dX8_init_73 ?_
  refine gw_iload hk.1.1 0 rfl dX8_init_75 ?_
  refine gc_jcall hk (st := []) mf_J0_charAt_5068e (inT1 52 rfl rfl) (inT1 53 rfl rfl) (inT1 54 rfl rfl) (by decide) rfl (Nat.le_of_ble_eq_true rfl) rfl dX8_init_77 (met_cha (i := 122) (x := 101) _ (cIk rfl) (by decide) (by decide) rfl) (by decide) (by decide) ?_
  refine gw_istore hk.1.1 (lv' := [(5, mI 101), (4, mI 122), (3, mI 3), (2, mI 4865), (1, mI 22), (0, .ref (kB K + 2))]) (Nat.le_of_ble_eq_true rfl) rfl dX8_init_80 ?_
  refine gw_iload hk.1.1 0 rfl dX8_init_82 ?_
  refine gw_bipush hk.1.1 (v := 32) rfl dX8_init_84 ?_
  refine gw_icmp_ne hk.1.1 (cIk rfl) (cIk rfl) dX8_init_86 (fun _ => ?_) (fun q => absurd (by decide) q)
  refine gw_iload_n hk.1.1 3 rfl dX8_init_110 ?_
  refine gw_bipush hk.1.1 (v := 27) rfl dX8_init_111 ?_
  refine gw_imul hk.1.1 dX8_init_113 ?_
  refine gw_iload hk.1.1 0 rfl dX8_init_114 ?_
  refine gw_iadd hk.1.1 dX8_init_116 ?_
  refine gw_bipush hk.1.1 (v := 97) rfl dX8_init_117 ?_
  refine gw_isub hk.1.1 dX8_init_119 ?_
  refine gw_iconst hk.1.1 (v := 1) rfl dX8_init_120 ?_
  refine gw_iadd hk.1.1 dX8_init_121 ?_
  refine gw_top (y := 131360) (by decide) ?_
  refine gw_istore_n hk.1.1 rfl (lv' := [(2, mI 131360), (5, mI 101), (4, mI 122), (3, mI 3), (1, mI 22), (0, .ref (kB K + 2))]) (Nat.le_of_ble_eq_true rfl) rfl dX8_init_122 ?_
  refine gw_iinc hk.1.1 (lv' := [(3, mI 4), (2, mI 131360), (5, mI 101), (4, mI 122), (1, mI 22), (0, .ref (kB K + 2))]) 3 rfl (Nat.le_of_ble_eq_true rfl) rfl dX8_init_123 ?_
  refine gw_iinc hk.1.1 (lv' := [(4, mI 123), (3, mI 4), (2, mI 131360), (5, mI 101), (1, mI 22), (0, .ref (kB K + 2))]) 3 rfl (Nat.le_of_ble_eq_true rfl) rfl dX8_init_126 ?_
  refine gw_goto hk.1.1 dX8_init_129 ?_
  refine gw_iload hk.1.1 0 rfl dX8_init_57 ?_
  refine gc_ldcS hk dX8_init_59 ?_
  refine gc_jcall hk (st := [mI 123]) mf_J0_length_8abf5 (inT1 42 rfl rfl) (inT1 43 rfl rfl) (inT1 44 rfl rfl) (by decide) rfl (Nat.le_of_ble_eq_true rfl) rfl dX8_init_61 (met_len _) (by decide) (by decide) ?_
  refine gw_icmp_ge hk.1.1 (cIk rfl) (cIk rfl) dX8_init_64 (fun q => absurd q (by decide)) (fun _ => ?_)
  refine gw_iload_n hk.1.1 4 rfl dX8_init_67 ?_
  refine gw_bipush hk.1.1 (v := 30) rfl dX8_init_68 ?_
  refine gw_icmp_ge hk.1.1 (cIk rfl) (cIk rfl) dX8_init_70 (fun q => absurd q (by decide)) (fun _ => ?_)
  refine gc_ldcS hk dX8_init_73 ?_
  refine gw_iload hk.1.1 0 rfl dX8_init_75 ?_
  refine gc_jcall hk (st := []) mf_J0_charAt_5068e (inT1 52 rfl rfl) (inT1 53 rfl rfl) (inT1 54 rfl rfl) (by decide) rfl (Nat.le_of_ble_eq_true rfl) rfl dX8_init_77 (met_cha (i := 123) (x := 32) _ (cIk rfl) (by decide) (by decide) rfl) (by decide) (by decide) ?_
  refine gw_istore hk.1.1 (lv' := [(5, mI 32), (4, mI 123), (3, mI 4), (2, mI 131360), (1, mI 22), (0, .ref (kB K + 2))]) (Nat.le_of_ble_eq_true rfl) rfl dX8_init_80 ?_
  refine gw_iload hk.1.1 0 rfl dX8_init_82 ?_
  refine gw_bipush hk.1.1 (v := 32) rfl dX8_init_84 ?_
  refine gw_icmp_ne hk.1.1 (cIk rfl) (cIk rfl) dX8_init_86 (fun q => absurd q (by decide)) (fun _ => ?_)
  refine gw_aload_n hk.1.1 5 rfl dX8_init_89 ?_
  refine gc_get2 hk.1 (k := 7) (o := 2) fgc_X8_24 rfl kdC_2 (by omega) rfl rfl dX8_init_90 ?_
  refine gw_iload_n hk.1.1 4 rfl dX8_init_93 ?_
  refine gw_iload_n hk.1.1 3 rfl dX8_init_94 ?_
  refine gw_iload_n hk.1.1 2 rfl dX8_init_95 ?_
  refine gc_padded hk (st := [mI 22, .ref (kB K + 7)]) (a := 131360) (b := 4) (r := 95761440) (inT1 90 rfl rfl) (by decide +kernel) (cIk rfl) (cIk rfl) (by decide) (Nat.le_of_ble_eq_true rfl) (by decide) (by decide) dX8_init_96 ?_
  refine gc_iast hk.1 (a := 7) (v := 95761440) (cIk rfl) (by decide) (by decide) kdC_7 (by omega) dX8_init_99 ?_
  refine gw_iinc hk.1.1 (lv' := [(1, mI 23), (5, mI 32), (4, mI 123), (3, mI 4), (2, mI 131360), (0, .ref (kB K + 2))]) 4 rfl (Nat.le_of_ble_eq_true rfl) rfl dX8_init_100 ?_
  refine gw_iconst hk.1.1 (v := 0) rfl dX8_init_103 ?_
  refine gw_istore_n hk.1.1 rfl (lv' := [(2, mI 0), (1, mI 23), (5, mI 32), (4, mI 123), (3, mI 4), (0, .ref (kB K + 2))]) (Nat.le_of_ble_eq_true rfl) rfl dX8_init_104 ?_
  refine gw_iconst hk.1.1 (v := 0) rfl dX8_init_105 ?_
  refine gw_istore_n hk.1.1 rfl (lv' := [(3, mI 0), (2, mI 0), (1, mI 23), (5, mI 32), (4, mI 123), (0, .ref (kB K + 2))]) (Nat.le_of_ble_eq_true rfl) rfl dX8_init_106 ?_
  refine gw_goto hk.1.1 dX8_init_107 ?_
  refine gw_iinc hk.1.1 (lv' := [(4, mI 124), (3, mI 0), (2, mI 0), (1, mI 23), (5, mI 32), (0, .ref (kB K + 2))]) 4 rfl (Nat.le_of_ble_eq_true rfl) rfl dX8_init_126 ?_
  refine gw_goto hk.1.1 dX8_init_129 ?_
  refine gw_iload hk.1.1 0 rfl dX8_init_57 ?_
  refine gc_ldcS hk dX8_init_59 ?_
  refine gc_jcall hk (st := [mI 124]) mf_J0_length_8abf5 (inT1 42 rfl rfl) (inT1 43 rfl rfl) (inT1 44 rfl rfl) (by decide) rfl (Nat.le_of_ble_eq_true rfl) rfl dX8_init_61 (met_len _) (by decide) (by decide) ?_
  refine gw_icmp_ge hk.1.1 (cIk rfl) (cIk rfl) dX8_init_64 (fun q => absurd q (by decide)) (fun _ => ?_)
  refine gw_iload_n hk.1.1 3 rfl dX8_init_67 ?_
  refine gw_bipush hk.1.1 (v := 30) rfl dX8_init_68 ?_
  refine gw_icmp_ge hk.1.1 (cIk rfl) (cIk rfl) dX8_init_70 (fun q => absurd q (by decide)) (fun _ => ?_)
  refine gc_ldcS hk dX8_init_73 ?_
  refine gw_iload hk.1.1 0 rfl dX8_init_75 ?_
  refine gc_jcall hk (st := []) mf_J0_charAt_5068e (inT1 52 rfl rfl) (inT1 53 rfl rfl) (inT1 54 rfl rfl) (by decide) rfl (Nat.le_of_ble_eq_true rfl) rfl dX8_init_77 (met_cha (i := 124) (x := 105) _ (cIk rfl) (by decide) (by decide) rfl) (by decide) (by decide) ?_
  refine gw_istore hk.1.1 (lv' := [(5, mI 105), (4, mI 124), (3, mI 0), (2, mI 0), (1, mI 23), (0, .ref (kB K + 2))]) (Nat.le_of_ble_eq_true rfl) rfl dX8_init_80 ?_
  refine gw_iload hk.1.1 0 rfl dX8_init_82 ?_
  refine gw_bipush hk.1.1 (v := 32) rfl dX8_init_84 ?_
  refine gw_icmp_ne hk.1.1 (cIk rfl) (cIk rfl) dX8_init_86 (fun _ => ?_) (fun q => absurd (by decide) q)
  refine gw_iload_n hk.1.1 3 rfl dX8_init_110 ?_
  refine gw_bipush hk.1.1 (v := 27) rfl dX8_init_111 ?_
  refine gw_imul hk.1.1 dX8_init_113 ?_
  refine gw_iload hk.1.1 0 rfl dX8_init_114 ?_
  refine gw_iadd hk.1.1 dX8_init_116 ?_
  refine gw_bipush hk.1.1 (v := 97) rfl dX8_init_117 ?_
  refine gw_isub hk.1.1 dX8_init_119 ?_
  refine gw_iconst hk.1.1 (v := 1) rfl dX8_init_120 ?_
  refine gw_iadd hk.1.1 dX8_init_121 ?_
  refine gw_top (y := 9) (by decide) ?_
  refine gw_istore_n hk.1.1 rfl (lv' := [(2, mI 9), (5, mI 105), (4, mI 124), (3, mI 0), (1, mI 23), (0, .ref (kB K + 2))]) (Nat.le_of_ble_eq_true rfl) rfl dX8_init_122 ?_
  refine gw_iinc hk.1.1 (lv' := [(3, mI 1), (2, mI 9), (5, mI 105), (4, mI 124), (1, mI 23), (0, .ref (kB K + 2))]) 3 rfl (Nat.le_of_ble_eq_true rfl) rfl dX8_init_123 ?_
  refine gw_iinc hk.1.1 (lv' := [(4, mI 125), (3, mI 1), (2, mI 9), (5, mI 105), (1, mI 23), (0, .ref (kB K + 2))]) 3 rfl (Nat.le_of_ble_eq_true rfl) rfl dX8_init_126 ?_
  refine gw_goto hk.1.1 dX8_init_129 ?_
  refine gw_iload hk.1.1 0 rfl dX8_init_57 ?_
  refine gc_ldcS hk dX8_init_59 ?_
  refine gc_jcall hk (st := [mI 125]) mf_J0_length_8abf5 (inT1 42 rfl rfl) (inT1 43 rfl rfl) (inT1 44 rfl rfl) (by decide) rfl (Nat.le_of_ble_eq_true rfl) rfl dX8_init_61 (met_len _) (by decide) (by decide) ?_
  refine gw_icmp_ge hk.1.1 (cIk rfl) (cIk rfl) dX8_init_64 (fun q => absurd q (by decide)) (fun _ => ?_)
  refine gw_iload_n hk.1.1 4 rfl dX8_init_67 ?_
  refine gw_bipush hk.1.1 (v := 30) rfl dX8_init_68 ?_
  refine gw_icmp_ge hk.1.1 (cIk rfl) (cIk rfl) dX8_init_70 (fun q => absurd q (by decide)) (fun _ => ?_)
  refine gc_ldcS hk dX8_init_73 ?_
  refine gw_iload hk.1.1 0 rfl dX8_init_75 ?_
  refine gc_jcall hk (st := []) mf_J0_charAt_5068e (inT1 52 rfl rfl) (inT1 53 rfl rfl) (inT1 54 rfl rfl) (by decide) rfl (Nat.le_of_ble_eq_true rfl) rfl dX8_init_77 (met_cha (i := 125) (x := 102) _ (cIk rfl) (by decide) (by decide) rfl) (by decide) (by decide) ?_
  refine gw_istore hk.1.1 (lv' := [(5, mI 102), (4, mI 125), (3, mI 1), (2, mI 9), (1, mI 23), (0, .ref (kB K + 2))]) (Nat.le_of_ble_eq_true rfl) rfl dX8_init_80 ?_
  refine gw_iload hk.1.1 0 rfl dX8_init_82 ?_
  refine gw_bipush hk.1.1 (v := 32) rfl dX8_init_84 ?_
  refine gw_icmp_ne hk.1.1 (cIk rfl) (cIk rfl) dX8_init_86 (fun _ => ?_) (fun q => absurd (by decide) q)
  refine gw_iload_n hk.1.1 3 rfl dX8_init_110 ?_
  refine gw_bipush hk.1.1 (v := 27) rfl dX8_init_111 ?_
  refine gw_imul hk.1.1 dX8_init_113 ?_
  refine gw_iload hk.1.1 0 rfl dX8_init_114 ?_
  refine gw_iadd hk.1.1 dX8_init_116 ?_
  refine gw_bipush hk.1.1 (v := 97) rfl dX8_init_117 ?_
  refine gw_isub hk.1.1 dX8_init_119 ?_
  refine gw_iconst hk.1.1 (v := 1) rfl dX8_init_120 ?_
  refine gw_iadd hk.1.1 dX8_init_121 ?_
  refine gw_top (y := 249) (by decide) ?_
  refine gw_istore_n hk.1.1 rfl (lv' := [(2, mI 249), (5, mI 102), (4, mI 125), (3, mI 1), (1, mI 23), (0, .ref (kB K + 2))]) (Nat.le_of_ble_eq_true rfl) rfl dX8_init_122 ?_
  refine gw_iinc hk.1.1 (lv' := [(3, mI 2), (2, mI 249), (5, mI 102), (4, mI 125), (1, mI 23), (0, .ref (kB K + 2))]) 3 rfl (Nat.le_of_ble_eq_true rfl) rfl dX8_init_123 ?_
  refine gw_iinc hk.1.1 (lv' := [(4, mI 126), (3, mI 2), (2, mI 249), (5, mI 102), (1, mI 23), (0, .ref (kB K + 2))]) 3 rfl (Nat.le_of_ble_eq_true rfl) rfl dX8_init_126 ?_
  refine gw_goto hk.1.1 dX8_init_129 ?_
  refine gw_iload hk.1.1 0 rfl dX8_init_57 ?_
  refine gc_ldcS hk dX8_init_59 ?_
  refine gc_jcall hk (st := [mI 126]) mf_J0_length_8abf5 (inT1 42 rfl rfl) (inT1 43 rfl rfl) (inT1 44 rfl rfl) (by decide) rfl (Nat.le_of_ble_eq_true rfl) rfl dX8_init_61 (met_len _) (by decide) (by decide) ?_
  refine gw_icmp_ge hk.1.1 (cIk rfl) (cIk rfl) dX8_init_64 (fun q => absurd q (by decide)) (fun _ => ?_)
  refine gw_iload_n hk.1.1 4 rfl dX8_init_67 ?_
  refine gw_bipush hk.1.1 (v := 30) rfl dX8_init_68 ?_
  refine gw_icmp_ge hk.1.1 (cIk rfl) (cIk rfl) dX8_init_70 (fun q => absurd q (by decide)) (fun _ => ?_)
  refine gc_ldcS hk dX8_init_73 ?_
  refine gw_iload hk.1.1 0 rfl dX8_init_75 ?_
  refine gc_jcall hk (st := []) mf_J0_charAt_5068e (inT1 52 rfl rfl) (inT1 53 rfl rfl) (inT1 54 rfl rfl) (by decide) rfl (Nat.le_of_ble_eq_true rfl) rfl dX8_init_77 (met_cha (i := 126) (x := 32) _ (cIk rfl) (by decide) (by decide) rfl) (by decide) (by decide) ?_
  refine gw_istore hk.1.1 (lv' := [(5, mI 32), (4, mI 126), (3, mI 2), (2, mI 249), (1, mI 23), (0, .ref (kB K + 2))]) (Nat.le_of_ble_eq_true rfl) rfl dX8_init_80 ?_
  refine gw_iload hk.1.1 0 rfl dX8_init_82 ?_
  refine gw_bipush hk.1.1 (v := 32) rfl dX8_init_84 ?_
  refine gw_icmp_ne hk.1.1 (cIk rfl) (cIk rfl) dX8_init_86 (fun q => absurd q (by decide)) (fun _ => ?_)
  refine gw_aload_n hk.1.1 5 rfl dX8_init_89 ?_
  refine gc_get2 hk.1 (k := 7) (o := 2) fgc_X8_24 rfl kdC_2 (by omega) rfl rfl dX8_init_90 ?_
  refine gw_iload_n hk.1.1 4 rfl dX8_init_93 ?_
  refine gw_iload_n hk.1.1 3 rfl dX8_init_94 ?_
  refine gw_iload_n hk.1.1 2 rfl dX8_init_95 ?_
  refine gc_padded hk (st := [mI 23, .ref (kB K + 7)]) (a := 249) (b := 2) (r := 132328809) (inT1 90 rfl rfl) (by decide +kernel) (cIk rfl) (cIk rfl) (by decide) (Nat.le_of_ble_eq_true rfl) (by decide) (by decide) dX8_init_96 ?_
  refine gc_iast hk.1 (a := 7) (v := 132328809) (cIk rfl) (by decide) (by decide) kdC_7 (by omega) dX8_init_99 ?_
  refine gw_iinc hk.1.1 (lv' := [(1, mI 24), (5, mI 32), (4, mI 126), (3, mI 2), (2, mI 249), (0, .ref (kB K + 2))]) 4 rfl (Nat.le_of_ble_eq_true rfl) rfl dX8_init_100 ?_
  refine gw_iconst hk.1.1 (v := 0) rfl dX8_init_103 ?_
  refine gw_istore_n hk.1.1 rfl (lv' := [(2, mI 0), (1, mI 24), (5, mI 32), (4, mI 126), (3, mI 2), (0, .ref (kB K + 2))]) (Nat.le_of_ble_eq_true rfl) rfl dX8_init_104 ?_
  refine gw_iconst hk.1.1 (v := 0) rfl dX8_init_105 ?_
  refine gw_istore_n hk.1.1 rfl (lv' := [(3, mI 0), (2, mI 0), (1, mI 24), (5, mI 32), (4, mI 126), (0, .ref (kB K + 2))]) (Nat.le_of_ble_eq_true rfl) rfl dX8_init_106 ?_
  refine gw_goto hk.1.1 dX8_init_107 ?_
  refine gw_iinc hk.1.1 (lv' := [(4, mI 127), (3, mI 0), (2, mI 0), (1, mI 24), (5, mI 32), (0, .ref (kB K + 2))]) 4 rfl (Nat.le_of_ble_eq_true rfl) rfl dX8_init_126 ?_
  refine gw_goto hk.1.1 dX8_init_129 ?_
  refine gw_iload hk.1.1 0 rfl dX8_init_57 ?_
  refine gc_ldcS hk dX8_init_59 ?_
  refine gc_jcall hk (st := [mI 127]) mf_J0_length_8abf5 (inT1 42 rfl rfl) (inT1 43 rfl rfl) (inT1 44 rfl rfl) (by decide) rfl (Nat.le_of_ble_eq_true rfl) rfl dX8_init_61 (met_len _) (by decide) (by decide) ?_
  refine gw_icmp_ge hk.1.1 (cIk rfl) (cIk rfl) dX8_init_64 (fun q => absurd q (by decide)) (fun _ => ?_)
  refine gw_iload_n hk.1.1 3 rfl dX8_init_67 ?_
  refine gw_bipush hk.1.1 (v := 30) rfl dX8_init_68 ?_
  refine gw_icmp_ge hk.1.1 (cIk rfl) (cIk rfl) dX8_init_70 (fun q => absurd q (by decide)) (fun _ => ?_)
  refine gc_ldcS hk dX8_init_73 ?_
  refine gw_iload hk.1.1 0 rfl dX8_init_75 ?_
  refine gc_jcall hk (st := []) mf_J0_charAt_5068e (inT1 52 rfl rfl) (inT1 53 rfl rfl) (inT1 54 rfl rfl) (by decide) rfl (Nat.le_of_ble_eq_true rfl) rfl dX8_init_77 (met_cha (i := 127) (x := 111) _ (cIk rfl) (by decide) (by decide) rfl) (by decide) (by decide) ?_
  refine gw_istore hk.1.1 (lv' := [(5, mI 111), (4, mI 127), (3, mI 0), (2, mI 0), (1, mI 24), (0, .ref (kB K + 2))]) (Nat.le_of_ble_eq_true rfl) rfl dX8_init_80 ?_
  refine gw_iload hk.1.1 0 rfl dX8_init_82 ?_
  refine gw_bipush hk.1.1 (v := 32) rfl dX8_init_84 ?_
  refine gw_icmp_ne hk.1.1 (cIk rfl) (cIk rfl) dX8_init_86 (fun _ => ?_) (fun q => absurd (by decide) q)
  refine gw_iload_n hk.1.1 3 rfl dX8_init_110 ?_
  refine gw_bipush hk.1.1 (v := 27) rfl dX8_init_111 ?_
  refine gw_imul hk.1.1 dX8_init_113 ?_
  refine gw_iload hk.1.1 0 rfl dX8_init_114 ?_
  refine gw_iadd hk.1.1 dX8_init_116 ?_
  refine gw_bipush hk.1.1 (v := 97) rfl dX8_init_117 ?_
  refine gw_isub hk.1.1 dX8_init_119 ?_
  refine gw_iconst hk.1.1 (v := 1) rfl dX8_init_120 ?_
  refine gw_iadd hk.1.1 dX8_init_121 ?_
  refine gw_top (y := 15) (by decide) ?_
  refine gw_istore_n hk.1.1 rfl (lv' := [(2, mI 15), (5, mI 111), (4, mI 127), (3, mI 0), (1, mI 24), (0, .ref (kB K + 2))]) (Nat.le_of_ble_eq_true rfl) rfl dX8_init_122 ?_
  refine gw_iinc hk.1.1 (lv' := [(3, mI 1), (2, mI 15), (5, mI 111), (4, mI 127), (1, mI 24), (0, .ref (kB K + 2))]) 3 rfl (Nat.le_of_ble_eq_true rfl) rfl dX8_init_123 ?_
  refine gw_iinc hk.1.1 (lv' := [(4, mI 128), (3, mI 1), (2, mI 15), (5, mI 111), (1, mI 24), (0, .ref (kB K + 2))]) 3 rfl (Nat.le_of_ble_eq_true rfl) rfl dX8_init_126 ?_
  refine gw_goto hk.1.1 dX8_init_129 ?_
  refine gw_iload hk.1.1 0 rfl dX8_init_57 ?_
  refine gc_ldcS hk dX8_init_59 ?_
  refine gc_jcall hk (st := [mI 128]) mf_J0_length_8abf5 (inT1 42 rfl rfl) (inT1 43 rfl rfl) (inT1 44 rfl rfl) (by decide) rfl (Nat.le_of_ble_eq_true rfl) rfl dX8_init_61 (met_len _) (by decide) (by decide) ?_
  refine gw_icmp_ge hk.1.1 (cIk rfl) (cIk rfl) dX8_init_64 (fun q => absurd q (by decide)) (fun _ => ?_)
  refine gw_iload_n hk.1.1 4 rfl dX8_init_67 ?_
  refine gw_bipush hk.1.1 (v := 30) rfl dX8_init_68 ?_
  refine gw_icmp_ge hk.1.1 (cIk rfl) (cIk rfl) dX8_init_70 (fun q => absurd q (by decide)) (fun _ => ?_)
  refine gc_ldcS hk dX8_init_73 ?_
  refine gw_iload hk.1.1 0 rfl dX8_init_75 ?_
  refine gc_jcall hk (st := []) mf_J0_charAt_5068e (inT1 52 rfl rfl) (inT1 53 rfl rfl) (inT1 54 rfl rfl) (by decide) rfl (Nat.le_of_ble_eq_true rfl) rfl dX8_init_77 (met_cha (i := 128) (x := 114) _ (cIk rfl) (by decide) (by decide) rfl) (by decide) (by decide) ?_
  refine gw_istore hk.1.1 (lv' := [(5, mI 114), (4, mI 128), (3, mI 1), (2, mI 15), (1, mI 24), (0, .ref (kB K + 2))]) (Nat.le_of_ble_eq_true rfl) rfl dX8_init_80 ?_
  refine gw_iload hk.1.1 0 rfl dX8_init_82 ?_
  refine gw_bipush hk.1.1 (v := 32) rfl dX8_init_84 ?_
  refine gw_icmp_ne hk.1.1 (cIk rfl) (cIk rfl) dX8_init_86 (fun _ => ?_) (fun q => absurd (by decide) q)
  refine gw_iload_n hk.1.1 3 rfl dX8_init_110 ?_
  refine gw_bipush hk.1.1 (v := 27) rfl dX8_init_111 ?_
  refine gw_imul hk.1.1 dX8_init_113 ?_
  refine gw_iload hk.1.1 0 rfl dX8_init_114 ?_
  refine gw_iadd hk.1.1 dX8_init_116 ?_
  refine gw_bipush hk.1.1 (v := 97) rfl dX8_init_117 ?_
  refine gw_isub hk.1.1 dX8_init_119 ?_
  refine gw_iconst hk.1.1 (v := 1) rfl dX8_init_120 ?_
  refine gw_iadd hk.1.1 dX8_init_121 ?_
  refine gw_top (y := 423) (by decide) ?_
  refine gw_istore_n hk.1.1 rfl (lv' := [(2, mI 423), (5, mI 114), (4, mI 128), (3, mI 1), (1, mI 24), (0, .ref (kB K + 2))]) (Nat.le_of_ble_eq_true rfl) rfl dX8_init_122 ?_
  refine gw_iinc hk.1.1 (lv' := [(3, mI 2), (2, mI 423), (5, mI 114), (4, mI 128), (1, mI 24), (0, .ref (kB K + 2))]) 3 rfl (Nat.le_of_ble_eq_true rfl) rfl dX8_init_123 ?_
  refine gw_iinc hk.1.1 (lv' := [(4, mI 129), (3, mI 2), (2, mI 423), (5, mI 114), (1, mI 24), (0, .ref (kB K + 2))]) 3 rfl (Nat.le_of_ble_eq_true rfl) rfl dX8_init_126 ?_
  refine gw_goto hk.1.1 dX8_init_129 ?_
  refine gw_iload hk.1.1 0 rfl dX8_init_57 ?_
  refine gc_ldcS hk dX8_init_59 ?_
  refine gc_jcall hk (st := [mI 129]) mf_J0_length_8abf5 (inT1 42 rfl rfl) (inT1 43 rfl rfl) (inT1 44 rfl rfl) (by decide) rfl (Nat.le_of_ble_eq_true rfl) rfl dX8_init_61 (met_len _) (by decide) (by decide) ?_
  refine gw_icmp_ge hk.1.1 (cIk rfl) (cIk rfl) dX8_init_64 (fun q => absurd q (by decide)) (fun _ => ?_)
  refine gw_iload_n hk.1.1 4 rfl dX8_init_67 ?_
  refine gw_bipush hk.1.1 (v := 30) rfl dX8_init_68 ?_
  refine gw_icmp_ge hk.1.1 (cIk rfl) (cIk rfl) dX8_init_70 (fun q => absurd q (by decide)) (fun _ => ?_)
  refine gc_ldcS hk dX8_init_73 ?_
  refine gw_iload hk.1.1 0 rfl dX8_init_75 ?_
  refine gc_jcall hk (st := []) mf_J0_charAt_5068e (inT1 52 rfl rfl) (inT1 53 rfl rfl) (inT1 54 rfl rfl) (by decide) rfl (Nat.le_of_ble_eq_true rfl) rfl dX8_init_77 (met_cha (i := 129) (x := 32) _ (cIk rfl) (by decide) (by decide) rfl) (by decide) (by decide) ?_
  refine gw_istore hk.1.1 (lv' := [(5, mI 32), (4, mI 129), (3, mI 2), (2, mI 423), (1, mI 24), (0, .ref (kB K + 2))]) (Nat.le_of_ble_eq_true rfl) rfl dX8_init_80 ?_
  refine gw_iload hk.1.1 0 rfl dX8_init_82 ?_
  refine gw_bipush hk.1.1 (v := 32) rfl dX8_init_84 ?_
  refine gw_icmp_ne hk.1.1 (cIk rfl) (cIk rfl) dX8_init_86 (fun q => absurd q (by decide)) (fun _ => ?_)
  refine gw_aload_n hk.1.1 5 rfl dX8_init_89 ?_
  refine gc_get2 hk.1 (k := 7) (o := 2) fgc_X8_24 rfl kdC_2 (by omega) rfl rfl dX8_init_90 ?_
  refine gw_iload_n hk.1.1 4 rfl dX8_init_93 ?_
  refine gw_iload_n hk.1.1 3 rfl dX8_init_94 ?_
  refine gw_iload_n hk.1.1 2 rfl dX8_init_95 ?_
  refine gc_padded hk (st := [mI 24, .ref (kB K + 7)]) (a := 423) (b := 2) (r := 224799543) (inT1 90 rfl rfl) (by decide +kernel) (cIk rfl) (cIk rfl) (by decide) (Nat.le_of_ble_eq_true rfl) (by decide) (by decide) dX8_init_96 ?_
  refine gc_iast hk.1 (a := 7) (v := 224799543) (cIk rfl) (by decide) (by decide) kdC_7 (by omega) dX8_init_99 ?_
  refine gw_iinc hk.1.1 (lv' := [(1, mI 25), (5, mI 32), (4, mI 129), (3, mI 2), (2, mI 423), (0, .ref (kB K + 2))]) 4 rfl (Nat.le_of_ble_eq_true rfl) rfl dX8_init_100 ?_
  refine gw_iconst hk.1.1 (v := 0) rfl dX8_init_103 ?_
  refine gw_istore_n hk.1.1 rfl (lv' := [(2, mI 0), (1, mI 25), (5, mI 32), (4, mI 129), (3, mI 2), (0, .ref (kB K + 2))]) (Nat.le_of_ble_eq_true rfl) rfl dX8_init_104 ?_
  refine gw_iconst hk.1.1 (v := 0) rfl dX8_init_105 ?_
  refine gw_istore_n hk.1.1 rfl (lv' := [(3, mI 0), (2, mI 0), (1, mI 25), (5, mI 32), (4, mI 129), (0, .ref (kB K + 2))]) (Nat.le_of_ble_eq_true rfl) rfl dX8_init_106 ?_
  refine gw_goto hk.1.1 dX8_init_107 ?_
  refine gw_iinc hk.1.1 (lv' := [(4, mI 130), (3, mI 0), (2, mI 0), (1, mI 25), (5, mI 32), (0, .ref (kB K + 2))]) 4 rfl (Nat.le_of_ble_eq_true rfl) rfl dX8_init_126 ?_
  refine gw_goto hk.1.1 dX8_init_129 ?_
  refine gw_iload hk.1.1 0 rfl dX8_init_57 ?_
  refine gc_ldcS hk dX8_init_59 ?_
  refine gc_jcall hk (st := [mI 130]) mf_J0_length_8abf5 (inT1 42 rfl rfl) (inT1 43 rfl rfl) (inT1 44 rfl rfl) (by decide) rfl (Nat.le_of_ble_eq_true rfl) rfl dX8_init_61 (met_len _) (by decide) (by decide) ?_
  refine gw_icmp_ge hk.1.1 (cIk rfl) (cIk rfl) dX8_init_64 (fun q => absurd q (by decide)) (fun _ => ?_)
  refine gw_iload_n hk.1.1 3 rfl dX8_init_67 ?_
  refine gw_bipush hk.1.1 (v := 30) rfl dX8_init_68 ?_
  refine gw_icmp_ge hk.1.1 (cIk rfl) (cIk rfl) dX8_init_70 (fun q => absurd q (by decide)) (fun _ => ?_)
  refine gc_ldcS hk dX8_init_73 ?_
  refine gw_iload hk.1.1 0 rfl dX8_init_75 ?_
  refine gc_jcall hk (st := []) mf_J0_charAt_5068e (inT1 52 rfl rfl) (inT1 53 rfl rfl) (inT1 54 rfl rfl) (by decide) rfl (Nat.le_of_ble_eq_true rfl) rfl dX8_init_77 (met_cha (i := 130) (x := 97) _ (cIk rfl) (by decide) (by decide) rfl) (by decide) (by decide) ?_
  refine gw_istore hk.1.1 (lv' := [(5, mI 97), (4, mI 130), (3, mI 0), (2, mI 0), (1, mI 25), (0, .ref (kB K + 2))]) (Nat.le_of_ble_eq_true rfl) rfl dX8_init_80 ?_
  refine gw_iload hk.1.1 0 rfl dX8_init_82 ?_
  refine gw_bipush hk.1.1 (v := 32) rfl dX8_init_84 ?_
  refine gw_icmp_ne hk.1.1 (cIk rfl) (cIk rfl) dX8_init_86 (fun _ => ?_) (fun q => absurd (by decide) q)
  refine gw_iload_n hk.1.1 3 rfl dX8_init_110 ?_
  refine gw_bipush hk.1.1 (v := 27) rfl dX8_init_111 ?_
  refine gw_imul hk.1.1 dX8_init_113 ?_
  refine gw_iload hk.1.1 0 rfl dX8_init_114 ?_
  refine gw_iadd hk.1.1 dX8_init_116 ?_
  refine gw_bipush hk.1.1 (v := 97) rfl dX8_init_117 ?_
  refine gw_isub hk.1.1 dX8_init_119 ?_
  refine gw_iconst hk.1.1 (v := 1) rfl dX8_init_120 ?_
  refine gw_iadd hk.1.1 dX8_init_121 ?_
  refine gw_top (y := 1) (by decide) ?_
  refine gw_istore_n hk.1.1 rfl (lv' := [(2, mI 1), (5, mI 97), (4, mI 130), (3, mI 0), (1, mI 25), (0, .ref (kB K + 2))]) (Nat.le_of_ble_eq_true rfl) rfl dX8_init_122 ?_
  refine gw_iinc hk.1.1 (lv' := [(3, mI 1), (2, mI 1), (5, mI 97), (4, mI 130), (1, mI 25), (0, .ref (kB K + 2))]) 3 rfl (Nat.le_of_ble_eq_true rfl) rfl dX8_init_123 ?_
  refine gw_iinc hk.1.1 (lv' := [(4, mI 131), (3, mI 1), (2, mI 1), (5, mI 97), (1, mI 25), (0, .ref (kB K + 2))]) 3 rfl (Nat.le_of_ble_eq_true rfl) rfl dX8_init_126 ?_
  refine gw_goto hk.1.1 dX8_init_129 ?_
  refine gw_iload hk.1.1 0 rfl dX8_init_57 ?_
  refine gc_ldcS hk dX8_init_59 ?_
  refine gc_jcall hk (st := [mI 131]) mf_J0_length_8abf5 (inT1 42 rfl rfl) (inT1 43 rfl rfl) (inT1 44 rfl rfl) (by decide) rfl (Nat.le_of_ble_eq_true rfl) rfl dX8_init_61 (met_len _) (by decide) (by decide) ?_
  refine gw_icmp_ge hk.1.1 (cIk rfl) (cIk rfl) dX8_init_64 (fun q => absurd q (by decide)) (fun _ => ?_)
  refine gw_iload_n hk.1.1 4 rfl dX8_init_67 ?_
  refine gw_bipush hk.1.1 (v := 30) rfl dX8_init_68 ?_
  refine gw_icmp_ge hk.1.1 (cIk rfl) (cIk rfl) dX8_init_70 (fun q => absurd q (by decide)) (fun _ => ?_)
  refine gc_ldcS hk dX8_init_73 ?_
  refine gw_iload hk.1.1 0 rfl dX8_init_75 ?_
  refine gc_jcall hk (st := []) mf_J0_charAt_5068e (inT1 52 rfl rfl) (inT1 53 rfl rfl) (inT1 54 rfl rfl) (by decide) rfl (Nat.le_of_ble_eq_true rfl) rfl dX8_init_77 (met_cha (i := 131) (x := 110) _ (cIk rfl) (by decide) (by decide) rfl) (by decide) (by decide) ?_
  refine gw_istore hk.1.1 (lv' := [(5, mI 110), (4, mI 131), (3, mI 1), (2, mI 1), (1, mI 25), (0, .ref (kB K + 2))]) (Nat.le_of_ble_eq_true rfl) rfl dX8_init_80 ?_
  refine gw_iload hk.1.1 0 rfl dX8_init_82 ?_
  refine gw_bipush hk.1.1 (v := 32) rfl dX8_init_84 ?_
  refine gw_icmp_ne hk.1.1 (cIk rfl) (cIk rfl) dX8_init_86 (fun _ => ?_) (fun q => absurd (by decide) q)
  refine gw_iload_n hk.1.1 3 rfl dX8_init_110 ?_
  refine gw_bipush hk.1.1 (v := 27) rfl dX8_init_111 ?_
  refine gw_imul hk.1.1 dX8_init_113 ?_
  refine gw_iload hk.1.1 0 rfl dX8_init_114 ?_
  refine gw_iadd hk.1.1 dX8_init_116 ?_
  refine gw_bipush hk.1.1 (v := 97) rfl dX8_init_117 ?_
  refine gw_isub hk.1.1 dX8_init_119 ?_
  refine gw_iconst hk.1.1 (v := 1) rfl dX8_init_120 ?_
  refine gw_iadd hk.1.1 dX8_init_121 ?_
  refine gw_top (y := 41) (by decide) ?_
  refine gw_istore_n hk.1.1 rfl (lv' := [(2, mI 41), (5, mI 110), (4, mI 131), (3, mI 1), (1, mI 25), (0, .ref (kB K + 2))]) (Nat.le_of_ble_eq_true rfl) rfl dX8_init_122 ?_
  refine gw_iinc hk.1.1 (lv' := [(3, mI 2), (2, mI 41), (5, mI 110), (4, mI 131), (1, mI 25), (0, .ref (kB K + 2))]) 3 rfl (Nat.le_of_ble_eq_true rfl) rfl dX8_init_123 ?_
  refine gw_iinc hk.1.1 (lv' := [(4, mI 132), (3, mI 2), (2, mI 41), (5, mI 110), (1, mI 25), (0, .ref (kB K + 2))]) 3 rfl (Nat.le_of_ble_eq_true rfl) rfl dX8_init_126 ?_
  refine gw_goto hk.1.1 dX8_init_129 ?_
  refine gw_iload hk.1.1 0 rfl dX8_init_57 ?_
  refine gc_ldcS hk dX8_init_59 ?_
  refine gc_jcall hk (st := [mI 132]) mf_J0_length_8abf5 (inT1 42 rfl rfl) (inT1 43 rfl rfl) (inT1 44 rfl rfl) (by decide) rfl (Nat.le_of_ble_eq_true rfl) rfl dX8_init_61 (met_len _) (by decide) (by decide) ?_
  refine gw_icmp_ge hk.1.1 (cIk rfl) (cIk rfl) dX8_init_64 (fun q => absurd q (by decide)) (fun _ => ?_)
  refine gw_iload_n hk.1.1 4 rfl dX8_init_67 ?_
  refine gw_bipush hk.1.1 (v := 30) rfl dX8_init_68 ?_
  refine gw_icmp_ge hk.1.1 (cIk rfl) (cIk rfl) dX8_init_70 (fun q => absurd q (by decide)) (fun _ => ?_)
  refine gc_ldcS hk dX8_init_73 ?_
  refine gw_iload hk.1.1 0 rfl dX8_init_75 ?_
  refine gc_jcall hk (st := []) mf_J0_charAt_5068e (inT1 52 rfl rfl) (inT1 53 rfl rfl) (inT1 54 rfl rfl) (by decide) rfl (Nat.le_of_ble_eq_true rfl) rfl dX8_init_77 (met_cha (i := 132) (x := 100) _ (cIk rfl) (by decide) (by decide) rfl) (by decide) (by decide) ?_
  refine gw_istore hk.1.1 (lv' := [(5, mI 100), (4, mI 132), (3, mI 2), (2, mI 41), (1, mI 25), (0, .ref (kB K + 2))]) (Nat.le_of_ble_eq_true rfl) rfl dX8_init_80 ?_
  refine gw_iload hk.1.1 0 rfl dX8_init_82 ?_
  refine gw_bipush hk.1.1 (v := 32) rfl dX8_init_84 ?_
  refine gw_icmp_ne hk.1.1 (cIk rfl) (cIk rfl) dX8_init_86 (fun _ => ?_) (fun q => absurd (by decide) q)
  refine gw_iload_n hk.1.1 3 rfl dX8_init_110 ?_
  refine gw_bipush hk.1.1 (v := 27) rfl dX8_init_111 ?_
  refine gw_imul hk.1.1 dX8_init_113 ?_
  refine gw_iload hk.1.1 0 rfl dX8_init_114 ?_
  refine gw_iadd hk.1.1 dX8_init_116 ?_
  refine gw_bipush hk.1.1 (v := 97) rfl dX8_init_117 ?_
  refine gw_isub hk.1.1 dX8_init_119 ?_
  refine gw_iconst hk.1.1 (v := 1) rfl dX8_init_120 ?_
  refine gw_iadd hk.1.1 dX8_init_121 ?_
  refine gw_top (y := 1111) (by decide) ?_
  refine gw_istore_n hk.1.1 rfl (lv' := [(2, mI 1111), (5, mI 100), (4, mI 132), (3, mI 2), (1, mI 25), (0, .ref (kB K + 2))]) (Nat.le_of_ble_eq_true rfl) rfl dX8_init_122 ?_
  refine gw_iinc hk.1.1 (lv' := [(3, mI 3), (2, mI 1111), (5, mI 100), (4, mI 132), (1, mI 25), (0, .ref (kB K + 2))]) 3 rfl (Nat.le_of_ble_eq_true rfl) rfl dX8_init_123 ?_
  refine gw_iinc hk.1.1 (lv' := [(4, mI 133), (3, mI 3), (2, mI 1111), (5, mI 100), (1, mI 25), (0, .ref (kB K + 2))]) 3 rfl (Nat.le_of_ble_eq_true rfl) rfl dX8_init_126 ?_
  refine gw_goto hk.1.1 dX8_init_129 ?_
  refine gw_iload hk.1.1 0 rfl dX8_init_57 ?_
  refine gc_ldcS hk dX8_init_59 ?_
  refine gc_jcall hk (st := [mI 133]) mf_J0_length_8abf5 (inT1 42 rfl rfl) (inT1 43 rfl rfl) (inT1 44 rfl rfl) (by decide) rfl (Nat.le_of_ble_eq_true rfl) rfl dX8_init_61 (met_len _) (by decide) (by decide) ?_
  refine gw_icmp_ge hk.1.1 (cIk rfl) (cIk rfl) dX8_init_64 (fun q => absurd q (by decide)) (fun _ => ?_)
  refine gw_iload_n hk.1.1 4 rfl dX8_init_67 ?_
  refine gw_bipush hk.1.1 (v := 30) rfl dX8_init_68 ?_
  refine gw_icmp_ge hk.1.1 (cIk rfl) (cIk rfl) dX8_init_70 (fun q => absurd q (by decide)) (fun _ => ?_)
  refine gc_ldcS hk dX8_init_73 ?_
  refine gw_iload hk.1.1 0 rfl dX8_init_75 ?_
  refine gc_jcall hk (st := []) mf_J0_charAt_5068e (inT1 52 rfl rfl) (inT1 53 rfl rfl) (inT1 54 rfl rfl) (by decide) rfl (Nat.le_of_ble_eq_true rfl) rfl dX8_init_77 (met_cha (i := 133) (x := 32) _ (cIk rfl) (by decide) (by decide) rfl) (by decide) (by decide) ?_
  refine gw_istore hk.1.1 (lv' := [(5, mI 32), (4, mI 133), (3, mI 3), (2, mI 1111), (1, mI 25), (0, .ref (kB K + 2))]) (Nat.le_of_ble_eq_true rfl) rfl dX8_init_80 ?_
  refine gw_iload hk.1.1 0 rfl dX8_init_82 ?_
  refine gw_bipush hk.1.1 (v := 32) rfl dX8_init_84 ?_
  refine gw_icmp_ne hk.1.1 (cIk rfl) (cIk rfl) dX8_init_86 (fun q => absurd q (by decide)) (fun _ => ?_)
  refine gw_aload_n hk.1.1 5 rfl dX8_init_89 ?_
  refine gc_get2 hk.1 (k := 7) (o := 2) fgc_X8_24 rfl kdC_2 (by omega) rfl rfl dX8_init_90 ?_
  refine gw_iload_n hk.1.1 4 rfl dX8_init_93 ?_
  refine gw_iload_n hk.1.1 3 rfl dX8_init_94 ?_
  refine gw_iload_n hk.1.1 2 rfl dX8_init_95 ?_
  refine gc_padded hk (st := [mI 25, .ref (kB K + 7)]) (a := 1111) (b := 3) (r := 21867813) (inT1 90 rfl rfl) (by decide +kernel) (cIk rfl) (cIk rfl) (by decide) (Nat.le_of_ble_eq_true rfl) (by decide) (by decide) dX8_init_96 ?_
  refine gc_iast hk.1 (a := 7) (v := 21867813) (cIk rfl) (by decide) (by decide) kdC_7 (by omega) dX8_init_99 ?_
  refine gw_iinc hk.1.1 (lv' := [(1, mI 26), (5, mI 32), (4, mI 133), (3, mI 3), (2, mI 1111), (0, .ref (kB K + 2))]) 4 rfl (Nat.le_of_ble_eq_true rfl) rfl dX8_init_100 ?_
  refine gw_iconst hk.1.1 (v := 0) rfl dX8_init_103 ?_
  refine gw_istore_n hk.1.1 rfl (lv' := [(2, mI 0), (1, mI 26), (5, mI 32), (4, mI 133), (3, mI 3), (0, .ref (kB K + 2))]) (Nat.le_of_ble_eq_true rfl) rfl dX8_init_104 ?_
  refine gw_iconst hk.1.1 (v := 0) rfl dX8_init_105 ?_
  refine gw_istore_n hk.1.1 rfl (lv' := [(3, mI 0), (2, mI 0), (1, mI 26), (5, mI 32), (4, mI 133), (0, .ref (kB K + 2))]) (Nat.le_of_ble_eq_true rfl) rfl dX8_init_106 ?_
  refine gw_goto hk.1.1 dX8_init_107 ?_
  refine gw_iinc hk.1.1 (lv' := [(4, mI 134), (3, mI 0), (2, mI 0), (1, mI 26), (5, mI 32), (0, .ref (kB K + 2))]) 4 rfl (Nat.le_of_ble_eq_true rfl) rfl dX8_init_126 ?_
  refine gw_goto hk.1.1 dX8_init_129 ?_
  refine gw_iload hk.1.1 0 rfl dX8_init_57 ?_
  refine gc_ldcS hk dX8_init_59 ?_
  refine gc_jcall hk (st := [mI 134]) mf_J0_length_8abf5 (inT1 42 rfl rfl) (inT1 43 rfl rfl) (inT1 44 rfl rfl) (by decide) rfl (Nat.le_of_ble_eq_true rfl) rfl dX8_init_61 (met_len _) (by decide) (by decide) ?_
  refine gw_icmp_ge hk.1.1 (cIk rfl) (cIk rfl) dX8_init_64 (fun q => absurd q (by decide)) (fun _ => ?_)
  refine gw_iload_n hk.1.1 3 rfl dX8_init_67 ?_
  refine gw_bipush hk.1.1 (v := 30) rfl dX8_init_68 ?_
  refine gw_icmp_ge hk.1.1 (cIk rfl) (cIk rfl) dX8_init_70 (fun q => absurd q (by decide)) (fun _ => ?_)
  refine gc_ldcS hk dX8_init_73 ?_
  refine gw_iload hk.1.1 0 rfl dX8_init_75 ?_
  refine gc_jcall hk (st := []) mf_J0_charAt_5068e (inT1 52 rfl rfl) (inT1 53 rfl rfl) (inT1 54 rfl rfl) (by decide) rfl (Nat.le_of_ble_eq_true rfl) rfl dX8_init_77 (met_cha (i := 134) (x := 110) _ (cIk rfl) (by decide) (by decide) rfl) (by decide) (by decide) ?_
  refine gw_istore hk.1.1 (lv' := [(5, mI 110), (4, mI 134), (3, mI 0), (2, mI 0), (1, mI 26), (0, .ref (kB K + 2))]) (Nat.le_of_ble_eq_true rfl) rfl dX8_init_80 ?_
  refine gw_iload hk.1.1 0 rfl dX8_init_82 ?_
  refine gw_bipush hk.1.1 (v := 32) rfl dX8_init_84 ?_
  refine gw_icmp_ne hk.1.1 (cIk rfl) (cIk rfl) dX8_init_86 (fun _ => ?_) (fun q => absurd (by decide) q)
  refine gw_iload_n hk.1.1 3 rfl dX8_init_110 ?_
  refine gw_bipush hk.1.1 (v := 27) rfl dX8_init_111 ?_
  refine gw_imul hk.1.1 dX8_init_113 ?_
  refine gw_iload hk.1.1 0 rfl dX8_init_114 ?_
  refine gw_iadd hk.1.1 dX8_init_116 ?_
  refine gw_bipush hk.1.1 (v := 97) rfl dX8_init_117 ?_
  refine gw_isub hk.1.1 dX8_init_119 ?_
  refine gw_iconst hk.1.1 (v := 1) rfl dX8_init_120 ?_
  refine gw_iadd hk.1.1 dX8_init_121 ?_
  refine gw_top (y := 14) (by decide) ?_
  refine gw_istore_n hk.1.1 rfl (lv' := [(2, mI 14), (5, mI 110), (4, mI 134), (3, mI 0), (1, mI 26), (0, .ref (kB K + 2))]) (Nat.le_of_ble_eq_true rfl) rfl dX8_init_122 ?_
  refine gw_iinc hk.1.1 (lv' := [(3, mI 1), (2, mI 14), (5, mI 110), (4, mI 134), (1, mI 26), (0, .ref (kB K + 2))]) 3 rfl (Nat.le_of_ble_eq_true rfl) rfl dX8_init_123 ?_
  refine gw_iinc hk.1.1 (lv' := [(4, mI 135), (3, mI 1), (2, mI 14), (5, mI 110), (1, mI 26), (0, .ref (kB K + 2))]) 3 rfl (Nat.le_of_ble_eq_true rfl) rfl dX8_init_126 ?_
  refine gw_goto hk.1.1 dX8_init_129 ?_
  refine gw_iload hk.1.1 0 rfl dX8_init_57 ?_
  refine gc_ldcS hk dX8_init_59 ?_
  refine gc_jcall hk (st := [mI 135]) mf_J0_length_8abf5 (inT1 42 rfl rfl) (inT1 43 rfl rfl) (inT1 44 rfl rfl) (by decide) rfl (Nat.le_of_ble_eq_true rfl) rfl dX8_init_61 (met_len _) (by decide) (by decide) ?_
  refine gw_icmp_ge hk.1.1 (cIk rfl) (cIk rfl) dX8_init_64 (fun q => absurd q (by decide)) (fun _ => ?_)
  refine gw_iload_n hk.1.1 4 rfl dX8_init_67 ?_
  refine gw_bipush hk.1.1 (v := 30) rfl dX8_init_68 ?_
  refine gw_icmp_ge hk.1.1 (cIk rfl) (cIk rfl) dX8_init_70 (fun q => absurd q (by decide)) (fun _ => ?_)
  refine gc_ldcS hk dX8_init_73 ?_
  refine gw_iload hk.1.1 0 rfl dX8_init_75 ?_
  refine gc_jcall hk (st := []) mf_J0_charAt_5068e (inT1 52 rfl rfl) (inT1 53 rfl rfl) (inT1 54 rfl rfl) (by decide) rfl (Nat.le_of_ble_eq_true rfl) rfl dX8_init_77 (met_cha (i := 135) (x := 111) _ (cIk rfl) (by decide) (by decide) rfl) (by decide) (by decide) ?_
  refine gw_istore hk.1.1 (lv' := [(5, mI 111), (4, mI 135), (3, mI 1), (2, mI 14), (1, mI 26), (0, .ref (kB K + 2))]) (Nat.le_of_ble_eq_true rfl) rfl dX8_init_80 ?_
  refine gw_iload hk.1.1 0 rfl dX8_init_82 ?_
  refine gw_bipush hk.1.1 (v := 32) rfl dX8_init_84 ?_
  refine gw_icmp_ne hk.1.1 (cIk rfl) (cIk rfl) dX8_init_86 (fun _ => ?_) (fun q => absurd (by decide) q)
  refine gw_iload_n hk.1.1 3 rfl dX8_init_110 ?_
  refine gw_bipush hk.1.1 (v := 27) rfl dX8_init_111 ?_
  refine gw_imul hk.1.1 dX8_init_113 ?_
  refine gw_iload hk.1.1 0 rfl dX8_init_114 ?_
  refine gw_iadd hk.1.1 dX8_init_116 ?_
  refine gw_bipush hk.1.1 (v := 97) rfl dX8_init_117 ?_
  refine gw_isub hk.1.1 dX8_init_119 ?_
  refine gw_iconst hk.1.1 (v := 1) rfl dX8_init_120 ?_
  refine gw_iadd hk.1.1 dX8_init_121 ?_
  refine gw_top (y := 393) (by decide) ?_
  refine gw_istore_n hk.1.1 rfl (lv' := [(2, mI 393), (5, mI 111), (4, mI 135), (3, mI 1), (1, mI 26), (0, .ref (kB K + 2))]) (Nat.le_of_ble_eq_true rfl) rfl dX8_init_122 ?_
  refine gw_iinc hk.1.1 (lv' := [(3, mI 2), (2, mI 393), (5, mI 111), (4, mI 135), (1, mI 26), (0, .ref (kB K + 2))]) 3 rfl (Nat.le_of_ble_eq_true rfl) rfl dX8_init_123 ?_
  refine gw_iinc hk.1.1 (lv' := [(4, mI 136), (3, mI 2), (2, mI 393), (5, mI 111), (1, mI 26), (0, .ref (kB K + 2))]) 3 rfl (Nat.le_of_ble_eq_true rfl) rfl dX8_init_126 ?_
  refine gw_goto hk.1.1 dX8_init_129 ?_
  refine gw_iload hk.1.1 0 rfl dX8_init_57 ?_
  refine gc_ldcS hk dX8_init_59 ?_
  refine gc_jcall hk (st := [mI 136]) mf_J0_length_8abf5 (inT1 42 rfl rfl) (inT1 43 rfl rfl) (inT1 44 rfl rfl) (by decide) rfl (Nat.le_of_ble_eq_true rfl) rfl dX8_init_61 (met_len _) (by decide) (by decide) ?_
  refine gw_icmp_ge hk.1.1 (cIk rfl) (cIk rfl) dX8_init_64 (fun q => absurd q (by decide)) (fun _ => ?_)
  refine gw_iload_n hk.1.1 4 rfl dX8_init_67 ?_
  refine gw_bipush hk.1.1 (v := 30) rfl dX8_init_68 ?_
  refine gw_icmp_ge hk.1.1 (cIk rfl) (cIk rfl) dX8_init_70 (fun q => absurd q (by decide)) (fun _ => ?_)
  refine gc_ldcS hk dX8_init_73 ?_
  refine gw_iload hk.1.1 0 rfl dX8_init_75 ?_
  refine gc_jcall hk (st := []) mf_J0_charAt_5068e (inT1 52 rfl rfl) (inT1 53 rfl rfl) (inT1 54 rfl rfl) (by decide) rfl (Nat.le_of_ble_eq_true rfl) rfl dX8_init_77 (met_cha (i := 136) (x := 116) _ (cIk rfl) (by decide) (by decide) rfl) (by decide) (by decide) ?_
  refine gw_istore hk.1.1 (lv' := [(5, mI 116), (4, mI 136), (3, mI 2), (2, mI 393), (1, mI 26), (0, .ref (kB K + 2))]) (Nat.le_of_ble_eq_true rfl) rfl dX8_init_80 ?_
  refine gw_iload hk.1.1 0 rfl dX8_init_82 ?_
  refine gw_bipush hk.1.1 (v := 32) rfl dX8_init_84 ?_
  refine gw_icmp_ne hk.1.1 (cIk rfl) (cIk rfl) dX8_init_86 (fun _ => ?_) (fun q => absurd (by decide) q)
  refine gw_iload_n hk.1.1 3 rfl dX8_init_110 ?_
  refine gw_bipush hk.1.1 (v := 27) rfl dX8_init_111 ?_
  refine gw_imul hk.1.1 dX8_init_113 ?_
  refine gw_iload hk.1.1 0 rfl dX8_init_114 ?_
  refine gw_iadd hk.1.1 dX8_init_116 ?_
  refine gw_bipush hk.1.1 (v := 97) rfl dX8_init_117 ?_
  refine gw_isub hk.1.1 dX8_init_119 ?_
  refine gw_iconst hk.1.1 (v := 1) rfl dX8_init_120 ?_
  refine gw_iadd hk.1.1 dX8_init_121 ?_
  refine gw_top (y := 10631) (by decide) ?_
  refine gw_istore_n hk.1.1 rfl (lv' := [(2, mI 10631), (5, mI 116), (4, mI 136), (3, mI 2), (1, mI 26), (0, .ref (kB K + 2))]) (Nat.le_of_ble_eq_true rfl) rfl dX8_init_122 ?_
  refine gw_iinc hk.1.1 (lv' := [(3, mI 3), (2, mI 10631), (5, mI 116), (4, mI 136), (1, mI 26), (0, .ref (kB K + 2))]) 3 rfl (Nat.le_of_ble_eq_true rfl) rfl dX8_init_123 ?_
  refine gw_iinc hk.1.1 (lv' := [(4, mI 137), (3, mI 3), (2, mI 10631), (5, mI 116), (1, mI 26), (0, .ref (kB K + 2))]) 3 rfl (Nat.le_of_ble_eq_true rfl) rfl dX8_init_126 ?_
  refine gw_goto hk.1.1 dX8_init_129 ?_
  refine gw_iload hk.1.1 0 rfl dX8_init_57 ?_
  refine gc_ldcS hk dX8_init_59 ?_
  refine gc_jcall hk (st := [mI 137]) mf_J0_length_8abf5 (inT1 42 rfl rfl) (inT1 43 rfl rfl) (inT1 44 rfl rfl) (by decide) rfl (Nat.le_of_ble_eq_true rfl) rfl dX8_init_61 (met_len _) (by decide) (by decide) ?_
  refine gw_icmp_ge hk.1.1 (cIk rfl) (cIk rfl) dX8_init_64 (fun q => absurd q (by decide)) (fun _ => ?_)
  refine gw_iload_n hk.1.1 4 rfl dX8_init_67 ?_
  refine gw_bipush hk.1.1 (v := 30) rfl dX8_init_68 ?_
  refine gw_icmp_ge hk.1.1 (cIk rfl) (cIk rfl) dX8_init_70 (fun q => absurd q (by decide)) (fun _ => ?_)
  refine gc_ldcS hk dX8_init_73 ?_
  refine gw_iload hk.1.1 0 rfl dX8_init_75 ?_
  refine gc_jcall hk (st := []) mf_J0_charAt_5068e (inT1 52 rfl rfl) (inT1 53 rfl rfl) (inT1 54 rfl rfl) (by decide) rfl (Nat.le_of_ble_eq_true rfl) rfl dX8_init_77 (met_cha (i := 137) (x := 32) _ (cIk rfl) (by decide) (by decide) rfl) (by decide) (by decide) ?_
  refine gw_istore hk.1.1 (lv' := [(5, mI 32), (4, mI 137), (3, mI 3), (2, mI 10631), (1, mI 26), (0, .ref (kB K + 2))]) (Nat.le_of_ble_eq_true rfl) rfl dX8_init_80 ?_
  refine gw_iload hk.1.1 0 rfl dX8_init_82 ?_
  refine gw_bipush hk.1.1 (v := 32) rfl dX8_init_84 ?_
  refine gw_icmp_ne hk.1.1 (cIk rfl) (cIk rfl) dX8_init_86 (fun q => absurd q (by decide)) (fun _ => ?_)
  refine gw_aload_n hk.1.1 5 rfl dX8_init_89 ?_
  refine gc_get2 hk.1 (k := 7) (o := 2) fgc_X8_24 rfl kdC_2 (by omega) rfl rfl dX8_init_90 ?_
  refine gw_iload_n hk.1.1 4 rfl dX8_init_93 ?_
  refine gw_iload_n hk.1.1 3 rfl dX8_init_94 ?_
  refine gw_iload_n hk.1.1 2 rfl dX8_init_95 ?_
  refine gc_padded hk (st := [mI 26, .ref (kB K + 7)]) (a := 10631) (b := 3) (r := 209249973) (inT1 90 rfl rfl) (by decide +kernel) (cIk rfl) (cIk rfl) (by decide) (Nat.le_of_ble_eq_true rfl) (by decide) (by decide) dX8_init_96 ?_
  refine gc_iast hk.1 (a := 7) (v := 209249973) (cIk rfl) (by decide) (by decide) kdC_7 (by omega) dX8_init_99 ?_
  refine gw_iinc hk.1.1 (lv' := [(1, mI 27), (5, mI 32), (4, mI 137), (3, mI 3), (2, mI 10631), (0, .ref (kB K + 2))]) 4 rfl (Nat.le_of_ble_eq_true rfl) rfl dX8_init_100 ?_
  refine gw_iconst hk.1.1 (v := 0) rfl dX8_init_103 ?_
  refine gw_istore_n hk.1.1 rfl (lv' := [(2, mI 0), (1, mI 27), (5, mI 32), (4, mI 137), (3, mI 3), (0, .ref (kB K + 2))]) (Nat.le_of_ble_eq_true rfl) rfl dX8_init_104 ?_
  refine gw_iconst hk.1.1 (v := 0) rfl dX8_init_105 ?_
  refine gw_istore_n hk.1.1 rfl (lv' := [(3, mI 0), (2, mI 0), (1, mI 27), (5, mI 32), (4, mI 137), (0, .ref (kB K + 2))]) (Nat.le_of_ble_eq_true rfl) rfl dX8_init_106 ?_
  refine gw_goto hk.1.1 dX8_init_107 ?_
  refine gw_iinc hk.1.1 (lv' := [(4, mI 138), (3, mI 0), (2, mI 0), (1, mI 27), (5, mI 32), (0, .ref (kB K + 2))]) 4 rfl (Nat.le_of_ble_eq_true rfl) rfl dX8_init_126 ?_
  refine gw_goto hk.1.1 dX8_init_129 ?_
  refine gw_iload hk.1.1 0 rfl dX8_init_57 ?_
  refine gc_ldcS hk dX8_init_59 ?_
  refine gc_jcall hk (st := [mI 138]) mf_J0_length_8abf5 (inT1 42 rfl rfl) (inT1 43 rfl rfl) (inT1 44 rfl rfl) (by decide) rfl (Nat.le_of_ble_eq_true rfl) rfl dX8_init_61 (met_len _) (by decide) (by decide) ?_
  refine gw_icmp_ge hk.1.1 (cIk rfl) (cIk rfl) dX8_init_64 (fun q => absurd q (by decide)) (fun _ => ?_)
  refine gw_iload_n hk.1.1 3 rfl dX8_init_67 ?_
  refine gw_bipush hk.1.1 (v := 30) rfl dX8_init_68 ?_
  refine gw_icmp_ge hk.1.1 (cIk rfl) (cIk rfl) dX8_init_70 (fun q => absurd q (by decide)) (fun _ => ?_)
  refine gc_ldcS hk dX8_init_73 ?_
  refine gw_iload hk.1.1 0 rfl dX8_init_75 ?_
  refine gc_jcall hk (st := []) mf_J0_charAt_5068e (inT1 52 rfl rfl) (inT1 53 rfl rfl) (inT1 54 rfl rfl) (by decide) rfl (Nat.le_of_ble_eq_true rfl) rfl dX8_init_77 (met_cha (i := 138) (x := 97) _ (cIk rfl) (by decide) (by decide) rfl) (by decide) (by decide) ?_
  refine gw_istore hk.1.1 (lv' := [(5, mI 97), (4, mI 138), (3, mI 0), (2, mI 0), (1, mI 27), (0, .ref (kB K + 2))]) (Nat.le_of_ble_eq_true rfl) rfl dX8_init_80 ?_
  refine gw_iload hk.1.1 0 rfl dX8_init_82 ?_
  refine gw_bipush hk.1.1 (v := 32) rfl dX8_init_84 ?_
  refine gw_icmp_ne hk.1.1 (cIk rfl) (cIk rfl) dX8_init_86 (fun _ => ?_) (fun q => absurd (by decide) q)
  refine gw_iload_n hk.1.1 3 rfl dX8_init_110 ?_
  refine gw_bipush hk.1.1 (v := 27) rfl dX8_init_111 ?_
  refine gw_imul hk.1.1 dX8_init_113 ?_
  refine gw_iload hk.1.1 0 rfl dX8_init_114 ?_
  refine gw_iadd hk.1.1 dX8_init_116 ?_
  refine gw_bipush hk.1.1 (v := 97) rfl dX8_init_117 ?_
  refine gw_isub hk.1.1 dX8_init_119 ?_
  refine gw_iconst hk.1.1 (v := 1) rfl dX8_init_120 ?_
  refine gw_iadd hk.1.1 dX8_init_121 ?_
  refine gw_top (y := 1) (by decide) ?_
  refine gw_istore_n hk.1.1 rfl (lv' := [(2, mI 1), (5, mI 97), (4, mI 138), (3, mI 0), (1, mI 27), (0, .ref (kB K + 2))]) (Nat.le_of_ble_eq_true rfl) rfl dX8_init_122 ?_
  refine gw_iinc hk.1.1 (lv' := [(3, mI 1), (2, mI 1), (5, mI 97), (4, mI 138), (1, mI 27), (0, .ref (kB K + 2))]) 3 rfl (Nat.le_of_ble_eq_true rfl) rfl dX8_init_123 ?_
  refine gw_iinc hk.1.1 (lv' := [(4, mI 139), (3, mI 1), (2, mI 1), (5, mI 97), (1, mI 27), (0, .ref (kB K + 2))]) 3 rfl (Nat.le_of_ble_eq_true rfl) rfl dX8_init_126 ?_
  refine gw_goto hk.1.1 dX8_init_129 ?_
  refine gw_iload hk.1.1 0 rfl dX8_init_57 ?_
  refine gc_ldcS hk dX8_init_59 ?_
  refine gc_jcall hk (st := [mI 139]) mf_J0_length_8abf5 (inT1 42 rfl rfl) (inT1 43 rfl rfl) (inT1 44 rfl rfl) (by decide) rfl (Nat.le_of_ble_eq_true rfl) rfl dX8_init_61 (met_len _) (by decide) (by decide) ?_
  refine gw_icmp_ge hk.1.1 (cIk rfl) (cIk rfl) dX8_init_64 (fun q => absurd q (by decide)) (fun _ => ?_)
  refine gw_iload_n hk.1.1 4 rfl dX8_init_67 ?_
  refine gw_bipush hk.1.1 (v := 30) rfl dX8_init_68 ?_
  refine gw_icmp_ge hk.1.1 (cIk rfl) (cIk rfl) dX8_init_70 (fun q => absurd q (by decide)) (fun _ => ?_)
  refine gc_ldcS hk dX8_init_73 ?_
  refine gw_iload hk.1.1 0 rfl dX8_init_75 ?_
  refine gc_jcall hk (st := []) mf_J0_charAt_5068e (inT1 52 rfl rfl) (inT1 53 rfl rfl) (inT1 54 rfl rfl) (by decide) rfl (Nat.le_of_ble_eq_true rfl) rfl dX8_init_77 (met_cha (i := 139) (x := 108) _ (cIk rfl) (by decide) (by decide) rfl) (by decide) (by decide) ?_
  refine gw_istore hk.1.1 (lv' := [(5, mI 108), (4, mI 139), (3, mI 1), (2, mI 1), (1, mI 27), (0, .ref (kB K + 2))]) (Nat.le_of_ble_eq_true rfl) rfl dX8_init_80 ?_
  refine gw_iload hk.1.1 0 rfl dX8_init_82 ?_
  refine gw_bipush hk.1.1 (v := 32) rfl dX8_init_84 ?_
  refine gw_icmp_ne hk.1.1 (cIk rfl) (cIk rfl) dX8_init_86 (fun _ => ?_) (fun q => absurd (by decide) q)
  refine gw_iload_n hk.1.1 3 rfl dX8_init_110 ?_
  refine gw_bipush hk.1.1 (v := 27) rfl dX8_init_111 ?_
  refine gw_imul hk.1.1 dX8_init_113 ?_
  refine gw_iload hk.1.1 0 rfl dX8_init_114 ?_
  refine gw_iadd hk.1.1 dX8_init_116 ?_
  refine gw_bipush hk.1.1 (v := 97) rfl dX8_init_117 ?_
  refine gw_isub hk.1.1 dX8_init_119 ?_
  refine gw_iconst hk.1.1 (v := 1) rfl dX8_init_120 ?_
  refine gw_iadd hk.1.1 dX8_init_121 ?_
  refine gw_top (y := 39) (by decide) ?_
  refine gw_istore_n hk.1.1 rfl (lv' := [(2, mI 39), (5, mI 108), (4, mI 139), (3, mI 1), (1, mI 27), (0, .ref (kB K + 2))]) (Nat.le_of_ble_eq_true rfl) rfl dX8_init_122 ?_
  refine gw_iinc hk.1.1 (lv' := [(3, mI 2), (2, mI 39), (5, mI 108), (4, mI 139), (1, mI 27), (0, .ref (kB K + 2))]) 3 rfl (Nat.le_of_ble_eq_true rfl) rfl dX8_init_123 ?_
  refine gw_iinc hk.1.1 (lv' := [(4, mI 140), (3, mI 2), (2, mI 39), (5, mI 108), (1, mI 27), (0, .ref (kB K + 2))]) 3 rfl (Nat.le_of_ble_eq_true rfl) rfl dX8_init_126 ?_
  refine gw_goto hk.1.1 dX8_init_129 ?_
  refine gw_iload hk.1.1 0 rfl dX8_init_57 ?_
  refine gc_ldcS hk dX8_init_59 ?_
  refine gc_jcall hk (st := [mI 140]) mf_J0_length_8abf5 (inT1 42 rfl rfl) (inT1 43 rfl rfl) (inT1 44 rfl rfl) (by decide) rfl (Nat.le_of_ble_eq_true rfl) rfl dX8_init_61 (met_len _) (by decide) (by decide) ?_
  refine gw_icmp_ge hk.1.1 (cIk rfl) (cIk rfl) dX8_init_64 (fun q => absurd q (by decide)) (fun _ => ?_)
  refine gw_iload_n hk.1.1 4 rfl dX8_init_67 ?_
  refine gw_bipush hk.1.1 (v := 30) rfl dX8_init_68 ?_
  refine gw_icmp_ge hk.1.1 (cIk rfl) (cIk rfl) dX8_init_70 (fun q => absurd q (by decide)) (fun _ => ?_)
  refine gc_ldcS hk dX8_init_73 ?_
  refine gw_iload hk.1.1 0 rfl dX8_init_75 ?_
  refine gc_jcall hk (st := []) mf_J0_charAt_5068e (inT1 52 rfl rfl) (inT1 53 rfl rfl) (inT1 54 rfl rfl) (by decide) rfl (Nat.le_of_ble_eq_true rfl) rfl dX8_init_77 (met_cha (i := 140) (x := 108) _ (cIk rfl) (by decide) (by decide) rfl) (by decide) (by decide) ?_
  refine gw_istore hk.1.1 (lv' := [(5, mI 108), (4, mI 140), (3, mI 2), (2, mI 39), (1, mI 27), (0, .ref (kB K + 2))]) (Nat.le_of_ble_eq_true rfl) rfl dX8_init_80 ?_
  refine gw_iload hk.1.1 0 rfl dX8_init_82 ?_
  refine gw_bipush hk.1.1 (v := 32) rfl dX8_init_84 ?_
  refine gw_icmp_ne hk.1.1 (cIk rfl) (cIk rfl) dX8_init_86 (fun _ => ?_) (fun q => absurd (by decide) q)
  refine gw_iload_n hk.1.1 3 rfl dX8_init_110 ?_
  refine gw_bipush hk.1.1 (v := 27) rfl dX8_init_111 ?_
  refine gw_imul hk.1.1 dX8_init_113 ?_
  refine gw_iload hk.1.1 0 rfl dX8_init_114 ?_
  refine gw_iadd hk.1.1 dX8_init_116 ?_
  refine gw_bipush hk.1.1 (v := 97) rfl dX8_init_117 ?_
  refine gw_isub hk.1.1 dX8_init_119 ?_
  refine gw_iconst hk.1.1 (v := 1) rfl dX8_init_120 ?_
  refine gw_iadd hk.1.1 dX8_init_121 ?_
  refine gw_top (y := 1065) (by decide) ?_
  refine gw_istore_n hk.1.1 rfl (lv' := [(2, mI 1065), (5, mI 108), (4, mI 140), (3, mI 2), (1, mI 27), (0, .ref (kB K + 2))]) (Nat.le_of_ble_eq_true rfl) rfl dX8_init_122 ?_
  refine gw_iinc hk.1.1 (lv' := [(3, mI 3), (2, mI 1065), (5, mI 108), (4, mI 140), (1, mI 27), (0, .ref (kB K + 2))]) 3 rfl (Nat.le_of_ble_eq_true rfl) rfl dX8_init_123 ?_
  refine gw_iinc hk.1.1 (lv' := [(4, mI 141), (3, mI 3), (2, mI 1065), (5, mI 108), (1, mI 27), (0, .ref (kB K + 2))]) 3 rfl (Nat.le_of_ble_eq_true rfl) rfl dX8_init_126 ?_
  refine gw_goto hk.1.1 dX8_init_129 ?_
  refine gw_iload hk.1.1 0 rfl dX8_init_57 ?_
  refine gc_ldcS hk dX8_init_59 ?_
  refine gc_jcall hk (st := [mI 141]) mf_J0_length_8abf5 (inT1 42 rfl rfl) (inT1 43 rfl rfl) (inT1 44 rfl rfl) (by decide) rfl (Nat.le_of_ble_eq_true rfl) rfl dX8_init_61 (met_len _) (by decide) (by decide) ?_
  refine gw_icmp_ge hk.1.1 (cIk rfl) (cIk rfl) dX8_init_64 (fun q => absurd q (by decide)) (fun _ => ?_)
  refine gw_iload_n hk.1.1 4 rfl dX8_init_67 ?_
  refine gw_bipush hk.1.1 (v := 30) rfl dX8_init_68 ?_
  refine gw_icmp_ge hk.1.1 (cIk rfl) (cIk rfl) dX8_init_70 (fun q => absurd q (by decide)) (fun _ => ?_)
  refine gc_ldcS hk dX8_init_73 ?_
  refine gw_iload hk.1.1 0 rfl dX8_init_75 ?_
  refine gc_jcall hk (st := []) mf_J0_charAt_5068e (inT1 52 rfl rfl) (inT1 53 rfl rfl) (inT1 54 rfl rfl) (by decide) rfl (Nat.le_of_ble_eq_true rfl) rfl dX8_init_77 (met_cha (i := 141) (x := 32) _ (cIk rfl) (by decide) (by decide) rfl) (by decide) (by decide) ?_
  refine gw_istore hk.1.1 (lv' := [(5, mI 32), (4, mI 141), (3, mI 3), (2, mI 1065), (1, mI 27), (0, .ref (kB K + 2))]) (Nat.le_of_ble_eq_true rfl) rfl dX8_init_80 ?_
  refine gw_iload hk.1.1 0 rfl dX8_init_82 ?_
  refine gw_bipush hk.1.1 (v := 32) rfl dX8_init_84 ?_
  refine gw_icmp_ne hk.1.1 (cIk rfl) (cIk rfl) dX8_init_86 (fun q => absurd q (by decide)) (fun _ => ?_)
  refine gw_aload_n hk.1.1 5 rfl dX8_init_89 ?_
  refine gc_get2 hk.1 (k := 7) (o := 2) fgc_X8_24 rfl kdC_2 (by omega) rfl rfl dX8_init_90 ?_
  refine gw_iload_n hk.1.1 4 rfl dX8_init_93 ?_
  refine gw_iload_n hk.1.1 3 rfl dX8_init_94 ?_
  refine gw_iload_n hk.1.1 2 rfl dX8_init_95 ?_
  refine gc_padded hk (st := [mI 27, .ref (kB K + 7)]) (a := 1065) (b := 3) (r := 20962395) (inT1 90 rfl rfl) (by decide +kernel) (cIk rfl) (cIk rfl) (by decide) (Nat.le_of_ble_eq_true rfl) (by decide) (by decide) dX8_init_96 ?_
  refine gc_iast hk.1 (a := 7) (v := 20962395) (cIk rfl) (by decide) (by decide) kdC_7 (by omega) dX8_init_99 ?_
  refine gw_iinc hk.1.1 (lv' := [(1, mI 28), (5, mI 32), (4, mI 141), (3, mI 3), (2, mI 1065), (0, .ref (kB K + 2))]) 4 rfl (Nat.le_of_ble_eq_true rfl) rfl dX8_init_100 ?_
  refine gw_iconst hk.1.1 (v := 0) rfl dX8_init_103 ?_
  refine gw_istore_n hk.1.1 rfl (lv' := [(2, mI 0), (1, mI 28), (5, mI 32), (4, mI 141), (3, mI 3), (0, .ref (kB K + 2))]) (Nat.le_of_ble_eq_true rfl) rfl dX8_init_104 ?_
  refine gw_iconst hk.1.1 (v := 0) rfl dX8_init_105 ?_
  refine gw_istore_n hk.1.1 rfl (lv' := [(3, mI 0), (2, mI 0), (1, mI 28), (5, mI 32), (4, mI 141), (0, .ref (kB K + 2))]) (Nat.le_of_ble_eq_true rfl) rfl dX8_init_106 ?_
  refine gw_goto hk.1.1 dX8_init_107 ?_
  refine gw_iinc hk.1.1 (lv' := [(4, mI 142), (3, mI 0), (2, mI 0), (1, mI 28), (5, mI 32), (0, .ref (kB K + 2))]) 4 rfl (Nat.le_of_ble_eq_true rfl) rfl dX8_init_126 ?_
  refine gw_goto hk.1.1 dX8_init_129 ?_
  refine gw_iload hk.1.1 0 rfl dX8_init_57 ?_
  refine gc_ldcS hk dX8_init_59 ?_
  refine gc_jcall hk (st := [mI 142]) mf_J0_length_8abf5 (inT1 42 rfl rfl) (inT1 43 rfl rfl) (inT1 44 rfl rfl) (by decide) rfl (Nat.le_of_ble_eq_true rfl) rfl dX8_init_61 (met_len _) (by decide) (by decide) ?_
  refine gw_icmp_ge hk.1.1 (cIk rfl) (cIk rfl) dX8_init_64 (fun q => absurd q (by decide)) (fun _ => ?_)
  refine gw_iload_n hk.1.1 3 rfl dX8_init_67 ?_
  refine gw_bipush hk.1.1 (v := 30) rfl dX8_init_68 ?_
  refine gw_icmp_ge hk.1.1 (cIk rfl) (cIk rfl) dX8_init_70 (fun q => absurd q (by decide)) (fun _ => ?_)
  refine gc_ldcS hk dX8_init_73 ?_
  refine gw_iload hk.1.1 0 rfl dX8_init_75 ?_
  refine gc_jcall hk (st := []) mf_J0_charAt_5068e (inT1 52 rfl rfl) (inT1 53 rfl rfl) (inT1 54 rfl rfl) (by decide) rfl (Nat.le_of_ble_eq_true rfl) rfl dX8_init_77 (met_cha (i := 142) (x := 109) _ (cIk rfl) (by decide) (by decide) rfl) (by decide) (by decide) ?_
  refine gw_istore hk.1.1 (lv' := [(5, mI 109), (4, mI 142), (3, mI 0), (2, mI 0), (1, mI 28), (0, .ref (kB K + 2))]) (Nat.le_of_ble_eq_true rfl) rfl dX8_init_80 ?_
  refine gw_iload hk.1.1 0 rfl dX8_init_82 ?_
  refine gw_bipush hk.1.1 (v := 32) rfl dX8_init_84 ?_
  refine gw_icmp_ne hk.1.1 (cIk rfl) (cIk rfl) dX8_init_86 (fun _ => ?_) (fun q => absurd (by decide) q)
  refine gw_iload_n hk.1.1 3 rfl dX8_init_110 ?_
  refine gw_bipush hk.1.1 (v := 27) rfl dX8_init_111 ?_
  refine gw_imul hk.1.1 dX8_init_113 ?_
  refine gw_iload hk.1.1 0 rfl dX8_init_114 ?_
  refine gw_iadd hk.1.1 dX8_init_116 ?_
  refine gw_bipush hk.1.1 (v := 97) rfl dX8_init_117 ?_
  refine gw_isub hk.1.1 dX8_init_119 ?_
  refine gw_iconst hk.1.1 (v := 1) rfl dX8_init_120 ?_
  refine gw_iadd hk.1.1 dX8_init_121 ?_
  refine gw_top (y := 13) (by decide) ?_
  refine gw_istore_n hk.1.1 rfl (lv' := [(2, mI 13), (5, mI 109), (4, mI 142), (3, mI 0), (1, mI 28), (0, .ref (kB K + 2))]) (Nat.le_of_ble_eq_true rfl) rfl dX8_init_122 ?_
  refine gw_iinc hk.1.1 (lv' := [(3, mI 1), (2, mI 13), (5, mI 109), (4, mI 142), (1, mI 28), (0, .ref (kB K + 2))]) 3 rfl (Nat.le_of_ble_eq_true rfl) rfl dX8_init_123 ?_
  refine gw_iinc hk.1.1 (lv' := [(4, mI 143), (3, mI 1), (2, mI 13), (5, mI 109), (1, mI 28), (0, .ref (kB K + 2))]) 3 rfl (Nat.le_of_ble_eq_true rfl) rfl dX8_init_126 ?_
  refine gw_goto hk.1.1 dX8_init_129 ?_
  refine gw_iload hk.1.1 0 rfl dX8_init_57 ?_
  refine gc_ldcS hk dX8_init_59 ?_
  refine gc_jcall hk (st := [mI 143]) mf_J0_length_8abf5 (inT1 42 rfl rfl) (inT1 43 rfl rfl) (inT1 44 rfl rfl) (by decide) rfl (Nat.le_of_ble_eq_true rfl) rfl dX8_init_61 (met_len _) (by decide) (by decide) ?_
  refine gw_icmp_ge hk.1.1 (cIk rfl) (cIk rfl) dX8_init_64 (fun q => absurd q (by decide)) (fun _ => ?_)
  refine gw_iload_n hk.1.1 4 rfl dX8_init_67 ?_
  refine gw_bipush hk.1.1 (v := 30) rfl dX8_init_68 ?_
  refine gw_icmp_ge hk.1.1 (cIk rfl) (cIk rfl) dX8_init_70 (fun q => absurd q (by decide)) (fun _ => ?_)
  refine gc_ldcS hk dX8_init_73 ?_
  refine gw_iload hk.1.1 0 rfl dX8_init_75 ?_
  refine gc_jcall hk (st := []) mf_J0_charAt_5068e (inT1 52 rfl rfl) (inT1 53 rfl rfl) (inT1 54 rfl rfl) (by decide) rfl (Nat.le_of_ble_eq_true rfl) rfl dX8_init_77 (met_cha (i := 143) (x := 105) _ (cIk rfl) (by decide) (by decide) rfl) (by decide) (by decide) ?_
  refine gw_istore hk.1.1 (lv' := [(5, mI 105), (4, mI 143), (3, mI 1), (2, mI 13), (1, mI 28), (0, .ref (kB K + 2))]) (Nat.le_of_ble_eq_true rfl) rfl dX8_init_80 ?_
  refine gw_iload hk.1.1 0 rfl dX8_init_82 ?_
  refine gw_bipush hk.1.1 (v := 32) rfl dX8_init_84 ?_
  refine gw_icmp_ne hk.1.1 (cIk rfl) (cIk rfl) dX8_init_86 (fun _ => ?_) (fun q => absurd (by decide) q)
  refine gw_iload_n hk.1.1 3 rfl dX8_init_110 ?_
  refine gw_bipush hk.1.1 (v := 27) rfl dX8_init_111 ?_
  refine gw_imul hk.1.1 dX8_init_113 ?_
  refine gw_iload hk.1.1 0 rfl dX8_init_114 ?_
  refine gw_iadd hk.1.1 dX8_init_116 ?_
  refine gw_bipush hk.1.1 (v := 97) rfl dX8_init_117 ?_
  refine gw_isub hk.1.1 dX8_init_119 ?_
  refine gw_iconst hk.1.1 (v := 1) rfl dX8_init_120 ?_
  refine gw_iadd hk.1.1 dX8_init_121 ?_
  refine gw_top (y := 360) (by decide) ?_
  refine gw_istore_n hk.1.1 rfl (lv' := [(2, mI 360), (5, mI 105), (4, mI 143), (3, mI 1), (1, mI 28), (0, .ref (kB K + 2))]) (Nat.le_of_ble_eq_true rfl) rfl dX8_init_122 ?_
  refine gw_iinc hk.1.1 (lv' := [(3, mI 2), (2, mI 360), (5, mI 105), (4, mI 143), (1, mI 28), (0, .ref (kB K + 2))]) 3 rfl (Nat.le_of_ble_eq_true rfl) rfl dX8_init_123 ?_
  refine gw_iinc hk.1.1 (lv' := [(4, mI 144), (3, mI 2), (2, mI 360), (5, mI 105), (1, mI 28), (0, .ref (kB K + 2))]) 3 rfl (Nat.le_of_ble_eq_true rfl) rfl dX8_init_126 ?_
  refine gw_goto hk.1.1 dX8_init_129 ?_
  refine gw_iload hk.1.1 0 rfl dX8_init_57 ?_
  refine gc_ldcS hk dX8_init_59 ?_
  refine gc_jcall hk (st := [mI 144]) mf_J0_length_8abf5 (inT1 42 rfl rfl) (inT1 43 rfl rfl) (inT1 44 rfl rfl) (by decide) rfl (Nat.le_of_ble_eq_true rfl) rfl dX8_init_61 (met_len _) (by decide) (by decide) ?_
  refine gw_icmp_ge hk.1.1 (cIk rfl) (cIk rfl) dX8_init_64 (fun q => absurd q (by decide)) (fun _ => ?_)
  refine gw_iload_n hk.1.1 4 rfl dX8_init_67 ?_
  refine gw_bipush hk.1.1 (v := 30) rfl dX8_init_68 ?_
  refine gw_icmp_ge hk.1.1 (cIk rfl) (cIk rfl) dX8_init_70 (fun q => absurd q (by decide)) (fun _ => ?_)
  refine gc_ldcS hk dX8_init_73 ?_
  refine gw_iload hk.1.1 0 rfl dX8_init_75 ?_
  refine gc_jcall hk (st := []) mf_J0_charAt_5068e (inT1 52 rfl rfl) (inT1 53 rfl rfl) (inT1 54 rfl rfl) (by decide) rfl (Nat.le_of_ble_eq_true rfl) rfl dX8_init_77 (met_cha (i := 144) (x := 110) _ (cIk rfl) (by decide) (by decide) rfl) (by decide) (by decide) ?_
  refine gw_istore hk.1.1 (lv' := [(5, mI 110), (4, mI 144), (3, mI 2), (2, mI 360), (1, mI 28), (0, .ref (kB K + 2))]) (Nat.le_of_ble_eq_true rfl) rfl dX8_init_80 ?_
  refine gw_iload hk.1.1 0 rfl dX8_init_82 ?_
  refine gw_bipush hk.1.1 (v := 32) rfl dX8_init_84 ?_
  refine gw_icmp_ne hk.1.1 (cIk rfl) (cIk rfl) dX8_init_86 (fun _ => ?_) (fun q => absurd (by decide) q)
  refine gw_iload_n hk.1.1 3 rfl dX8_init_110 ?_
  refine gw_bipush hk.1.1 (v := 27) rfl dX8_init_111 ?_
  refine gw_imul hk.1.1 dX8_init_113 ?_
  refine gw_iload hk.1.1 0 rfl dX8_init_114 ?_
  refine gw_iadd hk.1.1 dX8_init_116 ?_
  refine gw_bipush hk.1.1 (v := 97) rfl dX8_init_117 ?_
  refine gw_isub hk.1.1 dX8_init_119 ?_
  refine gw_iconst hk.1.1 (v := 1) rfl dX8_init_120 ?_
  refine gw_iadd hk.1.1 dX8_init_121 ?_
  refine gw_top (y := 9734) (by decide) ?_
  refine gw_istore_n hk.1.1 rfl (lv' := [(2, mI 9734), (5, mI 110), (4, mI 144), (3, mI 2), (1, mI 28), (0, .ref (kB K + 2))]) (Nat.le_of_ble_eq_true rfl) rfl dX8_init_122 ?_
  refine gw_iinc hk.1.1 (lv' := [(3, mI 3), (2, mI 9734), (5, mI 110), (4, mI 144), (1, mI 28), (0, .ref (kB K + 2))]) 3 rfl (Nat.le_of_ble_eq_true rfl) rfl dX8_init_123 ?_
  refine gw_iinc hk.1.1 (lv' := [(4, mI 145), (3, mI 3), (2, mI 9734), (5, mI 110), (1, mI 28), (0, .ref (kB K + 2))]) 3 rfl (Nat.le_of_ble_eq_true rfl) rfl dX8_init_126 ?_
  refine gw_goto hk.1.1 dX8_init_129 ?_
  refine gw_iload hk.1.1 0 rfl dX8_init_57 ?_
  refine gc_ldcS hk dX8_init_59 ?_
  refine gc_jcall hk (st := [mI 145]) mf_J0_length_8abf5 (inT1 42 rfl rfl) (inT1 43 rfl rfl) (inT1 44 rfl rfl) (by decide) rfl (Nat.le_of_ble_eq_true rfl) rfl dX8_init_61 (met_len _) (by decide) (by decide) ?_
  refine gw_icmp_ge hk.1.1 (cIk rfl) (cIk rfl) dX8_init_64 (fun q => absurd q (by decide)) (fun _ => ?_)
  refine gw_iload_n hk.1.1 4 rfl dX8_init_67 ?_
  refine gw_bipush hk.1.1 (v := 30) rfl dX8_init_68 ?_
  refine gw_icmp_ge hk.1.1 (cIk rfl) (cIk rfl) dX8_init_70 (fun q => absurd q (by decide)) (fun _ => ?_)
  refine gc_ldcS hk dX8_init_73 ?_
  refine gw_iload hk.1.1 0 rfl dX8_init_75 ?_
  refine gc_jcall hk (st := []) mf_J0_charAt_5068e (inT1 52 rfl rfl) (inT1 53 rfl rfl) (inT1 54 rfl rfl) (by decide) rfl (Nat.le_of_ble_eq_true rfl) rfl dX8_init_77 (met_cha (i := 145) (x := 32) _ (cIk rfl) (by decide) (by decide) rfl) (by decide) (by decide) ?_
  refine gw_istore hk.1.1 (lv' := [(5, mI 32), (4, mI 145), (3, mI 3), (2, mI 9734), (1, mI 28), (0, .ref (kB K + 2))]) (Nat.le_of_ble_eq_true rfl) rfl dX8_init_80 ?_
  refine gw_iload hk.1.1 0 rfl dX8_init_82 ?_
  refine gw_bipush hk.1.1 (v := 32) rfl dX8_init_84 ?_
  refine gw_icmp_ne hk.1.1 (cIk rfl) (cIk rfl) dX8_init_86 (fun q => absurd q (by decide)) (fun _ => ?_)
  refine gw_aload_n hk.1.1 5 rfl dX8_init_89 ?_
  refine gc_get2 hk.1 (k := 7) (o := 2) fgc_X8_24 rfl kdC_2 (by omega) rfl rfl dX8_init_90 ?_
  refine gw_iload_n hk.1.1 4 rfl dX8_init_93 ?_
  refine gw_iload_n hk.1.1 3 rfl dX8_init_94 ?_
  refine gw_iload_n hk.1.1 2 rfl dX8_init_95 ?_
  refine gc_padded hk (st := [mI 28, .ref (kB K + 7)]) (a := 9734) (b := 3) (r := 191594322) (inT1 90 rfl rfl) (by decide +kernel) (cIk rfl) (cIk rfl) (by decide) (Nat.le_of_ble_eq_true rfl) (by decide) (by decide) dX8_init_96 ?_
  refine gc_iast hk.1 (a := 7) (v := 191594322) (cIk rfl) (by decide) (by decide) kdC_7 (by omega) dX8_init_99 ?_
  refine gw_iinc hk.1.1 (lv' := [(1, mI 29), (5, mI 32), (4, mI 145), (3, mI 3), (2, mI 9734), (0, .ref (kB K + 2))]) 4 rfl (Nat.le_of_ble_eq_true rfl) rfl dX8_init_100 ?_
  refine gw_iconst hk.1.1 (v := 0) rfl dX8_init_103 ?_
  refine gw_istore_n hk.1.1 rfl (lv' := [(2, mI 0), (1, mI 29), (5, mI 32), (4, mI 145), (3, mI 3), (0, .ref (kB K + 2))]) (Nat.le_of_ble_eq_true rfl) rfl dX8_init_104 ?_
  refine gw_iconst hk.1.1 (v := 0) rfl dX8_init_105 ?_
  refine gw_istore_n hk.1.1 rfl (lv' := [(3, mI 0), (2, mI 0), (1, mI 29), (5, mI 32), (4, mI 145), (0, .ref (kB K + 2))]) (Nat.le_of_ble_eq_true rfl) rfl dX8_init_106 ?_
  refine gw_goto hk.1.1 dX8_init_107 ?_
  refine gw_iinc hk.1.1 (lv' := [(4, mI 146), (3, mI 0), (2, mI 0), (1, mI 29), (5, mI 32), (0, .ref (kB K + 2))]) 4 rfl (Nat.le_of_ble_eq_true rfl) rfl dX8_init_126 ?_
  refine gw_goto hk.1.1 dX8_init_129 ?_
  refine gw_iload hk.1.1 0 rfl dX8_init_57 ?_
  refine gc_ldcS hk dX8_init_59 ?_
  refine gc_jcall hk (st := [mI 146]) mf_J0_length_8abf5 (inT1 42 rfl rfl) (inT1 43 rfl rfl) (inT1 44 rfl rfl) (by decide) rfl (Nat.le_of_ble_eq_true rfl) rfl dX8_init_61 (met_len _) (by decide) (by decide) ?_
  refine gw_icmp_ge hk.1.1 (cIk rfl) (cIk rfl) dX8_init_64 (fun q => absurd q (by decide)) (fun _ => ?_)
  refine gw_iload_n hk.1.1 3 rfl dX8_init_67 ?_
  refine gw_bipush hk.1.1 (v := 30) rfl dX8_init_68 ?_
  refine gw_icmp_ge hk.1.1 (cIk rfl) (cIk rfl) dX8_init_70 (fun q => absurd q (by decide)) (fun _ => ?_)
  refine gc_ldcS hk dX8_init_73 ?_
  refine gw_iload hk.1.1 0 rfl dX8_init_75 ?_
  refine gc_jcall hk (st := []) mf_J0_charAt_5068e (inT1 52 rfl rfl) (inT1 53 rfl rfl) (inT1 54 rfl rfl) (by decide) rfl (Nat.le_of_ble_eq_true rfl) rfl dX8_init_77 (met_cha (i := 146) (x := 109) _ (cIk rfl) (by decide) (by decide) rfl) (by decide) (by decide) ?_
  refine gw_istore hk.1.1 (lv' := [(5, mI 109), (4, mI 146), (3, mI 0), (2, mI 0), (1, mI 29), (0, .ref (kB K + 2))]) (Nat.le_of_ble_eq_true rfl) rfl dX8_init_80 ?_
  refine gw_iload hk.1.1 0 rfl dX8_init_82 ?_
  refine gw_bipush hk.1.1 (v := 32) rfl dX8_init_84 ?_
  refine gw_icmp_ne hk.1.1 (cIk rfl) (cIk rfl) dX8_init_86 (fun _ => ?_) (fun q => absurd (by decide) q)
  refine gw_iload_n hk.1.1 3 rfl dX8_init_110 ?_
  refine gw_bipush hk.1.1 (v := 27) rfl dX8_init_111 ?_
  refine gw_imul hk.1.1 dX8_init_113 ?_
  refine gw_iload hk.1.1 0 rfl dX8_init_114 ?_
  refine gw_iadd hk.1.1 dX8_init_116 ?_
  refine gw_bipush hk.1.1 (v := 97) rfl dX8_init_117 ?_
  refine gw_isub hk.1.1 dX8_init_119 ?_
  refine gw_iconst hk.1.1 (v := 1) rfl dX8_init_120 ?_
  refine gw_iadd hk.1.1 dX8_init_121 ?_
  refine gw_top (y := 13) (by decide) ?_
  refine gw_istore_n hk.1.1 rfl (lv' := [(2, mI 13), (5, mI 109), (4, mI 146), (3, mI 0), (1, mI 29), (0, .ref (kB K + 2))]) (Nat.le_of_ble_eq_true rfl) rfl dX8_init_122 ?_
  refine gw_iinc hk.1.1 (lv' := [(3, mI 1), (2, mI 13), (5, mI 109), (4, mI 146), (1, mI 29), (0, .ref (kB K + 2))]) 3 rfl (Nat.le_of_ble_eq_true rfl) rfl dX8_init_123 ?_
  refine gw_iinc hk.1.1 (lv' := [(4, mI 147), (3, mI 1), (2, mI 13), (5, mI 109), (1, mI 29), (0, .ref (kB K + 2))]) 3 rfl (Nat.le_of_ble_eq_true rfl) rfl dX8_init_126 ?_
  refine gw_goto hk.1.1 dX8_init_129 ?_
  refine gw_iload hk.1.1 0 rfl dX8_init_57 ?_
  refine gc_ldcS hk dX8_init_59 ?_
  refine gc_jcall hk (st := [mI 147]) mf_J0_length_8abf5 (inT1 42 rfl rfl) (inT1 43 rfl rfl) (inT1 44 rfl rfl) (by decide) rfl (Nat.le_of_ble_eq_true rfl) rfl dX8_init_61 (met_len _) (by decide) (by decide) ?_
  refine gw_icmp_ge hk.1.1 (cIk rfl) (cIk rfl) dX8_init_64 (fun q => absurd q (by decide)) (fun _ => ?_)
  refine gw_iload_n hk.1.1 4 rfl dX8_init_67 ?_
  refine gw_bipush hk.1.1 (v := 30) rfl dX8_init_68 ?_
  refine gw_icmp_ge hk.1.1 (cIk rfl) (cIk rfl) dX8_init_70 (fun q => absurd q (by decide)) (fun _ => ?_)
  refine gc_ldcS hk dX8_init_73 ?_
  refine gw_iload hk.1.1 0 rfl dX8_init_75 ?_
  refine gc_jcall hk (st := []) mf_J0_charAt_5068e (inT1 52 rfl rfl) (inT1 53 rfl rfl) (inT1 54 rfl rfl) (by decide) rfl (Nat.le_of_ble_eq_true rfl) rfl dX8_init_77 (met_cha (i := 147) (x := 97) _ (cIk rfl) (by decide) (by decide) rfl) (by decide) (by decide) ?_
  refine gw_istore hk.1.1 (lv' := [(5, mI 97), (4, mI 147), (3, mI 1), (2, mI 13), (1, mI 29), (0, .ref (kB K + 2))]) (Nat.le_of_ble_eq_true rfl) rfl dX8_init_80 ?_
  refine gw_iload hk.1.1 0 rfl dX8_init_82 ?_
  refine gw_bipush hk.1.1 (v := 32) rfl dX8_init_84 ?_
  refine gw_icmp_ne hk.1.1 (cIk rfl) (cIk rfl) dX8_init_86 (fun _ => ?_) (fun q => absurd (by decide) q)
  refine gw_iload_n hk.1.1 3 rfl dX8_init_110 ?_
  refine gw_bipush hk.1.1 (v := 27) rfl dX8_init_111 ?_
  refine gw_imul hk.1.1 dX8_init_113 ?_
  refine gw_iload hk.1.1 0 rfl dX8_init_114 ?_
  refine gw_iadd hk.1.1 dX8_init_116 ?_
  refine gw_bipush hk.1.1 (v := 97) rfl dX8_init_117 ?_
  refine gw_isub hk.1.1 dX8_init_119 ?_
  refine gw_iconst hk.1.1 (v := 1) rfl dX8_init_120 ?_
  refine gw_iadd hk.1.1 dX8_init_121 ?_
  refine gw_top (y := 352) (by decide) ?_
  refine gw_istore_n hk.1.1 rfl (lv' := [(2, mI 352), (5, mI 97), (4, mI 147), (3, mI 1), (1, mI 29), (0, .ref (kB K + 2))]) (Nat.le_of_ble_eq_true rfl) rfl dX8_init_122 ?_
  refine gw_iinc hk.1.1 (lv' := [(3, mI 2), (2, mI 352), (5, mI 97), (4, mI 147), (1, mI 29), (0, .ref (kB K + 2))]) 3 rfl (Nat.le_of_ble_eq_true rfl) rfl dX8_init_123 ?_
  refine gw_iinc hk.1.1 (lv' := [(4, mI 148), (3, mI 2), (2, mI 352), (5, mI 97), (1, mI 29), (0, .ref (kB K + 2))]) 3 rfl (Nat.le_of_ble_eq_true rfl) rfl dX8_init_126 ?_
  refine gw_goto hk.1.1 dX8_init_129 ?_
  refine gw_iload hk.1.1 0 rfl dX8_init_57 ?_
  refine gc_ldcS hk dX8_init_59 ?_
  refine gc_jcall hk (st := [mI 148]) mf_J0_length_8abf5 (inT1 42 rfl rfl) (inT1 43 rfl rfl) (inT1 44 rfl rfl) (by decide) rfl (Nat.le_of_ble_eq_true rfl) rfl dX8_init_61 (met_len _) (by decide) (by decide) ?_
  refine gw_icmp_ge hk.1.1 (cIk rfl) (cIk rfl) dX8_init_64 (fun q => absurd q (by decide)) (fun _ => ?_)
  refine gw_iload_n hk.1.1 4 rfl dX8_init_67 ?_
  refine gw_bipush hk.1.1 (v := 30) rfl dX8_init_68 ?_
  refine gw_icmp_ge hk.1.1 (cIk rfl) (cIk rfl) dX8_init_70 (fun q => absurd q (by decide)) (fun _ => ?_)
  refine gc_ldcS hk dX8_init_73 ?_
  refine gw_iload hk.1.1 0 rfl dX8_init_75 ?_
  refine gc_jcall hk (st := []) mf_J0_charAt_5068e (inT1 52 rfl rfl) (inT1 53 rfl rfl) (inT1 54 rfl rfl) (by decide) rfl (Nat.le_of_ble_eq_true rfl) rfl dX8_init_77 (met_cha (i := 148) (x := 120) _ (cIk rfl) (by decide) (by decide) rfl) (by decide) (by decide) ?_
  refine gw_istore hk.1.1 (lv' := [(5, mI 120), (4, mI 148), (3, mI 2), (2, mI 352), (1, mI 29), (0, .ref (kB K + 2))]) (Nat.le_of_ble_eq_true rfl) rfl dX8_init_80 ?_
  refine gw_iload hk.1.1 0 rfl dX8_init_82 ?_
  refine gw_bipush hk.1.1 (v := 32) rfl dX8_init_84 ?_
  refine gw_icmp_ne hk.1.1 (cIk rfl) (cIk rfl) dX8_init_86 (fun _ => ?_) (fun q => absurd (by decide) q)
  refine gw_iload_n hk.1.1 3 rfl dX8_init_110 ?_
  refine gw_bipush hk.1.1 (v := 27) rfl dX8_init_111 ?_
  refine gw_imul hk.1.1 dX8_init_113 ?_
  refine gw_iload hk.1.1 0 rfl dX8_init_114 ?_
  refine gw_iadd hk.1.1 dX8_init_116 ?_
  refine gw_bipush hk.1.1 (v := 97) rfl dX8_init_117 ?_
  refine gw_isub hk.1.1 dX8_init_119 ?_
  refine gw_iconst hk.1.1 (v := 1) rfl dX8_init_120 ?_
  refine gw_iadd hk.1.1 dX8_init_121 ?_
  refine gw_top (y := 9528) (by decide) ?_
  refine gw_istore_n hk.1.1 rfl (lv' := [(2, mI 9528), (5, mI 120), (4, mI 148), (3, mI 2), (1, mI 29), (0, .ref (kB K + 2))]) (Nat.le_of_ble_eq_true rfl) rfl dX8_init_122 ?_
  refine gw_iinc hk.1.1 (lv' := [(3, mI 3), (2, mI 9528), (5, mI 120), (4, mI 148), (1, mI 29), (0, .ref (kB K + 2))]) 3 rfl (Nat.le_of_ble_eq_true rfl) rfl dX8_init_123 ?_
  refine gw_iinc hk.1.1 (lv' := [(4, mI 149), (3, mI 3), (2, mI 9528), (5, mI 120), (1, mI 29), (0, .ref (kB K + 2))]) 3 rfl (Nat.le_of_ble_eq_true rfl) rfl dX8_init_126 ?_
  refine gw_goto hk.1.1 dX8_init_129 ?_
  refine gw_iload hk.1.1 0 rfl dX8_init_57 ?_
  refine gc_ldcS hk dX8_init_59 ?_
  refine gc_jcall hk (st := [mI 149]) mf_J0_length_8abf5 (inT1 42 rfl rfl) (inT1 43 rfl rfl) (inT1 44 rfl rfl) (by decide) rfl (Nat.le_of_ble_eq_true rfl) rfl dX8_init_61 (met_len _) (by decide) (by decide) ?_
  refine gw_icmp_ge hk.1.1 (cIk rfl) (cIk rfl) dX8_init_64 (fun q => absurd q (by decide)) (fun _ => ?_)
  refine gw_iload_n hk.1.1 4 rfl dX8_init_67 ?_
  refine gw_bipush hk.1.1 (v := 30) rfl dX8_init_68 ?_
  refine gw_icmp_ge hk.1.1 (cIk rfl) (cIk rfl) dX8_init_70 (fun q => absurd q (by decide)) (fun _ => ?_)
  refine gc_ldcS hk dX8_init_73 ?_
  refine gw_iload hk.1.1 0 rfl dX8_init_75 ?_
  refine gc_jcall hk (st := []) mf_J0_charAt_5068e (inT1 52 rfl rfl) (inT1 53 rfl rfl) (inT1 54 rfl rfl) (by decide) rfl (Nat.le_of_ble_eq_true rfl) rfl dX8_init_77 (met_cha (i := 149) (x := 32) _ (cIk rfl) (by decide) (by decide) rfl) (by decide) (by decide) ?_
  refine gw_istore hk.1.1 (lv' := [(5, mI 32), (4, mI 149), (3, mI 3), (2, mI 9528), (1, mI 29), (0, .ref (kB K + 2))]) (Nat.le_of_ble_eq_true rfl) rfl dX8_init_80 ?_
  refine gw_iload hk.1.1 0 rfl dX8_init_82 ?_
  refine gw_bipush hk.1.1 (v := 32) rfl dX8_init_84 ?_
  refine gw_icmp_ne hk.1.1 (cIk rfl) (cIk rfl) dX8_init_86 (fun q => absurd q (by decide)) (fun _ => ?_)
  refine gw_aload_n hk.1.1 5 rfl dX8_init_89 ?_
  refine gc_get2 hk.1 (k := 7) (o := 2) fgc_X8_24 rfl kdC_2 (by omega) rfl rfl dX8_init_90 ?_
  refine gw_iload_n hk.1.1 4 rfl dX8_init_93 ?_
  refine gw_iload_n hk.1.1 3 rfl dX8_init_94 ?_
  refine gw_iload_n hk.1.1 2 rfl dX8_init_95 ?_
  refine gc_padded hk (st := [mI 29, .ref (kB K + 7)]) (a := 9528) (b := 3) (r := 187539624) (inT1 90 rfl rfl) (by decide +kernel) (cIk rfl) (cIk rfl) (by decide) (Nat.le_of_ble_eq_true rfl) (by decide) (by decide) dX8_init_96 ?_
  refine gc_iast hk.1 (a := 7) (v := 187539624) (cIk rfl) (by decide) (by decide) kdC_7 (by omega) dX8_init_99 ?_
  refine gw_iinc hk.1.1 (lv' := [(1, mI 30), (5, mI 32), (4, mI 149), (3, mI 3), (2, mI 9528), (0, .ref (kB K + 2))]) 4 rfl (Nat.le_of_ble_eq_true rfl) rfl dX8_init_100 ?_
  refine gw_iconst hk.1.1 (v := 0) rfl dX8_init_103 ?_
  refine gw_istore_n hk.1.1 rfl (lv' := [(2, mI 0), (1, mI 30), (5, mI 32), (4, mI 149), (3, mI 3), (0, .ref (kB K + 2))]) (Nat.le_of_ble_eq_true rfl) rfl dX8_init_104 ?_
  refine gw_iconst hk.1.1 (v := 0) rfl dX8_init_105 ?_
  refine gw_istore_n hk.1.1 rfl (lv' := [(3, mI 0), (2, mI 0), (1, mI 30), (5, mI 32), (4, mI 149), (0, .ref (kB K + 2))]) (Nat.le_of_ble_eq_true rfl) rfl dX8_init_106 ?_
  refine gw_goto hk.1.1 dX8_init_107 ?_
  refine gw_iinc hk.1.1 (lv' := [(4, mI 150), (3, mI 0), (2, mI 0), (1, mI 30), (5, mI 32), (0, .ref (kB K + 2))]) 4 rfl (Nat.le_of_ble_eq_true rfl) rfl dX8_init_126 ?_
  refine gw_goto hk.1.1 dX8_init_129 ?_
  refine gw_iload hk.1.1 0 rfl dX8_init_57 ?_
  refine gc_ldcS hk dX8_init_59 ?_
  refine gc_jcall hk (st := [mI 150]) mf_J0_length_8abf5 (inT1 42 rfl rfl) (inT1 43 rfl rfl) (inT1 44 rfl rfl) (by decide) rfl (Nat.le_of_ble_eq_true rfl) rfl dX8_init_61 (met_len _) (by decide) (by decide) ?_
  refine gw_icmp_ge hk.1.1 (cIk rfl) (cIk rfl) dX8_init_64 (fun _ => ?_) (fun q => absurd (by decide) q)
  exact gc_return hk.1 dX8_init_132
def ctPa (m : zM) : zM := upm (upm (ctTa m) 1 0 1) 1 2 (-1)
set_option maxRecDepth 100000 in
set_option maxHeartbeats 40000000 in
theorem ct_ctPa (l : Launch) (D : va_G) (aC : Nat → ClassId) (B : Nat) {m : zM} {S V : Nat} (hz : ∀ id, 1 + 1 ≤ id → m id = fun _ => 0) : zCt l yX5_init cX5_init 1 6 6 6442 D aC B kdC 1 8 m (ctPa m) S V := by
  refine zCt.of mf_X5_init rfl (by decide) hz (fun K e1 e2 e3 e4 hk => ?_)
  subst e1 e2 e3 e4
  refine gw_aload_n hk.1.1 0 rfl dX5_init_0 ?_
  refine gc_obj hk.1 (inT1 34 rfl rfl) wObI wObC (by decide) dX5_init_1 ?_
  refine gw_aload_n hk.1.1 0 rfl dX5_init_4 ?_
  refine gc_new hk.1 (ci := 8) (C := RX8) (T := TX8) tyX8 rfl inX8 tyX8_ok dfX8 (inT1 35 rfl rfl) (inT1 36 rfl rfl) (inT1 3 rfl rfl) kdC_2 (by decide) (by decide) dX5_init_5 ?_
  refine gw_dup hk.1.1 rfl dX5_init_8 ?_
  refine gc_initS hk (st := [.ref (kB K + 2), .ref (kB K + 1)]) (o := 2) mf_X8_init rfl rfl (inT1 37 rfl rfl) (inT1 38 rfl rfl) (by decide) (Nat.le_of_ble_eq_true rfl) (by decide) (by decide) rfl dX5_init_9 (fun hz => ct_ctTa _ _ _ _ hz) ?_
  refine gc_putF hk.1 (ci := 5) (C := RX5) (T := TX5) (ty := (.object "BeastsChoose$Tape")) (k := 0) (o := 1) tyX5 rfl inX5 (Nat.le_of_ble_eq_true rfl) (inT1 134 rfl rfl) tyX5_ok nmX5 rfl rfl (by decide +kernel) kdC_1 (by omega) rfl rfl (fun _ => rfl) (fun _ => rfl) dX5_init_12 ?_
  refine gw_aload_n hk.1.1 0 rfl dX5_init_15 ?_
  refine gw_iconst hk.1.1 (v := (-1)) rfl dX5_init_16 ?_
  refine gc_putv hk.1 (k := 2) (o := 1) (v := (-1)) fpc_X5_18 kdC_1 (by omega) (fun f => by unfold zfv; rw [sets_eq]; rfl) (vp_nar_int _) rfl dX5_init_17 ?_
  exact gc_return hk.1 dX5_init_20
