set_option maxRecDepth 100000 in
set_option maxHeartbeats 4000000 in
theorem w_C_refuse {K : zK} (hk : zOk K kdC cX11_refuse 2 (some .int) RX11 0)  {x1 : Int} {m : zM} {o : Int × zM}  (hm : zG kdC m) (cx1 : cI x1) (h : C_refuse x1 m = some o) : GoAt K m [(0, .ref (kB K + 0)), (1, mI x1)] [] 0 (0, o.1, o.2) := by
  unfold C_refuse at h
  refine g_aload_n hk 0 rfl dX11_refuse_0 ?_
  refine g_get2 hk fl_X11_77 rfl kdC_0 hm (b := 54) rfl dX11_refuse_1 ?_
  refine g_iload_n hk 1 rfl dX11_refuse_4 ?_
  refine g_dup2 hk rfl rfl dX11_refuse_5 ?_
  refine g_iald hk cx1 kdC_54 hm dX11_refuse_6 h (fun y1 cy1 h => ?_)
  refine g_iconst hk (v := 1) rfl dX11_refuse_7 ?_
  refine g_iadd hk dX11_refuse_8 ?_
  refine g_iast hk cx1 (wI_c _) kdC_54 hm dX11_refuse_9 h (fun m2 hm h => ?_)
  refine g_iconst hk (v := (-1)) rfl dX11_refuse_10 ?_
  exact g_ireturn hk (cIk rfl) dX11_refuse_11 (by cases h; rfl)
theorem met_C_refuse (l : Launch) (D : va_G) (aC : Nat → ClassId) (B N : Nat) (hwd : ∀ id, (kdC id).1 ≠ 9 → id < N) {x1 : Int} {m : zM} {o : Int × zM} (hm : zG kdC m) (cx1 : cI x1) (h : C_refuse x1 m = some o) : zMet l yX11_refuse cX11_refuse 2 (some .int) 0 D aC B kdC N [.ref (B + 0), mI x1] m (0, o.1, o.2) := by
  refine zMet.of mf_X11_refuse hwd hm (Nat.le_of_ble_eq_true rfl) (fun K e1 e2 e3 e4 e5 hk => ?_)
  subst e4
  exact w_C_refuse hk hm cx1 h
set_option maxRecDepth 100000 in
set_option maxHeartbeats 4000000 in
theorem w_Ta_put_B3 {K : zK} (hk : zOk K kdC cX8_put 3 none RX8 0) {rec : Int → Int → zM → Option (zM)} {x1 : Int} {x2 : Int} {m : zM} {o : zM} (hrec : ∀ (x1 : Int) (x2 : Int) (m : zM), zG kdC m → cI x1 → cI x2 → rec x1 x2 m = some o → GoAt K m [(0, .ref (kB K + 2)), (1, mI x1), (2, mI x2)] [] 3 (9, 0, o)) (hm : zG kdC m) (cx1 : cI x1) (cx2 : cI x2) (h : Ta_put_B3 rec x1 x2 m = some o) : GoAt K m [(0, .ref (kB K + 2)), (1, mI x1), (2, mI x2)] [] 3 (9, 0, o) := by
  unfold Ta_put_B3 at h
  refine g_iload_n hk 2 rfl dX8_put_3 ?_
  refine g_if_lt hk cx2 dX8_put_4 h (fun b1 h => ?_) (fun b1 h => ?_)
  · exact g_return hk dX8_put_49 (by cases h; rfl)
  · refine g_aload_n hk 0 rfl dX8_put_7 ?_
    have g2 := zGI (i := 1) hm kdC_2 rfl
    refine g_get0 hk fl_X8_43 rfl (j := 1) rfl kdC_2 dX8_put_8 ?_
    refine g_sipush hk (v := 1600) rfl dX8_put_11 ?_
    refine g_icmp_ge hk g2 (cIk rfl) dX8_put_14 h (fun b3 h => ?_) (fun b3 h => ?_)
    · refine g_aload_n hk 0 rfl dX8_put_17 ?_
      refine g_get2 hk fl_X8_11 rfl kdC_2 hm (b := 3) rfl dX8_put_18 ?_
      refine g_aload_n hk 0 rfl dX8_put_21 ?_
      have g4 := zGI (i := 1) hm kdC_2 rfl
      refine g_get0 hk fl_X8_43 rfl (j := 1) rfl kdC_2 dX8_put_22 ?_
      refine g_iload_n hk 1 rfl dX8_put_25 ?_
      refine g_iload_n hk 2 rfl dX8_put_26 ?_
      refine g_iushr hk dX8_put_27 ?_
      refine g_sipush hk (v := 255) rfl dX8_put_28 ?_
      refine g_iand hk dX8_put_31 ?_
      refine g_iast hk g4 (cI_t _) kdC_3 hm dX8_put_32 h (fun m5 hm h => ?_)
      refine g_aload_n hk 0 rfl dX8_put_33 ?_
      refine g_dup hk rfl dX8_put_34 ?_
      have g6 := zGI (i := 1) hm kdC_2 rfl
      refine g_get0 hk fl_X8_43 rfl (j := 1) rfl kdC_2 dX8_put_35 ?_
      refine g_iconst hk (v := 1) rfl dX8_put_38 ?_
      refine g_iadd hk dX8_put_39 ?_
      refine g_put0 hk fp_X8_43 rfl (j := 1) rfl kdC_2 (wI_c _) dX8_put_40 h hm (fun m7 hm h => ?_)
      refine g_iinc hk (lv' := [(2, mI (wI (x2 + (-8)))), (0, .ref (kB K + 2)), (1, mI x1)]) 2 rfl (Nat.le_of_ble_eq_true rfl) rfl dX8_put_43 ?_
      refine g_goto hk dX8_put_46 ?_
      refine GoAt.sub [1, 2, 0] rfl ?_
      exact hrec _ _ _ hm cx1 (wI_c _) h
    · exact g_return hk dX8_put_49 (by cases h; rfl)
theorem w_Ta_put_L3 {K : zK} (hk : zOk K kdC cX8_put 3 none RX8 0)  {o : zM}  : ∀ (n : Nat) (x1 : Int) (x2 : Int) (m : zM), zG kdC m → cI x1 → cI x2 → Ta_put_L3 n x1 x2 m = some o → GoAt K m [(0, .ref (kB K + 2)), (1, mI x1), (2, mI x2)] [] 3 (9, 0, o)
  | 0, x1, x2, m, hm, cx1, cx2, h => by cases h
  | n + 1, x1, x2, m, hm, cx1, cx2, h => w_Ta_put_B3 hk  (w_Ta_put_L3 hk  n) hm cx1 cx2 h
set_option maxRecDepth 100000 in
set_option maxHeartbeats 4000000 in
theorem w_Ta_put {K : zK} (hk : zOk K kdC cX8_put 3 none RX8 0)  {x1 : Int} {m : zM} {o : zM}  (hm : zG kdC m) (cx1 : cI x1) (h : Ta_put x1 m = some o) : GoAt K m [(0, .ref (kB K + 2)), (1, mI x1)] [] 0 (9, 0, o) := by
  unfold Ta_put at h
  refine g_bipush hk (v := 24) rfl dX8_put_0 ?_
  refine g_istore_n hk rfl (lv' := [(2, mI 24), (0, .ref (kB K + 2)), (1, mI x1)]) (Nat.le_of_ble_eq_true rfl) rfl dX8_put_2 ?_
  refine GoAt.sub [1, 2, 0] rfl ?_
  refine w_Ta_put_L3 hk  1000000 _ _ _ hm cx1 (cIk rfl) h
theorem met_Ta_put (l : Launch) (D : va_G) (aC : Nat → ClassId) (B N : Nat) (hwd : ∀ id, (kdC id).1 ≠ 9 → id < N) {x1 : Int} {m : zM} {o : zM} (hm : zG kdC m) (cx1 : cI x1) (h : Ta_put x1 m = some o) : zMet l yX8_put cX8_put 3 none 0 D aC B kdC N [.ref (B + 2), mI x1] m (9, 0, o) := by
  refine zMet.of mf_X8_put hwd hm (Nat.le_of_ble_eq_true rfl) (fun K e1 e2 e3 e4 e5 hk => ?_)
  subst e4
  exact w_Ta_put hk hm cx1 h
set_option maxRecDepth 100000 in
set_option maxHeartbeats 4000000 in
theorem w_C_feed {K : zK} (hk : zOk K kdC cX11_feed 6 (some .int) RX11 1)  {x1 : Int} {x2 : Int} {x3 : Int} {x4 : Int} {x5 : Int} {m : zM} {o : Int × zM}  (hm : zG kdC m) (cx1 : cI x1) (cx2 : cI x2) (cx3 : cI x3) (cx4 : cI x4) (cx5 : cI x5) (h : C_feed x1 x2 x3 x4 x5 m = some o) : GoAt K m [(0, .ref (kB K + 0)), (1, mI x1), (2, mI x2), (3, mI x3), (4, mI x4), (5, mI x5)] [] 0 (0, o.1, o.2) := by
  unfold C_feed at h
  refine g_aload_n hk 0 rfl dX11_feed_0 ?_
  refine g_get2 hk fl_X11_20 rfl kdC_0 hm (b := 2) rfl dX11_feed_1 ?_
  have g1 := zGI (i := 1) hm kdC_2 rfl
  refine g_get0 hk fl_X11_95 rfl (j := 1) rfl kdC_2 dX11_feed_4 ?_
  refine g_sipush hk (v := 1580) rfl dX11_feed_7 ?_
  refine g_icmp_le hk g1 (cIk rfl) dX11_feed_10 h (fun b2 h => ?_) (fun b2 h => ?_)
  · refine g_aload_n hk 0 rfl dX11_feed_13 ?_
    refine g_iconst hk (v := 0) rfl dX11_feed_14 ?_
    obtain ⟨r3, e4, h⟩ := zbind h
    refine g_callVi hk (st := []) mf_X11_refuse lk_X11_100 mv_X11_refuse kdC_0 (by decide) rfl (Nat.le_of_ble_eq_true rfl) rfl dX11_feed_15 (met_C_refuse _ _ _ _ _ hk.wd hm (cIk rfl) e4) (fun hm c5 => ?_)
    exact g_ireturn hk c5 dX11_feed_18 (by cases h; rfl)
  · refine g_aload_n hk 0 rfl dX11_feed_19 ?_
    refine g_get2 hk fl_X11_20 rfl kdC_0 hm (b := 2) rfl dX11_feed_20 ?_
    refine g_iload_n hk 1 rfl dX11_feed_23 ?_
    obtain ⟨r6, e7, h⟩ := zbind h
    refine g_callVv hk (st := []) mf_X8_put lk_X11_104 mv_X8_put kdC_2 (by decide) rfl (Nat.le_of_ble_eq_true rfl) rfl dX11_feed_24 (met_Ta_put _ _ _ _ _ hk.wd hm cx1 e7) (fun hm => ?_)
    refine g_aload_n hk 0 rfl dX11_feed_27 ?_
    refine g_get2 hk fl_X11_20 rfl kdC_0 hm (b := 2) rfl dX11_feed_28 ?_
    refine g_iload_n hk 2 rfl dX11_feed_31 ?_
    obtain ⟨r9, e10, h⟩ := zbind h
    refine g_callVv hk (st := []) mf_X8_put lk_X11_104 mv_X8_put kdC_2 (by decide) rfl (Nat.le_of_ble_eq_true rfl) rfl dX11_feed_32 (met_Ta_put _ _ _ _ _ hk.wd hm cx2 e10) (fun hm => ?_)
    refine g_aload_n hk 0 rfl dX11_feed_35 ?_
    refine g_get2 hk fl_X11_20 rfl kdC_0 hm (b := 2) rfl dX11_feed_36 ?_
    refine g_iload_n hk 3 rfl dX11_feed_39 ?_
    obtain ⟨r12, e13, h⟩ := zbind h
    refine g_callVv hk (st := []) mf_X8_put lk_X11_104 mv_X8_put kdC_2 (by decide) rfl (Nat.le_of_ble_eq_true rfl) rfl dX11_feed_40 (met_Ta_put _ _ _ _ _ hk.wd hm cx3 e13) (fun hm => ?_)
    refine g_aload_n hk 0 rfl dX11_feed_43 ?_
    refine g_get2 hk fl_X11_20 rfl kdC_0 hm (b := 2) rfl dX11_feed_44 ?_
    refine g_iload hk 4 rfl dX11_feed_47 ?_
    obtain ⟨r15, e16, h⟩ := zbind h
    refine g_callVv hk (st := []) mf_X8_put lk_X11_104 mv_X8_put kdC_2 (by decide) rfl (Nat.le_of_ble_eq_true rfl) rfl dX11_feed_49 (met_Ta_put _ _ _ _ _ hk.wd hm cx4 e16) (fun hm => ?_)
    refine g_aload_n hk 0 rfl dX11_feed_52 ?_
    refine g_get2 hk fl_X11_20 rfl kdC_0 hm (b := 2) rfl dX11_feed_53 ?_
    refine g_iload hk 5 rfl dX11_feed_56 ?_
    obtain ⟨r18, e19, h⟩ := zbind h
    refine g_callVv hk (st := []) mf_X8_put lk_X11_104 mv_X8_put kdC_2 (by decide) rfl (Nat.le_of_ble_eq_true rfl) rfl dX11_feed_58 (met_Ta_put _ _ _ _ _ hk.wd hm cx5 e19) (fun hm => ?_)
    refine g_aload_n hk 0 rfl dX11_feed_61 ?_
    refine g_get2 hk fl_X11_20 rfl kdC_0 hm (b := 2) rfl dX11_feed_62 ?_
    have g21 := zGI (i := 1) hm kdC_2 rfl
    refine g_get0 hk fl_X11_95 rfl (j := 1) rfl kdC_2 dX11_feed_65 ?_
    exact g_ireturn hk g21 dX11_feed_68 (by cases h; rfl)
theorem met_C_feed (l : Launch) (D : va_G) (aC : Nat → ClassId) (B N : Nat) (hwd : ∀ id, (kdC id).1 ≠ 9 → id < N) {x1 : Int} {x2 : Int} {x3 : Int} {x4 : Int} {x5 : Int} {m : zM} {o : Int × zM} (hm : zG kdC m) (cx1 : cI x1) (cx2 : cI x2) (cx3 : cI x3) (cx4 : cI x4) (cx5 : cI x5) (h : C_feed x1 x2 x3 x4 x5 m = some o) : zMet l yX11_feed cX11_feed 6 (some .int) 1 D aC B kdC N [.ref (B + 0), mI x1, mI x2, mI x3, mI x4, mI x5] m (0, o.1, o.2) := by
  refine zMet.of mf_X11_feed hwd hm (Nat.le_of_ble_eq_true rfl) (fun K e1 e2 e3 e4 e5 hk => ?_)
  subst e4
  exact w_C_feed hk hm cx1 cx2 cx3 cx4 cx5 h
set_option maxRecDepth 100000 in
set_option maxHeartbeats 4000000 in
theorem w_C_end {K : zK} (hk : zOk K kdC cX11_end 2 (some .boolean) RX11 1)  {x1 : Int} {m : zM} {o : Int × zM}  (hm : zG kdC m) (cx1 : cI x1) (h : C_end x1 m = some o) : GoAt K m [(0, .ref (kB K + 0)), (1, mI x1)] [] 0 (4, o.1, o.2) := by
  unfold C_end at h
  refine g_iload_n hk 1 rfl dX11_end_0 ?_
  refine g_if_lt hk cx1 dX11_end_1 h (fun b1 h => ?_) (fun b1 h => ?_)
  · refine g_aload_n hk 0 rfl dX11_end_15 ?_
    refine g_iconst hk (v := 0) rfl dX11_end_16 ?_
    obtain ⟨r2, e3, h⟩ := zbind h
    refine g_callVi hk (st := []) mf_X11_refuse lk_X11_100 mv_X11_refuse kdC_0 (by decide) rfl (Nat.le_of_ble_eq_true rfl) rfl dX11_end_17 (met_C_refuse _ _ _ _ _ hk.wd hm (cIk rfl) e3) (fun hm c4 => ?_)
    refine g_pop hk rfl dX11_end_20 ?_
    refine g_iconst hk (v := 0) rfl dX11_end_21 ?_
    exact g_zreturn hk z0 dX11_end_22 (by cases h; rfl)
  · refine g_iload_n hk 1 rfl dX11_end_4 ?_
    refine g_aload_n hk 0 rfl dX11_end_5 ?_
    refine g_get2 hk fl_X11_20 rfl kdC_0 hm (b := 2) rfl dX11_end_6 ?_
    have g5 := zGI (i := 1) hm kdC_2 rfl
    refine g_get0 hk fl_X11_95 rfl (j := 1) rfl kdC_2 dX11_end_9 ?_
    refine g_icmp_le hk cx1 g5 dX11_end_12 h (fun b6 h => ?_) (fun b6 h => ?_)
    · refine g_aload_n hk 0 rfl dX11_end_15 ?_
      refine g_iconst hk (v := 0) rfl dX11_end_16 ?_
      obtain ⟨r7, e8, h⟩ := zbind h
      refine g_callVi hk (st := []) mf_X11_refuse lk_X11_100 mv_X11_refuse kdC_0 (by decide) rfl (Nat.le_of_ble_eq_true rfl) rfl dX11_end_17 (met_C_refuse _ _ _ _ _ hk.wd hm (cIk rfl) e8) (fun hm c9 => ?_)
      refine g_pop hk rfl dX11_end_20 ?_
      refine g_iconst hk (v := 0) rfl dX11_end_21 ?_
      exact g_zreturn hk z0 dX11_end_22 (by cases h; rfl)
    · refine g_aload_n hk 0 rfl dX11_end_23 ?_
      refine g_get2 hk fl_X11_20 rfl kdC_0 hm (b := 2) rfl dX11_end_24 ?_
      refine g_iload_n hk 1 rfl dX11_end_27 ?_
      refine g_put0 hk fp_X11_95 rfl (j := 1) rfl kdC_2 cx1 dX11_end_28 h hm (fun m10 hm h => ?_)
      refine g_iconst hk (v := 1) rfl dX11_end_31 ?_
      exact g_zreturn hk z1 dX11_end_32 (by cases h; rfl)
theorem met_C_end (l : Launch) (D : va_G) (aC : Nat → ClassId) (B N : Nat) (hwd : ∀ id, (kdC id).1 ≠ 9 → id < N) {x1 : Int} {m : zM} {o : Int × zM} (hm : zG kdC m) (cx1 : cI x1) (h : C_end x1 m = some o) : zMet l yX11_end cX11_end 2 (some .boolean) 1 D aC B kdC N [.ref (B + 0), mI x1] m (4, o.1, o.2) := by
  refine zMet.of mf_X11_end hwd hm (Nat.le_of_ble_eq_true rfl) (fun K e1 e2 e3 e4 e5 hk => ?_)
  subst e4
  exact w_C_end hk hm cx1 h
set_option maxRecDepth 100000 in
set_option maxHeartbeats 4000000 in
theorem w_Zo_clear {K : zK} (hk : zOk K kdC cX10_clear 1 none RX10 0)  {o0 : Nat} {m : zM} {o : zM}  (hm : zG kdC m) (ko0 : kdC o0 = (0, 10)) (h : Zo_clear o0 m = some o) : GoAt K m [(0, .ref (kB K + o0))] [] 0 (9, 0, o) := by
  unfold Zo_clear at h
  refine g_aload_n hk 0 rfl dX10_clear_0 ?_
  refine g_iconst hk (v := 0) rfl dX10_clear_1 ?_
  refine g_put0 hk fp_X10_65 rfl (j := 0) rfl ko0 (cIk rfl) dX10_clear_2 h hm (fun m1 hm h => ?_)
  refine g_aload_n hk 0 rfl dX10_clear_5 ?_
  refine g_iconst hk (v := 0) rfl dX10_clear_6 ?_
  refine g_put0 hk fp_X10_68 rfl (j := 1) rfl ko0 (cIk rfl) dX10_clear_7 h hm (fun m2 hm h => ?_)
  refine g_aload_n hk 0 rfl dX10_clear_10 ?_
  refine g_get2 hk fl_X10_45 rfl ko0 hm (b := o0 + 11) rfl dX10_clear_11 ?_
  refine g_iconst hk (v := 0) rfl dX10_clear_14 ?_
  refine g_put0 hk fp_X10_71 rfl (j := 1) rfl (kdC_s10_12 ko0) (cIk rfl) dX10_clear_15 h hm (fun m3 hm h => ?_)
  refine g_aload_n hk 0 rfl dX10_clear_18 ?_
  refine g_get2 hk fl_X10_49 rfl ko0 hm (b := o0 + 14) rfl dX10_clear_19 ?_
  refine g_iconst hk (v := 0) rfl dX10_clear_22 ?_
  refine g_put0 hk fp_X10_71 rfl (j := 1) rfl (kdC_s10_13 ko0) (cIk rfl) dX10_clear_23 h hm (fun m4 hm h => ?_)
  refine g_aload_n hk 0 rfl dX10_clear_26 ?_
  refine g_bipush hk (v := 6) rfl dX10_clear_27 ?_
  refine g_put0 hk fp_X10_52 rfl (j := 14) rfl ko0 (cIk rfl) dX10_clear_29 h hm (fun m5 hm h => ?_)
  refine g_aload_n hk 0 rfl dX10_clear_32 ?_
  refine g_iconst hk (v := 1) rfl dX10_clear_33 ?_
  refine g_put0 hk fp_X10_56 rfl (j := 15) rfl ko0 (cIk rfl) dX10_clear_34 h hm (fun m6 hm h => ?_)
  refine g_aload_n hk 0 rfl dX10_clear_37 ?_
  refine g_iconst hk (v := 3) rfl dX10_clear_38 ?_
  refine g_put0 hk fp_X10_59 rfl (j := 16) rfl ko0 (cIk rfl) dX10_clear_39 h hm (fun m7 hm h => ?_)
  refine g_aload_n hk 0 rfl dX10_clear_42 ?_
  refine g_iconst hk (v := 5) rfl dX10_clear_43 ?_
  refine g_put0 hk fp_X10_62 rfl (j := 17) rfl ko0 (cIk rfl) dX10_clear_44 h hm (fun m8 hm h => ?_)
  refine g_aload_n hk 0 rfl dX10_clear_47 ?_
  refine g_iconst hk (v := 0) rfl dX10_clear_48 ?_
  refine g_put0 hk fp_X10_74 rfl (j := 18) rfl ko0 (cIk rfl) dX10_clear_49 h hm (fun m9 hm h => ?_)
  exact g_return hk dX10_clear_52 (by cases h; rfl)
theorem met_Zo_clear (l : Launch) (D : va_G) (aC : Nat → ClassId) (B N : Nat) (hwd : ∀ id, (kdC id).1 ≠ 9 → id < N) {o0 : Nat} {m : zM} {o : zM} (hm : zG kdC m) (ko0 : kdC o0 = (0, 10)) (h : Zo_clear o0 m = some o) : zMet l yX10_clear cX10_clear 1 none 0 D aC B kdC N [.ref (B + o0)] m (9, 0, o) := by
  refine zMet.of mf_X10_clear hwd hm (Nat.le_of_ble_eq_true rfl) (fun K e1 e2 e3 e4 e5 hk => ?_)
  subst e4
  exact w_Zo_clear hk hm ko0 h
set_option maxRecDepth 100000 in
set_option maxHeartbeats 4000000 in
theorem w_Ta_skipBlanks_B0 {K : zK} (hk : zOk K kdC cX8_skipBlanks 1 none RX8 0) {rec : zM → Option (zM)} {m : zM} {o : zM} (hrec : ∀  (m : zM), zG kdC m → rec m = some o → GoAt K m [(0, .ref (kB K + 2))] [] 0 (9, 0, o)) (hm : zG kdC m)  (h : Ta_skipBlanks_B0 rec m = some o) : GoAt K m [(0, .ref (kB K + 2))] [] 0 (9, 0, o) := by
  unfold Ta_skipBlanks_B0 at h
  refine g_aload_n hk 0 rfl dX8_skipBlanks_0 ?_
  have g1 := zGI (i := 8) hm kdC_2 rfl
  refine g_get0 hk fl_X8_46 rfl (j := 8) rfl kdC_2 dX8_skipBlanks_1 ?_
  refine g_aload_n hk 0 rfl dX8_skipBlanks_4 ?_
  have g2 := zGI (i := 1) hm kdC_2 rfl
  refine g_get0 hk fl_X8_43 rfl (j := 1) rfl kdC_2 dX8_skipBlanks_5 ?_
  refine g_icmp_ge hk g1 g2 dX8_skipBlanks_8 h (fun b3 h => ?_) (fun b3 h => ?_)
  · refine g_aload_n hk 0 rfl dX8_skipBlanks_11 ?_
    refine g_get2 hk fl_X8_11 rfl kdC_2 hm (b := 3) rfl dX8_skipBlanks_12 ?_
    refine g_aload_n hk 0 rfl dX8_skipBlanks_15 ?_
    have g4 := zGI (i := 8) hm kdC_2 rfl
    refine g_get0 hk fl_X8_46 rfl (j := 8) rfl kdC_2 dX8_skipBlanks_16 ?_
    refine g_iald hk g4 kdC_3 hm dX8_skipBlanks_19 h (fun y5 cy5 h => ?_)
    refine g_bipush hk (v := 32) rfl dX8_skipBlanks_20 ?_
    refine g_icmp_eq hk cy5 (cIk rfl) dX8_skipBlanks_22 h (fun b6 h => ?_) (fun b6 h => ?_)
    · refine g_aload_n hk 0 rfl dX8_skipBlanks_39 ?_
      refine g_dup hk rfl dX8_skipBlanks_40 ?_
      have g7 := zGI (i := 8) hm kdC_2 rfl
      refine g_get0 hk fl_X8_46 rfl (j := 8) rfl kdC_2 dX8_skipBlanks_41 ?_
      refine g_iconst hk (v := 1) rfl dX8_skipBlanks_44 ?_
      refine g_iadd hk dX8_skipBlanks_45 ?_
      refine g_put0 hk fp_X8_46 rfl (j := 8) rfl kdC_2 (wI_c _) dX8_skipBlanks_46 h hm (fun m8 hm h => ?_)
      refine g_goto hk dX8_skipBlanks_49 ?_
      exact hrec _ hm h
    · refine g_aload_n hk 0 rfl dX8_skipBlanks_25 ?_
      refine g_get2 hk fl_X8_11 rfl kdC_2 hm (b := 3) rfl dX8_skipBlanks_26 ?_
      refine g_aload_n hk 0 rfl dX8_skipBlanks_29 ?_
      have g9 := zGI (i := 8) hm kdC_2 rfl
      refine g_get0 hk fl_X8_46 rfl (j := 8) rfl kdC_2 dX8_skipBlanks_30 ?_
      refine g_iald hk g9 kdC_3 hm dX8_skipBlanks_33 h (fun y10 cy10 h => ?_)
      refine g_bipush hk (v := 10) rfl dX8_skipBlanks_34 ?_
      refine g_icmp_ne hk cy10 (cIk rfl) dX8_skipBlanks_36 h (fun b11 h => ?_) (fun b11 h => ?_)
      · refine g_aload_n hk 0 rfl dX8_skipBlanks_39 ?_
        refine g_dup hk rfl dX8_skipBlanks_40 ?_
        have g12 := zGI (i := 8) hm kdC_2 rfl
        refine g_get0 hk fl_X8_46 rfl (j := 8) rfl kdC_2 dX8_skipBlanks_41 ?_
        refine g_iconst hk (v := 1) rfl dX8_skipBlanks_44 ?_
        refine g_iadd hk dX8_skipBlanks_45 ?_
        refine g_put0 hk fp_X8_46 rfl (j := 8) rfl kdC_2 (wI_c _) dX8_skipBlanks_46 h hm (fun m13 hm h => ?_)
        refine g_goto hk dX8_skipBlanks_49 ?_
        exact hrec _ hm h
      · exact g_return hk dX8_skipBlanks_52 (by cases h; rfl)
  · exact g_return hk dX8_skipBlanks_52 (by cases h; rfl)
theorem w_Ta_skipBlanks_L0 {K : zK} (hk : zOk K kdC cX8_skipBlanks 1 none RX8 0)  {o : zM}  : ∀ (n : Nat) (m : zM), zG kdC m → Ta_skipBlanks_L0 n m = some o → GoAt K m [(0, .ref (kB K + 2))] [] 0 (9, 0, o)
  | 0, m, hm, h => by cases h
  | n + 1, m, hm, h => w_Ta_skipBlanks_B0 hk  (w_Ta_skipBlanks_L0 hk  n) hm h
set_option maxRecDepth 100000 in
set_option maxHeartbeats 4000000 in
theorem w_Ta_skipBlanks {K : zK} (hk : zOk K kdC cX8_skipBlanks 1 none RX8 0)  {m : zM} {o : zM}  (hm : zG kdC m)  (h : Ta_skipBlanks m = some o) : GoAt K m [(0, .ref (kB K + 2))] [] 0 (9, 0, o) := by
  unfold Ta_skipBlanks at h
  refine w_Ta_skipBlanks_L0 hk  1000000 _ hm h
theorem met_Ta_skipBlanks (l : Launch) (D : va_G) (aC : Nat → ClassId) (B N : Nat) (hwd : ∀ id, (kdC id).1 ≠ 9 → id < N) {m : zM} {o : zM} (hm : zG kdC m)  (h : Ta_skipBlanks m = some o) : zMet l yX8_skipBlanks cX8_skipBlanks 1 none 0 D aC B kdC N [.ref (B + 2)] m (9, 0, o) := by
  refine zMet.of mf_X8_skipBlanks hwd hm (Nat.le_of_ble_eq_true rfl) (fun K e1 e2 e3 e4 e5 hk => ?_)
  subst e4
  exact w_Ta_skipBlanks hk hm  h
set_option maxRecDepth 100000 in
set_option maxHeartbeats 4000000 in
theorem w_Ta_isLetter {K : zK} (hk : zOk K kdC cX8_isLetter 1 (some .boolean) RX8 0)  {x0 : Int} {m : zM} {o : Int}  (hm : zG kdC m) (cx0 : cI x0) (h : Ta_isLetter x0 = some o) : GoAt K m [(0, mI x0)] [] 0 (4, o, m) := by
  unfold Ta_isLetter at h
  refine g_iload_n hk 0 rfl dX8_isLetter_0 ?_
  refine g_bipush hk (v := 97) rfl dX8_isLetter_1 ?_
  refine g_icmp_lt hk cx0 (cIk rfl) dX8_isLetter_3 h (fun b1 h => ?_) (fun b1 h => ?_)
  · refine g_iconst hk (v := 0) rfl dX8_isLetter_16 ?_
    exact g_zreturn hk z0 dX8_isLetter_17 (by cases h; rfl)
  · refine g_iload_n hk 0 rfl dX8_isLetter_6 ?_
    refine g_bipush hk (v := 122) rfl dX8_isLetter_7 ?_
    refine g_icmp_gt hk cx0 (cIk rfl) dX8_isLetter_9 h (fun b2 h => ?_) (fun b2 h => ?_)
    · refine g_iconst hk (v := 0) rfl dX8_isLetter_16 ?_
      exact g_zreturn hk z0 dX8_isLetter_17 (by cases h; rfl)
    · refine g_iconst hk (v := 1) rfl dX8_isLetter_12 ?_
      refine g_goto hk dX8_isLetter_13 ?_
      exact g_zreturn hk z1 dX8_isLetter_17 (by cases h; rfl)
theorem met_Ta_isLetter (l : Launch) (D : va_G) (aC : Nat → ClassId) (B N : Nat) (hwd : ∀ id, (kdC id).1 ≠ 9 → id < N) {x0 : Int} {m : zM} {o : Int} (hm : zG kdC m) (cx0 : cI x0) (h : Ta_isLetter x0 = some o) : zMet l yX8_isLetter cX8_isLetter 1 (some .boolean) 0 D aC B kdC N [mI x0] m (4, o, m) := by
  refine zMet.of mf_X8_isLetter hwd hm (Nat.le_of_ble_eq_true rfl) (fun K e1 e2 e3 e4 e5 hk => ?_)
  subst e4
  exact w_Ta_isLetter hk hm cx0 h
set_option maxRecDepth 100000 in
set_option maxHeartbeats 4000000 in
theorem w_Ta_isDigit {K : zK} (hk : zOk K kdC cX8_isDigit 1 (some .boolean) RX8 0)  {x0 : Int} {m : zM} {o : Int}  (hm : zG kdC m) (cx0 : cI x0) (h : Ta_isDigit x0 = some o) : GoAt K m [(0, mI x0)] [] 0 (4, o, m) := by
  unfold Ta_isDigit at h
  refine g_iload_n hk 0 rfl dX8_isDigit_0 ?_
  refine g_bipush hk (v := 48) rfl dX8_isDigit_1 ?_
  refine g_icmp_lt hk cx0 (cIk rfl) dX8_isDigit_3 h (fun b1 h => ?_) (fun b1 h => ?_)
  · refine g_iconst hk (v := 0) rfl dX8_isDigit_16 ?_
    exact g_zreturn hk z0 dX8_isDigit_17 (by cases h; rfl)
  · refine g_iload_n hk 0 rfl dX8_isDigit_6 ?_
    refine g_bipush hk (v := 57) rfl dX8_isDigit_7 ?_
    refine g_icmp_gt hk cx0 (cIk rfl) dX8_isDigit_9 h (fun b2 h => ?_) (fun b2 h => ?_)
    · refine g_iconst hk (v := 0) rfl dX8_isDigit_16 ?_
      exact g_zreturn hk z0 dX8_isDigit_17 (by cases h; rfl)
    · refine g_iconst hk (v := 1) rfl dX8_isDigit_12 ?_
      refine g_goto hk dX8_isDigit_13 ?_
      exact g_zreturn hk z1 dX8_isDigit_17 (by cases h; rfl)
theorem met_Ta_isDigit (l : Launch) (D : va_G) (aC : Nat → ClassId) (B N : Nat) (hwd : ∀ id, (kdC id).1 ≠ 9 → id < N) {x0 : Int} {m : zM} {o : Int} (hm : zG kdC m) (cx0 : cI x0) (h : Ta_isDigit x0 = some o) : zMet l yX8_isDigit cX8_isDigit 1 (some .boolean) 0 D aC B kdC N [mI x0] m (4, o, m) := by
  refine zMet.of mf_X8_isDigit hwd hm (Nat.le_of_ble_eq_true rfl) (fun K e1 e2 e3 e4 e5 hk => ?_)
  subst e4
  exact w_Ta_isDigit hk hm cx0 h
set_option maxRecDepth 100000 in
set_option maxHeartbeats 4000000 in
theorem w_Ta_badHere {K : zK} (hk : zOk K kdC cX8_badHere 1 (some .int) RX8 0)  {m : zM} {o : Int × zM}  (hm : zG kdC m)  (h : Ta_badHere m = some o) : GoAt K m [(0, .ref (kB K + 2))] [] 0 (0, o.1, o.2) := by
  unfold Ta_badHere at h
  refine g_aload_n hk 0 rfl dX8_badHere_0 ?_
  refine g_aload_n hk 0 rfl dX8_badHere_1 ?_
  have g1 := zGI (i := 8) hm kdC_2 rfl
  refine g_get0 hk fl_X8_46 rfl (j := 8) rfl kdC_2 dX8_badHere_2 ?_
  refine g_put0 hk fp_X8_75 rfl (j := 6) rfl kdC_2 g1 dX8_badHere_5 h hm (fun m2 hm h => ?_)
  refine g_sipush hk (v := 257) rfl dX8_badHere_8 ?_
  exact g_ireturn hk (cIk rfl) dX8_badHere_11 (by cases h; rfl)
theorem met_Ta_badHere (l : Launch) (D : va_G) (aC : Nat → ClassId) (B N : Nat) (hwd : ∀ id, (kdC id).1 ≠ 9 → id < N) {m : zM} {o : Int × zM} (hm : zG kdC m)  (h : Ta_badHere m = some o) : zMet l yX8_badHere cX8_badHere 1 (some .int) 0 D aC B kdC N [.ref (B + 2)] m (0, o.1, o.2) := by
  refine zMet.of mf_X8_badHere hwd hm (Nat.le_of_ble_eq_true rfl) (fun K e1 e2 e3 e4 e5 hk => ?_)
  subst e4
  exact w_Ta_badHere hk hm  h
set_option maxRecDepth 100000 in
set_option maxHeartbeats 4000000 in
theorem w_Ta_padded_B4 {K : zK} (hk : zOk K kdC cX8_padded 4 (some .int) RX8 0) {rec : Int → Int → Option (Int)} {x2 : Int} {x3 : Int} {m : zM} {o : Int} (hrec : ∀ (x2 : Int) (x3 : Int), cI x2 → cI x3 → rec x2 x3 = some o → GoAt K m [(2, mI x2), (3, mI x3)] [] 4 (0, o, m)) (hm : zG kdC m) (cx2 : cI x2) (cx3 : cI x3) (h : Ta_padded_B4 rec x2 x3 = some o) : GoAt K m [(2, mI x2), (3, mI x3)] [] 4 (0, o, m) := by
  unfold Ta_padded_B4 at h
  refine g_iload_n hk 1 rfl dX8_padded_4 ?_
  refine g_bipush hk (v := 6) rfl dX8_padded_5 ?_
  refine g_icmp_ge hk cx3 (cIk rfl) dX8_padded_7 h (fun b1 h => ?_) (fun b1 h => ?_)
  · refine g_iload_n hk 0 rfl dX8_padded_10 ?_
    refine g_bipush hk (v := 27) rfl dX8_padded_11 ?_
    refine g_imul hk dX8_padded_13 ?_
    refine g_let (wI_c _) h (fun v2 cv2 h => ?_)
    refine g_istore_n hk rfl (lv' := [(2, mI v2), (3, mI x3)]) (Nat.le_of_ble_eq_true rfl) rfl dX8_padded_14 ?_
    refine g_iinc hk (lv' := [(3, mI (wI (x3 + 1))), (2, mI v2)]) 1 rfl (Nat.le_of_ble_eq_true rfl) rfl dX8_padded_15 ?_
    refine g_goto hk dX8_padded_18 ?_
    refine GoAt.sub [1, 0] rfl ?_
    exact hrec _ _ cv2 (wI_c _) h
  · refine g_iload_n hk 0 rfl dX8_padded_21 ?_
    exact g_ireturn hk cx2 dX8_padded_22 (by cases h; rfl)
theorem w_Ta_padded_L4 {K : zK} (hk : zOk K kdC cX8_padded 4 (some .int) RX8 0)  {o : Int} {m : zM} (hm : zG kdC m)  : ∀ (n : Nat) (x2 : Int) (x3 : Int), cI x2 → cI x3 → Ta_padded_L4 n x2 x3 = some o → GoAt K m [(2, mI x2), (3, mI x3)] [] 4 (0, o, m)
  | 0, x2, x3, cx2, cx3, h => by cases h
  | n + 1, x2, x3, cx2, cx3, h => w_Ta_padded_B4 hk  (w_Ta_padded_L4 hk hm  n) hm cx2 cx3 h
set_option maxRecDepth 100000 in
set_option maxHeartbeats 4000000 in
theorem w_Ta_padded {K : zK} (hk : zOk K kdC cX8_padded 4 (some .int) RX8 0)  {x0 : Int} {x1 : Int} {m : zM} {o : Int}  (hm : zG kdC m) (cx0 : cI x0) (cx1 : cI x1) (h : Ta_padded x0 x1 = some o) : GoAt K m [(0, mI x0), (1, mI x1)] [] 0 (0, o, m) := by
  unfold Ta_padded at h
  refine g_iload_n hk 0 rfl dX8_padded_0 ?_
  refine g_istore_n hk rfl (lv' := [(2, mI x0), (0, mI x0), (1, mI x1)]) (Nat.le_of_ble_eq_true rfl) rfl dX8_padded_1 ?_
  refine g_iload_n hk 2 rfl dX8_padded_2 ?_
  refine g_istore_n hk rfl (lv' := [(3, mI x1), (2, mI x0), (0, mI x0), (1, mI x1)]) (Nat.le_of_ble_eq_true rfl) rfl dX8_padded_3 ?_
  refine GoAt.sub [1, 0] rfl ?_
  refine w_Ta_padded_L4 hk hm  1000000 _ _ cx0 cx1 h
theorem met_Ta_padded (l : Launch) (D : va_G) (aC : Nat → ClassId) (B N : Nat) (hwd : ∀ id, (kdC id).1 ≠ 9 → id < N) {x0 : Int} {x1 : Int} {m : zM} {o : Int} (hm : zG kdC m) (cx0 : cI x0) (cx1 : cI x1) (h : Ta_padded x0 x1 = some o) : zMet l yX8_padded cX8_padded 4 (some .int) 0 D aC B kdC N [mI x0, mI x1] m (0, o, m) := by
  refine zMet.of mf_X8_padded hwd hm (Nat.le_of_ble_eq_true rfl) (fun K e1 e2 e3 e4 e5 hk => ?_)
  subst e4
  exact w_Ta_padded hk hm cx0 cx1 h
set_option maxRecDepth 100000 in
set_option maxHeartbeats 4000000 in
theorem w_Ta_scanWord_B4 {K : zK} (hk : zOk K kdC cX8_scanWord 4 (some .int) RX8 1) {k77 : Int → Int → zM → Option (Int × zM)} {rec : Int → Int → zM → Option (Int × zM)} {x1 : Int} {x2 : Int} {m : zM} {o : Int × zM} (hk77 : ∀ (x1 : Int) (x2 : Int) (m : zM), zG kdC m → cI x1 → cI x2 → k77 x1 x2 m = some o → GoAt K m [(0, .ref (kB K + 2)), (1, mI x1), (2, mI x2)] [] 77 (0, o.1, o.2)) (hrec : ∀ (x1 : Int) (x2 : Int) (m : zM), zG kdC m → cI x1 → cI x2 → rec x1 x2 m = some o → GoAt K m [(0, .ref (kB K + 2)), (1, mI x1), (2, mI x2)] [] 4 (0, o.1, o.2)) (hm : zG kdC m) (cx1 : cI x1) (cx2 : cI x2) (h : Ta_scanWord_B4 k77 rec x1 x2 m = some o) : GoAt K m [(0, .ref (kB K + 2)), (1, mI x1), (2, mI x2)] [] 4 (0, o.1, o.2) := by
  unfold Ta_scanWord_B4 at h
  refine g_aload_n hk 0 rfl dX8_scanWord_4 ?_
  have g1 := zGI (i := 8) hm kdC_2 rfl
  refine g_get0 hk fl_X8_46 rfl (j := 8) rfl kdC_2 dX8_scanWord_5 ?_
  refine g_aload_n hk 0 rfl dX8_scanWord_8 ?_
  have g2 := zGI (i := 1) hm kdC_2 rfl
  refine g_get0 hk fl_X8_43 rfl (j := 1) rfl kdC_2 dX8_scanWord_9 ?_
  refine g_icmp_ge hk g1 g2 dX8_scanWord_12 h (fun b3 h => ?_) (fun b3 h => ?_)
  · refine g_aload_n hk 0 rfl dX8_scanWord_15 ?_
    refine g_get2 hk fl_X8_11 rfl kdC_2 hm (b := 3) rfl dX8_scanWord_16 ?_
    refine g_aload_n hk 0 rfl dX8_scanWord_19 ?_
    have g4 := zGI (i := 8) hm kdC_2 rfl
    refine g_get0 hk fl_X8_46 rfl (j := 8) rfl kdC_2 dX8_scanWord_20 ?_
    refine g_iald hk g4 kdC_3 hm dX8_scanWord_23 h (fun y5 cy5 h => ?_)
    obtain ⟨r6, e7, h⟩ := zbind h
    refine g_callSz hk (st := []) mf_X8_isLetter lk_X8_59 ms_X8_isLetter (by decide) rfl (Nat.le_of_ble_eq_true rfl) rfl dX8_scanWord_24 (met_Ta_isLetter _ _ _ _ _ hk.wd hm cy5 e7) (fun hm c8 => ?_)
    refine g_if_eq hk (b01 c8) dX8_scanWord_27 h (fun b9 h => ?_) (fun b9 h => ?_)
    · exact hk77 _ _ _ hm cx1 cx2 h
    · refine g_iload_n hk 2 rfl dX8_scanWord_30 ?_
      refine g_bipush hk (v := 6) rfl dX8_scanWord_31 ?_
      refine g_icmp_ne hk cx2 (cIk rfl) dX8_scanWord_33 h (fun b10 h => ?_) (fun b10 h => ?_)
      · refine g_aload_n hk 0 rfl dX8_scanWord_36 ?_
        obtain ⟨r11, e12, h⟩ := zbind h
        refine g_callVi hk (st := []) mf_X8_badHere lk_X8_66 mv_X8_badHere kdC_2 (by decide) rfl (Nat.le_of_ble_eq_true rfl) rfl dX8_scanWord_37 (met_Ta_badHere _ _ _ _ _ hk.wd hm e12) (fun hm c13 => ?_)
        exact g_ireturn hk c13 dX8_scanWord_40 (by cases h; rfl)
      · refine g_iload_n hk 1 rfl dX8_scanWord_41 ?_
        refine g_bipush hk (v := 27) rfl dX8_scanWord_42 ?_
        refine g_imul hk dX8_scanWord_44 ?_
        refine g_aload_n hk 0 rfl dX8_scanWord_45 ?_
        refine g_get2 hk fl_X8_11 rfl kdC_2 hm (b := 3) rfl dX8_scanWord_46 ?_
        refine g_aload_n hk 0 rfl dX8_scanWord_49 ?_
        have g14 := zGI (i := 8) hm kdC_2 rfl
        refine g_get0 hk fl_X8_46 rfl (j := 8) rfl kdC_2 dX8_scanWord_50 ?_
        refine g_iald hk g14 kdC_3 hm dX8_scanWord_53 h (fun y15 cy15 h => ?_)
        refine g_iadd hk dX8_scanWord_54 ?_
        refine g_bipush hk (v := 97) rfl dX8_scanWord_55 ?_
        refine g_isub hk dX8_scanWord_57 ?_
        refine g_iconst hk (v := 1) rfl dX8_scanWord_58 ?_
        refine g_iadd hk dX8_scanWord_59 ?_
        refine g_let (wI_c _) h (fun v16 cv16 h => ?_)
        refine g_istore_n hk rfl (lv' := [(1, mI v16), (0, .ref (kB K + 2)), (2, mI x2)]) (Nat.le_of_ble_eq_true rfl) rfl dX8_scanWord_60 ?_
        refine g_iinc hk (lv' := [(2, mI (wI (x2 + 1))), (1, mI v16), (0, .ref (kB K + 2))]) 2 rfl (Nat.le_of_ble_eq_true rfl) rfl dX8_scanWord_61 ?_
        refine g_aload_n hk 2 rfl dX8_scanWord_64 ?_
        refine g_dup hk rfl dX8_scanWord_65 ?_
        have g17 := zGI (i := 8) hm kdC_2 rfl
        refine g_get0 hk fl_X8_46 rfl (j := 8) rfl kdC_2 dX8_scanWord_66 ?_
        refine g_iconst hk (v := 1) rfl dX8_scanWord_69 ?_
        refine g_iadd hk dX8_scanWord_70 ?_
        refine g_put0 hk fp_X8_46 rfl (j := 8) rfl kdC_2 (wI_c _) dX8_scanWord_71 h hm (fun m18 hm h => ?_)
        refine g_goto hk dX8_scanWord_74 ?_
        refine GoAt.sub [2, 1, 0] rfl ?_
        exact hrec _ _ _ hm cv16 (wI_c _) h
  · exact hk77 _ _ _ hm cx1 cx2 h
theorem w_Ta_scanWord_L4 {K : zK} (hk : zOk K kdC cX8_scanWord 4 (some .int) RX8 1) {k77 : Int → Int → zM → Option (Int × zM)} {o : Int × zM} (hk77 : ∀ (x1 : Int) (x2 : Int) (m : zM), zG kdC m → cI x1 → cI x2 → k77 x1 x2 m = some o → GoAt K m [(0, .ref (kB K + 2)), (1, mI x1), (2, mI x2)] [] 77 (0, o.1, o.2)) : ∀ (n : Nat) (x1 : Int) (x2 : Int) (m : zM), zG kdC m → cI x1 → cI x2 → Ta_scanWord_L4 k77 n x1 x2 m = some o → GoAt K m [(0, .ref (kB K + 2)), (1, mI x1), (2, mI x2)] [] 4 (0, o.1, o.2)
  | 0, x1, x2, m, hm, cx1, cx2, h => by cases h
  | n + 1, x1, x2, m, hm, cx1, cx2, h => w_Ta_scanWord_B4 hk hk77 (w_Ta_scanWord_L4 hk hk77 n) hm cx1 cx2 h
set_option maxRecDepth 100000 in
set_option maxHeartbeats 4000000 in
theorem w_Ta_scanWord_B95 {K : zK} (hk : zOk K kdC cX8_scanWord 4 (some .int) RX8 1) {rec : Int → Int → zM → Option (Int × zM)} {x1 : Int} {x3 : Int} {m : zM} {o : Int × zM} (hrec : ∀ (x1 : Int) (x3 : Int) (m : zM), zG kdC m → cI x1 → cI x3 → rec x1 x3 m = some o → GoAt K m [(0, .ref (kB K + 2)), (1, mI x1), (3, mI x3)] [] 95 (0, o.1, o.2)) (hm : zG kdC m) (cx1 : cI x1) (cx3 : cI x3) (h : Ta_scanWord_B95 rec x1 x3 m = some o) : GoAt K m [(0, .ref (kB K + 2)), (1, mI x1), (3, mI x3)] [] 95 (0, o.1, o.2) := by
  unfold Ta_scanWord_B95 at h
  refine g_iload_n hk 2 rfl dX8_scanWord_95 ?_
  refine g_bipush hk (v := 30) rfl dX8_scanWord_96 ?_
  refine g_icmp_ge hk cx3 (cIk rfl) dX8_scanWord_98 h (fun b1 h => ?_) (fun b1 h => ?_)
  · refine g_aload_n hk 0 rfl dX8_scanWord_101 ?_
    refine g_get2 hk fl_X8_24 rfl kdC_2 hm (b := 7) rfl dX8_scanWord_102 ?_
    refine g_iload_n hk 2 rfl dX8_scanWord_105 ?_
    refine g_iald hk cx3 kdC_7 hm dX8_scanWord_106 h (fun y2 cy2 h => ?_)
    refine g_iload_n hk 1 rfl dX8_scanWord_107 ?_
    refine g_icmp_ne hk cy2 cx1 dX8_scanWord_108 h (fun b3 h => ?_) (fun b3 h => ?_)
    · refine g_sipush hk (v := 300) rfl dX8_scanWord_111 ?_
      refine g_iload_n hk 2 rfl dX8_scanWord_114 ?_
      refine g_iadd hk dX8_scanWord_115 ?_
      exact g_ireturn hk (wI_c _) dX8_scanWord_116 (by cases h; rfl)
    · refine g_iinc hk (lv' := [(3, mI (wI (x3 + 1))), (0, .ref (kB K + 2)), (1, mI x1)]) 2 rfl (Nat.le_of_ble_eq_true rfl) rfl dX8_scanWord_117 ?_
      refine g_goto hk dX8_scanWord_120 ?_
      refine GoAt.sub [1, 2, 0] rfl ?_
      exact hrec _ _ _ hm cx1 (wI_c _) h
  · refine g_sipush hk (v := 258) rfl dX8_scanWord_123 ?_
    exact g_ireturn hk (cIk rfl) dX8_scanWord_126 (by cases h; rfl)
theorem w_Ta_scanWord_L95 {K : zK} (hk : zOk K kdC cX8_scanWord 4 (some .int) RX8 1)  {o : Int × zM}  : ∀ (n : Nat) (x1 : Int) (x3 : Int) (m : zM), zG kdC m → cI x1 → cI x3 → Ta_scanWord_L95 n x1 x3 m = some o → GoAt K m [(0, .ref (kB K + 2)), (1, mI x1), (3, mI x3)] [] 95 (0, o.1, o.2)
  | 0, x1, x3, m, hm, cx1, cx3, h => by cases h
  | n + 1, x1, x3, m, hm, cx1, cx3, h => w_Ta_scanWord_B95 hk  (w_Ta_scanWord_L95 hk  n) hm cx1 cx3 h
set_option maxRecDepth 100000 in
set_option maxHeartbeats 4000000 in
theorem w_Ta_scanWord_b77 {K : zK} (hk : zOk K kdC cX8_scanWord 4 (some .int) RX8 1)  {x1 : Int} {x2 : Int} {m : zM} {o : Int × zM}  (hm : zG kdC m) (cx1 : cI x1) (cx2 : cI x2) (h : Ta_scanWord_b77 x1 x2 m = some o) : GoAt K m [(0, .ref (kB K + 2)), (1, mI x1), (2, mI x2)] [] 77 (0, o.1, o.2) := by
  unfold Ta_scanWord_b77 at h
  refine g_iload_n hk 1 rfl dX8_scanWord_77 ?_
  refine g_iload_n hk 2 rfl dX8_scanWord_78 ?_
  obtain ⟨r1, e2, h⟩ := zbind h
  refine g_callSi hk (st := []) mf_X8_padded lk_X8_39 ms_X8_padded (by decide) rfl (Nat.le_of_ble_eq_true rfl) rfl dX8_scanWord_79 (met_Ta_padded _ _ _ _ _ hk.wd hm cx1 cx2 e2) (fun hm c3 => ?_)
  refine g_istore_n hk rfl (lv' := [(1, mI r1), (0, .ref (kB K + 2)), (2, mI x2)]) (Nat.le_of_ble_eq_true rfl) rfl dX8_scanWord_82 ?_
  refine g_aload_n hk 1 rfl dX8_scanWord_83 ?_
  refine g_get2 hk fl_X8_21 rfl kdC_2 hm (b := 6) rfl dX8_scanWord_84 ?_
  refine g_aload_n hk 1 rfl dX8_scanWord_87 ?_
  have g4 := zGI (i := 5) hm kdC_2 rfl
  refine g_get0 hk fl_X8_49 rfl (j := 5) rfl kdC_2 dX8_scanWord_88 ?_
  refine g_iload_n hk 0 rfl dX8_scanWord_91 ?_
  refine g_iast hk g4 c3 kdC_6 hm dX8_scanWord_92 h (fun m5 hm h => ?_)
  refine g_iconst hk (v := 0) rfl dX8_scanWord_93 ?_
  refine g_istore_n hk rfl (lv' := [(3, mI 0), (1, mI r1), (0, .ref (kB K + 2)), (2, mI x2)]) (Nat.le_of_ble_eq_true rfl) rfl dX8_scanWord_94 ?_
  refine GoAt.sub [2, 1, 0] rfl ?_
  refine w_Ta_scanWord_L95 hk  1000000 _ _ _ hm c3 (cIk rfl) h
set_option maxRecDepth 100000 in
set_option maxHeartbeats 4000000 in
theorem w_Ta_scanWord {K : zK} (hk : zOk K kdC cX8_scanWord 4 (some .int) RX8 1)  {m : zM} {o : Int × zM}  (hm : zG kdC m)  (h : Ta_scanWord m = some o) : GoAt K m [(0, .ref (kB K + 2))] [] 0 (0, o.1, o.2) := by
  unfold Ta_scanWord at h
  refine g_iconst hk (v := 0) rfl dX8_scanWord_0 ?_
  refine g_istore_n hk rfl (lv' := [(1, mI 0), (0, .ref (kB K + 2))]) (Nat.le_of_ble_eq_true rfl) rfl dX8_scanWord_1 ?_
  refine g_iconst hk (v := 0) rfl dX8_scanWord_2 ?_
  refine g_istore_n hk rfl (lv' := [(2, mI 0), (1, mI 0), (0, .ref (kB K + 2))]) (Nat.le_of_ble_eq_true rfl) rfl dX8_scanWord_3 ?_
  refine GoAt.sub [2, 1, 0] rfl ?_
  refine w_Ta_scanWord_L4 hk (fun x1_1 x2_1 m2 hm cx1_1 cx2_1 h => ?_) 1000000 _ _ _ hm (cIk rfl) (cIk rfl) h
  · exact w_Ta_scanWord_b77 hk hm cx1_1 cx2_1 h
theorem met_Ta_scanWord (l : Launch) (D : va_G) (aC : Nat → ClassId) (B N : Nat) (hwd : ∀ id, (kdC id).1 ≠ 9 → id < N) {m : zM} {o : Int × zM} (hm : zG kdC m)  (h : Ta_scanWord m = some o) : zMet l yX8_scanWord cX8_scanWord 4 (some .int) 1 D aC B kdC N [.ref (B + 2)] m (0, o.1, o.2) := by
  refine zMet.of mf_X8_scanWord hwd hm (Nat.le_of_ble_eq_true rfl) (fun K e1 e2 e3 e4 e5 hk => ?_)
  subst e4
  exact w_Ta_scanWord hk hm  h
set_option maxRecDepth 100000 in
set_option maxHeartbeats 4000000 in
theorem w_Ta_scanNumber_B4 {K : zK} (hk : zOk K kdC cX8_scanNumber 3 (some .int) RX8 1) {rec : Int → Int → zM → Option (Int × zM)} {x1 : Int} {x2 : Int} {m : zM} {o : Int × zM} (hrec : ∀ (x1 : Int) (x2 : Int) (m : zM), zG kdC m → cI x1 → cI x2 → rec x1 x2 m = some o → GoAt K m [(0, .ref (kB K + 2)), (1, mI x1), (2, mI x2)] [] 4 (0, o.1, o.2)) (hm : zG kdC m) (cx1 : cI x1) (cx2 : cI x2) (h : Ta_scanNumber_B4 rec x1 x2 m = some o) : GoAt K m [(0, .ref (kB K + 2)), (1, mI x1), (2, mI x2)] [] 4 (0, o.1, o.2) := by
  unfold Ta_scanNumber_B4 at h
  refine g_aload_n hk 0 rfl dX8_scanNumber_4 ?_
  have g1 := zGI (i := 8) hm kdC_2 rfl
  refine g_get0 hk fl_X8_46 rfl (j := 8) rfl kdC_2 dX8_scanNumber_5 ?_
  refine g_aload_n hk 0 rfl dX8_scanNumber_8 ?_
  have g2 := zGI (i := 1) hm kdC_2 rfl
  refine g_get0 hk fl_X8_43 rfl (j := 1) rfl kdC_2 dX8_scanNumber_9 ?_
  refine g_icmp_ge hk g1 g2 dX8_scanNumber_12 h (fun b3 h => ?_) (fun b3 h => ?_)
  · refine g_aload_n hk 0 rfl dX8_scanNumber_15 ?_
    refine g_get2 hk fl_X8_11 rfl kdC_2 hm (b := 3) rfl dX8_scanNumber_16 ?_
    refine g_aload_n hk 0 rfl dX8_scanNumber_19 ?_
    have g4 := zGI (i := 8) hm kdC_2 rfl
    refine g_get0 hk fl_X8_46 rfl (j := 8) rfl kdC_2 dX8_scanNumber_20 ?_
    refine g_iald hk g4 kdC_3 hm dX8_scanNumber_23 h (fun y5 cy5 h => ?_)
    obtain ⟨r6, e7, h⟩ := zbind h
    refine g_callSz hk (st := []) mf_X8_isDigit lk_X8_63 ms_X8_isDigit (by decide) rfl (Nat.le_of_ble_eq_true rfl) rfl dX8_scanNumber_24 (met_Ta_isDigit _ _ _ _ _ hk.wd hm cy5 e7) (fun hm c8 => ?_)
    refine g_if_eq hk (b01 c8) dX8_scanNumber_27 h (fun b9 h => ?_) (fun b9 h => ?_)
    · refine g_aload_n hk 0 rfl dX8_scanNumber_74 ?_
      refine g_get2 hk fl_X8_21 rfl kdC_2 hm (b := 6) rfl dX8_scanNumber_75 ?_
      refine g_aload_n hk 0 rfl dX8_scanNumber_78 ?_
      have g10 := zGI (i := 5) hm kdC_2 rfl
      refine g_get0 hk fl_X8_49 rfl (j := 5) rfl kdC_2 dX8_scanNumber_79 ?_
      refine g_iload_n hk 1 rfl dX8_scanNumber_82 ?_
      refine g_iast hk g10 cx1 kdC_6 hm dX8_scanNumber_83 h (fun m11 hm h => ?_)
      refine g_sipush hk (v := 259) rfl dX8_scanNumber_84 ?_
      exact g_ireturn hk (cIk rfl) dX8_scanNumber_87 (by cases h; rfl)
    · refine g_iload_n hk 2 rfl dX8_scanNumber_30 ?_
      refine g_iconst hk (v := 4) rfl dX8_scanNumber_31 ?_
      refine g_icmp_ne hk cx2 (cIk rfl) dX8_scanNumber_32 h (fun b12 h => ?_) (fun b12 h => ?_)
      · refine g_aload_n hk 0 rfl dX8_scanNumber_35 ?_
        obtain ⟨r13, e14, h⟩ := zbind h
        refine g_callVi hk (st := []) mf_X8_badHere lk_X8_66 mv_X8_badHere kdC_2 (by decide) rfl (Nat.le_of_ble_eq_true rfl) rfl dX8_scanNumber_36 (met_Ta_badHere _ _ _ _ _ hk.wd hm e14) (fun hm c15 => ?_)
        exact g_ireturn hk c15 dX8_scanNumber_39 (by cases h; rfl)
      · refine g_iload_n hk 1 rfl dX8_scanNumber_40 ?_
        refine g_bipush hk (v := 10) rfl dX8_scanNumber_41 ?_
        refine g_imul hk dX8_scanNumber_43 ?_
        refine g_aload_n hk 0 rfl dX8_scanNumber_44 ?_
        refine g_get2 hk fl_X8_11 rfl kdC_2 hm (b := 3) rfl dX8_scanNumber_45 ?_
        refine g_aload_n hk 0 rfl dX8_scanNumber_48 ?_
        have g16 := zGI (i := 8) hm kdC_2 rfl
        refine g_get0 hk fl_X8_46 rfl (j := 8) rfl kdC_2 dX8_scanNumber_49 ?_
        refine g_iald hk g16 kdC_3 hm dX8_scanNumber_52 h (fun y17 cy17 h => ?_)
        refine g_iadd hk dX8_scanNumber_53 ?_
        refine g_bipush hk (v := 48) rfl dX8_scanNumber_54 ?_
        refine g_isub hk dX8_scanNumber_56 ?_
        refine g_let (wI_c _) h (fun v18 cv18 h => ?_)
        refine g_istore_n hk rfl (lv' := [(1, mI v18), (0, .ref (kB K + 2)), (2, mI x2)]) (Nat.le_of_ble_eq_true rfl) rfl dX8_scanNumber_57 ?_
        refine g_iinc hk (lv' := [(2, mI (wI (x2 + 1))), (1, mI v18), (0, .ref (kB K + 2))]) 2 rfl (Nat.le_of_ble_eq_true rfl) rfl dX8_scanNumber_58 ?_
        refine g_aload_n hk 2 rfl dX8_scanNumber_61 ?_
        refine g_dup hk rfl dX8_scanNumber_62 ?_
        have g19 := zGI (i := 8) hm kdC_2 rfl
        refine g_get0 hk fl_X8_46 rfl (j := 8) rfl kdC_2 dX8_scanNumber_63 ?_
        refine g_iconst hk (v := 1) rfl dX8_scanNumber_66 ?_
        refine g_iadd hk dX8_scanNumber_67 ?_
        refine g_put0 hk fp_X8_46 rfl (j := 8) rfl kdC_2 (wI_c _) dX8_scanNumber_68 h hm (fun m20 hm h => ?_)
        refine g_goto hk dX8_scanNumber_71 ?_
        refine GoAt.sub [2, 1, 0] rfl ?_
        exact hrec _ _ _ hm cv18 (wI_c _) h
  · refine g_aload_n hk 0 rfl dX8_scanNumber_74 ?_
    refine g_get2 hk fl_X8_21 rfl kdC_2 hm (b := 6) rfl dX8_scanNumber_75 ?_
    refine g_aload_n hk 0 rfl dX8_scanNumber_78 ?_
    have g21 := zGI (i := 5) hm kdC_2 rfl
    refine g_get0 hk fl_X8_49 rfl (j := 5) rfl kdC_2 dX8_scanNumber_79 ?_
    refine g_iload_n hk 1 rfl dX8_scanNumber_82 ?_
    refine g_iast hk g21 cx1 kdC_6 hm dX8_scanNumber_83 h (fun m22 hm h => ?_)
    refine g_sipush hk (v := 259) rfl dX8_scanNumber_84 ?_
    exact g_ireturn hk (cIk rfl) dX8_scanNumber_87 (by cases h; rfl)
theorem w_Ta_scanNumber_L4 {K : zK} (hk : zOk K kdC cX8_scanNumber 3 (some .int) RX8 1)  {o : Int × zM}  : ∀ (n : Nat) (x1 : Int) (x2 : Int) (m : zM), zG kdC m → cI x1 → cI x2 → Ta_scanNumber_L4 n x1 x2 m = some o → GoAt K m [(0, .ref (kB K + 2)), (1, mI x1), (2, mI x2)] [] 4 (0, o.1, o.2)
  | 0, x1, x2, m, hm, cx1, cx2, h => by cases h
  | n + 1, x1, x2, m, hm, cx1, cx2, h => w_Ta_scanNumber_B4 hk  (w_Ta_scanNumber_L4 hk  n) hm cx1 cx2 h
set_option maxRecDepth 100000 in
set_option maxHeartbeats 4000000 in
theorem w_Ta_scanNumber {K : zK} (hk : zOk K kdC cX8_scanNumber 3 (some .int) RX8 1)  {m : zM} {o : Int × zM}  (hm : zG kdC m)  (h : Ta_scanNumber m = some o) : GoAt K m [(0, .ref (kB K + 2))] [] 0 (0, o.1, o.2) := by
  unfold Ta_scanNumber at h
  refine g_iconst hk (v := 0) rfl dX8_scanNumber_0 ?_
  refine g_istore_n hk rfl (lv' := [(1, mI 0), (0, .ref (kB K + 2))]) (Nat.le_of_ble_eq_true rfl) rfl dX8_scanNumber_1 ?_
  refine g_iconst hk (v := 0) rfl dX8_scanNumber_2 ?_
  refine g_istore_n hk rfl (lv' := [(2, mI 0), (1, mI 0), (0, .ref (kB K + 2))]) (Nat.le_of_ble_eq_true rfl) rfl dX8_scanNumber_3 ?_
  refine GoAt.sub [2, 1, 0] rfl ?_
  refine w_Ta_scanNumber_L4 hk  1000000 _ _ _ hm (cIk rfl) (cIk rfl) h
theorem met_Ta_scanNumber (l : Launch) (D : va_G) (aC : Nat → ClassId) (B N : Nat) (hwd : ∀ id, (kdC id).1 ≠ 9 → id < N) {m : zM} {o : Int × zM} (hm : zG kdC m)  (h : Ta_scanNumber m = some o) : zMet l yX8_scanNumber cX8_scanNumber 3 (some .int) 1 D aC B kdC N [.ref (B + 2)] m (0, o.1, o.2) := by
  refine zMet.of mf_X8_scanNumber hwd hm (Nat.le_of_ble_eq_true rfl) (fun K e1 e2 e3 e4 e5 hk => ?_)
  subst e4
  exact w_Ta_scanNumber hk hm  h
set_option maxRecDepth 100000 in
set_option maxHeartbeats 4000000 in
theorem w_Ta_scan_b94 {K : zK} (hk : zOk K kdC cX8_scan 3 (some .int) RX8 2)  {x1 : Int} {m : zM} {o : Int × zM}  (hm : zG kdC m) (zx1 : zok 4 x1) (h : Ta_scan_b94 x1 m = some o) : GoAt K m [(0, .ref (kB K + 2)), (1, mI x1)] [] 94 (0, o.1, o.2) := by
  unfold Ta_scan_b94 at h
  refine g_iload_n hk 1 rfl dX8_scan_94 ?_
  refine g_if_eq hk (b01 zx1) dX8_scan_95 h (fun b1 h => ?_) (fun b1 h => ?_)
  · refine g_aload_n hk 0 rfl dX8_scan_106 ?_
    refine g_get2 hk fl_X8_11 rfl kdC_2 hm (b := 3) rfl dX8_scan_107 ?_
    refine g_aload_n hk 0 rfl dX8_scan_110 ?_
    have g2 := zGI (i := 8) hm kdC_2 rfl
    refine g_get0 hk fl_X8_46 rfl (j := 8) rfl kdC_2 dX8_scan_111 ?_
    refine g_iald hk g2 kdC_3 hm dX8_scan_114 h (fun y3 cy3 h => ?_)
    obtain ⟨r4, e5, h⟩ := zbind h
    refine g_callSz hk (st := []) mf_X8_isLetter lk_X8_59 ms_X8_isLetter (by decide) rfl (Nat.le_of_ble_eq_true rfl) rfl dX8_scan_115 (met_Ta_isLetter _ _ _ _ _ hk.wd hm cy3 e5) (fun hm c6 => ?_)
    refine g_if_eq hk (b01 c6) dX8_scan_118 h (fun b7 h => ?_) (fun b7 h => ?_)
    · refine g_aload_n hk 0 rfl dX8_scan_129 ?_
      obtain ⟨r8, e9, h⟩ := zbind h
      refine g_callVi hk (st := []) mf_X8_scanNumber lk_X8_72 mv_X8_scanNumber kdC_2 (by decide) rfl (Nat.le_of_ble_eq_true rfl) rfl dX8_scan_130 (met_Ta_scanNumber _ _ _ _ _ hk.wd hm e9) (fun hm c10 => ?_)
      refine g_istore_n hk rfl (lv' := [(2, mI r8.1), (0, .ref (kB K + 2)), (1, mI x1)]) (Nat.le_of_ble_eq_true rfl) rfl dX8_scan_133 ?_
      refine g_aload_n hk 1 rfl dX8_scan_134 ?_
      refine g_get2 hk fl_X8_15 rfl kdC_2 hm (b := 4) rfl dX8_scan_135 ?_
      refine g_aload_n hk 1 rfl dX8_scan_138 ?_
      have g11 := zGI (i := 5) hm kdC_2 rfl
      refine g_get0 hk fl_X8_49 rfl (j := 5) rfl kdC_2 dX8_scan_139 ?_
      refine g_iload_n hk 0 rfl dX8_scan_142 ?_
      refine g_iast hk g11 c10 kdC_4 hm dX8_scan_143 h (fun m12 hm h => ?_)
      refine g_iload_n hk 0 rfl dX8_scan_144 ?_
      exact g_ireturn hk c10 dX8_scan_145 (by cases h; rfl)
    · refine g_aload_n hk 0 rfl dX8_scan_121 ?_
      obtain ⟨r13, e14, h⟩ := zbind h
      refine g_callVi hk (st := []) mf_X8_scanWord lk_X8_69 mv_X8_scanWord kdC_2 (by decide) rfl (Nat.le_of_ble_eq_true rfl) rfl dX8_scan_122 (met_Ta_scanWord _ _ _ _ _ hk.wd hm e14) (fun hm c15 => ?_)
      refine g_istore_n hk rfl (lv' := [(2, mI r13.1), (0, .ref (kB K + 2)), (1, mI x1)]) (Nat.le_of_ble_eq_true rfl) rfl dX8_scan_125 ?_
      refine g_goto hk dX8_scan_126 ?_
      refine g_aload_n hk 1 rfl dX8_scan_134 ?_
      refine g_get2 hk fl_X8_15 rfl kdC_2 hm (b := 4) rfl dX8_scan_135 ?_
      refine g_aload_n hk 1 rfl dX8_scan_138 ?_
      have g16 := zGI (i := 5) hm kdC_2 rfl
      refine g_get0 hk fl_X8_49 rfl (j := 5) rfl kdC_2 dX8_scan_139 ?_
      refine g_iload_n hk 0 rfl dX8_scan_142 ?_
      refine g_iast hk g16 c15 kdC_4 hm dX8_scan_143 h (fun m17 hm h => ?_)
      refine g_iload_n hk 0 rfl dX8_scan_144 ?_
      exact g_ireturn hk c15 dX8_scan_145 (by cases h; rfl)
  · refine g_aload_n hk 0 rfl dX8_scan_98 ?_
    obtain ⟨r18, e19, h⟩ := zbind h
    refine g_callVi hk (st := []) mf_X8_badHere lk_X8_66 mv_X8_badHere kdC_2 (by decide) rfl (Nat.le_of_ble_eq_true rfl) rfl dX8_scan_99 (met_Ta_badHere _ _ _ _ _ hk.wd hm e19) (fun hm c20 => ?_)
    refine g_istore_n hk rfl (lv' := [(2, mI r18.1), (0, .ref (kB K + 2)), (1, mI x1)]) (Nat.le_of_ble_eq_true rfl) rfl dX8_scan_102 ?_
    refine g_goto hk dX8_scan_103 ?_
    refine g_aload_n hk 1 rfl dX8_scan_134 ?_
    refine g_get2 hk fl_X8_15 rfl kdC_2 hm (b := 4) rfl dX8_scan_135 ?_
    refine g_aload_n hk 1 rfl dX8_scan_138 ?_
    have g21 := zGI (i := 5) hm kdC_2 rfl
    refine g_get0 hk fl_X8_49 rfl (j := 5) rfl kdC_2 dX8_scan_139 ?_
    refine g_iload_n hk 0 rfl dX8_scan_142 ?_
    refine g_iast hk g21 c20 kdC_4 hm dX8_scan_143 h (fun m22 hm h => ?_)
    refine g_iload_n hk 0 rfl dX8_scan_144 ?_
    exact g_ireturn hk c20 dX8_scan_145 (by cases h; rfl)
set_option maxRecDepth 100000 in
set_option maxHeartbeats 4000000 in
theorem w_Ta_scan {K : zK} (hk : zOk K kdC cX8_scan 3 (some .int) RX8 2)  {x1 : Int} {m : zM} {o : Int × zM}  (hm : zG kdC m) (zx1 : zok 4 x1) (h : Ta_scan x1 m = some o) : GoAt K m [(0, .ref (kB K + 2)), (1, mI x1)] [] 0 (0, o.1, o.2) := by
  unfold Ta_scan at h
  refine g_aload_n hk 0 rfl dX8_scan_0 ?_
  refine g_get2 hk fl_X8_18 rfl kdC_2 hm (b := 5) rfl dX8_scan_1 ?_
  refine g_aload_n hk 0 rfl dX8_scan_4 ?_
  have g1 := zGI (i := 5) hm kdC_2 rfl
  refine g_get0 hk fl_X8_49 rfl (j := 5) rfl kdC_2 dX8_scan_5 ?_
  refine g_aload_n hk 0 rfl dX8_scan_8 ?_
  have g2 := zGI (i := 8) hm kdC_2 rfl
  refine g_get0 hk fl_X8_46 rfl (j := 8) rfl kdC_2 dX8_scan_9 ?_
  refine g_iast hk g1 g2 kdC_5 hm dX8_scan_12 h (fun m3 hm h => ?_)
  refine g_aload_n hk 0 rfl dX8_scan_13 ?_
  refine g_get2 hk fl_X8_21 rfl kdC_2 hm (b := 6) rfl dX8_scan_14 ?_
  refine g_aload_n hk 0 rfl dX8_scan_17 ?_
  have g4 := zGI (i := 5) hm kdC_2 rfl
  refine g_get0 hk fl_X8_49 rfl (j := 5) rfl kdC_2 dX8_scan_18 ?_
  refine g_iconst hk (v := 0) rfl dX8_scan_21 ?_
  refine g_iast hk g4 (cIk rfl) kdC_6 hm dX8_scan_22 h (fun m5 hm h => ?_)
  refine g_aload_n hk 0 rfl dX8_scan_23 ?_
  have g6 := zGI (i := 8) hm kdC_2 rfl
  refine g_get0 hk fl_X8_46 rfl (j := 8) rfl kdC_2 dX8_scan_24 ?_
  refine g_aload_n hk 0 rfl dX8_scan_27 ?_
  have g7 := zGI (i := 1) hm kdC_2 rfl
  refine g_get0 hk fl_X8_43 rfl (j := 1) rfl kdC_2 dX8_scan_28 ?_
  refine g_icmp_lt hk g6 g7 dX8_scan_31 h (fun b8 h => ?_) (fun b8 h => ?_)
  · refine g_aload_n hk 0 rfl dX8_scan_41 ?_
    refine g_get2 hk fl_X8_11 rfl kdC_2 hm (b := 3) rfl dX8_scan_42 ?_
    refine g_aload_n hk 0 rfl dX8_scan_45 ?_
    have g9 := zGI (i := 8) hm kdC_2 rfl
    refine g_get0 hk fl_X8_46 rfl (j := 8) rfl kdC_2 dX8_scan_46 ?_
    refine g_iald hk g9 kdC_3 hm dX8_scan_49 h (fun y10 cy10 h => ?_)
    obtain ⟨r11, e12, h⟩ := zbind h
    refine g_callSz hk (st := []) mf_X8_isLetter lk_X8_59 ms_X8_isLetter (by decide) rfl (Nat.le_of_ble_eq_true rfl) rfl dX8_scan_50 (met_Ta_isLetter _ _ _ _ _ hk.wd hm cy10 e12) (fun hm c13 => ?_)
    refine g_if_ne hk (b01 c13) dX8_scan_53 h (fun b14 h => ?_) (fun b14 h => ?_)
    · refine g_aload_n hk 0 rfl dX8_scan_56 ?_
      refine g_get2 hk fl_X8_11 rfl kdC_2 hm (b := 3) rfl dX8_scan_57 ?_
      refine g_aload_n hk 0 rfl dX8_scan_60 ?_
      have g15 := zGI (i := 8) hm kdC_2 rfl
      refine g_get0 hk fl_X8_46 rfl (j := 8) rfl kdC_2 dX8_scan_61 ?_
      refine g_iald hk g15 kdC_3 hm dX8_scan_64 h (fun y16 cy16 h => ?_)
      obtain ⟨r17, e18, h⟩ := zbind h
      refine g_callSz hk (st := []) mf_X8_isDigit lk_X8_63 ms_X8_isDigit (by decide) rfl (Nat.le_of_ble_eq_true rfl) rfl dX8_scan_65 (met_Ta_isDigit _ _ _ _ _ hk.wd hm cy16 e18) (fun hm c19 => ?_)
      refine g_if_ne hk (b01 c19) dX8_scan_68 h (fun b20 h => ?_) (fun b20 h => ?_)
      · refine g_aload_n hk 0 rfl dX8_scan_71 ?_
        refine g_get2 hk fl_X8_11 rfl kdC_2 hm (b := 3) rfl dX8_scan_72 ?_
        refine g_aload_n hk 0 rfl dX8_scan_75 ?_
        have g21 := zGI (i := 8) hm kdC_2 rfl
        refine g_get0 hk fl_X8_46 rfl (j := 8) rfl kdC_2 dX8_scan_76 ?_
        refine g_iald hk g21 kdC_3 hm dX8_scan_79 h (fun y22 cy22 h => ?_)
        refine g_istore_n hk rfl (lv' := [(2, mI y22), (0, .ref (kB K + 2)), (1, mI x1)]) (Nat.le_of_ble_eq_true rfl) rfl dX8_scan_80 ?_
        refine g_aload_n hk 1 rfl dX8_scan_81 ?_
        refine g_dup hk rfl dX8_scan_82 ?_
        have g23 := zGI (i := 8) hm kdC_2 rfl
        refine g_get0 hk fl_X8_46 rfl (j := 8) rfl kdC_2 dX8_scan_83 ?_
        refine g_iconst hk (v := 1) rfl dX8_scan_86 ?_
        refine g_iadd hk dX8_scan_87 ?_
        refine g_put0 hk fp_X8_46 rfl (j := 8) rfl kdC_2 (wI_c _) dX8_scan_88 h hm (fun m24 hm h => ?_)
        refine g_goto hk dX8_scan_91 ?_
        refine g_aload_n hk 1 rfl dX8_scan_134 ?_
        refine g_get2 hk fl_X8_15 rfl kdC_2 hm (b := 4) rfl dX8_scan_135 ?_
        refine g_aload_n hk 1 rfl dX8_scan_138 ?_
        have g25 := zGI (i := 5) hm kdC_2 rfl
        refine g_get0 hk fl_X8_49 rfl (j := 5) rfl kdC_2 dX8_scan_139 ?_
        refine g_iload_n hk 0 rfl dX8_scan_142 ?_
        refine g_iast hk g25 cy22 kdC_4 hm dX8_scan_143 h (fun m26 hm h => ?_)
        refine g_iload_n hk 0 rfl dX8_scan_144 ?_
        exact g_ireturn hk cy22 dX8_scan_145 (by cases h; rfl)
      · exact w_Ta_scan_b94 hk hm zx1 h
    · exact w_Ta_scan_b94 hk hm zx1 h
  · refine g_sipush hk (v := 256) rfl dX8_scan_34 ?_
    refine g_istore_n hk rfl (lv' := [(2, mI 256), (0, .ref (kB K + 2)), (1, mI x1)]) (Nat.le_of_ble_eq_true rfl) rfl dX8_scan_37 ?_
    refine g_goto hk dX8_scan_38 ?_
    refine g_aload_n hk 1 rfl dX8_scan_134 ?_
    refine g_get2 hk fl_X8_15 rfl kdC_2 hm (b := 4) rfl dX8_scan_135 ?_
    refine g_aload_n hk 1 rfl dX8_scan_138 ?_
    have g27 := zGI (i := 5) hm kdC_2 rfl
    refine g_get0 hk fl_X8_49 rfl (j := 5) rfl kdC_2 dX8_scan_139 ?_
    refine g_iload_n hk 0 rfl dX8_scan_142 ?_
    refine g_iast hk g27 (cIk rfl) kdC_4 hm dX8_scan_143 h (fun m28 hm h => ?_)
    refine g_iload_n hk 0 rfl dX8_scan_144 ?_
    exact g_ireturn hk (cIk rfl) dX8_scan_145 (by cases h; rfl)
theorem met_Ta_scan (l : Launch) (D : va_G) (aC : Nat → ClassId) (B N : Nat) (hwd : ∀ id, (kdC id).1 ≠ 9 → id < N) {x1 : Int} {m : zM} {o : Int × zM} (hm : zG kdC m) (zx1 : zok 4 x1) (h : Ta_scan x1 m = some o) : zMet l yX8_scan cX8_scan 3 (some .int) 2 D aC B kdC N [.ref (B + 2), mI x1] m (0, o.1, o.2) := by
  refine zMet.of mf_X8_scan hwd hm (Nat.le_of_ble_eq_true rfl) (fun K e1 e2 e3 e4 e5 hk => ?_)
  subst e4
  exact w_Ta_scan hk hm zx1 h
set_option maxRecDepth 100000 in
set_option maxHeartbeats 4000000 in
theorem w_Ta_split_b39 {K : zK} (hk : zOk K kdC cX8_split 4 none RX8 3) {rec : Int → Int → zM → Option (zM)} {x2 : Int} {s1 : Int} {m : zM} {o : zM} (hrec : ∀ (x1 : Int) (x2 : Int) (m : zM), zG kdC m → cI x1 → cI x2 → rec x1 x2 m = some o → GoAt K m [(0, .ref (kB K + 2)), (1, mI x1), (2, mI x2)] [] 14 (9, 0, o)) (hm : zG kdC m) (cx2 : cI x2) (zs1 : zok 4 s1) (h : Ta_split_b39 rec x2 s1 m = some o) : GoAt K m [(0, .ref (kB K + 2)), (2, mI x2)] [mI s1, .ref (kB K + 2)] 39 (9, 0, o) := by
  unfold Ta_split_b39 at h
  obtain ⟨r1, e2, h⟩ := zbind h
  refine g_callVi hk (st := []) mf_X8_scan lk_X8_55 mv_X8_scan kdC_2 (by decide) rfl (Nat.le_of_ble_eq_true rfl) rfl dX8_split_39 (met_Ta_scan _ _ _ _ _ hk.wd hm zs1 e2) (fun hm c3 => ?_)
  refine g_istore_n hk rfl (lv' := [(3, mI r1.1), (0, .ref (kB K + 2)), (2, mI x2)]) (Nat.le_of_ble_eq_true rfl) rfl dX8_split_42 ?_
  refine g_aload_n hk 1 rfl dX8_split_43 ?_
  refine g_iload_n hk 2 rfl dX8_split_44 ?_
  refine g_iconst hk (v := 1) rfl dX8_split_45 ?_
  refine g_iadd hk dX8_split_46 ?_
  refine g_put0 hk fp_X8_49 rfl (j := 5) rfl kdC_2 (wI_c _) dX8_split_47 h hm (fun m4 hm h => ?_)
  refine g_iload_n hk 0 rfl dX8_split_50 ?_
  refine g_sipush hk (v := 256) rfl dX8_split_51 ?_
  refine g_icmp_eq hk c3 (cIk rfl) dX8_split_54 h (fun b5 h => ?_) (fun b5 h => ?_)
  · exact g_return hk dX8_split_64 (by cases h; rfl)
  · refine g_iload_n hk 0 rfl dX8_split_57 ?_
    refine g_sipush hk (v := 257) rfl dX8_split_58 ?_
    refine g_icmp_ne hk c3 (cIk rfl) dX8_split_61 h (fun b6 h => ?_) (fun b6 h => ?_)
    · exact g_return hk dX8_split_64 (by cases h; rfl)
    · refine g_iload_n hk 0 rfl dX8_split_65 ?_
      refine g_sipush hk (v := 258) rfl dX8_split_66 ?_
      refine g_icmp_lt hk c3 (cIk rfl) dX8_split_69 h (fun b7 h => ?_) (fun b7 h => ?_)
      · refine g_iconst hk (v := (-1)) rfl dX8_split_79 ?_
        refine g_istore_n hk rfl (lv' := [(1, mI ((-1))), (3, mI r1.1), (0, .ref (kB K + 2)), (2, mI x2)]) (Nat.le_of_ble_eq_true rfl) rfl dX8_split_80 ?_
        refine g_iinc hk (lv' := [(2, mI (wI (x2 + 1))), (1, mI ((-1))), (3, mI r1.1), (0, .ref (kB K + 2))]) 3 rfl (Nat.le_of_ble_eq_true rfl) rfl dX8_split_81 ?_
        refine g_goto hk dX8_split_84 ?_
        refine GoAt.sub [3, 1, 0] rfl ?_
        exact hrec _ _ _ hm (cIk rfl) (wI_c _) h
      · refine g_aload_n hk 1 rfl dX8_split_72 ?_
        have g8 := zGI (i := 8) hm kdC_2 rfl
        refine g_get0 hk fl_X8_46 rfl (j := 8) rfl kdC_2 dX8_split_73 ?_
        refine g_goto hk dX8_split_76 ?_
        refine g_istore_n hk rfl (lv' := [(1, mI (m4 2 8)), (3, mI r1.1), (0, .ref (kB K + 2)), (2, mI x2)]) (Nat.le_of_ble_eq_true rfl) rfl dX8_split_80 ?_
        refine g_iinc hk (lv' := [(2, mI (wI (x2 + 1))), (1, mI (m4 2 8)), (3, mI r1.1), (0, .ref (kB K + 2))]) 3 rfl (Nat.le_of_ble_eq_true rfl) rfl dX8_split_81 ?_
        refine g_goto hk dX8_split_84 ?_
        refine GoAt.sub [3, 1, 0] rfl ?_
        exact hrec _ _ _ hm g8 (wI_c _) h
set_option maxRecDepth 100000 in
set_option maxHeartbeats 4000000 in
theorem w_Ta_split_B14 {K : zK} (hk : zOk K kdC cX8_split 4 none RX8 3) {rec : Int → Int → zM → Option (zM)} {x1 : Int} {x2 : Int} {m : zM} {o : zM} (hrec : ∀ (x1 : Int) (x2 : Int) (m : zM), zG kdC m → cI x1 → cI x2 → rec x1 x2 m = some o → GoAt K m [(0, .ref (kB K + 2)), (1, mI x1), (2, mI x2)] [] 14 (9, 0, o)) (hm : zG kdC m) (cx1 : cI x1) (cx2 : cI x2) (h : Ta_split_B14 rec x1 x2 m = some o) : GoAt K m [(0, .ref (kB K + 2)), (1, mI x1), (2, mI x2)] [] 14 (9, 0, o) := by
  unfold Ta_split_B14 at h
  refine g_iload_n hk 2 rfl dX8_split_14 ?_
  refine g_sipush hk (v := 1600) rfl dX8_split_15 ?_
  refine g_icmp_gt hk cx2 (cIk rfl) dX8_split_18 h (fun b1 h => ?_) (fun b1 h => ?_)
  · exact g_return hk dX8_split_87 (by cases h; rfl)
  · refine g_aload_n hk 0 rfl dX8_split_21 ?_
    obtain ⟨r2, e3, h⟩ := zbind h
    refine g_callVv hk (st := []) mf_X8_skipBlanks lk_X8_52 mv_X8_skipBlanks kdC_2 (by decide) rfl (Nat.le_of_ble_eq_true rfl) rfl dX8_split_22 (met_Ta_skipBlanks _ _ _ _ _ hk.wd hm e3) (fun hm => ?_)
    refine g_aload_n hk 0 rfl dX8_split_25 ?_
    refine g_aload_n hk 0 rfl dX8_split_26 ?_
    have g5 := zGI (i := 8) hm kdC_2 rfl
    refine g_get0 hk fl_X8_46 rfl (j := 8) rfl kdC_2 dX8_split_27 ?_
    refine g_iload_n hk 1 rfl dX8_split_30 ?_
    refine g_icmp_ne hk g5 cx1 dX8_split_31 h (fun b6 h => ?_) (fun b6 h => ?_)
    · refine g_iconst hk (v := 1) rfl dX8_split_34 ?_
      refine g_goto hk dX8_split_35 ?_
      refine GoAt.sub [0, 2] rfl ?_
      exact w_Ta_split_b39 hk hrec hm cx2 z1 h
    · refine g_iconst hk (v := 0) rfl dX8_split_38 ?_
      refine GoAt.sub [0, 2] rfl ?_
      exact w_Ta_split_b39 hk hrec hm cx2 z0 h
theorem w_Ta_split_L14 {K : zK} (hk : zOk K kdC cX8_split 4 none RX8 3)  {o : zM}  : ∀ (n : Nat) (x1 : Int) (x2 : Int) (m : zM), zG kdC m → cI x1 → cI x2 → Ta_split_L14 n x1 x2 m = some o → GoAt K m [(0, .ref (kB K + 2)), (1, mI x1), (2, mI x2)] [] 14 (9, 0, o)
  | 0, x1, x2, m, hm, cx1, cx2, h => by cases h
  | n + 1, x1, x2, m, hm, cx1, cx2, h => w_Ta_split_B14 hk  (w_Ta_split_L14 hk  n) hm cx1 cx2 h
set_option maxRecDepth 100000 in
set_option maxHeartbeats 4000000 in
theorem w_Ta_split {K : zK} (hk : zOk K kdC cX8_split 4 none RX8 3)  {m : zM} {o : zM}  (hm : zG kdC m)  (h : Ta_split m = some o) : GoAt K m [(0, .ref (kB K + 2))] [] 0 (9, 0, o) := by
  unfold Ta_split at h
  refine g_aload_n hk 0 rfl dX8_split_0 ?_
  refine g_iconst hk (v := 0) rfl dX8_split_1 ?_
  refine g_put0 hk fp_X8_46 rfl (j := 8) rfl kdC_2 (cIk rfl) dX8_split_2 h hm (fun m1 hm h => ?_)
  refine g_aload_n hk 0 rfl dX8_split_5 ?_
  refine g_iconst hk (v := 0) rfl dX8_split_6 ?_
  refine g_put0 hk fp_X8_49 rfl (j := 5) rfl kdC_2 (cIk rfl) dX8_split_7 h hm (fun m2 hm h => ?_)
  refine g_iconst hk (v := (-1)) rfl dX8_split_10 ?_
  refine g_istore_n hk rfl (lv' := [(1, mI ((-1))), (0, .ref (kB K + 2))]) (Nat.le_of_ble_eq_true rfl) rfl dX8_split_11 ?_
  refine g_iconst hk (v := 0) rfl dX8_split_12 ?_
  refine g_istore_n hk rfl (lv' := [(2, mI 0), (1, mI ((-1))), (0, .ref (kB K + 2))]) (Nat.le_of_ble_eq_true rfl) rfl dX8_split_13 ?_
  refine GoAt.sub [2, 1, 0] rfl ?_
  refine w_Ta_split_L14 hk  1000000 _ _ _ hm (cIk rfl) (cIk rfl) h
theorem met_Ta_split (l : Launch) (D : va_G) (aC : Nat → ClassId) (B N : Nat) (hwd : ∀ id, (kdC id).1 ≠ 9 → id < N) {m : zM} {o : zM} (hm : zG kdC m)  (h : Ta_split m = some o) : zMet l yX8_split cX8_split 4 none 3 D aC B kdC N [.ref (B + 2)] m (9, 0, o) := by
  refine zMet.of mf_X8_split hwd hm (Nat.le_of_ble_eq_true rfl) (fun K e1 e2 e3 e4 e5 hk => ?_)
  subst e4
  exact w_Ta_split hk hm  h
set_option maxRecDepth 100000 in
set_option maxHeartbeats 4000000 in
theorem w_Pa_kind {K : zK} (hk : zOk K kdC cX5_kind 1 (some .int) RX5 0)  {m : zM} {o : Int}  (hm : zG kdC m)  (h : Pa_kind m = some o) : GoAt K m [(0, .ref (kB K + 1))] [] 0 (0, o, m) := by
  unfold Pa_kind at h
  refine g_aload_n hk 0 rfl dX5_kind_0 ?_
  refine g_get2 hk fl_X5_12 rfl kdC_1 hm (b := 2) rfl dX5_kind_1 ?_
  refine g_get2 hk fl_X5_55 rfl kdC_2 hm (b := 4) rfl dX5_kind_4 ?_
  refine g_aload_n hk 0 rfl dX5_kind_7 ?_
  have g1 := zGI (i := 7) hm kdC_1 rfl
  refine g_get0 hk fl_X5_34 rfl (j := 7) rfl kdC_1 dX5_kind_8 ?_
  refine g_iald hk g1 kdC_4 hm dX5_kind_11 h (fun y2 cy2 h => ?_)
  exact g_ireturn hk cy2 dX5_kind_12 (by cases h; rfl)
theorem met_Pa_kind (l : Launch) (D : va_G) (aC : Nat → ClassId) (B N : Nat) (hwd : ∀ id, (kdC id).1 ≠ 9 → id < N) {m : zM} {o : Int} (hm : zG kdC m)  (h : Pa_kind m = some o) : zMet l yX5_kind cX5_kind 1 (some .int) 0 D aC B kdC N [.ref (B + 1)] m (0, o, m) := by
  refine zMet.of mf_X5_kind hwd hm (Nat.le_of_ble_eq_true rfl) (fun K e1 e2 e3 e4 e5 hk => ?_)
  subst e4
  exact w_Pa_kind hk hm  h
set_option maxRecDepth 100000 in
set_option maxHeartbeats 4000000 in
theorem w_Pa_fail {K : zK} (hk : zOk K kdC cX5_fail 2 (some .boolean) RX5 0)  {x1 : Int} {m : zM} {o : Int × zM}  (hm : zG kdC m) (cx1 : cI x1) (h : Pa_fail x1 m = some o) : GoAt K m [(0, .ref (kB K + 1)), (1, mI x1)] [] 0 (4, o.1, o.2) := by
  unfold Pa_fail at h
  refine g_aload_n hk 0 rfl dX5_fail_0 ?_
  refine g_iload_n hk 1 rfl dX5_fail_1 ?_
  refine g_put0 hk fp_X5_31 rfl (j := 1) rfl kdC_1 cx1 dX5_fail_2 h hm (fun m1 hm h => ?_)
  refine g_aload_n hk 0 rfl dX5_fail_5 ?_
  refine g_iload_n hk 1 rfl dX5_fail_6 ?_
  refine g_iconst hk (v := 1) rfl dX5_fail_7 ?_
  refine g_icmp_ne hk cx1 (cIk rfl) dX5_fail_8 h (fun b2 h => ?_) (fun b2 h => ?_)
  · refine g_aload_n hk 0 rfl dX5_fail_11 ?_
    refine g_get2 hk fl_X5_12 rfl kdC_1 hm (b := 2) rfl dX5_fail_12 ?_
    refine g_get2 hk fl_X5_55 rfl kdC_2 hm (b := 4) rfl dX5_fail_15 ?_
    refine g_aload_n hk 0 rfl dX5_fail_18 ?_
    have g3 := zGI (i := 7) hm kdC_1 rfl
    refine g_get0 hk fl_X5_34 rfl (j := 7) rfl kdC_1 dX5_fail_19 ?_
    refine g_iald hk g3 kdC_4 hm dX5_fail_22 h (fun y4 cy4 h => ?_)
    refine g_sipush hk (v := 257) rfl dX5_fail_23 ?_
    refine g_icmp_ne hk cy4 (cIk rfl) dX5_fail_26 h (fun b5 h => ?_) (fun b5 h => ?_)
    · refine g_aload_n hk 0 rfl dX5_fail_29 ?_
      refine g_get2 hk fl_X5_12 rfl kdC_1 hm (b := 2) rfl dX5_fail_30 ?_
      have g6 := zGI (i := 6) hm kdC_2 rfl
      refine g_get0 hk fl_X5_59 rfl (j := 6) rfl kdC_2 dX5_fail_33 ?_
      refine g_goto hk dX5_fail_36 ?_
      refine g_put0 hk fp_X5_18 rfl (j := 2) rfl kdC_1 g6 dX5_fail_51 h hm (fun m7 hm h => ?_)
      refine g_iconst hk (v := 0) rfl dX5_fail_54 ?_
      exact g_zreturn hk z0 dX5_fail_55 (by cases h; rfl)
    · refine g_aload_n hk 0 rfl dX5_fail_39 ?_
      refine g_get2 hk fl_X5_12 rfl kdC_1 hm (b := 2) rfl dX5_fail_40 ?_
      refine g_get2 hk fl_X5_62 rfl kdC_2 hm (b := 5) rfl dX5_fail_43 ?_
      refine g_aload_n hk 0 rfl dX5_fail_46 ?_
      have g8 := zGI (i := 7) hm kdC_1 rfl
      refine g_get0 hk fl_X5_34 rfl (j := 7) rfl kdC_1 dX5_fail_47 ?_
      refine g_iald hk g8 kdC_5 hm dX5_fail_50 h (fun y9 cy9 h => ?_)
      refine g_put0 hk fp_X5_18 rfl (j := 2) rfl kdC_1 cy9 dX5_fail_51 h hm (fun m10 hm h => ?_)
      refine g_iconst hk (v := 0) rfl dX5_fail_54 ?_
      exact g_zreturn hk z0 dX5_fail_55 (by cases h; rfl)
  · refine g_aload_n hk 0 rfl dX5_fail_39 ?_
    refine g_get2 hk fl_X5_12 rfl kdC_1 hm (b := 2) rfl dX5_fail_40 ?_
    refine g_get2 hk fl_X5_62 rfl kdC_2 hm (b := 5) rfl dX5_fail_43 ?_
    refine g_aload_n hk 0 rfl dX5_fail_46 ?_
    have g11 := zGI (i := 7) hm kdC_1 rfl
    refine g_get0 hk fl_X5_34 rfl (j := 7) rfl kdC_1 dX5_fail_47 ?_
    refine g_iald hk g11 kdC_5 hm dX5_fail_50 h (fun y12 cy12 h => ?_)
    refine g_put0 hk fp_X5_18 rfl (j := 2) rfl kdC_1 cy12 dX5_fail_51 h hm (fun m13 hm h => ?_)
    refine g_iconst hk (v := 0) rfl dX5_fail_54 ?_
    exact g_zreturn hk z0 dX5_fail_55 (by cases h; rfl)
theorem met_Pa_fail (l : Launch) (D : va_G) (aC : Nat → ClassId) (B N : Nat) (hwd : ∀ id, (kdC id).1 ≠ 9 → id < N) {x1 : Int} {m : zM} {o : Int × zM} (hm : zG kdC m) (cx1 : cI x1) (h : Pa_fail x1 m = some o) : zMet l yX5_fail cX5_fail 2 (some .boolean) 0 D aC B kdC N [.ref (B + 1), mI x1] m (4, o.1, o.2) := by
  refine zMet.of mf_X5_fail hwd hm (Nat.le_of_ble_eq_true rfl) (fun K e1 e2 e3 e4 e5 hk => ?_)
  subst e4
  exact w_Pa_fail hk hm cx1 h
set_option maxRecDepth 100000 in
set_option maxHeartbeats 4000000 in
theorem w_Zo_beastCalled_B2 {K : zK} (hk : zOk K kdC cX10_beastCalled 3 (some .int) RX10 0) {rec : Nat → Int → Int → Option (Int)} {o0 : Nat} {x1 : Int} {x2 : Int} {m : zM} {o : Int} (hrec : ∀ (o0 : Nat) (x1 : Int) (x2 : Int), kdC o0 = (0, 10) → cI x1 → cI x2 → rec o0 x1 x2 = some o → GoAt K m [(0, .ref (kB K + o0)), (1, mI x1), (2, mI x2)] [] 2 (0, o, m)) (hm : zG kdC m) (ko0 : kdC o0 = (0, 10)) (cx1 : cI x1) (cx2 : cI x2) (h : Zo_beastCalled_B2 rec o0 x1 x2 m = some o) : GoAt K m [(0, .ref (kB K + o0)), (1, mI x1), (2, mI x2)] [] 2 (0, o, m) := by
  unfold Zo_beastCalled_B2 at h
  refine g_iload_n hk 2 rfl dX10_beastCalled_2 ?_
  refine g_aload_n hk 0 rfl dX10_beastCalled_3 ?_
  have g1 := zGI (i := 0) hm ko0 rfl
  refine g_get0 hk fl_X10_65 rfl (j := 0) rfl ko0 dX10_beastCalled_4 ?_
  refine g_icmp_ge hk cx2 g1 dX10_beastCalled_7 h (fun b2 h => ?_) (fun b2 h => ?_)
  · refine g_aload_n hk 0 rfl dX10_beastCalled_10 ?_
    refine g_get2 hk fl_X10_9 rfl ko0 hm (b := o0 + 1) rfl dX10_beastCalled_11 ?_
    refine g_iload_n hk 2 rfl dX10_beastCalled_14 ?_
    refine g_iald hk cx2 (kdC_s10_2 ko0) hm dX10_beastCalled_15 h (fun y3 cy3 h => ?_)
    refine g_iload_n hk 1 rfl dX10_beastCalled_16 ?_
    refine g_icmp_ne hk cy3 cx1 dX10_beastCalled_17 h (fun b4 h => ?_) (fun b4 h => ?_)
    · refine g_iload_n hk 2 rfl dX10_beastCalled_20 ?_
      exact g_ireturn hk cx2 dX10_beastCalled_21 (by cases h; rfl)
    · refine g_iinc hk (lv' := [(2, mI (wI (x2 + 1))), (0, .ref (kB K + o0)), (1, mI x1)]) 2 rfl (Nat.le_of_ble_eq_true rfl) rfl dX10_beastCalled_22 ?_
      refine g_goto hk dX10_beastCalled_25 ?_
      refine GoAt.sub [1, 2, 0] rfl ?_
      exact hrec _ _ _ ko0 cx1 (wI_c _) h
  · refine g_iconst hk (v := (-1)) rfl dX10_beastCalled_28 ?_
    exact g_ireturn hk (cIk rfl) dX10_beastCalled_29 (by cases h; rfl)
theorem w_Zo_beastCalled_L2 {K : zK} (hk : zOk K kdC cX10_beastCalled 3 (some .int) RX10 0)  {o : Int} {m : zM} (hm : zG kdC m)  : ∀ (n : Nat) (o0 : Nat) (x1 : Int) (x2 : Int), kdC o0 = (0, 10) → cI x1 → cI x2 → Zo_beastCalled_L2 m n o0 x1 x2 = some o → GoAt K m [(0, .ref (kB K + o0)), (1, mI x1), (2, mI x2)] [] 2 (0, o, m)
  | 0, o0, x1, x2, ko0, cx1, cx2, h => by cases h
  | n + 1, o0, x1, x2, ko0, cx1, cx2, h => w_Zo_beastCalled_B2 hk  (w_Zo_beastCalled_L2 hk hm  n) hm ko0 cx1 cx2 h
set_option maxRecDepth 100000 in
set_option maxHeartbeats 4000000 in
theorem w_Zo_beastCalled {K : zK} (hk : zOk K kdC cX10_beastCalled 3 (some .int) RX10 0)  {o0 : Nat} {x1 : Int} {m : zM} {o : Int}  (hm : zG kdC m) (ko0 : kdC o0 = (0, 10)) (cx1 : cI x1) (h : Zo_beastCalled o0 x1 m = some o) : GoAt K m [(0, .ref (kB K + o0)), (1, mI x1)] [] 0 (0, o, m) := by
  unfold Zo_beastCalled at h
  refine g_iconst hk (v := 0) rfl dX10_beastCalled_0 ?_
  refine g_istore_n hk rfl (lv' := [(2, mI 0), (0, .ref (kB K + o0)), (1, mI x1)]) (Nat.le_of_ble_eq_true rfl) rfl dX10_beastCalled_1 ?_
  refine GoAt.sub [1, 2, 0] rfl ?_
  refine w_Zo_beastCalled_L2 hk hm  1000000 _ _ _ ko0 cx1 (cIk rfl) h
theorem met_Zo_beastCalled (l : Launch) (D : va_G) (aC : Nat → ClassId) (B N : Nat) (hwd : ∀ id, (kdC id).1 ≠ 9 → id < N) {o0 : Nat} {x1 : Int} {m : zM} {o : Int} (hm : zG kdC m) (ko0 : kdC o0 = (0, 10)) (cx1 : cI x1) (h : Zo_beastCalled o0 x1 m = some o) : zMet l yX10_beastCalled cX10_beastCalled 3 (some .int) 0 D aC B kdC N [.ref (B + o0), mI x1] m (0, o, m) := by
  refine zMet.of mf_X10_beastCalled hwd hm (Nat.le_of_ble_eq_true rfl) (fun K e1 e2 e3 e4 e5 hk => ?_)
  subst e4
  exact w_Zo_beastCalled hk hm ko0 cx1 h
set_option maxRecDepth 100000 in
set_option maxHeartbeats 4000000 in
theorem w_Zo_guestCalled_B2 {K : zK} (hk : zOk K kdC cX10_guestCalled 3 (some .int) RX10 0) {rec : Nat → Int → Int → Option (Int)} {o0 : Nat} {x1 : Int} {x2 : Int} {m : zM} {o : Int} (hrec : ∀ (o0 : Nat) (x1 : Int) (x2 : Int), kdC o0 = (0, 10) → cI x1 → cI x2 → rec o0 x1 x2 = some o → GoAt K m [(0, .ref (kB K + o0)), (1, mI x1), (2, mI x2)] [] 2 (0, o, m)) (hm : zG kdC m) (ko0 : kdC o0 = (0, 10)) (cx1 : cI x1) (cx2 : cI x2) (h : Zo_guestCalled_B2 rec o0 x1 x2 m = some o) : GoAt K m [(0, .ref (kB K + o0)), (1, mI x1), (2, mI x2)] [] 2 (0, o, m) := by
  unfold Zo_guestCalled_B2 at h
  refine g_iload_n hk 2 rfl dX10_guestCalled_2 ?_
  refine g_aload_n hk 0 rfl dX10_guestCalled_3 ?_
  have g1 := zGI (i := 1) hm ko0 rfl
  refine g_get0 hk fl_X10_68 rfl (j := 1) rfl ko0 dX10_guestCalled_4 ?_
  refine g_icmp_ge hk cx2 g1 dX10_guestCalled_7 h (fun b2 h => ?_) (fun b2 h => ?_)
  · refine g_aload_n hk 0 rfl dX10_guestCalled_10 ?_
    refine g_get2 hk fl_X10_27 rfl ko0 hm (b := o0 + 6) rfl dX10_guestCalled_11 ?_
    refine g_iload_n hk 2 rfl dX10_guestCalled_14 ?_
    refine g_iald hk cx2 (kdC_s10_7 ko0) hm dX10_guestCalled_15 h (fun y3 cy3 h => ?_)
    refine g_iload_n hk 1 rfl dX10_guestCalled_16 ?_
    refine g_icmp_ne hk cy3 cx1 dX10_guestCalled_17 h (fun b4 h => ?_) (fun b4 h => ?_)
    · refine g_iload_n hk 2 rfl dX10_guestCalled_20 ?_
      exact g_ireturn hk cx2 dX10_guestCalled_21 (by cases h; rfl)
    · refine g_iinc hk (lv' := [(2, mI (wI (x2 + 1))), (0, .ref (kB K + o0)), (1, mI x1)]) 2 rfl (Nat.le_of_ble_eq_true rfl) rfl dX10_guestCalled_22 ?_
      refine g_goto hk dX10_guestCalled_25 ?_
      refine GoAt.sub [1, 2, 0] rfl ?_
      exact hrec _ _ _ ko0 cx1 (wI_c _) h
  · refine g_iconst hk (v := (-1)) rfl dX10_guestCalled_28 ?_
    exact g_ireturn hk (cIk rfl) dX10_guestCalled_29 (by cases h; rfl)
theorem w_Zo_guestCalled_L2 {K : zK} (hk : zOk K kdC cX10_guestCalled 3 (some .int) RX10 0)  {o : Int} {m : zM} (hm : zG kdC m)  : ∀ (n : Nat) (o0 : Nat) (x1 : Int) (x2 : Int), kdC o0 = (0, 10) → cI x1 → cI x2 → Zo_guestCalled_L2 m n o0 x1 x2 = some o → GoAt K m [(0, .ref (kB K + o0)), (1, mI x1), (2, mI x2)] [] 2 (0, o, m)
  | 0, o0, x1, x2, ko0, cx1, cx2, h => by cases h
  | n + 1, o0, x1, x2, ko0, cx1, cx2, h => w_Zo_guestCalled_B2 hk  (w_Zo_guestCalled_L2 hk hm  n) hm ko0 cx1 cx2 h
set_option maxRecDepth 100000 in
set_option maxHeartbeats 4000000 in
theorem w_Zo_guestCalled {K : zK} (hk : zOk K kdC cX10_guestCalled 3 (some .int) RX10 0)  {o0 : Nat} {x1 : Int} {m : zM} {o : Int}  (hm : zG kdC m) (ko0 : kdC o0 = (0, 10)) (cx1 : cI x1) (h : Zo_guestCalled o0 x1 m = some o) : GoAt K m [(0, .ref (kB K + o0)), (1, mI x1)] [] 0 (0, o, m) := by
  unfold Zo_guestCalled at h
  refine g_iconst hk (v := 0) rfl dX10_guestCalled_0 ?_
  refine g_istore_n hk rfl (lv' := [(2, mI 0), (0, .ref (kB K + o0)), (1, mI x1)]) (Nat.le_of_ble_eq_true rfl) rfl dX10_guestCalled_1 ?_
  refine GoAt.sub [1, 2, 0] rfl ?_
  refine w_Zo_guestCalled_L2 hk hm  1000000 _ _ _ ko0 cx1 (cIk rfl) h
theorem met_Zo_guestCalled (l : Launch) (D : va_G) (aC : Nat → ClassId) (B N : Nat) (hwd : ∀ id, (kdC id).1 ≠ 9 → id < N) {o0 : Nat} {x1 : Int} {m : zM} {o : Int} (hm : zG kdC m) (ko0 : kdC o0 = (0, 10)) (cx1 : cI x1) (h : Zo_guestCalled o0 x1 m = some o) : zMet l yX10_guestCalled cX10_guestCalled 3 (some .int) 0 D aC B kdC N [.ref (B + o0), mI x1] m (0, o, m) := by
  refine zMet.of mf_X10_guestCalled hwd hm (Nat.le_of_ble_eq_true rfl) (fun K e1 e2 e3 e4 e5 hk => ?_)
  subst e4
  exact w_Zo_guestCalled hk hm ko0 cx1 h
set_option maxRecDepth 100000 in
set_option maxHeartbeats 4000000 in
theorem w_Pa_newName {K : zK} (hk : zOk K kdC cX5_newName 1 (some .boolean) RX5 1)  {m : zM} {o : Int × zM}  (hm : zG kdC m)  (h : Pa_newName m = some o) : GoAt K m [(0, .ref (kB K + 1))] [] 0 (4, o.1, o.2) := by
  unfold Pa_newName at h
  refine g_aload_n hk 0 rfl dX5_newName_0 ?_
  obtain ⟨r1, e2, h⟩ := zbind h
  refine g_callVi hk (st := []) mf_X5_kind lk_X5_40 mv_X5_kind kdC_1 (by decide) rfl (Nat.le_of_ble_eq_true rfl) rfl dX5_newName_1 (met_Pa_kind _ _ _ _ _ hk.wd hm e2) (fun hm c3 => ?_)
  refine g_sipush hk (v := 258) rfl dX5_newName_4 ?_
  refine g_icmp_eq hk c3 (cIk rfl) dX5_newName_7 h (fun b4 h => ?_) (fun b4 h => ?_)
  · refine g_aload_n hk 0 rfl dX5_newName_16 ?_
    refine g_aload_n hk 0 rfl dX5_newName_17 ?_
    refine g_get2 hk fl_X5_12 rfl kdC_1 hm (b := 2) rfl dX5_newName_18 ?_
    refine g_get2 hk fl_X5_175 rfl kdC_2 hm (b := 6) rfl dX5_newName_21 ?_
    refine g_aload_n hk 0 rfl dX5_newName_24 ?_
    have g5 := zGI (i := 7) hm kdC_1 rfl
    refine g_get0 hk fl_X5_34 rfl (j := 7) rfl kdC_1 dX5_newName_25 ?_
    refine g_iald hk g5 kdC_6 hm dX5_newName_28 h (fun y6 cy6 h => ?_)
    refine g_put0 hk fp_X5_92 rfl (j := 8) rfl kdC_1 cy6 dX5_newName_29 h hm (fun m7 hm h => ?_)
    refine g_aload_n hk 0 rfl dX5_newName_32 ?_
    refine g_get3o hk fl_X5_22 rfl (j := 3) rfl kdC_1 dX5_newName_33 h (fun zz8 kzz8 h => ?_)
    refine g_aload_n hk 0 rfl dX5_newName_36 ?_
    have g9 := zGI (i := 8) hm kdC_1 rfl
    refine g_get0 hk fl_X5_92 rfl (j := 8) rfl kdC_1 dX5_newName_37 ?_
    obtain ⟨r10, e11, h⟩ := zbind h
    refine g_callVi hk (st := []) mf_X10_beastCalled lk_X5_178 mv_X10_beastCalled kzz8 (by decide) rfl (Nat.le_of_ble_eq_true rfl) rfl dX5_newName_40 (met_Zo_beastCalled _ _ _ _ _ hk.wd hm kzz8 g9 e11) (fun hm c12 => ?_)
    refine g_iconst hk (v := (-1)) rfl dX5_newName_43 ?_
    refine g_icmp_ne hk c12 (cIk rfl) dX5_newName_44 h (fun b13 h => ?_) (fun b13 h => ?_)
    · refine g_aload_n hk 0 rfl dX5_newName_47 ?_
      refine g_get3o hk fl_X5_22 rfl (j := 3) rfl kdC_1 dX5_newName_48 h (fun zz14 kzz14 h => ?_)
      refine g_aload_n hk 0 rfl dX5_newName_51 ?_
      have g15 := zGI (i := 8) hm kdC_1 rfl
      refine g_get0 hk fl_X5_92 rfl (j := 8) rfl kdC_1 dX5_newName_52 ?_
      obtain ⟨r16, e17, h⟩ := zbind h
      refine g_callVi hk (st := []) mf_X10_guestCalled lk_X5_182 mv_X10_guestCalled kzz14 (by decide) rfl (Nat.le_of_ble_eq_true rfl) rfl dX5_newName_55 (met_Zo_guestCalled _ _ _ _ _ hk.wd hm kzz14 g15 e17) (fun hm c18 => ?_)
      refine g_iconst hk (v := (-1)) rfl dX5_newName_58 ?_
      refine g_icmp_eq hk c18 (cIk rfl) dX5_newName_59 h (fun b19 h => ?_) (fun b19 h => ?_)
      · refine g_aload_n hk 0 rfl dX5_newName_68 ?_
        refine g_dup hk rfl dX5_newName_69 ?_
        have g20 := zGI (i := 7) hm kdC_1 rfl
        refine g_get0 hk fl_X5_34 rfl (j := 7) rfl kdC_1 dX5_newName_70 ?_
        refine g_iconst hk (v := 1) rfl dX5_newName_73 ?_
        refine g_iadd hk dX5_newName_74 ?_
        refine g_put0 hk fp_X5_34 rfl (j := 7) rfl kdC_1 (wI_c _) dX5_newName_75 h hm (fun m21 hm h => ?_)
        refine g_iconst hk (v := 1) rfl dX5_newName_78 ?_
        exact g_zreturn hk z1 dX5_newName_79 (by cases h; rfl)
      · refine g_aload_n hk 0 rfl dX5_newName_62 ?_
        refine g_iconst hk (v := 2) rfl dX5_newName_63 ?_
        obtain ⟨r22, e23, h⟩ := zbind h
        refine g_callVz hk (st := []) mf_X5_fail lk_X5_44 mv_X5_fail kdC_1 (by decide) rfl (Nat.le_of_ble_eq_true rfl) rfl dX5_newName_64 (met_Pa_fail _ _ _ _ _ hk.wd hm (cIk rfl) e23) (fun hm c24 => ?_)
        exact g_zreturn hk c24 dX5_newName_67 (by cases h; rfl)
    · refine g_aload_n hk 0 rfl dX5_newName_62 ?_
      refine g_iconst hk (v := 2) rfl dX5_newName_63 ?_
      obtain ⟨r25, e26, h⟩ := zbind h
      refine g_callVz hk (st := []) mf_X5_fail lk_X5_44 mv_X5_fail kdC_1 (by decide) rfl (Nat.le_of_ble_eq_true rfl) rfl dX5_newName_64 (met_Pa_fail _ _ _ _ _ hk.wd hm (cIk rfl) e26) (fun hm c27 => ?_)
      exact g_zreturn hk c27 dX5_newName_67 (by cases h; rfl)
  · refine g_aload_n hk 0 rfl dX5_newName_10 ?_
    refine g_iconst hk (v := 1) rfl dX5_newName_11 ?_
    obtain ⟨r28, e29, h⟩ := zbind h
    refine g_callVz hk (st := []) mf_X5_fail lk_X5_44 mv_X5_fail kdC_1 (by decide) rfl (Nat.le_of_ble_eq_true rfl) rfl dX5_newName_12 (met_Pa_fail _ _ _ _ _ hk.wd hm (cIk rfl) e29) (fun hm c30 => ?_)
    exact g_zreturn hk c30 dX5_newName_15 (by cases h; rfl)
theorem met_Pa_newName (l : Launch) (D : va_G) (aC : Nat → ClassId) (B N : Nat) (hwd : ∀ id, (kdC id).1 ≠ 9 → id < N) {m : zM} {o : Int × zM} (hm : zG kdC m)  (h : Pa_newName m = some o) : zMet l yX5_newName cX5_newName 1 (some .boolean) 1 D aC B kdC N [.ref (B + 1)] m (4, o.1, o.2) := by
  refine zMet.of mf_X5_newName hwd hm (Nat.le_of_ble_eq_true rfl) (fun K e1 e2 e3 e4 e5 hk => ?_)
  subst e4
  exact w_Pa_newName hk hm  h
set_option maxRecDepth 100000 in
set_option maxHeartbeats 4000000 in
theorem w_Pa_token {K : zK} (hk : zOk K kdC cX5_token 2 (some .boolean) RX5 1)  {x1 : Int} {m : zM} {o : Int × zM}  (hm : zG kdC m) (cx1 : cI x1) (h : Pa_token x1 m = some o) : GoAt K m [(0, .ref (kB K + 1)), (1, mI x1)] [] 0 (4, o.1, o.2) := by
  unfold Pa_token at h
  refine g_aload_n hk 0 rfl dX5_token_0 ?_
  obtain ⟨r1, e2, h⟩ := zbind h
  refine g_callVi hk (st := []) mf_X5_kind lk_X5_40 mv_X5_kind kdC_1 (by decide) rfl (Nat.le_of_ble_eq_true rfl) rfl dX5_token_1 (met_Pa_kind _ _ _ _ _ hk.wd hm e2) (fun hm c3 => ?_)
  refine g_iload_n hk 1 rfl dX5_token_4 ?_
  refine g_icmp_eq hk c3 cx1 dX5_token_5 h (fun b4 h => ?_) (fun b4 h => ?_)
  · refine g_aload_n hk 0 rfl dX5_token_14 ?_
    refine g_dup hk rfl dX5_token_15 ?_
    have g5 := zGI (i := 7) hm kdC_1 rfl
    refine g_get0 hk fl_X5_34 rfl (j := 7) rfl kdC_1 dX5_token_16 ?_
    refine g_iconst hk (v := 1) rfl dX5_token_19 ?_
    refine g_iadd hk dX5_token_20 ?_
    refine g_put0 hk fp_X5_34 rfl (j := 7) rfl kdC_1 (wI_c _) dX5_token_21 h hm (fun m6 hm h => ?_)
    refine g_iconst hk (v := 1) rfl dX5_token_24 ?_
    exact g_zreturn hk z1 dX5_token_25 (by cases h; rfl)
  · refine g_aload_n hk 0 rfl dX5_token_8 ?_
    refine g_iconst hk (v := 1) rfl dX5_token_9 ?_
    obtain ⟨r7, e8, h⟩ := zbind h
    refine g_callVz hk (st := []) mf_X5_fail lk_X5_44 mv_X5_fail kdC_1 (by decide) rfl (Nat.le_of_ble_eq_true rfl) rfl dX5_token_10 (met_Pa_fail _ _ _ _ _ hk.wd hm (cIk rfl) e8) (fun hm c9 => ?_)
    exact g_zreturn hk c9 dX5_token_13 (by cases h; rfl)
theorem met_Pa_token (l : Launch) (D : va_G) (aC : Nat → ClassId) (B N : Nat) (hwd : ∀ id, (kdC id).1 ≠ 9 → id < N) {x1 : Int} {m : zM} {o : Int × zM} (hm : zG kdC m) (cx1 : cI x1) (h : Pa_token x1 m = some o) : zMet l yX5_token cX5_token 2 (some .boolean) 1 D aC B kdC N [.ref (B + 1), mI x1] m (4, o.1, o.2) := by
  refine zMet.of mf_X5_token hwd hm (Nat.le_of_ble_eq_true rfl) (fun K e1 e2 e3 e4 e5 hk => ?_)
  subst e4
  exact w_Pa_token hk hm cx1 h
set_option maxRecDepth 100000 in
set_option maxHeartbeats 4000000 in
theorem w_Pa_number {K : zK} (hk : zOk K kdC cX5_number 3 (some .boolean) RX5 1)  {x1 : Int} {x2 : Int} {m : zM} {o : Int × zM}  (hm : zG kdC m) (cx1 : cI x1) (cx2 : cI x2) (h : Pa_number x1 x2 m = some o) : GoAt K m [(0, .ref (kB K + 1)), (1, mI x1), (2, mI x2)] [] 0 (4, o.1, o.2) := by
  unfold Pa_number at h
  refine g_aload_n hk 0 rfl dX5_number_0 ?_
  obtain ⟨r1, e2, h⟩ := zbind h
  refine g_callVi hk (st := []) mf_X5_kind lk_X5_40 mv_X5_kind kdC_1 (by decide) rfl (Nat.le_of_ble_eq_true rfl) rfl dX5_number_1 (met_Pa_kind _ _ _ _ _ hk.wd hm e2) (fun hm c3 => ?_)
  refine g_sipush hk (v := 259) rfl dX5_number_4 ?_
  refine g_icmp_eq hk c3 (cIk rfl) dX5_number_7 h (fun b4 h => ?_) (fun b4 h => ?_)
  · refine g_aload_n hk 0 rfl dX5_number_16 ?_
    refine g_aload_n hk 0 rfl dX5_number_17 ?_
    refine g_get2 hk fl_X5_12 rfl kdC_1 hm (b := 2) rfl dX5_number_18 ?_
    refine g_get2 hk fl_X5_175 rfl kdC_2 hm (b := 6) rfl dX5_number_21 ?_
    refine g_aload_n hk 0 rfl dX5_number_24 ?_
    have g5 := zGI (i := 7) hm kdC_1 rfl
    refine g_get0 hk fl_X5_34 rfl (j := 7) rfl kdC_1 dX5_number_25 ?_
    refine g_iald hk g5 kdC_6 hm dX5_number_28 h (fun y6 cy6 h => ?_)
    refine g_put0 hk fp_X5_92 rfl (j := 8) rfl kdC_1 cy6 dX5_number_29 h hm (fun m7 hm h => ?_)
    refine g_aload_n hk 0 rfl dX5_number_32 ?_
    have g8 := zGI (i := 8) hm kdC_1 rfl
    refine g_get0 hk fl_X5_92 rfl (j := 8) rfl kdC_1 dX5_number_33 ?_
    refine g_iload_n hk 1 rfl dX5_number_36 ?_
    refine g_icmp_lt hk g8 cx1 dX5_number_37 h (fun b9 h => ?_) (fun b9 h => ?_)
    · refine g_aload_n hk 0 rfl dX5_number_48 ?_
      refine g_iconst hk (v := 4) rfl dX5_number_49 ?_
      obtain ⟨r10, e11, h⟩ := zbind h
      refine g_callVz hk (st := []) mf_X5_fail lk_X5_44 mv_X5_fail kdC_1 (by decide) rfl (Nat.le_of_ble_eq_true rfl) rfl dX5_number_50 (met_Pa_fail _ _ _ _ _ hk.wd hm (cIk rfl) e11) (fun hm c12 => ?_)
      exact g_zreturn hk c12 dX5_number_53 (by cases h; rfl)
    · refine g_aload_n hk 0 rfl dX5_number_40 ?_
      have g13 := zGI (i := 8) hm kdC_1 rfl
      refine g_get0 hk fl_X5_92 rfl (j := 8) rfl kdC_1 dX5_number_41 ?_
      refine g_iload_n hk 2 rfl dX5_number_44 ?_
      refine g_icmp_le hk g13 cx2 dX5_number_45 h (fun b14 h => ?_) (fun b14 h => ?_)
      · refine g_aload_n hk 0 rfl dX5_number_48 ?_
        refine g_iconst hk (v := 4) rfl dX5_number_49 ?_
        obtain ⟨r15, e16, h⟩ := zbind h
        refine g_callVz hk (st := []) mf_X5_fail lk_X5_44 mv_X5_fail kdC_1 (by decide) rfl (Nat.le_of_ble_eq_true rfl) rfl dX5_number_50 (met_Pa_fail _ _ _ _ _ hk.wd hm (cIk rfl) e16) (fun hm c17 => ?_)
        exact g_zreturn hk c17 dX5_number_53 (by cases h; rfl)
      · refine g_aload_n hk 0 rfl dX5_number_54 ?_
        refine g_dup hk rfl dX5_number_55 ?_
        have g18 := zGI (i := 7) hm kdC_1 rfl
        refine g_get0 hk fl_X5_34 rfl (j := 7) rfl kdC_1 dX5_number_56 ?_
        refine g_iconst hk (v := 1) rfl dX5_number_59 ?_
        refine g_iadd hk dX5_number_60 ?_
        refine g_put0 hk fp_X5_34 rfl (j := 7) rfl kdC_1 (wI_c _) dX5_number_61 h hm (fun m19 hm h => ?_)
        refine g_iconst hk (v := 1) rfl dX5_number_64 ?_
        exact g_zreturn hk z1 dX5_number_65 (by cases h; rfl)
  · refine g_aload_n hk 0 rfl dX5_number_10 ?_
    refine g_iconst hk (v := 1) rfl dX5_number_11 ?_
    obtain ⟨r20, e21, h⟩ := zbind h
    refine g_callVz hk (st := []) mf_X5_fail lk_X5_44 mv_X5_fail kdC_1 (by decide) rfl (Nat.le_of_ble_eq_true rfl) rfl dX5_number_12 (met_Pa_fail _ _ _ _ _ hk.wd hm (cIk rfl) e21) (fun hm c22 => ?_)
    exact g_zreturn hk c22 dX5_number_15 (by cases h; rfl)
theorem met_Pa_number (l : Launch) (D : va_G) (aC : Nat → ClassId) (B N : Nat) (hwd : ∀ id, (kdC id).1 ≠ 9 → id < N) {x1 : Int} {x2 : Int} {m : zM} {o : Int × zM} (hm : zG kdC m) (cx1 : cI x1) (cx2 : cI x2) (h : Pa_number x1 x2 m = some o) : zMet l yX5_number cX5_number 3 (some .boolean) 1 D aC B kdC N [.ref (B + 1), mI x1, mI x2] m (4, o.1, o.2) := by
  refine zMet.of mf_X5_number hwd hm (Nat.le_of_ble_eq_true rfl) (fun K e1 e2 e3 e4 e5 hk => ?_)
  subst e4
  exact w_Pa_number hk hm cx1 cx2 h
set_option maxRecDepth 100000 in
set_option maxHeartbeats 4000000 in
theorem w_C_setTriple {K : zK} (hk : zOk K kdC cX11_setTriple 5 none RX11 0)  {a0 : Nat} {n0 : Nat} {x1 : Int} {x2 : Int} {x3 : Int} {x4 : Int} {m : zM} {o : zM}  (hm : zG kdC m) (ka0 : kdC a0 = (1, n0)) (cx1 : cI x1) (cx2 : cI x2) (cx3 : cI x3) (cx4 : cI x4) (h : C_setTriple a0 n0 x1 x2 x3 x4 m = some o) : GoAt K m [(0, .ref (kB K + a0)), (1, mI x1), (2, mI x2), (3, mI x3), (4, mI x4)] [] 0 (9, 0, o) := by
  unfold C_setTriple at h
  refine g_aload_n hk 0 rfl dX11_setTriple_0 ?_
  refine g_iload_n hk 1 rfl dX11_setTriple_1 ?_
  refine g_iload_n hk 2 rfl dX11_setTriple_2 ?_
  refine g_iast hk cx1 cx2 ka0 hm dX11_setTriple_3 h (fun m1 hm h => ?_)
  refine g_aload_n hk 0 rfl dX11_setTriple_4 ?_
  refine g_iload_n hk 1 rfl dX11_setTriple_5 ?_
  refine g_iconst hk (v := 1) rfl dX11_setTriple_6 ?_
  refine g_iadd hk dX11_setTriple_7 ?_
  refine g_iload_n hk 3 rfl dX11_setTriple_8 ?_
  refine g_iast hk (wI_c _) cx3 ka0 hm dX11_setTriple_9 h (fun m2 hm h => ?_)
  refine g_aload_n hk 0 rfl dX11_setTriple_10 ?_
  refine g_iload_n hk 1 rfl dX11_setTriple_11 ?_
  refine g_iconst hk (v := 2) rfl dX11_setTriple_12 ?_
  refine g_iadd hk dX11_setTriple_13 ?_
  refine g_iload hk 4 rfl dX11_setTriple_14 ?_
  refine g_iast hk (wI_c _) cx4 ka0 hm dX11_setTriple_16 h (fun m3 hm h => ?_)
  exact g_return hk dX11_setTriple_17 (by cases h; rfl)
theorem met_C_setTriple (l : Launch) (D : va_G) (aC : Nat → ClassId) (B N : Nat) (hwd : ∀ id, (kdC id).1 ≠ 9 → id < N) {a0 : Nat} {n0 : Nat} {x1 : Int} {x2 : Int} {x3 : Int} {x4 : Int} {m : zM} {o : zM} (hm : zG kdC m) (ka0 : kdC a0 = (1, n0)) (cx1 : cI x1) (cx2 : cI x2) (cx3 : cI x3) (cx4 : cI x4) (h : C_setTriple a0 n0 x1 x2 x3 x4 m = some o) : zMet l yX11_setTriple cX11_setTriple 5 none 0 D aC B kdC N [.ref (B + a0), mI x1, mI x2, mI x3, mI x4] m (9, 0, o) := by
  refine zMet.of mf_X11_setTriple hwd hm (Nat.le_of_ble_eq_true rfl) (fun K e1 e2 e3 e4 e5 hk => ?_)
  subst e4
  exact w_C_setTriple hk hm ka0 cx1 cx2 cx3 cx4 h
set_option maxRecDepth 100000 in
set_option maxHeartbeats 4000000 in
theorem w_Zo_addBeast {K : zK} (hk : zOk K kdC cX10_addBeast 5 none RX10 1)  {o0 : Nat} {x1 : Int} {x2 : Int} {x3 : Int} {x4 : Int} {m : zM} {o : zM}  (hm : zG kdC m) (ko0 : kdC o0 = (0, 10)) (cx1 : cI x1) (cx2 : cI x2) (cx3 : cI x3) (cx4 : cI x4) (h : Zo_addBeast o0 x1 x2 x3 x4 m = some o) : GoAt K m [(0, .ref (kB K + o0)), (1, mI x1), (2, mI x2), (3, mI x3), (4, mI x4)] [] 0 (9, 0, o) := by
  unfold Zo_addBeast at h
  refine g_aload_n hk 0 rfl dX10_addBeast_0 ?_
  have g1 := zGI (i := 0) hm ko0 rfl
  refine g_get0 hk fl_X10_65 rfl (j := 0) rfl ko0 dX10_addBeast_1 ?_
  refine g_bipush hk (v := 6) rfl dX10_addBeast_4 ?_
  refine g_icmp_ge hk g1 (cIk rfl) dX10_addBeast_6 h (fun b2 h => ?_) (fun b2 h => ?_)
  · refine g_aload_n hk 0 rfl dX10_addBeast_9 ?_
    refine g_get2 hk fl_X10_9 rfl ko0 hm (b := o0 + 1) rfl dX10_addBeast_10 ?_
    refine g_aload_n hk 0 rfl dX10_addBeast_13 ?_
    have g3 := zGI (i := 0) hm ko0 rfl
    refine g_get0 hk fl_X10_65 rfl (j := 0) rfl ko0 dX10_addBeast_14 ?_
    refine g_iload_n hk 1 rfl dX10_addBeast_17 ?_
    refine g_iast hk g3 cx1 (kdC_s10_2 ko0) hm dX10_addBeast_18 h (fun m4 hm h => ?_)
    refine g_aload_n hk 0 rfl dX10_addBeast_19 ?_
    refine g_get2 hk fl_X10_15 rfl ko0 hm (b := o0 + 2) rfl dX10_addBeast_20 ?_
    refine g_aload_n hk 0 rfl dX10_addBeast_23 ?_
    have g5 := zGI (i := 0) hm ko0 rfl
    refine g_get0 hk fl_X10_65 rfl (j := 0) rfl ko0 dX10_addBeast_24 ?_
    refine g_iload_n hk 2 rfl dX10_addBeast_27 ?_
    refine g_iast hk g5 cx2 (kdC_s10_3 ko0) hm dX10_addBeast_28 h (fun m6 hm h => ?_)
    refine g_aload_n hk 0 rfl dX10_addBeast_29 ?_
    refine g_get2 hk fl_X10_18 rfl ko0 hm (b := o0 + 3) rfl dX10_addBeast_30 ?_
    refine g_aload_n hk 0 rfl dX10_addBeast_33 ?_
    have g7 := zGI (i := 0) hm ko0 rfl
    refine g_get0 hk fl_X10_65 rfl (j := 0) rfl ko0 dX10_addBeast_34 ?_
    refine g_iload_n hk 3 rfl dX10_addBeast_37 ?_
    refine g_iast hk g7 cx3 (kdC_s10_4 ko0) hm dX10_addBeast_38 h (fun m8 hm h => ?_)
    refine g_aload_n hk 0 rfl dX10_addBeast_39 ?_
    refine g_get2 hk fl_X10_21 rfl ko0 hm (b := o0 + 4) rfl dX10_addBeast_40 ?_
    refine g_aload_n hk 0 rfl dX10_addBeast_43 ?_
    have g9 := zGI (i := 0) hm ko0 rfl
    refine g_get0 hk fl_X10_65 rfl (j := 0) rfl ko0 dX10_addBeast_44 ?_
    refine g_iload hk 4 rfl dX10_addBeast_47 ?_
    refine g_iast hk g9 cx4 (kdC_s10_5 ko0) hm dX10_addBeast_49 h (fun m10 hm h => ?_)
    refine g_aload_n hk 0 rfl dX10_addBeast_50 ?_
    refine g_get2 hk fl_X10_24 rfl ko0 hm (b := o0 + 5) rfl dX10_addBeast_51 ?_
    refine g_aload_n hk 0 rfl dX10_addBeast_54 ?_
    have g11 := zGI (i := 0) hm ko0 rfl
    refine g_get0 hk fl_X10_65 rfl (j := 0) rfl ko0 dX10_addBeast_55 ?_
    refine g_iconst hk (v := 3) rfl dX10_addBeast_58 ?_
    refine g_imul hk dX10_addBeast_59 ?_
    refine g_iconst hk (v := 1) rfl dX10_addBeast_60 ?_
    refine g_iconst hk (v := 1) rfl dX10_addBeast_61 ?_
    refine g_iconst hk (v := 1) rfl dX10_addBeast_62 ?_
    obtain ⟨r12, e13, h⟩ := zbind h
    refine g_callNv hk (st := []) mf_X11_setTriple lk_X10_77 ms_X11_setTriple (by decide) rfl (Nat.le_of_ble_eq_true rfl) rfl dX10_addBeast_63 (met_C_setTriple _ _ _ _ _ hk.wd hm (kdC_s10_6 ko0) (wI_c _) (cIk rfl) (cIk rfl) (cIk rfl) e13) (fun hm => ?_)
    refine g_aload_n hk 0 rfl dX10_addBeast_66 ?_
    refine g_dup hk rfl dX10_addBeast_67 ?_
    have g15 := zGI (i := 0) hm ko0 rfl
    refine g_get0 hk fl_X10_65 rfl (j := 0) rfl ko0 dX10_addBeast_68 ?_
    refine g_iconst hk (v := 1) rfl dX10_addBeast_71 ?_
    refine g_iadd hk dX10_addBeast_72 ?_
    refine g_put0 hk fp_X10_65 rfl (j := 0) rfl ko0 (wI_c _) dX10_addBeast_73 h hm (fun m16 hm h => ?_)
    exact g_return hk dX10_addBeast_76 (by cases h; rfl)
  · exact g_return hk dX10_addBeast_76 (by cases h; rfl)
theorem met_Zo_addBeast (l : Launch) (D : va_G) (aC : Nat → ClassId) (B N : Nat) (hwd : ∀ id, (kdC id).1 ≠ 9 → id < N) {o0 : Nat} {x1 : Int} {x2 : Int} {x3 : Int} {x4 : Int} {m : zM} {o : zM} (hm : zG kdC m) (ko0 : kdC o0 = (0, 10)) (cx1 : cI x1) (cx2 : cI x2) (cx3 : cI x3) (cx4 : cI x4) (h : Zo_addBeast o0 x1 x2 x3 x4 m = some o) : zMet l yX10_addBeast cX10_addBeast 5 none 1 D aC B kdC N [.ref (B + o0), mI x1, mI x2, mI x3, mI x4] m (9, 0, o) := by
  refine zMet.of mf_X10_addBeast hwd hm (Nat.le_of_ble_eq_true rfl) (fun K e1 e2 e3 e4 e5 hk => ?_)
  subst e4
  exact w_Zo_addBeast hk hm ko0 cx1 cx2 cx3 cx4 h
set_option maxRecDepth 100000 in
set_option maxHeartbeats 4000000 in
theorem w_Pa_beastStatement {K : zK} (hk : zOk K kdC cX5_beastStatement 4 (some .boolean) RX5 2)  {m : zM} {o : Int × zM}  (hm : zG kdC m)  (h : Pa_beastStatement m = some o) : GoAt K m [(0, .ref (kB K + 1))] [] 0 (4, o.1, o.2) := by
  unfold Pa_beastStatement at h
  refine g_aload_n hk 0 rfl dX5_beastStatement_0 ?_
  refine g_get3o hk fl_X5_22 rfl (j := 3) rfl kdC_1 dX5_beastStatement_1 h (fun zz1 kzz1 h => ?_)
  have g2 := zGI (i := 0) hm kzz1 rfl
  refine g_get0 hk fl_X5_86 rfl (j := 0) rfl kzz1 dX5_beastStatement_4 ?_
  refine g_bipush hk (v := 6) rfl dX5_beastStatement_7 ?_
  refine g_icmp_lt hk g2 (cIk rfl) dX5_beastStatement_9 h (fun b3 h => ?_) (fun b3 h => ?_)
  · refine g_aload_n hk 0 rfl dX5_beastStatement_19 ?_
    refine g_dup hk rfl dX5_beastStatement_20 ?_
    have g4 := zGI (i := 7) hm kdC_1 rfl
    refine g_get0 hk fl_X5_34 rfl (j := 7) rfl kdC_1 dX5_beastStatement_21 ?_
    refine g_iconst hk (v := 1) rfl dX5_beastStatement_24 ?_
    refine g_iadd hk dX5_beastStatement_25 ?_
    refine g_put0 hk fp_X5_34 rfl (j := 7) rfl kdC_1 (wI_c _) dX5_beastStatement_26 h hm (fun m5 hm h => ?_)
    refine g_aload_n hk 0 rfl dX5_beastStatement_29 ?_
    obtain ⟨r6, e7, h⟩ := zbind h
    refine g_callVz hk (st := []) mf_X5_newName lk_X5_89 mv_X5_newName kdC_1 (by decide) rfl (Nat.le_of_ble_eq_true rfl) rfl dX5_beastStatement_30 (met_Pa_newName _ _ _ _ _ hk.wd hm e7) (fun hm c8 => ?_)
    refine g_if_ne hk (b01 c8) dX5_beastStatement_33 h (fun b9 h => ?_) (fun b9 h => ?_)
    · refine g_iconst hk (v := 0) rfl dX5_beastStatement_36 ?_
      exact g_zreturn hk z0 dX5_beastStatement_37 (by cases h; rfl)
    · refine g_aload_n hk 0 rfl dX5_beastStatement_38 ?_
      have g10 := zGI (i := 8) hm kdC_1 rfl
      refine g_get0 hk fl_X5_92 rfl (j := 8) rfl kdC_1 dX5_beastStatement_39 ?_
      refine g_istore_n hk rfl (lv' := [(1, mI (r6.2 1 8)), (0, .ref (kB K + 1))]) (Nat.le_of_ble_eq_true rfl) rfl dX5_beastStatement_42 ?_
      refine g_aload_n hk 1 rfl dX5_beastStatement_43 ?_
      refine g_sipush hk (v := 301) rfl dX5_beastStatement_44 ?_
      obtain ⟨r11, e12, h⟩ := zbind h
      refine g_callVz hk (st := []) mf_X5_token lk_X5_52 mv_X5_token kdC_1 (by decide) rfl (Nat.le_of_ble_eq_true rfl) rfl dX5_beastStatement_47 (met_Pa_token _ _ _ _ _ hk.wd hm (cIk rfl) e12) (fun hm c13 => ?_)
      refine g_if_eq hk (b01 c13) dX5_beastStatement_50 h (fun b14 h => ?_) (fun b14 h => ?_)
      · refine g_iconst hk (v := 0) rfl dX5_beastStatement_63 ?_
        exact g_zreturn hk z0 dX5_beastStatement_64 (by cases h; rfl)
      · refine g_aload_n hk 1 rfl dX5_beastStatement_53 ?_
        refine g_iconst hk (v := 0) rfl dX5_beastStatement_54 ?_
        refine g_bipush hk (v := 23) rfl dX5_beastStatement_55 ?_
        obtain ⟨r15, e16, h⟩ := zbind h
        refine g_callVz hk (st := []) mf_X5_number lk_X5_95 mv_X5_number kdC_1 (by decide) rfl (Nat.le_of_ble_eq_true rfl) rfl dX5_beastStatement_57 (met_Pa_number _ _ _ _ _ hk.wd hm (cIk rfl) (cIk rfl) e16) (fun hm c17 => ?_)
        refine g_if_ne hk (b01 c17) dX5_beastStatement_60 h (fun b18 h => ?_) (fun b18 h => ?_)
        · refine g_iconst hk (v := 0) rfl dX5_beastStatement_63 ?_
          exact g_zreturn hk z0 dX5_beastStatement_64 (by cases h; rfl)
        · refine g_aload_n hk 1 rfl dX5_beastStatement_65 ?_
          have g19 := zGI (i := 8) hm kdC_1 rfl
          refine g_get0 hk fl_X5_92 rfl (j := 8) rfl kdC_1 dX5_beastStatement_66 ?_
          refine g_istore_n hk rfl (lv' := [(2, mI (r15.2 1 8)), (1, mI (r6.2 1 8)), (0, .ref (kB K + 1))]) (Nat.le_of_ble_eq_true rfl) rfl dX5_beastStatement_69 ?_
          refine g_aload_n hk 2 rfl dX5_beastStatement_70 ?_
          refine g_sipush hk (v := 302) rfl dX5_beastStatement_71 ?_
          obtain ⟨r20, e21, h⟩ := zbind h
          refine g_callVz hk (st := []) mf_X5_token lk_X5_52 mv_X5_token kdC_1 (by decide) rfl (Nat.le_of_ble_eq_true rfl) rfl dX5_beastStatement_74 (met_Pa_token _ _ _ _ _ hk.wd hm (cIk rfl) e21) (fun hm c22 => ?_)
          refine g_if_eq hk (b01 c22) dX5_beastStatement_77 h (fun b23 h => ?_) (fun b23 h => ?_)
          · refine g_iconst hk (v := 0) rfl dX5_beastStatement_90 ?_
            exact g_zreturn hk z0 dX5_beastStatement_91 (by cases h; rfl)
          · refine g_aload_n hk 2 rfl dX5_beastStatement_80 ?_
            refine g_iload_n hk 0 rfl dX5_beastStatement_81 ?_
            refine g_bipush hk (v := 23) rfl dX5_beastStatement_82 ?_
            obtain ⟨r24, e25, h⟩ := zbind h
            refine g_callVz hk (st := []) mf_X5_number lk_X5_95 mv_X5_number kdC_1 (by decide) rfl (Nat.le_of_ble_eq_true rfl) rfl dX5_beastStatement_84 (met_Pa_number _ _ _ _ _ hk.wd hm g19 (cIk rfl) e25) (fun hm c26 => ?_)
            refine g_if_ne hk (b01 c26) dX5_beastStatement_87 h (fun b27 h => ?_) (fun b27 h => ?_)
            · refine g_iconst hk (v := 0) rfl dX5_beastStatement_90 ?_
              exact g_zreturn hk z0 dX5_beastStatement_91 (by cases h; rfl)
            · refine g_aload_n hk 2 rfl dX5_beastStatement_92 ?_
              have g28 := zGI (i := 8) hm kdC_1 rfl
              refine g_get0 hk fl_X5_92 rfl (j := 8) rfl kdC_1 dX5_beastStatement_93 ?_
              refine g_istore_n hk rfl (lv' := [(3, mI (r24.2 1 8)), (2, mI (r15.2 1 8)), (1, mI (r6.2 1 8)), (0, .ref (kB K + 1))]) (Nat.le_of_ble_eq_true rfl) rfl dX5_beastStatement_96 ?_
              refine g_aload_n hk 3 rfl dX5_beastStatement_97 ?_
              refine g_sipush hk (v := 303) rfl dX5_beastStatement_98 ?_
              obtain ⟨r29, e30, h⟩ := zbind h
              refine g_callVz hk (st := []) mf_X5_token lk_X5_52 mv_X5_token kdC_1 (by decide) rfl (Nat.le_of_ble_eq_true rfl) rfl dX5_beastStatement_101 (met_Pa_token _ _ _ _ _ hk.wd hm (cIk rfl) e30) (fun hm c31 => ?_)
              refine g_if_eq hk (b01 c31) dX5_beastStatement_104 h (fun b32 h => ?_) (fun b32 h => ?_)
              · refine g_iconst hk (v := 0) rfl dX5_beastStatement_117 ?_
                exact g_zreturn hk z0 dX5_beastStatement_118 (by cases h; rfl)
              · refine g_aload_n hk 3 rfl dX5_beastStatement_107 ?_
                refine g_iconst hk (v := 0) rfl dX5_beastStatement_108 ?_
                refine g_bipush hk (v := 99) rfl dX5_beastStatement_109 ?_
                obtain ⟨r33, e34, h⟩ := zbind h
                refine g_callVz hk (st := []) mf_X5_number lk_X5_95 mv_X5_number kdC_1 (by decide) rfl (Nat.le_of_ble_eq_true rfl) rfl dX5_beastStatement_111 (met_Pa_number _ _ _ _ _ hk.wd hm (cIk rfl) (cIk rfl) e34) (fun hm c35 => ?_)
                refine g_if_ne hk (b01 c35) dX5_beastStatement_114 h (fun b36 h => ?_) (fun b36 h => ?_)
                · refine g_iconst hk (v := 0) rfl dX5_beastStatement_117 ?_
                  exact g_zreturn hk z0 dX5_beastStatement_118 (by cases h; rfl)
                · refine g_aload_n hk 3 rfl dX5_beastStatement_119 ?_
                  refine g_get3o hk fl_X5_22 rfl (j := 3) rfl kdC_1 dX5_beastStatement_120 h (fun zz37 kzz37 h => ?_)
                  refine g_iload_n hk 2 rfl dX5_beastStatement_123 ?_
                  refine g_iload_n hk 1 rfl dX5_beastStatement_124 ?_
                  refine g_iload_n hk 0 rfl dX5_beastStatement_125 ?_
                  refine g_aload_n hk 3 rfl dX5_beastStatement_126 ?_
                  have g38 := zGI (i := 8) hm kdC_1 rfl
                  refine g_get0 hk fl_X5_92 rfl (j := 8) rfl kdC_1 dX5_beastStatement_127 ?_
                  obtain ⟨r39, e40, h⟩ := zbind h
                  refine g_callVv hk (st := []) mf_X10_addBeast lk_X5_99 mv_X10_addBeast kzz37 (by decide) rfl (Nat.le_of_ble_eq_true rfl) rfl dX5_beastStatement_130 (met_Zo_addBeast _ _ _ _ _ hk.wd hm kzz37 g10 g19 g28 g38 e40) (fun hm => ?_)
                  refine g_iconst hk (v := 1) rfl dX5_beastStatement_133 ?_
                  exact g_zreturn hk z1 dX5_beastStatement_134 (by cases h; rfl)
  · refine g_aload_n hk 0 rfl dX5_beastStatement_12 ?_
    refine g_bipush hk (v := 6) rfl dX5_beastStatement_13 ?_
    obtain ⟨r42, e43, h⟩ := zbind h
    refine g_callVz hk (st := []) mf_X5_fail lk_X5_44 mv_X5_fail kdC_1 (by decide) rfl (Nat.le_of_ble_eq_true rfl) rfl dX5_beastStatement_15 (met_Pa_fail _ _ _ _ _ hk.wd hm (cIk rfl) e43) (fun hm c44 => ?_)
    exact g_zreturn hk c44 dX5_beastStatement_18 (by cases h; rfl)
theorem met_Pa_beastStatement (l : Launch) (D : va_G) (aC : Nat → ClassId) (B N : Nat) (hwd : ∀ id, (kdC id).1 ≠ 9 → id < N) {m : zM} {o : Int × zM} (hm : zG kdC m)  (h : Pa_beastStatement m = some o) : zMet l yX5_beastStatement cX5_beastStatement 4 (some .boolean) 2 D aC B kdC N [.ref (B + 1)] m (4, o.1, o.2) := by
  refine zMet.of mf_X5_beastStatement hwd hm (Nat.le_of_ble_eq_true rfl) (fun K e1 e2 e3 e4 e5 hk => ?_)
  subst e4
  exact w_Pa_beastStatement hk hm  h
set_option maxRecDepth 100000 in
set_option maxHeartbeats 4000000 in
theorem w_Pa_knownBeast {K : zK} (hk : zOk K kdC cX5_knownBeast 1 (some .boolean) RX5 1)  {m : zM} {o : Int × zM}  (hm : zG kdC m)  (h : Pa_knownBeast m = some o) : GoAt K m [(0, .ref (kB K + 1))] [] 0 (4, o.1, o.2) := by
  unfold Pa_knownBeast at h
  refine g_aload_n hk 0 rfl dX5_knownBeast_0 ?_
  obtain ⟨r1, e2, h⟩ := zbind h
  refine g_callVi hk (st := []) mf_X5_kind lk_X5_40 mv_X5_kind kdC_1 (by decide) rfl (Nat.le_of_ble_eq_true rfl) rfl dX5_knownBeast_1 (met_Pa_kind _ _ _ _ _ hk.wd hm e2) (fun hm c3 => ?_)
  refine g_sipush hk (v := 258) rfl dX5_knownBeast_4 ?_
  refine g_icmp_eq hk c3 (cIk rfl) dX5_knownBeast_7 h (fun b4 h => ?_) (fun b4 h => ?_)
  · refine g_aload_n hk 0 rfl dX5_knownBeast_16 ?_
    refine g_aload_n hk 0 rfl dX5_knownBeast_17 ?_
    refine g_get3o hk fl_X5_22 rfl (j := 3) rfl kdC_1 dX5_knownBeast_18 h (fun zz5 kzz5 h => ?_)
    refine g_aload_n hk 0 rfl dX5_knownBeast_21 ?_
    refine g_get2 hk fl_X5_12 rfl kdC_1 hm (b := 2) rfl dX5_knownBeast_22 ?_
    refine g_get2 hk fl_X5_175 rfl kdC_2 hm (b := 6) rfl dX5_knownBeast_25 ?_
    refine g_aload_n hk 0 rfl dX5_knownBeast_28 ?_
    have g6 := zGI (i := 7) hm kdC_1 rfl
    refine g_get0 hk fl_X5_34 rfl (j := 7) rfl kdC_1 dX5_knownBeast_29 ?_
    refine g_iald hk g6 kdC_6 hm dX5_knownBeast_32 h (fun y7 cy7 h => ?_)
    obtain ⟨r8, e9, h⟩ := zbind h
    refine g_callVi hk (st := [.ref (kB K + 1)]) mf_X10_beastCalled lk_X5_178 mv_X10_beastCalled kzz5 (by decide) rfl (Nat.le_of_ble_eq_true rfl) rfl dX5_knownBeast_33 (met_Zo_beastCalled _ _ _ _ _ hk.wd hm kzz5 cy7 e9) (fun hm c10 => ?_)
    refine g_put0 hk fp_X5_92 rfl (j := 8) rfl kdC_1 c10 dX5_knownBeast_36 h hm (fun m11 hm h => ?_)
    refine g_aload_n hk 0 rfl dX5_knownBeast_39 ?_
    have g12 := zGI (i := 8) hm kdC_1 rfl
    refine g_get0 hk fl_X5_92 rfl (j := 8) rfl kdC_1 dX5_knownBeast_40 ?_
    refine g_iconst hk (v := (-1)) rfl dX5_knownBeast_43 ?_
    refine g_icmp_ne hk g12 (cIk rfl) dX5_knownBeast_44 h (fun b13 h => ?_) (fun b13 h => ?_)
    · refine g_aload_n hk 0 rfl dX5_knownBeast_47 ?_
      refine g_iconst hk (v := 3) rfl dX5_knownBeast_48 ?_
      obtain ⟨r14, e15, h⟩ := zbind h
      refine g_callVz hk (st := []) mf_X5_fail lk_X5_44 mv_X5_fail kdC_1 (by decide) rfl (Nat.le_of_ble_eq_true rfl) rfl dX5_knownBeast_49 (met_Pa_fail _ _ _ _ _ hk.wd hm (cIk rfl) e15) (fun hm c16 => ?_)
      exact g_zreturn hk c16 dX5_knownBeast_52 (by cases h; rfl)
    · refine g_aload_n hk 0 rfl dX5_knownBeast_53 ?_
      refine g_dup hk rfl dX5_knownBeast_54 ?_
      have g17 := zGI (i := 7) hm kdC_1 rfl
      refine g_get0 hk fl_X5_34 rfl (j := 7) rfl kdC_1 dX5_knownBeast_55 ?_
      refine g_iconst hk (v := 1) rfl dX5_knownBeast_58 ?_
      refine g_iadd hk dX5_knownBeast_59 ?_
      refine g_put0 hk fp_X5_34 rfl (j := 7) rfl kdC_1 (wI_c _) dX5_knownBeast_60 h hm (fun m18 hm h => ?_)
      refine g_iconst hk (v := 1) rfl dX5_knownBeast_63 ?_
      exact g_zreturn hk z1 dX5_knownBeast_64 (by cases h; rfl)
  · refine g_aload_n hk 0 rfl dX5_knownBeast_10 ?_
    refine g_iconst hk (v := 1) rfl dX5_knownBeast_11 ?_
    obtain ⟨r19, e20, h⟩ := zbind h
    refine g_callVz hk (st := []) mf_X5_fail lk_X5_44 mv_X5_fail kdC_1 (by decide) rfl (Nat.le_of_ble_eq_true rfl) rfl dX5_knownBeast_12 (met_Pa_fail _ _ _ _ _ hk.wd hm (cIk rfl) e20) (fun hm c21 => ?_)
    exact g_zreturn hk c21 dX5_knownBeast_15 (by cases h; rfl)
theorem met_Pa_knownBeast (l : Launch) (D : va_G) (aC : Nat → ClassId) (B N : Nat) (hwd : ∀ id, (kdC id).1 ≠ 9 → id < N) {m : zM} {o : Int × zM} (hm : zG kdC m)  (h : Pa_knownBeast m = some o) : zMet l yX5_knownBeast cX5_knownBeast 1 (some .boolean) 1 D aC B kdC N [.ref (B + 1)] m (4, o.1, o.2) := by
  refine zMet.of mf_X5_knownBeast hwd hm (Nat.le_of_ble_eq_true rfl) (fun K e1 e2 e3 e4 e5 hk => ?_)
  subst e4
  exact w_Pa_knownBeast hk hm  h
set_option maxRecDepth 100000 in
set_option maxHeartbeats 4000000 in
theorem w_Pa_triple_B2 {K : zK} (hk : zOk K kdC cX5_triple 4 (some .boolean) RX5 2) {rec : Nat → Nat → Int → Int → zM → Option (Int × zM)} {a1 : Nat} {n1 : Nat} {x2 : Int} {x3 : Int} {m : zM} {o : Int × zM} (hrec : ∀ (a1 : Nat) (n1 : Nat) (x2 : Int) (x3 : Int) (m : zM), zG kdC m → kdC a1 = (1, n1) → cI x2 → cI x3 → rec a1 n1 x2 x3 m = some o → GoAt K m [(0, .ref (kB K + 1)), (1, .ref (kB K + a1)), (2, mI x2), (3, mI x3)] [] 2 (4, o.1, o.2)) (hm : zG kdC m) (ka1 : kdC a1 = (1, n1)) (cx2 : cI x2) (cx3 : cI x3) (h : Pa_triple_B2 rec a1 n1 x2 x3 m = some o) : GoAt K m [(0, .ref (kB K + 1)), (1, .ref (kB K + a1)), (2, mI x2), (3, mI x3)] [] 2 (4, o.1, o.2) := by
  unfold Pa_triple_B2 at h
  refine g_iload_n hk 3 rfl dX5_triple_2 ?_
  refine g_iconst hk (v := 3) rfl dX5_triple_3 ?_
  refine g_icmp_ge hk cx3 (cIk rfl) dX5_triple_4 h (fun b1 h => ?_) (fun b1 h => ?_)
  · refine g_aload_n hk 0 rfl dX5_triple_7 ?_
    refine g_iconst hk (v := 0) rfl dX5_triple_8 ?_
    refine g_bipush hk (v := 9) rfl dX5_triple_9 ?_
    obtain ⟨r2, e3, h⟩ := zbind h
    refine g_callVz hk (st := []) mf_X5_number lk_X5_95 mv_X5_number kdC_1 (by decide) rfl (Nat.le_of_ble_eq_true rfl) rfl dX5_triple_11 (met_Pa_number _ _ _ _ _ hk.wd hm (cIk rfl) (cIk rfl) e3) (fun hm c4 => ?_)
    refine g_if_ne hk (b01 c4) dX5_triple_14 h (fun b5 h => ?_) (fun b5 h => ?_)
    · refine g_iconst hk (v := 0) rfl dX5_triple_17 ?_
      exact g_zreturn hk z0 dX5_triple_18 (by cases h; rfl)
    · refine g_aload_n hk 1 rfl dX5_triple_19 ?_
      refine g_iload_n hk 2 rfl dX5_triple_20 ?_
      refine g_iload_n hk 3 rfl dX5_triple_21 ?_
      refine g_iadd hk dX5_triple_22 ?_
      refine g_aload_n hk 0 rfl dX5_triple_23 ?_
      have g6 := zGI (i := 8) hm kdC_1 rfl
      refine g_get0 hk fl_X5_92 rfl (j := 8) rfl kdC_1 dX5_triple_24 ?_
      refine g_iast hk (wI_c _) g6 ka1 hm dX5_triple_27 h (fun m7 hm h => ?_)
      refine g_iinc hk (lv' := [(3, mI (wI (x3 + 1))), (0, .ref (kB K + 1)), (1, .ref (kB K + a1)), (2, mI x2)]) 3 rfl (Nat.le_of_ble_eq_true rfl) rfl dX5_triple_28 ?_
      refine g_goto hk dX5_triple_31 ?_
      refine GoAt.sub [1, 2, 3, 0] rfl ?_
      exact hrec _ _ _ _ _ hm ka1 cx2 (wI_c _) h
  · refine g_iconst hk (v := 1) rfl dX5_triple_34 ?_
    exact g_zreturn hk z1 dX5_triple_35 (by cases h; rfl)
theorem w_Pa_triple_L2 {K : zK} (hk : zOk K kdC cX5_triple 4 (some .boolean) RX5 2)  {o : Int × zM}  : ∀ (n : Nat) (a1 : Nat) (n1 : Nat) (x2 : Int) (x3 : Int) (m : zM), zG kdC m → kdC a1 = (1, n1) → cI x2 → cI x3 → Pa_triple_L2 n a1 n1 x2 x3 m = some o → GoAt K m [(0, .ref (kB K + 1)), (1, .ref (kB K + a1)), (2, mI x2), (3, mI x3)] [] 2 (4, o.1, o.2)
  | 0, a1, n1, x2, x3, m, hm, ka1, cx2, cx3, h => by cases h
  | n + 1, a1, n1, x2, x3, m, hm, ka1, cx2, cx3, h => w_Pa_triple_B2 hk  (w_Pa_triple_L2 hk  n) hm ka1 cx2 cx3 h
set_option maxRecDepth 100000 in
set_option maxHeartbeats 4000000 in
theorem w_Pa_triple {K : zK} (hk : zOk K kdC cX5_triple 4 (some .boolean) RX5 2)  {a1 : Nat} {n1 : Nat} {x2 : Int} {m : zM} {o : Int × zM}  (hm : zG kdC m) (ka1 : kdC a1 = (1, n1)) (cx2 : cI x2) (h : Pa_triple a1 n1 x2 m = some o) : GoAt K m [(0, .ref (kB K + 1)), (1, .ref (kB K + a1)), (2, mI x2)] [] 0 (4, o.1, o.2) := by
  unfold Pa_triple at h
  refine g_iconst hk (v := 0) rfl dX5_triple_0 ?_
  refine g_istore_n hk rfl (lv' := [(3, mI 0), (0, .ref (kB K + 1)), (1, .ref (kB K + a1)), (2, mI x2)]) (Nat.le_of_ble_eq_true rfl) rfl dX5_triple_1 ?_
  refine GoAt.sub [1, 2, 3, 0] rfl ?_
  refine w_Pa_triple_L2 hk  1000000 _ _ _ _ _ hm ka1 cx2 (cIk rfl) h
theorem met_Pa_triple (l : Launch) (D : va_G) (aC : Nat → ClassId) (B N : Nat) (hwd : ∀ id, (kdC id).1 ≠ 9 → id < N) {a1 : Nat} {n1 : Nat} {x2 : Int} {m : zM} {o : Int × zM} (hm : zG kdC m) (ka1 : kdC a1 = (1, n1)) (cx2 : cI x2) (h : Pa_triple a1 n1 x2 m = some o) : zMet l yX5_triple cX5_triple 4 (some .boolean) 2 D aC B kdC N [.ref (B + 1), .ref (B + a1), mI x2] m (4, o.1, o.2) := by
  refine zMet.of mf_X5_triple hwd hm (Nat.le_of_ble_eq_true rfl) (fun K e1 e2 e3 e4 e5 hk => ?_)
  subst e4
  exact w_Pa_triple hk hm ka1 cx2 h
set_option maxRecDepth 100000 in
set_option maxHeartbeats 4000000 in
theorem w_Pa_tasteStatement {K : zK} (hk : zOk K kdC cX5_tasteStatement 1 (some .boolean) RX5 3)  {m : zM} {o : Int × zM}  (hm : zG kdC m)  (h : Pa_tasteStatement m = some o) : GoAt K m [(0, .ref (kB K + 1))] [] 0 (4, o.1, o.2) := by
  unfold Pa_tasteStatement at h
  refine g_aload_n hk 0 rfl dX5_tasteStatement_0 ?_
  refine g_dup hk rfl dX5_tasteStatement_1 ?_
  have g1 := zGI (i := 7) hm kdC_1 rfl
  refine g_get0 hk fl_X5_34 rfl (j := 7) rfl kdC_1 dX5_tasteStatement_2 ?_
  refine g_iconst hk (v := 1) rfl dX5_tasteStatement_5 ?_
  refine g_iadd hk dX5_tasteStatement_6 ?_
  refine g_put0 hk fp_X5_34 rfl (j := 7) rfl kdC_1 (wI_c _) dX5_tasteStatement_7 h hm (fun m2 hm h => ?_)
  refine g_aload_n hk 0 rfl dX5_tasteStatement_10 ?_
  obtain ⟨r3, e4, h⟩ := zbind h
  refine g_callVz hk (st := []) mf_X5_knownBeast lk_X5_103 mv_X5_knownBeast kdC_1 (by decide) rfl (Nat.le_of_ble_eq_true rfl) rfl dX5_tasteStatement_11 (met_Pa_knownBeast _ _ _ _ _ hk.wd hm e4) (fun hm c5 => ?_)
  refine g_if_ne hk (b01 c5) dX5_tasteStatement_14 h (fun b6 h => ?_) (fun b6 h => ?_)
  · refine g_iconst hk (v := 0) rfl dX5_tasteStatement_17 ?_
    exact g_zreturn hk z0 dX5_tasteStatement_18 (by cases h; rfl)
  · refine g_aload_n hk 0 rfl dX5_tasteStatement_19 ?_
    refine g_aload_n hk 0 rfl dX5_tasteStatement_20 ?_
    refine g_get3o hk fl_X5_22 rfl (j := 3) rfl kdC_1 dX5_tasteStatement_21 h (fun zz7 kzz7 h => ?_)
    refine g_get2 hk fl_X5_106 rfl kzz7 hm (b := zz7 + 5) rfl dX5_tasteStatement_24 ?_
    refine g_aload_n hk 0 rfl dX5_tasteStatement_27 ?_
    have g8 := zGI (i := 8) hm kdC_1 rfl
    refine g_get0 hk fl_X5_92 rfl (j := 8) rfl kdC_1 dX5_tasteStatement_28 ?_
    refine g_iconst hk (v := 3) rfl dX5_tasteStatement_31 ?_
    refine g_imul hk dX5_tasteStatement_32 ?_
    obtain ⟨r9, e10, h⟩ := zbind h
    refine g_callVz hk (st := []) mf_X5_triple lk_X5_109 mv_X5_triple kdC_1 (by decide) rfl (Nat.le_of_ble_eq_true rfl) rfl dX5_tasteStatement_33 (met_Pa_triple _ _ _ _ _ hk.wd hm (kdC_s10_6 kzz7) (wI_c _) e10) (fun hm c11 => ?_)
    exact g_zreturn hk c11 dX5_tasteStatement_36 (by cases h; rfl)
theorem met_Pa_tasteStatement (l : Launch) (D : va_G) (aC : Nat → ClassId) (B N : Nat) (hwd : ∀ id, (kdC id).1 ≠ 9 → id < N) {m : zM} {o : Int × zM} (hm : zG kdC m)  (h : Pa_tasteStatement m = some o) : zMet l yX5_tasteStatement cX5_tasteStatement 1 (some .boolean) 3 D aC B kdC N [.ref (B + 1)] m (4, o.1, o.2) := by
  refine zMet.of mf_X5_tasteStatement hwd hm (Nat.le_of_ble_eq_true rfl) (fun K e1 e2 e3 e4 e5 hk => ?_)
  subst e4
  exact w_Pa_tasteStatement hk hm  h
set_option maxRecDepth 100000 in
set_option maxHeartbeats 4000000 in
theorem w_Zo_addGuest {K : zK} (hk : zOk K kdC cX10_addGuest 4 none RX10 0)  {o0 : Nat} {x1 : Int} {x2 : Int} {x3 : Int} {m : zM} {o : zM}  (hm : zG kdC m) (ko0 : kdC o0 = (0, 10)) (cx1 : cI x1) (cx2 : cI x2) (cx3 : cI x3) (h : Zo_addGuest o0 x1 x2 x3 m = some o) : GoAt K m [(0, .ref (kB K + o0)), (1, mI x1), (2, mI x2), (3, mI x3)] [] 0 (9, 0, o) := by
  unfold Zo_addGuest at h
  refine g_aload_n hk 0 rfl dX10_addGuest_0 ?_
  have g1 := zGI (i := 1) hm ko0 rfl
  refine g_get0 hk fl_X10_68 rfl (j := 1) rfl ko0 dX10_addGuest_1 ?_
  refine g_bipush hk (v := 8) rfl dX10_addGuest_4 ?_
  refine g_icmp_ge hk g1 (cIk rfl) dX10_addGuest_6 h (fun b2 h => ?_) (fun b2 h => ?_)
  · refine g_aload_n hk 0 rfl dX10_addGuest_9 ?_
    refine g_get2 hk fl_X10_27 rfl ko0 hm (b := o0 + 6) rfl dX10_addGuest_10 ?_
    refine g_aload_n hk 0 rfl dX10_addGuest_13 ?_
    have g3 := zGI (i := 1) hm ko0 rfl
    refine g_get0 hk fl_X10_68 rfl (j := 1) rfl ko0 dX10_addGuest_14 ?_
    refine g_iload_n hk 1 rfl dX10_addGuest_17 ?_
    refine g_iast hk g3 cx1 (kdC_s10_7 ko0) hm dX10_addGuest_18 h (fun m4 hm h => ?_)
    refine g_aload_n hk 0 rfl dX10_addGuest_19 ?_
    refine g_get2 hk fl_X10_30 rfl ko0 hm (b := o0 + 7) rfl dX10_addGuest_20 ?_
    refine g_aload_n hk 0 rfl dX10_addGuest_23 ?_
    have g5 := zGI (i := 1) hm ko0 rfl
    refine g_get0 hk fl_X10_68 rfl (j := 1) rfl ko0 dX10_addGuest_24 ?_
    refine g_iload_n hk 2 rfl dX10_addGuest_27 ?_
    refine g_iast hk g5 cx2 (kdC_s10_8 ko0) hm dX10_addGuest_28 h (fun m6 hm h => ?_)
    refine g_aload_n hk 0 rfl dX10_addGuest_29 ?_
    refine g_get2 hk fl_X10_33 rfl ko0 hm (b := o0 + 8) rfl dX10_addGuest_30 ?_
    refine g_aload_n hk 0 rfl dX10_addGuest_33 ?_
    have g7 := zGI (i := 1) hm ko0 rfl
    refine g_get0 hk fl_X10_68 rfl (j := 1) rfl ko0 dX10_addGuest_34 ?_
    refine g_iload_n hk 3 rfl dX10_addGuest_37 ?_
    refine g_iast hk g7 cx3 (kdC_s10_9 ko0) hm dX10_addGuest_38 h (fun m8 hm h => ?_)
    refine g_aload_n hk 0 rfl dX10_addGuest_39 ?_
    refine g_get2 hk fl_X10_36 rfl ko0 hm (b := o0 + 9) rfl dX10_addGuest_40 ?_
    refine g_aload_n hk 0 rfl dX10_addGuest_43 ?_
    have g9 := zGI (i := 1) hm ko0 rfl
    refine g_get0 hk fl_X10_68 rfl (j := 1) rfl ko0 dX10_addGuest_44 ?_
    refine g_iconst hk (v := 0) rfl dX10_addGuest_47 ?_
    refine g_iast hk g9 (cIk rfl) (kdC_s10_10 ko0) hm dX10_addGuest_48 h (fun m10 hm h => ?_)
    refine g_aload_n hk 0 rfl dX10_addGuest_49 ?_
    refine g_dup hk rfl dX10_addGuest_50 ?_
    have g11 := zGI (i := 1) hm ko0 rfl
    refine g_get0 hk fl_X10_68 rfl (j := 1) rfl ko0 dX10_addGuest_51 ?_
    refine g_iconst hk (v := 1) rfl dX10_addGuest_54 ?_
    refine g_iadd hk dX10_addGuest_55 ?_
    refine g_put0 hk fp_X10_68 rfl (j := 1) rfl ko0 (wI_c _) dX10_addGuest_56 h hm (fun m12 hm h => ?_)
    exact g_return hk dX10_addGuest_59 (by cases h; rfl)
  · exact g_return hk dX10_addGuest_59 (by cases h; rfl)
theorem met_Zo_addGuest (l : Launch) (D : va_G) (aC : Nat → ClassId) (B N : Nat) (hwd : ∀ id, (kdC id).1 ≠ 9 → id < N) {o0 : Nat} {x1 : Int} {x2 : Int} {x3 : Int} {m : zM} {o : zM} (hm : zG kdC m) (ko0 : kdC o0 = (0, 10)) (cx1 : cI x1) (cx2 : cI x2) (cx3 : cI x3) (h : Zo_addGuest o0 x1 x2 x3 m = some o) : zMet l yX10_addGuest cX10_addGuest 4 none 0 D aC B kdC N [.ref (B + o0), mI x1, mI x2, mI x3] m (9, 0, o) := by
  refine zMet.of mf_X10_addGuest hwd hm (Nat.le_of_ble_eq_true rfl) (fun K e1 e2 e3 e4 e5 hk => ?_)
  subst e4
  exact w_Zo_addGuest hk hm ko0 cx1 cx2 cx3 h
set_option maxRecDepth 100000 in
set_option maxHeartbeats 4000000 in
theorem w_Pa_guestStatement {K : zK} (hk : zOk K kdC cX5_guestStatement 3 (some .boolean) RX5 3)  {m : zM} {o : Int × zM}  (hm : zG kdC m)  (h : Pa_guestStatement m = some o) : GoAt K m [(0, .ref (kB K + 1))] [] 0 (4, o.1, o.2) := by
  unfold Pa_guestStatement at h
  refine g_aload_n hk 0 rfl dX5_guestStatement_0 ?_
  refine g_get3o hk fl_X5_22 rfl (j := 3) rfl kdC_1 dX5_guestStatement_1 h (fun zz1 kzz1 h => ?_)
  have g2 := zGI (i := 1) hm kzz1 rfl
  refine g_get0 hk fl_X5_113 rfl (j := 1) rfl kzz1 dX5_guestStatement_4 ?_
  refine g_bipush hk (v := 8) rfl dX5_guestStatement_7 ?_
  refine g_icmp_lt hk g2 (cIk rfl) dX5_guestStatement_9 h (fun b3 h => ?_) (fun b3 h => ?_)
  · refine g_aload_n hk 0 rfl dX5_guestStatement_19 ?_
    refine g_dup hk rfl dX5_guestStatement_20 ?_
    have g4 := zGI (i := 7) hm kdC_1 rfl
    refine g_get0 hk fl_X5_34 rfl (j := 7) rfl kdC_1 dX5_guestStatement_21 ?_
    refine g_iconst hk (v := 1) rfl dX5_guestStatement_24 ?_
    refine g_iadd hk dX5_guestStatement_25 ?_
    refine g_put0 hk fp_X5_34 rfl (j := 7) rfl kdC_1 (wI_c _) dX5_guestStatement_26 h hm (fun m5 hm h => ?_)
    refine g_aload_n hk 0 rfl dX5_guestStatement_29 ?_
    obtain ⟨r6, e7, h⟩ := zbind h
    refine g_callVz hk (st := []) mf_X5_newName lk_X5_89 mv_X5_newName kdC_1 (by decide) rfl (Nat.le_of_ble_eq_true rfl) rfl dX5_guestStatement_30 (met_Pa_newName _ _ _ _ _ hk.wd hm e7) (fun hm c8 => ?_)
    refine g_if_ne hk (b01 c8) dX5_guestStatement_33 h (fun b9 h => ?_) (fun b9 h => ?_)
    · refine g_iconst hk (v := 0) rfl dX5_guestStatement_36 ?_
      exact g_zreturn hk z0 dX5_guestStatement_37 (by cases h; rfl)
    · refine g_aload_n hk 0 rfl dX5_guestStatement_38 ?_
      have g10 := zGI (i := 8) hm kdC_1 rfl
      refine g_get0 hk fl_X5_92 rfl (j := 8) rfl kdC_1 dX5_guestStatement_39 ?_
      refine g_istore_n hk rfl (lv' := [(1, mI (r6.2 1 8)), (0, .ref (kB K + 1))]) (Nat.le_of_ble_eq_true rfl) rfl dX5_guestStatement_42 ?_
      refine g_aload_n hk 1 rfl dX5_guestStatement_43 ?_
      refine g_aload_n hk 1 rfl dX5_guestStatement_44 ?_
      refine g_get3o hk fl_X5_22 rfl (j := 3) rfl kdC_1 dX5_guestStatement_45 h (fun zz11 kzz11 h => ?_)
      refine g_get2 hk fl_X5_116 rfl kzz11 hm (b := zz11 + 10) rfl dX5_guestStatement_48 ?_
      refine g_aload_n hk 1 rfl dX5_guestStatement_51 ?_
      refine g_get3o hk fl_X5_22 rfl (j := 3) rfl kdC_1 dX5_guestStatement_52 h (fun zz12 kzz12 h => ?_)
      have g13 := zGI (i := 1) hm kzz12 rfl
      refine g_get0 hk fl_X5_113 rfl (j := 1) rfl kzz12 dX5_guestStatement_55 ?_
      refine g_iconst hk (v := 3) rfl dX5_guestStatement_58 ?_
      refine g_imul hk dX5_guestStatement_59 ?_
      obtain ⟨r14, e15, h⟩ := zbind h
      refine g_callVz hk (st := []) mf_X5_triple lk_X5_109 mv_X5_triple kdC_1 (by decide) rfl (Nat.le_of_ble_eq_true rfl) rfl dX5_guestStatement_60 (met_Pa_triple _ _ _ _ _ hk.wd hm (kdC_s10_11 kzz11) (wI_c _) e15) (fun hm c16 => ?_)
      refine g_if_ne hk (b01 c16) dX5_guestStatement_63 h (fun b17 h => ?_) (fun b17 h => ?_)
      · refine g_iconst hk (v := 0) rfl dX5_guestStatement_66 ?_
        exact g_zreturn hk z0 dX5_guestStatement_67 (by cases h; rfl)
      · refine g_aload_n hk 1 rfl dX5_guestStatement_68 ?_
        refine g_sipush hk (v := 306) rfl dX5_guestStatement_69 ?_
        obtain ⟨r18, e19, h⟩ := zbind h
        refine g_callVz hk (st := []) mf_X5_token lk_X5_52 mv_X5_token kdC_1 (by decide) rfl (Nat.le_of_ble_eq_true rfl) rfl dX5_guestStatement_72 (met_Pa_token _ _ _ _ _ hk.wd hm (cIk rfl) e19) (fun hm c20 => ?_)
        refine g_if_eq hk (b01 c20) dX5_guestStatement_75 h (fun b21 h => ?_) (fun b21 h => ?_)
        · refine g_iconst hk (v := 0) rfl dX5_guestStatement_88 ?_
          exact g_zreturn hk z0 dX5_guestStatement_89 (by cases h; rfl)
        · refine g_aload_n hk 1 rfl dX5_guestStatement_78 ?_
          refine g_iconst hk (v := 0) rfl dX5_guestStatement_79 ?_
          refine g_bipush hk (v := 23) rfl dX5_guestStatement_80 ?_
          obtain ⟨r22, e23, h⟩ := zbind h
          refine g_callVz hk (st := []) mf_X5_number lk_X5_95 mv_X5_number kdC_1 (by decide) rfl (Nat.le_of_ble_eq_true rfl) rfl dX5_guestStatement_82 (met_Pa_number _ _ _ _ _ hk.wd hm (cIk rfl) (cIk rfl) e23) (fun hm c24 => ?_)
          refine g_if_ne hk (b01 c24) dX5_guestStatement_85 h (fun b25 h => ?_) (fun b25 h => ?_)
          · refine g_iconst hk (v := 0) rfl dX5_guestStatement_88 ?_
            exact g_zreturn hk z0 dX5_guestStatement_89 (by cases h; rfl)
          · refine g_aload_n hk 1 rfl dX5_guestStatement_90 ?_
            have g26 := zGI (i := 8) hm kdC_1 rfl
            refine g_get0 hk fl_X5_92 rfl (j := 8) rfl kdC_1 dX5_guestStatement_91 ?_
            refine g_istore_n hk rfl (lv' := [(2, mI (r22.2 1 8)), (1, mI (r6.2 1 8)), (0, .ref (kB K + 1))]) (Nat.le_of_ble_eq_true rfl) rfl dX5_guestStatement_94 ?_
            refine g_aload_n hk 2 rfl dX5_guestStatement_95 ?_
            refine g_sipush hk (v := 302) rfl dX5_guestStatement_96 ?_
            obtain ⟨r27, e28, h⟩ := zbind h
            refine g_callVz hk (st := []) mf_X5_token lk_X5_52 mv_X5_token kdC_1 (by decide) rfl (Nat.le_of_ble_eq_true rfl) rfl dX5_guestStatement_99 (met_Pa_token _ _ _ _ _ hk.wd hm (cIk rfl) e28) (fun hm c29 => ?_)
            refine g_if_eq hk (b01 c29) dX5_guestStatement_102 h (fun b30 h => ?_) (fun b30 h => ?_)
            · refine g_iconst hk (v := 0) rfl dX5_guestStatement_115 ?_
              exact g_zreturn hk z0 dX5_guestStatement_116 (by cases h; rfl)
            · refine g_aload_n hk 2 rfl dX5_guestStatement_105 ?_
              refine g_iload_n hk 0 rfl dX5_guestStatement_106 ?_
              refine g_bipush hk (v := 23) rfl dX5_guestStatement_107 ?_
              obtain ⟨r31, e32, h⟩ := zbind h
              refine g_callVz hk (st := []) mf_X5_number lk_X5_95 mv_X5_number kdC_1 (by decide) rfl (Nat.le_of_ble_eq_true rfl) rfl dX5_guestStatement_109 (met_Pa_number _ _ _ _ _ hk.wd hm g26 (cIk rfl) e32) (fun hm c33 => ?_)
              refine g_if_ne hk (b01 c33) dX5_guestStatement_112 h (fun b34 h => ?_) (fun b34 h => ?_)
              · refine g_iconst hk (v := 0) rfl dX5_guestStatement_115 ?_
                exact g_zreturn hk z0 dX5_guestStatement_116 (by cases h; rfl)
              · refine g_aload_n hk 2 rfl dX5_guestStatement_117 ?_
                refine g_get3o hk fl_X5_22 rfl (j := 3) rfl kdC_1 dX5_guestStatement_118 h (fun zz35 kzz35 h => ?_)
                refine g_iload_n hk 1 rfl dX5_guestStatement_121 ?_
                refine g_iload_n hk 0 rfl dX5_guestStatement_122 ?_
                refine g_aload_n hk 2 rfl dX5_guestStatement_123 ?_
                have g36 := zGI (i := 8) hm kdC_1 rfl
                refine g_get0 hk fl_X5_92 rfl (j := 8) rfl kdC_1 dX5_guestStatement_124 ?_
                obtain ⟨r37, e38, h⟩ := zbind h
                refine g_callVv hk (st := []) mf_X10_addGuest lk_X5_119 mv_X10_addGuest kzz35 (by decide) rfl (Nat.le_of_ble_eq_true rfl) rfl dX5_guestStatement_127 (met_Zo_addGuest _ _ _ _ _ hk.wd hm kzz35 g10 g26 g36 e38) (fun hm => ?_)
                refine g_iconst hk (v := 1) rfl dX5_guestStatement_130 ?_
                exact g_zreturn hk z1 dX5_guestStatement_131 (by cases h; rfl)
  · refine g_aload_n hk 0 rfl dX5_guestStatement_12 ?_
    refine g_bipush hk (v := 6) rfl dX5_guestStatement_13 ?_
    obtain ⟨r40, e41, h⟩ := zbind h
    refine g_callVz hk (st := []) mf_X5_fail lk_X5_44 mv_X5_fail kdC_1 (by decide) rfl (Nat.le_of_ble_eq_true rfl) rfl dX5_guestStatement_15 (met_Pa_fail _ _ _ _ _ hk.wd hm (cIk rfl) e41) (fun hm c42 => ?_)
    exact g_zreturn hk c42 dX5_guestStatement_18 (by cases h; rfl)
theorem met_Pa_guestStatement (l : Launch) (D : va_G) (aC : Nat → ClassId) (B N : Nat) (hwd : ∀ id, (kdC id).1 ≠ 9 → id < N) {m : zM} {o : Int × zM} (hm : zG kdC m)  (h : Pa_guestStatement m = some o) : zMet l yX5_guestStatement cX5_guestStatement 3 (some .boolean) 3 D aC B kdC N [.ref (B + 1)] m (4, o.1, o.2) := by
  refine zMet.of mf_X5_guestStatement hwd hm (Nat.le_of_ble_eq_true rfl) (fun K e1 e2 e3 e4 e5 hk => ?_)
  subst e4
  exact w_Pa_guestStatement hk hm  h
set_option maxRecDepth 100000 in
set_option maxHeartbeats 4000000 in
theorem w_Pa_knownGuest {K : zK} (hk : zOk K kdC cX5_knownGuest 1 (some .boolean) RX5 1)  {m : zM} {o : Int × zM}  (hm : zG kdC m)  (h : Pa_knownGuest m = some o) : GoAt K m [(0, .ref (kB K + 1))] [] 0 (4, o.1, o.2) := by
  unfold Pa_knownGuest at h
  refine g_aload_n hk 0 rfl dX5_knownGuest_0 ?_
  obtain ⟨r1, e2, h⟩ := zbind h
  refine g_callVi hk (st := []) mf_X5_kind lk_X5_40 mv_X5_kind kdC_1 (by decide) rfl (Nat.le_of_ble_eq_true rfl) rfl dX5_knownGuest_1 (met_Pa_kind _ _ _ _ _ hk.wd hm e2) (fun hm c3 => ?_)
  refine g_sipush hk (v := 258) rfl dX5_knownGuest_4 ?_
  refine g_icmp_eq hk c3 (cIk rfl) dX5_knownGuest_7 h (fun b4 h => ?_) (fun b4 h => ?_)
  · refine g_aload_n hk 0 rfl dX5_knownGuest_16 ?_
    refine g_aload_n hk 0 rfl dX5_knownGuest_17 ?_
    refine g_get3o hk fl_X5_22 rfl (j := 3) rfl kdC_1 dX5_knownGuest_18 h (fun zz5 kzz5 h => ?_)
    refine g_aload_n hk 0 rfl dX5_knownGuest_21 ?_
    refine g_get2 hk fl_X5_12 rfl kdC_1 hm (b := 2) rfl dX5_knownGuest_22 ?_
    refine g_get2 hk fl_X5_175 rfl kdC_2 hm (b := 6) rfl dX5_knownGuest_25 ?_
    refine g_aload_n hk 0 rfl dX5_knownGuest_28 ?_
    have g6 := zGI (i := 7) hm kdC_1 rfl
    refine g_get0 hk fl_X5_34 rfl (j := 7) rfl kdC_1 dX5_knownGuest_29 ?_
    refine g_iald hk g6 kdC_6 hm dX5_knownGuest_32 h (fun y7 cy7 h => ?_)
    obtain ⟨r8, e9, h⟩ := zbind h
    refine g_callVi hk (st := [.ref (kB K + 1)]) mf_X10_guestCalled lk_X5_182 mv_X10_guestCalled kzz5 (by decide) rfl (Nat.le_of_ble_eq_true rfl) rfl dX5_knownGuest_33 (met_Zo_guestCalled _ _ _ _ _ hk.wd hm kzz5 cy7 e9) (fun hm c10 => ?_)
    refine g_put0 hk fp_X5_92 rfl (j := 8) rfl kdC_1 c10 dX5_knownGuest_36 h hm (fun m11 hm h => ?_)
    refine g_aload_n hk 0 rfl dX5_knownGuest_39 ?_
    have g12 := zGI (i := 8) hm kdC_1 rfl
    refine g_get0 hk fl_X5_92 rfl (j := 8) rfl kdC_1 dX5_knownGuest_40 ?_
    refine g_iconst hk (v := (-1)) rfl dX5_knownGuest_43 ?_
    refine g_icmp_ne hk g12 (cIk rfl) dX5_knownGuest_44 h (fun b13 h => ?_) (fun b13 h => ?_)
    · refine g_aload_n hk 0 rfl dX5_knownGuest_47 ?_
      refine g_iconst hk (v := 3) rfl dX5_knownGuest_48 ?_
      obtain ⟨r14, e15, h⟩ := zbind h
      refine g_callVz hk (st := []) mf_X5_fail lk_X5_44 mv_X5_fail kdC_1 (by decide) rfl (Nat.le_of_ble_eq_true rfl) rfl dX5_knownGuest_49 (met_Pa_fail _ _ _ _ _ hk.wd hm (cIk rfl) e15) (fun hm c16 => ?_)
      exact g_zreturn hk c16 dX5_knownGuest_52 (by cases h; rfl)
    · refine g_aload_n hk 0 rfl dX5_knownGuest_53 ?_
      refine g_dup hk rfl dX5_knownGuest_54 ?_
      have g17 := zGI (i := 7) hm kdC_1 rfl
      refine g_get0 hk fl_X5_34 rfl (j := 7) rfl kdC_1 dX5_knownGuest_55 ?_
      refine g_iconst hk (v := 1) rfl dX5_knownGuest_58 ?_
      refine g_iadd hk dX5_knownGuest_59 ?_
      refine g_put0 hk fp_X5_34 rfl (j := 7) rfl kdC_1 (wI_c _) dX5_knownGuest_60 h hm (fun m18 hm h => ?_)
      refine g_iconst hk (v := 1) rfl dX5_knownGuest_63 ?_
      exact g_zreturn hk z1 dX5_knownGuest_64 (by cases h; rfl)
  · refine g_aload_n hk 0 rfl dX5_knownGuest_10 ?_
    refine g_iconst hk (v := 1) rfl dX5_knownGuest_11 ?_
    obtain ⟨r19, e20, h⟩ := zbind h
    refine g_callVz hk (st := []) mf_X5_fail lk_X5_44 mv_X5_fail kdC_1 (by decide) rfl (Nat.le_of_ble_eq_true rfl) rfl dX5_knownGuest_12 (met_Pa_fail _ _ _ _ _ hk.wd hm (cIk rfl) e20) (fun hm c21 => ?_)
    exact g_zreturn hk c21 dX5_knownGuest_15 (by cases h; rfl)
theorem met_Pa_knownGuest (l : Launch) (D : va_G) (aC : Nat → ClassId) (B N : Nat) (hwd : ∀ id, (kdC id).1 ≠ 9 → id < N) {m : zM} {o : Int × zM} (hm : zG kdC m)  (h : Pa_knownGuest m = some o) : zMet l yX5_knownGuest cX5_knownGuest 1 (some .boolean) 1 D aC B kdC N [.ref (B + 1)] m (4, o.1, o.2) := by
  refine zMet.of mf_X5_knownGuest hwd hm (Nat.le_of_ble_eq_true rfl) (fun K e1 e2 e3 e4 e5 hk => ?_)
  subst e4
  exact w_Pa_knownGuest hk hm  h
set_option maxRecDepth 100000 in
set_option maxHeartbeats 4000000 in
theorem w_Zo_isFeared {K : zK} (hk : zOk K kdC cX10_isFeared 3 (some .boolean) RX10 0)  {o0 : Nat} {x1 : Int} {x2 : Int} {m : zM} {o : Int}  (hm : zG kdC m) (ko0 : kdC o0 = (0, 10)) (cx1 : cI x1) (cx2 : cI x2) (h : Zo_isFeared o0 x1 x2 m = some o) : GoAt K m [(0, .ref (kB K + o0)), (1, mI x1), (2, mI x2)] [] 0 (4, o, m) := by
  unfold Zo_isFeared at h
  refine g_aload_n hk 0 rfl dX10_isFeared_0 ?_
  refine g_get2 hk fl_X10_36 rfl ko0 hm (b := o0 + 9) rfl dX10_isFeared_1 ?_
  refine g_iload_n hk 2 rfl dX10_isFeared_4 ?_
  refine g_iald hk cx2 (kdC_s10_10 ko0) hm dX10_isFeared_5 h (fun y1 cy1 h => ?_)
  refine g_iload_n hk 1 rfl dX10_isFeared_6 ?_
  refine g_ishr hk dX10_isFeared_7 ?_
  refine g_iconst hk (v := 1) rfl dX10_isFeared_8 ?_
  refine g_iand hk dX10_isFeared_9 ?_
  refine g_if_eq hk (cI_t _) dX10_isFeared_10 h (fun b2 h => ?_) (fun b2 h => ?_)
  · refine g_iconst hk (v := 0) rfl dX10_isFeared_17 ?_
    exact g_zreturn hk z0 dX10_isFeared_18 (by cases h; rfl)
  · refine g_iconst hk (v := 1) rfl dX10_isFeared_13 ?_
    refine g_goto hk dX10_isFeared_14 ?_
    exact g_zreturn hk z1 dX10_isFeared_18 (by cases h; rfl)
theorem met_Zo_isFeared (l : Launch) (D : va_G) (aC : Nat → ClassId) (B N : Nat) (hwd : ∀ id, (kdC id).1 ≠ 9 → id < N) {o0 : Nat} {x1 : Int} {x2 : Int} {m : zM} {o : Int} (hm : zG kdC m) (ko0 : kdC o0 = (0, 10)) (cx1 : cI x1) (cx2 : cI x2) (h : Zo_isFeared o0 x1 x2 m = some o) : zMet l yX10_isFeared cX10_isFeared 3 (some .boolean) 0 D aC B kdC N [.ref (B + o0), mI x1, mI x2] m (4, o, m) := by
  refine zMet.of mf_X10_isFeared hwd hm (Nat.le_of_ble_eq_true rfl) (fun K e1 e2 e3 e4 e5 hk => ?_)
  subst e4
  exact w_Zo_isFeared hk hm ko0 cx1 cx2 h
set_option maxRecDepth 100000 in
set_option maxHeartbeats 4000000 in
theorem w_Pa_fearStatement {K : zK} (hk : zOk K kdC cX5_fearStatement 2 (some .boolean) RX5 2)  {m : zM} {o : Int × zM}  (hm : zG kdC m)  (h : Pa_fearStatement m = some o) : GoAt K m [(0, .ref (kB K + 1))] [] 0 (4, o.1, o.2) := by
  unfold Pa_fearStatement at h
  refine g_aload_n hk 0 rfl dX5_fearStatement_0 ?_
  refine g_dup hk rfl dX5_fearStatement_1 ?_
  have g1 := zGI (i := 7) hm kdC_1 rfl
  refine g_get0 hk fl_X5_34 rfl (j := 7) rfl kdC_1 dX5_fearStatement_2 ?_
  refine g_iconst hk (v := 1) rfl dX5_fearStatement_5 ?_
  refine g_iadd hk dX5_fearStatement_6 ?_
  refine g_put0 hk fp_X5_34 rfl (j := 7) rfl kdC_1 (wI_c _) dX5_fearStatement_7 h hm (fun m2 hm h => ?_)
  refine g_aload_n hk 0 rfl dX5_fearStatement_10 ?_
  obtain ⟨r3, e4, h⟩ := zbind h
  refine g_callVz hk (st := []) mf_X5_knownGuest lk_X5_123 mv_X5_knownGuest kdC_1 (by decide) rfl (Nat.le_of_ble_eq_true rfl) rfl dX5_fearStatement_11 (met_Pa_knownGuest _ _ _ _ _ hk.wd hm e4) (fun hm c5 => ?_)
  refine g_if_ne hk (b01 c5) dX5_fearStatement_14 h (fun b6 h => ?_) (fun b6 h => ?_)
  · refine g_iconst hk (v := 0) rfl dX5_fearStatement_17 ?_
    exact g_zreturn hk z0 dX5_fearStatement_18 (by cases h; rfl)
  · refine g_aload_n hk 0 rfl dX5_fearStatement_19 ?_
    have g7 := zGI (i := 8) hm kdC_1 rfl
    refine g_get0 hk fl_X5_92 rfl (j := 8) rfl kdC_1 dX5_fearStatement_20 ?_
    refine g_istore_n hk rfl (lv' := [(1, mI (r3.2 1 8)), (0, .ref (kB K + 1))]) (Nat.le_of_ble_eq_true rfl) rfl dX5_fearStatement_23 ?_
    refine g_aload_n hk 1 rfl dX5_fearStatement_24 ?_
    obtain ⟨r8, e9, h⟩ := zbind h
    refine g_callVz hk (st := []) mf_X5_knownBeast lk_X5_103 mv_X5_knownBeast kdC_1 (by decide) rfl (Nat.le_of_ble_eq_true rfl) rfl dX5_fearStatement_25 (met_Pa_knownBeast _ _ _ _ _ hk.wd hm e9) (fun hm c10 => ?_)
    refine g_if_ne hk (b01 c10) dX5_fearStatement_28 h (fun b11 h => ?_) (fun b11 h => ?_)
    · refine g_iconst hk (v := 0) rfl dX5_fearStatement_31 ?_
      exact g_zreturn hk z0 dX5_fearStatement_32 (by cases h; rfl)
    · refine g_aload_n hk 1 rfl dX5_fearStatement_33 ?_
      refine g_get3o hk fl_X5_22 rfl (j := 3) rfl kdC_1 dX5_fearStatement_34 h (fun zz12 kzz12 h => ?_)
      refine g_aload_n hk 1 rfl dX5_fearStatement_37 ?_
      have g13 := zGI (i := 8) hm kdC_1 rfl
      refine g_get0 hk fl_X5_92 rfl (j := 8) rfl kdC_1 dX5_fearStatement_38 ?_
      refine g_iload_n hk 0 rfl dX5_fearStatement_41 ?_
      obtain ⟨r14, e15, h⟩ := zbind h
      refine g_callVz hk (st := []) mf_X10_isFeared lk_X5_126 mv_X10_isFeared kzz12 (by decide) rfl (Nat.le_of_ble_eq_true rfl) rfl dX5_fearStatement_42 (met_Zo_isFeared _ _ _ _ _ hk.wd hm kzz12 g13 g7 e15) (fun hm c16 => ?_)
      refine g_if_eq hk (b01 c16) dX5_fearStatement_45 h (fun b17 h => ?_) (fun b17 h => ?_)
      · refine g_aload_n hk 1 rfl dX5_fearStatement_64 ?_
        refine g_get3o hk fl_X5_22 rfl (j := 3) rfl kdC_1 dX5_fearStatement_65 h (fun zz18 kzz18 h => ?_)
        refine g_get2 hk fl_X5_129 rfl kzz18 hm (b := zz18 + 9) rfl dX5_fearStatement_68 ?_
        refine g_iload_n hk 0 rfl dX5_fearStatement_71 ?_
        refine g_dup2 hk rfl rfl dX5_fearStatement_72 ?_
        refine g_iald hk g7 (kdC_s10_10 kzz18) hm dX5_fearStatement_73 h (fun y19 cy19 h => ?_)
        refine g_iconst hk (v := 1) rfl dX5_fearStatement_74 ?_
        refine g_aload_n hk 1 rfl dX5_fearStatement_75 ?_
        have g20 := zGI (i := 8) hm kdC_1 rfl
        refine g_get0 hk fl_X5_92 rfl (j := 8) rfl kdC_1 dX5_fearStatement_76 ?_
        refine g_ishl hk dX5_fearStatement_79 ?_
        refine g_ior hk dX5_fearStatement_80 ?_
        refine g_iast hk g7 (cI_t _) (kdC_s10_10 kzz18) hm dX5_fearStatement_81 h (fun m21 hm h => ?_)
        refine g_iconst hk (v := 1) rfl dX5_fearStatement_82 ?_
        exact g_zreturn hk z1 dX5_fearStatement_83 (by cases h; rfl)
      · refine g_aload_n hk 1 rfl dX5_fearStatement_48 ?_
        refine g_dup hk rfl dX5_fearStatement_49 ?_
        have g22 := zGI (i := 7) hm kdC_1 rfl
        refine g_get0 hk fl_X5_34 rfl (j := 7) rfl kdC_1 dX5_fearStatement_50 ?_
        refine g_iconst hk (v := 1) rfl dX5_fearStatement_53 ?_
        refine g_isub hk dX5_fearStatement_54 ?_
        refine g_put0 hk fp_X5_34 rfl (j := 7) rfl kdC_1 (wI_c _) dX5_fearStatement_55 h hm (fun m23 hm h => ?_)
        refine g_aload_n hk 1 rfl dX5_fearStatement_58 ?_
        refine g_iconst hk (v := 3) rfl dX5_fearStatement_59 ?_
        obtain ⟨r24, e25, h⟩ := zbind h
        refine g_callVz hk (st := []) mf_X5_fail lk_X5_44 mv_X5_fail kdC_1 (by decide) rfl (Nat.le_of_ble_eq_true rfl) rfl dX5_fearStatement_60 (met_Pa_fail _ _ _ _ _ hk.wd hm (cIk rfl) e25) (fun hm c26 => ?_)
        exact g_zreturn hk c26 dX5_fearStatement_63 (by cases h; rfl)
theorem met_Pa_fearStatement (l : Launch) (D : va_G) (aC : Nat → ClassId) (B N : Nat) (hwd : ∀ id, (kdC id).1 ≠ 9 → id < N) {m : zM} {o : Int × zM} (hm : zG kdC m)  (h : Pa_fearStatement m = some o) : zMet l yX5_fearStatement cX5_fearStatement 2 (some .boolean) 2 D aC B kdC N [.ref (B + 1)] m (4, o.1, o.2) := by
  refine zMet.of mf_X5_fearStatement hwd hm (Nat.le_of_ble_eq_true rfl) (fun K e1 e2 e3 e4 e5 hk => ?_)
  subst e4
  exact w_Pa_fearStatement hk hm  h
set_option maxRecDepth 100000 in
set_option maxHeartbeats 4000000 in
theorem w_Fo_add {K : zK} (hk : zOk K kdC cX1_add 3 none RX1 0)  {o0 : Nat} {x1 : Int} {x2 : Int} {m : zM} {o : zM}  (hm : zG kdC m) (ko0 : kdC o0 = (0, 1)) (cx1 : cI x1) (cx2 : cI x2) (h : Fo_add o0 x1 x2 m = some o) : GoAt K m [(0, .ref (kB K + o0)), (1, mI x1), (2, mI x2)] [] 0 (9, 0, o) := by
  unfold Fo_add at h
  refine g_aload_n hk 0 rfl dX1_add_0 ?_
  have g1 := zGI (i := 1) hm ko0 rfl
  refine g_get0 hk fl_X1_18 rfl (j := 1) rfl ko0 dX1_add_1 ?_
  refine g_sipush hk (v := 1600) rfl dX1_add_4 ?_
  refine g_icmp_ge hk g1 (cIk rfl) dX1_add_7 h (fun b2 h => ?_) (fun b2 h => ?_)
  · refine g_aload_n hk 0 rfl dX1_add_10 ?_
    refine g_get2 hk fl_X1_9 rfl ko0 hm (b := o0 + 1) rfl dX1_add_11 ?_
    refine g_aload_n hk 0 rfl dX1_add_14 ?_
    have g3 := zGI (i := 1) hm ko0 rfl
    refine g_get0 hk fl_X1_18 rfl (j := 1) rfl ko0 dX1_add_15 ?_
    refine g_iload_n hk 2 rfl dX1_add_18 ?_
    refine g_bipush hk (v := 8) rfl dX1_add_19 ?_
    refine g_ishl hk dX1_add_21 ?_
    refine g_iload_n hk 1 rfl dX1_add_22 ?_
    refine g_ior hk dX1_add_23 ?_
    refine g_iast hk g3 (cI_t _) (kdC_s1_0 ko0) hm dX1_add_24 h (fun m4 hm h => ?_)
    refine g_aload_n hk 0 rfl dX1_add_25 ?_
    refine g_dup hk rfl dX1_add_26 ?_
    have g5 := zGI (i := 1) hm ko0 rfl
    refine g_get0 hk fl_X1_18 rfl (j := 1) rfl ko0 dX1_add_27 ?_
    refine g_iconst hk (v := 1) rfl dX1_add_30 ?_
    refine g_iadd hk dX1_add_31 ?_
    refine g_put0 hk fp_X1_18 rfl (j := 1) rfl ko0 (wI_c _) dX1_add_32 h hm (fun m6 hm h => ?_)
    exact g_return hk dX1_add_35 (by cases h; rfl)
  · exact g_return hk dX1_add_35 (by cases h; rfl)
theorem met_Fo_add (l : Launch) (D : va_G) (aC : Nat → ClassId) (B N : Nat) (hwd : ∀ id, (kdC id).1 ≠ 9 → id < N) {o0 : Nat} {x1 : Int} {x2 : Int} {m : zM} {o : zM} (hm : zG kdC m) (ko0 : kdC o0 = (0, 1)) (cx1 : cI x1) (cx2 : cI x2) (h : Fo_add o0 x1 x2 m = some o) : zMet l yX1_add cX1_add 3 none 0 D aC B kdC N [.ref (B + o0), mI x1, mI x2] m (9, 0, o) := by
  refine zMet.of mf_X1_add hwd hm (Nat.le_of_ble_eq_true rfl) (fun K e1 e2 e3 e4 e5 hk => ?_)
  subst e4
  exact w_Fo_add hk hm ko0 cx1 cx2 h
set_option maxRecDepth 100000 in
set_option maxHeartbeats 4000000 in
theorem w_Pa_sum_b37 {K : zK} {d : Nat} (hk : zOk K kdC cX5_sum 3 (some .boolean) RX5 (d + 4)) {rc : Nat → Int → zM → Option (Int × zM)} {rec : Int → zM → Option (Int × zM)} {x1 : Int} {x2 : Int} {m : zM} {o : Int × zM} (hrc_sum : ∀ (m : zM) (o : Int × zM), zG kdC m → rc 0 0 m = some o → zMet (kL K) yX5_sum cX5_sum 3 (some .boolean) d (kD K) (kaC K) (kB K) kdC (kN K) [.ref (kB K + 1)] m (4, o.1, o.2)) (hrc_product : ∀ (m : zM) (o : Int × zM), zG kdC m → rc 1 0 m = some o → zMet (kL K) yX5_product cX5_product 3 (some .boolean) d (kD K) (kaC K) (kB K) kdC (kN K) [.ref (kB K + 1)] m (4, o.1, o.2)) (hrc_part : ∀ (m : zM) (o : Int × zM), zG kdC m → rc 2 0 m = some o → zMet (kL K) yX5_part cX5_part 1 (some .boolean) d (kD K) (kaC K) (kB K) kdC (kN K) [.ref (kB K + 1)] m (4, o.1, o.2)) (hrc_pairOfSums : ∀ (a : Int) (m : zM) (o : Int × zM), zG kdC m → cI a → rc 3 a m = some o → zMet (kL K) yX5_pairOfSums cX5_pairOfSums 2 (some .boolean) d (kD K) (kaC K) (kB K) kdC (kN K) [.ref (kB K + 1), mI a] m (4, o.1, o.2)) (hrc_choice : ∀ (m : zM) (o : Int × zM), zG kdC m → rc 4 0 m = some o → zMet (kL K) yX5_choice cX5_choice 1 (some .boolean) d (kD K) (kaC K) (kB K) kdC (kN K) [.ref (kB K + 1)] m (4, o.1, o.2)) (hrc_test : ∀ (m : zM) (o : Int × zM), zG kdC m → rc 5 0 m = some o → zMet (kL K) yX5_test cX5_test 2 (some .boolean) d (kD K) (kaC K) (kB K) kdC (kN K) [.ref (kB K + 1)] m (4, o.1, o.2)) (hrc_both : ∀ (m : zM) (o : Int × zM), zG kdC m → rc 6 0 m = some o → zMet (kL K) yX5_both cX5_both 2 (some .boolean) d (kD K) (kaC K) (kB K) kdC (kN K) [.ref (kB K + 1)] m (4, o.1, o.2)) (hrc_fact : ∀ (m : zM) (o : Int × zM), zG kdC m → rc 7 0 m = some o → zMet (kL K) yX5_fact cX5_fact 1 (some .boolean) d (kD K) (kaC K) (kB K) kdC (kN K) [.ref (kB K + 1)] m (4, o.1, o.2)) (hrc_comparison : ∀ (m : zM) (o : Int × zM), zG kdC m → rc 8 0 m = some o → zMet (kL K) yX5_comparison cX5_comparison 2 (some .boolean) d (kD K) (kaC K) (kB K) kdC (kN K) [.ref (kB K + 1)] m (4, o.1, o.2)) (hrec : ∀ (x1 : Int) (m : zM), zG kdC m → cI x1 → rec x1 m = some o → GoAt K m [(0, .ref (kB K + 1)), (1, mI x1)] [] 11 (4, o.1, o.2)) (hm : zG kdC m) (cx1 : cI x1) (cx2 : cI x2) (h : Pa_sum_b37 rc rec x1 x2 m = some o) : GoAt K m [(0, .ref (kB K + 1)), (1, mI x1), (2, mI x2)] [] 37 (4, o.1, o.2) := by
  unfold Pa_sum_b37 at h
  refine g_aload_n hk 0 rfl dX5_sum_37 ?_
  refine g_dup hk rfl dX5_sum_38 ?_
  have g1 := zGI (i := 7) hm kdC_1 rfl
  refine g_get0 hk fl_X5_34 rfl (j := 7) rfl kdC_1 dX5_sum_39 ?_
  refine g_iconst hk (v := 1) rfl dX5_sum_42 ?_
  refine g_iadd hk dX5_sum_43 ?_
  refine g_put0 hk fp_X5_34 rfl (j := 7) rfl kdC_1 (wI_c _) dX5_sum_44 h hm (fun m2 hm h => ?_)
  refine g_aload_n hk 0 rfl dX5_sum_47 ?_
  obtain ⟨r3, e4, h⟩ := zbind h
  refine g_callVz hk (st := []) mf_X5_product lk_X5_185 mv_X5_product kdC_1 (by omega) rfl (Nat.le_of_ble_eq_true rfl) rfl dX5_sum_48 (hrc_product _ _ hm e4) (fun hm c5 => ?_)
  refine g_if_ne hk (b01 c5) dX5_sum_51 h (fun b6 h => ?_) (fun b6 h => ?_)
  · refine g_iconst hk (v := 0) rfl dX5_sum_54 ?_
    exact g_zreturn hk z0 dX5_sum_55 (by cases h; rfl)
  · refine g_aload_n hk 0 rfl dX5_sum_56 ?_
    refine g_get3o hk fl_X5_141 rfl (j := 4) rfl kdC_1 dX5_sum_57 h (fun zz7 kzz7 h => ?_)
    refine g_iload_n hk 2 rfl dX5_sum_60 ?_
    refine g_iconst hk (v := 0) rfl dX5_sum_61 ?_
    obtain ⟨r8, e9, h⟩ := zbind h
    refine g_callVv hk (st := []) mf_X1_add lk_X5_188 mv_X1_add kzz7 (by omega) rfl (Nat.le_of_ble_eq_true rfl) rfl dX5_sum_62 (met_Fo_add _ _ _ _ _ hk.wd hm kzz7 cx2 (cIk rfl) e9) (fun hm => ?_)
    refine g_iinc hk (lv' := [(1, mI (wI (x1 + 1))), (0, .ref (kB K + 1)), (2, mI x2)]) 1 rfl (Nat.le_of_ble_eq_true rfl) rfl dX5_sum_65 ?_
    refine g_goto hk dX5_sum_68 ?_
    refine GoAt.sub [1, 0] rfl ?_
    exact hrec _ _ hm (wI_c _) h
set_option maxRecDepth 100000 in
set_option maxHeartbeats 4000000 in
theorem w_Pa_sum_B11 {K : zK} {d : Nat} (hk : zOk K kdC cX5_sum 3 (some .boolean) RX5 (d + 4)) {rc : Nat → Int → zM → Option (Int × zM)} {rec : Int → zM → Option (Int × zM)} {x1 : Int} {m : zM} {o : Int × zM} (hrc_sum : ∀ (m : zM) (o : Int × zM), zG kdC m → rc 0 0 m = some o → zMet (kL K) yX5_sum cX5_sum 3 (some .boolean) d (kD K) (kaC K) (kB K) kdC (kN K) [.ref (kB K + 1)] m (4, o.1, o.2)) (hrc_product : ∀ (m : zM) (o : Int × zM), zG kdC m → rc 1 0 m = some o → zMet (kL K) yX5_product cX5_product 3 (some .boolean) d (kD K) (kaC K) (kB K) kdC (kN K) [.ref (kB K + 1)] m (4, o.1, o.2)) (hrc_part : ∀ (m : zM) (o : Int × zM), zG kdC m → rc 2 0 m = some o → zMet (kL K) yX5_part cX5_part 1 (some .boolean) d (kD K) (kaC K) (kB K) kdC (kN K) [.ref (kB K + 1)] m (4, o.1, o.2)) (hrc_pairOfSums : ∀ (a : Int) (m : zM) (o : Int × zM), zG kdC m → cI a → rc 3 a m = some o → zMet (kL K) yX5_pairOfSums cX5_pairOfSums 2 (some .boolean) d (kD K) (kaC K) (kB K) kdC (kN K) [.ref (kB K + 1), mI a] m (4, o.1, o.2)) (hrc_choice : ∀ (m : zM) (o : Int × zM), zG kdC m → rc 4 0 m = some o → zMet (kL K) yX5_choice cX5_choice 1 (some .boolean) d (kD K) (kaC K) (kB K) kdC (kN K) [.ref (kB K + 1)] m (4, o.1, o.2)) (hrc_test : ∀ (m : zM) (o : Int × zM), zG kdC m → rc 5 0 m = some o → zMet (kL K) yX5_test cX5_test 2 (some .boolean) d (kD K) (kaC K) (kB K) kdC (kN K) [.ref (kB K + 1)] m (4, o.1, o.2)) (hrc_both : ∀ (m : zM) (o : Int × zM), zG kdC m → rc 6 0 m = some o → zMet (kL K) yX5_both cX5_both 2 (some .boolean) d (kD K) (kaC K) (kB K) kdC (kN K) [.ref (kB K + 1)] m (4, o.1, o.2)) (hrc_fact : ∀ (m : zM) (o : Int × zM), zG kdC m → rc 7 0 m = some o → zMet (kL K) yX5_fact cX5_fact 1 (some .boolean) d (kD K) (kaC K) (kB K) kdC (kN K) [.ref (kB K + 1)] m (4, o.1, o.2)) (hrc_comparison : ∀ (m : zM) (o : Int × zM), zG kdC m → rc 8 0 m = some o → zMet (kL K) yX5_comparison cX5_comparison 2 (some .boolean) d (kD K) (kaC K) (kB K) kdC (kN K) [.ref (kB K + 1)] m (4, o.1, o.2)) (hrec : ∀ (x1 : Int) (m : zM), zG kdC m → cI x1 → rec x1 m = some o → GoAt K m [(0, .ref (kB K + 1)), (1, mI x1)] [] 11 (4, o.1, o.2)) (hm : zG kdC m) (cx1 : cI x1) (h : Pa_sum_B11 rc rec x1 m = some o) : GoAt K m [(0, .ref (kB K + 1)), (1, mI x1)] [] 11 (4, o.1, o.2) := by
  unfold Pa_sum_B11 at h
  refine g_iload_n hk 1 rfl dX5_sum_11 ?_
  refine g_sipush hk (v := 1600) rfl dX5_sum_12 ?_
  refine g_icmp_ge hk cx1 (cIk rfl) dX5_sum_15 h (fun b1 h => ?_) (fun b1 h => ?_)
  · refine g_aload_n hk 0 rfl dX5_sum_18 ?_
    obtain ⟨r2, e3, h⟩ := zbind h
    refine g_callVi hk (st := []) mf_X5_kind lk_X5_40 mv_X5_kind kdC_1 (by omega) rfl (Nat.le_of_ble_eq_true rfl) rfl dX5_sum_19 (met_Pa_kind _ _ _ _ _ hk.wd hm e3) (fun hm c4 => ?_)
    refine g_istore_n hk rfl (lv' := [(2, mI r2), (0, .ref (kB K + 1)), (1, mI x1)]) (Nat.le_of_ble_eq_true rfl) rfl dX5_sum_22 ?_
    refine g_iload_n hk 0 rfl dX5_sum_23 ?_
    refine g_bipush hk (v := 43) rfl dX5_sum_24 ?_
    refine g_icmp_eq hk c4 (cIk rfl) dX5_sum_26 h (fun b5 h => ?_) (fun b5 h => ?_)
    · refine GoAt.sub [1, 2, 0] rfl ?_
      exact w_Pa_sum_b37 hk hrc_sum hrc_product hrc_part hrc_pairOfSums hrc_choice hrc_test hrc_both hrc_fact hrc_comparison hrec hm cx1 c4 h
    · refine g_iload_n hk 0 rfl dX5_sum_29 ?_
      refine g_bipush hk (v := 45) rfl dX5_sum_30 ?_
      refine g_icmp_eq hk c4 (cIk rfl) dX5_sum_32 h (fun b6 h => ?_) (fun b6 h => ?_)
      · refine GoAt.sub [1, 2, 0] rfl ?_
        exact w_Pa_sum_b37 hk hrc_sum hrc_product hrc_part hrc_pairOfSums hrc_choice hrc_test hrc_both hrc_fact hrc_comparison hrec hm cx1 c4 h
      · refine g_iconst hk (v := 1) rfl dX5_sum_35 ?_
        exact g_zreturn hk z1 dX5_sum_36 (by cases h; rfl)
  · refine g_iconst hk (v := 1) rfl dX5_sum_71 ?_
    exact g_zreturn hk z1 dX5_sum_72 (by cases h; rfl)
theorem w_Pa_sum_L11 {K : zK} {d : Nat} (hk : zOk K kdC cX5_sum 3 (some .boolean) RX5 (d + 4)) {rc : Nat → Int → zM → Option (Int × zM)}  {o : Int × zM} (hrc_sum : ∀ (m : zM) (o : Int × zM), zG kdC m → rc 0 0 m = some o → zMet (kL K) yX5_sum cX5_sum 3 (some .boolean) d (kD K) (kaC K) (kB K) kdC (kN K) [.ref (kB K + 1)] m (4, o.1, o.2)) (hrc_product : ∀ (m : zM) (o : Int × zM), zG kdC m → rc 1 0 m = some o → zMet (kL K) yX5_product cX5_product 3 (some .boolean) d (kD K) (kaC K) (kB K) kdC (kN K) [.ref (kB K + 1)] m (4, o.1, o.2)) (hrc_part : ∀ (m : zM) (o : Int × zM), zG kdC m → rc 2 0 m = some o → zMet (kL K) yX5_part cX5_part 1 (some .boolean) d (kD K) (kaC K) (kB K) kdC (kN K) [.ref (kB K + 1)] m (4, o.1, o.2)) (hrc_pairOfSums : ∀ (a : Int) (m : zM) (o : Int × zM), zG kdC m → cI a → rc 3 a m = some o → zMet (kL K) yX5_pairOfSums cX5_pairOfSums 2 (some .boolean) d (kD K) (kaC K) (kB K) kdC (kN K) [.ref (kB K + 1), mI a] m (4, o.1, o.2)) (hrc_choice : ∀ (m : zM) (o : Int × zM), zG kdC m → rc 4 0 m = some o → zMet (kL K) yX5_choice cX5_choice 1 (some .boolean) d (kD K) (kaC K) (kB K) kdC (kN K) [.ref (kB K + 1)] m (4, o.1, o.2)) (hrc_test : ∀ (m : zM) (o : Int × zM), zG kdC m → rc 5 0 m = some o → zMet (kL K) yX5_test cX5_test 2 (some .boolean) d (kD K) (kaC K) (kB K) kdC (kN K) [.ref (kB K + 1)] m (4, o.1, o.2)) (hrc_both : ∀ (m : zM) (o : Int × zM), zG kdC m → rc 6 0 m = some o → zMet (kL K) yX5_both cX5_both 2 (some .boolean) d (kD K) (kaC K) (kB K) kdC (kN K) [.ref (kB K + 1)] m (4, o.1, o.2)) (hrc_fact : ∀ (m : zM) (o : Int × zM), zG kdC m → rc 7 0 m = some o → zMet (kL K) yX5_fact cX5_fact 1 (some .boolean) d (kD K) (kaC K) (kB K) kdC (kN K) [.ref (kB K + 1)] m (4, o.1, o.2)) (hrc_comparison : ∀ (m : zM) (o : Int × zM), zG kdC m → rc 8 0 m = some o → zMet (kL K) yX5_comparison cX5_comparison 2 (some .boolean) d (kD K) (kaC K) (kB K) kdC (kN K) [.ref (kB K + 1)] m (4, o.1, o.2)) : ∀ (n : Nat) (x1 : Int) (m : zM), zG kdC m → cI x1 → Pa_sum_L11 rc n x1 m = some o → GoAt K m [(0, .ref (kB K + 1)), (1, mI x1)] [] 11 (4, o.1, o.2)
  | 0, x1, m, hm, cx1, h => by cases h
  | n + 1, x1, m, hm, cx1, h => w_Pa_sum_B11 hk hrc_sum hrc_product hrc_part hrc_pairOfSums hrc_choice hrc_test hrc_both hrc_fact hrc_comparison (w_Pa_sum_L11 hk hrc_sum hrc_product hrc_part hrc_pairOfSums hrc_choice hrc_test hrc_both hrc_fact hrc_comparison n) hm cx1 h
set_option maxRecDepth 100000 in
set_option maxHeartbeats 4000000 in
theorem w_Pa_sum {K : zK} {d : Nat} (hk : zOk K kdC cX5_sum 3 (some .boolean) RX5 (d + 4)) {rc : Nat → Int → zM → Option (Int × zM)}  {m : zM} {o : Int × zM} (hrc_sum : ∀ (m : zM) (o : Int × zM), zG kdC m → rc 0 0 m = some o → zMet (kL K) yX5_sum cX5_sum 3 (some .boolean) d (kD K) (kaC K) (kB K) kdC (kN K) [.ref (kB K + 1)] m (4, o.1, o.2)) (hrc_product : ∀ (m : zM) (o : Int × zM), zG kdC m → rc 1 0 m = some o → zMet (kL K) yX5_product cX5_product 3 (some .boolean) d (kD K) (kaC K) (kB K) kdC (kN K) [.ref (kB K + 1)] m (4, o.1, o.2)) (hrc_part : ∀ (m : zM) (o : Int × zM), zG kdC m → rc 2 0 m = some o → zMet (kL K) yX5_part cX5_part 1 (some .boolean) d (kD K) (kaC K) (kB K) kdC (kN K) [.ref (kB K + 1)] m (4, o.1, o.2)) (hrc_pairOfSums : ∀ (a : Int) (m : zM) (o : Int × zM), zG kdC m → cI a → rc 3 a m = some o → zMet (kL K) yX5_pairOfSums cX5_pairOfSums 2 (some .boolean) d (kD K) (kaC K) (kB K) kdC (kN K) [.ref (kB K + 1), mI a] m (4, o.1, o.2)) (hrc_choice : ∀ (m : zM) (o : Int × zM), zG kdC m → rc 4 0 m = some o → zMet (kL K) yX5_choice cX5_choice 1 (some .boolean) d (kD K) (kaC K) (kB K) kdC (kN K) [.ref (kB K + 1)] m (4, o.1, o.2)) (hrc_test : ∀ (m : zM) (o : Int × zM), zG kdC m → rc 5 0 m = some o → zMet (kL K) yX5_test cX5_test 2 (some .boolean) d (kD K) (kaC K) (kB K) kdC (kN K) [.ref (kB K + 1)] m (4, o.1, o.2)) (hrc_both : ∀ (m : zM) (o : Int × zM), zG kdC m → rc 6 0 m = some o → zMet (kL K) yX5_both cX5_both 2 (some .boolean) d (kD K) (kaC K) (kB K) kdC (kN K) [.ref (kB K + 1)] m (4, o.1, o.2)) (hrc_fact : ∀ (m : zM) (o : Int × zM), zG kdC m → rc 7 0 m = some o → zMet (kL K) yX5_fact cX5_fact 1 (some .boolean) d (kD K) (kaC K) (kB K) kdC (kN K) [.ref (kB K + 1)] m (4, o.1, o.2)) (hrc_comparison : ∀ (m : zM) (o : Int × zM), zG kdC m → rc 8 0 m = some o → zMet (kL K) yX5_comparison cX5_comparison 2 (some .boolean) d (kD K) (kaC K) (kB K) kdC (kN K) [.ref (kB K + 1)] m (4, o.1, o.2)) (hm : zG kdC m)  (h : Pa_sum rc m = some o) : GoAt K m [(0, .ref (kB K + 1))] [] 0 (4, o.1, o.2) := by
  unfold Pa_sum at h
  refine g_aload_n hk 0 rfl dX5_sum_0 ?_
  obtain ⟨r1, e2, h⟩ := zbind h
  refine g_callVz hk (st := []) mf_X5_product lk_X5_185 mv_X5_product kdC_1 (by omega) rfl (Nat.le_of_ble_eq_true rfl) rfl dX5_sum_1 (hrc_product _ _ hm e2) (fun hm c3 => ?_)
  refine g_if_ne hk (b01 c3) dX5_sum_4 h (fun b4 h => ?_) (fun b4 h => ?_)
  · refine g_iconst hk (v := 0) rfl dX5_sum_7 ?_
    exact g_zreturn hk z0 dX5_sum_8 (by cases h; rfl)
  · refine g_iconst hk (v := 0) rfl dX5_sum_9 ?_
    refine g_istore_n hk rfl (lv' := [(1, mI 0), (0, .ref (kB K + 1))]) (Nat.le_of_ble_eq_true rfl) rfl dX5_sum_10 ?_
    refine GoAt.sub [1, 0] rfl ?_
    refine w_Pa_sum_L11 hk hrc_sum hrc_product hrc_part hrc_pairOfSums hrc_choice hrc_test hrc_both hrc_fact hrc_comparison 1000000 _ _ hm (cIk rfl) h
set_option maxRecDepth 100000 in
set_option maxHeartbeats 4000000 in
theorem w_Pa_product_b43 {K : zK} {d : Nat} (hk : zOk K kdC cX5_product 3 (some .boolean) RX5 (d + 4)) {rc : Nat → Int → zM → Option (Int × zM)} {rec : Int → zM → Option (Int × zM)} {x1 : Int} {x2 : Int} {m : zM} {o : Int × zM} (hrc_sum : ∀ (m : zM) (o : Int × zM), zG kdC m → rc 0 0 m = some o → zMet (kL K) yX5_sum cX5_sum 3 (some .boolean) d (kD K) (kaC K) (kB K) kdC (kN K) [.ref (kB K + 1)] m (4, o.1, o.2)) (hrc_product : ∀ (m : zM) (o : Int × zM), zG kdC m → rc 1 0 m = some o → zMet (kL K) yX5_product cX5_product 3 (some .boolean) d (kD K) (kaC K) (kB K) kdC (kN K) [.ref (kB K + 1)] m (4, o.1, o.2)) (hrc_part : ∀ (m : zM) (o : Int × zM), zG kdC m → rc 2 0 m = some o → zMet (kL K) yX5_part cX5_part 1 (some .boolean) d (kD K) (kaC K) (kB K) kdC (kN K) [.ref (kB K + 1)] m (4, o.1, o.2)) (hrc_pairOfSums : ∀ (a : Int) (m : zM) (o : Int × zM), zG kdC m → cI a → rc 3 a m = some o → zMet (kL K) yX5_pairOfSums cX5_pairOfSums 2 (some .boolean) d (kD K) (kaC K) (kB K) kdC (kN K) [.ref (kB K + 1), mI a] m (4, o.1, o.2)) (hrc_choice : ∀ (m : zM) (o : Int × zM), zG kdC m → rc 4 0 m = some o → zMet (kL K) yX5_choice cX5_choice 1 (some .boolean) d (kD K) (kaC K) (kB K) kdC (kN K) [.ref (kB K + 1)] m (4, o.1, o.2)) (hrc_test : ∀ (m : zM) (o : Int × zM), zG kdC m → rc 5 0 m = some o → zMet (kL K) yX5_test cX5_test 2 (some .boolean) d (kD K) (kaC K) (kB K) kdC (kN K) [.ref (kB K + 1)] m (4, o.1, o.2)) (hrc_both : ∀ (m : zM) (o : Int × zM), zG kdC m → rc 6 0 m = some o → zMet (kL K) yX5_both cX5_both 2 (some .boolean) d (kD K) (kaC K) (kB K) kdC (kN K) [.ref (kB K + 1)] m (4, o.1, o.2)) (hrc_fact : ∀ (m : zM) (o : Int × zM), zG kdC m → rc 7 0 m = some o → zMet (kL K) yX5_fact cX5_fact 1 (some .boolean) d (kD K) (kaC K) (kB K) kdC (kN K) [.ref (kB K + 1)] m (4, o.1, o.2)) (hrc_comparison : ∀ (m : zM) (o : Int × zM), zG kdC m → rc 8 0 m = some o → zMet (kL K) yX5_comparison cX5_comparison 2 (some .boolean) d (kD K) (kaC K) (kB K) kdC (kN K) [.ref (kB K + 1)] m (4, o.1, o.2)) (hrec : ∀ (x1 : Int) (m : zM), zG kdC m → cI x1 → rec x1 m = some o → GoAt K m [(0, .ref (kB K + 1)), (1, mI x1)] [] 11 (4, o.1, o.2)) (hm : zG kdC m) (cx1 : cI x1) (cx2 : cI x2) (h : Pa_product_b43 rc rec x1 x2 m = some o) : GoAt K m [(0, .ref (kB K + 1)), (1, mI x1), (2, mI x2)] [] 43 (4, o.1, o.2) := by
  unfold Pa_product_b43 at h
  refine g_aload_n hk 0 rfl dX5_product_43 ?_
  refine g_dup hk rfl dX5_product_44 ?_
  have g1 := zGI (i := 7) hm kdC_1 rfl
  refine g_get0 hk fl_X5_34 rfl (j := 7) rfl kdC_1 dX5_product_45 ?_
  refine g_iconst hk (v := 1) rfl dX5_product_48 ?_
  refine g_iadd hk dX5_product_49 ?_
  refine g_put0 hk fp_X5_34 rfl (j := 7) rfl kdC_1 (wI_c _) dX5_product_50 h hm (fun m2 hm h => ?_)
  refine g_aload_n hk 0 rfl dX5_product_53 ?_
  obtain ⟨r3, e4, h⟩ := zbind h
  refine g_callVz hk (st := []) mf_X5_part lk_X5_192 mv_X5_part kdC_1 (by omega) rfl (Nat.le_of_ble_eq_true rfl) rfl dX5_product_54 (hrc_part _ _ hm e4) (fun hm c5 => ?_)
  refine g_if_ne hk (b01 c5) dX5_product_57 h (fun b6 h => ?_) (fun b6 h => ?_)
  · refine g_iconst hk (v := 0) rfl dX5_product_60 ?_
    exact g_zreturn hk z0 dX5_product_61 (by cases h; rfl)
  · refine g_aload_n hk 0 rfl dX5_product_62 ?_
    refine g_get3o hk fl_X5_141 rfl (j := 4) rfl kdC_1 dX5_product_63 h (fun zz7 kzz7 h => ?_)
    refine g_iload_n hk 2 rfl dX5_product_66 ?_
    refine g_iconst hk (v := 0) rfl dX5_product_67 ?_
    obtain ⟨r8, e9, h⟩ := zbind h
    refine g_callVv hk (st := []) mf_X1_add lk_X5_188 mv_X1_add kzz7 (by omega) rfl (Nat.le_of_ble_eq_true rfl) rfl dX5_product_68 (met_Fo_add _ _ _ _ _ hk.wd hm kzz7 cx2 (cIk rfl) e9) (fun hm => ?_)
    refine g_iinc hk (lv' := [(1, mI (wI (x1 + 1))), (0, .ref (kB K + 1)), (2, mI x2)]) 1 rfl (Nat.le_of_ble_eq_true rfl) rfl dX5_product_71 ?_
    refine g_goto hk dX5_product_74 ?_
    refine GoAt.sub [1, 0] rfl ?_
    exact hrec _ _ hm (wI_c _) h
set_option maxRecDepth 100000 in
set_option maxHeartbeats 4000000 in
theorem w_Pa_product_B11 {K : zK} {d : Nat} (hk : zOk K kdC cX5_product 3 (some .boolean) RX5 (d + 4)) {rc : Nat → Int → zM → Option (Int × zM)} {rec : Int → zM → Option (Int × zM)} {x1 : Int} {m : zM} {o : Int × zM} (hrc_sum : ∀ (m : zM) (o : Int × zM), zG kdC m → rc 0 0 m = some o → zMet (kL K) yX5_sum cX5_sum 3 (some .boolean) d (kD K) (kaC K) (kB K) kdC (kN K) [.ref (kB K + 1)] m (4, o.1, o.2)) (hrc_product : ∀ (m : zM) (o : Int × zM), zG kdC m → rc 1 0 m = some o → zMet (kL K) yX5_product cX5_product 3 (some .boolean) d (kD K) (kaC K) (kB K) kdC (kN K) [.ref (kB K + 1)] m (4, o.1, o.2)) (hrc_part : ∀ (m : zM) (o : Int × zM), zG kdC m → rc 2 0 m = some o → zMet (kL K) yX5_part cX5_part 1 (some .boolean) d (kD K) (kaC K) (kB K) kdC (kN K) [.ref (kB K + 1)] m (4, o.1, o.2)) (hrc_pairOfSums : ∀ (a : Int) (m : zM) (o : Int × zM), zG kdC m → cI a → rc 3 a m = some o → zMet (kL K) yX5_pairOfSums cX5_pairOfSums 2 (some .boolean) d (kD K) (kaC K) (kB K) kdC (kN K) [.ref (kB K + 1), mI a] m (4, o.1, o.2)) (hrc_choice : ∀ (m : zM) (o : Int × zM), zG kdC m → rc 4 0 m = some o → zMet (kL K) yX5_choice cX5_choice 1 (some .boolean) d (kD K) (kaC K) (kB K) kdC (kN K) [.ref (kB K + 1)] m (4, o.1, o.2)) (hrc_test : ∀ (m : zM) (o : Int × zM), zG kdC m → rc 5 0 m = some o → zMet (kL K) yX5_test cX5_test 2 (some .boolean) d (kD K) (kaC K) (kB K) kdC (kN K) [.ref (kB K + 1)] m (4, o.1, o.2)) (hrc_both : ∀ (m : zM) (o : Int × zM), zG kdC m → rc 6 0 m = some o → zMet (kL K) yX5_both cX5_both 2 (some .boolean) d (kD K) (kaC K) (kB K) kdC (kN K) [.ref (kB K + 1)] m (4, o.1, o.2)) (hrc_fact : ∀ (m : zM) (o : Int × zM), zG kdC m → rc 7 0 m = some o → zMet (kL K) yX5_fact cX5_fact 1 (some .boolean) d (kD K) (kaC K) (kB K) kdC (kN K) [.ref (kB K + 1)] m (4, o.1, o.2)) (hrc_comparison : ∀ (m : zM) (o : Int × zM), zG kdC m → rc 8 0 m = some o → zMet (kL K) yX5_comparison cX5_comparison 2 (some .boolean) d (kD K) (kaC K) (kB K) kdC (kN K) [.ref (kB K + 1)] m (4, o.1, o.2)) (hrec : ∀ (x1 : Int) (m : zM), zG kdC m → cI x1 → rec x1 m = some o → GoAt K m [(0, .ref (kB K + 1)), (1, mI x1)] [] 11 (4, o.1, o.2)) (hm : zG kdC m) (cx1 : cI x1) (h : Pa_product_B11 rc rec x1 m = some o) : GoAt K m [(0, .ref (kB K + 1)), (1, mI x1)] [] 11 (4, o.1, o.2) := by
  unfold Pa_product_B11 at h
  refine g_iload_n hk 1 rfl dX5_product_11 ?_
  refine g_sipush hk (v := 1600) rfl dX5_product_12 ?_
  refine g_icmp_ge hk cx1 (cIk rfl) dX5_product_15 h (fun b1 h => ?_) (fun b1 h => ?_)
  · refine g_aload_n hk 0 rfl dX5_product_18 ?_
    obtain ⟨r2, e3, h⟩ := zbind h
    refine g_callVi hk (st := []) mf_X5_kind lk_X5_40 mv_X5_kind kdC_1 (by omega) rfl (Nat.le_of_ble_eq_true rfl) rfl dX5_product_19 (met_Pa_kind _ _ _ _ _ hk.wd hm e3) (fun hm c4 => ?_)
    refine g_istore_n hk rfl (lv' := [(2, mI r2), (0, .ref (kB K + 1)), (1, mI x1)]) (Nat.le_of_ble_eq_true rfl) rfl dX5_product_22 ?_
    refine g_iload_n hk 0 rfl dX5_product_23 ?_
    refine g_bipush hk (v := 42) rfl dX5_product_24 ?_
    refine g_icmp_eq hk c4 (cIk rfl) dX5_product_26 h (fun b5 h => ?_) (fun b5 h => ?_)
    · refine GoAt.sub [1, 2, 0] rfl ?_
      exact w_Pa_product_b43 hk hrc_sum hrc_product hrc_part hrc_pairOfSums hrc_choice hrc_test hrc_both hrc_fact hrc_comparison hrec hm cx1 c4 h
    · refine g_iload_n hk 0 rfl dX5_product_29 ?_
      refine g_bipush hk (v := 47) rfl dX5_product_30 ?_
      refine g_icmp_eq hk c4 (cIk rfl) dX5_product_32 h (fun b6 h => ?_) (fun b6 h => ?_)
      · refine GoAt.sub [1, 2, 0] rfl ?_
        exact w_Pa_product_b43 hk hrc_sum hrc_product hrc_part hrc_pairOfSums hrc_choice hrc_test hrc_both hrc_fact hrc_comparison hrec hm cx1 c4 h
      · refine g_iload_n hk 0 rfl dX5_product_35 ?_
        refine g_bipush hk (v := 37) rfl dX5_product_36 ?_
        refine g_icmp_eq hk c4 (cIk rfl) dX5_product_38 h (fun b7 h => ?_) (fun b7 h => ?_)
        · refine GoAt.sub [1, 2, 0] rfl ?_
          exact w_Pa_product_b43 hk hrc_sum hrc_product hrc_part hrc_pairOfSums hrc_choice hrc_test hrc_both hrc_fact hrc_comparison hrec hm cx1 c4 h
        · refine g_iconst hk (v := 1) rfl dX5_product_41 ?_
          exact g_zreturn hk z1 dX5_product_42 (by cases h; rfl)
  · refine g_iconst hk (v := 1) rfl dX5_product_77 ?_
    exact g_zreturn hk z1 dX5_product_78 (by cases h; rfl)
theorem w_Pa_product_L11 {K : zK} {d : Nat} (hk : zOk K kdC cX5_product 3 (some .boolean) RX5 (d + 4)) {rc : Nat → Int → zM → Option (Int × zM)}  {o : Int × zM} (hrc_sum : ∀ (m : zM) (o : Int × zM), zG kdC m → rc 0 0 m = some o → zMet (kL K) yX5_sum cX5_sum 3 (some .boolean) d (kD K) (kaC K) (kB K) kdC (kN K) [.ref (kB K + 1)] m (4, o.1, o.2)) (hrc_product : ∀ (m : zM) (o : Int × zM), zG kdC m → rc 1 0 m = some o → zMet (kL K) yX5_product cX5_product 3 (some .boolean) d (kD K) (kaC K) (kB K) kdC (kN K) [.ref (kB K + 1)] m (4, o.1, o.2)) (hrc_part : ∀ (m : zM) (o : Int × zM), zG kdC m → rc 2 0 m = some o → zMet (kL K) yX5_part cX5_part 1 (some .boolean) d (kD K) (kaC K) (kB K) kdC (kN K) [.ref (kB K + 1)] m (4, o.1, o.2)) (hrc_pairOfSums : ∀ (a : Int) (m : zM) (o : Int × zM), zG kdC m → cI a → rc 3 a m = some o → zMet (kL K) yX5_pairOfSums cX5_pairOfSums 2 (some .boolean) d (kD K) (kaC K) (kB K) kdC (kN K) [.ref (kB K + 1), mI a] m (4, o.1, o.2)) (hrc_choice : ∀ (m : zM) (o : Int × zM), zG kdC m → rc 4 0 m = some o → zMet (kL K) yX5_choice cX5_choice 1 (some .boolean) d (kD K) (kaC K) (kB K) kdC (kN K) [.ref (kB K + 1)] m (4, o.1, o.2)) (hrc_test : ∀ (m : zM) (o : Int × zM), zG kdC m → rc 5 0 m = some o → zMet (kL K) yX5_test cX5_test 2 (some .boolean) d (kD K) (kaC K) (kB K) kdC (kN K) [.ref (kB K + 1)] m (4, o.1, o.2)) (hrc_both : ∀ (m : zM) (o : Int × zM), zG kdC m → rc 6 0 m = some o → zMet (kL K) yX5_both cX5_both 2 (some .boolean) d (kD K) (kaC K) (kB K) kdC (kN K) [.ref (kB K + 1)] m (4, o.1, o.2)) (hrc_fact : ∀ (m : zM) (o : Int × zM), zG kdC m → rc 7 0 m = some o → zMet (kL K) yX5_fact cX5_fact 1 (some .boolean) d (kD K) (kaC K) (kB K) kdC (kN K) [.ref (kB K + 1)] m (4, o.1, o.2)) (hrc_comparison : ∀ (m : zM) (o : Int × zM), zG kdC m → rc 8 0 m = some o → zMet (kL K) yX5_comparison cX5_comparison 2 (some .boolean) d (kD K) (kaC K) (kB K) kdC (kN K) [.ref (kB K + 1)] m (4, o.1, o.2)) : ∀ (n : Nat) (x1 : Int) (m : zM), zG kdC m → cI x1 → Pa_product_L11 rc n x1 m = some o → GoAt K m [(0, .ref (kB K + 1)), (1, mI x1)] [] 11 (4, o.1, o.2)
  | 0, x1, m, hm, cx1, h => by cases h
  | n + 1, x1, m, hm, cx1, h => w_Pa_product_B11 hk hrc_sum hrc_product hrc_part hrc_pairOfSums hrc_choice hrc_test hrc_both hrc_fact hrc_comparison (w_Pa_product_L11 hk hrc_sum hrc_product hrc_part hrc_pairOfSums hrc_choice hrc_test hrc_both hrc_fact hrc_comparison n) hm cx1 h
set_option maxRecDepth 100000 in
set_option maxHeartbeats 4000000 in
theorem w_Pa_product {K : zK} {d : Nat} (hk : zOk K kdC cX5_product 3 (some .boolean) RX5 (d + 4)) {rc : Nat → Int → zM → Option (Int × zM)}  {m : zM} {o : Int × zM} (hrc_sum : ∀ (m : zM) (o : Int × zM), zG kdC m → rc 0 0 m = some o → zMet (kL K) yX5_sum cX5_sum 3 (some .boolean) d (kD K) (kaC K) (kB K) kdC (kN K) [.ref (kB K + 1)] m (4, o.1, o.2)) (hrc_product : ∀ (m : zM) (o : Int × zM), zG kdC m → rc 1 0 m = some o → zMet (kL K) yX5_product cX5_product 3 (some .boolean) d (kD K) (kaC K) (kB K) kdC (kN K) [.ref (kB K + 1)] m (4, o.1, o.2)) (hrc_part : ∀ (m : zM) (o : Int × zM), zG kdC m → rc 2 0 m = some o → zMet (kL K) yX5_part cX5_part 1 (some .boolean) d (kD K) (kaC K) (kB K) kdC (kN K) [.ref (kB K + 1)] m (4, o.1, o.2)) (hrc_pairOfSums : ∀ (a : Int) (m : zM) (o : Int × zM), zG kdC m → cI a → rc 3 a m = some o → zMet (kL K) yX5_pairOfSums cX5_pairOfSums 2 (some .boolean) d (kD K) (kaC K) (kB K) kdC (kN K) [.ref (kB K + 1), mI a] m (4, o.1, o.2)) (hrc_choice : ∀ (m : zM) (o : Int × zM), zG kdC m → rc 4 0 m = some o → zMet (kL K) yX5_choice cX5_choice 1 (some .boolean) d (kD K) (kaC K) (kB K) kdC (kN K) [.ref (kB K + 1)] m (4, o.1, o.2)) (hrc_test : ∀ (m : zM) (o : Int × zM), zG kdC m → rc 5 0 m = some o → zMet (kL K) yX5_test cX5_test 2 (some .boolean) d (kD K) (kaC K) (kB K) kdC (kN K) [.ref (kB K + 1)] m (4, o.1, o.2)) (hrc_both : ∀ (m : zM) (o : Int × zM), zG kdC m → rc 6 0 m = some o → zMet (kL K) yX5_both cX5_both 2 (some .boolean) d (kD K) (kaC K) (kB K) kdC (kN K) [.ref (kB K + 1)] m (4, o.1, o.2)) (hrc_fact : ∀ (m : zM) (o : Int × zM), zG kdC m → rc 7 0 m = some o → zMet (kL K) yX5_fact cX5_fact 1 (some .boolean) d (kD K) (kaC K) (kB K) kdC (kN K) [.ref (kB K + 1)] m (4, o.1, o.2)) (hrc_comparison : ∀ (m : zM) (o : Int × zM), zG kdC m → rc 8 0 m = some o → zMet (kL K) yX5_comparison cX5_comparison 2 (some .boolean) d (kD K) (kaC K) (kB K) kdC (kN K) [.ref (kB K + 1)] m (4, o.1, o.2)) (hm : zG kdC m)  (h : Pa_product rc m = some o) : GoAt K m [(0, .ref (kB K + 1))] [] 0 (4, o.1, o.2) := by
  unfold Pa_product at h
  refine g_aload_n hk 0 rfl dX5_product_0 ?_
  obtain ⟨r1, e2, h⟩ := zbind h
  refine g_callVz hk (st := []) mf_X5_part lk_X5_192 mv_X5_part kdC_1 (by omega) rfl (Nat.le_of_ble_eq_true rfl) rfl dX5_product_1 (hrc_part _ _ hm e2) (fun hm c3 => ?_)
  refine g_if_ne hk (b01 c3) dX5_product_4 h (fun b4 h => ?_) (fun b4 h => ?_)
  · refine g_iconst hk (v := 0) rfl dX5_product_7 ?_
    exact g_zreturn hk z0 dX5_product_8 (by cases h; rfl)
  · refine g_iconst hk (v := 0) rfl dX5_product_9 ?_
    refine g_istore_n hk rfl (lv' := [(1, mI 0), (0, .ref (kB K + 1))]) (Nat.le_of_ble_eq_true rfl) rfl dX5_product_10 ?_
    refine GoAt.sub [1, 0] rfl ?_
    refine w_Pa_product_L11 hk hrc_sum hrc_product hrc_part hrc_pairOfSums hrc_choice hrc_test hrc_both hrc_fact hrc_comparison 1000000 _ _ hm (cIk rfl) h
set_option maxRecDepth 100000 in
set_option maxHeartbeats 4000000 in
theorem w_Pa_opening {K : zK} (hk : zOk K kdC cX5_opening 2 (some .boolean) RX5 1)  {x1 : Int} {m : zM} {o : Int × zM}  (hm : zG kdC m) (cx1 : cI x1) (h : Pa_opening x1 m = some o) : GoAt K m [(0, .ref (kB K + 1)), (1, mI x1)] [] 0 (4, o.1, o.2) := by
  unfold Pa_opening at h
  refine g_aload_n hk 0 rfl dX5_opening_0 ?_
  obtain ⟨r1, e2, h⟩ := zbind h
  refine g_callVi hk (st := []) mf_X5_kind lk_X5_40 mv_X5_kind kdC_1 (by decide) rfl (Nat.le_of_ble_eq_true rfl) rfl dX5_opening_1 (met_Pa_kind _ _ _ _ _ hk.wd hm e2) (fun hm c3 => ?_)
  refine g_iload_n hk 1 rfl dX5_opening_4 ?_
  refine g_icmp_eq hk c3 cx1 dX5_opening_5 h (fun b4 h => ?_) (fun b4 h => ?_)
  · refine g_aload_n hk 0 rfl dX5_opening_14 ?_
    have g5 := zGI (i := 6) hm kdC_1 rfl
    refine g_get0 hk fl_X5_148 rfl (j := 6) rfl kdC_1 dX5_opening_15 ?_
    refine g_bipush hk (v := 7) rfl dX5_opening_18 ?_
    refine g_icmp_lt hk g5 (cIk rfl) dX5_opening_20 h (fun b6 h => ?_) (fun b6 h => ?_)
    · refine g_aload_n hk 0 rfl dX5_opening_29 ?_
      refine g_dup hk rfl dX5_opening_30 ?_
      have g7 := zGI (i := 6) hm kdC_1 rfl
      refine g_get0 hk fl_X5_148 rfl (j := 6) rfl kdC_1 dX5_opening_31 ?_
      refine g_iconst hk (v := 1) rfl dX5_opening_34 ?_
      refine g_iadd hk dX5_opening_35 ?_
      refine g_put0 hk fp_X5_148 rfl (j := 6) rfl kdC_1 (wI_c _) dX5_opening_36 h hm (fun m8 hm h => ?_)
      refine g_aload_n hk 0 rfl dX5_opening_39 ?_
      refine g_dup hk rfl dX5_opening_40 ?_
      have g9 := zGI (i := 7) hm kdC_1 rfl
      refine g_get0 hk fl_X5_34 rfl (j := 7) rfl kdC_1 dX5_opening_41 ?_
      refine g_iconst hk (v := 1) rfl dX5_opening_44 ?_
      refine g_iadd hk dX5_opening_45 ?_
      refine g_put0 hk fp_X5_34 rfl (j := 7) rfl kdC_1 (wI_c _) dX5_opening_46 h hm (fun m10 hm h => ?_)
      refine g_iconst hk (v := 1) rfl dX5_opening_49 ?_
      exact g_zreturn hk z1 dX5_opening_50 (by cases h; rfl)
    · refine g_aload_n hk 0 rfl dX5_opening_23 ?_
      refine g_iconst hk (v := 5) rfl dX5_opening_24 ?_
      obtain ⟨r11, e12, h⟩ := zbind h
      refine g_callVz hk (st := []) mf_X5_fail lk_X5_44 mv_X5_fail kdC_1 (by decide) rfl (Nat.le_of_ble_eq_true rfl) rfl dX5_opening_25 (met_Pa_fail _ _ _ _ _ hk.wd hm (cIk rfl) e12) (fun hm c13 => ?_)
      exact g_zreturn hk c13 dX5_opening_28 (by cases h; rfl)
  · refine g_aload_n hk 0 rfl dX5_opening_8 ?_
    refine g_iconst hk (v := 1) rfl dX5_opening_9 ?_
    obtain ⟨r14, e15, h⟩ := zbind h
    refine g_callVz hk (st := []) mf_X5_fail lk_X5_44 mv_X5_fail kdC_1 (by decide) rfl (Nat.le_of_ble_eq_true rfl) rfl dX5_opening_10 (met_Pa_fail _ _ _ _ _ hk.wd hm (cIk rfl) e15) (fun hm c16 => ?_)
    exact g_zreturn hk c16 dX5_opening_13 (by cases h; rfl)
theorem met_Pa_opening (l : Launch) (D : va_G) (aC : Nat → ClassId) (B N : Nat) (hwd : ∀ id, (kdC id).1 ≠ 9 → id < N) {x1 : Int} {m : zM} {o : Int × zM} (hm : zG kdC m) (cx1 : cI x1) (h : Pa_opening x1 m = some o) : zMet l yX5_opening cX5_opening 2 (some .boolean) 1 D aC B kdC N [.ref (B + 1), mI x1] m (4, o.1, o.2) := by
  refine zMet.of mf_X5_opening hwd hm (Nat.le_of_ble_eq_true rfl) (fun K e1 e2 e3 e4 e5 hk => ?_)
  subst e4
  exact w_Pa_opening hk hm cx1 h
set_option maxRecDepth 100000 in
set_option maxHeartbeats 4000000 in
theorem w_Pa_closing {K : zK} (hk : zOk K kdC cX5_closing 2 (some .boolean) RX5 2)  {x1 : Int} {m : zM} {o : Int × zM}  (hm : zG kdC m) (cx1 : cI x1) (h : Pa_closing x1 m = some o) : GoAt K m [(0, .ref (kB K + 1)), (1, mI x1)] [] 0 (4, o.1, o.2) := by
  unfold Pa_closing at h
  refine g_aload_n hk 0 rfl dX5_closing_0 ?_
  refine g_dup hk rfl dX5_closing_1 ?_
  have g1 := zGI (i := 6) hm kdC_1 rfl
  refine g_get0 hk fl_X5_148 rfl (j := 6) rfl kdC_1 dX5_closing_2 ?_
  refine g_iconst hk (v := 1) rfl dX5_closing_5 ?_
  refine g_isub hk dX5_closing_6 ?_
  refine g_put0 hk fp_X5_148 rfl (j := 6) rfl kdC_1 (wI_c _) dX5_closing_7 h hm (fun m2 hm h => ?_)
  refine g_aload_n hk 0 rfl dX5_closing_10 ?_
  refine g_iload_n hk 1 rfl dX5_closing_11 ?_
  obtain ⟨r3, e4, h⟩ := zbind h
  refine g_callVz hk (st := []) mf_X5_token lk_X5_52 mv_X5_token kdC_1 (by decide) rfl (Nat.le_of_ble_eq_true rfl) rfl dX5_closing_12 (met_Pa_token _ _ _ _ _ hk.wd hm cx1 e4) (fun hm c5 => ?_)
  exact g_zreturn hk c5 dX5_closing_15 (by cases h; rfl)
theorem met_Pa_closing (l : Launch) (D : va_G) (aC : Nat → ClassId) (B N : Nat) (hwd : ∀ id, (kdC id).1 ≠ 9 → id < N) {x1 : Int} {m : zM} {o : Int × zM} (hm : zG kdC m) (cx1 : cI x1) (h : Pa_closing x1 m = some o) : zMet l yX5_closing cX5_closing 2 (some .boolean) 2 D aC B kdC N [.ref (B + 1), mI x1] m (4, o.1, o.2) := by
  refine zMet.of mf_X5_closing hwd hm (Nat.le_of_ble_eq_true rfl) (fun K e1 e2 e3 e4 e5 hk => ?_)
  subst e4
  exact w_Pa_closing hk hm cx1 h
set_option maxRecDepth 100000 in
set_option maxHeartbeats 4000000 in
theorem w_Pa_scenePart_b87 {K : zK} (hk : zOk K kdC cX5_scenePart 3 (some .boolean) RX5 1)  {x2 : Int} {m : zM} {o : Int × zM}  (hm : zG kdC m) (cx2 : cI x2) (h : Pa_scenePart_b87 x2 m = some o) : GoAt K m [(0, .ref (kB K + 1)), (2, mI x2)] [] 87 (4, o.1, o.2) := by
  unfold Pa_scenePart_b87 at h
  refine g_iload_n hk 1 rfl dX5_scenePart_87 ?_
  refine g_iconst hk (v := (-1)) rfl dX5_scenePart_88 ?_
  refine g_icmp_ne hk cx2 (cIk rfl) dX5_scenePart_89 h (fun b1 h => ?_) (fun b1 h => ?_)
  · refine g_aload_n hk 0 rfl dX5_scenePart_92 ?_
    refine g_iconst hk (v := 1) rfl dX5_scenePart_93 ?_
    obtain ⟨r2, e3, h⟩ := zbind h
    refine g_callVz hk (st := []) mf_X5_fail lk_X5_44 mv_X5_fail kdC_1 (by decide) rfl (Nat.le_of_ble_eq_true rfl) rfl dX5_scenePart_94 (met_Pa_fail _ _ _ _ _ hk.wd hm (cIk rfl) e3) (fun hm c4 => ?_)
    exact g_zreturn hk c4 dX5_scenePart_97 (by cases h; rfl)
  · refine g_aload_n hk 0 rfl dX5_scenePart_98 ?_
    refine g_get3o hk fl_X5_141 rfl (j := 4) rfl kdC_1 dX5_scenePart_99 h (fun zz5 kzz5 h => ?_)
    refine g_iconst hk (v := 2) rfl dX5_scenePart_102 ?_
    refine g_iload_n hk 1 rfl dX5_scenePart_103 ?_
    obtain ⟨r6, e7, h⟩ := zbind h
    refine g_callVv hk (st := []) mf_X1_add lk_X5_188 mv_X1_add kzz5 (by decide) rfl (Nat.le_of_ble_eq_true rfl) rfl dX5_scenePart_104 (met_Fo_add _ _ _ _ _ hk.wd hm kzz5 (cIk rfl) cx2 e7) (fun hm => ?_)
    refine g_aload_n hk 0 rfl dX5_scenePart_107 ?_
    refine g_dup hk rfl dX5_scenePart_108 ?_
    have g9 := zGI (i := 7) hm kdC_1 rfl
    refine g_get0 hk fl_X5_34 rfl (j := 7) rfl kdC_1 dX5_scenePart_109 ?_
    refine g_iconst hk (v := 1) rfl dX5_scenePart_112 ?_
    refine g_iadd hk dX5_scenePart_113 ?_
    refine g_put0 hk fp_X5_34 rfl (j := 7) rfl kdC_1 (wI_c _) dX5_scenePart_114 h hm (fun m10 hm h => ?_)
    refine g_iconst hk (v := 1) rfl dX5_scenePart_117 ?_
    exact g_zreturn hk z1 dX5_scenePart_118 (by cases h; rfl)
set_option maxRecDepth 100000 in
set_option maxHeartbeats 4000000 in
theorem w_Pa_scenePart_b70 {K : zK} (hk : zOk K kdC cX5_scenePart 3 (some .boolean) RX5 1)  {x1 : Int} {x2 : Int} {m : zM} {o : Int × zM}  (hm : zG kdC m) (cx1 : cI x1) (cx2 : cI x2) (h : Pa_scenePart_b70 x1 x2 m = some o) : GoAt K m [(0, .ref (kB K + 1)), (1, mI x1), (2, mI x2)] [] 70 (4, o.1, o.2) := by
  unfold Pa_scenePart_b70 at h
  refine g_aload_n hk 0 rfl dX5_scenePart_70 ?_
  have g1 := zGZ (i := 5) hm kdC_1 rfl
  refine g_get4 hk fl_X5_144 rfl (j := 5) rfl kdC_1 dX5_scenePart_71 ?_
  refine g_if_eq hk (b01 g1) dX5_scenePart_74 h (fun b2 h => ?_) (fun b2 h => ?_)
  · refine GoAt.sub [0, 2] rfl ?_
    exact w_Pa_scenePart_b87 hk hm cx2 h
  · refine g_iload_n hk 1 rfl dX5_scenePart_77 ?_
    refine g_sipush hk (v := 322) rfl dX5_scenePart_78 ?_
    refine g_icmp_ne hk cx1 (cIk rfl) dX5_scenePart_81 h (fun b3 h => ?_) (fun b3 h => ?_)
    · refine g_bipush hk (v := 8) rfl dX5_scenePart_84 ?_
      refine g_istore_n hk rfl (lv' := [(2, mI 8), (0, .ref (kB K + 1)), (1, mI x1)]) (Nat.le_of_ble_eq_true rfl) rfl dX5_scenePart_86 ?_
      refine GoAt.sub [1, 0] rfl ?_
      exact w_Pa_scenePart_b87 hk hm (cIk rfl) h
    · refine GoAt.sub [0, 2] rfl ?_
      exact w_Pa_scenePart_b87 hk hm cx2 h
set_option maxRecDepth 100000 in
set_option maxHeartbeats 4000000 in
theorem w_Pa_scenePart_b50 {K : zK} (hk : zOk K kdC cX5_scenePart 3 (some .boolean) RX5 1)  {x1 : Int} {x2 : Int} {m : zM} {o : Int × zM}  (hm : zG kdC m) (cx1 : cI x1) (cx2 : cI x2) (h : Pa_scenePart_b50 x1 x2 m = some o) : GoAt K m [(0, .ref (kB K + 1)), (1, mI x1), (2, mI x2)] [] 50 (4, o.1, o.2) := by
  unfold Pa_scenePart_b50 at h
  refine g_aload_n hk 0 rfl dX5_scenePart_50 ?_
  have g1 := zGZ (i := 5) hm kdC_1 rfl
  refine g_get4 hk fl_X5_144 rfl (j := 5) rfl kdC_1 dX5_scenePart_51 ?_
  refine g_if_eq hk (b01 g1) dX5_scenePart_54 h (fun b2 h => ?_) (fun b2 h => ?_)
  · exact w_Pa_scenePart_b70 hk hm cx1 cx2 h
  · refine g_iload_n hk 1 rfl dX5_scenePart_57 ?_
    refine g_sipush hk (v := 307) rfl dX5_scenePart_58 ?_
    refine g_icmp_ne hk cx1 (cIk rfl) dX5_scenePart_61 h (fun b3 h => ?_) (fun b3 h => ?_)
    · refine g_bipush hk (v := 7) rfl dX5_scenePart_64 ?_
      refine g_istore_n hk rfl (lv' := [(2, mI 7), (0, .ref (kB K + 1)), (1, mI x1)]) (Nat.le_of_ble_eq_true rfl) rfl dX5_scenePart_66 ?_
      refine g_goto hk dX5_scenePart_67 ?_
      refine GoAt.sub [1, 0] rfl ?_
      exact w_Pa_scenePart_b87 hk hm (cIk rfl) h
    · exact w_Pa_scenePart_b70 hk hm cx1 cx2 h
set_option maxRecDepth 100000 in
set_option maxHeartbeats 4000000 in
theorem w_Pa_scenePart_b30 {K : zK} (hk : zOk K kdC cX5_scenePart 3 (some .boolean) RX5 1)  {x1 : Int} {x2 : Int} {m : zM} {o : Int × zM}  (hm : zG kdC m) (cx1 : cI x1) (cx2 : cI x2) (h : Pa_scenePart_b30 x1 x2 m = some o) : GoAt K m [(0, .ref (kB K + 1)), (1, mI x1), (2, mI x2)] [] 30 (4, o.1, o.2) := by
  unfold Pa_scenePart_b30 at h
  refine g_aload_n hk 0 rfl dX5_scenePart_30 ?_
  have g1 := zGZ (i := 5) hm kdC_1 rfl
  refine g_get4 hk fl_X5_144 rfl (j := 5) rfl kdC_1 dX5_scenePart_31 ?_
  refine g_if_eq hk (b01 g1) dX5_scenePart_34 h (fun b2 h => ?_) (fun b2 h => ?_)
  · exact w_Pa_scenePart_b50 hk hm cx1 cx2 h
  · refine g_iload_n hk 1 rfl dX5_scenePart_37 ?_
    refine g_sipush hk (v := 321) rfl dX5_scenePart_38 ?_
    refine g_icmp_ne hk cx1 (cIk rfl) dX5_scenePart_41 h (fun b3 h => ?_) (fun b3 h => ?_)
    · refine g_bipush hk (v := 6) rfl dX5_scenePart_44 ?_
      refine g_istore_n hk rfl (lv' := [(2, mI 6), (0, .ref (kB K + 1)), (1, mI x1)]) (Nat.le_of_ble_eq_true rfl) rfl dX5_scenePart_46 ?_
      refine g_goto hk dX5_scenePart_47 ?_
      refine GoAt.sub [1, 0] rfl ?_
      exact w_Pa_scenePart_b87 hk hm (cIk rfl) h
    · exact w_Pa_scenePart_b50 hk hm cx1 cx2 h
set_option maxRecDepth 100000 in
set_option maxHeartbeats 4000000 in
theorem w_Pa_scenePart {K : zK} (hk : zOk K kdC cX5_scenePart 3 (some .boolean) RX5 1)  {m : zM} {o : Int × zM}  (hm : zG kdC m)  (h : Pa_scenePart m = some o) : GoAt K m [(0, .ref (kB K + 1))] [] 0 (4, o.1, o.2) := by
  unfold Pa_scenePart at h
  refine g_aload_n hk 0 rfl dX5_scenePart_0 ?_
  obtain ⟨r1, e2, h⟩ := zbind h
  refine g_callVi hk (st := []) mf_X5_kind lk_X5_40 mv_X5_kind kdC_1 (by decide) rfl (Nat.le_of_ble_eq_true rfl) rfl dX5_scenePart_1 (met_Pa_kind _ _ _ _ _ hk.wd hm e2) (fun hm c3 => ?_)
  refine g_istore_n hk rfl (lv' := [(1, mI r1), (0, .ref (kB K + 1))]) (Nat.le_of_ble_eq_true rfl) rfl dX5_scenePart_4 ?_
  refine g_iconst hk (v := (-1)) rfl dX5_scenePart_5 ?_
  refine g_istore_n hk rfl (lv' := [(2, mI ((-1))), (1, mI r1), (0, .ref (kB K + 1))]) (Nat.le_of_ble_eq_true rfl) rfl dX5_scenePart_6 ?_
  refine g_iload_n hk 1 rfl dX5_scenePart_7 ?_
  refine g_sipush hk (v := 315) rfl dX5_scenePart_8 ?_
  refine g_icmp_lt hk c3 (cIk rfl) dX5_scenePart_11 h (fun b4 h => ?_) (fun b4 h => ?_)
  · refine GoAt.sub [2, 1, 0] rfl ?_
    exact w_Pa_scenePart_b30 hk hm c3 (cIk rfl) h
  · refine g_iload_n hk 1 rfl dX5_scenePart_14 ?_
    refine g_sipush hk (v := 320) rfl dX5_scenePart_15 ?_
    refine g_icmp_gt hk c3 (cIk rfl) dX5_scenePart_18 h (fun b5 h => ?_) (fun b5 h => ?_)
    · refine GoAt.sub [2, 1, 0] rfl ?_
      exact w_Pa_scenePart_b30 hk hm c3 (cIk rfl) h
    · refine g_iload_n hk 1 rfl dX5_scenePart_21 ?_
      refine g_sipush hk (v := 315) rfl dX5_scenePart_22 ?_
      refine g_isub hk dX5_scenePart_25 ?_
      refine g_let (wI_c _) h (fun v6 cv6 h => ?_)
      refine g_istore_n hk rfl (lv' := [(2, mI v6), (1, mI r1), (0, .ref (kB K + 1))]) (Nat.le_of_ble_eq_true rfl) rfl dX5_scenePart_26 ?_
      refine g_goto hk dX5_scenePart_27 ?_
      refine GoAt.sub [2, 0] rfl ?_
      exact w_Pa_scenePart_b87 hk hm cv6 h
theorem met_Pa_scenePart (l : Launch) (D : va_G) (aC : Nat → ClassId) (B N : Nat) (hwd : ∀ id, (kdC id).1 ≠ 9 → id < N) {m : zM} {o : Int × zM} (hm : zG kdC m)  (h : Pa_scenePart m = some o) : zMet l yX5_scenePart cX5_scenePart 3 (some .boolean) 1 D aC B kdC N [.ref (B + 1)] m (4, o.1, o.2) := by
  refine zMet.of mf_X5_scenePart hwd hm (Nat.le_of_ble_eq_true rfl) (fun K e1 e2 e3 e4 e5 hk => ?_)
  subst e4
  exact w_Pa_scenePart hk hm  h
set_option maxRecDepth 100000 in
set_option maxHeartbeats 4000000 in
theorem w_Pa_part {K : zK} {d : Nat} (hk : zOk K kdC cX5_part 1 (some .boolean) RX5 (d + 4)) {rc : Nat → Int → zM → Option (Int × zM)}  {m : zM} {o : Int × zM} (hrc_sum : ∀ (m : zM) (o : Int × zM), zG kdC m → rc 0 0 m = some o → zMet (kL K) yX5_sum cX5_sum 3 (some .boolean) d (kD K) (kaC K) (kB K) kdC (kN K) [.ref (kB K + 1)] m (4, o.1, o.2)) (hrc_product : ∀ (m : zM) (o : Int × zM), zG kdC m → rc 1 0 m = some o → zMet (kL K) yX5_product cX5_product 3 (some .boolean) d (kD K) (kaC K) (kB K) kdC (kN K) [.ref (kB K + 1)] m (4, o.1, o.2)) (hrc_part : ∀ (m : zM) (o : Int × zM), zG kdC m → rc 2 0 m = some o → zMet (kL K) yX5_part cX5_part 1 (some .boolean) d (kD K) (kaC K) (kB K) kdC (kN K) [.ref (kB K + 1)] m (4, o.1, o.2)) (hrc_pairOfSums : ∀ (a : Int) (m : zM) (o : Int × zM), zG kdC m → cI a → rc 3 a m = some o → zMet (kL K) yX5_pairOfSums cX5_pairOfSums 2 (some .boolean) d (kD K) (kaC K) (kB K) kdC (kN K) [.ref (kB K + 1), mI a] m (4, o.1, o.2)) (hrc_choice : ∀ (m : zM) (o : Int × zM), zG kdC m → rc 4 0 m = some o → zMet (kL K) yX5_choice cX5_choice 1 (some .boolean) d (kD K) (kaC K) (kB K) kdC (kN K) [.ref (kB K + 1)] m (4, o.1, o.2)) (hrc_test : ∀ (m : zM) (o : Int × zM), zG kdC m → rc 5 0 m = some o → zMet (kL K) yX5_test cX5_test 2 (some .boolean) d (kD K) (kaC K) (kB K) kdC (kN K) [.ref (kB K + 1)] m (4, o.1, o.2)) (hrc_both : ∀ (m : zM) (o : Int × zM), zG kdC m → rc 6 0 m = some o → zMet (kL K) yX5_both cX5_both 2 (some .boolean) d (kD K) (kaC K) (kB K) kdC (kN K) [.ref (kB K + 1)] m (4, o.1, o.2)) (hrc_fact : ∀ (m : zM) (o : Int × zM), zG kdC m → rc 7 0 m = some o → zMet (kL K) yX5_fact cX5_fact 1 (some .boolean) d (kD K) (kaC K) (kB K) kdC (kN K) [.ref (kB K + 1)] m (4, o.1, o.2)) (hrc_comparison : ∀ (m : zM) (o : Int × zM), zG kdC m → rc 8 0 m = some o → zMet (kL K) yX5_comparison cX5_comparison 2 (some .boolean) d (kD K) (kaC K) (kB K) kdC (kN K) [.ref (kB K + 1)] m (4, o.1, o.2)) (hm : zG kdC m)  (h : Pa_part rc m = some o) : GoAt K m [(0, .ref (kB K + 1))] [] 0 (4, o.1, o.2) := by
  unfold Pa_part at h
  refine g_aload_n hk 0 rfl dX5_part_0 ?_
  obtain ⟨r1, e2, h⟩ := zbind h
  refine g_callVi hk (st := []) mf_X5_kind lk_X5_40 mv_X5_kind kdC_1 (by omega) rfl (Nat.le_of_ble_eq_true rfl) rfl dX5_part_1 (met_Pa_kind _ _ _ _ _ hk.wd hm e2) (fun hm c3 => ?_)
  rcases zite h with ⟨e4, h⟩ | ⟨e4, h⟩
  · refine g_lin hk c3 dX5_part_4 (by decide) e4 rfl (by decide) (tgt := 88) ?_
    refine g_aload_n hk 0 rfl dX5_part_88 ?_
    refine g_bipush hk (v := 40) rfl dX5_part_89 ?_
    obtain ⟨r9, e10, h⟩ := zbind h
    refine g_callVz hk (st := []) mf_X5_opening lk_X5_195 mv_X5_opening kdC_1 (by omega) rfl (Nat.le_of_ble_eq_true rfl) rfl dX5_part_91 (met_Pa_opening _ _ _ _ _ hk.wd hm (cIk rfl) e10) (fun hm c11 => ?_)
    refine g_if_eq hk (b01 c11) dX5_part_94 h (fun b12 h => ?_) (fun b12 h => ?_)
    · refine g_iconst hk (v := 0) rfl dX5_part_117 ?_
      exact g_zreturn hk z0 dX5_part_118 (by cases h; rfl)
    · refine g_aload_n hk 0 rfl dX5_part_97 ?_
      obtain ⟨r13, e14, h⟩ := zbind h
      refine g_callVz hk (st := []) mf_X5_sum lk_X5_151 mv_X5_sum kdC_1 (by omega) rfl (Nat.le_of_ble_eq_true rfl) rfl dX5_part_98 (hrc_sum _ _ hm e14) (fun hm c15 => ?_)
      refine g_if_eq hk (b01 c15) dX5_part_101 h (fun b16 h => ?_) (fun b16 h => ?_)
      · refine g_iconst hk (v := 0) rfl dX5_part_117 ?_
        exact g_zreturn hk z0 dX5_part_118 (by cases h; rfl)
      · refine g_aload_n hk 0 rfl dX5_part_104 ?_
        refine g_bipush hk (v := 41) rfl dX5_part_105 ?_
        obtain ⟨r17, e18, h⟩ := zbind h
        refine g_callVz hk (st := []) mf_X5_closing lk_X5_198 mv_X5_closing kdC_1 (by omega) rfl (Nat.le_of_ble_eq_true rfl) rfl dX5_part_107 (met_Pa_closing _ _ _ _ _ hk.wd hm (cIk rfl) e18) (fun hm c19 => ?_)
        refine g_if_eq hk (b01 c19) dX5_part_110 h (fun b20 h => ?_) (fun b20 h => ?_)
        · refine g_iconst hk (v := 0) rfl dX5_part_117 ?_
          exact g_zreturn hk z0 dX5_part_118 (by cases h; rfl)
        · refine g_iconst hk (v := 1) rfl dX5_part_113 ?_
          refine g_goto hk dX5_part_114 ?_
          exact g_zreturn hk z1 dX5_part_118 (by cases h; rfl)
  rcases zite h with ⟨e5, h⟩ | ⟨e5, h⟩
  · refine g_lin hk c3 dX5_part_4 (by decide) e5 rfl (by decide) (tgt := 56) ?_
    refine g_aload_n hk 0 rfl dX5_part_56 ?_
    refine g_get3o hk fl_X5_141 rfl (j := 4) rfl kdC_1 dX5_part_57 h (fun zz21 kzz21 h => ?_)
    refine g_iconst hk (v := 1) rfl dX5_part_60 ?_
    refine g_aload_n hk 0 rfl dX5_part_61 ?_
    refine g_get2 hk fl_X5_12 rfl kdC_1 hm (b := 2) rfl dX5_part_62 ?_
    refine g_get2 hk fl_X5_175 rfl kdC_2 hm (b := 6) rfl dX5_part_65 ?_
    refine g_aload_n hk 0 rfl dX5_part_68 ?_
    have g22 := zGI (i := 7) hm kdC_1 rfl
    refine g_get0 hk fl_X5_34 rfl (j := 7) rfl kdC_1 dX5_part_69 ?_
    refine g_iald hk g22 kdC_6 hm dX5_part_72 h (fun y23 cy23 h => ?_)
    obtain ⟨r24, e25, h⟩ := zbind h
    refine g_callVv hk (st := []) mf_X1_add lk_X5_188 mv_X1_add kzz21 (by omega) rfl (Nat.le_of_ble_eq_true rfl) rfl dX5_part_73 (met_Fo_add _ _ _ _ _ hk.wd hm kzz21 (cIk rfl) cy23 e25) (fun hm => ?_)
    refine g_aload_n hk 0 rfl dX5_part_76 ?_
    refine g_dup hk rfl dX5_part_77 ?_
    have g27 := zGI (i := 7) hm kdC_1 rfl
    refine g_get0 hk fl_X5_34 rfl (j := 7) rfl kdC_1 dX5_part_78 ?_
    refine g_iconst hk (v := 1) rfl dX5_part_81 ?_
    refine g_iadd hk dX5_part_82 ?_
    refine g_put0 hk fp_X5_34 rfl (j := 7) rfl kdC_1 (wI_c _) dX5_part_83 h hm (fun m28 hm h => ?_)
    refine g_iconst hk (v := 1) rfl dX5_part_86 ?_
    exact g_zreturn hk z1 dX5_part_87 (by cases h; rfl)
  rcases zite h with ⟨e6, h⟩ | ⟨e6, h⟩
  · refine g_lin hk c3 dX5_part_4 (by decide) e6 rfl (by decide) (tgt := 131) ?_
    refine g_aload_n hk 0 rfl dX5_part_131 ?_
    obtain ⟨r29, e30, h⟩ := zbind h
    refine g_callVz hk (st := []) mf_X5_choice lk_X5_204 mv_X5_choice kdC_1 (by omega) rfl (Nat.le_of_ble_eq_true rfl) rfl dX5_part_132 (hrc_choice _ _ hm e30) (fun hm c31 => ?_)
    exact g_zreturn hk c31 dX5_part_135 (by cases h; rfl)
  rcases zite h with ⟨e7, h⟩ | ⟨e7, h⟩
  · refine g_lin hk c3 dX5_part_4 (by decide) e7 rfl (by decide) (tgt := 119) ?_
    refine g_aload_n hk 0 rfl dX5_part_119 ?_
    refine g_iconst hk (v := 3) rfl dX5_part_120 ?_
    obtain ⟨r32, e33, h⟩ := zbind h
    refine g_callVz hk (st := []) mf_X5_pairOfSums lk_X5_201 mv_X5_pairOfSums kdC_1 (by omega) rfl (Nat.le_of_ble_eq_true rfl) rfl dX5_part_121 (hrc_pairOfSums _ _ _ hm (cIk rfl) e33) (fun hm c34 => ?_)
    exact g_zreturn hk c34 dX5_part_124 (by cases h; rfl)
  rcases zite h with ⟨e8, h⟩ | ⟨e8, h⟩
  · refine g_lin hk c3 dX5_part_4 (by decide) e8 rfl (by decide) (tgt := 125) ?_
    refine g_aload_n hk 0 rfl dX5_part_125 ?_
    refine g_iconst hk (v := 4) rfl dX5_part_126 ?_
    obtain ⟨r35, e36, h⟩ := zbind h
    refine g_callVz hk (st := []) mf_X5_pairOfSums lk_X5_201 mv_X5_pairOfSums kdC_1 (by omega) rfl (Nat.le_of_ble_eq_true rfl) rfl dX5_part_127 (hrc_pairOfSums _ _ _ hm (cIk rfl) e36) (fun hm c37 => ?_)
    exact g_zreturn hk c37 dX5_part_130 (by cases h; rfl)
  refine g_ldef hk c3 dX5_part_4 (by decide) (zlk_none _ (fun q hq => by have hq : q ∈ [(40, 84), (259, 52), (323, 127), (328, 115), (329, 121)] := hq; simp only [List.mem_cons, List.not_mem_nil, or_false] at hq; rcases hq with rfl | rfl | rfl | rfl | rfl <;> (intro hq; first | exact e4 hq.symm | exact e5 hq.symm | exact e6 hq.symm | exact e7 hq.symm | exact e8 hq.symm))) (by decide) (tgt := 136) ?_
  refine g_aload_n hk 0 rfl dX5_part_136 ?_
  obtain ⟨r38, e39, h⟩ := zbind h
  refine g_callVz hk (st := []) mf_X5_scenePart lk_X5_207 mv_X5_scenePart kdC_1 (by omega) rfl (Nat.le_of_ble_eq_true rfl) rfl dX5_part_137 (met_Pa_scenePart _ _ _ _ _ hk.wd hm e39) (fun hm c40 => ?_)
  exact g_zreturn hk c40 dX5_part_140 (by cases h; rfl)
set_option maxRecDepth 100000 in
set_option maxHeartbeats 4000000 in
theorem w_Pa_pairOfSums {K : zK} {d : Nat} (hk : zOk K kdC cX5_pairOfSums 2 (some .boolean) RX5 (d + 4)) {rc : Nat → Int → zM → Option (Int × zM)}  {x1 : Int} {m : zM} {o : Int × zM} (hrc_sum : ∀ (m : zM) (o : Int × zM), zG kdC m → rc 0 0 m = some o → zMet (kL K) yX5_sum cX5_sum 3 (some .boolean) d (kD K) (kaC K) (kB K) kdC (kN K) [.ref (kB K + 1)] m (4, o.1, o.2)) (hrc_product : ∀ (m : zM) (o : Int × zM), zG kdC m → rc 1 0 m = some o → zMet (kL K) yX5_product cX5_product 3 (some .boolean) d (kD K) (kaC K) (kB K) kdC (kN K) [.ref (kB K + 1)] m (4, o.1, o.2)) (hrc_part : ∀ (m : zM) (o : Int × zM), zG kdC m → rc 2 0 m = some o → zMet (kL K) yX5_part cX5_part 1 (some .boolean) d (kD K) (kaC K) (kB K) kdC (kN K) [.ref (kB K + 1)] m (4, o.1, o.2)) (hrc_pairOfSums : ∀ (a : Int) (m : zM) (o : Int × zM), zG kdC m → cI a → rc 3 a m = some o → zMet (kL K) yX5_pairOfSums cX5_pairOfSums 2 (some .boolean) d (kD K) (kaC K) (kB K) kdC (kN K) [.ref (kB K + 1), mI a] m (4, o.1, o.2)) (hrc_choice : ∀ (m : zM) (o : Int × zM), zG kdC m → rc 4 0 m = some o → zMet (kL K) yX5_choice cX5_choice 1 (some .boolean) d (kD K) (kaC K) (kB K) kdC (kN K) [.ref (kB K + 1)] m (4, o.1, o.2)) (hrc_test : ∀ (m : zM) (o : Int × zM), zG kdC m → rc 5 0 m = some o → zMet (kL K) yX5_test cX5_test 2 (some .boolean) d (kD K) (kaC K) (kB K) kdC (kN K) [.ref (kB K + 1)] m (4, o.1, o.2)) (hrc_both : ∀ (m : zM) (o : Int × zM), zG kdC m → rc 6 0 m = some o → zMet (kL K) yX5_both cX5_both 2 (some .boolean) d (kD K) (kaC K) (kB K) kdC (kN K) [.ref (kB K + 1)] m (4, o.1, o.2)) (hrc_fact : ∀ (m : zM) (o : Int × zM), zG kdC m → rc 7 0 m = some o → zMet (kL K) yX5_fact cX5_fact 1 (some .boolean) d (kD K) (kaC K) (kB K) kdC (kN K) [.ref (kB K + 1)] m (4, o.1, o.2)) (hrc_comparison : ∀ (m : zM) (o : Int × zM), zG kdC m → rc 8 0 m = some o → zMet (kL K) yX5_comparison cX5_comparison 2 (some .boolean) d (kD K) (kaC K) (kB K) kdC (kN K) [.ref (kB K + 1)] m (4, o.1, o.2)) (hm : zG kdC m) (cx1 : cI x1) (h : Pa_pairOfSums rc x1 m = some o) : GoAt K m [(0, .ref (kB K + 1)), (1, mI x1)] [] 0 (4, o.1, o.2) := by
  unfold Pa_pairOfSums at h
  refine g_aload_n hk 0 rfl dX5_pairOfSums_0 ?_
  refine g_dup hk rfl dX5_pairOfSums_1 ?_
  have g1 := zGI (i := 7) hm kdC_1 rfl
  refine g_get0 hk fl_X5_34 rfl (j := 7) rfl kdC_1 dX5_pairOfSums_2 ?_
  refine g_iconst hk (v := 1) rfl dX5_pairOfSums_5 ?_
  refine g_iadd hk dX5_pairOfSums_6 ?_
  refine g_put0 hk fp_X5_34 rfl (j := 7) rfl kdC_1 (wI_c _) dX5_pairOfSums_7 h hm (fun m2 hm h => ?_)
  refine g_aload_n hk 0 rfl dX5_pairOfSums_10 ?_
  refine g_bipush hk (v := 40) rfl dX5_pairOfSums_11 ?_
  obtain ⟨r3, e4, h⟩ := zbind h
  refine g_callVz hk (st := []) mf_X5_opening lk_X5_195 mv_X5_opening kdC_1 (by omega) rfl (Nat.le_of_ble_eq_true rfl) rfl dX5_pairOfSums_13 (met_Pa_opening _ _ _ _ _ hk.wd hm (cIk rfl) e4) (fun hm c5 => ?_)
  refine g_if_eq hk (b01 c5) dX5_pairOfSums_16 h (fun b6 h => ?_) (fun b6 h => ?_)
  · refine g_iconst hk (v := 0) rfl dX5_pairOfSums_51 ?_
    exact g_zreturn hk z0 dX5_pairOfSums_52 (by cases h; rfl)
  · refine g_aload_n hk 0 rfl dX5_pairOfSums_19 ?_
    obtain ⟨r7, e8, h⟩ := zbind h
    refine g_callVz hk (st := []) mf_X5_sum lk_X5_151 mv_X5_sum kdC_1 (by omega) rfl (Nat.le_of_ble_eq_true rfl) rfl dX5_pairOfSums_20 (hrc_sum _ _ hm e8) (fun hm c9 => ?_)
    refine g_if_eq hk (b01 c9) dX5_pairOfSums_23 h (fun b10 h => ?_) (fun b10 h => ?_)
    · refine g_iconst hk (v := 0) rfl dX5_pairOfSums_51 ?_
      exact g_zreturn hk z0 dX5_pairOfSums_52 (by cases h; rfl)
    · refine g_aload_n hk 0 rfl dX5_pairOfSums_26 ?_
      refine g_bipush hk (v := 44) rfl dX5_pairOfSums_27 ?_
      obtain ⟨r11, e12, h⟩ := zbind h
      refine g_callVz hk (st := []) mf_X5_token lk_X5_52 mv_X5_token kdC_1 (by omega) rfl (Nat.le_of_ble_eq_true rfl) rfl dX5_pairOfSums_29 (met_Pa_token _ _ _ _ _ hk.wd hm (cIk rfl) e12) (fun hm c13 => ?_)
      refine g_if_eq hk (b01 c13) dX5_pairOfSums_32 h (fun b14 h => ?_) (fun b14 h => ?_)
      · refine g_iconst hk (v := 0) rfl dX5_pairOfSums_51 ?_
        exact g_zreturn hk z0 dX5_pairOfSums_52 (by cases h; rfl)
      · refine g_aload_n hk 0 rfl dX5_pairOfSums_35 ?_
        obtain ⟨r15, e16, h⟩ := zbind h
        refine g_callVz hk (st := []) mf_X5_sum lk_X5_151 mv_X5_sum kdC_1 (by omega) rfl (Nat.le_of_ble_eq_true rfl) rfl dX5_pairOfSums_36 (hrc_sum _ _ hm e16) (fun hm c17 => ?_)
        refine g_if_eq hk (b01 c17) dX5_pairOfSums_39 h (fun b18 h => ?_) (fun b18 h => ?_)
        · refine g_iconst hk (v := 0) rfl dX5_pairOfSums_51 ?_
          exact g_zreturn hk z0 dX5_pairOfSums_52 (by cases h; rfl)
        · refine g_aload_n hk 0 rfl dX5_pairOfSums_42 ?_
          refine g_bipush hk (v := 41) rfl dX5_pairOfSums_43 ?_
          obtain ⟨r19, e20, h⟩ := zbind h
          refine g_callVz hk (st := []) mf_X5_closing lk_X5_198 mv_X5_closing kdC_1 (by omega) rfl (Nat.le_of_ble_eq_true rfl) rfl dX5_pairOfSums_45 (met_Pa_closing _ _ _ _ _ hk.wd hm (cIk rfl) e20) (fun hm c21 => ?_)
          refine g_if_ne hk (b01 c21) dX5_pairOfSums_48 h (fun b22 h => ?_) (fun b22 h => ?_)
          · refine g_iconst hk (v := 0) rfl dX5_pairOfSums_51 ?_
            exact g_zreturn hk z0 dX5_pairOfSums_52 (by cases h; rfl)
          · refine g_aload_n hk 0 rfl dX5_pairOfSums_53 ?_
            refine g_get3o hk fl_X5_141 rfl (j := 4) rfl kdC_1 dX5_pairOfSums_54 h (fun zz23 kzz23 h => ?_)
            refine g_iload_n hk 1 rfl dX5_pairOfSums_57 ?_
            refine g_iconst hk (v := 0) rfl dX5_pairOfSums_58 ?_
            obtain ⟨r24, e25, h⟩ := zbind h
            refine g_callVv hk (st := []) mf_X1_add lk_X5_188 mv_X1_add kzz23 (by omega) rfl (Nat.le_of_ble_eq_true rfl) rfl dX5_pairOfSums_59 (met_Fo_add _ _ _ _ _ hk.wd hm kzz23 cx1 (cIk rfl) e25) (fun hm => ?_)
            refine g_iconst hk (v := 1) rfl dX5_pairOfSums_62 ?_
            exact g_zreturn hk z1 dX5_pairOfSums_63 (by cases h; rfl)
set_option maxRecDepth 100000 in
set_option maxHeartbeats 4000000 in
theorem w_Pa_choice {K : zK} {d : Nat} (hk : zOk K kdC cX5_choice 1 (some .boolean) RX5 (d + 4)) {rc : Nat → Int → zM → Option (Int × zM)}  {m : zM} {o : Int × zM} (hrc_sum : ∀ (m : zM) (o : Int × zM), zG kdC m → rc 0 0 m = some o → zMet (kL K) yX5_sum cX5_sum 3 (some .boolean) d (kD K) (kaC K) (kB K) kdC (kN K) [.ref (kB K + 1)] m (4, o.1, o.2)) (hrc_product : ∀ (m : zM) (o : Int × zM), zG kdC m → rc 1 0 m = some o → zMet (kL K) yX5_product cX5_product 3 (some .boolean) d (kD K) (kaC K) (kB K) kdC (kN K) [.ref (kB K + 1)] m (4, o.1, o.2)) (hrc_part : ∀ (m : zM) (o : Int × zM), zG kdC m → rc 2 0 m = some o → zMet (kL K) yX5_part cX5_part 1 (some .boolean) d (kD K) (kaC K) (kB K) kdC (kN K) [.ref (kB K + 1)] m (4, o.1, o.2)) (hrc_pairOfSums : ∀ (a : Int) (m : zM) (o : Int × zM), zG kdC m → cI a → rc 3 a m = some o → zMet (kL K) yX5_pairOfSums cX5_pairOfSums 2 (some .boolean) d (kD K) (kaC K) (kB K) kdC (kN K) [.ref (kB K + 1), mI a] m (4, o.1, o.2)) (hrc_choice : ∀ (m : zM) (o : Int × zM), zG kdC m → rc 4 0 m = some o → zMet (kL K) yX5_choice cX5_choice 1 (some .boolean) d (kD K) (kaC K) (kB K) kdC (kN K) [.ref (kB K + 1)] m (4, o.1, o.2)) (hrc_test : ∀ (m : zM) (o : Int × zM), zG kdC m → rc 5 0 m = some o → zMet (kL K) yX5_test cX5_test 2 (some .boolean) d (kD K) (kaC K) (kB K) kdC (kN K) [.ref (kB K + 1)] m (4, o.1, o.2)) (hrc_both : ∀ (m : zM) (o : Int × zM), zG kdC m → rc 6 0 m = some o → zMet (kL K) yX5_both cX5_both 2 (some .boolean) d (kD K) (kaC K) (kB K) kdC (kN K) [.ref (kB K + 1)] m (4, o.1, o.2)) (hrc_fact : ∀ (m : zM) (o : Int × zM), zG kdC m → rc 7 0 m = some o → zMet (kL K) yX5_fact cX5_fact 1 (some .boolean) d (kD K) (kaC K) (kB K) kdC (kN K) [.ref (kB K + 1)] m (4, o.1, o.2)) (hrc_comparison : ∀ (m : zM) (o : Int × zM), zG kdC m → rc 8 0 m = some o → zMet (kL K) yX5_comparison cX5_comparison 2 (some .boolean) d (kD K) (kaC K) (kB K) kdC (kN K) [.ref (kB K + 1)] m (4, o.1, o.2)) (hm : zG kdC m)  (h : Pa_choice rc m = some o) : GoAt K m [(0, .ref (kB K + 1))] [] 0 (4, o.1, o.2) := by
  unfold Pa_choice at h
  refine g_aload_n hk 0 rfl dX5_choice_0 ?_
  refine g_dup hk rfl dX5_choice_1 ?_
  have g1 := zGI (i := 7) hm kdC_1 rfl
  refine g_get0 hk fl_X5_34 rfl (j := 7) rfl kdC_1 dX5_choice_2 ?_
  refine g_iconst hk (v := 1) rfl dX5_choice_5 ?_
  refine g_iadd hk dX5_choice_6 ?_
  refine g_put0 hk fp_X5_34 rfl (j := 7) rfl kdC_1 (wI_c _) dX5_choice_7 h hm (fun m2 hm h => ?_)
  refine g_aload_n hk 0 rfl dX5_choice_10 ?_
  refine g_bipush hk (v := 40) rfl dX5_choice_11 ?_
  obtain ⟨r3, e4, h⟩ := zbind h
  refine g_callVz hk (st := []) mf_X5_opening lk_X5_195 mv_X5_opening kdC_1 (by omega) rfl (Nat.le_of_ble_eq_true rfl) rfl dX5_choice_13 (met_Pa_opening _ _ _ _ _ hk.wd hm (cIk rfl) e4) (fun hm c5 => ?_)
  refine g_if_eq hk (b01 c5) dX5_choice_16 h (fun b6 h => ?_) (fun b6 h => ?_)
  · refine g_iconst hk (v := 0) rfl dX5_choice_67 ?_
    exact g_zreturn hk z0 dX5_choice_68 (by cases h; rfl)
  · refine g_aload_n hk 0 rfl dX5_choice_19 ?_
    obtain ⟨r7, e8, h⟩ := zbind h
    refine g_callVz hk (st := []) mf_X5_test lk_X5_157 mv_X5_test kdC_1 (by omega) rfl (Nat.le_of_ble_eq_true rfl) rfl dX5_choice_20 (hrc_test _ _ hm e8) (fun hm c9 => ?_)
    refine g_if_eq hk (b01 c9) dX5_choice_23 h (fun b10 h => ?_) (fun b10 h => ?_)
    · refine g_iconst hk (v := 0) rfl dX5_choice_67 ?_
      exact g_zreturn hk z0 dX5_choice_68 (by cases h; rfl)
    · refine g_aload_n hk 0 rfl dX5_choice_26 ?_
      refine g_bipush hk (v := 44) rfl dX5_choice_27 ?_
      obtain ⟨r11, e12, h⟩ := zbind h
      refine g_callVz hk (st := []) mf_X5_token lk_X5_52 mv_X5_token kdC_1 (by omega) rfl (Nat.le_of_ble_eq_true rfl) rfl dX5_choice_29 (met_Pa_token _ _ _ _ _ hk.wd hm (cIk rfl) e12) (fun hm c13 => ?_)
      refine g_if_eq hk (b01 c13) dX5_choice_32 h (fun b14 h => ?_) (fun b14 h => ?_)
      · refine g_iconst hk (v := 0) rfl dX5_choice_67 ?_
        exact g_zreturn hk z0 dX5_choice_68 (by cases h; rfl)
      · refine g_aload_n hk 0 rfl dX5_choice_35 ?_
        obtain ⟨r15, e16, h⟩ := zbind h
        refine g_callVz hk (st := []) mf_X5_sum lk_X5_151 mv_X5_sum kdC_1 (by omega) rfl (Nat.le_of_ble_eq_true rfl) rfl dX5_choice_36 (hrc_sum _ _ hm e16) (fun hm c17 => ?_)
        refine g_if_eq hk (b01 c17) dX5_choice_39 h (fun b18 h => ?_) (fun b18 h => ?_)
        · refine g_iconst hk (v := 0) rfl dX5_choice_67 ?_
          exact g_zreturn hk z0 dX5_choice_68 (by cases h; rfl)
        · refine g_aload_n hk 0 rfl dX5_choice_42 ?_
          refine g_bipush hk (v := 44) rfl dX5_choice_43 ?_
          obtain ⟨r19, e20, h⟩ := zbind h
          refine g_callVz hk (st := []) mf_X5_token lk_X5_52 mv_X5_token kdC_1 (by omega) rfl (Nat.le_of_ble_eq_true rfl) rfl dX5_choice_45 (met_Pa_token _ _ _ _ _ hk.wd hm (cIk rfl) e20) (fun hm c21 => ?_)
          refine g_if_eq hk (b01 c21) dX5_choice_48 h (fun b22 h => ?_) (fun b22 h => ?_)
          · refine g_iconst hk (v := 0) rfl dX5_choice_67 ?_
            exact g_zreturn hk z0 dX5_choice_68 (by cases h; rfl)
          · refine g_aload_n hk 0 rfl dX5_choice_51 ?_
            obtain ⟨r23, e24, h⟩ := zbind h
            refine g_callVz hk (st := []) mf_X5_sum lk_X5_151 mv_X5_sum kdC_1 (by omega) rfl (Nat.le_of_ble_eq_true rfl) rfl dX5_choice_52 (hrc_sum _ _ hm e24) (fun hm c25 => ?_)
            refine g_if_eq hk (b01 c25) dX5_choice_55 h (fun b26 h => ?_) (fun b26 h => ?_)
            · refine g_iconst hk (v := 0) rfl dX5_choice_67 ?_
              exact g_zreturn hk z0 dX5_choice_68 (by cases h; rfl)
            · refine g_aload_n hk 0 rfl dX5_choice_58 ?_
              refine g_bipush hk (v := 41) rfl dX5_choice_59 ?_
              obtain ⟨r27, e28, h⟩ := zbind h
              refine g_callVz hk (st := []) mf_X5_closing lk_X5_198 mv_X5_closing kdC_1 (by omega) rfl (Nat.le_of_ble_eq_true rfl) rfl dX5_choice_61 (met_Pa_closing _ _ _ _ _ hk.wd hm (cIk rfl) e28) (fun hm c29 => ?_)
              refine g_if_ne hk (b01 c29) dX5_choice_64 h (fun b30 h => ?_) (fun b30 h => ?_)
              · refine g_iconst hk (v := 0) rfl dX5_choice_67 ?_
                exact g_zreturn hk z0 dX5_choice_68 (by cases h; rfl)
              · refine g_aload_n hk 0 rfl dX5_choice_69 ?_
                refine g_get3o hk fl_X5_141 rfl (j := 4) rfl kdC_1 dX5_choice_70 h (fun zz31 kzz31 h => ?_)
                refine g_iconst hk (v := 5) rfl dX5_choice_73 ?_
                refine g_iconst hk (v := 0) rfl dX5_choice_74 ?_
                obtain ⟨r32, e33, h⟩ := zbind h
                refine g_callVv hk (st := []) mf_X1_add lk_X5_188 mv_X1_add kzz31 (by omega) rfl (Nat.le_of_ble_eq_true rfl) rfl dX5_choice_75 (met_Fo_add _ _ _ _ _ hk.wd hm kzz31 (cIk rfl) (cIk rfl) e33) (fun hm => ?_)
                refine g_iconst hk (v := 1) rfl dX5_choice_78 ?_
                exact g_zreturn hk z1 dX5_choice_79 (by cases h; rfl)
set_option maxRecDepth 100000 in
set_option maxHeartbeats 4000000 in
theorem w_Pa_test_B11 {K : zK} {d : Nat} (hk : zOk K kdC cX5_test 2 (some .boolean) RX5 (d + 4)) {rc : Nat → Int → zM → Option (Int × zM)} {rec : Int → zM → Option (Int × zM)} {x1 : Int} {m : zM} {o : Int × zM} (hrc_sum : ∀ (m : zM) (o : Int × zM), zG kdC m → rc 0 0 m = some o → zMet (kL K) yX5_sum cX5_sum 3 (some .boolean) d (kD K) (kaC K) (kB K) kdC (kN K) [.ref (kB K + 1)] m (4, o.1, o.2)) (hrc_product : ∀ (m : zM) (o : Int × zM), zG kdC m → rc 1 0 m = some o → zMet (kL K) yX5_product cX5_product 3 (some .boolean) d (kD K) (kaC K) (kB K) kdC (kN K) [.ref (kB K + 1)] m (4, o.1, o.2)) (hrc_part : ∀ (m : zM) (o : Int × zM), zG kdC m → rc 2 0 m = some o → zMet (kL K) yX5_part cX5_part 1 (some .boolean) d (kD K) (kaC K) (kB K) kdC (kN K) [.ref (kB K + 1)] m (4, o.1, o.2)) (hrc_pairOfSums : ∀ (a : Int) (m : zM) (o : Int × zM), zG kdC m → cI a → rc 3 a m = some o → zMet (kL K) yX5_pairOfSums cX5_pairOfSums 2 (some .boolean) d (kD K) (kaC K) (kB K) kdC (kN K) [.ref (kB K + 1), mI a] m (4, o.1, o.2)) (hrc_choice : ∀ (m : zM) (o : Int × zM), zG kdC m → rc 4 0 m = some o → zMet (kL K) yX5_choice cX5_choice 1 (some .boolean) d (kD K) (kaC K) (kB K) kdC (kN K) [.ref (kB K + 1)] m (4, o.1, o.2)) (hrc_test : ∀ (m : zM) (o : Int × zM), zG kdC m → rc 5 0 m = some o → zMet (kL K) yX5_test cX5_test 2 (some .boolean) d (kD K) (kaC K) (kB K) kdC (kN K) [.ref (kB K + 1)] m (4, o.1, o.2)) (hrc_both : ∀ (m : zM) (o : Int × zM), zG kdC m → rc 6 0 m = some o → zMet (kL K) yX5_both cX5_both 2 (some .boolean) d (kD K) (kaC K) (kB K) kdC (kN K) [.ref (kB K + 1)] m (4, o.1, o.2)) (hrc_fact : ∀ (m : zM) (o : Int × zM), zG kdC m → rc 7 0 m = some o → zMet (kL K) yX5_fact cX5_fact 1 (some .boolean) d (kD K) (kaC K) (kB K) kdC (kN K) [.ref (kB K + 1)] m (4, o.1, o.2)) (hrc_comparison : ∀ (m : zM) (o : Int × zM), zG kdC m → rc 8 0 m = some o → zMet (kL K) yX5_comparison cX5_comparison 2 (some .boolean) d (kD K) (kaC K) (kB K) kdC (kN K) [.ref (kB K + 1)] m (4, o.1, o.2)) (hrec : ∀ (x1 : Int) (m : zM), zG kdC m → cI x1 → rec x1 m = some o → GoAt K m [(0, .ref (kB K + 1)), (1, mI x1)] [] 11 (4, o.1, o.2)) (hm : zG kdC m) (cx1 : cI x1) (h : Pa_test_B11 rc rec x1 m = some o) : GoAt K m [(0, .ref (kB K + 1)), (1, mI x1)] [] 11 (4, o.1, o.2) := by
  unfold Pa_test_B11 at h
  refine g_iload_n hk 1 rfl dX5_test_11 ?_
  refine g_sipush hk (v := 1600) rfl dX5_test_12 ?_
  refine g_icmp_ge hk cx1 (cIk rfl) dX5_test_15 h (fun b1 h => ?_) (fun b1 h => ?_)
  · refine g_aload_n hk 0 rfl dX5_test_18 ?_
    obtain ⟨r2, e3, h⟩ := zbind h
    refine g_callVi hk (st := []) mf_X5_kind lk_X5_40 mv_X5_kind kdC_1 (by omega) rfl (Nat.le_of_ble_eq_true rfl) rfl dX5_test_19 (met_Pa_kind _ _ _ _ _ hk.wd hm e3) (fun hm c4 => ?_)
    refine g_sipush hk (v := 324) rfl dX5_test_22 ?_
    refine g_icmp_eq hk c4 (cIk rfl) dX5_test_25 h (fun b5 h => ?_) (fun b5 h => ?_)
    · refine g_aload_n hk 0 rfl dX5_test_30 ?_
      refine g_dup hk rfl dX5_test_31 ?_
      have g6 := zGI (i := 7) hm kdC_1 rfl
      refine g_get0 hk fl_X5_34 rfl (j := 7) rfl kdC_1 dX5_test_32 ?_
      refine g_iconst hk (v := 1) rfl dX5_test_35 ?_
      refine g_iadd hk dX5_test_36 ?_
      refine g_put0 hk fp_X5_34 rfl (j := 7) rfl kdC_1 (wI_c _) dX5_test_37 h hm (fun m7 hm h => ?_)
      refine g_aload_n hk 0 rfl dX5_test_40 ?_
      obtain ⟨r8, e9, h⟩ := zbind h
      refine g_callVz hk (st := []) mf_X5_both lk_X5_210 mv_X5_both kdC_1 (by omega) rfl (Nat.le_of_ble_eq_true rfl) rfl dX5_test_41 (hrc_both _ _ hm e9) (fun hm c10 => ?_)
      refine g_if_ne hk (b01 c10) dX5_test_44 h (fun b11 h => ?_) (fun b11 h => ?_)
      · refine g_iconst hk (v := 0) rfl dX5_test_47 ?_
        exact g_zreturn hk z0 dX5_test_48 (by cases h; rfl)
      · refine g_aload_n hk 0 rfl dX5_test_49 ?_
        refine g_get3o hk fl_X5_141 rfl (j := 4) rfl kdC_1 dX5_test_50 h (fun zz12 kzz12 h => ?_)
        refine g_bipush hk (v := 8) rfl dX5_test_53 ?_
        refine g_iconst hk (v := 0) rfl dX5_test_55 ?_
        obtain ⟨r13, e14, h⟩ := zbind h
        refine g_callVv hk (st := []) mf_X1_add lk_X5_188 mv_X1_add kzz12 (by omega) rfl (Nat.le_of_ble_eq_true rfl) rfl dX5_test_56 (met_Fo_add _ _ _ _ _ hk.wd hm kzz12 (cIk rfl) (cIk rfl) e14) (fun hm => ?_)
        refine g_iinc hk (lv' := [(1, mI (wI (x1 + 1))), (0, .ref (kB K + 1))]) 1 rfl (Nat.le_of_ble_eq_true rfl) rfl dX5_test_59 ?_
        refine g_goto hk dX5_test_62 ?_
        refine GoAt.sub [1, 0] rfl ?_
        exact hrec _ _ hm (wI_c _) h
    · refine g_iconst hk (v := 1) rfl dX5_test_28 ?_
      exact g_zreturn hk z1 dX5_test_29 (by cases h; rfl)
  · refine g_iconst hk (v := 1) rfl dX5_test_65 ?_
    exact g_zreturn hk z1 dX5_test_66 (by cases h; rfl)
theorem w_Pa_test_L11 {K : zK} {d : Nat} (hk : zOk K kdC cX5_test 2 (some .boolean) RX5 (d + 4)) {rc : Nat → Int → zM → Option (Int × zM)}  {o : Int × zM} (hrc_sum : ∀ (m : zM) (o : Int × zM), zG kdC m → rc 0 0 m = some o → zMet (kL K) yX5_sum cX5_sum 3 (some .boolean) d (kD K) (kaC K) (kB K) kdC (kN K) [.ref (kB K + 1)] m (4, o.1, o.2)) (hrc_product : ∀ (m : zM) (o : Int × zM), zG kdC m → rc 1 0 m = some o → zMet (kL K) yX5_product cX5_product 3 (some .boolean) d (kD K) (kaC K) (kB K) kdC (kN K) [.ref (kB K + 1)] m (4, o.1, o.2)) (hrc_part : ∀ (m : zM) (o : Int × zM), zG kdC m → rc 2 0 m = some o → zMet (kL K) yX5_part cX5_part 1 (some .boolean) d (kD K) (kaC K) (kB K) kdC (kN K) [.ref (kB K + 1)] m (4, o.1, o.2)) (hrc_pairOfSums : ∀ (a : Int) (m : zM) (o : Int × zM), zG kdC m → cI a → rc 3 a m = some o → zMet (kL K) yX5_pairOfSums cX5_pairOfSums 2 (some .boolean) d (kD K) (kaC K) (kB K) kdC (kN K) [.ref (kB K + 1), mI a] m (4, o.1, o.2)) (hrc_choice : ∀ (m : zM) (o : Int × zM), zG kdC m → rc 4 0 m = some o → zMet (kL K) yX5_choice cX5_choice 1 (some .boolean) d (kD K) (kaC K) (kB K) kdC (kN K) [.ref (kB K + 1)] m (4, o.1, o.2)) (hrc_test : ∀ (m : zM) (o : Int × zM), zG kdC m → rc 5 0 m = some o → zMet (kL K) yX5_test cX5_test 2 (some .boolean) d (kD K) (kaC K) (kB K) kdC (kN K) [.ref (kB K + 1)] m (4, o.1, o.2)) (hrc_both : ∀ (m : zM) (o : Int × zM), zG kdC m → rc 6 0 m = some o → zMet (kL K) yX5_both cX5_both 2 (some .boolean) d (kD K) (kaC K) (kB K) kdC (kN K) [.ref (kB K + 1)] m (4, o.1, o.2)) (hrc_fact : ∀ (m : zM) (o : Int × zM), zG kdC m → rc 7 0 m = some o → zMet (kL K) yX5_fact cX5_fact 1 (some .boolean) d (kD K) (kaC K) (kB K) kdC (kN K) [.ref (kB K + 1)] m (4, o.1, o.2)) (hrc_comparison : ∀ (m : zM) (o : Int × zM), zG kdC m → rc 8 0 m = some o → zMet (kL K) yX5_comparison cX5_comparison 2 (some .boolean) d (kD K) (kaC K) (kB K) kdC (kN K) [.ref (kB K + 1)] m (4, o.1, o.2)) : ∀ (n : Nat) (x1 : Int) (m : zM), zG kdC m → cI x1 → Pa_test_L11 rc n x1 m = some o → GoAt K m [(0, .ref (kB K + 1)), (1, mI x1)] [] 11 (4, o.1, o.2)
  | 0, x1, m, hm, cx1, h => by cases h
  | n + 1, x1, m, hm, cx1, h => w_Pa_test_B11 hk hrc_sum hrc_product hrc_part hrc_pairOfSums hrc_choice hrc_test hrc_both hrc_fact hrc_comparison (w_Pa_test_L11 hk hrc_sum hrc_product hrc_part hrc_pairOfSums hrc_choice hrc_test hrc_both hrc_fact hrc_comparison n) hm cx1 h
set_option maxRecDepth 100000 in
set_option maxHeartbeats 4000000 in
theorem w_Pa_test {K : zK} {d : Nat} (hk : zOk K kdC cX5_test 2 (some .boolean) RX5 (d + 4)) {rc : Nat → Int → zM → Option (Int × zM)}  {m : zM} {o : Int × zM} (hrc_sum : ∀ (m : zM) (o : Int × zM), zG kdC m → rc 0 0 m = some o → zMet (kL K) yX5_sum cX5_sum 3 (some .boolean) d (kD K) (kaC K) (kB K) kdC (kN K) [.ref (kB K + 1)] m (4, o.1, o.2)) (hrc_product : ∀ (m : zM) (o : Int × zM), zG kdC m → rc 1 0 m = some o → zMet (kL K) yX5_product cX5_product 3 (some .boolean) d (kD K) (kaC K) (kB K) kdC (kN K) [.ref (kB K + 1)] m (4, o.1, o.2)) (hrc_part : ∀ (m : zM) (o : Int × zM), zG kdC m → rc 2 0 m = some o → zMet (kL K) yX5_part cX5_part 1 (some .boolean) d (kD K) (kaC K) (kB K) kdC (kN K) [.ref (kB K + 1)] m (4, o.1, o.2)) (hrc_pairOfSums : ∀ (a : Int) (m : zM) (o : Int × zM), zG kdC m → cI a → rc 3 a m = some o → zMet (kL K) yX5_pairOfSums cX5_pairOfSums 2 (some .boolean) d (kD K) (kaC K) (kB K) kdC (kN K) [.ref (kB K + 1), mI a] m (4, o.1, o.2)) (hrc_choice : ∀ (m : zM) (o : Int × zM), zG kdC m → rc 4 0 m = some o → zMet (kL K) yX5_choice cX5_choice 1 (some .boolean) d (kD K) (kaC K) (kB K) kdC (kN K) [.ref (kB K + 1)] m (4, o.1, o.2)) (hrc_test : ∀ (m : zM) (o : Int × zM), zG kdC m → rc 5 0 m = some o → zMet (kL K) yX5_test cX5_test 2 (some .boolean) d (kD K) (kaC K) (kB K) kdC (kN K) [.ref (kB K + 1)] m (4, o.1, o.2)) (hrc_both : ∀ (m : zM) (o : Int × zM), zG kdC m → rc 6 0 m = some o → zMet (kL K) yX5_both cX5_both 2 (some .boolean) d (kD K) (kaC K) (kB K) kdC (kN K) [.ref (kB K + 1)] m (4, o.1, o.2)) (hrc_fact : ∀ (m : zM) (o : Int × zM), zG kdC m → rc 7 0 m = some o → zMet (kL K) yX5_fact cX5_fact 1 (some .boolean) d (kD K) (kaC K) (kB K) kdC (kN K) [.ref (kB K + 1)] m (4, o.1, o.2)) (hrc_comparison : ∀ (m : zM) (o : Int × zM), zG kdC m → rc 8 0 m = some o → zMet (kL K) yX5_comparison cX5_comparison 2 (some .boolean) d (kD K) (kaC K) (kB K) kdC (kN K) [.ref (kB K + 1)] m (4, o.1, o.2)) (hm : zG kdC m)  (h : Pa_test rc m = some o) : GoAt K m [(0, .ref (kB K + 1))] [] 0 (4, o.1, o.2) := by
  unfold Pa_test at h
  refine g_aload_n hk 0 rfl dX5_test_0 ?_
  obtain ⟨r1, e2, h⟩ := zbind h
  refine g_callVz hk (st := []) mf_X5_both lk_X5_210 mv_X5_both kdC_1 (by omega) rfl (Nat.le_of_ble_eq_true rfl) rfl dX5_test_1 (hrc_both _ _ hm e2) (fun hm c3 => ?_)
  refine g_if_ne hk (b01 c3) dX5_test_4 h (fun b4 h => ?_) (fun b4 h => ?_)
  · refine g_iconst hk (v := 0) rfl dX5_test_7 ?_
    exact g_zreturn hk z0 dX5_test_8 (by cases h; rfl)
  · refine g_iconst hk (v := 0) rfl dX5_test_9 ?_
    refine g_istore_n hk rfl (lv' := [(1, mI 0), (0, .ref (kB K + 1))]) (Nat.le_of_ble_eq_true rfl) rfl dX5_test_10 ?_
    refine GoAt.sub [1, 0] rfl ?_
    refine w_Pa_test_L11 hk hrc_sum hrc_product hrc_part hrc_pairOfSums hrc_choice hrc_test hrc_both hrc_fact hrc_comparison 1000000 _ _ hm (cIk rfl) h
set_option maxRecDepth 100000 in
set_option maxHeartbeats 4000000 in
theorem w_Pa_both_B11 {K : zK} {d : Nat} (hk : zOk K kdC cX5_both 2 (some .boolean) RX5 (d + 4)) {rc : Nat → Int → zM → Option (Int × zM)} {rec : Int → zM → Option (Int × zM)} {x1 : Int} {m : zM} {o : Int × zM} (hrc_sum : ∀ (m : zM) (o : Int × zM), zG kdC m → rc 0 0 m = some o → zMet (kL K) yX5_sum cX5_sum 3 (some .boolean) d (kD K) (kaC K) (kB K) kdC (kN K) [.ref (kB K + 1)] m (4, o.1, o.2)) (hrc_product : ∀ (m : zM) (o : Int × zM), zG kdC m → rc 1 0 m = some o → zMet (kL K) yX5_product cX5_product 3 (some .boolean) d (kD K) (kaC K) (kB K) kdC (kN K) [.ref (kB K + 1)] m (4, o.1, o.2)) (hrc_part : ∀ (m : zM) (o : Int × zM), zG kdC m → rc 2 0 m = some o → zMet (kL K) yX5_part cX5_part 1 (some .boolean) d (kD K) (kaC K) (kB K) kdC (kN K) [.ref (kB K + 1)] m (4, o.1, o.2)) (hrc_pairOfSums : ∀ (a : Int) (m : zM) (o : Int × zM), zG kdC m → cI a → rc 3 a m = some o → zMet (kL K) yX5_pairOfSums cX5_pairOfSums 2 (some .boolean) d (kD K) (kaC K) (kB K) kdC (kN K) [.ref (kB K + 1), mI a] m (4, o.1, o.2)) (hrc_choice : ∀ (m : zM) (o : Int × zM), zG kdC m → rc 4 0 m = some o → zMet (kL K) yX5_choice cX5_choice 1 (some .boolean) d (kD K) (kaC K) (kB K) kdC (kN K) [.ref (kB K + 1)] m (4, o.1, o.2)) (hrc_test : ∀ (m : zM) (o : Int × zM), zG kdC m → rc 5 0 m = some o → zMet (kL K) yX5_test cX5_test 2 (some .boolean) d (kD K) (kaC K) (kB K) kdC (kN K) [.ref (kB K + 1)] m (4, o.1, o.2)) (hrc_both : ∀ (m : zM) (o : Int × zM), zG kdC m → rc 6 0 m = some o → zMet (kL K) yX5_both cX5_both 2 (some .boolean) d (kD K) (kaC K) (kB K) kdC (kN K) [.ref (kB K + 1)] m (4, o.1, o.2)) (hrc_fact : ∀ (m : zM) (o : Int × zM), zG kdC m → rc 7 0 m = some o → zMet (kL K) yX5_fact cX5_fact 1 (some .boolean) d (kD K) (kaC K) (kB K) kdC (kN K) [.ref (kB K + 1)] m (4, o.1, o.2)) (hrc_comparison : ∀ (m : zM) (o : Int × zM), zG kdC m → rc 8 0 m = some o → zMet (kL K) yX5_comparison cX5_comparison 2 (some .boolean) d (kD K) (kaC K) (kB K) kdC (kN K) [.ref (kB K + 1)] m (4, o.1, o.2)) (hrec : ∀ (x1 : Int) (m : zM), zG kdC m → cI x1 → rec x1 m = some o → GoAt K m [(0, .ref (kB K + 1)), (1, mI x1)] [] 11 (4, o.1, o.2)) (hm : zG kdC m) (cx1 : cI x1) (h : Pa_both_B11 rc rec x1 m = some o) : GoAt K m [(0, .ref (kB K + 1)), (1, mI x1)] [] 11 (4, o.1, o.2) := by
  unfold Pa_both_B11 at h
  refine g_iload_n hk 1 rfl dX5_both_11 ?_
  refine g_sipush hk (v := 1600) rfl dX5_both_12 ?_
  refine g_icmp_ge hk cx1 (cIk rfl) dX5_both_15 h (fun b1 h => ?_) (fun b1 h => ?_)
  · refine g_aload_n hk 0 rfl dX5_both_18 ?_
    obtain ⟨r2, e3, h⟩ := zbind h
    refine g_callVi hk (st := []) mf_X5_kind lk_X5_40 mv_X5_kind kdC_1 (by omega) rfl (Nat.le_of_ble_eq_true rfl) rfl dX5_both_19 (met_Pa_kind _ _ _ _ _ hk.wd hm e3) (fun hm c4 => ?_)
    refine g_sipush hk (v := 325) rfl dX5_both_22 ?_
    refine g_icmp_eq hk c4 (cIk rfl) dX5_both_25 h (fun b5 h => ?_) (fun b5 h => ?_)
    · refine g_aload_n hk 0 rfl dX5_both_30 ?_
      refine g_dup hk rfl dX5_both_31 ?_
      have g6 := zGI (i := 7) hm kdC_1 rfl
      refine g_get0 hk fl_X5_34 rfl (j := 7) rfl kdC_1 dX5_both_32 ?_
      refine g_iconst hk (v := 1) rfl dX5_both_35 ?_
      refine g_iadd hk dX5_both_36 ?_
      refine g_put0 hk fp_X5_34 rfl (j := 7) rfl kdC_1 (wI_c _) dX5_both_37 h hm (fun m7 hm h => ?_)
      refine g_aload_n hk 0 rfl dX5_both_40 ?_
      obtain ⟨r8, e9, h⟩ := zbind h
      refine g_callVz hk (st := []) mf_X5_fact lk_X5_213 mv_X5_fact kdC_1 (by omega) rfl (Nat.le_of_ble_eq_true rfl) rfl dX5_both_41 (hrc_fact _ _ hm e9) (fun hm c10 => ?_)
      refine g_if_ne hk (b01 c10) dX5_both_44 h (fun b11 h => ?_) (fun b11 h => ?_)
      · refine g_iconst hk (v := 0) rfl dX5_both_47 ?_
        exact g_zreturn hk z0 dX5_both_48 (by cases h; rfl)
      · refine g_aload_n hk 0 rfl dX5_both_49 ?_
        refine g_get3o hk fl_X5_141 rfl (j := 4) rfl kdC_1 dX5_both_50 h (fun zz12 kzz12 h => ?_)
        refine g_bipush hk (v := 7) rfl dX5_both_53 ?_
        refine g_iconst hk (v := 0) rfl dX5_both_55 ?_
        obtain ⟨r13, e14, h⟩ := zbind h
        refine g_callVv hk (st := []) mf_X1_add lk_X5_188 mv_X1_add kzz12 (by omega) rfl (Nat.le_of_ble_eq_true rfl) rfl dX5_both_56 (met_Fo_add _ _ _ _ _ hk.wd hm kzz12 (cIk rfl) (cIk rfl) e14) (fun hm => ?_)
        refine g_iinc hk (lv' := [(1, mI (wI (x1 + 1))), (0, .ref (kB K + 1))]) 1 rfl (Nat.le_of_ble_eq_true rfl) rfl dX5_both_59 ?_
        refine g_goto hk dX5_both_62 ?_
        refine GoAt.sub [1, 0] rfl ?_
        exact hrec _ _ hm (wI_c _) h
    · refine g_iconst hk (v := 1) rfl dX5_both_28 ?_
      exact g_zreturn hk z1 dX5_both_29 (by cases h; rfl)
  · refine g_iconst hk (v := 1) rfl dX5_both_65 ?_
    exact g_zreturn hk z1 dX5_both_66 (by cases h; rfl)
theorem w_Pa_both_L11 {K : zK} {d : Nat} (hk : zOk K kdC cX5_both 2 (some .boolean) RX5 (d + 4)) {rc : Nat → Int → zM → Option (Int × zM)}  {o : Int × zM} (hrc_sum : ∀ (m : zM) (o : Int × zM), zG kdC m → rc 0 0 m = some o → zMet (kL K) yX5_sum cX5_sum 3 (some .boolean) d (kD K) (kaC K) (kB K) kdC (kN K) [.ref (kB K + 1)] m (4, o.1, o.2)) (hrc_product : ∀ (m : zM) (o : Int × zM), zG kdC m → rc 1 0 m = some o → zMet (kL K) yX5_product cX5_product 3 (some .boolean) d (kD K) (kaC K) (kB K) kdC (kN K) [.ref (kB K + 1)] m (4, o.1, o.2)) (hrc_part : ∀ (m : zM) (o : Int × zM), zG kdC m → rc 2 0 m = some o → zMet (kL K) yX5_part cX5_part 1 (some .boolean) d (kD K) (kaC K) (kB K) kdC (kN K) [.ref (kB K + 1)] m (4, o.1, o.2)) (hrc_pairOfSums : ∀ (a : Int) (m : zM) (o : Int × zM), zG kdC m → cI a → rc 3 a m = some o → zMet (kL K) yX5_pairOfSums cX5_pairOfSums 2 (some .boolean) d (kD K) (kaC K) (kB K) kdC (kN K) [.ref (kB K + 1), mI a] m (4, o.1, o.2)) (hrc_choice : ∀ (m : zM) (o : Int × zM), zG kdC m → rc 4 0 m = some o → zMet (kL K) yX5_choice cX5_choice 1 (some .boolean) d (kD K) (kaC K) (kB K) kdC (kN K) [.ref (kB K + 1)] m (4, o.1, o.2)) (hrc_test : ∀ (m : zM) (o : Int × zM), zG kdC m → rc 5 0 m = some o → zMet (kL K) yX5_test cX5_test 2 (some .boolean) d (kD K) (kaC K) (kB K) kdC (kN K) [.ref (kB K + 1)] m (4, o.1, o.2)) (hrc_both : ∀ (m : zM) (o : Int × zM), zG kdC m → rc 6 0 m = some o → zMet (kL K) yX5_both cX5_both 2 (some .boolean) d (kD K) (kaC K) (kB K) kdC (kN K) [.ref (kB K + 1)] m (4, o.1, o.2)) (hrc_fact : ∀ (m : zM) (o : Int × zM), zG kdC m → rc 7 0 m = some o → zMet (kL K) yX5_fact cX5_fact 1 (some .boolean) d (kD K) (kaC K) (kB K) kdC (kN K) [.ref (kB K + 1)] m (4, o.1, o.2)) (hrc_comparison : ∀ (m : zM) (o : Int × zM), zG kdC m → rc 8 0 m = some o → zMet (kL K) yX5_comparison cX5_comparison 2 (some .boolean) d (kD K) (kaC K) (kB K) kdC (kN K) [.ref (kB K + 1)] m (4, o.1, o.2)) : ∀ (n : Nat) (x1 : Int) (m : zM), zG kdC m → cI x1 → Pa_both_L11 rc n x1 m = some o → GoAt K m [(0, .ref (kB K + 1)), (1, mI x1)] [] 11 (4, o.1, o.2)
  | 0, x1, m, hm, cx1, h => by cases h
  | n + 1, x1, m, hm, cx1, h => w_Pa_both_B11 hk hrc_sum hrc_product hrc_part hrc_pairOfSums hrc_choice hrc_test hrc_both hrc_fact hrc_comparison (w_Pa_both_L11 hk hrc_sum hrc_product hrc_part hrc_pairOfSums hrc_choice hrc_test hrc_both hrc_fact hrc_comparison n) hm cx1 h
set_option maxRecDepth 100000 in
set_option maxHeartbeats 4000000 in
theorem w_Pa_both {K : zK} {d : Nat} (hk : zOk K kdC cX5_both 2 (some .boolean) RX5 (d + 4)) {rc : Nat → Int → zM → Option (Int × zM)}  {m : zM} {o : Int × zM} (hrc_sum : ∀ (m : zM) (o : Int × zM), zG kdC m → rc 0 0 m = some o → zMet (kL K) yX5_sum cX5_sum 3 (some .boolean) d (kD K) (kaC K) (kB K) kdC (kN K) [.ref (kB K + 1)] m (4, o.1, o.2)) (hrc_product : ∀ (m : zM) (o : Int × zM), zG kdC m → rc 1 0 m = some o → zMet (kL K) yX5_product cX5_product 3 (some .boolean) d (kD K) (kaC K) (kB K) kdC (kN K) [.ref (kB K + 1)] m (4, o.1, o.2)) (hrc_part : ∀ (m : zM) (o : Int × zM), zG kdC m → rc 2 0 m = some o → zMet (kL K) yX5_part cX5_part 1 (some .boolean) d (kD K) (kaC K) (kB K) kdC (kN K) [.ref (kB K + 1)] m (4, o.1, o.2)) (hrc_pairOfSums : ∀ (a : Int) (m : zM) (o : Int × zM), zG kdC m → cI a → rc 3 a m = some o → zMet (kL K) yX5_pairOfSums cX5_pairOfSums 2 (some .boolean) d (kD K) (kaC K) (kB K) kdC (kN K) [.ref (kB K + 1), mI a] m (4, o.1, o.2)) (hrc_choice : ∀ (m : zM) (o : Int × zM), zG kdC m → rc 4 0 m = some o → zMet (kL K) yX5_choice cX5_choice 1 (some .boolean) d (kD K) (kaC K) (kB K) kdC (kN K) [.ref (kB K + 1)] m (4, o.1, o.2)) (hrc_test : ∀ (m : zM) (o : Int × zM), zG kdC m → rc 5 0 m = some o → zMet (kL K) yX5_test cX5_test 2 (some .boolean) d (kD K) (kaC K) (kB K) kdC (kN K) [.ref (kB K + 1)] m (4, o.1, o.2)) (hrc_both : ∀ (m : zM) (o : Int × zM), zG kdC m → rc 6 0 m = some o → zMet (kL K) yX5_both cX5_both 2 (some .boolean) d (kD K) (kaC K) (kB K) kdC (kN K) [.ref (kB K + 1)] m (4, o.1, o.2)) (hrc_fact : ∀ (m : zM) (o : Int × zM), zG kdC m → rc 7 0 m = some o → zMet (kL K) yX5_fact cX5_fact 1 (some .boolean) d (kD K) (kaC K) (kB K) kdC (kN K) [.ref (kB K + 1)] m (4, o.1, o.2)) (hrc_comparison : ∀ (m : zM) (o : Int × zM), zG kdC m → rc 8 0 m = some o → zMet (kL K) yX5_comparison cX5_comparison 2 (some .boolean) d (kD K) (kaC K) (kB K) kdC (kN K) [.ref (kB K + 1)] m (4, o.1, o.2)) (hm : zG kdC m)  (h : Pa_both rc m = some o) : GoAt K m [(0, .ref (kB K + 1))] [] 0 (4, o.1, o.2) := by
  unfold Pa_both at h
  refine g_aload_n hk 0 rfl dX5_both_0 ?_
  obtain ⟨r1, e2, h⟩ := zbind h
  refine g_callVz hk (st := []) mf_X5_fact lk_X5_213 mv_X5_fact kdC_1 (by omega) rfl (Nat.le_of_ble_eq_true rfl) rfl dX5_both_1 (hrc_fact _ _ hm e2) (fun hm c3 => ?_)
  refine g_if_ne hk (b01 c3) dX5_both_4 h (fun b4 h => ?_) (fun b4 h => ?_)
  · refine g_iconst hk (v := 0) rfl dX5_both_7 ?_
    exact g_zreturn hk z0 dX5_both_8 (by cases h; rfl)
  · refine g_iconst hk (v := 0) rfl dX5_both_9 ?_
    refine g_istore_n hk rfl (lv' := [(1, mI 0), (0, .ref (kB K + 1))]) (Nat.le_of_ble_eq_true rfl) rfl dX5_both_10 ?_
    refine GoAt.sub [1, 0] rfl ?_
    refine w_Pa_both_L11 hk hrc_sum hrc_product hrc_part hrc_pairOfSums hrc_choice hrc_test hrc_both hrc_fact hrc_comparison 1000000 _ _ hm (cIk rfl) h
set_option maxRecDepth 100000 in
set_option maxHeartbeats 4000000 in
theorem w_Pa_fact {K : zK} {d : Nat} (hk : zOk K kdC cX5_fact 1 (some .boolean) RX5 (d + 4)) {rc : Nat → Int → zM → Option (Int × zM)}  {m : zM} {o : Int × zM} (hrc_sum : ∀ (m : zM) (o : Int × zM), zG kdC m → rc 0 0 m = some o → zMet (kL K) yX5_sum cX5_sum 3 (some .boolean) d (kD K) (kaC K) (kB K) kdC (kN K) [.ref (kB K + 1)] m (4, o.1, o.2)) (hrc_product : ∀ (m : zM) (o : Int × zM), zG kdC m → rc 1 0 m = some o → zMet (kL K) yX5_product cX5_product 3 (some .boolean) d (kD K) (kaC K) (kB K) kdC (kN K) [.ref (kB K + 1)] m (4, o.1, o.2)) (hrc_part : ∀ (m : zM) (o : Int × zM), zG kdC m → rc 2 0 m = some o → zMet (kL K) yX5_part cX5_part 1 (some .boolean) d (kD K) (kaC K) (kB K) kdC (kN K) [.ref (kB K + 1)] m (4, o.1, o.2)) (hrc_pairOfSums : ∀ (a : Int) (m : zM) (o : Int × zM), zG kdC m → cI a → rc 3 a m = some o → zMet (kL K) yX5_pairOfSums cX5_pairOfSums 2 (some .boolean) d (kD K) (kaC K) (kB K) kdC (kN K) [.ref (kB K + 1), mI a] m (4, o.1, o.2)) (hrc_choice : ∀ (m : zM) (o : Int × zM), zG kdC m → rc 4 0 m = some o → zMet (kL K) yX5_choice cX5_choice 1 (some .boolean) d (kD K) (kaC K) (kB K) kdC (kN K) [.ref (kB K + 1)] m (4, o.1, o.2)) (hrc_test : ∀ (m : zM) (o : Int × zM), zG kdC m → rc 5 0 m = some o → zMet (kL K) yX5_test cX5_test 2 (some .boolean) d (kD K) (kaC K) (kB K) kdC (kN K) [.ref (kB K + 1)] m (4, o.1, o.2)) (hrc_both : ∀ (m : zM) (o : Int × zM), zG kdC m → rc 6 0 m = some o → zMet (kL K) yX5_both cX5_both 2 (some .boolean) d (kD K) (kaC K) (kB K) kdC (kN K) [.ref (kB K + 1)] m (4, o.1, o.2)) (hrc_fact : ∀ (m : zM) (o : Int × zM), zG kdC m → rc 7 0 m = some o → zMet (kL K) yX5_fact cX5_fact 1 (some .boolean) d (kD K) (kaC K) (kB K) kdC (kN K) [.ref (kB K + 1)] m (4, o.1, o.2)) (hrc_comparison : ∀ (m : zM) (o : Int × zM), zG kdC m → rc 8 0 m = some o → zMet (kL K) yX5_comparison cX5_comparison 2 (some .boolean) d (kD K) (kaC K) (kB K) kdC (kN K) [.ref (kB K + 1)] m (4, o.1, o.2)) (hm : zG kdC m)  (h : Pa_fact rc m = some o) : GoAt K m [(0, .ref (kB K + 1))] [] 0 (4, o.1, o.2) := by
  unfold Pa_fact at h
  refine g_aload_n hk 0 rfl dX5_fact_0 ?_
  obtain ⟨r1, e2, h⟩ := zbind h
  refine g_callVi hk (st := []) mf_X5_kind lk_X5_40 mv_X5_kind kdC_1 (by omega) rfl (Nat.le_of_ble_eq_true rfl) rfl dX5_fact_1 (met_Pa_kind _ _ _ _ _ hk.wd hm e2) (fun hm c3 => ?_)
  rcases zite h with ⟨e4, h⟩ | ⟨e4, h⟩
  · refine g_lin hk c3 dX5_fact_4 (by decide) e4 rfl (by decide) (tgt := 81) ?_
    refine g_aload_n hk 0 rfl dX5_fact_81 ?_
    refine g_bipush hk (v := 91) rfl dX5_fact_82 ?_
    obtain ⟨r7, e8, h⟩ := zbind h
    refine g_callVz hk (st := []) mf_X5_opening lk_X5_195 mv_X5_opening kdC_1 (by omega) rfl (Nat.le_of_ble_eq_true rfl) rfl dX5_fact_84 (met_Pa_opening _ _ _ _ _ hk.wd hm (cIk rfl) e8) (fun hm c9 => ?_)
    refine g_if_eq hk (b01 c9) dX5_fact_87 h (fun b10 h => ?_) (fun b10 h => ?_)
    · refine g_iconst hk (v := 0) rfl dX5_fact_110 ?_
      exact g_zreturn hk z0 dX5_fact_111 (by cases h; rfl)
    · refine g_aload_n hk 0 rfl dX5_fact_90 ?_
      obtain ⟨r11, e12, h⟩ := zbind h
      refine g_callVz hk (st := []) mf_X5_test lk_X5_157 mv_X5_test kdC_1 (by omega) rfl (Nat.le_of_ble_eq_true rfl) rfl dX5_fact_91 (hrc_test _ _ hm e12) (fun hm c13 => ?_)
      refine g_if_eq hk (b01 c13) dX5_fact_94 h (fun b14 h => ?_) (fun b14 h => ?_)
      · refine g_iconst hk (v := 0) rfl dX5_fact_110 ?_
        exact g_zreturn hk z0 dX5_fact_111 (by cases h; rfl)
      · refine g_aload_n hk 0 rfl dX5_fact_97 ?_
        refine g_bipush hk (v := 93) rfl dX5_fact_98 ?_
        obtain ⟨r15, e16, h⟩ := zbind h
        refine g_callVz hk (st := []) mf_X5_closing lk_X5_198 mv_X5_closing kdC_1 (by omega) rfl (Nat.le_of_ble_eq_true rfl) rfl dX5_fact_100 (met_Pa_closing _ _ _ _ _ hk.wd hm (cIk rfl) e16) (fun hm c17 => ?_)
        refine g_if_eq hk (b01 c17) dX5_fact_103 h (fun b18 h => ?_) (fun b18 h => ?_)
        · refine g_iconst hk (v := 0) rfl dX5_fact_110 ?_
          exact g_zreturn hk z0 dX5_fact_111 (by cases h; rfl)
        · refine g_iconst hk (v := 1) rfl dX5_fact_106 ?_
          refine g_goto hk dX5_fact_107 ?_
          exact g_zreturn hk z1 dX5_fact_111 (by cases h; rfl)
  rcases zite h with ⟨e5, h⟩ | ⟨e5, h⟩
  · refine g_lin hk c3 dX5_fact_4 (by decide) e5 rfl (by decide) (tgt := 40) ?_
    refine g_aload_n hk 0 rfl dX5_fact_40 ?_
    refine g_sipush hk (v := 326) rfl dX5_fact_41 ?_
    obtain ⟨r19, e20, h⟩ := zbind h
    refine g_callVz hk (st := []) mf_X5_opening lk_X5_195 mv_X5_opening kdC_1 (by omega) rfl (Nat.le_of_ble_eq_true rfl) rfl dX5_fact_44 (met_Pa_opening _ _ _ _ _ hk.wd hm (cIk rfl) e20) (fun hm c21 => ?_)
    refine g_if_eq hk (b01 c21) dX5_fact_47 h (fun b22 h => ?_) (fun b22 h => ?_)
    · refine g_iconst hk (v := 0) rfl dX5_fact_57 ?_
      exact g_zreturn hk z0 dX5_fact_58 (by cases h; rfl)
    · refine g_aload_n hk 0 rfl dX5_fact_50 ?_
      obtain ⟨r23, e24, h⟩ := zbind h
      refine g_callVz hk (st := []) mf_X5_fact lk_X5_213 mv_X5_fact kdC_1 (by omega) rfl (Nat.le_of_ble_eq_true rfl) rfl dX5_fact_51 (hrc_fact _ _ hm e24) (fun hm c25 => ?_)
      refine g_if_ne hk (b01 c25) dX5_fact_54 h (fun b26 h => ?_) (fun b26 h => ?_)
      · refine g_iconst hk (v := 0) rfl dX5_fact_57 ?_
        exact g_zreturn hk z0 dX5_fact_58 (by cases h; rfl)
      · refine g_aload_n hk 0 rfl dX5_fact_59 ?_
        refine g_dup hk rfl dX5_fact_60 ?_
        have g27 := zGI (i := 6) hm kdC_1 rfl
        refine g_get0 hk fl_X5_148 rfl (j := 6) rfl kdC_1 dX5_fact_61 ?_
        refine g_iconst hk (v := 1) rfl dX5_fact_64 ?_
        refine g_isub hk dX5_fact_65 ?_
        refine g_put0 hk fp_X5_148 rfl (j := 6) rfl kdC_1 (wI_c _) dX5_fact_66 h hm (fun m28 hm h => ?_)
        refine g_aload_n hk 0 rfl dX5_fact_69 ?_
        refine g_get3o hk fl_X5_141 rfl (j := 4) rfl kdC_1 dX5_fact_70 h (fun zz29 kzz29 h => ?_)
        refine g_bipush hk (v := 6) rfl dX5_fact_73 ?_
        refine g_iconst hk (v := 0) rfl dX5_fact_75 ?_
        obtain ⟨r30, e31, h⟩ := zbind h
        refine g_callVv hk (st := []) mf_X1_add lk_X5_188 mv_X1_add kzz29 (by omega) rfl (Nat.le_of_ble_eq_true rfl) rfl dX5_fact_76 (met_Fo_add _ _ _ _ _ hk.wd hm kzz29 (cIk rfl) (cIk rfl) e31) (fun hm => ?_)
        refine g_iconst hk (v := 1) rfl dX5_fact_79 ?_
        exact g_zreturn hk z1 dX5_fact_80 (by cases h; rfl)
  rcases zite h with ⟨e6, h⟩ | ⟨e6, h⟩
  · refine g_lin hk c3 dX5_fact_4 (by decide) e6 rfl (by decide) (tgt := 112) ?_
    refine g_aload_n hk 0 rfl dX5_fact_112 ?_
    refine g_get3o hk fl_X5_141 rfl (j := 4) rfl kdC_1 dX5_fact_113 h (fun zz33 kzz33 h => ?_)
    refine g_iconst hk (v := 1) rfl dX5_fact_116 ?_
    refine g_iconst hk (v := 1) rfl dX5_fact_117 ?_
    obtain ⟨r34, e35, h⟩ := zbind h
    refine g_callVv hk (st := []) mf_X1_add lk_X5_188 mv_X1_add kzz33 (by omega) rfl (Nat.le_of_ble_eq_true rfl) rfl dX5_fact_118 (met_Fo_add _ _ _ _ _ hk.wd hm kzz33 (cIk rfl) (cIk rfl) e35) (fun hm => ?_)
    refine g_aload_n hk 0 rfl dX5_fact_121 ?_
    refine g_dup hk rfl dX5_fact_122 ?_
    have g37 := zGI (i := 7) hm kdC_1 rfl
    refine g_get0 hk fl_X5_34 rfl (j := 7) rfl kdC_1 dX5_fact_123 ?_
    refine g_iconst hk (v := 1) rfl dX5_fact_126 ?_
    refine g_iadd hk dX5_fact_127 ?_
    refine g_put0 hk fp_X5_34 rfl (j := 7) rfl kdC_1 (wI_c _) dX5_fact_128 h hm (fun m38 hm h => ?_)
    refine g_iconst hk (v := 1) rfl dX5_fact_131 ?_
    exact g_zreturn hk z1 dX5_fact_132 (by cases h; rfl)
  refine g_ldef hk c3 dX5_fact_4 (by decide) (zlk_none _ (fun q hq => by have hq : q ∈ [(91, 77), (326, 36), (327, 108)] := hq; simp only [List.mem_cons, List.not_mem_nil, or_false] at hq; rcases hq with rfl | rfl | rfl <;> (intro hq; first | exact e4 hq.symm | exact e5 hq.symm | exact e6 hq.symm))) (by decide) (tgt := 133) ?_
  refine g_aload_n hk 0 rfl dX5_fact_133 ?_
  obtain ⟨r39, e40, h⟩ := zbind h
  refine g_callVz hk (st := []) mf_X5_comparison lk_X5_216 mv_X5_comparison kdC_1 (by omega) rfl (Nat.le_of_ble_eq_true rfl) rfl dX5_fact_134 (hrc_comparison _ _ hm e40) (fun hm c41 => ?_)
  exact g_zreturn hk c41 dX5_fact_137 (by cases h; rfl)
set_option maxRecDepth 100000 in
set_option maxHeartbeats 4000000 in
theorem w_Pa_comparison_b38 {K : zK} {d : Nat} (hk : zOk K kdC cX5_comparison 2 (some .boolean) RX5 (d + 4)) {rc : Nat → Int → zM → Option (Int × zM)}  {x1 : Int} {m : zM} {o : Int × zM} (hrc_sum : ∀ (m : zM) (o : Int × zM), zG kdC m → rc 0 0 m = some o → zMet (kL K) yX5_sum cX5_sum 3 (some .boolean) d (kD K) (kaC K) (kB K) kdC (kN K) [.ref (kB K + 1)] m (4, o.1, o.2)) (hrc_product : ∀ (m : zM) (o : Int × zM), zG kdC m → rc 1 0 m = some o → zMet (kL K) yX5_product cX5_product 3 (some .boolean) d (kD K) (kaC K) (kB K) kdC (kN K) [.ref (kB K + 1)] m (4, o.1, o.2)) (hrc_part : ∀ (m : zM) (o : Int × zM), zG kdC m → rc 2 0 m = some o → zMet (kL K) yX5_part cX5_part 1 (some .boolean) d (kD K) (kaC K) (kB K) kdC (kN K) [.ref (kB K + 1)] m (4, o.1, o.2)) (hrc_pairOfSums : ∀ (a : Int) (m : zM) (o : Int × zM), zG kdC m → cI a → rc 3 a m = some o → zMet (kL K) yX5_pairOfSums cX5_pairOfSums 2 (some .boolean) d (kD K) (kaC K) (kB K) kdC (kN K) [.ref (kB K + 1), mI a] m (4, o.1, o.2)) (hrc_choice : ∀ (m : zM) (o : Int × zM), zG kdC m → rc 4 0 m = some o → zMet (kL K) yX5_choice cX5_choice 1 (some .boolean) d (kD K) (kaC K) (kB K) kdC (kN K) [.ref (kB K + 1)] m (4, o.1, o.2)) (hrc_test : ∀ (m : zM) (o : Int × zM), zG kdC m → rc 5 0 m = some o → zMet (kL K) yX5_test cX5_test 2 (some .boolean) d (kD K) (kaC K) (kB K) kdC (kN K) [.ref (kB K + 1)] m (4, o.1, o.2)) (hrc_both : ∀ (m : zM) (o : Int × zM), zG kdC m → rc 6 0 m = some o → zMet (kL K) yX5_both cX5_both 2 (some .boolean) d (kD K) (kaC K) (kB K) kdC (kN K) [.ref (kB K + 1)] m (4, o.1, o.2)) (hrc_fact : ∀ (m : zM) (o : Int × zM), zG kdC m → rc 7 0 m = some o → zMet (kL K) yX5_fact cX5_fact 1 (some .boolean) d (kD K) (kaC K) (kB K) kdC (kN K) [.ref (kB K + 1)] m (4, o.1, o.2)) (hrc_comparison : ∀ (m : zM) (o : Int × zM), zG kdC m → rc 8 0 m = some o → zMet (kL K) yX5_comparison cX5_comparison 2 (some .boolean) d (kD K) (kaC K) (kB K) kdC (kN K) [.ref (kB K + 1)] m (4, o.1, o.2)) (hm : zG kdC m) (cx1 : cI x1) (h : Pa_comparison_b38 rc x1 m = some o) : GoAt K m [(0, .ref (kB K + 1)), (1, mI x1)] [] 38 (4, o.1, o.2) := by
  unfold Pa_comparison_b38 at h
  refine g_aload_n hk 0 rfl dX5_comparison_38 ?_
  refine g_dup hk rfl dX5_comparison_39 ?_
  have g1 := zGI (i := 7) hm kdC_1 rfl
  refine g_get0 hk fl_X5_34 rfl (j := 7) rfl kdC_1 dX5_comparison_40 ?_
  refine g_iconst hk (v := 1) rfl dX5_comparison_43 ?_
  refine g_iadd hk dX5_comparison_44 ?_
  refine g_put0 hk fp_X5_34 rfl (j := 7) rfl kdC_1 (wI_c _) dX5_comparison_45 h hm (fun m2 hm h => ?_)
  refine g_aload_n hk 0 rfl dX5_comparison_48 ?_
  obtain ⟨r3, e4, h⟩ := zbind h
  refine g_callVz hk (st := []) mf_X5_sum lk_X5_151 mv_X5_sum kdC_1 (by omega) rfl (Nat.le_of_ble_eq_true rfl) rfl dX5_comparison_49 (hrc_sum _ _ hm e4) (fun hm c5 => ?_)
  refine g_if_ne hk (b01 c5) dX5_comparison_52 h (fun b6 h => ?_) (fun b6 h => ?_)
  · refine g_iconst hk (v := 0) rfl dX5_comparison_55 ?_
    exact g_zreturn hk z0 dX5_comparison_56 (by cases h; rfl)
  · refine g_aload_n hk 0 rfl dX5_comparison_57 ?_
    refine g_get3o hk fl_X5_141 rfl (j := 4) rfl kdC_1 dX5_comparison_58 h (fun zz7 kzz7 h => ?_)
    refine g_iload_n hk 1 rfl dX5_comparison_61 ?_
    refine g_iconst hk (v := 0) rfl dX5_comparison_62 ?_
    obtain ⟨r8, e9, h⟩ := zbind h
    refine g_callVv hk (st := []) mf_X1_add lk_X5_188 mv_X1_add kzz7 (by omega) rfl (Nat.le_of_ble_eq_true rfl) rfl dX5_comparison_63 (met_Fo_add _ _ _ _ _ hk.wd hm kzz7 cx1 (cIk rfl) e9) (fun hm => ?_)
    refine g_iconst hk (v := 1) rfl dX5_comparison_66 ?_
    exact g_zreturn hk z1 dX5_comparison_67 (by cases h; rfl)
set_option maxRecDepth 100000 in
set_option maxHeartbeats 4000000 in
theorem w_Pa_comparison {K : zK} {d : Nat} (hk : zOk K kdC cX5_comparison 2 (some .boolean) RX5 (d + 4)) {rc : Nat → Int → zM → Option (Int × zM)}  {m : zM} {o : Int × zM} (hrc_sum : ∀ (m : zM) (o : Int × zM), zG kdC m → rc 0 0 m = some o → zMet (kL K) yX5_sum cX5_sum 3 (some .boolean) d (kD K) (kaC K) (kB K) kdC (kN K) [.ref (kB K + 1)] m (4, o.1, o.2)) (hrc_product : ∀ (m : zM) (o : Int × zM), zG kdC m → rc 1 0 m = some o → zMet (kL K) yX5_product cX5_product 3 (some .boolean) d (kD K) (kaC K) (kB K) kdC (kN K) [.ref (kB K + 1)] m (4, o.1, o.2)) (hrc_part : ∀ (m : zM) (o : Int × zM), zG kdC m → rc 2 0 m = some o → zMet (kL K) yX5_part cX5_part 1 (some .boolean) d (kD K) (kaC K) (kB K) kdC (kN K) [.ref (kB K + 1)] m (4, o.1, o.2)) (hrc_pairOfSums : ∀ (a : Int) (m : zM) (o : Int × zM), zG kdC m → cI a → rc 3 a m = some o → zMet (kL K) yX5_pairOfSums cX5_pairOfSums 2 (some .boolean) d (kD K) (kaC K) (kB K) kdC (kN K) [.ref (kB K + 1), mI a] m (4, o.1, o.2)) (hrc_choice : ∀ (m : zM) (o : Int × zM), zG kdC m → rc 4 0 m = some o → zMet (kL K) yX5_choice cX5_choice 1 (some .boolean) d (kD K) (kaC K) (kB K) kdC (kN K) [.ref (kB K + 1)] m (4, o.1, o.2)) (hrc_test : ∀ (m : zM) (o : Int × zM), zG kdC m → rc 5 0 m = some o → zMet (kL K) yX5_test cX5_test 2 (some .boolean) d (kD K) (kaC K) (kB K) kdC (kN K) [.ref (kB K + 1)] m (4, o.1, o.2)) (hrc_both : ∀ (m : zM) (o : Int × zM), zG kdC m → rc 6 0 m = some o → zMet (kL K) yX5_both cX5_both 2 (some .boolean) d (kD K) (kaC K) (kB K) kdC (kN K) [.ref (kB K + 1)] m (4, o.1, o.2)) (hrc_fact : ∀ (m : zM) (o : Int × zM), zG kdC m → rc 7 0 m = some o → zMet (kL K) yX5_fact cX5_fact 1 (some .boolean) d (kD K) (kaC K) (kB K) kdC (kN K) [.ref (kB K + 1)] m (4, o.1, o.2)) (hrc_comparison : ∀ (m : zM) (o : Int × zM), zG kdC m → rc 8 0 m = some o → zMet (kL K) yX5_comparison cX5_comparison 2 (some .boolean) d (kD K) (kaC K) (kB K) kdC (kN K) [.ref (kB K + 1)] m (4, o.1, o.2)) (hm : zG kdC m)  (h : Pa_comparison rc m = some o) : GoAt K m [(0, .ref (kB K + 1))] [] 0 (4, o.1, o.2) := by
  unfold Pa_comparison at h
  refine g_aload_n hk 0 rfl dX5_comparison_0 ?_
  obtain ⟨r1, e2, h⟩ := zbind h
  refine g_callVz hk (st := []) mf_X5_sum lk_X5_151 mv_X5_sum kdC_1 (by omega) rfl (Nat.le_of_ble_eq_true rfl) rfl dX5_comparison_1 (hrc_sum _ _ hm e2) (fun hm c3 => ?_)
  refine g_if_ne hk (b01 c3) dX5_comparison_4 h (fun b4 h => ?_) (fun b4 h => ?_)
  · refine g_iconst hk (v := 0) rfl dX5_comparison_7 ?_
    exact g_zreturn hk z0 dX5_comparison_8 (by cases h; rfl)
  · refine g_aload_n hk 0 rfl dX5_comparison_9 ?_
    obtain ⟨r5, e6, h⟩ := zbind h
    refine g_callVi hk (st := []) mf_X5_kind lk_X5_40 mv_X5_kind kdC_1 (by omega) rfl (Nat.le_of_ble_eq_true rfl) rfl dX5_comparison_10 (met_Pa_kind _ _ _ _ _ hk.wd hm e6) (fun hm c7 => ?_)
    refine g_istore_n hk rfl (lv' := [(1, mI r5), (0, .ref (kB K + 1))]) (Nat.le_of_ble_eq_true rfl) rfl dX5_comparison_13 ?_
    refine g_iload_n hk 0 rfl dX5_comparison_14 ?_
    refine g_bipush hk (v := 60) rfl dX5_comparison_15 ?_
    refine g_icmp_eq hk c7 (cIk rfl) dX5_comparison_17 h (fun b8 h => ?_) (fun b8 h => ?_)
    · refine GoAt.sub [1, 0] rfl ?_
      exact w_Pa_comparison_b38 hk hrc_sum hrc_product hrc_part hrc_pairOfSums hrc_choice hrc_test hrc_both hrc_fact hrc_comparison hm c7 h
    · refine g_iload_n hk 0 rfl dX5_comparison_20 ?_
      refine g_bipush hk (v := 62) rfl dX5_comparison_21 ?_
      refine g_icmp_eq hk c7 (cIk rfl) dX5_comparison_23 h (fun b9 h => ?_) (fun b9 h => ?_)
      · refine GoAt.sub [1, 0] rfl ?_
        exact w_Pa_comparison_b38 hk hrc_sum hrc_product hrc_part hrc_pairOfSums hrc_choice hrc_test hrc_both hrc_fact hrc_comparison hm c7 h
      · refine g_iload_n hk 0 rfl dX5_comparison_26 ?_
        refine g_bipush hk (v := 61) rfl dX5_comparison_27 ?_
        refine g_icmp_eq hk c7 (cIk rfl) dX5_comparison_29 h (fun b10 h => ?_) (fun b10 h => ?_)
        · refine GoAt.sub [1, 0] rfl ?_
          exact w_Pa_comparison_b38 hk hrc_sum hrc_product hrc_part hrc_pairOfSums hrc_choice hrc_test hrc_both hrc_fact hrc_comparison hm c7 h
        · refine g_aload_n hk 1 rfl dX5_comparison_32 ?_
          refine g_iconst hk (v := 1) rfl dX5_comparison_33 ?_
          obtain ⟨r11, e12, h⟩ := zbind h
          refine g_callVz hk (st := []) mf_X5_fail lk_X5_44 mv_X5_fail kdC_1 (by omega) rfl (Nat.le_of_ble_eq_true rfl) rfl dX5_comparison_34 (met_Pa_fail _ _ _ _ _ hk.wd hm (cIk rfl) e12) (fun hm c13 => ?_)
          exact g_zreturn hk c13 dX5_comparison_37 (by cases h; rfl)
set_option maxRecDepth 100000 in
set_option maxHeartbeats 4000000 in
theorem met_Pa_all (l : Launch) (D : va_G) (aC : Nat → ClassId) (B N : Nat) (hwd : ∀ id, (kdC id).1 ≠ 9 → id < N) : ∀ e : Nat, (∀ (m : zM) (o : Int × zM), zG kdC m → Pa_rec e 0 0 m = some o → zMet l yX5_sum cX5_sum 3 (some .boolean) (e * 4) D aC B kdC N [.ref (B + 1)] m (4, o.1, o.2)) ∧ (∀ (m : zM) (o : Int × zM), zG kdC m → Pa_rec e 1 0 m = some o → zMet l yX5_product cX5_product 3 (some .boolean) (e * 4) D aC B kdC N [.ref (B + 1)] m (4, o.1, o.2)) ∧ (∀ (m : zM) (o : Int × zM), zG kdC m → Pa_rec e 2 0 m = some o → zMet l yX5_part cX5_part 1 (some .boolean) (e * 4) D aC B kdC N [.ref (B + 1)] m (4, o.1, o.2)) ∧ (∀ (a : Int) (m : zM) (o : Int × zM), zG kdC m → cI a → Pa_rec e 3 a m = some o → zMet l yX5_pairOfSums cX5_pairOfSums 2 (some .boolean) (e * 4) D aC B kdC N [.ref (B + 1), mI a] m (4, o.1, o.2)) ∧ (∀ (m : zM) (o : Int × zM), zG kdC m → Pa_rec e 4 0 m = some o → zMet l yX5_choice cX5_choice 1 (some .boolean) (e * 4) D aC B kdC N [.ref (B + 1)] m (4, o.1, o.2)) ∧ (∀ (m : zM) (o : Int × zM), zG kdC m → Pa_rec e 5 0 m = some o → zMet l yX5_test cX5_test 2 (some .boolean) (e * 4) D aC B kdC N [.ref (B + 1)] m (4, o.1, o.2)) ∧ (∀ (m : zM) (o : Int × zM), zG kdC m → Pa_rec e 6 0 m = some o → zMet l yX5_both cX5_both 2 (some .boolean) (e * 4) D aC B kdC N [.ref (B + 1)] m (4, o.1, o.2)) ∧ (∀ (m : zM) (o : Int × zM), zG kdC m → Pa_rec e 7 0 m = some o → zMet l yX5_fact cX5_fact 1 (some .boolean) (e * 4) D aC B kdC N [.ref (B + 1)] m (4, o.1, o.2)) ∧ (∀ (m : zM) (o : Int × zM), zG kdC m → Pa_rec e 8 0 m = some o → zMet l yX5_comparison cX5_comparison 2 (some .boolean) (e * 4) D aC B kdC N [.ref (B + 1)] m (4, o.1, o.2)) := by
  intro e
  induction e with
  | zero => exact ⟨(fun m o hm h => by cases h), (fun m o hm h => by cases h), (fun m o hm h => by cases h), (fun a m o hm ca h => by cases h), (fun m o hm h => by cases h), (fun m o hm h => by cases h), (fun m o hm h => by cases h), (fun m o hm h => by cases h), (fun m o hm h => by cases h)⟩
  | succ e ih =>
    refine ⟨?_, ?_, ?_, ?_, ?_, ?_, ?_, ?_, ?_⟩
    · intro m o hm h
      have h : Pa_sum (Pa_rec e) m = some o := h
      rw [show (e + 1) * 4 = e * 4 + 4 by omega]
      refine zMet.of mf_X5_sum hwd hm (Nat.le_of_ble_eq_true rfl) (fun K e1 e2 e3 e4 e5 hk => ?_)
      subst e1 e2 e3 e4 e5
      exact w_Pa_sum hk ih.1 ih.2.1 ih.2.2.1 ih.2.2.2.1 ih.2.2.2.2.1 ih.2.2.2.2.2.1 ih.2.2.2.2.2.2.1 ih.2.2.2.2.2.2.2.1 ih.2.2.2.2.2.2.2.2 hm h
    · intro m o hm h
      have h : Pa_product (Pa_rec e) m = some o := h
      rw [show (e + 1) * 4 = e * 4 + 4 by omega]
      refine zMet.of mf_X5_product hwd hm (Nat.le_of_ble_eq_true rfl) (fun K e1 e2 e3 e4 e5 hk => ?_)
      subst e1 e2 e3 e4 e5
      exact w_Pa_product hk ih.1 ih.2.1 ih.2.2.1 ih.2.2.2.1 ih.2.2.2.2.1 ih.2.2.2.2.2.1 ih.2.2.2.2.2.2.1 ih.2.2.2.2.2.2.2.1 ih.2.2.2.2.2.2.2.2 hm h
    · intro m o hm h
      have h : Pa_part (Pa_rec e) m = some o := h
      rw [show (e + 1) * 4 = e * 4 + 4 by omega]
      refine zMet.of mf_X5_part hwd hm (Nat.le_of_ble_eq_true rfl) (fun K e1 e2 e3 e4 e5 hk => ?_)
      subst e1 e2 e3 e4 e5
      exact w_Pa_part hk ih.1 ih.2.1 ih.2.2.1 ih.2.2.2.1 ih.2.2.2.2.1 ih.2.2.2.2.2.1 ih.2.2.2.2.2.2.1 ih.2.2.2.2.2.2.2.1 ih.2.2.2.2.2.2.2.2 hm h
    · intro a m o hm ca h
      have h : Pa_pairOfSums (Pa_rec e) a m = some o := h
      rw [show (e + 1) * 4 = e * 4 + 4 by omega]
      refine zMet.of mf_X5_pairOfSums hwd hm (Nat.le_of_ble_eq_true rfl) (fun K e1 e2 e3 e4 e5 hk => ?_)
      subst e1 e2 e3 e4 e5
      exact w_Pa_pairOfSums hk ih.1 ih.2.1 ih.2.2.1 ih.2.2.2.1 ih.2.2.2.2.1 ih.2.2.2.2.2.1 ih.2.2.2.2.2.2.1 ih.2.2.2.2.2.2.2.1 ih.2.2.2.2.2.2.2.2 hm ca h
    · intro m o hm h
      have h : Pa_choice (Pa_rec e) m = some o := h
      rw [show (e + 1) * 4 = e * 4 + 4 by omega]
      refine zMet.of mf_X5_choice hwd hm (Nat.le_of_ble_eq_true rfl) (fun K e1 e2 e3 e4 e5 hk => ?_)
      subst e1 e2 e3 e4 e5
      exact w_Pa_choice hk ih.1 ih.2.1 ih.2.2.1 ih.2.2.2.1 ih.2.2.2.2.1 ih.2.2.2.2.2.1 ih.2.2.2.2.2.2.1 ih.2.2.2.2.2.2.2.1 ih.2.2.2.2.2.2.2.2 hm h
    · intro m o hm h
      have h : Pa_test (Pa_rec e) m = some o := h
      rw [show (e + 1) * 4 = e * 4 + 4 by omega]
      refine zMet.of mf_X5_test hwd hm (Nat.le_of_ble_eq_true rfl) (fun K e1 e2 e3 e4 e5 hk => ?_)
      subst e1 e2 e3 e4 e5
      exact w_Pa_test hk ih.1 ih.2.1 ih.2.2.1 ih.2.2.2.1 ih.2.2.2.2.1 ih.2.2.2.2.2.1 ih.2.2.2.2.2.2.1 ih.2.2.2.2.2.2.2.1 ih.2.2.2.2.2.2.2.2 hm h
    · intro m o hm h
      have h : Pa_both (Pa_rec e) m = some o := h
      rw [show (e + 1) * 4 = e * 4 + 4 by omega]
      refine zMet.of mf_X5_both hwd hm (Nat.le_of_ble_eq_true rfl) (fun K e1 e2 e3 e4 e5 hk => ?_)
      subst e1 e2 e3 e4 e5
      exact w_Pa_both hk ih.1 ih.2.1 ih.2.2.1 ih.2.2.2.1 ih.2.2.2.2.1 ih.2.2.2.2.2.1 ih.2.2.2.2.2.2.1 ih.2.2.2.2.2.2.2.1 ih.2.2.2.2.2.2.2.2 hm h
    · intro m o hm h
      have h : Pa_fact (Pa_rec e) m = some o := h
      rw [show (e + 1) * 4 = e * 4 + 4 by omega]
      refine zMet.of mf_X5_fact hwd hm (Nat.le_of_ble_eq_true rfl) (fun K e1 e2 e3 e4 e5 hk => ?_)
      subst e1 e2 e3 e4 e5
      exact w_Pa_fact hk ih.1 ih.2.1 ih.2.2.1 ih.2.2.2.1 ih.2.2.2.2.1 ih.2.2.2.2.2.1 ih.2.2.2.2.2.2.1 ih.2.2.2.2.2.2.2.1 ih.2.2.2.2.2.2.2.2 hm h
    · intro m o hm h
      have h : Pa_comparison (Pa_rec e) m = some o := h
      rw [show (e + 1) * 4 = e * 4 + 4 by omega]
      refine zMet.of mf_X5_comparison hwd hm (Nat.le_of_ble_eq_true rfl) (fun K e1 e2 e3 e4 e5 hk => ?_)
      subst e1 e2 e3 e4 e5
      exact w_Pa_comparison hk ih.1 ih.2.1 ih.2.2.1 ih.2.2.2.1 ih.2.2.2.2.1 ih.2.2.2.2.2.1 ih.2.2.2.2.2.2.1 ih.2.2.2.2.2.2.2.1 ih.2.2.2.2.2.2.2.2 hm h
theorem met_Pa_rec_sum (l : Launch) (D : va_G) (aC : Nat → ClassId) (B N : Nat) (hwd : ∀ id, (kdC id).1 ≠ 9 → id < N) {m : zM} {o : Int × zM} (hm : zG kdC m) (h : Pa_rec 100 0 0 m = some o) : zMet l yX5_sum cX5_sum 3 (some .boolean) 400 D aC B kdC N [.ref (B + 1)] m (4, o.1, o.2) := (met_Pa_all l D aC B N hwd 100).1 m o hm h
theorem met_Pa_rec_product (l : Launch) (D : va_G) (aC : Nat → ClassId) (B N : Nat) (hwd : ∀ id, (kdC id).1 ≠ 9 → id < N) {m : zM} {o : Int × zM} (hm : zG kdC m) (h : Pa_rec 100 1 0 m = some o) : zMet l yX5_product cX5_product 3 (some .boolean) 400 D aC B kdC N [.ref (B + 1)] m (4, o.1, o.2) := (met_Pa_all l D aC B N hwd 100).2.1 m o hm h
theorem met_Pa_rec_part (l : Launch) (D : va_G) (aC : Nat → ClassId) (B N : Nat) (hwd : ∀ id, (kdC id).1 ≠ 9 → id < N) {m : zM} {o : Int × zM} (hm : zG kdC m) (h : Pa_rec 100 2 0 m = some o) : zMet l yX5_part cX5_part 1 (some .boolean) 400 D aC B kdC N [.ref (B + 1)] m (4, o.1, o.2) := (met_Pa_all l D aC B N hwd 100).2.2.1 m o hm h
theorem met_Pa_rec_pairOfSums (l : Launch) (D : va_G) (aC : Nat → ClassId) (B N : Nat) (hwd : ∀ id, (kdC id).1 ≠ 9 → id < N) {a : Int} {m : zM} {o : Int × zM} (hm : zG kdC m) (ca : cI a) (h : Pa_rec 100 3 a m = some o) : zMet l yX5_pairOfSums cX5_pairOfSums 2 (some .boolean) 400 D aC B kdC N [.ref (B + 1), mI a] m (4, o.1, o.2) := (met_Pa_all l D aC B N hwd 100).2.2.2.1 a m o hm ca h
theorem met_Pa_rec_choice (l : Launch) (D : va_G) (aC : Nat → ClassId) (B N : Nat) (hwd : ∀ id, (kdC id).1 ≠ 9 → id < N) {m : zM} {o : Int × zM} (hm : zG kdC m) (h : Pa_rec 100 4 0 m = some o) : zMet l yX5_choice cX5_choice 1 (some .boolean) 400 D aC B kdC N [.ref (B + 1)] m (4, o.1, o.2) := (met_Pa_all l D aC B N hwd 100).2.2.2.2.1 m o hm h
theorem met_Pa_rec_test (l : Launch) (D : va_G) (aC : Nat → ClassId) (B N : Nat) (hwd : ∀ id, (kdC id).1 ≠ 9 → id < N) {m : zM} {o : Int × zM} (hm : zG kdC m) (h : Pa_rec 100 5 0 m = some o) : zMet l yX5_test cX5_test 2 (some .boolean) 400 D aC B kdC N [.ref (B + 1)] m (4, o.1, o.2) := (met_Pa_all l D aC B N hwd 100).2.2.2.2.2.1 m o hm h
theorem met_Pa_rec_both (l : Launch) (D : va_G) (aC : Nat → ClassId) (B N : Nat) (hwd : ∀ id, (kdC id).1 ≠ 9 → id < N) {m : zM} {o : Int × zM} (hm : zG kdC m) (h : Pa_rec 100 6 0 m = some o) : zMet l yX5_both cX5_both 2 (some .boolean) 400 D aC B kdC N [.ref (B + 1)] m (4, o.1, o.2) := (met_Pa_all l D aC B N hwd 100).2.2.2.2.2.2.1 m o hm h
theorem met_Pa_rec_fact (l : Launch) (D : va_G) (aC : Nat → ClassId) (B N : Nat) (hwd : ∀ id, (kdC id).1 ≠ 9 → id < N) {m : zM} {o : Int × zM} (hm : zG kdC m) (h : Pa_rec 100 7 0 m = some o) : zMet l yX5_fact cX5_fact 1 (some .boolean) 400 D aC B kdC N [.ref (B + 1)] m (4, o.1, o.2) := (met_Pa_all l D aC B N hwd 100).2.2.2.2.2.2.2.1 m o hm h
theorem met_Pa_rec_comparison (l : Launch) (D : va_G) (aC : Nat → ClassId) (B N : Nat) (hwd : ∀ id, (kdC id).1 ≠ 9 → id < N) {m : zM} {o : Int × zM} (hm : zG kdC m) (h : Pa_rec 100 8 0 m = some o) : zMet l yX5_comparison cX5_comparison 2 (some .boolean) 400 D aC B kdC N [.ref (B + 1)] m (4, o.1, o.2) := (met_Pa_all l D aC B N hwd 100).2.2.2.2.2.2.2.2 m o hm h
set_option maxRecDepth 100000 in
set_option maxHeartbeats 4000000 in
theorem w_Pa_likesStatement {K : zK} (hk : zOk K kdC cX5_likesStatement 1 (some .boolean) RX5 401)  {m : zM} {o : Int × zM}  (hm : zG kdC m)  (h : Pa_likesStatement m = some o) : GoAt K m [(0, .ref (kB K + 1))] [] 0 (4, o.1, o.2) := by
  unfold Pa_likesStatement at h
  refine g_aload_n hk 0 rfl dX5_likesStatement_0 ?_
  refine g_get3o hk fl_X5_22 rfl (j := 3) rfl kdC_1 dX5_likesStatement_1 h (fun zz1 kzz1 h => ?_)
  refine g_get2 hk fl_X5_132 rfl kzz1 hm (b := zz1 + 11) rfl dX5_likesStatement_4 ?_
  have g2 := zGI (i := 1) hm (kdC_s10_12 kzz1) rfl
  refine g_get0 hk fl_X5_136 rfl (j := 1) rfl (kdC_s10_12 kzz1) dX5_likesStatement_7 ?_
  refine g_if_le hk g2 dX5_likesStatement_10 h (fun b3 h => ?_) (fun b3 h => ?_)
  · refine g_aload_n hk 0 rfl dX5_likesStatement_13 ?_
    refine g_bipush hk (v := 6) rfl dX5_likesStatement_14 ?_
    obtain ⟨r4, e5, h⟩ := zbind h
    refine g_callVz hk (st := []) mf_X5_fail lk_X5_44 mv_X5_fail kdC_1 (by decide) rfl (Nat.le_of_ble_eq_true rfl) rfl dX5_likesStatement_16 (met_Pa_fail _ _ _ _ _ hk.wd hm (cIk rfl) e5) (fun hm c6 => ?_)
    exact g_zreturn hk c6 dX5_likesStatement_19 (by cases h; rfl)
  · refine g_aload_n hk 0 rfl dX5_likesStatement_20 ?_
    refine g_dup hk rfl dX5_likesStatement_21 ?_
    have g7 := zGI (i := 7) hm kdC_1 rfl
    refine g_get0 hk fl_X5_34 rfl (j := 7) rfl kdC_1 dX5_likesStatement_22 ?_
    refine g_iconst hk (v := 1) rfl dX5_likesStatement_25 ?_
    refine g_iadd hk dX5_likesStatement_26 ?_
    refine g_put0 hk fp_X5_34 rfl (j := 7) rfl kdC_1 (wI_c _) dX5_likesStatement_27 h hm (fun m8 hm h => ?_)
    refine g_aload_n hk 0 rfl dX5_likesStatement_30 ?_
    refine g_aload_n hk 0 rfl dX5_likesStatement_31 ?_
    refine g_get3o hk fl_X5_22 rfl (j := 3) rfl kdC_1 dX5_likesStatement_32 h (fun zz9 kzz9 h => ?_)
    refine g_get2 hk fl_X5_132 rfl kzz9 hm (b := zz9 + 11) rfl dX5_likesStatement_35 ?_
    refine g_put3 hk fp_X5_141 ⟨rfl, rfl⟩ rfl (j := 4) rfl kdC_1 (id_lt (kdC_s10_12 kzz9)) dX5_likesStatement_38 h hm (fun m10 hm h => ?_)
    refine g_aload_n hk 0 rfl dX5_likesStatement_41 ?_
    refine g_iconst hk (v := 0) rfl dX5_likesStatement_42 ?_
    refine g_put4 hk fp_X5_144 rfl (j := 5) rfl kdC_1 z0 dX5_likesStatement_43 h hm (fun m11 hm h => ?_)
    refine g_aload_n hk 0 rfl dX5_likesStatement_46 ?_
    refine g_iconst hk (v := 0) rfl dX5_likesStatement_47 ?_
    refine g_put0 hk fp_X5_148 rfl (j := 6) rfl kdC_1 (cIk rfl) dX5_likesStatement_48 h hm (fun m12 hm h => ?_)
    refine g_aload_n hk 0 rfl dX5_likesStatement_51 ?_
    obtain ⟨r13, e14, h⟩ := zbind h
    refine g_callVz hk (st := []) mf_X5_sum lk_X5_151 mv_X5_sum kdC_1 (by decide) rfl (Nat.le_of_ble_eq_true rfl) rfl dX5_likesStatement_52 (met_Pa_rec_sum _ _ _ _ _ hk.wd hm e14) (fun hm c15 => ?_)
    exact g_zreturn hk c15 dX5_likesStatement_55 (by cases h; rfl)
theorem met_Pa_likesStatement (l : Launch) (D : va_G) (aC : Nat → ClassId) (B N : Nat) (hwd : ∀ id, (kdC id).1 ≠ 9 → id < N) {m : zM} {o : Int × zM} (hm : zG kdC m)  (h : Pa_likesStatement m = some o) : zMet l yX5_likesStatement cX5_likesStatement 1 (some .boolean) 401 D aC B kdC N [.ref (B + 1)] m (4, o.1, o.2) := by
  refine zMet.of mf_X5_likesStatement hwd hm (Nat.le_of_ble_eq_true rfl) (fun K e1 e2 e3 e4 e5 hk => ?_)
  subst e4
  exact w_Pa_likesStatement hk hm  h
set_option maxRecDepth 100000 in
set_option maxHeartbeats 4000000 in
theorem w_Pa_mayStatement {K : zK} (hk : zOk K kdC cX5_mayStatement 1 (some .boolean) RX5 401)  {m : zM} {o : Int × zM}  (hm : zG kdC m)  (h : Pa_mayStatement m = some o) : GoAt K m [(0, .ref (kB K + 1))] [] 0 (4, o.1, o.2) := by
  unfold Pa_mayStatement at h
  refine g_aload_n hk 0 rfl dX5_mayStatement_0 ?_
  refine g_get3o hk fl_X5_22 rfl (j := 3) rfl kdC_1 dX5_mayStatement_1 h (fun zz1 kzz1 h => ?_)
  refine g_get2 hk fl_X5_154 rfl kzz1 hm (b := zz1 + 14) rfl dX5_mayStatement_4 ?_
  have g2 := zGI (i := 1) hm (kdC_s10_13 kzz1) rfl
  refine g_get0 hk fl_X5_136 rfl (j := 1) rfl (kdC_s10_13 kzz1) dX5_mayStatement_7 ?_
  refine g_if_le hk g2 dX5_mayStatement_10 h (fun b3 h => ?_) (fun b3 h => ?_)
  · refine g_aload_n hk 0 rfl dX5_mayStatement_13 ?_
    refine g_bipush hk (v := 6) rfl dX5_mayStatement_14 ?_
    obtain ⟨r4, e5, h⟩ := zbind h
    refine g_callVz hk (st := []) mf_X5_fail lk_X5_44 mv_X5_fail kdC_1 (by decide) rfl (Nat.le_of_ble_eq_true rfl) rfl dX5_mayStatement_16 (met_Pa_fail _ _ _ _ _ hk.wd hm (cIk rfl) e5) (fun hm c6 => ?_)
    exact g_zreturn hk c6 dX5_mayStatement_19 (by cases h; rfl)
  · refine g_aload_n hk 0 rfl dX5_mayStatement_20 ?_
    refine g_dup hk rfl dX5_mayStatement_21 ?_
    have g7 := zGI (i := 7) hm kdC_1 rfl
    refine g_get0 hk fl_X5_34 rfl (j := 7) rfl kdC_1 dX5_mayStatement_22 ?_
    refine g_iconst hk (v := 1) rfl dX5_mayStatement_25 ?_
    refine g_iadd hk dX5_mayStatement_26 ?_
    refine g_put0 hk fp_X5_34 rfl (j := 7) rfl kdC_1 (wI_c _) dX5_mayStatement_27 h hm (fun m8 hm h => ?_)
    refine g_aload_n hk 0 rfl dX5_mayStatement_30 ?_
    refine g_aload_n hk 0 rfl dX5_mayStatement_31 ?_
    refine g_get3o hk fl_X5_22 rfl (j := 3) rfl kdC_1 dX5_mayStatement_32 h (fun zz9 kzz9 h => ?_)
    refine g_get2 hk fl_X5_154 rfl kzz9 hm (b := zz9 + 14) rfl dX5_mayStatement_35 ?_
    refine g_put3 hk fp_X5_141 ⟨rfl, rfl⟩ rfl (j := 4) rfl kdC_1 (id_lt (kdC_s10_13 kzz9)) dX5_mayStatement_38 h hm (fun m10 hm h => ?_)
    refine g_aload_n hk 0 rfl dX5_mayStatement_41 ?_
    refine g_iconst hk (v := 1) rfl dX5_mayStatement_42 ?_
    refine g_put4 hk fp_X5_144 rfl (j := 5) rfl kdC_1 z1 dX5_mayStatement_43 h hm (fun m11 hm h => ?_)
    refine g_aload_n hk 0 rfl dX5_mayStatement_46 ?_
    refine g_iconst hk (v := 0) rfl dX5_mayStatement_47 ?_
    refine g_put0 hk fp_X5_148 rfl (j := 6) rfl kdC_1 (cIk rfl) dX5_mayStatement_48 h hm (fun m12 hm h => ?_)
    refine g_aload_n hk 0 rfl dX5_mayStatement_51 ?_
    obtain ⟨r13, e14, h⟩ := zbind h
    refine g_callVz hk (st := []) mf_X5_test lk_X5_157 mv_X5_test kdC_1 (by decide) rfl (Nat.le_of_ble_eq_true rfl) rfl dX5_mayStatement_52 (met_Pa_rec_test _ _ _ _ _ hk.wd hm e14) (fun hm c15 => ?_)
    exact g_zreturn hk c15 dX5_mayStatement_55 (by cases h; rfl)
theorem met_Pa_mayStatement (l : Launch) (D : va_G) (aC : Nat → ClassId) (B N : Nat) (hwd : ∀ id, (kdC id).1 ≠ 9 → id < N) {m : zM} {o : Int × zM} (hm : zG kdC m)  (h : Pa_mayStatement m = some o) : zMet l yX5_mayStatement cX5_mayStatement 1 (some .boolean) 401 D aC B kdC N [.ref (B + 1)] m (4, o.1, o.2) := by
  refine zMet.of mf_X5_mayStatement hwd hm (Nat.le_of_ble_eq_true rfl) (fun K e1 e2 e3 e4 e5 hk => ?_)
  subst e4
  exact w_Pa_mayStatement hk hm  h
set_option maxRecDepth 100000 in
set_option maxHeartbeats 4000000 in
theorem w_Pa_setting {K : zK} (hk : zOk K kdC cX5_setting 2 (some .boolean) RX5 2)  {x1 : Int} {m : zM} {o : Int × zM}  (hm : zG kdC m) (cx1 : cI x1) (h : Pa_setting x1 m = some o) : GoAt K m [(0, .ref (kB K + 1)), (1, mI x1)] [] 0 (4, o.1, o.2) := by
  unfold Pa_setting at h
  refine g_aload_n hk 0 rfl dX5_setting_0 ?_
  refine g_dup hk rfl dX5_setting_1 ?_
  have g1 := zGI (i := 7) hm kdC_1 rfl
  refine g_get0 hk fl_X5_34 rfl (j := 7) rfl kdC_1 dX5_setting_2 ?_
  refine g_iconst hk (v := 1) rfl dX5_setting_5 ?_
  refine g_iadd hk dX5_setting_6 ?_
  refine g_put0 hk fp_X5_34 rfl (j := 7) rfl kdC_1 (wI_c _) dX5_setting_7 h hm (fun m2 hm h => ?_)
  refine g_iload_n hk 1 rfl dX5_setting_10 ?_
  rcases zite h with ⟨e3, h⟩ | ⟨e3, h⟩
  · refine g_tin hk cx1 dX5_setting_11 e3 (by decide) (by decide) rfl (by decide) (tgt := 40) ?_
    refine g_aload_n hk 0 rfl dX5_setting_40 ?_
    refine g_iconst hk (v := 0) rfl dX5_setting_41 ?_
    refine g_bipush hk (v := 6) rfl dX5_setting_42 ?_
    obtain ⟨r7, e8, h⟩ := zbind h
    refine g_callVz hk (st := []) mf_X5_number lk_X5_95 mv_X5_number kdC_1 (by decide) rfl (Nat.le_of_ble_eq_true rfl) rfl dX5_setting_44 (met_Pa_number _ _ _ _ _ hk.wd hm (cIk rfl) (cIk rfl) e8) (fun hm c9 => ?_)
    refine g_if_ne hk (b01 c9) dX5_setting_47 h (fun b10 h => ?_) (fun b10 h => ?_)
    · refine g_iconst hk (v := 0) rfl dX5_setting_50 ?_
      exact g_zreturn hk z0 dX5_setting_51 (by cases h; rfl)
    · refine g_aload_n hk 0 rfl dX5_setting_52 ?_
      refine g_get3o hk fl_X5_22 rfl (j := 3) rfl kdC_1 dX5_setting_53 h (fun zz11 kzz11 h => ?_)
      refine g_aload_n hk 0 rfl dX5_setting_56 ?_
      have g12 := zGI (i := 8) hm kdC_1 rfl
      refine g_get0 hk fl_X5_92 rfl (j := 8) rfl kdC_1 dX5_setting_57 ?_
      refine g_put0 hk fp_X5_160 rfl (j := 14) rfl kzz11 g12 dX5_setting_60 h hm (fun m13 hm h => ?_)
      refine g_iconst hk (v := 1) rfl dX5_setting_63 ?_
      exact g_zreturn hk z1 dX5_setting_64 (by cases h; rfl)
  rcases zite h with ⟨e4, h⟩ | ⟨e4, h⟩
  · refine g_tin hk cx1 dX5_setting_11 e4 (by decide) (by decide) rfl (by decide) (tgt := 65) ?_
    refine g_aload_n hk 0 rfl dX5_setting_65 ?_
    refine g_iconst hk (v := 0) rfl dX5_setting_66 ?_
    refine g_bipush hk (v := 99) rfl dX5_setting_67 ?_
    obtain ⟨r14, e15, h⟩ := zbind h
    refine g_callVz hk (st := []) mf_X5_number lk_X5_95 mv_X5_number kdC_1 (by decide) rfl (Nat.le_of_ble_eq_true rfl) rfl dX5_setting_69 (met_Pa_number _ _ _ _ _ hk.wd hm (cIk rfl) (cIk rfl) e15) (fun hm c16 => ?_)
    refine g_if_ne hk (b01 c16) dX5_setting_72 h (fun b17 h => ?_) (fun b17 h => ?_)
    · refine g_iconst hk (v := 0) rfl dX5_setting_75 ?_
      exact g_zreturn hk z0 dX5_setting_76 (by cases h; rfl)
    · refine g_aload_n hk 0 rfl dX5_setting_77 ?_
      refine g_get3o hk fl_X5_22 rfl (j := 3) rfl kdC_1 dX5_setting_78 h (fun zz18 kzz18 h => ?_)
      refine g_aload_n hk 0 rfl dX5_setting_81 ?_
      have g19 := zGI (i := 8) hm kdC_1 rfl
      refine g_get0 hk fl_X5_92 rfl (j := 8) rfl kdC_1 dX5_setting_82 ?_
      refine g_put0 hk fp_X5_163 rfl (j := 15) rfl kzz18 g19 dX5_setting_85 h hm (fun m20 hm h => ?_)
      refine g_iconst hk (v := 1) rfl dX5_setting_88 ?_
      exact g_zreturn hk z1 dX5_setting_89 (by cases h; rfl)
  rcases zite h with ⟨e5, h⟩ | ⟨e5, h⟩
  · refine g_tin hk cx1 dX5_setting_11 e5 (by decide) (by decide) rfl (by decide) (tgt := 90) ?_
    refine g_aload_n hk 0 rfl dX5_setting_90 ?_
    refine g_iconst hk (v := 2) rfl dX5_setting_91 ?_
    refine g_bipush hk (v := 9) rfl dX5_setting_92 ?_
    obtain ⟨r21, e22, h⟩ := zbind h
    refine g_callVz hk (st := []) mf_X5_number lk_X5_95 mv_X5_number kdC_1 (by decide) rfl (Nat.le_of_ble_eq_true rfl) rfl dX5_setting_94 (met_Pa_number _ _ _ _ _ hk.wd hm (cIk rfl) (cIk rfl) e22) (fun hm c23 => ?_)
    refine g_if_ne hk (b01 c23) dX5_setting_97 h (fun b24 h => ?_) (fun b24 h => ?_)
    · refine g_iconst hk (v := 0) rfl dX5_setting_100 ?_
      exact g_zreturn hk z0 dX5_setting_101 (by cases h; rfl)
    · refine g_aload_n hk 0 rfl dX5_setting_102 ?_
      refine g_get3o hk fl_X5_22 rfl (j := 3) rfl kdC_1 dX5_setting_103 h (fun zz25 kzz25 h => ?_)
      refine g_aload_n hk 0 rfl dX5_setting_106 ?_
      have g26 := zGI (i := 8) hm kdC_1 rfl
      refine g_get0 hk fl_X5_92 rfl (j := 8) rfl kdC_1 dX5_setting_107 ?_
      refine g_put0 hk fp_X5_166 rfl (j := 16) rfl kzz25 g26 dX5_setting_110 h hm (fun m27 hm h => ?_)
      refine g_iconst hk (v := 1) rfl dX5_setting_113 ?_
      exact g_zreturn hk z1 dX5_setting_114 (by cases h; rfl)
  rcases zite h with ⟨e6, h⟩ | ⟨e6, h⟩
  · refine g_tin hk cx1 dX5_setting_11 e6 (by decide) (by decide) rfl (by decide) (tgt := 115) ?_
    refine g_aload_n hk 0 rfl dX5_setting_115 ?_
    refine g_iconst hk (v := 0) rfl dX5_setting_116 ?_
    refine g_bipush hk (v := 99) rfl dX5_setting_117 ?_
    obtain ⟨r28, e29, h⟩ := zbind h
    refine g_callVz hk (st := []) mf_X5_number lk_X5_95 mv_X5_number kdC_1 (by decide) rfl (Nat.le_of_ble_eq_true rfl) rfl dX5_setting_119 (met_Pa_number _ _ _ _ _ hk.wd hm (cIk rfl) (cIk rfl) e29) (fun hm c30 => ?_)
    refine g_if_ne hk (b01 c30) dX5_setting_122 h (fun b31 h => ?_) (fun b31 h => ?_)
    · refine g_iconst hk (v := 0) rfl dX5_setting_125 ?_
      exact g_zreturn hk z0 dX5_setting_126 (by cases h; rfl)
    · refine g_aload_n hk 0 rfl dX5_setting_127 ?_
      refine g_get3o hk fl_X5_22 rfl (j := 3) rfl kdC_1 dX5_setting_128 h (fun zz32 kzz32 h => ?_)
      refine g_aload_n hk 0 rfl dX5_setting_131 ?_
      have g33 := zGI (i := 8) hm kdC_1 rfl
      refine g_get0 hk fl_X5_92 rfl (j := 8) rfl kdC_1 dX5_setting_132 ?_
      refine g_put0 hk fp_X5_169 rfl (j := 17) rfl kzz32 g33 dX5_setting_135 h hm (fun m34 hm h => ?_)
      refine g_iconst hk (v := 1) rfl dX5_setting_138 ?_
      exact g_zreturn hk z1 dX5_setting_139 (by cases h; rfl)
  refine g_tout hk cx1 dX5_setting_11 (by omega) (by decide) (tgt := 140) ?_
  refine g_aload_n hk 0 rfl dX5_setting_140 ?_
  refine g_iconst hk (v := 0) rfl dX5_setting_141 ?_
  refine g_bipush hk (v := 100) rfl dX5_setting_142 ?_
  obtain ⟨r35, e36, h⟩ := zbind h
  refine g_callVz hk (st := []) mf_X5_number lk_X5_95 mv_X5_number kdC_1 (by decide) rfl (Nat.le_of_ble_eq_true rfl) rfl dX5_setting_144 (met_Pa_number _ _ _ _ _ hk.wd hm (cIk rfl) (cIk rfl) e36) (fun hm c37 => ?_)
  refine g_if_ne hk (b01 c37) dX5_setting_147 h (fun b38 h => ?_) (fun b38 h => ?_)
  · refine g_iconst hk (v := 0) rfl dX5_setting_150 ?_
    exact g_zreturn hk z0 dX5_setting_151 (by cases h; rfl)
  · refine g_aload_n hk 0 rfl dX5_setting_152 ?_
    refine g_get3o hk fl_X5_22 rfl (j := 3) rfl kdC_1 dX5_setting_153 h (fun zz39 kzz39 h => ?_)
    refine g_aload_n hk 0 rfl dX5_setting_156 ?_
    have g40 := zGI (i := 8) hm kdC_1 rfl
    refine g_get0 hk fl_X5_92 rfl (j := 8) rfl kdC_1 dX5_setting_157 ?_
    refine g_put0 hk fp_X5_172 rfl (j := 18) rfl kzz39 g40 dX5_setting_160 h hm (fun m41 hm h => ?_)
    refine g_iconst hk (v := 1) rfl dX5_setting_163 ?_
    exact g_zreturn hk z1 dX5_setting_164 (by cases h; rfl)
theorem met_Pa_setting (l : Launch) (D : va_G) (aC : Nat → ClassId) (B N : Nat) (hwd : ∀ id, (kdC id).1 ≠ 9 → id < N) {x1 : Int} {m : zM} {o : Int × zM} (hm : zG kdC m) (cx1 : cI x1) (h : Pa_setting x1 m = some o) : zMet l yX5_setting cX5_setting 2 (some .boolean) 2 D aC B kdC N [.ref (B + 1), mI x1] m (4, o.1, o.2) := by
  refine zMet.of mf_X5_setting hwd hm (Nat.le_of_ble_eq_true rfl) (fun K e1 e2 e3 e4 e5 hk => ?_)
  subst e4
  exact w_Pa_setting hk hm cx1 h
set_option maxRecDepth 100000 in
set_option maxHeartbeats 4000000 in
theorem w_Pa_statement {K : zK} (hk : zOk K kdC cX5_statement 1 (some .boolean) RX5 402)  {m : zM} {o : Int × zM}  (hm : zG kdC m)  (h : Pa_statement m = some o) : GoAt K m [(0, .ref (kB K + 1))] [] 0 (4, o.1, o.2) := by
  unfold Pa_statement at h
  refine g_aload_n hk 0 rfl dX5_statement_0 ?_
  obtain ⟨r1, e2, h⟩ := zbind h
  refine g_callVi hk (st := []) mf_X5_kind lk_X5_40 mv_X5_kind kdC_1 (by decide) rfl (Nat.le_of_ble_eq_true rfl) rfl dX5_statement_1 (met_Pa_kind _ _ _ _ _ hk.wd hm e2) (fun hm c3 => ?_)
  rcases zite h with ⟨e4, h⟩ | ⟨e4, h⟩
  · refine g_tin hk c3 dX5_statement_4 e4 (by decide) (by decide) rfl (by decide) (tgt := 80) ?_
    refine g_aload_n hk 0 rfl dX5_statement_80 ?_
    obtain ⟨r19, e20, h⟩ := zbind h
    refine g_callVz hk (st := []) mf_X5_beastStatement lk_X5_65 mv_X5_beastStatement kdC_1 (by decide) rfl (Nat.le_of_ble_eq_true rfl) rfl dX5_statement_81 (met_Pa_beastStatement _ _ _ _ _ hk.wd hm e20) (fun hm c21 => ?_)
    exact g_zreturn hk c21 dX5_statement_84 (by cases h; rfl)
  rcases zite h with ⟨e5, h⟩ | ⟨e5, h⟩
  · refine g_tin hk c3 dX5_statement_4 e5 (by decide) (by decide) rfl (by decide) (tgt := 119) ?_
    refine g_aload_n hk 0 rfl dX5_statement_119 ?_
    refine g_iconst hk (v := 1) rfl dX5_statement_120 ?_
    obtain ⟨r22, e23, h⟩ := zbind h
    refine g_callVz hk (st := []) mf_X5_fail lk_X5_44 mv_X5_fail kdC_1 (by decide) rfl (Nat.le_of_ble_eq_true rfl) rfl dX5_statement_121 (met_Pa_fail _ _ _ _ _ hk.wd hm (cIk rfl) e23) (fun hm c24 => ?_)
    exact g_zreturn hk c24 dX5_statement_124 (by cases h; rfl)
  rcases zite h with ⟨e6, h⟩ | ⟨e6, h⟩
  · refine g_tin hk c3 dX5_statement_4 e6 (by decide) (by decide) rfl (by decide) (tgt := 119) ?_
    refine g_aload_n hk 0 rfl dX5_statement_119 ?_
    refine g_iconst hk (v := 1) rfl dX5_statement_120 ?_
    obtain ⟨r25, e26, h⟩ := zbind h
    refine g_callVz hk (st := []) mf_X5_fail lk_X5_44 mv_X5_fail kdC_1 (by decide) rfl (Nat.le_of_ble_eq_true rfl) rfl dX5_statement_121 (met_Pa_fail _ _ _ _ _ hk.wd hm (cIk rfl) e26) (fun hm c27 => ?_)
    exact g_zreturn hk c27 dX5_statement_124 (by cases h; rfl)
  rcases zite h with ⟨e7, h⟩ | ⟨e7, h⟩
  · refine g_tin hk c3 dX5_statement_4 e7 (by decide) (by decide) rfl (by decide) (tgt := 119) ?_
    refine g_aload_n hk 0 rfl dX5_statement_119 ?_
    refine g_iconst hk (v := 1) rfl dX5_statement_120 ?_
    obtain ⟨r28, e29, h⟩ := zbind h
    refine g_callVz hk (st := []) mf_X5_fail lk_X5_44 mv_X5_fail kdC_1 (by decide) rfl (Nat.le_of_ble_eq_true rfl) rfl dX5_statement_121 (met_Pa_fail _ _ _ _ _ hk.wd hm (cIk rfl) e29) (fun hm c30 => ?_)
    exact g_zreturn hk c30 dX5_statement_124 (by cases h; rfl)
  rcases zite h with ⟨e8, h⟩ | ⟨e8, h⟩
  · refine g_tin hk c3 dX5_statement_4 e8 (by decide) (by decide) rfl (by decide) (tgt := 85) ?_
    refine g_aload_n hk 0 rfl dX5_statement_85 ?_
    obtain ⟨r31, e32, h⟩ := zbind h
    refine g_callVz hk (st := []) mf_X5_tasteStatement lk_X5_68 mv_X5_tasteStatement kdC_1 (by decide) rfl (Nat.le_of_ble_eq_true rfl) rfl dX5_statement_86 (met_Pa_tasteStatement _ _ _ _ _ hk.wd hm e32) (fun hm c33 => ?_)
    exact g_zreturn hk c33 dX5_statement_89 (by cases h; rfl)
  rcases zite h with ⟨e9, h⟩ | ⟨e9, h⟩
  · refine g_tin hk c3 dX5_statement_4 e9 (by decide) (by decide) rfl (by decide) (tgt := 90) ?_
    refine g_aload_n hk 0 rfl dX5_statement_90 ?_
    obtain ⟨r34, e35, h⟩ := zbind h
    refine g_callVz hk (st := []) mf_X5_guestStatement lk_X5_71 mv_X5_guestStatement kdC_1 (by decide) rfl (Nat.le_of_ble_eq_true rfl) rfl dX5_statement_91 (met_Pa_guestStatement _ _ _ _ _ hk.wd hm e35) (fun hm c36 => ?_)
    exact g_zreturn hk c36 dX5_statement_94 (by cases h; rfl)
  rcases zite h with ⟨e10, h⟩ | ⟨e10, h⟩
  · refine g_tin hk c3 dX5_statement_4 e10 (by decide) (by decide) rfl (by decide) (tgt := 119) ?_
    refine g_aload_n hk 0 rfl dX5_statement_119 ?_
    refine g_iconst hk (v := 1) rfl dX5_statement_120 ?_
    obtain ⟨r37, e38, h⟩ := zbind h
    refine g_callVz hk (st := []) mf_X5_fail lk_X5_44 mv_X5_fail kdC_1 (by decide) rfl (Nat.le_of_ble_eq_true rfl) rfl dX5_statement_121 (met_Pa_fail _ _ _ _ _ hk.wd hm (cIk rfl) e38) (fun hm c39 => ?_)
    exact g_zreturn hk c39 dX5_statement_124 (by cases h; rfl)
  rcases zite h with ⟨e11, h⟩ | ⟨e11, h⟩
  · refine g_tin hk c3 dX5_statement_4 e11 (by decide) (by decide) rfl (by decide) (tgt := 95) ?_
    refine g_aload_n hk 0 rfl dX5_statement_95 ?_
    obtain ⟨r40, e41, h⟩ := zbind h
    refine g_callVz hk (st := []) mf_X5_fearStatement lk_X5_74 mv_X5_fearStatement kdC_1 (by decide) rfl (Nat.le_of_ble_eq_true rfl) rfl dX5_statement_96 (met_Pa_fearStatement _ _ _ _ _ hk.wd hm e41) (fun hm c42 => ?_)
    exact g_zreturn hk c42 dX5_statement_99 (by cases h; rfl)
  rcases zite h with ⟨e12, h⟩ | ⟨e12, h⟩
  · refine g_tin hk c3 dX5_statement_4 e12 (by decide) (by decide) rfl (by decide) (tgt := 100) ?_
    refine g_aload_n hk 0 rfl dX5_statement_100 ?_
    obtain ⟨r43, e44, h⟩ := zbind h
    refine g_callVz hk (st := []) mf_X5_likesStatement lk_X5_77 mv_X5_likesStatement kdC_1 (by decide) rfl (Nat.le_of_ble_eq_true rfl) rfl dX5_statement_101 (met_Pa_likesStatement _ _ _ _ _ hk.wd hm e44) (fun hm c45 => ?_)
    exact g_zreturn hk c45 dX5_statement_104 (by cases h; rfl)
  rcases zite h with ⟨e13, h⟩ | ⟨e13, h⟩
  · refine g_tin hk c3 dX5_statement_4 e13 (by decide) (by decide) rfl (by decide) (tgt := 105) ?_
    refine g_aload_n hk 0 rfl dX5_statement_105 ?_
    obtain ⟨r46, e47, h⟩ := zbind h
    refine g_callVz hk (st := []) mf_X5_mayStatement lk_X5_80 mv_X5_mayStatement kdC_1 (by decide) rfl (Nat.le_of_ble_eq_true rfl) rfl dX5_statement_106 (met_Pa_mayStatement _ _ _ _ _ hk.wd hm e47) (fun hm c48 => ?_)
    exact g_zreturn hk c48 dX5_statement_109 (by cases h; rfl)
  rcases zite h with ⟨e14, h⟩ | ⟨e14, h⟩
  · refine g_tin hk c3 dX5_statement_4 e14 (by decide) (by decide) rfl (by decide) (tgt := 110) ?_
    refine g_aload_n hk 0 rfl dX5_statement_110 ?_
    refine g_aload_n hk 0 rfl dX5_statement_111 ?_
    obtain ⟨r49, e50, h⟩ := zbind h
    refine g_callVi hk (st := [.ref (kB K + 1)]) mf_X5_kind lk_X5_40 mv_X5_kind kdC_1 (by decide) rfl (Nat.le_of_ble_eq_true rfl) rfl dX5_statement_112 (met_Pa_kind _ _ _ _ _ hk.wd hm e50) (fun hm c51 => ?_)
    obtain ⟨r52, e53, h⟩ := zbind h
    refine g_callVz hk (st := []) mf_X5_setting lk_X5_83 mv_X5_setting kdC_1 (by decide) rfl (Nat.le_of_ble_eq_true rfl) rfl dX5_statement_115 (met_Pa_setting _ _ _ _ _ hk.wd hm c51 e53) (fun hm c54 => ?_)
    exact g_zreturn hk c54 dX5_statement_118 (by cases h; rfl)
  rcases zite h with ⟨e15, h⟩ | ⟨e15, h⟩
  · refine g_tin hk c3 dX5_statement_4 e15 (by decide) (by decide) rfl (by decide) (tgt := 110) ?_
    refine g_aload_n hk 0 rfl dX5_statement_110 ?_
    refine g_aload_n hk 0 rfl dX5_statement_111 ?_
    obtain ⟨r55, e56, h⟩ := zbind h
    refine g_callVi hk (st := [.ref (kB K + 1)]) mf_X5_kind lk_X5_40 mv_X5_kind kdC_1 (by decide) rfl (Nat.le_of_ble_eq_true rfl) rfl dX5_statement_112 (met_Pa_kind _ _ _ _ _ hk.wd hm e56) (fun hm c57 => ?_)
    obtain ⟨r58, e59, h⟩ := zbind h
    refine g_callVz hk (st := []) mf_X5_setting lk_X5_83 mv_X5_setting kdC_1 (by decide) rfl (Nat.le_of_ble_eq_true rfl) rfl dX5_statement_115 (met_Pa_setting _ _ _ _ _ hk.wd hm c57 e59) (fun hm c60 => ?_)
    exact g_zreturn hk c60 dX5_statement_118 (by cases h; rfl)
  rcases zite h with ⟨e16, h⟩ | ⟨e16, h⟩
  · refine g_tin hk c3 dX5_statement_4 e16 (by decide) (by decide) rfl (by decide) (tgt := 110) ?_
    refine g_aload_n hk 0 rfl dX5_statement_110 ?_
    refine g_aload_n hk 0 rfl dX5_statement_111 ?_
    obtain ⟨r61, e62, h⟩ := zbind h
    refine g_callVi hk (st := [.ref (kB K + 1)]) mf_X5_kind lk_X5_40 mv_X5_kind kdC_1 (by decide) rfl (Nat.le_of_ble_eq_true rfl) rfl dX5_statement_112 (met_Pa_kind _ _ _ _ _ hk.wd hm e62) (fun hm c63 => ?_)
    obtain ⟨r64, e65, h⟩ := zbind h
    refine g_callVz hk (st := []) mf_X5_setting lk_X5_83 mv_X5_setting kdC_1 (by decide) rfl (Nat.le_of_ble_eq_true rfl) rfl dX5_statement_115 (met_Pa_setting _ _ _ _ _ hk.wd hm c63 e65) (fun hm c66 => ?_)
    exact g_zreturn hk c66 dX5_statement_118 (by cases h; rfl)
  rcases zite h with ⟨e17, h⟩ | ⟨e17, h⟩
  · refine g_tin hk c3 dX5_statement_4 e17 (by decide) (by decide) rfl (by decide) (tgt := 110) ?_
    refine g_aload_n hk 0 rfl dX5_statement_110 ?_
    refine g_aload_n hk 0 rfl dX5_statement_111 ?_
    obtain ⟨r67, e68, h⟩ := zbind h
    refine g_callVi hk (st := [.ref (kB K + 1)]) mf_X5_kind lk_X5_40 mv_X5_kind kdC_1 (by decide) rfl (Nat.le_of_ble_eq_true rfl) rfl dX5_statement_112 (met_Pa_kind _ _ _ _ _ hk.wd hm e68) (fun hm c69 => ?_)
    obtain ⟨r70, e71, h⟩ := zbind h
    refine g_callVz hk (st := []) mf_X5_setting lk_X5_83 mv_X5_setting kdC_1 (by decide) rfl (Nat.le_of_ble_eq_true rfl) rfl dX5_statement_115 (met_Pa_setting _ _ _ _ _ hk.wd hm c69 e71) (fun hm c72 => ?_)
    exact g_zreturn hk c72 dX5_statement_118 (by cases h; rfl)
  rcases zite h with ⟨e18, h⟩ | ⟨e18, h⟩
  · refine g_tin hk c3 dX5_statement_4 e18 (by decide) (by decide) rfl (by decide) (tgt := 110) ?_
    refine g_aload_n hk 0 rfl dX5_statement_110 ?_
    refine g_aload_n hk 0 rfl dX5_statement_111 ?_
    obtain ⟨r73, e74, h⟩ := zbind h
    refine g_callVi hk (st := [.ref (kB K + 1)]) mf_X5_kind lk_X5_40 mv_X5_kind kdC_1 (by decide) rfl (Nat.le_of_ble_eq_true rfl) rfl dX5_statement_112 (met_Pa_kind _ _ _ _ _ hk.wd hm e74) (fun hm c75 => ?_)
    obtain ⟨r76, e77, h⟩ := zbind h
    refine g_callVz hk (st := []) mf_X5_setting lk_X5_83 mv_X5_setting kdC_1 (by decide) rfl (Nat.le_of_ble_eq_true rfl) rfl dX5_statement_115 (met_Pa_setting _ _ _ _ _ hk.wd hm c75 e77) (fun hm c78 => ?_)
    exact g_zreturn hk c78 dX5_statement_118 (by cases h; rfl)
  refine g_tout hk c3 dX5_statement_4 (by omega) (by decide) (tgt := 119) ?_
  refine g_aload_n hk 0 rfl dX5_statement_119 ?_
  refine g_iconst hk (v := 1) rfl dX5_statement_120 ?_
  obtain ⟨r79, e80, h⟩ := zbind h
  refine g_callVz hk (st := []) mf_X5_fail lk_X5_44 mv_X5_fail kdC_1 (by decide) rfl (Nat.le_of_ble_eq_true rfl) rfl dX5_statement_121 (met_Pa_fail _ _ _ _ _ hk.wd hm (cIk rfl) e80) (fun hm c81 => ?_)
  exact g_zreturn hk c81 dX5_statement_124 (by cases h; rfl)
theorem met_Pa_statement (l : Launch) (D : va_G) (aC : Nat → ClassId) (B N : Nat) (hwd : ∀ id, (kdC id).1 ≠ 9 → id < N) {m : zM} {o : Int × zM} (hm : zG kdC m)  (h : Pa_statement m = some o) : zMet l yX5_statement cX5_statement 1 (some .boolean) 402 D aC B kdC N [.ref (B + 1)] m (4, o.1, o.2) := by
  refine zMet.of mf_X5_statement hwd hm (Nat.le_of_ble_eq_true rfl) (fun K e1 e2 e3 e4 e5 hk => ?_)
  subst e4
  exact w_Pa_statement hk hm  h
set_option maxRecDepth 100000 in
set_option maxHeartbeats 4000000 in
theorem w_Pa_parse_B36 {K : zK} (hk : zOk K kdC cX5_parse 3 (some .int) RX5 403) {rec : Int → zM → Option (Int × zM)} {x2 : Int} {m : zM} {o : Int × zM} (hrec : ∀ (x2 : Int) (m : zM), zG kdC m → cI x2 → rec x2 m = some o → GoAt K m [(0, .ref (kB K + 1)), (2, mI x2)] [] 36 (0, o.1, o.2)) (hm : zG kdC m) (cx2 : cI x2) (h : Pa_parse_B36 rec x2 m = some o) : GoAt K m [(0, .ref (kB K + 1)), (2, mI x2)] [] 36 (0, o.1, o.2) := by
  unfold Pa_parse_B36 at h
  refine g_iload_n hk 1 rfl dX5_parse_36 ?_
  refine g_bipush hk (v := 80) rfl dX5_parse_37 ?_
  refine g_icmp_gt hk cx2 (cIk rfl) dX5_parse_39 h (fun b1 h => ?_) (fun b1 h => ?_)
  · refine g_iconst hk (v := (-1)) rfl dX5_parse_93 ?_
    exact g_ireturn hk (cIk rfl) dX5_parse_94 (by cases h; rfl)
  · refine g_aload_n hk 0 rfl dX5_parse_42 ?_
    obtain ⟨r2, e3, h⟩ := zbind h
    refine g_callVi hk (st := []) mf_X5_kind lk_X5_40 mv_X5_kind kdC_1 (by decide) rfl (Nat.le_of_ble_eq_true rfl) rfl dX5_parse_43 (met_Pa_kind _ _ _ _ _ hk.wd hm e3) (fun hm c4 => ?_)
    refine g_sipush hk (v := 256) rfl dX5_parse_46 ?_
    refine g_icmp_ne hk c4 (cIk rfl) dX5_parse_49 h (fun b5 h => ?_) (fun b5 h => ?_)
    · refine g_iload_n hk 1 rfl dX5_parse_52 ?_
      exact g_ireturn hk cx2 dX5_parse_53 (by cases h; rfl)
    · refine g_iload_n hk 1 rfl dX5_parse_54 ?_
      refine g_bipush hk (v := 80) rfl dX5_parse_55 ?_
      refine g_icmp_ne hk cx2 (cIk rfl) dX5_parse_57 h (fun b6 h => ?_) (fun b6 h => ?_)
      · refine g_aload_n hk 0 rfl dX5_parse_60 ?_
        refine g_bipush hk (v := 6) rfl dX5_parse_61 ?_
        obtain ⟨r7, e8, h⟩ := zbind h
        refine g_callVz hk (st := []) mf_X5_fail lk_X5_44 mv_X5_fail kdC_1 (by decide) rfl (Nat.le_of_ble_eq_true rfl) rfl dX5_parse_63 (met_Pa_fail _ _ _ _ _ hk.wd hm (cIk rfl) e8) (fun hm c9 => ?_)
        refine g_pop hk rfl dX5_parse_66 ?_
        refine g_iconst hk (v := (-1)) rfl dX5_parse_67 ?_
        exact g_ireturn hk (cIk rfl) dX5_parse_68 (by cases h; rfl)
      · refine g_aload_n hk 0 rfl dX5_parse_69 ?_
        obtain ⟨r10, e11, h⟩ := zbind h
        refine g_callVz hk (st := []) mf_X5_statement lk_X5_48 mv_X5_statement kdC_1 (by decide) rfl (Nat.le_of_ble_eq_true rfl) rfl dX5_parse_70 (met_Pa_statement _ _ _ _ _ hk.wd hm e11) (fun hm c12 => ?_)
        refine g_if_eq hk (b01 c12) dX5_parse_73 h (fun b13 h => ?_) (fun b13 h => ?_)
        · refine g_iconst hk (v := (-1)) rfl dX5_parse_85 ?_
          exact g_ireturn hk (cIk rfl) dX5_parse_86 (by cases h; rfl)
        · refine g_aload_n hk 0 rfl dX5_parse_76 ?_
          refine g_bipush hk (v := 59) rfl dX5_parse_77 ?_
          obtain ⟨r14, e15, h⟩ := zbind h
          refine g_callVz hk (st := []) mf_X5_token lk_X5_52 mv_X5_token kdC_1 (by decide) rfl (Nat.le_of_ble_eq_true rfl) rfl dX5_parse_79 (met_Pa_token _ _ _ _ _ hk.wd hm (cIk rfl) e15) (fun hm c16 => ?_)
          refine g_if_ne hk (b01 c16) dX5_parse_82 h (fun b17 h => ?_) (fun b17 h => ?_)
          · refine g_iconst hk (v := (-1)) rfl dX5_parse_85 ?_
            exact g_ireturn hk (cIk rfl) dX5_parse_86 (by cases h; rfl)
          · refine g_iinc hk (lv' := [(2, mI (wI (x2 + 1))), (0, .ref (kB K + 1))]) 1 rfl (Nat.le_of_ble_eq_true rfl) rfl dX5_parse_87 ?_
            refine g_goto hk dX5_parse_90 ?_
            refine GoAt.sub [1, 0] rfl ?_
            exact hrec _ _ hm (wI_c _) h
theorem w_Pa_parse_L36 {K : zK} (hk : zOk K kdC cX5_parse 3 (some .int) RX5 403)  {o : Int × zM}  : ∀ (n : Nat) (x2 : Int) (m : zM), zG kdC m → cI x2 → Pa_parse_L36 n x2 m = some o → GoAt K m [(0, .ref (kB K + 1)), (2, mI x2)] [] 36 (0, o.1, o.2)
  | 0, x2, m, hm, cx2, h => by cases h
  | n + 1, x2, m, hm, cx2, h => w_Pa_parse_B36 hk  (w_Pa_parse_L36 hk  n) hm cx2 h
set_option maxRecDepth 100000 in
set_option maxHeartbeats 4000000 in
theorem w_Pa_parse {K : zK} (hk : zOk K kdC cX5_parse 3 (some .int) RX5 403)  {o1 : Nat} {m : zM} {o : Int × zM}  (hm : zG kdC m) (ko1 : kdC o1 = (0, 10)) (h : Pa_parse o1 m = some o) : GoAt K m [(0, .ref (kB K + 1)), (1, .ref (kB K + o1))] [] 0 (0, o.1, o.2) := by
  unfold Pa_parse at h
  refine g_aload_n hk 0 rfl dX5_parse_0 ?_
  refine g_aload_n hk 1 rfl dX5_parse_1 ?_
  refine g_put3 hk fp_X5_22 ⟨rfl, rfl⟩ rfl (j := 3) rfl kdC_1 (id_lt ko1) dX5_parse_2 h hm (fun m1 hm h => ?_)
  refine g_aload_n hk 0 rfl dX5_parse_5 ?_
  refine g_get3o hk fl_X5_22 rfl (j := 3) rfl kdC_1 dX5_parse_6 h (fun zz2 kzz2 h => ?_)
  obtain ⟨r3, e4, h⟩ := zbind h
  refine g_callVv hk (st := []) mf_X10_clear lk_X5_26 mv_X10_clear kzz2 (by decide) rfl (Nat.le_of_ble_eq_true rfl) rfl dX5_parse_9 (met_Zo_clear _ _ _ _ _ hk.wd hm kzz2 e4) (fun hm => ?_)
  refine g_aload_n hk 0 rfl dX5_parse_12 ?_
  refine g_iconst hk (v := 0) rfl dX5_parse_13 ?_
  refine g_put0 hk fp_X5_31 rfl (j := 1) rfl kdC_1 (cIk rfl) dX5_parse_14 h hm (fun m6 hm h => ?_)
  refine g_aload_n hk 0 rfl dX5_parse_17 ?_
  refine g_iconst hk (v := (-1)) rfl dX5_parse_18 ?_
  refine g_put0 hk fp_X5_18 rfl (j := 2) rfl kdC_1 (cIk rfl) dX5_parse_19 h hm (fun m7 hm h => ?_)
  refine g_aload_n hk 0 rfl dX5_parse_22 ?_
  refine g_iconst hk (v := 0) rfl dX5_parse_23 ?_
  refine g_put0 hk fp_X5_34 rfl (j := 7) rfl kdC_1 (cIk rfl) dX5_parse_24 h hm (fun m8 hm h => ?_)
  refine g_aload_n hk 0 rfl dX5_parse_27 ?_
  refine g_get2 hk fl_X5_12 rfl kdC_1 hm (b := 2) rfl dX5_parse_28 ?_
  obtain ⟨r9, e10, h⟩ := zbind h
  refine g_callVv hk (st := []) mf_X8_split lk_X5_37 mv_X8_split kdC_2 (by decide) rfl (Nat.le_of_ble_eq_true rfl) rfl dX5_parse_31 (met_Ta_split _ _ _ _ _ hk.wd hm e10) (fun hm => ?_)
  refine g_iconst hk (v := 0) rfl dX5_parse_34 ?_
  refine g_istore_n hk rfl (lv' := [(2, mI 0), (0, .ref (kB K + 1)), (1, .ref (kB K + o1))]) (Nat.le_of_ble_eq_true rfl) rfl dX5_parse_35 ?_
  refine GoAt.sub [1, 0] rfl ?_
  refine w_Pa_parse_L36 hk  1000000 _ _ hm (cIk rfl) h
theorem met_Pa_parse (l : Launch) (D : va_G) (aC : Nat → ClassId) (B N : Nat) (hwd : ∀ id, (kdC id).1 ≠ 9 → id < N) {o1 : Nat} {m : zM} {o : Int × zM} (hm : zG kdC m) (ko1 : kdC o1 = (0, 10)) (h : Pa_parse o1 m = some o) : zMet l yX5_parse cX5_parse 3 (some .int) 403 D aC B kdC N [.ref (B + 1), .ref (B + o1)] m (0, o.1, o.2) := by
  refine zMet.of mf_X5_parse hwd hm (Nat.le_of_ble_eq_true rfl) (fun K e1 e2 e3 e4 e5 hk => ?_)
  subst e4
  exact w_Pa_parse hk hm ko1 h
set_option maxRecDepth 100000 in
set_option maxHeartbeats 4000000 in
theorem w_St_forgetDay_B2 {K : zK} (hk : zOk K kdC cX7_forgetDay 2 none RX7 0) {k28 : Nat → zM → Option (zM)} {rec : Nat → Int → zM → Option (zM)} {o0 : Nat} {x1 : Int} {m : zM} {o : zM} (hk28 : ∀ (o0 : Nat) (m : zM), zG kdC m → kdC o0 = (0, 7) → k28 o0 m = some o → GoAt K m [(0, .ref (kB K + o0))] [] 28 (9, 0, o)) (hrec : ∀ (o0 : Nat) (x1 : Int) (m : zM), zG kdC m → kdC o0 = (0, 7) → cI x1 → rec o0 x1 m = some o → GoAt K m [(0, .ref (kB K + o0)), (1, mI x1)] [] 2 (9, 0, o)) (hm : zG kdC m) (ko0 : kdC o0 = (0, 7)) (cx1 : cI x1) (h : St_forgetDay_B2 k28 rec o0 x1 m = some o) : GoAt K m [(0, .ref (kB K + o0)), (1, mI x1)] [] 2 (9, 0, o) := by
  unfold St_forgetDay_B2 at h
  refine g_iload_n hk 1 rfl dX7_forgetDay_2 ?_
  refine g_bipush hk (v := 8) rfl dX7_forgetDay_3 ?_
  refine g_icmp_ge hk cx1 (cIk rfl) dX7_forgetDay_5 h (fun b1 h => ?_) (fun b1 h => ?_)
  · refine g_aload_n hk 0 rfl dX7_forgetDay_8 ?_
    refine g_get2 hk fl_X7_15 rfl ko0 hm (b := o0 + 2) rfl dX7_forgetDay_9 ?_
    refine g_iload_n hk 1 rfl dX7_forgetDay_12 ?_
    refine g_iconst hk (v := (-1)) rfl dX7_forgetDay_13 ?_
    refine g_iast hk cx1 (cIk rfl) (kdC_s7_4 ko0) hm dX7_forgetDay_14 h (fun m2 hm h => ?_)
    refine g_aload_n hk 0 rfl dX7_forgetDay_15 ?_
    refine g_get2 hk fl_X7_18 rfl ko0 hm (b := o0 + 3) rfl dX7_forgetDay_16 ?_
    refine g_iload_n hk 1 rfl dX7_forgetDay_19 ?_
    refine g_iconst hk (v := 0) rfl dX7_forgetDay_20 ?_
    refine g_iast hk cx1 (cIk rfl) (kdC_s7_5 ko0) hm dX7_forgetDay_21 h (fun m3 hm h => ?_)
    refine g_iinc hk (lv' := [(1, mI (wI (x1 + 1))), (0, .ref (kB K + o0))]) 1 rfl (Nat.le_of_ble_eq_true rfl) rfl dX7_forgetDay_22 ?_
    refine g_goto hk dX7_forgetDay_25 ?_
    refine GoAt.sub [1, 0] rfl ?_
    exact hrec _ _ _ hm ko0 (wI_c _) h
  · refine GoAt.sub [0] rfl ?_
    exact hk28 _ _ hm ko0 h
theorem w_St_forgetDay_L2 {K : zK} (hk : zOk K kdC cX7_forgetDay 2 none RX7 0) {k28 : Nat → zM → Option (zM)} {o : zM} (hk28 : ∀ (o0 : Nat) (m : zM), zG kdC m → kdC o0 = (0, 7) → k28 o0 m = some o → GoAt K m [(0, .ref (kB K + o0))] [] 28 (9, 0, o)) : ∀ (n : Nat) (o0 : Nat) (x1 : Int) (m : zM), zG kdC m → kdC o0 = (0, 7) → cI x1 → St_forgetDay_L2 k28 n o0 x1 m = some o → GoAt K m [(0, .ref (kB K + o0)), (1, mI x1)] [] 2 (9, 0, o)
  | 0, o0, x1, m, hm, ko0, cx1, h => by cases h
  | n + 1, o0, x1, m, hm, ko0, cx1, h => w_St_forgetDay_B2 hk hk28 (w_St_forgetDay_L2 hk hk28 n) hm ko0 cx1 h
set_option maxRecDepth 100000 in
set_option maxHeartbeats 4000000 in
theorem w_St_forgetDay_B30 {K : zK} (hk : zOk K kdC cX7_forgetDay 2 none RX7 0) {rec : Nat → Int → zM → Option (zM)} {o0 : Nat} {x1 : Int} {m : zM} {o : zM} (hrec : ∀ (o0 : Nat) (x1 : Int) (m : zM), zG kdC m → kdC o0 = (0, 7) → cI x1 → rec o0 x1 m = some o → GoAt K m [(0, .ref (kB K + o0)), (1, mI x1)] [] 30 (9, 0, o)) (hm : zG kdC m) (ko0 : kdC o0 = (0, 7)) (cx1 : cI x1) (h : St_forgetDay_B30 rec o0 x1 m = some o) : GoAt K m [(0, .ref (kB K + o0)), (1, mI x1)] [] 30 (9, 0, o) := by
  unfold St_forgetDay_B30 at h
  refine g_iload_n hk 1 rfl dX7_forgetDay_30 ?_
  refine g_aload_n hk 0 rfl dX7_forgetDay_31 ?_
  refine g_get2 hk fl_X7_27 rfl ko0 hm (b := o0 + 6) rfl dX7_forgetDay_32 ?_
  refine g_alen hk (v := 48) (kdC_s7_8 ko0) rfl dX7_forgetDay_35 ?_
  refine g_icmp_ge hk cx1 (cIk rfl) dX7_forgetDay_36 h (fun b1 h => ?_) (fun b1 h => ?_)
  · refine g_aload_n hk 0 rfl dX7_forgetDay_39 ?_
    refine g_get2 hk fl_X7_27 rfl ko0 hm (b := o0 + 6) rfl dX7_forgetDay_40 ?_
    refine g_iload_n hk 1 rfl dX7_forgetDay_43 ?_
    refine g_iconst hk (v := 0) rfl dX7_forgetDay_44 ?_
    refine g_iast hk cx1 (cIk rfl) (kdC_s7_8 ko0) hm dX7_forgetDay_45 h (fun m2 hm h => ?_)
    refine g_iinc hk (lv' := [(1, mI (wI (x1 + 1))), (0, .ref (kB K + o0))]) 1 rfl (Nat.le_of_ble_eq_true rfl) rfl dX7_forgetDay_46 ?_
    refine g_goto hk dX7_forgetDay_49 ?_
    refine GoAt.sub [1, 0] rfl ?_
    exact hrec _ _ _ hm ko0 (wI_c _) h
  · exact g_return hk dX7_forgetDay_52 (by cases h; rfl)
theorem w_St_forgetDay_L30 {K : zK} (hk : zOk K kdC cX7_forgetDay 2 none RX7 0)  {o : zM}  : ∀ (n : Nat) (o0 : Nat) (x1 : Int) (m : zM), zG kdC m → kdC o0 = (0, 7) → cI x1 → St_forgetDay_L30 n o0 x1 m = some o → GoAt K m [(0, .ref (kB K + o0)), (1, mI x1)] [] 30 (9, 0, o)
  | 0, o0, x1, m, hm, ko0, cx1, h => by cases h
  | n + 1, o0, x1, m, hm, ko0, cx1, h => w_St_forgetDay_B30 hk  (w_St_forgetDay_L30 hk  n) hm ko0 cx1 h
set_option maxRecDepth 100000 in
set_option maxHeartbeats 4000000 in
theorem w_St_forgetDay {K : zK} (hk : zOk K kdC cX7_forgetDay 2 none RX7 0)  {o0 : Nat} {m : zM} {o : zM}  (hm : zG kdC m) (ko0 : kdC o0 = (0, 7)) (h : St_forgetDay o0 m = some o) : GoAt K m [(0, .ref (kB K + o0))] [] 0 (9, 0, o) := by
  unfold St_forgetDay at h
  refine g_iconst hk (v := 0) rfl dX7_forgetDay_0 ?_
  refine g_istore_n hk rfl (lv' := [(1, mI 0), (0, .ref (kB K + o0))]) (Nat.le_of_ble_eq_true rfl) rfl dX7_forgetDay_1 ?_
  refine GoAt.sub [1, 0] rfl ?_
  refine w_St_forgetDay_L2 hk (fun o0_1 m2 hm ko0_1 h => ?_) 1000000 _ _ _ hm ko0 (cIk rfl) h
  · refine g_iconst hk (v := 0) rfl dX7_forgetDay_28 ?_
    refine g_istore_n hk rfl (lv' := [(1, mI 0), (0, .ref (kB K + o0_1))]) (Nat.le_of_ble_eq_true rfl) rfl dX7_forgetDay_29 ?_
    refine GoAt.sub [1, 0] rfl ?_
    refine w_St_forgetDay_L30 hk  1000000 _ _ _ hm ko0_1 (cIk rfl) h
theorem met_St_forgetDay (l : Launch) (D : va_G) (aC : Nat → ClassId) (B N : Nat) (hwd : ∀ id, (kdC id).1 ≠ 9 → id < N) {o0 : Nat} {m : zM} {o : zM} (hm : zG kdC m) (ko0 : kdC o0 = (0, 7)) (h : St_forgetDay o0 m = some o) : zMet l yX7_forgetDay cX7_forgetDay 2 none 0 D aC B kdC N [.ref (B + o0)] m (9, 0, o) := by
  refine zMet.of mf_X7_forgetDay hwd hm (Nat.le_of_ble_eq_true rfl) (fun K e1 e2 e3 e4 e5 hk => ?_)
  subst e4
  exact w_St_forgetDay hk hm ko0 h
set_option maxRecDepth 100000 in
set_option maxHeartbeats 4000000 in
theorem w_St_forgetRows {K : zK} (hk : zOk K kdC cX7_forgetRows 1 none RX7 0)  {o0 : Nat} {m : zM} {o : zM}  (hm : zG kdC m) (ko0 : kdC o0 = (0, 7)) (h : St_forgetRows o0 m = some o) : GoAt K m [(0, .ref (kB K + o0))] [] 0 (9, 0, o) := by
  unfold St_forgetRows at h
  refine g_aload_n hk 0 rfl dX7_forgetRows_0 ?_
  refine g_iconst hk (v := 0) rfl dX7_forgetRows_1 ?_
  refine g_put0 hk fp_X7_63 rfl (j := 10) rfl ko0 (cIk rfl) dX7_forgetRows_2 h hm (fun m1 hm h => ?_)
  refine g_aload_n hk 0 rfl dX7_forgetRows_5 ?_
  refine g_iconst hk (v := 0) rfl dX7_forgetRows_6 ?_
  refine g_put0 hk fp_X7_66 rfl (j := 11) rfl ko0 (cIk rfl) dX7_forgetRows_7 h hm (fun m2 hm h => ?_)
  exact g_return hk dX7_forgetRows_10 (by cases h; rfl)
theorem met_St_forgetRows (l : Launch) (D : va_G) (aC : Nat → ClassId) (B N : Nat) (hwd : ∀ id, (kdC id).1 ≠ 9 → id < N) {o0 : Nat} {m : zM} {o : zM} (hm : zG kdC m) (ko0 : kdC o0 = (0, 7)) (h : St_forgetRows o0 m = some o) : zMet l yX7_forgetRows cX7_forgetRows 1 none 0 D aC B kdC N [.ref (B + o0)] m (9, 0, o) := by
  refine zMet.of mf_X7_forgetRows hwd hm (Nat.le_of_ble_eq_true rfl) (fun K e1 e2 e3 e4 e5 hk => ?_)
  subst e4
  exact w_St_forgetRows hk hm ko0 h
set_option maxRecDepth 100000 in
set_option maxHeartbeats 4000000 in
theorem w_St_begin_B53 {K : zK} (hk : zOk K kdC cX7_begin 3 none RX7 1) {rec : Nat → Int → zM → Option (zM)} {o0 : Nat} {x2 : Int} {m : zM} {o : zM} (hrec : ∀ (o0 : Nat) (x2 : Int) (m : zM), zG kdC m → kdC o0 = (0, 7) → cI x2 → rec o0 x2 m = some o → GoAt K m [(0, .ref (kB K + o0)), (2, mI x2)] [] 53 (9, 0, o)) (hm : zG kdC m) (ko0 : kdC o0 = (0, 7)) (cx2 : cI x2) (h : St_begin_B53 rec o0 x2 m = some o) : GoAt K m [(0, .ref (kB K + o0)), (2, mI x2)] [] 53 (9, 0, o) := by
  unfold St_begin_B53 at h
  refine g_iload_n hk 1 rfl dX7_begin_53 ?_
  refine g_aload_n hk 0 rfl dX7_begin_54 ?_
  refine g_get2 hk fl_X7_24 rfl ko0 hm (b := o0 + 5) rfl dX7_begin_55 ?_
  refine g_alen hk (v := 48) (kdC_s7_7 ko0) rfl dX7_begin_58 ?_
  refine g_icmp_ge hk cx2 (cIk rfl) dX7_begin_59 h (fun b1 h => ?_) (fun b1 h => ?_)
  · refine g_aload_n hk 0 rfl dX7_begin_62 ?_
    refine g_get2 hk fl_X7_24 rfl ko0 hm (b := o0 + 5) rfl dX7_begin_63 ?_
    refine g_iload_n hk 1 rfl dX7_begin_66 ?_
    refine g_iconst hk (v := 0) rfl dX7_begin_67 ?_
    refine g_iast hk cx2 (cIk rfl) (kdC_s7_7 ko0) hm dX7_begin_68 h (fun m2 hm h => ?_)
    refine g_iinc hk (lv' := [(2, mI (wI (x2 + 1))), (0, .ref (kB K + o0))]) 1 rfl (Nat.le_of_ble_eq_true rfl) rfl dX7_begin_69 ?_
    refine g_goto hk dX7_begin_72 ?_
    refine GoAt.sub [1, 0] rfl ?_
    exact hrec _ _ _ hm ko0 (wI_c _) h
  · refine g_aload_n hk 0 rfl dX7_begin_75 ?_
    obtain ⟨r3, e4, h⟩ := zbind h
    refine g_callVv hk (st := []) mf_X7_forgetDay lk_X7_33 mv_X7_forgetDay ko0 (by decide) rfl (Nat.le_of_ble_eq_true rfl) rfl dX7_begin_76 (met_St_forgetDay _ _ _ _ _ hk.wd hm ko0 e4) (fun hm => ?_)
    refine g_aload_n hk 0 rfl dX7_begin_79 ?_
    obtain ⟨r6, e7, h⟩ := zbind h
    refine g_callVv hk (st := []) mf_X7_forgetRows lk_X7_60 mv_X7_forgetRows ko0 (by decide) rfl (Nat.le_of_ble_eq_true rfl) rfl dX7_begin_80 (met_St_forgetRows _ _ _ _ _ hk.wd hm ko0 e7) (fun hm => ?_)
    exact g_return hk dX7_begin_83 (by cases h; rfl)
theorem w_St_begin_L53 {K : zK} (hk : zOk K kdC cX7_begin 3 none RX7 1)  {o : zM}  : ∀ (n : Nat) (o0 : Nat) (x2 : Int) (m : zM), zG kdC m → kdC o0 = (0, 7) → cI x2 → St_begin_L53 n o0 x2 m = some o → GoAt K m [(0, .ref (kB K + o0)), (2, mI x2)] [] 53 (9, 0, o)
  | 0, o0, x2, m, hm, ko0, cx2, h => by cases h
  | n + 1, o0, x2, m, hm, ko0, cx2, h => w_St_begin_B53 hk  (w_St_begin_L53 hk  n) hm ko0 cx2 h
set_option maxRecDepth 100000 in
set_option maxHeartbeats 4000000 in
theorem w_St_begin {K : zK} (hk : zOk K kdC cX7_begin 3 none RX7 1)  {o0 : Nat} {o1 : Nat} {m : zM} {o : zM}  (hm : zG kdC m) (ko0 : kdC o0 = (0, 7)) (ko1 : kdC o1 = (0, 10)) (h : St_begin o0 o1 m = some o) : GoAt K m [(0, .ref (kB K + o0)), (1, .ref (kB K + o1))] [] 0 (9, 0, o) := by
  unfold St_begin at h
  refine g_aload_n hk 0 rfl dX7_begin_0 ?_
  refine g_iconst hk (v := 0) rfl dX7_begin_1 ?_
  refine g_put0 hk fp_X7_36 rfl (j := 0) rfl ko0 (cIk rfl) dX7_begin_2 h hm (fun m1 hm h => ?_)
  refine g_aload_n hk 0 rfl dX7_begin_5 ?_
  refine g_iconst hk (v := 0) rfl dX7_begin_6 ?_
  refine g_put0 hk fp_X7_40 rfl (j := 1) rfl ko0 (cIk rfl) dX7_begin_7 h hm (fun m2 hm h => ?_)
  refine g_aload_n hk 0 rfl dX7_begin_10 ?_
  refine g_iconst hk (v := 0) rfl dX7_begin_11 ?_
  refine g_put0 hk fp_X7_43 rfl (j := 2) rfl ko0 (cIk rfl) dX7_begin_12 h hm (fun m3 hm h => ?_)
  refine g_aload_n hk 1 rfl dX7_begin_15 ?_
  refine g_get2 hk fl_X7_46 rfl ko1 hm (b := o1 + 10) rfl dX7_begin_16 ?_
  refine g_iconst hk (v := 0) rfl dX7_begin_19 ?_
  refine g_aload_n hk 0 rfl dX7_begin_20 ?_
  refine g_get2 hk fl_X7_9 rfl ko0 hm (b := o0 + 1) rfl dX7_begin_21 ?_
  refine g_iconst hk (v := 0) rfl dX7_begin_24 ?_
  refine g_aload_n hk 0 rfl dX7_begin_25 ?_
  refine g_get2 hk fl_X7_9 rfl ko0 hm (b := o0 + 1) rfl dX7_begin_26 ?_
  refine g_alen hk (v := 24) (kdC_s7_3 ko0) rfl dX7_begin_29 ?_
  refine g_acopy hk lk_X7_51 wnat wsta wini (kdC_s10_11 ko1) (kdC_s7_3 ko0) (cIk rfl) (cIk rfl) (cIk rfl) (Nat.le_of_ble_eq_true rfl) rfl hm dX7_begin_30 h (fun m4 hm h => ?_)
  refine g_aload_n hk 1 rfl dX7_begin_33 ?_
  refine g_get2 hk fl_X7_57 rfl ko1 hm (b := o1 + 5) rfl dX7_begin_34 ?_
  refine g_iconst hk (v := 0) rfl dX7_begin_37 ?_
  refine g_aload_n hk 0 rfl dX7_begin_38 ?_
  refine g_get2 hk fl_X7_21 rfl ko0 hm (b := o0 + 4) rfl dX7_begin_39 ?_
  refine g_iconst hk (v := 0) rfl dX7_begin_42 ?_
  refine g_aload_n hk 0 rfl dX7_begin_43 ?_
  refine g_get2 hk fl_X7_21 rfl ko0 hm (b := o0 + 4) rfl dX7_begin_44 ?_
  refine g_alen hk (v := 18) (kdC_s7_6 ko0) rfl dX7_begin_47 ?_
  refine g_acopy hk lk_X7_51 wnat wsta wini (kdC_s10_6 ko1) (kdC_s7_6 ko0) (cIk rfl) (cIk rfl) (cIk rfl) (Nat.le_of_ble_eq_true rfl) rfl hm dX7_begin_48 h (fun m5 hm h => ?_)
  refine g_iconst hk (v := 0) rfl dX7_begin_51 ?_
  refine g_istore_n hk rfl (lv' := [(2, mI 0), (0, .ref (kB K + o0)), (1, .ref (kB K + o1))]) (Nat.le_of_ble_eq_true rfl) rfl dX7_begin_52 ?_
  refine GoAt.sub [1, 0] rfl ?_
  refine w_St_begin_L53 hk  1000000 _ _ _ hm ko0 (cIk rfl) h
theorem met_St_begin (l : Launch) (D : va_G) (aC : Nat → ClassId) (B N : Nat) (hwd : ∀ id, (kdC id).1 ≠ 9 → id < N) {o0 : Nat} {o1 : Nat} {m : zM} {o : zM} (hm : zG kdC m) (ko0 : kdC o0 = (0, 7)) (ko1 : kdC o1 = (0, 10)) (h : St_begin o0 o1 m = some o) : zMet l yX7_begin cX7_begin 3 none 1 D aC B kdC N [.ref (B + o0), .ref (B + o1)] m (9, 0, o) := by
  refine zMet.of mf_X7_begin hwd hm (Nat.le_of_ble_eq_true rfl) (fun K e1 e2 e3 e4 e5 hk => ?_)
  subst e4
  exact w_St_begin hk hm ko0 ko1 h
set_option maxRecDepth 100000 in
set_option maxHeartbeats 4000000 in
theorem w_C_zoo {K : zK} (hk : zOk K kdC cX11_zoo 3 (some .int) RX11 404)  {m : zM} {o : Int × zM}  (hm : zG kdC m)  (h : C_zoo m = some o) : GoAt K m [(0, .ref (kB K + 0))] [] 0 (0, o.1, o.2) := by
  unfold C_zoo at h
  refine g_aload_n hk 0 rfl dX11_zoo_0 ?_
  refine g_get2 hk fl_X11_12 rfl kdC_0 hm (b := 1) rfl dX11_zoo_1 ?_
  refine g_aload_n hk 0 rfl dX11_zoo_4 ?_
  refine g_get3o hk fl_X11_88 rfl (j := 13) rfl kdC_0 dX11_zoo_5 h (fun zz1 kzz1 h => ?_)
  obtain ⟨r2, e3, h⟩ := zbind h
  refine g_callVi hk (st := []) mf_X5_parse lk_X11_108 mv_X5_parse kdC_1 (by decide) rfl (Nat.le_of_ble_eq_true rfl) rfl dX11_zoo_8 (met_Pa_parse _ _ _ _ _ hk.wd hm kzz1 e3) (fun hm c4 => ?_)
  refine g_istore_n hk rfl (lv' := [(1, mI r2.1), (0, .ref (kB K + 0))]) (Nat.le_of_ble_eq_true rfl) rfl dX11_zoo_11 ?_
  refine g_aload_n hk 1 rfl dX11_zoo_12 ?_
  refine g_get2 hk fl_X11_20 rfl kdC_0 hm (b := 2) rfl dX11_zoo_13 ?_
  refine g_iconst hk (v := 0) rfl dX11_zoo_16 ?_
  refine g_put0 hk fp_X11_95 rfl (j := 1) rfl kdC_2 (cIk rfl) dX11_zoo_17 h hm (fun m5 hm h => ?_)
  refine g_iload_n hk 0 rfl dX11_zoo_20 ?_
  refine g_iconst hk (v := (-1)) rfl dX11_zoo_21 ?_
  refine g_icmp_ne hk c4 (cIk rfl) dX11_zoo_22 h (fun b6 h => ?_) (fun b6 h => ?_)
  · refine g_aload_n hk 1 rfl dX11_zoo_25 ?_
    refine g_iconst hk (v := 1) rfl dX11_zoo_26 ?_
    obtain ⟨r7, e8, h⟩ := zbind h
    refine g_callVi hk (st := []) mf_X11_refuse lk_X11_100 mv_X11_refuse kdC_0 (by decide) rfl (Nat.le_of_ble_eq_true rfl) rfl dX11_zoo_27 (met_C_refuse _ _ _ _ _ hk.wd hm (cIk rfl) e8) (fun hm c9 => ?_)
    exact g_ireturn hk c9 dX11_zoo_30 (by cases h; rfl)
  · refine g_aload_n hk 1 rfl dX11_zoo_31 ?_
    refine g_get3o hk fl_X11_84 rfl (j := 12) rfl kdC_0 dX11_zoo_32 h (fun zz10 kzz10 h => ?_)
    refine g_astore_n hk rfl (lv' := [(2, .ref (kB K + zz10)), (1, mI r2.1), (0, .ref (kB K + 0))]) (Nat.le_of_ble_eq_true rfl) rfl dX11_zoo_35 ?_
    refine g_aload_n hk 2 rfl dX11_zoo_36 ?_
    refine g_aload_n hk 2 rfl dX11_zoo_37 ?_
    refine g_get3o hk fl_X11_88 rfl (j := 13) rfl kdC_0 dX11_zoo_38 h (fun zz11 kzz11 h => ?_)
    refine g_put3 hk fp_X11_84 ⟨rfl, rfl⟩ rfl (j := 12) rfl kdC_0 (id_lt kzz11) dX11_zoo_41 h hm (fun m12 hm h => ?_)
    refine g_aload_n hk 2 rfl dX11_zoo_44 ?_
    refine g_aload_n hk 0 rfl dX11_zoo_45 ?_
    refine g_put3 hk fp_X11_88 ⟨rfl, rfl⟩ rfl (j := 13) rfl kdC_0 (id_lt kzz10) dX11_zoo_46 h hm (fun m13 hm h => ?_)
    refine g_aload_n hk 2 rfl dX11_zoo_49 ?_
    refine g_get2 hk fl_X11_24 rfl kdC_0 hm (b := 8) rfl dX11_zoo_50 ?_
    refine g_aload_n hk 2 rfl dX11_zoo_53 ?_
    refine g_get3o hk fl_X11_84 rfl (j := 12) rfl kdC_0 dX11_zoo_54 h (fun zz14 kzz14 h => ?_)
    obtain ⟨r15, e16, h⟩ := zbind h
    refine g_callVv hk (st := []) mf_X7_begin lk_X11_112 mv_X7_begin kdC_8 (by decide) rfl (Nat.le_of_ble_eq_true rfl) rfl dX11_zoo_57 (met_St_begin _ _ _ _ _ hk.wd hm kdC_8 kzz14 e16) (fun hm => ?_)
    refine g_aload_n hk 2 rfl dX11_zoo_60 ?_
    refine g_get2 hk fl_X11_52 rfl kdC_0 hm (b := 40) rfl dX11_zoo_61 ?_
    refine g_iconst hk (v := 0) rfl dX11_zoo_64 ?_
    refine g_put0 hk fp_X11_116 rfl (j := 0) rfl kdC_40 (cIk rfl) dX11_zoo_65 h hm (fun m18 hm h => ?_)
    refine g_aload_n hk 2 rfl dX11_zoo_68 ?_
    refine g_iconst hk (v := 0) rfl dX11_zoo_69 ?_
    refine g_put0 hk fp_X11_119 rfl (j := 15) rfl kdC_0 (cIk rfl) dX11_zoo_70 h hm (fun m19 hm h => ?_)
    refine g_iload_n hk 1 rfl dX11_zoo_73 ?_
    exact g_ireturn hk c4 dX11_zoo_74 (by cases h; rfl)
theorem met_C_zoo (l : Launch) (D : va_G) (aC : Nat → ClassId) (B N : Nat) (hwd : ∀ id, (kdC id).1 ≠ 9 → id < N) {m : zM} {o : Int × zM} (hm : zG kdC m)  (h : C_zoo m = some o) : zMet l yX11_zoo cX11_zoo 3 (some .int) 404 D aC B kdC N [.ref (B + 0)] m (0, o.1, o.2) := by
  refine zMet.of mf_X11_zoo hwd hm (Nat.le_of_ble_eq_true rfl) (fun K e1 e2 e3 e4 e5 hk => ?_)
  subst e4
  exact w_C_zoo hk hm  h
set_option maxRecDepth 100000 in
set_option maxHeartbeats 4000000 in
theorem w_C_fault {K : zK} (hk : zOk K kdC cX11_fault 2 (some .int) RX11 0)  {x1 : Int} {m : zM} {o : Int}  (hm : zG kdC m) (cx1 : cI x1) (h : C_fault x1 m = some o) : GoAt K m [(0, .ref (kB K + 0)), (1, mI x1)] [] 0 (0, o, m) := by
  unfold C_fault at h
  refine g_iload_n hk 1 rfl dX11_fault_0 ?_
  rcases zite h with ⟨e1, h⟩ | ⟨e1, h⟩
  · refine g_lin hk cx1 dX11_fault_1 (by decide) e1 rfl (by decide) (tgt := 28) ?_
    refine g_aload_n hk 0 rfl dX11_fault_28 ?_
    refine g_get2 hk fl_X11_12 rfl kdC_0 hm (b := 1) rfl dX11_fault_29 ?_
    have g3 := zGI (i := 1) hm kdC_1 rfl
    refine g_get0 hk fl_X11_122 rfl (j := 1) rfl kdC_1 dX11_fault_32 ?_
    exact g_ireturn hk g3 dX11_fault_35 (by cases h; rfl)
  rcases zite h with ⟨e2, h⟩ | ⟨e2, h⟩
  · refine g_lin hk cx1 dX11_fault_1 (by decide) e2 rfl (by decide) (tgt := 36) ?_
    refine g_aload_n hk 0 rfl dX11_fault_36 ?_
    refine g_get2 hk fl_X11_12 rfl kdC_0 hm (b := 1) rfl dX11_fault_37 ?_
    have g4 := zGI (i := 2) hm kdC_1 rfl
    refine g_get0 hk fl_X11_125 rfl (j := 2) rfl kdC_1 dX11_fault_40 ?_
    exact g_ireturn hk g4 dX11_fault_43 (by cases h; rfl)
  refine g_ldef hk cx1 dX11_fault_1 (by decide) (zlk_none _ (fun q hq => by have hq : q ∈ [(0, 27), (1, 35)] := hq; simp only [List.mem_cons, List.not_mem_nil, or_false] at hq; rcases hq with rfl | rfl <;> (intro hq; first | exact e1 hq.symm | exact e2 hq.symm))) (by decide) (tgt := 44) ?_
  refine g_iconst hk (v := (-1)) rfl dX11_fault_44 ?_
  exact g_ireturn hk (cIk rfl) dX11_fault_45 (by cases h; rfl)
theorem met_C_fault (l : Launch) (D : va_G) (aC : Nat → ClassId) (B N : Nat) (hwd : ∀ id, (kdC id).1 ≠ 9 → id < N) {x1 : Int} {m : zM} {o : Int} (hm : zG kdC m) (cx1 : cI x1) (h : C_fault x1 m = some o) : zMet l yX11_fault cX11_fault 2 (some .int) 0 D aC B kdC N [.ref (B + 0), mI x1] m (0, o, m) := by
  refine zMet.of mf_X11_fault hwd hm (Nat.le_of_ble_eq_true rfl) (fun K e1 e2 e3 e4 e5 hk => ?_)
  subst e4
  exact w_C_fault hk hm cx1 h
set_option maxRecDepth 100000 in
set_option maxHeartbeats 4000000 in
theorem w_Zo_isThere {K : zK} (hk : zOk K kdC cX10_isThere 3 (some .boolean) RX10 0)  {o0 : Nat} {x1 : Int} {x2 : Int} {m : zM} {o : Int}  (hm : zG kdC m) (ko0 : kdC o0 = (0, 10)) (cx1 : cI x1) (cx2 : cI x2) (h : Zo_isThere o0 x1 x2 m = some o) : GoAt K m [(0, .ref (kB K + o0)), (1, mI x1), (2, mI x2)] [] 0 (4, o, m) := by
  unfold Zo_isThere at h
  refine g_aload_n hk 0 rfl dX10_isThere_0 ?_
  refine g_get2 hk fl_X10_30 rfl ko0 hm (b := o0 + 7) rfl dX10_isThere_1 ?_
  refine g_iload_n hk 1 rfl dX10_isThere_4 ?_
  refine g_iald hk cx1 (kdC_s10_8 ko0) hm dX10_isThere_5 h (fun y1 cy1 h => ?_)
  refine g_iload_n hk 2 rfl dX10_isThere_6 ?_
  refine g_icmp_gt hk cy1 cx2 dX10_isThere_7 h (fun b2 h => ?_) (fun b2 h => ?_)
  · refine g_iconst hk (v := 0) rfl dX10_isThere_24 ?_
    exact g_zreturn hk z0 dX10_isThere_25 (by cases h; rfl)
  · refine g_iload_n hk 2 rfl dX10_isThere_10 ?_
    refine g_aload_n hk 0 rfl dX10_isThere_11 ?_
    refine g_get2 hk fl_X10_33 rfl ko0 hm (b := o0 + 8) rfl dX10_isThere_12 ?_
    refine g_iload_n hk 1 rfl dX10_isThere_15 ?_
    refine g_iald hk cx1 (kdC_s10_9 ko0) hm dX10_isThere_16 h (fun y3 cy3 h => ?_)
    refine g_icmp_gt hk cx2 cy3 dX10_isThere_17 h (fun b4 h => ?_) (fun b4 h => ?_)
    · refine g_iconst hk (v := 0) rfl dX10_isThere_24 ?_
      exact g_zreturn hk z0 dX10_isThere_25 (by cases h; rfl)
    · refine g_iconst hk (v := 1) rfl dX10_isThere_20 ?_
      refine g_goto hk dX10_isThere_21 ?_
      exact g_zreturn hk z1 dX10_isThere_25 (by cases h; rfl)
theorem met_Zo_isThere (l : Launch) (D : va_G) (aC : Nat → ClassId) (B N : Nat) (hwd : ∀ id, (kdC id).1 ≠ 9 → id < N) {o0 : Nat} {x1 : Int} {x2 : Int} {m : zM} {o : Int} (hm : zG kdC m) (ko0 : kdC o0 = (0, 10)) (cx1 : cI x1) (cx2 : cI x2) (h : Zo_isThere o0 x1 x2 m = some o) : zMet l yX10_isThere cX10_isThere 3 (some .boolean) 0 D aC B kdC N [.ref (B + o0), mI x1, mI x2] m (4, o, m) := by
  refine zMet.of mf_X10_isThere hwd hm (Nat.le_of_ble_eq_true rfl) (fun K e1 e2 e3 e4 e5 hk => ?_)
  subst e4
  exact w_Zo_isThere hk hm ko0 cx1 cx2 h
set_option maxRecDepth 100000 in
set_option maxHeartbeats 4000000 in
theorem w_C_guestsThere_B4 {K : zK} (hk : zOk K kdC cX11_guestsThere 3 (some .int) RX11 1) {rec : Int → Int → Option (Int)} {x1 : Int} {x2 : Int} {m : zM} {o : Int} (hrec : ∀ (x1 : Int) (x2 : Int), cI x1 → cI x2 → rec x1 x2 = some o → GoAt K m [(0, .ref (kB K + 0)), (1, mI x1), (2, mI x2)] [] 4 (0, o, m)) (hm : zG kdC m) (cx1 : cI x1) (cx2 : cI x2) (h : C_guestsThere_B4 rec x1 x2 m = some o) : GoAt K m [(0, .ref (kB K + 0)), (1, mI x1), (2, mI x2)] [] 4 (0, o, m) := by
  unfold C_guestsThere_B4 at h
  refine g_iload_n hk 2 rfl dX11_guestsThere_4 ?_
  refine g_aload_n hk 0 rfl dX11_guestsThere_5 ?_
  refine g_get3o hk fl_X11_84 rfl (j := 12) rfl kdC_0 dX11_guestsThere_6 h (fun zz1 kzz1 h => ?_)
  have g2 := zGI (i := 1) hm kzz1 rfl
  refine g_get0 hk fl_X11_131 rfl (j := 1) rfl kzz1 dX11_guestsThere_9 ?_
  refine g_icmp_ge hk cx2 g2 dX11_guestsThere_12 h (fun b3 h => ?_) (fun b3 h => ?_)
  · refine g_aload_n hk 0 rfl dX11_guestsThere_15 ?_
    refine g_get3o hk fl_X11_84 rfl (j := 12) rfl kdC_0 dX11_guestsThere_16 h (fun zz4 kzz4 h => ?_)
    refine g_iload_n hk 2 rfl dX11_guestsThere_19 ?_
    refine g_aload_n hk 0 rfl dX11_guestsThere_20 ?_
    refine g_get2 hk fl_X11_24 rfl kdC_0 hm (b := 8) rfl dX11_guestsThere_21 ?_
    have g5 := zGI (i := 1) hm kdC_8 rfl
    refine g_get0 hk fl_X11_137 rfl (j := 1) rfl kdC_8 dX11_guestsThere_24 ?_
    obtain ⟨r6, e7, h⟩ := zbind h
    refine g_callVz hk (st := []) mf_X10_isThere lk_X11_365 mv_X10_isThere kzz4 (by decide) rfl (Nat.le_of_ble_eq_true rfl) rfl dX11_guestsThere_27 (met_Zo_isThere _ _ _ _ _ hk.wd hm kzz4 cx2 g5 e7) (fun hm c8 => ?_)
    refine g_if_eq hk (b01 c8) dX11_guestsThere_30 h (fun b9 h => ?_) (fun b9 h => ?_)
    · refine g_iinc hk (lv' := [(2, mI (wI (x2 + 1))), (0, .ref (kB K + 0)), (1, mI x1)]) 2 rfl (Nat.le_of_ble_eq_true rfl) rfl dX11_guestsThere_36 ?_
      refine g_goto hk dX11_guestsThere_39 ?_
      refine GoAt.sub [1, 2, 0] rfl ?_
      exact hrec _ _ cx1 (wI_c _) h
    · refine g_iinc hk (lv' := [(1, mI (wI (x1 + 1))), (0, .ref (kB K + 0)), (2, mI x2)]) 1 rfl (Nat.le_of_ble_eq_true rfl) rfl dX11_guestsThere_33 ?_
      refine g_iinc hk (lv' := [(2, mI (wI (x2 + 1))), (1, mI (wI (x1 + 1))), (0, .ref (kB K + 0))]) 2 rfl (Nat.le_of_ble_eq_true rfl) rfl dX11_guestsThere_36 ?_
      refine g_goto hk dX11_guestsThere_39 ?_
      refine GoAt.sub [2, 1, 0] rfl ?_
      exact hrec _ _ (wI_c _) (wI_c _) h
  · refine g_iload_n hk 1 rfl dX11_guestsThere_42 ?_
    exact g_ireturn hk cx1 dX11_guestsThere_43 (by cases h; rfl)
theorem w_C_guestsThere_L4 {K : zK} (hk : zOk K kdC cX11_guestsThere 3 (some .int) RX11 1)  {o : Int} {m : zM} (hm : zG kdC m)  : ∀ (n : Nat) (x1 : Int) (x2 : Int), cI x1 → cI x2 → C_guestsThere_L4 m n x1 x2 = some o → GoAt K m [(0, .ref (kB K + 0)), (1, mI x1), (2, mI x2)] [] 4 (0, o, m)
  | 0, x1, x2, cx1, cx2, h => by cases h
  | n + 1, x1, x2, cx1, cx2, h => w_C_guestsThere_B4 hk  (w_C_guestsThere_L4 hk hm  n) hm cx1 cx2 h
set_option maxRecDepth 100000 in
set_option maxHeartbeats 4000000 in
theorem w_C_guestsThere {K : zK} (hk : zOk K kdC cX11_guestsThere 3 (some .int) RX11 1)  {m : zM} {o : Int}  (hm : zG kdC m)  (h : C_guestsThere m = some o) : GoAt K m [(0, .ref (kB K + 0))] [] 0 (0, o, m) := by
  unfold C_guestsThere at h
  refine g_iconst hk (v := 0) rfl dX11_guestsThere_0 ?_
  refine g_istore_n hk rfl (lv' := [(1, mI 0), (0, .ref (kB K + 0))]) (Nat.le_of_ble_eq_true rfl) rfl dX11_guestsThere_1 ?_
  refine g_iconst hk (v := 0) rfl dX11_guestsThere_2 ?_
  refine g_istore_n hk rfl (lv' := [(2, mI 0), (1, mI 0), (0, .ref (kB K + 0))]) (Nat.le_of_ble_eq_true rfl) rfl dX11_guestsThere_3 ?_
  refine GoAt.sub [2, 1, 0] rfl ?_
  refine w_C_guestsThere_L4 hk hm  1000000 _ _ (cIk rfl) (cIk rfl) h
theorem met_C_guestsThere (l : Launch) (D : va_G) (aC : Nat → ClassId) (B N : Nat) (hwd : ∀ id, (kdC id).1 ≠ 9 → id < N) {m : zM} {o : Int} (hm : zG kdC m)  (h : C_guestsThere m = some o) : zMet l yX11_guestsThere cX11_guestsThere 3 (some .int) 1 D aC B kdC N [.ref (B + 0)] m (0, o, m) := by
  refine zMet.of mf_X11_guestsThere hwd hm (Nat.le_of_ble_eq_true rfl) (fun K e1 e2 e3 e4 e5 hk => ?_)
  subst e4
  exact w_C_guestsThere hk hm  h
set_option maxRecDepth 100000 in
set_option maxHeartbeats 4000000 in
theorem w_C_guestsKept_B4 {K : zK} (hk : zOk K kdC cX11_guestsKept 3 (some .int) RX11 0) {rec : Int → Int → Option (Int)} {x1 : Int} {x2 : Int} {m : zM} {o : Int} (hrec : ∀ (x1 : Int) (x2 : Int), cI x1 → cI x2 → rec x1 x2 = some o → GoAt K m [(0, .ref (kB K + 0)), (1, mI x1), (2, mI x2)] [] 4 (0, o, m)) (hm : zG kdC m) (cx1 : cI x1) (cx2 : cI x2) (h : C_guestsKept_B4 rec x1 x2 m = some o) : GoAt K m [(0, .ref (kB K + 0)), (1, mI x1), (2, mI x2)] [] 4 (0, o, m) := by
  unfold C_guestsKept_B4 at h
  refine g_iload_n hk 2 rfl dX11_guestsKept_4 ?_
  refine g_aload_n hk 0 rfl dX11_guestsKept_5 ?_
  refine g_get3o hk fl_X11_84 rfl (j := 12) rfl kdC_0 dX11_guestsKept_6 h (fun zz1 kzz1 h => ?_)
  have g2 := zGI (i := 1) hm kzz1 rfl
  refine g_get0 hk fl_X11_131 rfl (j := 1) rfl kzz1 dX11_guestsKept_9 ?_
  refine g_icmp_ge hk cx2 g2 dX11_guestsKept_12 h (fun b3 h => ?_) (fun b3 h => ?_)
  · refine g_aload_n hk 0 rfl dX11_guestsKept_15 ?_
    refine g_get2 hk fl_X11_24 rfl kdC_0 hm (b := 8) rfl dX11_guestsKept_16 ?_
    refine g_get2 hk fl_X11_207 rfl kdC_8 hm (b := 10) rfl dX11_guestsKept_19 ?_
    refine g_iload_n hk 2 rfl dX11_guestsKept_22 ?_
    refine g_iald hk cx2 kdC_10 hm dX11_guestsKept_23 h (fun y4 cy4 h => ?_)
    refine g_iconst hk (v := (-1)) rfl dX11_guestsKept_24 ?_
    refine g_icmp_eq hk cy4 (cIk rfl) dX11_guestsKept_25 h (fun b5 h => ?_) (fun b5 h => ?_)
    · refine g_iinc hk (lv' := [(2, mI (wI (x2 + 1))), (0, .ref (kB K + 0)), (1, mI x1)]) 2 rfl (Nat.le_of_ble_eq_true rfl) rfl dX11_guestsKept_31 ?_
      refine g_goto hk dX11_guestsKept_34 ?_
      refine GoAt.sub [1, 2, 0] rfl ?_
      exact hrec _ _ cx1 (wI_c _) h
    · refine g_iinc hk (lv' := [(1, mI (wI (x1 + 1))), (0, .ref (kB K + 0)), (2, mI x2)]) 1 rfl (Nat.le_of_ble_eq_true rfl) rfl dX11_guestsKept_28 ?_
      refine g_iinc hk (lv' := [(2, mI (wI (x2 + 1))), (1, mI (wI (x1 + 1))), (0, .ref (kB K + 0))]) 2 rfl (Nat.le_of_ble_eq_true rfl) rfl dX11_guestsKept_31 ?_
      refine g_goto hk dX11_guestsKept_34 ?_
      refine GoAt.sub [2, 1, 0] rfl ?_
      exact hrec _ _ (wI_c _) (wI_c _) h
  · refine g_iload_n hk 1 rfl dX11_guestsKept_37 ?_
    exact g_ireturn hk cx1 dX11_guestsKept_38 (by cases h; rfl)
theorem w_C_guestsKept_L4 {K : zK} (hk : zOk K kdC cX11_guestsKept 3 (some .int) RX11 0)  {o : Int} {m : zM} (hm : zG kdC m)  : ∀ (n : Nat) (x1 : Int) (x2 : Int), cI x1 → cI x2 → C_guestsKept_L4 m n x1 x2 = some o → GoAt K m [(0, .ref (kB K + 0)), (1, mI x1), (2, mI x2)] [] 4 (0, o, m)
  | 0, x1, x2, cx1, cx2, h => by cases h
  | n + 1, x1, x2, cx1, cx2, h => w_C_guestsKept_B4 hk  (w_C_guestsKept_L4 hk hm  n) hm cx1 cx2 h
set_option maxRecDepth 100000 in
set_option maxHeartbeats 4000000 in
theorem w_C_guestsKept {K : zK} (hk : zOk K kdC cX11_guestsKept 3 (some .int) RX11 0)  {m : zM} {o : Int}  (hm : zG kdC m)  (h : C_guestsKept m = some o) : GoAt K m [(0, .ref (kB K + 0))] [] 0 (0, o, m) := by
  unfold C_guestsKept at h
  refine g_iconst hk (v := 0) rfl dX11_guestsKept_0 ?_
  refine g_istore_n hk rfl (lv' := [(1, mI 0), (0, .ref (kB K + 0))]) (Nat.le_of_ble_eq_true rfl) rfl dX11_guestsKept_1 ?_
  refine g_iconst hk (v := 0) rfl dX11_guestsKept_2 ?_
  refine g_istore_n hk rfl (lv' := [(2, mI 0), (1, mI 0), (0, .ref (kB K + 0))]) (Nat.le_of_ble_eq_true rfl) rfl dX11_guestsKept_3 ?_
  refine GoAt.sub [2, 1, 0] rfl ?_
  refine w_C_guestsKept_L4 hk hm  1000000 _ _ (cIk rfl) (cIk rfl) h
theorem met_C_guestsKept (l : Launch) (D : va_G) (aC : Nat → ClassId) (B N : Nat) (hwd : ∀ id, (kdC id).1 ≠ 9 → id < N) {m : zM} {o : Int} (hm : zG kdC m)  (h : C_guestsKept m = some o) : zMet l yX11_guestsKept cX11_guestsKept 3 (some .int) 0 D aC B kdC N [.ref (B + 0)] m (0, o, m) := by
  refine zMet.of mf_X11_guestsKept hwd hm (Nat.le_of_ble_eq_true rfl) (fun K e1 e2 e3 e4 e5 hk => ?_)
  subst e4
  exact w_C_guestsKept hk hm  h
set_option maxRecDepth 100000 in
set_option maxHeartbeats 4000000 in
theorem w_C_has {K : zK} (hk : zOk K kdC cX11_has 2 (some .int) RX11 2)  {x1 : Int} {m : zM} {o : Int}  (hm : zG kdC m) (cx1 : cI x1) (h : C_has x1 m = some o) : GoAt K m [(0, .ref (kB K + 0)), (1, mI x1)] [] 0 (0, o, m) := by
  unfold C_has at h
  refine g_iload_n hk 1 rfl dX11_has_0 ?_
  rcases zite h with ⟨e1, h⟩ | ⟨e1, h⟩
  · refine g_tin hk cx1 dX11_has_1 e1 (by decide) (by decide) rfl (by decide) (tgt := 64) ?_
    refine g_aload_n hk 0 rfl dX11_has_64 ?_
    refine g_get3o hk fl_X11_84 rfl (j := 12) rfl kdC_0 dX11_has_65 h (fun zz13 kzz13 h => ?_)
    have g14 := zGI (i := 0) hm kzz13 rfl
    refine g_get0 hk fl_X11_128 rfl (j := 0) rfl kzz13 dX11_has_68 ?_
    exact g_ireturn hk g14 dX11_has_71 (by cases h; rfl)
  rcases zite h with ⟨e2, h⟩ | ⟨e2, h⟩
  · refine g_tin hk cx1 dX11_has_1 e2 (by decide) (by decide) rfl (by decide) (tgt := 72) ?_
    refine g_aload_n hk 0 rfl dX11_has_72 ?_
    refine g_get3o hk fl_X11_84 rfl (j := 12) rfl kdC_0 dX11_has_73 h (fun zz15 kzz15 h => ?_)
    have g16 := zGI (i := 1) hm kzz15 rfl
    refine g_get0 hk fl_X11_131 rfl (j := 1) rfl kzz15 dX11_has_76 ?_
    exact g_ireturn hk g16 dX11_has_79 (by cases h; rfl)
  rcases zite h with ⟨e3, h⟩ | ⟨e3, h⟩
  · refine g_tin hk cx1 dX11_has_1 e3 (by decide) (by decide) rfl (by decide) (tgt := 80) ?_
    refine g_aload_n hk 0 rfl dX11_has_80 ?_
    refine g_get2 hk fl_X11_24 rfl kdC_0 hm (b := 8) rfl dX11_has_81 ?_
    have g17 := zGI (i := 0) hm kdC_8 rfl
    refine g_get0 hk fl_X11_134 rfl (j := 0) rfl kdC_8 dX11_has_84 ?_
    exact g_ireturn hk g17 dX11_has_87 (by cases h; rfl)
  rcases zite h with ⟨e4, h⟩ | ⟨e4, h⟩
  · refine g_tin hk cx1 dX11_has_1 e4 (by decide) (by decide) rfl (by decide) (tgt := 88) ?_
    refine g_aload_n hk 0 rfl dX11_has_88 ?_
    refine g_get2 hk fl_X11_24 rfl kdC_0 hm (b := 8) rfl dX11_has_89 ?_
    have g18 := zGI (i := 1) hm kdC_8 rfl
    refine g_get0 hk fl_X11_137 rfl (j := 1) rfl kdC_8 dX11_has_92 ?_
    exact g_ireturn hk g18 dX11_has_95 (by cases h; rfl)
  rcases zite h with ⟨e5, h⟩ | ⟨e5, h⟩
  · refine g_tin hk cx1 dX11_has_1 e5 (by decide) (by decide) rfl (by decide) (tgt := 96) ?_
    refine g_aload_n hk 0 rfl dX11_has_96 ?_
    refine g_get3o hk fl_X11_84 rfl (j := 12) rfl kdC_0 dX11_has_97 h (fun zz19 kzz19 h => ?_)
    have g20 := zGI (i := 14) hm kzz19 rfl
    refine g_get0 hk fl_X11_140 rfl (j := 14) rfl kzz19 dX11_has_100 ?_
    exact g_ireturn hk g20 dX11_has_103 (by cases h; rfl)
  rcases zite h with ⟨e6, h⟩ | ⟨e6, h⟩
  · refine g_tin hk cx1 dX11_has_1 e6 (by decide) (by decide) rfl (by decide) (tgt := 104) ?_
    refine g_aload_n hk 0 rfl dX11_has_104 ?_
    refine g_get2 hk fl_X11_24 rfl kdC_0 hm (b := 8) rfl dX11_has_105 ?_
    have g21 := zGI (i := 2) hm kdC_8 rfl
    refine g_get0 hk fl_X11_143 rfl (j := 2) rfl kdC_8 dX11_has_108 ?_
    exact g_ireturn hk g21 dX11_has_111 (by cases h; rfl)
  rcases zite h with ⟨e7, h⟩ | ⟨e7, h⟩
  · refine g_tin hk cx1 dX11_has_1 e7 (by decide) (by decide) rfl (by decide) (tgt := 112) ?_
    refine g_aload_n hk 0 rfl dX11_has_112 ?_
    obtain ⟨r22, e23, h⟩ := zbind h
    refine g_callVi hk (st := []) mf_X11_guestsThere lk_X11_146 mv_X11_guestsThere kdC_0 (by decide) rfl (Nat.le_of_ble_eq_true rfl) rfl dX11_has_113 (met_C_guestsThere _ _ _ _ _ hk.wd hm e23) (fun hm c24 => ?_)
    exact g_ireturn hk c24 dX11_has_116 (by cases h; rfl)
  rcases zite h with ⟨e8, h⟩ | ⟨e8, h⟩
  · refine g_tin hk cx1 dX11_has_1 e8 (by decide) (by decide) rfl (by decide) (tgt := 117) ?_
    refine g_aload_n hk 0 rfl dX11_has_117 ?_
    obtain ⟨r25, e26, h⟩ := zbind h
    refine g_callVi hk (st := []) mf_X11_guestsKept lk_X11_150 mv_X11_guestsKept kdC_0 (by decide) rfl (Nat.le_of_ble_eq_true rfl) rfl dX11_has_118 (met_C_guestsKept _ _ _ _ _ hk.wd hm e26) (fun hm c27 => ?_)
    exact g_ireturn hk c27 dX11_has_121 (by cases h; rfl)
  rcases zite h with ⟨e9, h⟩ | ⟨e9, h⟩
  · refine g_tin hk cx1 dX11_has_1 e9 (by decide) (by decide) rfl (by decide) (tgt := 122) ?_
    refine g_aload_n hk 0 rfl dX11_has_122 ?_
    refine g_get2 hk fl_X11_24 rfl kdC_0 hm (b := 8) rfl dX11_has_123 ?_
    have g28 := zGI (i := 11) hm kdC_8 rfl
    refine g_get0 hk fl_X11_153 rfl (j := 11) rfl kdC_8 dX11_has_126 ?_
    exact g_ireturn hk g28 dX11_has_129 (by cases h; rfl)
  rcases zite h with ⟨e10, h⟩ | ⟨e10, h⟩
  · refine g_tin hk cx1 dX11_has_1 e10 (by decide) (by decide) rfl (by decide) (tgt := 130) ?_
    refine g_aload_n hk 0 rfl dX11_has_130 ?_
    have g29 := zGI (i := 15) hm kdC_0 rfl
    refine g_get0 hk fl_X11_119 rfl (j := 15) rfl kdC_0 dX11_has_131 ?_
    exact g_ireturn hk g29 dX11_has_134 (by cases h; rfl)
  rcases zite h with ⟨e11, h⟩ | ⟨e11, h⟩
  · refine g_tin hk cx1 dX11_has_1 e11 (by decide) (by decide) rfl (by decide) (tgt := 135) ?_
    refine g_aload_n hk 0 rfl dX11_has_135 ?_
    have g30 := zGI (i := 16) hm kdC_0 rfl
    refine g_get0 hk fl_X11_91 rfl (j := 16) rfl kdC_0 dX11_has_136 ?_
    exact g_ireturn hk g30 dX11_has_139 (by cases h; rfl)
  rcases zite h with ⟨e12, h⟩ | ⟨e12, h⟩
  · refine g_tin hk cx1 dX11_has_1 e12 (by decide) (by decide) rfl (by decide) (tgt := 140) ?_
    refine g_aload_n hk 0 rfl dX11_has_140 ?_
    refine g_get2 hk fl_X11_52 rfl kdC_0 hm (b := 40) rfl dX11_has_141 ?_
    have g31 := zGI (i := 0) hm kdC_40 rfl
    refine g_get0 hk fl_X11_116 rfl (j := 0) rfl kdC_40 dX11_has_144 ?_
    exact g_ireturn hk g31 dX11_has_147 (by cases h; rfl)
  refine g_tout hk cx1 dX11_has_1 (by omega) (by decide) (tgt := 148) ?_
  refine g_iconst hk (v := (-1)) rfl dX11_has_148 ?_
  exact g_ireturn hk (cIk rfl) dX11_has_149 (by cases h; rfl)
theorem met_C_has (l : Launch) (D : va_G) (aC : Nat → ClassId) (B N : Nat) (hwd : ∀ id, (kdC id).1 ≠ 9 → id < N) {x1 : Int} {m : zM} {o : Int} (hm : zG kdC m) (cx1 : cI x1) (h : C_has x1 m = some o) : zMet l yX11_has cX11_has 2 (some .int) 2 D aC B kdC N [.ref (B + 0), mI x1] m (0, o, m) := by
  refine zMet.of mf_X11_has hwd hm (Nat.le_of_ble_eq_true rfl) (fun K e1 e2 e3 e4 e5 hk => ?_)
  subst e4
  exact w_C_has hk hm cx1 h
set_option maxRecDepth 100000 in
set_option maxHeartbeats 4000000 in
theorem w_Zo_isBeast {K : zK} (hk : zOk K kdC cX10_isBeast 2 (some .boolean) RX10 0)  {o0 : Nat} {x1 : Int} {m : zM} {o : Int}  (hm : zG kdC m) (ko0 : kdC o0 = (0, 10)) (cx1 : cI x1) (h : Zo_isBeast o0 x1 m = some o) : GoAt K m [(0, .ref (kB K + o0)), (1, mI x1)] [] 0 (4, o, m) := by
  unfold Zo_isBeast at h
  refine g_iload_n hk 1 rfl dX10_isBeast_0 ?_
  refine g_if_lt hk cx1 dX10_isBeast_1 h (fun b1 h => ?_) (fun b1 h => ?_)
  · refine g_iconst hk (v := 0) rfl dX10_isBeast_16 ?_
    exact g_zreturn hk z0 dX10_isBeast_17 (by cases h; rfl)
  · refine g_iload_n hk 1 rfl dX10_isBeast_4 ?_
    refine g_aload_n hk 0 rfl dX10_isBeast_5 ?_
    have g2 := zGI (i := 0) hm ko0 rfl
    refine g_get0 hk fl_X10_65 rfl (j := 0) rfl ko0 dX10_isBeast_6 ?_
    refine g_icmp_ge hk cx1 g2 dX10_isBeast_9 h (fun b3 h => ?_) (fun b3 h => ?_)
    · refine g_iconst hk (v := 1) rfl dX10_isBeast_12 ?_
      refine g_goto hk dX10_isBeast_13 ?_
      exact g_zreturn hk z1 dX10_isBeast_17 (by cases h; rfl)
    · refine g_iconst hk (v := 0) rfl dX10_isBeast_16 ?_
      exact g_zreturn hk z0 dX10_isBeast_17 (by cases h; rfl)
theorem met_Zo_isBeast (l : Launch) (D : va_G) (aC : Nat → ClassId) (B N : Nat) (hwd : ∀ id, (kdC id).1 ≠ 9 → id < N) {o0 : Nat} {x1 : Int} {m : zM} {o : Int} (hm : zG kdC m) (ko0 : kdC o0 = (0, 10)) (cx1 : cI x1) (h : Zo_isBeast o0 x1 m = some o) : zMet l yX10_isBeast cX10_isBeast 2 (some .boolean) 0 D aC B kdC N [.ref (B + o0), mI x1] m (4, o, m) := by
  refine zMet.of mf_X10_isBeast hwd hm (Nat.le_of_ble_eq_true rfl) (fun K e1 e2 e3 e4 e5 hk => ?_)
  subst e4
  exact w_Zo_isBeast hk hm ko0 cx1 h
set_option maxRecDepth 100000 in
set_option maxHeartbeats 4000000 in
theorem w_Ta_letterOf_B6 {K : zK} (hk : zOk K kdC cX8_letterOf 4 (some .int) RX8 0) {rec : Int → Int → Option (Int)} {x2 : Int} {x3 : Int} {m : zM} {o : Int} (hrec : ∀ (x2 : Int) (x3 : Int), cI x2 → cI x3 → rec x2 x3 = some o → GoAt K m [(2, mI x2), (3, mI x3)] [] 6 (0, o, m)) (hm : zG kdC m) (cx2 : cI x2) (cx3 : cI x3) (h : Ta_letterOf_B6 rec x2 x3 = some o) : GoAt K m [(2, mI x2), (3, mI x3)] [] 6 (0, o, m) := by
  unfold Ta_letterOf_B6 at h
  refine g_iload_n hk 1 rfl dX8_letterOf_6 ?_
  refine g_bipush hk (v := 6) rfl dX8_letterOf_7 ?_
  refine g_icmp_ge hk cx3 (cIk rfl) dX8_letterOf_9 h (fun b1 h => ?_) (fun b1 h => ?_)
  · refine g_iload_n hk 0 rfl dX8_letterOf_12 ?_
    refine g_bipush hk (v := 27) rfl dX8_letterOf_13 ?_
    refine g_idiv hk (cIk rfl) (by decide) dX8_letterOf_15 ?_
    refine g_istore_n hk rfl (lv' := [(2, mI (dvI x2 27)), (3, mI x3)]) (Nat.le_of_ble_eq_true rfl) rfl dX8_letterOf_16 ?_
    refine g_iinc hk (lv' := [(3, mI (wI (x3 + 1))), (2, mI (dvI x2 27))]) 1 rfl (Nat.le_of_ble_eq_true rfl) rfl dX8_letterOf_17 ?_
    refine g_goto hk dX8_letterOf_20 ?_
    refine GoAt.sub [1, 0] rfl ?_
    exact hrec _ _ (cI_t _) (wI_c _) h
  · refine g_iload_n hk 0 rfl dX8_letterOf_23 ?_
    refine g_bipush hk (v := 27) rfl dX8_letterOf_24 ?_
    refine g_irem hk (cIk rfl) (by decide) dX8_letterOf_26 ?_
    exact g_ireturn hk (cI_t _) dX8_letterOf_27 (by cases h; rfl)
theorem w_Ta_letterOf_L6 {K : zK} (hk : zOk K kdC cX8_letterOf 4 (some .int) RX8 0)  {o : Int} {m : zM} (hm : zG kdC m)  : ∀ (n : Nat) (x2 : Int) (x3 : Int), cI x2 → cI x3 → Ta_letterOf_L6 n x2 x3 = some o → GoAt K m [(2, mI x2), (3, mI x3)] [] 6 (0, o, m)
  | 0, x2, x3, cx2, cx3, h => by cases h
  | n + 1, x2, x3, cx2, cx3, h => w_Ta_letterOf_B6 hk  (w_Ta_letterOf_L6 hk hm  n) hm cx2 cx3 h
set_option maxRecDepth 100000 in
set_option maxHeartbeats 4000000 in
theorem w_Ta_letterOf {K : zK} (hk : zOk K kdC cX8_letterOf 4 (some .int) RX8 0)  {x0 : Int} {x1 : Int} {m : zM} {o : Int}  (hm : zG kdC m) (cx0 : cI x0) (cx1 : cI x1) (h : Ta_letterOf x0 x1 = some o) : GoAt K m [(0, mI x0), (1, mI x1)] [] 0 (0, o, m) := by
  unfold Ta_letterOf at h
  refine g_iload_n hk 0 rfl dX8_letterOf_0 ?_
  refine g_istore_n hk rfl (lv' := [(2, mI x0), (0, mI x0), (1, mI x1)]) (Nat.le_of_ble_eq_true rfl) rfl dX8_letterOf_1 ?_
  refine g_iload_n hk 2 rfl dX8_letterOf_2 ?_
  refine g_iconst hk (v := 1) rfl dX8_letterOf_3 ?_
  refine g_iadd hk dX8_letterOf_4 ?_
  refine g_let (wI_c _) h (fun v1 cv1 h => ?_)
  refine g_istore_n hk rfl (lv' := [(3, mI v1), (2, mI x0), (0, mI x0), (1, mI x1)]) (Nat.le_of_ble_eq_true rfl) rfl dX8_letterOf_5 ?_
  refine GoAt.sub [1, 0] rfl ?_
  refine w_Ta_letterOf_L6 hk hm  1000000 _ _ cx0 cv1 h
theorem met_Ta_letterOf (l : Launch) (D : va_G) (aC : Nat → ClassId) (B N : Nat) (hwd : ∀ id, (kdC id).1 ≠ 9 → id < N) {x0 : Int} {x1 : Int} {m : zM} {o : Int} (hm : zG kdC m) (cx0 : cI x0) (cx1 : cI x1) (h : Ta_letterOf x0 x1 = some o) : zMet l yX8_letterOf cX8_letterOf 4 (some .int) 0 D aC B kdC N [mI x0, mI x1] m (0, o, m) := by
  refine zMet.of mf_X8_letterOf hwd hm (Nat.le_of_ble_eq_true rfl) (fun K e1 e2 e3 e4 e5 hk => ?_)
  subst e4
  exact w_Ta_letterOf hk hm cx0 cx1 h
set_option maxRecDepth 100000 in
set_option maxHeartbeats 4000000 in
theorem w_Zo_isGuest {K : zK} (hk : zOk K kdC cX10_isGuest 2 (some .boolean) RX10 0)  {o0 : Nat} {x1 : Int} {m : zM} {o : Int}  (hm : zG kdC m) (ko0 : kdC o0 = (0, 10)) (cx1 : cI x1) (h : Zo_isGuest o0 x1 m = some o) : GoAt K m [(0, .ref (kB K + o0)), (1, mI x1)] [] 0 (4, o, m) := by
  unfold Zo_isGuest at h
  refine g_iload_n hk 1 rfl dX10_isGuest_0 ?_
  refine g_if_lt hk cx1 dX10_isGuest_1 h (fun b1 h => ?_) (fun b1 h => ?_)
  · refine g_iconst hk (v := 0) rfl dX10_isGuest_16 ?_
    exact g_zreturn hk z0 dX10_isGuest_17 (by cases h; rfl)
  · refine g_iload_n hk 1 rfl dX10_isGuest_4 ?_
    refine g_aload_n hk 0 rfl dX10_isGuest_5 ?_
    have g2 := zGI (i := 1) hm ko0 rfl
    refine g_get0 hk fl_X10_68 rfl (j := 1) rfl ko0 dX10_isGuest_6 ?_
    refine g_icmp_ge hk cx1 g2 dX10_isGuest_9 h (fun b3 h => ?_) (fun b3 h => ?_)
    · refine g_iconst hk (v := 1) rfl dX10_isGuest_12 ?_
      refine g_goto hk dX10_isGuest_13 ?_
      exact g_zreturn hk z1 dX10_isGuest_17 (by cases h; rfl)
    · refine g_iconst hk (v := 0) rfl dX10_isGuest_16 ?_
      exact g_zreturn hk z0 dX10_isGuest_17 (by cases h; rfl)
theorem met_Zo_isGuest (l : Launch) (D : va_G) (aC : Nat → ClassId) (B N : Nat) (hwd : ∀ id, (kdC id).1 ≠ 9 → id < N) {o0 : Nat} {x1 : Int} {m : zM} {o : Int} (hm : zG kdC m) (ko0 : kdC o0 = (0, 10)) (cx1 : cI x1) (h : Zo_isGuest o0 x1 m = some o) : zMet l yX10_isGuest cX10_isGuest 2 (some .boolean) 0 D aC B kdC N [.ref (B + o0), mI x1] m (4, o, m) := by
  refine zMet.of mf_X10_isGuest hwd hm (Nat.le_of_ble_eq_true rfl) (fun K e1 e2 e3 e4 e5 hk => ?_)
  subst e4
  exact w_Zo_isGuest hk hm ko0 cx1 h
set_option maxRecDepth 100000 in
set_option maxHeartbeats 4000000 in
theorem w_C_letter_b41 {K : zK} (hk : zOk K kdC cX11_letter 4 (some .int) RX11 1)  {x1 : Int} {x2 : Int} {x3 : Int} {m : zM} {o : Int}  (hm : zG kdC m) (cx1 : cI x1) (cx2 : cI x2) (cx3 : cI x3) (h : C_letter_b41 x1 x2 x3 m = some o) : GoAt K m [(0, .ref (kB K + 0)), (1, mI x1), (2, mI x2), (3, mI x3)] [] 41 (0, o, m) := by
  unfold C_letter_b41 at h
  refine g_iload_n hk 1 rfl dX11_letter_41 ?_
  refine g_iconst hk (v := 1) rfl dX11_letter_42 ?_
  refine g_icmp_ne hk cx1 (cIk rfl) dX11_letter_43 h (fun b1 h => ?_) (fun b1 h => ?_)
  · refine g_aload_n hk 0 rfl dX11_letter_46 ?_
    refine g_get3o hk fl_X11_84 rfl (j := 12) rfl kdC_0 dX11_letter_47 h (fun zz2 kzz2 h => ?_)
    refine g_iload_n hk 2 rfl dX11_letter_50 ?_
    obtain ⟨r3, e4, h⟩ := zbind h
    refine g_callVz hk (st := []) mf_X10_isGuest lk_X11_167 mv_X10_isGuest kzz2 (by decide) rfl (Nat.le_of_ble_eq_true rfl) rfl dX11_letter_51 (met_Zo_isGuest _ _ _ _ _ hk.wd hm kzz2 cx2 e4) (fun hm c5 => ?_)
    refine g_if_eq hk (b01 c5) dX11_letter_54 h (fun b6 h => ?_) (fun b6 h => ?_)
    · refine g_iconst hk (v := (-1)) rfl dX11_letter_71 ?_
      exact g_ireturn hk (cIk rfl) dX11_letter_72 (by cases h; rfl)
    · refine g_aload_n hk 0 rfl dX11_letter_57 ?_
      refine g_get3o hk fl_X11_84 rfl (j := 12) rfl kdC_0 dX11_letter_58 h (fun zz7 kzz7 h => ?_)
      refine g_get2 hk fl_X11_170 rfl kzz7 hm (b := zz7 + 6) rfl dX11_letter_61 ?_
      refine g_iload_n hk 2 rfl dX11_letter_64 ?_
      refine g_iald hk cx2 (kdC_s10_7 kzz7) hm dX11_letter_65 h (fun y8 cy8 h => ?_)
      refine g_iload_n hk 3 rfl dX11_letter_66 ?_
      obtain ⟨r9, e10, h⟩ := zbind h
      refine g_callSi hk (st := []) mf_X8_letterOf lk_X11_163 ms_X8_letterOf (by decide) rfl (Nat.le_of_ble_eq_true rfl) rfl dX11_letter_67 (met_Ta_letterOf _ _ _ _ _ hk.wd hm cy8 cx3 e10) (fun hm c11 => ?_)
      exact g_ireturn hk c11 dX11_letter_70 (by cases h; rfl)
  · refine g_iconst hk (v := (-1)) rfl dX11_letter_71 ?_
    exact g_ireturn hk (cIk rfl) dX11_letter_72 (by cases h; rfl)
set_option maxRecDepth 100000 in
set_option maxHeartbeats 4000000 in
theorem w_C_letter {K : zK} (hk : zOk K kdC cX11_letter 4 (some .int) RX11 1)  {x1 : Int} {x2 : Int} {x3 : Int} {m : zM} {o : Int}  (hm : zG kdC m) (cx1 : cI x1) (cx2 : cI x2) (cx3 : cI x3) (h : C_letter x1 x2 x3 m = some o) : GoAt K m [(0, .ref (kB K + 0)), (1, mI x1), (2, mI x2), (3, mI x3)] [] 0 (0, o, m) := by
  unfold C_letter at h
  refine g_iload_n hk 3 rfl dX11_letter_0 ?_
  refine g_if_lt hk cx3 dX11_letter_1 h (fun b1 h => ?_) (fun b1 h => ?_)
  · refine g_iconst hk (v := (-1)) rfl dX11_letter_10 ?_
    exact g_ireturn hk (cIk rfl) dX11_letter_11 (by cases h; rfl)
  · refine g_iload_n hk 3 rfl dX11_letter_4 ?_
    refine g_bipush hk (v := 6) rfl dX11_letter_5 ?_
    refine g_icmp_lt hk cx3 (cIk rfl) dX11_letter_7 h (fun b2 h => ?_) (fun b2 h => ?_)
    · refine g_iload_n hk 1 rfl dX11_letter_12 ?_
      refine g_if_ne hk cx1 dX11_letter_13 h (fun b3 h => ?_) (fun b3 h => ?_)
      · refine g_aload_n hk 0 rfl dX11_letter_16 ?_
        refine g_get3o hk fl_X11_84 rfl (j := 12) rfl kdC_0 dX11_letter_17 h (fun zz4 kzz4 h => ?_)
        refine g_iload_n hk 2 rfl dX11_letter_20 ?_
        obtain ⟨r5, e6, h⟩ := zbind h
        refine g_callVz hk (st := []) mf_X10_isBeast lk_X11_156 mv_X10_isBeast kzz4 (by decide) rfl (Nat.le_of_ble_eq_true rfl) rfl dX11_letter_21 (met_Zo_isBeast _ _ _ _ _ hk.wd hm kzz4 cx2 e6) (fun hm c7 => ?_)
        refine g_if_eq hk (b01 c7) dX11_letter_24 h (fun b8 h => ?_) (fun b8 h => ?_)
        · exact w_C_letter_b41 hk hm cx1 cx2 cx3 h
        · refine g_aload_n hk 0 rfl dX11_letter_27 ?_
          refine g_get3o hk fl_X11_84 rfl (j := 12) rfl kdC_0 dX11_letter_28 h (fun zz9 kzz9 h => ?_)
          refine g_get2 hk fl_X11_160 rfl kzz9 hm (b := zz9 + 1) rfl dX11_letter_31 ?_
          refine g_iload_n hk 2 rfl dX11_letter_34 ?_
          refine g_iald hk cx2 (kdC_s10_2 kzz9) hm dX11_letter_35 h (fun y10 cy10 h => ?_)
          refine g_iload_n hk 3 rfl dX11_letter_36 ?_
          obtain ⟨r11, e12, h⟩ := zbind h
          refine g_callSi hk (st := []) mf_X8_letterOf lk_X11_163 ms_X8_letterOf (by decide) rfl (Nat.le_of_ble_eq_true rfl) rfl dX11_letter_37 (met_Ta_letterOf _ _ _ _ _ hk.wd hm cy10 cx3 e12) (fun hm c13 => ?_)
          exact g_ireturn hk c13 dX11_letter_40 (by cases h; rfl)
      · exact w_C_letter_b41 hk hm cx1 cx2 cx3 h
    · refine g_iconst hk (v := (-1)) rfl dX11_letter_10 ?_
      exact g_ireturn hk (cIk rfl) dX11_letter_11 (by cases h; rfl)
theorem met_C_letter (l : Launch) (D : va_G) (aC : Nat → ClassId) (B N : Nat) (hwd : ∀ id, (kdC id).1 ≠ 9 → id < N) {x1 : Int} {x2 : Int} {x3 : Int} {m : zM} {o : Int} (hm : zG kdC m) (cx1 : cI x1) (cx2 : cI x2) (cx3 : cI x3) (h : C_letter x1 x2 x3 m = some o) : zMet l yX11_letter cX11_letter 4 (some .int) 1 D aC B kdC N [.ref (B + 0), mI x1, mI x2, mI x3] m (0, o, m) := by
  refine zMet.of mf_X11_letter hwd hm (Nat.le_of_ble_eq_true rfl) (fun K e1 e2 e3 e4 e5 hk => ?_)
  subst e4
  exact w_C_letter hk hm cx1 cx2 cx3 h
set_option maxRecDepth 100000 in
set_option maxHeartbeats 4000000 in
theorem w_Zo_isAwake {K : zK} (hk : zOk K kdC cX10_isAwake 3 (some .boolean) RX10 0)  {o0 : Nat} {x1 : Int} {x2 : Int} {m : zM} {o : Int}  (hm : zG kdC m) (ko0 : kdC o0 = (0, 10)) (cx1 : cI x1) (cx2 : cI x2) (h : Zo_isAwake o0 x1 x2 m = some o) : GoAt K m [(0, .ref (kB K + o0)), (1, mI x1), (2, mI x2)] [] 0 (4, o, m) := by
  unfold Zo_isAwake at h
  refine g_aload_n hk 0 rfl dX10_isAwake_0 ?_
  refine g_get2 hk fl_X10_15 rfl ko0 hm (b := o0 + 2) rfl dX10_isAwake_1 ?_
  refine g_iload_n hk 1 rfl dX10_isAwake_4 ?_
  refine g_iald hk cx1 (kdC_s10_3 ko0) hm dX10_isAwake_5 h (fun y1 cy1 h => ?_)
  refine g_iload_n hk 2 rfl dX10_isAwake_6 ?_
  refine g_icmp_gt hk cy1 cx2 dX10_isAwake_7 h (fun b2 h => ?_) (fun b2 h => ?_)
  · refine g_iconst hk (v := 0) rfl dX10_isAwake_24 ?_
    exact g_zreturn hk z0 dX10_isAwake_25 (by cases h; rfl)
  · refine g_iload_n hk 2 rfl dX10_isAwake_10 ?_
    refine g_aload_n hk 0 rfl dX10_isAwake_11 ?_
    refine g_get2 hk fl_X10_18 rfl ko0 hm (b := o0 + 3) rfl dX10_isAwake_12 ?_
    refine g_iload_n hk 1 rfl dX10_isAwake_15 ?_
    refine g_iald hk cx1 (kdC_s10_4 ko0) hm dX10_isAwake_16 h (fun y3 cy3 h => ?_)
    refine g_icmp_gt hk cx2 cy3 dX10_isAwake_17 h (fun b4 h => ?_) (fun b4 h => ?_)
    · refine g_iconst hk (v := 0) rfl dX10_isAwake_24 ?_
      exact g_zreturn hk z0 dX10_isAwake_25 (by cases h; rfl)
    · refine g_iconst hk (v := 1) rfl dX10_isAwake_20 ?_
      refine g_goto hk dX10_isAwake_21 ?_
      exact g_zreturn hk z1 dX10_isAwake_25 (by cases h; rfl)
theorem met_Zo_isAwake (l : Launch) (D : va_G) (aC : Nat → ClassId) (B N : Nat) (hwd : ∀ id, (kdC id).1 ≠ 9 → id < N) {o0 : Nat} {x1 : Int} {x2 : Int} {m : zM} {o : Int} (hm : zG kdC m) (ko0 : kdC o0 = (0, 10)) (cx1 : cI x1) (cx2 : cI x2) (h : Zo_isAwake o0 x1 x2 m = some o) : zMet l yX10_isAwake cX10_isAwake 3 (some .boolean) 0 D aC B kdC N [.ref (B + o0), mI x1, mI x2] m (4, o, m) := by
  refine zMet.of mf_X10_isAwake hwd hm (Nat.le_of_ble_eq_true rfl) (fun K e1 e2 e3 e4 e5 hk => ?_)
  subst e4
  exact w_Zo_isAwake hk hm ko0 cx1 cx2 h
set_option maxRecDepth 100000 in
set_option maxHeartbeats 4000000 in
theorem w_C_firstKeptBy_B2 {K : zK} (hk : zOk K kdC cX11_firstKeptBy 3 (some .int) RX11 0) {rec : Int → Int → Option (Int)} {x1 : Int} {x2 : Int} {m : zM} {o : Int} (hrec : ∀ (x1 : Int) (x2 : Int), cI x1 → cI x2 → rec x1 x2 = some o → GoAt K m [(0, .ref (kB K + 0)), (1, mI x1), (2, mI x2)] [] 2 (0, o, m)) (hm : zG kdC m) (cx1 : cI x1) (cx2 : cI x2) (h : C_firstKeptBy_B2 rec x1 x2 m = some o) : GoAt K m [(0, .ref (kB K + 0)), (1, mI x1), (2, mI x2)] [] 2 (0, o, m) := by
  unfold C_firstKeptBy_B2 at h
  refine g_iload_n hk 2 rfl dX11_firstKeptBy_2 ?_
  refine g_aload_n hk 0 rfl dX11_firstKeptBy_3 ?_
  refine g_get3o hk fl_X11_84 rfl (j := 12) rfl kdC_0 dX11_firstKeptBy_4 h (fun zz1 kzz1 h => ?_)
  have g2 := zGI (i := 1) hm kzz1 rfl
  refine g_get0 hk fl_X11_131 rfl (j := 1) rfl kzz1 dX11_firstKeptBy_7 ?_
  refine g_icmp_ge hk cx2 g2 dX11_firstKeptBy_10 h (fun b3 h => ?_) (fun b3 h => ?_)
  · refine g_aload_n hk 0 rfl dX11_firstKeptBy_13 ?_
    refine g_get2 hk fl_X11_24 rfl kdC_0 hm (b := 8) rfl dX11_firstKeptBy_14 ?_
    refine g_get2 hk fl_X11_207 rfl kdC_8 hm (b := 10) rfl dX11_firstKeptBy_17 ?_
    refine g_iload_n hk 2 rfl dX11_firstKeptBy_20 ?_
    refine g_iald hk cx2 kdC_10 hm dX11_firstKeptBy_21 h (fun y4 cy4 h => ?_)
    refine g_iload_n hk 1 rfl dX11_firstKeptBy_22 ?_
    refine g_icmp_ne hk cy4 cx1 dX11_firstKeptBy_23 h (fun b5 h => ?_) (fun b5 h => ?_)
    · refine g_iload_n hk 2 rfl dX11_firstKeptBy_26 ?_
      exact g_ireturn hk cx2 dX11_firstKeptBy_27 (by cases h; rfl)
    · refine g_iinc hk (lv' := [(2, mI (wI (x2 + 1))), (0, .ref (kB K + 0)), (1, mI x1)]) 2 rfl (Nat.le_of_ble_eq_true rfl) rfl dX11_firstKeptBy_28 ?_
      refine g_goto hk dX11_firstKeptBy_31 ?_
      refine GoAt.sub [1, 2, 0] rfl ?_
      exact hrec _ _ cx1 (wI_c _) h
  · refine g_iconst hk (v := (-1)) rfl dX11_firstKeptBy_34 ?_
    exact g_ireturn hk (cIk rfl) dX11_firstKeptBy_35 (by cases h; rfl)
theorem w_C_firstKeptBy_L2 {K : zK} (hk : zOk K kdC cX11_firstKeptBy 3 (some .int) RX11 0)  {o : Int} {m : zM} (hm : zG kdC m)  : ∀ (n : Nat) (x1 : Int) (x2 : Int), cI x1 → cI x2 → C_firstKeptBy_L2 m n x1 x2 = some o → GoAt K m [(0, .ref (kB K + 0)), (1, mI x1), (2, mI x2)] [] 2 (0, o, m)
  | 0, x1, x2, cx1, cx2, h => by cases h
  | n + 1, x1, x2, cx1, cx2, h => w_C_firstKeptBy_B2 hk  (w_C_firstKeptBy_L2 hk hm  n) hm cx1 cx2 h
set_option maxRecDepth 100000 in
set_option maxHeartbeats 4000000 in
theorem w_C_firstKeptBy {K : zK} (hk : zOk K kdC cX11_firstKeptBy 3 (some .int) RX11 0)  {x1 : Int} {m : zM} {o : Int}  (hm : zG kdC m) (cx1 : cI x1) (h : C_firstKeptBy x1 m = some o) : GoAt K m [(0, .ref (kB K + 0)), (1, mI x1)] [] 0 (0, o, m) := by
  unfold C_firstKeptBy at h
  refine g_iconst hk (v := 0) rfl dX11_firstKeptBy_0 ?_
  refine g_istore_n hk rfl (lv' := [(2, mI 0), (0, .ref (kB K + 0)), (1, mI x1)]) (Nat.le_of_ble_eq_true rfl) rfl dX11_firstKeptBy_1 ?_
  refine GoAt.sub [1, 2, 0] rfl ?_
  refine w_C_firstKeptBy_L2 hk hm  1000000 _ _ cx1 (cIk rfl) h
theorem met_C_firstKeptBy (l : Launch) (D : va_G) (aC : Nat → ClassId) (B N : Nat) (hwd : ∀ id, (kdC id).1 ≠ 9 → id < N) {x1 : Int} {m : zM} {o : Int} (hm : zG kdC m) (cx1 : cI x1) (h : C_firstKeptBy x1 m = some o) : zMet l yX11_firstKeptBy cX11_firstKeptBy 3 (some .int) 0 D aC B kdC N [.ref (B + 0), mI x1] m (0, o, m) := by
  refine zMet.of mf_X11_firstKeptBy hwd hm (Nat.le_of_ble_eq_true rfl) (fun K e1 e2 e3 e4 e5 hk => ?_)
  subst e4
  exact w_C_firstKeptBy hk hm cx1 h
set_option maxRecDepth 100000 in
set_option maxHeartbeats 4000000 in
theorem w_C_beast_b90 {K : zK} (hk : zOk K kdC cX11_beast 3 (some .int) RX11 1)  {x1 : Int} {x2 : Int} {m : zM} {o : Int}  (hm : zG kdC m) (cx1 : cI x1) (cx2 : cI x2) (h : C_beast_b90 x1 x2 m = some o) : GoAt K m [(0, .ref (kB K + 0)), (1, mI x1), (2, mI x2)] [] 90 (0, o, m) := by
  unfold C_beast_b90 at h
  refine g_aload_n hk 0 rfl dX11_beast_90 ?_
  refine g_get2 hk fl_X11_24 rfl kdC_0 hm (b := 8) rfl dX11_beast_91 ?_
  refine g_get2 hk fl_X11_182 rfl kdC_8 hm (b := 12) rfl dX11_beast_94 ?_
  refine g_iload_n hk 1 rfl dX11_beast_97 ?_
  refine g_iconst hk (v := 3) rfl dX11_beast_98 ?_
  refine g_imul hk dX11_beast_99 ?_
  refine g_iload_n hk 2 rfl dX11_beast_100 ?_
  refine g_iadd hk dX11_beast_101 ?_
  refine g_iconst hk (v := 3) rfl dX11_beast_102 ?_
  refine g_isub hk dX11_beast_103 ?_
  refine g_iald hk (wI_c _) kdC_12 hm dX11_beast_104 h (fun y1 cy1 h => ?_)
  exact g_ireturn hk cy1 dX11_beast_105 (by cases h; rfl)
set_option maxRecDepth 100000 in
set_option maxHeartbeats 4000000 in
theorem w_C_beast {K : zK} (hk : zOk K kdC cX11_beast 3 (some .int) RX11 1)  {x1 : Int} {x2 : Int} {m : zM} {o : Int}  (hm : zG kdC m) (cx1 : cI x1) (cx2 : cI x2) (h : C_beast x1 x2 m = some o) : GoAt K m [(0, .ref (kB K + 0)), (1, mI x1), (2, mI x2)] [] 0 (0, o, m) := by
  unfold C_beast at h
  refine g_aload_n hk 0 rfl dX11_beast_0 ?_
  refine g_get3o hk fl_X11_84 rfl (j := 12) rfl kdC_0 dX11_beast_1 h (fun zz1 kzz1 h => ?_)
  refine g_iload_n hk 1 rfl dX11_beast_4 ?_
  obtain ⟨r2, e3, h⟩ := zbind h
  refine g_callVz hk (st := []) mf_X10_isBeast lk_X11_156 mv_X10_isBeast kzz1 (by decide) rfl (Nat.le_of_ble_eq_true rfl) rfl dX11_beast_5 (met_Zo_isBeast _ _ _ _ _ hk.wd hm kzz1 cx1 e3) (fun hm c4 => ?_)
  refine g_if_ne hk (b01 c4) dX11_beast_8 h (fun b5 h => ?_) (fun b5 h => ?_)
  · refine g_iconst hk (v := (-1)) rfl dX11_beast_11 ?_
    exact g_ireturn hk (cIk rfl) dX11_beast_12 (by cases h; rfl)
  · refine g_iload_n hk 2 rfl dX11_beast_13 ?_
    rcases zite h with ⟨e6, h⟩ | ⟨e6, h⟩
    · refine g_tin hk cx2 dX11_beast_14 e6 (by decide) (by decide) rfl (by decide) (tgt := 60) ?_
      refine g_aload_n hk 0 rfl dX11_beast_60 ?_
      refine g_get3o hk fl_X11_84 rfl (j := 12) rfl kdC_0 dX11_beast_61 h (fun zz14 kzz14 h => ?_)
      refine g_get2 hk fl_X11_173 rfl kzz14 hm (b := zz14 + 2) rfl dX11_beast_64 ?_
      refine g_iload_n hk 1 rfl dX11_beast_67 ?_
      refine g_iald hk cx1 (kdC_s10_3 kzz14) hm dX11_beast_68 h (fun y15 cy15 h => ?_)
      exact g_ireturn hk cy15 dX11_beast_69 (by cases h; rfl)
    rcases zite h with ⟨e7, h⟩ | ⟨e7, h⟩
    · refine g_tin hk cx2 dX11_beast_14 e7 (by decide) (by decide) rfl (by decide) (tgt := 70) ?_
      refine g_aload_n hk 0 rfl dX11_beast_70 ?_
      refine g_get3o hk fl_X11_84 rfl (j := 12) rfl kdC_0 dX11_beast_71 h (fun zz16 kzz16 h => ?_)
      refine g_get2 hk fl_X11_176 rfl kzz16 hm (b := zz16 + 3) rfl dX11_beast_74 ?_
      refine g_iload_n hk 1 rfl dX11_beast_77 ?_
      refine g_iald hk cx1 (kdC_s10_4 kzz16) hm dX11_beast_78 h (fun y17 cy17 h => ?_)
      exact g_ireturn hk cy17 dX11_beast_79 (by cases h; rfl)
    rcases zite h with ⟨e8, h⟩ | ⟨e8, h⟩
    · refine g_tin hk cx2 dX11_beast_14 e8 (by decide) (by decide) rfl (by decide) (tgt := 80) ?_
      refine g_aload_n hk 0 rfl dX11_beast_80 ?_
      refine g_get3o hk fl_X11_84 rfl (j := 12) rfl kdC_0 dX11_beast_81 h (fun zz18 kzz18 h => ?_)
      refine g_get2 hk fl_X11_179 rfl kzz18 hm (b := zz18 + 4) rfl dX11_beast_84 ?_
      refine g_iload_n hk 1 rfl dX11_beast_87 ?_
      refine g_iald hk cx1 (kdC_s10_5 kzz18) hm dX11_beast_88 h (fun y19 cy19 h => ?_)
      exact g_ireturn hk cy19 dX11_beast_89 (by cases h; rfl)
    rcases zite h with ⟨e9, h⟩ | ⟨e9, h⟩
    · refine g_tin hk cx2 dX11_beast_14 e9 (by decide) (by decide) rfl (by decide) (tgt := 90) ?_
      exact w_C_beast_b90 hk hm cx1 cx2 h
    rcases zite h with ⟨e10, h⟩ | ⟨e10, h⟩
    · refine g_tin hk cx2 dX11_beast_14 e10 (by decide) (by decide) rfl (by decide) (tgt := 90) ?_
      exact w_C_beast_b90 hk hm cx1 cx2 h
    rcases zite h with ⟨e11, h⟩ | ⟨e11, h⟩
    · refine g_tin hk cx2 dX11_beast_14 e11 (by decide) (by decide) rfl (by decide) (tgt := 90) ?_
      exact w_C_beast_b90 hk hm cx1 cx2 h
    rcases zite h with ⟨e12, h⟩ | ⟨e12, h⟩
    · refine g_tin hk cx2 dX11_beast_14 e12 (by decide) (by decide) rfl (by decide) (tgt := 106) ?_
      refine g_aload_n hk 0 rfl dX11_beast_106 ?_
      refine g_get3o hk fl_X11_84 rfl (j := 12) rfl kdC_0 dX11_beast_107 h (fun zz20 kzz20 h => ?_)
      refine g_iload_n hk 1 rfl dX11_beast_110 ?_
      refine g_aload_n hk 0 rfl dX11_beast_111 ?_
      refine g_get2 hk fl_X11_24 rfl kdC_0 hm (b := 8) rfl dX11_beast_112 ?_
      have g21 := zGI (i := 1) hm kdC_8 rfl
      refine g_get0 hk fl_X11_137 rfl (j := 1) rfl kdC_8 dX11_beast_115 ?_
      obtain ⟨r22, e23, h⟩ := zbind h
      refine g_callVz hk (st := []) mf_X10_isAwake lk_X11_185 mv_X10_isAwake kzz20 (by decide) rfl (Nat.le_of_ble_eq_true rfl) rfl dX11_beast_118 (met_Zo_isAwake _ _ _ _ _ hk.wd hm kzz20 cx1 g21 e23) (fun hm c24 => ?_)
      refine g_if_eq hk (b01 c24) dX11_beast_121 h (fun b25 h => ?_) (fun b25 h => ?_)
      · refine g_iconst hk (v := 0) rfl dX11_beast_128 ?_
        exact g_ireturn hk (cIk rfl) dX11_beast_129 (by cases h; rfl)
      · refine g_iconst hk (v := 1) rfl dX11_beast_124 ?_
        refine g_goto hk dX11_beast_125 ?_
        exact g_ireturn hk (cIk rfl) dX11_beast_129 (by cases h; rfl)
    rcases zite h with ⟨e13, h⟩ | ⟨e13, h⟩
    · refine g_tin hk cx2 dX11_beast_14 e13 (by decide) (by decide) rfl (by decide) (tgt := 130) ?_
      refine g_aload_n hk 0 rfl dX11_beast_130 ?_
      refine g_iload_n hk 1 rfl dX11_beast_131 ?_
      obtain ⟨r26, e27, h⟩ := zbind h
      refine g_callVi hk (st := []) mf_X11_firstKeptBy lk_X11_189 mv_X11_firstKeptBy kdC_0 (by decide) rfl (Nat.le_of_ble_eq_true rfl) rfl dX11_beast_132 (met_C_firstKeptBy _ _ _ _ _ hk.wd hm cx1 e27) (fun hm c28 => ?_)
      exact g_ireturn hk c28 dX11_beast_135 (by cases h; rfl)
    refine g_tout hk cx2 dX11_beast_14 (by omega) (by decide) (tgt := 136) ?_
    refine g_iconst hk (v := (-1)) rfl dX11_beast_136 ?_
    exact g_ireturn hk (cIk rfl) dX11_beast_137 (by cases h; rfl)
theorem met_C_beast (l : Launch) (D : va_G) (aC : Nat → ClassId) (B N : Nat) (hwd : ∀ id, (kdC id).1 ≠ 9 → id < N) {x1 : Int} {x2 : Int} {m : zM} {o : Int} (hm : zG kdC m) (cx1 : cI x1) (cx2 : cI x2) (h : C_beast x1 x2 m = some o) : zMet l yX11_beast cX11_beast 3 (some .int) 1 D aC B kdC N [.ref (B + 0), mI x1, mI x2] m (0, o, m) := by
  refine zMet.of mf_X11_beast hwd hm (Nat.le_of_ble_eq_true rfl) (fun K e1 e2 e3 e4 e5 hk => ?_)
  subst e4
  exact w_C_beast hk hm cx1 cx2 h
set_option maxRecDepth 100000 in
set_option maxHeartbeats 4000000 in
theorem w_C_guest_b60 {K : zK} (hk : zOk K kdC cX11_guest 3 (some .int) RX11 1)  {x1 : Int} {x2 : Int} {m : zM} {o : Int}  (hm : zG kdC m) (cx1 : cI x1) (cx2 : cI x2) (h : C_guest_b60 x1 x2 m = some o) : GoAt K m [(0, .ref (kB K + 0)), (1, mI x1), (2, mI x2)] [] 60 (0, o, m) := by
  unfold C_guest_b60 at h
  refine g_aload_n hk 0 rfl dX11_guest_60 ?_
  refine g_get2 hk fl_X11_24 rfl kdC_0 hm (b := 8) rfl dX11_guest_61 ?_
  refine g_get2 hk fl_X11_192 rfl kdC_8 hm (b := 9) rfl dX11_guest_64 ?_
  refine g_iload_n hk 1 rfl dX11_guest_67 ?_
  refine g_iconst hk (v := 3) rfl dX11_guest_68 ?_
  refine g_imul hk dX11_guest_69 ?_
  refine g_iload_n hk 2 rfl dX11_guest_70 ?_
  refine g_iadd hk dX11_guest_71 ?_
  refine g_iald hk (wI_c _) kdC_9 hm dX11_guest_72 h (fun y1 cy1 h => ?_)
  exact g_ireturn hk cy1 dX11_guest_73 (by cases h; rfl)
set_option maxRecDepth 100000 in
set_option maxHeartbeats 4000000 in
theorem w_C_guest {K : zK} (hk : zOk K kdC cX11_guest 3 (some .int) RX11 1)  {x1 : Int} {x2 : Int} {m : zM} {o : Int}  (hm : zG kdC m) (cx1 : cI x1) (cx2 : cI x2) (h : C_guest x1 x2 m = some o) : GoAt K m [(0, .ref (kB K + 0)), (1, mI x1), (2, mI x2)] [] 0 (0, o, m) := by
  unfold C_guest at h
  refine g_aload_n hk 0 rfl dX11_guest_0 ?_
  refine g_get3o hk fl_X11_84 rfl (j := 12) rfl kdC_0 dX11_guest_1 h (fun zz1 kzz1 h => ?_)
  refine g_iload_n hk 1 rfl dX11_guest_4 ?_
  obtain ⟨r2, e3, h⟩ := zbind h
  refine g_callVz hk (st := []) mf_X10_isGuest lk_X11_167 mv_X10_isGuest kzz1 (by decide) rfl (Nat.le_of_ble_eq_true rfl) rfl dX11_guest_5 (met_Zo_isGuest _ _ _ _ _ hk.wd hm kzz1 cx1 e3) (fun hm c4 => ?_)
  refine g_if_ne hk (b01 c4) dX11_guest_8 h (fun b5 h => ?_) (fun b5 h => ?_)
  · refine g_iconst hk (v := (-1)) rfl dX11_guest_11 ?_
    exact g_ireturn hk (cIk rfl) dX11_guest_12 (by cases h; rfl)
  · refine g_iload_n hk 2 rfl dX11_guest_13 ?_
    rcases zite h with ⟨e6, h⟩ | ⟨e6, h⟩
    · refine g_tin hk cx2 dX11_guest_14 e6 (by decide) (by decide) rfl (by decide) (tgt := 60) ?_
      exact w_C_guest_b60 hk hm cx1 cx2 h
    rcases zite h with ⟨e7, h⟩ | ⟨e7, h⟩
    · refine g_tin hk cx2 dX11_guest_14 e7 (by decide) (by decide) rfl (by decide) (tgt := 60) ?_
      exact w_C_guest_b60 hk hm cx1 cx2 h
    rcases zite h with ⟨e8, h⟩ | ⟨e8, h⟩
    · refine g_tin hk cx2 dX11_guest_14 e8 (by decide) (by decide) rfl (by decide) (tgt := 60) ?_
      exact w_C_guest_b60 hk hm cx1 cx2 h
    rcases zite h with ⟨e9, h⟩ | ⟨e9, h⟩
    · refine g_tin hk cx2 dX11_guest_14 e9 (by decide) (by decide) rfl (by decide) (tgt := 74) ?_
      refine g_aload_n hk 0 rfl dX11_guest_74 ?_
      refine g_get3o hk fl_X11_84 rfl (j := 12) rfl kdC_0 dX11_guest_75 h (fun zz14 kzz14 h => ?_)
      refine g_get2 hk fl_X11_195 rfl kzz14 hm (b := zz14 + 7) rfl dX11_guest_78 ?_
      refine g_iload_n hk 1 rfl dX11_guest_81 ?_
      refine g_iald hk cx1 (kdC_s10_8 kzz14) hm dX11_guest_82 h (fun y15 cy15 h => ?_)
      exact g_ireturn hk cy15 dX11_guest_83 (by cases h; rfl)
    rcases zite h with ⟨e10, h⟩ | ⟨e10, h⟩
    · refine g_tin hk cx2 dX11_guest_14 e10 (by decide) (by decide) rfl (by decide) (tgt := 84) ?_
      refine g_aload_n hk 0 rfl dX11_guest_84 ?_
      refine g_get3o hk fl_X11_84 rfl (j := 12) rfl kdC_0 dX11_guest_85 h (fun zz16 kzz16 h => ?_)
      refine g_get2 hk fl_X11_198 rfl kzz16 hm (b := zz16 + 8) rfl dX11_guest_88 ?_
      refine g_iload_n hk 1 rfl dX11_guest_91 ?_
      refine g_iald hk cx1 (kdC_s10_9 kzz16) hm dX11_guest_92 h (fun y17 cy17 h => ?_)
      exact g_ireturn hk cy17 dX11_guest_93 (by cases h; rfl)
    rcases zite h with ⟨e11, h⟩ | ⟨e11, h⟩
    · refine g_tin hk cx2 dX11_guest_14 e11 (by decide) (by decide) rfl (by decide) (tgt := 94) ?_
      refine g_aload_n hk 0 rfl dX11_guest_94 ?_
      refine g_get3o hk fl_X11_84 rfl (j := 12) rfl kdC_0 dX11_guest_95 h (fun zz18 kzz18 h => ?_)
      refine g_get2 hk fl_X11_201 rfl kzz18 hm (b := zz18 + 9) rfl dX11_guest_98 ?_
      refine g_iload_n hk 1 rfl dX11_guest_101 ?_
      refine g_iald hk cx1 (kdC_s10_10 kzz18) hm dX11_guest_102 h (fun y19 cy19 h => ?_)
      exact g_ireturn hk cy19 dX11_guest_103 (by cases h; rfl)
    rcases zite h with ⟨e12, h⟩ | ⟨e12, h⟩
    · refine g_tin hk cx2 dX11_guest_14 e12 (by decide) (by decide) rfl (by decide) (tgt := 104) ?_
      refine g_aload_n hk 0 rfl dX11_guest_104 ?_
      refine g_get2 hk fl_X11_24 rfl kdC_0 hm (b := 8) rfl dX11_guest_105 ?_
      refine g_get2 hk fl_X11_204 rfl kdC_8 hm (b := 11) rfl dX11_guest_108 ?_
      refine g_iload_n hk 1 rfl dX11_guest_111 ?_
      refine g_iald hk cx1 kdC_11 hm dX11_guest_112 h (fun y20 cy20 h => ?_)
      exact g_ireturn hk cy20 dX11_guest_113 (by cases h; rfl)
    rcases zite h with ⟨e13, h⟩ | ⟨e13, h⟩
    · refine g_tin hk cx2 dX11_guest_14 e13 (by decide) (by decide) rfl (by decide) (tgt := 114) ?_
      refine g_aload_n hk 0 rfl dX11_guest_114 ?_
      refine g_get2 hk fl_X11_24 rfl kdC_0 hm (b := 8) rfl dX11_guest_115 ?_
      refine g_get2 hk fl_X11_207 rfl kdC_8 hm (b := 10) rfl dX11_guest_118 ?_
      refine g_iload_n hk 1 rfl dX11_guest_121 ?_
      refine g_iald hk cx1 kdC_10 hm dX11_guest_122 h (fun y21 cy21 h => ?_)
      exact g_ireturn hk cy21 dX11_guest_123 (by cases h; rfl)
    refine g_tout hk cx2 dX11_guest_14 (by omega) (by decide) (tgt := 124) ?_
    refine g_iconst hk (v := (-1)) rfl dX11_guest_124 ?_
    exact g_ireturn hk (cIk rfl) dX11_guest_125 (by cases h; rfl)
theorem met_C_guest (l : Launch) (D : va_G) (aC : Nat → ClassId) (B N : Nat) (hwd : ∀ id, (kdC id).1 ≠ 9 → id < N) {x1 : Int} {x2 : Int} {m : zM} {o : Int} (hm : zG kdC m) (cx1 : cI x1) (cx2 : cI x2) (h : C_guest x1 x2 m = some o) : zMet l yX11_guest cX11_guest 3 (some .int) 1 D aC B kdC N [.ref (B + 0), mI x1, mI x2] m (0, o, m) := by
  refine zMet.of mf_X11_guest hwd hm (Nat.le_of_ble_eq_true rfl) (fun K e1 e2 e3 e4 e5 hk => ?_)
  subst e4
  exact w_C_guest hk hm cx1 cx2 h
set_option maxRecDepth 100000 in
set_option maxHeartbeats 4000000 in
theorem w_St_suits_B5 {K : zK} (hk : zOk K kdC cX7_suits 5 (some .int) RX7 0) {rec : Nat → Int → Int → Int → Int → Option (Int)} {o0 : Nat} {x1 : Int} {x2 : Int} {x3 : Int} {x4 : Int} {m : zM} {o : Int} (hrec : ∀ (o0 : Nat) (x1 : Int) (x2 : Int) (x3 : Int) (x4 : Int), kdC o0 = (0, 7) → cI x1 → cI x2 → cI x3 → cI x4 → rec o0 x1 x2 x3 x4 = some o → GoAt K m [(0, .ref (kB K + o0)), (1, mI x1), (2, mI x2), (3, mI x3), (4, mI x4)] [] 5 (0, o, m)) (hm : zG kdC m) (ko0 : kdC o0 = (0, 7)) (cx1 : cI x1) (cx2 : cI x2) (cx3 : cI x3) (cx4 : cI x4) (h : St_suits_B5 rec o0 x1 x2 x3 x4 m = some o) : GoAt K m [(0, .ref (kB K + o0)), (1, mI x1), (2, mI x2), (3, mI x3), (4, mI x4)] [] 5 (0, o, m) := by
  unfold St_suits_B5 at h
  refine g_iload hk 4 rfl dX7_suits_5 ?_
  refine g_iconst hk (v := 3) rfl dX7_suits_7 ?_
  refine g_icmp_ge hk cx4 (cIk rfl) dX7_suits_8 h (fun b1 h => ?_) (fun b1 h => ?_)
  · refine g_iload_n hk 3 rfl dX7_suits_11 ?_
    refine g_aload_n hk 0 rfl dX7_suits_12 ?_
    refine g_get2 hk fl_X7_9 rfl ko0 hm (b := o0 + 1) rfl dX7_suits_13 ?_
    refine g_iload_n hk 2 rfl dX7_suits_16 ?_
    refine g_iconst hk (v := 3) rfl dX7_suits_17 ?_
    refine g_imul hk dX7_suits_18 ?_
    refine g_iload hk 4 rfl dX7_suits_19 ?_
    refine g_iadd hk dX7_suits_21 ?_
    refine g_iald hk (wI_c _) (kdC_s7_3 ko0) hm dX7_suits_22 h (fun y2 cy2 h => ?_)
    refine g_aload_n hk 0 rfl dX7_suits_23 ?_
    refine g_get2 hk fl_X7_21 rfl ko0 hm (b := o0 + 4) rfl dX7_suits_24 ?_
    refine g_iload_n hk 1 rfl dX7_suits_27 ?_
    refine g_iconst hk (v := 3) rfl dX7_suits_28 ?_
    refine g_imul hk dX7_suits_29 ?_
    refine g_iload hk 4 rfl dX7_suits_30 ?_
    refine g_iadd hk dX7_suits_32 ?_
    refine g_iald hk (wI_c _) (kdC_s7_6 ko0) hm dX7_suits_33 h (fun y3 cy3 h => ?_)
    refine g_imul hk dX7_suits_34 ?_
    refine g_iadd hk dX7_suits_35 ?_
    refine g_let (wI_c _) h (fun v4 cv4 h => ?_)
    refine g_istore_n hk rfl (lv' := [(3, mI v4), (0, .ref (kB K + o0)), (1, mI x1), (2, mI x2), (4, mI x4)]) (Nat.le_of_ble_eq_true rfl) rfl dX7_suits_36 ?_
    refine g_iinc hk (lv' := [(4, mI (wI (x4 + 1))), (3, mI v4), (0, .ref (kB K + o0)), (1, mI x1), (2, mI x2)]) 4 rfl (Nat.le_of_ble_eq_true rfl) rfl dX7_suits_37 ?_
    refine g_goto hk dX7_suits_40 ?_
    refine GoAt.sub [2, 3, 4, 1, 0] rfl ?_
    exact hrec _ _ _ _ _ ko0 cx1 cx2 cv4 (wI_c _) h
  · refine g_iload_n hk 3 rfl dX7_suits_43 ?_
    exact g_ireturn hk cx3 dX7_suits_44 (by cases h; rfl)
theorem w_St_suits_L5 {K : zK} (hk : zOk K kdC cX7_suits 5 (some .int) RX7 0)  {o : Int} {m : zM} (hm : zG kdC m)  : ∀ (n : Nat) (o0 : Nat) (x1 : Int) (x2 : Int) (x3 : Int) (x4 : Int), kdC o0 = (0, 7) → cI x1 → cI x2 → cI x3 → cI x4 → St_suits_L5 m n o0 x1 x2 x3 x4 = some o → GoAt K m [(0, .ref (kB K + o0)), (1, mI x1), (2, mI x2), (3, mI x3), (4, mI x4)] [] 5 (0, o, m)
  | 0, o0, x1, x2, x3, x4, ko0, cx1, cx2, cx3, cx4, h => by cases h
  | n + 1, o0, x1, x2, x3, x4, ko0, cx1, cx2, cx3, cx4, h => w_St_suits_B5 hk  (w_St_suits_L5 hk hm  n) hm ko0 cx1 cx2 cx3 cx4 h
set_option maxRecDepth 100000 in
set_option maxHeartbeats 4000000 in
theorem w_St_suits {K : zK} (hk : zOk K kdC cX7_suits 5 (some .int) RX7 0)  {o0 : Nat} {x1 : Int} {x2 : Int} {m : zM} {o : Int}  (hm : zG kdC m) (ko0 : kdC o0 = (0, 7)) (cx1 : cI x1) (cx2 : cI x2) (h : St_suits o0 x1 x2 m = some o) : GoAt K m [(0, .ref (kB K + o0)), (1, mI x1), (2, mI x2)] [] 0 (0, o, m) := by
  unfold St_suits at h
  refine g_iconst hk (v := 0) rfl dX7_suits_0 ?_
  refine g_istore_n hk rfl (lv' := [(3, mI 0), (0, .ref (kB K + o0)), (1, mI x1), (2, mI x2)]) (Nat.le_of_ble_eq_true rfl) rfl dX7_suits_1 ?_
  refine g_iconst hk (v := 0) rfl dX7_suits_2 ?_
  refine g_istore hk (lv' := [(4, mI 0), (3, mI 0), (0, .ref (kB K + o0)), (1, mI x1), (2, mI x2)]) (Nat.le_of_ble_eq_true rfl) rfl dX7_suits_3 ?_
  refine GoAt.sub [2, 3, 4, 1, 0] rfl ?_
  refine w_St_suits_L5 hk hm  1000000 _ _ _ _ _ ko0 cx1 cx2 (cIk rfl) (cIk rfl) h
theorem met_St_suits (l : Launch) (D : va_G) (aC : Nat → ClassId) (B N : Nat) (hwd : ∀ id, (kdC id).1 ≠ 9 → id < N) {o0 : Nat} {x1 : Int} {x2 : Int} {m : zM} {o : Int} (hm : zG kdC m) (ko0 : kdC o0 = (0, 7)) (cx1 : cI x1) (cx2 : cI x2) (h : St_suits o0 x1 x2 m = some o) : zMet l yX7_suits cX7_suits 5 (some .int) 0 D aC B kdC N [.ref (B + o0), mI x1, mI x2] m (0, o, m) := by
  refine zMet.of mf_X7_suits hwd hm (Nat.le_of_ble_eq_true rfl) (fun K e1 e2 e3 e4 e5 hk => ?_)
  subst e4
  exact w_St_suits hk hm ko0 cx1 cx2 h
set_option maxRecDepth 100000 in
set_option maxHeartbeats 4000000 in
theorem w_Ke_look_B42 {K : zK} (hk : zOk K kdC cX4_look 5 none RX4 1) {rec : Nat → Int → Int → zM → Option (zM)} {o1 : Nat} {x3 : Int} {x4 : Int} {m : zM} {o : zM} (hrec : ∀ (o1 : Nat) (x3 : Int) (x4 : Int) (m : zM), zG kdC m → kdC o1 = (0, 7) → cI x3 → cI x4 → rec o1 x3 x4 m = some o → GoAt K m [(0, .ref (kB K + 25)), (1, .ref (kB K + o1)), (3, mI x3), (4, mI x4)] [] 42 (9, 0, o)) (hm : zG kdC m) (ko1 : kdC o1 = (0, 7)) (cx3 : cI x3) (cx4 : cI x4) (h : Ke_look_B42 rec o1 x3 x4 m = some o) : GoAt K m [(0, .ref (kB K + 25)), (1, .ref (kB K + o1)), (3, mI x3), (4, mI x4)] [] 42 (9, 0, o) := by
  unfold Ke_look_B42 at h
  refine g_iload hk 3 rfl dX4_look_42 ?_
  refine g_iconst hk (v := 3) rfl dX4_look_44 ?_
  refine g_icmp_ge hk cx4 (cIk rfl) dX4_look_45 h (fun b1 h => ?_) (fun b1 h => ?_)
  · refine g_aload_n hk 0 rfl dX4_look_48 ?_
    refine g_get2 hk fl_X4_23 rfl kdC_25 hm (b := 29) rfl dX4_look_49 ?_
    refine g_iconst hk (v := 3) rfl dX4_look_52 ?_
    refine g_iload hk 3 rfl dX4_look_53 ?_
    refine g_iadd hk dX4_look_55 ?_
    refine g_aload_n hk 1 rfl dX4_look_56 ?_
    refine g_get2 hk fl_X4_68 rfl ko1 hm (b := o1 + 1) rfl dX4_look_57 ?_
    refine g_iload_n hk 2 rfl dX4_look_60 ?_
    refine g_iconst hk (v := 3) rfl dX4_look_61 ?_
    refine g_imul hk dX4_look_62 ?_
    refine g_iload hk 3 rfl dX4_look_63 ?_
    refine g_iadd hk dX4_look_65 ?_
    refine g_iald hk (wI_c _) (kdC_s7_3 ko1) hm dX4_look_66 h (fun y2 cy2 h => ?_)
    refine g_iast hk (wI_c _) cy2 kdC_29 hm dX4_look_67 h (fun m3 hm h => ?_)
    refine g_iinc hk (lv' := [(4, mI (wI (x4 + 1))), (0, .ref (kB K + 25)), (1, .ref (kB K + o1)), (3, mI x3)]) 3 rfl (Nat.le_of_ble_eq_true rfl) rfl dX4_look_68 ?_
    refine g_goto hk dX4_look_71 ?_
    refine GoAt.sub [1, 2, 3, 0] rfl ?_
    exact hrec _ _ _ _ hm ko1 cx3 (wI_c _) h
  · exact g_return hk dX4_look_74 (by cases h; rfl)
theorem w_Ke_look_L42 {K : zK} (hk : zOk K kdC cX4_look 5 none RX4 1)  {o : zM}  : ∀ (n : Nat) (o1 : Nat) (x3 : Int) (x4 : Int) (m : zM), zG kdC m → kdC o1 = (0, 7) → cI x3 → cI x4 → Ke_look_L42 n o1 x3 x4 m = some o → GoAt K m [(0, .ref (kB K + 25)), (1, .ref (kB K + o1)), (3, mI x3), (4, mI x4)] [] 42 (9, 0, o)
  | 0, o1, x3, x4, m, hm, ko1, cx3, cx4, h => by cases h
  | n + 1, o1, x3, x4, m, hm, ko1, cx3, cx4, h => w_Ke_look_B42 hk  (w_Ke_look_L42 hk  n) hm ko1 cx3 cx4 h
set_option maxRecDepth 100000 in
set_option maxHeartbeats 4000000 in
theorem w_Ke_look {K : zK} (hk : zOk K kdC cX4_look 5 none RX4 1)  {o1 : Nat} {x2 : Int} {x3 : Int} {m : zM} {o : zM}  (hm : zG kdC m) (ko1 : kdC o1 = (0, 7)) (cx2 : cI x2) (cx3 : cI x3) (h : Ke_look o1 x2 x3 m = some o) : GoAt K m [(0, .ref (kB K + 25)), (1, .ref (kB K + o1)), (2, mI x2), (3, mI x3)] [] 0 (9, 0, o) := by
  unfold Ke_look at h
  refine g_aload_n hk 0 rfl dX4_look_0 ?_
  refine g_get2 hk fl_X4_23 rfl kdC_25 hm (b := 29) rfl dX4_look_1 ?_
  refine g_iconst hk (v := 0) rfl dX4_look_4 ?_
  refine g_aload_n hk 1 rfl dX4_look_5 ?_
  refine g_iload_n hk 2 rfl dX4_look_6 ?_
  refine g_iload_n hk 3 rfl dX4_look_7 ?_
  obtain ⟨r1, e2, h⟩ := zbind h
  refine g_callVi hk (st := [mI 0, .ref (kB K + 29)]) mf_X7_suits lk_X4_57 mv_X7_suits ko1 (by decide) rfl (Nat.le_of_ble_eq_true rfl) rfl dX4_look_8 (met_St_suits _ _ _ _ _ hk.wd hm ko1 cx2 cx3 e2) (fun hm c3 => ?_)
  refine g_iast hk (cIk rfl) c3 kdC_29 hm dX4_look_11 h (fun m4 hm h => ?_)
  refine g_aload_n hk 0 rfl dX4_look_12 ?_
  refine g_get2 hk fl_X4_23 rfl kdC_25 hm (b := 29) rfl dX4_look_13 ?_
  refine g_iconst hk (v := 1) rfl dX4_look_16 ?_
  refine g_aload_n hk 1 rfl dX4_look_17 ?_
  refine g_get2 hk fl_X4_62 rfl ko1 hm (b := o1 + 5) rfl dX4_look_18 ?_
  refine g_iload_n hk 2 rfl dX4_look_21 ?_
  refine g_bipush hk (v := 8) rfl dX4_look_22 ?_
  refine g_imul hk dX4_look_24 ?_
  refine g_iload_n hk 3 rfl dX4_look_25 ?_
  refine g_iadd hk dX4_look_26 ?_
  refine g_iald hk (wI_c _) (kdC_s7_7 ko1) hm dX4_look_27 h (fun y5 cy5 h => ?_)
  refine g_iast hk (cIk rfl) cy5 kdC_29 hm dX4_look_28 h (fun m6 hm h => ?_)
  refine g_aload_n hk 0 rfl dX4_look_29 ?_
  refine g_get2 hk fl_X4_23 rfl kdC_25 hm (b := 29) rfl dX4_look_30 ?_
  refine g_iconst hk (v := 2) rfl dX4_look_33 ?_
  refine g_aload_n hk 1 rfl dX4_look_34 ?_
  have g7 := zGI (i := 1) hm ko1 rfl
  refine g_get0 hk fl_X4_65 rfl (j := 1) rfl ko1 dX4_look_35 ?_
  refine g_iast hk (cIk rfl) g7 kdC_29 hm dX4_look_38 h (fun m8 hm h => ?_)
  refine g_iconst hk (v := 0) rfl dX4_look_39 ?_
  refine g_istore hk (lv' := [(4, mI 0), (0, .ref (kB K + 25)), (1, .ref (kB K + o1)), (2, mI x2), (3, mI x3)]) (Nat.le_of_ble_eq_true rfl) rfl dX4_look_40 ?_
  refine GoAt.sub [1, 2, 4, 0] rfl ?_
  refine w_Ke_look_L42 hk  1000000 _ _ _ _ hm ko1 cx3 (cIk rfl) h
theorem met_Ke_look (l : Launch) (D : va_G) (aC : Nat → ClassId) (B N : Nat) (hwd : ∀ id, (kdC id).1 ≠ 9 → id < N) {o1 : Nat} {x2 : Int} {x3 : Int} {m : zM} {o : zM} (hm : zG kdC m) (ko1 : kdC o1 = (0, 7)) (cx2 : cI x2) (cx3 : cI x3) (h : Ke_look o1 x2 x3 m = some o) : zMet l yX4_look cX4_look 5 none 1 D aC B kdC N [.ref (B + 25), .ref (B + o1), mI x2, mI x3] m (9, 0, o) := by
  refine zMet.of mf_X4_look hwd hm (Nat.le_of_ble_eq_true rfl) (fun K e1 e2 e3 e4 e5 hk => ?_)
  subst e4
  exact w_Ke_look hk hm ko1 cx2 cx3 h
set_option maxRecDepth 100000 in
set_option maxHeartbeats 4000000 in
theorem w_Fo_operandsOf {K : zK} (hk : zOk K kdC cX1_operandsOf 1 (some .int) RX1 0)  {x0 : Int} {m : zM} {o : Int}  (hm : zG kdC m) (cx0 : cI x0) (h : Fo_operandsOf x0 = some o) : GoAt K m [(0, mI x0)] [] 0 (0, o, m) := by
  unfold Fo_operandsOf at h
  refine g_iload_n hk 0 rfl dX1_operandsOf_0 ?_
  rcases zite h with ⟨e1, h⟩ | ⟨e1, h⟩
  · refine g_tin hk cx0 dX1_operandsOf_1 e1 (by decide) (by decide) rfl (by decide) (tgt := 40) ?_
    refine g_iconst hk (v := 0) rfl dX1_operandsOf_40 ?_
    exact g_ireturn hk (cIk rfl) dX1_operandsOf_41 (by cases h; rfl)
  rcases zite h with ⟨e2, h⟩ | ⟨e2, h⟩
  · refine g_tin hk cx0 dX1_operandsOf_1 e2 (by decide) (by decide) rfl (by decide) (tgt := 40) ?_
    refine g_iconst hk (v := 0) rfl dX1_operandsOf_40 ?_
    exact g_ireturn hk (cIk rfl) dX1_operandsOf_41 (by cases h; rfl)
  rcases zite h with ⟨e3, h⟩ | ⟨e3, h⟩
  · refine g_tin hk cx0 dX1_operandsOf_1 e3 (by decide) (by decide) rfl (by decide) (tgt := 46) ?_
    refine g_iconst hk (v := 2) rfl dX1_operandsOf_46 ?_
    exact g_ireturn hk (cIk rfl) dX1_operandsOf_47 (by cases h; rfl)
  rcases zite h with ⟨e4, h⟩ | ⟨e4, h⟩
  · refine g_tin hk cx0 dX1_operandsOf_1 e4 (by decide) (by decide) rfl (by decide) (tgt := 46) ?_
    refine g_iconst hk (v := 2) rfl dX1_operandsOf_46 ?_
    exact g_ireturn hk (cIk rfl) dX1_operandsOf_47 (by cases h; rfl)
  rcases zite h with ⟨e5, h⟩ | ⟨e5, h⟩
  · refine g_tin hk cx0 dX1_operandsOf_1 e5 (by decide) (by decide) rfl (by decide) (tgt := 44) ?_
    refine g_iconst hk (v := 3) rfl dX1_operandsOf_44 ?_
    exact g_ireturn hk (cIk rfl) dX1_operandsOf_45 (by cases h; rfl)
  rcases zite h with ⟨e6, h⟩ | ⟨e6, h⟩
  · refine g_tin hk cx0 dX1_operandsOf_1 e6 (by decide) (by decide) rfl (by decide) (tgt := 42) ?_
    refine g_iconst hk (v := 1) rfl dX1_operandsOf_42 ?_
    exact g_ireturn hk (cIk rfl) dX1_operandsOf_43 (by cases h; rfl)
  refine g_tout hk cx0 dX1_operandsOf_1 (by omega) (by decide) (tgt := 46) ?_
  refine g_iconst hk (v := 2) rfl dX1_operandsOf_46 ?_
  exact g_ireturn hk (cIk rfl) dX1_operandsOf_47 (by cases h; rfl)
theorem met_Fo_operandsOf (l : Launch) (D : va_G) (aC : Nat → ClassId) (B N : Nat) (hwd : ∀ id, (kdC id).1 ≠ 9 → id < N) {x0 : Int} {m : zM} {o : Int} (hm : zG kdC m) (cx0 : cI x0) (h : Fo_operandsOf x0 = some o) : zMet l yX1_operandsOf cX1_operandsOf 1 (some .int) 0 D aC B kdC N [mI x0] m (0, o, m) := by
  refine zMet.of mf_X1_operandsOf hwd hm (Nat.le_of_ble_eq_true rfl) (fun K e1 e2 e3 e4 e5 hk => ?_)
  subst e4
  exact w_Fo_operandsOf hk hm cx0 h
set_option maxRecDepth 100000 in
set_option maxHeartbeats 4000000 in
theorem w_Fo_pushed {K : zK} (hk : zOk K kdC cX1_pushed 3 (some .int) RX1 0)  {x0 : Int} {x1 : Int} {a2 : Nat} {n2 : Nat} {m : zM} {o : Int}  (hm : zG kdC m) (cx0 : cI x0) (cx1 : cI x1) (ka2 : kdC a2 = (1, n2)) (h : Fo_pushed x0 x1 a2 n2 m = some o) : GoAt K m [(0, mI x0), (1, mI x1), (2, .ref (kB K + a2))] [] 0 (0, o, m) := by
  unfold Fo_pushed at h
  refine g_iload_n hk 0 rfl dX1_pushed_0 ?_
  refine g_iconst hk (v := 1) rfl dX1_pushed_1 ?_
  refine g_icmp_ne hk cx0 (cIk rfl) dX1_pushed_2 h (fun b1 h => ?_) (fun b1 h => ?_)
  · refine g_iload_n hk 1 rfl dX1_pushed_5 ?_
    exact g_ireturn hk cx1 dX1_pushed_6 (by cases h; rfl)
  · refine g_iload_n hk 1 rfl dX1_pushed_7 ?_
    refine g_if_lt hk cx1 dX1_pushed_8 h (fun b2 h => ?_) (fun b2 h => ?_)
    · refine g_iconst hk (v := 0) rfl dX1_pushed_23 ?_
      exact g_ireturn hk (cIk rfl) dX1_pushed_24 (by cases h; rfl)
    · refine g_iload_n hk 1 rfl dX1_pushed_11 ?_
      refine g_aload_n hk 2 rfl dX1_pushed_12 ?_
      refine g_alen hk (v := ((n2 : Nat) : Int)) ka2 rfl dX1_pushed_13 ?_
      refine g_icmp_ge hk cx1 (cI_len ka2) dX1_pushed_14 h (fun b3 h => ?_) (fun b3 h => ?_)
      · refine g_aload_n hk 2 rfl dX1_pushed_17 ?_
        refine g_iload_n hk 1 rfl dX1_pushed_18 ?_
        refine g_iald hk cx1 ka2 hm dX1_pushed_19 h (fun y4 cy4 h => ?_)
        refine g_goto hk dX1_pushed_20 ?_
        exact g_ireturn hk cy4 dX1_pushed_24 (by cases h; rfl)
      · refine g_iconst hk (v := 0) rfl dX1_pushed_23 ?_
        exact g_ireturn hk (cIk rfl) dX1_pushed_24 (by cases h; rfl)
theorem met_Fo_pushed (l : Launch) (D : va_G) (aC : Nat → ClassId) (B N : Nat) (hwd : ∀ id, (kdC id).1 ≠ 9 → id < N) {x0 : Int} {x1 : Int} {a2 : Nat} {n2 : Nat} {m : zM} {o : Int} (hm : zG kdC m) (cx0 : cI x0) (cx1 : cI x1) (ka2 : kdC a2 = (1, n2)) (h : Fo_pushed x0 x1 a2 n2 m = some o) : zMet l yX1_pushed cX1_pushed 3 (some .int) 0 D aC B kdC N [mI x0, mI x1, .ref (B + a2)] m (0, o, m) := by
  refine zMet.of mf_X1_pushed hwd hm (Nat.le_of_ble_eq_true rfl) (fun K e1 e2 e3 e4 e5 hk => ?_)
  subst e4
  exact w_Fo_pushed hk hm cx0 cx1 ka2 h
set_option maxRecDepth 100000 in
set_option maxHeartbeats 4000000 in
theorem w_J_floorDiv_7cf53 {K : zK} (hk : zOk K kdC cJ9_floorDiv_7cf53 3 (some .int) RJ9 0)  {x0 : Int} {x1 : Int} {m : zM} {o : Int}  (hm : zG kdC m) (cx0 : cI x0) (cx1 : cI x1) (h : J_floorDiv_7cf53 x0 x1 = some o) : GoAt K m [(0, mI x0), (1, mI x1)] [] 0 (0, o, m) := by
  unfold J_floorDiv_7cf53 at h
  refine g_iload_n hk 0 rfl dJ9_floorDiv_7cf53_0 ?_
  refine g_iload_n hk 1 rfl dJ9_floorDiv_7cf53_1 ?_
  obtain ⟨hz1, h⟩ := g_nz h
  refine g_idiv hk cx1 hz1 dJ9_floorDiv_7cf53_2 ?_
  refine g_istore_n hk rfl (lv' := [(2, mI (dvI x0 x1)), (0, mI x0), (1, mI x1)]) (Nat.le_of_ble_eq_true rfl) rfl dJ9_floorDiv_7cf53_3 ?_
  refine g_iload_n hk 1 rfl dJ9_floorDiv_7cf53_4 ?_
  refine g_iload_n hk 2 rfl dJ9_floorDiv_7cf53_5 ?_
  refine g_ixor hk dJ9_floorDiv_7cf53_6 ?_
  refine g_if_ge hk (cI_t _) dJ9_floorDiv_7cf53_7 h (fun b2 h => ?_) (fun b2 h => ?_)
  · refine g_iload_n hk 0 rfl dJ9_floorDiv_7cf53_10 ?_
    refine g_iload_n hk 2 rfl dJ9_floorDiv_7cf53_11 ?_
    refine g_imul hk dJ9_floorDiv_7cf53_12 ?_
    refine g_iload_n hk 1 rfl dJ9_floorDiv_7cf53_13 ?_
    refine g_icmp_eq hk (wI_c _) cx0 dJ9_floorDiv_7cf53_14 h (fun b3 h => ?_) (fun b3 h => ?_)
    · refine g_iload_n hk 0 rfl dJ9_floorDiv_7cf53_21 ?_
      exact g_ireturn hk (cI_t _) dJ9_floorDiv_7cf53_22 (by cases h; rfl)
    · refine g_iload_n hk 0 rfl dJ9_floorDiv_7cf53_17 ?_
      refine g_iconst hk (v := 1) rfl dJ9_floorDiv_7cf53_18 ?_
      refine g_isub hk dJ9_floorDiv_7cf53_19 ?_
      exact g_ireturn hk (wI_c _) dJ9_floorDiv_7cf53_20 (by cases h; rfl)
  · refine g_iload_n hk 0 rfl dJ9_floorDiv_7cf53_21 ?_
    exact g_ireturn hk (cI_t _) dJ9_floorDiv_7cf53_22 (by cases h; rfl)
theorem met_J_floorDiv_7cf53 (l : Launch) (D : va_G) (aC : Nat → ClassId) (B N : Nat) (hwd : ∀ id, (kdC id).1 ≠ 9 → id < N) {x0 : Int} {x1 : Int} {m : zM} {o : Int} (hm : zG kdC m) (cx0 : cI x0) (cx1 : cI x1) (h : J_floorDiv_7cf53 x0 x1 = some o) : zMet l yJ9_floorDiv_7cf53 cJ9_floorDiv_7cf53 3 (some .int) 0 D aC B kdC N [mI x0, mI x1] m (0, o, m) := by
  refine zMet.of mf_J9_floorDiv_7cf53 hwd hm (Nat.le_of_ble_eq_true rfl) (fun K e1 e2 e3 e4 e5 hk => ?_)
  subst e4
  exact w_J_floorDiv_7cf53 hk hm cx0 cx1 h
set_option maxRecDepth 100000 in
set_option maxHeartbeats 4000000 in
theorem w_J_floorMod_7cf53 {K : zK} (hk : zOk K kdC cJ9_floorMod_7cf53 3 (some .int) RJ9 0)  {x0 : Int} {x1 : Int} {m : zM} {o : Int}  (hm : zG kdC m) (cx0 : cI x0) (cx1 : cI x1) (h : J_floorMod_7cf53 x0 x1 = some o) : GoAt K m [(0, mI x0), (1, mI x1)] [] 0 (0, o, m) := by
  unfold J_floorMod_7cf53 at h
  refine g_iload_n hk 0 rfl dJ9_floorMod_7cf53_0 ?_
  refine g_iload_n hk 1 rfl dJ9_floorMod_7cf53_1 ?_
  obtain ⟨hz1, h⟩ := g_nz h
  refine g_irem hk cx1 hz1 dJ9_floorMod_7cf53_2 ?_
  refine g_istore_n hk rfl (lv' := [(2, mI (rmI x0 x1)), (0, mI x0), (1, mI x1)]) (Nat.le_of_ble_eq_true rfl) rfl dJ9_floorMod_7cf53_3 ?_
  refine g_iload_n hk 1 rfl dJ9_floorMod_7cf53_4 ?_
  refine g_iload_n hk 2 rfl dJ9_floorMod_7cf53_5 ?_
  refine g_ixor hk dJ9_floorMod_7cf53_6 ?_
  refine g_if_ge hk (cI_t _) dJ9_floorMod_7cf53_7 h (fun b2 h => ?_) (fun b2 h => ?_)
  · refine g_iload_n hk 0 rfl dJ9_floorMod_7cf53_10 ?_
    refine g_if_eq hk (cI_t _) dJ9_floorMod_7cf53_11 h (fun b3 h => ?_) (fun b3 h => ?_)
    · refine g_iload_n hk 0 rfl dJ9_floorMod_7cf53_18 ?_
      exact g_ireturn hk (cI_t _) dJ9_floorMod_7cf53_19 (by cases h; rfl)
    · refine g_iload_n hk 0 rfl dJ9_floorMod_7cf53_14 ?_
      refine g_iload_n hk 2 rfl dJ9_floorMod_7cf53_15 ?_
      refine g_iadd hk dJ9_floorMod_7cf53_16 ?_
      exact g_ireturn hk (wI_c _) dJ9_floorMod_7cf53_17 (by cases h; rfl)
  · refine g_iload_n hk 0 rfl dJ9_floorMod_7cf53_18 ?_
    exact g_ireturn hk (cI_t _) dJ9_floorMod_7cf53_19 (by cases h; rfl)
theorem met_J_floorMod_7cf53 (l : Launch) (D : va_G) (aC : Nat → ClassId) (B N : Nat) (hwd : ∀ id, (kdC id).1 ≠ 9 → id < N) {x0 : Int} {x1 : Int} {m : zM} {o : Int} (hm : zG kdC m) (cx0 : cI x0) (cx1 : cI x1) (h : J_floorMod_7cf53 x0 x1 = some o) : zMet l yJ9_floorMod_7cf53 cJ9_floorMod_7cf53 3 (some .int) 0 D aC B kdC N [mI x0, mI x1] m (0, o, m) := by
  refine zMet.of mf_J9_floorMod_7cf53 hwd hm (Nat.le_of_ble_eq_true rfl) (fun K e1 e2 e3 e4 e5 hk => ?_)
  subst e4
  exact w_J_floorMod_7cf53 hk hm cx0 cx1 h
set_option maxRecDepth 100000 in
set_option maxHeartbeats 4000000 in
theorem w_Fo_joined {K : zK} (hk : zOk K kdC cX1_joined 5 (some .int) RX1 1)  {x0 : Int} {x1 : Int} {x2 : Int} {m : zM} {o : Int}  (hm : zG kdC m) (cx0 : cI x0) (cx1 : cI x1) (cx2 : cI x2) (h : Fo_joined x0 x1 x2 = some o) : GoAt K m [(0, mI x0), (1, mI x1), (2, mI x2)] [] 0 (0, o, m) := by
  unfold Fo_joined at h
  refine g_lconst hk (v := 0) rfl dX1_joined_0 ?_
  refine g_lstore_n hk rfl (lv' := [(3, mL 0), (0, mI x0), (1, mI x1), (2, mI x2)]) (Nat.le_of_ble_eq_true rfl) rfl dX1_joined_1 ?_
  refine g_iload_n hk 1 rfl dX1_joined_2 ?_
  rcases zite h with ⟨e1, h⟩ | ⟨e1, h⟩
  · refine g_lin hk cx0 dX1_joined_3 (by decide) e1 rfl (by decide) (tgt := 213) ?_
    refine g_iload_n hk 2 rfl dX1_joined_213 ?_
    refine g_iload_n hk 3 rfl dX1_joined_214 ?_
    refine g_imin hk cx1 cx2 lk_X1_43 ms_J9_min_7cf53 mfi_J9_min_7cf53 mfc_J9_min_7cf53 (Nat.le_of_ble_eq_true rfl) (Nat.le_of_ble_eq_true rfl) dX1_joined_215 ?_
    refine g_i2l hk (cI_min cx1 cx2) dX1_joined_218 ?_
    refine g_lstore_n hk rfl (lv' := [(3, mL (min x1 x2)), (0, mI x0), (1, mI x1), (2, mI x2)]) (Nat.le_of_ble_eq_true rfl) rfl dX1_joined_219 ?_
    refine g_goto hk dX1_joined_220 ?_
    refine g_ldc2 hk (v := (-1000000)) cn_X1_49 dX1_joined_249 ?_
    refine g_ldc2 hk (v := 1000000) cn_X1_51 dX1_joined_252 ?_
    refine g_lload_n hk 0 rfl dX1_joined_255 ?_
    refine g_lmin hk (cLk rfl) (cI_L (cI_min cx1 cx2)) lk_X1_53 ms_J9_min_f86c9 mfi_J9_min_f86c9 mfc_J9_min_f86c9 (Nat.le_of_ble_eq_true rfl) (Nat.le_of_ble_eq_true rfl) dX1_joined_256 ?_
    refine g_lmax hk (cLk rfl) (cL_min (cLk rfl) (cI_L (cI_min cx1 cx2))) lk_X1_56 ms_J9_max_f86c9 mfi_J9_max_f86c9 mfc_J9_max_f86c9 (Nat.le_of_ble_eq_true rfl) (Nat.le_of_ble_eq_true rfl) dX1_joined_259 ?_
    refine g_l2i hk (cL_max (cLk rfl) (cL_min (cLk rfl) (cI_L (cI_min cx1 cx2)))) dX1_joined_262 ?_
    exact g_ireturn hk (wI_c _) dX1_joined_263 (by cases h; rfl)
  rcases zite h with ⟨e2, h⟩ | ⟨e2, h⟩
  · refine g_lin hk cx0 dX1_joined_3 (by decide) e2 rfl (by decide) (tgt := 223) ?_
    refine g_iload_n hk 2 rfl dX1_joined_223 ?_
    refine g_iload_n hk 3 rfl dX1_joined_224 ?_
    refine g_imax hk cx1 cx2 lk_X1_46 ms_J9_max_7cf53 mfi_J9_max_7cf53 mfc_J9_max_7cf53 (Nat.le_of_ble_eq_true rfl) (Nat.le_of_ble_eq_true rfl) dX1_joined_225 ?_
    refine g_i2l hk (cI_max cx1 cx2) dX1_joined_228 ?_
    refine g_lstore_n hk rfl (lv' := [(3, mL (max x1 x2)), (0, mI x0), (1, mI x1), (2, mI x2)]) (Nat.le_of_ble_eq_true rfl) rfl dX1_joined_229 ?_
    refine g_goto hk dX1_joined_230 ?_
    refine g_ldc2 hk (v := (-1000000)) cn_X1_49 dX1_joined_249 ?_
    refine g_ldc2 hk (v := 1000000) cn_X1_51 dX1_joined_252 ?_
    refine g_lload_n hk 0 rfl dX1_joined_255 ?_
    refine g_lmin hk (cLk rfl) (cI_L (cI_max cx1 cx2)) lk_X1_53 ms_J9_min_f86c9 mfi_J9_min_f86c9 mfc_J9_min_f86c9 (Nat.le_of_ble_eq_true rfl) (Nat.le_of_ble_eq_true rfl) dX1_joined_256 ?_
    refine g_lmax hk (cLk rfl) (cL_min (cLk rfl) (cI_L (cI_max cx1 cx2))) lk_X1_56 ms_J9_max_f86c9 mfi_J9_max_f86c9 mfc_J9_max_f86c9 (Nat.le_of_ble_eq_true rfl) (Nat.le_of_ble_eq_true rfl) dX1_joined_259 ?_
    refine g_l2i hk (cL_max (cLk rfl) (cL_min (cLk rfl) (cI_L (cI_max cx1 cx2)))) dX1_joined_262 ?_
    exact g_ireturn hk (wI_c _) dX1_joined_263 (by cases h; rfl)
  rcases zite h with ⟨e3, h⟩ | ⟨e3, h⟩
  · refine g_lin hk cx0 dX1_joined_3 (by decide) e3 rfl (by decide) (tgt := 233) ?_
    refine g_iload_n hk 2 rfl dX1_joined_233 ?_
    refine g_iload_n hk 3 rfl dX1_joined_234 ?_
    refine g_iand hk dX1_joined_235 ?_
    refine g_i2l hk (cI_t _) dX1_joined_236 ?_
    refine g_lstore_n hk rfl (lv' := [(3, mL (anI x1 x2)), (0, mI x0), (1, mI x1), (2, mI x2)]) (Nat.le_of_ble_eq_true rfl) rfl dX1_joined_237 ?_
    refine g_goto hk dX1_joined_238 ?_
    refine g_ldc2 hk (v := (-1000000)) cn_X1_49 dX1_joined_249 ?_
    refine g_ldc2 hk (v := 1000000) cn_X1_51 dX1_joined_252 ?_
    refine g_lload_n hk 0 rfl dX1_joined_255 ?_
    refine g_lmin hk (cLk rfl) (cI_L (cI_t _)) lk_X1_53 ms_J9_min_f86c9 mfi_J9_min_f86c9 mfc_J9_min_f86c9 (Nat.le_of_ble_eq_true rfl) (Nat.le_of_ble_eq_true rfl) dX1_joined_256 ?_
    refine g_lmax hk (cLk rfl) (cL_min (cLk rfl) (cI_L (cI_t _))) lk_X1_56 ms_J9_max_f86c9 mfi_J9_max_f86c9 mfc_J9_max_f86c9 (Nat.le_of_ble_eq_true rfl) (Nat.le_of_ble_eq_true rfl) dX1_joined_259 ?_
    refine g_l2i hk (cL_max (cLk rfl) (cL_min (cLk rfl) (cI_L (cI_t _)))) dX1_joined_262 ?_
    exact g_ireturn hk (wI_c _) dX1_joined_263 (by cases h; rfl)
  rcases zite h with ⟨e4, h⟩ | ⟨e4, h⟩
  · refine g_lin hk cx0 dX1_joined_3 (by decide) e4 rfl (by decide) (tgt := 241) ?_
    refine g_iload_n hk 2 rfl dX1_joined_241 ?_
    refine g_iload_n hk 3 rfl dX1_joined_242 ?_
    refine g_ior hk dX1_joined_243 ?_
    refine g_i2l hk (cI_t _) dX1_joined_244 ?_
    refine g_lstore_n hk rfl (lv' := [(3, mL (orI x1 x2)), (0, mI x0), (1, mI x1), (2, mI x2)]) (Nat.le_of_ble_eq_true rfl) rfl dX1_joined_245 ?_
    refine g_goto hk dX1_joined_246 ?_
    refine g_ldc2 hk (v := (-1000000)) cn_X1_49 dX1_joined_249 ?_
    refine g_ldc2 hk (v := 1000000) cn_X1_51 dX1_joined_252 ?_
    refine g_lload_n hk 0 rfl dX1_joined_255 ?_
    refine g_lmin hk (cLk rfl) (cI_L (cI_t _)) lk_X1_53 ms_J9_min_f86c9 mfi_J9_min_f86c9 mfc_J9_min_f86c9 (Nat.le_of_ble_eq_true rfl) (Nat.le_of_ble_eq_true rfl) dX1_joined_256 ?_
    refine g_lmax hk (cLk rfl) (cL_min (cLk rfl) (cI_L (cI_t _))) lk_X1_56 ms_J9_max_f86c9 mfi_J9_max_f86c9 mfc_J9_max_f86c9 (Nat.le_of_ble_eq_true rfl) (Nat.le_of_ble_eq_true rfl) dX1_joined_259 ?_
    refine g_l2i hk (cL_max (cLk rfl) (cL_min (cLk rfl) (cI_L (cI_t _)))) dX1_joined_262 ?_
    exact g_ireturn hk (wI_c _) dX1_joined_263 (by cases h; rfl)
  rcases zite h with ⟨e5, h⟩ | ⟨e5, h⟩
  · refine g_lin hk cx0 dX1_joined_3 (by decide) e5 rfl (by decide) (tgt := 153) ?_
    refine g_iload_n hk 3 rfl dX1_joined_153 ?_
    refine g_if_ne hk cx2 dX1_joined_154 h (fun b13 h => ?_) (fun b13 h => ?_)
    · refine g_lconst hk (v := 0) rfl dX1_joined_157 ?_
      refine g_goto hk dX1_joined_158 ?_
      refine g_lstore_n hk rfl (lv' := [(3, mL 0), (0, mI x0), (1, mI x1), (2, mI x2)]) (Nat.le_of_ble_eq_true rfl) rfl dX1_joined_167 ?_
      refine g_goto hk dX1_joined_168 ?_
      refine g_ldc2 hk (v := (-1000000)) cn_X1_49 dX1_joined_249 ?_
      refine g_ldc2 hk (v := 1000000) cn_X1_51 dX1_joined_252 ?_
      refine g_lload_n hk 0 rfl dX1_joined_255 ?_
      refine g_lmin hk (cLk rfl) (cLk rfl) lk_X1_53 ms_J9_min_f86c9 mfi_J9_min_f86c9 mfc_J9_min_f86c9 (Nat.le_of_ble_eq_true rfl) (Nat.le_of_ble_eq_true rfl) dX1_joined_256 ?_
      refine g_lmax hk (cLk rfl) (cL_min (cLk rfl) (cLk rfl)) lk_X1_56 ms_J9_max_f86c9 mfi_J9_max_f86c9 mfc_J9_max_f86c9 (Nat.le_of_ble_eq_true rfl) (Nat.le_of_ble_eq_true rfl) dX1_joined_259 ?_
      refine g_l2i hk (cL_max (cLk rfl) (cL_min (cLk rfl) (cLk rfl))) dX1_joined_262 ?_
      exact g_ireturn hk (wI_c _) dX1_joined_263 (by cases h; rfl)
    · refine g_iload_n hk 2 rfl dX1_joined_161 ?_
      refine g_iload_n hk 3 rfl dX1_joined_162 ?_
      obtain ⟨r14, e15, h⟩ := zbind h
      refine g_callSi hk (st := []) mf_J9_floorMod_7cf53 lk_X1_40 ms_J9_floorMod_7cf53 (by decide) rfl (Nat.le_of_ble_eq_true rfl) rfl dX1_joined_163 (met_J_floorMod_7cf53 _ _ _ _ _ hk.wd hm cx1 cx2 e15) (fun hm c16 => ?_)
      refine g_i2l hk c16 dX1_joined_166 ?_
      refine g_lstore_n hk rfl (lv' := [(3, mL r14), (0, mI x0), (1, mI x1), (2, mI x2)]) (Nat.le_of_ble_eq_true rfl) rfl dX1_joined_167 ?_
      refine g_goto hk dX1_joined_168 ?_
      refine g_ldc2 hk (v := (-1000000)) cn_X1_49 dX1_joined_249 ?_
      refine g_ldc2 hk (v := 1000000) cn_X1_51 dX1_joined_252 ?_
      refine g_lload_n hk 0 rfl dX1_joined_255 ?_
      refine g_lmin hk (cLk rfl) (cI_L c16) lk_X1_53 ms_J9_min_f86c9 mfi_J9_min_f86c9 mfc_J9_min_f86c9 (Nat.le_of_ble_eq_true rfl) (Nat.le_of_ble_eq_true rfl) dX1_joined_256 ?_
      refine g_lmax hk (cLk rfl) (cL_min (cLk rfl) (cI_L c16)) lk_X1_56 ms_J9_max_f86c9 mfi_J9_max_f86c9 mfc_J9_max_f86c9 (Nat.le_of_ble_eq_true rfl) (Nat.le_of_ble_eq_true rfl) dX1_joined_259 ?_
      refine g_l2i hk (cL_max (cLk rfl) (cL_min (cLk rfl) (cI_L c16))) dX1_joined_262 ?_
      exact g_ireturn hk (wI_c _) dX1_joined_263 (by cases h; rfl)
  rcases zite h with ⟨e6, h⟩ | ⟨e6, h⟩
  · refine g_lin hk cx0 dX1_joined_3 (by decide) e6 rfl (by decide) (tgt := 126) ?_
    refine g_iload_n hk 2 rfl dX1_joined_126 ?_
    refine g_i2l hk cx1 dX1_joined_127 ?_
    refine g_iload_n hk 3 rfl dX1_joined_128 ?_
    refine g_i2l hk cx2 dX1_joined_129 ?_
    refine g_lmul hk dX1_joined_130 ?_
    refine g_letl (wL_c _) h (fun v17 cv17 h => ?_)
    refine g_lstore_n hk rfl (lv' := [(3, mL v17), (0, mI x0), (1, mI x1), (2, mI x2)]) (Nat.le_of_ble_eq_true rfl) rfl dX1_joined_131 ?_
    refine g_goto hk dX1_joined_132 ?_
    refine g_ldc2 hk (v := (-1000000)) cn_X1_49 dX1_joined_249 ?_
    refine g_ldc2 hk (v := 1000000) cn_X1_51 dX1_joined_252 ?_
    refine g_lload_n hk 0 rfl dX1_joined_255 ?_
    refine g_lmin hk (cLk rfl) cv17 lk_X1_53 ms_J9_min_f86c9 mfi_J9_min_f86c9 mfc_J9_min_f86c9 (Nat.le_of_ble_eq_true rfl) (Nat.le_of_ble_eq_true rfl) dX1_joined_256 ?_
    refine g_lmax hk (cLk rfl) (cL_min (cLk rfl) cv17) lk_X1_56 ms_J9_max_f86c9 mfi_J9_max_f86c9 mfc_J9_max_f86c9 (Nat.le_of_ble_eq_true rfl) (Nat.le_of_ble_eq_true rfl) dX1_joined_259 ?_
    refine g_l2i hk (cL_max (cLk rfl) (cL_min (cLk rfl) cv17)) dX1_joined_262 ?_
    exact g_ireturn hk (wI_c _) dX1_joined_263 (by cases h; rfl)
  rcases zite h with ⟨e7, h⟩ | ⟨e7, h⟩
  · refine g_lin hk cx0 dX1_joined_3 (by decide) e7 rfl (by decide) (tgt := 108) ?_
    refine g_iload_n hk 2 rfl dX1_joined_108 ?_
    refine g_i2l hk cx1 dX1_joined_109 ?_
    refine g_iload_n hk 3 rfl dX1_joined_110 ?_
    refine g_i2l hk cx2 dX1_joined_111 ?_
    refine g_ladd hk dX1_joined_112 ?_
    refine g_letl (wL_c _) h (fun v18 cv18 h => ?_)
    refine g_lstore_n hk rfl (lv' := [(3, mL v18), (0, mI x0), (1, mI x1), (2, mI x2)]) (Nat.le_of_ble_eq_true rfl) rfl dX1_joined_113 ?_
    refine g_goto hk dX1_joined_114 ?_
    refine g_ldc2 hk (v := (-1000000)) cn_X1_49 dX1_joined_249 ?_
    refine g_ldc2 hk (v := 1000000) cn_X1_51 dX1_joined_252 ?_
    refine g_lload_n hk 0 rfl dX1_joined_255 ?_
    refine g_lmin hk (cLk rfl) cv18 lk_X1_53 ms_J9_min_f86c9 mfi_J9_min_f86c9 mfc_J9_min_f86c9 (Nat.le_of_ble_eq_true rfl) (Nat.le_of_ble_eq_true rfl) dX1_joined_256 ?_
    refine g_lmax hk (cLk rfl) (cL_min (cLk rfl) cv18) lk_X1_56 ms_J9_max_f86c9 mfi_J9_max_f86c9 mfc_J9_max_f86c9 (Nat.le_of_ble_eq_true rfl) (Nat.le_of_ble_eq_true rfl) dX1_joined_259 ?_
    refine g_l2i hk (cL_max (cLk rfl) (cL_min (cLk rfl) cv18)) dX1_joined_262 ?_
    exact g_ireturn hk (wI_c _) dX1_joined_263 (by cases h; rfl)
  rcases zite h with ⟨e8, h⟩ | ⟨e8, h⟩
  · refine g_lin hk cx0 dX1_joined_3 (by decide) e8 rfl (by decide) (tgt := 117) ?_
    refine g_iload_n hk 2 rfl dX1_joined_117 ?_
    refine g_i2l hk cx1 dX1_joined_118 ?_
    refine g_iload_n hk 3 rfl dX1_joined_119 ?_
    refine g_i2l hk cx2 dX1_joined_120 ?_
    refine g_lsub hk dX1_joined_121 ?_
    refine g_letl (wL_c _) h (fun v19 cv19 h => ?_)
    refine g_lstore_n hk rfl (lv' := [(3, mL v19), (0, mI x0), (1, mI x1), (2, mI x2)]) (Nat.le_of_ble_eq_true rfl) rfl dX1_joined_122 ?_
    refine g_goto hk dX1_joined_123 ?_
    refine g_ldc2 hk (v := (-1000000)) cn_X1_49 dX1_joined_249 ?_
    refine g_ldc2 hk (v := 1000000) cn_X1_51 dX1_joined_252 ?_
    refine g_lload_n hk 0 rfl dX1_joined_255 ?_
    refine g_lmin hk (cLk rfl) cv19 lk_X1_53 ms_J9_min_f86c9 mfi_J9_min_f86c9 mfc_J9_min_f86c9 (Nat.le_of_ble_eq_true rfl) (Nat.le_of_ble_eq_true rfl) dX1_joined_256 ?_
    refine g_lmax hk (cLk rfl) (cL_min (cLk rfl) cv19) lk_X1_56 ms_J9_max_f86c9 mfi_J9_max_f86c9 mfc_J9_max_f86c9 (Nat.le_of_ble_eq_true rfl) (Nat.le_of_ble_eq_true rfl) dX1_joined_259 ?_
    refine g_l2i hk (cL_max (cLk rfl) (cL_min (cLk rfl) cv19)) dX1_joined_262 ?_
    exact g_ireturn hk (wI_c _) dX1_joined_263 (by cases h; rfl)
  rcases zite h with ⟨e9, h⟩ | ⟨e9, h⟩
  · refine g_lin hk cx0 dX1_joined_3 (by decide) e9 rfl (by decide) (tgt := 135) ?_
    refine g_iload_n hk 3 rfl dX1_joined_135 ?_
    refine g_if_ne hk cx2 dX1_joined_136 h (fun b20 h => ?_) (fun b20 h => ?_)
    · refine g_lconst hk (v := 0) rfl dX1_joined_139 ?_
      refine g_goto hk dX1_joined_140 ?_
      refine g_lstore_n hk rfl (lv' := [(3, mL 0), (0, mI x0), (1, mI x1), (2, mI x2)]) (Nat.le_of_ble_eq_true rfl) rfl dX1_joined_149 ?_
      refine g_goto hk dX1_joined_150 ?_
      refine g_ldc2 hk (v := (-1000000)) cn_X1_49 dX1_joined_249 ?_
      refine g_ldc2 hk (v := 1000000) cn_X1_51 dX1_joined_252 ?_
      refine g_lload_n hk 0 rfl dX1_joined_255 ?_
      refine g_lmin hk (cLk rfl) (cLk rfl) lk_X1_53 ms_J9_min_f86c9 mfi_J9_min_f86c9 mfc_J9_min_f86c9 (Nat.le_of_ble_eq_true rfl) (Nat.le_of_ble_eq_true rfl) dX1_joined_256 ?_
      refine g_lmax hk (cLk rfl) (cL_min (cLk rfl) (cLk rfl)) lk_X1_56 ms_J9_max_f86c9 mfi_J9_max_f86c9 mfc_J9_max_f86c9 (Nat.le_of_ble_eq_true rfl) (Nat.le_of_ble_eq_true rfl) dX1_joined_259 ?_
      refine g_l2i hk (cL_max (cLk rfl) (cL_min (cLk rfl) (cLk rfl))) dX1_joined_262 ?_
      exact g_ireturn hk (wI_c _) dX1_joined_263 (by cases h; rfl)
    · refine g_iload_n hk 2 rfl dX1_joined_143 ?_
      refine g_iload_n hk 3 rfl dX1_joined_144 ?_
      obtain ⟨r21, e22, h⟩ := zbind h
      refine g_callSi hk (st := []) mf_J9_floorDiv_7cf53 lk_X1_34 ms_J9_floorDiv_7cf53 (by decide) rfl (Nat.le_of_ble_eq_true rfl) rfl dX1_joined_145 (met_J_floorDiv_7cf53 _ _ _ _ _ hk.wd hm cx1 cx2 e22) (fun hm c23 => ?_)
      refine g_i2l hk c23 dX1_joined_148 ?_
      refine g_lstore_n hk rfl (lv' := [(3, mL r21), (0, mI x0), (1, mI x1), (2, mI x2)]) (Nat.le_of_ble_eq_true rfl) rfl dX1_joined_149 ?_
      refine g_goto hk dX1_joined_150 ?_
      refine g_ldc2 hk (v := (-1000000)) cn_X1_49 dX1_joined_249 ?_
      refine g_ldc2 hk (v := 1000000) cn_X1_51 dX1_joined_252 ?_
      refine g_lload_n hk 0 rfl dX1_joined_255 ?_
      refine g_lmin hk (cLk rfl) (cI_L c23) lk_X1_53 ms_J9_min_f86c9 mfi_J9_min_f86c9 mfc_J9_min_f86c9 (Nat.le_of_ble_eq_true rfl) (Nat.le_of_ble_eq_true rfl) dX1_joined_256 ?_
      refine g_lmax hk (cLk rfl) (cL_min (cLk rfl) (cI_L c23)) lk_X1_56 ms_J9_max_f86c9 mfi_J9_max_f86c9 mfc_J9_max_f86c9 (Nat.le_of_ble_eq_true rfl) (Nat.le_of_ble_eq_true rfl) dX1_joined_259 ?_
      refine g_l2i hk (cL_max (cLk rfl) (cL_min (cLk rfl) (cI_L c23))) dX1_joined_262 ?_
      exact g_ireturn hk (wI_c _) dX1_joined_263 (by cases h; rfl)
  rcases zite h with ⟨e10, h⟩ | ⟨e10, h⟩
  · refine g_lin hk cx0 dX1_joined_3 (by decide) e10 rfl (by decide) (tgt := 171) ?_
    refine g_iload_n hk 2 rfl dX1_joined_171 ?_
    refine g_iload_n hk 3 rfl dX1_joined_172 ?_
    refine g_icmp_ge hk cx1 cx2 dX1_joined_173 h (fun b24 h => ?_) (fun b24 h => ?_)
    · refine g_lconst hk (v := 1) rfl dX1_joined_176 ?_
      refine g_goto hk dX1_joined_177 ?_
      refine g_lstore_n hk rfl (lv' := [(3, mL 1), (0, mI x0), (1, mI x1), (2, mI x2)]) (Nat.le_of_ble_eq_true rfl) rfl dX1_joined_181 ?_
      refine g_goto hk dX1_joined_182 ?_
      refine g_ldc2 hk (v := (-1000000)) cn_X1_49 dX1_joined_249 ?_
      refine g_ldc2 hk (v := 1000000) cn_X1_51 dX1_joined_252 ?_
      refine g_lload_n hk 0 rfl dX1_joined_255 ?_
      refine g_lmin hk (cLk rfl) (cLk rfl) lk_X1_53 ms_J9_min_f86c9 mfi_J9_min_f86c9 mfc_J9_min_f86c9 (Nat.le_of_ble_eq_true rfl) (Nat.le_of_ble_eq_true rfl) dX1_joined_256 ?_
      refine g_lmax hk (cLk rfl) (cL_min (cLk rfl) (cLk rfl)) lk_X1_56 ms_J9_max_f86c9 mfi_J9_max_f86c9 mfc_J9_max_f86c9 (Nat.le_of_ble_eq_true rfl) (Nat.le_of_ble_eq_true rfl) dX1_joined_259 ?_
      refine g_l2i hk (cL_max (cLk rfl) (cL_min (cLk rfl) (cLk rfl))) dX1_joined_262 ?_
      exact g_ireturn hk (wI_c _) dX1_joined_263 (by cases h; rfl)
    · refine g_lconst hk (v := 0) rfl dX1_joined_180 ?_
      refine g_lstore_n hk rfl (lv' := [(3, mL 0), (0, mI x0), (1, mI x1), (2, mI x2)]) (Nat.le_of_ble_eq_true rfl) rfl dX1_joined_181 ?_
      refine g_goto hk dX1_joined_182 ?_
      refine g_ldc2 hk (v := (-1000000)) cn_X1_49 dX1_joined_249 ?_
      refine g_ldc2 hk (v := 1000000) cn_X1_51 dX1_joined_252 ?_
      refine g_lload_n hk 0 rfl dX1_joined_255 ?_
      refine g_lmin hk (cLk rfl) (cLk rfl) lk_X1_53 ms_J9_min_f86c9 mfi_J9_min_f86c9 mfc_J9_min_f86c9 (Nat.le_of_ble_eq_true rfl) (Nat.le_of_ble_eq_true rfl) dX1_joined_256 ?_
      refine g_lmax hk (cLk rfl) (cL_min (cLk rfl) (cLk rfl)) lk_X1_56 ms_J9_max_f86c9 mfi_J9_max_f86c9 mfc_J9_max_f86c9 (Nat.le_of_ble_eq_true rfl) (Nat.le_of_ble_eq_true rfl) dX1_joined_259 ?_
      refine g_l2i hk (cL_max (cLk rfl) (cL_min (cLk rfl) (cLk rfl))) dX1_joined_262 ?_
      exact g_ireturn hk (wI_c _) dX1_joined_263 (by cases h; rfl)
  rcases zite h with ⟨e11, h⟩ | ⟨e11, h⟩
  · refine g_lin hk cx0 dX1_joined_3 (by decide) e11 rfl (by decide) (tgt := 199) ?_
    refine g_iload_n hk 2 rfl dX1_joined_199 ?_
    refine g_iload_n hk 3 rfl dX1_joined_200 ?_
    refine g_icmp_ne hk cx1 cx2 dX1_joined_201 h (fun b25 h => ?_) (fun b25 h => ?_)
    · refine g_lconst hk (v := 1) rfl dX1_joined_204 ?_
      refine g_goto hk dX1_joined_205 ?_
      refine g_lstore_n hk rfl (lv' := [(3, mL 1), (0, mI x0), (1, mI x1), (2, mI x2)]) (Nat.le_of_ble_eq_true rfl) rfl dX1_joined_209 ?_
      refine g_goto hk dX1_joined_210 ?_
      refine g_ldc2 hk (v := (-1000000)) cn_X1_49 dX1_joined_249 ?_
      refine g_ldc2 hk (v := 1000000) cn_X1_51 dX1_joined_252 ?_
      refine g_lload_n hk 0 rfl dX1_joined_255 ?_
      refine g_lmin hk (cLk rfl) (cLk rfl) lk_X1_53 ms_J9_min_f86c9 mfi_J9_min_f86c9 mfc_J9_min_f86c9 (Nat.le_of_ble_eq_true rfl) (Nat.le_of_ble_eq_true rfl) dX1_joined_256 ?_
      refine g_lmax hk (cLk rfl) (cL_min (cLk rfl) (cLk rfl)) lk_X1_56 ms_J9_max_f86c9 mfi_J9_max_f86c9 mfc_J9_max_f86c9 (Nat.le_of_ble_eq_true rfl) (Nat.le_of_ble_eq_true rfl) dX1_joined_259 ?_
      refine g_l2i hk (cL_max (cLk rfl) (cL_min (cLk rfl) (cLk rfl))) dX1_joined_262 ?_
      exact g_ireturn hk (wI_c _) dX1_joined_263 (by cases h; rfl)
    · refine g_lconst hk (v := 0) rfl dX1_joined_208 ?_
      refine g_lstore_n hk rfl (lv' := [(3, mL 0), (0, mI x0), (1, mI x1), (2, mI x2)]) (Nat.le_of_ble_eq_true rfl) rfl dX1_joined_209 ?_
      refine g_goto hk dX1_joined_210 ?_
      refine g_ldc2 hk (v := (-1000000)) cn_X1_49 dX1_joined_249 ?_
      refine g_ldc2 hk (v := 1000000) cn_X1_51 dX1_joined_252 ?_
      refine g_lload_n hk 0 rfl dX1_joined_255 ?_
      refine g_lmin hk (cLk rfl) (cLk rfl) lk_X1_53 ms_J9_min_f86c9 mfi_J9_min_f86c9 mfc_J9_min_f86c9 (Nat.le_of_ble_eq_true rfl) (Nat.le_of_ble_eq_true rfl) dX1_joined_256 ?_
      refine g_lmax hk (cLk rfl) (cL_min (cLk rfl) (cLk rfl)) lk_X1_56 ms_J9_max_f86c9 mfi_J9_max_f86c9 mfc_J9_max_f86c9 (Nat.le_of_ble_eq_true rfl) (Nat.le_of_ble_eq_true rfl) dX1_joined_259 ?_
      refine g_l2i hk (cL_max (cLk rfl) (cL_min (cLk rfl) (cLk rfl))) dX1_joined_262 ?_
      exact g_ireturn hk (wI_c _) dX1_joined_263 (by cases h; rfl)
  rcases zite h with ⟨e12, h⟩ | ⟨e12, h⟩
  · refine g_lin hk cx0 dX1_joined_3 (by decide) e12 rfl (by decide) (tgt := 185) ?_
    refine g_iload_n hk 2 rfl dX1_joined_185 ?_
    refine g_iload_n hk 3 rfl dX1_joined_186 ?_
    refine g_icmp_le hk cx1 cx2 dX1_joined_187 h (fun b26 h => ?_) (fun b26 h => ?_)
    · refine g_lconst hk (v := 1) rfl dX1_joined_190 ?_
      refine g_goto hk dX1_joined_191 ?_
      refine g_lstore_n hk rfl (lv' := [(3, mL 1), (0, mI x0), (1, mI x1), (2, mI x2)]) (Nat.le_of_ble_eq_true rfl) rfl dX1_joined_195 ?_
      refine g_goto hk dX1_joined_196 ?_
      refine g_ldc2 hk (v := (-1000000)) cn_X1_49 dX1_joined_249 ?_
      refine g_ldc2 hk (v := 1000000) cn_X1_51 dX1_joined_252 ?_
      refine g_lload_n hk 0 rfl dX1_joined_255 ?_
      refine g_lmin hk (cLk rfl) (cLk rfl) lk_X1_53 ms_J9_min_f86c9 mfi_J9_min_f86c9 mfc_J9_min_f86c9 (Nat.le_of_ble_eq_true rfl) (Nat.le_of_ble_eq_true rfl) dX1_joined_256 ?_
      refine g_lmax hk (cLk rfl) (cL_min (cLk rfl) (cLk rfl)) lk_X1_56 ms_J9_max_f86c9 mfi_J9_max_f86c9 mfc_J9_max_f86c9 (Nat.le_of_ble_eq_true rfl) (Nat.le_of_ble_eq_true rfl) dX1_joined_259 ?_
      refine g_l2i hk (cL_max (cLk rfl) (cL_min (cLk rfl) (cLk rfl))) dX1_joined_262 ?_
      exact g_ireturn hk (wI_c _) dX1_joined_263 (by cases h; rfl)
    · refine g_lconst hk (v := 0) rfl dX1_joined_194 ?_
      refine g_lstore_n hk rfl (lv' := [(3, mL 0), (0, mI x0), (1, mI x1), (2, mI x2)]) (Nat.le_of_ble_eq_true rfl) rfl dX1_joined_195 ?_
      refine g_goto hk dX1_joined_196 ?_
      refine g_ldc2 hk (v := (-1000000)) cn_X1_49 dX1_joined_249 ?_
      refine g_ldc2 hk (v := 1000000) cn_X1_51 dX1_joined_252 ?_
      refine g_lload_n hk 0 rfl dX1_joined_255 ?_
      refine g_lmin hk (cLk rfl) (cLk rfl) lk_X1_53 ms_J9_min_f86c9 mfi_J9_min_f86c9 mfc_J9_min_f86c9 (Nat.le_of_ble_eq_true rfl) (Nat.le_of_ble_eq_true rfl) dX1_joined_256 ?_
      refine g_lmax hk (cLk rfl) (cL_min (cLk rfl) (cLk rfl)) lk_X1_56 ms_J9_max_f86c9 mfi_J9_max_f86c9 mfc_J9_max_f86c9 (Nat.le_of_ble_eq_true rfl) (Nat.le_of_ble_eq_true rfl) dX1_joined_259 ?_
      refine g_l2i hk (cL_max (cLk rfl) (cL_min (cLk rfl) (cLk rfl))) dX1_joined_262 ?_
      exact g_ireturn hk (wI_c _) dX1_joined_263 (by cases h; rfl)
  refine g_ldef hk cx0 dX1_joined_3 (by decide) (zlk_none _ (fun q hq => by have hq : q ∈ [(3, 210), (4, 220), (7, 230), (8, 238), (37, 150), (42, 123), (43, 105), (45, 114), (47, 132), (60, 168), (61, 196), (62, 182)] := hq; simp only [List.mem_cons, List.not_mem_nil, or_false] at hq; rcases hq with rfl | rfl | rfl | rfl | rfl | rfl | rfl | rfl | rfl | rfl | rfl | rfl <;> (intro hq; first | exact e1 hq.symm | exact e2 hq.symm | exact e3 hq.symm | exact e4 hq.symm | exact e5 hq.symm | exact e6 hq.symm | exact e7 hq.symm | exact e8 hq.symm | exact e9 hq.symm | exact e10 hq.symm | exact e11 hq.symm | exact e12 hq.symm))) (by decide) (tgt := 249) ?_
  refine g_ldc2 hk (v := (-1000000)) cn_X1_49 dX1_joined_249 ?_
  refine g_ldc2 hk (v := 1000000) cn_X1_51 dX1_joined_252 ?_
  refine g_lload_n hk 0 rfl dX1_joined_255 ?_
  refine g_lmin hk (cLk rfl) (cLk rfl) lk_X1_53 ms_J9_min_f86c9 mfi_J9_min_f86c9 mfc_J9_min_f86c9 (Nat.le_of_ble_eq_true rfl) (Nat.le_of_ble_eq_true rfl) dX1_joined_256 ?_
  refine g_lmax hk (cLk rfl) (cL_min (cLk rfl) (cLk rfl)) lk_X1_56 ms_J9_max_f86c9 mfi_J9_max_f86c9 mfc_J9_max_f86c9 (Nat.le_of_ble_eq_true rfl) (Nat.le_of_ble_eq_true rfl) dX1_joined_259 ?_
  refine g_l2i hk (cL_max (cLk rfl) (cL_min (cLk rfl) (cLk rfl))) dX1_joined_262 ?_
  exact g_ireturn hk (wI_c _) dX1_joined_263 (by cases h; rfl)
theorem met_Fo_joined (l : Launch) (D : va_G) (aC : Nat → ClassId) (B N : Nat) (hwd : ∀ id, (kdC id).1 ≠ 9 → id < N) {x0 : Int} {x1 : Int} {x2 : Int} {m : zM} {o : Int} (hm : zG kdC m) (cx0 : cI x0) (cx1 : cI x1) (cx2 : cI x2) (h : Fo_joined x0 x1 x2 = some o) : zMet l yX1_joined cX1_joined 5 (some .int) 1 D aC B kdC N [mI x0, mI x1, mI x2] m (0, o, m) := by
  refine zMet.of mf_X1_joined hwd hm (Nat.le_of_ble_eq_true rfl) (fun K e1 e2 e3 e4 e5 hk => ?_)
  subst e4
  exact w_Fo_joined hk hm cx0 cx1 cx2 h
set_option maxRecDepth 100000 in
set_option maxHeartbeats 4000000 in
theorem w_Fo_valueOf_B4 {K : zK} (hk : zOk K kdC cX1_valueOf 7 (some .int) RX1 2) {k204 : Nat → Int → zM → Option (Int × zM)} {rec : Nat → Nat → Nat → Int → Int → zM → Option (Int × zM)} {o0 : Nat} {a1 : Nat} {n1 : Nat} {x2 : Int} {x3 : Int} {m : zM} {o : Int × zM} (hk204 : ∀ (o0 : Nat) (x2 : Int) (m : zM), zG kdC m → kdC o0 = (0, 1) → cI x2 → k204 o0 x2 m = some o → GoAt K m [(0, .ref (kB K + o0)), (2, mI x2)] [] 204 (0, o.1, o.2)) (hrec : ∀ (o0 : Nat) (a1 : Nat) (n1 : Nat) (x2 : Int) (x3 : Int) (m : zM), zG kdC m → kdC o0 = (0, 1) → kdC a1 = (1, n1) → cI x2 → cI x3 → rec o0 a1 n1 x2 x3 m = some o → GoAt K m [(0, .ref (kB K + o0)), (1, .ref (kB K + a1)), (2, mI x2), (3, mI x3)] [] 4 (0, o.1, o.2)) (hm : zG kdC m) (ko0 : kdC o0 = (0, 1)) (ka1 : kdC a1 = (1, n1)) (cx2 : cI x2) (cx3 : cI x3) (h : Fo_valueOf_B4 k204 rec o0 a1 n1 x2 x3 m = some o) : GoAt K m [(0, .ref (kB K + o0)), (1, .ref (kB K + a1)), (2, mI x2), (3, mI x3)] [] 4 (0, o.1, o.2) := by
  unfold Fo_valueOf_B4 at h
  refine g_iload_n hk 3 rfl dX1_valueOf_4 ?_
  refine g_aload_n hk 0 rfl dX1_valueOf_5 ?_
  have g1 := zGI (i := 1) hm ko0 rfl
  refine g_get0 hk fl_X1_18 rfl (j := 1) rfl ko0 dX1_valueOf_6 ?_
  refine g_icmp_ge hk cx3 g1 dX1_valueOf_9 h (fun b2 h => ?_) (fun b2 h => ?_)
  · refine g_aload_n hk 0 rfl dX1_valueOf_12 ?_
    refine g_get2 hk fl_X1_9 rfl ko0 hm (b := o0 + 1) rfl dX1_valueOf_13 ?_
    refine g_iload_n hk 3 rfl dX1_valueOf_16 ?_
    refine g_iald hk cx3 (kdC_s1_0 ko0) hm dX1_valueOf_17 h (fun y3 cy3 h => ?_)
    refine g_sipush hk (v := 255) rfl dX1_valueOf_18 ?_
    refine g_iand hk dX1_valueOf_21 ?_
    refine g_istore hk (lv' := [(4, mI (anI y3 255)), (0, .ref (kB K + o0)), (1, .ref (kB K + a1)), (2, mI x2), (3, mI x3)]) (Nat.le_of_ble_eq_true rfl) rfl dX1_valueOf_22 ?_
    refine g_iload hk 0 rfl dX1_valueOf_24 ?_
    obtain ⟨r4, e5, h⟩ := zbind h
    refine g_callSi hk (st := []) mf_X1_operandsOf lk_X1_22 ms_X1_operandsOf (by decide) rfl (Nat.le_of_ble_eq_true rfl) rfl dX1_valueOf_26 (met_Fo_operandsOf _ _ _ _ _ hk.wd hm (cI_t _) e5) (fun hm c6 => ?_)
    refine g_istore hk (lv' := [(5, mI r4), (4, mI (anI y3 255)), (0, .ref (kB K + o0)), (1, .ref (kB K + a1)), (2, mI x2), (3, mI x3)]) (Nat.le_of_ble_eq_true rfl) rfl dX1_valueOf_29 ?_
    refine g_iload_n hk 4 rfl dX1_valueOf_31 ?_
    refine g_iload hk 0 rfl dX1_valueOf_32 ?_
    refine g_isub hk dX1_valueOf_34 ?_
    refine g_let (wI_c _) h (fun v7 cv7 h => ?_)
    refine g_istore hk (lv' := [(6, mI v7), (5, mI r4), (4, mI (anI y3 255)), (0, .ref (kB K + o0)), (1, .ref (kB K + a1)), (2, mI x2), (3, mI x3)]) (Nat.le_of_ble_eq_true rfl) rfl dX1_valueOf_35 ?_
    refine g_iload hk 0 rfl dX1_valueOf_37 ?_
    refine g_if_lt hk cv7 dX1_valueOf_39 h (fun b8 h => ?_) (fun b8 h => ?_)
    · refine g_iconst hk (v := 0) rfl dX1_valueOf_49 ?_
      exact g_ireturn hk (cIk rfl) dX1_valueOf_50 (by cases h; rfl)
    · refine g_iload hk 0 rfl dX1_valueOf_42 ?_
      refine g_bipush hk (v := 64) rfl dX1_valueOf_44 ?_
      refine g_icmp_lt hk cv7 (cIk rfl) dX1_valueOf_46 h (fun b9 h => ?_) (fun b9 h => ?_)
      · refine g_iload hk 1 rfl dX1_valueOf_51 ?_
        rcases zite h with ⟨e10, h⟩ | ⟨e10, h⟩
        · refine g_tin hk c6 dX1_valueOf_53 e10 (by decide) (by decide) rfl (by decide) (tgt := 80) ?_
          refine g_aload_n hk 3 rfl dX1_valueOf_80 ?_
          refine g_get2 hk fl_X1_15 rfl ko0 hm (b := o0 + 2) rfl dX1_valueOf_81 ?_
          refine g_iload hk 0 rfl dX1_valueOf_84 ?_
          refine g_iload hk 2 rfl dX1_valueOf_86 ?_
          refine g_aload_n hk 3 rfl dX1_valueOf_88 ?_
          refine g_get2 hk fl_X1_9 rfl ko0 hm (b := o0 + 1) rfl dX1_valueOf_89 ?_
          refine g_iload_n hk 6 rfl dX1_valueOf_92 ?_
          refine g_iald hk cx3 (kdC_s1_0 ko0) hm dX1_valueOf_93 h (fun y13 cy13 h => ?_)
          refine g_bipush hk (v := 8) rfl dX1_valueOf_94 ?_
          refine g_ishr hk dX1_valueOf_96 ?_
          refine g_aload_n hk 4 rfl dX1_valueOf_97 ?_
          obtain ⟨r14, e15, h⟩ := zbind h
          refine g_callSi hk (st := [mI v7, .ref (kB K + (o0 + 2))]) mf_X1_pushed lk_X1_26 ms_X1_pushed (by decide) rfl (Nat.le_of_ble_eq_true rfl) rfl dX1_valueOf_98 (met_Fo_pushed _ _ _ _ _ hk.wd hm (cI_t _) (cI_t _) ka1 e15) (fun hm c16 => ?_)
          refine g_iast hk cv7 c16 (kdC_s1_2 ko0) hm dX1_valueOf_101 h (fun m17 hm h => ?_)
          refine g_goto hk dX1_valueOf_102 ?_
          refine g_iload hk 0 rfl dX1_valueOf_193 ?_
          refine g_iconst hk (v := 1) rfl dX1_valueOf_195 ?_
          refine g_iadd hk dX1_valueOf_196 ?_
          refine g_let (wI_c _) h (fun v18 cv18 h => ?_)
          refine g_istore_n hk rfl (lv' := [(2, mI v18), (6, mI v7), (5, mI r4), (4, mI (anI y3 255)), (0, .ref (kB K + o0)), (1, .ref (kB K + a1)), (3, mI x3)]) (Nat.le_of_ble_eq_true rfl) rfl dX1_valueOf_197 ?_
          refine g_iinc hk (lv' := [(3, mI (wI (x3 + 1))), (2, mI v18), (6, mI v7), (5, mI r4), (4, mI (anI y3 255)), (0, .ref (kB K + o0)), (1, .ref (kB K + a1))]) 6 rfl (Nat.le_of_ble_eq_true rfl) rfl dX1_valueOf_198 ?_
          refine g_goto hk dX1_valueOf_201 ?_
          refine GoAt.sub [5, 6, 1, 0] rfl ?_
          exact hrec _ _ _ _ _ _ hm ko0 ka1 cv18 (wI_c _) h
        rcases zite h with ⟨e11, h⟩ | ⟨e11, h⟩
        · refine g_tin hk c6 dX1_valueOf_53 e11 (by decide) (by decide) rfl (by decide) (tgt := 105) ?_
          refine g_aload_n hk 3 rfl dX1_valueOf_105 ?_
          refine g_get2 hk fl_X1_15 rfl ko0 hm (b := o0 + 2) rfl dX1_valueOf_106 ?_
          refine g_iload hk 0 rfl dX1_valueOf_109 ?_
          refine g_iconst hk (v := 1) rfl dX1_valueOf_111 ?_
          refine g_aload_n hk 3 rfl dX1_valueOf_112 ?_
          refine g_get2 hk fl_X1_15 rfl ko0 hm (b := o0 + 2) rfl dX1_valueOf_113 ?_
          refine g_iload hk 0 rfl dX1_valueOf_116 ?_
          refine g_iald hk cv7 (kdC_s1_2 ko0) hm dX1_valueOf_118 h (fun y19 cy19 h => ?_)
          refine g_isub hk dX1_valueOf_119 ?_
          refine g_iast hk cv7 (wI_c _) (kdC_s1_2 ko0) hm dX1_valueOf_120 h (fun m20 hm h => ?_)
          refine g_goto hk dX1_valueOf_121 ?_
          refine g_iload hk 0 rfl dX1_valueOf_193 ?_
          refine g_iconst hk (v := 1) rfl dX1_valueOf_195 ?_
          refine g_iadd hk dX1_valueOf_196 ?_
          refine g_let (wI_c _) h (fun v21 cv21 h => ?_)
          refine g_istore_n hk rfl (lv' := [(2, mI v21), (6, mI v7), (5, mI r4), (4, mI (anI y3 255)), (0, .ref (kB K + o0)), (1, .ref (kB K + a1)), (3, mI x3)]) (Nat.le_of_ble_eq_true rfl) rfl dX1_valueOf_197 ?_
          refine g_iinc hk (lv' := [(3, mI (wI (x3 + 1))), (2, mI v21), (6, mI v7), (5, mI r4), (4, mI (anI y3 255)), (0, .ref (kB K + o0)), (1, .ref (kB K + a1))]) 6 rfl (Nat.le_of_ble_eq_true rfl) rfl dX1_valueOf_198 ?_
          refine g_goto hk dX1_valueOf_201 ?_
          refine GoAt.sub [5, 6, 1, 0] rfl ?_
          exact hrec _ _ _ _ _ _ hm ko0 ka1 cv21 (wI_c _) h
        rcases zite h with ⟨e12, h⟩ | ⟨e12, h⟩
        · refine g_tin hk c6 dX1_valueOf_53 e12 (by decide) (by decide) rfl (by decide) (tgt := 124) ?_
          refine g_aload_n hk 3 rfl dX1_valueOf_124 ?_
          refine g_get2 hk fl_X1_15 rfl ko0 hm (b := o0 + 2) rfl dX1_valueOf_125 ?_
          refine g_iload hk 0 rfl dX1_valueOf_128 ?_
          refine g_iload hk 2 rfl dX1_valueOf_130 ?_
          refine g_aload_n hk 3 rfl dX1_valueOf_132 ?_
          refine g_get2 hk fl_X1_15 rfl ko0 hm (b := o0 + 2) rfl dX1_valueOf_133 ?_
          refine g_iload hk 0 rfl dX1_valueOf_136 ?_
          refine g_iald hk cv7 (kdC_s1_2 ko0) hm dX1_valueOf_138 h (fun y22 cy22 h => ?_)
          refine g_aload_n hk 3 rfl dX1_valueOf_139 ?_
          refine g_get2 hk fl_X1_15 rfl ko0 hm (b := o0 + 2) rfl dX1_valueOf_140 ?_
          refine g_iload hk 0 rfl dX1_valueOf_143 ?_
          refine g_iconst hk (v := 1) rfl dX1_valueOf_145 ?_
          refine g_iadd hk dX1_valueOf_146 ?_
          refine g_iald hk (wI_c _) (kdC_s1_2 ko0) hm dX1_valueOf_147 h (fun y23 cy23 h => ?_)
          obtain ⟨r24, e25, h⟩ := zbind h
          refine g_callSi hk (st := [mI v7, .ref (kB K + (o0 + 2))]) mf_X1_joined lk_X1_30 ms_X1_joined (by decide) rfl (Nat.le_of_ble_eq_true rfl) rfl dX1_valueOf_148 (met_Fo_joined _ _ _ _ _ hk.wd hm (cI_t _) cy22 cy23 e25) (fun hm c26 => ?_)
          refine g_iast hk cv7 c26 (kdC_s1_2 ko0) hm dX1_valueOf_151 h (fun m27 hm h => ?_)
          refine g_goto hk dX1_valueOf_152 ?_
          refine g_iload hk 0 rfl dX1_valueOf_193 ?_
          refine g_iconst hk (v := 1) rfl dX1_valueOf_195 ?_
          refine g_iadd hk dX1_valueOf_196 ?_
          refine g_let (wI_c _) h (fun v28 cv28 h => ?_)
          refine g_istore_n hk rfl (lv' := [(2, mI v28), (6, mI v7), (5, mI r4), (4, mI (anI y3 255)), (0, .ref (kB K + o0)), (1, .ref (kB K + a1)), (3, mI x3)]) (Nat.le_of_ble_eq_true rfl) rfl dX1_valueOf_197 ?_
          refine g_iinc hk (lv' := [(3, mI (wI (x3 + 1))), (2, mI v28), (6, mI v7), (5, mI r4), (4, mI (anI y3 255)), (0, .ref (kB K + o0)), (1, .ref (kB K + a1))]) 6 rfl (Nat.le_of_ble_eq_true rfl) rfl dX1_valueOf_198 ?_
          refine g_goto hk dX1_valueOf_201 ?_
          refine GoAt.sub [5, 6, 1, 0] rfl ?_
          exact hrec _ _ _ _ _ _ hm ko0 ka1 cv28 (wI_c _) h
        refine g_tout hk c6 dX1_valueOf_53 (by omega) (by decide) (tgt := 155) ?_
        refine g_aload_n hk 3 rfl dX1_valueOf_155 ?_
        refine g_get2 hk fl_X1_15 rfl ko0 hm (b := o0 + 2) rfl dX1_valueOf_156 ?_
        refine g_iload hk 0 rfl dX1_valueOf_159 ?_
        refine g_aload_n hk 3 rfl dX1_valueOf_161 ?_
        refine g_get2 hk fl_X1_15 rfl ko0 hm (b := o0 + 2) rfl dX1_valueOf_162 ?_
        refine g_iload hk 0 rfl dX1_valueOf_165 ?_
        refine g_iald hk cv7 (kdC_s1_2 ko0) hm dX1_valueOf_167 h (fun y29 cy29 h => ?_)
        refine g_if_eq hk cy29 dX1_valueOf_168 h (fun b30 h => ?_) (fun b30 h => ?_)
        · refine g_aload_n hk 3 rfl dX1_valueOf_183 ?_
          refine g_get2 hk fl_X1_15 rfl ko0 hm (b := o0 + 2) rfl dX1_valueOf_184 ?_
          refine g_iload hk 0 rfl dX1_valueOf_187 ?_
          refine g_iconst hk (v := 2) rfl dX1_valueOf_189 ?_
          refine g_iadd hk dX1_valueOf_190 ?_
          refine g_iald hk (wI_c _) (kdC_s1_2 ko0) hm dX1_valueOf_191 h (fun y31 cy31 h => ?_)
          refine g_iast hk cv7 cy31 (kdC_s1_2 ko0) hm dX1_valueOf_192 h (fun m32 hm h => ?_)
          refine g_iload hk 0 rfl dX1_valueOf_193 ?_
          refine g_iconst hk (v := 1) rfl dX1_valueOf_195 ?_
          refine g_iadd hk dX1_valueOf_196 ?_
          refine g_let (wI_c _) h (fun v33 cv33 h => ?_)
          refine g_istore_n hk rfl (lv' := [(2, mI v33), (6, mI v7), (5, mI r4), (4, mI (anI y3 255)), (0, .ref (kB K + o0)), (1, .ref (kB K + a1)), (3, mI x3)]) (Nat.le_of_ble_eq_true rfl) rfl dX1_valueOf_197 ?_
          refine g_iinc hk (lv' := [(3, mI (wI (x3 + 1))), (2, mI v33), (6, mI v7), (5, mI r4), (4, mI (anI y3 255)), (0, .ref (kB K + o0)), (1, .ref (kB K + a1))]) 6 rfl (Nat.le_of_ble_eq_true rfl) rfl dX1_valueOf_198 ?_
          refine g_goto hk dX1_valueOf_201 ?_
          refine GoAt.sub [5, 6, 1, 0] rfl ?_
          exact hrec _ _ _ _ _ _ hm ko0 ka1 cv33 (wI_c _) h
        · refine g_aload_n hk 3 rfl dX1_valueOf_171 ?_
          refine g_get2 hk fl_X1_15 rfl ko0 hm (b := o0 + 2) rfl dX1_valueOf_172 ?_
          refine g_iload hk 0 rfl dX1_valueOf_175 ?_
          refine g_iconst hk (v := 1) rfl dX1_valueOf_177 ?_
          refine g_iadd hk dX1_valueOf_178 ?_
          refine g_iald hk (wI_c _) (kdC_s1_2 ko0) hm dX1_valueOf_179 h (fun y34 cy34 h => ?_)
          refine g_goto hk dX1_valueOf_180 ?_
          refine g_iast hk cv7 cy34 (kdC_s1_2 ko0) hm dX1_valueOf_192 h (fun m35 hm h => ?_)
          refine g_iload hk 0 rfl dX1_valueOf_193 ?_
          refine g_iconst hk (v := 1) rfl dX1_valueOf_195 ?_
          refine g_iadd hk dX1_valueOf_196 ?_
          refine g_let (wI_c _) h (fun v36 cv36 h => ?_)
          refine g_istore_n hk rfl (lv' := [(2, mI v36), (6, mI v7), (5, mI r4), (4, mI (anI y3 255)), (0, .ref (kB K + o0)), (1, .ref (kB K + a1)), (3, mI x3)]) (Nat.le_of_ble_eq_true rfl) rfl dX1_valueOf_197 ?_
          refine g_iinc hk (lv' := [(3, mI (wI (x3 + 1))), (2, mI v36), (6, mI v7), (5, mI r4), (4, mI (anI y3 255)), (0, .ref (kB K + o0)), (1, .ref (kB K + a1))]) 6 rfl (Nat.le_of_ble_eq_true rfl) rfl dX1_valueOf_198 ?_
          refine g_goto hk dX1_valueOf_201 ?_
          refine GoAt.sub [5, 6, 1, 0] rfl ?_
          exact hrec _ _ _ _ _ _ hm ko0 ka1 cv36 (wI_c _) h
      · refine g_iconst hk (v := 0) rfl dX1_valueOf_49 ?_
        exact g_ireturn hk (cIk rfl) dX1_valueOf_50 (by cases h; rfl)
  · refine GoAt.sub [0, 2] rfl ?_
    exact hk204 _ _ _ hm ko0 cx2 h
theorem w_Fo_valueOf_L4 {K : zK} (hk : zOk K kdC cX1_valueOf 7 (some .int) RX1 2) {k204 : Nat → Int → zM → Option (Int × zM)} {o : Int × zM} (hk204 : ∀ (o0 : Nat) (x2 : Int) (m : zM), zG kdC m → kdC o0 = (0, 1) → cI x2 → k204 o0 x2 m = some o → GoAt K m [(0, .ref (kB K + o0)), (2, mI x2)] [] 204 (0, o.1, o.2)) : ∀ (n : Nat) (o0 : Nat) (a1 : Nat) (n1 : Nat) (x2 : Int) (x3 : Int) (m : zM), zG kdC m → kdC o0 = (0, 1) → kdC a1 = (1, n1) → cI x2 → cI x3 → Fo_valueOf_L4 k204 n o0 a1 n1 x2 x3 m = some o → GoAt K m [(0, .ref (kB K + o0)), (1, .ref (kB K + a1)), (2, mI x2), (3, mI x3)] [] 4 (0, o.1, o.2)
  | 0, o0, a1, n1, x2, x3, m, hm, ko0, ka1, cx2, cx3, h => by cases h
  | n + 1, o0, a1, n1, x2, x3, m, hm, ko0, ka1, cx2, cx3, h => w_Fo_valueOf_B4 hk hk204 (w_Fo_valueOf_L4 hk hk204 n) hm ko0 ka1 cx2 cx3 h
set_option maxRecDepth 100000 in
set_option maxHeartbeats 4000000 in
theorem w_Fo_valueOf {K : zK} (hk : zOk K kdC cX1_valueOf 7 (some .int) RX1 2)  {o0 : Nat} {a1 : Nat} {n1 : Nat} {m : zM} {o : Int × zM}  (hm : zG kdC m) (ko0 : kdC o0 = (0, 1)) (ka1 : kdC a1 = (1, n1)) (h : Fo_valueOf o0 a1 n1 m = some o) : GoAt K m [(0, .ref (kB K + o0)), (1, .ref (kB K + a1))] [] 0 (0, o.1, o.2) := by
  unfold Fo_valueOf at h
  refine g_iconst hk (v := 0) rfl dX1_valueOf_0 ?_
  refine g_istore_n hk rfl (lv' := [(2, mI 0), (0, .ref (kB K + o0)), (1, .ref (kB K + a1))]) (Nat.le_of_ble_eq_true rfl) rfl dX1_valueOf_1 ?_
  refine g_iconst hk (v := 0) rfl dX1_valueOf_2 ?_
  refine g_istore_n hk rfl (lv' := [(3, mI 0), (2, mI 0), (0, .ref (kB K + o0)), (1, .ref (kB K + a1))]) (Nat.le_of_ble_eq_true rfl) rfl dX1_valueOf_3 ?_
  refine GoAt.sub [2, 3, 1, 0] rfl ?_
  refine w_Fo_valueOf_L4 hk (fun o0_1 x2_1 m2 hm ko0_1 cx2_1 h => ?_) 1000000 _ _ _ _ _ _ hm ko0 ka1 (cIk rfl) (cIk rfl) h
  · refine g_iload_n hk 1 rfl dX1_valueOf_204 ?_
    refine g_if_le hk cx2_1 dX1_valueOf_205 h (fun b3 h => ?_) (fun b3 h => ?_)
    · refine g_aload_n hk 0 rfl dX1_valueOf_208 ?_
      refine g_get2 hk fl_X1_15 rfl ko0_1 hm (b := o0_1 + 2) rfl dX1_valueOf_209 ?_
      refine g_iload_n hk 1 rfl dX1_valueOf_212 ?_
      refine g_iconst hk (v := 1) rfl dX1_valueOf_213 ?_
      refine g_isub hk dX1_valueOf_214 ?_
      refine g_iald hk (wI_c _) (kdC_s1_2 ko0_1) hm dX1_valueOf_215 h (fun y4 cy4 h => ?_)
      refine g_goto hk dX1_valueOf_216 ?_
      exact g_ireturn hk cy4 dX1_valueOf_220 (by cases h; rfl)
    · refine g_iconst hk (v := 0) rfl dX1_valueOf_219 ?_
      exact g_ireturn hk (cIk rfl) dX1_valueOf_220 (by cases h; rfl)
theorem met_Fo_valueOf (l : Launch) (D : va_G) (aC : Nat → ClassId) (B N : Nat) (hwd : ∀ id, (kdC id).1 ≠ 9 → id < N) {o0 : Nat} {a1 : Nat} {n1 : Nat} {m : zM} {o : Int × zM} (hm : zG kdC m) (ko0 : kdC o0 = (0, 1)) (ka1 : kdC a1 = (1, n1)) (h : Fo_valueOf o0 a1 n1 m = some o) : zMet l yX1_valueOf cX1_valueOf 7 (some .int) 2 D aC B kdC N [.ref (B + o0), .ref (B + a1)] m (0, o.1, o.2) := by
  refine zMet.of mf_X1_valueOf hwd hm (Nat.le_of_ble_eq_true rfl) (fun K e1 e2 e3 e4 e5 hk => ?_)
  subst e4
  exact w_Fo_valueOf hk hm ko0 ka1 h
set_option maxRecDepth 100000 in
set_option maxHeartbeats 4000000 in
theorem w_Ke_liking {K : zK} (hk : zOk K kdC cX4_liking 6 (some .int) RX4 3)  {o1 : Nat} {o2 : Nat} {x3 : Int} {x4 : Int} {m : zM} {o : Int × zM}  (hm : zG kdC m) (ko1 : kdC o1 = (0, 10)) (ko2 : kdC o2 = (0, 7)) (cx3 : cI x3) (cx4 : cI x4) (h : Ke_liking o1 o2 x3 x4 m = some o) : GoAt K m [(0, .ref (kB K + 25)), (1, .ref (kB K + o1)), (2, .ref (kB K + o2)), (3, mI x3), (4, mI x4)] [] 0 (0, o.1, o.2) := by
  unfold Ke_liking at h
  refine g_aload_n hk 0 rfl dX4_liking_0 ?_
  refine g_aload_n hk 2 rfl dX4_liking_1 ?_
  refine g_iload_n hk 3 rfl dX4_liking_2 ?_
  refine g_iload hk 4 rfl dX4_liking_3 ?_
  obtain ⟨r1, e2, h⟩ := zbind h
  refine g_callVv hk (st := []) mf_X4_look lk_X4_26 mv_X4_look kdC_25 (by decide) rfl (Nat.le_of_ble_eq_true rfl) rfl dX4_liking_5 (met_Ke_look _ _ _ _ _ hk.wd hm ko2 cx3 cx4 e2) (fun hm => ?_)
  refine g_aload_n hk 1 rfl dX4_liking_8 ?_
  refine g_get2 hk fl_X4_30 rfl ko1 hm (b := o1 + 11) rfl dX4_liking_9 ?_
  have g4 := zGI (i := 1) hm (kdC_s10_12 ko1) rfl
  refine g_get0 hk fl_X4_36 rfl (j := 1) rfl (kdC_s10_12 ko1) dX4_liking_12 ?_
  refine g_if_le hk g4 dX4_liking_15 h (fun b5 h => ?_) (fun b5 h => ?_)
  · refine g_aload_n hk 1 rfl dX4_liking_18 ?_
    refine g_get2 hk fl_X4_30 rfl ko1 hm (b := o1 + 11) rfl dX4_liking_19 ?_
    refine g_aload_n hk 0 rfl dX4_liking_22 ?_
    refine g_get2 hk fl_X4_23 rfl kdC_25 hm (b := 29) rfl dX4_liking_23 ?_
    obtain ⟨r6, e7, h⟩ := zbind h
    refine g_callVi hk (st := []) mf_X1_valueOf lk_X4_40 mv_X1_valueOf (kdC_s10_12 ko1) (by decide) rfl (Nat.le_of_ble_eq_true rfl) rfl dX4_liking_26 (met_Fo_valueOf _ _ _ _ _ hk.wd hm (kdC_s10_12 ko1) kdC_29 e7) (fun hm c8 => ?_)
    refine g_goto hk dX4_liking_29 ?_
    refine g_istore hk (lv' := [(5, mI r6.1), (0, .ref (kB K + 25)), (1, .ref (kB K + o1)), (2, .ref (kB K + o2)), (3, mI x3), (4, mI x4)]) (Nat.le_of_ble_eq_true rfl) rfl dX4_liking_51 ?_
    refine g_iconst hk (v := 0) rfl dX4_liking_53 ?_
    refine g_sipush hk (v := 999) rfl dX4_liking_54 ?_
    refine g_iload hk 0 rfl dX4_liking_57 ?_
    refine g_imin hk (cIk rfl) c8 lk_X4_48 ms_J9_min_7cf53 mfi_J9_min_7cf53 mfc_J9_min_7cf53 (Nat.le_of_ble_eq_true rfl) (Nat.le_of_ble_eq_true rfl) dX4_liking_59 ?_
    refine g_imax hk (cIk rfl) (cI_min (cIk rfl) c8) lk_X4_54 ms_J9_max_7cf53 mfi_J9_max_7cf53 mfc_J9_max_7cf53 (Nat.le_of_ble_eq_true rfl) (Nat.le_of_ble_eq_true rfl) dX4_liking_62 ?_
    exact g_ireturn hk (cI_max (cIk rfl) (cI_min (cIk rfl) c8)) dX4_liking_65 (by cases h; rfl)
  · refine g_bipush hk (v := 47) rfl dX4_liking_32 ?_
    refine g_aload_n hk 0 rfl dX4_liking_34 ?_
    refine g_get2 hk fl_X4_23 rfl kdC_25 hm (b := 29) rfl dX4_liking_35 ?_
    refine g_iconst hk (v := 0) rfl dX4_liking_38 ?_
    refine g_iald hk (cIk rfl) kdC_29 hm dX4_liking_39 h (fun y9 cy9 h => ?_)
    refine g_iconst hk (v := 1) rfl dX4_liking_40 ?_
    refine g_aload_n hk 0 rfl dX4_liking_41 ?_
    refine g_get2 hk fl_X4_23 rfl kdC_25 hm (b := 29) rfl dX4_liking_42 ?_
    refine g_iconst hk (v := 1) rfl dX4_liking_45 ?_
    refine g_iald hk (cIk rfl) kdC_29 hm dX4_liking_46 h (fun y10 cy10 h => ?_)
    refine g_iadd hk dX4_liking_47 ?_
    obtain ⟨r11, e12, h⟩ := zbind h
    refine g_callSi hk (st := []) mf_X1_joined lk_X4_44 ms_X1_joined (by decide) rfl (Nat.le_of_ble_eq_true rfl) rfl dX4_liking_48 (met_Fo_joined _ _ _ _ _ hk.wd hm (cIk rfl) cy9 (wI_c _) e12) (fun hm c13 => ?_)
    refine g_istore hk (lv' := [(5, mI r11), (0, .ref (kB K + 25)), (1, .ref (kB K + o1)), (2, .ref (kB K + o2)), (3, mI x3), (4, mI x4)]) (Nat.le_of_ble_eq_true rfl) rfl dX4_liking_51 ?_
    refine g_iconst hk (v := 0) rfl dX4_liking_53 ?_
    refine g_sipush hk (v := 999) rfl dX4_liking_54 ?_
    refine g_iload hk 0 rfl dX4_liking_57 ?_
    refine g_imin hk (cIk rfl) c13 lk_X4_48 ms_J9_min_7cf53 mfi_J9_min_7cf53 mfc_J9_min_7cf53 (Nat.le_of_ble_eq_true rfl) (Nat.le_of_ble_eq_true rfl) dX4_liking_59 ?_
    refine g_imax hk (cIk rfl) (cI_min (cIk rfl) c13) lk_X4_54 ms_J9_max_7cf53 mfi_J9_max_7cf53 mfc_J9_max_7cf53 (Nat.le_of_ble_eq_true rfl) (Nat.le_of_ble_eq_true rfl) dX4_liking_62 ?_
    exact g_ireturn hk (cI_max (cIk rfl) (cI_min (cIk rfl) c13)) dX4_liking_65 (by cases h; rfl)
theorem met_Ke_liking (l : Launch) (D : va_G) (aC : Nat → ClassId) (B N : Nat) (hwd : ∀ id, (kdC id).1 ≠ 9 → id < N) {o1 : Nat} {o2 : Nat} {x3 : Int} {x4 : Int} {m : zM} {o : Int × zM} (hm : zG kdC m) (ko1 : kdC o1 = (0, 10)) (ko2 : kdC o2 = (0, 7)) (cx3 : cI x3) (cx4 : cI x4) (h : Ke_liking o1 o2 x3 x4 m = some o) : zMet l yX4_liking cX4_liking 6 (some .int) 3 D aC B kdC N [.ref (B + 25), .ref (B + o1), .ref (B + o2), mI x3, mI x4] m (0, o.1, o.2) := by
  refine zMet.of mf_X4_liking hwd hm (Nat.le_of_ble_eq_true rfl) (fun K e1 e2 e3 e4 e5 hk => ?_)
  subst e4
  exact w_Ke_liking hk hm ko1 ko2 cx3 cx4 h
set_option maxRecDepth 100000 in
set_option maxHeartbeats 4000000 in
theorem w_C_between {K : zK} (hk : zOk K kdC cX11_between 5 (some .int) RX11 4)  {x1 : Int} {x2 : Int} {x3 : Int} {m : zM} {o : Int × zM}  (hm : zG kdC m) (cx1 : cI x1) (cx2 : cI x2) (cx3 : cI x3) (h : C_between x1 x2 x3 m = some o) : GoAt K m [(0, .ref (kB K + 0)), (1, mI x1), (2, mI x2), (3, mI x3)] [] 0 (0, o.1, o.2) := by
  unfold C_between at h
  refine g_aload_n hk 0 rfl dX11_between_0 ?_
  refine g_get3o hk fl_X11_84 rfl (j := 12) rfl kdC_0 dX11_between_1 h (fun zz1 kzz1 h => ?_)
  refine g_iload_n hk 1 rfl dX11_between_4 ?_
  obtain ⟨r2, e3, h⟩ := zbind h
  refine g_callVz hk (st := []) mf_X10_isBeast lk_X11_156 mv_X10_isBeast kzz1 (by decide) rfl (Nat.le_of_ble_eq_true rfl) rfl dX11_between_5 (met_Zo_isBeast _ _ _ _ _ hk.wd hm kzz1 cx1 e3) (fun hm c4 => ?_)
  refine g_if_eq hk (b01 c4) dX11_between_8 h (fun b5 h => ?_) (fun b5 h => ?_)
  · refine g_iconst hk (v := (-1)) rfl dX11_between_22 ?_
    exact g_ireturn hk (cIk rfl) dX11_between_23 (by cases h; rfl)
  · refine g_aload_n hk 0 rfl dX11_between_11 ?_
    refine g_get3o hk fl_X11_84 rfl (j := 12) rfl kdC_0 dX11_between_12 h (fun zz6 kzz6 h => ?_)
    refine g_iload_n hk 2 rfl dX11_between_15 ?_
    obtain ⟨r7, e8, h⟩ := zbind h
    refine g_callVz hk (st := []) mf_X10_isGuest lk_X11_167 mv_X10_isGuest kzz6 (by decide) rfl (Nat.le_of_ble_eq_true rfl) rfl dX11_between_16 (met_Zo_isGuest _ _ _ _ _ hk.wd hm kzz6 cx2 e8) (fun hm c9 => ?_)
    refine g_if_ne hk (b01 c9) dX11_between_19 h (fun b10 h => ?_) (fun b10 h => ?_)
    · refine g_iconst hk (v := (-1)) rfl dX11_between_22 ?_
      exact g_ireturn hk (cIk rfl) dX11_between_23 (by cases h; rfl)
    · refine g_iload_n hk 1 rfl dX11_between_24 ?_
      refine g_bipush hk (v := 8) rfl dX11_between_25 ?_
      refine g_imul hk dX11_between_27 ?_
      refine g_iload_n hk 2 rfl dX11_between_28 ?_
      refine g_iadd hk dX11_between_29 ?_
      refine g_let (wI_c _) h (fun v11 cv11 h => ?_)
      refine g_istore hk (lv' := [(4, mI v11), (0, .ref (kB K + 0)), (1, mI x1), (2, mI x2), (3, mI x3)]) (Nat.le_of_ble_eq_true rfl) rfl dX11_between_30 ?_
      refine g_iload_n hk 4 rfl dX11_between_32 ?_
      rcases zite h with ⟨e12, h⟩ | ⟨e12, h⟩
      · refine g_tin hk cx3 dX11_between_33 e12 (by decide) (by decide) rfl (by decide) (tgt := 64) ?_
        refine g_aload_n hk 1 rfl dX11_between_64 ?_
        refine g_get2 hk fl_X11_24 rfl kdC_0 hm (b := 8) rfl dX11_between_65 ?_
        refine g_iload_n hk 2 rfl dX11_between_68 ?_
        refine g_iload_n hk 3 rfl dX11_between_69 ?_
        obtain ⟨r16, e17, h⟩ := zbind h
        refine g_callVi hk (st := []) mf_X7_suits lk_X11_210 mv_X7_suits kdC_8 (by decide) rfl (Nat.le_of_ble_eq_true rfl) rfl dX11_between_70 (met_St_suits _ _ _ _ _ hk.wd hm kdC_8 cx1 cx2 e17) (fun hm c18 => ?_)
        exact g_ireturn hk c18 dX11_between_73 (by cases h; rfl)
      rcases zite h with ⟨e13, h⟩ | ⟨e13, h⟩
      · refine g_tin hk cx3 dX11_between_33 e13 (by decide) (by decide) rfl (by decide) (tgt := 74) ?_
        refine g_aload_n hk 1 rfl dX11_between_74 ?_
        refine g_get2 hk fl_X11_38 rfl kdC_0 hm (b := 25) rfl dX11_between_75 ?_
        refine g_aload_n hk 1 rfl dX11_between_78 ?_
        refine g_get3o hk fl_X11_84 rfl (j := 12) rfl kdC_0 dX11_between_79 h (fun zz19 kzz19 h => ?_)
        refine g_aload_n hk 1 rfl dX11_between_82 ?_
        refine g_get2 hk fl_X11_24 rfl kdC_0 hm (b := 8) rfl dX11_between_83 ?_
        refine g_iload_n hk 2 rfl dX11_between_86 ?_
        refine g_iload_n hk 3 rfl dX11_between_87 ?_
        obtain ⟨r20, e21, h⟩ := zbind h
        refine g_callVi hk (st := []) mf_X4_liking lk_X11_213 mv_X4_liking kdC_25 (by decide) rfl (Nat.le_of_ble_eq_true rfl) rfl dX11_between_88 (met_Ke_liking _ _ _ _ _ hk.wd hm kzz19 kdC_8 cx1 cx2 e21) (fun hm c22 => ?_)
        exact g_ireturn hk c22 dX11_between_91 (by cases h; rfl)
      rcases zite h with ⟨e14, h⟩ | ⟨e14, h⟩
      · refine g_tin hk cx3 dX11_between_33 e14 (by decide) (by decide) rfl (by decide) (tgt := 92) ?_
        refine g_aload_n hk 1 rfl dX11_between_92 ?_
        refine g_get2 hk fl_X11_24 rfl kdC_0 hm (b := 8) rfl dX11_between_93 ?_
        refine g_get2 hk fl_X11_217 rfl kdC_8 hm (b := 13) rfl dX11_between_96 ?_
        refine g_iload hk 0 rfl dX11_between_99 ?_
        refine g_iald hk cv11 kdC_13 hm dX11_between_101 h (fun y23 cy23 h => ?_)
        exact g_ireturn hk cy23 dX11_between_102 (by cases h; rfl)
      rcases zite h with ⟨e15, h⟩ | ⟨e15, h⟩
      · refine g_tin hk cx3 dX11_between_33 e15 (by decide) (by decide) rfl (by decide) (tgt := 103) ?_
        refine g_aload_n hk 1 rfl dX11_between_103 ?_
        refine g_get2 hk fl_X11_24 rfl kdC_0 hm (b := 8) rfl dX11_between_104 ?_
        refine g_get2 hk fl_X11_220 rfl kdC_8 hm (b := 14) rfl dX11_between_107 ?_
        refine g_iload hk 0 rfl dX11_between_110 ?_
        refine g_iald hk cv11 kdC_14 hm dX11_between_112 h (fun y24 cy24 h => ?_)
        exact g_ireturn hk cy24 dX11_between_113 (by cases h; rfl)
      refine g_tout hk cx3 dX11_between_33 (by omega) (by decide) (tgt := 114) ?_
      refine g_iconst hk (v := (-1)) rfl dX11_between_114 ?_
      exact g_ireturn hk (cIk rfl) dX11_between_115 (by cases h; rfl)
theorem met_C_between (l : Launch) (D : va_G) (aC : Nat → ClassId) (B N : Nat) (hwd : ∀ id, (kdC id).1 ≠ 9 → id < N) {x1 : Int} {x2 : Int} {x3 : Int} {m : zM} {o : Int × zM} (hm : zG kdC m) (cx1 : cI x1) (cx2 : cI x2) (cx3 : cI x3) (h : C_between x1 x2 x3 m = some o) : zMet l yX11_between cX11_between 5 (some .int) 4 D aC B kdC N [.ref (B + 0), mI x1, mI x2, mI x3] m (0, o.1, o.2) := by
  refine zMet.of mf_X11_between hwd hm (Nat.le_of_ble_eq_true rfl) (fun K e1 e2 e3 e4 e5 hk => ?_)
  subst e4
  exact w_C_between hk hm cx1 cx2 cx3 h
set_option maxRecDepth 100000 in
set_option maxHeartbeats 4000000 in
theorem w_St_moment {K : zK} (hk : zOk K kdC cX7_moment 1 (some .int) RX7 0)  {o0 : Nat} {m : zM} {o : Int}  (hm : zG kdC m) (ko0 : kdC o0 = (0, 7)) (h : St_moment o0 m = some o) : GoAt K m [(0, .ref (kB K + o0))] [] 0 (0, o, m) := by
  unfold St_moment at h
  refine g_aload_n hk 0 rfl dX7_moment_0 ?_
  have g1 := zGI (i := 0) hm ko0 rfl
  refine g_get0 hk fl_X7_36 rfl (j := 0) rfl ko0 dX7_moment_1 ?_
  refine g_bipush hk (v := 24) rfl dX7_moment_4 ?_
  refine g_imul hk dX7_moment_6 ?_
  refine g_aload_n hk 0 rfl dX7_moment_7 ?_
  have g2 := zGI (i := 1) hm ko0 rfl
  refine g_get0 hk fl_X7_40 rfl (j := 1) rfl ko0 dX7_moment_8 ?_
  refine g_iadd hk dX7_moment_11 ?_
  exact g_ireturn hk (wI_c _) dX7_moment_12 (by cases h; rfl)
theorem met_St_moment (l : Launch) (D : va_G) (aC : Nat → ClassId) (B N : Nat) (hwd : ∀ id, (kdC id).1 ≠ 9 → id < N) {o0 : Nat} {m : zM} {o : Int} (hm : zG kdC m) (ko0 : kdC o0 = (0, 7)) (h : St_moment o0 m = some o) : zMet l yX7_moment cX7_moment 1 (some .int) 0 D aC B kdC N [.ref (B + o0)] m (0, o, m) := by
  refine zMet.of mf_X7_moment hwd hm (Nat.le_of_ble_eq_true rfl) (fun K e1 e2 e3 e4 e5 hk => ?_)
  subst e4
  exact w_St_moment hk hm ko0 h
set_option maxRecDepth 100000 in
set_option maxHeartbeats 4000000 in
theorem w_C_hoursToSee {K : zK} (hk : zOk K kdC cX11_hoursToSee 1 (some .int) RX11 1)  {m : zM} {o : Int}  (hm : zG kdC m)  (h : C_hoursToSee m = some o) : GoAt K m [(0, .ref (kB K + 0))] [] 0 (0, o, m) := by
  unfold C_hoursToSee at h
  refine g_bipush hk (v := 100) rfl dX11_hoursToSee_0 ?_
  refine g_sipush hk (v := 23999) rfl dX11_hoursToSee_2 ?_
  refine g_aload_n hk 0 rfl dX11_hoursToSee_5 ?_
  refine g_get2 hk fl_X11_24 rfl kdC_0 hm (b := 8) rfl dX11_hoursToSee_6 ?_
  obtain ⟨r1, e2, h⟩ := zbind h
  refine g_callVi hk (st := [mI 23999, mI 100]) mf_X7_moment lk_X11_368 mv_X7_moment kdC_8 (by decide) rfl (Nat.le_of_ble_eq_true rfl) rfl dX11_hoursToSee_9 (met_St_moment _ _ _ _ _ hk.wd hm kdC_8 e2) (fun hm c3 => ?_)
  refine g_isub hk dX11_hoursToSee_12 ?_
  refine g_iconst hk (v := 1) rfl dX11_hoursToSee_13 ?_
  refine g_iadd hk dX11_hoursToSee_14 ?_
  refine g_imin hk (cIk rfl) (wI_c _) lk_X11_371 ms_J9_min_7cf53 mfi_J9_min_7cf53 mfc_J9_min_7cf53 (Nat.le_of_ble_eq_true rfl) (Nat.le_of_ble_eq_true rfl) dX11_hoursToSee_15 ?_
  exact g_ireturn hk (cI_min (cIk rfl) (wI_c _)) dX11_hoursToSee_18 (by cases h; rfl)
theorem met_C_hoursToSee (l : Launch) (D : va_G) (aC : Nat → ClassId) (B N : Nat) (hwd : ∀ id, (kdC id).1 ≠ 9 → id < N) {m : zM} {o : Int} (hm : zG kdC m)  (h : C_hoursToSee m = some o) : zMet l yX11_hoursToSee cX11_hoursToSee 1 (some .int) 1 D aC B kdC N [.ref (B + 0)] m (0, o, m) := by
  refine zMet.of mf_X11_hoursToSee hwd hm (Nat.le_of_ble_eq_true rfl) (fun K e1 e2 e3 e4 e5 hk => ?_)
  subst e4
  exact w_C_hoursToSee hk hm  h
set_option maxRecDepth 100000 in
set_option maxHeartbeats 4000000 in
theorem w_St_copyFrom {K : zK} (hk : zOk K kdC cX7_copyFrom 2 none RX7 1)  {o0 : Nat} {o1 : Nat} {m : zM} {o : zM}  (hm : zG kdC m) (ko0 : kdC o0 = (0, 7)) (ko1 : kdC o1 = (0, 7)) (h : St_copyFrom o0 o1 m = some o) : GoAt K m [(0, .ref (kB K + o0)), (1, .ref (kB K + o1))] [] 0 (9, 0, o) := by
  unfold St_copyFrom at h
  refine g_aload_n hk 0 rfl dX7_copyFrom_0 ?_
  refine g_aload_n hk 1 rfl dX7_copyFrom_1 ?_
  have g1 := zGI (i := 0) hm ko1 rfl
  refine g_get0 hk fl_X7_36 rfl (j := 0) rfl ko1 dX7_copyFrom_2 ?_
  refine g_put0 hk fp_X7_36 rfl (j := 0) rfl ko0 g1 dX7_copyFrom_5 h hm (fun m2 hm h => ?_)
  refine g_aload_n hk 0 rfl dX7_copyFrom_8 ?_
  refine g_aload_n hk 1 rfl dX7_copyFrom_9 ?_
  have g3 := zGI (i := 1) hm ko1 rfl
  refine g_get0 hk fl_X7_40 rfl (j := 1) rfl ko1 dX7_copyFrom_10 ?_
  refine g_put0 hk fp_X7_40 rfl (j := 1) rfl ko0 g3 dX7_copyFrom_13 h hm (fun m4 hm h => ?_)
  refine g_aload_n hk 0 rfl dX7_copyFrom_16 ?_
  refine g_aload_n hk 1 rfl dX7_copyFrom_17 ?_
  have g5 := zGI (i := 2) hm ko1 rfl
  refine g_get0 hk fl_X7_43 rfl (j := 2) rfl ko1 dX7_copyFrom_18 ?_
  refine g_put0 hk fp_X7_43 rfl (j := 2) rfl ko0 g5 dX7_copyFrom_21 h hm (fun m6 hm h => ?_)
  refine g_aload_n hk 1 rfl dX7_copyFrom_24 ?_
  refine g_get2 hk fl_X7_9 rfl ko1 hm (b := o1 + 1) rfl dX7_copyFrom_25 ?_
  refine g_iconst hk (v := 0) rfl dX7_copyFrom_28 ?_
  refine g_aload_n hk 0 rfl dX7_copyFrom_29 ?_
  refine g_get2 hk fl_X7_9 rfl ko0 hm (b := o0 + 1) rfl dX7_copyFrom_30 ?_
  refine g_iconst hk (v := 0) rfl dX7_copyFrom_33 ?_
  refine g_aload_n hk 0 rfl dX7_copyFrom_34 ?_
  refine g_get2 hk fl_X7_9 rfl ko0 hm (b := o0 + 1) rfl dX7_copyFrom_35 ?_
  refine g_alen hk (v := 24) (kdC_s7_3 ko0) rfl dX7_copyFrom_38 ?_
  refine g_acopy hk lk_X7_51 wnat wsta wini (kdC_s7_3 ko1) (kdC_s7_3 ko0) (cIk rfl) (cIk rfl) (cIk rfl) (Nat.le_of_ble_eq_true rfl) rfl hm dX7_copyFrom_39 h (fun m7 hm h => ?_)
  refine g_aload_n hk 1 rfl dX7_copyFrom_42 ?_
  refine g_get2 hk fl_X7_15 rfl ko1 hm (b := o1 + 2) rfl dX7_copyFrom_43 ?_
  refine g_iconst hk (v := 0) rfl dX7_copyFrom_46 ?_
  refine g_aload_n hk 0 rfl dX7_copyFrom_47 ?_
  refine g_get2 hk fl_X7_15 rfl ko0 hm (b := o0 + 2) rfl dX7_copyFrom_48 ?_
  refine g_iconst hk (v := 0) rfl dX7_copyFrom_51 ?_
  refine g_aload_n hk 0 rfl dX7_copyFrom_52 ?_
  refine g_get2 hk fl_X7_15 rfl ko0 hm (b := o0 + 2) rfl dX7_copyFrom_53 ?_
  refine g_alen hk (v := 8) (kdC_s7_4 ko0) rfl dX7_copyFrom_56 ?_
  refine g_acopy hk lk_X7_51 wnat wsta wini (kdC_s7_4 ko1) (kdC_s7_4 ko0) (cIk rfl) (cIk rfl) (cIk rfl) (Nat.le_of_ble_eq_true rfl) rfl hm dX7_copyFrom_57 h (fun m8 hm h => ?_)
  refine g_aload_n hk 1 rfl dX7_copyFrom_60 ?_
  refine g_get2 hk fl_X7_18 rfl ko1 hm (b := o1 + 3) rfl dX7_copyFrom_61 ?_
  refine g_iconst hk (v := 0) rfl dX7_copyFrom_64 ?_
  refine g_aload_n hk 0 rfl dX7_copyFrom_65 ?_
  refine g_get2 hk fl_X7_18 rfl ko0 hm (b := o0 + 3) rfl dX7_copyFrom_66 ?_
  refine g_iconst hk (v := 0) rfl dX7_copyFrom_69 ?_
  refine g_aload_n hk 0 rfl dX7_copyFrom_70 ?_
  refine g_get2 hk fl_X7_18 rfl ko0 hm (b := o0 + 3) rfl dX7_copyFrom_71 ?_
  refine g_alen hk (v := 8) (kdC_s7_5 ko0) rfl dX7_copyFrom_74 ?_
  refine g_acopy hk lk_X7_51 wnat wsta wini (kdC_s7_5 ko1) (kdC_s7_5 ko0) (cIk rfl) (cIk rfl) (cIk rfl) (Nat.le_of_ble_eq_true rfl) rfl hm dX7_copyFrom_75 h (fun m9 hm h => ?_)
  refine g_aload_n hk 1 rfl dX7_copyFrom_78 ?_
  refine g_get2 hk fl_X7_21 rfl ko1 hm (b := o1 + 4) rfl dX7_copyFrom_79 ?_
  refine g_iconst hk (v := 0) rfl dX7_copyFrom_82 ?_
  refine g_aload_n hk 0 rfl dX7_copyFrom_83 ?_
  refine g_get2 hk fl_X7_21 rfl ko0 hm (b := o0 + 4) rfl dX7_copyFrom_84 ?_
  refine g_iconst hk (v := 0) rfl dX7_copyFrom_87 ?_
  refine g_aload_n hk 0 rfl dX7_copyFrom_88 ?_
  refine g_get2 hk fl_X7_21 rfl ko0 hm (b := o0 + 4) rfl dX7_copyFrom_89 ?_
  refine g_alen hk (v := 18) (kdC_s7_6 ko0) rfl dX7_copyFrom_92 ?_
  refine g_acopy hk lk_X7_51 wnat wsta wini (kdC_s7_6 ko1) (kdC_s7_6 ko0) (cIk rfl) (cIk rfl) (cIk rfl) (Nat.le_of_ble_eq_true rfl) rfl hm dX7_copyFrom_93 h (fun m10 hm h => ?_)
  refine g_aload_n hk 1 rfl dX7_copyFrom_96 ?_
  refine g_get2 hk fl_X7_24 rfl ko1 hm (b := o1 + 5) rfl dX7_copyFrom_97 ?_
  refine g_iconst hk (v := 0) rfl dX7_copyFrom_100 ?_
  refine g_aload_n hk 0 rfl dX7_copyFrom_101 ?_
  refine g_get2 hk fl_X7_24 rfl ko0 hm (b := o0 + 5) rfl dX7_copyFrom_102 ?_
  refine g_iconst hk (v := 0) rfl dX7_copyFrom_105 ?_
  refine g_aload_n hk 0 rfl dX7_copyFrom_106 ?_
  refine g_get2 hk fl_X7_24 rfl ko0 hm (b := o0 + 5) rfl dX7_copyFrom_107 ?_
  refine g_alen hk (v := 48) (kdC_s7_7 ko0) rfl dX7_copyFrom_110 ?_
  refine g_acopy hk lk_X7_51 wnat wsta wini (kdC_s7_7 ko1) (kdC_s7_7 ko0) (cIk rfl) (cIk rfl) (cIk rfl) (Nat.le_of_ble_eq_true rfl) rfl hm dX7_copyFrom_111 h (fun m11 hm h => ?_)
  refine g_aload_n hk 1 rfl dX7_copyFrom_114 ?_
  refine g_get2 hk fl_X7_27 rfl ko1 hm (b := o1 + 6) rfl dX7_copyFrom_115 ?_
  refine g_iconst hk (v := 0) rfl dX7_copyFrom_118 ?_
  refine g_aload_n hk 0 rfl dX7_copyFrom_119 ?_
  refine g_get2 hk fl_X7_27 rfl ko0 hm (b := o0 + 6) rfl dX7_copyFrom_120 ?_
  refine g_iconst hk (v := 0) rfl dX7_copyFrom_123 ?_
  refine g_aload_n hk 0 rfl dX7_copyFrom_124 ?_
  refine g_get2 hk fl_X7_27 rfl ko0 hm (b := o0 + 6) rfl dX7_copyFrom_125 ?_
  refine g_alen hk (v := 48) (kdC_s7_8 ko0) rfl dX7_copyFrom_128 ?_
  refine g_acopy hk lk_X7_51 wnat wsta wini (kdC_s7_8 ko1) (kdC_s7_8 ko0) (cIk rfl) (cIk rfl) (cIk rfl) (Nat.le_of_ble_eq_true rfl) rfl hm dX7_copyFrom_129 h (fun m12 hm h => ?_)
  refine g_aload_n hk 1 rfl dX7_copyFrom_132 ?_
  refine g_get2 hk fl_X7_30 rfl ko1 hm (b := o1 + 7) rfl dX7_copyFrom_133 ?_
  refine g_iconst hk (v := 0) rfl dX7_copyFrom_136 ?_
  refine g_aload_n hk 0 rfl dX7_copyFrom_137 ?_
  refine g_get2 hk fl_X7_30 rfl ko0 hm (b := o0 + 7) rfl dX7_copyFrom_138 ?_
  refine g_iconst hk (v := 0) rfl dX7_copyFrom_141 ?_
  refine g_aload_n hk 0 rfl dX7_copyFrom_142 ?_
  refine g_get2 hk fl_X7_30 rfl ko0 hm (b := o0 + 7) rfl dX7_copyFrom_143 ?_
  refine g_alen hk (v := 60) (kdC_s7_9 ko0) rfl dX7_copyFrom_146 ?_
  refine g_acopy hk lk_X7_51 wnat wsta wini (kdC_s7_9 ko1) (kdC_s7_9 ko0) (cIk rfl) (cIk rfl) (cIk rfl) (Nat.le_of_ble_eq_true rfl) rfl hm dX7_copyFrom_147 h (fun m13 hm h => ?_)
  refine g_aload_n hk 0 rfl dX7_copyFrom_150 ?_
  refine g_aload_n hk 1 rfl dX7_copyFrom_151 ?_
  have g14 := zGI (i := 10) hm ko1 rfl
  refine g_get0 hk fl_X7_63 rfl (j := 10) rfl ko1 dX7_copyFrom_152 ?_
  refine g_put0 hk fp_X7_63 rfl (j := 10) rfl ko0 g14 dX7_copyFrom_155 h hm (fun m15 hm h => ?_)
  refine g_aload_n hk 0 rfl dX7_copyFrom_158 ?_
  refine g_aload_n hk 1 rfl dX7_copyFrom_159 ?_
  have g16 := zGI (i := 11) hm ko1 rfl
  refine g_get0 hk fl_X7_66 rfl (j := 11) rfl ko1 dX7_copyFrom_160 ?_
  refine g_put0 hk fp_X7_66 rfl (j := 11) rfl ko0 g16 dX7_copyFrom_163 h hm (fun m17 hm h => ?_)
  exact g_return hk dX7_copyFrom_166 (by cases h; rfl)
theorem met_St_copyFrom (l : Launch) (D : va_G) (aC : Nat → ClassId) (B N : Nat) (hwd : ∀ id, (kdC id).1 ≠ 9 → id < N) {o0 : Nat} {o1 : Nat} {m : zM} {o : zM} (hm : zG kdC m) (ko0 : kdC o0 = (0, 7)) (ko1 : kdC o1 = (0, 7)) (h : St_copyFrom o0 o1 m = some o) : zMet l yX7_copyFrom cX7_copyFrom 2 none 1 D aC B kdC N [.ref (B + o0), .ref (B + o1)] m (9, 0, o) := by
  refine zMet.of mf_X7_copyFrom hwd hm (Nat.le_of_ble_eq_true rfl) (fun K e1 e2 e3 e4 e5 hk => ?_)
  subst e4
  exact w_St_copyFrom hk hm ko0 ko1 h
set_option maxRecDepth 100000 in
set_option maxHeartbeats 4000000 in
theorem w_Ke_canMeet {K : zK} (hk : zOk K kdC cX4_canMeet 4 (some .boolean) RX4 1)  {o0 : Nat} {o1 : Nat} {x2 : Int} {x3 : Int} {m : zM} {o : Int}  (hm : zG kdC m) (ko0 : kdC o0 = (0, 10)) (ko1 : kdC o1 = (0, 7)) (cx2 : cI x2) (cx3 : cI x3) (h : Ke_canMeet o0 o1 x2 x3 m = some o) : GoAt K m [(0, .ref (kB K + o0)), (1, .ref (kB K + o1)), (2, mI x2), (3, mI x3)] [] 0 (4, o, m) := by
  unfold Ke_canMeet at h
  refine g_aload_n hk 0 rfl dX4_canMeet_0 ?_
  refine g_iload_n hk 2 rfl dX4_canMeet_1 ?_
  refine g_aload_n hk 1 rfl dX4_canMeet_2 ?_
  have g1 := zGI (i := 1) hm ko1 rfl
  refine g_get0 hk fl_X4_65 rfl (j := 1) rfl ko1 dX4_canMeet_3 ?_
  obtain ⟨r2, e3, h⟩ := zbind h
  refine g_callVz hk (st := []) mf_X10_isAwake lk_X4_78 mv_X10_isAwake ko0 (by decide) rfl (Nat.le_of_ble_eq_true rfl) rfl dX4_canMeet_6 (met_Zo_isAwake _ _ _ _ _ hk.wd hm ko0 cx2 g1 e3) (fun hm c4 => ?_)
  refine g_if_eq hk (b01 c4) dX4_canMeet_9 h (fun b5 h => ?_) (fun b5 h => ?_)
  · refine g_iconst hk (v := 0) rfl dX4_canMeet_51 ?_
    exact g_zreturn hk z0 dX4_canMeet_52 (by cases h; rfl)
  · refine g_aload_n hk 0 rfl dX4_canMeet_12 ?_
    refine g_iload_n hk 3 rfl dX4_canMeet_13 ?_
    refine g_aload_n hk 1 rfl dX4_canMeet_14 ?_
    have g6 := zGI (i := 1) hm ko1 rfl
    refine g_get0 hk fl_X4_65 rfl (j := 1) rfl ko1 dX4_canMeet_15 ?_
    obtain ⟨r7, e8, h⟩ := zbind h
    refine g_callVz hk (st := []) mf_X10_isThere lk_X4_81 mv_X10_isThere ko0 (by decide) rfl (Nat.le_of_ble_eq_true rfl) rfl dX4_canMeet_18 (met_Zo_isThere _ _ _ _ _ hk.wd hm ko0 cx3 g6 e8) (fun hm c9 => ?_)
    refine g_if_eq hk (b01 c9) dX4_canMeet_21 h (fun b10 h => ?_) (fun b10 h => ?_)
    · refine g_iconst hk (v := 0) rfl dX4_canMeet_51 ?_
      exact g_zreturn hk z0 dX4_canMeet_52 (by cases h; rfl)
    · refine g_aload_n hk 1 rfl dX4_canMeet_24 ?_
      refine g_get2 hk fl_X4_84 rfl ko1 hm (b := o1 + 2) rfl dX4_canMeet_25 ?_
      refine g_iload_n hk 3 rfl dX4_canMeet_28 ?_
      refine g_iald hk cx3 (kdC_s7_4 ko1) hm dX4_canMeet_29 h (fun y11 cy11 h => ?_)
      refine g_iconst hk (v := (-1)) rfl dX4_canMeet_30 ?_
      refine g_icmp_ne hk cy11 (cIk rfl) dX4_canMeet_31 h (fun b12 h => ?_) (fun b12 h => ?_)
      · refine g_aload_n hk 1 rfl dX4_canMeet_34 ?_
        refine g_get2 hk fl_X4_87 rfl ko1 hm (b := o1 + 3) rfl dX4_canMeet_35 ?_
        refine g_iload_n hk 3 rfl dX4_canMeet_38 ?_
        refine g_iald hk cx3 (kdC_s7_5 ko1) hm dX4_canMeet_39 h (fun y13 cy13 h => ?_)
        refine g_iload_n hk 2 rfl dX4_canMeet_40 ?_
        refine g_ishr hk dX4_canMeet_41 ?_
        refine g_iconst hk (v := 1) rfl dX4_canMeet_42 ?_
        refine g_iand hk dX4_canMeet_43 ?_
        refine g_if_ne hk (cI_t _) dX4_canMeet_44 h (fun b14 h => ?_) (fun b14 h => ?_)
        · refine g_iconst hk (v := 1) rfl dX4_canMeet_47 ?_
          refine g_goto hk dX4_canMeet_48 ?_
          exact g_zreturn hk z1 dX4_canMeet_52 (by cases h; rfl)
        · refine g_iconst hk (v := 0) rfl dX4_canMeet_51 ?_
          exact g_zreturn hk z0 dX4_canMeet_52 (by cases h; rfl)
      · refine g_iconst hk (v := 0) rfl dX4_canMeet_51 ?_
        exact g_zreturn hk z0 dX4_canMeet_52 (by cases h; rfl)
theorem met_Ke_canMeet (l : Launch) (D : va_G) (aC : Nat → ClassId) (B N : Nat) (hwd : ∀ id, (kdC id).1 ≠ 9 → id < N) {o0 : Nat} {o1 : Nat} {x2 : Int} {x3 : Int} {m : zM} {o : Int} (hm : zG kdC m) (ko0 : kdC o0 = (0, 10)) (ko1 : kdC o1 = (0, 7)) (cx2 : cI x2) (cx3 : cI x3) (h : Ke_canMeet o0 o1 x2 x3 m = some o) : zMet l yX4_canMeet cX4_canMeet 4 (some .boolean) 1 D aC B kdC N [.ref (B + o0), .ref (B + o1), mI x2, mI x3] m (4, o, m) := by
  refine zMet.of mf_X4_canMeet hwd hm (Nat.le_of_ble_eq_true rfl) (fun K e1 e2 e3 e4 e5 hk => ?_)
  subst e4
  exact w_Ke_canMeet hk hm ko0 ko1 cx2 cx3 h
set_option maxRecDepth 100000 in
set_option maxHeartbeats 4000000 in
theorem w_Ke_weighGuest_B3 {K : zK} (hk : zOk K kdC cX4_weighGuest 5 none RX4 4) {rec : Nat → Nat → Int → Int → zM → Option (zM)} {o1 : Nat} {o2 : Nat} {x3 : Int} {x4 : Int} {m : zM} {o : zM} (hrec : ∀ (o1 : Nat) (o2 : Nat) (x3 : Int) (x4 : Int) (m : zM), zG kdC m → kdC o1 = (0, 10) → kdC o2 = (0, 7) → cI x3 → cI x4 → rec o1 o2 x3 x4 m = some o → GoAt K m [(0, .ref (kB K + 25)), (1, .ref (kB K + o1)), (2, .ref (kB K + o2)), (3, mI x3), (4, mI x4)] [] 3 (9, 0, o)) (hm : zG kdC m) (ko1 : kdC o1 = (0, 10)) (ko2 : kdC o2 = (0, 7)) (cx3 : cI x3) (cx4 : cI x4) (h : Ke_weighGuest_B3 rec o1 o2 x3 x4 m = some o) : GoAt K m [(0, .ref (kB K + 25)), (1, .ref (kB K + o1)), (2, .ref (kB K + o2)), (3, mI x3), (4, mI x4)] [] 3 (9, 0, o) := by
  unfold Ke_weighGuest_B3 at h
  refine g_iload hk 4 rfl dX4_weighGuest_3 ?_
  refine g_aload_n hk 1 rfl dX4_weighGuest_5 ?_
  have g1 := zGI (i := 0) hm ko1 rfl
  refine g_get0 hk fl_X4_97 rfl (j := 0) rfl ko1 dX4_weighGuest_6 ?_
  refine g_icmp_ge hk cx4 g1 dX4_weighGuest_9 h (fun b2 h => ?_) (fun b2 h => ?_)
  · refine g_aload_n hk 0 rfl dX4_weighGuest_12 ?_
    refine g_get2 hk fl_X4_9 rfl kdC_25 hm (b := 26) rfl dX4_weighGuest_13 ?_
    refine g_iload hk 4 rfl dX4_weighGuest_16 ?_
    refine g_bipush hk (v := 8) rfl dX4_weighGuest_18 ?_
    refine g_imul hk dX4_weighGuest_20 ?_
    refine g_iload_n hk 3 rfl dX4_weighGuest_21 ?_
    refine g_iadd hk dX4_weighGuest_22 ?_
    refine g_aload_n hk 1 rfl dX4_weighGuest_23 ?_
    refine g_aload_n hk 2 rfl dX4_weighGuest_24 ?_
    refine g_iload hk 4 rfl dX4_weighGuest_25 ?_
    refine g_iload_n hk 3 rfl dX4_weighGuest_27 ?_
    obtain ⟨r3, e4, h⟩ := zbind h
    refine g_callSz hk (st := [mI (wI ((wI (x4 * 8)) + x3)), .ref (kB K + 26)]) mf_X4_canMeet lk_X4_100 ms_X4_canMeet (by decide) rfl (Nat.le_of_ble_eq_true rfl) rfl dX4_weighGuest_28 (met_Ke_canMeet _ _ _ _ _ hk.wd hm ko1 ko2 cx4 cx3 e4) (fun hm c5 => ?_)
    refine g_if_eq hk (b01 c5) dX4_weighGuest_31 h (fun b6 h => ?_) (fun b6 h => ?_)
    · refine g_iconst hk (v := 0) rfl dX4_weighGuest_46 ?_
      refine g_iast hk (wI_c _) (cIk rfl) kdC_26 hm dX4_weighGuest_47 h (fun m7 hm h => ?_)
      refine g_iinc hk (lv' := [(4, mI (wI (x4 + 1))), (0, .ref (kB K + 25)), (1, .ref (kB K + o1)), (2, .ref (kB K + o2)), (3, mI x3)]) 4 rfl (Nat.le_of_ble_eq_true rfl) rfl dX4_weighGuest_48 ?_
      refine g_goto hk dX4_weighGuest_51 ?_
      refine GoAt.sub [1, 2, 3, 4, 0] rfl ?_
      exact hrec _ _ _ _ _ hm ko1 ko2 cx3 (wI_c _) h
    · refine g_aload_n hk 0 rfl dX4_weighGuest_34 ?_
      refine g_aload_n hk 1 rfl dX4_weighGuest_35 ?_
      refine g_aload_n hk 2 rfl dX4_weighGuest_36 ?_
      refine g_iload hk 4 rfl dX4_weighGuest_37 ?_
      refine g_iload_n hk 3 rfl dX4_weighGuest_39 ?_
      obtain ⟨r8, e9, h⟩ := zbind h
      refine g_callVi hk (st := [mI (wI ((wI (x4 * 8)) + x3)), .ref (kB K + 26)]) mf_X4_liking lk_X4_104 mv_X4_liking kdC_25 (by decide) rfl (Nat.le_of_ble_eq_true rfl) rfl dX4_weighGuest_40 (met_Ke_liking _ _ _ _ _ hk.wd hm ko1 ko2 cx4 cx3 e9) (fun hm c10 => ?_)
      refine g_goto hk dX4_weighGuest_43 ?_
      refine g_iast hk (wI_c _) c10 kdC_26 hm dX4_weighGuest_47 h (fun m11 hm h => ?_)
      refine g_iinc hk (lv' := [(4, mI (wI (x4 + 1))), (0, .ref (kB K + 25)), (1, .ref (kB K + o1)), (2, .ref (kB K + o2)), (3, mI x3)]) 4 rfl (Nat.le_of_ble_eq_true rfl) rfl dX4_weighGuest_48 ?_
      refine g_goto hk dX4_weighGuest_51 ?_
      refine GoAt.sub [1, 2, 3, 4, 0] rfl ?_
      exact hrec _ _ _ _ _ hm ko1 ko2 cx3 (wI_c _) h
  · exact g_return hk dX4_weighGuest_54 (by cases h; rfl)
theorem w_Ke_weighGuest_L3 {K : zK} (hk : zOk K kdC cX4_weighGuest 5 none RX4 4)  {o : zM}  : ∀ (n : Nat) (o1 : Nat) (o2 : Nat) (x3 : Int) (x4 : Int) (m : zM), zG kdC m → kdC o1 = (0, 10) → kdC o2 = (0, 7) → cI x3 → cI x4 → Ke_weighGuest_L3 n o1 o2 x3 x4 m = some o → GoAt K m [(0, .ref (kB K + 25)), (1, .ref (kB K + o1)), (2, .ref (kB K + o2)), (3, mI x3), (4, mI x4)] [] 3 (9, 0, o)
  | 0, o1, o2, x3, x4, m, hm, ko1, ko2, cx3, cx4, h => by cases h
  | n + 1, o1, o2, x3, x4, m, hm, ko1, ko2, cx3, cx4, h => w_Ke_weighGuest_B3 hk  (w_Ke_weighGuest_L3 hk  n) hm ko1 ko2 cx3 cx4 h
set_option maxRecDepth 100000 in
set_option maxHeartbeats 4000000 in
theorem w_Ke_weighGuest {K : zK} (hk : zOk K kdC cX4_weighGuest 5 none RX4 4)  {o1 : Nat} {o2 : Nat} {x3 : Int} {m : zM} {o : zM}  (hm : zG kdC m) (ko1 : kdC o1 = (0, 10)) (ko2 : kdC o2 = (0, 7)) (cx3 : cI x3) (h : Ke_weighGuest o1 o2 x3 m = some o) : GoAt K m [(0, .ref (kB K + 25)), (1, .ref (kB K + o1)), (2, .ref (kB K + o2)), (3, mI x3)] [] 0 (9, 0, o) := by
  unfold Ke_weighGuest at h
  refine g_iconst hk (v := 0) rfl dX4_weighGuest_0 ?_
  refine g_istore hk (lv' := [(4, mI 0), (0, .ref (kB K + 25)), (1, .ref (kB K + o1)), (2, .ref (kB K + o2)), (3, mI x3)]) (Nat.le_of_ble_eq_true rfl) rfl dX4_weighGuest_1 ?_
  refine GoAt.sub [1, 2, 3, 4, 0] rfl ?_
  refine w_Ke_weighGuest_L3 hk  1000000 _ _ _ _ _ hm ko1 ko2 cx3 (cIk rfl) h
theorem met_Ke_weighGuest (l : Launch) (D : va_G) (aC : Nat → ClassId) (B N : Nat) (hwd : ∀ id, (kdC id).1 ≠ 9 → id < N) {o1 : Nat} {o2 : Nat} {x3 : Int} {m : zM} {o : zM} (hm : zG kdC m) (ko1 : kdC o1 = (0, 10)) (ko2 : kdC o2 = (0, 7)) (cx3 : cI x3) (h : Ke_weighGuest o1 o2 x3 m = some o) : zMet l yX4_weighGuest cX4_weighGuest 5 none 4 D aC B kdC N [.ref (B + 25), .ref (B + o1), .ref (B + o2), mI x3] m (9, 0, o) := by
  refine zMet.of mf_X4_weighGuest hwd hm (Nat.le_of_ble_eq_true rfl) (fun K e1 e2 e3 e4 e5 hk => ?_)
  subst e4
  exact w_Ke_weighGuest hk hm ko1 ko2 cx3 h
set_option maxRecDepth 100000 in
set_option maxHeartbeats 4000000 in
theorem w_Ke_weigh_B2 {K : zK} (hk : zOk K kdC cX4_weigh 4 none RX4 5) {rec : Nat → Nat → Int → zM → Option (zM)} {o1 : Nat} {o2 : Nat} {x3 : Int} {m : zM} {o : zM} (hrec : ∀ (o1 : Nat) (o2 : Nat) (x3 : Int) (m : zM), zG kdC m → kdC o1 = (0, 10) → kdC o2 = (0, 7) → cI x3 → rec o1 o2 x3 m = some o → GoAt K m [(0, .ref (kB K + 25)), (1, .ref (kB K + o1)), (2, .ref (kB K + o2)), (3, mI x3)] [] 2 (9, 0, o)) (hm : zG kdC m) (ko1 : kdC o1 = (0, 10)) (ko2 : kdC o2 = (0, 7)) (cx3 : cI x3) (h : Ke_weigh_B2 rec o1 o2 x3 m = some o) : GoAt K m [(0, .ref (kB K + 25)), (1, .ref (kB K + o1)), (2, .ref (kB K + o2)), (3, mI x3)] [] 2 (9, 0, o) := by
  unfold Ke_weigh_B2 at h
  refine g_iload_n hk 3 rfl dX4_weigh_2 ?_
  refine g_aload_n hk 1 rfl dX4_weigh_3 ?_
  have g1 := zGI (i := 1) hm ko1 rfl
  refine g_get0 hk fl_X4_90 rfl (j := 1) rfl ko1 dX4_weigh_4 ?_
  refine g_icmp_ge hk cx3 g1 dX4_weigh_7 h (fun b2 h => ?_) (fun b2 h => ?_)
  · refine g_aload_n hk 0 rfl dX4_weigh_10 ?_
    refine g_aload_n hk 1 rfl dX4_weigh_11 ?_
    refine g_aload_n hk 2 rfl dX4_weigh_12 ?_
    refine g_iload_n hk 3 rfl dX4_weigh_13 ?_
    obtain ⟨r3, e4, h⟩ := zbind h
    refine g_callVv hk (st := []) mf_X4_weighGuest lk_X4_93 mv_X4_weighGuest kdC_25 (by decide) rfl (Nat.le_of_ble_eq_true rfl) rfl dX4_weigh_14 (met_Ke_weighGuest _ _ _ _ _ hk.wd hm ko1 ko2 cx3 e4) (fun hm => ?_)
    refine g_iinc hk (lv' := [(3, mI (wI (x3 + 1))), (0, .ref (kB K + 25)), (1, .ref (kB K + o1)), (2, .ref (kB K + o2))]) 3 rfl (Nat.le_of_ble_eq_true rfl) rfl dX4_weigh_17 ?_
    refine g_goto hk dX4_weigh_20 ?_
    refine GoAt.sub [1, 2, 3, 0] rfl ?_
    exact hrec _ _ _ _ hm ko1 ko2 (wI_c _) h
  · exact g_return hk dX4_weigh_23 (by cases h; rfl)
theorem w_Ke_weigh_L2 {K : zK} (hk : zOk K kdC cX4_weigh 4 none RX4 5)  {o : zM}  : ∀ (n : Nat) (o1 : Nat) (o2 : Nat) (x3 : Int) (m : zM), zG kdC m → kdC o1 = (0, 10) → kdC o2 = (0, 7) → cI x3 → Ke_weigh_L2 n o1 o2 x3 m = some o → GoAt K m [(0, .ref (kB K + 25)), (1, .ref (kB K + o1)), (2, .ref (kB K + o2)), (3, mI x3)] [] 2 (9, 0, o)
  | 0, o1, o2, x3, m, hm, ko1, ko2, cx3, h => by cases h
  | n + 1, o1, o2, x3, m, hm, ko1, ko2, cx3, h => w_Ke_weigh_B2 hk  (w_Ke_weigh_L2 hk  n) hm ko1 ko2 cx3 h
set_option maxRecDepth 100000 in
set_option maxHeartbeats 4000000 in
theorem w_Ke_weigh {K : zK} (hk : zOk K kdC cX4_weigh 4 none RX4 5)  {o1 : Nat} {o2 : Nat} {m : zM} {o : zM}  (hm : zG kdC m) (ko1 : kdC o1 = (0, 10)) (ko2 : kdC o2 = (0, 7)) (h : Ke_weigh o1 o2 m = some o) : GoAt K m [(0, .ref (kB K + 25)), (1, .ref (kB K + o1)), (2, .ref (kB K + o2))] [] 0 (9, 0, o) := by
  unfold Ke_weigh at h
  refine g_iconst hk (v := 0) rfl dX4_weigh_0 ?_
  refine g_istore_n hk rfl (lv' := [(3, mI 0), (0, .ref (kB K + 25)), (1, .ref (kB K + o1)), (2, .ref (kB K + o2))]) (Nat.le_of_ble_eq_true rfl) rfl dX4_weigh_1 ?_
  refine GoAt.sub [1, 2, 3, 0] rfl ?_
  refine w_Ke_weigh_L2 hk  1000000 _ _ _ _ hm ko1 ko2 (cIk rfl) h
theorem met_Ke_weigh (l : Launch) (D : va_G) (aC : Nat → ClassId) (B N : Nat) (hwd : ∀ id, (kdC id).1 ≠ 9 → id < N) {o1 : Nat} {o2 : Nat} {m : zM} {o : zM} (hm : zG kdC m) (ko1 : kdC o1 = (0, 10)) (ko2 : kdC o2 = (0, 7)) (h : Ke_weigh o1 o2 m = some o) : zMet l yX4_weigh cX4_weigh 4 none 5 D aC B kdC N [.ref (B + 25), .ref (B + o1), .ref (B + o2)] m (9, 0, o) := by
  refine zMet.of mf_X4_weigh hwd hm (Nat.le_of_ble_eq_true rfl) (fun K e1 e2 e3 e4 e5 hk => ?_)
  subst e4
  exact w_Ke_weigh hk hm ko1 ko2 h
set_option maxRecDepth 100000 in
set_option maxHeartbeats 4000000 in
theorem w_Ke_mayAsk_b60 {K : zK} (hk : zOk K kdC cX4_mayAsk 6 (some .boolean) RX4 3)  {o1 : Nat} {x5 : Int} {a0 : Nat} {n0 : Nat} {s1 : Int} {s2 : Int} {m : zM} {o : Int × zM}  (hm : zG kdC m) (ko1 : kdC o1 = (0, 10)) (cx5 : cI x5) (ka0 : kdC a0 = (1, n0)) (cs1 : cI s1) (zs2 : zok 4 s2) (h : Ke_mayAsk_b60 o1 x5 a0 n0 s1 s2 m = some o) : GoAt K m [(0, .ref (kB K + 25)), (1, .ref (kB K + o1)), (5, mI x5)] [mI s2, mI s1, .ref (kB K + a0)] 60 (4, o.1, o.2) := by
  unfold Ke_mayAsk_b60 at h
  refine g_iast hk cs1 (b01 zs2) ka0 hm dX4_mayAsk_60 h (fun m1 hm h => ?_)
  refine g_aload_n hk 0 rfl dX4_mayAsk_61 ?_
  refine g_get2 hk fl_X4_23 rfl kdC_25 hm (b := 29) rfl dX4_mayAsk_62 ?_
  refine g_bipush hk (v := 8) rfl dX4_mayAsk_65 ?_
  refine g_iload hk 2 rfl dX4_mayAsk_67 ?_
  refine g_iast hk (cIk rfl) cx5 kdC_29 hm dX4_mayAsk_69 h (fun m2 hm h => ?_)
  refine g_aload_n hk 1 rfl dX4_mayAsk_70 ?_
  refine g_get2 hk fl_X4_71 rfl ko1 hm (b := o1 + 14) rfl dX4_mayAsk_71 ?_
  refine g_aload_n hk 0 rfl dX4_mayAsk_74 ?_
  refine g_get2 hk fl_X4_23 rfl kdC_25 hm (b := 29) rfl dX4_mayAsk_75 ?_
  obtain ⟨r3, e4, h⟩ := zbind h
  refine g_callVi hk (st := []) mf_X1_valueOf lk_X4_40 mv_X1_valueOf (kdC_s10_13 ko1) (by decide) rfl (Nat.le_of_ble_eq_true rfl) rfl dX4_mayAsk_78 (met_Fo_valueOf _ _ _ _ _ hk.wd hm (kdC_s10_13 ko1) kdC_29 e4) (fun hm c5 => ?_)
  refine g_if_eq hk c5 dX4_mayAsk_81 h (fun b6 h => ?_) (fun b6 h => ?_)
  · refine g_iconst hk (v := 0) rfl dX4_mayAsk_88 ?_
    exact g_zreturn hk z0 dX4_mayAsk_89 (by cases h; rfl)
  · refine g_iconst hk (v := 1) rfl dX4_mayAsk_84 ?_
    refine g_goto hk dX4_mayAsk_85 ?_
    exact g_zreturn hk z1 dX4_mayAsk_89 (by cases h; rfl)
set_option maxRecDepth 100000 in
set_option maxHeartbeats 4000000 in
theorem w_Ke_mayAsk {K : zK} (hk : zOk K kdC cX4_mayAsk 6 (some .boolean) RX4 3)  {o1 : Nat} {o2 : Nat} {x3 : Int} {x4 : Int} {x5 : Int} {m : zM} {o : Int × zM}  (hm : zG kdC m) (ko1 : kdC o1 = (0, 10)) (ko2 : kdC o2 = (0, 7)) (cx3 : cI x3) (cx4 : cI x4) (cx5 : cI x5) (h : Ke_mayAsk o1 o2 x3 x4 x5 m = some o) : GoAt K m [(0, .ref (kB K + 25)), (1, .ref (kB K + o1)), (2, .ref (kB K + o2)), (3, mI x3), (4, mI x4), (5, mI x5)] [] 0 (4, o.1, o.2) := by
  unfold Ke_mayAsk at h
  refine g_aload_n hk 1 rfl dX4_mayAsk_0 ?_
  refine g_get2 hk fl_X4_71 rfl ko1 hm (b := o1 + 14) rfl dX4_mayAsk_1 ?_
  have g1 := zGI (i := 1) hm (kdC_s10_13 ko1) rfl
  refine g_get0 hk fl_X4_36 rfl (j := 1) rfl (kdC_s10_13 ko1) dX4_mayAsk_4 ?_
  refine g_if_ne hk g1 dX4_mayAsk_7 h (fun b2 h => ?_) (fun b2 h => ?_)
  · refine g_iconst hk (v := 1) rfl dX4_mayAsk_10 ?_
    exact g_zreturn hk z1 dX4_mayAsk_11 (by cases h; rfl)
  · refine g_aload_n hk 0 rfl dX4_mayAsk_12 ?_
    refine g_aload_n hk 2 rfl dX4_mayAsk_13 ?_
    refine g_iload_n hk 3 rfl dX4_mayAsk_14 ?_
    refine g_iload hk 4 rfl dX4_mayAsk_15 ?_
    obtain ⟨r3, e4, h⟩ := zbind h
    refine g_callVv hk (st := []) mf_X4_look lk_X4_26 mv_X4_look kdC_25 (by decide) rfl (Nat.le_of_ble_eq_true rfl) rfl dX4_mayAsk_17 (met_Ke_look _ _ _ _ _ hk.wd hm ko2 cx3 cx4 e4) (fun hm => ?_)
    refine g_aload_n hk 0 rfl dX4_mayAsk_20 ?_
    refine g_get2 hk fl_X4_23 rfl kdC_25 hm (b := 29) rfl dX4_mayAsk_21 ?_
    refine g_bipush hk (v := 6) rfl dX4_mayAsk_24 ?_
    refine g_aload_n hk 0 rfl dX4_mayAsk_26 ?_
    refine g_get2 hk fl_X4_9 rfl kdC_25 hm (b := 26) rfl dX4_mayAsk_27 ?_
    refine g_iload_n hk 3 rfl dX4_mayAsk_30 ?_
    refine g_bipush hk (v := 8) rfl dX4_mayAsk_31 ?_
    refine g_imul hk dX4_mayAsk_33 ?_
    refine g_iload hk 4 rfl dX4_mayAsk_34 ?_
    refine g_iadd hk dX4_mayAsk_36 ?_
    refine g_iald hk (wI_c _) kdC_26 hm dX4_mayAsk_37 h (fun y6 cy6 h => ?_)
    refine g_iast hk (cIk rfl) cy6 kdC_29 hm dX4_mayAsk_38 h (fun m7 hm h => ?_)
    refine g_aload_n hk 0 rfl dX4_mayAsk_39 ?_
    refine g_get2 hk fl_X4_23 rfl kdC_25 hm (b := 29) rfl dX4_mayAsk_40 ?_
    refine g_bipush hk (v := 7) rfl dX4_mayAsk_43 ?_
    refine g_aload_n hk 1 rfl dX4_mayAsk_45 ?_
    refine g_iload_n hk 3 rfl dX4_mayAsk_46 ?_
    refine g_iload hk 4 rfl dX4_mayAsk_47 ?_
    obtain ⟨r8, e9, h⟩ := zbind h
    refine g_callVz hk (st := [mI 7, .ref (kB K + 29)]) mf_X10_isFeared lk_X4_74 mv_X10_isFeared ko1 (by decide) rfl (Nat.le_of_ble_eq_true rfl) rfl dX4_mayAsk_49 (met_Zo_isFeared _ _ _ _ _ hk.wd hm ko1 cx3 cx4 e9) (fun hm c10 => ?_)
    refine g_if_eq hk (b01 c10) dX4_mayAsk_52 h (fun b11 h => ?_) (fun b11 h => ?_)
    · refine g_iconst hk (v := 0) rfl dX4_mayAsk_59 ?_
      refine GoAt.sub [0, 1, 5] rfl ?_
      exact w_Ke_mayAsk_b60 hk hm ko1 cx5 kdC_29 (cIk rfl) z0 h
    · refine g_iconst hk (v := 1) rfl dX4_mayAsk_55 ?_
      refine g_goto hk dX4_mayAsk_56 ?_
      refine GoAt.sub [0, 1, 5] rfl ?_
      exact w_Ke_mayAsk_b60 hk hm ko1 cx5 kdC_29 (cIk rfl) z1 h
theorem met_Ke_mayAsk (l : Launch) (D : va_G) (aC : Nat → ClassId) (B N : Nat) (hwd : ∀ id, (kdC id).1 ≠ 9 → id < N) {o1 : Nat} {o2 : Nat} {x3 : Int} {x4 : Int} {x5 : Int} {m : zM} {o : Int × zM} (hm : zG kdC m) (ko1 : kdC o1 = (0, 10)) (ko2 : kdC o2 = (0, 7)) (cx3 : cI x3) (cx4 : cI x4) (cx5 : cI x5) (h : Ke_mayAsk o1 o2 x3 x4 x5 m = some o) : zMet l yX4_mayAsk cX4_mayAsk 6 (some .boolean) 3 D aC B kdC N [.ref (B + 25), .ref (B + o1), .ref (B + o2), mI x3, mI x4, mI x5] m (4, o.1, o.2) := by
  refine zMet.of mf_X4_mayAsk hwd hm (Nat.le_of_ble_eq_true rfl) (fun K e1 e2 e3 e4 e5 hk => ?_)
  subst e4
  exact w_Ke_mayAsk hk hm ko1 ko2 cx3 cx4 cx5 h
set_option maxRecDepth 100000 in
set_option maxHeartbeats 4000000 in
theorem w_Ke_favourite_B9 {K : zK} (hk : zOk K kdC cX4_favourite 10 (some .int) RX4 4) {rec : Nat → Nat → Int → Int → Int → Int → Int → Int → zM → Option (Int × zM)} {o1 : Nat} {o2 : Nat} {x3 : Int} {x4 : Int} {x5 : Int} {x6 : Int} {x7 : Int} {x8 : Int} {m : zM} {o : Int × zM} (hrec : ∀ (o1 : Nat) (o2 : Nat) (x3 : Int) (x4 : Int) (x5 : Int) (x6 : Int) (x7 : Int) (x8 : Int) (m : zM), zG kdC m → kdC o1 = (0, 10) → kdC o2 = (0, 7) → cI x3 → cI x4 → cI x5 → cI x6 → cI x7 → cI x8 → rec o1 o2 x3 x4 x5 x6 x7 x8 m = some o → GoAt K m [(0, .ref (kB K + 25)), (1, .ref (kB K + o1)), (2, .ref (kB K + o2)), (3, mI x3), (4, mI x4), (5, mI x5), (6, mI x6), (7, mI x7), (8, mI x8)] [] 9 (0, o.1, o.2)) (hm : zG kdC m) (ko1 : kdC o1 = (0, 10)) (ko2 : kdC o2 = (0, 7)) (cx3 : cI x3) (cx4 : cI x4) (cx5 : cI x5) (cx6 : cI x6) (cx7 : cI x7) (cx8 : cI x8) (h : Ke_favourite_B9 rec o1 o2 x3 x4 x5 x6 x7 x8 m = some o) : GoAt K m [(0, .ref (kB K + 25)), (1, .ref (kB K + o1)), (2, .ref (kB K + o2)), (3, mI x3), (4, mI x4), (5, mI x5), (6, mI x6), (7, mI x7), (8, mI x8)] [] 9 (0, o.1, o.2) := by
  unfold Ke_favourite_B9 at h
  refine g_iload hk 8 rfl dX4_favourite_9 ?_
  refine g_aload_n hk 1 rfl dX4_favourite_11 ?_
  have g1 := zGI (i := 1) hm ko1 rfl
  refine g_get0 hk fl_X4_90 rfl (j := 1) rfl ko1 dX4_favourite_12 ?_
  refine g_icmp_ge hk cx8 g1 dX4_favourite_15 h (fun b2 h => ?_) (fun b2 h => ?_)
  · refine g_aload_n hk 0 rfl dX4_favourite_18 ?_
    refine g_get2 hk fl_X4_9 rfl kdC_25 hm (b := 26) rfl dX4_favourite_19 ?_
    refine g_iload_n hk 3 rfl dX4_favourite_22 ?_
    refine g_bipush hk (v := 8) rfl dX4_favourite_23 ?_
    refine g_imul hk dX4_favourite_25 ?_
    refine g_iload hk 8 rfl dX4_favourite_26 ?_
    refine g_iadd hk dX4_favourite_28 ?_
    refine g_iald hk (wI_c _) kdC_26 hm dX4_favourite_29 h (fun y3 cy3 h => ?_)
    refine g_istore hk (lv' := [(9, mI y3), (0, .ref (kB K + 25)), (1, .ref (kB K + o1)), (2, .ref (kB K + o2)), (3, mI x3), (4, mI x4), (5, mI x5), (6, mI x6), (7, mI x7), (8, mI x8)]) (Nat.le_of_ble_eq_true rfl) rfl dX4_favourite_30 ?_
    refine g_iload hk 0 rfl dX4_favourite_32 ?_
    refine g_iload hk 7 rfl dX4_favourite_34 ?_
    refine g_icmp_le hk cy3 cx6 dX4_favourite_36 h (fun b4 h => ?_) (fun b4 h => ?_)
    · refine g_iload hk 5 rfl dX4_favourite_39 ?_
      refine g_iload hk 9 rfl dX4_favourite_41 ?_
      refine g_ishr hk dX4_favourite_43 ?_
      refine g_iconst hk (v := 1) rfl dX4_favourite_44 ?_
      refine g_iand hk dX4_favourite_45 ?_
      refine g_if_ne hk (cI_t _) dX4_favourite_46 h (fun b5 h => ?_) (fun b5 h => ?_)
      · refine g_aload_n hk 1 rfl dX4_favourite_49 ?_
        refine g_aload_n hk 2 rfl dX4_favourite_50 ?_
        refine g_aload_n hk 3 rfl dX4_favourite_51 ?_
        refine g_iload_n hk 4 rfl dX4_favourite_52 ?_
        refine g_iload hk 9 rfl dX4_favourite_53 ?_
        refine g_iload hk 6 rfl dX4_favourite_55 ?_
        obtain ⟨r6, e7, h⟩ := zbind h
        refine g_callVz hk (st := []) mf_X4_mayAsk lk_X4_108 mv_X4_mayAsk kdC_25 (by decide) rfl (Nat.le_of_ble_eq_true rfl) rfl dX4_favourite_57 (met_Ke_mayAsk _ _ _ _ _ hk.wd hm ko1 ko2 cx3 cx8 cx5 e7) (fun hm c8 => ?_)
        refine g_if_eq hk (b01 c8) dX4_favourite_60 h (fun b9 h => ?_) (fun b9 h => ?_)
        · refine g_iinc hk (lv' := [(8, mI (wI (x8 + 1))), (9, mI y3), (0, .ref (kB K + 25)), (1, .ref (kB K + o1)), (2, .ref (kB K + o2)), (3, mI x3), (4, mI x4), (5, mI x5), (6, mI x6), (7, mI x7)]) 9 rfl (Nat.le_of_ble_eq_true rfl) rfl dX4_favourite_71 ?_
          refine g_goto hk dX4_favourite_74 ?_
          refine GoAt.sub [2, 3, 4, 5, 6, 7, 8, 9, 0] rfl ?_
          exact hrec _ _ _ _ _ _ _ _ _ hm ko1 ko2 cx3 cx4 cx5 cx6 cx7 (wI_c _) h
        · refine g_iload hk 0 rfl dX4_favourite_63 ?_
          refine g_istore hk (lv' := [(6, mI y3), (9, mI y3), (0, .ref (kB K + 25)), (1, .ref (kB K + o1)), (2, .ref (kB K + o2)), (3, mI x3), (4, mI x4), (5, mI x5), (7, mI x7), (8, mI x8)]) (Nat.le_of_ble_eq_true rfl) rfl dX4_favourite_65 ?_
          refine g_iload hk 9 rfl dX4_favourite_67 ?_
          refine g_istore hk (lv' := [(7, mI x8), (6, mI y3), (9, mI y3), (0, .ref (kB K + 25)), (1, .ref (kB K + o1)), (2, .ref (kB K + o2)), (3, mI x3), (4, mI x4), (5, mI x5), (8, mI x8)]) (Nat.le_of_ble_eq_true rfl) rfl dX4_favourite_69 ?_
          refine g_iinc hk (lv' := [(8, mI (wI (x8 + 1))), (7, mI x8), (6, mI y3), (9, mI y3), (0, .ref (kB K + 25)), (1, .ref (kB K + o1)), (2, .ref (kB K + o2)), (3, mI x3), (4, mI x4), (5, mI x5)]) 9 rfl (Nat.le_of_ble_eq_true rfl) rfl dX4_favourite_71 ?_
          refine g_goto hk dX4_favourite_74 ?_
          refine GoAt.sub [4, 5, 6, 7, 8, 9, 2, 1, 0] rfl ?_
          exact hrec _ _ _ _ _ _ _ _ _ hm ko1 ko2 cx3 cx4 cx5 cy3 cx8 (wI_c _) h
      · refine g_iinc hk (lv' := [(8, mI (wI (x8 + 1))), (9, mI y3), (0, .ref (kB K + 25)), (1, .ref (kB K + o1)), (2, .ref (kB K + o2)), (3, mI x3), (4, mI x4), (5, mI x5), (6, mI x6), (7, mI x7)]) 9 rfl (Nat.le_of_ble_eq_true rfl) rfl dX4_favourite_71 ?_
        refine g_goto hk dX4_favourite_74 ?_
        refine GoAt.sub [2, 3, 4, 5, 6, 7, 8, 9, 0] rfl ?_
        exact hrec _ _ _ _ _ _ _ _ _ hm ko1 ko2 cx3 cx4 cx5 cx6 cx7 (wI_c _) h
    · refine g_iinc hk (lv' := [(8, mI (wI (x8 + 1))), (9, mI y3), (0, .ref (kB K + 25)), (1, .ref (kB K + o1)), (2, .ref (kB K + o2)), (3, mI x3), (4, mI x4), (5, mI x5), (6, mI x6), (7, mI x7)]) 9 rfl (Nat.le_of_ble_eq_true rfl) rfl dX4_favourite_71 ?_
      refine g_goto hk dX4_favourite_74 ?_
      refine GoAt.sub [2, 3, 4, 5, 6, 7, 8, 9, 0] rfl ?_
      exact hrec _ _ _ _ _ _ _ _ _ hm ko1 ko2 cx3 cx4 cx5 cx6 cx7 (wI_c _) h
  · refine g_iload hk 7 rfl dX4_favourite_77 ?_
    exact g_ireturn hk cx7 dX4_favourite_79 (by cases h; rfl)
theorem w_Ke_favourite_L9 {K : zK} (hk : zOk K kdC cX4_favourite 10 (some .int) RX4 4)  {o : Int × zM}  : ∀ (n : Nat) (o1 : Nat) (o2 : Nat) (x3 : Int) (x4 : Int) (x5 : Int) (x6 : Int) (x7 : Int) (x8 : Int) (m : zM), zG kdC m → kdC o1 = (0, 10) → kdC o2 = (0, 7) → cI x3 → cI x4 → cI x5 → cI x6 → cI x7 → cI x8 → Ke_favourite_L9 n o1 o2 x3 x4 x5 x6 x7 x8 m = some o → GoAt K m [(0, .ref (kB K + 25)), (1, .ref (kB K + o1)), (2, .ref (kB K + o2)), (3, mI x3), (4, mI x4), (5, mI x5), (6, mI x6), (7, mI x7), (8, mI x8)] [] 9 (0, o.1, o.2)
  | 0, o1, o2, x3, x4, x5, x6, x7, x8, m, hm, ko1, ko2, cx3, cx4, cx5, cx6, cx7, cx8, h => by cases h
  | n + 1, o1, o2, x3, x4, x5, x6, x7, x8, m, hm, ko1, ko2, cx3, cx4, cx5, cx6, cx7, cx8, h => w_Ke_favourite_B9 hk  (w_Ke_favourite_L9 hk  n) hm ko1 ko2 cx3 cx4 cx5 cx6 cx7 cx8 h
set_option maxRecDepth 100000 in
set_option maxHeartbeats 4000000 in
theorem w_Ke_favourite {K : zK} (hk : zOk K kdC cX4_favourite 10 (some .int) RX4 4)  {o1 : Nat} {o2 : Nat} {x3 : Int} {x4 : Int} {x5 : Int} {m : zM} {o : Int × zM}  (hm : zG kdC m) (ko1 : kdC o1 = (0, 10)) (ko2 : kdC o2 = (0, 7)) (cx3 : cI x3) (cx4 : cI x4) (cx5 : cI x5) (h : Ke_favourite o1 o2 x3 x4 x5 m = some o) : GoAt K m [(0, .ref (kB K + 25)), (1, .ref (kB K + o1)), (2, .ref (kB K + o2)), (3, mI x3), (4, mI x4), (5, mI x5)] [] 0 (0, o.1, o.2) := by
  unfold Ke_favourite at h
  refine g_iconst hk (v := 0) rfl dX4_favourite_0 ?_
  refine g_istore hk (lv' := [(6, mI 0), (0, .ref (kB K + 25)), (1, .ref (kB K + o1)), (2, .ref (kB K + o2)), (3, mI x3), (4, mI x4), (5, mI x5)]) (Nat.le_of_ble_eq_true rfl) rfl dX4_favourite_1 ?_
  refine g_iconst hk (v := (-1)) rfl dX4_favourite_3 ?_
  refine g_istore hk (lv' := [(7, mI ((-1))), (6, mI 0), (0, .ref (kB K + 25)), (1, .ref (kB K + o1)), (2, .ref (kB K + o2)), (3, mI x3), (4, mI x4), (5, mI x5)]) (Nat.le_of_ble_eq_true rfl) rfl dX4_favourite_4 ?_
  refine g_iconst hk (v := 0) rfl dX4_favourite_6 ?_
  refine g_istore hk (lv' := [(8, mI 0), (7, mI ((-1))), (6, mI 0), (0, .ref (kB K + 25)), (1, .ref (kB K + o1)), (2, .ref (kB K + o2)), (3, mI x3), (4, mI x4), (5, mI x5)]) (Nat.le_of_ble_eq_true rfl) rfl dX4_favourite_7 ?_
  refine GoAt.sub [3, 4, 5, 6, 7, 8, 2, 1, 0] rfl ?_
  refine w_Ke_favourite_L9 hk  1000000 _ _ _ _ _ _ _ _ _ hm ko1 ko2 cx3 cx4 cx5 (cIk rfl) (cIk rfl) (cIk rfl) h
theorem met_Ke_favourite (l : Launch) (D : va_G) (aC : Nat → ClassId) (B N : Nat) (hwd : ∀ id, (kdC id).1 ≠ 9 → id < N) {o1 : Nat} {o2 : Nat} {x3 : Int} {x4 : Int} {x5 : Int} {m : zM} {o : Int × zM} (hm : zG kdC m) (ko1 : kdC o1 = (0, 10)) (ko2 : kdC o2 = (0, 7)) (cx3 : cI x3) (cx4 : cI x4) (cx5 : cI x5) (h : Ke_favourite o1 o2 x3 x4 x5 m = some o) : zMet l yX4_favourite cX4_favourite 10 (some .int) 4 D aC B kdC N [.ref (B + 25), .ref (B + o1), .ref (B + o2), mI x3, mI x4, mI x5] m (0, o.1, o.2) := by
  refine zMet.of mf_X4_favourite hwd hm (Nat.le_of_ble_eq_true rfl) (fun K e1 e2 e3 e4 e5 hk => ?_)
  subst e4
  exact w_Ke_favourite hk hm ko1 ko2 cx3 cx4 cx5 h
set_option maxRecDepth 100000 in
set_option maxHeartbeats 4000000 in
theorem w_Ke_choose_b70 {K : zK} (hk : zOk K kdC cX4_choose 7 none RX4 5) {rec : Nat → Nat → Int → Int → Int → Int → zM → Option (zM)} {o1 : Nat} {o2 : Nat} {x3 : Int} {x4 : Int} {x5 : Int} {x6 : Int} {m : zM} {o : zM} (hrec : ∀ (o1 : Nat) (o2 : Nat) (x3 : Int) (x4 : Int) (x5 : Int) (x6 : Int) (m : zM), zG kdC m → kdC o1 = (0, 10) → kdC o2 = (0, 7) → cI x3 → cI x4 → cI x5 → cI x6 → rec o1 o2 x3 x4 x5 x6 m = some o → GoAt K m [(0, .ref (kB K + 25)), (1, .ref (kB K + o1)), (2, .ref (kB K + o2)), (3, mI x3), (4, mI x4), (5, mI x5), (6, mI x6)] [] 12 (9, 0, o)) (hm : zG kdC m) (ko1 : kdC o1 = (0, 10)) (ko2 : kdC o2 = (0, 7)) (cx3 : cI x3) (cx4 : cI x4) (cx5 : cI x5) (cx6 : cI x6) (h : Ke_choose_b70 rec o1 o2 x3 x4 x5 x6 m = some o) : GoAt K m [(0, .ref (kB K + 25)), (1, .ref (kB K + o1)), (2, .ref (kB K + o2)), (3, mI x3), (4, mI x4), (5, mI x5), (6, mI x6)] [] 70 (9, 0, o) := by
  unfold Ke_choose_b70 at h
  refine g_aload_n hk 0 rfl dX4_choose_70 ?_
  refine g_get2 hk fl_X4_15 rfl kdC_25 hm (b := 27) rfl dX4_choose_71 ?_
  refine g_iload hk 6 rfl dX4_choose_74 ?_
  refine g_iald hk cx6 kdC_27 hm dX4_choose_76 h (fun y1 cy1 h => ?_)
  refine g_iconst hk (v := (-1)) rfl dX4_choose_77 ?_
  refine g_icmp_eq hk cy1 (cIk rfl) dX4_choose_78 h (fun b2 h => ?_) (fun b2 h => ?_)
  · refine g_iinc hk (lv' := [(6, mI (wI (x6 + 1))), (0, .ref (kB K + 25)), (1, .ref (kB K + o1)), (2, .ref (kB K + o2)), (3, mI x3), (4, mI x4), (5, mI x5)]) 6 rfl (Nat.le_of_ble_eq_true rfl) rfl dX4_choose_98 ?_
    refine g_goto hk dX4_choose_101 ?_
    refine GoAt.sub [1, 2, 3, 4, 5, 6, 0] rfl ?_
    exact hrec _ _ _ _ _ _ _ hm ko1 ko2 cx3 cx4 cx5 (wI_c _) h
  · refine g_iload hk 4 rfl dX4_choose_81 ?_
    refine g_iconst hk (v := 1) rfl dX4_choose_83 ?_
    refine g_aload_n hk 0 rfl dX4_choose_84 ?_
    refine g_get2 hk fl_X4_15 rfl kdC_25 hm (b := 27) rfl dX4_choose_85 ?_
    refine g_iload hk 6 rfl dX4_choose_88 ?_
    refine g_iald hk cx6 kdC_27 hm dX4_choose_90 h (fun y3 cy3 h => ?_)
    refine g_ishl hk dX4_choose_91 ?_
    refine g_ior hk dX4_choose_92 ?_
    refine g_let (cI_t _) h (fun v4 cv4 h => ?_)
    refine g_istore hk (lv' := [(4, mI v4), (0, .ref (kB K + 25)), (1, .ref (kB K + o1)), (2, .ref (kB K + o2)), (3, mI x3), (5, mI x5), (6, mI x6)]) (Nat.le_of_ble_eq_true rfl) rfl dX4_choose_93 ?_
    refine g_iinc hk (lv' := [(5, mI (wI (x5 + (-1)))), (4, mI v4), (0, .ref (kB K + 25)), (1, .ref (kB K + o1)), (2, .ref (kB K + o2)), (3, mI x3), (6, mI x6)]) 5 rfl (Nat.le_of_ble_eq_true rfl) rfl dX4_choose_95 ?_
    refine g_iinc hk (lv' := [(6, mI (wI (x6 + 1))), (5, mI (wI (x5 + (-1)))), (4, mI v4), (0, .ref (kB K + 25)), (1, .ref (kB K + o1)), (2, .ref (kB K + o2)), (3, mI x3)]) 6 rfl (Nat.le_of_ble_eq_true rfl) rfl dX4_choose_98 ?_
    refine g_goto hk dX4_choose_101 ?_
    refine GoAt.sub [3, 4, 5, 6, 2, 1, 0] rfl ?_
    exact hrec _ _ _ _ _ _ _ hm ko1 ko2 cx3 cv4 (wI_c _) (wI_c _) h
set_option maxRecDepth 100000 in
set_option maxHeartbeats 4000000 in
theorem w_Ke_choose_B12 {K : zK} (hk : zOk K kdC cX4_choose 7 none RX4 5) {rec : Nat → Nat → Int → Int → Int → Int → zM → Option (zM)} {o1 : Nat} {o2 : Nat} {x3 : Int} {x4 : Int} {x5 : Int} {x6 : Int} {m : zM} {o : zM} (hrec : ∀ (o1 : Nat) (o2 : Nat) (x3 : Int) (x4 : Int) (x5 : Int) (x6 : Int) (m : zM), zG kdC m → kdC o1 = (0, 10) → kdC o2 = (0, 7) → cI x3 → cI x4 → cI x5 → cI x6 → rec o1 o2 x3 x4 x5 x6 m = some o → GoAt K m [(0, .ref (kB K + 25)), (1, .ref (kB K + o1)), (2, .ref (kB K + o2)), (3, mI x3), (4, mI x4), (5, mI x5), (6, mI x6)] [] 12 (9, 0, o)) (hm : zG kdC m) (ko1 : kdC o1 = (0, 10)) (ko2 : kdC o2 = (0, 7)) (cx3 : cI x3) (cx4 : cI x4) (cx5 : cI x5) (cx6 : cI x6) (h : Ke_choose_B12 rec o1 o2 x3 x4 x5 x6 m = some o) : GoAt K m [(0, .ref (kB K + 25)), (1, .ref (kB K + o1)), (2, .ref (kB K + o2)), (3, mI x3), (4, mI x4), (5, mI x5), (6, mI x6)] [] 12 (9, 0, o) := by
  unfold Ke_choose_B12 at h
  refine g_iload hk 6 rfl dX4_choose_12 ?_
  refine g_iload_n hk 3 rfl dX4_choose_14 ?_
  refine g_icmp_ge hk cx6 cx3 dX4_choose_15 h (fun b1 h => ?_) (fun b1 h => ?_)
  · refine g_iload hk 6 rfl dX4_choose_18 ?_
    refine g_bipush hk (v := 6) rfl dX4_choose_20 ?_
    refine g_icmp_ge hk cx6 (cIk rfl) dX4_choose_22 h (fun b2 h => ?_) (fun b2 h => ?_)
    · refine g_aload_n hk 0 rfl dX4_choose_25 ?_
      refine g_get2 hk fl_X4_15 rfl kdC_25 hm (b := 27) rfl dX4_choose_26 ?_
      refine g_iload hk 6 rfl dX4_choose_29 ?_
      refine g_iconst hk (v := (-1)) rfl dX4_choose_31 ?_
      refine g_iast hk cx6 (cIk rfl) kdC_27 hm dX4_choose_32 h (fun m3 hm h => ?_)
      refine g_iload hk 5 rfl dX4_choose_33 ?_
      refine g_if_le hk cx5 dX4_choose_35 h (fun b4 h => ?_) (fun b4 h => ?_)
      · refine g_aload_n hk 1 rfl dX4_choose_38 ?_
        refine g_iload hk 6 rfl dX4_choose_39 ?_
        refine g_aload_n hk 2 rfl dX4_choose_41 ?_
        have g5 := zGI (i := 1) hm ko2 rfl
        refine g_get0 hk fl_X4_65 rfl (j := 1) rfl ko2 dX4_choose_42 ?_
        obtain ⟨r6, e7, h⟩ := zbind h
        refine g_callVz hk (st := []) mf_X10_isAwake lk_X4_78 mv_X10_isAwake ko1 (by decide) rfl (Nat.le_of_ble_eq_true rfl) rfl dX4_choose_45 (met_Zo_isAwake _ _ _ _ _ hk.wd hm ko1 cx6 g5 e7) (fun hm c8 => ?_)
        refine g_if_eq hk (b01 c8) dX4_choose_48 h (fun b9 h => ?_) (fun b9 h => ?_)
        · exact w_Ke_choose_b70 hk hrec hm ko1 ko2 cx3 cx4 cx5 cx6 h
        · refine g_aload_n hk 0 rfl dX4_choose_51 ?_
          refine g_get2 hk fl_X4_15 rfl kdC_25 hm (b := 27) rfl dX4_choose_52 ?_
          refine g_iload hk 6 rfl dX4_choose_55 ?_
          refine g_aload_n hk 0 rfl dX4_choose_57 ?_
          refine g_aload_n hk 1 rfl dX4_choose_58 ?_
          refine g_aload_n hk 2 rfl dX4_choose_59 ?_
          refine g_iload hk 6 rfl dX4_choose_60 ?_
          refine g_iload hk 4 rfl dX4_choose_62 ?_
          refine g_iload hk 5 rfl dX4_choose_64 ?_
          obtain ⟨r10, e11, h⟩ := zbind h
          refine g_callVi hk (st := [mI x6, .ref (kB K + 27)]) mf_X4_favourite lk_X4_115 mv_X4_favourite kdC_25 (by decide) rfl (Nat.le_of_ble_eq_true rfl) rfl dX4_choose_66 (met_Ke_favourite _ _ _ _ _ hk.wd hm ko1 ko2 cx6 cx4 cx5 e11) (fun hm c12 => ?_)
          refine g_iast hk cx6 c12 kdC_27 hm dX4_choose_69 h (fun m13 hm h => ?_)
          exact w_Ke_choose_b70 hk hrec hm ko1 ko2 cx3 cx4 cx5 cx6 h
      · exact w_Ke_choose_b70 hk hrec hm ko1 ko2 cx3 cx4 cx5 cx6 h
    · exact g_return hk dX4_choose_104 (by cases h; rfl)
  · exact g_return hk dX4_choose_104 (by cases h; rfl)
theorem w_Ke_choose_L12 {K : zK} (hk : zOk K kdC cX4_choose 7 none RX4 5)  {o : zM}  : ∀ (n : Nat) (o1 : Nat) (o2 : Nat) (x3 : Int) (x4 : Int) (x5 : Int) (x6 : Int) (m : zM), zG kdC m → kdC o1 = (0, 10) → kdC o2 = (0, 7) → cI x3 → cI x4 → cI x5 → cI x6 → Ke_choose_L12 n o1 o2 x3 x4 x5 x6 m = some o → GoAt K m [(0, .ref (kB K + 25)), (1, .ref (kB K + o1)), (2, .ref (kB K + o2)), (3, mI x3), (4, mI x4), (5, mI x5), (6, mI x6)] [] 12 (9, 0, o)
  | 0, o1, o2, x3, x4, x5, x6, m, hm, ko1, ko2, cx3, cx4, cx5, cx6, h => by cases h
  | n + 1, o1, o2, x3, x4, x5, x6, m, hm, ko1, ko2, cx3, cx4, cx5, cx6, h => w_Ke_choose_B12 hk  (w_Ke_choose_L12 hk  n) hm ko1 ko2 cx3 cx4 cx5 cx6 h
set_option maxRecDepth 100000 in
set_option maxHeartbeats 4000000 in
theorem w_Ke_choose {K : zK} (hk : zOk K kdC cX4_choose 7 none RX4 5)  {o1 : Nat} {o2 : Nat} {x3 : Int} {m : zM} {o : zM}  (hm : zG kdC m) (ko1 : kdC o1 = (0, 10)) (ko2 : kdC o2 = (0, 7)) (cx3 : cI x3) (h : Ke_choose o1 o2 x3 m = some o) : GoAt K m [(0, .ref (kB K + 25)), (1, .ref (kB K + o1)), (2, .ref (kB K + o2)), (3, mI x3)] [] 0 (9, 0, o) := by
  unfold Ke_choose at h
  refine g_iconst hk (v := 0) rfl dX4_choose_0 ?_
  refine g_istore hk (lv' := [(4, mI 0), (0, .ref (kB K + 25)), (1, .ref (kB K + o1)), (2, .ref (kB K + o2)), (3, mI x3)]) (Nat.le_of_ble_eq_true rfl) rfl dX4_choose_1 ?_
  refine g_aload_n hk 2 rfl dX4_choose_3 ?_
  have g1 := zGI (i := 14) hm ko1 rfl
  refine g_get0 hk fl_X4_112 rfl (j := 14) rfl ko1 dX4_choose_4 ?_
  refine g_istore hk (lv' := [(5, mI (m o1 14)), (4, mI 0), (0, .ref (kB K + 25)), (1, .ref (kB K + o1)), (2, .ref (kB K + o2)), (3, mI x3)]) (Nat.le_of_ble_eq_true rfl) rfl dX4_choose_7 ?_
  refine g_iconst hk (v := 0) rfl dX4_choose_9 ?_
  refine g_istore hk (lv' := [(6, mI 0), (5, mI (m o1 14)), (4, mI 0), (0, .ref (kB K + 25)), (1, .ref (kB K + o1)), (2, .ref (kB K + o2)), (3, mI x3)]) (Nat.le_of_ble_eq_true rfl) rfl dX4_choose_10 ?_
  refine GoAt.sub [3, 4, 5, 6, 2, 1, 0] rfl ?_
  refine w_Ke_choose_L12 hk  1000000 _ _ _ _ _ _ _ hm ko1 ko2 cx3 (cIk rfl) g1 (cIk rfl) h
theorem met_Ke_choose (l : Launch) (D : va_G) (aC : Nat → ClassId) (B N : Nat) (hwd : ∀ id, (kdC id).1 ≠ 9 → id < N) {o1 : Nat} {o2 : Nat} {x3 : Int} {m : zM} {o : zM} (hm : zG kdC m) (ko1 : kdC o1 = (0, 10)) (ko2 : kdC o2 = (0, 7)) (cx3 : cI x3) (h : Ke_choose o1 o2 x3 m = some o) : zMet l yX4_choose cX4_choose 7 none 5 D aC B kdC N [.ref (B + 25), .ref (B + o1), .ref (B + o2), mI x3] m (9, 0, o) := by
  refine zMet.of mf_X4_choose hwd hm (Nat.le_of_ble_eq_true rfl) (fun K e1 e2 e3 e4 e5 hk => ?_)
  subst e4
  exact w_Ke_choose hk hm ko1 ko2 cx3 h
set_option maxRecDepth 100000 in
set_option maxHeartbeats 4000000 in
theorem w_Ke_meet {K : zK} (hk : zOk K kdC cX4_meet 6 (some .int) RX4 4)  {o1 : Nat} {o2 : Nat} {x3 : Int} {x4 : Int} {m : zM} {o : Int × zM}  (hm : zG kdC m) (ko1 : kdC o1 = (0, 10)) (ko2 : kdC o2 = (0, 7)) (cx3 : cI x3) (cx4 : cI x4) (h : Ke_meet o1 o2 x3 x4 m = some o) : GoAt K m [(0, .ref (kB K + 25)), (1, .ref (kB K + o1)), (2, .ref (kB K + o2)), (3, mI x3), (4, mI x4)] [] 0 (0, o.1, o.2) := by
  unfold Ke_meet at h
  refine g_aload_n hk 1 rfl dX4_meet_0 ?_
  refine g_iload_n hk 3 rfl dX4_meet_1 ?_
  refine g_iload hk 4 rfl dX4_meet_2 ?_
  obtain ⟨r1, e2, h⟩ := zbind h
  refine g_callVz hk (st := []) mf_X10_isFeared lk_X4_74 mv_X10_isFeared ko1 (by decide) rfl (Nat.le_of_ble_eq_true rfl) rfl dX4_meet_4 (met_Zo_isFeared _ _ _ _ _ hk.wd hm ko1 cx3 cx4 e2) (fun hm c3 => ?_)
  refine g_if_eq hk (b01 c3) dX4_meet_7 h (fun b4 h => ?_) (fun b4 h => ?_)
  · refine g_iload_n hk 3 rfl dX4_meet_31 ?_
    refine g_bipush hk (v := 8) rfl dX4_meet_32 ?_
    refine g_imul hk dX4_meet_34 ?_
    refine g_iload hk 4 rfl dX4_meet_35 ?_
    refine g_iadd hk dX4_meet_37 ?_
    refine g_let (wI_c _) h (fun v5 cv5 h => ?_)
    refine g_istore hk (lv' := [(5, mI v5), (0, .ref (kB K + 25)), (1, .ref (kB K + o1)), (2, .ref (kB K + o2)), (3, mI x3), (4, mI x4)]) (Nat.le_of_ble_eq_true rfl) rfl dX4_meet_38 ?_
    refine g_aload_n hk 3 rfl dX4_meet_40 ?_
    refine g_get2 hk fl_X4_62 rfl ko2 hm (b := o2 + 5) rfl dX4_meet_41 ?_
    refine g_iload hk 0 rfl dX4_meet_44 ?_
    refine g_bipush hk (v := 99) rfl dX4_meet_46 ?_
    refine g_aload_n hk 3 rfl dX4_meet_48 ?_
    refine g_get2 hk fl_X4_62 rfl ko2 hm (b := o2 + 5) rfl dX4_meet_49 ?_
    refine g_iload hk 0 rfl dX4_meet_52 ?_
    refine g_iald hk cv5 (kdC_s7_7 ko2) hm dX4_meet_54 h (fun y6 cy6 h => ?_)
    refine g_iconst hk (v := 1) rfl dX4_meet_55 ?_
    refine g_iadd hk dX4_meet_56 ?_
    refine g_imin hk (cIk rfl) (wI_c _) lk_X4_48 ms_J9_min_7cf53 mfi_J9_min_7cf53 mfc_J9_min_7cf53 (Nat.le_of_ble_eq_true rfl) (Nat.le_of_ble_eq_true rfl) dX4_meet_57 ?_
    refine g_iast hk cv5 (cI_min (cIk rfl) (wI_c _)) (kdC_s7_7 ko2) hm dX4_meet_60 h (fun m7 hm h => ?_)
    refine g_aload_n hk 3 rfl dX4_meet_61 ?_
    refine g_get2 hk fl_X4_132 rfl ko2 hm (b := o2 + 6) rfl dX4_meet_62 ?_
    refine g_iload hk 0 rfl dX4_meet_65 ?_
    refine g_bipush hk (v := 99) rfl dX4_meet_67 ?_
    refine g_aload_n hk 3 rfl dX4_meet_69 ?_
    refine g_get2 hk fl_X4_132 rfl ko2 hm (b := o2 + 6) rfl dX4_meet_70 ?_
    refine g_iload hk 0 rfl dX4_meet_73 ?_
    refine g_iald hk cv5 (kdC_s7_8 ko2) hm dX4_meet_75 h (fun y8 cy8 h => ?_)
    refine g_iconst hk (v := 1) rfl dX4_meet_76 ?_
    refine g_iadd hk dX4_meet_77 ?_
    refine g_imin hk (cIk rfl) (wI_c _) lk_X4_48 ms_J9_min_7cf53 mfi_J9_min_7cf53 mfc_J9_min_7cf53 (Nat.le_of_ble_eq_true rfl) (Nat.le_of_ble_eq_true rfl) dX4_meet_78 ?_
    refine g_iast hk cv5 (cI_min (cIk rfl) (wI_c _)) (kdC_s7_8 ko2) hm dX4_meet_81 h (fun m9 hm h => ?_)
    refine g_aload_n hk 1 rfl dX4_meet_82 ?_
    refine g_aload_n hk 2 rfl dX4_meet_83 ?_
    refine g_aload_n hk 3 rfl dX4_meet_84 ?_
    refine g_iload_n hk 4 rfl dX4_meet_85 ?_
    refine g_iload hk 5 rfl dX4_meet_86 ?_
    obtain ⟨r10, e11, h⟩ := zbind h
    refine g_callVi hk (st := []) mf_X4_liking lk_X4_104 mv_X4_liking kdC_25 (by decide) rfl (Nat.le_of_ble_eq_true rfl) rfl dX4_meet_88 (met_Ke_liking _ _ _ _ _ hk.wd hm ko1 ko2 cx3 cx4 e11) (fun hm c12 => ?_)
    refine g_aload_n hk 2 rfl dX4_meet_91 ?_
    have g13 := zGI (i := 15) hm ko1 rfl
    refine g_get0 hk fl_X4_135 rfl (j := 15) rfl ko1 dX4_meet_92 ?_
    refine g_icmp_ge hk c12 g13 dX4_meet_95 h (fun b14 h => ?_) (fun b14 h => ?_)
    · refine g_aload_n hk 3 rfl dX4_meet_98 ?_
      refine g_get2 hk fl_X4_87 rfl ko2 hm (b := o2 + 3) rfl dX4_meet_99 ?_
      refine g_iload hk 5 rfl dX4_meet_102 ?_
      refine g_dup2 hk rfl rfl dX4_meet_104 ?_
      refine g_iald hk cx4 (kdC_s7_5 ko2) hm dX4_meet_105 h (fun y15 cy15 h => ?_)
      refine g_iconst hk (v := 1) rfl dX4_meet_106 ?_
      refine g_iload_n hk 4 rfl dX4_meet_107 ?_
      refine g_ishl hk dX4_meet_108 ?_
      refine g_ior hk dX4_meet_109 ?_
      refine g_iast hk cx4 (cI_t _) (kdC_s7_5 ko2) hm dX4_meet_110 h (fun m16 hm h => ?_)
      refine g_iconst hk (v := 2) rfl dX4_meet_111 ?_
      exact g_ireturn hk (cIk rfl) dX4_meet_112 (by cases h; rfl)
    · refine g_aload_n hk 3 rfl dX4_meet_113 ?_
      refine g_get2 hk fl_X4_132 rfl ko2 hm (b := o2 + 6) rfl dX4_meet_114 ?_
      refine g_iload hk 0 rfl dX4_meet_117 ?_
      refine g_iald hk cv5 (kdC_s7_8 ko2) hm dX4_meet_119 h (fun y17 cy17 h => ?_)
      refine g_aload_n hk 2 rfl dX4_meet_120 ?_
      have g18 := zGI (i := 16) hm ko1 rfl
      refine g_get0 hk fl_X4_138 rfl (j := 16) rfl ko1 dX4_meet_121 ?_
      refine g_icmp_lt hk cy17 g18 dX4_meet_124 h (fun b19 h => ?_) (fun b19 h => ?_)
      · refine g_iconst hk (v := 1) rfl dX4_meet_137 ?_
        exact g_ireturn hk (cIk rfl) dX4_meet_138 (by cases h; rfl)
      · refine g_aload_n hk 3 rfl dX4_meet_127 ?_
        refine g_get2 hk fl_X4_84 rfl ko2 hm (b := o2 + 2) rfl dX4_meet_128 ?_
        refine g_iload hk 5 rfl dX4_meet_131 ?_
        refine g_iload_n hk 4 rfl dX4_meet_133 ?_
        refine g_iast hk cx4 cx3 (kdC_s7_4 ko2) hm dX4_meet_134 h (fun m20 hm h => ?_)
        refine g_iconst hk (v := 3) rfl dX4_meet_135 ?_
        exact g_ireturn hk (cIk rfl) dX4_meet_136 (by cases h; rfl)
  · refine g_aload_n hk 2 rfl dX4_meet_10 ?_
    refine g_sipush hk (v := 9999) rfl dX4_meet_11 ?_
    refine g_aload_n hk 2 rfl dX4_meet_14 ?_
    have g21 := zGI (i := 2) hm ko2 rfl
    refine g_get0 hk fl_X4_126 rfl (j := 2) rfl ko2 dX4_meet_15 ?_
    refine g_aload_n hk 1 rfl dX4_meet_18 ?_
    have g22 := zGI (i := 17) hm ko1 rfl
    refine g_get0 hk fl_X4_129 rfl (j := 17) rfl ko1 dX4_meet_19 ?_
    refine g_iadd hk dX4_meet_22 ?_
    refine g_imin hk (cIk rfl) (wI_c _) lk_X4_48 ms_J9_min_7cf53 mfi_J9_min_7cf53 mfc_J9_min_7cf53 (Nat.le_of_ble_eq_true rfl) (Nat.le_of_ble_eq_true rfl) dX4_meet_23 ?_
    refine g_put0 hk fp_X4_126 rfl (j := 2) rfl ko2 (cI_min (cIk rfl) (wI_c _)) dX4_meet_26 h hm (fun m23 hm h => ?_)
    refine g_iconst hk (v := 0) rfl dX4_meet_29 ?_
    exact g_ireturn hk (cIk rfl) dX4_meet_30 (by cases h; rfl)
theorem met_Ke_meet (l : Launch) (D : va_G) (aC : Nat → ClassId) (B N : Nat) (hwd : ∀ id, (kdC id).1 ≠ 9 → id < N) {o1 : Nat} {o2 : Nat} {x3 : Int} {x4 : Int} {m : zM} {o : Int × zM} (hm : zG kdC m) (ko1 : kdC o1 = (0, 10)) (ko2 : kdC o2 = (0, 7)) (cx3 : cI x3) (cx4 : cI x4) (h : Ke_meet o1 o2 x3 x4 m = some o) : zMet l yX4_meet cX4_meet 6 (some .int) 4 D aC B kdC N [.ref (B + 25), .ref (B + o1), .ref (B + o2), mI x3, mI x4] m (0, o.1, o.2) := by
  refine zMet.of mf_X4_meet hwd hm (Nat.le_of_ble_eq_true rfl) (fun K e1 e2 e3 e4 e5 hk => ?_)
  subst e4
  exact w_Ke_meet hk hm ko1 ko2 cx3 cx4 h
set_option maxRecDepth 100000 in
set_option maxHeartbeats 4000000 in
theorem w_St_keepRow {K : zK} (hk : zOk K kdC cX7_keepRow 5 none RX7 1)  {o0 : Nat} {x1 : Int} {x2 : Int} {x3 : Int} {m : zM} {o : zM}  (hm : zG kdC m) (ko0 : kdC o0 = (0, 7)) (cx1 : cI x1) (cx2 : cI x2) (cx3 : cI x3) (h : St_keepRow o0 x1 x2 x3 m = some o) : GoAt K m [(0, .ref (kB K + o0)), (1, mI x1), (2, mI x2), (3, mI x3)] [] 0 (9, 0, o) := by
  unfold St_keepRow at h
  refine g_aload_n hk 0 rfl dX7_keepRow_0 ?_
  obtain ⟨r1, e2, h⟩ := zbind h
  refine g_callVi hk (st := []) mf_X7_moment lk_X7_73 mv_X7_moment ko0 (by decide) rfl (Nat.le_of_ble_eq_true rfl) rfl dX7_keepRow_1 (met_St_moment _ _ _ _ _ hk.wd hm ko0 e2) (fun hm c3 => ?_)
  refine g_bipush hk (v := 6) rfl dX7_keepRow_4 ?_
  refine g_imul hk dX7_keepRow_6 ?_
  refine g_bipush hk (v := 8) rfl dX7_keepRow_7 ?_
  refine g_imul hk dX7_keepRow_9 ?_
  refine g_iload_n hk 1 rfl dX7_keepRow_10 ?_
  refine g_bipush hk (v := 8) rfl dX7_keepRow_11 ?_
  refine g_imul hk dX7_keepRow_13 ?_
  refine g_iadd hk dX7_keepRow_14 ?_
  refine g_iload_n hk 2 rfl dX7_keepRow_15 ?_
  refine g_iadd hk dX7_keepRow_16 ?_
  refine g_let (wI_c _) h (fun v4 cv4 h => ?_)
  refine g_istore hk (lv' := [(4, mI v4), (0, .ref (kB K + o0)), (1, mI x1), (2, mI x2), (3, mI x3)]) (Nat.le_of_ble_eq_true rfl) rfl dX7_keepRow_17 ?_
  refine g_aload_n hk 1 rfl dX7_keepRow_19 ?_
  refine g_get2 hk fl_X7_30 rfl ko0 hm (b := o0 + 7) rfl dX7_keepRow_20 ?_
  refine g_aload_n hk 1 rfl dX7_keepRow_23 ?_
  have g5 := zGI (i := 10) hm ko0 rfl
  refine g_get0 hk fl_X7_63 rfl (j := 10) rfl ko0 dX7_keepRow_24 ?_
  refine g_aload_n hk 1 rfl dX7_keepRow_27 ?_
  have g6 := zGI (i := 11) hm ko0 rfl
  refine g_get0 hk fl_X7_66 rfl (j := 11) rfl ko0 dX7_keepRow_28 ?_
  refine g_iadd hk dX7_keepRow_31 ?_
  refine g_bipush hk (v := 60) rfl dX7_keepRow_32 ?_
  refine g_irem hk (cIk rfl) (by decide) dX7_keepRow_34 ?_
  refine g_iload hk 0 rfl dX7_keepRow_35 ?_
  refine g_iconst hk (v := 4) rfl dX7_keepRow_37 ?_
  refine g_imul hk dX7_keepRow_38 ?_
  refine g_iload_n hk 4 rfl dX7_keepRow_39 ?_
  refine g_iadd hk dX7_keepRow_40 ?_
  refine g_iast hk (cI_t _) (wI_c _) (kdC_s7_9 ko0) hm dX7_keepRow_41 h (fun m7 hm h => ?_)
  refine g_aload_n hk 1 rfl dX7_keepRow_42 ?_
  have g8 := zGI (i := 11) hm ko0 rfl
  refine g_get0 hk fl_X7_66 rfl (j := 11) rfl ko0 dX7_keepRow_43 ?_
  refine g_bipush hk (v := 60) rfl dX7_keepRow_46 ?_
  refine g_icmp_ge hk g8 (cIk rfl) dX7_keepRow_48 h (fun b9 h => ?_) (fun b9 h => ?_)
  · refine g_aload_n hk 1 rfl dX7_keepRow_51 ?_
    refine g_dup hk rfl dX7_keepRow_52 ?_
    have g10 := zGI (i := 11) hm ko0 rfl
    refine g_get0 hk fl_X7_66 rfl (j := 11) rfl ko0 dX7_keepRow_53 ?_
    refine g_iconst hk (v := 1) rfl dX7_keepRow_56 ?_
    refine g_iadd hk dX7_keepRow_57 ?_
    refine g_put0 hk fp_X7_66 rfl (j := 11) rfl ko0 (wI_c _) dX7_keepRow_58 h hm (fun m11 hm h => ?_)
    refine g_goto hk dX7_keepRow_61 ?_
    exact g_return hk dX7_keepRow_77 (by cases h; rfl)
  · refine g_aload_n hk 1 rfl dX7_keepRow_64 ?_
    refine g_aload_n hk 1 rfl dX7_keepRow_65 ?_
    have g12 := zGI (i := 10) hm ko0 rfl
    refine g_get0 hk fl_X7_63 rfl (j := 10) rfl ko0 dX7_keepRow_66 ?_
    refine g_iconst hk (v := 1) rfl dX7_keepRow_69 ?_
    refine g_iadd hk dX7_keepRow_70 ?_
    refine g_bipush hk (v := 60) rfl dX7_keepRow_71 ?_
    refine g_irem hk (cIk rfl) (by decide) dX7_keepRow_73 ?_
    refine g_put0 hk fp_X7_63 rfl (j := 10) rfl ko0 (cI_t _) dX7_keepRow_74 h hm (fun m13 hm h => ?_)
    exact g_return hk dX7_keepRow_77 (by cases h; rfl)
theorem met_St_keepRow (l : Launch) (D : va_G) (aC : Nat → ClassId) (B N : Nat) (hwd : ∀ id, (kdC id).1 ≠ 9 → id < N) {o0 : Nat} {x1 : Int} {x2 : Int} {x3 : Int} {m : zM} {o : zM} (hm : zG kdC m) (ko0 : kdC o0 = (0, 7)) (cx1 : cI x1) (cx2 : cI x2) (cx3 : cI x3) (h : St_keepRow o0 x1 x2 x3 m = some o) : zMet l yX7_keepRow cX7_keepRow 5 none 1 D aC B kdC N [.ref (B + o0), mI x1, mI x2, mI x3] m (9, 0, o) := by
  refine zMet.of mf_X7_keepRow hwd hm (Nat.le_of_ble_eq_true rfl) (fun K e1 e2 e3 e4 e5 hk => ?_)
  subst e4
  exact w_St_keepRow hk hm ko0 cx1 cx2 cx3 h
set_option maxRecDepth 100000 in
set_option maxHeartbeats 4000000 in
theorem w_Ke_settle_B5 {K : zK} (hk : zOk K kdC cX4_settle 5 (some .int) RX4 5) {rec : Nat → Nat → Int → Int → zM → Option (Int × zM)} {o1 : Nat} {o2 : Nat} {x3 : Int} {x4 : Int} {m : zM} {o : Int × zM} (hrec : ∀ (o1 : Nat) (o2 : Nat) (x3 : Int) (x4 : Int) (m : zM), zG kdC m → kdC o1 = (0, 10) → kdC o2 = (0, 7) → cI x3 → cI x4 → rec o1 o2 x3 x4 m = some o → GoAt K m [(0, .ref (kB K + 25)), (1, .ref (kB K + o1)), (2, .ref (kB K + o2)), (3, mI x3), (4, mI x4)] [] 5 (0, o.1, o.2)) (hm : zG kdC m) (ko1 : kdC o1 = (0, 10)) (ko2 : kdC o2 = (0, 7)) (cx3 : cI x3) (cx4 : cI x4) (h : Ke_settle_B5 rec o1 o2 x3 x4 m = some o) : GoAt K m [(0, .ref (kB K + 25)), (1, .ref (kB K + o1)), (2, .ref (kB K + o2)), (3, mI x3), (4, mI x4)] [] 5 (0, o.1, o.2) := by
  unfold Ke_settle_B5 at h
  refine g_iload hk 4 rfl dX4_settle_5 ?_
  refine g_aload_n hk 1 rfl dX4_settle_7 ?_
  have g1 := zGI (i := 0) hm ko1 rfl
  refine g_get0 hk fl_X4_97 rfl (j := 0) rfl ko1 dX4_settle_8 ?_
  refine g_icmp_ge hk cx4 g1 dX4_settle_11 h (fun b2 h => ?_) (fun b2 h => ?_)
  · refine g_aload_n hk 0 rfl dX4_settle_14 ?_
    refine g_get2 hk fl_X4_15 rfl kdC_25 hm (b := 27) rfl dX4_settle_15 ?_
    refine g_iload hk 4 rfl dX4_settle_18 ?_
    refine g_iald hk cx4 kdC_27 hm dX4_settle_20 h (fun y3 cy3 h => ?_)
    refine g_iconst hk (v := (-1)) rfl dX4_settle_21 ?_
    refine g_icmp_eq hk cy3 (cIk rfl) dX4_settle_22 h (fun b4 h => ?_) (fun b4 h => ?_)
    · refine g_iinc hk (lv' := [(4, mI (wI (x4 + 1))), (0, .ref (kB K + 25)), (1, .ref (kB K + o1)), (2, .ref (kB K + o2)), (3, mI x3)]) 4 rfl (Nat.le_of_ble_eq_true rfl) rfl dX4_settle_56 ?_
      refine g_goto hk dX4_settle_59 ?_
      refine GoAt.sub [1, 2, 3, 4, 0] rfl ?_
      exact hrec _ _ _ _ _ hm ko1 ko2 cx3 (wI_c _) h
    · refine g_aload_n hk 2 rfl dX4_settle_25 ?_
      refine g_iload hk 4 rfl dX4_settle_26 ?_
      refine g_aload_n hk 0 rfl dX4_settle_28 ?_
      refine g_get2 hk fl_X4_15 rfl kdC_25 hm (b := 27) rfl dX4_settle_29 ?_
      refine g_iload hk 4 rfl dX4_settle_32 ?_
      refine g_iald hk cx4 kdC_27 hm dX4_settle_34 h (fun y5 cy5 h => ?_)
      refine g_aload_n hk 0 rfl dX4_settle_35 ?_
      refine g_aload_n hk 1 rfl dX4_settle_36 ?_
      refine g_aload_n hk 2 rfl dX4_settle_37 ?_
      refine g_iload hk 4 rfl dX4_settle_38 ?_
      refine g_aload_n hk 0 rfl dX4_settle_40 ?_
      refine g_get2 hk fl_X4_15 rfl kdC_25 hm (b := 27) rfl dX4_settle_41 ?_
      refine g_iload hk 4 rfl dX4_settle_44 ?_
      refine g_iald hk cx4 kdC_27 hm dX4_settle_46 h (fun y6 cy6 h => ?_)
      obtain ⟨r7, e8, h⟩ := zbind h
      refine g_callVi hk (st := [mI y5, mI x4, .ref (kB K + o2)]) mf_X4_meet lk_X4_119 mv_X4_meet kdC_25 (by decide) rfl (Nat.le_of_ble_eq_true rfl) rfl dX4_settle_47 (met_Ke_meet _ _ _ _ _ hk.wd hm ko1 ko2 cx4 cy6 e8) (fun hm c9 => ?_)
      obtain ⟨r10, e11, h⟩ := zbind h
      refine g_callVv hk (st := []) mf_X7_keepRow lk_X4_122 mv_X7_keepRow ko2 (by decide) rfl (Nat.le_of_ble_eq_true rfl) rfl dX4_settle_50 (met_St_keepRow _ _ _ _ _ hk.wd hm ko2 cx4 cy5 c9 e11) (fun hm => ?_)
      refine g_iinc hk (lv' := [(3, mI (wI (x3 + 1))), (0, .ref (kB K + 25)), (1, .ref (kB K + o1)), (2, .ref (kB K + o2)), (4, mI x4)]) 3 rfl (Nat.le_of_ble_eq_true rfl) rfl dX4_settle_53 ?_
      refine g_iinc hk (lv' := [(4, mI (wI (x4 + 1))), (3, mI (wI (x3 + 1))), (0, .ref (kB K + 25)), (1, .ref (kB K + o1)), (2, .ref (kB K + o2))]) 4 rfl (Nat.le_of_ble_eq_true rfl) rfl dX4_settle_56 ?_
      refine g_goto hk dX4_settle_59 ?_
      refine GoAt.sub [2, 3, 4, 1, 0] rfl ?_
      exact hrec _ _ _ _ _ hm ko1 ko2 (wI_c _) (wI_c _) h
  · refine g_iload_n hk 3 rfl dX4_settle_62 ?_
    exact g_ireturn hk cx3 dX4_settle_63 (by cases h; rfl)
theorem w_Ke_settle_L5 {K : zK} (hk : zOk K kdC cX4_settle 5 (some .int) RX4 5)  {o : Int × zM}  : ∀ (n : Nat) (o1 : Nat) (o2 : Nat) (x3 : Int) (x4 : Int) (m : zM), zG kdC m → kdC o1 = (0, 10) → kdC o2 = (0, 7) → cI x3 → cI x4 → Ke_settle_L5 n o1 o2 x3 x4 m = some o → GoAt K m [(0, .ref (kB K + 25)), (1, .ref (kB K + o1)), (2, .ref (kB K + o2)), (3, mI x3), (4, mI x4)] [] 5 (0, o.1, o.2)
  | 0, o1, o2, x3, x4, m, hm, ko1, ko2, cx3, cx4, h => by cases h
  | n + 1, o1, o2, x3, x4, m, hm, ko1, ko2, cx3, cx4, h => w_Ke_settle_B5 hk  (w_Ke_settle_L5 hk  n) hm ko1 ko2 cx3 cx4 h
set_option maxRecDepth 100000 in
set_option maxHeartbeats 4000000 in
theorem w_Ke_settle {K : zK} (hk : zOk K kdC cX4_settle 5 (some .int) RX4 5)  {o1 : Nat} {o2 : Nat} {m : zM} {o : Int × zM}  (hm : zG kdC m) (ko1 : kdC o1 = (0, 10)) (ko2 : kdC o2 = (0, 7)) (h : Ke_settle o1 o2 m = some o) : GoAt K m [(0, .ref (kB K + 25)), (1, .ref (kB K + o1)), (2, .ref (kB K + o2))] [] 0 (0, o.1, o.2) := by
  unfold Ke_settle at h
  refine g_iconst hk (v := 0) rfl dX4_settle_0 ?_
  refine g_istore_n hk rfl (lv' := [(3, mI 0), (0, .ref (kB K + 25)), (1, .ref (kB K + o1)), (2, .ref (kB K + o2))]) (Nat.le_of_ble_eq_true rfl) rfl dX4_settle_1 ?_
  refine g_iconst hk (v := 0) rfl dX4_settle_2 ?_
  refine g_istore hk (lv' := [(4, mI 0), (3, mI 0), (0, .ref (kB K + 25)), (1, .ref (kB K + o1)), (2, .ref (kB K + o2))]) (Nat.le_of_ble_eq_true rfl) rfl dX4_settle_3 ?_
  refine GoAt.sub [2, 3, 4, 1, 0] rfl ?_
  refine w_Ke_settle_L5 hk  1000000 _ _ _ _ _ hm ko1 ko2 (cIk rfl) (cIk rfl) h
theorem met_Ke_settle (l : Launch) (D : va_G) (aC : Nat → ClassId) (B N : Nat) (hwd : ∀ id, (kdC id).1 ≠ 9 → id < N) {o1 : Nat} {o2 : Nat} {m : zM} {o : Int × zM} (hm : zG kdC m) (ko1 : kdC o1 = (0, 10)) (ko2 : kdC o2 = (0, 7)) (h : Ke_settle o1 o2 m = some o) : zMet l yX4_settle cX4_settle 5 (some .int) 5 D aC B kdC N [.ref (B + 25), .ref (B + o1), .ref (B + o2)] m (0, o.1, o.2) := by
  refine zMet.of mf_X4_settle hwd hm (Nat.le_of_ble_eq_true rfl) (fun K e1 e2 e3 e4 e5 hk => ?_)
  subst e4
  exact w_Ke_settle hk hm ko1 ko2 h
set_option maxRecDepth 100000 in
set_option maxHeartbeats 4000000 in
theorem w_St_passHour {K : zK} (hk : zOk K kdC cX7_passHour 1 none RX7 1)  {o0 : Nat} {m : zM} {o : zM}  (hm : zG kdC m) (ko0 : kdC o0 = (0, 7)) (h : St_passHour o0 m = some o) : GoAt K m [(0, .ref (kB K + o0))] [] 0 (9, 0, o) := by
  unfold St_passHour at h
  refine g_aload_n hk 0 rfl dX7_passHour_0 ?_
  refine g_dup hk rfl dX7_passHour_1 ?_
  have g1 := zGI (i := 1) hm ko0 rfl
  refine g_get0 hk fl_X7_40 rfl (j := 1) rfl ko0 dX7_passHour_2 ?_
  refine g_iconst hk (v := 1) rfl dX7_passHour_5 ?_
  refine g_iadd hk dX7_passHour_6 ?_
  refine g_put0 hk fp_X7_40 rfl (j := 1) rfl ko0 (wI_c _) dX7_passHour_7 h hm (fun m2 hm h => ?_)
  refine g_aload_n hk 0 rfl dX7_passHour_10 ?_
  have g3 := zGI (i := 1) hm ko0 rfl
  refine g_get0 hk fl_X7_40 rfl (j := 1) rfl ko0 dX7_passHour_11 ?_
  refine g_bipush hk (v := 24) rfl dX7_passHour_14 ?_
  refine g_icmp_lt hk g3 (cIk rfl) dX7_passHour_16 h (fun b4 h => ?_) (fun b4 h => ?_)
  · exact g_return hk dX7_passHour_38 (by cases h; rfl)
  · refine g_aload_n hk 0 rfl dX7_passHour_19 ?_
    refine g_iconst hk (v := 0) rfl dX7_passHour_20 ?_
    refine g_put0 hk fp_X7_40 rfl (j := 1) rfl ko0 (cIk rfl) dX7_passHour_21 h hm (fun m5 hm h => ?_)
    refine g_aload_n hk 0 rfl dX7_passHour_24 ?_
    refine g_dup hk rfl dX7_passHour_25 ?_
    have g6 := zGI (i := 0) hm ko0 rfl
    refine g_get0 hk fl_X7_36 rfl (j := 0) rfl ko0 dX7_passHour_26 ?_
    refine g_iconst hk (v := 1) rfl dX7_passHour_29 ?_
    refine g_iadd hk dX7_passHour_30 ?_
    refine g_put0 hk fp_X7_36 rfl (j := 0) rfl ko0 (wI_c _) dX7_passHour_31 h hm (fun m7 hm h => ?_)
    refine g_aload_n hk 0 rfl dX7_passHour_34 ?_
    obtain ⟨r8, e9, h⟩ := zbind h
    refine g_callVv hk (st := []) mf_X7_forgetDay lk_X7_33 mv_X7_forgetDay ko0 (by decide) rfl (Nat.le_of_ble_eq_true rfl) rfl dX7_passHour_35 (met_St_forgetDay _ _ _ _ _ hk.wd hm ko0 e9) (fun hm => ?_)
    exact g_return hk dX7_passHour_38 (by cases h; rfl)
theorem met_St_passHour (l : Launch) (D : va_G) (aC : Nat → ClassId) (B N : Nat) (hwd : ∀ id, (kdC id).1 ≠ 9 → id < N) {o0 : Nat} {m : zM} {o : zM} (hm : zG kdC m) (ko0 : kdC o0 = (0, 7)) (h : St_passHour o0 m = some o) : zMet l yX7_passHour cX7_passHour 1 none 1 D aC B kdC N [.ref (B + o0)] m (9, 0, o) := by
  refine zMet.of mf_X7_passHour hwd hm (Nat.le_of_ble_eq_true rfl) (fun K e1 e2 e3 e4 e5 hk => ?_)
  subst e4
  exact w_St_passHour hk hm ko0 h
set_option maxRecDepth 100000 in
set_option maxHeartbeats 4000000 in
theorem w_Ke_playHour {K : zK} (hk : zOk K kdC cX4_playHour 4 (some .int) RX4 6)  {o1 : Nat} {o2 : Nat} {m : zM} {o : Int × zM}  (hm : zG kdC m) (ko1 : kdC o1 = (0, 10)) (ko2 : kdC o2 = (0, 7)) (h : Ke_playHour o1 o2 m = some o) : GoAt K m [(0, .ref (kB K + 25)), (1, .ref (kB K + o1)), (2, .ref (kB K + o2))] [] 0 (0, o.1, o.2) := by
  unfold Ke_playHour at h
  refine g_aload_n hk 0 rfl dX4_playHour_0 ?_
  refine g_aload_n hk 1 rfl dX4_playHour_1 ?_
  refine g_aload_n hk 2 rfl dX4_playHour_2 ?_
  obtain ⟨r1, e2, h⟩ := zbind h
  refine g_callVv hk (st := []) mf_X4_weigh lk_X4_141 mv_X4_weigh kdC_25 (by decide) rfl (Nat.le_of_ble_eq_true rfl) rfl dX4_playHour_3 (met_Ke_weigh _ _ _ _ _ hk.wd hm ko1 ko2 e2) (fun hm => ?_)
  refine g_aload_n hk 0 rfl dX4_playHour_6 ?_
  refine g_aload_n hk 1 rfl dX4_playHour_7 ?_
  refine g_aload_n hk 2 rfl dX4_playHour_8 ?_
  refine g_aload_n hk 1 rfl dX4_playHour_9 ?_
  have g4 := zGI (i := 0) hm ko1 rfl
  refine g_get0 hk fl_X4_97 rfl (j := 0) rfl ko1 dX4_playHour_10 ?_
  obtain ⟨r5, e6, h⟩ := zbind h
  refine g_callVv hk (st := []) mf_X4_choose lk_X4_145 mv_X4_choose kdC_25 (by decide) rfl (Nat.le_of_ble_eq_true rfl) rfl dX4_playHour_13 (met_Ke_choose _ _ _ _ _ hk.wd hm ko1 ko2 g4 e6) (fun hm => ?_)
  refine g_aload_n hk 0 rfl dX4_playHour_16 ?_
  refine g_aload_n hk 1 rfl dX4_playHour_17 ?_
  refine g_aload_n hk 2 rfl dX4_playHour_18 ?_
  obtain ⟨r8, e9, h⟩ := zbind h
  refine g_callVi hk (st := []) mf_X4_settle lk_X4_148 mv_X4_settle kdC_25 (by decide) rfl (Nat.le_of_ble_eq_true rfl) rfl dX4_playHour_19 (met_Ke_settle _ _ _ _ _ hk.wd hm ko1 ko2 e9) (fun hm c10 => ?_)
  refine g_istore_n hk rfl (lv' := [(3, mI r8.1), (0, .ref (kB K + 25)), (1, .ref (kB K + o1)), (2, .ref (kB K + o2))]) (Nat.le_of_ble_eq_true rfl) rfl dX4_playHour_22 ?_
  refine g_aload_n hk 3 rfl dX4_playHour_23 ?_
  obtain ⟨r11, e12, h⟩ := zbind h
  refine g_callVv hk (st := []) mf_X7_passHour lk_X4_152 mv_X7_passHour ko2 (by decide) rfl (Nat.le_of_ble_eq_true rfl) rfl dX4_playHour_24 (met_St_passHour _ _ _ _ _ hk.wd hm ko2 e12) (fun hm => ?_)
  refine g_iload_n hk 0 rfl dX4_playHour_27 ?_
  exact g_ireturn hk c10 dX4_playHour_28 (by cases h; rfl)
theorem met_Ke_playHour (l : Launch) (D : va_G) (aC : Nat → ClassId) (B N : Nat) (hwd : ∀ id, (kdC id).1 ≠ 9 → id < N) {o1 : Nat} {o2 : Nat} {m : zM} {o : Int × zM} (hm : zG kdC m) (ko1 : kdC o1 = (0, 10)) (ko2 : kdC o2 = (0, 7)) (h : Ke_playHour o1 o2 m = some o) : zMet l yX4_playHour cX4_playHour 4 (some .int) 6 D aC B kdC N [.ref (B + 25), .ref (B + o1), .ref (B + o2)] m (0, o.1, o.2) := by
  refine zMet.of mf_X4_playHour hwd hm (Nat.le_of_ble_eq_true rfl) (fun K e1 e2 e3 e4 e5 hk => ?_)
  subst e4
  exact w_Ke_playHour hk hm ko1 ko2 h
set_option maxRecDepth 100000 in
set_option maxHeartbeats 4000000 in
theorem w_C_asks_B38 {K : zK} (hk : zOk K kdC cX11_asks 4 (some .int) RX11 7) {k65 : Int → zM → Option (Int × zM)} {rec : Int → Int → Int → zM → Option (Int × zM)} {x1 : Int} {x2 : Int} {x3 : Int} {m : zM} {o : Int × zM} (hk65 : ∀ (x1 : Int) (m : zM), zG kdC m → cI x1 → k65 x1 m = some o → GoAt K m [(0, .ref (kB K + 0)), (1, mI x1)] [] 65 (0, o.1, o.2)) (hrec : ∀ (x1 : Int) (x2 : Int) (x3 : Int) (m : zM), zG kdC m → cI x1 → cI x2 → cI x3 → rec x1 x2 x3 m = some o → GoAt K m [(0, .ref (kB K + 0)), (1, mI x1), (2, mI x2), (3, mI x3)] [] 38 (0, o.1, o.2)) (hm : zG kdC m) (cx1 : cI x1) (cx2 : cI x2) (cx3 : cI x3) (h : C_asks_B38 k65 rec x1 x2 x3 m = some o) : GoAt K m [(0, .ref (kB K + 0)), (1, mI x1), (2, mI x2), (3, mI x3)] [] 38 (0, o.1, o.2) := by
  unfold C_asks_B38 at h
  refine g_iload_n hk 3 rfl dX11_asks_38 ?_
  refine g_iload_n hk 2 rfl dX11_asks_39 ?_
  refine g_icmp_ge hk cx3 cx2 dX11_asks_40 h (fun b1 h => ?_) (fun b1 h => ?_)
  · refine g_aload_n hk 0 rfl dX11_asks_43 ?_
    refine g_get2 hk fl_X11_38 rfl kdC_0 hm (b := 25) rfl dX11_asks_44 ?_
    refine g_aload_n hk 0 rfl dX11_asks_47 ?_
    refine g_get3o hk fl_X11_84 rfl (j := 12) rfl kdC_0 dX11_asks_48 h (fun zz2 kzz2 h => ?_)
    refine g_aload_n hk 0 rfl dX11_asks_51 ?_
    refine g_get2 hk fl_X11_28 rfl kdC_0 hm (b := 16) rfl dX11_asks_52 ?_
    obtain ⟨r3, e4, h⟩ := zbind h
    refine g_callVi hk (st := []) mf_X4_playHour lk_X11_230 mv_X4_playHour kdC_25 (by decide) rfl (Nat.le_of_ble_eq_true rfl) rfl dX11_asks_55 (met_Ke_playHour _ _ _ _ _ hk.wd hm kzz2 kdC_16 e4) (fun hm c5 => ?_)
    refine g_pop hk rfl dX11_asks_58 ?_
    refine g_iinc hk (lv' := [(3, mI (wI (x3 + 1))), (0, .ref (kB K + 0)), (1, mI x1), (2, mI x2)]) 3 rfl (Nat.le_of_ble_eq_true rfl) rfl dX11_asks_59 ?_
    refine g_goto hk dX11_asks_62 ?_
    refine GoAt.sub [1, 2, 3, 0] rfl ?_
    exact hrec _ _ _ _ hm cx1 cx2 (wI_c _) h
  · refine GoAt.sub [0, 1] rfl ?_
    exact hk65 _ _ hm cx1 h
theorem w_C_asks_L38 {K : zK} (hk : zOk K kdC cX11_asks 4 (some .int) RX11 7) {k65 : Int → zM → Option (Int × zM)} {o : Int × zM} (hk65 : ∀ (x1 : Int) (m : zM), zG kdC m → cI x1 → k65 x1 m = some o → GoAt K m [(0, .ref (kB K + 0)), (1, mI x1)] [] 65 (0, o.1, o.2)) : ∀ (n : Nat) (x1 : Int) (x2 : Int) (x3 : Int) (m : zM), zG kdC m → cI x1 → cI x2 → cI x3 → C_asks_L38 k65 n x1 x2 x3 m = some o → GoAt K m [(0, .ref (kB K + 0)), (1, mI x1), (2, mI x2), (3, mI x3)] [] 38 (0, o.1, o.2)
  | 0, x1, x2, x3, m, hm, cx1, cx2, cx3, h => by cases h
  | n + 1, x1, x2, x3, m, hm, cx1, cx2, cx3, h => w_C_asks_B38 hk hk65 (w_C_asks_L38 hk hk65 n) hm cx1 cx2 cx3 h
set_option maxRecDepth 100000 in
set_option maxHeartbeats 4000000 in
theorem w_C_asks {K : zK} (hk : zOk K kdC cX11_asks 4 (some .int) RX11 7)  {x1 : Int} {x2 : Int} {m : zM} {o : Int × zM}  (hm : zG kdC m) (cx1 : cI x1) (cx2 : cI x2) (h : C_asks x1 x2 m = some o) : GoAt K m [(0, .ref (kB K + 0)), (1, mI x1), (2, mI x2)] [] 0 (0, o.1, o.2) := by
  unfold C_asks at h
  refine g_aload_n hk 0 rfl dX11_asks_0 ?_
  refine g_get3o hk fl_X11_84 rfl (j := 12) rfl kdC_0 dX11_asks_1 h (fun zz1 kzz1 h => ?_)
  refine g_iload_n hk 1 rfl dX11_asks_4 ?_
  obtain ⟨r2, e3, h⟩ := zbind h
  refine g_callVz hk (st := []) mf_X10_isBeast lk_X11_156 mv_X10_isBeast kzz1 (by decide) rfl (Nat.le_of_ble_eq_true rfl) rfl dX11_asks_5 (met_Zo_isBeast _ _ _ _ _ hk.wd hm kzz1 cx1 e3) (fun hm c4 => ?_)
  refine g_if_eq hk (b01 c4) dX11_asks_8 h (fun b5 h => ?_) (fun b5 h => ?_)
  · refine g_iconst hk (v := (-1)) rfl dX11_asks_23 ?_
    exact g_ireturn hk (cIk rfl) dX11_asks_24 (by cases h; rfl)
  · refine g_iload_n hk 2 rfl dX11_asks_11 ?_
    refine g_if_lt hk cx2 dX11_asks_12 h (fun b6 h => ?_) (fun b6 h => ?_)
    · refine g_iconst hk (v := (-1)) rfl dX11_asks_23 ?_
      exact g_ireturn hk (cIk rfl) dX11_asks_24 (by cases h; rfl)
    · refine g_iload_n hk 2 rfl dX11_asks_15 ?_
      refine g_aload_n hk 0 rfl dX11_asks_16 ?_
      obtain ⟨r7, e8, h⟩ := zbind h
      refine g_callVi hk (st := [mI x2]) mf_X11_hoursToSee lk_X11_223 mv_X11_hoursToSee kdC_0 (by decide) rfl (Nat.le_of_ble_eq_true rfl) rfl dX11_asks_17 (met_C_hoursToSee _ _ _ _ _ hk.wd hm e8) (fun hm c9 => ?_)
      refine g_icmp_lt hk cx2 c9 dX11_asks_20 h (fun b10 h => ?_) (fun b10 h => ?_)
      · refine g_aload_n hk 0 rfl dX11_asks_25 ?_
        refine g_get2 hk fl_X11_28 rfl kdC_0 hm (b := 16) rfl dX11_asks_26 ?_
        refine g_aload_n hk 0 rfl dX11_asks_29 ?_
        refine g_get2 hk fl_X11_24 rfl kdC_0 hm (b := 8) rfl dX11_asks_30 ?_
        obtain ⟨r11, e12, h⟩ := zbind h
        refine g_callVv hk (st := []) mf_X7_copyFrom lk_X11_226 mv_X7_copyFrom kdC_16 (by decide) rfl (Nat.le_of_ble_eq_true rfl) rfl dX11_asks_33 (met_St_copyFrom _ _ _ _ _ hk.wd hm kdC_16 kdC_8 e12) (fun hm => ?_)
        refine g_iconst hk (v := 0) rfl dX11_asks_36 ?_
        refine g_istore_n hk rfl (lv' := [(3, mI 0), (0, .ref (kB K + 0)), (1, mI x1), (2, mI x2)]) (Nat.le_of_ble_eq_true rfl) rfl dX11_asks_37 ?_
        refine GoAt.sub [1, 2, 3, 0] rfl ?_
        refine w_C_asks_L38 hk (fun x1_14 m15 hm cx1_14 h => ?_) 1000000 _ _ _ _ hm cx1 cx2 (cIk rfl) h
        · refine g_aload_n hk 0 rfl dX11_asks_65 ?_
          refine g_get2 hk fl_X11_38 rfl kdC_0 hm (b := 25) rfl dX11_asks_66 ?_
          refine g_aload_n hk 0 rfl dX11_asks_69 ?_
          refine g_get3o hk fl_X11_84 rfl (j := 12) rfl kdC_0 dX11_asks_70 h (fun zz16 kzz16 h => ?_)
          refine g_aload_n hk 0 rfl dX11_asks_73 ?_
          refine g_get2 hk fl_X11_28 rfl kdC_0 hm (b := 16) rfl dX11_asks_74 ?_
          obtain ⟨r17, e18, h⟩ := zbind h
          refine g_callVv hk (st := []) mf_X4_weigh lk_X11_234 mv_X4_weigh kdC_25 (by decide) rfl (Nat.le_of_ble_eq_true rfl) rfl dX11_asks_77 (met_Ke_weigh _ _ _ _ _ hk.wd hm kzz16 kdC_16 e18) (fun hm => ?_)
          refine g_aload_n hk 0 rfl dX11_asks_80 ?_
          refine g_get2 hk fl_X11_38 rfl kdC_0 hm (b := 25) rfl dX11_asks_81 ?_
          refine g_aload_n hk 0 rfl dX11_asks_84 ?_
          refine g_get3o hk fl_X11_84 rfl (j := 12) rfl kdC_0 dX11_asks_85 h (fun zz20 kzz20 h => ?_)
          refine g_aload_n hk 0 rfl dX11_asks_88 ?_
          refine g_get2 hk fl_X11_28 rfl kdC_0 hm (b := 16) rfl dX11_asks_89 ?_
          refine g_aload_n hk 0 rfl dX11_asks_92 ?_
          refine g_get3o hk fl_X11_84 rfl (j := 12) rfl kdC_0 dX11_asks_93 h (fun zz21 kzz21 h => ?_)
          have g22 := zGI (i := 0) hm kzz21 rfl
          refine g_get0 hk fl_X11_128 rfl (j := 0) rfl kzz21 dX11_asks_96 ?_
          obtain ⟨r23, e24, h⟩ := zbind h
          refine g_callVv hk (st := []) mf_X4_choose lk_X11_238 mv_X4_choose kdC_25 (by decide) rfl (Nat.le_of_ble_eq_true rfl) rfl dX11_asks_99 (met_Ke_choose _ _ _ _ _ hk.wd hm kzz20 kdC_16 g22 e24) (fun hm => ?_)
          refine g_aload_n hk 0 rfl dX11_asks_102 ?_
          refine g_get2 hk fl_X11_38 rfl kdC_0 hm (b := 25) rfl dX11_asks_103 ?_
          refine g_get2 hk fl_X11_242 rfl kdC_25 hm (b := 27) rfl dX11_asks_106 ?_
          refine g_iload_n hk 1 rfl dX11_asks_109 ?_
          refine g_iald hk cx1_14 kdC_27 hm dX11_asks_110 h (fun y26 cy26 h => ?_)
          exact g_ireturn hk cy26 dX11_asks_111 (by cases h; rfl)
      · refine g_iconst hk (v := (-1)) rfl dX11_asks_23 ?_
        exact g_ireturn hk (cIk rfl) dX11_asks_24 (by cases h; rfl)
theorem met_C_asks (l : Launch) (D : va_G) (aC : Nat → ClassId) (B N : Nat) (hwd : ∀ id, (kdC id).1 ≠ 9 → id < N) {x1 : Int} {x2 : Int} {m : zM} {o : Int × zM} (hm : zG kdC m) (cx1 : cI x1) (cx2 : cI x2) (h : C_asks x1 x2 m = some o) : zMet l yX11_asks cX11_asks 4 (some .int) 7 D aC B kdC N [.ref (B + 0), mI x1, mI x2] m (0, o.1, o.2) := by
  refine zMet.of mf_X11_asks hwd hm (Nat.le_of_ble_eq_true rfl) (fun K e1 e2 e3 e4 e5 hk => ?_)
  subst e4
  exact w_C_asks hk hm cx1 cx2 h
set_option maxRecDepth 100000 in
set_option maxHeartbeats 4000000 in
theorem w_Ke_firstLonely_B2 {K : zK} (hk : zOk K kdC cX4_firstLonely 4 (some .int) RX4 1) {rec : Nat → Int → Int → Option (Int)} {o1 : Nat} {x2 : Int} {x3 : Int} {m : zM} {o : Int} (hrec : ∀ (o1 : Nat) (x2 : Int) (x3 : Int), kdC o1 = (0, 10) → cI x2 → cI x3 → rec o1 x2 x3 = some o → GoAt K m [(0, .ref (kB K + 25)), (1, .ref (kB K + o1)), (2, mI x2), (3, mI x3)] [] 2 (0, o, m)) (hm : zG kdC m) (ko1 : kdC o1 = (0, 10)) (cx2 : cI x2) (cx3 : cI x3) (h : Ke_firstLonely_B2 rec o1 x2 x3 m = some o) : GoAt K m [(0, .ref (kB K + 25)), (1, .ref (kB K + o1)), (2, mI x2), (3, mI x3)] [] 2 (0, o, m) := by
  unfold Ke_firstLonely_B2 at h
  refine g_iload_n hk 3 rfl dX4_firstLonely_2 ?_
  refine g_aload_n hk 1 rfl dX4_firstLonely_3 ?_
  have g1 := zGI (i := 0) hm ko1 rfl
  refine g_get0 hk fl_X4_97 rfl (j := 0) rfl ko1 dX4_firstLonely_4 ?_
  refine g_icmp_ge hk cx3 g1 dX4_firstLonely_7 h (fun b2 h => ?_) (fun b2 h => ?_)
  · refine g_aload_n hk 1 rfl dX4_firstLonely_10 ?_
    refine g_iload_n hk 3 rfl dX4_firstLonely_11 ?_
    refine g_iload_n hk 2 rfl dX4_firstLonely_12 ?_
    obtain ⟨r3, e4, h⟩ := zbind h
    refine g_callVz hk (st := []) mf_X10_isAwake lk_X4_78 mv_X10_isAwake ko1 (by decide) rfl (Nat.le_of_ble_eq_true rfl) rfl dX4_firstLonely_13 (met_Zo_isAwake _ _ _ _ _ hk.wd hm ko1 cx3 cx2 e4) (fun hm c5 => ?_)
    refine g_if_eq hk (b01 c5) dX4_firstLonely_16 h (fun b6 h => ?_) (fun b6 h => ?_)
    · refine g_iinc hk (lv' := [(3, mI (wI (x3 + 1))), (0, .ref (kB K + 25)), (1, .ref (kB K + o1)), (2, mI x2)]) 3 rfl (Nat.le_of_ble_eq_true rfl) rfl dX4_firstLonely_31 ?_
      refine g_goto hk dX4_firstLonely_34 ?_
      refine GoAt.sub [1, 2, 3, 0] rfl ?_
      exact hrec _ _ _ ko1 cx2 (wI_c _) h
    · refine g_aload_n hk 0 rfl dX4_firstLonely_19 ?_
      refine g_get2 hk fl_X4_15 rfl kdC_25 hm (b := 27) rfl dX4_firstLonely_20 ?_
      refine g_iload_n hk 3 rfl dX4_firstLonely_23 ?_
      refine g_iald hk cx3 kdC_27 hm dX4_firstLonely_24 h (fun y7 cy7 h => ?_)
      refine g_iconst hk (v := (-1)) rfl dX4_firstLonely_25 ?_
      refine g_icmp_ne hk cy7 (cIk rfl) dX4_firstLonely_26 h (fun b8 h => ?_) (fun b8 h => ?_)
      · refine g_iload_n hk 3 rfl dX4_firstLonely_29 ?_
        exact g_ireturn hk cx3 dX4_firstLonely_30 (by cases h; rfl)
      · refine g_iinc hk (lv' := [(3, mI (wI (x3 + 1))), (0, .ref (kB K + 25)), (1, .ref (kB K + o1)), (2, mI x2)]) 3 rfl (Nat.le_of_ble_eq_true rfl) rfl dX4_firstLonely_31 ?_
        refine g_goto hk dX4_firstLonely_34 ?_
        refine GoAt.sub [1, 2, 3, 0] rfl ?_
        exact hrec _ _ _ ko1 cx2 (wI_c _) h
  · refine g_iconst hk (v := (-1)) rfl dX4_firstLonely_37 ?_
    exact g_ireturn hk (cIk rfl) dX4_firstLonely_38 (by cases h; rfl)
theorem w_Ke_firstLonely_L2 {K : zK} (hk : zOk K kdC cX4_firstLonely 4 (some .int) RX4 1)  {o : Int} {m : zM} (hm : zG kdC m)  : ∀ (n : Nat) (o1 : Nat) (x2 : Int) (x3 : Int), kdC o1 = (0, 10) → cI x2 → cI x3 → Ke_firstLonely_L2 m n o1 x2 x3 = some o → GoAt K m [(0, .ref (kB K + 25)), (1, .ref (kB K + o1)), (2, mI x2), (3, mI x3)] [] 2 (0, o, m)
  | 0, o1, x2, x3, ko1, cx2, cx3, h => by cases h
  | n + 1, o1, x2, x3, ko1, cx2, cx3, h => w_Ke_firstLonely_B2 hk  (w_Ke_firstLonely_L2 hk hm  n) hm ko1 cx2 cx3 h
set_option maxRecDepth 100000 in
set_option maxHeartbeats 4000000 in
theorem w_Ke_firstLonely {K : zK} (hk : zOk K kdC cX4_firstLonely 4 (some .int) RX4 1)  {o1 : Nat} {x2 : Int} {m : zM} {o : Int}  (hm : zG kdC m) (ko1 : kdC o1 = (0, 10)) (cx2 : cI x2) (h : Ke_firstLonely o1 x2 m = some o) : GoAt K m [(0, .ref (kB K + 25)), (1, .ref (kB K + o1)), (2, mI x2)] [] 0 (0, o, m) := by
  unfold Ke_firstLonely at h
  refine g_iconst hk (v := 0) rfl dX4_firstLonely_0 ?_
  refine g_istore_n hk rfl (lv' := [(3, mI 0), (0, .ref (kB K + 25)), (1, .ref (kB K + o1)), (2, mI x2)]) (Nat.le_of_ble_eq_true rfl) rfl dX4_firstLonely_1 ?_
  refine GoAt.sub [1, 2, 3, 0] rfl ?_
  refine w_Ke_firstLonely_L2 hk hm  1000000 _ _ _ ko1 cx2 (cIk rfl) h
theorem met_Ke_firstLonely (l : Launch) (D : va_G) (aC : Nat → ClassId) (B N : Nat) (hwd : ∀ id, (kdC id).1 ≠ 9 → id < N) {o1 : Nat} {x2 : Int} {m : zM} {o : Int} (hm : zG kdC m) (ko1 : kdC o1 = (0, 10)) (cx2 : cI x2) (h : Ke_firstLonely o1 x2 m = some o) : zMet l yX4_firstLonely cX4_firstLonely 4 (some .int) 1 D aC B kdC N [.ref (B + 25), .ref (B + o1), mI x2] m (0, o, m) := by
  refine zMet.of mf_X4_firstLonely hwd hm (Nat.le_of_ble_eq_true rfl) (fun K e1 e2 e3 e4 e5 hk => ?_)
  subst e4
  exact w_Ke_firstLonely hk hm ko1 cx2 h
set_option maxRecDepth 100000 in
set_option maxHeartbeats 4000000 in
theorem w_C_alone_B29 {K : zK} (hk : zOk K kdC cX11_alone 5 (some .int) RX11 6) {k97 : Int → Int → Int → zM → Option (Int × zM)} {rec : Int → Int → Int → zM → Option (Int × zM)} {x1 : Int} {x2 : Int} {x3 : Int} {m : zM} {o : Int × zM} (hk97 : ∀ (x1 : Int) (x3 : Int) (x4 : Int) (m : zM), zG kdC m → cI x1 → cI x3 → cI x4 → k97 x1 x3 x4 m = some o → GoAt K m [(1, mI x1), (3, mI x3), (4, mI x4)] [] 97 (0, o.1, o.2)) (hrec : ∀ (x1 : Int) (x2 : Int) (x3 : Int) (m : zM), zG kdC m → cI x1 → cI x2 → cI x3 → rec x1 x2 x3 m = some o → GoAt K m [(0, .ref (kB K + 0)), (1, mI x1), (2, mI x2), (3, mI x3)] [] 29 (0, o.1, o.2)) (hm : zG kdC m) (cx1 : cI x1) (cx2 : cI x2) (cx3 : cI x3) (h : C_alone_B29 k97 rec x1 x2 x3 m = some o) : GoAt K m [(0, .ref (kB K + 0)), (1, mI x1), (2, mI x2), (3, mI x3)] [] 29 (0, o.1, o.2) := by
  unfold C_alone_B29 at h
  refine g_iload_n hk 3 rfl dX11_alone_29 ?_
  refine g_iload_n hk 2 rfl dX11_alone_30 ?_
  refine g_icmp_ge hk cx3 cx2 dX11_alone_31 h (fun b1 h => ?_) (fun b1 h => ?_)
  · refine g_aload_n hk 0 rfl dX11_alone_34 ?_
    refine g_get2 hk fl_X11_38 rfl kdC_0 hm (b := 25) rfl dX11_alone_35 ?_
    refine g_aload_n hk 0 rfl dX11_alone_38 ?_
    refine g_get3o hk fl_X11_84 rfl (j := 12) rfl kdC_0 dX11_alone_39 h (fun zz2 kzz2 h => ?_)
    refine g_aload_n hk 0 rfl dX11_alone_42 ?_
    refine g_get2 hk fl_X11_28 rfl kdC_0 hm (b := 16) rfl dX11_alone_43 ?_
    obtain ⟨r3, e4, h⟩ := zbind h
    refine g_callVv hk (st := []) mf_X4_weigh lk_X11_234 mv_X4_weigh kdC_25 (by decide) rfl (Nat.le_of_ble_eq_true rfl) rfl dX11_alone_46 (met_Ke_weigh _ _ _ _ _ hk.wd hm kzz2 kdC_16 e4) (fun hm => ?_)
    refine g_aload_n hk 0 rfl dX11_alone_49 ?_
    refine g_get2 hk fl_X11_38 rfl kdC_0 hm (b := 25) rfl dX11_alone_50 ?_
    refine g_aload_n hk 0 rfl dX11_alone_53 ?_
    refine g_get3o hk fl_X11_84 rfl (j := 12) rfl kdC_0 dX11_alone_54 h (fun zz6 kzz6 h => ?_)
    refine g_aload_n hk 0 rfl dX11_alone_57 ?_
    refine g_get2 hk fl_X11_28 rfl kdC_0 hm (b := 16) rfl dX11_alone_58 ?_
    refine g_aload_n hk 0 rfl dX11_alone_61 ?_
    refine g_get3o hk fl_X11_84 rfl (j := 12) rfl kdC_0 dX11_alone_62 h (fun zz7 kzz7 h => ?_)
    have g8 := zGI (i := 0) hm kzz7 rfl
    refine g_get0 hk fl_X11_128 rfl (j := 0) rfl kzz7 dX11_alone_65 ?_
    obtain ⟨r9, e10, h⟩ := zbind h
    refine g_callVv hk (st := []) mf_X4_choose lk_X11_238 mv_X4_choose kdC_25 (by decide) rfl (Nat.le_of_ble_eq_true rfl) rfl dX11_alone_68 (met_Ke_choose _ _ _ _ _ hk.wd hm kzz6 kdC_16 g8 e10) (fun hm => ?_)
    refine g_aload_n hk 0 rfl dX11_alone_71 ?_
    refine g_get2 hk fl_X11_38 rfl kdC_0 hm (b := 25) rfl dX11_alone_72 ?_
    refine g_aload_n hk 0 rfl dX11_alone_75 ?_
    refine g_get3o hk fl_X11_84 rfl (j := 12) rfl kdC_0 dX11_alone_76 h (fun zz12 kzz12 h => ?_)
    refine g_aload_n hk 0 rfl dX11_alone_79 ?_
    refine g_get2 hk fl_X11_28 rfl kdC_0 hm (b := 16) rfl dX11_alone_80 ?_
    have g13 := zGI (i := 1) hm kdC_16 rfl
    refine g_get0 hk fl_X11_137 rfl (j := 1) rfl kdC_16 dX11_alone_83 ?_
    obtain ⟨r14, e15, h⟩ := zbind h
    refine g_callVi hk (st := []) mf_X4_firstLonely lk_X11_245 mv_X4_firstLonely kdC_25 (by decide) rfl (Nat.le_of_ble_eq_true rfl) rfl dX11_alone_86 (met_Ke_firstLonely _ _ _ _ _ hk.wd hm kzz12 g13 e15) (fun hm c16 => ?_)
    refine g_istore hk (lv' := [(4, mI r14), (0, .ref (kB K + 0)), (1, mI x1), (2, mI x2), (3, mI x3)]) (Nat.le_of_ble_eq_true rfl) rfl dX11_alone_89 ?_
    refine g_iload hk 0 rfl dX11_alone_91 ?_
    refine g_iconst hk (v := (-1)) rfl dX11_alone_93 ?_
    refine g_icmp_eq hk c16 (cIk rfl) dX11_alone_94 h (fun b17 h => ?_) (fun b17 h => ?_)
    · refine g_aload_n hk 1 rfl dX11_alone_108 ?_
      refine g_get2 hk fl_X11_38 rfl kdC_0 hm (b := 25) rfl dX11_alone_109 ?_
      refine g_aload_n hk 1 rfl dX11_alone_112 ?_
      refine g_get3o hk fl_X11_84 rfl (j := 12) rfl kdC_0 dX11_alone_113 h (fun zz18 kzz18 h => ?_)
      refine g_aload_n hk 1 rfl dX11_alone_116 ?_
      refine g_get2 hk fl_X11_28 rfl kdC_0 hm (b := 16) rfl dX11_alone_117 ?_
      obtain ⟨r19, e20, h⟩ := zbind h
      refine g_callVi hk (st := []) mf_X4_settle lk_X11_249 mv_X4_settle kdC_25 (by decide) rfl (Nat.le_of_ble_eq_true rfl) rfl dX11_alone_120 (met_Ke_settle _ _ _ _ _ hk.wd hm kzz18 kdC_16 e20) (fun hm c21 => ?_)
      refine g_pop hk rfl dX11_alone_123 ?_
      refine g_aload_n hk 1 rfl dX11_alone_124 ?_
      refine g_get2 hk fl_X11_28 rfl kdC_0 hm (b := 16) rfl dX11_alone_125 ?_
      obtain ⟨r22, e23, h⟩ := zbind h
      refine g_callVv hk (st := []) mf_X7_passHour lk_X11_252 mv_X7_passHour kdC_16 (by decide) rfl (Nat.le_of_ble_eq_true rfl) rfl dX11_alone_128 (met_St_passHour _ _ _ _ _ hk.wd hm kdC_16 e23) (fun hm => ?_)
      refine g_iinc hk (lv' := [(3, mI (wI (x3 + 1))), (4, mI r14), (0, .ref (kB K + 0)), (1, mI x1), (2, mI x2)]) 4 rfl (Nat.le_of_ble_eq_true rfl) rfl dX11_alone_131 ?_
      refine g_goto hk dX11_alone_134 ?_
      refine GoAt.sub [2, 3, 4, 0] rfl ?_
      exact hrec _ _ _ _ hm cx1 cx2 (wI_c _) h
    · refine GoAt.sub [2, 4, 0] rfl ?_
      exact hk97 _ _ _ _ hm cx1 cx3 c16 h
  · refine g_iconst hk (v := (-1)) rfl dX11_alone_137 ?_
    exact g_ireturn hk (cIk rfl) dX11_alone_138 (by cases h; rfl)
theorem w_C_alone_L29 {K : zK} (hk : zOk K kdC cX11_alone 5 (some .int) RX11 6) {k97 : Int → Int → Int → zM → Option (Int × zM)} {o : Int × zM} (hk97 : ∀ (x1 : Int) (x3 : Int) (x4 : Int) (m : zM), zG kdC m → cI x1 → cI x3 → cI x4 → k97 x1 x3 x4 m = some o → GoAt K m [(1, mI x1), (3, mI x3), (4, mI x4)] [] 97 (0, o.1, o.2)) : ∀ (n : Nat) (x1 : Int) (x2 : Int) (x3 : Int) (m : zM), zG kdC m → cI x1 → cI x2 → cI x3 → C_alone_L29 k97 n x1 x2 x3 m = some o → GoAt K m [(0, .ref (kB K + 0)), (1, mI x1), (2, mI x2), (3, mI x3)] [] 29 (0, o.1, o.2)
  | 0, x1, x2, x3, m, hm, cx1, cx2, cx3, h => by cases h
  | n + 1, x1, x2, x3, m, hm, cx1, cx2, cx3, h => w_C_alone_B29 hk hk97 (w_C_alone_L29 hk hk97 n) hm cx1 cx2 cx3 h
set_option maxRecDepth 100000 in
set_option maxHeartbeats 4000000 in
theorem w_C_alone_b11 {K : zK} (hk : zOk K kdC cX11_alone 5 (some .int) RX11 6)  {x1 : Int} {m : zM} {o : Int × zM}  (hm : zG kdC m) (cx1 : cI x1) (h : C_alone_b11 x1 m = some o) : GoAt K m [(0, .ref (kB K + 0)), (1, mI x1)] [] 11 (0, o.1, o.2) := by
  unfold C_alone_b11 at h
  refine g_aload_n hk 0 rfl dX11_alone_11 ?_
  refine g_get2 hk fl_X11_28 rfl kdC_0 hm (b := 16) rfl dX11_alone_12 ?_
  refine g_aload_n hk 0 rfl dX11_alone_15 ?_
  refine g_get2 hk fl_X11_24 rfl kdC_0 hm (b := 8) rfl dX11_alone_16 ?_
  obtain ⟨r1, e2, h⟩ := zbind h
  refine g_callVv hk (st := []) mf_X7_copyFrom lk_X11_226 mv_X7_copyFrom kdC_16 (by decide) rfl (Nat.le_of_ble_eq_true rfl) rfl dX11_alone_19 (met_St_copyFrom _ _ _ _ _ hk.wd hm kdC_16 kdC_8 e2) (fun hm => ?_)
  refine g_aload_n hk 0 rfl dX11_alone_22 ?_
  obtain ⟨r4, e5, h⟩ := zbind h
  refine g_callVi hk (st := []) mf_X11_hoursToSee lk_X11_223 mv_X11_hoursToSee kdC_0 (by decide) rfl (Nat.le_of_ble_eq_true rfl) rfl dX11_alone_23 (met_C_hoursToSee _ _ _ _ _ hk.wd hm e5) (fun hm c6 => ?_)
  refine g_istore_n hk rfl (lv' := [(2, mI r4), (0, .ref (kB K + 0)), (1, mI x1)]) (Nat.le_of_ble_eq_true rfl) rfl dX11_alone_26 ?_
  refine g_iconst hk (v := 0) rfl dX11_alone_27 ?_
  refine g_istore_n hk rfl (lv' := [(3, mI 0), (2, mI r4), (0, .ref (kB K + 0)), (1, mI x1)]) (Nat.le_of_ble_eq_true rfl) rfl dX11_alone_28 ?_
  refine GoAt.sub [2, 3, 1, 0] rfl ?_
  refine w_C_alone_L29 hk (fun x1_7 x3_7 x4_7 m8 hm cx1_7 cx3_7 cx4_7 h => ?_) 1000000 _ _ _ _ hm cx1 c6 (cIk rfl) h
  · refine g_iload_n hk 0 rfl dX11_alone_97 ?_
    refine g_if_ne hk cx1_7 dX11_alone_98 h (fun b9 h => ?_) (fun b9 h => ?_)
    · refine g_iload_n hk 1 rfl dX11_alone_101 ?_
      refine g_goto hk dX11_alone_102 ?_
      exact g_ireturn hk cx3_7 dX11_alone_107 (by cases h; rfl)
    · refine g_iload hk 2 rfl dX11_alone_105 ?_
      exact g_ireturn hk cx4_7 dX11_alone_107 (by cases h; rfl)
set_option maxRecDepth 100000 in
set_option maxHeartbeats 4000000 in
theorem w_C_alone {K : zK} (hk : zOk K kdC cX11_alone 5 (some .int) RX11 6)  {x1 : Int} {m : zM} {o : Int × zM}  (hm : zG kdC m) (cx1 : cI x1) (h : C_alone x1 m = some o) : GoAt K m [(0, .ref (kB K + 0)), (1, mI x1)] [] 0 (0, o.1, o.2) := by
  unfold C_alone at h
  refine g_iload_n hk 1 rfl dX11_alone_0 ?_
  refine g_if_eq hk cx1 dX11_alone_1 h (fun b1 h => ?_) (fun b1 h => ?_)
  · exact w_C_alone_b11 hk hm cx1 h
  · refine g_iload_n hk 1 rfl dX11_alone_4 ?_
    refine g_iconst hk (v := 1) rfl dX11_alone_5 ?_
    refine g_icmp_eq hk cx1 (cIk rfl) dX11_alone_6 h (fun b2 h => ?_) (fun b2 h => ?_)
    · exact w_C_alone_b11 hk hm cx1 h
    · refine g_iconst hk (v := (-1)) rfl dX11_alone_9 ?_
      exact g_ireturn hk (cIk rfl) dX11_alone_10 (by cases h; rfl)
theorem met_C_alone (l : Launch) (D : va_G) (aC : Nat → ClassId) (B N : Nat) (hwd : ∀ id, (kdC id).1 ≠ 9 → id < N) {x1 : Int} {m : zM} {o : Int × zM} (hm : zG kdC m) (cx1 : cI x1) (h : C_alone x1 m = some o) : zMet l yX11_alone cX11_alone 5 (some .int) 6 D aC B kdC N [.ref (B + 0), mI x1] m (0, o.1, o.2) := by
  refine zMet.of mf_X11_alone hwd hm (Nat.le_of_ble_eq_true rfl) (fun K e1 e2 e3 e4 e5 hk => ?_)
  subst e4
  exact w_C_alone hk hm cx1 h
set_option maxRecDepth 100000 in
set_option maxHeartbeats 4000000 in
theorem w_J_bitCount_0f7a4 {K : zK} (hk : zOk K kdC cJ6_bitCount_0f7a4 1 (some .int) RJ6 0)  {x0 : Int} {m : zM} {o : Int}  (hm : zG kdC m) (cx0 : cI x0) (h : J_bitCount_0f7a4 x0 = some o) : GoAt K m [(0, mI x0)] [] 0 (0, o, m) := by
  unfold J_bitCount_0f7a4 at h
  refine g_iload_n hk 0 rfl dJ6_bitCount_0f7a4_0 ?_
  refine g_iload_n hk 0 rfl dJ6_bitCount_0f7a4_1 ?_
  refine g_iconst hk (v := 1) rfl dJ6_bitCount_0f7a4_2 ?_
  refine g_iushr hk dJ6_bitCount_0f7a4_3 ?_
  refine g_ldcw hk (v := 1431655765) cn_J6_265 dJ6_bitCount_0f7a4_4 ?_
  refine g_iand hk dJ6_bitCount_0f7a4_7 ?_
  refine g_isub hk dJ6_bitCount_0f7a4_8 ?_
  refine g_let (wI_c _) h (fun v1 cv1 h => ?_)
  refine g_istore_n hk rfl (lv' := [(0, mI v1)]) (Nat.le_of_ble_eq_true rfl) rfl dJ6_bitCount_0f7a4_9 ?_
  refine g_iload_n hk 0 rfl dJ6_bitCount_0f7a4_10 ?_
  refine g_ldcw hk (v := 858993459) cn_J6_266 dJ6_bitCount_0f7a4_11 ?_
  refine g_iand hk dJ6_bitCount_0f7a4_14 ?_
  refine g_iload_n hk 0 rfl dJ6_bitCount_0f7a4_15 ?_
  refine g_iconst hk (v := 2) rfl dJ6_bitCount_0f7a4_16 ?_
  refine g_iushr hk dJ6_bitCount_0f7a4_17 ?_
  refine g_ldcw hk (v := 858993459) cn_J6_266 dJ6_bitCount_0f7a4_18 ?_
  refine g_iand hk dJ6_bitCount_0f7a4_21 ?_
  refine g_iadd hk dJ6_bitCount_0f7a4_22 ?_
  refine g_let (wI_c _) h (fun v2 cv2 h => ?_)
  refine g_istore_n hk rfl (lv' := [(0, mI v2)]) (Nat.le_of_ble_eq_true rfl) rfl dJ6_bitCount_0f7a4_23 ?_
  refine g_iload_n hk 0 rfl dJ6_bitCount_0f7a4_24 ?_
  refine g_iload_n hk 0 rfl dJ6_bitCount_0f7a4_25 ?_
  refine g_iconst hk (v := 4) rfl dJ6_bitCount_0f7a4_26 ?_
  refine g_iushr hk dJ6_bitCount_0f7a4_27 ?_
  refine g_iadd hk dJ6_bitCount_0f7a4_28 ?_
  refine g_ldcw hk (v := 252645135) cn_J6_267 dJ6_bitCount_0f7a4_29 ?_
  refine g_iand hk dJ6_bitCount_0f7a4_32 ?_
  refine g_let (cI_t _) h (fun v3 cv3 h => ?_)
  refine g_istore_n hk rfl (lv' := [(0, mI v3)]) (Nat.le_of_ble_eq_true rfl) rfl dJ6_bitCount_0f7a4_33 ?_
  refine g_iload_n hk 0 rfl dJ6_bitCount_0f7a4_34 ?_
  refine g_iload_n hk 0 rfl dJ6_bitCount_0f7a4_35 ?_
  refine g_bipush hk (v := 8) rfl dJ6_bitCount_0f7a4_36 ?_
  refine g_iushr hk dJ6_bitCount_0f7a4_38 ?_
  refine g_iadd hk dJ6_bitCount_0f7a4_39 ?_
  refine g_let (wI_c _) h (fun v4 cv4 h => ?_)
  refine g_istore_n hk rfl (lv' := [(0, mI v4)]) (Nat.le_of_ble_eq_true rfl) rfl dJ6_bitCount_0f7a4_40 ?_
  refine g_iload_n hk 0 rfl dJ6_bitCount_0f7a4_41 ?_
  refine g_iload_n hk 0 rfl dJ6_bitCount_0f7a4_42 ?_
  refine g_bipush hk (v := 16) rfl dJ6_bitCount_0f7a4_43 ?_
  refine g_iushr hk dJ6_bitCount_0f7a4_45 ?_
  refine g_iadd hk dJ6_bitCount_0f7a4_46 ?_
  refine g_let (wI_c _) h (fun v5 cv5 h => ?_)
  refine g_istore_n hk rfl (lv' := [(0, mI v5)]) (Nat.le_of_ble_eq_true rfl) rfl dJ6_bitCount_0f7a4_47 ?_
  refine g_iload_n hk 0 rfl dJ6_bitCount_0f7a4_48 ?_
  refine g_bipush hk (v := 63) rfl dJ6_bitCount_0f7a4_49 ?_
  refine g_iand hk dJ6_bitCount_0f7a4_51 ?_
  exact g_ireturn hk (cI_t _) dJ6_bitCount_0f7a4_52 (by cases h; rfl)
theorem met_J_bitCount_0f7a4 (l : Launch) (D : va_G) (aC : Nat → ClassId) (B N : Nat) (hwd : ∀ id, (kdC id).1 ≠ 9 → id < N) {x0 : Int} {m : zM} {o : Int} (hm : zG kdC m) (cx0 : cI x0) (h : J_bitCount_0f7a4 x0 = some o) : zMet l yJ6_bitCount_0f7a4 cJ6_bitCount_0f7a4 1 (some .int) 0 D aC B kdC N [mI x0] m (0, o, m) := by
  refine zMet.of mf_J6_bitCount_0f7a4 hwd hm (Nat.le_of_ble_eq_true rfl) (fun K e1 e2 e3 e4 e5 hk => ?_)
  subst e4
  exact w_J_bitCount_0f7a4 hk hm cx0 h
set_option maxRecDepth 100000 in
set_option maxHeartbeats 4000000 in
theorem w_Br_canBring {K : zK} (hk : zOk K kdC cX0_canBring 5 (some .boolean) RX0 1)  {o0 : Nat} {a1 : Nat} {n1 : Nat} {x2 : Int} {x3 : Int} {x4 : Int} {m : zM} {o : Int}  (hm : zG kdC m) (ko0 : kdC o0 = (0, 10)) (ka1 : kdC a1 = (1, n1)) (cx2 : cI x2) (cx3 : cI x3) (cx4 : cI x4) (h : Br_canBring o0 a1 n1 x2 x3 x4 m = some o) : GoAt K m [(0, .ref (kB K + o0)), (1, .ref (kB K + a1)), (2, mI x2), (3, mI x3), (4, mI x4)] [] 0 (4, o, m) := by
  unfold Br_canBring at h
  refine g_iload hk 4 rfl dX0_canBring_0 ?_
  refine g_iload_n hk 3 rfl dX0_canBring_2 ?_
  refine g_ishr hk dX0_canBring_3 ?_
  refine g_iconst hk (v := 1) rfl dX0_canBring_4 ?_
  refine g_iand hk dX0_canBring_5 ?_
  refine g_if_ne hk (cI_t _) dX0_canBring_6 h (fun b1 h => ?_) (fun b1 h => ?_)
  · refine g_iload hk 4 rfl dX0_canBring_9 ?_
    obtain ⟨r2, e3, h⟩ := zbind h
    refine g_callSi hk (st := []) mf_J6_bitCount_0f7a4 lk_X0_54 ms_J6_bitCount_0f7a4 (by decide) rfl (Nat.le_of_ble_eq_true rfl) rfl dX0_canBring_11 (met_J_bitCount_0f7a4 _ _ _ _ _ hk.wd hm cx4 e3) (fun hm c4 => ?_)
    refine g_aload_n hk 0 rfl dX0_canBring_14 ?_
    have g5 := zGI (i := 14) hm ko0 rfl
    refine g_get0 hk fl_X0_60 rfl (j := 14) rfl ko0 dX0_canBring_15 ?_
    refine g_icmp_ge hk c4 g5 dX0_canBring_18 h (fun b6 h => ?_) (fun b6 h => ?_)
    · refine g_aload_n hk 1 rfl dX0_canBring_21 ?_
      refine g_iload_n hk 2 rfl dX0_canBring_22 ?_
      refine g_bipush hk (v := 8) rfl dX0_canBring_23 ?_
      refine g_imul hk dX0_canBring_25 ?_
      refine g_iload_n hk 3 rfl dX0_canBring_26 ?_
      refine g_iadd hk dX0_canBring_27 ?_
      refine g_iald hk (wI_c _) ka1 hm dX0_canBring_28 h (fun y7 cy7 h => ?_)
      refine g_if_le hk cy7 dX0_canBring_29 h (fun b8 h => ?_) (fun b8 h => ?_)
      · refine g_aload_n hk 0 rfl dX0_canBring_32 ?_
        refine g_iload_n hk 2 rfl dX0_canBring_33 ?_
        refine g_iload_n hk 3 rfl dX0_canBring_34 ?_
        obtain ⟨r9, e10, h⟩ := zbind h
        refine g_callVz hk (st := []) mf_X10_isFeared lk_X0_63 mv_X10_isFeared ko0 (by decide) rfl (Nat.le_of_ble_eq_true rfl) rfl dX0_canBring_35 (met_Zo_isFeared _ _ _ _ _ hk.wd hm ko0 cx2 cx3 e10) (fun hm c11 => ?_)
        refine g_if_ne hk (b01 c11) dX0_canBring_38 h (fun b12 h => ?_) (fun b12 h => ?_)
        · refine g_iconst hk (v := 1) rfl dX0_canBring_41 ?_
          refine g_goto hk dX0_canBring_42 ?_
          exact g_zreturn hk z1 dX0_canBring_46 (by cases h; rfl)
        · refine g_iconst hk (v := 0) rfl dX0_canBring_45 ?_
          exact g_zreturn hk z0 dX0_canBring_46 (by cases h; rfl)
      · refine g_iconst hk (v := 0) rfl dX0_canBring_45 ?_
        exact g_zreturn hk z0 dX0_canBring_46 (by cases h; rfl)
    · refine g_iconst hk (v := 0) rfl dX0_canBring_45 ?_
      exact g_zreturn hk z0 dX0_canBring_46 (by cases h; rfl)
  · refine g_iconst hk (v := 0) rfl dX0_canBring_45 ?_
    exact g_zreturn hk z0 dX0_canBring_46 (by cases h; rfl)
theorem met_Br_canBring (l : Launch) (D : va_G) (aC : Nat → ClassId) (B N : Nat) (hwd : ∀ id, (kdC id).1 ≠ 9 → id < N) {o0 : Nat} {a1 : Nat} {n1 : Nat} {x2 : Int} {x3 : Int} {x4 : Int} {m : zM} {o : Int} (hm : zG kdC m) (ko0 : kdC o0 = (0, 10)) (ka1 : kdC a1 = (1, n1)) (cx2 : cI x2) (cx3 : cI x3) (cx4 : cI x4) (h : Br_canBring o0 a1 n1 x2 x3 x4 m = some o) : zMet l yX0_canBring cX0_canBring 5 (some .boolean) 1 D aC B kdC N [.ref (B + o0), .ref (B + a1), mI x2, mI x3, mI x4] m (4, o, m) := by
  refine zMet.of mf_X0_canBring hwd hm (Nat.le_of_ble_eq_true rfl) (fun K e1 e2 e3 e4 e5 hk => ?_)
  subst e4
  exact w_Br_canBring hk hm ko0 ka1 cx2 cx3 cx4 h
set_option maxRecDepth 100000 in
set_option maxHeartbeats 4000000 in
theorem w_Br_with {K : zK} (hk : zOk K kdC cX0_with 5 (some .int) RX0 0)  {a1 : Nat} {n1 : Nat} {x2 : Int} {x3 : Int} {x4 : Int} {m : zM} {o : Int}  (hm : zG kdC m) (ka1 : kdC a1 = (1, n1)) (cx2 : cI x2) (cx3 : cI x3) (cx4 : cI x4) (h : Br_with a1 n1 x2 x3 x4 m = some o) : GoAt K m [(0, .ref (kB K + 30)), (1, .ref (kB K + a1)), (2, mI x2), (3, mI x3), (4, mI x4)] [] 0 (0, o, m) := by
  unfold Br_with at h
  refine g_aload_n hk 1 rfl dX0_with_0 ?_
  refine g_iload_n hk 2 rfl dX0_with_1 ?_
  refine g_bipush hk (v := 8) rfl dX0_with_2 ?_
  refine g_imul hk dX0_with_4 ?_
  refine g_iload_n hk 3 rfl dX0_with_5 ?_
  refine g_iadd hk dX0_with_6 ?_
  refine g_iald hk (wI_c _) ka1 hm dX0_with_7 h (fun y1 cy1 h => ?_)
  refine g_aload_n hk 0 rfl dX0_with_8 ?_
  refine g_get2 hk fl_X0_17 rfl kdC_30 hm (b := 32) rfl dX0_with_9 ?_
  refine g_iload_n hk 2 rfl dX0_with_12 ?_
  refine g_iconst hk (v := 1) rfl dX0_with_13 ?_
  refine g_iadd hk dX0_with_14 ?_
  refine g_aald5 hk (wI_c _) kdC_32 hm dX0_with_15 h (fun q2 q3 h => ?_)
  refine g_iload hk 4 rfl dX0_with_16 ?_
  refine g_iconst hk (v := 1) rfl dX0_with_18 ?_
  refine g_iload_n hk 3 rfl dX0_with_19 ?_
  refine g_ishl hk dX0_with_20 ?_
  refine g_ior hk dX0_with_21 ?_
  refine g_iald hk (cI_t _) (kdC_most q2 q3) hm dX0_with_22 h (fun y4 cy4 h => ?_)
  refine g_iadd hk dX0_with_23 ?_
  exact g_ireturn hk (wI_c _) dX0_with_24 (by cases h; rfl)
theorem met_Br_with (l : Launch) (D : va_G) (aC : Nat → ClassId) (B N : Nat) (hwd : ∀ id, (kdC id).1 ≠ 9 → id < N) {a1 : Nat} {n1 : Nat} {x2 : Int} {x3 : Int} {x4 : Int} {m : zM} {o : Int} (hm : zG kdC m) (ka1 : kdC a1 = (1, n1)) (cx2 : cI x2) (cx3 : cI x3) (cx4 : cI x4) (h : Br_with a1 n1 x2 x3 x4 m = some o) : zMet l yX0_with cX0_with 5 (some .int) 0 D aC B kdC N [.ref (B + 30), .ref (B + a1), mI x2, mI x3, mI x4] m (0, o, m) := by
  refine zMet.of mf_X0_with hwd hm (Nat.le_of_ble_eq_true rfl) (fun K e1 e2 e3 e4 e5 hk => ?_)
  subst e4
  exact w_Br_with hk hm ka1 cx2 cx3 cx4 h
set_option maxRecDepth 100000 in
set_option maxHeartbeats 4000000 in
theorem w_Br_mostFrom_B16 {K : zK} (hk : zOk K kdC cX0_mostFrom 7 (some .int) RX0 2) {rec : Nat → Nat → Nat → Int → Int → Int → Int → Option (Int)} {o1 : Nat} {a2 : Nat} {n2 : Nat} {x3 : Int} {x4 : Int} {x5 : Int} {x6 : Int} {m : zM} {o : Int} (hrec : ∀ (o1 : Nat) (a2 : Nat) (n2 : Nat) (x3 : Int) (x4 : Int) (x5 : Int) (x6 : Int), kdC o1 = (0, 10) → kdC a2 = (1, n2) → cI x3 → cI x4 → cI x5 → cI x6 → rec o1 a2 n2 x3 x4 x5 x6 = some o → GoAt K m [(0, .ref (kB K + 30)), (1, .ref (kB K + o1)), (2, .ref (kB K + a2)), (3, mI x3), (4, mI x4), (5, mI x5), (6, mI x6)] [] 16 (0, o, m)) (hm : zG kdC m) (ko1 : kdC o1 = (0, 10)) (ka2 : kdC a2 = (1, n2)) (cx3 : cI x3) (cx4 : cI x4) (cx5 : cI x5) (cx6 : cI x6) (h : Br_mostFrom_B16 rec o1 a2 n2 x3 x4 x5 x6 m = some o) : GoAt K m [(0, .ref (kB K + 30)), (1, .ref (kB K + o1)), (2, .ref (kB K + a2)), (3, mI x3), (4, mI x4), (5, mI x5), (6, mI x6)] [] 16 (0, o, m) := by
  unfold Br_mostFrom_B16 at h
  refine g_iload hk 6 rfl dX0_mostFrom_16 ?_
  refine g_aload_n hk 1 rfl dX0_mostFrom_18 ?_
  have g1 := zGI (i := 1) hm ko1 rfl
  refine g_get0 hk fl_X0_20 rfl (j := 1) rfl ko1 dX0_mostFrom_19 ?_
  refine g_icmp_ge hk cx6 g1 dX0_mostFrom_22 h (fun b2 h => ?_) (fun b2 h => ?_)
  · refine g_aload_n hk 1 rfl dX0_mostFrom_25 ?_
    refine g_aload_n hk 2 rfl dX0_mostFrom_26 ?_
    refine g_iload_n hk 3 rfl dX0_mostFrom_27 ?_
    refine g_iload hk 6 rfl dX0_mostFrom_28 ?_
    refine g_iload hk 4 rfl dX0_mostFrom_30 ?_
    obtain ⟨r3, e4, h⟩ := zbind h
    refine g_callSz hk (st := []) mf_X0_canBring lk_X0_40 ms_X0_canBring (by decide) rfl (Nat.le_of_ble_eq_true rfl) rfl dX0_mostFrom_32 (met_Br_canBring _ _ _ _ _ hk.wd hm ko1 ka2 cx3 cx6 cx4 e4) (fun hm c5 => ?_)
    refine g_if_eq hk (b01 c5) dX0_mostFrom_35 h (fun b6 h => ?_) (fun b6 h => ?_)
    · refine g_iinc hk (lv' := [(6, mI (wI (x6 + 1))), (0, .ref (kB K + 30)), (1, .ref (kB K + o1)), (2, .ref (kB K + a2)), (3, mI x3), (4, mI x4), (5, mI x5)]) 6 rfl (Nat.le_of_ble_eq_true rfl) rfl dX0_mostFrom_55 ?_
      refine g_goto hk dX0_mostFrom_58 ?_
      refine GoAt.sub [1, 2, 3, 4, 5, 6, 0] rfl ?_
      exact hrec _ _ _ _ _ _ _ ko1 ka2 cx3 cx4 cx5 (wI_c _) h
    · refine g_iload hk 5 rfl dX0_mostFrom_38 ?_
      refine g_aload_n hk 0 rfl dX0_mostFrom_40 ?_
      refine g_aload_n hk 2 rfl dX0_mostFrom_41 ?_
      refine g_iload_n hk 3 rfl dX0_mostFrom_42 ?_
      refine g_iload hk 6 rfl dX0_mostFrom_43 ?_
      refine g_iload hk 4 rfl dX0_mostFrom_45 ?_
      obtain ⟨r7, e8, h⟩ := zbind h
      refine g_callVi hk (st := [mI x5]) mf_X0_with lk_X0_44 mv_X0_with kdC_30 (by decide) rfl (Nat.le_of_ble_eq_true rfl) rfl dX0_mostFrom_47 (met_Br_with _ _ _ _ _ hk.wd hm ka2 cx3 cx6 cx4 e8) (fun hm c9 => ?_)
      refine g_imax hk cx5 c9 lk_X0_48 ms_J9_max_7cf53 mfi_J9_max_7cf53 mfc_J9_max_7cf53 (Nat.le_of_ble_eq_true rfl) (Nat.le_of_ble_eq_true rfl) dX0_mostFrom_50 ?_
      refine g_istore hk (lv' := [(5, mI (max x5 r7)), (0, .ref (kB K + 30)), (1, .ref (kB K + o1)), (2, .ref (kB K + a2)), (3, mI x3), (4, mI x4), (6, mI x6)]) (Nat.le_of_ble_eq_true rfl) rfl dX0_mostFrom_53 ?_
      refine g_iinc hk (lv' := [(6, mI (wI (x6 + 1))), (5, mI (max x5 r7)), (0, .ref (kB K + 30)), (1, .ref (kB K + o1)), (2, .ref (kB K + a2)), (3, mI x3), (4, mI x4)]) 6 rfl (Nat.le_of_ble_eq_true rfl) rfl dX0_mostFrom_55 ?_
      refine g_goto hk dX0_mostFrom_58 ?_
      refine GoAt.sub [2, 3, 4, 5, 6, 1, 0] rfl ?_
      exact hrec _ _ _ _ _ _ _ ko1 ka2 cx3 cx4 (cI_max cx5 c9) (wI_c _) h
  · refine g_iload hk 5 rfl dX0_mostFrom_61 ?_
    exact g_ireturn hk cx5 dX0_mostFrom_63 (by cases h; rfl)
theorem w_Br_mostFrom_L16 {K : zK} (hk : zOk K kdC cX0_mostFrom 7 (some .int) RX0 2)  {o : Int} {m : zM} (hm : zG kdC m)  : ∀ (n : Nat) (o1 : Nat) (a2 : Nat) (n2 : Nat) (x3 : Int) (x4 : Int) (x5 : Int) (x6 : Int), kdC o1 = (0, 10) → kdC a2 = (1, n2) → cI x3 → cI x4 → cI x5 → cI x6 → Br_mostFrom_L16 m n o1 a2 n2 x3 x4 x5 x6 = some o → GoAt K m [(0, .ref (kB K + 30)), (1, .ref (kB K + o1)), (2, .ref (kB K + a2)), (3, mI x3), (4, mI x4), (5, mI x5), (6, mI x6)] [] 16 (0, o, m)
  | 0, o1, a2, n2, x3, x4, x5, x6, ko1, ka2, cx3, cx4, cx5, cx6, h => by cases h
  | n + 1, o1, a2, n2, x3, x4, x5, x6, ko1, ka2, cx3, cx4, cx5, cx6, h => w_Br_mostFrom_B16 hk  (w_Br_mostFrom_L16 hk hm  n) hm ko1 ka2 cx3 cx4 cx5 cx6 h
set_option maxRecDepth 100000 in
set_option maxHeartbeats 4000000 in
theorem w_Br_mostFrom {K : zK} (hk : zOk K kdC cX0_mostFrom 7 (some .int) RX0 2)  {o1 : Nat} {a2 : Nat} {n2 : Nat} {x3 : Int} {x4 : Int} {m : zM} {o : Int}  (hm : zG kdC m) (ko1 : kdC o1 = (0, 10)) (ka2 : kdC a2 = (1, n2)) (cx3 : cI x3) (cx4 : cI x4) (h : Br_mostFrom o1 a2 n2 x3 x4 m = some o) : GoAt K m [(0, .ref (kB K + 30)), (1, .ref (kB K + o1)), (2, .ref (kB K + a2)), (3, mI x3), (4, mI x4)] [] 0 (0, o, m) := by
  unfold Br_mostFrom at h
  refine g_aload_n hk 0 rfl dX0_mostFrom_0 ?_
  refine g_get2 hk fl_X0_17 rfl kdC_30 hm (b := 32) rfl dX0_mostFrom_1 ?_
  refine g_iload_n hk 3 rfl dX0_mostFrom_4 ?_
  refine g_iconst hk (v := 1) rfl dX0_mostFrom_5 ?_
  refine g_iadd hk dX0_mostFrom_6 ?_
  refine g_aald5 hk (wI_c _) kdC_32 hm dX0_mostFrom_7 h (fun q1 q2 h => ?_)
  refine g_iload hk 4 rfl dX0_mostFrom_8 ?_
  refine g_iald hk cx4 (kdC_most q1 q2) hm dX0_mostFrom_10 h (fun y3 cy3 h => ?_)
  refine g_istore hk (lv' := [(5, mI y3), (0, .ref (kB K + 30)), (1, .ref (kB K + o1)), (2, .ref (kB K + a2)), (3, mI x3), (4, mI x4)]) (Nat.le_of_ble_eq_true rfl) rfl dX0_mostFrom_11 ?_
  refine g_iconst hk (v := 0) rfl dX0_mostFrom_13 ?_
  refine g_istore hk (lv' := [(6, mI 0), (5, mI y3), (0, .ref (kB K + 30)), (1, .ref (kB K + o1)), (2, .ref (kB K + a2)), (3, mI x3), (4, mI x4)]) (Nat.le_of_ble_eq_true rfl) rfl dX0_mostFrom_14 ?_
  refine GoAt.sub [2, 3, 4, 5, 6, 1, 0] rfl ?_
  refine w_Br_mostFrom_L16 hk hm  1000000 _ _ _ _ _ _ _ ko1 ka2 cx3 cx4 cy3 (cIk rfl) h
theorem met_Br_mostFrom (l : Launch) (D : va_G) (aC : Nat → ClassId) (B N : Nat) (hwd : ∀ id, (kdC id).1 ≠ 9 → id < N) {o1 : Nat} {a2 : Nat} {n2 : Nat} {x3 : Int} {x4 : Int} {m : zM} {o : Int} (hm : zG kdC m) (ko1 : kdC o1 = (0, 10)) (ka2 : kdC a2 = (1, n2)) (cx3 : cI x3) (cx4 : cI x4) (h : Br_mostFrom o1 a2 n2 x3 x4 m = some o) : zMet l yX0_mostFrom cX0_mostFrom 7 (some .int) 2 D aC B kdC N [.ref (B + 30), .ref (B + o1), .ref (B + a2), mI x3, mI x4] m (0, o, m) := by
  refine zMet.of mf_X0_mostFrom hwd hm (Nat.le_of_ble_eq_true rfl) (fun K e1 e2 e3 e4 e5 hk => ?_)
  subst e4
  exact w_Br_mostFrom hk hm ko1 ka2 cx3 cx4 h
set_option maxRecDepth 100000 in
set_option maxHeartbeats 4000000 in
theorem w_Br_follow_B25 {K : zK} (hk : zOk K kdC cX0_follow 6 none RX0 2) {k95 : Nat → Nat → Nat → Int → Int → zM → Option (zM)} {rec : Nat → Nat → Nat → Int → Int → Int → zM → Option (zM)} {o1 : Nat} {a2 : Nat} {n2 : Nat} {x3 : Int} {x4 : Int} {x5 : Int} {m : zM} {o : zM} (hk95 : ∀ (o1 : Nat) (a2 : Nat) (n2 : Nat) (x3 : Int) (x4 : Int) (m : zM), zG kdC m → kdC o1 = (0, 10) → kdC a2 = (1, n2) → cI x3 → cI x4 → k95 o1 a2 n2 x3 x4 m = some o → GoAt K m [(0, .ref (kB K + 30)), (1, .ref (kB K + o1)), (2, .ref (kB K + a2)), (3, mI x3), (4, mI x4)] [] 95 (9, 0, o)) (hrec : ∀ (o1 : Nat) (a2 : Nat) (n2 : Nat) (x3 : Int) (x4 : Int) (x5 : Int) (m : zM), zG kdC m → kdC o1 = (0, 10) → kdC a2 = (1, n2) → cI x3 → cI x4 → cI x5 → rec o1 a2 n2 x3 x4 x5 m = some o → GoAt K m [(0, .ref (kB K + 30)), (1, .ref (kB K + o1)), (2, .ref (kB K + a2)), (3, mI x3), (4, mI x4), (5, mI x5)] [] 25 (9, 0, o)) (hm : zG kdC m) (ko1 : kdC o1 = (0, 10)) (ka2 : kdC a2 = (1, n2)) (cx3 : cI x3) (cx4 : cI x4) (cx5 : cI x5) (h : Br_follow_B25 k95 rec o1 a2 n2 x3 x4 x5 m = some o) : GoAt K m [(0, .ref (kB K + 30)), (1, .ref (kB K + o1)), (2, .ref (kB K + a2)), (3, mI x3), (4, mI x4), (5, mI x5)] [] 25 (9, 0, o) := by
  unfold Br_follow_B25 at h
  refine g_iload hk 5 rfl dX0_follow_25 ?_
  refine g_aload_n hk 1 rfl dX0_follow_27 ?_
  have g1 := zGI (i := 1) hm ko1 rfl
  refine g_get0 hk fl_X0_20 rfl (j := 1) rfl ko1 dX0_follow_28 ?_
  refine g_icmp_ge hk cx5 g1 dX0_follow_31 h (fun b2 h => ?_) (fun b2 h => ?_)
  · refine g_aload_n hk 0 rfl dX0_follow_34 ?_
    refine g_get2 hk fl_X0_9 rfl kdC_30 hm (b := 31) rfl dX0_follow_35 ?_
    refine g_iload hk 4 rfl dX0_follow_38 ?_
    refine g_iald hk cx4 kdC_31 hm dX0_follow_40 h (fun y3 cy3 h => ?_)
    refine g_iconst hk (v := (-1)) rfl dX0_follow_41 ?_
    refine g_icmp_ne hk cy3 (cIk rfl) dX0_follow_42 h (fun b4 h => ?_) (fun b4 h => ?_)
    · refine g_aload_n hk 1 rfl dX0_follow_45 ?_
      refine g_aload_n hk 2 rfl dX0_follow_46 ?_
      refine g_iload hk 4 rfl dX0_follow_47 ?_
      refine g_iload hk 5 rfl dX0_follow_49 ?_
      refine g_iload_n hk 3 rfl dX0_follow_51 ?_
      obtain ⟨r5, e6, h⟩ := zbind h
      refine g_callSz hk (st := []) mf_X0_canBring lk_X0_40 ms_X0_canBring (by decide) rfl (Nat.le_of_ble_eq_true rfl) rfl dX0_follow_52 (met_Br_canBring _ _ _ _ _ hk.wd hm ko1 ka2 cx4 cx5 cx3 e6) (fun hm c7 => ?_)
      refine g_if_eq hk (b01 c7) dX0_follow_55 h (fun b8 h => ?_) (fun b8 h => ?_)
      · refine g_iinc hk (lv' := [(5, mI (wI (x5 + 1))), (0, .ref (kB K + 30)), (1, .ref (kB K + o1)), (2, .ref (kB K + a2)), (3, mI x3), (4, mI x4)]) 5 rfl (Nat.le_of_ble_eq_true rfl) rfl dX0_follow_89 ?_
        refine g_goto hk dX0_follow_92 ?_
        refine GoAt.sub [1, 2, 3, 4, 5, 0] rfl ?_
        exact hrec _ _ _ _ _ _ _ hm ko1 ka2 cx3 cx4 (wI_c _) h
      · refine g_aload_n hk 0 rfl dX0_follow_58 ?_
        refine g_aload_n hk 2 rfl dX0_follow_59 ?_
        refine g_iload hk 4 rfl dX0_follow_60 ?_
        refine g_iload hk 5 rfl dX0_follow_62 ?_
        refine g_iload_n hk 3 rfl dX0_follow_64 ?_
        obtain ⟨r9, e10, h⟩ := zbind h
        refine g_callVi hk (st := []) mf_X0_with lk_X0_44 mv_X0_with kdC_30 (by decide) rfl (Nat.le_of_ble_eq_true rfl) rfl dX0_follow_65 (met_Br_with _ _ _ _ _ hk.wd hm ka2 cx4 cx5 cx3 e10) (fun hm c11 => ?_)
        refine g_aload_n hk 0 rfl dX0_follow_68 ?_
        refine g_get2 hk fl_X0_17 rfl kdC_30 hm (b := 32) rfl dX0_follow_69 ?_
        refine g_iload hk 4 rfl dX0_follow_72 ?_
        refine g_aald5 hk cx4 kdC_32 hm dX0_follow_74 h (fun q12 q13 h => ?_)
        refine g_iload_n hk 3 rfl dX0_follow_75 ?_
        refine g_iald hk cx3 (kdC_most q12 q13) hm dX0_follow_76 h (fun y14 cy14 h => ?_)
        refine g_icmp_ne hk c11 cy14 dX0_follow_77 h (fun b15 h => ?_) (fun b15 h => ?_)
        · refine g_aload_n hk 0 rfl dX0_follow_80 ?_
          refine g_get2 hk fl_X0_9 rfl kdC_30 hm (b := 31) rfl dX0_follow_81 ?_
          refine g_iload hk 4 rfl dX0_follow_84 ?_
          refine g_iload hk 5 rfl dX0_follow_86 ?_
          refine g_iast hk cx4 cx5 kdC_31 hm dX0_follow_88 h (fun m16 hm h => ?_)
          refine g_iinc hk (lv' := [(5, mI (wI (x5 + 1))), (0, .ref (kB K + 30)), (1, .ref (kB K + o1)), (2, .ref (kB K + a2)), (3, mI x3), (4, mI x4)]) 5 rfl (Nat.le_of_ble_eq_true rfl) rfl dX0_follow_89 ?_
          refine g_goto hk dX0_follow_92 ?_
          refine GoAt.sub [1, 2, 3, 4, 5, 0] rfl ?_
          exact hrec _ _ _ _ _ _ _ hm ko1 ka2 cx3 cx4 (wI_c _) h
        · refine g_iinc hk (lv' := [(5, mI (wI (x5 + 1))), (0, .ref (kB K + 30)), (1, .ref (kB K + o1)), (2, .ref (kB K + a2)), (3, mI x3), (4, mI x4)]) 5 rfl (Nat.le_of_ble_eq_true rfl) rfl dX0_follow_89 ?_
          refine g_goto hk dX0_follow_92 ?_
          refine GoAt.sub [1, 2, 3, 4, 5, 0] rfl ?_
          exact hrec _ _ _ _ _ _ _ hm ko1 ka2 cx3 cx4 (wI_c _) h
    · refine GoAt.sub [0, 1, 2, 3, 4] rfl ?_
      exact hk95 _ _ _ _ _ _ hm ko1 ka2 cx3 cx4 h
  · refine GoAt.sub [0, 1, 2, 3, 4] rfl ?_
    exact hk95 _ _ _ _ _ _ hm ko1 ka2 cx3 cx4 h
theorem w_Br_follow_L25 {K : zK} (hk : zOk K kdC cX0_follow 6 none RX0 2) {k95 : Nat → Nat → Nat → Int → Int → zM → Option (zM)} {o : zM} (hk95 : ∀ (o1 : Nat) (a2 : Nat) (n2 : Nat) (x3 : Int) (x4 : Int) (m : zM), zG kdC m → kdC o1 = (0, 10) → kdC a2 = (1, n2) → cI x3 → cI x4 → k95 o1 a2 n2 x3 x4 m = some o → GoAt K m [(0, .ref (kB K + 30)), (1, .ref (kB K + o1)), (2, .ref (kB K + a2)), (3, mI x3), (4, mI x4)] [] 95 (9, 0, o)) : ∀ (n : Nat) (o1 : Nat) (a2 : Nat) (n2 : Nat) (x3 : Int) (x4 : Int) (x5 : Int) (m : zM), zG kdC m → kdC o1 = (0, 10) → kdC a2 = (1, n2) → cI x3 → cI x4 → cI x5 → Br_follow_L25 k95 n o1 a2 n2 x3 x4 x5 m = some o → GoAt K m [(0, .ref (kB K + 30)), (1, .ref (kB K + o1)), (2, .ref (kB K + a2)), (3, mI x3), (4, mI x4), (5, mI x5)] [] 25 (9, 0, o)
  | 0, o1, a2, n2, x3, x4, x5, m, hm, ko1, ka2, cx3, cx4, cx5, h => by cases h
  | n + 1, o1, a2, n2, x3, x4, x5, m, hm, ko1, ka2, cx3, cx4, cx5, h => w_Br_follow_B25 hk hk95 (w_Br_follow_L25 hk hk95 n) hm ko1 ka2 cx3 cx4 cx5 h
set_option maxRecDepth 100000 in
set_option maxHeartbeats 4000000 in
theorem w_Br_follow_b95 {K : zK} (hk : zOk K kdC cX0_follow 6 none RX0 2) {rec : Nat → Nat → Nat → Int → Int → zM → Option (zM)} {o1 : Nat} {a2 : Nat} {n2 : Nat} {x3 : Int} {x4 : Int} {m : zM} {o : zM} (hrec : ∀ (o1 : Nat) (a2 : Nat) (n2 : Nat) (x3 : Int) (x4 : Int) (m : zM), zG kdC m → kdC o1 = (0, 10) → kdC a2 = (1, n2) → cI x3 → cI x4 → rec o1 a2 n2 x3 x4 m = some o → GoAt K m [(0, .ref (kB K + 30)), (1, .ref (kB K + o1)), (2, .ref (kB K + a2)), (3, mI x3), (4, mI x4)] [] 5 (9, 0, o)) (hm : zG kdC m) (ko1 : kdC o1 = (0, 10)) (ka2 : kdC a2 = (1, n2)) (cx3 : cI x3) (cx4 : cI x4) (h : Br_follow_b95 rec o1 a2 n2 x3 x4 m = some o) : GoAt K m [(0, .ref (kB K + 30)), (1, .ref (kB K + o1)), (2, .ref (kB K + a2)), (3, mI x3), (4, mI x4)] [] 95 (9, 0, o) := by
  unfold Br_follow_b95 at h
  refine g_aload_n hk 0 rfl dX0_follow_95 ?_
  refine g_get2 hk fl_X0_9 rfl kdC_30 hm (b := 31) rfl dX0_follow_96 ?_
  refine g_iload hk 4 rfl dX0_follow_99 ?_
  refine g_iald hk cx4 kdC_31 hm dX0_follow_101 h (fun y1 cy1 h => ?_)
  refine g_iconst hk (v := (-1)) rfl dX0_follow_102 ?_
  refine g_icmp_eq hk cy1 (cIk rfl) dX0_follow_103 h (fun b2 h => ?_) (fun b2 h => ?_)
  · refine g_iinc hk (lv' := [(4, mI (wI (x4 + 1))), (0, .ref (kB K + 30)), (1, .ref (kB K + o1)), (2, .ref (kB K + a2)), (3, mI x3)]) 4 rfl (Nat.le_of_ble_eq_true rfl) rfl dX0_follow_118 ?_
    refine g_goto hk dX0_follow_121 ?_
    refine GoAt.sub [1, 2, 3, 4, 0] rfl ?_
    exact hrec _ _ _ _ _ _ hm ko1 ka2 cx3 (wI_c _) h
  · refine g_iload_n hk 3 rfl dX0_follow_106 ?_
    refine g_iconst hk (v := 1) rfl dX0_follow_107 ?_
    refine g_aload_n hk 0 rfl dX0_follow_108 ?_
    refine g_get2 hk fl_X0_9 rfl kdC_30 hm (b := 31) rfl dX0_follow_109 ?_
    refine g_iload hk 4 rfl dX0_follow_112 ?_
    refine g_iald hk cx4 kdC_31 hm dX0_follow_114 h (fun y3 cy3 h => ?_)
    refine g_ishl hk dX0_follow_115 ?_
    refine g_ior hk dX0_follow_116 ?_
    refine g_let (cI_t _) h (fun v4 cv4 h => ?_)
    refine g_istore_n hk rfl (lv' := [(3, mI v4), (0, .ref (kB K + 30)), (1, .ref (kB K + o1)), (2, .ref (kB K + a2)), (4, mI x4)]) (Nat.le_of_ble_eq_true rfl) rfl dX0_follow_117 ?_
    refine g_iinc hk (lv' := [(4, mI (wI (x4 + 1))), (3, mI v4), (0, .ref (kB K + 30)), (1, .ref (kB K + o1)), (2, .ref (kB K + a2))]) 4 rfl (Nat.le_of_ble_eq_true rfl) rfl dX0_follow_118 ?_
    refine g_goto hk dX0_follow_121 ?_
    refine GoAt.sub [2, 3, 4, 1, 0] rfl ?_
    exact hrec _ _ _ _ _ _ hm ko1 ka2 cv4 (wI_c _) h
set_option maxRecDepth 100000 in
set_option maxHeartbeats 4000000 in
theorem w_Br_follow_B5 {K : zK} (hk : zOk K kdC cX0_follow 6 none RX0 2) {rec : Nat → Nat → Nat → Int → Int → zM → Option (zM)} {o1 : Nat} {a2 : Nat} {n2 : Nat} {x3 : Int} {x4 : Int} {m : zM} {o : zM} (hrec : ∀ (o1 : Nat) (a2 : Nat) (n2 : Nat) (x3 : Int) (x4 : Int) (m : zM), zG kdC m → kdC o1 = (0, 10) → kdC a2 = (1, n2) → cI x3 → cI x4 → rec o1 a2 n2 x3 x4 m = some o → GoAt K m [(0, .ref (kB K + 30)), (1, .ref (kB K + o1)), (2, .ref (kB K + a2)), (3, mI x3), (4, mI x4)] [] 5 (9, 0, o)) (hm : zG kdC m) (ko1 : kdC o1 = (0, 10)) (ka2 : kdC a2 = (1, n2)) (cx3 : cI x3) (cx4 : cI x4) (h : Br_follow_B5 rec o1 a2 n2 x3 x4 m = some o) : GoAt K m [(0, .ref (kB K + 30)), (1, .ref (kB K + o1)), (2, .ref (kB K + a2)), (3, mI x3), (4, mI x4)] [] 5 (9, 0, o) := by
  unfold Br_follow_B5 at h
  refine g_iload hk 4 rfl dX0_follow_5 ?_
  refine g_aload_n hk 1 rfl dX0_follow_7 ?_
  have g1 := zGI (i := 0) hm ko1 rfl
  refine g_get0 hk fl_X0_26 rfl (j := 0) rfl ko1 dX0_follow_8 ?_
  refine g_icmp_ge hk cx4 g1 dX0_follow_11 h (fun b2 h => ?_) (fun b2 h => ?_)
  · refine g_aload_n hk 0 rfl dX0_follow_14 ?_
    refine g_get2 hk fl_X0_9 rfl kdC_30 hm (b := 31) rfl dX0_follow_15 ?_
    refine g_iload hk 4 rfl dX0_follow_18 ?_
    refine g_iconst hk (v := (-1)) rfl dX0_follow_20 ?_
    refine g_iast hk cx4 (cIk rfl) kdC_31 hm dX0_follow_21 h (fun m3 hm h => ?_)
    refine g_iconst hk (v := 0) rfl dX0_follow_22 ?_
    refine g_istore hk (lv' := [(5, mI 0), (0, .ref (kB K + 30)), (1, .ref (kB K + o1)), (2, .ref (kB K + a2)), (3, mI x3), (4, mI x4)]) (Nat.le_of_ble_eq_true rfl) rfl dX0_follow_23 ?_
    refine GoAt.sub [1, 2, 3, 4, 5, 0] rfl ?_
    refine w_Br_follow_L25 hk (fun o1_4 a2_4 n2_4 x3_4 x4_4 m5 hm ko1_4 ka2_4 cx3_4 cx4_4 h => ?_) 1000000 _ _ _ _ _ _ _ hm ko1 ka2 cx3 cx4 (cIk rfl) h
    · exact w_Br_follow_b95 hk hrec hm ko1_4 ka2_4 cx3_4 cx4_4 h
  · exact g_return hk dX0_follow_124 (by cases h; rfl)
theorem w_Br_follow_L5 {K : zK} (hk : zOk K kdC cX0_follow 6 none RX0 2)  {o : zM}  : ∀ (n : Nat) (o1 : Nat) (a2 : Nat) (n2 : Nat) (x3 : Int) (x4 : Int) (m : zM), zG kdC m → kdC o1 = (0, 10) → kdC a2 = (1, n2) → cI x3 → cI x4 → Br_follow_L5 n o1 a2 n2 x3 x4 m = some o → GoAt K m [(0, .ref (kB K + 30)), (1, .ref (kB K + o1)), (2, .ref (kB K + a2)), (3, mI x3), (4, mI x4)] [] 5 (9, 0, o)
  | 0, o1, a2, n2, x3, x4, m, hm, ko1, ka2, cx3, cx4, h => by cases h
  | n + 1, o1, a2, n2, x3, x4, m, hm, ko1, ka2, cx3, cx4, h => w_Br_follow_B5 hk  (w_Br_follow_L5 hk  n) hm ko1 ka2 cx3 cx4 h
set_option maxRecDepth 100000 in
set_option maxHeartbeats 4000000 in
theorem w_Br_follow {K : zK} (hk : zOk K kdC cX0_follow 6 none RX0 2)  {o1 : Nat} {a2 : Nat} {n2 : Nat} {m : zM} {o : zM}  (hm : zG kdC m) (ko1 : kdC o1 = (0, 10)) (ka2 : kdC a2 = (1, n2)) (h : Br_follow o1 a2 n2 m = some o) : GoAt K m [(0, .ref (kB K + 30)), (1, .ref (kB K + o1)), (2, .ref (kB K + a2))] [] 0 (9, 0, o) := by
  unfold Br_follow at h
  refine g_iconst hk (v := 0) rfl dX0_follow_0 ?_
  refine g_istore_n hk rfl (lv' := [(3, mI 0), (0, .ref (kB K + 30)), (1, .ref (kB K + o1)), (2, .ref (kB K + a2))]) (Nat.le_of_ble_eq_true rfl) rfl dX0_follow_1 ?_
  refine g_iconst hk (v := 0) rfl dX0_follow_2 ?_
  refine g_istore hk (lv' := [(4, mI 0), (3, mI 0), (0, .ref (kB K + 30)), (1, .ref (kB K + o1)), (2, .ref (kB K + a2))]) (Nat.le_of_ble_eq_true rfl) rfl dX0_follow_3 ?_
  refine GoAt.sub [2, 3, 4, 1, 0] rfl ?_
  refine w_Br_follow_L5 hk  1000000 _ _ _ _ _ _ hm ko1 ka2 (cIk rfl) (cIk rfl) h
theorem met_Br_follow (l : Launch) (D : va_G) (aC : Nat → ClassId) (B N : Nat) (hwd : ∀ id, (kdC id).1 ≠ 9 → id < N) {o1 : Nat} {a2 : Nat} {n2 : Nat} {m : zM} {o : zM} (hm : zG kdC m) (ko1 : kdC o1 = (0, 10)) (ka2 : kdC a2 = (1, n2)) (h : Br_follow o1 a2 n2 m = some o) : zMet l yX0_follow cX0_follow 6 none 2 D aC B kdC N [.ref (B + 30), .ref (B + o1), .ref (B + a2)] m (9, 0, o) := by
  refine zMet.of mf_X0_follow hwd hm (Nat.le_of_ble_eq_true rfl) (fun K e1 e2 e3 e4 e5 hk => ?_)
  subst e4
  exact w_Br_follow hk hm ko1 ka2 h
set_option maxRecDepth 100000 in
set_option maxHeartbeats 4000000 in
theorem w_Br_find_B10 {K : zK} (hk : zOk K kdC cX0_find 6 none RX0 3) {k43 : Nat → Nat → Nat → Int → zM → Option (zM)} {rec : Nat → Nat → Nat → Int → Int → zM → Option (zM)} {o1 : Nat} {a2 : Nat} {n2 : Nat} {x3 : Int} {x4 : Int} {m : zM} {o : zM} (hk43 : ∀ (o1 : Nat) (a2 : Nat) (n2 : Nat) (x3 : Int) (m : zM), zG kdC m → kdC o1 = (0, 10) → kdC a2 = (1, n2) → cI x3 → k43 o1 a2 n2 x3 m = some o → GoAt K m [(0, .ref (kB K + 30)), (1, .ref (kB K + o1)), (2, .ref (kB K + a2)), (3, mI x3)] [] 43 (9, 0, o)) (hrec : ∀ (o1 : Nat) (a2 : Nat) (n2 : Nat) (x3 : Int) (x4 : Int) (m : zM), zG kdC m → kdC o1 = (0, 10) → kdC a2 = (1, n2) → cI x3 → cI x4 → rec o1 a2 n2 x3 x4 m = some o → GoAt K m [(0, .ref (kB K + 30)), (1, .ref (kB K + o1)), (2, .ref (kB K + a2)), (3, mI x3), (4, mI x4)] [] 10 (9, 0, o)) (hm : zG kdC m) (ko1 : kdC o1 = (0, 10)) (ka2 : kdC a2 = (1, n2)) (cx3 : cI x3) (cx4 : cI x4) (h : Br_find_B10 k43 rec o1 a2 n2 x3 x4 m = some o) : GoAt K m [(0, .ref (kB K + 30)), (1, .ref (kB K + o1)), (2, .ref (kB K + a2)), (3, mI x3), (4, mI x4)] [] 10 (9, 0, o) := by
  unfold Br_find_B10 at h
  refine g_iload hk 4 rfl dX0_find_10 ?_
  refine g_iload_n hk 3 rfl dX0_find_12 ?_
  refine g_icmp_ge hk cx4 cx3 dX0_find_13 h (fun b1 h => ?_) (fun b1 h => ?_)
  · refine g_iload hk 4 rfl dX0_find_16 ?_
    refine g_sipush hk (v := 256) rfl dX0_find_18 ?_
    refine g_icmp_ge hk cx4 (cIk rfl) dX0_find_21 h (fun b2 h => ?_) (fun b2 h => ?_)
    · refine g_aload_n hk 0 rfl dX0_find_24 ?_
      refine g_get2 hk fl_X0_17 rfl kdC_30 hm (b := 32) rfl dX0_find_25 ?_
      refine g_aload_n hk 1 rfl dX0_find_28 ?_
      have g3 := zGI (i := 0) hm ko1 rfl
      refine g_get0 hk fl_X0_26 rfl (j := 0) rfl ko1 dX0_find_29 ?_
      refine g_aald5 hk g3 kdC_32 hm dX0_find_32 h (fun q4 q5 h => ?_)
      refine g_iload hk 4 rfl dX0_find_33 ?_
      refine g_iconst hk (v := 0) rfl dX0_find_35 ?_
      refine g_iast hk cx4 (cIk rfl) (kdC_most q4 q5) hm dX0_find_36 h (fun m6 hm h => ?_)
      refine g_iinc hk (lv' := [(4, mI (wI (x4 + 1))), (0, .ref (kB K + 30)), (1, .ref (kB K + o1)), (2, .ref (kB K + a2)), (3, mI x3)]) 4 rfl (Nat.le_of_ble_eq_true rfl) rfl dX0_find_37 ?_
      refine g_goto hk dX0_find_40 ?_
      refine GoAt.sub [1, 2, 3, 4, 0] rfl ?_
      exact hrec _ _ _ _ _ _ hm ko1 ka2 cx3 (wI_c _) h
    · refine GoAt.sub [0, 1, 2, 3] rfl ?_
      exact hk43 _ _ _ _ _ hm ko1 ka2 cx3 h
  · refine GoAt.sub [0, 1, 2, 3] rfl ?_
    exact hk43 _ _ _ _ _ hm ko1 ka2 cx3 h
theorem w_Br_find_L10 {K : zK} (hk : zOk K kdC cX0_find 6 none RX0 3) {k43 : Nat → Nat → Nat → Int → zM → Option (zM)} {o : zM} (hk43 : ∀ (o1 : Nat) (a2 : Nat) (n2 : Nat) (x3 : Int) (m : zM), zG kdC m → kdC o1 = (0, 10) → kdC a2 = (1, n2) → cI x3 → k43 o1 a2 n2 x3 m = some o → GoAt K m [(0, .ref (kB K + 30)), (1, .ref (kB K + o1)), (2, .ref (kB K + a2)), (3, mI x3)] [] 43 (9, 0, o)) : ∀ (n : Nat) (o1 : Nat) (a2 : Nat) (n2 : Nat) (x3 : Int) (x4 : Int) (m : zM), zG kdC m → kdC o1 = (0, 10) → kdC a2 = (1, n2) → cI x3 → cI x4 → Br_find_L10 k43 n o1 a2 n2 x3 x4 m = some o → GoAt K m [(0, .ref (kB K + 30)), (1, .ref (kB K + o1)), (2, .ref (kB K + a2)), (3, mI x3), (4, mI x4)] [] 10 (9, 0, o)
  | 0, o1, a2, n2, x3, x4, m, hm, ko1, ka2, cx3, cx4, h => by cases h
  | n + 1, o1, a2, n2, x3, x4, m, hm, ko1, ka2, cx3, cx4, h => w_Br_find_B10 hk hk43 (w_Br_find_L10 hk hk43 n) hm ko1 ka2 cx3 cx4 h
set_option maxRecDepth 100000 in
set_option maxHeartbeats 4000000 in
theorem w_Br_find_B59 {K : zK} (hk : zOk K kdC cX0_find 6 none RX0 3) {k99 : Nat → Nat → Nat → Int → Int → zM → Option (zM)} {rec : Nat → Nat → Nat → Int → Int → Int → zM → Option (zM)} {o1 : Nat} {a2 : Nat} {n2 : Nat} {x3 : Int} {x4 : Int} {x5 : Int} {m : zM} {o : zM} (hk99 : ∀ (o1 : Nat) (a2 : Nat) (n2 : Nat) (x3 : Int) (x4 : Int) (m : zM), zG kdC m → kdC o1 = (0, 10) → kdC a2 = (1, n2) → cI x3 → cI x4 → k99 o1 a2 n2 x3 x4 m = some o → GoAt K m [(0, .ref (kB K + 30)), (1, .ref (kB K + o1)), (2, .ref (kB K + a2)), (3, mI x3), (4, mI x4)] [] 99 (9, 0, o)) (hrec : ∀ (o1 : Nat) (a2 : Nat) (n2 : Nat) (x3 : Int) (x4 : Int) (x5 : Int) (m : zM), zG kdC m → kdC o1 = (0, 10) → kdC a2 = (1, n2) → cI x3 → cI x4 → cI x5 → rec o1 a2 n2 x3 x4 x5 m = some o → GoAt K m [(0, .ref (kB K + 30)), (1, .ref (kB K + o1)), (2, .ref (kB K + a2)), (3, mI x3), (4, mI x4), (5, mI x5)] [] 59 (9, 0, o)) (hm : zG kdC m) (ko1 : kdC o1 = (0, 10)) (ka2 : kdC a2 = (1, n2)) (cx3 : cI x3) (cx4 : cI x4) (cx5 : cI x5) (h : Br_find_B59 k99 rec o1 a2 n2 x3 x4 x5 m = some o) : GoAt K m [(0, .ref (kB K + 30)), (1, .ref (kB K + o1)), (2, .ref (kB K + a2)), (3, mI x3), (4, mI x4), (5, mI x5)] [] 59 (9, 0, o) := by
  unfold Br_find_B59 at h
  refine g_iload hk 5 rfl dX0_find_59 ?_
  refine g_iload_n hk 3 rfl dX0_find_61 ?_
  refine g_icmp_ge hk cx5 cx3 dX0_find_62 h (fun b1 h => ?_) (fun b1 h => ?_)
  · refine g_iload hk 5 rfl dX0_find_65 ?_
    refine g_sipush hk (v := 256) rfl dX0_find_67 ?_
    refine g_icmp_ge hk cx5 (cIk rfl) dX0_find_70 h (fun b2 h => ?_) (fun b2 h => ?_)
    · refine g_aload_n hk 0 rfl dX0_find_73 ?_
      refine g_get2 hk fl_X0_17 rfl kdC_30 hm (b := 32) rfl dX0_find_74 ?_
      refine g_iload hk 4 rfl dX0_find_77 ?_
      refine g_aald5 hk cx4 kdC_32 hm dX0_find_79 h (fun q3 q4 h => ?_)
      refine g_iload hk 5 rfl dX0_find_80 ?_
      refine g_aload_n hk 0 rfl dX0_find_82 ?_
      refine g_aload_n hk 1 rfl dX0_find_83 ?_
      refine g_aload_n hk 2 rfl dX0_find_84 ?_
      refine g_iload hk 4 rfl dX0_find_85 ?_
      refine g_iload hk 5 rfl dX0_find_87 ?_
      obtain ⟨r5, e6, h⟩ := zbind h
      refine g_callVi hk (st := [mI x5, .ref (kB K + (32 + 1 + Int.toNat x4))]) mf_X0_mostFrom lk_X0_29 mv_X0_mostFrom kdC_30 (by decide) rfl (Nat.le_of_ble_eq_true rfl) rfl dX0_find_89 (met_Br_mostFrom _ _ _ _ _ hk.wd hm ko1 ka2 cx4 cx5 e6) (fun hm c7 => ?_)
      refine g_iast hk cx5 c7 (kdC_most q3 q4) hm dX0_find_92 h (fun m8 hm h => ?_)
      refine g_iinc hk (lv' := [(5, mI (wI (x5 + 1))), (0, .ref (kB K + 30)), (1, .ref (kB K + o1)), (2, .ref (kB K + a2)), (3, mI x3), (4, mI x4)]) 5 rfl (Nat.le_of_ble_eq_true rfl) rfl dX0_find_93 ?_
      refine g_goto hk dX0_find_96 ?_
      refine GoAt.sub [1, 2, 3, 4, 5, 0] rfl ?_
      exact hrec _ _ _ _ _ _ _ hm ko1 ka2 cx3 cx4 (wI_c _) h
    · refine GoAt.sub [0, 1, 2, 3, 4] rfl ?_
      exact hk99 _ _ _ _ _ _ hm ko1 ka2 cx3 cx4 h
  · refine GoAt.sub [0, 1, 2, 3, 4] rfl ?_
    exact hk99 _ _ _ _ _ _ hm ko1 ka2 cx3 cx4 h
theorem w_Br_find_L59 {K : zK} (hk : zOk K kdC cX0_find 6 none RX0 3) {k99 : Nat → Nat → Nat → Int → Int → zM → Option (zM)} {o : zM} (hk99 : ∀ (o1 : Nat) (a2 : Nat) (n2 : Nat) (x3 : Int) (x4 : Int) (m : zM), zG kdC m → kdC o1 = (0, 10) → kdC a2 = (1, n2) → cI x3 → cI x4 → k99 o1 a2 n2 x3 x4 m = some o → GoAt K m [(0, .ref (kB K + 30)), (1, .ref (kB K + o1)), (2, .ref (kB K + a2)), (3, mI x3), (4, mI x4)] [] 99 (9, 0, o)) : ∀ (n : Nat) (o1 : Nat) (a2 : Nat) (n2 : Nat) (x3 : Int) (x4 : Int) (x5 : Int) (m : zM), zG kdC m → kdC o1 = (0, 10) → kdC a2 = (1, n2) → cI x3 → cI x4 → cI x5 → Br_find_L59 k99 n o1 a2 n2 x3 x4 x5 m = some o → GoAt K m [(0, .ref (kB K + 30)), (1, .ref (kB K + o1)), (2, .ref (kB K + a2)), (3, mI x3), (4, mI x4), (5, mI x5)] [] 59 (9, 0, o)
  | 0, o1, a2, n2, x3, x4, x5, m, hm, ko1, ka2, cx3, cx4, cx5, h => by cases h
  | n + 1, o1, a2, n2, x3, x4, x5, m, hm, ko1, ka2, cx3, cx4, cx5, h => w_Br_find_B59 hk hk99 (w_Br_find_L59 hk hk99 n) hm ko1 ka2 cx3 cx4 cx5 h
set_option maxRecDepth 100000 in
set_option maxHeartbeats 4000000 in
theorem w_Br_find_B51 {K : zK} (hk : zOk K kdC cX0_find 6 none RX0 3) {k105 : Nat → Nat → Nat → zM → Option (zM)} {rec : Nat → Nat → Nat → Int → Int → zM → Option (zM)} {o1 : Nat} {a2 : Nat} {n2 : Nat} {x3 : Int} {x4 : Int} {m : zM} {o : zM} (hk105 : ∀ (o1 : Nat) (a2 : Nat) (n2 : Nat) (m : zM), zG kdC m → kdC o1 = (0, 10) → kdC a2 = (1, n2) → k105 o1 a2 n2 m = some o → GoAt K m [(0, .ref (kB K + 30)), (1, .ref (kB K + o1)), (2, .ref (kB K + a2))] [] 105 (9, 0, o)) (hrec : ∀ (o1 : Nat) (a2 : Nat) (n2 : Nat) (x3 : Int) (x4 : Int) (m : zM), zG kdC m → kdC o1 = (0, 10) → kdC a2 = (1, n2) → cI x3 → cI x4 → rec o1 a2 n2 x3 x4 m = some o → GoAt K m [(0, .ref (kB K + 30)), (1, .ref (kB K + o1)), (2, .ref (kB K + a2)), (3, mI x3), (4, mI x4)] [] 51 (9, 0, o)) (hm : zG kdC m) (ko1 : kdC o1 = (0, 10)) (ka2 : kdC a2 = (1, n2)) (cx3 : cI x3) (cx4 : cI x4) (h : Br_find_B51 k105 rec o1 a2 n2 x3 x4 m = some o) : GoAt K m [(0, .ref (kB K + 30)), (1, .ref (kB K + o1)), (2, .ref (kB K + a2)), (3, mI x3), (4, mI x4)] [] 51 (9, 0, o) := by
  unfold Br_find_B51 at h
  refine g_iload hk 4 rfl dX0_find_51 ?_
  refine g_if_lt hk cx4 dX0_find_53 h (fun b1 h => ?_) (fun b1 h => ?_)
  · refine GoAt.sub [0, 1, 2] rfl ?_
    exact hk105 _ _ _ _ hm ko1 ka2 h
  · refine g_iconst hk (v := 0) rfl dX0_find_56 ?_
    refine g_istore hk (lv' := [(5, mI 0), (0, .ref (kB K + 30)), (1, .ref (kB K + o1)), (2, .ref (kB K + a2)), (3, mI x3), (4, mI x4)]) (Nat.le_of_ble_eq_true rfl) rfl dX0_find_57 ?_
    refine GoAt.sub [1, 2, 3, 4, 5, 0] rfl ?_
    refine w_Br_find_L59 hk (fun o1_2 a2_2 n2_2 x3_2 x4_2 m3 hm ko1_2 ka2_2 cx3_2 cx4_2 h => ?_) 1000000 _ _ _ _ _ _ _ hm ko1 ka2 cx3 cx4 (cIk rfl) h
    · refine g_iinc hk (lv' := [(4, mI (wI (x4_2 + (-1)))), (0, .ref (kB K + 30)), (1, .ref (kB K + o1_2)), (2, .ref (kB K + a2_2)), (3, mI x3_2)]) 4 rfl (Nat.le_of_ble_eq_true rfl) rfl dX0_find_99 ?_
      refine g_goto hk dX0_find_102 ?_
      refine GoAt.sub [1, 2, 3, 4, 0] rfl ?_
      exact hrec _ _ _ _ _ _ hm ko1_2 ka2_2 cx3_2 (wI_c _) h
theorem w_Br_find_L51 {K : zK} (hk : zOk K kdC cX0_find 6 none RX0 3) {k105 : Nat → Nat → Nat → zM → Option (zM)} {o : zM} (hk105 : ∀ (o1 : Nat) (a2 : Nat) (n2 : Nat) (m : zM), zG kdC m → kdC o1 = (0, 10) → kdC a2 = (1, n2) → k105 o1 a2 n2 m = some o → GoAt K m [(0, .ref (kB K + 30)), (1, .ref (kB K + o1)), (2, .ref (kB K + a2))] [] 105 (9, 0, o)) : ∀ (n : Nat) (o1 : Nat) (a2 : Nat) (n2 : Nat) (x3 : Int) (x4 : Int) (m : zM), zG kdC m → kdC o1 = (0, 10) → kdC a2 = (1, n2) → cI x3 → cI x4 → Br_find_L51 k105 n o1 a2 n2 x3 x4 m = some o → GoAt K m [(0, .ref (kB K + 30)), (1, .ref (kB K + o1)), (2, .ref (kB K + a2)), (3, mI x3), (4, mI x4)] [] 51 (9, 0, o)
  | 0, o1, a2, n2, x3, x4, m, hm, ko1, ka2, cx3, cx4, h => by cases h
  | n + 1, o1, a2, n2, x3, x4, m, hm, ko1, ka2, cx3, cx4, h => w_Br_find_B51 hk hk105 (w_Br_find_L51 hk hk105 n) hm ko1 ka2 cx3 cx4 h
set_option maxRecDepth 100000 in
set_option maxHeartbeats 4000000 in
theorem w_Br_find_b43 {K : zK} (hk : zOk K kdC cX0_find 6 none RX0 3)  {o1 : Nat} {a2 : Nat} {n2 : Nat} {x3 : Int} {m : zM} {o : zM}  (hm : zG kdC m) (ko1 : kdC o1 = (0, 10)) (ka2 : kdC a2 = (1, n2)) (cx3 : cI x3) (h : Br_find_b43 o1 a2 n2 x3 m = some o) : GoAt K m [(0, .ref (kB K + 30)), (1, .ref (kB K + o1)), (2, .ref (kB K + a2)), (3, mI x3)] [] 43 (9, 0, o) := by
  unfold Br_find_b43 at h
  refine g_aload_n hk 1 rfl dX0_find_43 ?_
  have g1 := zGI (i := 0) hm ko1 rfl
  refine g_get0 hk fl_X0_26 rfl (j := 0) rfl ko1 dX0_find_44 ?_
  refine g_iconst hk (v := 1) rfl dX0_find_47 ?_
  refine g_isub hk dX0_find_48 ?_
  refine g_let (wI_c _) h (fun v2 cv2 h => ?_)
  refine g_istore hk (lv' := [(4, mI v2), (0, .ref (kB K + 30)), (1, .ref (kB K + o1)), (2, .ref (kB K + a2)), (3, mI x3)]) (Nat.le_of_ble_eq_true rfl) rfl dX0_find_49 ?_
  refine GoAt.sub [1, 2, 3, 4, 0] rfl ?_
  refine w_Br_find_L51 hk (fun o1_3 a2_3 n2_3 m4 hm ko1_3 ka2_3 h => ?_) 1000000 _ _ _ _ _ _ hm ko1 ka2 cx3 cv2 h
  · refine g_aload_n hk 0 rfl dX0_find_105 ?_
    refine g_aload_n hk 0 rfl dX0_find_106 ?_
    refine g_get2 hk fl_X0_17 rfl kdC_30 hm (b := 32) rfl dX0_find_107 ?_
    refine g_iconst hk (v := 0) rfl dX0_find_110 ?_
    refine g_aald5 hk (cIk rfl) kdC_32 hm dX0_find_111 h (fun q5 q6 h => ?_)
    refine g_iconst hk (v := 0) rfl dX0_find_112 ?_
    refine g_iald hk (cIk rfl) (kdC_most q5 q6) hm dX0_find_113 h (fun y7 cy7 h => ?_)
    refine g_put0 hk fp_X0_33 rfl (j := 0) rfl kdC_30 cy7 dX0_find_114 h hm (fun m8 hm h => ?_)
    refine g_aload_n hk 0 rfl dX0_find_117 ?_
    refine g_aload_n hk 1 rfl dX0_find_118 ?_
    refine g_aload_n hk 2 rfl dX0_find_119 ?_
    obtain ⟨r9, e10, h⟩ := zbind h
    refine g_callVv hk (st := []) mf_X0_follow lk_X0_36 mv_X0_follow kdC_30 (by decide) rfl (Nat.le_of_ble_eq_true rfl) rfl dX0_find_120 (met_Br_follow _ _ _ _ _ hk.wd hm ko1_3 ka2_3 e10) (fun hm => ?_)
    exact g_return hk dX0_find_123 (by cases h; rfl)
set_option maxRecDepth 100000 in
set_option maxHeartbeats 4000000 in
theorem w_Br_find {K : zK} (hk : zOk K kdC cX0_find 6 none RX0 3)  {o1 : Nat} {a2 : Nat} {n2 : Nat} {m : zM} {o : zM}  (hm : zG kdC m) (ko1 : kdC o1 = (0, 10)) (ka2 : kdC a2 = (1, n2)) (h : Br_find o1 a2 n2 m = some o) : GoAt K m [(0, .ref (kB K + 30)), (1, .ref (kB K + o1)), (2, .ref (kB K + a2))] [] 0 (9, 0, o) := by
  unfold Br_find at h
  refine g_iconst hk (v := 1) rfl dX0_find_0 ?_
  refine g_aload_n hk 1 rfl dX0_find_1 ?_
  have g1 := zGI (i := 1) hm ko1 rfl
  refine g_get0 hk fl_X0_20 rfl (j := 1) rfl ko1 dX0_find_2 ?_
  refine g_ishl hk dX0_find_5 ?_
  refine g_let (cI_t _) h (fun v2 cv2 h => ?_)
  refine g_istore_n hk rfl (lv' := [(3, mI v2), (0, .ref (kB K + 30)), (1, .ref (kB K + o1)), (2, .ref (kB K + a2))]) (Nat.le_of_ble_eq_true rfl) rfl dX0_find_6 ?_
  refine g_iconst hk (v := 0) rfl dX0_find_7 ?_
  refine g_istore hk (lv' := [(4, mI 0), (3, mI v2), (0, .ref (kB K + 30)), (1, .ref (kB K + o1)), (2, .ref (kB K + a2))]) (Nat.le_of_ble_eq_true rfl) rfl dX0_find_8 ?_
  refine GoAt.sub [2, 3, 4, 1, 0] rfl ?_
  refine w_Br_find_L10 hk (fun o1_3 a2_3 n2_3 x3_3 m4 hm ko1_3 ka2_3 cx3_3 h => ?_) 1000000 _ _ _ _ _ _ hm ko1 ka2 cv2 (cIk rfl) h
  · exact w_Br_find_b43 hk hm ko1_3 ka2_3 cx3_3 h
theorem met_Br_find (l : Launch) (D : va_G) (aC : Nat → ClassId) (B N : Nat) (hwd : ∀ id, (kdC id).1 ≠ 9 → id < N) {o1 : Nat} {a2 : Nat} {n2 : Nat} {m : zM} {o : zM} (hm : zG kdC m) (ko1 : kdC o1 = (0, 10)) (ka2 : kdC a2 = (1, n2)) (h : Br_find o1 a2 n2 m = some o) : zMet l yX0_find cX0_find 6 none 3 D aC B kdC N [.ref (B + 30), .ref (B + o1), .ref (B + a2)] m (9, 0, o) := by
  refine zMet.of mf_X0_find hwd hm (Nat.le_of_ble_eq_true rfl) (fun K e1 e2 e3 e4 e5 hk => ?_)
  subst e4
  exact w_Br_find hk hm ko1 ka2 h
set_option maxRecDepth 100000 in
set_option maxHeartbeats 4000000 in
theorem w_C_bring_b18 {K : zK} (hk : zOk K kdC cX11_bring 2 (some .int) RX11 6)  {x1 : Int} {m : zM} {o : Int × zM}  (hm : zG kdC m) (cx1 : cI x1) (h : C_bring_b18 x1 m = some o) : GoAt K m [(0, .ref (kB K + 0)), (1, mI x1)] [] 18 (0, o.1, o.2) := by
  unfold C_bring_b18 at h
  refine g_aload_n hk 0 rfl dX11_bring_18 ?_
  refine g_get2 hk fl_X11_38 rfl kdC_0 hm (b := 25) rfl dX11_bring_19 ?_
  refine g_aload_n hk 0 rfl dX11_bring_22 ?_
  refine g_get3o hk fl_X11_84 rfl (j := 12) rfl kdC_0 dX11_bring_23 h (fun zz1 kzz1 h => ?_)
  refine g_aload_n hk 0 rfl dX11_bring_26 ?_
  refine g_get2 hk fl_X11_24 rfl kdC_0 hm (b := 8) rfl dX11_bring_27 ?_
  obtain ⟨r2, e3, h⟩ := zbind h
  refine g_callVv hk (st := []) mf_X4_weigh lk_X11_234 mv_X4_weigh kdC_25 (by decide) rfl (Nat.le_of_ble_eq_true rfl) rfl dX11_bring_30 (met_Ke_weigh _ _ _ _ _ hk.wd hm kzz1 kdC_8 e3) (fun hm => ?_)
  refine g_aload_n hk 0 rfl dX11_bring_33 ?_
  refine g_get2 hk fl_X11_45 rfl kdC_0 hm (b := 30) rfl dX11_bring_34 ?_
  refine g_aload_n hk 0 rfl dX11_bring_37 ?_
  refine g_get3o hk fl_X11_84 rfl (j := 12) rfl kdC_0 dX11_bring_38 h (fun zz5 kzz5 h => ?_)
  refine g_aload_n hk 0 rfl dX11_bring_41 ?_
  refine g_get2 hk fl_X11_38 rfl kdC_0 hm (b := 25) rfl dX11_bring_42 ?_
  refine g_get2 hk fl_X11_255 rfl kdC_25 hm (b := 26) rfl dX11_bring_45 ?_
  obtain ⟨r6, e7, h⟩ := zbind h
  refine g_callVv hk (st := []) mf_X0_find lk_X11_258 mv_X0_find kdC_30 (by decide) rfl (Nat.le_of_ble_eq_true rfl) rfl dX11_bring_48 (met_Br_find _ _ _ _ _ hk.wd hm kzz5 kdC_26 e7) (fun hm => ?_)
  refine g_iload_n hk 1 rfl dX11_bring_51 ?_
  refine g_iconst hk (v := (-1)) rfl dX11_bring_52 ?_
  refine g_icmp_ne hk cx1 (cIk rfl) dX11_bring_53 h (fun b9 h => ?_) (fun b9 h => ?_)
  · refine g_aload_n hk 0 rfl dX11_bring_56 ?_
    refine g_get2 hk fl_X11_45 rfl kdC_0 hm (b := 30) rfl dX11_bring_57 ?_
    have g10 := zGI (i := 0) hm kdC_30 rfl
    refine g_get0 hk fl_X11_262 rfl (j := 0) rfl kdC_30 dX11_bring_60 ?_
    refine g_goto hk dX11_bring_63 ?_
    exact g_ireturn hk g10 dX11_bring_75 (by cases h; rfl)
  · refine g_aload_n hk 0 rfl dX11_bring_66 ?_
    refine g_get2 hk fl_X11_45 rfl kdC_0 hm (b := 30) rfl dX11_bring_67 ?_
    refine g_get2 hk fl_X11_265 rfl kdC_30 hm (b := 31) rfl dX11_bring_70 ?_
    refine g_iload_n hk 1 rfl dX11_bring_73 ?_
    refine g_iald hk cx1 kdC_31 hm dX11_bring_74 h (fun y11 cy11 h => ?_)
    exact g_ireturn hk cy11 dX11_bring_75 (by cases h; rfl)
set_option maxRecDepth 100000 in
set_option maxHeartbeats 4000000 in
theorem w_C_bring {K : zK} (hk : zOk K kdC cX11_bring 2 (some .int) RX11 6)  {x1 : Int} {m : zM} {o : Int × zM}  (hm : zG kdC m) (cx1 : cI x1) (h : C_bring x1 m = some o) : GoAt K m [(0, .ref (kB K + 0)), (1, mI x1)] [] 0 (0, o.1, o.2) := by
  unfold C_bring at h
  refine g_iload_n hk 1 rfl dX11_bring_0 ?_
  refine g_iconst hk (v := (-1)) rfl dX11_bring_1 ?_
  refine g_icmp_eq hk cx1 (cIk rfl) dX11_bring_2 h (fun b1 h => ?_) (fun b1 h => ?_)
  · exact w_C_bring_b18 hk hm cx1 h
  · refine g_aload_n hk 0 rfl dX11_bring_5 ?_
    refine g_get3o hk fl_X11_84 rfl (j := 12) rfl kdC_0 dX11_bring_6 h (fun zz2 kzz2 h => ?_)
    refine g_iload_n hk 1 rfl dX11_bring_9 ?_
    obtain ⟨r3, e4, h⟩ := zbind h
    refine g_callVz hk (st := []) mf_X10_isBeast lk_X11_156 mv_X10_isBeast kzz2 (by decide) rfl (Nat.le_of_ble_eq_true rfl) rfl dX11_bring_10 (met_Zo_isBeast _ _ _ _ _ hk.wd hm kzz2 cx1 e4) (fun hm c5 => ?_)
    refine g_if_ne hk (b01 c5) dX11_bring_13 h (fun b6 h => ?_) (fun b6 h => ?_)
    · refine g_iconst hk (v := (-1)) rfl dX11_bring_16 ?_
      exact g_ireturn hk (cIk rfl) dX11_bring_17 (by cases h; rfl)
    · exact w_C_bring_b18 hk hm cx1 h
theorem met_C_bring (l : Launch) (D : va_G) (aC : Nat → ClassId) (B N : Nat) (hwd : ∀ id, (kdC id).1 ≠ 9 → id < N) {x1 : Int} {m : zM} {o : Int × zM} (hm : zG kdC m) (cx1 : cI x1) (h : C_bring x1 m = some o) : zMet l yX11_bring cX11_bring 2 (some .int) 6 D aC B kdC N [.ref (B + 0), mI x1] m (0, o.1, o.2) := by
  refine zMet.of mf_X11_bring hwd hm (Nat.le_of_ble_eq_true rfl) (fun K e1 e2 e3 e4 e5 hk => ?_)
  subst e4
  exact w_C_bring hk hm cx1 h
set_option maxRecDepth 100000 in
set_option maxHeartbeats 4000000 in
theorem w_Ke_findDress_B3 {K : zK} (hk : zOk K kdC cX4_findDress 11 none RX4 6) {k23 : Nat → Nat → Int → Int → zM → Option (zM)} {rec : Nat → Nat → Int → Int → Int → zM → Option (zM)} {o1 : Nat} {o2 : Nat} {x3 : Int} {x4 : Int} {x5 : Int} {m : zM} {o : zM} (hk23 : ∀ (o1 : Nat) (o2 : Nat) (x3 : Int) (x4 : Int) (m : zM), zG kdC m → kdC o1 = (0, 10) → kdC o2 = (0, 7) → cI x3 → cI x4 → k23 o1 o2 x3 x4 m = some o → GoAt K m [(0, .ref (kB K + 25)), (1, .ref (kB K + o1)), (2, .ref (kB K + o2)), (3, mI x3), (4, mI x4)] [] 23 (9, 0, o)) (hrec : ∀ (o1 : Nat) (o2 : Nat) (x3 : Int) (x4 : Int) (x5 : Int) (m : zM), zG kdC m → kdC o1 = (0, 10) → kdC o2 = (0, 7) → cI x3 → cI x4 → cI x5 → rec o1 o2 x3 x4 x5 m = some o → GoAt K m [(0, .ref (kB K + 25)), (1, .ref (kB K + o1)), (2, .ref (kB K + o2)), (3, mI x3), (4, mI x4), (5, mI x5)] [] 3 (9, 0, o)) (hm : zG kdC m) (ko1 : kdC o1 = (0, 10)) (ko2 : kdC o2 = (0, 7)) (cx3 : cI x3) (cx4 : cI x4) (cx5 : cI x5) (h : Ke_findDress_B3 k23 rec o1 o2 x3 x4 x5 m = some o) : GoAt K m [(0, .ref (kB K + 25)), (1, .ref (kB K + o1)), (2, .ref (kB K + o2)), (3, mI x3), (4, mI x4), (5, mI x5)] [] 3 (9, 0, o) := by
  unfold Ke_findDress_B3 at h
  refine g_iload hk 5 rfl dX4_findDress_3 ?_
  refine g_iconst hk (v := 3) rfl dX4_findDress_5 ?_
  refine g_icmp_gt hk cx5 (cIk rfl) dX4_findDress_6 h (fun b1 h => ?_) (fun b1 h => ?_)
  · refine GoAt.sub [0, 1, 2, 3, 4] rfl ?_
    exact hk23 _ _ _ _ _ hm ko1 ko2 cx3 cx4 h
  · refine g_aload_n hk 0 rfl dX4_findDress_9 ?_
    refine g_get2 hk fl_X4_18 rfl kdC_25 hm (b := 28) rfl dX4_findDress_10 ?_
    refine g_iload hk 5 rfl dX4_findDress_13 ?_
    refine g_iconst hk (v := (-1)) rfl dX4_findDress_15 ?_
    refine g_iast hk cx5 (cIk rfl) kdC_28 hm dX4_findDress_16 h (fun m2 hm h => ?_)
    refine g_iinc hk (lv' := [(5, mI (wI (x5 + 1))), (0, .ref (kB K + 25)), (1, .ref (kB K + o1)), (2, .ref (kB K + o2)), (3, mI x3), (4, mI x4)]) 5 rfl (Nat.le_of_ble_eq_true rfl) rfl dX4_findDress_17 ?_
    refine g_goto hk dX4_findDress_20 ?_
    refine GoAt.sub [1, 2, 3, 4, 5, 0] rfl ?_
    exact hrec _ _ _ _ _ _ hm ko1 ko2 cx3 cx4 (wI_c _) h
theorem w_Ke_findDress_L3 {K : zK} (hk : zOk K kdC cX4_findDress 11 none RX4 6) {k23 : Nat → Nat → Int → Int → zM → Option (zM)} {o : zM} (hk23 : ∀ (o1 : Nat) (o2 : Nat) (x3 : Int) (x4 : Int) (m : zM), zG kdC m → kdC o1 = (0, 10) → kdC o2 = (0, 7) → cI x3 → cI x4 → k23 o1 o2 x3 x4 m = some o → GoAt K m [(0, .ref (kB K + 25)), (1, .ref (kB K + o1)), (2, .ref (kB K + o2)), (3, mI x3), (4, mI x4)] [] 23 (9, 0, o)) : ∀ (n : Nat) (o1 : Nat) (o2 : Nat) (x3 : Int) (x4 : Int) (x5 : Int) (m : zM), zG kdC m → kdC o1 = (0, 10) → kdC o2 = (0, 7) → cI x3 → cI x4 → cI x5 → Ke_findDress_L3 k23 n o1 o2 x3 x4 x5 m = some o → GoAt K m [(0, .ref (kB K + 25)), (1, .ref (kB K + o1)), (2, .ref (kB K + o2)), (3, mI x3), (4, mI x4), (5, mI x5)] [] 3 (9, 0, o)
  | 0, o1, o2, x3, x4, x5, m, hm, ko1, ko2, cx3, cx4, cx5, h => by cases h
  | n + 1, o1, o2, x3, x4, x5, m, hm, ko1, ko2, cx3, cx4, cx5, h => w_Ke_findDress_B3 hk hk23 (w_Ke_findDress_L3 hk hk23 n) hm ko1 ko2 cx3 cx4 cx5 h
set_option maxRecDepth 100000 in
set_option maxHeartbeats 4000000 in
theorem w_Ke_findDress_b149 {K : zK} (hk : zOk K kdC cX4_findDress 11 none RX4 6) {rec : Nat → Nat → Int → Int → Int → Int → Int → Int → Int → zM → Option (zM)} {o1 : Nat} {o2 : Nat} {x3 : Int} {x4 : Int} {x5 : Int} {x6 : Int} {x7 : Int} {x8 : Int} {x9 : Int} {x10 : Int} {m : zM} {o : zM} (hrec : ∀ (o1 : Nat) (o2 : Nat) (x3 : Int) (x4 : Int) (x5 : Int) (x6 : Int) (x7 : Int) (x8 : Int) (x9 : Int) (m : zM), zG kdC m → kdC o1 = (0, 10) → kdC o2 = (0, 7) → cI x3 → cI x4 → cI x5 → cI x6 → cI x7 → cI x8 → cI x9 → rec o1 o2 x3 x4 x5 x6 x7 x8 x9 m = some o → GoAt K m [(0, .ref (kB K + 25)), (1, .ref (kB K + o1)), (2, .ref (kB K + o2)), (3, mI x3), (4, mI x4), (5, mI x5), (6, mI x6), (7, mI x7), (8, mI x8), (9, mI x9)] [] 80 (9, 0, o)) (hm : zG kdC m) (ko1 : kdC o1 = (0, 10)) (ko2 : kdC o2 = (0, 7)) (cx3 : cI x3) (cx4 : cI x4) (cx5 : cI x5) (cx6 : cI x6) (cx7 : cI x7) (cx8 : cI x8) (cx9 : cI x9) (cx10 : cI x10) (h : Ke_findDress_b149 rec o1 o2 x3 x4 x5 x6 x7 x8 x9 x10 m = some o) : GoAt K m [(0, .ref (kB K + 25)), (1, .ref (kB K + o1)), (2, .ref (kB K + o2)), (3, mI x3), (4, mI x4), (5, mI x5), (6, mI x6), (7, mI x7), (8, mI x8), (9, mI x9), (10, mI x10)] [] 149 (9, 0, o) := by
  unfold Ke_findDress_b149 at h
  refine g_aload_n hk 2 rfl dX4_findDress_149 ?_
  refine g_get2 hk fl_X4_68 rfl ko2 hm (b := o2 + 1) rfl dX4_findDress_150 ?_
  refine g_iload hk 5 rfl dX4_findDress_153 ?_
  refine g_iload hk 9 rfl dX4_findDress_155 ?_
  refine g_bipush hk (v := 100) rfl dX4_findDress_157 ?_
  refine g_idiv hk (cIk rfl) (by decide) dX4_findDress_159 ?_
  refine g_iload hk 9 rfl dX4_findDress_160 ?_
  refine g_bipush hk (v := 10) rfl dX4_findDress_162 ?_
  refine g_idiv hk (cIk rfl) (by decide) dX4_findDress_164 ?_
  refine g_bipush hk (v := 10) rfl dX4_findDress_165 ?_
  refine g_irem hk (cIk rfl) (by decide) dX4_findDress_167 ?_
  refine g_iload hk 9 rfl dX4_findDress_168 ?_
  refine g_bipush hk (v := 10) rfl dX4_findDress_170 ?_
  refine g_irem hk (cIk rfl) (by decide) dX4_findDress_172 ?_
  obtain ⟨r1, e2, h⟩ := zbind h
  refine g_callNv hk (st := []) mf_X11_setTriple lk_X4_165 ms_X11_setTriple (by decide) rfl (Nat.le_of_ble_eq_true rfl) rfl dX4_findDress_173 (met_C_setTriple _ _ _ _ _ hk.wd hm (kdC_s7_3 ko2) cx5 (cI_t _) (cI_t _) (cI_t _) e2) (fun hm => ?_)
  refine g_aload_n hk 0 rfl dX4_findDress_176 ?_
  refine g_aload_n hk 1 rfl dX4_findDress_177 ?_
  refine g_aload_n hk 2 rfl dX4_findDress_178 ?_
  refine g_iload_n hk 3 rfl dX4_findDress_179 ?_
  obtain ⟨r4, e5, h⟩ := zbind h
  refine g_callVv hk (st := []) mf_X4_weighGuest lk_X4_93 mv_X4_weighGuest kdC_25 (by decide) rfl (Nat.le_of_ble_eq_true rfl) rfl dX4_findDress_180 (met_Ke_weighGuest _ _ _ _ _ hk.wd hm ko1 ko2 cx3 e5) (fun hm => ?_)
  refine g_aload_n hk 0 rfl dX4_findDress_183 ?_
  refine g_aload_n hk 1 rfl dX4_findDress_184 ?_
  refine g_aload_n hk 2 rfl dX4_findDress_185 ?_
  refine g_iload hk 4 rfl dX4_findDress_186 ?_
  refine g_iconst hk (v := 1) rfl dX4_findDress_188 ?_
  refine g_iadd hk dX4_findDress_189 ?_
  obtain ⟨r7, e8, h⟩ := zbind h
  refine g_callVv hk (st := []) mf_X4_choose lk_X4_145 mv_X4_choose kdC_25 (by decide) rfl (Nat.le_of_ble_eq_true rfl) rfl dX4_findDress_190 (met_Ke_choose _ _ _ _ _ hk.wd hm ko1 ko2 (wI_c _) e8) (fun hm => ?_)
  refine g_aload_n hk 0 rfl dX4_findDress_193 ?_
  refine g_get2 hk fl_X4_15 rfl kdC_25 hm (b := 27) rfl dX4_findDress_194 ?_
  refine g_iload hk 4 rfl dX4_findDress_197 ?_
  refine g_iald hk cx4 kdC_27 hm dX4_findDress_199 h (fun y10 cy10 h => ?_)
  refine g_iload_n hk 3 rfl dX4_findDress_200 ?_
  refine g_icmp_ne hk cy10 cx3 dX4_findDress_201 h (fun b11 h => ?_) (fun b11 h => ?_)
  · refine g_aload_n hk 0 rfl dX4_findDress_204 ?_
    refine g_get2 hk fl_X4_18 rfl kdC_25 hm (b := 28) rfl dX4_findDress_205 ?_
    refine g_iconst hk (v := 0) rfl dX4_findDress_208 ?_
    refine g_iload hk 10 rfl dX4_findDress_209 ?_
    refine g_iast hk (cIk rfl) cx10 kdC_28 hm dX4_findDress_211 h (fun m12 hm h => ?_)
    refine g_aload_n hk 0 rfl dX4_findDress_212 ?_
    refine g_get2 hk fl_X4_18 rfl kdC_25 hm (b := 28) rfl dX4_findDress_213 ?_
    refine g_iconst hk (v := 1) rfl dX4_findDress_216 ?_
    refine g_iload hk 9 rfl dX4_findDress_217 ?_
    refine g_bipush hk (v := 100) rfl dX4_findDress_219 ?_
    refine g_idiv hk (cIk rfl) (by decide) dX4_findDress_221 ?_
    refine g_iload hk 9 rfl dX4_findDress_222 ?_
    refine g_bipush hk (v := 10) rfl dX4_findDress_224 ?_
    refine g_idiv hk (cIk rfl) (by decide) dX4_findDress_226 ?_
    refine g_bipush hk (v := 10) rfl dX4_findDress_227 ?_
    refine g_irem hk (cIk rfl) (by decide) dX4_findDress_229 ?_
    refine g_iload hk 9 rfl dX4_findDress_230 ?_
    refine g_bipush hk (v := 10) rfl dX4_findDress_232 ?_
    refine g_irem hk (cIk rfl) (by decide) dX4_findDress_234 ?_
    obtain ⟨r13, e14, h⟩ := zbind h
    refine g_callNv hk (st := []) mf_X11_setTriple lk_X4_165 ms_X11_setTriple (by decide) rfl (Nat.le_of_ble_eq_true rfl) rfl dX4_findDress_235 (met_C_setTriple _ _ _ _ _ hk.wd hm kdC_28 (cIk rfl) (cI_t _) (cI_t _) (cI_t _) e14) (fun hm => ?_)
    refine g_iinc hk (lv' := [(9, mI (wI (x9 + 1))), (0, .ref (kB K + 25)), (1, .ref (kB K + o1)), (2, .ref (kB K + o2)), (3, mI x3), (4, mI x4), (5, mI x5), (6, mI x6), (7, mI x7), (8, mI x8), (10, mI x10)]) 9 rfl (Nat.le_of_ble_eq_true rfl) rfl dX4_findDress_238 ?_
    refine g_goto hk dX4_findDress_241 ?_
    refine GoAt.sub [1, 2, 3, 4, 5, 6, 7, 8, 9, 0] rfl ?_
    exact hrec _ _ _ _ _ _ _ _ _ _ hm ko1 ko2 cx3 cx4 cx5 cx6 cx7 cx8 (wI_c _) h
  · refine g_iinc hk (lv' := [(9, mI (wI (x9 + 1))), (0, .ref (kB K + 25)), (1, .ref (kB K + o1)), (2, .ref (kB K + o2)), (3, mI x3), (4, mI x4), (5, mI x5), (6, mI x6), (7, mI x7), (8, mI x8), (10, mI x10)]) 9 rfl (Nat.le_of_ble_eq_true rfl) rfl dX4_findDress_238 ?_
    refine g_goto hk dX4_findDress_241 ?_
    refine GoAt.sub [1, 2, 3, 4, 5, 6, 7, 8, 9, 0] rfl ?_
    exact hrec _ _ _ _ _ _ _ _ _ _ hm ko1 ko2 cx3 cx4 cx5 cx6 cx7 cx8 (wI_c _) h
set_option maxRecDepth 100000 in
set_option maxHeartbeats 4000000 in
theorem w_Ke_findDress_B80 {K : zK} (hk : zOk K kdC cX4_findDress 11 none RX4 6) {rec : Nat → Nat → Int → Int → Int → Int → Int → Int → Int → zM → Option (zM)} {o1 : Nat} {o2 : Nat} {x3 : Int} {x4 : Int} {x5 : Int} {x6 : Int} {x7 : Int} {x8 : Int} {x9 : Int} {m : zM} {o : zM} (hrec : ∀ (o1 : Nat) (o2 : Nat) (x3 : Int) (x4 : Int) (x5 : Int) (x6 : Int) (x7 : Int) (x8 : Int) (x9 : Int) (m : zM), zG kdC m → kdC o1 = (0, 10) → kdC o2 = (0, 7) → cI x3 → cI x4 → cI x5 → cI x6 → cI x7 → cI x8 → cI x9 → rec o1 o2 x3 x4 x5 x6 x7 x8 x9 m = some o → GoAt K m [(0, .ref (kB K + 25)), (1, .ref (kB K + o1)), (2, .ref (kB K + o2)), (3, mI x3), (4, mI x4), (5, mI x5), (6, mI x6), (7, mI x7), (8, mI x8), (9, mI x9)] [] 80 (9, 0, o)) (hm : zG kdC m) (ko1 : kdC o1 = (0, 10)) (ko2 : kdC o2 = (0, 7)) (cx3 : cI x3) (cx4 : cI x4) (cx5 : cI x5) (cx6 : cI x6) (cx7 : cI x7) (cx8 : cI x8) (cx9 : cI x9) (h : Ke_findDress_B80 rec o1 o2 x3 x4 x5 x6 x7 x8 x9 m = some o) : GoAt K m [(0, .ref (kB K + 25)), (1, .ref (kB K + o1)), (2, .ref (kB K + o2)), (3, mI x3), (4, mI x4), (5, mI x5), (6, mI x6), (7, mI x7), (8, mI x8), (9, mI x9)] [] 80 (9, 0, o) := by
  unfold Ke_findDress_B80 at h
  refine g_iload hk 9 rfl dX4_findDress_80 ?_
  refine g_sipush hk (v := 1000) rfl dX4_findDress_82 ?_
  refine g_icmp_ge hk cx9 (cIk rfl) dX4_findDress_85 h (fun b1 h => ?_) (fun b1 h => ?_)
  · refine g_iload hk 9 rfl dX4_findDress_88 ?_
    refine g_bipush hk (v := 100) rfl dX4_findDress_90 ?_
    refine g_idiv hk (cIk rfl) (by decide) dX4_findDress_92 ?_
    refine g_iload hk 6 rfl dX4_findDress_93 ?_
    refine g_isub hk dX4_findDress_95 ?_
    refine g_iabs hk (wI_c _) lk_X4_161 ms_J9_abs_0f7a4 mfi_J9_abs_0f7a4 mfc_J9_abs_0f7a4 (Nat.le_of_ble_eq_true rfl) (Nat.le_of_ble_eq_true rfl) dX4_findDress_96 ?_
    refine g_iload hk 9 rfl dX4_findDress_99 ?_
    refine g_bipush hk (v := 10) rfl dX4_findDress_101 ?_
    refine g_idiv hk (cIk rfl) (by decide) dX4_findDress_103 ?_
    refine g_bipush hk (v := 10) rfl dX4_findDress_104 ?_
    refine g_irem hk (cIk rfl) (by decide) dX4_findDress_106 ?_
    refine g_iload hk 7 rfl dX4_findDress_107 ?_
    refine g_isub hk dX4_findDress_109 ?_
    refine g_iabs hk (wI_c _) lk_X4_161 ms_J9_abs_0f7a4 mfi_J9_abs_0f7a4 mfc_J9_abs_0f7a4 (Nat.le_of_ble_eq_true rfl) (Nat.le_of_ble_eq_true rfl) dX4_findDress_110 ?_
    refine g_iadd hk dX4_findDress_113 ?_
    refine g_iload hk 9 rfl dX4_findDress_114 ?_
    refine g_bipush hk (v := 10) rfl dX4_findDress_116 ?_
    refine g_irem hk (cIk rfl) (by decide) dX4_findDress_118 ?_
    refine g_iload hk 8 rfl dX4_findDress_119 ?_
    refine g_isub hk dX4_findDress_121 ?_
    refine g_iabs hk (wI_c _) lk_X4_161 ms_J9_abs_0f7a4 mfi_J9_abs_0f7a4 mfc_J9_abs_0f7a4 (Nat.le_of_ble_eq_true rfl) (Nat.le_of_ble_eq_true rfl) dX4_findDress_122 ?_
    refine g_iadd hk dX4_findDress_125 ?_
    refine g_let (wI_c _) h (fun v2 cv2 h => ?_)
    refine g_istore hk (lv' := [(10, mI v2), (0, .ref (kB K + 25)), (1, .ref (kB K + o1)), (2, .ref (kB K + o2)), (3, mI x3), (4, mI x4), (5, mI x5), (6, mI x6), (7, mI x7), (8, mI x8), (9, mI x9)]) (Nat.le_of_ble_eq_true rfl) rfl dX4_findDress_126 ?_
    refine g_aload_n hk 1 rfl dX4_findDress_128 ?_
    refine g_get2 hk fl_X4_18 rfl kdC_25 hm (b := 28) rfl dX4_findDress_129 ?_
    refine g_iconst hk (v := 0) rfl dX4_findDress_132 ?_
    refine g_iald hk (cIk rfl) kdC_28 hm dX4_findDress_133 h (fun y3 cy3 h => ?_)
    refine g_iconst hk (v := (-1)) rfl dX4_findDress_134 ?_
    refine g_icmp_eq hk cy3 (cIk rfl) dX4_findDress_135 h (fun b4 h => ?_) (fun b4 h => ?_)
    · refine GoAt.sub [1, 2, 3, 4, 5, 6, 7, 8, 9, 10, 0] rfl ?_
      exact w_Ke_findDress_b149 hk hrec hm ko1 ko2 cx3 cx4 cx5 cx6 cx7 cx8 cx9 cv2 h
    · refine g_iload hk 0 rfl dX4_findDress_138 ?_
      refine g_aload_n hk 1 rfl dX4_findDress_140 ?_
      refine g_get2 hk fl_X4_18 rfl kdC_25 hm (b := 28) rfl dX4_findDress_141 ?_
      refine g_iconst hk (v := 0) rfl dX4_findDress_144 ?_
      refine g_iald hk (cIk rfl) kdC_28 hm dX4_findDress_145 h (fun y5 cy5 h => ?_)
      refine g_icmp_ge hk cv2 cy5 dX4_findDress_146 h (fun b6 h => ?_) (fun b6 h => ?_)
      · refine GoAt.sub [1, 2, 3, 4, 5, 6, 7, 8, 9, 10, 0] rfl ?_
        exact w_Ke_findDress_b149 hk hrec hm ko1 ko2 cx3 cx4 cx5 cx6 cx7 cx8 cx9 cv2 h
      · refine g_iinc hk (lv' := [(9, mI (wI (x9 + 1))), (10, mI v2), (0, .ref (kB K + 25)), (1, .ref (kB K + o1)), (2, .ref (kB K + o2)), (3, mI x3), (4, mI x4), (5, mI x5), (6, mI x6), (7, mI x7), (8, mI x8)]) 10 rfl (Nat.le_of_ble_eq_true rfl) rfl dX4_findDress_238 ?_
        refine g_goto hk dX4_findDress_241 ?_
        refine GoAt.sub [2, 3, 4, 5, 6, 7, 8, 9, 10, 0] rfl ?_
        exact hrec _ _ _ _ _ _ _ _ _ _ hm ko1 ko2 cx3 cx4 cx5 cx6 cx7 cx8 (wI_c _) h
  · exact g_return hk dX4_findDress_244 (by cases h; rfl)
theorem w_Ke_findDress_L80 {K : zK} (hk : zOk K kdC cX4_findDress 11 none RX4 6)  {o : zM}  : ∀ (n : Nat) (o1 : Nat) (o2 : Nat) (x3 : Int) (x4 : Int) (x5 : Int) (x6 : Int) (x7 : Int) (x8 : Int) (x9 : Int) (m : zM), zG kdC m → kdC o1 = (0, 10) → kdC o2 = (0, 7) → cI x3 → cI x4 → cI x5 → cI x6 → cI x7 → cI x8 → cI x9 → Ke_findDress_L80 n o1 o2 x3 x4 x5 x6 x7 x8 x9 m = some o → GoAt K m [(0, .ref (kB K + 25)), (1, .ref (kB K + o1)), (2, .ref (kB K + o2)), (3, mI x3), (4, mI x4), (5, mI x5), (6, mI x6), (7, mI x7), (8, mI x8), (9, mI x9)] [] 80 (9, 0, o)
  | 0, o1, o2, x3, x4, x5, x6, x7, x8, x9, m, hm, ko1, ko2, cx3, cx4, cx5, cx6, cx7, cx8, cx9, h => by cases h
  | n + 1, o1, o2, x3, x4, x5, x6, x7, x8, x9, m, hm, ko1, ko2, cx3, cx4, cx5, cx6, cx7, cx8, cx9, h => w_Ke_findDress_B80 hk  (w_Ke_findDress_L80 hk  n) hm ko1 ko2 cx3 cx4 cx5 cx6 cx7 cx8 cx9 h
set_option maxRecDepth 100000 in
set_option maxHeartbeats 4000000 in
theorem w_Ke_findDress {K : zK} (hk : zOk K kdC cX4_findDress 11 none RX4 6)  {o1 : Nat} {o2 : Nat} {x3 : Int} {x4 : Int} {m : zM} {o : zM}  (hm : zG kdC m) (ko1 : kdC o1 = (0, 10)) (ko2 : kdC o2 = (0, 7)) (cx3 : cI x3) (cx4 : cI x4) (h : Ke_findDress o1 o2 x3 x4 m = some o) : GoAt K m [(0, .ref (kB K + 25)), (1, .ref (kB K + o1)), (2, .ref (kB K + o2)), (3, mI x3), (4, mI x4)] [] 0 (9, 0, o) := by
  unfold Ke_findDress at h
  refine g_iconst hk (v := 0) rfl dX4_findDress_0 ?_
  refine g_istore hk (lv' := [(5, mI 0), (0, .ref (kB K + 25)), (1, .ref (kB K + o1)), (2, .ref (kB K + o2)), (3, mI x3), (4, mI x4)]) (Nat.le_of_ble_eq_true rfl) rfl dX4_findDress_1 ?_
  refine GoAt.sub [1, 2, 3, 4, 5, 0] rfl ?_
  refine w_Ke_findDress_L3 hk (fun o1_1 o2_1 x3_1 x4_1 m2 hm ko1_1 ko2_1 cx3_1 cx4_1 h => ?_) 1000000 _ _ _ _ _ _ hm ko1 ko2 cx3 cx4 (cIk rfl) h
  · refine g_aload_n hk 1 rfl dX4_findDress_23 ?_
    refine g_aload_n hk 2 rfl dX4_findDress_24 ?_
    refine g_iload hk 4 rfl dX4_findDress_25 ?_
    refine g_iload_n hk 3 rfl dX4_findDress_27 ?_
    obtain ⟨r3, e4, h⟩ := zbind h
    refine g_callSz hk (st := []) mf_X4_canMeet lk_X4_100 ms_X4_canMeet (by decide) rfl (Nat.le_of_ble_eq_true rfl) rfl dX4_findDress_28 (met_Ke_canMeet _ _ _ _ _ hk.wd hm ko1_1 ko2_1 cx4_1 cx3_1 e4) (fun hm c5 => ?_)
    refine g_if_ne hk (b01 c5) dX4_findDress_31 h (fun b6 h => ?_) (fun b6 h => ?_)
    · exact g_return hk dX4_findDress_34 (by cases h; rfl)
    · refine g_iload_n hk 3 rfl dX4_findDress_35 ?_
      refine g_iconst hk (v := 3) rfl dX4_findDress_36 ?_
      refine g_imul hk dX4_findDress_37 ?_
      refine g_let (wI_c _) h (fun v7 cv7 h => ?_)
      refine g_istore hk (lv' := [(5, mI v7), (0, .ref (kB K + 25)), (1, .ref (kB K + o1_1)), (2, .ref (kB K + o2_1)), (3, mI x3_1), (4, mI x4_1)]) (Nat.le_of_ble_eq_true rfl) rfl dX4_findDress_38 ?_
      refine g_aload_n hk 3 rfl dX4_findDress_40 ?_
      refine g_get2 hk fl_X4_68 rfl ko2_1 hm (b := o2_1 + 1) rfl dX4_findDress_41 ?_
      refine g_iload hk 0 rfl dX4_findDress_44 ?_
      refine g_iald hk cv7 (kdC_s7_3 ko2_1) hm dX4_findDress_46 h (fun y8 cy8 h => ?_)
      refine g_istore hk (lv' := [(6, mI y8), (5, mI v7), (0, .ref (kB K + 25)), (1, .ref (kB K + o1_1)), (2, .ref (kB K + o2_1)), (3, mI x3_1), (4, mI x4_1)]) (Nat.le_of_ble_eq_true rfl) rfl dX4_findDress_47 ?_
      refine g_aload_n hk 4 rfl dX4_findDress_49 ?_
      refine g_get2 hk fl_X4_68 rfl ko2_1 hm (b := o2_1 + 1) rfl dX4_findDress_50 ?_
      refine g_iload hk 1 rfl dX4_findDress_53 ?_
      refine g_iconst hk (v := 1) rfl dX4_findDress_55 ?_
      refine g_iadd hk dX4_findDress_56 ?_
      refine g_iald hk (wI_c _) (kdC_s7_3 ko2_1) hm dX4_findDress_57 h (fun y9 cy9 h => ?_)
      refine g_istore hk (lv' := [(7, mI y9), (6, mI y8), (5, mI v7), (0, .ref (kB K + 25)), (1, .ref (kB K + o1_1)), (2, .ref (kB K + o2_1)), (3, mI x3_1), (4, mI x4_1)]) (Nat.le_of_ble_eq_true rfl) rfl dX4_findDress_58 ?_
      refine g_aload_n hk 5 rfl dX4_findDress_60 ?_
      refine g_get2 hk fl_X4_68 rfl ko2_1 hm (b := o2_1 + 1) rfl dX4_findDress_61 ?_
      refine g_iload hk 2 rfl dX4_findDress_64 ?_
      refine g_iconst hk (v := 2) rfl dX4_findDress_66 ?_
      refine g_iadd hk dX4_findDress_67 ?_
      refine g_iald hk (wI_c _) (kdC_s7_3 ko2_1) hm dX4_findDress_68 h (fun y10 cy10 h => ?_)
      refine g_istore hk (lv' := [(8, mI y10), (7, mI y9), (6, mI y8), (5, mI v7), (0, .ref (kB K + 25)), (1, .ref (kB K + o1_1)), (2, .ref (kB K + o2_1)), (3, mI x3_1), (4, mI x4_1)]) (Nat.le_of_ble_eq_true rfl) rfl dX4_findDress_69 ?_
      refine g_aload_n hk 4 rfl dX4_findDress_71 ?_
      refine g_aload_n hk 5 rfl dX4_findDress_72 ?_
      refine g_aload_n hk 6 rfl dX4_findDress_73 ?_
      obtain ⟨r11, e12, h⟩ := zbind h
      refine g_callVv hk (st := []) mf_X4_weigh lk_X4_141 mv_X4_weigh kdC_25 (by decide) rfl (Nat.le_of_ble_eq_true rfl) rfl dX4_findDress_74 (met_Ke_weigh _ _ _ _ _ hk.wd hm ko1_1 ko2_1 e12) (fun hm => ?_)
      refine g_iconst hk (v := 0) rfl dX4_findDress_77 ?_
      refine g_istore hk (lv' := [(9, mI 0), (8, mI y10), (7, mI y9), (6, mI y8), (5, mI v7), (0, .ref (kB K + 25)), (1, .ref (kB K + o1_1)), (2, .ref (kB K + o2_1)), (3, mI x3_1), (4, mI x4_1)]) (Nat.le_of_ble_eq_true rfl) rfl dX4_findDress_78 ?_
      refine GoAt.sub [5, 6, 7, 8, 9, 4, 3, 2, 1, 0] rfl ?_
      refine w_Ke_findDress_L80 hk  1000000 _ _ _ _ _ _ _ _ _ _ hm ko1_1 ko2_1 cx3_1 cx4_1 cv7 cy8 cy9 cy10 (cIk rfl) h
theorem met_Ke_findDress (l : Launch) (D : va_G) (aC : Nat → ClassId) (B N : Nat) (hwd : ∀ id, (kdC id).1 ≠ 9 → id < N) {o1 : Nat} {o2 : Nat} {x3 : Int} {x4 : Int} {m : zM} {o : zM} (hm : zG kdC m) (ko1 : kdC o1 = (0, 10)) (ko2 : kdC o2 = (0, 7)) (cx3 : cI x3) (cx4 : cI x4) (h : Ke_findDress o1 o2 x3 x4 m = some o) : zMet l yX4_findDress cX4_findDress 11 none 6 D aC B kdC N [.ref (B + 25), .ref (B + o1), .ref (B + o2), mI x3, mI x4] m (9, 0, o) := by
  refine zMet.of mf_X4_findDress hwd hm (Nat.le_of_ble_eq_true rfl) (fun K e1 e2 e3 e4 e5 hk => ?_)
  subst e4
  exact w_Ke_findDress hk hm ko1 ko2 cx3 cx4 h
set_option maxRecDepth 100000 in
set_option maxHeartbeats 4000000 in
theorem w_C_dress {K : zK} (hk : zOk K kdC cX11_dress 4 (some .int) RX11 7)  {x1 : Int} {x2 : Int} {x3 : Int} {m : zM} {o : Int × zM}  (hm : zG kdC m) (cx1 : cI x1) (cx2 : cI x2) (cx3 : cI x3) (h : C_dress x1 x2 x3 m = some o) : GoAt K m [(0, .ref (kB K + 0)), (1, mI x1), (2, mI x2), (3, mI x3)] [] 0 (0, o.1, o.2) := by
  unfold C_dress at h
  refine g_aload_n hk 0 rfl dX11_dress_0 ?_
  refine g_get3o hk fl_X11_84 rfl (j := 12) rfl kdC_0 dX11_dress_1 h (fun zz1 kzz1 h => ?_)
  refine g_iload_n hk 1 rfl dX11_dress_4 ?_
  obtain ⟨r2, e3, h⟩ := zbind h
  refine g_callVz hk (st := []) mf_X10_isGuest lk_X11_167 mv_X10_isGuest kzz1 (by decide) rfl (Nat.le_of_ble_eq_true rfl) rfl dX11_dress_5 (met_Zo_isGuest _ _ _ _ _ hk.wd hm kzz1 cx1 e3) (fun hm c4 => ?_)
  refine g_if_eq hk (b01 c4) dX11_dress_8 h (fun b5 h => ?_) (fun b5 h => ?_)
  · refine g_iconst hk (v := (-1)) rfl dX11_dress_31 ?_
    exact g_ireturn hk (cIk rfl) dX11_dress_32 (by cases h; rfl)
  · refine g_aload_n hk 0 rfl dX11_dress_11 ?_
    refine g_get3o hk fl_X11_84 rfl (j := 12) rfl kdC_0 dX11_dress_12 h (fun zz6 kzz6 h => ?_)
    refine g_iload_n hk 2 rfl dX11_dress_15 ?_
    obtain ⟨r7, e8, h⟩ := zbind h
    refine g_callVz hk (st := []) mf_X10_isBeast lk_X11_156 mv_X10_isBeast kzz6 (by decide) rfl (Nat.le_of_ble_eq_true rfl) rfl dX11_dress_16 (met_Zo_isBeast _ _ _ _ _ hk.wd hm kzz6 cx2 e8) (fun hm c9 => ?_)
    refine g_if_eq hk (b01 c9) dX11_dress_19 h (fun b10 h => ?_) (fun b10 h => ?_)
    · refine g_iconst hk (v := (-1)) rfl dX11_dress_31 ?_
      exact g_ireturn hk (cIk rfl) dX11_dress_32 (by cases h; rfl)
    · refine g_iload_n hk 3 rfl dX11_dress_22 ?_
      refine g_if_lt hk cx3 dX11_dress_23 h (fun b11 h => ?_) (fun b11 h => ?_)
      · refine g_iconst hk (v := (-1)) rfl dX11_dress_31 ?_
        exact g_ireturn hk (cIk rfl) dX11_dress_32 (by cases h; rfl)
      · refine g_iload_n hk 3 rfl dX11_dress_26 ?_
        refine g_iconst hk (v := 3) rfl dX11_dress_27 ?_
        refine g_icmp_le hk cx3 (cIk rfl) dX11_dress_28 h (fun b12 h => ?_) (fun b12 h => ?_)
        · refine g_iconst hk (v := (-1)) rfl dX11_dress_31 ?_
          exact g_ireturn hk (cIk rfl) dX11_dress_32 (by cases h; rfl)
        · refine g_aload_n hk 0 rfl dX11_dress_33 ?_
          refine g_get2 hk fl_X11_28 rfl kdC_0 hm (b := 16) rfl dX11_dress_34 ?_
          refine g_aload_n hk 0 rfl dX11_dress_37 ?_
          refine g_get2 hk fl_X11_24 rfl kdC_0 hm (b := 8) rfl dX11_dress_38 ?_
          obtain ⟨r13, e14, h⟩ := zbind h
          refine g_callVv hk (st := []) mf_X7_copyFrom lk_X11_226 mv_X7_copyFrom kdC_16 (by decide) rfl (Nat.le_of_ble_eq_true rfl) rfl dX11_dress_41 (met_St_copyFrom _ _ _ _ _ hk.wd hm kdC_16 kdC_8 e14) (fun hm => ?_)
          refine g_aload_n hk 0 rfl dX11_dress_44 ?_
          refine g_get2 hk fl_X11_38 rfl kdC_0 hm (b := 25) rfl dX11_dress_45 ?_
          refine g_aload_n hk 0 rfl dX11_dress_48 ?_
          refine g_get3o hk fl_X11_84 rfl (j := 12) rfl kdC_0 dX11_dress_49 h (fun zz16 kzz16 h => ?_)
          refine g_aload_n hk 0 rfl dX11_dress_52 ?_
          refine g_get2 hk fl_X11_28 rfl kdC_0 hm (b := 16) rfl dX11_dress_53 ?_
          refine g_iload_n hk 1 rfl dX11_dress_56 ?_
          refine g_iload_n hk 2 rfl dX11_dress_57 ?_
          obtain ⟨r17, e18, h⟩ := zbind h
          refine g_callVv hk (st := []) mf_X4_findDress lk_X11_268 mv_X4_findDress kdC_25 (by decide) rfl (Nat.le_of_ble_eq_true rfl) rfl dX11_dress_58 (met_Ke_findDress _ _ _ _ _ hk.wd hm kzz16 kdC_16 cx1 cx2 e18) (fun hm => ?_)
          refine g_aload_n hk 0 rfl dX11_dress_61 ?_
          refine g_get2 hk fl_X11_38 rfl kdC_0 hm (b := 25) rfl dX11_dress_62 ?_
          refine g_get2 hk fl_X11_272 rfl kdC_25 hm (b := 28) rfl dX11_dress_65 ?_
          refine g_iload_n hk 3 rfl dX11_dress_68 ?_
          refine g_iald hk cx3 kdC_28 hm dX11_dress_69 h (fun y20 cy20 h => ?_)
          exact g_ireturn hk cy20 dX11_dress_70 (by cases h; rfl)
theorem met_C_dress (l : Launch) (D : va_G) (aC : Nat → ClassId) (B N : Nat) (hwd : ∀ id, (kdC id).1 ≠ 9 → id < N) {x1 : Int} {x2 : Int} {x3 : Int} {m : zM} {o : Int × zM} (hm : zG kdC m) (cx1 : cI x1) (cx2 : cI x2) (cx3 : cI x3) (h : C_dress x1 x2 x3 m = some o) : zMet l yX11_dress cX11_dress 4 (some .int) 7 D aC B kdC N [.ref (B + 0), mI x1, mI x2, mI x3] m (0, o.1, o.2) := by
  refine zMet.of mf_X11_dress hwd hm (Nat.le_of_ble_eq_true rfl) (fun K e1 e2 e3 e4 e5 hk => ?_)
  subst e4
  exact w_C_dress hk hm cx1 cx2 cx3 h
set_option maxRecDepth 100000 in
set_option maxHeartbeats 4000000 in
theorem w_Ta_holdsPairs_B30 {K : zK} (hk : zOk K kdC cX8_holdsPairs 4 (some .boolean) RX8 0) {rec : Int → Int → Int → Option (Int)} {x1 : Int} {x2 : Int} {x3 : Int} {m : zM} {o : Int} (hrec : ∀ (x1 : Int) (x2 : Int) (x3 : Int), cI x1 → cI x2 → cI x3 → rec x1 x2 x3 = some o → GoAt K m [(0, .ref (kB K + 2)), (1, mI x1), (2, mI x2), (3, mI x3)] [] 30 (4, o, m)) (hm : zG kdC m) (cx1 : cI x1) (cx2 : cI x2) (cx3 : cI x3) (h : Ta_holdsPairs_B30 rec x1 x2 x3 m = some o) : GoAt K m [(0, .ref (kB K + 2)), (1, mI x1), (2, mI x2), (3, mI x3)] [] 30 (4, o, m) := by
  unfold Ta_holdsPairs_B30 at h
  refine g_iload_n hk 3 rfl dX8_holdsPairs_30 ?_
  refine g_aload_n hk 0 rfl dX8_holdsPairs_31 ?_
  have g1 := zGI (i := 1) hm kdC_2 rfl
  refine g_get0 hk fl_X8_43 rfl (j := 1) rfl kdC_2 dX8_holdsPairs_32 ?_
  refine g_icmp_ge hk cx3 g1 dX8_holdsPairs_35 h (fun b2 h => ?_) (fun b2 h => ?_)
  · refine g_aload_n hk 0 rfl dX8_holdsPairs_38 ?_
    refine g_get2 hk fl_X8_11 rfl kdC_2 hm (b := 3) rfl dX8_holdsPairs_39 ?_
    refine g_iload_n hk 3 rfl dX8_holdsPairs_42 ?_
    refine g_iald hk cx3 kdC_3 hm dX8_holdsPairs_43 h (fun y3 cy3 h => ?_)
    refine g_iload_n hk 3 rfl dX8_holdsPairs_44 ?_
    refine g_iconst hk (v := 2) rfl dX8_holdsPairs_45 ?_
    refine g_irem hk (cIk rfl) (by decide) dX8_holdsPairs_46 ?_
    refine g_if_ne hk (cI_t _) dX8_holdsPairs_47 h (fun b4 h => ?_) (fun b4 h => ?_)
    · refine g_iload_n hk 1 rfl dX8_holdsPairs_50 ?_
      refine g_goto hk dX8_holdsPairs_51 ?_
      refine g_icmp_lt hk cy3 cx1 dX8_holdsPairs_55 h (fun b5 h => ?_) (fun b5 h => ?_)
      · refine g_iinc hk (lv' := [(3, mI (wI (x3 + 1))), (0, .ref (kB K + 2)), (1, mI x1), (2, mI x2)]) 3 rfl (Nat.le_of_ble_eq_true rfl) rfl dX8_holdsPairs_60 ?_
        refine g_goto hk dX8_holdsPairs_63 ?_
        refine GoAt.sub [1, 2, 3, 0] rfl ?_
        exact hrec _ _ _ cx1 cx2 (wI_c _) h
      · refine g_iconst hk (v := 0) rfl dX8_holdsPairs_58 ?_
        exact g_zreturn hk z0 dX8_holdsPairs_59 (by cases h; rfl)
    · refine g_iload_n hk 2 rfl dX8_holdsPairs_54 ?_
      refine g_icmp_lt hk cy3 cx2 dX8_holdsPairs_55 h (fun b6 h => ?_) (fun b6 h => ?_)
      · refine g_iinc hk (lv' := [(3, mI (wI (x3 + 1))), (0, .ref (kB K + 2)), (1, mI x1), (2, mI x2)]) 3 rfl (Nat.le_of_ble_eq_true rfl) rfl dX8_holdsPairs_60 ?_
        refine g_goto hk dX8_holdsPairs_63 ?_
        refine GoAt.sub [1, 2, 3, 0] rfl ?_
        exact hrec _ _ _ cx1 cx2 (wI_c _) h
      · refine g_iconst hk (v := 0) rfl dX8_holdsPairs_58 ?_
        exact g_zreturn hk z0 dX8_holdsPairs_59 (by cases h; rfl)
  · refine g_iconst hk (v := 1) rfl dX8_holdsPairs_66 ?_
    exact g_zreturn hk z1 dX8_holdsPairs_67 (by cases h; rfl)
theorem w_Ta_holdsPairs_L30 {K : zK} (hk : zOk K kdC cX8_holdsPairs 4 (some .boolean) RX8 0)  {o : Int} {m : zM} (hm : zG kdC m)  : ∀ (n : Nat) (x1 : Int) (x2 : Int) (x3 : Int), cI x1 → cI x2 → cI x3 → Ta_holdsPairs_L30 m n x1 x2 x3 = some o → GoAt K m [(0, .ref (kB K + 2)), (1, mI x1), (2, mI x2), (3, mI x3)] [] 30 (4, o, m)
  | 0, x1, x2, x3, cx1, cx2, cx3, h => by cases h
  | n + 1, x1, x2, x3, cx1, cx2, cx3, h => w_Ta_holdsPairs_B30 hk  (w_Ta_holdsPairs_L30 hk hm  n) hm cx1 cx2 cx3 h
set_option maxRecDepth 100000 in
set_option maxHeartbeats 4000000 in
theorem w_Ta_holdsPairs {K : zK} (hk : zOk K kdC cX8_holdsPairs 4 (some .boolean) RX8 0)  {x1 : Int} {x2 : Int} {m : zM} {o : Int}  (hm : zG kdC m) (cx1 : cI x1) (cx2 : cI x2) (h : Ta_holdsPairs x1 x2 m = some o) : GoAt K m [(0, .ref (kB K + 2)), (1, mI x1), (2, mI x2)] [] 0 (4, o, m) := by
  unfold Ta_holdsPairs at h
  refine g_aload_n hk 0 rfl dX8_holdsPairs_0 ?_
  have g1 := zGI (i := 1) hm kdC_2 rfl
  refine g_get0 hk fl_X8_43 rfl (j := 1) rfl kdC_2 dX8_holdsPairs_1 ?_
  refine g_iconst hk (v := 2) rfl dX8_holdsPairs_4 ?_
  refine g_icmp_lt hk g1 (cIk rfl) dX8_holdsPairs_5 h (fun b2 h => ?_) (fun b2 h => ?_)
  · refine g_iconst hk (v := 0) rfl dX8_holdsPairs_26 ?_
    exact g_zreturn hk z0 dX8_holdsPairs_27 (by cases h; rfl)
  · refine g_aload_n hk 0 rfl dX8_holdsPairs_8 ?_
    have g3 := zGI (i := 1) hm kdC_2 rfl
    refine g_get0 hk fl_X8_43 rfl (j := 1) rfl kdC_2 dX8_holdsPairs_9 ?_
    refine g_bipush hk (v := 32) rfl dX8_holdsPairs_12 ?_
    refine g_icmp_gt hk g3 (cIk rfl) dX8_holdsPairs_14 h (fun b4 h => ?_) (fun b4 h => ?_)
    · refine g_iconst hk (v := 0) rfl dX8_holdsPairs_26 ?_
      exact g_zreturn hk z0 dX8_holdsPairs_27 (by cases h; rfl)
    · refine g_aload_n hk 0 rfl dX8_holdsPairs_17 ?_
      have g5 := zGI (i := 1) hm kdC_2 rfl
      refine g_get0 hk fl_X8_43 rfl (j := 1) rfl kdC_2 dX8_holdsPairs_18 ?_
      refine g_iconst hk (v := 2) rfl dX8_holdsPairs_21 ?_
      refine g_irem hk (cIk rfl) (by decide) dX8_holdsPairs_22 ?_
      refine g_if_eq hk (cI_t _) dX8_holdsPairs_23 h (fun b6 h => ?_) (fun b6 h => ?_)
      · refine g_iconst hk (v := 0) rfl dX8_holdsPairs_28 ?_
        refine g_istore_n hk rfl (lv' := [(3, mI 0), (0, .ref (kB K + 2)), (1, mI x1), (2, mI x2)]) (Nat.le_of_ble_eq_true rfl) rfl dX8_holdsPairs_29 ?_
        refine GoAt.sub [1, 2, 3, 0] rfl ?_
        refine w_Ta_holdsPairs_L30 hk hm  1000000 _ _ _ cx1 cx2 (cIk rfl) h
      · refine g_iconst hk (v := 0) rfl dX8_holdsPairs_26 ?_
        exact g_zreturn hk z0 dX8_holdsPairs_27 (by cases h; rfl)
theorem met_Ta_holdsPairs (l : Launch) (D : va_G) (aC : Nat → ClassId) (B N : Nat) (hwd : ∀ id, (kdC id).1 ≠ 9 → id < N) {x1 : Int} {x2 : Int} {m : zM} {o : Int} (hm : zG kdC m) (cx1 : cI x1) (cx2 : cI x2) (h : Ta_holdsPairs x1 x2 m = some o) : zMet l yX8_holdsPairs cX8_holdsPairs 4 (some .boolean) 0 D aC B kdC N [.ref (B + 2), mI x1, mI x2] m (4, o, m) := by
  refine zMet.of mf_X8_holdsPairs hwd hm (Nat.le_of_ble_eq_true rfl) (fun K e1 e2 e3 e4 e5 hk => ?_)
  subst e4
  exact w_Ta_holdsPairs hk hm cx1 cx2 h
set_option maxRecDepth 100000 in
set_option maxHeartbeats 4000000 in
theorem w_Ta_pairsUnlike_B2 {K : zK} (hk : zOk K kdC cX8_pairsUnlike 2 (some .boolean) RX8 0) {rec : Int → Option (Int)} {x1 : Int} {m : zM} {o : Int} (hrec : ∀ (x1 : Int), cI x1 → rec x1 = some o → GoAt K m [(0, .ref (kB K + 2)), (1, mI x1)] [] 2 (4, o, m)) (hm : zG kdC m) (cx1 : cI x1) (h : Ta_pairsUnlike_B2 rec x1 m = some o) : GoAt K m [(0, .ref (kB K + 2)), (1, mI x1)] [] 2 (4, o, m) := by
  unfold Ta_pairsUnlike_B2 at h
  refine g_iload_n hk 1 rfl dX8_pairsUnlike_2 ?_
  refine g_iconst hk (v := 1) rfl dX8_pairsUnlike_3 ?_
  refine g_iadd hk dX8_pairsUnlike_4 ?_
  refine g_aload_n hk 0 rfl dX8_pairsUnlike_5 ?_
  have g1 := zGI (i := 1) hm kdC_2 rfl
  refine g_get0 hk fl_X8_43 rfl (j := 1) rfl kdC_2 dX8_pairsUnlike_6 ?_
  refine g_icmp_ge hk (wI_c _) g1 dX8_pairsUnlike_9 h (fun b2 h => ?_) (fun b2 h => ?_)
  · refine g_aload_n hk 0 rfl dX8_pairsUnlike_12 ?_
    refine g_get2 hk fl_X8_11 rfl kdC_2 hm (b := 3) rfl dX8_pairsUnlike_13 ?_
    refine g_iload_n hk 1 rfl dX8_pairsUnlike_16 ?_
    refine g_iald hk cx1 kdC_3 hm dX8_pairsUnlike_17 h (fun y3 cy3 h => ?_)
    refine g_aload_n hk 0 rfl dX8_pairsUnlike_18 ?_
    refine g_get2 hk fl_X8_11 rfl kdC_2 hm (b := 3) rfl dX8_pairsUnlike_19 ?_
    refine g_iload_n hk 1 rfl dX8_pairsUnlike_22 ?_
    refine g_iconst hk (v := 1) rfl dX8_pairsUnlike_23 ?_
    refine g_iadd hk dX8_pairsUnlike_24 ?_
    refine g_iald hk (wI_c _) kdC_3 hm dX8_pairsUnlike_25 h (fun y4 cy4 h => ?_)
    refine g_icmp_ne hk cy3 cy4 dX8_pairsUnlike_26 h (fun b5 h => ?_) (fun b5 h => ?_)
    · refine g_iconst hk (v := 0) rfl dX8_pairsUnlike_29 ?_
      exact g_zreturn hk z0 dX8_pairsUnlike_30 (by cases h; rfl)
    · refine g_iinc hk (lv' := [(1, mI (wI (x1 + 2))), (0, .ref (kB K + 2))]) 1 rfl (Nat.le_of_ble_eq_true rfl) rfl dX8_pairsUnlike_31 ?_
      refine g_goto hk dX8_pairsUnlike_34 ?_
      refine GoAt.sub [1, 0] rfl ?_
      exact hrec _ (wI_c _) h
  · refine g_iconst hk (v := 1) rfl dX8_pairsUnlike_37 ?_
    exact g_zreturn hk z1 dX8_pairsUnlike_38 (by cases h; rfl)
theorem w_Ta_pairsUnlike_L2 {K : zK} (hk : zOk K kdC cX8_pairsUnlike 2 (some .boolean) RX8 0)  {o : Int} {m : zM} (hm : zG kdC m)  : ∀ (n : Nat) (x1 : Int), cI x1 → Ta_pairsUnlike_L2 m n x1 = some o → GoAt K m [(0, .ref (kB K + 2)), (1, mI x1)] [] 2 (4, o, m)
  | 0, x1, cx1, h => by cases h
  | n + 1, x1, cx1, h => w_Ta_pairsUnlike_B2 hk  (w_Ta_pairsUnlike_L2 hk hm  n) hm cx1 h
set_option maxRecDepth 100000 in
set_option maxHeartbeats 4000000 in
theorem w_Ta_pairsUnlike {K : zK} (hk : zOk K kdC cX8_pairsUnlike 2 (some .boolean) RX8 0)  {m : zM} {o : Int}  (hm : zG kdC m)  (h : Ta_pairsUnlike m = some o) : GoAt K m [(0, .ref (kB K + 2))] [] 0 (4, o, m) := by
  unfold Ta_pairsUnlike at h
  refine g_iconst hk (v := 0) rfl dX8_pairsUnlike_0 ?_
  refine g_istore_n hk rfl (lv' := [(1, mI 0), (0, .ref (kB K + 2))]) (Nat.le_of_ble_eq_true rfl) rfl dX8_pairsUnlike_1 ?_
  refine GoAt.sub [1, 0] rfl ?_
  refine w_Ta_pairsUnlike_L2 hk hm  1000000 _ (cIk rfl) h
theorem met_Ta_pairsUnlike (l : Launch) (D : va_G) (aC : Nat → ClassId) (B N : Nat) (hwd : ∀ id, (kdC id).1 ≠ 9 → id < N) {m : zM} {o : Int} (hm : zG kdC m)  (h : Ta_pairsUnlike m = some o) : zMet l yX8_pairsUnlike cX8_pairsUnlike 2 (some .boolean) 0 D aC B kdC N [.ref (B + 2)] m (4, o, m) := by
  refine zMet.of mf_X8_pairsUnlike hwd hm (Nat.le_of_ble_eq_true rfl) (fun K e1 e2 e3 e4 e5 hk => ?_)
  subst e4
  exact w_Ta_pairsUnlike hk hm  h
set_option maxRecDepth 100000 in
set_option maxHeartbeats 4000000 in
theorem w_Gu_hear_B7 {K : zK} (hk : zOk K kdC cX2_hear 3 none RX2 0) {rec : Int → zM → Option (zM)} {x2 : Int} {m : zM} {o : zM} (hrec : ∀ (x2 : Int) (m : zM), zG kdC m → cI x2 → rec x2 m = some o → GoAt K m [(0, .ref (kB K + 40)), (1, .ref (kB K + 2)), (2, mI x2)] [] 7 (9, 0, o)) (hm : zG kdC m) (cx2 : cI x2) (h : Gu_hear_B7 rec x2 m = some o) : GoAt K m [(0, .ref (kB K + 40)), (1, .ref (kB K + 2)), (2, mI x2)] [] 7 (9, 0, o) := by
  unfold Gu_hear_B7 at h
  refine g_iload_n hk 2 rfl dX2_hear_7 ?_
  refine g_iconst hk (v := 1) rfl dX2_hear_8 ?_
  refine g_iadd hk dX2_hear_9 ?_
  refine g_aload_n hk 1 rfl dX2_hear_10 ?_
  have g1 := zGI (i := 1) hm kdC_2 rfl
  refine g_get0 hk fl_X2_25 rfl (j := 1) rfl kdC_2 dX2_hear_11 ?_
  refine g_icmp_ge hk (wI_c _) g1 dX2_hear_14 h (fun b2 h => ?_) (fun b2 h => ?_)
  · refine g_iload_n hk 2 rfl dX2_hear_17 ?_
    refine g_iconst hk (v := 1) rfl dX2_hear_18 ?_
    refine g_iadd hk dX2_hear_19 ?_
    refine g_aload_n hk 0 rfl dX2_hear_20 ?_
    refine g_get2 hk fl_X2_15 rfl kdC_40 hm (b := 42) rfl dX2_hear_21 ?_
    refine g_alen hk (v := 32) kdC_42 rfl dX2_hear_24 ?_
    refine g_icmp_ge hk (wI_c _) (cIk rfl) dX2_hear_25 h (fun b3 h => ?_) (fun b3 h => ?_)
    · refine g_aload_n hk 0 rfl dX2_hear_28 ?_
      refine g_get2 hk fl_X2_15 rfl kdC_40 hm (b := 42) rfl dX2_hear_29 ?_
      refine g_iload_n hk 2 rfl dX2_hear_32 ?_
      refine g_aload_n hk 1 rfl dX2_hear_33 ?_
      refine g_get2 hk fl_X2_30 rfl kdC_2 hm (b := 3) rfl dX2_hear_34 ?_
      refine g_iload_n hk 2 rfl dX2_hear_37 ?_
      refine g_iald hk cx2 kdC_3 hm dX2_hear_38 h (fun y4 cy4 h => ?_)
      refine g_iast hk cx2 cy4 kdC_42 hm dX2_hear_39 h (fun m5 hm h => ?_)
      refine g_aload_n hk 0 rfl dX2_hear_40 ?_
      refine g_get2 hk fl_X2_15 rfl kdC_40 hm (b := 42) rfl dX2_hear_41 ?_
      refine g_iload_n hk 2 rfl dX2_hear_44 ?_
      refine g_iconst hk (v := 1) rfl dX2_hear_45 ?_
      refine g_iadd hk dX2_hear_46 ?_
      refine g_aload_n hk 1 rfl dX2_hear_47 ?_
      refine g_get2 hk fl_X2_30 rfl kdC_2 hm (b := 3) rfl dX2_hear_48 ?_
      refine g_iload_n hk 2 rfl dX2_hear_51 ?_
      refine g_iconst hk (v := 1) rfl dX2_hear_52 ?_
      refine g_iadd hk dX2_hear_53 ?_
      refine g_iald hk (wI_c _) kdC_3 hm dX2_hear_54 h (fun y6 cy6 h => ?_)
      refine g_iast hk (wI_c _) cy6 kdC_42 hm dX2_hear_55 h (fun m7 hm h => ?_)
      refine g_aload_n hk 0 rfl dX2_hear_56 ?_
      refine g_dup hk rfl dX2_hear_57 ?_
      have g8 := zGI (i := 0) hm kdC_40 rfl
      refine g_get0 hk fl_X2_21 rfl (j := 0) rfl kdC_40 dX2_hear_58 ?_
      refine g_iconst hk (v := 1) rfl dX2_hear_61 ?_
      refine g_iadd hk dX2_hear_62 ?_
      refine g_put0 hk fp_X2_21 rfl (j := 0) rfl kdC_40 (wI_c _) dX2_hear_63 h hm (fun m9 hm h => ?_)
      refine g_iinc hk (lv' := [(2, mI (wI (x2 + 2))), (0, .ref (kB K + 40)), (1, .ref (kB K + 2))]) 2 rfl (Nat.le_of_ble_eq_true rfl) rfl dX2_hear_66 ?_
      refine g_goto hk dX2_hear_69 ?_
      refine GoAt.sub [1, 2, 0] rfl ?_
      exact hrec _ _ hm (wI_c _) h
    · exact g_return hk dX2_hear_72 (by cases h; rfl)
  · exact g_return hk dX2_hear_72 (by cases h; rfl)
theorem w_Gu_hear_L7 {K : zK} (hk : zOk K kdC cX2_hear 3 none RX2 0)  {o : zM}  : ∀ (n : Nat) (x2 : Int) (m : zM), zG kdC m → cI x2 → Gu_hear_L7 n x2 m = some o → GoAt K m [(0, .ref (kB K + 40)), (1, .ref (kB K + 2)), (2, mI x2)] [] 7 (9, 0, o)
  | 0, x2, m, hm, cx2, h => by cases h
  | n + 1, x2, m, hm, cx2, h => w_Gu_hear_B7 hk  (w_Gu_hear_L7 hk  n) hm cx2 h
set_option maxRecDepth 100000 in
set_option maxHeartbeats 4000000 in
theorem w_Gu_hear {K : zK} (hk : zOk K kdC cX2_hear 3 none RX2 0)  {m : zM} {o : zM}  (hm : zG kdC m)  (h : Gu_hear m = some o) : GoAt K m [(0, .ref (kB K + 40)), (1, .ref (kB K + 2))] [] 0 (9, 0, o) := by
  unfold Gu_hear at h
  refine g_aload_n hk 0 rfl dX2_hear_0 ?_
  refine g_iconst hk (v := 0) rfl dX2_hear_1 ?_
  refine g_put0 hk fp_X2_21 rfl (j := 0) rfl kdC_40 (cIk rfl) dX2_hear_2 h hm (fun m1 hm h => ?_)
  refine g_iconst hk (v := 0) rfl dX2_hear_5 ?_
  refine g_istore_n hk rfl (lv' := [(2, mI 0), (0, .ref (kB K + 40)), (1, .ref (kB K + 2))]) (Nat.le_of_ble_eq_true rfl) rfl dX2_hear_6 ?_
  refine GoAt.sub [1, 2, 0] rfl ?_
  refine w_Gu_hear_L7 hk  1000000 _ _ hm (cIk rfl) h
theorem met_Gu_hear (l : Launch) (D : va_G) (aC : Nat → ClassId) (B N : Nat) (hwd : ∀ id, (kdC id).1 ≠ 9 → id < N) {m : zM} {o : zM} (hm : zG kdC m)  (h : Gu_hear m = some o) : zMet l yX2_hear cX2_hear 3 none 0 D aC B kdC N [.ref (B + 40), .ref (B + 2)] m (9, 0, o) := by
  refine zMet.of mf_X2_hear hwd hm (Nat.le_of_ble_eq_true rfl) (fun K e1 e2 e3 e4 e5 hk => ?_)
  subst e4
  exact w_Gu_hear hk hm  h
set_option maxRecDepth 100000 in
set_option maxHeartbeats 4000000 in
theorem w_C_tell_b55 {K : zK} (hk : zOk K kdC cX11_tell 2 (some .int) RX11 1)  {x1 : Int} {m : zM} {o : Int × zM}  (hm : zG kdC m) (zx1 : zok 4 x1) (h : C_tell_b55 x1 m = some o) : GoAt K m [(0, .ref (kB K + 0)), (1, mI x1)] [] 55 (0, o.1, o.2) := by
  unfold C_tell_b55 at h
  refine g_aload_n hk 0 rfl dX11_tell_55 ?_
  refine g_get2 hk fl_X11_20 rfl kdC_0 hm (b := 2) rfl dX11_tell_56 ?_
  refine g_iconst hk (v := 0) rfl dX11_tell_59 ?_
  refine g_put0 hk fp_X11_95 rfl (j := 1) rfl kdC_2 (cIk rfl) dX11_tell_60 h hm (fun m1 hm h => ?_)
  refine g_iload_n hk 1 rfl dX11_tell_63 ?_
  refine g_if_eq hk (b01 zx1) dX11_tell_64 h (fun b2 h => ?_) (fun b2 h => ?_)
  · refine g_aload_n hk 0 rfl dX11_tell_77 ?_
    refine g_iconst hk (v := 5) rfl dX11_tell_78 ?_
    obtain ⟨r3, e4, h⟩ := zbind h
    refine g_callVi hk (st := []) mf_X11_refuse lk_X11_100 mv_X11_refuse kdC_0 (by decide) rfl (Nat.le_of_ble_eq_true rfl) rfl dX11_tell_79 (met_C_refuse _ _ _ _ _ hk.wd hm (cIk rfl) e4) (fun hm c5 => ?_)
    exact g_ireturn hk c5 dX11_tell_82 (by cases h; rfl)
  · refine g_aload_n hk 0 rfl dX11_tell_67 ?_
    refine g_get2 hk fl_X11_52 rfl kdC_0 hm (b := 40) rfl dX11_tell_68 ?_
    have g6 := zGI (i := 0) hm kdC_40 rfl
    refine g_get0 hk fl_X11_116 rfl (j := 0) rfl kdC_40 dX11_tell_71 ?_
    refine g_goto hk dX11_tell_74 ?_
    exact g_ireturn hk g6 dX11_tell_82 (by cases h; rfl)
set_option maxRecDepth 100000 in
set_option maxHeartbeats 4000000 in
theorem w_C_tell_b39 {K : zK} (hk : zOk K kdC cX11_tell 2 (some .int) RX11 1)  {s0 : Int} {m : zM} {o : Int × zM}  (hm : zG kdC m) (zs0 : zok 4 s0) (h : C_tell_b39 s0 m = some o) : GoAt K m [(0, .ref (kB K + 0))] [mI s0] 39 (0, o.1, o.2) := by
  unfold C_tell_b39 at h
  refine g_istore_n hk rfl (lv' := [(1, mI s0), (0, .ref (kB K + 0))]) (Nat.le_of_ble_eq_true rfl) rfl dX11_tell_39 ?_
  refine g_iload_n hk 0 rfl dX11_tell_40 ?_
  refine g_if_eq hk (b01 zs0) dX11_tell_41 h (fun b1 h => ?_) (fun b1 h => ?_)
  · refine GoAt.sub [1, 0] rfl ?_
    exact w_C_tell_b55 hk hm zs0 h
  · refine g_aload_n hk 1 rfl dX11_tell_44 ?_
    refine g_get2 hk fl_X11_52 rfl kdC_0 hm (b := 40) rfl dX11_tell_45 ?_
    refine g_aload_n hk 1 rfl dX11_tell_48 ?_
    refine g_get2 hk fl_X11_20 rfl kdC_0 hm (b := 2) rfl dX11_tell_49 ?_
    obtain ⟨r2, e3, h⟩ := zbind h
    refine g_callVv hk (st := []) mf_X2_hear lk_X11_282 mv_X2_hear kdC_40 (by decide) rfl (Nat.le_of_ble_eq_true rfl) rfl dX11_tell_52 (met_Gu_hear _ _ _ _ _ hk.wd hm e3) (fun hm => ?_)
    refine GoAt.sub [1, 0] rfl ?_
    exact w_C_tell_b55 hk hm zs0 h
set_option maxRecDepth 100000 in
set_option maxHeartbeats 4000000 in
theorem w_C_tell_b38 {K : zK} (hk : zOk K kdC cX11_tell 2 (some .int) RX11 1)  {m : zM} {o : Int × zM}  (hm : zG kdC m)  (h : C_tell_b38 m = some o) : GoAt K m [(0, .ref (kB K + 0))] [] 38 (0, o.1, o.2) := by
  unfold C_tell_b38 at h
  refine g_iconst hk (v := 0) rfl dX11_tell_38 ?_
  exact w_C_tell_b39 hk hm z0 h
set_option maxRecDepth 100000 in
set_option maxHeartbeats 4000000 in
theorem w_C_tell {K : zK} (hk : zOk K kdC cX11_tell 2 (some .int) RX11 1)  {m : zM} {o : Int × zM}  (hm : zG kdC m)  (h : C_tell m = some o) : GoAt K m [(0, .ref (kB K + 0))] [] 0 (0, o.1, o.2) := by
  unfold C_tell at h
  refine g_aload_n hk 0 rfl dX11_tell_0 ?_
  refine g_get2 hk fl_X11_20 rfl kdC_0 hm (b := 2) rfl dX11_tell_1 ?_
  refine g_aload_n hk 0 rfl dX11_tell_4 ?_
  refine g_get3o hk fl_X11_84 rfl (j := 12) rfl kdC_0 dX11_tell_5 h (fun zz1 kzz1 h => ?_)
  have g2 := zGI (i := 1) hm kzz1 rfl
  refine g_get0 hk fl_X11_131 rfl (j := 1) rfl kzz1 dX11_tell_8 ?_
  refine g_aload_n hk 0 rfl dX11_tell_11 ?_
  refine g_get3o hk fl_X11_84 rfl (j := 12) rfl kdC_0 dX11_tell_12 h (fun zz3 kzz3 h => ?_)
  have g4 := zGI (i := 1) hm kzz3 rfl
  refine g_get0 hk fl_X11_131 rfl (j := 1) rfl kzz3 dX11_tell_15 ?_
  obtain ⟨r5, e6, h⟩ := zbind h
  refine g_callVz hk (st := []) mf_X8_holdsPairs lk_X11_275 mv_X8_holdsPairs kdC_2 (by decide) rfl (Nat.le_of_ble_eq_true rfl) rfl dX11_tell_18 (met_Ta_holdsPairs _ _ _ _ _ hk.wd hm g2 g4 e6) (fun hm c7 => ?_)
  refine g_if_eq hk (b01 c7) dX11_tell_21 h (fun b8 h => ?_) (fun b8 h => ?_)
  · exact w_C_tell_b38 hk hm h
  · refine g_aload_n hk 0 rfl dX11_tell_24 ?_
    refine g_get2 hk fl_X11_20 rfl kdC_0 hm (b := 2) rfl dX11_tell_25 ?_
    obtain ⟨r9, e10, h⟩ := zbind h
    refine g_callVz hk (st := []) mf_X8_pairsUnlike lk_X11_278 mv_X8_pairsUnlike kdC_2 (by decide) rfl (Nat.le_of_ble_eq_true rfl) rfl dX11_tell_28 (met_Ta_pairsUnlike _ _ _ _ _ hk.wd hm e10) (fun hm c11 => ?_)
    refine g_if_eq hk (b01 c11) dX11_tell_31 h (fun b12 h => ?_) (fun b12 h => ?_)
    · exact w_C_tell_b38 hk hm h
    · refine g_iconst hk (v := 1) rfl dX11_tell_34 ?_
      refine g_goto hk dX11_tell_35 ?_
      exact w_C_tell_b39 hk hm z1 h
theorem met_C_tell (l : Launch) (D : va_G) (aC : Nat → ClassId) (B N : Nat) (hwd : ∀ id, (kdC id).1 ≠ 9 → id < N) {m : zM} {o : Int × zM} (hm : zG kdC m)  (h : C_tell m = some o) : zMet l yX11_tell cX11_tell 2 (some .int) 1 D aC B kdC N [.ref (B + 0)] m (0, o.1, o.2) := by
  refine zMet.of mf_X11_tell hwd hm (Nat.le_of_ble_eq_true rfl) (fun K e1 e2 e3 e4 e5 hk => ?_)
  subst e4
  exact w_C_tell hk hm  h
set_option maxRecDepth 100000 in
set_option maxHeartbeats 4000000 in
theorem w_Gu_digit {K : zK} (hk : zOk K kdC cX2_digit 2 (some .int) RX2 0)  {x0 : Int} {x1 : Int} {m : zM} {o : Int}  (hm : zG kdC m) (cx0 : cI x0) (cx1 : cI x1) (h : Gu_digit x0 x1 = some o) : GoAt K m [(0, mI x0), (1, mI x1)] [] 0 (0, o, m) := by
  unfold Gu_digit at h
  refine g_iload_n hk 1 rfl dX2_digit_0 ?_
  refine g_if_ne hk cx1 dX2_digit_1 h (fun b1 h => ?_) (fun b1 h => ?_)
  · refine g_iload_n hk 0 rfl dX2_digit_4 ?_
    refine g_bipush hk (v := 100) rfl dX2_digit_5 ?_
    refine g_idiv hk (cIk rfl) (by decide) dX2_digit_7 ?_
    refine g_goto hk dX2_digit_8 ?_
    exact g_ireturn hk (cI_t _) dX2_digit_30 (by cases h; rfl)
  · refine g_iload_n hk 1 rfl dX2_digit_11 ?_
    refine g_iconst hk (v := 1) rfl dX2_digit_12 ?_
    refine g_icmp_ne hk cx1 (cIk rfl) dX2_digit_13 h (fun b2 h => ?_) (fun b2 h => ?_)
    · refine g_iload_n hk 0 rfl dX2_digit_16 ?_
      refine g_bipush hk (v := 10) rfl dX2_digit_17 ?_
      refine g_idiv hk (cIk rfl) (by decide) dX2_digit_19 ?_
      refine g_bipush hk (v := 10) rfl dX2_digit_20 ?_
      refine g_irem hk (cIk rfl) (by decide) dX2_digit_22 ?_
      refine g_goto hk dX2_digit_23 ?_
      exact g_ireturn hk (cI_t _) dX2_digit_30 (by cases h; rfl)
    · refine g_iload_n hk 0 rfl dX2_digit_26 ?_
      refine g_bipush hk (v := 10) rfl dX2_digit_27 ?_
      refine g_irem hk (cIk rfl) (by decide) dX2_digit_29 ?_
      exact g_ireturn hk (cI_t _) dX2_digit_30 (by cases h; rfl)
theorem met_Gu_digit (l : Launch) (D : va_G) (aC : Nat → ClassId) (B N : Nat) (hwd : ∀ id, (kdC id).1 ≠ 9 → id < N) {x0 : Int} {x1 : Int} {m : zM} {o : Int} (hm : zG kdC m) (cx0 : cI x0) (cx1 : cI x1) (h : Gu_digit x0 x1 = some o) : zMet l yX2_digit cX2_digit 2 (some .int) 0 D aC B kdC N [mI x0, mI x1] m (0, o, m) := by
  refine zMet.of mf_X2_digit hwd hm (Nat.le_of_ble_eq_true rfl) (fun K e1 e2 e3 e4 e5 hk => ?_)
  subst e4
  exact w_Gu_digit hk hm cx0 cx1 h
set_option maxRecDepth 100000 in
set_option maxHeartbeats 4000000 in
theorem w_Gu_lead_B6 {K : zK} (hk : zOk K kdC cX2_lead 6 (some .int) RX2 1) {rec : Int → Nat → Nat → Int → Int → Int → Int → Option (Int)} {x0 : Int} {a1 : Nat} {n1 : Nat} {x2 : Int} {x3 : Int} {x4 : Int} {x5 : Int} {m : zM} {o : Int} (hrec : ∀ (x0 : Int) (a1 : Nat) (n1 : Nat) (x2 : Int) (x3 : Int) (x4 : Int) (x5 : Int), cI x0 → kdC a1 = (1, n1) → cI x2 → cI x3 → cI x4 → cI x5 → rec x0 a1 n1 x2 x3 x4 x5 = some o → GoAt K m [(0, mI x0), (1, .ref (kB K + a1)), (2, mI x2), (3, mI x3), (4, mI x4), (5, mI x5)] [] 6 (0, o, m)) (hm : zG kdC m) (cx0 : cI x0) (ka1 : kdC a1 = (1, n1)) (cx2 : cI x2) (cx3 : cI x3) (cx4 : cI x4) (cx5 : cI x5) (h : Gu_lead_B6 rec x0 a1 n1 x2 x3 x4 x5 m = some o) : GoAt K m [(0, mI x0), (1, .ref (kB K + a1)), (2, mI x2), (3, mI x3), (4, mI x4), (5, mI x5)] [] 6 (0, o, m) := by
  unfold Gu_lead_B6 at h
  refine g_iload hk 5 rfl dX2_lead_6 ?_
  refine g_iconst hk (v := 3) rfl dX2_lead_8 ?_
  refine g_icmp_ge hk cx5 (cIk rfl) dX2_lead_9 h (fun b1 h => ?_) (fun b1 h => ?_)
  · refine g_iload hk 4 rfl dX2_lead_12 ?_
    refine g_iload_n hk 0 rfl dX2_lead_14 ?_
    refine g_iload hk 5 rfl dX2_lead_15 ?_
    obtain ⟨r2, e3, h⟩ := zbind h
    refine g_callSi hk (st := [mI x4]) mf_X2_digit lk_X2_44 ms_X2_digit (by decide) rfl (Nat.le_of_ble_eq_true rfl) rfl dX2_lead_17 (met_Gu_digit _ _ _ _ _ hk.wd hm cx0 cx5 e3) (fun hm c4 => ?_)
    refine g_aload_n hk 1 rfl dX2_lead_20 ?_
    refine g_iload_n hk 2 rfl dX2_lead_21 ?_
    refine g_iconst hk (v := 3) rfl dX2_lead_22 ?_
    refine g_imul hk dX2_lead_23 ?_
    refine g_iload hk 5 rfl dX2_lead_24 ?_
    refine g_iadd hk dX2_lead_26 ?_
    refine g_iald hk (wI_c _) ka1 hm dX2_lead_27 h (fun y5 cy5 h => ?_)
    refine g_aload_n hk 1 rfl dX2_lead_28 ?_
    refine g_iload_n hk 3 rfl dX2_lead_29 ?_
    refine g_iconst hk (v := 3) rfl dX2_lead_30 ?_
    refine g_imul hk dX2_lead_31 ?_
    refine g_iload hk 5 rfl dX2_lead_32 ?_
    refine g_iadd hk dX2_lead_34 ?_
    refine g_iald hk (wI_c _) ka1 hm dX2_lead_35 h (fun y6 cy6 h => ?_)
    refine g_isub hk dX2_lead_36 ?_
    refine g_imul hk dX2_lead_37 ?_
    refine g_iadd hk dX2_lead_38 ?_
    refine g_let (wI_c _) h (fun v7 cv7 h => ?_)
    refine g_istore hk (lv' := [(4, mI v7), (0, mI x0), (1, .ref (kB K + a1)), (2, mI x2), (3, mI x3), (5, mI x5)]) (Nat.le_of_ble_eq_true rfl) rfl dX2_lead_39 ?_
    refine g_iinc hk (lv' := [(5, mI (wI (x5 + 1))), (4, mI v7), (0, mI x0), (1, .ref (kB K + a1)), (2, mI x2), (3, mI x3)]) 5 rfl (Nat.le_of_ble_eq_true rfl) rfl dX2_lead_41 ?_
    refine g_goto hk dX2_lead_44 ?_
    refine GoAt.sub [2, 3, 4, 5, 1, 0] rfl ?_
    exact hrec _ _ _ _ _ _ _ cx0 ka1 cx2 cx3 cv7 (wI_c _) h
  · refine g_iload hk 4 rfl dX2_lead_47 ?_
    exact g_ireturn hk cx4 dX2_lead_49 (by cases h; rfl)
theorem w_Gu_lead_L6 {K : zK} (hk : zOk K kdC cX2_lead 6 (some .int) RX2 1)  {o : Int} {m : zM} (hm : zG kdC m)  : ∀ (n : Nat) (x0 : Int) (a1 : Nat) (n1 : Nat) (x2 : Int) (x3 : Int) (x4 : Int) (x5 : Int), cI x0 → kdC a1 = (1, n1) → cI x2 → cI x3 → cI x4 → cI x5 → Gu_lead_L6 m n x0 a1 n1 x2 x3 x4 x5 = some o → GoAt K m [(0, mI x0), (1, .ref (kB K + a1)), (2, mI x2), (3, mI x3), (4, mI x4), (5, mI x5)] [] 6 (0, o, m)
  | 0, x0, a1, n1, x2, x3, x4, x5, cx0, ka1, cx2, cx3, cx4, cx5, h => by cases h
  | n + 1, x0, a1, n1, x2, x3, x4, x5, cx0, ka1, cx2, cx3, cx4, cx5, h => w_Gu_lead_B6 hk  (w_Gu_lead_L6 hk hm  n) hm cx0 ka1 cx2 cx3 cx4 cx5 h
set_option maxRecDepth 100000 in
set_option maxHeartbeats 4000000 in
theorem w_Gu_lead {K : zK} (hk : zOk K kdC cX2_lead 6 (some .int) RX2 1)  {x0 : Int} {a1 : Nat} {n1 : Nat} {x2 : Int} {x3 : Int} {m : zM} {o : Int}  (hm : zG kdC m) (cx0 : cI x0) (ka1 : kdC a1 = (1, n1)) (cx2 : cI x2) (cx3 : cI x3) (h : Gu_lead x0 a1 n1 x2 x3 m = some o) : GoAt K m [(0, mI x0), (1, .ref (kB K + a1)), (2, mI x2), (3, mI x3)] [] 0 (0, o, m) := by
  unfold Gu_lead at h
  refine g_iconst hk (v := 0) rfl dX2_lead_0 ?_
  refine g_istore hk (lv' := [(4, mI 0), (0, mI x0), (1, .ref (kB K + a1)), (2, mI x2), (3, mI x3)]) (Nat.le_of_ble_eq_true rfl) rfl dX2_lead_1 ?_
  refine g_iconst hk (v := 0) rfl dX2_lead_3 ?_
  refine g_istore hk (lv' := [(5, mI 0), (4, mI 0), (0, mI x0), (1, .ref (kB K + a1)), (2, mI x2), (3, mI x3)]) (Nat.le_of_ble_eq_true rfl) rfl dX2_lead_4 ?_
  refine GoAt.sub [2, 3, 4, 5, 1, 0] rfl ?_
  refine w_Gu_lead_L6 hk hm  1000000 _ _ _ _ _ _ _ cx0 ka1 cx2 cx3 (cIk rfl) (cIk rfl) h
theorem met_Gu_lead (l : Launch) (D : va_G) (aC : Nat → ClassId) (B N : Nat) (hwd : ∀ id, (kdC id).1 ≠ 9 → id < N) {x0 : Int} {a1 : Nat} {n1 : Nat} {x2 : Int} {x3 : Int} {m : zM} {o : Int} (hm : zG kdC m) (cx0 : cI x0) (ka1 : kdC a1 = (1, n1)) (cx2 : cI x2) (cx3 : cI x3) (h : Gu_lead x0 a1 n1 x2 x3 m = some o) : zMet l yX2_lead cX2_lead 6 (some .int) 1 D aC B kdC N [mI x0, .ref (B + a1), mI x2, mI x3] m (0, o, m) := by
  refine zMet.of mf_X2_lead hwd hm (Nat.le_of_ble_eq_true rfl) (fun K e1 e2 e3 e4 e5 hk => ?_)
  subst e4
  exact w_Gu_lead hk hm cx0 ka1 cx2 cx3 h
set_option maxRecDepth 100000 in
set_option maxHeartbeats 4000000 in
theorem w_Gu_fits_B2 {K : zK} (hk : zOk K kdC cX2_fits 4 (some .boolean) RX2 2) {rec : Int → Nat → Nat → Int → Option (Int)} {x1 : Int} {a2 : Nat} {n2 : Nat} {x3 : Int} {m : zM} {o : Int} (hrec : ∀ (x1 : Int) (a2 : Nat) (n2 : Nat) (x3 : Int), cI x1 → kdC a2 = (1, n2) → cI x3 → rec x1 a2 n2 x3 = some o → GoAt K m [(0, .ref (kB K + 40)), (1, mI x1), (2, .ref (kB K + a2)), (3, mI x3)] [] 2 (4, o, m)) (hm : zG kdC m) (cx1 : cI x1) (ka2 : kdC a2 = (1, n2)) (cx3 : cI x3) (h : Gu_fits_B2 rec x1 a2 n2 x3 m = some o) : GoAt K m [(0, .ref (kB K + 40)), (1, mI x1), (2, .ref (kB K + a2)), (3, mI x3)] [] 2 (4, o, m) := by
  unfold Gu_fits_B2 at h
  refine g_iload_n hk 3 rfl dX2_fits_2 ?_
  refine g_aload_n hk 0 rfl dX2_fits_3 ?_
  have g1 := zGI (i := 0) hm kdC_40 rfl
  refine g_get0 hk fl_X2_21 rfl (j := 0) rfl kdC_40 dX2_fits_4 ?_
  refine g_icmp_ge hk cx3 g1 dX2_fits_7 h (fun b2 h => ?_) (fun b2 h => ?_)
  · refine g_iload_n hk 1 rfl dX2_fits_10 ?_
    refine g_aload_n hk 2 rfl dX2_fits_11 ?_
    refine g_aload_n hk 0 rfl dX2_fits_12 ?_
    refine g_get2 hk fl_X2_15 rfl kdC_40 hm (b := 42) rfl dX2_fits_13 ?_
    refine g_iconst hk (v := 2) rfl dX2_fits_16 ?_
    refine g_iload_n hk 3 rfl dX2_fits_17 ?_
    refine g_imul hk dX2_fits_18 ?_
    refine g_iald hk (wI_c _) kdC_42 hm dX2_fits_19 h (fun y3 cy3 h => ?_)
    refine g_aload_n hk 0 rfl dX2_fits_20 ?_
    refine g_get2 hk fl_X2_15 rfl kdC_40 hm (b := 42) rfl dX2_fits_21 ?_
    refine g_iconst hk (v := 2) rfl dX2_fits_24 ?_
    refine g_iload_n hk 3 rfl dX2_fits_25 ?_
    refine g_imul hk dX2_fits_26 ?_
    refine g_iconst hk (v := 1) rfl dX2_fits_27 ?_
    refine g_iadd hk dX2_fits_28 ?_
    refine g_iald hk (wI_c _) kdC_42 hm dX2_fits_29 h (fun y4 cy4 h => ?_)
    obtain ⟨r5, e6, h⟩ := zbind h
    refine g_callSi hk (st := []) mf_X2_lead lk_X2_40 ms_X2_lead (by decide) rfl (Nat.le_of_ble_eq_true rfl) rfl dX2_fits_30 (met_Gu_lead _ _ _ _ _ hk.wd hm cx1 ka2 cy3 cy4 e6) (fun hm c7 => ?_)
    refine g_if_gt hk c7 dX2_fits_33 h (fun b8 h => ?_) (fun b8 h => ?_)
    · refine g_iinc hk (lv' := [(3, mI (wI (x3 + 1))), (0, .ref (kB K + 40)), (1, mI x1), (2, .ref (kB K + a2))]) 3 rfl (Nat.le_of_ble_eq_true rfl) rfl dX2_fits_38 ?_
      refine g_goto hk dX2_fits_41 ?_
      refine GoAt.sub [1, 2, 3, 0] rfl ?_
      exact hrec _ _ _ _ cx1 ka2 (wI_c _) h
    · refine g_iconst hk (v := 0) rfl dX2_fits_36 ?_
      exact g_zreturn hk z0 dX2_fits_37 (by cases h; rfl)
  · refine g_iconst hk (v := 1) rfl dX2_fits_44 ?_
    exact g_zreturn hk z1 dX2_fits_45 (by cases h; rfl)
theorem w_Gu_fits_L2 {K : zK} (hk : zOk K kdC cX2_fits 4 (some .boolean) RX2 2)  {o : Int} {m : zM} (hm : zG kdC m)  : ∀ (n : Nat) (x1 : Int) (a2 : Nat) (n2 : Nat) (x3 : Int), cI x1 → kdC a2 = (1, n2) → cI x3 → Gu_fits_L2 m n x1 a2 n2 x3 = some o → GoAt K m [(0, .ref (kB K + 40)), (1, mI x1), (2, .ref (kB K + a2)), (3, mI x3)] [] 2 (4, o, m)
  | 0, x1, a2, n2, x3, cx1, ka2, cx3, h => by cases h
  | n + 1, x1, a2, n2, x3, cx1, ka2, cx3, h => w_Gu_fits_B2 hk  (w_Gu_fits_L2 hk hm  n) hm cx1 ka2 cx3 h
set_option maxRecDepth 100000 in
set_option maxHeartbeats 4000000 in
theorem w_Gu_fits {K : zK} (hk : zOk K kdC cX2_fits 4 (some .boolean) RX2 2)  {x1 : Int} {a2 : Nat} {n2 : Nat} {m : zM} {o : Int}  (hm : zG kdC m) (cx1 : cI x1) (ka2 : kdC a2 = (1, n2)) (h : Gu_fits x1 a2 n2 m = some o) : GoAt K m [(0, .ref (kB K + 40)), (1, mI x1), (2, .ref (kB K + a2))] [] 0 (4, o, m) := by
  unfold Gu_fits at h
  refine g_iconst hk (v := 0) rfl dX2_fits_0 ?_
  refine g_istore_n hk rfl (lv' := [(3, mI 0), (0, .ref (kB K + 40)), (1, mI x1), (2, .ref (kB K + a2))]) (Nat.le_of_ble_eq_true rfl) rfl dX2_fits_1 ?_
  refine GoAt.sub [1, 2, 3, 0] rfl ?_
  refine w_Gu_fits_L2 hk hm  1000000 _ _ _ _ cx1 ka2 (cIk rfl) h
theorem met_Gu_fits (l : Launch) (D : va_G) (aC : Nat → ClassId) (B N : Nat) (hwd : ∀ id, (kdC id).1 ≠ 9 → id < N) {x1 : Int} {a2 : Nat} {n2 : Nat} {m : zM} {o : Int} (hm : zG kdC m) (cx1 : cI x1) (ka2 : kdC a2 = (1, n2)) (h : Gu_fits x1 a2 n2 m = some o) : zMet l yX2_fits cX2_fits 4 (some .boolean) 2 D aC B kdC N [.ref (B + 40), mI x1, .ref (B + a2)] m (4, o, m) := by
  refine zMet.of mf_X2_fits hwd hm (Nat.le_of_ble_eq_true rfl) (fun K e1 e2 e3 e4 e5 hk => ?_)
  subst e4
  exact w_Gu_fits hk hm cx1 ka2 h
set_option maxRecDepth 100000 in
set_option maxHeartbeats 4000000 in
theorem w_Gu_gather_B7 {K : zK} (hk : zOk K kdC cX2_gather 3 none RX2 3) {rec : Nat → Nat → Int → zM → Option (zM)} {a1 : Nat} {n1 : Nat} {x2 : Int} {m : zM} {o : zM} (hrec : ∀ (a1 : Nat) (n1 : Nat) (x2 : Int) (m : zM), zG kdC m → kdC a1 = (1, n1) → cI x2 → rec a1 n1 x2 m = some o → GoAt K m [(0, .ref (kB K + 40)), (1, .ref (kB K + a1)), (2, mI x2)] [] 7 (9, 0, o)) (hm : zG kdC m) (ka1 : kdC a1 = (1, n1)) (cx2 : cI x2) (h : Gu_gather_B7 rec a1 n1 x2 m = some o) : GoAt K m [(0, .ref (kB K + 40)), (1, .ref (kB K + a1)), (2, mI x2)] [] 7 (9, 0, o) := by
  unfold Gu_gather_B7 at h
  refine g_iload_n hk 2 rfl dX2_gather_7 ?_
  refine g_sipush hk (v := 1000) rfl dX2_gather_8 ?_
  refine g_icmp_ge hk cx2 (cIk rfl) dX2_gather_11 h (fun b1 h => ?_) (fun b1 h => ?_)
  · refine g_aload_n hk 0 rfl dX2_gather_14 ?_
    refine g_iload_n hk 2 rfl dX2_gather_15 ?_
    refine g_aload_n hk 1 rfl dX2_gather_16 ?_
    obtain ⟨r2, e3, h⟩ := zbind h
    refine g_callVz hk (st := []) mf_X2_fits lk_X2_36 mv_X2_fits kdC_40 (by decide) rfl (Nat.le_of_ble_eq_true rfl) rfl dX2_gather_17 (met_Gu_fits _ _ _ _ _ hk.wd hm cx2 ka1 e3) (fun hm c4 => ?_)
    refine g_if_eq hk (b01 c4) dX2_gather_20 h (fun b5 h => ?_) (fun b5 h => ?_)
    · refine g_iinc hk (lv' := [(2, mI (wI (x2 + 1))), (0, .ref (kB K + 40)), (1, .ref (kB K + a1))]) 2 rfl (Nat.le_of_ble_eq_true rfl) rfl dX2_gather_43 ?_
      refine g_goto hk dX2_gather_46 ?_
      refine GoAt.sub [1, 2, 0] rfl ?_
      exact hrec _ _ _ _ hm ka1 (wI_c _) h
    · refine g_aload_n hk 0 rfl dX2_gather_23 ?_
      refine g_get2 hk fl_X2_18 rfl kdC_40 hm (b := 43) rfl dX2_gather_24 ?_
      refine g_aload_n hk 0 rfl dX2_gather_27 ?_
      have g6 := zGI (i := 1) hm kdC_40 rfl
      refine g_get0 hk fl_X2_33 rfl (j := 1) rfl kdC_40 dX2_gather_28 ?_
      refine g_iload_n hk 2 rfl dX2_gather_31 ?_
      refine g_iast hk g6 cx2 kdC_43 hm dX2_gather_32 h (fun m7 hm h => ?_)
      refine g_aload_n hk 0 rfl dX2_gather_33 ?_
      refine g_dup hk rfl dX2_gather_34 ?_
      have g8 := zGI (i := 1) hm kdC_40 rfl
      refine g_get0 hk fl_X2_33 rfl (j := 1) rfl kdC_40 dX2_gather_35 ?_
      refine g_iconst hk (v := 1) rfl dX2_gather_38 ?_
      refine g_iadd hk dX2_gather_39 ?_
      refine g_put0 hk fp_X2_33 rfl (j := 1) rfl kdC_40 (wI_c _) dX2_gather_40 h hm (fun m9 hm h => ?_)
      refine g_iinc hk (lv' := [(2, mI (wI (x2 + 1))), (0, .ref (kB K + 40)), (1, .ref (kB K + a1))]) 2 rfl (Nat.le_of_ble_eq_true rfl) rfl dX2_gather_43 ?_
      refine g_goto hk dX2_gather_46 ?_
      refine GoAt.sub [1, 2, 0] rfl ?_
      exact hrec _ _ _ _ hm ka1 (wI_c _) h
  · exact g_return hk dX2_gather_49 (by cases h; rfl)
theorem w_Gu_gather_L7 {K : zK} (hk : zOk K kdC cX2_gather 3 none RX2 3)  {o : zM}  : ∀ (n : Nat) (a1 : Nat) (n1 : Nat) (x2 : Int) (m : zM), zG kdC m → kdC a1 = (1, n1) → cI x2 → Gu_gather_L7 n a1 n1 x2 m = some o → GoAt K m [(0, .ref (kB K + 40)), (1, .ref (kB K + a1)), (2, mI x2)] [] 7 (9, 0, o)
  | 0, a1, n1, x2, m, hm, ka1, cx2, h => by cases h
  | n + 1, a1, n1, x2, m, hm, ka1, cx2, h => w_Gu_gather_B7 hk  (w_Gu_gather_L7 hk  n) hm ka1 cx2 h
set_option maxRecDepth 100000 in
set_option maxHeartbeats 4000000 in
theorem w_Gu_gather {K : zK} (hk : zOk K kdC cX2_gather 3 none RX2 3)  {a1 : Nat} {n1 : Nat} {m : zM} {o : zM}  (hm : zG kdC m) (ka1 : kdC a1 = (1, n1)) (h : Gu_gather a1 n1 m = some o) : GoAt K m [(0, .ref (kB K + 40)), (1, .ref (kB K + a1))] [] 0 (9, 0, o) := by
  unfold Gu_gather at h
  refine g_aload_n hk 0 rfl dX2_gather_0 ?_
  refine g_iconst hk (v := 0) rfl dX2_gather_1 ?_
  refine g_put0 hk fp_X2_33 rfl (j := 1) rfl kdC_40 (cIk rfl) dX2_gather_2 h hm (fun m1 hm h => ?_)
  refine g_iconst hk (v := 0) rfl dX2_gather_5 ?_
  refine g_istore_n hk rfl (lv' := [(2, mI 0), (0, .ref (kB K + 40)), (1, .ref (kB K + a1))]) (Nat.le_of_ble_eq_true rfl) rfl dX2_gather_6 ?_
  refine GoAt.sub [1, 2, 0] rfl ?_
  refine w_Gu_gather_L7 hk  1000000 _ _ _ _ hm ka1 (cIk rfl) h
theorem met_Gu_gather (l : Launch) (D : va_G) (aC : Nat → ClassId) (B N : Nat) (hwd : ∀ id, (kdC id).1 ≠ 9 → id < N) {a1 : Nat} {n1 : Nat} {m : zM} {o : zM} (hm : zG kdC m) (ka1 : kdC a1 = (1, n1)) (h : Gu_gather a1 n1 m = some o) : zMet l yX2_gather cX2_gather 3 none 3 D aC B kdC N [.ref (B + 40), .ref (B + a1)] m (9, 0, o) := by
  refine zMet.of mf_X2_gather hwd hm (Nat.le_of_ble_eq_true rfl) (fun K e1 e2 e3 e4 e5 hk => ?_)
  subst e4
  exact w_Gu_gather hk hm ka1 h
set_option maxRecDepth 100000 in
set_option maxHeartbeats 4000000 in
theorem w_Gu_least_B4 {K : zK} (hk : zOk K kdC cX2_least 5 (some .int) RX2 1) {rec : Int → Int → Int → Option (Int)} {x1 : Int} {x2 : Int} {x3 : Int} {m : zM} {o : Int} (hrec : ∀ (x1 : Int) (x2 : Int) (x3 : Int), cI x1 → cI x2 → cI x3 → rec x1 x2 x3 = some o → GoAt K m [(0, .ref (kB K + 40)), (1, mI x1), (2, mI x2), (3, mI x3)] [] 4 (0, o, m)) (hm : zG kdC m) (cx1 : cI x1) (cx2 : cI x2) (cx3 : cI x3) (h : Gu_least_B4 rec x1 x2 x3 m = some o) : GoAt K m [(0, .ref (kB K + 40)), (1, mI x1), (2, mI x2), (3, mI x3)] [] 4 (0, o, m) := by
  unfold Gu_least_B4 at h
  refine g_iload_n hk 3 rfl dX2_least_4 ?_
  refine g_aload_n hk 0 rfl dX2_least_5 ?_
  have g1 := zGI (i := 1) hm kdC_40 rfl
  refine g_get0 hk fl_X2_33 rfl (j := 1) rfl kdC_40 dX2_least_6 ?_
  refine g_icmp_ge hk cx3 g1 dX2_least_9 h (fun b2 h => ?_) (fun b2 h => ?_)
  · refine g_aload_n hk 0 rfl dX2_least_12 ?_
    refine g_get2 hk fl_X2_18 rfl kdC_40 hm (b := 43) rfl dX2_least_13 ?_
    refine g_iload_n hk 3 rfl dX2_least_16 ?_
    refine g_iald hk cx3 kdC_43 hm dX2_least_17 h (fun y3 cy3 h => ?_)
    refine g_iload_n hk 1 rfl dX2_least_18 ?_
    obtain ⟨r4, e5, h⟩ := zbind h
    refine g_callSi hk (st := []) mf_X2_digit lk_X2_44 ms_X2_digit (by decide) rfl (Nat.le_of_ble_eq_true rfl) rfl dX2_least_19 (met_Gu_digit _ _ _ _ _ hk.wd hm cy3 cx1 e5) (fun hm c6 => ?_)
    refine g_istore hk (lv' := [(4, mI r4), (0, .ref (kB K + 40)), (1, mI x1), (2, mI x2), (3, mI x3)]) (Nat.le_of_ble_eq_true rfl) rfl dX2_least_22 ?_
    refine g_iload_n hk 3 rfl dX2_least_24 ?_
    refine g_iconst hk (v := (-1)) rfl dX2_least_25 ?_
    refine g_icmp_ne hk cx2 (cIk rfl) dX2_least_26 h (fun b7 h => ?_) (fun b7 h => ?_)
    · refine g_iload hk 0 rfl dX2_least_29 ?_
      refine g_goto hk dX2_least_31 ?_
      refine g_istore_n hk rfl (lv' := [(2, mI r4), (4, mI r4), (0, .ref (kB K + 40)), (1, mI x1), (3, mI x3)]) (Nat.le_of_ble_eq_true rfl) rfl dX2_least_40 ?_
      refine g_iinc hk (lv' := [(3, mI (wI (x3 + 1))), (2, mI r4), (4, mI r4), (0, .ref (kB K + 40)), (1, mI x1)]) 4 rfl (Nat.le_of_ble_eq_true rfl) rfl dX2_least_41 ?_
      refine g_goto hk dX2_least_44 ?_
      refine GoAt.sub [3, 4, 1, 0] rfl ?_
      exact hrec _ _ _ cx1 c6 (wI_c _) h
    · refine g_iload_n hk 3 rfl dX2_least_34 ?_
      refine g_iload hk 0 rfl dX2_least_35 ?_
      refine g_imin hk cx2 c6 lk_X2_48 ms_J9_min_7cf53 mfi_J9_min_7cf53 mfc_J9_min_7cf53 (Nat.le_of_ble_eq_true rfl) (Nat.le_of_ble_eq_true rfl) dX2_least_37 ?_
      refine g_istore_n hk rfl (lv' := [(2, mI (min x2 r4)), (4, mI r4), (0, .ref (kB K + 40)), (1, mI x1), (3, mI x3)]) (Nat.le_of_ble_eq_true rfl) rfl dX2_least_40 ?_
      refine g_iinc hk (lv' := [(3, mI (wI (x3 + 1))), (2, mI (min x2 r4)), (4, mI r4), (0, .ref (kB K + 40)), (1, mI x1)]) 4 rfl (Nat.le_of_ble_eq_true rfl) rfl dX2_least_41 ?_
      refine g_goto hk dX2_least_44 ?_
      refine GoAt.sub [3, 4, 1, 0] rfl ?_
      exact hrec _ _ _ cx1 (cI_min cx2 c6) (wI_c _) h
  · refine g_iload_n hk 2 rfl dX2_least_47 ?_
    exact g_ireturn hk cx2 dX2_least_48 (by cases h; rfl)
theorem w_Gu_least_L4 {K : zK} (hk : zOk K kdC cX2_least 5 (some .int) RX2 1)  {o : Int} {m : zM} (hm : zG kdC m)  : ∀ (n : Nat) (x1 : Int) (x2 : Int) (x3 : Int), cI x1 → cI x2 → cI x3 → Gu_least_L4 m n x1 x2 x3 = some o → GoAt K m [(0, .ref (kB K + 40)), (1, mI x1), (2, mI x2), (3, mI x3)] [] 4 (0, o, m)
  | 0, x1, x2, x3, cx1, cx2, cx3, h => by cases h
  | n + 1, x1, x2, x3, cx1, cx2, cx3, h => w_Gu_least_B4 hk  (w_Gu_least_L4 hk hm  n) hm cx1 cx2 cx3 h
set_option maxRecDepth 100000 in
set_option maxHeartbeats 4000000 in
theorem w_Gu_least {K : zK} (hk : zOk K kdC cX2_least 5 (some .int) RX2 1)  {x1 : Int} {m : zM} {o : Int}  (hm : zG kdC m) (cx1 : cI x1) (h : Gu_least x1 m = some o) : GoAt K m [(0, .ref (kB K + 40)), (1, mI x1)] [] 0 (0, o, m) := by
  unfold Gu_least at h
  refine g_iconst hk (v := (-1)) rfl dX2_least_0 ?_
  refine g_istore_n hk rfl (lv' := [(2, mI ((-1))), (0, .ref (kB K + 40)), (1, mI x1)]) (Nat.le_of_ble_eq_true rfl) rfl dX2_least_1 ?_
  refine g_iconst hk (v := 0) rfl dX2_least_2 ?_
  refine g_istore_n hk rfl (lv' := [(3, mI 0), (2, mI ((-1))), (0, .ref (kB K + 40)), (1, mI x1)]) (Nat.le_of_ble_eq_true rfl) rfl dX2_least_3 ?_
  refine GoAt.sub [2, 3, 1, 0] rfl ?_
  refine w_Gu_least_L4 hk hm  1000000 _ _ _ cx1 (cIk rfl) (cIk rfl) h
theorem met_Gu_least (l : Launch) (D : va_G) (aC : Nat → ClassId) (B N : Nat) (hwd : ∀ id, (kdC id).1 ≠ 9 → id < N) {x1 : Int} {m : zM} {o : Int} (hm : zG kdC m) (cx1 : cI x1) (h : Gu_least x1 m = some o) : zMet l yX2_least cX2_least 5 (some .int) 1 D aC B kdC N [.ref (B + 40), mI x1] m (0, o, m) := by
  refine zMet.of mf_X2_least hwd hm (Nat.le_of_ble_eq_true rfl) (fun K e1 e2 e3 e4 e5 hk => ?_)
  subst e4
  exact w_Gu_least hk hm cx1 h
set_option maxRecDepth 100000 in
set_option maxHeartbeats 4000000 in
theorem w_Gu_greatest_B4 {K : zK} (hk : zOk K kdC cX2_greatest 4 (some .int) RX2 1) {rec : Int → Int → Int → Option (Int)} {x1 : Int} {x2 : Int} {x3 : Int} {m : zM} {o : Int} (hrec : ∀ (x1 : Int) (x2 : Int) (x3 : Int), cI x1 → cI x2 → cI x3 → rec x1 x2 x3 = some o → GoAt K m [(0, .ref (kB K + 40)), (1, mI x1), (2, mI x2), (3, mI x3)] [] 4 (0, o, m)) (hm : zG kdC m) (cx1 : cI x1) (cx2 : cI x2) (cx3 : cI x3) (h : Gu_greatest_B4 rec x1 x2 x3 m = some o) : GoAt K m [(0, .ref (kB K + 40)), (1, mI x1), (2, mI x2), (3, mI x3)] [] 4 (0, o, m) := by
  unfold Gu_greatest_B4 at h
  refine g_iload_n hk 3 rfl dX2_greatest_4 ?_
  refine g_aload_n hk 0 rfl dX2_greatest_5 ?_
  have g1 := zGI (i := 1) hm kdC_40 rfl
  refine g_get0 hk fl_X2_33 rfl (j := 1) rfl kdC_40 dX2_greatest_6 ?_
  refine g_icmp_ge hk cx3 g1 dX2_greatest_9 h (fun b2 h => ?_) (fun b2 h => ?_)
  · refine g_iload_n hk 2 rfl dX2_greatest_12 ?_
    refine g_aload_n hk 0 rfl dX2_greatest_13 ?_
    refine g_get2 hk fl_X2_18 rfl kdC_40 hm (b := 43) rfl dX2_greatest_14 ?_
    refine g_iload_n hk 3 rfl dX2_greatest_17 ?_
    refine g_iald hk cx3 kdC_43 hm dX2_greatest_18 h (fun y3 cy3 h => ?_)
    refine g_iload_n hk 1 rfl dX2_greatest_19 ?_
    obtain ⟨r4, e5, h⟩ := zbind h
    refine g_callSi hk (st := [mI x2]) mf_X2_digit lk_X2_44 ms_X2_digit (by decide) rfl (Nat.le_of_ble_eq_true rfl) rfl dX2_greatest_20 (met_Gu_digit _ _ _ _ _ hk.wd hm cy3 cx1 e5) (fun hm c6 => ?_)
    refine g_imax hk cx2 c6 lk_X2_53 ms_J9_max_7cf53 mfi_J9_max_7cf53 mfc_J9_max_7cf53 (Nat.le_of_ble_eq_true rfl) (Nat.le_of_ble_eq_true rfl) dX2_greatest_23 ?_
    refine g_istore_n hk rfl (lv' := [(2, mI (max x2 r4)), (0, .ref (kB K + 40)), (1, mI x1), (3, mI x3)]) (Nat.le_of_ble_eq_true rfl) rfl dX2_greatest_26 ?_
    refine g_iinc hk (lv' := [(3, mI (wI (x3 + 1))), (2, mI (max x2 r4)), (0, .ref (kB K + 40)), (1, mI x1)]) 3 rfl (Nat.le_of_ble_eq_true rfl) rfl dX2_greatest_27 ?_
    refine g_goto hk dX2_greatest_30 ?_
    refine GoAt.sub [2, 3, 1, 0] rfl ?_
    exact hrec _ _ _ cx1 (cI_max cx2 c6) (wI_c _) h
  · refine g_iload_n hk 2 rfl dX2_greatest_33 ?_
    exact g_ireturn hk cx2 dX2_greatest_34 (by cases h; rfl)
theorem w_Gu_greatest_L4 {K : zK} (hk : zOk K kdC cX2_greatest 4 (some .int) RX2 1)  {o : Int} {m : zM} (hm : zG kdC m)  : ∀ (n : Nat) (x1 : Int) (x2 : Int) (x3 : Int), cI x1 → cI x2 → cI x3 → Gu_greatest_L4 m n x1 x2 x3 = some o → GoAt K m [(0, .ref (kB K + 40)), (1, mI x1), (2, mI x2), (3, mI x3)] [] 4 (0, o, m)
  | 0, x1, x2, x3, cx1, cx2, cx3, h => by cases h
  | n + 1, x1, x2, x3, cx1, cx2, cx3, h => w_Gu_greatest_B4 hk  (w_Gu_greatest_L4 hk hm  n) hm cx1 cx2 cx3 h
set_option maxRecDepth 100000 in
set_option maxHeartbeats 4000000 in
theorem w_Gu_greatest {K : zK} (hk : zOk K kdC cX2_greatest 4 (some .int) RX2 1)  {x1 : Int} {m : zM} {o : Int}  (hm : zG kdC m) (cx1 : cI x1) (h : Gu_greatest x1 m = some o) : GoAt K m [(0, .ref (kB K + 40)), (1, mI x1)] [] 0 (0, o, m) := by
  unfold Gu_greatest at h
  refine g_iconst hk (v := (-1)) rfl dX2_greatest_0 ?_
  refine g_istore_n hk rfl (lv' := [(2, mI ((-1))), (0, .ref (kB K + 40)), (1, mI x1)]) (Nat.le_of_ble_eq_true rfl) rfl dX2_greatest_1 ?_
  refine g_iconst hk (v := 0) rfl dX2_greatest_2 ?_
  refine g_istore_n hk rfl (lv' := [(3, mI 0), (2, mI ((-1))), (0, .ref (kB K + 40)), (1, mI x1)]) (Nat.le_of_ble_eq_true rfl) rfl dX2_greatest_3 ?_
  refine GoAt.sub [2, 3, 1, 0] rfl ?_
  refine w_Gu_greatest_L4 hk hm  1000000 _ _ _ cx1 (cIk rfl) (cIk rfl) h
theorem met_Gu_greatest (l : Launch) (D : va_G) (aC : Nat → ClassId) (B N : Nat) (hwd : ∀ id, (kdC id).1 ≠ 9 → id < N) {x1 : Int} {m : zM} {o : Int} (hm : zG kdC m) (cx1 : cI x1) (h : Gu_greatest x1 m = some o) : zMet l yX2_greatest cX2_greatest 4 (some .int) 1 D aC B kdC N [.ref (B + 40), mI x1] m (0, o, m) := by
  refine zMet.of mf_X2_greatest hwd hm (Nat.le_of_ble_eq_true rfl) (fun K e1 e2 e3 e4 e5 hk => ?_)
  subst e4
  exact w_Gu_greatest hk hm cx1 h
set_option maxRecDepth 100000 in
set_option maxHeartbeats 4000000 in
theorem w_C_tastes {K : zK} (hk : zOk K kdC cX11_tastes 2 (some .int) RX11 4)  {x1 : Int} {m : zM} {o : Int × zM}  (hm : zG kdC m) (cx1 : cI x1) (h : C_tastes x1 m = some o) : GoAt K m [(0, .ref (kB K + 0)), (1, mI x1)] [] 0 (0, o.1, o.2) := by
  unfold C_tastes at h
  refine g_iload_n hk 1 rfl dX11_tastes_0 ?_
  refine g_if_lt hk cx1 dX11_tastes_1 h (fun b1 h => ?_) (fun b1 h => ?_)
  · refine g_iconst hk (v := (-1)) rfl dX11_tastes_10 ?_
    exact g_ireturn hk (cIk rfl) dX11_tastes_11 (by cases h; rfl)
  · refine g_iload_n hk 1 rfl dX11_tastes_4 ?_
    refine g_bipush hk (v := 6) rfl dX11_tastes_5 ?_
    refine g_icmp_le hk cx1 (cIk rfl) dX11_tastes_7 h (fun b2 h => ?_) (fun b2 h => ?_)
    · refine g_iconst hk (v := (-1)) rfl dX11_tastes_10 ?_
      exact g_ireturn hk (cIk rfl) dX11_tastes_11 (by cases h; rfl)
    · refine g_aload_n hk 0 rfl dX11_tastes_12 ?_
      refine g_get2 hk fl_X11_52 rfl kdC_0 hm (b := 40) rfl dX11_tastes_13 ?_
      refine g_aload_n hk 0 rfl dX11_tastes_16 ?_
      refine g_get2 hk fl_X11_24 rfl kdC_0 hm (b := 8) rfl dX11_tastes_17 ?_
      refine g_get2 hk fl_X11_192 rfl kdC_8 hm (b := 9) rfl dX11_tastes_20 ?_
      obtain ⟨r3, e4, h⟩ := zbind h
      refine g_callVv hk (st := []) mf_X2_gather lk_X11_286 mv_X2_gather kdC_40 (by decide) rfl (Nat.le_of_ble_eq_true rfl) rfl dX11_tastes_23 (met_Gu_gather _ _ _ _ _ hk.wd hm kdC_9 e4) (fun hm => ?_)
      refine g_iload_n hk 1 rfl dX11_tastes_26 ?_
      refine g_if_ne hk cx1 dX11_tastes_27 h (fun b6 h => ?_) (fun b6 h => ?_)
      · refine g_aload_n hk 0 rfl dX11_tastes_30 ?_
        refine g_get2 hk fl_X11_52 rfl kdC_0 hm (b := 40) rfl dX11_tastes_31 ?_
        have g7 := zGI (i := 1) hm kdC_40 rfl
        refine g_get0 hk fl_X11_290 rfl (j := 1) rfl kdC_40 dX11_tastes_34 ?_
        exact g_ireturn hk g7 dX11_tastes_37 (by cases h; rfl)
      · refine g_iload_n hk 1 rfl dX11_tastes_38 ?_
        refine g_iconst hk (v := 3) rfl dX11_tastes_39 ?_
        refine g_icmp_gt hk cx1 (cIk rfl) dX11_tastes_40 h (fun b8 h => ?_) (fun b8 h => ?_)
        · refine g_aload_n hk 0 rfl dX11_tastes_56 ?_
          refine g_get2 hk fl_X11_52 rfl kdC_0 hm (b := 40) rfl dX11_tastes_57 ?_
          refine g_iload_n hk 1 rfl dX11_tastes_60 ?_
          refine g_iconst hk (v := 1) rfl dX11_tastes_61 ?_
          refine g_isub hk dX11_tastes_62 ?_
          refine g_iconst hk (v := 3) rfl dX11_tastes_63 ?_
          refine g_isub hk dX11_tastes_64 ?_
          obtain ⟨r9, e10, h⟩ := zbind h
          refine g_callVi hk (st := []) mf_X2_greatest lk_X11_296 mv_X2_greatest kdC_40 (by decide) rfl (Nat.le_of_ble_eq_true rfl) rfl dX11_tastes_65 (met_Gu_greatest _ _ _ _ _ hk.wd hm (wI_c _) e10) (fun hm c11 => ?_)
          exact g_ireturn hk c11 dX11_tastes_68 (by cases h; rfl)
        · refine g_aload_n hk 0 rfl dX11_tastes_43 ?_
          refine g_get2 hk fl_X11_52 rfl kdC_0 hm (b := 40) rfl dX11_tastes_44 ?_
          refine g_iload_n hk 1 rfl dX11_tastes_47 ?_
          refine g_iconst hk (v := 1) rfl dX11_tastes_48 ?_
          refine g_isub hk dX11_tastes_49 ?_
          obtain ⟨r12, e13, h⟩ := zbind h
          refine g_callVi hk (st := []) mf_X2_least lk_X11_293 mv_X2_least kdC_40 (by decide) rfl (Nat.le_of_ble_eq_true rfl) rfl dX11_tastes_50 (met_Gu_least _ _ _ _ _ hk.wd hm (wI_c _) e13) (fun hm c14 => ?_)
          refine g_goto hk dX11_tastes_53 ?_
          exact g_ireturn hk c14 dX11_tastes_68 (by cases h; rfl)
theorem met_C_tastes (l : Launch) (D : va_G) (aC : Nat → ClassId) (B N : Nat) (hwd : ∀ id, (kdC id).1 ≠ 9 → id < N) {x1 : Int} {m : zM} {o : Int × zM} (hm : zG kdC m) (cx1 : cI x1) (h : C_tastes x1 m = some o) : zMet l yX11_tastes cX11_tastes 2 (some .int) 4 D aC B kdC N [.ref (B + 0), mI x1] m (0, o.1, o.2) := by
  refine zMet.of mf_X11_tastes hwd hm (Nat.le_of_ble_eq_true rfl) (fun K e1 e2 e3 e4 e5 hk => ?_)
  subst e4
  exact w_C_tastes hk hm cx1 h
set_option maxRecDepth 100000 in
set_option maxHeartbeats 4000000 in
theorem w_Gu_mostLeft_B9 {K : zK} (hk : zOk K kdC cX2_mostLeft 8 (some .int) RX2 2) {k58 : Int → Int → Option (Int)} {rec : Nat → Nat → Int → Int → Int → Int → Int → Option (Int)} {a1 : Nat} {n1 : Nat} {x2 : Int} {x3 : Int} {x4 : Int} {x5 : Int} {x6 : Int} {m : zM} {o : Int} (hk58 : ∀ (x4 : Int) (x5 : Int), cI x4 → cI x5 → k58 x4 x5 = some o → GoAt K m [(0, .ref (kB K + 40)), (4, mI x4), (5, mI x5)] [] 58 (0, o, m)) (hrec : ∀ (a1 : Nat) (n1 : Nat) (x2 : Int) (x3 : Int) (x4 : Int) (x5 : Int) (x6 : Int), kdC a1 = (1, n1) → cI x2 → cI x3 → cI x4 → cI x5 → cI x6 → rec a1 n1 x2 x3 x4 x5 x6 = some o → GoAt K m [(0, .ref (kB K + 40)), (1, .ref (kB K + a1)), (2, mI x2), (3, mI x3), (4, mI x4), (5, mI x5), (6, mI x6)] [] 9 (0, o, m)) (hm : zG kdC m) (ka1 : kdC a1 = (1, n1)) (cx2 : cI x2) (cx3 : cI x3) (cx4 : cI x4) (cx5 : cI x5) (cx6 : cI x6) (h : Gu_mostLeft_B9 k58 rec a1 n1 x2 x3 x4 x5 x6 m = some o) : GoAt K m [(0, .ref (kB K + 40)), (1, .ref (kB K + a1)), (2, mI x2), (3, mI x3), (4, mI x4), (5, mI x5), (6, mI x6)] [] 9 (0, o, m) := by
  unfold Gu_mostLeft_B9 at h
  refine g_iload hk 6 rfl dX2_mostLeft_9 ?_
  refine g_aload_n hk 0 rfl dX2_mostLeft_11 ?_
  have g1 := zGI (i := 1) hm kdC_40 rfl
  refine g_get0 hk fl_X2_33 rfl (j := 1) rfl kdC_40 dX2_mostLeft_12 ?_
  refine g_icmp_ge hk cx6 g1 dX2_mostLeft_15 h (fun b2 h => ?_) (fun b2 h => ?_)
  · refine g_aload_n hk 0 rfl dX2_mostLeft_18 ?_
    refine g_get2 hk fl_X2_18 rfl kdC_40 hm (b := 43) rfl dX2_mostLeft_19 ?_
    refine g_iload hk 6 rfl dX2_mostLeft_22 ?_
    refine g_iald hk cx6 kdC_43 hm dX2_mostLeft_24 h (fun y3 cy3 h => ?_)
    refine g_aload_n hk 1 rfl dX2_mostLeft_25 ?_
    refine g_iload_n hk 2 rfl dX2_mostLeft_26 ?_
    refine g_iload_n hk 3 rfl dX2_mostLeft_27 ?_
    obtain ⟨r4, e5, h⟩ := zbind h
    refine g_callSi hk (st := []) mf_X2_lead lk_X2_40 ms_X2_lead (by decide) rfl (Nat.le_of_ble_eq_true rfl) rfl dX2_mostLeft_28 (met_Gu_lead _ _ _ _ _ hk.wd hm cy3 ka1 cx2 cx3 e5) (fun hm c6 => ?_)
    refine g_istore hk (lv' := [(7, mI r4), (0, .ref (kB K + 40)), (1, .ref (kB K + a1)), (2, mI x2), (3, mI x3), (4, mI x4), (5, mI x5), (6, mI x6)]) (Nat.le_of_ble_eq_true rfl) rfl dX2_mostLeft_31 ?_
    refine g_iload hk 0 rfl dX2_mostLeft_33 ?_
    refine g_if_le hk c6 dX2_mostLeft_35 h (fun b7 h => ?_) (fun b7 h => ?_)
    · refine g_iinc hk (lv' := [(4, mI (wI (x4 + 1))), (7, mI r4), (0, .ref (kB K + 40)), (1, .ref (kB K + a1)), (2, mI x2), (3, mI x3), (5, mI x5), (6, mI x6)]) 5 rfl (Nat.le_of_ble_eq_true rfl) rfl dX2_mostLeft_38 ?_
      refine g_goto hk dX2_mostLeft_41 ?_
      refine g_iinc hk (lv' := [(6, mI (wI (x6 + 1))), (4, mI (wI (x4 + 1))), (7, mI r4), (0, .ref (kB K + 40)), (1, .ref (kB K + a1)), (2, mI x2), (3, mI x3), (5, mI x5)]) 7 rfl (Nat.le_of_ble_eq_true rfl) rfl dX2_mostLeft_52 ?_
      refine g_goto hk dX2_mostLeft_55 ?_
      refine GoAt.sub [3, 4, 5, 6, 1, 7, 0] rfl ?_
      exact hrec _ _ _ _ _ _ _ ka1 cx2 cx3 (wI_c _) cx5 (wI_c _) h
    · refine g_iload hk 0 rfl dX2_mostLeft_44 ?_
      refine g_if_ge hk c6 dX2_mostLeft_46 h (fun b8 h => ?_) (fun b8 h => ?_)
      · refine g_iinc hk (lv' := [(5, mI (wI (x5 + 1))), (7, mI r4), (0, .ref (kB K + 40)), (1, .ref (kB K + a1)), (2, mI x2), (3, mI x3), (4, mI x4), (6, mI x6)]) 6 rfl (Nat.le_of_ble_eq_true rfl) rfl dX2_mostLeft_49 ?_
        refine g_iinc hk (lv' := [(6, mI (wI (x6 + 1))), (5, mI (wI (x5 + 1))), (7, mI r4), (0, .ref (kB K + 40)), (1, .ref (kB K + a1)), (2, mI x2), (3, mI x3), (4, mI x4)]) 7 rfl (Nat.le_of_ble_eq_true rfl) rfl dX2_mostLeft_52 ?_
        refine g_goto hk dX2_mostLeft_55 ?_
        refine GoAt.sub [3, 4, 5, 6, 7, 1, 0] rfl ?_
        exact hrec _ _ _ _ _ _ _ ka1 cx2 cx3 cx4 (wI_c _) (wI_c _) h
      · refine g_iinc hk (lv' := [(6, mI (wI (x6 + 1))), (7, mI r4), (0, .ref (kB K + 40)), (1, .ref (kB K + a1)), (2, mI x2), (3, mI x3), (4, mI x4), (5, mI x5)]) 7 rfl (Nat.le_of_ble_eq_true rfl) rfl dX2_mostLeft_52 ?_
        refine g_goto hk dX2_mostLeft_55 ?_
        refine GoAt.sub [2, 3, 4, 5, 6, 7, 0] rfl ?_
        exact hrec _ _ _ _ _ _ _ ka1 cx2 cx3 cx4 cx5 (wI_c _) h
  · refine GoAt.sub [0, 4, 5] rfl ?_
    exact hk58 _ _ cx4 cx5 h
theorem w_Gu_mostLeft_L9 {K : zK} (hk : zOk K kdC cX2_mostLeft 8 (some .int) RX2 2) {k58 : Int → Int → Option (Int)} {o : Int} {m : zM} (hm : zG kdC m) (hk58 : ∀ (x4 : Int) (x5 : Int), cI x4 → cI x5 → k58 x4 x5 = some o → GoAt K m [(0, .ref (kB K + 40)), (4, mI x4), (5, mI x5)] [] 58 (0, o, m)) : ∀ (n : Nat) (a1 : Nat) (n1 : Nat) (x2 : Int) (x3 : Int) (x4 : Int) (x5 : Int) (x6 : Int), kdC a1 = (1, n1) → cI x2 → cI x3 → cI x4 → cI x5 → cI x6 → Gu_mostLeft_L9 k58 m n a1 n1 x2 x3 x4 x5 x6 = some o → GoAt K m [(0, .ref (kB K + 40)), (1, .ref (kB K + a1)), (2, mI x2), (3, mI x3), (4, mI x4), (5, mI x5), (6, mI x6)] [] 9 (0, o, m)
  | 0, a1, n1, x2, x3, x4, x5, x6, ka1, cx2, cx3, cx4, cx5, cx6, h => by cases h
  | n + 1, a1, n1, x2, x3, x4, x5, x6, ka1, cx2, cx3, cx4, cx5, cx6, h => w_Gu_mostLeft_B9 hk hk58 (w_Gu_mostLeft_L9 hk hm hk58 n) hm ka1 cx2 cx3 cx4 cx5 cx6 h
set_option maxRecDepth 100000 in
set_option maxHeartbeats 4000000 in
theorem w_Gu_mostLeft {K : zK} (hk : zOk K kdC cX2_mostLeft 8 (some .int) RX2 2)  {a1 : Nat} {n1 : Nat} {x2 : Int} {x3 : Int} {m : zM} {o : Int}  (hm : zG kdC m) (ka1 : kdC a1 = (1, n1)) (cx2 : cI x2) (cx3 : cI x3) (h : Gu_mostLeft a1 n1 x2 x3 m = some o) : GoAt K m [(0, .ref (kB K + 40)), (1, .ref (kB K + a1)), (2, mI x2), (3, mI x3)] [] 0 (0, o, m) := by
  unfold Gu_mostLeft at h
  refine g_iconst hk (v := 0) rfl dX2_mostLeft_0 ?_
  refine g_istore hk (lv' := [(4, mI 0), (0, .ref (kB K + 40)), (1, .ref (kB K + a1)), (2, mI x2), (3, mI x3)]) (Nat.le_of_ble_eq_true rfl) rfl dX2_mostLeft_1 ?_
  refine g_iconst hk (v := 0) rfl dX2_mostLeft_3 ?_
  refine g_istore hk (lv' := [(5, mI 0), (4, mI 0), (0, .ref (kB K + 40)), (1, .ref (kB K + a1)), (2, mI x2), (3, mI x3)]) (Nat.le_of_ble_eq_true rfl) rfl dX2_mostLeft_4 ?_
  refine g_iconst hk (v := 0) rfl dX2_mostLeft_6 ?_
  refine g_istore hk (lv' := [(6, mI 0), (5, mI 0), (4, mI 0), (0, .ref (kB K + 40)), (1, .ref (kB K + a1)), (2, mI x2), (3, mI x3)]) (Nat.le_of_ble_eq_true rfl) rfl dX2_mostLeft_7 ?_
  refine GoAt.sub [3, 4, 5, 6, 2, 1, 0] rfl ?_
  refine w_Gu_mostLeft_L9 hk hm (fun x4_1 x5_1 cx4_1 cx5_1 h => ?_) 1000000 _ _ _ _ _ _ _ ka1 cx2 cx3 (cIk rfl) (cIk rfl) (cIk rfl) h
  · refine g_iload hk 1 rfl dX2_mostLeft_58 ?_
    refine g_iload hk 2 rfl dX2_mostLeft_60 ?_
    refine g_imax hk cx4_1 cx5_1 lk_X2_53 ms_J9_max_7cf53 mfi_J9_max_7cf53 mfc_J9_max_7cf53 (Nat.le_of_ble_eq_true rfl) (Nat.le_of_ble_eq_true rfl) dX2_mostLeft_62 ?_
    refine g_aload_n hk 0 rfl dX2_mostLeft_65 ?_
    have g2 := zGI (i := 1) hm kdC_40 rfl
    refine g_get0 hk fl_X2_33 rfl (j := 1) rfl kdC_40 dX2_mostLeft_66 ?_
    refine g_iload hk 1 rfl dX2_mostLeft_69 ?_
    refine g_isub hk dX2_mostLeft_71 ?_
    refine g_iload hk 2 rfl dX2_mostLeft_72 ?_
    refine g_isub hk dX2_mostLeft_74 ?_
    refine g_imax hk (cI_max cx4_1 cx5_1) (wI_c _) lk_X2_53 ms_J9_max_7cf53 mfi_J9_max_7cf53 mfc_J9_max_7cf53 (Nat.le_of_ble_eq_true rfl) (Nat.le_of_ble_eq_true rfl) dX2_mostLeft_75 ?_
    exact g_ireturn hk (cI_max (cI_max cx4_1 cx5_1) (wI_c _)) dX2_mostLeft_78 (by cases h; rfl)
theorem met_Gu_mostLeft (l : Launch) (D : va_G) (aC : Nat → ClassId) (B N : Nat) (hwd : ∀ id, (kdC id).1 ≠ 9 → id < N) {a1 : Nat} {n1 : Nat} {x2 : Int} {x3 : Int} {m : zM} {o : Int} (hm : zG kdC m) (ka1 : kdC a1 = (1, n1)) (cx2 : cI x2) (cx3 : cI x3) (h : Gu_mostLeft a1 n1 x2 x3 m = some o) : zMet l yX2_mostLeft cX2_mostLeft 8 (some .int) 2 D aC B kdC N [.ref (B + 40), .ref (B + a1), mI x2, mI x3] m (0, o, m) := by
  refine zMet.of mf_X2_mostLeft hwd hm (Nat.le_of_ble_eq_true rfl) (fun K e1 e2 e3 e4 e5 hk => ?_)
  subst e4
  exact w_Gu_mostLeft hk hm ka1 cx2 cx3 h
set_option maxRecDepth 100000 in
set_option maxHeartbeats 4000000 in
theorem w_Gu_findPair_B31 {K : zK} (hk : zOk K kdC cX2_findPair 6 none RX2 3) {k87 : Int → Nat → Nat → Int → zM → Option (zM)} {rec : Int → Nat → Nat → Int → Int → zM → Option (zM)} {x1 : Int} {a2 : Nat} {n2 : Nat} {x3 : Int} {x4 : Int} {m : zM} {o : zM} (hk87 : ∀ (x1 : Int) (a2 : Nat) (n2 : Nat) (x3 : Int) (m : zM), zG kdC m → cI x1 → kdC a2 = (1, n2) → cI x3 → k87 x1 a2 n2 x3 m = some o → GoAt K m [(0, .ref (kB K + 40)), (1, mI x1), (2, .ref (kB K + a2)), (3, mI x3)] [] 87 (9, 0, o)) (hrec : ∀ (x1 : Int) (a2 : Nat) (n2 : Nat) (x3 : Int) (x4 : Int) (m : zM), zG kdC m → cI x1 → kdC a2 = (1, n2) → cI x3 → cI x4 → rec x1 a2 n2 x3 x4 m = some o → GoAt K m [(0, .ref (kB K + 40)), (1, mI x1), (2, .ref (kB K + a2)), (3, mI x3), (4, mI x4)] [] 31 (9, 0, o)) (hm : zG kdC m) (cx1 : cI x1) (ka2 : kdC a2 = (1, n2)) (cx3 : cI x3) (cx4 : cI x4) (h : Gu_findPair_B31 k87 rec x1 a2 n2 x3 x4 m = some o) : GoAt K m [(0, .ref (kB K + 40)), (1, mI x1), (2, .ref (kB K + a2)), (3, mI x3), (4, mI x4)] [] 31 (9, 0, o) := by
  unfold Gu_findPair_B31 at h
  refine g_iload hk 4 rfl dX2_findPair_31 ?_
  refine g_iload_n hk 1 rfl dX2_findPair_33 ?_
  refine g_icmp_ge hk cx4 cx1 dX2_findPair_34 h (fun b1 h => ?_) (fun b1 h => ?_)
  · refine g_aload_n hk 0 rfl dX2_findPair_37 ?_
    refine g_aload_n hk 2 rfl dX2_findPair_38 ?_
    refine g_iload_n hk 3 rfl dX2_findPair_39 ?_
    refine g_iload hk 4 rfl dX2_findPair_40 ?_
    obtain ⟨r2, e3, h⟩ := zbind h
    refine g_callVi hk (st := []) mf_X2_mostLeft lk_X2_60 mv_X2_mostLeft kdC_40 (by decide) rfl (Nat.le_of_ble_eq_true rfl) rfl dX2_findPair_42 (met_Gu_mostLeft _ _ _ _ _ hk.wd hm ka2 cx3 cx4 e3) (fun hm c4 => ?_)
    refine g_istore hk (lv' := [(5, mI r2), (0, .ref (kB K + 40)), (1, mI x1), (2, .ref (kB K + a2)), (3, mI x3), (4, mI x4)]) (Nat.le_of_ble_eq_true rfl) rfl dX2_findPair_45 ?_
    refine g_aload_n hk 1 rfl dX2_findPair_47 ?_
    refine g_get2 hk fl_X2_9 rfl kdC_40 hm (b := 41) rfl dX2_findPair_48 ?_
    refine g_iconst hk (v := 2) rfl dX2_findPair_51 ?_
    refine g_iald hk (cIk rfl) kdC_41 hm dX2_findPair_52 h (fun y5 cy5 h => ?_)
    refine g_iconst hk (v := (-1)) rfl dX2_findPair_53 ?_
    refine g_icmp_eq hk cy5 (cIk rfl) dX2_findPair_54 h (fun b6 h => ?_) (fun b6 h => ?_)
    · refine g_aload_n hk 1 rfl dX2_findPair_68 ?_
      refine g_get2 hk fl_X2_9 rfl kdC_40 hm (b := 41) rfl dX2_findPair_69 ?_
      refine g_iconst hk (v := 0) rfl dX2_findPair_72 ?_
      refine g_iload_n hk 4 rfl dX2_findPair_73 ?_
      refine g_iload hk 5 rfl dX2_findPair_74 ?_
      refine g_iload hk 0 rfl dX2_findPair_76 ?_
      obtain ⟨r7, e8, h⟩ := zbind h
      refine g_callNv hk (st := []) mf_X11_setTriple lk_X2_56 ms_X11_setTriple (by decide) rfl (Nat.le_of_ble_eq_true rfl) rfl dX2_findPair_78 (met_C_setTriple _ _ _ _ _ hk.wd hm kdC_41 (cIk rfl) cx3 cx4 c4 e8) (fun hm => ?_)
      refine g_iinc hk (lv' := [(4, mI (wI (x4 + 1))), (5, mI r2), (0, .ref (kB K + 40)), (1, mI x1), (2, .ref (kB K + a2)), (3, mI x3)]) 5 rfl (Nat.le_of_ble_eq_true rfl) rfl dX2_findPair_81 ?_
      refine g_goto hk dX2_findPair_84 ?_
      refine GoAt.sub [2, 3, 4, 5, 0] rfl ?_
      exact hrec _ _ _ _ _ _ hm cx1 ka2 cx3 (wI_c _) h
    · refine g_iload hk 0 rfl dX2_findPair_57 ?_
      refine g_aload_n hk 1 rfl dX2_findPair_59 ?_
      refine g_get2 hk fl_X2_9 rfl kdC_40 hm (b := 41) rfl dX2_findPair_60 ?_
      refine g_iconst hk (v := 2) rfl dX2_findPair_63 ?_
      refine g_iald hk (cIk rfl) kdC_41 hm dX2_findPair_64 h (fun y10 cy10 h => ?_)
      refine g_icmp_ge hk c4 cy10 dX2_findPair_65 h (fun b11 h => ?_) (fun b11 h => ?_)
      · refine g_aload_n hk 1 rfl dX2_findPair_68 ?_
        refine g_get2 hk fl_X2_9 rfl kdC_40 hm (b := 41) rfl dX2_findPair_69 ?_
        refine g_iconst hk (v := 0) rfl dX2_findPair_72 ?_
        refine g_iload_n hk 4 rfl dX2_findPair_73 ?_
        refine g_iload hk 5 rfl dX2_findPair_74 ?_
        refine g_iload hk 0 rfl dX2_findPair_76 ?_
        obtain ⟨r12, e13, h⟩ := zbind h
        refine g_callNv hk (st := []) mf_X11_setTriple lk_X2_56 ms_X11_setTriple (by decide) rfl (Nat.le_of_ble_eq_true rfl) rfl dX2_findPair_78 (met_C_setTriple _ _ _ _ _ hk.wd hm kdC_41 (cIk rfl) cx3 cx4 c4 e13) (fun hm => ?_)
        refine g_iinc hk (lv' := [(4, mI (wI (x4 + 1))), (5, mI r2), (0, .ref (kB K + 40)), (1, mI x1), (2, .ref (kB K + a2)), (3, mI x3)]) 5 rfl (Nat.le_of_ble_eq_true rfl) rfl dX2_findPair_81 ?_
        refine g_goto hk dX2_findPair_84 ?_
        refine GoAt.sub [2, 3, 4, 5, 0] rfl ?_
        exact hrec _ _ _ _ _ _ hm cx1 ka2 cx3 (wI_c _) h
      · refine g_iinc hk (lv' := [(4, mI (wI (x4 + 1))), (5, mI r2), (0, .ref (kB K + 40)), (1, mI x1), (2, .ref (kB K + a2)), (3, mI x3)]) 5 rfl (Nat.le_of_ble_eq_true rfl) rfl dX2_findPair_81 ?_
        refine g_goto hk dX2_findPair_84 ?_
        refine GoAt.sub [2, 3, 4, 5, 0] rfl ?_
        exact hrec _ _ _ _ _ _ hm cx1 ka2 cx3 (wI_c _) h
  · refine GoAt.sub [0, 1, 2, 3] rfl ?_
    exact hk87 _ _ _ _ _ hm cx1 ka2 cx3 h
theorem w_Gu_findPair_L31 {K : zK} (hk : zOk K kdC cX2_findPair 6 none RX2 3) {k87 : Int → Nat → Nat → Int → zM → Option (zM)} {o : zM} (hk87 : ∀ (x1 : Int) (a2 : Nat) (n2 : Nat) (x3 : Int) (m : zM), zG kdC m → cI x1 → kdC a2 = (1, n2) → cI x3 → k87 x1 a2 n2 x3 m = some o → GoAt K m [(0, .ref (kB K + 40)), (1, mI x1), (2, .ref (kB K + a2)), (3, mI x3)] [] 87 (9, 0, o)) : ∀ (n : Nat) (x1 : Int) (a2 : Nat) (n2 : Nat) (x3 : Int) (x4 : Int) (m : zM), zG kdC m → cI x1 → kdC a2 = (1, n2) → cI x3 → cI x4 → Gu_findPair_L31 k87 n x1 a2 n2 x3 x4 m = some o → GoAt K m [(0, .ref (kB K + 40)), (1, mI x1), (2, .ref (kB K + a2)), (3, mI x3), (4, mI x4)] [] 31 (9, 0, o)
  | 0, x1, a2, n2, x3, x4, m, hm, cx1, ka2, cx3, cx4, h => by cases h
  | n + 1, x1, a2, n2, x3, x4, m, hm, cx1, ka2, cx3, cx4, h => w_Gu_findPair_B31 hk hk87 (w_Gu_findPair_L31 hk hk87 n) hm cx1 ka2 cx3 cx4 h
set_option maxRecDepth 100000 in
set_option maxHeartbeats 4000000 in
theorem w_Gu_findPair_B21 {K : zK} (hk : zOk K kdC cX2_findPair 6 none RX2 3) {rec : Int → Nat → Nat → Int → zM → Option (zM)} {x1 : Int} {a2 : Nat} {n2 : Nat} {x3 : Int} {m : zM} {o : zM} (hrec : ∀ (x1 : Int) (a2 : Nat) (n2 : Nat) (x3 : Int) (m : zM), zG kdC m → cI x1 → kdC a2 = (1, n2) → cI x3 → rec x1 a2 n2 x3 m = some o → GoAt K m [(0, .ref (kB K + 40)), (1, mI x1), (2, .ref (kB K + a2)), (3, mI x3)] [] 21 (9, 0, o)) (hm : zG kdC m) (cx1 : cI x1) (ka2 : kdC a2 = (1, n2)) (cx3 : cI x3) (h : Gu_findPair_B21 rec x1 a2 n2 x3 m = some o) : GoAt K m [(0, .ref (kB K + 40)), (1, mI x1), (2, .ref (kB K + a2)), (3, mI x3)] [] 21 (9, 0, o) := by
  unfold Gu_findPair_B21 at h
  refine g_iload_n hk 3 rfl dX2_findPair_21 ?_
  refine g_iload_n hk 1 rfl dX2_findPair_22 ?_
  refine g_icmp_ge hk cx3 cx1 dX2_findPair_23 h (fun b1 h => ?_) (fun b1 h => ?_)
  · refine g_iload_n hk 3 rfl dX2_findPair_26 ?_
    refine g_iconst hk (v := 1) rfl dX2_findPair_27 ?_
    refine g_iadd hk dX2_findPair_28 ?_
    refine g_let (wI_c _) h (fun v2 cv2 h => ?_)
    refine g_istore hk (lv' := [(4, mI v2), (0, .ref (kB K + 40)), (1, mI x1), (2, .ref (kB K + a2)), (3, mI x3)]) (Nat.le_of_ble_eq_true rfl) rfl dX2_findPair_29 ?_
    refine GoAt.sub [1, 2, 3, 4, 0] rfl ?_
    refine w_Gu_findPair_L31 hk (fun x1_3 a2_3 n2_3 x3_3 m4 hm cx1_3 ka2_3 cx3_3 h => ?_) 1000000 _ _ _ _ _ _ hm cx1 ka2 cx3 cv2 h
    · refine g_iinc hk (lv' := [(3, mI (wI (x3_3 + 1))), (0, .ref (kB K + 40)), (1, mI x1_3), (2, .ref (kB K + a2_3))]) 3 rfl (Nat.le_of_ble_eq_true rfl) rfl dX2_findPair_87 ?_
      refine g_goto hk dX2_findPair_90 ?_
      refine GoAt.sub [1, 2, 3, 0] rfl ?_
      exact hrec _ _ _ _ _ hm cx1_3 ka2_3 (wI_c _) h
  · exact g_return hk dX2_findPair_93 (by cases h; rfl)
theorem w_Gu_findPair_L21 {K : zK} (hk : zOk K kdC cX2_findPair 6 none RX2 3)  {o : zM}  : ∀ (n : Nat) (x1 : Int) (a2 : Nat) (n2 : Nat) (x3 : Int) (m : zM), zG kdC m → cI x1 → kdC a2 = (1, n2) → cI x3 → Gu_findPair_L21 n x1 a2 n2 x3 m = some o → GoAt K m [(0, .ref (kB K + 40)), (1, mI x1), (2, .ref (kB K + a2)), (3, mI x3)] [] 21 (9, 0, o)
  | 0, x1, a2, n2, x3, m, hm, cx1, ka2, cx3, h => by cases h
  | n + 1, x1, a2, n2, x3, m, hm, cx1, ka2, cx3, h => w_Gu_findPair_B21 hk  (w_Gu_findPair_L21 hk  n) hm cx1 ka2 cx3 h
set_option maxRecDepth 100000 in
set_option maxHeartbeats 4000000 in
theorem w_Gu_findPair {K : zK} (hk : zOk K kdC cX2_findPair 6 none RX2 3)  {x1 : Int} {a2 : Nat} {n2 : Nat} {m : zM} {o : zM}  (hm : zG kdC m) (cx1 : cI x1) (ka2 : kdC a2 = (1, n2)) (h : Gu_findPair x1 a2 n2 m = some o) : GoAt K m [(0, .ref (kB K + 40)), (1, mI x1), (2, .ref (kB K + a2))] [] 0 (9, 0, o) := by
  unfold Gu_findPair at h
  refine g_aload_n hk 0 rfl dX2_findPair_0 ?_
  refine g_get2 hk fl_X2_9 rfl kdC_40 hm (b := 41) rfl dX2_findPair_1 ?_
  refine g_iconst hk (v := 0) rfl dX2_findPair_4 ?_
  refine g_iconst hk (v := (-1)) rfl dX2_findPair_5 ?_
  refine g_iconst hk (v := (-1)) rfl dX2_findPair_6 ?_
  refine g_iconst hk (v := (-1)) rfl dX2_findPair_7 ?_
  obtain ⟨r1, e2, h⟩ := zbind h
  refine g_callNv hk (st := []) mf_X11_setTriple lk_X2_56 ms_X11_setTriple (by decide) rfl (Nat.le_of_ble_eq_true rfl) rfl dX2_findPair_8 (met_C_setTriple _ _ _ _ _ hk.wd hm kdC_41 (cIk rfl) (cIk rfl) (cIk rfl) (cIk rfl) e2) (fun hm => ?_)
  refine g_aload_n hk 0 rfl dX2_findPair_11 ?_
  have g4 := zGI (i := 1) hm kdC_40 rfl
  refine g_get0 hk fl_X2_33 rfl (j := 1) rfl kdC_40 dX2_findPair_12 ?_
  refine g_if_ne hk g4 dX2_findPair_15 h (fun b5 h => ?_) (fun b5 h => ?_)
  · exact g_return hk dX2_findPair_18 (by cases h; rfl)
  · refine g_iconst hk (v := 0) rfl dX2_findPair_19 ?_
    refine g_istore_n hk rfl (lv' := [(3, mI 0), (0, .ref (kB K + 40)), (1, mI x1), (2, .ref (kB K + a2))]) (Nat.le_of_ble_eq_true rfl) rfl dX2_findPair_20 ?_
    refine GoAt.sub [1, 2, 3, 0] rfl ?_
    refine w_Gu_findPair_L21 hk  1000000 _ _ _ _ _ hm cx1 ka2 (cIk rfl) h
theorem met_Gu_findPair (l : Launch) (D : va_G) (aC : Nat → ClassId) (B N : Nat) (hwd : ∀ id, (kdC id).1 ≠ 9 → id < N) {x1 : Int} {a2 : Nat} {n2 : Nat} {m : zM} {o : zM} (hm : zG kdC m) (cx1 : cI x1) (ka2 : kdC a2 = (1, n2)) (h : Gu_findPair x1 a2 n2 m = some o) : zMet l yX2_findPair cX2_findPair 6 none 3 D aC B kdC N [.ref (B + 40), mI x1, .ref (B + a2)] m (9, 0, o) := by
  refine zMet.of mf_X2_findPair hwd hm (Nat.le_of_ble_eq_true rfl) (fun K e1 e2 e3 e4 e5 hk => ?_)
  subst e4
  exact w_Gu_findPair hk hm cx1 ka2 h
set_option maxRecDepth 100000 in
set_option maxHeartbeats 4000000 in
theorem w_C_send {K : zK} (hk : zOk K kdC cX11_send 2 (some .int) RX11 4)  {x1 : Int} {m : zM} {o : Int × zM}  (hm : zG kdC m) (cx1 : cI x1) (h : C_send x1 m = some o) : GoAt K m [(0, .ref (kB K + 0)), (1, mI x1)] [] 0 (0, o.1, o.2) := by
  unfold C_send at h
  refine g_iload_n hk 1 rfl dX11_send_0 ?_
  refine g_if_lt hk cx1 dX11_send_1 h (fun b1 h => ?_) (fun b1 h => ?_)
  · refine g_iconst hk (v := (-1)) rfl dX11_send_9 ?_
    exact g_ireturn hk (cIk rfl) dX11_send_10 (by cases h; rfl)
  · refine g_iload_n hk 1 rfl dX11_send_4 ?_
    refine g_iconst hk (v := 2) rfl dX11_send_5 ?_
    refine g_icmp_le hk cx1 (cIk rfl) dX11_send_6 h (fun b2 h => ?_) (fun b2 h => ?_)
    · refine g_iconst hk (v := (-1)) rfl dX11_send_9 ?_
      exact g_ireturn hk (cIk rfl) dX11_send_10 (by cases h; rfl)
    · refine g_aload_n hk 0 rfl dX11_send_11 ?_
      refine g_get2 hk fl_X11_52 rfl kdC_0 hm (b := 40) rfl dX11_send_12 ?_
      refine g_aload_n hk 0 rfl dX11_send_15 ?_
      refine g_get2 hk fl_X11_24 rfl kdC_0 hm (b := 8) rfl dX11_send_16 ?_
      refine g_get2 hk fl_X11_192 rfl kdC_8 hm (b := 9) rfl dX11_send_19 ?_
      obtain ⟨r3, e4, h⟩ := zbind h
      refine g_callVv hk (st := []) mf_X2_gather lk_X11_286 mv_X2_gather kdC_40 (by decide) rfl (Nat.le_of_ble_eq_true rfl) rfl dX11_send_22 (met_Gu_gather _ _ _ _ _ hk.wd hm kdC_9 e4) (fun hm => ?_)
      refine g_aload_n hk 0 rfl dX11_send_25 ?_
      refine g_get2 hk fl_X11_52 rfl kdC_0 hm (b := 40) rfl dX11_send_26 ?_
      refine g_aload_n hk 0 rfl dX11_send_29 ?_
      refine g_get3o hk fl_X11_84 rfl (j := 12) rfl kdC_0 dX11_send_30 h (fun zz6 kzz6 h => ?_)
      have g7 := zGI (i := 1) hm kzz6 rfl
      refine g_get0 hk fl_X11_131 rfl (j := 1) rfl kzz6 dX11_send_33 ?_
      refine g_aload_n hk 0 rfl dX11_send_36 ?_
      refine g_get2 hk fl_X11_24 rfl kdC_0 hm (b := 8) rfl dX11_send_37 ?_
      refine g_get2 hk fl_X11_192 rfl kdC_8 hm (b := 9) rfl dX11_send_40 ?_
      obtain ⟨r8, e9, h⟩ := zbind h
      refine g_callVv hk (st := []) mf_X2_findPair lk_X11_299 mv_X2_findPair kdC_40 (by decide) rfl (Nat.le_of_ble_eq_true rfl) rfl dX11_send_43 (met_Gu_findPair _ _ _ _ _ hk.wd hm g7 kdC_9 e9) (fun hm => ?_)
      refine g_aload_n hk 0 rfl dX11_send_46 ?_
      refine g_get2 hk fl_X11_52 rfl kdC_0 hm (b := 40) rfl dX11_send_47 ?_
      refine g_get2 hk fl_X11_303 rfl kdC_40 hm (b := 41) rfl dX11_send_50 ?_
      refine g_iload_n hk 1 rfl dX11_send_53 ?_
      refine g_iald hk cx1 kdC_41 hm dX11_send_54 h (fun y11 cy11 h => ?_)
      exact g_ireturn hk cy11 dX11_send_55 (by cases h; rfl)
theorem met_C_send (l : Launch) (D : va_G) (aC : Nat → ClassId) (B N : Nat) (hwd : ∀ id, (kdC id).1 ≠ 9 → id < N) {x1 : Int} {m : zM} {o : Int × zM} (hm : zG kdC m) (cx1 : cI x1) (h : C_send x1 m = some o) : zMet l yX11_send cX11_send 2 (some .int) 4 D aC B kdC N [.ref (B + 0), mI x1] m (0, o.1, o.2) := by
  refine zMet.of mf_X11_send hwd hm (Nat.le_of_ble_eq_true rfl) (fun K e1 e2 e3 e4 e5 hk => ?_)
  subst e4
  exact w_C_send hk hm cx1 h
set_option maxRecDepth 100000 in
set_option maxHeartbeats 4000000 in
theorem w_Ri_hold_B8 {K : zK} (hk : zOk K kdC cX6_hold 5 none RX6 5) {rec : Nat → Nat → Int → zM → Option (zM)} {o1 : Nat} {o2 : Nat} {x4 : Int} {m : zM} {o : zM} (hrec : ∀ (o1 : Nat) (o2 : Nat) (x4 : Int) (m : zM), zG kdC m → kdC o1 = (0, 10) → kdC o2 = (0, 7) → cI x4 → rec o1 o2 x4 m = some o → GoAt K m [(0, .ref (kB K + 44)), (1, .ref (kB K + o1)), (2, .ref (kB K + o2)), (3, .ref (kB K + 25)), (4, mI x4)] [] 8 (9, 0, o)) (hm : zG kdC m) (ko1 : kdC o1 = (0, 10)) (ko2 : kdC o2 = (0, 7)) (cx4 : cI x4) (h : Ri_hold_B8 rec o1 o2 x4 m = some o) : GoAt K m [(0, .ref (kB K + 44)), (1, .ref (kB K + o1)), (2, .ref (kB K + o2)), (3, .ref (kB K + 25)), (4, mI x4)] [] 8 (9, 0, o) := by
  unfold Ri_hold_B8 at h
  refine g_iload hk 4 rfl dX6_hold_8 ?_
  refine g_aload_n hk 1 rfl dX6_hold_10 ?_
  have g1 := zGI (i := 0) hm ko1 rfl
  refine g_get0 hk fl_X6_32 rfl (j := 0) rfl ko1 dX6_hold_11 ?_
  refine g_icmp_ge hk cx4 g1 dX6_hold_14 h (fun b2 h => ?_) (fun b2 h => ?_)
  · refine g_aload_n hk 0 rfl dX6_hold_17 ?_
    refine g_get2 hk fl_X6_9 rfl kdC_44 hm (b := 45) rfl dX6_hold_18 ?_
    refine g_iload hk 4 rfl dX6_hold_21 ?_
    refine g_aload_n hk 3 rfl dX6_hold_23 ?_
    refine g_aload_n hk 1 rfl dX6_hold_24 ?_
    refine g_aload_n hk 2 rfl dX6_hold_25 ?_
    refine g_iload hk 4 rfl dX6_hold_26 ?_
    refine g_iconst hk (v := 0) rfl dX6_hold_28 ?_
    refine g_iconst hk (v := 1) rfl dX6_hold_29 ?_
    refine g_aload_n hk 1 rfl dX6_hold_30 ?_
    have g3 := zGI (i := 14) hm ko1 rfl
    refine g_get0 hk fl_X6_49 rfl (j := 14) rfl ko1 dX6_hold_31 ?_
    refine g_imax hk (cIk rfl) g3 lk_X6_52 ms_J9_max_7cf53 mfi_J9_max_7cf53 mfc_J9_max_7cf53 (Nat.le_of_ble_eq_true rfl) (Nat.le_of_ble_eq_true rfl) dX6_hold_34 ?_
    obtain ⟨r4, e5, h⟩ := zbind h
    refine g_callVi hk (st := [mI x4, .ref (kB K + 45)]) mf_X4_favourite lk_X6_58 mv_X4_favourite kdC_25 (by decide) rfl (Nat.le_of_ble_eq_true rfl) rfl dX6_hold_37 (met_Ke_favourite _ _ _ _ _ hk.wd hm ko1 ko2 cx4 (cIk rfl) (cI_max (cIk rfl) g3) e5) (fun hm c6 => ?_)
    refine g_iast hk cx4 c6 kdC_45 hm dX6_hold_40 h (fun m7 hm h => ?_)
    refine g_aload_n hk 0 rfl dX6_hold_41 ?_
    refine g_get2 hk fl_X6_15 rfl kdC_44 hm (b := 46) rfl dX6_hold_42 ?_
    refine g_iload hk 4 rfl dX6_hold_45 ?_
    refine g_iconst hk (v := (-1)) rfl dX6_hold_47 ?_
    refine g_iast hk cx4 (cIk rfl) kdC_46 hm dX6_hold_48 h (fun m8 hm h => ?_)
    refine g_aload_n hk 0 rfl dX6_hold_49 ?_
    refine g_get2 hk fl_X6_18 rfl kdC_44 hm (b := 47) rfl dX6_hold_50 ?_
    refine g_iload hk 4 rfl dX6_hold_53 ?_
    refine g_iconst hk (v := (-1)) rfl dX6_hold_55 ?_
    refine g_iast hk cx4 (cIk rfl) kdC_47 hm dX6_hold_56 h (fun m9 hm h => ?_)
    refine g_aload_n hk 0 rfl dX6_hold_57 ?_
    refine g_get2 hk fl_X6_9 rfl kdC_44 hm (b := 45) rfl dX6_hold_58 ?_
    refine g_iload hk 4 rfl dX6_hold_61 ?_
    refine g_iald hk cx4 kdC_45 hm dX6_hold_63 h (fun y10 cy10 h => ?_)
    refine g_iconst hk (v := (-1)) rfl dX6_hold_64 ?_
    refine g_icmp_eq hk cy10 (cIk rfl) dX6_hold_65 h (fun b11 h => ?_) (fun b11 h => ?_)
    · refine g_iinc hk (lv' := [(4, mI (wI (x4 + 1))), (0, .ref (kB K + 44)), (1, .ref (kB K + o1)), (2, .ref (kB K + o2)), (3, .ref (kB K + 25))]) 4 rfl (Nat.le_of_ble_eq_true rfl) rfl dX6_hold_81 ?_
      refine g_goto hk dX6_hold_84 ?_
      refine GoAt.sub [1, 2, 3, 4, 0] rfl ?_
      exact hrec _ _ _ _ hm ko1 ko2 (wI_c _) h
    · refine g_aload_n hk 0 rfl dX6_hold_68 ?_
      refine g_dup hk rfl dX6_hold_69 ?_
      have g12 := zGI (i := 4) hm kdC_44 rfl
      refine g_get0 hk fl_X6_28 rfl (j := 4) rfl kdC_44 dX6_hold_70 ?_
      refine g_iconst hk (v := 1) rfl dX6_hold_73 ?_
      refine g_iload hk 4 rfl dX6_hold_74 ?_
      refine g_ishl hk dX6_hold_76 ?_
      refine g_ior hk dX6_hold_77 ?_
      refine g_put0 hk fp_X6_28 rfl (j := 4) rfl kdC_44 (cI_t _) dX6_hold_78 h hm (fun m13 hm h => ?_)
      refine g_iinc hk (lv' := [(4, mI (wI (x4 + 1))), (0, .ref (kB K + 44)), (1, .ref (kB K + o1)), (2, .ref (kB K + o2)), (3, .ref (kB K + 25))]) 4 rfl (Nat.le_of_ble_eq_true rfl) rfl dX6_hold_81 ?_
      refine g_goto hk dX6_hold_84 ?_
      refine GoAt.sub [1, 2, 3, 4, 0] rfl ?_
      exact hrec _ _ _ _ hm ko1 ko2 (wI_c _) h
  · exact g_return hk dX6_hold_87 (by cases h; rfl)
theorem w_Ri_hold_L8 {K : zK} (hk : zOk K kdC cX6_hold 5 none RX6 5)  {o : zM}  : ∀ (n : Nat) (o1 : Nat) (o2 : Nat) (x4 : Int) (m : zM), zG kdC m → kdC o1 = (0, 10) → kdC o2 = (0, 7) → cI x4 → Ri_hold_L8 n o1 o2 x4 m = some o → GoAt K m [(0, .ref (kB K + 44)), (1, .ref (kB K + o1)), (2, .ref (kB K + o2)), (3, .ref (kB K + 25)), (4, mI x4)] [] 8 (9, 0, o)
  | 0, o1, o2, x4, m, hm, ko1, ko2, cx4, h => by cases h
  | n + 1, o1, o2, x4, m, hm, ko1, ko2, cx4, h => w_Ri_hold_B8 hk  (w_Ri_hold_L8 hk  n) hm ko1 ko2 cx4 h
set_option maxRecDepth 100000 in
set_option maxHeartbeats 4000000 in
theorem w_Ri_hold {K : zK} (hk : zOk K kdC cX6_hold 5 none RX6 5)  {o1 : Nat} {o2 : Nat} {m : zM} {o : zM}  (hm : zG kdC m) (ko1 : kdC o1 = (0, 10)) (ko2 : kdC o2 = (0, 7)) (h : Ri_hold o1 o2 m = some o) : GoAt K m [(0, .ref (kB K + 44)), (1, .ref (kB K + o1)), (2, .ref (kB K + o2)), (3, .ref (kB K + 25))] [] 0 (9, 0, o) := by
  unfold Ri_hold at h
  refine g_aload_n hk 0 rfl dX6_hold_0 ?_
  refine g_iconst hk (v := 0) rfl dX6_hold_1 ?_
  refine g_put0 hk fp_X6_28 rfl (j := 4) rfl kdC_44 (cIk rfl) dX6_hold_2 h hm (fun m1 hm h => ?_)
  refine g_iconst hk (v := 0) rfl dX6_hold_5 ?_
  refine g_istore hk (lv' := [(4, mI 0), (0, .ref (kB K + 44)), (1, .ref (kB K + o1)), (2, .ref (kB K + o2)), (3, .ref (kB K + 25))]) (Nat.le_of_ble_eq_true rfl) rfl dX6_hold_6 ?_
  refine GoAt.sub [1, 2, 3, 4, 0] rfl ?_
  refine w_Ri_hold_L8 hk  1000000 _ _ _ _ hm ko1 ko2 (cIk rfl) h
theorem met_Ri_hold (l : Launch) (D : va_G) (aC : Nat → ClassId) (B N : Nat) (hwd : ∀ id, (kdC id).1 ≠ 9 → id < N) {o1 : Nat} {o2 : Nat} {m : zM} {o : zM} (hm : zG kdC m) (ko1 : kdC o1 = (0, 10)) (ko2 : kdC o2 = (0, 7)) (h : Ri_hold o1 o2 m = some o) : zMet l yX6_hold cX6_hold 5 none 5 D aC B kdC N [.ref (B + 44), .ref (B + o1), .ref (B + o2), .ref (B + 25)] m (9, 0, o) := by
  refine zMet.of mf_X6_hold hwd hm (Nat.le_of_ble_eq_true rfl) (fun K e1 e2 e3 e4 e5 hk => ?_)
  subst e4
  exact w_Ri_hold hk hm ko1 ko2 h
set_option maxRecDepth 100000 in
set_option maxHeartbeats 4000000 in
theorem w_Ri_isLeft {K : zK} (hk : zOk K kdC cX6_isLeft 2 (some .boolean) RX6 0)  {x1 : Int} {m : zM} {o : Int}  (hm : zG kdC m) (cx1 : cI x1) (h : Ri_isLeft x1 m = some o) : GoAt K m [(0, .ref (kB K + 44)), (1, mI x1)] [] 0 (4, o, m) := by
  unfold Ri_isLeft at h
  refine g_aload_n hk 0 rfl dX6_isLeft_0 ?_
  have g1 := zGI (i := 4) hm kdC_44 rfl
  refine g_get0 hk fl_X6_28 rfl (j := 4) rfl kdC_44 dX6_isLeft_1 ?_
  refine g_iload_n hk 1 rfl dX6_isLeft_4 ?_
  refine g_ishr hk dX6_isLeft_5 ?_
  refine g_iconst hk (v := 1) rfl dX6_isLeft_6 ?_
  refine g_iand hk dX6_isLeft_7 ?_
  refine g_if_eq hk (cI_t _) dX6_isLeft_8 h (fun b2 h => ?_) (fun b2 h => ?_)
  · refine g_iconst hk (v := 0) rfl dX6_isLeft_15 ?_
    exact g_zreturn hk z0 dX6_isLeft_16 (by cases h; rfl)
  · refine g_iconst hk (v := 1) rfl dX6_isLeft_11 ?_
    refine g_goto hk dX6_isLeft_12 ?_
    exact g_zreturn hk z1 dX6_isLeft_16 (by cases h; rfl)
theorem met_Ri_isLeft (l : Launch) (D : va_G) (aC : Nat → ClassId) (B N : Nat) (hwd : ∀ id, (kdC id).1 ≠ 9 → id < N) {x1 : Int} {m : zM} {o : Int} (hm : zG kdC m) (cx1 : cI x1) (h : Ri_isLeft x1 m = some o) : zMet l yX6_isLeft cX6_isLeft 2 (some .boolean) 0 D aC B kdC N [.ref (B + 44), mI x1] m (4, o, m) := by
  refine zMet.of mf_X6_isLeft hwd hm (Nat.le_of_ble_eq_true rfl) (fun K e1 e2 e3 e4 e5 hk => ?_)
  subst e4
  exact w_Ri_isLeft hk hm cx1 h
set_option maxRecDepth 100000 in
set_option maxHeartbeats 4000000 in
theorem w_Ri_pointed_B24 {K : zK} (hk : zOk K kdC cX6_pointed 9 (some .int) RX6 4) {rec : Nat → Nat → Int → Int → Int → Int → zM → Option (Int × zM)} {o1 : Nat} {o2 : Nat} {x4 : Int} {x5 : Int} {x6 : Int} {x7 : Int} {m : zM} {o : Int × zM} (hrec : ∀ (o1 : Nat) (o2 : Nat) (x4 : Int) (x5 : Int) (x6 : Int) (x7 : Int) (m : zM), zG kdC m → kdC o1 = (0, 10) → kdC o2 = (0, 7) → cI x4 → cI x5 → cI x6 → cI x7 → rec o1 o2 x4 x5 x6 x7 m = some o → GoAt K m [(0, .ref (kB K + 44)), (1, .ref (kB K + o1)), (2, .ref (kB K + o2)), (3, .ref (kB K + 25)), (4, mI x4), (5, mI x5), (6, mI x6), (7, mI x7)] [] 24 (0, o.1, o.2)) (hm : zG kdC m) (ko1 : kdC o1 = (0, 10)) (ko2 : kdC o2 = (0, 7)) (cx4 : cI x4) (cx5 : cI x5) (cx6 : cI x6) (cx7 : cI x7) (h : Ri_pointed_B24 rec o1 o2 x4 x5 x6 x7 m = some o) : GoAt K m [(0, .ref (kB K + 44)), (1, .ref (kB K + o1)), (2, .ref (kB K + o2)), (3, .ref (kB K + 25)), (4, mI x4), (5, mI x5), (6, mI x6), (7, mI x7)] [] 24 (0, o.1, o.2) := by
  unfold Ri_pointed_B24 at h
  refine g_iload hk 7 rfl dX6_pointed_24 ?_
  refine g_aload_n hk 1 rfl dX6_pointed_26 ?_
  have g1 := zGI (i := 0) hm ko1 rfl
  refine g_get0 hk fl_X6_32 rfl (j := 0) rfl ko1 dX6_pointed_27 ?_
  refine g_icmp_ge hk cx7 g1 dX6_pointed_30 h (fun b2 h => ?_) (fun b2 h => ?_)
  · refine g_aload_n hk 0 rfl dX6_pointed_33 ?_
    refine g_iload hk 7 rfl dX6_pointed_34 ?_
    obtain ⟨r3, e4, h⟩ := zbind h
    refine g_callVz hk (st := []) mf_X6_isLeft lk_X6_37 mv_X6_isLeft kdC_44 (by decide) rfl (Nat.le_of_ble_eq_true rfl) rfl dX6_pointed_36 (met_Ri_isLeft _ _ _ _ _ hk.wd hm cx7 e4) (fun hm c5 => ?_)
    refine g_if_eq hk (b01 c5) dX6_pointed_39 h (fun b6 h => ?_) (fun b6 h => ?_)
    · refine g_iinc hk (lv' := [(7, mI (wI (x7 + 1))), (0, .ref (kB K + 44)), (1, .ref (kB K + o1)), (2, .ref (kB K + o2)), (3, .ref (kB K + 25)), (4, mI x4), (5, mI x5), (6, mI x6)]) 7 rfl (Nat.le_of_ble_eq_true rfl) rfl dX6_pointed_74 ?_
      refine g_goto hk dX6_pointed_77 ?_
      refine GoAt.sub [1, 2, 3, 4, 5, 6, 7, 0] rfl ?_
      exact hrec _ _ _ _ _ _ _ hm ko1 ko2 cx4 cx5 cx6 (wI_c _) h
    · refine g_aload_n hk 3 rfl dX6_pointed_42 ?_
      refine g_aload_n hk 1 rfl dX6_pointed_43 ?_
      refine g_aload_n hk 2 rfl dX6_pointed_44 ?_
      refine g_iload hk 4 rfl dX6_pointed_45 ?_
      refine g_aload_n hk 0 rfl dX6_pointed_47 ?_
      refine g_get2 hk fl_X6_9 rfl kdC_44 hm (b := 45) rfl dX6_pointed_48 ?_
      refine g_iload hk 7 rfl dX6_pointed_51 ?_
      refine g_iald hk cx7 kdC_45 hm dX6_pointed_53 h (fun y7 cy7 h => ?_)
      obtain ⟨r8, e9, h⟩ := zbind h
      refine g_callVi hk (st := []) mf_X4_liking lk_X6_64 mv_X4_liking kdC_25 (by decide) rfl (Nat.le_of_ble_eq_true rfl) rfl dX6_pointed_54 (met_Ke_liking _ _ _ _ _ hk.wd hm ko1 ko2 cx4 cy7 e9) (fun hm c10 => ?_)
      refine g_istore hk (lv' := [(8, mI r8.1), (0, .ref (kB K + 44)), (1, .ref (kB K + o1)), (2, .ref (kB K + o2)), (3, .ref (kB K + 25)), (4, mI x4), (5, mI x5), (6, mI x6), (7, mI x7)]) (Nat.le_of_ble_eq_true rfl) rfl dX6_pointed_57 ?_
      refine g_iload hk 0 rfl dX6_pointed_59 ?_
      refine g_iload hk 7 rfl dX6_pointed_61 ?_
      refine g_icmp_le hk c10 cx6 dX6_pointed_63 h (fun b11 h => ?_) (fun b11 h => ?_)
      · refine g_iload hk 0 rfl dX6_pointed_66 ?_
        refine g_istore hk (lv' := [(6, mI r8.1), (8, mI r8.1), (0, .ref (kB K + 44)), (1, .ref (kB K + o1)), (2, .ref (kB K + o2)), (3, .ref (kB K + 25)), (4, mI x4), (5, mI x5), (7, mI x7)]) (Nat.le_of_ble_eq_true rfl) rfl dX6_pointed_68 ?_
        refine g_iload hk 8 rfl dX6_pointed_70 ?_
        refine g_istore hk (lv' := [(5, mI x7), (6, mI r8.1), (8, mI r8.1), (0, .ref (kB K + 44)), (1, .ref (kB K + o1)), (2, .ref (kB K + o2)), (3, .ref (kB K + 25)), (4, mI x4), (7, mI x7)]) (Nat.le_of_ble_eq_true rfl) rfl dX6_pointed_72 ?_
        refine g_iinc hk (lv' := [(7, mI (wI (x7 + 1))), (5, mI x7), (6, mI r8.1), (8, mI r8.1), (0, .ref (kB K + 44)), (1, .ref (kB K + o1)), (2, .ref (kB K + o2)), (3, .ref (kB K + 25)), (4, mI x4)]) 8 rfl (Nat.le_of_ble_eq_true rfl) rfl dX6_pointed_74 ?_
        refine g_goto hk dX6_pointed_77 ?_
        refine GoAt.sub [4, 5, 6, 7, 8, 1, 2, 0] rfl ?_
        exact hrec _ _ _ _ _ _ _ hm ko1 ko2 cx4 cx7 c10 (wI_c _) h
      · refine g_iinc hk (lv' := [(7, mI (wI (x7 + 1))), (8, mI r8.1), (0, .ref (kB K + 44)), (1, .ref (kB K + o1)), (2, .ref (kB K + o2)), (3, .ref (kB K + 25)), (4, mI x4), (5, mI x5), (6, mI x6)]) 8 rfl (Nat.le_of_ble_eq_true rfl) rfl dX6_pointed_74 ?_
        refine g_goto hk dX6_pointed_77 ?_
        refine GoAt.sub [2, 3, 4, 5, 6, 7, 8, 0] rfl ?_
        exact hrec _ _ _ _ _ _ _ hm ko1 ko2 cx4 cx5 cx6 (wI_c _) h
  · refine g_iload hk 5 rfl dX6_pointed_80 ?_
    exact g_ireturn hk cx5 dX6_pointed_82 (by cases h; rfl)
theorem w_Ri_pointed_L24 {K : zK} (hk : zOk K kdC cX6_pointed 9 (some .int) RX6 4)  {o : Int × zM}  : ∀ (n : Nat) (o1 : Nat) (o2 : Nat) (x4 : Int) (x5 : Int) (x6 : Int) (x7 : Int) (m : zM), zG kdC m → kdC o1 = (0, 10) → kdC o2 = (0, 7) → cI x4 → cI x5 → cI x6 → cI x7 → Ri_pointed_L24 n o1 o2 x4 x5 x6 x7 m = some o → GoAt K m [(0, .ref (kB K + 44)), (1, .ref (kB K + o1)), (2, .ref (kB K + o2)), (3, .ref (kB K + 25)), (4, mI x4), (5, mI x5), (6, mI x6), (7, mI x7)] [] 24 (0, o.1, o.2)
  | 0, o1, o2, x4, x5, x6, x7, m, hm, ko1, ko2, cx4, cx5, cx6, cx7, h => by cases h
  | n + 1, o1, o2, x4, x5, x6, x7, m, hm, ko1, ko2, cx4, cx5, cx6, cx7, h => w_Ri_pointed_B24 hk  (w_Ri_pointed_L24 hk  n) hm ko1 ko2 cx4 cx5 cx6 cx7 h
set_option maxRecDepth 100000 in
set_option maxHeartbeats 4000000 in
theorem w_Ri_pointed {K : zK} (hk : zOk K kdC cX6_pointed 9 (some .int) RX6 4)  {o1 : Nat} {o2 : Nat} {x4 : Int} {m : zM} {o : Int × zM}  (hm : zG kdC m) (ko1 : kdC o1 = (0, 10)) (ko2 : kdC o2 = (0, 7)) (cx4 : cI x4) (h : Ri_pointed o1 o2 x4 m = some o) : GoAt K m [(0, .ref (kB K + 44)), (1, .ref (kB K + o1)), (2, .ref (kB K + o2)), (3, .ref (kB K + 25)), (4, mI x4)] [] 0 (0, o.1, o.2) := by
  unfold Ri_pointed at h
  refine g_iload hk 4 rfl dX6_pointed_0 ?_
  refine g_istore hk (lv' := [(5, mI x4), (0, .ref (kB K + 44)), (1, .ref (kB K + o1)), (2, .ref (kB K + o2)), (3, .ref (kB K + 25)), (4, mI x4)]) (Nat.le_of_ble_eq_true rfl) rfl dX6_pointed_2 ?_
  refine g_aload_n hk 4 rfl dX6_pointed_4 ?_
  refine g_aload_n hk 2 rfl dX6_pointed_5 ?_
  refine g_aload_n hk 3 rfl dX6_pointed_6 ?_
  refine g_iload hk 5 rfl dX6_pointed_7 ?_
  refine g_aload_n hk 1 rfl dX6_pointed_9 ?_
  refine g_get2 hk fl_X6_9 rfl kdC_44 hm (b := 45) rfl dX6_pointed_10 ?_
  refine g_iload hk 5 rfl dX6_pointed_13 ?_
  refine g_iald hk cx4 kdC_45 hm dX6_pointed_15 h (fun y1 cy1 h => ?_)
  obtain ⟨r2, e3, h⟩ := zbind h
  refine g_callVi hk (st := []) mf_X4_liking lk_X6_64 mv_X4_liking kdC_25 (by decide) rfl (Nat.le_of_ble_eq_true rfl) rfl dX6_pointed_16 (met_Ke_liking _ _ _ _ _ hk.wd hm ko1 ko2 cx4 cy1 e3) (fun hm c4 => ?_)
  refine g_istore hk (lv' := [(6, mI r2.1), (5, mI x4), (0, .ref (kB K + 44)), (1, .ref (kB K + o1)), (2, .ref (kB K + o2)), (3, .ref (kB K + 25)), (4, mI x4)]) (Nat.le_of_ble_eq_true rfl) rfl dX6_pointed_19 ?_
  refine g_iconst hk (v := 0) rfl dX6_pointed_21 ?_
  refine g_istore hk (lv' := [(7, mI 0), (6, mI r2.1), (5, mI x4), (0, .ref (kB K + 44)), (1, .ref (kB K + o1)), (2, .ref (kB K + o2)), (3, .ref (kB K + 25)), (4, mI x4)]) (Nat.le_of_ble_eq_true rfl) rfl dX6_pointed_22 ?_
  refine GoAt.sub [3, 4, 5, 6, 7, 2, 1, 0] rfl ?_
  refine w_Ri_pointed_L24 hk  1000000 _ _ _ _ _ _ _ hm ko1 ko2 cx4 cx4 c4 (cIk rfl) h
theorem met_Ri_pointed (l : Launch) (D : va_G) (aC : Nat → ClassId) (B N : Nat) (hwd : ∀ id, (kdC id).1 ≠ 9 → id < N) {o1 : Nat} {o2 : Nat} {x4 : Int} {m : zM} {o : Int × zM} (hm : zG kdC m) (ko1 : kdC o1 = (0, 10)) (ko2 : kdC o2 = (0, 7)) (cx4 : cI x4) (h : Ri_pointed o1 o2 x4 m = some o) : zMet l yX6_pointed cX6_pointed 9 (some .int) 4 D aC B kdC N [.ref (B + 44), .ref (B + o1), .ref (B + o2), .ref (B + 25), mI x4] m (0, o.1, o.2) := by
  refine zMet.of mf_X6_pointed hwd hm (Nat.le_of_ble_eq_true rfl) (fun K e1 e2 e3 e4 e5 hk => ?_)
  subst e4
  exact w_Ri_pointed hk hm ko1 ko2 cx4 h
set_option maxRecDepth 100000 in
set_option maxHeartbeats 4000000 in
theorem w_Ri_goesRound_B9 {K : zK} (hk : zOk K kdC cX6_goesRound 4 (some .boolean) RX6 0) {k33 : Int → Int → Option (Int)} {rec : Int → Int → Int → Option (Int)} {x1 : Int} {x2 : Int} {x3 : Int} {m : zM} {o : Int} (hk33 : ∀ (x1 : Int) (x2 : Int), cI x1 → cI x2 → k33 x1 x2 = some o → GoAt K m [(1, mI x1), (2, mI x2)] [] 33 (4, o, m)) (hrec : ∀ (x1 : Int) (x2 : Int) (x3 : Int), cI x1 → cI x2 → cI x3 → rec x1 x2 x3 = some o → GoAt K m [(0, .ref (kB K + 44)), (1, mI x1), (2, mI x2), (3, mI x3)] [] 9 (4, o, m)) (hm : zG kdC m) (cx1 : cI x1) (cx2 : cI x2) (cx3 : cI x3) (h : Ri_goesRound_B9 k33 rec x1 x2 x3 m = some o) : GoAt K m [(0, .ref (kB K + 44)), (1, mI x1), (2, mI x2), (3, mI x3)] [] 9 (4, o, m) := by
  unfold Ri_goesRound_B9 at h
  refine g_iload_n hk 3 rfl dX6_goesRound_9 ?_
  refine g_bipush hk (v := 6) rfl dX6_goesRound_10 ?_
  refine g_icmp_ge hk cx3 (cIk rfl) dX6_goesRound_12 h (fun b1 h => ?_) (fun b1 h => ?_)
  · refine g_iload_n hk 2 rfl dX6_goesRound_15 ?_
    refine g_iload_n hk 1 rfl dX6_goesRound_16 ?_
    refine g_icmp_eq hk cx2 cx1 dX6_goesRound_17 h (fun b2 h => ?_) (fun b2 h => ?_)
    · refine GoAt.sub [1, 2] rfl ?_
      exact hk33 _ _ cx1 cx2 h
    · refine g_aload_n hk 0 rfl dX6_goesRound_20 ?_
      refine g_get2 hk fl_X6_21 rfl kdC_44 hm (b := 48) rfl dX6_goesRound_21 ?_
      refine g_iload_n hk 2 rfl dX6_goesRound_24 ?_
      refine g_iald hk cx2 kdC_48 hm dX6_goesRound_25 h (fun y3 cy3 h => ?_)
      refine g_istore_n hk rfl (lv' := [(2, mI y3), (0, .ref (kB K + 44)), (1, mI x1), (3, mI x3)]) (Nat.le_of_ble_eq_true rfl) rfl dX6_goesRound_26 ?_
      refine g_iinc hk (lv' := [(3, mI (wI (x3 + 1))), (2, mI y3), (0, .ref (kB K + 44)), (1, mI x1)]) 3 rfl (Nat.le_of_ble_eq_true rfl) rfl dX6_goesRound_27 ?_
      refine g_goto hk dX6_goesRound_30 ?_
      refine GoAt.sub [2, 3, 1, 0] rfl ?_
      exact hrec _ _ _ cx1 cy3 (wI_c _) h
  · refine GoAt.sub [1, 2] rfl ?_
    exact hk33 _ _ cx1 cx2 h
theorem w_Ri_goesRound_L9 {K : zK} (hk : zOk K kdC cX6_goesRound 4 (some .boolean) RX6 0) {k33 : Int → Int → Option (Int)} {o : Int} {m : zM} (hm : zG kdC m) (hk33 : ∀ (x1 : Int) (x2 : Int), cI x1 → cI x2 → k33 x1 x2 = some o → GoAt K m [(1, mI x1), (2, mI x2)] [] 33 (4, o, m)) : ∀ (n : Nat) (x1 : Int) (x2 : Int) (x3 : Int), cI x1 → cI x2 → cI x3 → Ri_goesRound_L9 k33 m n x1 x2 x3 = some o → GoAt K m [(0, .ref (kB K + 44)), (1, mI x1), (2, mI x2), (3, mI x3)] [] 9 (4, o, m)
  | 0, x1, x2, x3, cx1, cx2, cx3, h => by cases h
  | n + 1, x1, x2, x3, cx1, cx2, cx3, h => w_Ri_goesRound_B9 hk hk33 (w_Ri_goesRound_L9 hk hm hk33 n) hm cx1 cx2 cx3 h
set_option maxRecDepth 100000 in
set_option maxHeartbeats 4000000 in
theorem w_Ri_goesRound_b33 {K : zK} (hk : zOk K kdC cX6_goesRound 4 (some .boolean) RX6 0)  {x1 : Int} {x2 : Int} {m : zM} {o : Int}  (hm : zG kdC m) (cx1 : cI x1) (cx2 : cI x2) (h : Ri_goesRound_b33 x1 x2 m = some o) : GoAt K m [(1, mI x1), (2, mI x2)] [] 33 (4, o, m) := by
  unfold Ri_goesRound_b33 at h
  refine g_iload_n hk 1 rfl dX6_goesRound_33 ?_
  refine g_iload_n hk 0 rfl dX6_goesRound_34 ?_
  refine g_icmp_ne hk cx2 cx1 dX6_goesRound_35 h (fun b1 h => ?_) (fun b1 h => ?_)
  · refine g_iconst hk (v := 1) rfl dX6_goesRound_38 ?_
    refine g_goto hk dX6_goesRound_39 ?_
    exact g_zreturn hk z1 dX6_goesRound_43 (by cases h; rfl)
  · refine g_iconst hk (v := 0) rfl dX6_goesRound_42 ?_
    exact g_zreturn hk z0 dX6_goesRound_43 (by cases h; rfl)
set_option maxRecDepth 100000 in
set_option maxHeartbeats 4000000 in
theorem w_Ri_goesRound {K : zK} (hk : zOk K kdC cX6_goesRound 4 (some .boolean) RX6 0)  {x1 : Int} {m : zM} {o : Int}  (hm : zG kdC m) (cx1 : cI x1) (h : Ri_goesRound x1 m = some o) : GoAt K m [(0, .ref (kB K + 44)), (1, mI x1)] [] 0 (4, o, m) := by
  unfold Ri_goesRound at h
  refine g_aload_n hk 0 rfl dX6_goesRound_0 ?_
  refine g_get2 hk fl_X6_21 rfl kdC_44 hm (b := 48) rfl dX6_goesRound_1 ?_
  refine g_iload_n hk 1 rfl dX6_goesRound_4 ?_
  refine g_iald hk cx1 kdC_48 hm dX6_goesRound_5 h (fun y1 cy1 h => ?_)
  refine g_istore_n hk rfl (lv' := [(2, mI y1), (0, .ref (kB K + 44)), (1, mI x1)]) (Nat.le_of_ble_eq_true rfl) rfl dX6_goesRound_6 ?_
  refine g_iconst hk (v := 0) rfl dX6_goesRound_7 ?_
  refine g_istore_n hk rfl (lv' := [(3, mI 0), (2, mI y1), (0, .ref (kB K + 44)), (1, mI x1)]) (Nat.le_of_ble_eq_true rfl) rfl dX6_goesRound_8 ?_
  refine GoAt.sub [2, 3, 1, 0] rfl ?_
  refine w_Ri_goesRound_L9 hk hm (fun x1_2 x2_2 cx1_2 cx2_2 h => ?_) 1000000 _ _ _ cx1 cy1 (cIk rfl) h
  · exact w_Ri_goesRound_b33 hk hm cx1_2 cx2_2 h
theorem met_Ri_goesRound (l : Launch) (D : va_G) (aC : Nat → ClassId) (B N : Nat) (hwd : ∀ id, (kdC id).1 ≠ 9 → id < N) {x1 : Int} {m : zM} {o : Int} (hm : zG kdC m) (cx1 : cI x1) (h : Ri_goesRound x1 m = some o) : zMet l yX6_goesRound cX6_goesRound 4 (some .boolean) 0 D aC B kdC N [.ref (B + 44), mI x1] m (4, o, m) := by
  refine zMet.of mf_X6_goesRound hwd hm (Nat.le_of_ble_eq_true rfl) (fun K e1 e2 e3 e4 e5 hk => ?_)
  subst e4
  exact w_Ri_goesRound hk hm cx1 h
set_option maxRecDepth 100000 in
set_option maxHeartbeats 4000000 in
theorem w_Ri_leave_B5 {K : zK} (hk : zOk K kdC cX6_leave 5 none RX6 1) {rec : Nat → Int → Int → Int → zM → Option (zM)} {o1 : Nat} {x2 : Int} {x3 : Int} {x4 : Int} {m : zM} {o : zM} (hrec : ∀ (o1 : Nat) (x2 : Int) (x3 : Int) (x4 : Int) (m : zM), zG kdC m → kdC o1 = (0, 10) → cI x2 → cI x3 → cI x4 → rec o1 x2 x3 x4 m = some o → GoAt K m [(0, .ref (kB K + 44)), (1, .ref (kB K + o1)), (2, mI x2), (3, mI x3), (4, mI x4)] [] 5 (9, 0, o)) (hm : zG kdC m) (ko1 : kdC o1 = (0, 10)) (cx2 : cI x2) (cx3 : cI x3) (cx4 : cI x4) (h : Ri_leave_B5 rec o1 x2 x3 x4 m = some o) : GoAt K m [(0, .ref (kB K + 44)), (1, .ref (kB K + o1)), (2, mI x2), (3, mI x3), (4, mI x4)] [] 5 (9, 0, o) := by
  unfold Ri_leave_B5 at h
  refine g_iload hk 4 rfl dX6_leave_5 ?_
  refine g_aload_n hk 1 rfl dX6_leave_7 ?_
  have g1 := zGI (i := 0) hm ko1 rfl
  refine g_get0 hk fl_X6_32 rfl (j := 0) rfl ko1 dX6_leave_8 ?_
  refine g_icmp_ge hk cx4 g1 dX6_leave_11 h (fun b2 h => ?_) (fun b2 h => ?_)
  · refine g_aload_n hk 0 rfl dX6_leave_14 ?_
    refine g_iload hk 4 rfl dX6_leave_15 ?_
    obtain ⟨r3, e4, h⟩ := zbind h
    refine g_callVz hk (st := []) mf_X6_isLeft lk_X6_37 mv_X6_isLeft kdC_44 (by decide) rfl (Nat.le_of_ble_eq_true rfl) rfl dX6_leave_17 (met_Ri_isLeft _ _ _ _ _ hk.wd hm cx4 e4) (fun hm c5 => ?_)
    refine g_if_eq hk (b01 c5) dX6_leave_20 h (fun b6 h => ?_) (fun b6 h => ?_)
    · refine g_iinc hk (lv' := [(4, mI (wI (x4 + 1))), (0, .ref (kB K + 44)), (1, .ref (kB K + o1)), (2, mI x2), (3, mI x3)]) 4 rfl (Nat.le_of_ble_eq_true rfl) rfl dX6_leave_66 ?_
      refine g_goto hk dX6_leave_69 ?_
      refine GoAt.sub [1, 2, 3, 4, 0] rfl ?_
      exact hrec _ _ _ _ _ hm ko1 cx2 cx3 (wI_c _) h
    · refine g_aload_n hk 0 rfl dX6_leave_23 ?_
      refine g_iload hk 4 rfl dX6_leave_24 ?_
      obtain ⟨r7, e8, h⟩ := zbind h
      refine g_callVz hk (st := []) mf_X6_goesRound lk_X6_68 mv_X6_goesRound kdC_44 (by decide) rfl (Nat.le_of_ble_eq_true rfl) rfl dX6_leave_26 (met_Ri_goesRound _ _ _ _ _ hk.wd hm cx4 e8) (fun hm c9 => ?_)
      refine g_if_eq hk (b01 c9) dX6_leave_29 h (fun b10 h => ?_) (fun b10 h => ?_)
      · refine g_iinc hk (lv' := [(4, mI (wI (x4 + 1))), (0, .ref (kB K + 44)), (1, .ref (kB K + o1)), (2, mI x2), (3, mI x3)]) 4 rfl (Nat.le_of_ble_eq_true rfl) rfl dX6_leave_66 ?_
        refine g_goto hk dX6_leave_69 ?_
        refine GoAt.sub [1, 2, 3, 4, 0] rfl ?_
        exact hrec _ _ _ _ _ hm ko1 cx2 cx3 (wI_c _) h
      · refine g_aload_n hk 0 rfl dX6_leave_32 ?_
        refine g_get2 hk fl_X6_15 rfl kdC_44 hm (b := 46) rfl dX6_leave_33 ?_
        refine g_iload hk 4 rfl dX6_leave_36 ?_
        refine g_aload_n hk 0 rfl dX6_leave_38 ?_
        refine g_get2 hk fl_X6_9 rfl kdC_44 hm (b := 45) rfl dX6_leave_39 ?_
        refine g_aload_n hk 0 rfl dX6_leave_42 ?_
        refine g_get2 hk fl_X6_21 rfl kdC_44 hm (b := 48) rfl dX6_leave_43 ?_
        refine g_iload hk 4 rfl dX6_leave_46 ?_
        refine g_iald hk cx4 kdC_48 hm dX6_leave_48 h (fun y11 cy11 h => ?_)
        refine g_iald hk cy11 kdC_45 hm dX6_leave_49 h (fun y12 cy12 h => ?_)
        refine g_iast hk cx4 cy12 kdC_46 hm dX6_leave_50 h (fun m13 hm h => ?_)
        refine g_aload_n hk 0 rfl dX6_leave_51 ?_
        refine g_get2 hk fl_X6_18 rfl kdC_44 hm (b := 47) rfl dX6_leave_52 ?_
        refine g_iload hk 4 rfl dX6_leave_55 ?_
        refine g_iload_n hk 2 rfl dX6_leave_57 ?_
        refine g_iast hk cx4 cx2 kdC_47 hm dX6_leave_58 h (fun m14 hm h => ?_)
        refine g_iload_n hk 3 rfl dX6_leave_59 ?_
        refine g_iconst hk (v := 1) rfl dX6_leave_60 ?_
        refine g_iload hk 4 rfl dX6_leave_61 ?_
        refine g_ishl hk dX6_leave_63 ?_
        refine g_ior hk dX6_leave_64 ?_
        refine g_let (cI_t _) h (fun v15 cv15 h => ?_)
        refine g_istore_n hk rfl (lv' := [(3, mI v15), (0, .ref (kB K + 44)), (1, .ref (kB K + o1)), (2, mI x2), (4, mI x4)]) (Nat.le_of_ble_eq_true rfl) rfl dX6_leave_65 ?_
        refine g_iinc hk (lv' := [(4, mI (wI (x4 + 1))), (3, mI v15), (0, .ref (kB K + 44)), (1, .ref (kB K + o1)), (2, mI x2)]) 4 rfl (Nat.le_of_ble_eq_true rfl) rfl dX6_leave_66 ?_
        refine g_goto hk dX6_leave_69 ?_
        refine GoAt.sub [2, 3, 4, 1, 0] rfl ?_
        exact hrec _ _ _ _ _ hm ko1 cx2 cv15 (wI_c _) h
  · refine g_aload_n hk 0 rfl dX6_leave_72 ?_
    refine g_dup hk rfl dX6_leave_73 ?_
    have g16 := zGI (i := 4) hm kdC_44 rfl
    refine g_get0 hk fl_X6_28 rfl (j := 4) rfl kdC_44 dX6_leave_74 ?_
    refine g_iload_n hk 3 rfl dX6_leave_77 ?_
    refine g_iconst hk (v := (-1)) rfl dX6_leave_78 ?_
    refine g_ixor hk dX6_leave_79 ?_
    refine g_iand hk dX6_leave_80 ?_
    refine g_put0 hk fp_X6_28 rfl (j := 4) rfl kdC_44 (cI_t _) dX6_leave_81 h hm (fun m17 hm h => ?_)
    exact g_return hk dX6_leave_84 (by cases h; rfl)
theorem w_Ri_leave_L5 {K : zK} (hk : zOk K kdC cX6_leave 5 none RX6 1)  {o : zM}  : ∀ (n : Nat) (o1 : Nat) (x2 : Int) (x3 : Int) (x4 : Int) (m : zM), zG kdC m → kdC o1 = (0, 10) → cI x2 → cI x3 → cI x4 → Ri_leave_L5 n o1 x2 x3 x4 m = some o → GoAt K m [(0, .ref (kB K + 44)), (1, .ref (kB K + o1)), (2, mI x2), (3, mI x3), (4, mI x4)] [] 5 (9, 0, o)
  | 0, o1, x2, x3, x4, m, hm, ko1, cx2, cx3, cx4, h => by cases h
  | n + 1, o1, x2, x3, x4, m, hm, ko1, cx2, cx3, cx4, h => w_Ri_leave_B5 hk  (w_Ri_leave_L5 hk  n) hm ko1 cx2 cx3 cx4 h
set_option maxRecDepth 100000 in
set_option maxHeartbeats 4000000 in
theorem w_Ri_leave {K : zK} (hk : zOk K kdC cX6_leave 5 none RX6 1)  {o1 : Nat} {x2 : Int} {m : zM} {o : zM}  (hm : zG kdC m) (ko1 : kdC o1 = (0, 10)) (cx2 : cI x2) (h : Ri_leave o1 x2 m = some o) : GoAt K m [(0, .ref (kB K + 44)), (1, .ref (kB K + o1)), (2, mI x2)] [] 0 (9, 0, o) := by
  unfold Ri_leave at h
  refine g_iconst hk (v := 0) rfl dX6_leave_0 ?_
  refine g_istore_n hk rfl (lv' := [(3, mI 0), (0, .ref (kB K + 44)), (1, .ref (kB K + o1)), (2, mI x2)]) (Nat.le_of_ble_eq_true rfl) rfl dX6_leave_1 ?_
  refine g_iconst hk (v := 0) rfl dX6_leave_2 ?_
  refine g_istore hk (lv' := [(4, mI 0), (3, mI 0), (0, .ref (kB K + 44)), (1, .ref (kB K + o1)), (2, mI x2)]) (Nat.le_of_ble_eq_true rfl) rfl dX6_leave_3 ?_
  refine GoAt.sub [2, 3, 4, 1, 0] rfl ?_
  refine w_Ri_leave_L5 hk  1000000 _ _ _ _ _ hm ko1 cx2 (cIk rfl) (cIk rfl) h
theorem met_Ri_leave (l : Launch) (D : va_G) (aC : Nat → ClassId) (B N : Nat) (hwd : ∀ id, (kdC id).1 ≠ 9 → id < N) {o1 : Nat} {x2 : Int} {m : zM} {o : zM} (hm : zG kdC m) (ko1 : kdC o1 = (0, 10)) (cx2 : cI x2) (h : Ri_leave o1 x2 m = some o) : zMet l yX6_leave cX6_leave 5 none 1 D aC B kdC N [.ref (B + 44), .ref (B + o1), mI x2] m (9, 0, o) := by
  refine zMet.of mf_X6_leave hwd hm (Nat.le_of_ble_eq_true rfl) (fun K e1 e2 e3 e4 e5 hk => ?_)
  subst e4
  exact w_Ri_leave hk hm ko1 cx2 h
set_option maxRecDepth 100000 in
set_option maxHeartbeats 4000000 in
theorem w_Ri_find_B27 {K : zK} (hk : zOk K kdC cX6_find 6 none RX6 6) {k67 : Nat → Nat → Int → zM → Option (zM)} {rec : Nat → Nat → Int → Int → zM → Option (zM)} {o1 : Nat} {o2 : Nat} {x4 : Int} {x5 : Int} {m : zM} {o : zM} (hk67 : ∀ (o1 : Nat) (o2 : Nat) (x4 : Int) (m : zM), zG kdC m → kdC o1 = (0, 10) → kdC o2 = (0, 7) → cI x4 → k67 o1 o2 x4 m = some o → GoAt K m [(0, .ref (kB K + 44)), (1, .ref (kB K + o1)), (2, .ref (kB K + o2)), (3, .ref (kB K + 25)), (4, mI x4)] [] 67 (9, 0, o)) (hrec : ∀ (o1 : Nat) (o2 : Nat) (x4 : Int) (x5 : Int) (m : zM), zG kdC m → kdC o1 = (0, 10) → kdC o2 = (0, 7) → cI x4 → cI x5 → rec o1 o2 x4 x5 m = some o → GoAt K m [(0, .ref (kB K + 44)), (1, .ref (kB K + o1)), (2, .ref (kB K + o2)), (3, .ref (kB K + 25)), (4, mI x4), (5, mI x5)] [] 27 (9, 0, o)) (hm : zG kdC m) (ko1 : kdC o1 = (0, 10)) (ko2 : kdC o2 = (0, 7)) (cx4 : cI x4) (cx5 : cI x5) (h : Ri_find_B27 k67 rec o1 o2 x4 x5 m = some o) : GoAt K m [(0, .ref (kB K + 44)), (1, .ref (kB K + o1)), (2, .ref (kB K + o2)), (3, .ref (kB K + 25)), (4, mI x4), (5, mI x5)] [] 27 (9, 0, o) := by
  unfold Ri_find_B27 at h
  refine g_iload hk 5 rfl dX6_find_27 ?_
  refine g_aload_n hk 1 rfl dX6_find_29 ?_
  have g1 := zGI (i := 0) hm ko1 rfl
  refine g_get0 hk fl_X6_32 rfl (j := 0) rfl ko1 dX6_find_30 ?_
  refine g_icmp_ge hk cx5 g1 dX6_find_33 h (fun b2 h => ?_) (fun b2 h => ?_)
  · refine g_aload_n hk 0 rfl dX6_find_36 ?_
    refine g_iload hk 5 rfl dX6_find_37 ?_
    obtain ⟨r3, e4, h⟩ := zbind h
    refine g_callVz hk (st := []) mf_X6_isLeft lk_X6_37 mv_X6_isLeft kdC_44 (by decide) rfl (Nat.le_of_ble_eq_true rfl) rfl dX6_find_39 (met_Ri_isLeft _ _ _ _ _ hk.wd hm cx5 e4) (fun hm c5 => ?_)
    refine g_if_eq hk (b01 c5) dX6_find_42 h (fun b6 h => ?_) (fun b6 h => ?_)
    · refine g_iinc hk (lv' := [(5, mI (wI (x5 + 1))), (0, .ref (kB K + 44)), (1, .ref (kB K + o1)), (2, .ref (kB K + o2)), (3, .ref (kB K + 25)), (4, mI x4)]) 5 rfl (Nat.le_of_ble_eq_true rfl) rfl dX6_find_61 ?_
      refine g_goto hk dX6_find_64 ?_
      refine GoAt.sub [1, 2, 3, 4, 5, 0] rfl ?_
      exact hrec _ _ _ _ _ hm ko1 ko2 cx4 (wI_c _) h
    · refine g_aload_n hk 0 rfl dX6_find_45 ?_
      refine g_get2 hk fl_X6_21 rfl kdC_44 hm (b := 48) rfl dX6_find_46 ?_
      refine g_iload hk 5 rfl dX6_find_49 ?_
      refine g_aload_n hk 0 rfl dX6_find_51 ?_
      refine g_aload_n hk 1 rfl dX6_find_52 ?_
      refine g_aload_n hk 2 rfl dX6_find_53 ?_
      refine g_aload_n hk 3 rfl dX6_find_54 ?_
      refine g_iload hk 5 rfl dX6_find_55 ?_
      obtain ⟨r7, e8, h⟩ := zbind h
      refine g_callVi hk (st := [mI x5, .ref (kB K + 48)]) mf_X6_pointed lk_X6_41 mv_X6_pointed kdC_44 (by decide) rfl (Nat.le_of_ble_eq_true rfl) rfl dX6_find_57 (met_Ri_pointed _ _ _ _ _ hk.wd hm ko1 ko2 cx5 e8) (fun hm c9 => ?_)
      refine g_iast hk cx5 c9 kdC_48 hm dX6_find_60 h (fun m10 hm h => ?_)
      refine g_iinc hk (lv' := [(5, mI (wI (x5 + 1))), (0, .ref (kB K + 44)), (1, .ref (kB K + o1)), (2, .ref (kB K + o2)), (3, .ref (kB K + 25)), (4, mI x4)]) 5 rfl (Nat.le_of_ble_eq_true rfl) rfl dX6_find_61 ?_
      refine g_goto hk dX6_find_64 ?_
      refine GoAt.sub [1, 2, 3, 4, 5, 0] rfl ?_
      exact hrec _ _ _ _ _ hm ko1 ko2 cx4 (wI_c _) h
  · refine GoAt.sub [0, 1, 2, 3, 4] rfl ?_
    exact hk67 _ _ _ _ hm ko1 ko2 cx4 h
theorem w_Ri_find_L27 {K : zK} (hk : zOk K kdC cX6_find 6 none RX6 6) {k67 : Nat → Nat → Int → zM → Option (zM)} {o : zM} (hk67 : ∀ (o1 : Nat) (o2 : Nat) (x4 : Int) (m : zM), zG kdC m → kdC o1 = (0, 10) → kdC o2 = (0, 7) → cI x4 → k67 o1 o2 x4 m = some o → GoAt K m [(0, .ref (kB K + 44)), (1, .ref (kB K + o1)), (2, .ref (kB K + o2)), (3, .ref (kB K + 25)), (4, mI x4)] [] 67 (9, 0, o)) : ∀ (n : Nat) (o1 : Nat) (o2 : Nat) (x4 : Int) (x5 : Int) (m : zM), zG kdC m → kdC o1 = (0, 10) → kdC o2 = (0, 7) → cI x4 → cI x5 → Ri_find_L27 k67 n o1 o2 x4 x5 m = some o → GoAt K m [(0, .ref (kB K + 44)), (1, .ref (kB K + o1)), (2, .ref (kB K + o2)), (3, .ref (kB K + 25)), (4, mI x4), (5, mI x5)] [] 27 (9, 0, o)
  | 0, o1, o2, x4, x5, m, hm, ko1, ko2, cx4, cx5, h => by cases h
  | n + 1, o1, o2, x4, x5, m, hm, ko1, ko2, cx4, cx5, h => w_Ri_find_B27 hk hk67 (w_Ri_find_L27 hk hk67 n) hm ko1 ko2 cx4 cx5 h
set_option maxRecDepth 100000 in
set_option maxHeartbeats 4000000 in
theorem w_Ri_find_B10 {K : zK} (hk : zOk K kdC cX6_find 6 none RX6 6) {rec : Nat → Nat → Int → zM → Option (zM)} {o1 : Nat} {o2 : Nat} {x4 : Int} {m : zM} {o : zM} (hrec : ∀ (o1 : Nat) (o2 : Nat) (x4 : Int) (m : zM), zG kdC m → kdC o1 = (0, 10) → kdC o2 = (0, 7) → cI x4 → rec o1 o2 x4 m = some o → GoAt K m [(0, .ref (kB K + 44)), (1, .ref (kB K + o1)), (2, .ref (kB K + o2)), (3, .ref (kB K + 25)), (4, mI x4)] [] 10 (9, 0, o)) (hm : zG kdC m) (ko1 : kdC o1 = (0, 10)) (ko2 : kdC o2 = (0, 7)) (cx4 : cI x4) (h : Ri_find_B10 rec o1 o2 x4 m = some o) : GoAt K m [(0, .ref (kB K + 44)), (1, .ref (kB K + o1)), (2, .ref (kB K + o2)), (3, .ref (kB K + 25)), (4, mI x4)] [] 10 (9, 0, o) := by
  unfold Ri_find_B10 at h
  refine g_iload hk 4 rfl dX6_find_10 ?_
  refine g_bipush hk (v := 6) rfl dX6_find_12 ?_
  refine g_icmp_gt hk cx4 (cIk rfl) dX6_find_14 h (fun b1 h => ?_) (fun b1 h => ?_)
  · exact g_return hk dX6_find_80 (by cases h; rfl)
  · refine g_aload_n hk 0 rfl dX6_find_17 ?_
    have g2 := zGI (i := 4) hm kdC_44 rfl
    refine g_get0 hk fl_X6_28 rfl (j := 4) rfl kdC_44 dX6_find_18 ?_
    refine g_if_eq hk g2 dX6_find_21 h (fun b3 h => ?_) (fun b3 h => ?_)
    · exact g_return hk dX6_find_80 (by cases h; rfl)
    · refine g_iconst hk (v := 0) rfl dX6_find_24 ?_
      refine g_istore hk (lv' := [(5, mI 0), (0, .ref (kB K + 44)), (1, .ref (kB K + o1)), (2, .ref (kB K + o2)), (3, .ref (kB K + 25)), (4, mI x4)]) (Nat.le_of_ble_eq_true rfl) rfl dX6_find_25 ?_
      refine GoAt.sub [1, 2, 3, 4, 5, 0] rfl ?_
      refine w_Ri_find_L27 hk (fun o1_4 o2_4 x4_4 m5 hm ko1_4 ko2_4 cx4_4 h => ?_) 1000000 _ _ _ _ _ hm ko1 ko2 cx4 (cIk rfl) h
      · refine g_aload_n hk 0 rfl dX6_find_67 ?_
        refine g_aload_n hk 1 rfl dX6_find_68 ?_
        refine g_iload hk 4 rfl dX6_find_69 ?_
        obtain ⟨r6, e7, h⟩ := zbind h
        refine g_callVv hk (st := []) mf_X6_leave lk_X6_45 mv_X6_leave kdC_44 (by decide) rfl (Nat.le_of_ble_eq_true rfl) rfl dX6_find_71 (met_Ri_leave _ _ _ _ _ hk.wd hm ko1_4 cx4_4 e7) (fun hm => ?_)
        refine g_iinc hk (lv' := [(4, mI (wI (x4_4 + 1))), (0, .ref (kB K + 44)), (1, .ref (kB K + o1_4)), (2, .ref (kB K + o2_4)), (3, .ref (kB K + 25))]) 4 rfl (Nat.le_of_ble_eq_true rfl) rfl dX6_find_74 ?_
        refine g_goto hk dX6_find_77 ?_
        refine GoAt.sub [1, 2, 3, 4, 0] rfl ?_
        exact hrec _ _ _ _ hm ko1_4 ko2_4 (wI_c _) h
theorem w_Ri_find_L10 {K : zK} (hk : zOk K kdC cX6_find 6 none RX6 6)  {o : zM}  : ∀ (n : Nat) (o1 : Nat) (o2 : Nat) (x4 : Int) (m : zM), zG kdC m → kdC o1 = (0, 10) → kdC o2 = (0, 7) → cI x4 → Ri_find_L10 n o1 o2 x4 m = some o → GoAt K m [(0, .ref (kB K + 44)), (1, .ref (kB K + o1)), (2, .ref (kB K + o2)), (3, .ref (kB K + 25)), (4, mI x4)] [] 10 (9, 0, o)
  | 0, o1, o2, x4, m, hm, ko1, ko2, cx4, h => by cases h
  | n + 1, o1, o2, x4, m, hm, ko1, ko2, cx4, h => w_Ri_find_B10 hk  (w_Ri_find_L10 hk  n) hm ko1 ko2 cx4 h
set_option maxRecDepth 100000 in
set_option maxHeartbeats 4000000 in
theorem w_Ri_find {K : zK} (hk : zOk K kdC cX6_find 6 none RX6 6)  {o1 : Nat} {o2 : Nat} {m : zM} {o : zM}  (hm : zG kdC m) (ko1 : kdC o1 = (0, 10)) (ko2 : kdC o2 = (0, 7)) (h : Ri_find o1 o2 m = some o) : GoAt K m [(0, .ref (kB K + 44)), (1, .ref (kB K + o1)), (2, .ref (kB K + o2)), (3, .ref (kB K + 25))] [] 0 (9, 0, o) := by
  unfold Ri_find at h
  refine g_aload_n hk 0 rfl dX6_find_0 ?_
  refine g_aload_n hk 1 rfl dX6_find_1 ?_
  refine g_aload_n hk 2 rfl dX6_find_2 ?_
  refine g_aload_n hk 3 rfl dX6_find_3 ?_
  obtain ⟨r1, e2, h⟩ := zbind h
  refine g_callVv hk (st := []) mf_X6_hold lk_X6_24 mv_X6_hold kdC_44 (by decide) rfl (Nat.le_of_ble_eq_true rfl) rfl dX6_find_4 (met_Ri_hold _ _ _ _ _ hk.wd hm ko1 ko2 e2) (fun hm => ?_)
  refine g_iconst hk (v := 1) rfl dX6_find_7 ?_
  refine g_istore hk (lv' := [(4, mI 1), (0, .ref (kB K + 44)), (1, .ref (kB K + o1)), (2, .ref (kB K + o2)), (3, .ref (kB K + 25))]) (Nat.le_of_ble_eq_true rfl) rfl dX6_find_8 ?_
  refine GoAt.sub [1, 2, 3, 4, 0] rfl ?_
  refine w_Ri_find_L10 hk  1000000 _ _ _ _ hm ko1 ko2 (cIk rfl) h
theorem met_Ri_find (l : Launch) (D : va_G) (aC : Nat → ClassId) (B N : Nat) (hwd : ∀ id, (kdC id).1 ≠ 9 → id < N) {o1 : Nat} {o2 : Nat} {m : zM} {o : zM} (hm : zG kdC m) (ko1 : kdC o1 = (0, 10)) (ko2 : kdC o2 = (0, 7)) (h : Ri_find o1 o2 m = some o) : zMet l yX6_find cX6_find 6 none 6 D aC B kdC N [.ref (B + 44), .ref (B + o1), .ref (B + o2), .ref (B + 25)] m (9, 0, o) := by
  refine zMet.of mf_X6_find hwd hm (Nat.le_of_ble_eq_true rfl) (fun K e1 e2 e3 e4 e5 hk => ?_)
  subst e4
  exact w_Ri_find hk hm ko1 ko2 h
set_option maxRecDepth 100000 in
set_option maxHeartbeats 4000000 in
theorem w_C_round {K : zK} (hk : zOk K kdC cX11_round 3 (some .int) RX11 7)  {x1 : Int} {x2 : Int} {m : zM} {o : Int × zM}  (hm : zG kdC m) (cx1 : cI x1) (cx2 : cI x2) (h : C_round x1 x2 m = some o) : GoAt K m [(0, .ref (kB K + 0)), (1, mI x1), (2, mI x2)] [] 0 (0, o.1, o.2) := by
  unfold C_round at h
  refine g_aload_n hk 0 rfl dX11_round_0 ?_
  refine g_get3o hk fl_X11_84 rfl (j := 12) rfl kdC_0 dX11_round_1 h (fun zz1 kzz1 h => ?_)
  refine g_iload_n hk 1 rfl dX11_round_4 ?_
  obtain ⟨r2, e3, h⟩ := zbind h
  refine g_callVz hk (st := []) mf_X10_isBeast lk_X11_156 mv_X10_isBeast kzz1 (by decide) rfl (Nat.le_of_ble_eq_true rfl) rfl dX11_round_5 (met_Zo_isBeast _ _ _ _ _ hk.wd hm kzz1 cx1 e3) (fun hm c4 => ?_)
  refine g_if_ne hk (b01 c4) dX11_round_8 h (fun b5 h => ?_) (fun b5 h => ?_)
  · refine g_iconst hk (v := (-1)) rfl dX11_round_11 ?_
    exact g_ireturn hk (cIk rfl) dX11_round_12 (by cases h; rfl)
  · refine g_aload_n hk 0 rfl dX11_round_13 ?_
    refine g_get2 hk fl_X11_38 rfl kdC_0 hm (b := 25) rfl dX11_round_14 ?_
    refine g_aload_n hk 0 rfl dX11_round_17 ?_
    refine g_get3o hk fl_X11_84 rfl (j := 12) rfl kdC_0 dX11_round_18 h (fun zz6 kzz6 h => ?_)
    refine g_aload_n hk 0 rfl dX11_round_21 ?_
    refine g_get2 hk fl_X11_24 rfl kdC_0 hm (b := 8) rfl dX11_round_22 ?_
    obtain ⟨r7, e8, h⟩ := zbind h
    refine g_callVv hk (st := []) mf_X4_weigh lk_X11_234 mv_X4_weigh kdC_25 (by decide) rfl (Nat.le_of_ble_eq_true rfl) rfl dX11_round_25 (met_Ke_weigh _ _ _ _ _ hk.wd hm kzz6 kdC_8 e8) (fun hm => ?_)
    refine g_aload_n hk 0 rfl dX11_round_28 ?_
    refine g_get2 hk fl_X11_59 rfl kdC_0 hm (b := 44) rfl dX11_round_29 ?_
    refine g_aload_n hk 0 rfl dX11_round_32 ?_
    refine g_get3o hk fl_X11_84 rfl (j := 12) rfl kdC_0 dX11_round_33 h (fun zz10 kzz10 h => ?_)
    refine g_aload_n hk 0 rfl dX11_round_36 ?_
    refine g_get2 hk fl_X11_24 rfl kdC_0 hm (b := 8) rfl dX11_round_37 ?_
    refine g_aload_n hk 0 rfl dX11_round_40 ?_
    refine g_get2 hk fl_X11_38 rfl kdC_0 hm (b := 25) rfl dX11_round_41 ?_
    obtain ⟨r11, e12, h⟩ := zbind h
    refine g_callVv hk (st := []) mf_X6_find lk_X11_306 mv_X6_find kdC_44 (by decide) rfl (Nat.le_of_ble_eq_true rfl) rfl dX11_round_44 (met_Ri_find _ _ _ _ _ hk.wd hm kzz10 kdC_8 e12) (fun hm => ?_)
    refine g_iload_n hk 2 rfl dX11_round_47 ?_
    rcases zite h with ⟨e14, h⟩ | ⟨e14, h⟩
    · refine g_tin hk cx2 dX11_round_48 e14 (by decide) (by decide) rfl (by decide) (tgt := 76) ?_
      refine g_aload_n hk 0 rfl dX11_round_76 ?_
      refine g_get2 hk fl_X11_59 rfl kdC_0 hm (b := 44) rfl dX11_round_77 ?_
      refine g_get2 hk fl_X11_309 rfl kdC_44 hm (b := 46) rfl dX11_round_80 ?_
      refine g_iload_n hk 1 rfl dX11_round_83 ?_
      refine g_iald hk cx1 kdC_46 hm dX11_round_84 h (fun y17 cy17 h => ?_)
      exact g_ireturn hk cy17 dX11_round_85 (by cases h; rfl)
    rcases zite h with ⟨e15, h⟩ | ⟨e15, h⟩
    · refine g_tin hk cx2 dX11_round_48 e15 (by decide) (by decide) rfl (by decide) (tgt := 86) ?_
      refine g_aload_n hk 0 rfl dX11_round_86 ?_
      refine g_get2 hk fl_X11_59 rfl kdC_0 hm (b := 44) rfl dX11_round_87 ?_
      refine g_get2 hk fl_X11_312 rfl kdC_44 hm (b := 47) rfl dX11_round_90 ?_
      refine g_iload_n hk 1 rfl dX11_round_93 ?_
      refine g_iald hk cx1 kdC_47 hm dX11_round_94 h (fun y18 cy18 h => ?_)
      exact g_ireturn hk cy18 dX11_round_95 (by cases h; rfl)
    rcases zite h with ⟨e16, h⟩ | ⟨e16, h⟩
    · refine g_tin hk cx2 dX11_round_48 e16 (by decide) (by decide) rfl (by decide) (tgt := 96) ?_
      refine g_aload_n hk 0 rfl dX11_round_96 ?_
      refine g_get2 hk fl_X11_59 rfl kdC_0 hm (b := 44) rfl dX11_round_97 ?_
      refine g_get2 hk fl_X11_315 rfl kdC_44 hm (b := 45) rfl dX11_round_100 ?_
      refine g_iload_n hk 1 rfl dX11_round_103 ?_
      refine g_iald hk cx1 kdC_45 hm dX11_round_104 h (fun y19 cy19 h => ?_)
      exact g_ireturn hk cy19 dX11_round_105 (by cases h; rfl)
    refine g_tout hk cx2 dX11_round_48 (by omega) (by decide) (tgt := 106) ?_
    refine g_iconst hk (v := (-1)) rfl dX11_round_106 ?_
    exact g_ireturn hk (cIk rfl) dX11_round_107 (by cases h; rfl)
theorem met_C_round (l : Launch) (D : va_G) (aC : Nat → ClassId) (B N : Nat) (hwd : ∀ id, (kdC id).1 ≠ 9 → id < N) {x1 : Int} {x2 : Int} {m : zM} {o : Int × zM} (hm : zG kdC m) (cx1 : cI x1) (cx2 : cI x2) (h : C_round x1 x2 m = some o) : zMet l yX11_round cX11_round 3 (some .int) 7 D aC B kdC N [.ref (B + 0), mI x1, mI x2] m (0, o.1, o.2) := by
  refine zMet.of mf_X11_round hwd hm (Nat.le_of_ble_eq_true rfl) (fun K e1 e2 e3 e4 e5 hk => ?_)
  subst e4
  exact w_C_round hk hm cx1 cx2 h
set_option maxRecDepth 100000 in
set_option maxHeartbeats 4000000 in
theorem w_Wa_stepsTo_B4 {K : zK} (hk : zOk K kdC cX9_stepsTo 4 (some .int) RX9 0) {rec : Nat → Nat → Int → Int → Int → Option (Int)} {a0 : Nat} {n0 : Nat} {x1 : Int} {x2 : Int} {x3 : Int} {m : zM} {o : Int} (hrec : ∀ (a0 : Nat) (n0 : Nat) (x1 : Int) (x2 : Int) (x3 : Int), kdC a0 = (1, n0) → cI x1 → cI x2 → cI x3 → rec a0 n0 x1 x2 x3 = some o → GoAt K m [(0, .ref (kB K + a0)), (1, mI x1), (2, mI x2), (3, mI x3)] [] 4 (0, o, m)) (hm : zG kdC m) (ka0 : kdC a0 = (1, n0)) (cx1 : cI x1) (cx2 : cI x2) (cx3 : cI x3) (h : Wa_stepsTo_B4 rec a0 n0 x1 x2 x3 m = some o) : GoAt K m [(0, .ref (kB K + a0)), (1, mI x1), (2, mI x2), (3, mI x3)] [] 4 (0, o, m) := by
  unfold Wa_stepsTo_B4 at h
  refine g_iload_n hk 3 rfl dX9_stepsTo_4 ?_
  refine g_bipush hk (v := 6) rfl dX9_stepsTo_5 ?_
  refine g_icmp_ge hk cx3 (cIk rfl) dX9_stepsTo_7 h (fun b1 h => ?_) (fun b1 h => ?_)
  · refine g_iload_n hk 1 rfl dX9_stepsTo_10 ?_
    refine g_iload_n hk 3 rfl dX9_stepsTo_11 ?_
    refine g_ishr hk dX9_stepsTo_12 ?_
    refine g_iconst hk (v := 1) rfl dX9_stepsTo_13 ?_
    refine g_iand hk dX9_stepsTo_14 ?_
    refine g_if_eq hk (cI_t _) dX9_stepsTo_15 h (fun b2 h => ?_) (fun b2 h => ?_)
    · refine g_iinc hk (lv' := [(3, mI (wI (x3 + 1))), (0, .ref (kB K + a0)), (1, mI x1), (2, mI x2)]) 3 rfl (Nat.le_of_ble_eq_true rfl) rfl dX9_stepsTo_26 ?_
      refine g_goto hk dX9_stepsTo_29 ?_
      refine GoAt.sub [1, 2, 3, 0] rfl ?_
      exact hrec _ _ _ _ _ ka0 cx1 cx2 (wI_c _) h
    · refine g_iload_n hk 2 rfl dX9_stepsTo_18 ?_
      refine g_iconst hk (v := 2) rfl dX9_stepsTo_19 ?_
      refine g_aload_n hk 0 rfl dX9_stepsTo_20 ?_
      refine g_iload_n hk 3 rfl dX9_stepsTo_21 ?_
      refine g_iald hk cx3 ka0 hm dX9_stepsTo_22 h (fun y3 cy3 h => ?_)
      refine g_imul hk dX9_stepsTo_23 ?_
      refine g_iadd hk dX9_stepsTo_24 ?_
      refine g_let (wI_c _) h (fun v4 cv4 h => ?_)
      refine g_istore_n hk rfl (lv' := [(2, mI v4), (0, .ref (kB K + a0)), (1, mI x1), (3, mI x3)]) (Nat.le_of_ble_eq_true rfl) rfl dX9_stepsTo_25 ?_
      refine g_iinc hk (lv' := [(3, mI (wI (x3 + 1))), (2, mI v4), (0, .ref (kB K + a0)), (1, mI x1)]) 3 rfl (Nat.le_of_ble_eq_true rfl) rfl dX9_stepsTo_26 ?_
      refine g_goto hk dX9_stepsTo_29 ?_
      refine GoAt.sub [2, 3, 1, 0] rfl ?_
      exact hrec _ _ _ _ _ ka0 cx1 cv4 (wI_c _) h
  · refine g_iload_n hk 2 rfl dX9_stepsTo_32 ?_
    exact g_ireturn hk cx2 dX9_stepsTo_33 (by cases h; rfl)
theorem w_Wa_stepsTo_L4 {K : zK} (hk : zOk K kdC cX9_stepsTo 4 (some .int) RX9 0)  {o : Int} {m : zM} (hm : zG kdC m)  : ∀ (n : Nat) (a0 : Nat) (n0 : Nat) (x1 : Int) (x2 : Int) (x3 : Int), kdC a0 = (1, n0) → cI x1 → cI x2 → cI x3 → Wa_stepsTo_L4 m n a0 n0 x1 x2 x3 = some o → GoAt K m [(0, .ref (kB K + a0)), (1, mI x1), (2, mI x2), (3, mI x3)] [] 4 (0, o, m)
  | 0, a0, n0, x1, x2, x3, ka0, cx1, cx2, cx3, h => by cases h
  | n + 1, a0, n0, x1, x2, x3, ka0, cx1, cx2, cx3, h => w_Wa_stepsTo_B4 hk  (w_Wa_stepsTo_L4 hk hm  n) hm ka0 cx1 cx2 cx3 h
set_option maxRecDepth 100000 in
set_option maxHeartbeats 4000000 in
theorem w_Wa_stepsTo {K : zK} (hk : zOk K kdC cX9_stepsTo 4 (some .int) RX9 0)  {a0 : Nat} {n0 : Nat} {x1 : Int} {m : zM} {o : Int}  (hm : zG kdC m) (ka0 : kdC a0 = (1, n0)) (cx1 : cI x1) (h : Wa_stepsTo a0 n0 x1 m = some o) : GoAt K m [(0, .ref (kB K + a0)), (1, mI x1)] [] 0 (0, o, m) := by
  unfold Wa_stepsTo at h
  refine g_iconst hk (v := 0) rfl dX9_stepsTo_0 ?_
  refine g_istore_n hk rfl (lv' := [(2, mI 0), (0, .ref (kB K + a0)), (1, mI x1)]) (Nat.le_of_ble_eq_true rfl) rfl dX9_stepsTo_1 ?_
  refine g_iconst hk (v := 0) rfl dX9_stepsTo_2 ?_
  refine g_istore_n hk rfl (lv' := [(3, mI 0), (2, mI 0), (0, .ref (kB K + a0)), (1, mI x1)]) (Nat.le_of_ble_eq_true rfl) rfl dX9_stepsTo_3 ?_
  refine GoAt.sub [2, 3, 1, 0] rfl ?_
  refine w_Wa_stepsTo_L4 hk hm  1000000 _ _ _ _ _ ka0 cx1 (cIk rfl) (cIk rfl) h
theorem met_Wa_stepsTo (l : Launch) (D : va_G) (aC : Nat → ClassId) (B N : Nat) (hwd : ∀ id, (kdC id).1 ≠ 9 → id < N) {a0 : Nat} {n0 : Nat} {x1 : Int} {m : zM} {o : Int} (hm : zG kdC m) (ka0 : kdC a0 = (1, n0)) (cx1 : cI x1) (h : Wa_stepsTo a0 n0 x1 m = some o) : zMet l yX9_stepsTo cX9_stepsTo 4 (some .int) 0 D aC B kdC N [.ref (B + a0), mI x1] m (0, o, m) := by
  refine zMet.of mf_X9_stepsTo hwd hm (Nat.le_of_ble_eq_true rfl) (fun K e1 e2 e3 e4 e5 hk => ?_)
  subst e4
  exact w_Wa_stepsTo hk hm ka0 cx1 h
set_option maxRecDepth 100000 in
set_option maxHeartbeats 4000000 in
theorem w_Wa_sharedByOneMore_B9 {K : zK} (hk : zOk K kdC cX9_sharedByOneMore 4 (some .int) RX9 1) {rec : Int → Int → Int → Option (Int)} {x1 : Int} {x2 : Int} {x3 : Int} {m : zM} {o : Int} (hrec : ∀ (x1 : Int) (x2 : Int) (x3 : Int), cI x1 → cI x2 → cI x3 → rec x1 x2 x3 = some o → GoAt K m [(0, .ref (kB K + 49)), (1, mI x1), (2, mI x2), (3, mI x3)] [] 9 (0, o, m)) (hm : zG kdC m) (cx1 : cI x1) (cx2 : cI x2) (cx3 : cI x3) (h : Wa_sharedByOneMore_B9 rec x1 x2 x3 m = some o) : GoAt K m [(0, .ref (kB K + 49)), (1, mI x1), (2, mI x2), (3, mI x3)] [] 9 (0, o, m) := by
  unfold Wa_sharedByOneMore_B9 at h
  refine g_iload_n hk 3 rfl dX9_sharedByOneMore_9 ?_
  refine g_iload_n hk 1 rfl dX9_sharedByOneMore_10 ?_
  refine g_icmp_gt hk cx3 cx1 dX9_sharedByOneMore_11 h (fun b1 h => ?_) (fun b1 h => ?_)
  · refine g_iload_n hk 2 rfl dX9_sharedByOneMore_52 ?_
    exact g_ireturn hk cx2 dX9_sharedByOneMore_53 (by cases h; rfl)
  · refine g_iload_n hk 3 rfl dX9_sharedByOneMore_14 ?_
    refine g_iload_n hk 1 rfl dX9_sharedByOneMore_15 ?_
    refine g_iconst hk (v := (-1)) rfl dX9_sharedByOneMore_16 ?_
    refine g_ixor hk dX9_sharedByOneMore_17 ?_
    refine g_iand hk dX9_sharedByOneMore_18 ?_
    refine g_if_ne hk (cI_t _) dX9_sharedByOneMore_19 h (fun b2 h => ?_) (fun b2 h => ?_)
    · refine g_iload_n hk 2 rfl dX9_sharedByOneMore_22 ?_
      refine g_aload_n hk 0 rfl dX9_sharedByOneMore_23 ?_
      refine g_get2 hk fl_X9_11 rfl kdC_49 hm (b := 50) rfl dX9_sharedByOneMore_24 ?_
      refine g_iload_n hk 3 rfl dX9_sharedByOneMore_27 ?_
      refine g_iald hk cx3 kdC_50 hm dX9_sharedByOneMore_28 h (fun y3 cy3 h => ?_)
      refine g_aload_n hk 0 rfl dX9_sharedByOneMore_29 ?_
      refine g_get2 hk fl_X9_15 rfl kdC_49 hm (b := 51) rfl dX9_sharedByOneMore_30 ?_
      refine g_iload_n hk 1 rfl dX9_sharedByOneMore_33 ?_
      refine g_iload_n hk 3 rfl dX9_sharedByOneMore_34 ?_
      refine g_iconst hk (v := (-1)) rfl dX9_sharedByOneMore_35 ?_
      refine g_ixor hk dX9_sharedByOneMore_36 ?_
      refine g_iand hk dX9_sharedByOneMore_37 ?_
      refine g_iald hk (cI_t _) kdC_51 hm dX9_sharedByOneMore_38 h (fun y4 cy4 h => ?_)
      refine g_imax hk cy3 cy4 lk_X9_26 ms_J9_max_7cf53 mfi_J9_max_7cf53 mfc_J9_max_7cf53 (Nat.le_of_ble_eq_true rfl) (Nat.le_of_ble_eq_true rfl) dX9_sharedByOneMore_39 ?_
      refine g_imin hk cx2 (cI_max cy3 cy4) lk_X9_32 ms_J9_min_7cf53 mfi_J9_min_7cf53 mfc_J9_min_7cf53 (Nat.le_of_ble_eq_true rfl) (Nat.le_of_ble_eq_true rfl) dX9_sharedByOneMore_42 ?_
      refine g_let (cI_min cx2 (cI_max cy3 cy4)) h (fun v5 cv5 h => ?_)
      refine g_istore_n hk rfl (lv' := [(2, mI v5), (0, .ref (kB K + 49)), (1, mI x1), (3, mI x3)]) (Nat.le_of_ble_eq_true rfl) rfl dX9_sharedByOneMore_45 ?_
      refine g_iinc hk (lv' := [(3, mI (wI (x3 + 1))), (2, mI v5), (0, .ref (kB K + 49)), (1, mI x1)]) 3 rfl (Nat.le_of_ble_eq_true rfl) rfl dX9_sharedByOneMore_46 ?_
      refine g_goto hk dX9_sharedByOneMore_49 ?_
      refine GoAt.sub [2, 3, 1, 0] rfl ?_
      exact hrec _ _ _ cx1 cv5 (wI_c _) h
    · refine g_iinc hk (lv' := [(3, mI (wI (x3 + 1))), (0, .ref (kB K + 49)), (1, mI x1), (2, mI x2)]) 3 rfl (Nat.le_of_ble_eq_true rfl) rfl dX9_sharedByOneMore_46 ?_
      refine g_goto hk dX9_sharedByOneMore_49 ?_
      refine GoAt.sub [1, 2, 3, 0] rfl ?_
      exact hrec _ _ _ cx1 cx2 (wI_c _) h
theorem w_Wa_sharedByOneMore_L9 {K : zK} (hk : zOk K kdC cX9_sharedByOneMore 4 (some .int) RX9 1)  {o : Int} {m : zM} (hm : zG kdC m)  : ∀ (n : Nat) (x1 : Int) (x2 : Int) (x3 : Int), cI x1 → cI x2 → cI x3 → Wa_sharedByOneMore_L9 m n x1 x2 x3 = some o → GoAt K m [(0, .ref (kB K + 49)), (1, mI x1), (2, mI x2), (3, mI x3)] [] 9 (0, o, m)
  | 0, x1, x2, x3, cx1, cx2, cx3, h => by cases h
  | n + 1, x1, x2, x3, cx1, cx2, cx3, h => w_Wa_sharedByOneMore_B9 hk  (w_Wa_sharedByOneMore_L9 hk hm  n) hm cx1 cx2 cx3 h
set_option maxRecDepth 100000 in
set_option maxHeartbeats 4000000 in
theorem w_Wa_sharedByOneMore {K : zK} (hk : zOk K kdC cX9_sharedByOneMore 4 (some .int) RX9 1)  {x1 : Int} {m : zM} {o : Int}  (hm : zG kdC m) (cx1 : cI x1) (h : Wa_sharedByOneMore x1 m = some o) : GoAt K m [(0, .ref (kB K + 49)), (1, mI x1)] [] 0 (0, o, m) := by
  unfold Wa_sharedByOneMore at h
  refine g_aload_n hk 0 rfl dX9_sharedByOneMore_0 ?_
  refine g_get2 hk fl_X9_15 rfl kdC_49 hm (b := 51) rfl dX9_sharedByOneMore_1 ?_
  refine g_iload_n hk 1 rfl dX9_sharedByOneMore_4 ?_
  refine g_iald hk cx1 kdC_51 hm dX9_sharedByOneMore_5 h (fun y1 cy1 h => ?_)
  refine g_istore_n hk rfl (lv' := [(2, mI y1), (0, .ref (kB K + 49)), (1, mI x1)]) (Nat.le_of_ble_eq_true rfl) rfl dX9_sharedByOneMore_6 ?_
  refine g_iconst hk (v := 1) rfl dX9_sharedByOneMore_7 ?_
  refine g_istore_n hk rfl (lv' := [(3, mI 1), (2, mI y1), (0, .ref (kB K + 49)), (1, mI x1)]) (Nat.le_of_ble_eq_true rfl) rfl dX9_sharedByOneMore_8 ?_
  refine GoAt.sub [2, 3, 1, 0] rfl ?_
  refine w_Wa_sharedByOneMore_L9 hk hm  1000000 _ _ _ cx1 cy1 (cIk rfl) h
theorem met_Wa_sharedByOneMore (l : Launch) (D : va_G) (aC : Nat → ClassId) (B N : Nat) (hwd : ∀ id, (kdC id).1 ≠ 9 → id < N) {x1 : Int} {m : zM} {o : Int} (hm : zG kdC m) (cx1 : cI x1) (h : Wa_sharedByOneMore x1 m = some o) : zMet l yX9_sharedByOneMore cX9_sharedByOneMore 4 (some .int) 1 D aC B kdC N [.ref (B + 49), mI x1] m (0, o, m) := by
  refine zMet.of mf_X9_sharedByOneMore hwd hm (Nat.le_of_ble_eq_true rfl) (fun K e1 e2 e3 e4 e5 hk => ?_)
  subst e4
  exact w_Wa_sharedByOneMore hk hm cx1 h
set_option maxRecDepth 100000 in
set_option maxHeartbeats 4000000 in
theorem w_Wa_least_B15 {K : zK} (hk : zOk K kdC cX9_least 6 (some .int) RX9 2) {k55 : Int → Int → zM → Option (Int × zM)} {rec : Nat → Nat → Int → Int → Int → zM → Option (Int × zM)} {a1 : Nat} {n1 : Nat} {x2 : Int} {x3 : Int} {x4 : Int} {m : zM} {o : Int × zM} (hk55 : ∀ (x2 : Int) (x3 : Int) (m : zM), zG kdC m → cI x2 → cI x3 → k55 x2 x3 m = some o → GoAt K m [(0, .ref (kB K + 49)), (2, mI x2), (3, mI x3)] [] 55 (0, o.1, o.2)) (hrec : ∀ (a1 : Nat) (n1 : Nat) (x2 : Int) (x3 : Int) (x4 : Int) (m : zM), zG kdC m → kdC a1 = (1, n1) → cI x2 → cI x3 → cI x4 → rec a1 n1 x2 x3 x4 m = some o → GoAt K m [(0, .ref (kB K + 49)), (1, .ref (kB K + a1)), (2, mI x2), (3, mI x3), (4, mI x4)] [] 15 (0, o.1, o.2)) (hm : zG kdC m) (ka1 : kdC a1 = (1, n1)) (cx2 : cI x2) (cx3 : cI x3) (cx4 : cI x4) (h : Wa_least_B15 k55 rec a1 n1 x2 x3 x4 m = some o) : GoAt K m [(0, .ref (kB K + 49)), (1, .ref (kB K + a1)), (2, mI x2), (3, mI x3), (4, mI x4)] [] 15 (0, o.1, o.2) := by
  unfold Wa_least_B15 at h
  refine g_iload hk 4 rfl dX9_least_15 ?_
  refine g_bipush hk (v := 64) rfl dX9_least_17 ?_
  refine g_icmp_ge hk cx4 (cIk rfl) dX9_least_19 h (fun b1 h => ?_) (fun b1 h => ?_)
  · refine g_aload_n hk 0 rfl dX9_least_22 ?_
    refine g_get2 hk fl_X9_11 rfl kdC_49 hm (b := 50) rfl dX9_least_23 ?_
    refine g_iload hk 4 rfl dX9_least_26 ?_
    refine g_aload_n hk 1 rfl dX9_least_28 ?_
    refine g_iload hk 4 rfl dX9_least_29 ?_
    obtain ⟨r2, e3, h⟩ := zbind h
    refine g_callSi hk (st := [mI x4, .ref (kB K + 50)]) mf_X9_stepsTo lk_X9_18 ms_X9_stepsTo (by decide) rfl (Nat.le_of_ble_eq_true rfl) rfl dX9_least_31 (met_Wa_stepsTo _ _ _ _ _ hk.wd hm ka1 cx4 e3) (fun hm c4 => ?_)
    refine g_iast hk cx4 c4 kdC_50 hm dX9_least_34 h (fun m5 hm h => ?_)
    refine g_aload_n hk 0 rfl dX9_least_35 ?_
    refine g_get2 hk fl_X9_15 rfl kdC_49 hm (b := 51) rfl dX9_least_36 ?_
    refine g_iload hk 4 rfl dX9_least_39 ?_
    refine g_aload_n hk 0 rfl dX9_least_41 ?_
    refine g_get2 hk fl_X9_11 rfl kdC_49 hm (b := 50) rfl dX9_least_42 ?_
    refine g_iload hk 4 rfl dX9_least_45 ?_
    refine g_iald hk cx4 kdC_50 hm dX9_least_47 h (fun y6 cy6 h => ?_)
    refine g_iast hk cx4 cy6 kdC_51 hm dX9_least_48 h (fun m7 hm h => ?_)
    refine g_iinc hk (lv' := [(4, mI (wI (x4 + 1))), (0, .ref (kB K + 49)), (1, .ref (kB K + a1)), (2, mI x2), (3, mI x3)]) 4 rfl (Nat.le_of_ble_eq_true rfl) rfl dX9_least_49 ?_
    refine g_goto hk dX9_least_52 ?_
    refine GoAt.sub [1, 2, 3, 4, 0] rfl ?_
    exact hrec _ _ _ _ _ _ hm ka1 cx2 cx3 (wI_c _) h
  · refine GoAt.sub [0, 2, 3] rfl ?_
    exact hk55 _ _ _ hm cx2 cx3 h
theorem w_Wa_least_L15 {K : zK} (hk : zOk K kdC cX9_least 6 (some .int) RX9 2) {k55 : Int → Int → zM → Option (Int × zM)} {o : Int × zM} (hk55 : ∀ (x2 : Int) (x3 : Int) (m : zM), zG kdC m → cI x2 → cI x3 → k55 x2 x3 m = some o → GoAt K m [(0, .ref (kB K + 49)), (2, mI x2), (3, mI x3)] [] 55 (0, o.1, o.2)) : ∀ (n : Nat) (a1 : Nat) (n1 : Nat) (x2 : Int) (x3 : Int) (x4 : Int) (m : zM), zG kdC m → kdC a1 = (1, n1) → cI x2 → cI x3 → cI x4 → Wa_least_L15 k55 n a1 n1 x2 x3 x4 m = some o → GoAt K m [(0, .ref (kB K + 49)), (1, .ref (kB K + a1)), (2, mI x2), (3, mI x3), (4, mI x4)] [] 15 (0, o.1, o.2)
  | 0, a1, n1, x2, x3, x4, m, hm, ka1, cx2, cx3, cx4, h => by cases h
  | n + 1, a1, n1, x2, x3, x4, m, hm, ka1, cx2, cx3, cx4, h => w_Wa_least_B15 hk hk55 (w_Wa_least_L15 hk hk55 n) hm ka1 cx2 cx3 cx4 h
set_option maxRecDepth 100000 in
set_option maxHeartbeats 4000000 in
theorem w_Wa_least_B68 {K : zK} (hk : zOk K kdC cX9_least 6 (some .int) RX9 2) {k92 : Int → Int → Int → zM → Option (Int × zM)} {rec : Int → Int → Int → Int → zM → Option (Int × zM)} {x2 : Int} {x3 : Int} {x4 : Int} {x5 : Int} {m : zM} {o : Int × zM} (hk92 : ∀ (x2 : Int) (x3 : Int) (x4 : Int) (m : zM), zG kdC m → cI x2 → cI x3 → cI x4 → k92 x2 x3 x4 m = some o → GoAt K m [(0, .ref (kB K + 49)), (2, mI x2), (3, mI x3), (4, mI x4)] [] 92 (0, o.1, o.2)) (hrec : ∀ (x2 : Int) (x3 : Int) (x4 : Int) (x5 : Int) (m : zM), zG kdC m → cI x2 → cI x3 → cI x4 → cI x5 → rec x2 x3 x4 x5 m = some o → GoAt K m [(0, .ref (kB K + 49)), (2, mI x2), (3, mI x3), (4, mI x4), (5, mI x5)] [] 68 (0, o.1, o.2)) (hm : zG kdC m) (cx2 : cI x2) (cx3 : cI x3) (cx4 : cI x4) (cx5 : cI x5) (h : Wa_least_B68 k92 rec x2 x3 x4 x5 m = some o) : GoAt K m [(0, .ref (kB K + 49)), (2, mI x2), (3, mI x3), (4, mI x4), (5, mI x5)] [] 68 (0, o.1, o.2) := by
  unfold Wa_least_B68 at h
  refine g_iload hk 4 rfl dX9_least_68 ?_
  refine g_if_le hk cx5 dX9_least_70 h (fun b1 h => ?_) (fun b1 h => ?_)
  · refine g_aload_n hk 0 rfl dX9_least_73 ?_
    refine g_get2 hk fl_X9_15 rfl kdC_49 hm (b := 51) rfl dX9_least_74 ?_
    refine g_iload hk 4 rfl dX9_least_77 ?_
    refine g_aload_n hk 0 rfl dX9_least_79 ?_
    refine g_iload hk 4 rfl dX9_least_80 ?_
    obtain ⟨r2, e3, h⟩ := zbind h
    refine g_callVi hk (st := [mI x5, .ref (kB K + 51)]) mf_X9_sharedByOneMore lk_X9_22 mv_X9_sharedByOneMore kdC_49 (by decide) rfl (Nat.le_of_ble_eq_true rfl) rfl dX9_least_82 (met_Wa_sharedByOneMore _ _ _ _ _ hk.wd hm cx5 e3) (fun hm c4 => ?_)
    refine g_iast hk cx5 c4 kdC_51 hm dX9_least_85 h (fun m5 hm h => ?_)
    refine g_iinc hk (lv' := [(5, mI (wI (x5 + (-1)))), (0, .ref (kB K + 49)), (2, mI x2), (3, mI x3), (4, mI x4)]) 4 rfl (Nat.le_of_ble_eq_true rfl) rfl dX9_least_86 ?_
    refine g_goto hk dX9_least_89 ?_
    refine GoAt.sub [1, 2, 3, 4, 0] rfl ?_
    exact hrec _ _ _ _ _ hm cx2 cx3 cx4 (wI_c _) h
  · refine GoAt.sub [0, 1, 2, 3] rfl ?_
    exact hk92 _ _ _ _ hm cx2 cx3 cx4 h
theorem w_Wa_least_L68 {K : zK} (hk : zOk K kdC cX9_least 6 (some .int) RX9 2) {k92 : Int → Int → Int → zM → Option (Int × zM)} {o : Int × zM} (hk92 : ∀ (x2 : Int) (x3 : Int) (x4 : Int) (m : zM), zG kdC m → cI x2 → cI x3 → cI x4 → k92 x2 x3 x4 m = some o → GoAt K m [(0, .ref (kB K + 49)), (2, mI x2), (3, mI x3), (4, mI x4)] [] 92 (0, o.1, o.2)) : ∀ (n : Nat) (x2 : Int) (x3 : Int) (x4 : Int) (x5 : Int) (m : zM), zG kdC m → cI x2 → cI x3 → cI x4 → cI x5 → Wa_least_L68 k92 n x2 x3 x4 x5 m = some o → GoAt K m [(0, .ref (kB K + 49)), (2, mI x2), (3, mI x3), (4, mI x4), (5, mI x5)] [] 68 (0, o.1, o.2)
  | 0, x2, x3, x4, x5, m, hm, cx2, cx3, cx4, cx5, h => by cases h
  | n + 1, x2, x3, x4, x5, m, hm, cx2, cx3, cx4, cx5, h => w_Wa_least_B68 hk hk92 (w_Wa_least_L68 hk hk92 n) hm cx2 cx3 cx4 cx5 h
set_option maxRecDepth 100000 in
set_option maxHeartbeats 4000000 in
theorem w_Wa_least_B58 {K : zK} (hk : zOk K kdC cX9_least 6 (some .int) RX9 2) {rec : Int → Int → Int → zM → Option (Int × zM)} {x2 : Int} {x3 : Int} {x4 : Int} {m : zM} {o : Int × zM} (hrec : ∀ (x2 : Int) (x3 : Int) (x4 : Int) (m : zM), zG kdC m → cI x2 → cI x3 → cI x4 → rec x2 x3 x4 m = some o → GoAt K m [(0, .ref (kB K + 49)), (2, mI x2), (3, mI x3), (4, mI x4)] [] 58 (0, o.1, o.2)) (hm : zG kdC m) (cx2 : cI x2) (cx3 : cI x3) (cx4 : cI x4) (h : Wa_least_B58 rec x2 x3 x4 m = some o) : GoAt K m [(0, .ref (kB K + 49)), (2, mI x2), (3, mI x3), (4, mI x4)] [] 58 (0, o.1, o.2) := by
  unfold Wa_least_B58 at h
  refine g_iload hk 3 rfl dX9_least_58 ?_
  refine g_iload_n hk 2 rfl dX9_least_60 ?_
  refine g_icmp_gt hk cx4 cx3 dX9_least_61 h (fun b1 h => ?_) (fun b1 h => ?_)
  · refine g_aload_n hk 0 rfl dX9_least_98 ?_
    refine g_get2 hk fl_X9_15 rfl kdC_49 hm (b := 51) rfl dX9_least_99 ?_
    refine g_iload_n hk 1 rfl dX9_least_102 ?_
    refine g_iald hk cx2 kdC_51 hm dX9_least_103 h (fun y2 cy2 h => ?_)
    exact g_ireturn hk cy2 dX9_least_104 (by cases h; rfl)
  · refine g_bipush hk (v := 63) rfl dX9_least_64 ?_
    refine g_istore hk (lv' := [(5, mI 63), (0, .ref (kB K + 49)), (2, mI x2), (3, mI x3), (4, mI x4)]) (Nat.le_of_ble_eq_true rfl) rfl dX9_least_66 ?_
    refine GoAt.sub [1, 2, 3, 4, 0] rfl ?_
    refine w_Wa_least_L68 hk (fun x2_3 x3_3 x4_3 m4 hm cx2_3 cx3_3 cx4_3 h => ?_) 1000000 _ _ _ _ _ hm cx2 cx3 cx4 (cIk rfl) h
    · refine g_iinc hk (lv' := [(4, mI (wI (x4_3 + 1))), (0, .ref (kB K + 49)), (2, mI x2_3), (3, mI x3_3)]) 3 rfl (Nat.le_of_ble_eq_true rfl) rfl dX9_least_92 ?_
      refine g_goto hk dX9_least_95 ?_
      refine GoAt.sub [1, 2, 3, 0] rfl ?_
      exact hrec _ _ _ _ hm cx2_3 cx3_3 (wI_c _) h
theorem w_Wa_least_L58 {K : zK} (hk : zOk K kdC cX9_least 6 (some .int) RX9 2)  {o : Int × zM}  : ∀ (n : Nat) (x2 : Int) (x3 : Int) (x4 : Int) (m : zM), zG kdC m → cI x2 → cI x3 → cI x4 → Wa_least_L58 n x2 x3 x4 m = some o → GoAt K m [(0, .ref (kB K + 49)), (2, mI x2), (3, mI x3), (4, mI x4)] [] 58 (0, o.1, o.2)
  | 0, x2, x3, x4, m, hm, cx2, cx3, cx4, h => by cases h
  | n + 1, x2, x3, x4, m, hm, cx2, cx3, cx4, h => w_Wa_least_B58 hk  (w_Wa_least_L58 hk  n) hm cx2 cx3 cx4 h
set_option maxRecDepth 100000 in
set_option maxHeartbeats 4000000 in
theorem w_Wa_least {K : zK} (hk : zOk K kdC cX9_least 6 (some .int) RX9 2)  {a1 : Nat} {n1 : Nat} {x2 : Int} {x3 : Int} {m : zM} {o : Int × zM}  (hm : zG kdC m) (ka1 : kdC a1 = (1, n1)) (cx2 : cI x2) (cx3 : cI x3) (h : Wa_least a1 n1 x2 x3 m = some o) : GoAt K m [(0, .ref (kB K + 49)), (1, .ref (kB K + a1)), (2, mI x2), (3, mI x3)] [] 0 (0, o.1, o.2) := by
  unfold Wa_least at h
  refine g_iload_n hk 2 rfl dX9_least_0 ?_
  refine g_if_lt hk cx2 dX9_least_1 h (fun b1 h => ?_) (fun b1 h => ?_)
  · refine g_iconst hk (v := (-1)) rfl dX9_least_10 ?_
    exact g_ireturn hk (cIk rfl) dX9_least_11 (by cases h; rfl)
  · refine g_iload_n hk 2 rfl dX9_least_4 ?_
    refine g_bipush hk (v := 64) rfl dX9_least_5 ?_
    refine g_icmp_lt hk cx2 (cIk rfl) dX9_least_7 h (fun b2 h => ?_) (fun b2 h => ?_)
    · refine g_iconst hk (v := 0) rfl dX9_least_12 ?_
      refine g_istore hk (lv' := [(4, mI 0), (0, .ref (kB K + 49)), (1, .ref (kB K + a1)), (2, mI x2), (3, mI x3)]) (Nat.le_of_ble_eq_true rfl) rfl dX9_least_13 ?_
      refine GoAt.sub [1, 2, 3, 4, 0] rfl ?_
      refine w_Wa_least_L15 hk (fun x2_3 x3_3 m4 hm cx2_3 cx3_3 h => ?_) 1000000 _ _ _ _ _ _ hm ka1 cx2 cx3 (cIk rfl) h
      · refine g_iconst hk (v := 2) rfl dX9_least_55 ?_
        refine g_istore hk (lv' := [(4, mI 2), (0, .ref (kB K + 49)), (2, mI x2_3), (3, mI x3_3)]) (Nat.le_of_ble_eq_true rfl) rfl dX9_least_56 ?_
        refine GoAt.sub [1, 2, 3, 0] rfl ?_
        refine w_Wa_least_L58 hk  1000000 _ _ _ _ hm cx2_3 cx3_3 (cIk rfl) h
    · refine g_iconst hk (v := (-1)) rfl dX9_least_10 ?_
      exact g_ireturn hk (cIk rfl) dX9_least_11 (by cases h; rfl)
theorem met_Wa_least (l : Launch) (D : va_G) (aC : Nat → ClassId) (B N : Nat) (hwd : ∀ id, (kdC id).1 ≠ 9 → id < N) {a1 : Nat} {n1 : Nat} {x2 : Int} {x3 : Int} {m : zM} {o : Int × zM} (hm : zG kdC m) (ka1 : kdC a1 = (1, n1)) (cx2 : cI x2) (cx3 : cI x3) (h : Wa_least a1 n1 x2 x3 m = some o) : zMet l yX9_least cX9_least 6 (some .int) 2 D aC B kdC N [.ref (B + 49), .ref (B + a1), mI x2, mI x3] m (0, o.1, o.2) := by
  refine zMet.of mf_X9_least hwd hm (Nat.le_of_ble_eq_true rfl) (fun K e1 e2 e3 e4 e5 hk => ?_)
  subst e4
  exact w_Wa_least hk hm ka1 cx2 cx3 h
set_option maxRecDepth 100000 in
set_option maxHeartbeats 4000000 in
theorem w_C_walk {K : zK} (hk : zOk K kdC cX11_walk 3 (some .int) RX11 3)  {x1 : Int} {x2 : Int} {m : zM} {o : Int × zM}  (hm : zG kdC m) (cx1 : cI x1) (cx2 : cI x2) (h : C_walk x1 x2 m = some o) : GoAt K m [(0, .ref (kB K + 0)), (1, mI x1), (2, mI x2)] [] 0 (0, o.1, o.2) := by
  unfold C_walk at h
  refine g_iload_n hk 1 rfl dX11_walk_0 ?_
  refine g_if_lt hk cx1 dX11_walk_1 h (fun b1 h => ?_) (fun b1 h => ?_)
  · refine g_iconst hk (v := (-1)) rfl dX11_walk_28 ?_
    exact g_ireturn hk (cIk rfl) dX11_walk_29 (by cases h; rfl)
  · refine g_iload_n hk 1 rfl dX11_walk_4 ?_
    refine g_iconst hk (v := 1) rfl dX11_walk_5 ?_
    refine g_aload_n hk 0 rfl dX11_walk_6 ?_
    refine g_get3o hk fl_X11_84 rfl (j := 12) rfl kdC_0 dX11_walk_7 h (fun zz2 kzz2 h => ?_)
    have g3 := zGI (i := 0) hm kzz2 rfl
    refine g_get0 hk fl_X11_128 rfl (j := 0) rfl kzz2 dX11_walk_10 ?_
    refine g_ishl hk dX11_walk_13 ?_
    refine g_icmp_ge hk cx1 (cI_t _) dX11_walk_14 h (fun b4 h => ?_) (fun b4 h => ?_)
    · refine g_iload_n hk 2 rfl dX11_walk_17 ?_
      refine g_iconst hk (v := 1) rfl dX11_walk_18 ?_
      refine g_icmp_lt hk cx2 (cIk rfl) dX11_walk_19 h (fun b5 h => ?_) (fun b5 h => ?_)
      · refine g_iconst hk (v := (-1)) rfl dX11_walk_28 ?_
        exact g_ireturn hk (cIk rfl) dX11_walk_29 (by cases h; rfl)
      · refine g_iload_n hk 2 rfl dX11_walk_22 ?_
        refine g_bipush hk (v := 6) rfl dX11_walk_23 ?_
        refine g_icmp_le hk cx2 (cIk rfl) dX11_walk_25 h (fun b6 h => ?_) (fun b6 h => ?_)
        · refine g_iconst hk (v := (-1)) rfl dX11_walk_28 ?_
          exact g_ireturn hk (cIk rfl) dX11_walk_29 (by cases h; rfl)
        · refine g_aload_n hk 0 rfl dX11_walk_30 ?_
          refine g_get2 hk fl_X11_66 rfl kdC_0 hm (b := 49) rfl dX11_walk_31 ?_
          refine g_aload_n hk 0 rfl dX11_walk_34 ?_
          refine g_get3o hk fl_X11_84 rfl (j := 12) rfl kdC_0 dX11_walk_35 h (fun zz7 kzz7 h => ?_)
          refine g_get2 hk fl_X11_179 rfl kzz7 hm (b := zz7 + 4) rfl dX11_walk_38 ?_
          refine g_iload_n hk 1 rfl dX11_walk_41 ?_
          refine g_iload_n hk 2 rfl dX11_walk_42 ?_
          obtain ⟨r8, e9, h⟩ := zbind h
          refine g_callVi hk (st := []) mf_X9_least lk_X11_318 mv_X9_least kdC_49 (by decide) rfl (Nat.le_of_ble_eq_true rfl) rfl dX11_walk_43 (met_Wa_least _ _ _ _ _ hk.wd hm (kdC_s10_5 kzz7) cx1 cx2 e9) (fun hm c10 => ?_)
          exact g_ireturn hk c10 dX11_walk_46 (by cases h; rfl)
    · refine g_iconst hk (v := (-1)) rfl dX11_walk_28 ?_
      exact g_ireturn hk (cIk rfl) dX11_walk_29 (by cases h; rfl)
theorem met_C_walk (l : Launch) (D : va_G) (aC : Nat → ClassId) (B N : Nat) (hwd : ∀ id, (kdC id).1 ≠ 9 → id < N) {x1 : Int} {x2 : Int} {m : zM} {o : Int × zM} (hm : zG kdC m) (cx1 : cI x1) (cx2 : cI x2) (h : C_walk x1 x2 m = some o) : zMet l yX11_walk cX11_walk 3 (some .int) 3 D aC B kdC N [.ref (B + 0), mI x1, mI x2] m (0, o.1, o.2) := by
  refine zMet.of mf_X11_walk hwd hm (Nat.le_of_ble_eq_true rfl) (fun K e1 e2 e3 e4 e5 hk => ?_)
  subst e4
  exact w_C_walk hk hm cx1 cx2 h
set_option maxRecDepth 100000 in
set_option maxHeartbeats 4000000 in
theorem w_Ke_follow_B6 {K : zK} (hk : zOk K kdC cX4_follow 7 (some .int) RX4 1) {rec : Nat → Int → Int → Option (Int)} {o1 : Nat} {x4 : Int} {x5 : Int} {m : zM} {o : Int} (hrec : ∀ (o1 : Nat) (x4 : Int) (x5 : Int), kdC o1 = (0, 10) → cI x4 → cI x5 → rec o1 x4 x5 = some o → GoAt K m [(0, .ref (kB K + 25)), (1, .ref (kB K + o1)), (2, .ref (kB K + 2)), (4, mI x4), (5, mI x5)] [] 6 (0, o, m)) (hm : zG kdC m) (ko1 : kdC o1 = (0, 10)) (cx4 : cI x4) (cx5 : cI x5) (h : Ke_follow_B6 rec o1 x4 x5 m = some o) : GoAt K m [(0, .ref (kB K + 25)), (1, .ref (kB K + o1)), (2, .ref (kB K + 2)), (4, mI x4), (5, mI x5)] [] 6 (0, o, m) := by
  unfold Ke_follow_B6 at h
  refine g_iload hk 4 rfl dX4_follow_6 ?_
  refine g_aload_n hk 1 rfl dX4_follow_8 ?_
  have g1 := zGI (i := 0) hm ko1 rfl
  refine g_get0 hk fl_X4_97 rfl (j := 0) rfl ko1 dX4_follow_9 ?_
  refine g_icmp_ge hk cx5 g1 dX4_follow_12 h (fun b2 h => ?_) (fun b2 h => ?_)
  · refine g_iload hk 3 rfl dX4_follow_15 ?_
    refine g_iconst hk (v := 2) rfl dX4_follow_17 ?_
    refine g_imul hk dX4_follow_18 ?_
    refine g_iconst hk (v := 1) rfl dX4_follow_19 ?_
    refine g_iadd hk dX4_follow_20 ?_
    refine g_aload_n hk 2 rfl dX4_follow_21 ?_
    have g3 := zGI (i := 1) hm kdC_2 rfl
    refine g_get0 hk fl_X4_155 rfl (j := 1) rfl kdC_2 dX4_follow_22 ?_
    refine g_icmp_ge hk (wI_c _) g3 dX4_follow_25 h (fun b4 h => ?_) (fun b4 h => ?_)
    · refine g_aload_n hk 0 rfl dX4_follow_28 ?_
      refine g_get2 hk fl_X4_15 rfl kdC_25 hm (b := 27) rfl dX4_follow_29 ?_
      refine g_iload hk 4 rfl dX4_follow_32 ?_
      refine g_iald hk cx5 kdC_27 hm dX4_follow_34 h (fun y5 cy5 h => ?_)
      refine g_istore hk (lv' := [(6, mI y5), (0, .ref (kB K + 25)), (1, .ref (kB K + o1)), (2, .ref (kB K + 2)), (4, mI x4), (5, mI x5)]) (Nat.le_of_ble_eq_true rfl) rfl dX4_follow_35 ?_
      refine g_iload hk 0 rfl dX4_follow_37 ?_
      refine g_iconst hk (v := (-1)) rfl dX4_follow_39 ?_
      refine g_icmp_eq hk cy5 (cIk rfl) dX4_follow_40 h (fun b6 h => ?_) (fun b6 h => ?_)
      · refine g_iinc hk (lv' := [(5, mI (wI (x5 + 1))), (6, mI y5), (0, .ref (kB K + 25)), (1, .ref (kB K + o1)), (2, .ref (kB K + 2)), (4, mI x4)]) 5 rfl (Nat.le_of_ble_eq_true rfl) rfl dX4_follow_87 ?_
        refine g_goto hk dX4_follow_90 ?_
        refine GoAt.sub [2, 3, 4, 5, 0] rfl ?_
        exact hrec _ _ _ ko1 cx4 (wI_c _) h
      · refine g_aload_n hk 2 rfl dX4_follow_43 ?_
        refine g_iload hk 5 rfl dX4_follow_44 ?_
        refine g_iload hk 0 rfl dX4_follow_46 ?_
        obtain ⟨r7, e8, h⟩ := zbind h
        refine g_callVz hk (st := []) mf_X10_isFeared lk_X4_74 mv_X10_isFeared ko1 (by decide) rfl (Nat.le_of_ble_eq_true rfl) rfl dX4_follow_48 (met_Zo_isFeared _ _ _ _ _ hk.wd hm ko1 cx5 cy5 e8) (fun hm c9 => ?_)
        refine g_if_ne hk (b01 c9) dX4_follow_51 h (fun b10 h => ?_) (fun b10 h => ?_)
        · refine g_aload_n hk 3 rfl dX4_follow_54 ?_
          refine g_get2 hk fl_X4_158 rfl kdC_2 hm (b := 3) rfl dX4_follow_55 ?_
          refine g_iload hk 4 rfl dX4_follow_58 ?_
          refine g_iconst hk (v := 2) rfl dX4_follow_60 ?_
          refine g_imul hk dX4_follow_61 ?_
          refine g_iald hk (wI_c _) kdC_3 hm dX4_follow_62 h (fun y11 cy11 h => ?_)
          refine g_iload hk 5 rfl dX4_follow_63 ?_
          refine g_icmp_ne hk cy11 cx5 dX4_follow_65 h (fun b12 h => ?_) (fun b12 h => ?_)
          · refine g_aload_n hk 3 rfl dX4_follow_68 ?_
            refine g_get2 hk fl_X4_158 rfl kdC_2 hm (b := 3) rfl dX4_follow_69 ?_
            refine g_iload hk 4 rfl dX4_follow_72 ?_
            refine g_iconst hk (v := 2) rfl dX4_follow_74 ?_
            refine g_imul hk dX4_follow_75 ?_
            refine g_iconst hk (v := 1) rfl dX4_follow_76 ?_
            refine g_iadd hk dX4_follow_77 ?_
            refine g_iald hk (wI_c _) kdC_3 hm dX4_follow_78 h (fun y13 cy13 h => ?_)
            refine g_iload hk 0 rfl dX4_follow_79 ?_
            refine g_icmp_ne hk cy13 cy5 dX4_follow_81 h (fun b14 h => ?_) (fun b14 h => ?_)
            · refine g_iinc hk (lv' := [(4, mI (wI (x4 + 1))), (6, mI y5), (0, .ref (kB K + 25)), (1, .ref (kB K + o1)), (2, .ref (kB K + 2)), (5, mI x5)]) 4 rfl (Nat.le_of_ble_eq_true rfl) rfl dX4_follow_84 ?_
              refine g_iinc hk (lv' := [(5, mI (wI (x5 + 1))), (4, mI (wI (x4 + 1))), (6, mI y5), (0, .ref (kB K + 25)), (1, .ref (kB K + o1)), (2, .ref (kB K + 2))]) 5 rfl (Nat.le_of_ble_eq_true rfl) rfl dX4_follow_87 ?_
              refine g_goto hk dX4_follow_90 ?_
              refine GoAt.sub [3, 4, 5, 1, 0] rfl ?_
              exact hrec _ _ _ ko1 (wI_c _) (wI_c _) h
            · refine g_iinc hk (lv' := [(5, mI (wI (x5 + 1))), (6, mI y5), (0, .ref (kB K + 25)), (1, .ref (kB K + o1)), (2, .ref (kB K + 2)), (4, mI x4)]) 5 rfl (Nat.le_of_ble_eq_true rfl) rfl dX4_follow_87 ?_
              refine g_goto hk dX4_follow_90 ?_
              refine GoAt.sub [2, 3, 4, 5, 0] rfl ?_
              exact hrec _ _ _ ko1 cx4 (wI_c _) h
          · refine g_iinc hk (lv' := [(5, mI (wI (x5 + 1))), (6, mI y5), (0, .ref (kB K + 25)), (1, .ref (kB K + o1)), (2, .ref (kB K + 2)), (4, mI x4)]) 5 rfl (Nat.le_of_ble_eq_true rfl) rfl dX4_follow_87 ?_
            refine g_goto hk dX4_follow_90 ?_
            refine GoAt.sub [2, 3, 4, 5, 0] rfl ?_
            exact hrec _ _ _ ko1 cx4 (wI_c _) h
        · refine g_iinc hk (lv' := [(5, mI (wI (x5 + 1))), (6, mI y5), (0, .ref (kB K + 25)), (1, .ref (kB K + o1)), (2, .ref (kB K + 2)), (4, mI x4)]) 5 rfl (Nat.le_of_ble_eq_true rfl) rfl dX4_follow_87 ?_
          refine g_goto hk dX4_follow_90 ?_
          refine GoAt.sub [2, 3, 4, 5, 0] rfl ?_
          exact hrec _ _ _ ko1 cx4 (wI_c _) h
    · refine g_iload hk 3 rfl dX4_follow_93 ?_
      exact g_ireturn hk cx4 dX4_follow_95 (by cases h; rfl)
  · refine g_iload hk 3 rfl dX4_follow_93 ?_
    exact g_ireturn hk cx4 dX4_follow_95 (by cases h; rfl)
theorem w_Ke_follow_L6 {K : zK} (hk : zOk K kdC cX4_follow 7 (some .int) RX4 1)  {o : Int} {m : zM} (hm : zG kdC m)  : ∀ (n : Nat) (o1 : Nat) (x4 : Int) (x5 : Int), kdC o1 = (0, 10) → cI x4 → cI x5 → Ke_follow_L6 m n o1 x4 x5 = some o → GoAt K m [(0, .ref (kB K + 25)), (1, .ref (kB K + o1)), (2, .ref (kB K + 2)), (4, mI x4), (5, mI x5)] [] 6 (0, o, m)
  | 0, o1, x4, x5, ko1, cx4, cx5, h => by cases h
  | n + 1, o1, x4, x5, ko1, cx4, cx5, h => w_Ke_follow_B6 hk  (w_Ke_follow_L6 hk hm  n) hm ko1 cx4 cx5 h
set_option maxRecDepth 100000 in
set_option maxHeartbeats 4000000 in
theorem w_Ke_follow {K : zK} (hk : zOk K kdC cX4_follow 7 (some .int) RX4 1)  {o1 : Nat} {x3 : Int} {m : zM} {o : Int}  (hm : zG kdC m) (ko1 : kdC o1 = (0, 10)) (cx3 : cI x3) (h : Ke_follow o1 x3 m = some o) : GoAt K m [(0, .ref (kB K + 25)), (1, .ref (kB K + o1)), (2, .ref (kB K + 2)), (3, mI x3)] [] 0 (0, o, m) := by
  unfold Ke_follow at h
  refine g_iload_n hk 3 rfl dX4_follow_0 ?_
  refine g_istore hk (lv' := [(4, mI x3), (0, .ref (kB K + 25)), (1, .ref (kB K + o1)), (2, .ref (kB K + 2)), (3, mI x3)]) (Nat.le_of_ble_eq_true rfl) rfl dX4_follow_1 ?_
  refine g_iconst hk (v := 0) rfl dX4_follow_3 ?_
  refine g_istore hk (lv' := [(5, mI 0), (4, mI x3), (0, .ref (kB K + 25)), (1, .ref (kB K + o1)), (2, .ref (kB K + 2)), (3, mI x3)]) (Nat.le_of_ble_eq_true rfl) rfl dX4_follow_4 ?_
  refine GoAt.sub [2, 3, 4, 1, 0] rfl ?_
  refine w_Ke_follow_L6 hk hm  1000000 _ _ _ ko1 cx3 (cIk rfl) h
theorem met_Ke_follow (l : Launch) (D : va_G) (aC : Nat → ClassId) (B N : Nat) (hwd : ∀ id, (kdC id).1 ≠ 9 → id < N) {o1 : Nat} {x3 : Int} {m : zM} {o : Int} (hm : zG kdC m) (ko1 : kdC o1 = (0, 10)) (cx3 : cI x3) (h : Ke_follow o1 x3 m = some o) : zMet l yX4_follow cX4_follow 7 (some .int) 1 D aC B kdC N [.ref (B + 25), .ref (B + o1), .ref (B + 2), mI x3] m (0, o, m) := by
  refine zMet.of mf_X4_follow hwd hm (Nat.le_of_ble_eq_true rfl) (fun K e1 e2 e3 e4 e5 hk => ?_)
  subst e4
  exact w_Ke_follow hk hm ko1 cx3 h
set_option maxRecDepth 100000 in
set_option maxHeartbeats 4000000 in
theorem w_C_hoursUntilCome_B32 {K : zK} (hk : zOk K kdC cX11_hoursUntilCome 4 (some .int) RX11 6) {rec : Int → Int → Int → zM → Option (Int × zM)} {x1 : Int} {x2 : Int} {x3 : Int} {m : zM} {o : Int × zM} (hrec : ∀ (x1 : Int) (x2 : Int) (x3 : Int) (m : zM), zG kdC m → cI x1 → cI x2 → cI x3 → rec x1 x2 x3 m = some o → GoAt K m [(0, .ref (kB K + 0)), (1, mI x1), (2, mI x2), (3, mI x3)] [] 32 (0, o.1, o.2)) (hm : zG kdC m) (cx1 : cI x1) (cx2 : cI x2) (cx3 : cI x3) (h : C_hoursUntilCome_B32 rec x1 x2 x3 m = some o) : GoAt K m [(0, .ref (kB K + 0)), (1, mI x1), (2, mI x2), (3, mI x3)] [] 32 (0, o.1, o.2) := by
  unfold C_hoursUntilCome_B32 at h
  refine g_iload_n hk 3 rfl dX11_hoursUntilCome_32 ?_
  refine g_iload_n hk 1 rfl dX11_hoursUntilCome_33 ?_
  refine g_icmp_ge hk cx3 cx1 dX11_hoursUntilCome_34 h (fun b1 h => ?_) (fun b1 h => ?_)
  · refine g_aload_n hk 0 rfl dX11_hoursUntilCome_37 ?_
    refine g_get2 hk fl_X11_38 rfl kdC_0 hm (b := 25) rfl dX11_hoursUntilCome_38 ?_
    refine g_aload_n hk 0 rfl dX11_hoursUntilCome_41 ?_
    refine g_get3o hk fl_X11_84 rfl (j := 12) rfl kdC_0 dX11_hoursUntilCome_42 h (fun zz2 kzz2 h => ?_)
    refine g_aload_n hk 0 rfl dX11_hoursUntilCome_45 ?_
    refine g_get2 hk fl_X11_28 rfl kdC_0 hm (b := 16) rfl dX11_hoursUntilCome_46 ?_
    obtain ⟨r3, e4, h⟩ := zbind h
    refine g_callVv hk (st := []) mf_X4_weigh lk_X11_234 mv_X4_weigh kdC_25 (by decide) rfl (Nat.le_of_ble_eq_true rfl) rfl dX11_hoursUntilCome_49 (met_Ke_weigh _ _ _ _ _ hk.wd hm kzz2 kdC_16 e4) (fun hm => ?_)
    refine g_aload_n hk 0 rfl dX11_hoursUntilCome_52 ?_
    refine g_get2 hk fl_X11_38 rfl kdC_0 hm (b := 25) rfl dX11_hoursUntilCome_53 ?_
    refine g_aload_n hk 0 rfl dX11_hoursUntilCome_56 ?_
    refine g_get3o hk fl_X11_84 rfl (j := 12) rfl kdC_0 dX11_hoursUntilCome_57 h (fun zz6 kzz6 h => ?_)
    refine g_aload_n hk 0 rfl dX11_hoursUntilCome_60 ?_
    refine g_get2 hk fl_X11_28 rfl kdC_0 hm (b := 16) rfl dX11_hoursUntilCome_61 ?_
    refine g_aload_n hk 0 rfl dX11_hoursUntilCome_64 ?_
    refine g_get3o hk fl_X11_84 rfl (j := 12) rfl kdC_0 dX11_hoursUntilCome_65 h (fun zz7 kzz7 h => ?_)
    have g8 := zGI (i := 0) hm kzz7 rfl
    refine g_get0 hk fl_X11_128 rfl (j := 0) rfl kzz7 dX11_hoursUntilCome_68 ?_
    obtain ⟨r9, e10, h⟩ := zbind h
    refine g_callVv hk (st := []) mf_X4_choose lk_X11_238 mv_X4_choose kdC_25 (by decide) rfl (Nat.le_of_ble_eq_true rfl) rfl dX11_hoursUntilCome_71 (met_Ke_choose _ _ _ _ _ hk.wd hm kzz6 kdC_16 g8 e10) (fun hm => ?_)
    refine g_aload_n hk 0 rfl dX11_hoursUntilCome_74 ?_
    refine g_get2 hk fl_X11_38 rfl kdC_0 hm (b := 25) rfl dX11_hoursUntilCome_75 ?_
    refine g_aload_n hk 0 rfl dX11_hoursUntilCome_78 ?_
    refine g_get3o hk fl_X11_84 rfl (j := 12) rfl kdC_0 dX11_hoursUntilCome_79 h (fun zz12 kzz12 h => ?_)
    refine g_aload_n hk 0 rfl dX11_hoursUntilCome_82 ?_
    refine g_get2 hk fl_X11_20 rfl kdC_0 hm (b := 2) rfl dX11_hoursUntilCome_83 ?_
    refine g_iload_n hk 2 rfl dX11_hoursUntilCome_86 ?_
    obtain ⟨r13, e14, h⟩ := zbind h
    refine g_callVi hk (st := []) mf_X4_follow lk_X11_376 mv_X4_follow kdC_25 (by decide) rfl (Nat.le_of_ble_eq_true rfl) rfl dX11_hoursUntilCome_87 (met_Ke_follow _ _ _ _ _ hk.wd hm kzz12 cx2 e14) (fun hm c15 => ?_)
    refine g_istore_n hk rfl (lv' := [(2, mI r13), (0, .ref (kB K + 0)), (1, mI x1), (3, mI x3)]) (Nat.le_of_ble_eq_true rfl) rfl dX11_hoursUntilCome_90 ?_
    refine g_iload_n hk 0 rfl dX11_hoursUntilCome_91 ?_
    refine g_iconst hk (v := 2) rfl dX11_hoursUntilCome_92 ?_
    refine g_imul hk dX11_hoursUntilCome_93 ?_
    refine g_aload_n hk 1 rfl dX11_hoursUntilCome_94 ?_
    refine g_get2 hk fl_X11_20 rfl kdC_0 hm (b := 2) rfl dX11_hoursUntilCome_95 ?_
    have g16 := zGI (i := 1) hm kdC_2 rfl
    refine g_get0 hk fl_X11_95 rfl (j := 1) rfl kdC_2 dX11_hoursUntilCome_98 ?_
    refine g_icmp_lt hk (wI_c _) g16 dX11_hoursUntilCome_101 h (fun b17 h => ?_) (fun b17 h => ?_)
    · refine g_aload_n hk 1 rfl dX11_hoursUntilCome_108 ?_
      refine g_get2 hk fl_X11_38 rfl kdC_0 hm (b := 25) rfl dX11_hoursUntilCome_109 ?_
      refine g_aload_n hk 1 rfl dX11_hoursUntilCome_112 ?_
      refine g_get3o hk fl_X11_84 rfl (j := 12) rfl kdC_0 dX11_hoursUntilCome_113 h (fun zz18 kzz18 h => ?_)
      refine g_aload_n hk 1 rfl dX11_hoursUntilCome_116 ?_
      refine g_get2 hk fl_X11_28 rfl kdC_0 hm (b := 16) rfl dX11_hoursUntilCome_117 ?_
      obtain ⟨r19, e20, h⟩ := zbind h
      refine g_callVi hk (st := []) mf_X4_settle lk_X11_249 mv_X4_settle kdC_25 (by decide) rfl (Nat.le_of_ble_eq_true rfl) rfl dX11_hoursUntilCome_120 (met_Ke_settle _ _ _ _ _ hk.wd hm kzz18 kdC_16 e20) (fun hm c21 => ?_)
      refine g_pop hk rfl dX11_hoursUntilCome_123 ?_
      refine g_aload_n hk 1 rfl dX11_hoursUntilCome_124 ?_
      refine g_get2 hk fl_X11_28 rfl kdC_0 hm (b := 16) rfl dX11_hoursUntilCome_125 ?_
      obtain ⟨r22, e23, h⟩ := zbind h
      refine g_callVv hk (st := []) mf_X7_passHour lk_X11_252 mv_X7_passHour kdC_16 (by decide) rfl (Nat.le_of_ble_eq_true rfl) rfl dX11_hoursUntilCome_128 (met_St_passHour _ _ _ _ _ hk.wd hm kdC_16 e23) (fun hm => ?_)
      refine g_iinc hk (lv' := [(3, mI (wI (x3 + 1))), (2, mI r13), (0, .ref (kB K + 0)), (1, mI x1)]) 3 rfl (Nat.le_of_ble_eq_true rfl) rfl dX11_hoursUntilCome_131 ?_
      refine g_goto hk dX11_hoursUntilCome_134 ?_
      refine GoAt.sub [2, 3, 1, 0] rfl ?_
      exact hrec _ _ _ _ hm cx1 c15 (wI_c _) h
    · refine g_iload_n hk 3 rfl dX11_hoursUntilCome_104 ?_
      refine g_iconst hk (v := 1) rfl dX11_hoursUntilCome_105 ?_
      refine g_iadd hk dX11_hoursUntilCome_106 ?_
      exact g_ireturn hk (wI_c _) dX11_hoursUntilCome_107 (by cases h; rfl)
  · refine g_iconst hk (v := (-1)) rfl dX11_hoursUntilCome_137 ?_
    exact g_ireturn hk (cIk rfl) dX11_hoursUntilCome_138 (by cases h; rfl)
theorem w_C_hoursUntilCome_L32 {K : zK} (hk : zOk K kdC cX11_hoursUntilCome 4 (some .int) RX11 6)  {o : Int × zM}  : ∀ (n : Nat) (x1 : Int) (x2 : Int) (x3 : Int) (m : zM), zG kdC m → cI x1 → cI x2 → cI x3 → C_hoursUntilCome_L32 n x1 x2 x3 m = some o → GoAt K m [(0, .ref (kB K + 0)), (1, mI x1), (2, mI x2), (3, mI x3)] [] 32 (0, o.1, o.2)
  | 0, x1, x2, x3, m, hm, cx1, cx2, cx3, h => by cases h
  | n + 1, x1, x2, x3, m, hm, cx1, cx2, cx3, h => w_C_hoursUntilCome_B32 hk  (w_C_hoursUntilCome_L32 hk  n) hm cx1 cx2 cx3 h
set_option maxRecDepth 100000 in
set_option maxHeartbeats 4000000 in
theorem w_C_hoursUntilCome {K : zK} (hk : zOk K kdC cX11_hoursUntilCome 4 (some .int) RX11 6)  {m : zM} {o : Int × zM}  (hm : zG kdC m)  (h : C_hoursUntilCome m = some o) : GoAt K m [(0, .ref (kB K + 0))] [] 0 (0, o.1, o.2) := by
  unfold C_hoursUntilCome at h
  refine g_aload_n hk 0 rfl dX11_hoursUntilCome_0 ?_
  refine g_get2 hk fl_X11_28 rfl kdC_0 hm (b := 16) rfl dX11_hoursUntilCome_1 ?_
  refine g_aload_n hk 0 rfl dX11_hoursUntilCome_4 ?_
  refine g_get2 hk fl_X11_24 rfl kdC_0 hm (b := 8) rfl dX11_hoursUntilCome_5 ?_
  obtain ⟨r1, e2, h⟩ := zbind h
  refine g_callVv hk (st := []) mf_X7_copyFrom lk_X11_226 mv_X7_copyFrom kdC_16 (by decide) rfl (Nat.le_of_ble_eq_true rfl) rfl dX11_hoursUntilCome_8 (met_St_copyFrom _ _ _ _ _ hk.wd hm kdC_16 kdC_8 e2) (fun hm => ?_)
  refine g_bipush hk (v := 100) rfl dX11_hoursUntilCome_11 ?_
  refine g_sipush hk (v := 23999) rfl dX11_hoursUntilCome_13 ?_
  refine g_aload_n hk 0 rfl dX11_hoursUntilCome_16 ?_
  refine g_get2 hk fl_X11_24 rfl kdC_0 hm (b := 8) rfl dX11_hoursUntilCome_17 ?_
  obtain ⟨r4, e5, h⟩ := zbind h
  refine g_callVi hk (st := [mI 23999, mI 100]) mf_X7_moment lk_X11_368 mv_X7_moment kdC_8 (by decide) rfl (Nat.le_of_ble_eq_true rfl) rfl dX11_hoursUntilCome_20 (met_St_moment _ _ _ _ _ hk.wd hm kdC_8 e5) (fun hm c6 => ?_)
  refine g_isub hk dX11_hoursUntilCome_23 ?_
  refine g_imin hk (cIk rfl) (wI_c _) lk_X11_371 ms_J9_min_7cf53 mfi_J9_min_7cf53 mfc_J9_min_7cf53 (Nat.le_of_ble_eq_true rfl) (Nat.le_of_ble_eq_true rfl) dX11_hoursUntilCome_24 ?_
  refine g_let (cI_min (cIk rfl) (wI_c _)) h (fun v7 cv7 h => ?_)
  refine g_istore_n hk rfl (lv' := [(1, mI v7), (0, .ref (kB K + 0))]) (Nat.le_of_ble_eq_true rfl) rfl dX11_hoursUntilCome_27 ?_
  refine g_iconst hk (v := 0) rfl dX11_hoursUntilCome_28 ?_
  refine g_istore_n hk rfl (lv' := [(2, mI 0), (1, mI v7), (0, .ref (kB K + 0))]) (Nat.le_of_ble_eq_true rfl) rfl dX11_hoursUntilCome_29 ?_
  refine g_iconst hk (v := 0) rfl dX11_hoursUntilCome_30 ?_
  refine g_istore_n hk rfl (lv' := [(3, mI 0), (2, mI 0), (1, mI v7), (0, .ref (kB K + 0))]) (Nat.le_of_ble_eq_true rfl) rfl dX11_hoursUntilCome_31 ?_
  refine GoAt.sub [3, 2, 1, 0] rfl ?_
  refine w_C_hoursUntilCome_L32 hk  1000000 _ _ _ _ hm cv7 (cIk rfl) (cIk rfl) h
theorem met_C_hoursUntilCome (l : Launch) (D : va_G) (aC : Nat → ClassId) (B N : Nat) (hwd : ∀ id, (kdC id).1 ≠ 9 → id < N) {m : zM} {o : Int × zM} (hm : zG kdC m)  (h : C_hoursUntilCome m = some o) : zMet l yX11_hoursUntilCome cX11_hoursUntilCome 4 (some .int) 6 D aC B kdC N [.ref (B + 0)] m (0, o.1, o.2) := by
  refine zMet.of mf_X11_hoursUntilCome hwd hm (Nat.le_of_ble_eq_true rfl) (fun K e1 e2 e3 e4 e5 hk => ?_)
  subst e4
  exact w_C_hoursUntilCome hk hm  h
set_option maxRecDepth 100000 in
set_option maxHeartbeats 4000000 in
theorem w_C_torn {K : zK} (hk : zOk K kdC cX11_torn 3 (some .int) RX11 7)  {m : zM} {o : Int × zM}  (hm : zG kdC m)  (h : C_torn m = some o) : GoAt K m [(0, .ref (kB K + 0))] [] 0 (0, o.1, o.2) := by
  unfold C_torn at h
  refine g_aload_n hk 0 rfl dX11_torn_0 ?_
  refine g_get2 hk fl_X11_20 rfl kdC_0 hm (b := 2) rfl dX11_torn_1 ?_
  refine g_aload_n hk 0 rfl dX11_torn_4 ?_
  refine g_get3o hk fl_X11_84 rfl (j := 12) rfl kdC_0 dX11_torn_5 h (fun zz1 kzz1 h => ?_)
  have g2 := zGI (i := 0) hm kzz1 rfl
  refine g_get0 hk fl_X11_128 rfl (j := 0) rfl kzz1 dX11_torn_8 ?_
  refine g_aload_n hk 0 rfl dX11_torn_11 ?_
  refine g_get3o hk fl_X11_84 rfl (j := 12) rfl kdC_0 dX11_torn_12 h (fun zz3 kzz3 h => ?_)
  have g4 := zGI (i := 1) hm kzz3 rfl
  refine g_get0 hk fl_X11_131 rfl (j := 1) rfl kzz3 dX11_torn_15 ?_
  obtain ⟨r5, e6, h⟩ := zbind h
  refine g_callVz hk (st := []) mf_X8_holdsPairs lk_X11_275 mv_X8_holdsPairs kdC_2 (by decide) rfl (Nat.le_of_ble_eq_true rfl) rfl dX11_torn_18 (met_Ta_holdsPairs _ _ _ _ _ hk.wd hm g2 g4 e6) (fun hm c7 => ?_)
  refine g_istore_n hk rfl (lv' := [(1, mI r5), (0, .ref (kB K + 0))]) (Nat.le_of_ble_eq_true rfl) rfl dX11_torn_21 ?_
  refine g_iload_n hk 0 rfl dX11_torn_22 ?_
  refine g_if_eq hk (b01 c7) dX11_torn_23 h (fun b8 h => ?_) (fun b8 h => ?_)
  · refine g_aload_n hk 1 rfl dX11_torn_33 ?_
    refine g_iconst hk (v := 5) rfl dX11_torn_34 ?_
    obtain ⟨r9, e10, h⟩ := zbind h
    refine g_callVi hk (st := []) mf_X11_refuse lk_X11_100 mv_X11_refuse kdC_0 (by decide) rfl (Nat.le_of_ble_eq_true rfl) rfl dX11_torn_35 (met_C_refuse _ _ _ _ _ hk.wd hm (cIk rfl) e10) (fun hm c11 => ?_)
    refine g_istore_n hk rfl (lv' := [(2, mI r9.1), (1, mI r5), (0, .ref (kB K + 0))]) (Nat.le_of_ble_eq_true rfl) rfl dX11_torn_38 ?_
    refine g_aload_n hk 2 rfl dX11_torn_39 ?_
    refine g_get2 hk fl_X11_20 rfl kdC_0 hm (b := 2) rfl dX11_torn_40 ?_
    refine g_iconst hk (v := 0) rfl dX11_torn_43 ?_
    refine g_put0 hk fp_X11_95 rfl (j := 1) rfl kdC_2 (cIk rfl) dX11_torn_44 h hm (fun m12 hm h => ?_)
    refine g_iload_n hk 0 rfl dX11_torn_47 ?_
    exact g_ireturn hk c11 dX11_torn_48 (by cases h; rfl)
  · refine g_aload_n hk 1 rfl dX11_torn_26 ?_
    obtain ⟨r13, e14, h⟩ := zbind h
    refine g_callVi hk (st := []) mf_X11_hoursUntilCome lk_X11_321 mv_X11_hoursUntilCome kdC_0 (by decide) rfl (Nat.le_of_ble_eq_true rfl) rfl dX11_torn_27 (met_C_hoursUntilCome _ _ _ _ _ hk.wd hm e14) (fun hm c15 => ?_)
    refine g_goto hk dX11_torn_30 ?_
    refine g_istore_n hk rfl (lv' := [(2, mI r13.1), (1, mI r5), (0, .ref (kB K + 0))]) (Nat.le_of_ble_eq_true rfl) rfl dX11_torn_38 ?_
    refine g_aload_n hk 2 rfl dX11_torn_39 ?_
    refine g_get2 hk fl_X11_20 rfl kdC_0 hm (b := 2) rfl dX11_torn_40 ?_
    refine g_iconst hk (v := 0) rfl dX11_torn_43 ?_
    refine g_put0 hk fp_X11_95 rfl (j := 1) rfl kdC_2 (cIk rfl) dX11_torn_44 h hm (fun m16 hm h => ?_)
    refine g_iload_n hk 0 rfl dX11_torn_47 ?_
    exact g_ireturn hk c15 dX11_torn_48 (by cases h; rfl)
theorem met_C_torn (l : Launch) (D : va_G) (aC : Nat → ClassId) (B N : Nat) (hwd : ∀ id, (kdC id).1 ≠ 9 → id < N) {m : zM} {o : Int × zM} (hm : zG kdC m)  (h : C_torn m = some o) : zMet l yX11_torn cX11_torn 3 (some .int) 7 D aC B kdC N [.ref (B + 0)] m (0, o.1, o.2) := by
  refine zMet.of mf_X11_torn hwd hm (Nat.le_of_ble_eq_true rfl) (fun K e1 e2 e3 e4 e5 hk => ?_)
  subst e4
  exact w_C_torn hk hm  h
set_option maxRecDepth 100000 in
set_option maxHeartbeats 4000000 in
theorem w_C_canGoBy {K : zK} (hk : zOk K kdC cX11_canGoBy 2 (some .boolean) RX11 1)  {x1 : Int} {m : zM} {o : Int}  (hm : zG kdC m) (cx1 : cI x1) (h : C_canGoBy x1 m = some o) : GoAt K m [(0, .ref (kB K + 0)), (1, mI x1)] [] 0 (4, o, m) := by
  unfold C_canGoBy at h
  refine g_iload_n hk 1 rfl dX11_canGoBy_0 ?_
  refine g_iconst hk (v := 1) rfl dX11_canGoBy_1 ?_
  refine g_icmp_lt hk cx1 (cIk rfl) dX11_canGoBy_2 h (fun b1 h => ?_) (fun b1 h => ?_)
  · refine g_iconst hk (v := 0) rfl dX11_canGoBy_31 ?_
    exact g_zreturn hk z0 dX11_canGoBy_32 (by cases h; rfl)
  · refine g_iload_n hk 1 rfl dX11_canGoBy_5 ?_
    refine g_sipush hk (v := 200) rfl dX11_canGoBy_6 ?_
    refine g_icmp_gt hk cx1 (cIk rfl) dX11_canGoBy_9 h (fun b2 h => ?_) (fun b2 h => ?_)
    · refine g_iconst hk (v := 0) rfl dX11_canGoBy_31 ?_
      exact g_zreturn hk z0 dX11_canGoBy_32 (by cases h; rfl)
    · refine g_iload_n hk 1 rfl dX11_canGoBy_12 ?_
      refine g_sipush hk (v := 23999) rfl dX11_canGoBy_13 ?_
      refine g_aload_n hk 0 rfl dX11_canGoBy_16 ?_
      refine g_get2 hk fl_X11_24 rfl kdC_0 hm (b := 8) rfl dX11_canGoBy_17 ?_
      obtain ⟨r3, e4, h⟩ := zbind h
      refine g_callVi hk (st := [mI 23999, mI x1]) mf_X7_moment lk_X11_368 mv_X7_moment kdC_8 (by decide) rfl (Nat.le_of_ble_eq_true rfl) rfl dX11_canGoBy_20 (met_St_moment _ _ _ _ _ hk.wd hm kdC_8 e4) (fun hm c5 => ?_)
      refine g_isub hk dX11_canGoBy_23 ?_
      refine g_icmp_gt hk cx1 (wI_c _) dX11_canGoBy_24 h (fun b6 h => ?_) (fun b6 h => ?_)
      · refine g_iconst hk (v := 0) rfl dX11_canGoBy_31 ?_
        exact g_zreturn hk z0 dX11_canGoBy_32 (by cases h; rfl)
      · refine g_iconst hk (v := 1) rfl dX11_canGoBy_27 ?_
        refine g_goto hk dX11_canGoBy_28 ?_
        exact g_zreturn hk z1 dX11_canGoBy_32 (by cases h; rfl)
theorem met_C_canGoBy (l : Launch) (D : va_G) (aC : Nat → ClassId) (B N : Nat) (hwd : ∀ id, (kdC id).1 ≠ 9 → id < N) {x1 : Int} {m : zM} {o : Int} (hm : zG kdC m) (cx1 : cI x1) (h : C_canGoBy x1 m = some o) : zMet l yX11_canGoBy cX11_canGoBy 2 (some .boolean) 1 D aC B kdC N [.ref (B + 0), mI x1] m (4, o, m) := by
  refine zMet.of mf_X11_canGoBy hwd hm (Nat.le_of_ble_eq_true rfl) (fun K e1 e2 e3 e4 e5 hk => ?_)
  subst e4
  exact w_C_canGoBy hk hm cx1 h
set_option maxRecDepth 100000 in
set_option maxHeartbeats 4000000 in
theorem w_C_remember {K : zK} (hk : zOk K kdC cX11_remember 1 none RX11 2)  {m : zM} {o : zM}  (hm : zG kdC m)  (h : C_remember m = some o) : GoAt K m [(0, .ref (kB K + 0))] [] 0 (9, 0, o) := by
  unfold C_remember at h
  refine g_aload_n hk 0 rfl dX11_remember_0 ?_
  refine g_get2 hk fl_X11_31 rfl kdC_0 hm (b := 24) rfl dX11_remember_1 ?_
  refine g_aload_n hk 0 rfl dX11_remember_4 ?_
  have g1 := zGI (i := 14) hm kdC_0 rfl
  refine g_get0 hk fl_X11_348 rfl (j := 14) rfl kdC_0 dX11_remember_5 ?_
  refine g_aload_n hk 0 rfl dX11_remember_8 ?_
  have g2 := zGI (i := 15) hm kdC_0 rfl
  refine g_get0 hk fl_X11_119 rfl (j := 15) rfl kdC_0 dX11_remember_9 ?_
  refine g_iadd hk dX11_remember_12 ?_
  refine g_bipush hk (v := 20) rfl dX11_remember_13 ?_
  refine g_irem hk (cIk rfl) (by decide) dX11_remember_15 ?_
  refine g_aald4 hk (cI_t _) kdC_24 hm dX11_remember_16 h (fun q3 q4 h => ?_)
  refine g_aload_n hk 0 rfl dX11_remember_17 ?_
  refine g_get2 hk fl_X11_24 rfl kdC_0 hm (b := 8) rfl dX11_remember_18 ?_
  obtain ⟨r5, e6, h⟩ := zbind h
  refine g_callVv hk (st := []) mf_X7_copyFrom lk_X11_226 mv_X7_copyFrom (kdC_past q3 q4) (by decide) rfl (Nat.le_of_ble_eq_true rfl) rfl dX11_remember_21 (met_St_copyFrom _ _ _ _ _ hk.wd hm (kdC_past q3 q4) kdC_8 e6) (fun hm => ?_)
  refine g_aload_n hk 0 rfl dX11_remember_24 ?_
  have g8 := zGI (i := 15) hm kdC_0 rfl
  refine g_get0 hk fl_X11_119 rfl (j := 15) rfl kdC_0 dX11_remember_25 ?_
  refine g_bipush hk (v := 20) rfl dX11_remember_28 ?_
  refine g_icmp_ge hk g8 (cIk rfl) dX11_remember_30 h (fun b9 h => ?_) (fun b9 h => ?_)
  · refine g_aload_n hk 0 rfl dX11_remember_33 ?_
    refine g_dup hk rfl dX11_remember_34 ?_
    have g10 := zGI (i := 15) hm kdC_0 rfl
    refine g_get0 hk fl_X11_119 rfl (j := 15) rfl kdC_0 dX11_remember_35 ?_
    refine g_iconst hk (v := 1) rfl dX11_remember_38 ?_
    refine g_iadd hk dX11_remember_39 ?_
    refine g_put0 hk fp_X11_119 rfl (j := 15) rfl kdC_0 (wI_c _) dX11_remember_40 h hm (fun m11 hm h => ?_)
    refine g_goto hk dX11_remember_43 ?_
    exact g_return hk dX11_remember_59 (by cases h; rfl)
  · refine g_aload_n hk 0 rfl dX11_remember_46 ?_
    refine g_aload_n hk 0 rfl dX11_remember_47 ?_
    have g12 := zGI (i := 14) hm kdC_0 rfl
    refine g_get0 hk fl_X11_348 rfl (j := 14) rfl kdC_0 dX11_remember_48 ?_
    refine g_iconst hk (v := 1) rfl dX11_remember_51 ?_
    refine g_iadd hk dX11_remember_52 ?_
    refine g_bipush hk (v := 20) rfl dX11_remember_53 ?_
    refine g_irem hk (cIk rfl) (by decide) dX11_remember_55 ?_
    refine g_put0 hk fp_X11_348 rfl (j := 14) rfl kdC_0 (cI_t _) dX11_remember_56 h hm (fun m13 hm h => ?_)
    exact g_return hk dX11_remember_59 (by cases h; rfl)
theorem met_C_remember (l : Launch) (D : va_G) (aC : Nat → ClassId) (B N : Nat) (hwd : ∀ id, (kdC id).1 ≠ 9 → id < N) {m : zM} {o : zM} (hm : zG kdC m)  (h : C_remember m = some o) : zMet l yX11_remember cX11_remember 1 none 2 D aC B kdC N [.ref (B + 0)] m (9, 0, o) := by
  refine zMet.of mf_X11_remember hwd hm (Nat.le_of_ble_eq_true rfl) (fun K e1 e2 e3 e4 e5 hk => ?_)
  subst e4
  exact w_C_remember hk hm  h
set_option maxRecDepth 100000 in
set_option maxHeartbeats 4000000 in
theorem w_C_hours_B22 {K : zK} (hk : zOk K kdC cX11_hours 4 (some .int) RX11 7) {rec : Int → Int → Int → zM → Option (Int × zM)} {x1 : Int} {x2 : Int} {x3 : Int} {m : zM} {o : Int × zM} (hrec : ∀ (x1 : Int) (x2 : Int) (x3 : Int) (m : zM), zG kdC m → cI x1 → cI x2 → cI x3 → rec x1 x2 x3 m = some o → GoAt K m [(0, .ref (kB K + 0)), (1, mI x1), (2, mI x2), (3, mI x3)] [] 22 (0, o.1, o.2)) (hm : zG kdC m) (cx1 : cI x1) (cx2 : cI x2) (cx3 : cI x3) (h : C_hours_B22 rec x1 x2 x3 m = some o) : GoAt K m [(0, .ref (kB K + 0)), (1, mI x1), (2, mI x2), (3, mI x3)] [] 22 (0, o.1, o.2) := by
  unfold C_hours_B22 at h
  refine g_iload_n hk 3 rfl dX11_hours_22 ?_
  refine g_iload_n hk 1 rfl dX11_hours_23 ?_
  refine g_icmp_ge hk cx3 cx1 dX11_hours_24 h (fun b1 h => ?_) (fun b1 h => ?_)
  · refine g_iload_n hk 2 rfl dX11_hours_27 ?_
    refine g_aload_n hk 0 rfl dX11_hours_28 ?_
    refine g_get2 hk fl_X11_38 rfl kdC_0 hm (b := 25) rfl dX11_hours_29 ?_
    refine g_aload_n hk 0 rfl dX11_hours_32 ?_
    refine g_get3o hk fl_X11_84 rfl (j := 12) rfl kdC_0 dX11_hours_33 h (fun zz2 kzz2 h => ?_)
    refine g_aload_n hk 0 rfl dX11_hours_36 ?_
    refine g_get2 hk fl_X11_24 rfl kdC_0 hm (b := 8) rfl dX11_hours_37 ?_
    obtain ⟨r3, e4, h⟩ := zbind h
    refine g_callVi hk (st := [mI x2]) mf_X4_playHour lk_X11_230 mv_X4_playHour kdC_25 (by decide) rfl (Nat.le_of_ble_eq_true rfl) rfl dX11_hours_40 (met_Ke_playHour _ _ _ _ _ hk.wd hm kzz2 kdC_8 e4) (fun hm c5 => ?_)
    refine g_iadd hk dX11_hours_43 ?_
    refine g_let (wI_c _) h (fun v6 cv6 h => ?_)
    refine g_istore_n hk rfl (lv' := [(2, mI v6), (0, .ref (kB K + 0)), (1, mI x1), (3, mI x3)]) (Nat.le_of_ble_eq_true rfl) rfl dX11_hours_44 ?_
    refine g_iinc hk (lv' := [(3, mI (wI (x3 + 1))), (2, mI v6), (0, .ref (kB K + 0)), (1, mI x1)]) 3 rfl (Nat.le_of_ble_eq_true rfl) rfl dX11_hours_45 ?_
    refine g_goto hk dX11_hours_48 ?_
    refine GoAt.sub [2, 3, 1, 0] rfl ?_
    exact hrec _ _ _ _ hm cx1 cv6 (wI_c _) h
  · refine g_iload_n hk 2 rfl dX11_hours_51 ?_
    exact g_ireturn hk cx2 dX11_hours_52 (by cases h; rfl)
theorem w_C_hours_L22 {K : zK} (hk : zOk K kdC cX11_hours 4 (some .int) RX11 7)  {o : Int × zM}  : ∀ (n : Nat) (x1 : Int) (x2 : Int) (x3 : Int) (m : zM), zG kdC m → cI x1 → cI x2 → cI x3 → C_hours_L22 n x1 x2 x3 m = some o → GoAt K m [(0, .ref (kB K + 0)), (1, mI x1), (2, mI x2), (3, mI x3)] [] 22 (0, o.1, o.2)
  | 0, x1, x2, x3, m, hm, cx1, cx2, cx3, h => by cases h
  | n + 1, x1, x2, x3, m, hm, cx1, cx2, cx3, h => w_C_hours_B22 hk  (w_C_hours_L22 hk  n) hm cx1 cx2 cx3 h
set_option maxRecDepth 100000 in
set_option maxHeartbeats 4000000 in
theorem w_C_hours {K : zK} (hk : zOk K kdC cX11_hours 4 (some .int) RX11 7)  {x1 : Int} {m : zM} {o : Int × zM}  (hm : zG kdC m) (cx1 : cI x1) (h : C_hours x1 m = some o) : GoAt K m [(0, .ref (kB K + 0)), (1, mI x1)] [] 0 (0, o.1, o.2) := by
  unfold C_hours at h
  refine g_aload_n hk 0 rfl dX11_hours_0 ?_
  refine g_iload_n hk 1 rfl dX11_hours_1 ?_
  obtain ⟨r1, e2, h⟩ := zbind h
  refine g_callVz hk (st := []) mf_X11_canGoBy lk_X11_324 mv_X11_canGoBy kdC_0 (by decide) rfl (Nat.le_of_ble_eq_true rfl) rfl dX11_hours_2 (met_C_canGoBy _ _ _ _ _ hk.wd hm cx1 e2) (fun hm c3 => ?_)
  refine g_if_ne hk (b01 c3) dX11_hours_5 h (fun b4 h => ?_) (fun b4 h => ?_)
  · refine g_aload_n hk 0 rfl dX11_hours_8 ?_
    refine g_iconst hk (v := 2) rfl dX11_hours_9 ?_
    obtain ⟨r5, e6, h⟩ := zbind h
    refine g_callVi hk (st := []) mf_X11_refuse lk_X11_100 mv_X11_refuse kdC_0 (by decide) rfl (Nat.le_of_ble_eq_true rfl) rfl dX11_hours_10 (met_C_refuse _ _ _ _ _ hk.wd hm (cIk rfl) e6) (fun hm c7 => ?_)
    exact g_ireturn hk c7 dX11_hours_13 (by cases h; rfl)
  · refine g_aload_n hk 0 rfl dX11_hours_14 ?_
    obtain ⟨r8, e9, h⟩ := zbind h
    refine g_callVv hk (st := []) mf_X11_remember lk_X11_327 mv_X11_remember kdC_0 (by decide) rfl (Nat.le_of_ble_eq_true rfl) rfl dX11_hours_15 (met_C_remember _ _ _ _ _ hk.wd hm e9) (fun hm => ?_)
    refine g_iconst hk (v := 0) rfl dX11_hours_18 ?_
    refine g_istore_n hk rfl (lv' := [(2, mI 0), (0, .ref (kB K + 0)), (1, mI x1)]) (Nat.le_of_ble_eq_true rfl) rfl dX11_hours_19 ?_
    refine g_iconst hk (v := 0) rfl dX11_hours_20 ?_
    refine g_istore_n hk rfl (lv' := [(3, mI 0), (2, mI 0), (0, .ref (kB K + 0)), (1, mI x1)]) (Nat.le_of_ble_eq_true rfl) rfl dX11_hours_21 ?_
    refine GoAt.sub [2, 3, 1, 0] rfl ?_
    refine w_C_hours_L22 hk  1000000 _ _ _ _ hm cx1 (cIk rfl) (cIk rfl) h
theorem met_C_hours (l : Launch) (D : va_G) (aC : Nat → ClassId) (B N : Nat) (hwd : ∀ id, (kdC id).1 ≠ 9 → id < N) {x1 : Int} {m : zM} {o : Int × zM} (hm : zG kdC m) (cx1 : cI x1) (h : C_hours x1 m = some o) : zMet l yX11_hours cX11_hours 4 (some .int) 7 D aC B kdC N [.ref (B + 0), mI x1] m (0, o.1, o.2) := by
  refine zMet.of mf_X11_hours hwd hm (Nat.le_of_ble_eq_true rfl) (fun K e1 e2 e3 e4 e5 hk => ?_)
  subst e4
  exact w_C_hours hk hm cx1 h
set_option maxRecDepth 100000 in
set_option maxHeartbeats 4000000 in
theorem w_C_drawOfHundred {K : zK} (hk : zOk K kdC cX11_drawOfHundred 1 (some .int) RX11 0)  {m : zM} {o : Int × zM}  (hm : zG kdC m)  (h : C_drawOfHundred m = some o) : GoAt K m [(0, .ref (kB K + 0))] [] 0 (0, o.1, o.2) := by
  unfold C_drawOfHundred at h
  refine g_aload_n hk 0 rfl dX11_drawOfHundred_0 ?_
  refine g_ldcw hk (v := 1103515245) cn_X11_380 dX11_drawOfHundred_1 ?_
  refine g_aload_n hk 0 rfl dX11_drawOfHundred_4 ?_
  have g1 := zGI (i := 16) hm kdC_0 rfl
  refine g_get0 hk fl_X11_91 rfl (j := 16) rfl kdC_0 dX11_drawOfHundred_5 ?_
  refine g_imul hk dX11_drawOfHundred_8 ?_
  refine g_sipush hk (v := 12345) rfl dX11_drawOfHundred_9 ?_
  refine g_iadd hk dX11_drawOfHundred_12 ?_
  refine g_ldcw hk (v := 2147483647) cn_X11_381 dX11_drawOfHundred_13 ?_
  refine g_iand hk dX11_drawOfHundred_16 ?_
  refine g_put0 hk fp_X11_91 rfl (j := 16) rfl kdC_0 (cI_t _) dX11_drawOfHundred_17 h hm (fun m2 hm h => ?_)
  refine g_aload_n hk 0 rfl dX11_drawOfHundred_20 ?_
  have g3 := zGI (i := 16) hm kdC_0 rfl
  refine g_get0 hk fl_X11_91 rfl (j := 16) rfl kdC_0 dX11_drawOfHundred_21 ?_
  refine g_bipush hk (v := 64) rfl dX11_drawOfHundred_24 ?_
  refine g_idiv hk (cIk rfl) (by decide) dX11_drawOfHundred_26 ?_
  refine g_bipush hk (v := 100) rfl dX11_drawOfHundred_27 ?_
  refine g_irem hk (cIk rfl) (by decide) dX11_drawOfHundred_29 ?_
  exact g_ireturn hk (cI_t _) dX11_drawOfHundred_30 (by cases h; rfl)
theorem met_C_drawOfHundred (l : Launch) (D : va_G) (aC : Nat → ClassId) (B N : Nat) (hwd : ∀ id, (kdC id).1 ≠ 9 → id < N) {m : zM} {o : Int × zM} (hm : zG kdC m)  (h : C_drawOfHundred m = some o) : zMet l yX11_drawOfHundred cX11_drawOfHundred 1 (some .int) 0 D aC B kdC N [.ref (B + 0)] m (0, o.1, o.2) := by
  refine zMet.of mf_X11_drawOfHundred hwd hm (Nat.le_of_ble_eq_true rfl) (fun K e1 e2 e3 e4 e5 hk => ?_)
  subst e4
  exact w_C_drawOfHundred hk hm  h
set_option maxRecDepth 100000 in
set_option maxHeartbeats 4000000 in
theorem w_C_chance_B22 {K : zK} (hk : zOk K kdC cX11_chance 4 (some .int) RX11 7) {rec : Int → Int → Int → zM → Option (Int × zM)} {x1 : Int} {x2 : Int} {x3 : Int} {m : zM} {o : Int × zM} (hrec : ∀ (x1 : Int) (x2 : Int) (x3 : Int) (m : zM), zG kdC m → cI x1 → cI x2 → cI x3 → rec x1 x2 x3 m = some o → GoAt K m [(0, .ref (kB K + 0)), (1, mI x1), (2, mI x2), (3, mI x3)] [] 22 (0, o.1, o.2)) (hm : zG kdC m) (cx1 : cI x1) (cx2 : cI x2) (cx3 : cI x3) (h : C_chance_B22 rec x1 x2 x3 m = some o) : GoAt K m [(0, .ref (kB K + 0)), (1, mI x1), (2, mI x2), (3, mI x3)] [] 22 (0, o.1, o.2) := by
  unfold C_chance_B22 at h
  refine g_iload_n hk 3 rfl dX11_chance_22 ?_
  refine g_iload_n hk 1 rfl dX11_chance_23 ?_
  refine g_icmp_ge hk cx3 cx1 dX11_chance_24 h (fun b1 h => ?_) (fun b1 h => ?_)
  · refine g_aload_n hk 0 rfl dX11_chance_27 ?_
    obtain ⟨r2, e3, h⟩ := zbind h
    refine g_callVi hk (st := []) mf_X11_drawOfHundred lk_X11_330 mv_X11_drawOfHundred kdC_0 (by decide) rfl (Nat.le_of_ble_eq_true rfl) rfl dX11_chance_28 (met_C_drawOfHundred _ _ _ _ _ hk.wd hm e3) (fun hm c4 => ?_)
    refine g_aload_n hk 0 rfl dX11_chance_31 ?_
    refine g_get3o hk fl_X11_84 rfl (j := 12) rfl kdC_0 dX11_chance_32 h (fun zz5 kzz5 h => ?_)
    have g6 := zGI (i := 18) hm kzz5 rfl
    refine g_get0 hk fl_X11_333 rfl (j := 18) rfl kzz5 dX11_chance_35 ?_
    refine g_icmp_ge hk c4 g6 dX11_chance_38 h (fun b7 h => ?_) (fun b7 h => ?_)
    · refine g_iinc hk (lv' := [(2, mI (wI (x2 + 1))), (0, .ref (kB K + 0)), (1, mI x1), (3, mI x3)]) 2 rfl (Nat.le_of_ble_eq_true rfl) rfl dX11_chance_41 ?_
      refine g_aload_n hk 1 rfl dX11_chance_44 ?_
      refine g_get2 hk fl_X11_24 rfl kdC_0 hm (b := 8) rfl dX11_chance_45 ?_
      obtain ⟨r8, e9, h⟩ := zbind h
      refine g_callVv hk (st := []) mf_X7_passHour lk_X11_252 mv_X7_passHour kdC_8 (by decide) rfl (Nat.le_of_ble_eq_true rfl) rfl dX11_chance_48 (met_St_passHour _ _ _ _ _ hk.wd hm kdC_8 e9) (fun hm => ?_)
      refine g_goto hk dX11_chance_51 ?_
      refine g_iinc hk (lv' := [(3, mI (wI (x3 + 1))), (2, mI (wI (x2 + 1))), (0, .ref (kB K + 0)), (1, mI x1)]) 3 rfl (Nat.le_of_ble_eq_true rfl) rfl dX11_chance_70 ?_
      refine g_goto hk dX11_chance_73 ?_
      refine GoAt.sub [2, 3, 1, 0] rfl ?_
      exact hrec _ _ _ _ hm cx1 (wI_c _) (wI_c _) h
    · refine g_aload_n hk 0 rfl dX11_chance_54 ?_
      refine g_get2 hk fl_X11_38 rfl kdC_0 hm (b := 25) rfl dX11_chance_55 ?_
      refine g_aload_n hk 0 rfl dX11_chance_58 ?_
      refine g_get3o hk fl_X11_84 rfl (j := 12) rfl kdC_0 dX11_chance_59 h (fun zz11 kzz11 h => ?_)
      refine g_aload_n hk 0 rfl dX11_chance_62 ?_
      refine g_get2 hk fl_X11_24 rfl kdC_0 hm (b := 8) rfl dX11_chance_63 ?_
      obtain ⟨r12, e13, h⟩ := zbind h
      refine g_callVi hk (st := []) mf_X4_playHour lk_X11_230 mv_X4_playHour kdC_25 (by decide) rfl (Nat.le_of_ble_eq_true rfl) rfl dX11_chance_66 (met_Ke_playHour _ _ _ _ _ hk.wd hm kzz11 kdC_8 e13) (fun hm c14 => ?_)
      refine g_pop hk rfl dX11_chance_69 ?_
      refine g_iinc hk (lv' := [(3, mI (wI (x3 + 1))), (0, .ref (kB K + 0)), (1, mI x1), (2, mI x2)]) 3 rfl (Nat.le_of_ble_eq_true rfl) rfl dX11_chance_70 ?_
      refine g_goto hk dX11_chance_73 ?_
      refine GoAt.sub [1, 2, 3, 0] rfl ?_
      exact hrec _ _ _ _ hm cx1 cx2 (wI_c _) h
  · refine g_iload_n hk 2 rfl dX11_chance_76 ?_
    exact g_ireturn hk cx2 dX11_chance_77 (by cases h; rfl)
theorem w_C_chance_L22 {K : zK} (hk : zOk K kdC cX11_chance 4 (some .int) RX11 7)  {o : Int × zM}  : ∀ (n : Nat) (x1 : Int) (x2 : Int) (x3 : Int) (m : zM), zG kdC m → cI x1 → cI x2 → cI x3 → C_chance_L22 n x1 x2 x3 m = some o → GoAt K m [(0, .ref (kB K + 0)), (1, mI x1), (2, mI x2), (3, mI x3)] [] 22 (0, o.1, o.2)
  | 0, x1, x2, x3, m, hm, cx1, cx2, cx3, h => by cases h
  | n + 1, x1, x2, x3, m, hm, cx1, cx2, cx3, h => w_C_chance_B22 hk  (w_C_chance_L22 hk  n) hm cx1 cx2 cx3 h
set_option maxRecDepth 100000 in
set_option maxHeartbeats 4000000 in
theorem w_C_chance {K : zK} (hk : zOk K kdC cX11_chance 4 (some .int) RX11 7)  {x1 : Int} {m : zM} {o : Int × zM}  (hm : zG kdC m) (cx1 : cI x1) (h : C_chance x1 m = some o) : GoAt K m [(0, .ref (kB K + 0)), (1, mI x1)] [] 0 (0, o.1, o.2) := by
  unfold C_chance at h
  refine g_aload_n hk 0 rfl dX11_chance_0 ?_
  refine g_iload_n hk 1 rfl dX11_chance_1 ?_
  obtain ⟨r1, e2, h⟩ := zbind h
  refine g_callVz hk (st := []) mf_X11_canGoBy lk_X11_324 mv_X11_canGoBy kdC_0 (by decide) rfl (Nat.le_of_ble_eq_true rfl) rfl dX11_chance_2 (met_C_canGoBy _ _ _ _ _ hk.wd hm cx1 e2) (fun hm c3 => ?_)
  refine g_if_ne hk (b01 c3) dX11_chance_5 h (fun b4 h => ?_) (fun b4 h => ?_)
  · refine g_aload_n hk 0 rfl dX11_chance_8 ?_
    refine g_iconst hk (v := 2) rfl dX11_chance_9 ?_
    obtain ⟨r5, e6, h⟩ := zbind h
    refine g_callVi hk (st := []) mf_X11_refuse lk_X11_100 mv_X11_refuse kdC_0 (by decide) rfl (Nat.le_of_ble_eq_true rfl) rfl dX11_chance_10 (met_C_refuse _ _ _ _ _ hk.wd hm (cIk rfl) e6) (fun hm c7 => ?_)
    exact g_ireturn hk c7 dX11_chance_13 (by cases h; rfl)
  · refine g_aload_n hk 0 rfl dX11_chance_14 ?_
    obtain ⟨r8, e9, h⟩ := zbind h
    refine g_callVv hk (st := []) mf_X11_remember lk_X11_327 mv_X11_remember kdC_0 (by decide) rfl (Nat.le_of_ble_eq_true rfl) rfl dX11_chance_15 (met_C_remember _ _ _ _ _ hk.wd hm e9) (fun hm => ?_)
    refine g_iconst hk (v := 0) rfl dX11_chance_18 ?_
    refine g_istore_n hk rfl (lv' := [(2, mI 0), (0, .ref (kB K + 0)), (1, mI x1)]) (Nat.le_of_ble_eq_true rfl) rfl dX11_chance_19 ?_
    refine g_iconst hk (v := 0) rfl dX11_chance_20 ?_
    refine g_istore_n hk rfl (lv' := [(3, mI 0), (2, mI 0), (0, .ref (kB K + 0)), (1, mI x1)]) (Nat.le_of_ble_eq_true rfl) rfl dX11_chance_21 ?_
    refine GoAt.sub [2, 3, 1, 0] rfl ?_
    refine w_C_chance_L22 hk  1000000 _ _ _ _ hm cx1 (cIk rfl) (cIk rfl) h
theorem met_C_chance (l : Launch) (D : va_G) (aC : Nat → ClassId) (B N : Nat) (hwd : ∀ id, (kdC id).1 ≠ 9 → id < N) {x1 : Int} {m : zM} {o : Int × zM} (hm : zG kdC m) (cx1 : cI x1) (h : C_chance x1 m = some o) : zMet l yX11_chance cX11_chance 4 (some .int) 7 D aC B kdC N [.ref (B + 0), mI x1] m (0, o.1, o.2) := by
  refine zMet.of mf_X11_chance hwd hm (Nat.le_of_ble_eq_true rfl) (fun K e1 e2 e3 e4 e5 hk => ?_)
  subst e4
  exact w_C_chance hk hm cx1 h
set_option maxRecDepth 100000 in
set_option maxHeartbeats 4000000 in
theorem w_C_isTrait {K : zK} (hk : zOk K kdC cX11_isTrait 1 (some .boolean) RX11 0)  {x0 : Int} {m : zM} {o : Int}  (hm : zG kdC m) (cx0 : cI x0) (h : C_isTrait x0 = some o) : GoAt K m [(0, mI x0)] [] 0 (4, o, m) := by
  unfold C_isTrait at h
  refine g_iload_n hk 0 rfl dX11_isTrait_0 ?_
  refine g_if_lt hk cx0 dX11_isTrait_1 h (fun b1 h => ?_) (fun b1 h => ?_)
  · refine g_iconst hk (v := 0) rfl dX11_isTrait_14 ?_
    exact g_zreturn hk z0 dX11_isTrait_15 (by cases h; rfl)
  · refine g_iload_n hk 0 rfl dX11_isTrait_4 ?_
    refine g_bipush hk (v := 9) rfl dX11_isTrait_5 ?_
    refine g_icmp_gt hk cx0 (cIk rfl) dX11_isTrait_7 h (fun b2 h => ?_) (fun b2 h => ?_)
    · refine g_iconst hk (v := 0) rfl dX11_isTrait_14 ?_
      exact g_zreturn hk z0 dX11_isTrait_15 (by cases h; rfl)
    · refine g_iconst hk (v := 1) rfl dX11_isTrait_10 ?_
      refine g_goto hk dX11_isTrait_11 ?_
      exact g_zreturn hk z1 dX11_isTrait_15 (by cases h; rfl)
theorem met_C_isTrait (l : Launch) (D : va_G) (aC : Nat → ClassId) (B N : Nat) (hwd : ∀ id, (kdC id).1 ≠ 9 → id < N) {x0 : Int} {m : zM} {o : Int} (hm : zG kdC m) (cx0 : cI x0) (h : C_isTrait x0 = some o) : zMet l yX11_isTrait cX11_isTrait 1 (some .boolean) 0 D aC B kdC N [mI x0] m (4, o, m) := by
  refine zMet.of mf_X11_isTrait hwd hm (Nat.le_of_ble_eq_true rfl) (fun K e1 e2 e3 e4 e5 hk => ?_)
  subst e4
  exact w_C_isTrait hk hm cx0 h
set_option maxRecDepth 100000 in
set_option maxHeartbeats 4000000 in
theorem w_C_isNewTriple {K : zK} (hk : zOk K kdC cX11_isNewTriple 5 (some .boolean) RX11 1)  {a0 : Nat} {n0 : Nat} {x1 : Int} {x2 : Int} {x3 : Int} {x4 : Int} {m : zM} {o : Int}  (hm : zG kdC m) (ka0 : kdC a0 = (1, n0)) (cx1 : cI x1) (cx2 : cI x2) (cx3 : cI x3) (cx4 : cI x4) (h : C_isNewTriple a0 n0 x1 x2 x3 x4 m = some o) : GoAt K m [(0, .ref (kB K + a0)), (1, mI x1), (2, mI x2), (3, mI x3), (4, mI x4)] [] 0 (4, o, m) := by
  unfold C_isNewTriple at h
  refine g_iload_n hk 2 rfl dX11_isNewTriple_0 ?_
  obtain ⟨r1, e2, h⟩ := zbind h
  refine g_callSz hk (st := []) mf_X11_isTrait lk_X11_382 ms_X11_isTrait (by decide) rfl (Nat.le_of_ble_eq_true rfl) rfl dX11_isNewTriple_1 (met_C_isTrait _ _ _ _ _ hk.wd hm cx2 e2) (fun hm c3 => ?_)
  refine g_if_eq hk (b01 c3) dX11_isNewTriple_4 h (fun b4 h => ?_) (fun b4 h => ?_)
  · refine g_iconst hk (v := 0) rfl dX11_isNewTriple_22 ?_
    exact g_zreturn hk z0 dX11_isNewTriple_23 (by cases h; rfl)
  · refine g_iload_n hk 3 rfl dX11_isNewTriple_7 ?_
    obtain ⟨r5, e6, h⟩ := zbind h
    refine g_callSz hk (st := []) mf_X11_isTrait lk_X11_382 ms_X11_isTrait (by decide) rfl (Nat.le_of_ble_eq_true rfl) rfl dX11_isNewTriple_8 (met_C_isTrait _ _ _ _ _ hk.wd hm cx3 e6) (fun hm c7 => ?_)
    refine g_if_eq hk (b01 c7) dX11_isNewTriple_11 h (fun b8 h => ?_) (fun b8 h => ?_)
    · refine g_iconst hk (v := 0) rfl dX11_isNewTriple_22 ?_
      exact g_zreturn hk z0 dX11_isNewTriple_23 (by cases h; rfl)
    · refine g_iload hk 4 rfl dX11_isNewTriple_14 ?_
      obtain ⟨r9, e10, h⟩ := zbind h
      refine g_callSz hk (st := []) mf_X11_isTrait lk_X11_382 ms_X11_isTrait (by decide) rfl (Nat.le_of_ble_eq_true rfl) rfl dX11_isNewTriple_16 (met_C_isTrait _ _ _ _ _ hk.wd hm cx4 e10) (fun hm c11 => ?_)
      refine g_if_ne hk (b01 c11) dX11_isNewTriple_19 h (fun b12 h => ?_) (fun b12 h => ?_)
      · refine g_iconst hk (v := 0) rfl dX11_isNewTriple_22 ?_
        exact g_zreturn hk z0 dX11_isNewTriple_23 (by cases h; rfl)
      · refine g_aload_n hk 0 rfl dX11_isNewTriple_24 ?_
        refine g_iload_n hk 1 rfl dX11_isNewTriple_25 ?_
        refine g_iald hk cx1 ka0 hm dX11_isNewTriple_26 h (fun y13 cy13 h => ?_)
        refine g_iload_n hk 2 rfl dX11_isNewTriple_27 ?_
        refine g_icmp_ne hk cy13 cx2 dX11_isNewTriple_28 h (fun b14 h => ?_) (fun b14 h => ?_)
        · refine g_aload_n hk 0 rfl dX11_isNewTriple_31 ?_
          refine g_iload_n hk 1 rfl dX11_isNewTriple_32 ?_
          refine g_iconst hk (v := 1) rfl dX11_isNewTriple_33 ?_
          refine g_iadd hk dX11_isNewTriple_34 ?_
          refine g_iald hk (wI_c _) ka0 hm dX11_isNewTriple_35 h (fun y15 cy15 h => ?_)
          refine g_iload_n hk 3 rfl dX11_isNewTriple_36 ?_
          refine g_icmp_ne hk cy15 cx3 dX11_isNewTriple_37 h (fun b16 h => ?_) (fun b16 h => ?_)
          · refine g_aload_n hk 0 rfl dX11_isNewTriple_40 ?_
            refine g_iload_n hk 1 rfl dX11_isNewTriple_41 ?_
            refine g_iconst hk (v := 2) rfl dX11_isNewTriple_42 ?_
            refine g_iadd hk dX11_isNewTriple_43 ?_
            refine g_iald hk (wI_c _) ka0 hm dX11_isNewTriple_44 h (fun y17 cy17 h => ?_)
            refine g_iload hk 4 rfl dX11_isNewTriple_45 ?_
            refine g_icmp_eq hk cy17 cx4 dX11_isNewTriple_47 h (fun b18 h => ?_) (fun b18 h => ?_)
            · refine g_iconst hk (v := 0) rfl dX11_isNewTriple_54 ?_
              exact g_zreturn hk z0 dX11_isNewTriple_55 (by cases h; rfl)
            · refine g_iconst hk (v := 1) rfl dX11_isNewTriple_50 ?_
              refine g_goto hk dX11_isNewTriple_51 ?_
              exact g_zreturn hk z1 dX11_isNewTriple_55 (by cases h; rfl)
          · refine g_iconst hk (v := 1) rfl dX11_isNewTriple_50 ?_
            refine g_goto hk dX11_isNewTriple_51 ?_
            exact g_zreturn hk z1 dX11_isNewTriple_55 (by cases h; rfl)
        · refine g_iconst hk (v := 1) rfl dX11_isNewTriple_50 ?_
          refine g_goto hk dX11_isNewTriple_51 ?_
          exact g_zreturn hk z1 dX11_isNewTriple_55 (by cases h; rfl)
theorem met_C_isNewTriple (l : Launch) (D : va_G) (aC : Nat → ClassId) (B N : Nat) (hwd : ∀ id, (kdC id).1 ≠ 9 → id < N) {a0 : Nat} {n0 : Nat} {x1 : Int} {x2 : Int} {x3 : Int} {x4 : Int} {m : zM} {o : Int} (hm : zG kdC m) (ka0 : kdC a0 = (1, n0)) (cx1 : cI x1) (cx2 : cI x2) (cx3 : cI x3) (cx4 : cI x4) (h : C_isNewTriple a0 n0 x1 x2 x3 x4 m = some o) : zMet l yX11_isNewTriple cX11_isNewTriple 5 (some .boolean) 1 D aC B kdC N [.ref (B + a0), mI x1, mI x2, mI x3, mI x4] m (4, o, m) := by
  refine zMet.of mf_X11_isNewTriple hwd hm (Nat.le_of_ble_eq_true rfl) (fun K e1 e2 e3 e4 e5 hk => ?_)
  subst e4
  exact w_C_isNewTriple hk hm ka0 cx1 cx2 cx3 cx4 h
set_option maxRecDepth 100000 in
set_option maxHeartbeats 4000000 in
theorem w_C_change {K : zK} (hk : zOk K kdC cX11_change 5 (some .boolean) RX11 3)  {x1 : Int} {x2 : Int} {x3 : Int} {x4 : Int} {m : zM} {o : Int × zM}  (hm : zG kdC m) (cx1 : cI x1) (cx2 : cI x2) (cx3 : cI x3) (cx4 : cI x4) (h : C_change x1 x2 x3 x4 m = some o) : GoAt K m [(0, .ref (kB K + 0)), (1, mI x1), (2, mI x2), (3, mI x3), (4, mI x4)] [] 0 (4, o.1, o.2) := by
  unfold C_change at h
  refine g_aload_n hk 0 rfl dX11_change_0 ?_
  refine g_get3o hk fl_X11_84 rfl (j := 12) rfl kdC_0 dX11_change_1 h (fun zz1 kzz1 h => ?_)
  refine g_iload_n hk 1 rfl dX11_change_4 ?_
  obtain ⟨r2, e3, h⟩ := zbind h
  refine g_callVz hk (st := []) mf_X10_isGuest lk_X11_167 mv_X10_isGuest kzz1 (by decide) rfl (Nat.le_of_ble_eq_true rfl) rfl dX11_change_5 (met_Zo_isGuest _ _ _ _ _ hk.wd hm kzz1 cx1 e3) (fun hm c4 => ?_)
  refine g_if_eq hk (b01 c4) dX11_change_8 h (fun b5 h => ?_) (fun b5 h => ?_)
  · refine g_aload_n hk 0 rfl dX11_change_31 ?_
    refine g_iconst hk (v := 3) rfl dX11_change_32 ?_
    obtain ⟨r6, e7, h⟩ := zbind h
    refine g_callVi hk (st := []) mf_X11_refuse lk_X11_100 mv_X11_refuse kdC_0 (by decide) rfl (Nat.le_of_ble_eq_true rfl) rfl dX11_change_33 (met_C_refuse _ _ _ _ _ hk.wd hm (cIk rfl) e7) (fun hm c8 => ?_)
    refine g_pop hk rfl dX11_change_36 ?_
    refine g_iconst hk (v := 0) rfl dX11_change_37 ?_
    exact g_zreturn hk z0 dX11_change_38 (by cases h; rfl)
  · refine g_aload_n hk 0 rfl dX11_change_11 ?_
    refine g_get2 hk fl_X11_24 rfl kdC_0 hm (b := 8) rfl dX11_change_12 ?_
    refine g_get2 hk fl_X11_192 rfl kdC_8 hm (b := 9) rfl dX11_change_15 ?_
    refine g_iload_n hk 1 rfl dX11_change_18 ?_
    refine g_iconst hk (v := 3) rfl dX11_change_19 ?_
    refine g_imul hk dX11_change_20 ?_
    refine g_iload_n hk 2 rfl dX11_change_21 ?_
    refine g_iload_n hk 3 rfl dX11_change_22 ?_
    refine g_iload hk 4 rfl dX11_change_23 ?_
    obtain ⟨r9, e10, h⟩ := zbind h
    refine g_callSz hk (st := []) mf_X11_isNewTriple lk_X11_336 ms_X11_isNewTriple (by decide) rfl (Nat.le_of_ble_eq_true rfl) rfl dX11_change_25 (met_C_isNewTriple _ _ _ _ _ hk.wd hm kdC_9 (wI_c _) cx2 cx3 cx4 e10) (fun hm c11 => ?_)
    refine g_if_ne hk (b01 c11) dX11_change_28 h (fun b12 h => ?_) (fun b12 h => ?_)
    · refine g_aload_n hk 0 rfl dX11_change_31 ?_
      refine g_iconst hk (v := 3) rfl dX11_change_32 ?_
      obtain ⟨r13, e14, h⟩ := zbind h
      refine g_callVi hk (st := []) mf_X11_refuse lk_X11_100 mv_X11_refuse kdC_0 (by decide) rfl (Nat.le_of_ble_eq_true rfl) rfl dX11_change_33 (met_C_refuse _ _ _ _ _ hk.wd hm (cIk rfl) e14) (fun hm c15 => ?_)
      refine g_pop hk rfl dX11_change_36 ?_
      refine g_iconst hk (v := 0) rfl dX11_change_37 ?_
      exact g_zreturn hk z0 dX11_change_38 (by cases h; rfl)
    · refine g_aload_n hk 0 rfl dX11_change_39 ?_
      obtain ⟨r16, e17, h⟩ := zbind h
      refine g_callVv hk (st := []) mf_X11_remember lk_X11_327 mv_X11_remember kdC_0 (by decide) rfl (Nat.le_of_ble_eq_true rfl) rfl dX11_change_40 (met_C_remember _ _ _ _ _ hk.wd hm e17) (fun hm => ?_)
      refine g_aload_n hk 0 rfl dX11_change_43 ?_
      refine g_get2 hk fl_X11_24 rfl kdC_0 hm (b := 8) rfl dX11_change_44 ?_
      refine g_get2 hk fl_X11_192 rfl kdC_8 hm (b := 9) rfl dX11_change_47 ?_
      refine g_iload_n hk 1 rfl dX11_change_50 ?_
      refine g_iconst hk (v := 3) rfl dX11_change_51 ?_
      refine g_imul hk dX11_change_52 ?_
      refine g_iload_n hk 2 rfl dX11_change_53 ?_
      refine g_iload_n hk 3 rfl dX11_change_54 ?_
      refine g_iload hk 4 rfl dX11_change_55 ?_
      obtain ⟨r19, e20, h⟩ := zbind h
      refine g_callSv hk (st := []) mf_X11_setTriple lk_X11_340 ms_X11_setTriple (by decide) rfl (Nat.le_of_ble_eq_true rfl) rfl dX11_change_57 (met_C_setTriple _ _ _ _ _ hk.wd hm kdC_9 (wI_c _) cx2 cx3 cx4 e20) (fun hm => ?_)
      refine g_iconst hk (v := 1) rfl dX11_change_60 ?_
      exact g_zreturn hk z1 dX11_change_61 (by cases h; rfl)
theorem met_C_change (l : Launch) (D : va_G) (aC : Nat → ClassId) (B N : Nat) (hwd : ∀ id, (kdC id).1 ≠ 9 → id < N) {x1 : Int} {x2 : Int} {x3 : Int} {x4 : Int} {m : zM} {o : Int × zM} (hm : zG kdC m) (cx1 : cI x1) (cx2 : cI x2) (cx3 : cI x3) (cx4 : cI x4) (h : C_change x1 x2 x3 x4 m = some o) : zMet l yX11_change cX11_change 5 (some .boolean) 3 D aC B kdC N [.ref (B + 0), mI x1, mI x2, mI x3, mI x4] m (4, o.1, o.2) := by
  refine zMet.of mf_X11_change hwd hm (Nat.le_of_ble_eq_true rfl) (fun K e1 e2 e3 e4 e5 hk => ?_)
  subst e4
  exact w_C_change hk hm cx1 cx2 cx3 cx4 h
set_option maxRecDepth 100000 in
set_option maxHeartbeats 4000000 in
theorem w_C_train {K : zK} (hk : zOk K kdC cX11_train 5 (some .boolean) RX11 3)  {x1 : Int} {x2 : Int} {x3 : Int} {x4 : Int} {m : zM} {o : Int × zM}  (hm : zG kdC m) (cx1 : cI x1) (cx2 : cI x2) (cx3 : cI x3) (cx4 : cI x4) (h : C_train x1 x2 x3 x4 m = some o) : GoAt K m [(0, .ref (kB K + 0)), (1, mI x1), (2, mI x2), (3, mI x3), (4, mI x4)] [] 0 (4, o.1, o.2) := by
  unfold C_train at h
  refine g_aload_n hk 0 rfl dX11_train_0 ?_
  refine g_get3o hk fl_X11_84 rfl (j := 12) rfl kdC_0 dX11_train_1 h (fun zz1 kzz1 h => ?_)
  refine g_iload_n hk 1 rfl dX11_train_4 ?_
  obtain ⟨r2, e3, h⟩ := zbind h
  refine g_callVz hk (st := []) mf_X10_isBeast lk_X11_156 mv_X10_isBeast kzz1 (by decide) rfl (Nat.le_of_ble_eq_true rfl) rfl dX11_train_5 (met_Zo_isBeast _ _ _ _ _ hk.wd hm kzz1 cx1 e3) (fun hm c4 => ?_)
  refine g_if_eq hk (b01 c4) dX11_train_8 h (fun b5 h => ?_) (fun b5 h => ?_)
  · refine g_aload_n hk 0 rfl dX11_train_31 ?_
    refine g_iconst hk (v := 3) rfl dX11_train_32 ?_
    obtain ⟨r6, e7, h⟩ := zbind h
    refine g_callVi hk (st := []) mf_X11_refuse lk_X11_100 mv_X11_refuse kdC_0 (by decide) rfl (Nat.le_of_ble_eq_true rfl) rfl dX11_train_33 (met_C_refuse _ _ _ _ _ hk.wd hm (cIk rfl) e7) (fun hm c8 => ?_)
    refine g_pop hk rfl dX11_train_36 ?_
    refine g_iconst hk (v := 0) rfl dX11_train_37 ?_
    exact g_zreturn hk z0 dX11_train_38 (by cases h; rfl)
  · refine g_aload_n hk 0 rfl dX11_train_11 ?_
    refine g_get2 hk fl_X11_24 rfl kdC_0 hm (b := 8) rfl dX11_train_12 ?_
    refine g_get2 hk fl_X11_182 rfl kdC_8 hm (b := 12) rfl dX11_train_15 ?_
    refine g_iload_n hk 1 rfl dX11_train_18 ?_
    refine g_iconst hk (v := 3) rfl dX11_train_19 ?_
    refine g_imul hk dX11_train_20 ?_
    refine g_iload_n hk 2 rfl dX11_train_21 ?_
    refine g_iload_n hk 3 rfl dX11_train_22 ?_
    refine g_iload hk 4 rfl dX11_train_23 ?_
    obtain ⟨r9, e10, h⟩ := zbind h
    refine g_callSz hk (st := []) mf_X11_isNewTriple lk_X11_336 ms_X11_isNewTriple (by decide) rfl (Nat.le_of_ble_eq_true rfl) rfl dX11_train_25 (met_C_isNewTriple _ _ _ _ _ hk.wd hm kdC_12 (wI_c _) cx2 cx3 cx4 e10) (fun hm c11 => ?_)
    refine g_if_ne hk (b01 c11) dX11_train_28 h (fun b12 h => ?_) (fun b12 h => ?_)
    · refine g_aload_n hk 0 rfl dX11_train_31 ?_
      refine g_iconst hk (v := 3) rfl dX11_train_32 ?_
      obtain ⟨r13, e14, h⟩ := zbind h
      refine g_callVi hk (st := []) mf_X11_refuse lk_X11_100 mv_X11_refuse kdC_0 (by decide) rfl (Nat.le_of_ble_eq_true rfl) rfl dX11_train_33 (met_C_refuse _ _ _ _ _ hk.wd hm (cIk rfl) e14) (fun hm c15 => ?_)
      refine g_pop hk rfl dX11_train_36 ?_
      refine g_iconst hk (v := 0) rfl dX11_train_37 ?_
      exact g_zreturn hk z0 dX11_train_38 (by cases h; rfl)
    · refine g_aload_n hk 0 rfl dX11_train_39 ?_
      obtain ⟨r16, e17, h⟩ := zbind h
      refine g_callVv hk (st := []) mf_X11_remember lk_X11_327 mv_X11_remember kdC_0 (by decide) rfl (Nat.le_of_ble_eq_true rfl) rfl dX11_train_40 (met_C_remember _ _ _ _ _ hk.wd hm e17) (fun hm => ?_)
      refine g_aload_n hk 0 rfl dX11_train_43 ?_
      refine g_get2 hk fl_X11_24 rfl kdC_0 hm (b := 8) rfl dX11_train_44 ?_
      refine g_get2 hk fl_X11_182 rfl kdC_8 hm (b := 12) rfl dX11_train_47 ?_
      refine g_iload_n hk 1 rfl dX11_train_50 ?_
      refine g_iconst hk (v := 3) rfl dX11_train_51 ?_
      refine g_imul hk dX11_train_52 ?_
      refine g_iload_n hk 2 rfl dX11_train_53 ?_
      refine g_iload_n hk 3 rfl dX11_train_54 ?_
      refine g_iload hk 4 rfl dX11_train_55 ?_
      obtain ⟨r19, e20, h⟩ := zbind h
      refine g_callSv hk (st := []) mf_X11_setTriple lk_X11_340 ms_X11_setTriple (by decide) rfl (Nat.le_of_ble_eq_true rfl) rfl dX11_train_57 (met_C_setTriple _ _ _ _ _ hk.wd hm kdC_12 (wI_c _) cx2 cx3 cx4 e20) (fun hm => ?_)
      refine g_iconst hk (v := 1) rfl dX11_train_60 ?_
      exact g_zreturn hk z1 dX11_train_61 (by cases h; rfl)
theorem met_C_train (l : Launch) (D : va_G) (aC : Nat → ClassId) (B N : Nat) (hwd : ∀ id, (kdC id).1 ≠ 9 → id < N) {x1 : Int} {x2 : Int} {x3 : Int} {x4 : Int} {m : zM} {o : Int × zM} (hm : zG kdC m) (cx1 : cI x1) (cx2 : cI x2) (cx3 : cI x3) (cx4 : cI x4) (h : C_train x1 x2 x3 x4 m = some o) : zMet l yX11_train cX11_train 5 (some .boolean) 3 D aC B kdC N [.ref (B + 0), mI x1, mI x2, mI x3, mI x4] m (4, o.1, o.2) := by
  refine zMet.of mf_X11_train hwd hm (Nat.le_of_ble_eq_true rfl) (fun K e1 e2 e3 e4 e5 hk => ?_)
  subst e4
  exact w_C_train hk hm cx1 cx2 cx3 cx4 h
set_option maxRecDepth 100000 in
set_option maxHeartbeats 4000000 in
theorem w_St_swapPlaces {K : zK} (hk : zOk K kdC cX7_swapPlaces 4 none RX7 0)  {a0 : Nat} {n0 : Nat} {x1 : Int} {x2 : Int} {m : zM} {o : zM}  (hm : zG kdC m) (ka0 : kdC a0 = (1, n0)) (cx1 : cI x1) (cx2 : cI x2) (h : St_swapPlaces a0 n0 x1 x2 m = some o) : GoAt K m [(0, .ref (kB K + a0)), (1, mI x1), (2, mI x2)] [] 0 (9, 0, o) := by
  unfold St_swapPlaces at h
  refine g_aload_n hk 0 rfl dX7_swapPlaces_0 ?_
  refine g_iload_n hk 1 rfl dX7_swapPlaces_1 ?_
  refine g_iald hk cx1 ka0 hm dX7_swapPlaces_2 h (fun y1 cy1 h => ?_)
  refine g_istore_n hk rfl (lv' := [(3, mI y1), (0, .ref (kB K + a0)), (1, mI x1), (2, mI x2)]) (Nat.le_of_ble_eq_true rfl) rfl dX7_swapPlaces_3 ?_
  refine g_aload_n hk 1 rfl dX7_swapPlaces_4 ?_
  refine g_iload_n hk 2 rfl dX7_swapPlaces_5 ?_
  refine g_aload_n hk 1 rfl dX7_swapPlaces_6 ?_
  refine g_iload_n hk 3 rfl dX7_swapPlaces_7 ?_
  refine g_iald hk cx2 ka0 hm dX7_swapPlaces_8 h (fun y2 cy2 h => ?_)
  refine g_iast hk cx1 cy2 ka0 hm dX7_swapPlaces_9 h (fun m3 hm h => ?_)
  refine g_aload_n hk 1 rfl dX7_swapPlaces_10 ?_
  refine g_iload_n hk 3 rfl dX7_swapPlaces_11 ?_
  refine g_iload_n hk 0 rfl dX7_swapPlaces_12 ?_
  refine g_iast hk cx2 cy1 ka0 hm dX7_swapPlaces_13 h (fun m4 hm h => ?_)
  exact g_return hk dX7_swapPlaces_14 (by cases h; rfl)
theorem met_St_swapPlaces (l : Launch) (D : va_G) (aC : Nat → ClassId) (B N : Nat) (hwd : ∀ id, (kdC id).1 ≠ 9 → id < N) {a0 : Nat} {n0 : Nat} {x1 : Int} {x2 : Int} {m : zM} {o : zM} (hm : zG kdC m) (ka0 : kdC a0 = (1, n0)) (cx1 : cI x1) (cx2 : cI x2) (h : St_swapPlaces a0 n0 x1 x2 m = some o) : zMet l yX7_swapPlaces cX7_swapPlaces 4 none 0 D aC B kdC N [.ref (B + a0), mI x1, mI x2] m (9, 0, o) := by
  refine zMet.of mf_X7_swapPlaces hwd hm (Nat.le_of_ble_eq_true rfl) (fun K e1 e2 e3 e4 e5 hk => ?_)
  subst e4
  exact w_St_swapPlaces hk hm ka0 cx1 cx2 h
set_option maxRecDepth 100000 in
set_option maxHeartbeats 4000000 in
theorem w_St_swapKnowledge_B2 {K : zK} (hk : zOk K kdC cX7_swapKnowledge 4 none RX7 1) {rec : Nat → Int → Int → Int → zM → Option (zM)} {o0 : Nat} {x1 : Int} {x2 : Int} {x3 : Int} {m : zM} {o : zM} (hrec : ∀ (o0 : Nat) (x1 : Int) (x2 : Int) (x3 : Int) (m : zM), zG kdC m → kdC o0 = (0, 7) → cI x1 → cI x2 → cI x3 → rec o0 x1 x2 x3 m = some o → GoAt K m [(0, .ref (kB K + o0)), (1, mI x1), (2, mI x2), (3, mI x3)] [] 2 (9, 0, o)) (hm : zG kdC m) (ko0 : kdC o0 = (0, 7)) (cx1 : cI x1) (cx2 : cI x2) (cx3 : cI x3) (h : St_swapKnowledge_B2 rec o0 x1 x2 x3 m = some o) : GoAt K m [(0, .ref (kB K + o0)), (1, mI x1), (2, mI x2), (3, mI x3)] [] 2 (9, 0, o) := by
  unfold St_swapKnowledge_B2 at h
  refine g_iload_n hk 3 rfl dX7_swapKnowledge_2 ?_
  refine g_bipush hk (v := 8) rfl dX7_swapKnowledge_3 ?_
  refine g_icmp_ge hk cx3 (cIk rfl) dX7_swapKnowledge_5 h (fun b1 h => ?_) (fun b1 h => ?_)
  · refine g_aload_n hk 0 rfl dX7_swapKnowledge_8 ?_
    refine g_get2 hk fl_X7_24 rfl ko0 hm (b := o0 + 5) rfl dX7_swapKnowledge_9 ?_
    refine g_iload_n hk 1 rfl dX7_swapKnowledge_12 ?_
    refine g_bipush hk (v := 8) rfl dX7_swapKnowledge_13 ?_
    refine g_imul hk dX7_swapKnowledge_15 ?_
    refine g_iload_n hk 3 rfl dX7_swapKnowledge_16 ?_
    refine g_iadd hk dX7_swapKnowledge_17 ?_
    refine g_iload_n hk 2 rfl dX7_swapKnowledge_18 ?_
    refine g_bipush hk (v := 8) rfl dX7_swapKnowledge_19 ?_
    refine g_imul hk dX7_swapKnowledge_21 ?_
    refine g_iload_n hk 3 rfl dX7_swapKnowledge_22 ?_
    refine g_iadd hk dX7_swapKnowledge_23 ?_
    obtain ⟨r2, e3, h⟩ := zbind h
    refine g_callSv hk (st := []) mf_X7_swapPlaces lk_X7_69 ms_X7_swapPlaces (by decide) rfl (Nat.le_of_ble_eq_true rfl) rfl dX7_swapKnowledge_24 (met_St_swapPlaces _ _ _ _ _ hk.wd hm (kdC_s7_7 ko0) (wI_c _) (wI_c _) e3) (fun hm => ?_)
    refine g_aload_n hk 0 rfl dX7_swapKnowledge_27 ?_
    refine g_get2 hk fl_X7_27 rfl ko0 hm (b := o0 + 6) rfl dX7_swapKnowledge_28 ?_
    refine g_iload_n hk 1 rfl dX7_swapKnowledge_31 ?_
    refine g_bipush hk (v := 8) rfl dX7_swapKnowledge_32 ?_
    refine g_imul hk dX7_swapKnowledge_34 ?_
    refine g_iload_n hk 3 rfl dX7_swapKnowledge_35 ?_
    refine g_iadd hk dX7_swapKnowledge_36 ?_
    refine g_iload_n hk 2 rfl dX7_swapKnowledge_37 ?_
    refine g_bipush hk (v := 8) rfl dX7_swapKnowledge_38 ?_
    refine g_imul hk dX7_swapKnowledge_40 ?_
    refine g_iload_n hk 3 rfl dX7_swapKnowledge_41 ?_
    refine g_iadd hk dX7_swapKnowledge_42 ?_
    obtain ⟨r5, e6, h⟩ := zbind h
    refine g_callSv hk (st := []) mf_X7_swapPlaces lk_X7_69 ms_X7_swapPlaces (by decide) rfl (Nat.le_of_ble_eq_true rfl) rfl dX7_swapKnowledge_43 (met_St_swapPlaces _ _ _ _ _ hk.wd hm (kdC_s7_8 ko0) (wI_c _) (wI_c _) e6) (fun hm => ?_)
    refine g_iinc hk (lv' := [(3, mI (wI (x3 + 1))), (0, .ref (kB K + o0)), (1, mI x1), (2, mI x2)]) 3 rfl (Nat.le_of_ble_eq_true rfl) rfl dX7_swapKnowledge_46 ?_
    refine g_goto hk dX7_swapKnowledge_49 ?_
    refine GoAt.sub [1, 2, 3, 0] rfl ?_
    exact hrec _ _ _ _ _ hm ko0 cx1 cx2 (wI_c _) h
  · exact g_return hk dX7_swapKnowledge_52 (by cases h; rfl)
theorem w_St_swapKnowledge_L2 {K : zK} (hk : zOk K kdC cX7_swapKnowledge 4 none RX7 1)  {o : zM}  : ∀ (n : Nat) (o0 : Nat) (x1 : Int) (x2 : Int) (x3 : Int) (m : zM), zG kdC m → kdC o0 = (0, 7) → cI x1 → cI x2 → cI x3 → St_swapKnowledge_L2 n o0 x1 x2 x3 m = some o → GoAt K m [(0, .ref (kB K + o0)), (1, mI x1), (2, mI x2), (3, mI x3)] [] 2 (9, 0, o)
  | 0, o0, x1, x2, x3, m, hm, ko0, cx1, cx2, cx3, h => by cases h
  | n + 1, o0, x1, x2, x3, m, hm, ko0, cx1, cx2, cx3, h => w_St_swapKnowledge_B2 hk  (w_St_swapKnowledge_L2 hk  n) hm ko0 cx1 cx2 cx3 h
set_option maxRecDepth 100000 in
set_option maxHeartbeats 4000000 in
theorem w_St_swapKnowledge {K : zK} (hk : zOk K kdC cX7_swapKnowledge 4 none RX7 1)  {o0 : Nat} {x1 : Int} {x2 : Int} {m : zM} {o : zM}  (hm : zG kdC m) (ko0 : kdC o0 = (0, 7)) (cx1 : cI x1) (cx2 : cI x2) (h : St_swapKnowledge o0 x1 x2 m = some o) : GoAt K m [(0, .ref (kB K + o0)), (1, mI x1), (2, mI x2)] [] 0 (9, 0, o) := by
  unfold St_swapKnowledge at h
  refine g_iconst hk (v := 0) rfl dX7_swapKnowledge_0 ?_
  refine g_istore_n hk rfl (lv' := [(3, mI 0), (0, .ref (kB K + o0)), (1, mI x1), (2, mI x2)]) (Nat.le_of_ble_eq_true rfl) rfl dX7_swapKnowledge_1 ?_
  refine GoAt.sub [1, 2, 3, 0] rfl ?_
  refine w_St_swapKnowledge_L2 hk  1000000 _ _ _ _ _ hm ko0 cx1 cx2 (cIk rfl) h
theorem met_St_swapKnowledge (l : Launch) (D : va_G) (aC : Nat → ClassId) (B N : Nat) (hwd : ∀ id, (kdC id).1 ≠ 9 → id < N) {o0 : Nat} {x1 : Int} {x2 : Int} {m : zM} {o : zM} (hm : zG kdC m) (ko0 : kdC o0 = (0, 7)) (cx1 : cI x1) (cx2 : cI x2) (h : St_swapKnowledge o0 x1 x2 m = some o) : zMet l yX7_swapKnowledge cX7_swapKnowledge 4 none 1 D aC B kdC N [.ref (B + o0), mI x1, mI x2] m (9, 0, o) := by
  refine zMet.of mf_X7_swapKnowledge hwd hm (Nat.le_of_ble_eq_true rfl) (fun K e1 e2 e3 e4 e5 hk => ?_)
  subst e4
  exact w_St_swapKnowledge hk hm ko0 cx1 cx2 h
set_option maxRecDepth 100000 in
set_option maxHeartbeats 4000000 in
theorem w_C_swap {K : zK} (hk : zOk K kdC cX11_swap 3 (some .boolean) RX11 3)  {x1 : Int} {x2 : Int} {m : zM} {o : Int × zM}  (hm : zG kdC m) (cx1 : cI x1) (cx2 : cI x2) (h : C_swap x1 x2 m = some o) : GoAt K m [(0, .ref (kB K + 0)), (1, mI x1), (2, mI x2)] [] 0 (4, o.1, o.2) := by
  unfold C_swap at h
  refine g_aload_n hk 0 rfl dX11_swap_0 ?_
  refine g_get3o hk fl_X11_84 rfl (j := 12) rfl kdC_0 dX11_swap_1 h (fun zz1 kzz1 h => ?_)
  refine g_iload_n hk 1 rfl dX11_swap_4 ?_
  obtain ⟨r2, e3, h⟩ := zbind h
  refine g_callVz hk (st := []) mf_X10_isBeast lk_X11_156 mv_X10_isBeast kzz1 (by decide) rfl (Nat.le_of_ble_eq_true rfl) rfl dX11_swap_5 (met_Zo_isBeast _ _ _ _ _ hk.wd hm kzz1 cx1 e3) (fun hm c4 => ?_)
  refine g_if_eq hk (b01 c4) dX11_swap_8 h (fun b5 h => ?_) (fun b5 h => ?_)
  · refine g_aload_n hk 0 rfl dX11_swap_27 ?_
    refine g_iconst hk (v := 3) rfl dX11_swap_28 ?_
    obtain ⟨r6, e7, h⟩ := zbind h
    refine g_callVi hk (st := []) mf_X11_refuse lk_X11_100 mv_X11_refuse kdC_0 (by decide) rfl (Nat.le_of_ble_eq_true rfl) rfl dX11_swap_29 (met_C_refuse _ _ _ _ _ hk.wd hm (cIk rfl) e7) (fun hm c8 => ?_)
    refine g_pop hk rfl dX11_swap_32 ?_
    refine g_iconst hk (v := 0) rfl dX11_swap_33 ?_
    exact g_zreturn hk z0 dX11_swap_34 (by cases h; rfl)
  · refine g_aload_n hk 0 rfl dX11_swap_11 ?_
    refine g_get3o hk fl_X11_84 rfl (j := 12) rfl kdC_0 dX11_swap_12 h (fun zz9 kzz9 h => ?_)
    refine g_iload_n hk 2 rfl dX11_swap_15 ?_
    obtain ⟨r10, e11, h⟩ := zbind h
    refine g_callVz hk (st := []) mf_X10_isBeast lk_X11_156 mv_X10_isBeast kzz9 (by decide) rfl (Nat.le_of_ble_eq_true rfl) rfl dX11_swap_16 (met_Zo_isBeast _ _ _ _ _ hk.wd hm kzz9 cx2 e11) (fun hm c12 => ?_)
    refine g_if_eq hk (b01 c12) dX11_swap_19 h (fun b13 h => ?_) (fun b13 h => ?_)
    · refine g_aload_n hk 0 rfl dX11_swap_27 ?_
      refine g_iconst hk (v := 3) rfl dX11_swap_28 ?_
      obtain ⟨r14, e15, h⟩ := zbind h
      refine g_callVi hk (st := []) mf_X11_refuse lk_X11_100 mv_X11_refuse kdC_0 (by decide) rfl (Nat.le_of_ble_eq_true rfl) rfl dX11_swap_29 (met_C_refuse _ _ _ _ _ hk.wd hm (cIk rfl) e15) (fun hm c16 => ?_)
      refine g_pop hk rfl dX11_swap_32 ?_
      refine g_iconst hk (v := 0) rfl dX11_swap_33 ?_
      exact g_zreturn hk z0 dX11_swap_34 (by cases h; rfl)
    · refine g_iload_n hk 1 rfl dX11_swap_22 ?_
      refine g_iload_n hk 2 rfl dX11_swap_23 ?_
      refine g_icmp_ne hk cx1 cx2 dX11_swap_24 h (fun b17 h => ?_) (fun b17 h => ?_)
      · refine g_aload_n hk 0 rfl dX11_swap_27 ?_
        refine g_iconst hk (v := 3) rfl dX11_swap_28 ?_
        obtain ⟨r18, e19, h⟩ := zbind h
        refine g_callVi hk (st := []) mf_X11_refuse lk_X11_100 mv_X11_refuse kdC_0 (by decide) rfl (Nat.le_of_ble_eq_true rfl) rfl dX11_swap_29 (met_C_refuse _ _ _ _ _ hk.wd hm (cIk rfl) e19) (fun hm c20 => ?_)
        refine g_pop hk rfl dX11_swap_32 ?_
        refine g_iconst hk (v := 0) rfl dX11_swap_33 ?_
        exact g_zreturn hk z0 dX11_swap_34 (by cases h; rfl)
      · refine g_aload_n hk 0 rfl dX11_swap_35 ?_
        obtain ⟨r21, e22, h⟩ := zbind h
        refine g_callVv hk (st := []) mf_X11_remember lk_X11_327 mv_X11_remember kdC_0 (by decide) rfl (Nat.le_of_ble_eq_true rfl) rfl dX11_swap_36 (met_C_remember _ _ _ _ _ hk.wd hm e22) (fun hm => ?_)
        refine g_aload_n hk 0 rfl dX11_swap_39 ?_
        refine g_get2 hk fl_X11_24 rfl kdC_0 hm (b := 8) rfl dX11_swap_40 ?_
        refine g_iload_n hk 1 rfl dX11_swap_43 ?_
        refine g_iload_n hk 2 rfl dX11_swap_44 ?_
        obtain ⟨r24, e25, h⟩ := zbind h
        refine g_callVv hk (st := []) mf_X7_swapKnowledge lk_X11_344 mv_X7_swapKnowledge kdC_8 (by decide) rfl (Nat.le_of_ble_eq_true rfl) rfl dX11_swap_45 (met_St_swapKnowledge _ _ _ _ _ hk.wd hm kdC_8 cx1 cx2 e25) (fun hm => ?_)
        refine g_iconst hk (v := 1) rfl dX11_swap_48 ?_
        exact g_zreturn hk z1 dX11_swap_49 (by cases h; rfl)
theorem met_C_swap (l : Launch) (D : va_G) (aC : Nat → ClassId) (B N : Nat) (hwd : ∀ id, (kdC id).1 ≠ 9 → id < N) {x1 : Int} {x2 : Int} {m : zM} {o : Int × zM} (hm : zG kdC m) (cx1 : cI x1) (cx2 : cI x2) (h : C_swap x1 x2 m = some o) : zMet l yX11_swap cX11_swap 3 (some .boolean) 3 D aC B kdC N [.ref (B + 0), mI x1, mI x2] m (4, o.1, o.2) := by
  refine zMet.of mf_X11_swap hwd hm (Nat.le_of_ble_eq_true rfl) (fun K e1 e2 e3 e4 e5 hk => ?_)
  subst e4
  exact w_C_swap hk hm cx1 cx2 h
set_option maxRecDepth 100000 in
set_option maxHeartbeats 4000000 in
theorem w_C_undo {K : zK} (hk : zOk K kdC cX11_undo 1 (some .boolean) RX11 2)  {m : zM} {o : Int × zM}  (hm : zG kdC m)  (h : C_undo m = some o) : GoAt K m [(0, .ref (kB K + 0))] [] 0 (4, o.1, o.2) := by
  unfold C_undo at h
  refine g_aload_n hk 0 rfl dX11_undo_0 ?_
  have g1 := zGI (i := 15) hm kdC_0 rfl
  refine g_get0 hk fl_X11_119 rfl (j := 15) rfl kdC_0 dX11_undo_1 ?_
  refine g_if_gt hk g1 dX11_undo_4 h (fun b2 h => ?_) (fun b2 h => ?_)
  · refine g_aload_n hk 0 rfl dX11_undo_15 ?_
    refine g_dup hk rfl dX11_undo_16 ?_
    have g3 := zGI (i := 15) hm kdC_0 rfl
    refine g_get0 hk fl_X11_119 rfl (j := 15) rfl kdC_0 dX11_undo_17 ?_
    refine g_iconst hk (v := 1) rfl dX11_undo_20 ?_
    refine g_isub hk dX11_undo_21 ?_
    refine g_put0 hk fp_X11_119 rfl (j := 15) rfl kdC_0 (wI_c _) dX11_undo_22 h hm (fun m4 hm h => ?_)
    refine g_aload_n hk 0 rfl dX11_undo_25 ?_
    refine g_get2 hk fl_X11_24 rfl kdC_0 hm (b := 8) rfl dX11_undo_26 ?_
    refine g_aload_n hk 0 rfl dX11_undo_29 ?_
    refine g_get2 hk fl_X11_31 rfl kdC_0 hm (b := 24) rfl dX11_undo_30 ?_
    refine g_aload_n hk 0 rfl dX11_undo_33 ?_
    have g5 := zGI (i := 14) hm kdC_0 rfl
    refine g_get0 hk fl_X11_348 rfl (j := 14) rfl kdC_0 dX11_undo_34 ?_
    refine g_aload_n hk 0 rfl dX11_undo_37 ?_
    have g6 := zGI (i := 15) hm kdC_0 rfl
    refine g_get0 hk fl_X11_119 rfl (j := 15) rfl kdC_0 dX11_undo_38 ?_
    refine g_iadd hk dX11_undo_41 ?_
    refine g_bipush hk (v := 20) rfl dX11_undo_42 ?_
    refine g_irem hk (cIk rfl) (by decide) dX11_undo_44 ?_
    refine g_aald4 hk (cI_t _) kdC_24 hm dX11_undo_45 h (fun q7 q8 h => ?_)
    obtain ⟨r9, e10, h⟩ := zbind h
    refine g_callVv hk (st := []) mf_X7_copyFrom lk_X11_226 mv_X7_copyFrom kdC_8 (by decide) rfl (Nat.le_of_ble_eq_true rfl) rfl dX11_undo_46 (met_St_copyFrom _ _ _ _ _ hk.wd hm kdC_8 (kdC_past q7 q8) e10) (fun hm => ?_)
    refine g_iconst hk (v := 1) rfl dX11_undo_49 ?_
    exact g_zreturn hk z1 dX11_undo_50 (by cases h; rfl)
  · refine g_aload_n hk 0 rfl dX11_undo_7 ?_
    refine g_iconst hk (v := 4) rfl dX11_undo_8 ?_
    obtain ⟨r12, e13, h⟩ := zbind h
    refine g_callVi hk (st := []) mf_X11_refuse lk_X11_100 mv_X11_refuse kdC_0 (by decide) rfl (Nat.le_of_ble_eq_true rfl) rfl dX11_undo_9 (met_C_refuse _ _ _ _ _ hk.wd hm (cIk rfl) e13) (fun hm c14 => ?_)
    refine g_pop hk rfl dX11_undo_12 ?_
    refine g_iconst hk (v := 0) rfl dX11_undo_13 ?_
    exact g_zreturn hk z0 dX11_undo_14 (by cases h; rfl)
theorem met_C_undo (l : Launch) (D : va_G) (aC : Nat → ClassId) (B N : Nat) (hwd : ∀ id, (kdC id).1 ≠ 9 → id < N) {m : zM} {o : Int × zM} (hm : zG kdC m)  (h : C_undo m = some o) : zMet l yX11_undo cX11_undo 1 (some .boolean) 2 D aC B kdC N [.ref (B + 0)] m (4, o.1, o.2) := by
  refine zMet.of mf_X11_undo hwd hm (Nat.le_of_ble_eq_true rfl) (fun K e1 e2 e3 e4 e5 hk => ?_)
  subst e4
  exact w_C_undo hk hm  h
set_option maxRecDepth 100000 in
set_option maxHeartbeats 4000000 in
theorem w_C_seed {K : zK} (hk : zOk K kdC cX11_seed 2 (some .boolean) RX11 1)  {x1 : Int} {m : zM} {o : Int × zM}  (hm : zG kdC m) (cx1 : cI x1) (h : C_seed x1 m = some o) : GoAt K m [(0, .ref (kB K + 0)), (1, mI x1)] [] 0 (4, o.1, o.2) := by
  unfold C_seed at h
  refine g_iload_n hk 1 rfl dX11_seed_0 ?_
  refine g_if_ge hk cx1 dX11_seed_1 h (fun b1 h => ?_) (fun b1 h => ?_)
  · refine g_aload_n hk 0 rfl dX11_seed_4 ?_
    refine g_iconst hk (v := 5) rfl dX11_seed_5 ?_
    obtain ⟨r2, e3, h⟩ := zbind h
    refine g_callVi hk (st := []) mf_X11_refuse lk_X11_100 mv_X11_refuse kdC_0 (by decide) rfl (Nat.le_of_ble_eq_true rfl) rfl dX11_seed_6 (met_C_refuse _ _ _ _ _ hk.wd hm (cIk rfl) e3) (fun hm c4 => ?_)
    refine g_pop hk rfl dX11_seed_9 ?_
    refine g_iconst hk (v := 0) rfl dX11_seed_10 ?_
    exact g_zreturn hk z0 dX11_seed_11 (by cases h; rfl)
  · refine g_aload_n hk 0 rfl dX11_seed_12 ?_
    refine g_iload_n hk 1 rfl dX11_seed_13 ?_
    refine g_put0 hk fp_X11_91 rfl (j := 16) rfl kdC_0 cx1 dX11_seed_14 h hm (fun m5 hm h => ?_)
    refine g_iconst hk (v := 1) rfl dX11_seed_17 ?_
    exact g_zreturn hk z1 dX11_seed_18 (by cases h; rfl)
theorem met_C_seed (l : Launch) (D : va_G) (aC : Nat → ClassId) (B N : Nat) (hwd : ∀ id, (kdC id).1 ≠ 9 → id < N) {x1 : Int} {m : zM} {o : Int × zM} (hm : zG kdC m) (cx1 : cI x1) (h : C_seed x1 m = some o) : zMet l yX11_seed cX11_seed 2 (some .boolean) 1 D aC B kdC N [.ref (B + 0), mI x1] m (4, o.1, o.2) := by
  refine zMet.of mf_X11_seed hwd hm (Nat.le_of_ble_eq_true rfl) (fun K e1 e2 e3 e4 e5 hk => ?_)
  subst e4
  exact w_C_seed hk hm cx1 h
set_option maxRecDepth 100000 in
set_option maxHeartbeats 4000000 in
theorem w_St_rowPart {K : zK} (hk : zOk K kdC cX7_rowPart 6 (some .int) RX7 0)  {o0 : Nat} {x1 : Int} {x2 : Int} {m : zM} {o : Int}  (hm : zG kdC m) (ko0 : kdC o0 = (0, 7)) (cx1 : cI x1) (cx2 : cI x2) (h : St_rowPart o0 x1 x2 m = some o) : GoAt K m [(0, .ref (kB K + o0)), (1, mI x1), (2, mI x2)] [] 0 (0, o, m) := by
  unfold St_rowPart at h
  refine g_aload_n hk 0 rfl dX7_rowPart_0 ?_
  refine g_get2 hk fl_X7_30 rfl ko0 hm (b := o0 + 7) rfl dX7_rowPart_1 ?_
  refine g_aload_n hk 0 rfl dX7_rowPart_4 ?_
  have g1 := zGI (i := 10) hm ko0 rfl
  refine g_get0 hk fl_X7_63 rfl (j := 10) rfl ko0 dX7_rowPart_5 ?_
  refine g_iload_n hk 1 rfl dX7_rowPart_8 ?_
  refine g_iadd hk dX7_rowPart_9 ?_
  refine g_bipush hk (v := 60) rfl dX7_rowPart_10 ?_
  refine g_irem hk (cIk rfl) (by decide) dX7_rowPart_12 ?_
  refine g_iald hk (cI_t _) (kdC_s7_9 ko0) hm dX7_rowPart_13 h (fun y2 cy2 h => ?_)
  refine g_istore_n hk rfl (lv' := [(3, mI y2), (0, .ref (kB K + o0)), (1, mI x1), (2, mI x2)]) (Nat.le_of_ble_eq_true rfl) rfl dX7_rowPart_14 ?_
  refine g_iload_n hk 0 rfl dX7_rowPart_15 ?_
  refine g_iconst hk (v := 4) rfl dX7_rowPart_16 ?_
  refine g_idiv hk (cIk rfl) (by decide) dX7_rowPart_17 ?_
  refine g_istore hk (lv' := [(4, mI (dvI y2 4)), (3, mI y2), (0, .ref (kB K + o0)), (1, mI x1), (2, mI x2)]) (Nat.le_of_ble_eq_true rfl) rfl dX7_rowPart_18 ?_
  refine g_iload hk 0 rfl dX7_rowPart_20 ?_
  refine g_bipush hk (v := 48) rfl dX7_rowPart_22 ?_
  refine g_idiv hk (cIk rfl) (by decide) dX7_rowPart_24 ?_
  refine g_let (cI_t _) h (fun v3 cv3 h => ?_)
  refine g_istore hk (lv' := [(5, mI v3), (4, mI (dvI y2 4)), (3, mI y2), (0, .ref (kB K + o0)), (1, mI x1), (2, mI x2)]) (Nat.le_of_ble_eq_true rfl) rfl dX7_rowPart_25 ?_
  refine g_iload_n hk 5 rfl dX7_rowPart_27 ?_
  rcases zite h with ⟨e4, h⟩ | ⟨e4, h⟩
  · refine g_tin hk cx2 dX7_rowPart_28 e4 (by decide) (by decide) rfl (by decide) (tgt := 64) ?_
    refine g_iload hk 0 rfl dX7_rowPart_64 ?_
    refine g_bipush hk (v := 24) rfl dX7_rowPart_66 ?_
    refine g_idiv hk (cIk rfl) (by decide) dX7_rowPart_68 ?_
    exact g_ireturn hk (cI_t _) dX7_rowPart_69 (by cases h; rfl)
  rcases zite h with ⟨e5, h⟩ | ⟨e5, h⟩
  · refine g_tin hk cx2 dX7_rowPart_28 e5 (by decide) (by decide) rfl (by decide) (tgt := 70) ?_
    refine g_iload hk 0 rfl dX7_rowPart_70 ?_
    refine g_bipush hk (v := 24) rfl dX7_rowPart_72 ?_
    refine g_irem hk (cIk rfl) (by decide) dX7_rowPart_74 ?_
    exact g_ireturn hk (cI_t _) dX7_rowPart_75 (by cases h; rfl)
  rcases zite h with ⟨e6, h⟩ | ⟨e6, h⟩
  · refine g_tin hk cx2 dX7_rowPart_28 e6 (by decide) (by decide) rfl (by decide) (tgt := 76) ?_
    refine g_iload hk 1 rfl dX7_rowPart_76 ?_
    refine g_bipush hk (v := 8) rfl dX7_rowPart_78 ?_
    refine g_idiv hk (cIk rfl) (by decide) dX7_rowPart_80 ?_
    refine g_bipush hk (v := 6) rfl dX7_rowPart_81 ?_
    refine g_irem hk (cIk rfl) (by decide) dX7_rowPart_83 ?_
    exact g_ireturn hk (cI_t _) dX7_rowPart_84 (by cases h; rfl)
  rcases zite h with ⟨e7, h⟩ | ⟨e7, h⟩
  · refine g_tin hk cx2 dX7_rowPart_28 e7 (by decide) (by decide) rfl (by decide) (tgt := 85) ?_
    refine g_iload hk 1 rfl dX7_rowPart_85 ?_
    refine g_bipush hk (v := 8) rfl dX7_rowPart_87 ?_
    refine g_irem hk (cIk rfl) (by decide) dX7_rowPart_89 ?_
    exact g_ireturn hk (cI_t _) dX7_rowPart_90 (by cases h; rfl)
  rcases zite h with ⟨e8, h⟩ | ⟨e8, h⟩
  · refine g_tin hk cx2 dX7_rowPart_28 e8 (by decide) (by decide) rfl (by decide) (tgt := 91) ?_
    refine g_iload_n hk 2 rfl dX7_rowPart_91 ?_
    refine g_iconst hk (v := 4) rfl dX7_rowPart_92 ?_
    refine g_irem hk (cIk rfl) (by decide) dX7_rowPart_93 ?_
    exact g_ireturn hk (cI_t _) dX7_rowPart_94 (by cases h; rfl)
  refine g_tout hk cx2 dX7_rowPart_28 (by omega) (by decide) (tgt := 95) ?_
  refine g_iconst hk (v := (-1)) rfl dX7_rowPart_95 ?_
  exact g_ireturn hk (cIk rfl) dX7_rowPart_96 (by cases h; rfl)
theorem met_St_rowPart (l : Launch) (D : va_G) (aC : Nat → ClassId) (B N : Nat) (hwd : ∀ id, (kdC id).1 ≠ 9 → id < N) {o0 : Nat} {x1 : Int} {x2 : Int} {m : zM} {o : Int} (hm : zG kdC m) (ko0 : kdC o0 = (0, 7)) (cx1 : cI x1) (cx2 : cI x2) (h : St_rowPart o0 x1 x2 m = some o) : zMet l yX7_rowPart cX7_rowPart 6 (some .int) 0 D aC B kdC N [.ref (B + o0), mI x1, mI x2] m (0, o, m) := by
  refine zMet.of mf_X7_rowPart hwd hm (Nat.le_of_ble_eq_true rfl) (fun K e1 e2 e3 e4 e5 hk => ?_)
  subst e4
  exact w_St_rowPart hk hm ko0 cx1 cx2 h
set_option maxRecDepth 100000 in
set_option maxHeartbeats 4000000 in
theorem w_C_kept {K : zK} (hk : zOk K kdC cX11_kept 3 (some .int) RX11 1)  {x1 : Int} {x2 : Int} {m : zM} {o : Int}  (hm : zG kdC m) (cx1 : cI x1) (cx2 : cI x2) (h : C_kept x1 x2 m = some o) : GoAt K m [(0, .ref (kB K + 0)), (1, mI x1), (2, mI x2)] [] 0 (0, o, m) := by
  unfold C_kept at h
  refine g_iload_n hk 1 rfl dX11_kept_0 ?_
  refine g_if_lt hk cx1 dX11_kept_1 h (fun b1 h => ?_) (fun b1 h => ?_)
  · refine g_iconst hk (v := (-1)) rfl dX11_kept_15 ?_
    exact g_ireturn hk (cIk rfl) dX11_kept_16 (by cases h; rfl)
  · refine g_iload_n hk 1 rfl dX11_kept_4 ?_
    refine g_aload_n hk 0 rfl dX11_kept_5 ?_
    refine g_get2 hk fl_X11_24 rfl kdC_0 hm (b := 8) rfl dX11_kept_6 ?_
    have g2 := zGI (i := 11) hm kdC_8 rfl
    refine g_get0 hk fl_X11_153 rfl (j := 11) rfl kdC_8 dX11_kept_9 ?_
    refine g_icmp_lt hk cx1 g2 dX11_kept_12 h (fun b3 h => ?_) (fun b3 h => ?_)
    · refine g_aload_n hk 0 rfl dX11_kept_17 ?_
      refine g_get2 hk fl_X11_24 rfl kdC_0 hm (b := 8) rfl dX11_kept_18 ?_
      refine g_iload_n hk 1 rfl dX11_kept_21 ?_
      refine g_iload_n hk 2 rfl dX11_kept_22 ?_
      obtain ⟨r4, e5, h⟩ := zbind h
      refine g_callVi hk (st := []) mf_X7_rowPart lk_X11_351 mv_X7_rowPart kdC_8 (by decide) rfl (Nat.le_of_ble_eq_true rfl) rfl dX11_kept_23 (met_St_rowPart _ _ _ _ _ hk.wd hm kdC_8 cx1 cx2 e5) (fun hm c6 => ?_)
      exact g_ireturn hk c6 dX11_kept_26 (by cases h; rfl)
    · refine g_iconst hk (v := (-1)) rfl dX11_kept_15 ?_
      exact g_ireturn hk (cIk rfl) dX11_kept_16 (by cases h; rfl)
theorem met_C_kept (l : Launch) (D : va_G) (aC : Nat → ClassId) (B N : Nat) (hwd : ∀ id, (kdC id).1 ≠ 9 → id < N) {x1 : Int} {x2 : Int} {m : zM} {o : Int} (hm : zG kdC m) (cx1 : cI x1) (cx2 : cI x2) (h : C_kept x1 x2 m = some o) : zMet l yX11_kept cX11_kept 3 (some .int) 1 D aC B kdC N [.ref (B + 0), mI x1, mI x2] m (0, o, m) := by
  refine zMet.of mf_X11_kept hwd hm (Nat.le_of_ble_eq_true rfl) (fun K e1 e2 e3 e4 e5 hk => ?_)
  subst e4
  exact w_C_kept hk hm cx1 cx2 h
set_option maxRecDepth 100000 in
set_option maxHeartbeats 4000000 in
theorem w_Im_put {K : zK} (hk : zOk K kdC cX3_put 2 none RX3 0)  {x1 : Int} {m : zM} {o : zM}  (hm : zG kdC m) (cx1 : cI x1) (h : Im_put x1 m = some o) : GoAt K m [(0, .ref (kB K + 52)), (1, mI x1)] [] 0 (9, 0, o) := by
  unfold Im_put at h
  refine g_aload_n hk 0 rfl dX3_put_0 ?_
  have g1 := zGI (i := 1) hm kdC_52 rfl
  refine g_get0 hk fl_X3_27 rfl (j := 1) rfl kdC_52 dX3_put_1 ?_
  refine g_sipush hk (v := 160) rfl dX3_put_4 ?_
  refine g_icmp_ge hk g1 (cIk rfl) dX3_put_7 h (fun b2 h => ?_) (fun b2 h => ?_)
  · refine g_aload_n hk 0 rfl dX3_put_10 ?_
    refine g_get2 hk fl_X3_11 rfl kdC_52 hm (b := 53) rfl dX3_put_11 ?_
    refine g_aload_n hk 0 rfl dX3_put_14 ?_
    have g3 := zGI (i := 1) hm kdC_52 rfl
    refine g_get0 hk fl_X3_27 rfl (j := 1) rfl kdC_52 dX3_put_15 ?_
    refine g_iload_n hk 1 rfl dX3_put_18 ?_
    refine g_iast hk g3 cx1 kdC_53 hm dX3_put_19 h (fun m4 hm h => ?_)
    refine g_aload_n hk 0 rfl dX3_put_20 ?_
    refine g_dup hk rfl dX3_put_21 ?_
    have g5 := zGI (i := 1) hm kdC_52 rfl
    refine g_get0 hk fl_X3_27 rfl (j := 1) rfl kdC_52 dX3_put_22 ?_
    refine g_iconst hk (v := 1) rfl dX3_put_25 ?_
    refine g_iadd hk dX3_put_26 ?_
    refine g_put0 hk fp_X3_27 rfl (j := 1) rfl kdC_52 (wI_c _) dX3_put_27 h hm (fun m6 hm h => ?_)
    exact g_return hk dX3_put_30 (by cases h; rfl)
  · exact g_return hk dX3_put_30 (by cases h; rfl)
theorem met_Im_put (l : Launch) (D : va_G) (aC : Nat → ClassId) (B N : Nat) (hwd : ∀ id, (kdC id).1 ≠ 9 → id < N) {x1 : Int} {m : zM} {o : zM} (hm : zG kdC m) (cx1 : cI x1) (h : Im_put x1 m = some o) : zMet l yX3_put cX3_put 2 none 0 D aC B kdC N [.ref (B + 52), mI x1] m (9, 0, o) := by
  refine zMet.of mf_X3_put hwd hm (Nat.le_of_ble_eq_true rfl) (fun K e1 e2 e3 e4 e5 hk => ?_)
  subst e4
  exact w_Im_put hk hm cx1 h
set_option maxRecDepth 100000 in
set_option maxHeartbeats 4000000 in
theorem w_Im_putPair {K : zK} (hk : zOk K kdC cX3_putPair 2 none RX3 1)  {x1 : Int} {m : zM} {o : zM}  (hm : zG kdC m) (cx1 : cI x1) (h : Im_putPair x1 m = some o) : GoAt K m [(0, .ref (kB K + 52)), (1, mI x1)] [] 0 (9, 0, o) := by
  unfold Im_putPair at h
  refine g_aload_n hk 0 rfl dX3_putPair_0 ?_
  refine g_iload_n hk 1 rfl dX3_putPair_1 ?_
  refine g_bipush hk (v := 8) rfl dX3_putPair_2 ?_
  refine g_ishr hk dX3_putPair_4 ?_
  obtain ⟨r1, e2, h⟩ := zbind h
  refine g_callVv hk (st := []) mf_X3_put lk_X3_42 mv_X3_put kdC_52 (by decide) rfl (Nat.le_of_ble_eq_true rfl) rfl dX3_putPair_5 (met_Im_put _ _ _ _ _ hk.wd hm (cI_t _) e2) (fun hm => ?_)
  refine g_aload_n hk 0 rfl dX3_putPair_8 ?_
  refine g_iload_n hk 1 rfl dX3_putPair_9 ?_
  refine g_sipush hk (v := 255) rfl dX3_putPair_10 ?_
  refine g_iand hk dX3_putPair_13 ?_
  obtain ⟨r4, e5, h⟩ := zbind h
  refine g_callVv hk (st := []) mf_X3_put lk_X3_42 mv_X3_put kdC_52 (by decide) rfl (Nat.le_of_ble_eq_true rfl) rfl dX3_putPair_14 (met_Im_put _ _ _ _ _ hk.wd hm (cI_t _) e5) (fun hm => ?_)
  exact g_return hk dX3_putPair_17 (by cases h; rfl)
theorem met_Im_putPair (l : Launch) (D : va_G) (aC : Nat → ClassId) (B N : Nat) (hwd : ∀ id, (kdC id).1 ≠ 9 → id < N) {x1 : Int} {m : zM} {o : zM} (hm : zG kdC m) (cx1 : cI x1) (h : Im_putPair x1 m = some o) : zMet l yX3_putPair cX3_putPair 2 none 1 D aC B kdC N [.ref (B + 52), mI x1] m (9, 0, o) := by
  refine zMet.of mf_X3_putPair hwd hm (Nat.le_of_ble_eq_true rfl) (fun K e1 e2 e3 e4 e5 hk => ?_)
  subst e4
  exact w_Im_putPair hk hm cx1 h
set_option maxRecDepth 100000 in
set_option maxHeartbeats 4000000 in
theorem w_Im_putTriple_B2 {K : zK} (hk : zOk K kdC cX3_putTriple 4 none RX3 1) {rec : Nat → Nat → Int → Int → zM → Option (zM)} {a1 : Nat} {n1 : Nat} {x2 : Int} {x3 : Int} {m : zM} {o : zM} (hrec : ∀ (a1 : Nat) (n1 : Nat) (x2 : Int) (x3 : Int) (m : zM), zG kdC m → kdC a1 = (1, n1) → cI x2 → cI x3 → rec a1 n1 x2 x3 m = some o → GoAt K m [(0, .ref (kB K + 52)), (1, .ref (kB K + a1)), (2, mI x2), (3, mI x3)] [] 2 (9, 0, o)) (hm : zG kdC m) (ka1 : kdC a1 = (1, n1)) (cx2 : cI x2) (cx3 : cI x3) (h : Im_putTriple_B2 rec a1 n1 x2 x3 m = some o) : GoAt K m [(0, .ref (kB K + 52)), (1, .ref (kB K + a1)), (2, mI x2), (3, mI x3)] [] 2 (9, 0, o) := by
  unfold Im_putTriple_B2 at h
  refine g_iload_n hk 3 rfl dX3_putTriple_2 ?_
  refine g_iconst hk (v := 3) rfl dX3_putTriple_3 ?_
  refine g_icmp_ge hk cx3 (cIk rfl) dX3_putTriple_4 h (fun b1 h => ?_) (fun b1 h => ?_)
  · refine g_aload_n hk 0 rfl dX3_putTriple_7 ?_
    refine g_aload_n hk 1 rfl dX3_putTriple_8 ?_
    refine g_iload_n hk 2 rfl dX3_putTriple_9 ?_
    refine g_iload_n hk 3 rfl dX3_putTriple_10 ?_
    refine g_iadd hk dX3_putTriple_11 ?_
    refine g_iald hk (wI_c _) ka1 hm dX3_putTriple_12 h (fun y2 cy2 h => ?_)
    obtain ⟨r3, e4, h⟩ := zbind h
    refine g_callVv hk (st := []) mf_X3_put lk_X3_42 mv_X3_put kdC_52 (by decide) rfl (Nat.le_of_ble_eq_true rfl) rfl dX3_putTriple_13 (met_Im_put _ _ _ _ _ hk.wd hm cy2 e4) (fun hm => ?_)
    refine g_iinc hk (lv' := [(3, mI (wI (x3 + 1))), (0, .ref (kB K + 52)), (1, .ref (kB K + a1)), (2, mI x2)]) 3 rfl (Nat.le_of_ble_eq_true rfl) rfl dX3_putTriple_16 ?_
    refine g_goto hk dX3_putTriple_19 ?_
    refine GoAt.sub [1, 2, 3, 0] rfl ?_
    exact hrec _ _ _ _ _ hm ka1 cx2 (wI_c _) h
  · exact g_return hk dX3_putTriple_22 (by cases h; rfl)
theorem w_Im_putTriple_L2 {K : zK} (hk : zOk K kdC cX3_putTriple 4 none RX3 1)  {o : zM}  : ∀ (n : Nat) (a1 : Nat) (n1 : Nat) (x2 : Int) (x3 : Int) (m : zM), zG kdC m → kdC a1 = (1, n1) → cI x2 → cI x3 → Im_putTriple_L2 n a1 n1 x2 x3 m = some o → GoAt K m [(0, .ref (kB K + 52)), (1, .ref (kB K + a1)), (2, mI x2), (3, mI x3)] [] 2 (9, 0, o)
  | 0, a1, n1, x2, x3, m, hm, ka1, cx2, cx3, h => by cases h
  | n + 1, a1, n1, x2, x3, m, hm, ka1, cx2, cx3, h => w_Im_putTriple_B2 hk  (w_Im_putTriple_L2 hk  n) hm ka1 cx2 cx3 h
set_option maxRecDepth 100000 in
set_option maxHeartbeats 4000000 in
theorem w_Im_putTriple {K : zK} (hk : zOk K kdC cX3_putTriple 4 none RX3 1)  {a1 : Nat} {n1 : Nat} {x2 : Int} {m : zM} {o : zM}  (hm : zG kdC m) (ka1 : kdC a1 = (1, n1)) (cx2 : cI x2) (h : Im_putTriple a1 n1 x2 m = some o) : GoAt K m [(0, .ref (kB K + 52)), (1, .ref (kB K + a1)), (2, mI x2)] [] 0 (9, 0, o) := by
  unfold Im_putTriple at h
  refine g_iconst hk (v := 0) rfl dX3_putTriple_0 ?_
  refine g_istore_n hk rfl (lv' := [(3, mI 0), (0, .ref (kB K + 52)), (1, .ref (kB K + a1)), (2, mI x2)]) (Nat.le_of_ble_eq_true rfl) rfl dX3_putTriple_1 ?_
  refine GoAt.sub [1, 2, 3, 0] rfl ?_
  refine w_Im_putTriple_L2 hk  1000000 _ _ _ _ _ hm ka1 cx2 (cIk rfl) h
theorem met_Im_putTriple (l : Launch) (D : va_G) (aC : Nat → ClassId) (B N : Nat) (hwd : ∀ id, (kdC id).1 ≠ 9 → id < N) {a1 : Nat} {n1 : Nat} {x2 : Int} {m : zM} {o : zM} (hm : zG kdC m) (ka1 : kdC a1 = (1, n1)) (cx2 : cI x2) (h : Im_putTriple a1 n1 x2 m = some o) : zMet l yX3_putTriple cX3_putTriple 4 none 1 D aC B kdC N [.ref (B + 52), .ref (B + a1), mI x2] m (9, 0, o) := by
  refine zMet.of mf_X3_putTriple hwd hm (Nat.le_of_ble_eq_true rfl) (fun K e1 e2 e3 e4 e5 hk => ?_)
  subst e4
  exact w_Im_putTriple hk hm ka1 cx2 h
set_option maxRecDepth 100000 in
set_option maxHeartbeats 4000000 in
theorem w_Im_check_B6 {K : zK} (hk : zOk K kdC cX3_check 4 (some .int) RX3 0) {rec : Nat → Nat → Int → Int → Int → Option (Int)} {a0 : Nat} {n0 : Nat} {x1 : Int} {x2 : Int} {x3 : Int} {m : zM} {o : Int} (hrec : ∀ (a0 : Nat) (n0 : Nat) (x1 : Int) (x2 : Int) (x3 : Int), kdC a0 = (1, n0) → cI x1 → cI x2 → cI x3 → rec a0 n0 x1 x2 x3 = some o → GoAt K m [(0, .ref (kB K + a0)), (1, mI x1), (2, mI x2), (3, mI x3)] [] 6 (0, o, m)) (hm : zG kdC m) (ka0 : kdC a0 = (1, n0)) (cx1 : cI x1) (cx2 : cI x2) (cx3 : cI x3) (h : Im_check_B6 rec a0 n0 x1 x2 x3 m = some o) : GoAt K m [(0, .ref (kB K + a0)), (1, mI x1), (2, mI x2), (3, mI x3)] [] 6 (0, o, m) := by
  unfold Im_check_B6 at h
  refine g_iload_n hk 3 rfl dX3_check_6 ?_
  refine g_iload_n hk 1 rfl dX3_check_7 ?_
  refine g_icmp_ge hk cx3 cx1 dX3_check_8 h (fun b1 h => ?_) (fun b1 h => ?_)
  · refine g_iload_n hk 3 rfl dX3_check_11 ?_
    refine g_aload_n hk 0 rfl dX3_check_12 ?_
    refine g_alen hk (v := ((n0 : Nat) : Int)) ka0 rfl dX3_check_13 ?_
    refine g_icmp_ge hk cx3 (cI_len ka0) dX3_check_14 h (fun b2 h => ?_) (fun b2 h => ?_)
    · refine g_iconst hk (v := 5) rfl dX3_check_17 ?_
      refine g_iload_n hk 2 rfl dX3_check_18 ?_
      refine g_imul hk dX3_check_19 ?_
      refine g_aload_n hk 0 rfl dX3_check_20 ?_
      refine g_iload_n hk 3 rfl dX3_check_21 ?_
      refine g_iald hk cx3 ka0 hm dX3_check_22 h (fun y3 cy3 h => ?_)
      refine g_iadd hk dX3_check_23 ?_
      refine g_sipush hk (v := 251) rfl dX3_check_24 ?_
      refine g_irem hk (cIk rfl) (by decide) dX3_check_27 ?_
      refine g_let (cI_t _) h (fun v4 cv4 h => ?_)
      refine g_istore_n hk rfl (lv' := [(2, mI v4), (0, .ref (kB K + a0)), (1, mI x1), (3, mI x3)]) (Nat.le_of_ble_eq_true rfl) rfl dX3_check_28 ?_
      refine g_iinc hk (lv' := [(3, mI (wI (x3 + 1))), (2, mI v4), (0, .ref (kB K + a0)), (1, mI x1)]) 3 rfl (Nat.le_of_ble_eq_true rfl) rfl dX3_check_29 ?_
      refine g_goto hk dX3_check_32 ?_
      refine GoAt.sub [2, 3, 1, 0] rfl ?_
      exact hrec _ _ _ _ _ ka0 cx1 cv4 (wI_c _) h
    · refine g_iload_n hk 2 rfl dX3_check_35 ?_
      exact g_ireturn hk cx2 dX3_check_36 (by cases h; rfl)
  · refine g_iload_n hk 2 rfl dX3_check_35 ?_
    exact g_ireturn hk cx2 dX3_check_36 (by cases h; rfl)
theorem w_Im_check_L6 {K : zK} (hk : zOk K kdC cX3_check 4 (some .int) RX3 0)  {o : Int} {m : zM} (hm : zG kdC m)  : ∀ (n : Nat) (a0 : Nat) (n0 : Nat) (x1 : Int) (x2 : Int) (x3 : Int), kdC a0 = (1, n0) → cI x1 → cI x2 → cI x3 → Im_check_L6 m n a0 n0 x1 x2 x3 = some o → GoAt K m [(0, .ref (kB K + a0)), (1, mI x1), (2, mI x2), (3, mI x3)] [] 6 (0, o, m)
  | 0, a0, n0, x1, x2, x3, ka0, cx1, cx2, cx3, h => by cases h
  | n + 1, a0, n0, x1, x2, x3, ka0, cx1, cx2, cx3, h => w_Im_check_B6 hk  (w_Im_check_L6 hk hm  n) hm ka0 cx1 cx2 cx3 h
set_option maxRecDepth 100000 in
set_option maxHeartbeats 4000000 in
theorem w_Im_check {K : zK} (hk : zOk K kdC cX3_check 4 (some .int) RX3 0)  {a0 : Nat} {n0 : Nat} {x1 : Int} {m : zM} {o : Int}  (hm : zG kdC m) (ka0 : kdC a0 = (1, n0)) (cx1 : cI x1) (h : Im_check a0 n0 x1 m = some o) : GoAt K m [(0, .ref (kB K + a0)), (1, mI x1)] [] 0 (0, o, m) := by
  unfold Im_check at h
  refine g_sipush hk (v := 151) rfl dX3_check_0 ?_
  refine g_istore_n hk rfl (lv' := [(2, mI 151), (0, .ref (kB K + a0)), (1, mI x1)]) (Nat.le_of_ble_eq_true rfl) rfl dX3_check_3 ?_
  refine g_iconst hk (v := 0) rfl dX3_check_4 ?_
  refine g_istore_n hk rfl (lv' := [(3, mI 0), (2, mI 151), (0, .ref (kB K + a0)), (1, mI x1)]) (Nat.le_of_ble_eq_true rfl) rfl dX3_check_5 ?_
  refine GoAt.sub [2, 3, 1, 0] rfl ?_
  refine w_Im_check_L6 hk hm  1000000 _ _ _ _ _ ka0 cx1 (cIk rfl) (cIk rfl) h
theorem met_Im_check (l : Launch) (D : va_G) (aC : Nat → ClassId) (B N : Nat) (hwd : ∀ id, (kdC id).1 ≠ 9 → id < N) {a0 : Nat} {n0 : Nat} {x1 : Int} {m : zM} {o : Int} (hm : zG kdC m) (ka0 : kdC a0 = (1, n0)) (cx1 : cI x1) (h : Im_check a0 n0 x1 m = some o) : zMet l yX3_check cX3_check 4 (some .int) 0 D aC B kdC N [.ref (B + a0), mI x1] m (0, o, m) := by
  refine zMet.of mf_X3_check hwd hm (Nat.le_of_ble_eq_true rfl) (fun K e1 e2 e3 e4 e5 hk => ?_)
  subst e4
  exact w_Im_check hk hm ka0 cx1 h
set_option maxRecDepth 100000 in
set_option maxHeartbeats 4000000 in
theorem w_Im_write_B31 {K : zK} (hk : zOk K kdC cX3_write 5 none RX3 2) {k78 : Nat → Nat → zM → Option (zM)} {rec : Nat → Nat → Int → zM → Option (zM)} {o1 : Nat} {o2 : Nat} {x3 : Int} {m : zM} {o : zM} (hk78 : ∀ (o1 : Nat) (o2 : Nat) (m : zM), zG kdC m → kdC o1 = (0, 10) → kdC o2 = (0, 7) → k78 o1 o2 m = some o → GoAt K m [(0, .ref (kB K + 52)), (1, .ref (kB K + o1)), (2, .ref (kB K + o2))] [] 78 (9, 0, o)) (hrec : ∀ (o1 : Nat) (o2 : Nat) (x3 : Int) (m : zM), zG kdC m → kdC o1 = (0, 10) → kdC o2 = (0, 7) → cI x3 → rec o1 o2 x3 m = some o → GoAt K m [(0, .ref (kB K + 52)), (1, .ref (kB K + o1)), (2, .ref (kB K + o2)), (3, mI x3)] [] 31 (9, 0, o)) (hm : zG kdC m) (ko1 : kdC o1 = (0, 10)) (ko2 : kdC o2 = (0, 7)) (cx3 : cI x3) (h : Im_write_B31 k78 rec o1 o2 x3 m = some o) : GoAt K m [(0, .ref (kB K + 52)), (1, .ref (kB K + o1)), (2, .ref (kB K + o2)), (3, mI x3)] [] 31 (9, 0, o) := by
  unfold Im_write_B31 at h
  refine g_iload_n hk 3 rfl dX3_write_31 ?_
  refine g_aload_n hk 1 rfl dX3_write_32 ?_
  have g1 := zGI (i := 1) hm ko1 rfl
  refine g_get0 hk fl_X3_18 rfl (j := 1) rfl ko1 dX3_write_33 ?_
  refine g_icmp_ge hk cx3 g1 dX3_write_36 h (fun b2 h => ?_) (fun b2 h => ?_)
  · refine g_aload_n hk 0 rfl dX3_write_39 ?_
    refine g_aload_n hk 2 rfl dX3_write_40 ?_
    refine g_get2 hk fl_X3_48 rfl ko2 hm (b := o2 + 1) rfl dX3_write_41 ?_
    refine g_iload_n hk 3 rfl dX3_write_44 ?_
    refine g_iconst hk (v := 3) rfl dX3_write_45 ?_
    refine g_imul hk dX3_write_46 ?_
    obtain ⟨r3, e4, h⟩ := zbind h
    refine g_callVv hk (st := []) mf_X3_putTriple lk_X3_51 mv_X3_putTriple kdC_52 (by decide) rfl (Nat.le_of_ble_eq_true rfl) rfl dX3_write_47 (met_Im_putTriple _ _ _ _ _ hk.wd hm (kdC_s7_3 ko2) (wI_c _) e4) (fun hm => ?_)
    refine g_aload_n hk 0 rfl dX3_write_50 ?_
    refine g_aload_n hk 2 rfl dX3_write_51 ?_
    refine g_get2 hk fl_X3_55 rfl ko2 hm (b := o2 + 2) rfl dX3_write_52 ?_
    refine g_iload_n hk 3 rfl dX3_write_55 ?_
    refine g_iald hk cx3 (kdC_s7_4 ko2) hm dX3_write_56 h (fun y6 cy6 h => ?_)
    refine g_iconst hk (v := 1) rfl dX3_write_57 ?_
    refine g_iadd hk dX3_write_58 ?_
    obtain ⟨r7, e8, h⟩ := zbind h
    refine g_callVv hk (st := []) mf_X3_put lk_X3_42 mv_X3_put kdC_52 (by decide) rfl (Nat.le_of_ble_eq_true rfl) rfl dX3_write_59 (met_Im_put _ _ _ _ _ hk.wd hm (wI_c _) e8) (fun hm => ?_)
    refine g_aload_n hk 0 rfl dX3_write_62 ?_
    refine g_aload_n hk 2 rfl dX3_write_63 ?_
    refine g_get2 hk fl_X3_58 rfl ko2 hm (b := o2 + 3) rfl dX3_write_64 ?_
    refine g_iload_n hk 3 rfl dX3_write_67 ?_
    refine g_iald hk cx3 (kdC_s7_5 ko2) hm dX3_write_68 h (fun y10 cy10 h => ?_)
    obtain ⟨r11, e12, h⟩ := zbind h
    refine g_callVv hk (st := []) mf_X3_put lk_X3_42 mv_X3_put kdC_52 (by decide) rfl (Nat.le_of_ble_eq_true rfl) rfl dX3_write_69 (met_Im_put _ _ _ _ _ hk.wd hm cy10 e12) (fun hm => ?_)
    refine g_iinc hk (lv' := [(3, mI (wI (x3 + 1))), (0, .ref (kB K + 52)), (1, .ref (kB K + o1)), (2, .ref (kB K + o2))]) 3 rfl (Nat.le_of_ble_eq_true rfl) rfl dX3_write_72 ?_
    refine g_goto hk dX3_write_75 ?_
    refine GoAt.sub [1, 2, 3, 0] rfl ?_
    exact hrec _ _ _ _ hm ko1 ko2 (wI_c _) h
  · refine GoAt.sub [0, 1, 2] rfl ?_
    exact hk78 _ _ _ hm ko1 ko2 h
theorem w_Im_write_L31 {K : zK} (hk : zOk K kdC cX3_write 5 none RX3 2) {k78 : Nat → Nat → zM → Option (zM)} {o : zM} (hk78 : ∀ (o1 : Nat) (o2 : Nat) (m : zM), zG kdC m → kdC o1 = (0, 10) → kdC o2 = (0, 7) → k78 o1 o2 m = some o → GoAt K m [(0, .ref (kB K + 52)), (1, .ref (kB K + o1)), (2, .ref (kB K + o2))] [] 78 (9, 0, o)) : ∀ (n : Nat) (o1 : Nat) (o2 : Nat) (x3 : Int) (m : zM), zG kdC m → kdC o1 = (0, 10) → kdC o2 = (0, 7) → cI x3 → Im_write_L31 k78 n o1 o2 x3 m = some o → GoAt K m [(0, .ref (kB K + 52)), (1, .ref (kB K + o1)), (2, .ref (kB K + o2)), (3, mI x3)] [] 31 (9, 0, o)
  | 0, o1, o2, x3, m, hm, ko1, ko2, cx3, h => by cases h
  | n + 1, o1, o2, x3, m, hm, ko1, ko2, cx3, h => w_Im_write_B31 hk hk78 (w_Im_write_L31 hk hk78 n) hm ko1 ko2 cx3 h
set_option maxRecDepth 100000 in
set_option maxHeartbeats 4000000 in
theorem w_Im_write_B102 {K : zK} (hk : zOk K kdC cX3_write 5 none RX3 2) {k149 : Nat → Nat → Int → zM → Option (zM)} {rec : Nat → Nat → Int → Int → zM → Option (zM)} {o1 : Nat} {o2 : Nat} {x3 : Int} {x4 : Int} {m : zM} {o : zM} (hk149 : ∀ (o1 : Nat) (o2 : Nat) (x3 : Int) (m : zM), zG kdC m → kdC o1 = (0, 10) → kdC o2 = (0, 7) → cI x3 → k149 o1 o2 x3 m = some o → GoAt K m [(0, .ref (kB K + 52)), (1, .ref (kB K + o1)), (2, .ref (kB K + o2)), (3, mI x3)] [] 149 (9, 0, o)) (hrec : ∀ (o1 : Nat) (o2 : Nat) (x3 : Int) (x4 : Int) (m : zM), zG kdC m → kdC o1 = (0, 10) → kdC o2 = (0, 7) → cI x3 → cI x4 → rec o1 o2 x3 x4 m = some o → GoAt K m [(0, .ref (kB K + 52)), (1, .ref (kB K + o1)), (2, .ref (kB K + o2)), (3, mI x3), (4, mI x4)] [] 102 (9, 0, o)) (hm : zG kdC m) (ko1 : kdC o1 = (0, 10)) (ko2 : kdC o2 = (0, 7)) (cx3 : cI x3) (cx4 : cI x4) (h : Im_write_B102 k149 rec o1 o2 x3 x4 m = some o) : GoAt K m [(0, .ref (kB K + 52)), (1, .ref (kB K + o1)), (2, .ref (kB K + o2)), (3, mI x3), (4, mI x4)] [] 102 (9, 0, o) := by
  unfold Im_write_B102 at h
  refine g_iload hk 4 rfl dX3_write_102 ?_
  refine g_aload_n hk 1 rfl dX3_write_104 ?_
  have g1 := zGI (i := 1) hm ko1 rfl
  refine g_get0 hk fl_X3_18 rfl (j := 1) rfl ko1 dX3_write_105 ?_
  refine g_icmp_ge hk cx4 g1 dX3_write_108 h (fun b2 h => ?_) (fun b2 h => ?_)
  · refine g_aload_n hk 0 rfl dX3_write_111 ?_
    refine g_aload_n hk 2 rfl dX3_write_112 ?_
    refine g_get2 hk fl_X3_64 rfl ko2 hm (b := o2 + 5) rfl dX3_write_113 ?_
    refine g_iload_n hk 3 rfl dX3_write_116 ?_
    refine g_bipush hk (v := 8) rfl dX3_write_117 ?_
    refine g_imul hk dX3_write_119 ?_
    refine g_iload hk 4 rfl dX3_write_120 ?_
    refine g_iadd hk dX3_write_122 ?_
    refine g_iald hk (wI_c _) (kdC_s7_7 ko2) hm dX3_write_123 h (fun y3 cy3 h => ?_)
    obtain ⟨r4, e5, h⟩ := zbind h
    refine g_callVv hk (st := []) mf_X3_put lk_X3_42 mv_X3_put kdC_52 (by decide) rfl (Nat.le_of_ble_eq_true rfl) rfl dX3_write_124 (met_Im_put _ _ _ _ _ hk.wd hm cy3 e5) (fun hm => ?_)
    refine g_aload_n hk 0 rfl dX3_write_127 ?_
    refine g_aload_n hk 2 rfl dX3_write_128 ?_
    refine g_get2 hk fl_X3_67 rfl ko2 hm (b := o2 + 6) rfl dX3_write_129 ?_
    refine g_iload_n hk 3 rfl dX3_write_132 ?_
    refine g_bipush hk (v := 8) rfl dX3_write_133 ?_
    refine g_imul hk dX3_write_135 ?_
    refine g_iload hk 4 rfl dX3_write_136 ?_
    refine g_iadd hk dX3_write_138 ?_
    refine g_iald hk (wI_c _) (kdC_s7_8 ko2) hm dX3_write_139 h (fun y7 cy7 h => ?_)
    obtain ⟨r8, e9, h⟩ := zbind h
    refine g_callVv hk (st := []) mf_X3_put lk_X3_42 mv_X3_put kdC_52 (by decide) rfl (Nat.le_of_ble_eq_true rfl) rfl dX3_write_140 (met_Im_put _ _ _ _ _ hk.wd hm cy7 e9) (fun hm => ?_)
    refine g_iinc hk (lv' := [(4, mI (wI (x4 + 1))), (0, .ref (kB K + 52)), (1, .ref (kB K + o1)), (2, .ref (kB K + o2)), (3, mI x3)]) 4 rfl (Nat.le_of_ble_eq_true rfl) rfl dX3_write_143 ?_
    refine g_goto hk dX3_write_146 ?_
    refine GoAt.sub [1, 2, 3, 4, 0] rfl ?_
    exact hrec _ _ _ _ _ hm ko1 ko2 cx3 (wI_c _) h
  · refine GoAt.sub [0, 1, 2, 3] rfl ?_
    exact hk149 _ _ _ _ hm ko1 ko2 cx3 h
theorem w_Im_write_L102 {K : zK} (hk : zOk K kdC cX3_write 5 none RX3 2) {k149 : Nat → Nat → Int → zM → Option (zM)} {o : zM} (hk149 : ∀ (o1 : Nat) (o2 : Nat) (x3 : Int) (m : zM), zG kdC m → kdC o1 = (0, 10) → kdC o2 = (0, 7) → cI x3 → k149 o1 o2 x3 m = some o → GoAt K m [(0, .ref (kB K + 52)), (1, .ref (kB K + o1)), (2, .ref (kB K + o2)), (3, mI x3)] [] 149 (9, 0, o)) : ∀ (n : Nat) (o1 : Nat) (o2 : Nat) (x3 : Int) (x4 : Int) (m : zM), zG kdC m → kdC o1 = (0, 10) → kdC o2 = (0, 7) → cI x3 → cI x4 → Im_write_L102 k149 n o1 o2 x3 x4 m = some o → GoAt K m [(0, .ref (kB K + 52)), (1, .ref (kB K + o1)), (2, .ref (kB K + o2)), (3, mI x3), (4, mI x4)] [] 102 (9, 0, o)
  | 0, o1, o2, x3, x4, m, hm, ko1, ko2, cx3, cx4, h => by cases h
  | n + 1, o1, o2, x3, x4, m, hm, ko1, ko2, cx3, cx4, h => w_Im_write_B102 hk hk149 (w_Im_write_L102 hk hk149 n) hm ko1 ko2 cx3 cx4 h
set_option maxRecDepth 100000 in
set_option maxHeartbeats 4000000 in
theorem w_Im_write_B80 {K : zK} (hk : zOk K kdC cX3_write 5 none RX3 2) {rec : Nat → Nat → Int → zM → Option (zM)} {o1 : Nat} {o2 : Nat} {x3 : Int} {m : zM} {o : zM} (hrec : ∀ (o1 : Nat) (o2 : Nat) (x3 : Int) (m : zM), zG kdC m → kdC o1 = (0, 10) → kdC o2 = (0, 7) → cI x3 → rec o1 o2 x3 m = some o → GoAt K m [(0, .ref (kB K + 52)), (1, .ref (kB K + o1)), (2, .ref (kB K + o2)), (3, mI x3)] [] 80 (9, 0, o)) (hm : zG kdC m) (ko1 : kdC o1 = (0, 10)) (ko2 : kdC o2 = (0, 7)) (cx3 : cI x3) (h : Im_write_B80 rec o1 o2 x3 m = some o) : GoAt K m [(0, .ref (kB K + 52)), (1, .ref (kB K + o1)), (2, .ref (kB K + o2)), (3, mI x3)] [] 80 (9, 0, o) := by
  unfold Im_write_B80 at h
  refine g_iload_n hk 3 rfl dX3_write_80 ?_
  refine g_aload_n hk 1 rfl dX3_write_81 ?_
  have g1 := zGI (i := 0) hm ko1 rfl
  refine g_get0 hk fl_X3_24 rfl (j := 0) rfl ko1 dX3_write_82 ?_
  refine g_icmp_ge hk cx3 g1 dX3_write_85 h (fun b2 h => ?_) (fun b2 h => ?_)
  · refine g_aload_n hk 0 rfl dX3_write_88 ?_
    refine g_aload_n hk 2 rfl dX3_write_89 ?_
    refine g_get2 hk fl_X3_61 rfl ko2 hm (b := o2 + 4) rfl dX3_write_90 ?_
    refine g_iload_n hk 3 rfl dX3_write_93 ?_
    refine g_iconst hk (v := 3) rfl dX3_write_94 ?_
    refine g_imul hk dX3_write_95 ?_
    obtain ⟨r3, e4, h⟩ := zbind h
    refine g_callVv hk (st := []) mf_X3_putTriple lk_X3_51 mv_X3_putTriple kdC_52 (by decide) rfl (Nat.le_of_ble_eq_true rfl) rfl dX3_write_96 (met_Im_putTriple _ _ _ _ _ hk.wd hm (kdC_s7_6 ko2) (wI_c _) e4) (fun hm => ?_)
    refine g_iconst hk (v := 0) rfl dX3_write_99 ?_
    refine g_istore hk (lv' := [(4, mI 0), (0, .ref (kB K + 52)), (1, .ref (kB K + o1)), (2, .ref (kB K + o2)), (3, mI x3)]) (Nat.le_of_ble_eq_true rfl) rfl dX3_write_100 ?_
    refine GoAt.sub [1, 2, 3, 4, 0] rfl ?_
    refine w_Im_write_L102 hk (fun o1_6 o2_6 x3_6 m7 hm ko1_6 ko2_6 cx3_6 h => ?_) 1000000 _ _ _ _ _ hm ko1 ko2 cx3 (cIk rfl) h
    · refine g_iinc hk (lv' := [(3, mI (wI (x3_6 + 1))), (0, .ref (kB K + 52)), (1, .ref (kB K + o1_6)), (2, .ref (kB K + o2_6))]) 3 rfl (Nat.le_of_ble_eq_true rfl) rfl dX3_write_149 ?_
      refine g_goto hk dX3_write_152 ?_
      refine GoAt.sub [1, 2, 3, 0] rfl ?_
      exact hrec _ _ _ _ hm ko1_6 ko2_6 (wI_c _) h
  · refine g_aload_n hk 0 rfl dX3_write_155 ?_
    refine g_aload_n hk 0 rfl dX3_write_156 ?_
    refine g_get2 hk fl_X3_11 rfl kdC_52 hm (b := 53) rfl dX3_write_157 ?_
    refine g_aload_n hk 0 rfl dX3_write_160 ?_
    have g8 := zGI (i := 1) hm kdC_52 rfl
    refine g_get0 hk fl_X3_27 rfl (j := 1) rfl kdC_52 dX3_write_161 ?_
    obtain ⟨r9, e10, h⟩ := zbind h
    refine g_callSi hk (st := [.ref (kB K + 52)]) mf_X3_check lk_X3_70 ms_X3_check (by decide) rfl (Nat.le_of_ble_eq_true rfl) rfl dX3_write_164 (met_Im_check _ _ _ _ _ hk.wd hm kdC_53 g8 e10) (fun hm c11 => ?_)
    obtain ⟨r12, e13, h⟩ := zbind h
    refine g_callVv hk (st := []) mf_X3_put lk_X3_42 mv_X3_put kdC_52 (by decide) rfl (Nat.le_of_ble_eq_true rfl) rfl dX3_write_167 (met_Im_put _ _ _ _ _ hk.wd hm c11 e13) (fun hm => ?_)
    exact g_return hk dX3_write_170 (by cases h; rfl)
theorem w_Im_write_L80 {K : zK} (hk : zOk K kdC cX3_write 5 none RX3 2)  {o : zM}  : ∀ (n : Nat) (o1 : Nat) (o2 : Nat) (x3 : Int) (m : zM), zG kdC m → kdC o1 = (0, 10) → kdC o2 = (0, 7) → cI x3 → Im_write_L80 n o1 o2 x3 m = some o → GoAt K m [(0, .ref (kB K + 52)), (1, .ref (kB K + o1)), (2, .ref (kB K + o2)), (3, mI x3)] [] 80 (9, 0, o)
  | 0, o1, o2, x3, m, hm, ko1, ko2, cx3, h => by cases h
  | n + 1, o1, o2, x3, m, hm, ko1, ko2, cx3, h => w_Im_write_B80 hk  (w_Im_write_L80 hk  n) hm ko1 ko2 cx3 h
set_option maxRecDepth 100000 in
set_option maxHeartbeats 4000000 in
theorem w_Im_write {K : zK} (hk : zOk K kdC cX3_write 5 none RX3 2)  {o1 : Nat} {o2 : Nat} {m : zM} {o : zM}  (hm : zG kdC m) (ko1 : kdC o1 = (0, 10)) (ko2 : kdC o2 = (0, 7)) (h : Im_write o1 o2 m = some o) : GoAt K m [(0, .ref (kB K + 52)), (1, .ref (kB K + o1)), (2, .ref (kB K + o2))] [] 0 (9, 0, o) := by
  unfold Im_write at h
  refine g_aload_n hk 0 rfl dX3_write_0 ?_
  refine g_iconst hk (v := 0) rfl dX3_write_1 ?_
  refine g_put0 hk fp_X3_27 rfl (j := 1) rfl kdC_52 (cIk rfl) dX3_write_2 h hm (fun m1 hm h => ?_)
  refine g_aload_n hk 0 rfl dX3_write_5 ?_
  refine g_aload_n hk 2 rfl dX3_write_6 ?_
  have g2 := zGI (i := 0) hm ko2 rfl
  refine g_get0 hk fl_X3_30 rfl (j := 0) rfl ko2 dX3_write_7 ?_
  obtain ⟨r3, e4, h⟩ := zbind h
  refine g_callVv hk (st := []) mf_X3_putPair lk_X3_35 mv_X3_putPair kdC_52 (by decide) rfl (Nat.le_of_ble_eq_true rfl) rfl dX3_write_10 (met_Im_putPair _ _ _ _ _ hk.wd hm g2 e4) (fun hm => ?_)
  refine g_aload_n hk 0 rfl dX3_write_13 ?_
  refine g_aload_n hk 2 rfl dX3_write_14 ?_
  have g6 := zGI (i := 1) hm ko2 rfl
  refine g_get0 hk fl_X3_39 rfl (j := 1) rfl ko2 dX3_write_15 ?_
  obtain ⟨r7, e8, h⟩ := zbind h
  refine g_callVv hk (st := []) mf_X3_put lk_X3_42 mv_X3_put kdC_52 (by decide) rfl (Nat.le_of_ble_eq_true rfl) rfl dX3_write_18 (met_Im_put _ _ _ _ _ hk.wd hm g6 e8) (fun hm => ?_)
  refine g_aload_n hk 0 rfl dX3_write_21 ?_
  refine g_aload_n hk 2 rfl dX3_write_22 ?_
  have g10 := zGI (i := 2) hm ko2 rfl
  refine g_get0 hk fl_X3_45 rfl (j := 2) rfl ko2 dX3_write_23 ?_
  obtain ⟨r11, e12, h⟩ := zbind h
  refine g_callVv hk (st := []) mf_X3_putPair lk_X3_35 mv_X3_putPair kdC_52 (by decide) rfl (Nat.le_of_ble_eq_true rfl) rfl dX3_write_26 (met_Im_putPair _ _ _ _ _ hk.wd hm g10 e12) (fun hm => ?_)
  refine g_iconst hk (v := 0) rfl dX3_write_29 ?_
  refine g_istore_n hk rfl (lv' := [(3, mI 0), (0, .ref (kB K + 52)), (1, .ref (kB K + o1)), (2, .ref (kB K + o2))]) (Nat.le_of_ble_eq_true rfl) rfl dX3_write_30 ?_
  refine GoAt.sub [1, 2, 3, 0] rfl ?_
  refine w_Im_write_L31 hk (fun o1_14 o2_14 m15 hm ko1_14 ko2_14 h => ?_) 1000000 _ _ _ _ hm ko1 ko2 (cIk rfl) h
  · refine g_iconst hk (v := 0) rfl dX3_write_78 ?_
    refine g_istore_n hk rfl (lv' := [(3, mI 0), (0, .ref (kB K + 52)), (1, .ref (kB K + o1_14)), (2, .ref (kB K + o2_14))]) (Nat.le_of_ble_eq_true rfl) rfl dX3_write_79 ?_
    refine GoAt.sub [1, 2, 3, 0] rfl ?_
    refine w_Im_write_L80 hk  1000000 _ _ _ _ hm ko1_14 ko2_14 (cIk rfl) h
theorem met_Im_write (l : Launch) (D : va_G) (aC : Nat → ClassId) (B N : Nat) (hwd : ∀ id, (kdC id).1 ≠ 9 → id < N) {o1 : Nat} {o2 : Nat} {m : zM} {o : zM} (hm : zG kdC m) (ko1 : kdC o1 = (0, 10)) (ko2 : kdC o2 = (0, 7)) (h : Im_write o1 o2 m = some o) : zMet l yX3_write cX3_write 5 none 2 D aC B kdC N [.ref (B + 52), .ref (B + o1), .ref (B + o2)] m (9, 0, o) := by
  refine zMet.of mf_X3_write hwd hm (Nat.le_of_ble_eq_true rfl) (fun K e1 e2 e3 e4 e5 hk => ?_)
  subst e4
  exact w_Im_write hk hm ko1 ko2 h
set_option maxRecDepth 100000 in
set_option maxHeartbeats 4000000 in
theorem w_C_image {K : zK} (hk : zOk K kdC cX11_image 1 (some .int) RX11 3)  {m : zM} {o : Int × zM}  (hm : zG kdC m)  (h : C_image m = some o) : GoAt K m [(0, .ref (kB K + 0))] [] 0 (0, o.1, o.2) := by
  unfold C_image at h
  refine g_aload_n hk 0 rfl dX11_image_0 ?_
  refine g_get2 hk fl_X11_73 rfl kdC_0 hm (b := 52) rfl dX11_image_1 ?_
  refine g_aload_n hk 0 rfl dX11_image_4 ?_
  refine g_get3o hk fl_X11_84 rfl (j := 12) rfl kdC_0 dX11_image_5 h (fun zz1 kzz1 h => ?_)
  refine g_aload_n hk 0 rfl dX11_image_8 ?_
  refine g_get2 hk fl_X11_24 rfl kdC_0 hm (b := 8) rfl dX11_image_9 ?_
  obtain ⟨r2, e3, h⟩ := zbind h
  refine g_callVv hk (st := []) mf_X3_write lk_X11_354 mv_X3_write kdC_52 (by decide) rfl (Nat.le_of_ble_eq_true rfl) rfl dX11_image_12 (met_Im_write _ _ _ _ _ hk.wd hm kzz1 kdC_8 e3) (fun hm => ?_)
  refine g_aload_n hk 0 rfl dX11_image_15 ?_
  refine g_get2 hk fl_X11_73 rfl kdC_0 hm (b := 52) rfl dX11_image_16 ?_
  have g5 := zGI (i := 1) hm kdC_52 rfl
  refine g_get0 hk fl_X11_357 rfl (j := 1) rfl kdC_52 dX11_image_19 ?_
  exact g_ireturn hk g5 dX11_image_22 (by cases h; rfl)
theorem met_C_image (l : Launch) (D : va_G) (aC : Nat → ClassId) (B N : Nat) (hwd : ∀ id, (kdC id).1 ≠ 9 → id < N) {m : zM} {o : Int × zM} (hm : zG kdC m)  (h : C_image m = some o) : zMet l yX11_image cX11_image 1 (some .int) 3 D aC B kdC N [.ref (B + 0)] m (0, o.1, o.2) := by
  refine zMet.of mf_X11_image hwd hm (Nat.le_of_ble_eq_true rfl) (fun K e1 e2 e3 e4 e5 hk => ?_)
  subst e4
  exact w_C_image hk hm  h
set_option maxRecDepth 100000 in
set_option maxHeartbeats 4000000 in
theorem w_C_octet {K : zK} (hk : zOk K kdC cX11_octet 2 (some .int) RX11 0)  {x1 : Int} {m : zM} {o : Int}  (hm : zG kdC m) (cx1 : cI x1) (h : C_octet x1 m = some o) : GoAt K m [(0, .ref (kB K + 0)), (1, mI x1)] [] 0 (0, o, m) := by
  unfold C_octet at h
  refine g_iload_n hk 1 rfl dX11_octet_0 ?_
  refine g_if_lt hk cx1 dX11_octet_1 h (fun b1 h => ?_) (fun b1 h => ?_)
  · refine g_iconst hk (v := (-1)) rfl dX11_octet_27 ?_
    exact g_ireturn hk (cIk rfl) dX11_octet_28 (by cases h; rfl)
  · refine g_iload_n hk 1 rfl dX11_octet_4 ?_
    refine g_aload_n hk 0 rfl dX11_octet_5 ?_
    refine g_get2 hk fl_X11_73 rfl kdC_0 hm (b := 52) rfl dX11_octet_6 ?_
    have g2 := zGI (i := 1) hm kdC_52 rfl
    refine g_get0 hk fl_X11_357 rfl (j := 1) rfl kdC_52 dX11_octet_9 ?_
    refine g_icmp_ge hk cx1 g2 dX11_octet_12 h (fun b3 h => ?_) (fun b3 h => ?_)
    · refine g_aload_n hk 0 rfl dX11_octet_15 ?_
      refine g_get2 hk fl_X11_73 rfl kdC_0 hm (b := 52) rfl dX11_octet_16 ?_
      refine g_get2 hk fl_X11_358 rfl kdC_52 hm (b := 53) rfl dX11_octet_19 ?_
      refine g_iload_n hk 1 rfl dX11_octet_22 ?_
      refine g_iald hk cx1 kdC_53 hm dX11_octet_23 h (fun y4 cy4 h => ?_)
      refine g_goto hk dX11_octet_24 ?_
      exact g_ireturn hk cy4 dX11_octet_28 (by cases h; rfl)
    · refine g_iconst hk (v := (-1)) rfl dX11_octet_27 ?_
      exact g_ireturn hk (cIk rfl) dX11_octet_28 (by cases h; rfl)
theorem met_C_octet (l : Launch) (D : va_G) (aC : Nat → ClassId) (B N : Nat) (hwd : ∀ id, (kdC id).1 ≠ 9 → id < N) {x1 : Int} {m : zM} {o : Int} (hm : zG kdC m) (cx1 : cI x1) (h : C_octet x1 m = some o) : zMet l yX11_octet cX11_octet 2 (some .int) 0 D aC B kdC N [.ref (B + 0), mI x1] m (0, o, m) := by
  refine zMet.of mf_X11_octet hwd hm (Nat.le_of_ble_eq_true rfl) (fun K e1 e2 e3 e4 e5 hk => ?_)
  subst e4
  exact w_C_octet hk hm cx1 h
set_option maxRecDepth 100000 in
set_option maxHeartbeats 4000000 in
theorem w_Im_sizeFor {K : zK} (hk : zOk K kdC cX3_sizeFor 1 (some .int) RX3 0)  {o0 : Nat} {m : zM} {o : Int}  (hm : zG kdC m) (ko0 : kdC o0 = (0, 10)) (h : Im_sizeFor o0 m = some o) : GoAt K m [(0, .ref (kB K + o0))] [] 0 (0, o, m) := by
  unfold Im_sizeFor at h
  refine g_bipush hk (v := 6) rfl dX3_sizeFor_0 ?_
  refine g_aload_n hk 0 rfl dX3_sizeFor_2 ?_
  have g1 := zGI (i := 1) hm ko0 rfl
  refine g_get0 hk fl_X3_18 rfl (j := 1) rfl ko0 dX3_sizeFor_3 ?_
  refine g_iconst hk (v := 5) rfl dX3_sizeFor_6 ?_
  refine g_imul hk dX3_sizeFor_7 ?_
  refine g_iadd hk dX3_sizeFor_8 ?_
  refine g_aload_n hk 0 rfl dX3_sizeFor_9 ?_
  have g2 := zGI (i := 0) hm ko0 rfl
  refine g_get0 hk fl_X3_24 rfl (j := 0) rfl ko0 dX3_sizeFor_10 ?_
  refine g_iconst hk (v := 3) rfl dX3_sizeFor_13 ?_
  refine g_iconst hk (v := 2) rfl dX3_sizeFor_14 ?_
  refine g_aload_n hk 0 rfl dX3_sizeFor_15 ?_
  have g3 := zGI (i := 1) hm ko0 rfl
  refine g_get0 hk fl_X3_18 rfl (j := 1) rfl ko0 dX3_sizeFor_16 ?_
  refine g_imul hk dX3_sizeFor_19 ?_
  refine g_iadd hk dX3_sizeFor_20 ?_
  refine g_imul hk dX3_sizeFor_21 ?_
  refine g_iadd hk dX3_sizeFor_22 ?_
  exact g_ireturn hk (wI_c _) dX3_sizeFor_23 (by cases h; rfl)
theorem met_Im_sizeFor (l : Launch) (D : va_G) (aC : Nat → ClassId) (B N : Nat) (hwd : ∀ id, (kdC id).1 ≠ 9 → id < N) {o0 : Nat} {m : zM} {o : Int} (hm : zG kdC m) (ko0 : kdC o0 = (0, 10)) (h : Im_sizeFor o0 m = some o) : zMet l yX3_sizeFor cX3_sizeFor 1 (some .int) 0 D aC B kdC N [.ref (B + o0)] m (0, o, m) := by
  refine zMet.of mf_X3_sizeFor hwd hm (Nat.le_of_ble_eq_true rfl) (fun K e1 e2 e3 e4 e5 hk => ?_)
  subst e4
  exact w_Im_sizeFor hk hm ko0 h
set_option maxRecDepth 100000 in
set_option maxHeartbeats 4000000 in
theorem w_Im_takeByte {K : zK} (hk : zOk K kdC cX3_takeByte 3 (some .int) RX3 0)  {x1 : Int} {m : zM} {o : Int × zM}  (hm : zG kdC m) (cx1 : cI x1) (h : Im_takeByte x1 m = some o) : GoAt K m [(0, .ref (kB K + 52)), (1, mI x1)] [] 0 (0, o.1, o.2) := by
  unfold Im_takeByte at h
  refine g_aload_n hk 0 rfl dX3_takeByte_0 ?_
  have g1 := zGI (i := 3) hm kdC_52 rfl
  refine g_get0 hk fl_X3_82 rfl (j := 3) rfl kdC_52 dX3_takeByte_1 ?_
  refine g_aload_n hk 0 rfl dX3_takeByte_4 ?_
  refine g_get3a hk fl_X3_15 rfl (j := 2) rfl kdC_52 dX3_takeByte_5 h (fun zz2 nn3 kzz2 h => ?_)
  refine g_alen hk (v := ((nn3 : Nat) : Int)) kzz2 rfl dX3_takeByte_8 ?_
  refine g_icmp_ge hk g1 (cI_len kzz2) dX3_takeByte_9 h (fun b4 h => ?_) (fun b4 h => ?_)
  · refine g_aload_n hk 0 rfl dX3_takeByte_12 ?_
    refine g_get3a hk fl_X3_15 rfl (j := 2) rfl kdC_52 dX3_takeByte_13 h (fun zz5 nn6 kzz5 h => ?_)
    refine g_aload_n hk 0 rfl dX3_takeByte_16 ?_
    have g7 := zGI (i := 3) hm kdC_52 rfl
    refine g_get0 hk fl_X3_82 rfl (j := 3) rfl kdC_52 dX3_takeByte_17 ?_
    refine g_iald hk g7 kzz5 hm dX3_takeByte_20 h (fun y8 cy8 h => ?_)
    refine g_iload_n hk 1 rfl dX3_takeByte_21 ?_
    refine g_icmp_le hk cy8 cx1 dX3_takeByte_22 h (fun b9 h => ?_) (fun b9 h => ?_)
    · refine g_aload_n hk 0 rfl dX3_takeByte_25 ?_
      refine g_iconst hk (v := 0) rfl dX3_takeByte_26 ?_
      refine g_put4 hk fp_X3_85 rfl (j := 4) rfl kdC_52 z0 dX3_takeByte_27 h hm (fun m10 hm h => ?_)
      refine g_iconst hk (v := 0) rfl dX3_takeByte_30 ?_
      exact g_ireturn hk (cIk rfl) dX3_takeByte_31 (by cases h; rfl)
    · refine g_aload_n hk 0 rfl dX3_takeByte_32 ?_
      refine g_get3a hk fl_X3_15 rfl (j := 2) rfl kdC_52 dX3_takeByte_33 h (fun zz11 nn12 kzz11 h => ?_)
      refine g_aload_n hk 0 rfl dX3_takeByte_36 ?_
      have g13 := zGI (i := 3) hm kdC_52 rfl
      refine g_get0 hk fl_X3_82 rfl (j := 3) rfl kdC_52 dX3_takeByte_37 ?_
      refine g_iald hk g13 kzz11 hm dX3_takeByte_40 h (fun y14 cy14 h => ?_)
      refine g_istore_n hk rfl (lv' := [(2, mI y14), (0, .ref (kB K + 52)), (1, mI x1)]) (Nat.le_of_ble_eq_true rfl) rfl dX3_takeByte_41 ?_
      refine g_aload_n hk 1 rfl dX3_takeByte_42 ?_
      refine g_dup hk rfl dX3_takeByte_43 ?_
      have g15 := zGI (i := 3) hm kdC_52 rfl
      refine g_get0 hk fl_X3_82 rfl (j := 3) rfl kdC_52 dX3_takeByte_44 ?_
      refine g_iconst hk (v := 1) rfl dX3_takeByte_47 ?_
      refine g_iadd hk dX3_takeByte_48 ?_
      refine g_put0 hk fp_X3_82 rfl (j := 3) rfl kdC_52 (wI_c _) dX3_takeByte_49 h hm (fun m16 hm h => ?_)
      refine g_iload_n hk 0 rfl dX3_takeByte_52 ?_
      exact g_ireturn hk cy14 dX3_takeByte_53 (by cases h; rfl)
  · refine g_aload_n hk 0 rfl dX3_takeByte_25 ?_
    refine g_iconst hk (v := 0) rfl dX3_takeByte_26 ?_
    refine g_put4 hk fp_X3_85 rfl (j := 4) rfl kdC_52 z0 dX3_takeByte_27 h hm (fun m17 hm h => ?_)
    refine g_iconst hk (v := 0) rfl dX3_takeByte_30 ?_
    exact g_ireturn hk (cIk rfl) dX3_takeByte_31 (by cases h; rfl)
theorem met_Im_takeByte (l : Launch) (D : va_G) (aC : Nat → ClassId) (B N : Nat) (hwd : ∀ id, (kdC id).1 ≠ 9 → id < N) {x1 : Int} {m : zM} {o : Int × zM} (hm : zG kdC m) (cx1 : cI x1) (h : Im_takeByte x1 m = some o) : zMet l yX3_takeByte cX3_takeByte 3 (some .int) 0 D aC B kdC N [.ref (B + 52), mI x1] m (0, o.1, o.2) := by
  refine zMet.of mf_X3_takeByte hwd hm (Nat.le_of_ble_eq_true rfl) (fun K e1 e2 e3 e4 e5 hk => ?_)
  subst e4
  exact w_Im_takeByte hk hm cx1 h
set_option maxRecDepth 100000 in
set_option maxHeartbeats 4000000 in
theorem w_Im_takePair {K : zK} (hk : zOk K kdC cX3_takePair 4 (some .int) RX3 1)  {x1 : Int} {m : zM} {o : Int × zM}  (hm : zG kdC m) (cx1 : cI x1) (h : Im_takePair x1 m = some o) : GoAt K m [(0, .ref (kB K + 52)), (1, mI x1)] [] 0 (0, o.1, o.2) := by
  unfold Im_takePair at h
  refine g_aload_n hk 0 rfl dX3_takePair_0 ?_
  refine g_sipush hk (v := 255) rfl dX3_takePair_1 ?_
  obtain ⟨r1, e2, h⟩ := zbind h
  refine g_callVi hk (st := []) mf_X3_takeByte lk_X3_96 mv_X3_takeByte kdC_52 (by decide) rfl (Nat.le_of_ble_eq_true rfl) rfl dX3_takePair_4 (met_Im_takeByte _ _ _ _ _ hk.wd hm (cIk rfl) e2) (fun hm c3 => ?_)
  refine g_istore_n hk rfl (lv' := [(2, mI r1.1), (0, .ref (kB K + 52)), (1, mI x1)]) (Nat.le_of_ble_eq_true rfl) rfl dX3_takePair_7 ?_
  refine g_iload_n hk 0 rfl dX3_takePair_8 ?_
  refine g_sipush hk (v := 256) rfl dX3_takePair_9 ?_
  refine g_imul hk dX3_takePair_12 ?_
  refine g_aload_n hk 1 rfl dX3_takePair_13 ?_
  refine g_sipush hk (v := 255) rfl dX3_takePair_14 ?_
  obtain ⟨r4, e5, h⟩ := zbind h
  refine g_callVi hk (st := [mI (wI (r1.1 * 256))]) mf_X3_takeByte lk_X3_96 mv_X3_takeByte kdC_52 (by decide) rfl (Nat.le_of_ble_eq_true rfl) rfl dX3_takePair_17 (met_Im_takeByte _ _ _ _ _ hk.wd hm (cIk rfl) e5) (fun hm c6 => ?_)
  refine g_iadd hk dX3_takePair_20 ?_
  refine g_let (wI_c _) h (fun v7 cv7 h => ?_)
  refine g_istore_n hk rfl (lv' := [(3, mI v7), (2, mI r1.1), (0, .ref (kB K + 52)), (1, mI x1)]) (Nat.le_of_ble_eq_true rfl) rfl dX3_takePair_21 ?_
  refine g_iload_n hk 0 rfl dX3_takePair_22 ?_
  refine g_iload_n hk 3 rfl dX3_takePair_23 ?_
  refine g_icmp_le hk cv7 cx1 dX3_takePair_24 h (fun b8 h => ?_) (fun b8 h => ?_)
  · refine g_aload_n hk 2 rfl dX3_takePair_27 ?_
    refine g_iconst hk (v := 0) rfl dX3_takePair_28 ?_
    refine g_put4 hk fp_X3_85 rfl (j := 4) rfl kdC_52 z0 dX3_takePair_29 h hm (fun m9 hm h => ?_)
    refine g_iconst hk (v := 0) rfl dX3_takePair_32 ?_
    exact g_ireturn hk (cIk rfl) dX3_takePair_33 (by cases h; rfl)
  · refine g_iload_n hk 0 rfl dX3_takePair_34 ?_
    exact g_ireturn hk cv7 dX3_takePair_35 (by cases h; rfl)
theorem met_Im_takePair (l : Launch) (D : va_G) (aC : Nat → ClassId) (B N : Nat) (hwd : ∀ id, (kdC id).1 ≠ 9 → id < N) {x1 : Int} {m : zM} {o : Int × zM} (hm : zG kdC m) (cx1 : cI x1) (h : Im_takePair x1 m = some o) : zMet l yX3_takePair cX3_takePair 4 (some .int) 1 D aC B kdC N [.ref (B + 52), mI x1] m (0, o.1, o.2) := by
  refine zMet.of mf_X3_takePair hwd hm (Nat.le_of_ble_eq_true rfl) (fun K e1 e2 e3 e4 e5 hk => ?_)
  subst e4
  exact w_Im_takePair hk hm cx1 h
set_option maxRecDepth 100000 in
set_option maxHeartbeats 4000000 in
theorem w_Im_takeTriple_B2 {K : zK} (hk : zOk K kdC cX3_takeTriple 4 none RX3 1) {rec : Nat → Nat → Int → Int → zM → Option (zM)} {a1 : Nat} {n1 : Nat} {x2 : Int} {x3 : Int} {m : zM} {o : zM} (hrec : ∀ (a1 : Nat) (n1 : Nat) (x2 : Int) (x3 : Int) (m : zM), zG kdC m → kdC a1 = (1, n1) → cI x2 → cI x3 → rec a1 n1 x2 x3 m = some o → GoAt K m [(0, .ref (kB K + 52)), (1, .ref (kB K + a1)), (2, mI x2), (3, mI x3)] [] 2 (9, 0, o)) (hm : zG kdC m) (ka1 : kdC a1 = (1, n1)) (cx2 : cI x2) (cx3 : cI x3) (h : Im_takeTriple_B2 rec a1 n1 x2 x3 m = some o) : GoAt K m [(0, .ref (kB K + 52)), (1, .ref (kB K + a1)), (2, mI x2), (3, mI x3)] [] 2 (9, 0, o) := by
  unfold Im_takeTriple_B2 at h
  refine g_iload_n hk 3 rfl dX3_takeTriple_2 ?_
  refine g_iconst hk (v := 3) rfl dX3_takeTriple_3 ?_
  refine g_icmp_ge hk cx3 (cIk rfl) dX3_takeTriple_4 h (fun b1 h => ?_) (fun b1 h => ?_)
  · refine g_aload_n hk 1 rfl dX3_takeTriple_7 ?_
    refine g_iload_n hk 2 rfl dX3_takeTriple_8 ?_
    refine g_iload_n hk 3 rfl dX3_takeTriple_9 ?_
    refine g_iadd hk dX3_takeTriple_10 ?_
    refine g_aload_n hk 0 rfl dX3_takeTriple_11 ?_
    refine g_bipush hk (v := 9) rfl dX3_takeTriple_12 ?_
    obtain ⟨r2, e3, h⟩ := zbind h
    refine g_callVi hk (st := [mI (wI (x2 + x3)), .ref (kB K + a1)]) mf_X3_takeByte lk_X3_96 mv_X3_takeByte kdC_52 (by decide) rfl (Nat.le_of_ble_eq_true rfl) rfl dX3_takeTriple_14 (met_Im_takeByte _ _ _ _ _ hk.wd hm (cIk rfl) e3) (fun hm c4 => ?_)
    refine g_iast hk (wI_c _) c4 ka1 hm dX3_takeTriple_17 h (fun m5 hm h => ?_)
    refine g_iinc hk (lv' := [(3, mI (wI (x3 + 1))), (0, .ref (kB K + 52)), (1, .ref (kB K + a1)), (2, mI x2)]) 3 rfl (Nat.le_of_ble_eq_true rfl) rfl dX3_takeTriple_18 ?_
    refine g_goto hk dX3_takeTriple_21 ?_
    refine GoAt.sub [1, 2, 3, 0] rfl ?_
    exact hrec _ _ _ _ _ hm ka1 cx2 (wI_c _) h
  · exact g_return hk dX3_takeTriple_24 (by cases h; rfl)
theorem w_Im_takeTriple_L2 {K : zK} (hk : zOk K kdC cX3_takeTriple 4 none RX3 1)  {o : zM}  : ∀ (n : Nat) (a1 : Nat) (n1 : Nat) (x2 : Int) (x3 : Int) (m : zM), zG kdC m → kdC a1 = (1, n1) → cI x2 → cI x3 → Im_takeTriple_L2 n a1 n1 x2 x3 m = some o → GoAt K m [(0, .ref (kB K + 52)), (1, .ref (kB K + a1)), (2, mI x2), (3, mI x3)] [] 2 (9, 0, o)
  | 0, a1, n1, x2, x3, m, hm, ka1, cx2, cx3, h => by cases h
  | n + 1, a1, n1, x2, x3, m, hm, ka1, cx2, cx3, h => w_Im_takeTriple_B2 hk  (w_Im_takeTriple_L2 hk  n) hm ka1 cx2 cx3 h
set_option maxRecDepth 100000 in
set_option maxHeartbeats 4000000 in
theorem w_Im_takeTriple {K : zK} (hk : zOk K kdC cX3_takeTriple 4 none RX3 1)  {a1 : Nat} {n1 : Nat} {x2 : Int} {m : zM} {o : zM}  (hm : zG kdC m) (ka1 : kdC a1 = (1, n1)) (cx2 : cI x2) (h : Im_takeTriple a1 n1 x2 m = some o) : GoAt K m [(0, .ref (kB K + 52)), (1, .ref (kB K + a1)), (2, mI x2)] [] 0 (9, 0, o) := by
  unfold Im_takeTriple at h
  refine g_iconst hk (v := 0) rfl dX3_takeTriple_0 ?_
  refine g_istore_n hk rfl (lv' := [(3, mI 0), (0, .ref (kB K + 52)), (1, .ref (kB K + a1)), (2, mI x2)]) (Nat.le_of_ble_eq_true rfl) rfl dX3_takeTriple_1 ?_
  refine GoAt.sub [1, 2, 3, 0] rfl ?_
  refine w_Im_takeTriple_L2 hk  1000000 _ _ _ _ _ hm ka1 cx2 (cIk rfl) h
theorem met_Im_takeTriple (l : Launch) (D : va_G) (aC : Nat → ClassId) (B N : Nat) (hwd : ∀ id, (kdC id).1 ≠ 9 → id < N) {a1 : Nat} {n1 : Nat} {x2 : Int} {m : zM} {o : zM} (hm : zG kdC m) (ka1 : kdC a1 = (1, n1)) (cx2 : cI x2) (h : Im_takeTriple a1 n1 x2 m = some o) : zMet l yX3_takeTriple cX3_takeTriple 4 none 1 D aC B kdC N [.ref (B + 52), .ref (B + a1), mI x2] m (9, 0, o) := by
  refine zMet.of mf_X3_takeTriple hwd hm (Nat.le_of_ble_eq_true rfl) (fun K e1 e2 e3 e4 e5 hk => ?_)
  subst e4
  exact w_Im_takeTriple hk hm ka1 cx2 h
set_option maxRecDepth 100000 in
set_option maxHeartbeats 4000000 in
theorem w_Im_read_B103 {K : zK} (hk : zOk K kdC cX3_read 8 (some .boolean) RX3 2) {k166 : Nat → Nat → zM → Option (Int × zM)} {rec : Nat → Nat → Int → zM → Option (Int × zM)} {o2 : Nat} {o3 : Nat} {x5 : Int} {m : zM} {o : Int × zM} (hk166 : ∀ (o2 : Nat) (o3 : Nat) (m : zM), zG kdC m → kdC o2 = (0, 10) → kdC o3 = (0, 7) → k166 o2 o3 m = some o → GoAt K m [(0, .ref (kB K + 52)), (2, .ref (kB K + o2)), (3, .ref (kB K + o3))] [] 166 (4, o.1, o.2)) (hrec : ∀ (o2 : Nat) (o3 : Nat) (x5 : Int) (m : zM), zG kdC m → kdC o2 = (0, 10) → kdC o3 = (0, 7) → cI x5 → rec o2 o3 x5 m = some o → GoAt K m [(0, .ref (kB K + 52)), (2, .ref (kB K + o2)), (3, .ref (kB K + o3)), (5, mI x5)] [] 103 (4, o.1, o.2)) (hm : zG kdC m) (ko2 : kdC o2 = (0, 10)) (ko3 : kdC o3 = (0, 7)) (cx5 : cI x5) (h : Im_read_B103 k166 rec o2 o3 x5 m = some o) : GoAt K m [(0, .ref (kB K + 52)), (2, .ref (kB K + o2)), (3, .ref (kB K + o3)), (5, mI x5)] [] 103 (4, o.1, o.2) := by
  unfold Im_read_B103 at h
  refine g_iload hk 3 rfl dX3_read_103 ?_
  refine g_aload_n hk 1 rfl dX3_read_105 ?_
  have g1 := zGI (i := 1) hm ko2 rfl
  refine g_get0 hk fl_X3_18 rfl (j := 1) rfl ko2 dX3_read_106 ?_
  refine g_icmp_ge hk cx5 g1 dX3_read_109 h (fun b2 h => ?_) (fun b2 h => ?_)
  · refine g_aload_n hk 0 rfl dX3_read_112 ?_
    refine g_aload_n hk 2 rfl dX3_read_113 ?_
    refine g_get2 hk fl_X3_48 rfl ko3 hm (b := o3 + 1) rfl dX3_read_114 ?_
    refine g_iload hk 3 rfl dX3_read_117 ?_
    refine g_iconst hk (v := 3) rfl dX3_read_119 ?_
    refine g_imul hk dX3_read_120 ?_
    obtain ⟨r3, e4, h⟩ := zbind h
    refine g_callVv hk (st := []) mf_X3_takeTriple lk_X3_99 mv_X3_takeTriple kdC_52 (by decide) rfl (Nat.le_of_ble_eq_true rfl) rfl dX3_read_121 (met_Im_takeTriple _ _ _ _ _ hk.wd hm (kdC_s7_3 ko3) (wI_c _) e4) (fun hm => ?_)
    refine g_aload_n hk 2 rfl dX3_read_124 ?_
    refine g_get2 hk fl_X3_55 rfl ko3 hm (b := o3 + 2) rfl dX3_read_125 ?_
    refine g_iload hk 3 rfl dX3_read_128 ?_
    refine g_aload_n hk 0 rfl dX3_read_130 ?_
    refine g_aload_n hk 1 rfl dX3_read_131 ?_
    have g6 := zGI (i := 0) hm ko2 rfl
    refine g_get0 hk fl_X3_24 rfl (j := 0) rfl ko2 dX3_read_132 ?_
    obtain ⟨r7, e8, h⟩ := zbind h
    refine g_callVi hk (st := [mI x5, .ref (kB K + (o3 + 2))]) mf_X3_takeByte lk_X3_96 mv_X3_takeByte kdC_52 (by decide) rfl (Nat.le_of_ble_eq_true rfl) rfl dX3_read_135 (met_Im_takeByte _ _ _ _ _ hk.wd hm g6 e8) (fun hm c9 => ?_)
    refine g_iconst hk (v := 1) rfl dX3_read_138 ?_
    refine g_isub hk dX3_read_139 ?_
    refine g_iast hk cx5 (wI_c _) (kdC_s7_4 ko3) hm dX3_read_140 h (fun m10 hm h => ?_)
    refine g_aload_n hk 2 rfl dX3_read_141 ?_
    refine g_get2 hk fl_X3_58 rfl ko3 hm (b := o3 + 3) rfl dX3_read_142 ?_
    refine g_iload hk 3 rfl dX3_read_145 ?_
    refine g_aload_n hk 0 rfl dX3_read_147 ?_
    refine g_iconst hk (v := 1) rfl dX3_read_148 ?_
    refine g_aload_n hk 1 rfl dX3_read_149 ?_
    have g11 := zGI (i := 0) hm ko2 rfl
    refine g_get0 hk fl_X3_24 rfl (j := 0) rfl ko2 dX3_read_150 ?_
    refine g_ishl hk dX3_read_153 ?_
    refine g_iconst hk (v := 1) rfl dX3_read_154 ?_
    refine g_isub hk dX3_read_155 ?_
    obtain ⟨r12, e13, h⟩ := zbind h
    refine g_callVi hk (st := [mI x5, .ref (kB K + (o3 + 3))]) mf_X3_takeByte lk_X3_96 mv_X3_takeByte kdC_52 (by decide) rfl (Nat.le_of_ble_eq_true rfl) rfl dX3_read_156 (met_Im_takeByte _ _ _ _ _ hk.wd hm (wI_c _) e13) (fun hm c14 => ?_)
    refine g_iast hk cx5 c14 (kdC_s7_5 ko3) hm dX3_read_159 h (fun m15 hm h => ?_)
    refine g_iinc hk (lv' := [(5, mI (wI (x5 + 1))), (0, .ref (kB K + 52)), (2, .ref (kB K + o2)), (3, .ref (kB K + o3))]) 3 rfl (Nat.le_of_ble_eq_true rfl) rfl dX3_read_160 ?_
    refine g_goto hk dX3_read_163 ?_
    refine GoAt.sub [1, 2, 3, 0] rfl ?_
    exact hrec _ _ _ _ hm ko2 ko3 (wI_c _) h
  · refine GoAt.sub [0, 1, 2] rfl ?_
    exact hk166 _ _ _ hm ko2 ko3 h
theorem w_Im_read_L103 {K : zK} (hk : zOk K kdC cX3_read 8 (some .boolean) RX3 2) {k166 : Nat → Nat → zM → Option (Int × zM)} {o : Int × zM} (hk166 : ∀ (o2 : Nat) (o3 : Nat) (m : zM), zG kdC m → kdC o2 = (0, 10) → kdC o3 = (0, 7) → k166 o2 o3 m = some o → GoAt K m [(0, .ref (kB K + 52)), (2, .ref (kB K + o2)), (3, .ref (kB K + o3))] [] 166 (4, o.1, o.2)) : ∀ (n : Nat) (o2 : Nat) (o3 : Nat) (x5 : Int) (m : zM), zG kdC m → kdC o2 = (0, 10) → kdC o3 = (0, 7) → cI x5 → Im_read_L103 k166 n o2 o3 x5 m = some o → GoAt K m [(0, .ref (kB K + 52)), (2, .ref (kB K + o2)), (3, .ref (kB K + o3)), (5, mI x5)] [] 103 (4, o.1, o.2)
  | 0, o2, o3, x5, m, hm, ko2, ko3, cx5, h => by cases h
  | n + 1, o2, o3, x5, m, hm, ko2, ko3, cx5, h => w_Im_read_B103 hk hk166 (w_Im_read_L103 hk hk166 n) hm ko2 ko3 cx5 h
set_option maxRecDepth 100000 in
set_option maxHeartbeats 4000000 in
theorem w_Im_read_B193 {K : zK} (hk : zOk K kdC cX3_read 8 (some .boolean) RX3 2) {k250 : Nat → Nat → Int → zM → Option (Int × zM)} {rec : Nat → Nat → Int → Int → zM → Option (Int × zM)} {o2 : Nat} {o3 : Nat} {x5 : Int} {x6 : Int} {m : zM} {o : Int × zM} (hk250 : ∀ (o2 : Nat) (o3 : Nat) (x5 : Int) (m : zM), zG kdC m → kdC o2 = (0, 10) → kdC o3 = (0, 7) → cI x5 → k250 o2 o3 x5 m = some o → GoAt K m [(0, .ref (kB K + 52)), (2, .ref (kB K + o2)), (3, .ref (kB K + o3)), (5, mI x5)] [] 250 (4, o.1, o.2)) (hrec : ∀ (o2 : Nat) (o3 : Nat) (x5 : Int) (x6 : Int) (m : zM), zG kdC m → kdC o2 = (0, 10) → kdC o3 = (0, 7) → cI x5 → cI x6 → rec o2 o3 x5 x6 m = some o → GoAt K m [(0, .ref (kB K + 52)), (2, .ref (kB K + o2)), (3, .ref (kB K + o3)), (5, mI x5), (6, mI x6)] [] 193 (4, o.1, o.2)) (hm : zG kdC m) (ko2 : kdC o2 = (0, 10)) (ko3 : kdC o3 = (0, 7)) (cx5 : cI x5) (cx6 : cI x6) (h : Im_read_B193 k250 rec o2 o3 x5 x6 m = some o) : GoAt K m [(0, .ref (kB K + 52)), (2, .ref (kB K + o2)), (3, .ref (kB K + o3)), (5, mI x5), (6, mI x6)] [] 193 (4, o.1, o.2) := by
  unfold Im_read_B193 at h
  refine g_iload hk 4 rfl dX3_read_193 ?_
  refine g_aload_n hk 1 rfl dX3_read_195 ?_
  have g1 := zGI (i := 1) hm ko2 rfl
  refine g_get0 hk fl_X3_18 rfl (j := 1) rfl ko2 dX3_read_196 ?_
  refine g_icmp_ge hk cx6 g1 dX3_read_199 h (fun b2 h => ?_) (fun b2 h => ?_)
  · refine g_aload_n hk 0 rfl dX3_read_202 ?_
    refine g_bipush hk (v := 99) rfl dX3_read_203 ?_
    obtain ⟨r3, e4, h⟩ := zbind h
    refine g_callVi hk (st := []) mf_X3_takeByte lk_X3_96 mv_X3_takeByte kdC_52 (by decide) rfl (Nat.le_of_ble_eq_true rfl) rfl dX3_read_205 (met_Im_takeByte _ _ _ _ _ hk.wd hm (cIk rfl) e4) (fun hm c5 => ?_)
    refine g_istore hk (lv' := [(7, mI r3.1), (0, .ref (kB K + 52)), (2, .ref (kB K + o2)), (3, .ref (kB K + o3)), (5, mI x5), (6, mI x6)]) (Nat.le_of_ble_eq_true rfl) rfl dX3_read_208 ?_
    refine g_aload_n hk 3 rfl dX3_read_210 ?_
    refine g_get2 hk fl_X3_64 rfl ko3 hm (b := o3 + 5) rfl dX3_read_211 ?_
    refine g_iload hk 4 rfl dX3_read_214 ?_
    refine g_bipush hk (v := 8) rfl dX3_read_216 ?_
    refine g_imul hk dX3_read_218 ?_
    refine g_iload hk 5 rfl dX3_read_219 ?_
    refine g_iadd hk dX3_read_221 ?_
    refine g_iload hk 0 rfl dX3_read_222 ?_
    refine g_iast hk (wI_c _) c5 (kdC_s7_7 ko3) hm dX3_read_224 h (fun m6 hm h => ?_)
    refine g_aload_n hk 3 rfl dX3_read_225 ?_
    refine g_get2 hk fl_X3_67 rfl ko3 hm (b := o3 + 6) rfl dX3_read_226 ?_
    refine g_iload hk 4 rfl dX3_read_229 ?_
    refine g_bipush hk (v := 8) rfl dX3_read_231 ?_
    refine g_imul hk dX3_read_233 ?_
    refine g_iload hk 5 rfl dX3_read_234 ?_
    refine g_iadd hk dX3_read_236 ?_
    refine g_aload_n hk 1 rfl dX3_read_237 ?_
    refine g_iload hk 0 rfl dX3_read_238 ?_
    obtain ⟨r7, e8, h⟩ := zbind h
    refine g_callVi hk (st := [mI (wI ((wI (x5 * 8)) + x6)), .ref (kB K + (o3 + 6))]) mf_X3_takeByte lk_X3_96 mv_X3_takeByte kdC_52 (by decide) rfl (Nat.le_of_ble_eq_true rfl) rfl dX3_read_240 (met_Im_takeByte _ _ _ _ _ hk.wd hm c5 e8) (fun hm c9 => ?_)
    refine g_iast hk (wI_c _) c9 (kdC_s7_8 ko3) hm dX3_read_243 h (fun m10 hm h => ?_)
    refine g_iinc hk (lv' := [(6, mI (wI (x6 + 1))), (7, mI r3.1), (0, .ref (kB K + 52)), (2, .ref (kB K + o2)), (3, .ref (kB K + o3)), (5, mI x5)]) 5 rfl (Nat.le_of_ble_eq_true rfl) rfl dX3_read_244 ?_
    refine g_goto hk dX3_read_247 ?_
    refine GoAt.sub [2, 3, 4, 5, 0] rfl ?_
    exact hrec _ _ _ _ _ hm ko2 ko3 cx5 (wI_c _) h
  · refine GoAt.sub [0, 1, 2, 3] rfl ?_
    exact hk250 _ _ _ _ hm ko2 ko3 cx5 h
theorem w_Im_read_L193 {K : zK} (hk : zOk K kdC cX3_read 8 (some .boolean) RX3 2) {k250 : Nat → Nat → Int → zM → Option (Int × zM)} {o : Int × zM} (hk250 : ∀ (o2 : Nat) (o3 : Nat) (x5 : Int) (m : zM), zG kdC m → kdC o2 = (0, 10) → kdC o3 = (0, 7) → cI x5 → k250 o2 o3 x5 m = some o → GoAt K m [(0, .ref (kB K + 52)), (2, .ref (kB K + o2)), (3, .ref (kB K + o3)), (5, mI x5)] [] 250 (4, o.1, o.2)) : ∀ (n : Nat) (o2 : Nat) (o3 : Nat) (x5 : Int) (x6 : Int) (m : zM), zG kdC m → kdC o2 = (0, 10) → kdC o3 = (0, 7) → cI x5 → cI x6 → Im_read_L193 k250 n o2 o3 x5 x6 m = some o → GoAt K m [(0, .ref (kB K + 52)), (2, .ref (kB K + o2)), (3, .ref (kB K + o3)), (5, mI x5), (6, mI x6)] [] 193 (4, o.1, o.2)
  | 0, o2, o3, x5, x6, m, hm, ko2, ko3, cx5, cx6, h => by cases h
  | n + 1, o2, o3, x5, x6, m, hm, ko2, ko3, cx5, cx6, h => w_Im_read_B193 hk hk250 (w_Im_read_L193 hk hk250 n) hm ko2 ko3 cx5 cx6 h
set_option maxRecDepth 100000 in
set_option maxHeartbeats 4000000 in
theorem w_Im_read_B169 {K : zK} (hk : zOk K kdC cX3_read 8 (some .boolean) RX3 2) {rec : Nat → Nat → Int → zM → Option (Int × zM)} {o2 : Nat} {o3 : Nat} {x5 : Int} {m : zM} {o : Int × zM} (hrec : ∀ (o2 : Nat) (o3 : Nat) (x5 : Int) (m : zM), zG kdC m → kdC o2 = (0, 10) → kdC o3 = (0, 7) → cI x5 → rec o2 o3 x5 m = some o → GoAt K m [(0, .ref (kB K + 52)), (2, .ref (kB K + o2)), (3, .ref (kB K + o3)), (5, mI x5)] [] 169 (4, o.1, o.2)) (hm : zG kdC m) (ko2 : kdC o2 = (0, 10)) (ko3 : kdC o3 = (0, 7)) (cx5 : cI x5) (h : Im_read_B169 rec o2 o3 x5 m = some o) : GoAt K m [(0, .ref (kB K + 52)), (2, .ref (kB K + o2)), (3, .ref (kB K + o3)), (5, mI x5)] [] 169 (4, o.1, o.2) := by
  unfold Im_read_B169 at h
  refine g_iload hk 3 rfl dX3_read_169 ?_
  refine g_aload_n hk 1 rfl dX3_read_171 ?_
  have g1 := zGI (i := 0) hm ko2 rfl
  refine g_get0 hk fl_X3_24 rfl (j := 0) rfl ko2 dX3_read_172 ?_
  refine g_icmp_ge hk cx5 g1 dX3_read_175 h (fun b2 h => ?_) (fun b2 h => ?_)
  · refine g_aload_n hk 0 rfl dX3_read_178 ?_
    refine g_aload_n hk 2 rfl dX3_read_179 ?_
    refine g_get2 hk fl_X3_61 rfl ko3 hm (b := o3 + 4) rfl dX3_read_180 ?_
    refine g_iload hk 3 rfl dX3_read_183 ?_
    refine g_iconst hk (v := 3) rfl dX3_read_185 ?_
    refine g_imul hk dX3_read_186 ?_
    obtain ⟨r3, e4, h⟩ := zbind h
    refine g_callVv hk (st := []) mf_X3_takeTriple lk_X3_99 mv_X3_takeTriple kdC_52 (by decide) rfl (Nat.le_of_ble_eq_true rfl) rfl dX3_read_187 (met_Im_takeTriple _ _ _ _ _ hk.wd hm (kdC_s7_6 ko3) (wI_c _) e4) (fun hm => ?_)
    refine g_iconst hk (v := 0) rfl dX3_read_190 ?_
    refine g_istore hk (lv' := [(6, mI 0), (0, .ref (kB K + 52)), (2, .ref (kB K + o2)), (3, .ref (kB K + o3)), (5, mI x5)]) (Nat.le_of_ble_eq_true rfl) rfl dX3_read_191 ?_
    refine GoAt.sub [1, 2, 3, 4, 0] rfl ?_
    refine w_Im_read_L193 hk (fun o2_6 o3_6 x5_6 m7 hm ko2_6 ko3_6 cx5_6 h => ?_) 1000000 _ _ _ _ _ hm ko2 ko3 cx5 (cIk rfl) h
    · refine g_iinc hk (lv' := [(5, mI (wI (x5_6 + 1))), (0, .ref (kB K + 52)), (2, .ref (kB K + o2_6)), (3, .ref (kB K + o3_6))]) 3 rfl (Nat.le_of_ble_eq_true rfl) rfl dX3_read_250 ?_
      refine g_goto hk dX3_read_253 ?_
      refine GoAt.sub [1, 2, 3, 0] rfl ?_
      exact hrec _ _ _ _ hm ko2_6 ko3_6 (wI_c _) h
  · refine g_aload_n hk 0 rfl dX3_read_256 ?_
    have g8 := zGZ (i := 4) hm kdC_52 rfl
    refine g_get4 hk fl_X3_85 rfl (j := 4) rfl kdC_52 dX3_read_257 ?_
    exact g_zreturn hk g8 dX3_read_260 (by cases h; rfl)
theorem w_Im_read_L169 {K : zK} (hk : zOk K kdC cX3_read 8 (some .boolean) RX3 2)  {o : Int × zM}  : ∀ (n : Nat) (o2 : Nat) (o3 : Nat) (x5 : Int) (m : zM), zG kdC m → kdC o2 = (0, 10) → kdC o3 = (0, 7) → cI x5 → Im_read_L169 n o2 o3 x5 m = some o → GoAt K m [(0, .ref (kB K + 52)), (2, .ref (kB K + o2)), (3, .ref (kB K + o3)), (5, mI x5)] [] 169 (4, o.1, o.2)
  | 0, o2, o3, x5, m, hm, ko2, ko3, cx5, h => by cases h
  | n + 1, o2, o3, x5, m, hm, ko2, ko3, cx5, h => w_Im_read_B169 hk  (w_Im_read_L169 hk  n) hm ko2 ko3 cx5 h
set_option maxRecDepth 100000 in
set_option maxHeartbeats 4000000 in
theorem w_Im_read {K : zK} (hk : zOk K kdC cX3_read 8 (some .boolean) RX3 2)  {o2 : Nat} {o3 : Nat} {m : zM} {o : Int × zM}  (hm : zG kdC m) (ko2 : kdC o2 = (0, 10)) (ko3 : kdC o3 = (0, 7)) (h : Im_read o2 o3 m = some o) : GoAt K m [(0, .ref (kB K + 52)), (1, .ref (kB K + 2)), (2, .ref (kB K + o2)), (3, .ref (kB K + o3))] [] 0 (4, o.1, o.2) := by
  unfold Im_read at h
  refine g_aload_n hk 2 rfl dX3_read_0 ?_
  obtain ⟨r1, e2, h⟩ := zbind h
  refine g_callSi hk (st := []) mf_X3_sizeFor lk_X3_74 ms_X3_sizeFor (by decide) rfl (Nat.le_of_ble_eq_true rfl) rfl dX3_read_1 (met_Im_sizeFor _ _ _ _ _ hk.wd hm ko2 e2) (fun hm c3 => ?_)
  refine g_istore hk (lv' := [(4, mI r1), (0, .ref (kB K + 52)), (1, .ref (kB K + 2)), (2, .ref (kB K + o2)), (3, .ref (kB K + o3))]) (Nat.le_of_ble_eq_true rfl) rfl dX3_read_4 ?_
  refine g_aload_n hk 2 rfl dX3_read_6 ?_
  have g4 := zGI (i := 1) hm kdC_2 rfl
  refine g_get0 hk fl_X3_78 rfl (j := 1) rfl kdC_2 dX3_read_7 ?_
  refine g_iload hk 0 rfl dX3_read_10 ?_
  refine g_icmp_ne hk g4 c3 dX3_read_12 h (fun b5 h => ?_) (fun b5 h => ?_)
  · refine g_iload hk 0 rfl dX3_read_15 ?_
    refine g_iconst hk (v := 1) rfl dX3_read_17 ?_
    refine g_icmp_lt hk c3 (cIk rfl) dX3_read_18 h (fun b6 h => ?_) (fun b6 h => ?_)
    · refine g_iconst hk (v := 0) rfl dX3_read_44 ?_
      exact g_zreturn hk z0 dX3_read_45 (by cases h; rfl)
    · refine g_aload_n hk 2 rfl dX3_read_21 ?_
      refine g_get2 hk fl_X3_81 rfl kdC_2 hm (b := 3) rfl dX3_read_22 ?_
      refine g_iload hk 0 rfl dX3_read_25 ?_
      refine g_iconst hk (v := 1) rfl dX3_read_27 ?_
      refine g_isub hk dX3_read_28 ?_
      obtain ⟨r7, e8, h⟩ := zbind h
      refine g_callSi hk (st := []) mf_X3_check lk_X3_70 ms_X3_check (by decide) rfl (Nat.le_of_ble_eq_true rfl) rfl dX3_read_29 (met_Im_check _ _ _ _ _ hk.wd hm kdC_3 (wI_c _) e8) (fun hm c9 => ?_)
      refine g_aload_n hk 2 rfl dX3_read_32 ?_
      refine g_get2 hk fl_X3_81 rfl kdC_2 hm (b := 3) rfl dX3_read_33 ?_
      refine g_iload hk 0 rfl dX3_read_36 ?_
      refine g_iconst hk (v := 1) rfl dX3_read_38 ?_
      refine g_isub hk dX3_read_39 ?_
      refine g_iald hk (wI_c _) kdC_3 hm dX3_read_40 h (fun y10 cy10 h => ?_)
      refine g_icmp_eq hk c9 cy10 dX3_read_41 h (fun b11 h => ?_) (fun b11 h => ?_)
      · refine g_aload_n hk 1 rfl dX3_read_46 ?_
        refine g_aload_n hk 2 rfl dX3_read_47 ?_
        refine g_get2 hk fl_X3_81 rfl kdC_2 hm (b := 3) rfl dX3_read_48 ?_
        refine g_put3 hk fp_X3_15 ⟨rfl, rfl⟩ rfl (j := 2) rfl kdC_52 (ida_lt kdC_3) dX3_read_51 h hm (fun m12 hm h => ?_)
        refine g_aload_n hk 1 rfl dX3_read_54 ?_
        refine g_iconst hk (v := 0) rfl dX3_read_55 ?_
        refine g_put0 hk fp_X3_82 rfl (j := 3) rfl kdC_52 (cIk rfl) dX3_read_56 h hm (fun m13 hm h => ?_)
        refine g_aload_n hk 1 rfl dX3_read_59 ?_
        refine g_iconst hk (v := 1) rfl dX3_read_60 ?_
        refine g_put4 hk fp_X3_85 rfl (j := 4) rfl kdC_52 z1 dX3_read_61 h hm (fun m14 hm h => ?_)
        refine g_aload_n hk 4 rfl dX3_read_64 ?_
        obtain ⟨r15, e16, h⟩ := zbind h
        refine g_callVv hk (st := []) mf_X7_forgetRows lk_X3_89 mv_X7_forgetRows ko3 (by decide) rfl (Nat.le_of_ble_eq_true rfl) rfl dX3_read_65 (met_St_forgetRows _ _ _ _ _ hk.wd hm ko3 e16) (fun hm => ?_)
        refine g_aload_n hk 4 rfl dX3_read_68 ?_
        refine g_aload_n hk 1 rfl dX3_read_69 ?_
        refine g_sipush hk (v := 999) rfl dX3_read_70 ?_
        obtain ⟨r18, e19, h⟩ := zbind h
        refine g_callVi hk (st := [.ref (kB K + o3)]) mf_X3_takePair lk_X3_92 mv_X3_takePair kdC_52 (by decide) rfl (Nat.le_of_ble_eq_true rfl) rfl dX3_read_73 (met_Im_takePair _ _ _ _ _ hk.wd hm (cIk rfl) e19) (fun hm c20 => ?_)
        refine g_put0 hk fp_X3_30 rfl (j := 0) rfl ko3 c20 dX3_read_76 h hm (fun m21 hm h => ?_)
        refine g_aload_n hk 4 rfl dX3_read_79 ?_
        refine g_aload_n hk 1 rfl dX3_read_80 ?_
        refine g_bipush hk (v := 23) rfl dX3_read_81 ?_
        obtain ⟨r22, e23, h⟩ := zbind h
        refine g_callVi hk (st := [.ref (kB K + o3)]) mf_X3_takeByte lk_X3_96 mv_X3_takeByte kdC_52 (by decide) rfl (Nat.le_of_ble_eq_true rfl) rfl dX3_read_83 (met_Im_takeByte _ _ _ _ _ hk.wd hm (cIk rfl) e23) (fun hm c24 => ?_)
        refine g_put0 hk fp_X3_39 rfl (j := 1) rfl ko3 c24 dX3_read_86 h hm (fun m25 hm h => ?_)
        refine g_aload_n hk 4 rfl dX3_read_89 ?_
        refine g_aload_n hk 1 rfl dX3_read_90 ?_
        refine g_sipush hk (v := 9999) rfl dX3_read_91 ?_
        obtain ⟨r26, e27, h⟩ := zbind h
        refine g_callVi hk (st := [.ref (kB K + o3)]) mf_X3_takePair lk_X3_92 mv_X3_takePair kdC_52 (by decide) rfl (Nat.le_of_ble_eq_true rfl) rfl dX3_read_94 (met_Im_takePair _ _ _ _ _ hk.wd hm (cIk rfl) e27) (fun hm c28 => ?_)
        refine g_put0 hk fp_X3_45 rfl (j := 2) rfl ko3 c28 dX3_read_97 h hm (fun m29 hm h => ?_)
        refine g_iconst hk (v := 0) rfl dX3_read_100 ?_
        refine g_istore hk (lv' := [(5, mI 0), (4, mI r1), (0, .ref (kB K + 52)), (1, .ref (kB K + 2)), (2, .ref (kB K + o2)), (3, .ref (kB K + o3))]) (Nat.le_of_ble_eq_true rfl) rfl dX3_read_101 ?_
        refine GoAt.sub [2, 4, 5, 0] rfl ?_
        refine w_Im_read_L103 hk (fun o2_30 o3_30 m31 hm ko2_30 ko3_30 h => ?_) 1000000 _ _ _ _ hm ko2 ko3 (cIk rfl) h
        · refine g_iconst hk (v := 0) rfl dX3_read_166 ?_
          refine g_istore hk (lv' := [(5, mI 0), (0, .ref (kB K + 52)), (2, .ref (kB K + o2_30)), (3, .ref (kB K + o3_30))]) (Nat.le_of_ble_eq_true rfl) rfl dX3_read_167 ?_
          refine GoAt.sub [1, 2, 3, 0] rfl ?_
          refine w_Im_read_L169 hk  1000000 _ _ _ _ hm ko2_30 ko3_30 (cIk rfl) h
      · refine g_iconst hk (v := 0) rfl dX3_read_44 ?_
        exact g_zreturn hk z0 dX3_read_45 (by cases h; rfl)
  · refine g_iconst hk (v := 0) rfl dX3_read_44 ?_
    exact g_zreturn hk z0 dX3_read_45 (by cases h; rfl)
theorem met_Im_read (l : Launch) (D : va_G) (aC : Nat → ClassId) (B N : Nat) (hwd : ∀ id, (kdC id).1 ≠ 9 → id < N) {o2 : Nat} {o3 : Nat} {m : zM} {o : Int × zM} (hm : zG kdC m) (ko2 : kdC o2 = (0, 10)) (ko3 : kdC o3 = (0, 7)) (h : Im_read o2 o3 m = some o) : zMet l yX3_read cX3_read 8 (some .boolean) 2 D aC B kdC N [.ref (B + 52), .ref (B + 2), .ref (B + o2), .ref (B + o3)] m (4, o.1, o.2) := by
  refine zMet.of mf_X3_read hwd hm (Nat.le_of_ble_eq_true rfl) (fun K e1 e2 e3 e4 e5 hk => ?_)
  subst e4
  exact w_Im_read hk hm ko2 ko3 h
set_option maxRecDepth 100000 in
set_option maxHeartbeats 4000000 in
theorem w_C_on {K : zK} (hk : zOk K kdC cX11_on 2 (some .boolean) RX11 3)  {m : zM} {o : Int × zM}  (hm : zG kdC m)  (h : C_on m = some o) : GoAt K m [(0, .ref (kB K + 0))] [] 0 (4, o.1, o.2) := by
  unfold C_on at h
  refine g_aload_n hk 0 rfl dX11_on_0 ?_
  refine g_get2 hk fl_X11_73 rfl kdC_0 hm (b := 52) rfl dX11_on_1 ?_
  refine g_aload_n hk 0 rfl dX11_on_4 ?_
  refine g_get2 hk fl_X11_20 rfl kdC_0 hm (b := 2) rfl dX11_on_5 ?_
  refine g_aload_n hk 0 rfl dX11_on_8 ?_
  refine g_get3o hk fl_X11_84 rfl (j := 12) rfl kdC_0 dX11_on_9 h (fun zz1 kzz1 h => ?_)
  refine g_aload_n hk 0 rfl dX11_on_12 ?_
  refine g_get2 hk fl_X11_28 rfl kdC_0 hm (b := 16) rfl dX11_on_13 ?_
  obtain ⟨r2, e3, h⟩ := zbind h
  refine g_callVz hk (st := []) mf_X3_read lk_X11_361 mv_X3_read kdC_52 (by decide) rfl (Nat.le_of_ble_eq_true rfl) rfl dX11_on_16 (met_Im_read _ _ _ _ _ hk.wd hm kzz1 kdC_16 e3) (fun hm c4 => ?_)
  refine g_istore_n hk rfl (lv' := [(1, mI r2.1), (0, .ref (kB K + 0))]) (Nat.le_of_ble_eq_true rfl) rfl dX11_on_19 ?_
  refine g_aload_n hk 1 rfl dX11_on_20 ?_
  refine g_get2 hk fl_X11_20 rfl kdC_0 hm (b := 2) rfl dX11_on_21 ?_
  refine g_iconst hk (v := 0) rfl dX11_on_24 ?_
  refine g_put0 hk fp_X11_95 rfl (j := 1) rfl kdC_2 (cIk rfl) dX11_on_25 h hm (fun m5 hm h => ?_)
  refine g_iload_n hk 0 rfl dX11_on_28 ?_
  refine g_if_ne hk (b01 c4) dX11_on_29 h (fun b6 h => ?_) (fun b6 h => ?_)
  · refine g_aload_n hk 1 rfl dX11_on_32 ?_
    refine g_iconst hk (v := 5) rfl dX11_on_33 ?_
    obtain ⟨r7, e8, h⟩ := zbind h
    refine g_callVi hk (st := []) mf_X11_refuse lk_X11_100 mv_X11_refuse kdC_0 (by decide) rfl (Nat.le_of_ble_eq_true rfl) rfl dX11_on_34 (met_C_refuse _ _ _ _ _ hk.wd hm (cIk rfl) e8) (fun hm c9 => ?_)
    refine g_pop hk rfl dX11_on_37 ?_
    refine g_iconst hk (v := 0) rfl dX11_on_38 ?_
    exact g_zreturn hk z0 dX11_on_39 (by cases h; rfl)
  · refine g_aload_n hk 1 rfl dX11_on_40 ?_
    refine g_get2 hk fl_X11_24 rfl kdC_0 hm (b := 8) rfl dX11_on_41 ?_
    refine g_aload_n hk 1 rfl dX11_on_44 ?_
    refine g_get2 hk fl_X11_28 rfl kdC_0 hm (b := 16) rfl dX11_on_45 ?_
    obtain ⟨r10, e11, h⟩ := zbind h
    refine g_callVv hk (st := []) mf_X7_copyFrom lk_X11_226 mv_X7_copyFrom kdC_8 (by decide) rfl (Nat.le_of_ble_eq_true rfl) rfl dX11_on_48 (met_St_copyFrom _ _ _ _ _ hk.wd hm kdC_8 kdC_16 e11) (fun hm => ?_)
    refine g_aload_n hk 1 rfl dX11_on_51 ?_
    refine g_iconst hk (v := 0) rfl dX11_on_52 ?_
    refine g_put0 hk fp_X11_119 rfl (j := 15) rfl kdC_0 (cIk rfl) dX11_on_53 h hm (fun m13 hm h => ?_)
    refine g_iconst hk (v := 1) rfl dX11_on_56 ?_
    exact g_zreturn hk z1 dX11_on_57 (by cases h; rfl)
theorem met_C_on (l : Launch) (D : va_G) (aC : Nat → ClassId) (B N : Nat) (hwd : ∀ id, (kdC id).1 ≠ 9 → id < N) {m : zM} {o : Int × zM} (hm : zG kdC m)  (h : C_on m = some o) : zMet l yX11_on cX11_on 2 (some .boolean) 3 D aC B kdC N [.ref (B + 0)] m (4, o.1, o.2) := by
  refine zMet.of mf_X11_on hwd hm (Nat.le_of_ble_eq_true rfl) (fun K e1 e2 e3 e4 e5 hk => ?_)
  subst e4
  exact w_C_on hk hm  h
set_option maxRecDepth 100000 in
set_option maxHeartbeats 4000000 in
theorem w_C_status {K : zK} (hk : zOk K kdC cX11_status 2 (some .int) RX11 0)  {x1 : Int} {m : zM} {o : Int}  (hm : zG kdC m) (cx1 : cI x1) (h : C_status x1 m = some o) : GoAt K m [(0, .ref (kB K + 0)), (1, mI x1)] [] 0 (0, o, m) := by
  unfold C_status at h
  refine g_iload_n hk 1 rfl dX11_status_0 ?_
  refine g_if_lt hk cx1 dX11_status_1 h (fun b1 h => ?_) (fun b1 h => ?_)
  · refine g_iconst hk (v := (-1)) rfl dX11_status_22 ?_
    exact g_ireturn hk (cIk rfl) dX11_status_23 (by cases h; rfl)
  · refine g_iload_n hk 1 rfl dX11_status_4 ?_
    refine g_aload_n hk 0 rfl dX11_status_5 ?_
    refine g_get2 hk fl_X11_77 rfl kdC_0 hm (b := 54) rfl dX11_status_6 ?_
    refine g_alen hk (v := 6) kdC_54 rfl dX11_status_9 ?_
    refine g_icmp_ge hk cx1 (cIk rfl) dX11_status_10 h (fun b2 h => ?_) (fun b2 h => ?_)
    · refine g_aload_n hk 0 rfl dX11_status_13 ?_
      refine g_get2 hk fl_X11_77 rfl kdC_0 hm (b := 54) rfl dX11_status_14 ?_
      refine g_iload_n hk 1 rfl dX11_status_17 ?_
      refine g_iald hk cx1 kdC_54 hm dX11_status_18 h (fun y3 cy3 h => ?_)
      refine g_goto hk dX11_status_19 ?_
      exact g_ireturn hk cy3 dX11_status_23 (by cases h; rfl)
    · refine g_iconst hk (v := (-1)) rfl dX11_status_22 ?_
      exact g_ireturn hk (cIk rfl) dX11_status_23 (by cases h; rfl)
theorem met_C_status (l : Launch) (D : va_G) (aC : Nat → ClassId) (B N : Nat) (hwd : ∀ id, (kdC id).1 ≠ 9 → id < N) {x1 : Int} {m : zM} {o : Int} (hm : zG kdC m) (cx1 : cI x1) (h : C_status x1 m = some o) : zMet l yX11_status cX11_status 2 (some .int) 0 D aC B kdC N [.ref (B + 0), mI x1] m (0, o, m) := by
  refine zMet.of mf_X11_status hwd hm (Nat.le_of_ble_eq_true rfl) (fun K e1 e2 e3 e4 e5 hk => ?_)
  subst e4
  exact w_C_status hk hm cx1 h
