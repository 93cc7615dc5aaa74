set_option maxRecDepth 100000 in
set_option maxHeartbeats 4000000 in
theorem w_M_is {K : zK} (hk : zOk K kdM cX12_is 3 (some .boolean) RX12 0)  {x0 : Int} {x1 : Int} {x2 : Int} {m : zM} {o : Int}  (hm : zG kdM m) (cx0 : cI x0) (cx1 : cI x1) (cx2 : cI x2) (h : M_is x0 x1 x2 = some o) : GoAt K m [(0, mI x0), (1, mI x1), (2, mI x2)] [] 0 (4, o, m) := by
  unfold M_is at h
  refine g_iload_n hk 0 rfl dX12_is_0 ?_
  refine g_iload_n hk 1 rfl dX12_is_1 ?_
  refine g_icmp_lt hk cx0 cx1 dX12_is_2 h (fun b1 h => ?_) (fun b1 h => ?_)
  · refine g_iconst hk (v := 0) rfl dX12_is_14 ?_
    exact g_zreturn hk z0 dX12_is_15 (by cases h; rfl)
  · refine g_iload_n hk 0 rfl dX12_is_5 ?_
    refine g_iload_n hk 2 rfl dX12_is_6 ?_
    refine g_icmp_gt hk cx0 cx2 dX12_is_7 h (fun b2 h => ?_) (fun b2 h => ?_)
    · refine g_iconst hk (v := 0) rfl dX12_is_14 ?_
      exact g_zreturn hk z0 dX12_is_15 (by cases h; rfl)
    · refine g_iconst hk (v := 1) rfl dX12_is_10 ?_
      refine g_goto hk dX12_is_11 ?_
      exact g_zreturn hk z1 dX12_is_15 (by cases h; rfl)
theorem met_M_is (l : Launch) (D : va_G) (aC : Nat → ClassId) (B N : Nat) (hwd : ∀ id, (kdM id).1 ≠ 9 → id < N) {x0 : Int} {x1 : Int} {x2 : Int} {m : zM} {o : Int} (hm : zG kdM m) (cx0 : cI x0) (cx1 : cI x1) (cx2 : cI x2) (h : M_is x0 x1 x2 = some o) : zMet l yX12_is cX12_is 3 (some .boolean) 0 D aC B kdM N [mI x0, mI x1, mI x2] m (4, o, m) := by
  refine zMet.of mf_X12_is hwd hm (Nat.le_of_ble_eq_true rfl) (fun K e1 e2 e3 e4 e5 hk => ?_)
  subst e4
  exact w_M_is hk hm cx0 cx1 cx2 h
set_option maxRecDepth 100000 in
set_option maxHeartbeats 4000000 in
theorem w_M_put_B3 {K : zK} (hk : zOk K kdM cX12_put 3 none RX12 0) {rec : Int → Int → zM → Option (zM)} {x1 : Int} {x2 : Int} {m : zM} {o : zM} (hrec : ∀ (x1 : Int) (x2 : Int) (m : zM), zG kdM m → cI x1 → cI x2 → rec x1 x2 m = some o → GoAt K m [(0, .ref (kB K + 0)), (1, mI x1), (2, mI x2)] [] 3 (9, 0, o)) (hm : zG kdM m) (cx1 : cI x1) (cx2 : cI x2) (h : M_put_B3 rec x1 x2 m = some o) : GoAt K m [(0, .ref (kB K + 0)), (1, mI x1), (2, mI x2)] [] 3 (9, 0, o) := by
  unfold M_put_B3 at h
  refine g_iload_n hk 2 rfl dX12_put_3 ?_
  refine g_if_lt hk cx2 dX12_put_4 h (fun b1 h => ?_) (fun b1 h => ?_)
  · exact g_return hk dX12_put_39 (by cases h; rfl)
  · refine g_aload_n hk 0 rfl dX12_put_7 ?_
    refine g_get2 hk fl_X12_7 rfl kdM_0 hm (b := 1) rfl dX12_put_8 ?_
    refine g_aload_n hk 0 rfl dX12_put_11 ?_
    have g2 := zGI (i := 1) hm kdM_0 rfl
    refine g_get0 hk fl_X12_13 rfl (j := 1) rfl kdM_0 dX12_put_12 ?_
    refine g_iload_n hk 1 rfl dX12_put_15 ?_
    refine g_iload_n hk 2 rfl dX12_put_16 ?_
    refine g_ishr hk dX12_put_17 ?_
    refine g_sipush hk (v := 255) rfl dX12_put_18 ?_
    refine g_iand hk dX12_put_21 ?_
    refine g_iast hk g2 (cI_t _) kdM_1 hm dX12_put_22 h (fun m3 hm h => ?_)
    refine g_aload_n hk 0 rfl dX12_put_23 ?_
    refine g_dup hk rfl dX12_put_24 ?_
    have g4 := zGI (i := 1) hm kdM_0 rfl
    refine g_get0 hk fl_X12_13 rfl (j := 1) rfl kdM_0 dX12_put_25 ?_
    refine g_iconst hk (v := 1) rfl dX12_put_28 ?_
    refine g_iadd hk dX12_put_29 ?_
    refine g_put0 hk fp_X12_13 rfl (j := 1) rfl kdM_0 (wI_c _) dX12_put_30 h hm (fun m5 hm h => ?_)
    refine g_iinc hk (lv' := [(2, mI (wI (x2 + (-8)))), (0, .ref (kB K + 0)), (1, mI x1)]) 2 rfl (Nat.le_of_ble_eq_true rfl) rfl dX12_put_33 ?_
    refine g_goto hk dX12_put_36 ?_
    refine GoAt.sub [1, 2, 0] rfl ?_
    exact hrec _ _ _ hm cx1 (wI_c _) h
theorem w_M_put_L3 {K : zK} (hk : zOk K kdM cX12_put 3 none RX12 0)  {o : zM}  : ∀ (n : Nat) (x1 : Int) (x2 : Int) (m : zM), zG kdM m → cI x1 → cI x2 → M_put_L3 n x1 x2 m = some o → GoAt K m [(0, .ref (kB K + 0)), (1, mI x1), (2, mI x2)] [] 3 (9, 0, o)
  | 0, x1, x2, m, hm, cx1, cx2, h => by cases h
  | n + 1, x1, x2, m, hm, cx1, cx2, h => w_M_put_B3 hk  (w_M_put_L3 hk  n) hm cx1 cx2 h
set_option maxRecDepth 100000 in
set_option maxHeartbeats 4000000 in
theorem w_M_put {K : zK} (hk : zOk K kdM cX12_put 3 none RX12 0)  {x1 : Int} {m : zM} {o : zM}  (hm : zG kdM m) (cx1 : cI x1) (h : M_put x1 m = some o) : GoAt K m [(0, .ref (kB K + 0)), (1, mI x1)] [] 0 (9, 0, o) := by
  unfold M_put at h
  refine g_bipush hk (v := 24) rfl dX12_put_0 ?_
  refine g_istore_n hk rfl (lv' := [(2, mI 24), (0, .ref (kB K + 0)), (1, mI x1)]) (Nat.le_of_ble_eq_true rfl) rfl dX12_put_2 ?_
  refine GoAt.sub [1, 2, 0] rfl ?_
  refine w_M_put_L3 hk  1000000 _ _ _ hm cx1 (cIk rfl) h
theorem met_M_put (l : Launch) (D : va_G) (aC : Nat → ClassId) (B N : Nat) (hwd : ∀ id, (kdM id).1 ≠ 9 → id < N) {x1 : Int} {m : zM} {o : zM} (hm : zG kdM m) (cx1 : cI x1) (h : M_put x1 m = some o) : zMet l yX12_put cX12_put 3 none 0 D aC B kdM N [.ref (B + 0), mI x1] m (9, 0, o) := by
  refine zMet.of mf_X12_put hwd hm (Nat.le_of_ble_eq_true rfl) (fun K e1 e2 e3 e4 e5 hk => ?_)
  subst e4
  exact w_M_put hk hm cx1 h
set_option maxRecDepth 100000 in
set_option maxHeartbeats 4000000 in
theorem w_M_refuses {K : zK} (hk : zOk K kdM cX12_refuses 2 (some .int) RX12 0)  {x1 : Int} {m : zM} {o : Int × zM}  (hm : zG kdM m) (cx1 : cI x1) (h : M_refuses x1 m = some o) : GoAt K m [(0, .ref (kB K + 0)), (1, mI x1)] [] 0 (0, o.1, o.2) := by
  unfold M_refuses at h
  refine g_aload_n hk 0 rfl dX12_refuses_0 ?_
  refine g_get2 hk fl_X12_150 rfl kdM_0 hm (b := 26) rfl dX12_refuses_1 ?_
  refine g_iload_n hk 1 rfl dX12_refuses_4 ?_
  refine g_dup2 hk rfl rfl dX12_refuses_5 ?_
  refine g_iald hk cx1 kdM_26 hm dX12_refuses_6 h (fun y1 cy1 h => ?_)
  refine g_iconst hk (v := 1) rfl dX12_refuses_7 ?_
  refine g_iadd hk dX12_refuses_8 ?_
  refine g_iast hk cx1 (wI_c _) kdM_26 hm dX12_refuses_9 h (fun m2 hm h => ?_)
  refine g_iconst hk (v := (-1)) rfl dX12_refuses_10 ?_
  exact g_ireturn hk (cIk rfl) dX12_refuses_11 (by cases h; rfl)
theorem met_M_refuses (l : Launch) (D : va_G) (aC : Nat → ClassId) (B N : Nat) (hwd : ∀ id, (kdM id).1 ≠ 9 → id < N) {x1 : Int} {m : zM} {o : Int × zM} (hm : zG kdM m) (cx1 : cI x1) (h : M_refuses x1 m = some o) : zMet l yX12_refuses cX12_refuses 2 (some .int) 0 D aC B kdM N [.ref (B + 0), mI x1] m (0, o.1, o.2) := by
  refine zMet.of mf_X12_refuses hwd hm (Nat.le_of_ble_eq_true rfl) (fun K e1 e2 e3 e4 e5 hk => ?_)
  subst e4
  exact w_M_refuses hk hm cx1 h
set_option maxRecDepth 100000 in
set_option maxHeartbeats 4000000 in
theorem w_M_feed {K : zK} (hk : zOk K kdM cX12_feed 6 (some .int) RX12 1)  {x1 : Int} {x2 : Int} {x3 : Int} {x4 : Int} {x5 : Int} {m : zM} {o : Int × zM}  (hm : zG kdM m) (cx1 : cI x1) (cx2 : cI x2) (cx3 : cI x3) (cx4 : cI x4) (cx5 : cI x5) (h : M_feed x1 x2 x3 x4 x5 m = some o) : GoAt K m [(0, .ref (kB K + 0)), (1, mI x1), (2, mI x2), (3, mI x3), (4, mI x4), (5, mI x5)] [] 0 (0, o.1, o.2) := by
  unfold M_feed at h
  refine g_aload_n hk 0 rfl dX12_feed_0 ?_
  have g1 := zGI (i := 1) hm kdM_0 rfl
  refine g_get0 hk fl_X12_13 rfl (j := 1) rfl kdM_0 dX12_feed_1 ?_
  refine g_bipush hk (v := 20) rfl dX12_feed_4 ?_
  refine g_iadd hk dX12_feed_6 ?_
  refine g_sipush hk (v := 1600) rfl dX12_feed_7 ?_
  refine g_icmp_le hk (wI_c _) (cIk rfl) dX12_feed_10 h (fun b2 h => ?_) (fun b2 h => ?_)
  · refine g_aload_n hk 0 rfl dX12_feed_13 ?_
    refine g_iconst hk (v := 0) rfl dX12_feed_14 ?_
    obtain ⟨r3, e4, h⟩ := zbind h
    refine g_callVi hk (st := []) mf_X12_refuses lk_X12_250 mv_X12_refuses kdM_0 (by decide) rfl (Nat.le_of_ble_eq_true rfl) rfl dX12_feed_15 (met_M_refuses _ _ _ _ _ hk.wd hm (cIk rfl) e4) (fun hm c5 => ?_)
    exact g_ireturn hk c5 dX12_feed_18 (by cases h; rfl)
  · refine g_aload_n hk 0 rfl dX12_feed_19 ?_
    refine g_iload_n hk 1 rfl dX12_feed_20 ?_
    obtain ⟨r6, e7, h⟩ := zbind h
    refine g_callVv hk (st := []) mf_X12_put lk_X12_254 mv_X12_put kdM_0 (by decide) rfl (Nat.le_of_ble_eq_true rfl) rfl dX12_feed_21 (met_M_put _ _ _ _ _ hk.wd hm cx1 e7) (fun hm => ?_)
    refine g_aload_n hk 0 rfl dX12_feed_24 ?_
    refine g_iload_n hk 2 rfl dX12_feed_25 ?_
    obtain ⟨r9, e10, h⟩ := zbind h
    refine g_callVv hk (st := []) mf_X12_put lk_X12_254 mv_X12_put kdM_0 (by decide) rfl (Nat.le_of_ble_eq_true rfl) rfl dX12_feed_26 (met_M_put _ _ _ _ _ hk.wd hm cx2 e10) (fun hm => ?_)
    refine g_aload_n hk 0 rfl dX12_feed_29 ?_
    refine g_iload_n hk 3 rfl dX12_feed_30 ?_
    obtain ⟨r12, e13, h⟩ := zbind h
    refine g_callVv hk (st := []) mf_X12_put lk_X12_254 mv_X12_put kdM_0 (by decide) rfl (Nat.le_of_ble_eq_true rfl) rfl dX12_feed_31 (met_M_put _ _ _ _ _ hk.wd hm cx3 e13) (fun hm => ?_)
    refine g_aload_n hk 0 rfl dX12_feed_34 ?_
    refine g_iload hk 4 rfl dX12_feed_35 ?_
    obtain ⟨r15, e16, h⟩ := zbind h
    refine g_callVv hk (st := []) mf_X12_put lk_X12_254 mv_X12_put kdM_0 (by decide) rfl (Nat.le_of_ble_eq_true rfl) rfl dX12_feed_37 (met_M_put _ _ _ _ _ hk.wd hm cx4 e16) (fun hm => ?_)
    refine g_aload_n hk 0 rfl dX12_feed_40 ?_
    refine g_iload hk 5 rfl dX12_feed_41 ?_
    obtain ⟨r18, e19, h⟩ := zbind h
    refine g_callVv hk (st := []) mf_X12_put lk_X12_254 mv_X12_put kdM_0 (by decide) rfl (Nat.le_of_ble_eq_true rfl) rfl dX12_feed_43 (met_M_put _ _ _ _ _ hk.wd hm cx5 e19) (fun hm => ?_)
    refine g_aload_n hk 0 rfl dX12_feed_46 ?_
    have g21 := zGI (i := 1) hm kdM_0 rfl
    refine g_get0 hk fl_X12_13 rfl (j := 1) rfl kdM_0 dX12_feed_47 ?_
    exact g_ireturn hk g21 dX12_feed_50 (by cases h; rfl)
theorem met_M_feed (l : Launch) (D : va_G) (aC : Nat → ClassId) (B N : Nat) (hwd : ∀ id, (kdM id).1 ≠ 9 → id < N) {x1 : Int} {x2 : Int} {x3 : Int} {x4 : Int} {x5 : Int} {m : zM} {o : Int × zM} (hm : zG kdM m) (cx1 : cI x1) (cx2 : cI x2) (cx3 : cI x3) (cx4 : cI x4) (cx5 : cI x5) (h : M_feed x1 x2 x3 x4 x5 m = some o) : zMet l yX12_feed cX12_feed 6 (some .int) 1 D aC B kdM N [.ref (B + 0), mI x1, mI x2, mI x3, mI x4, mI x5] m (0, o.1, o.2) := by
  refine zMet.of mf_X12_feed hwd hm (Nat.le_of_ble_eq_true rfl) (fun K e1 e2 e3 e4 e5 hk => ?_)
  subst e4
  exact w_M_feed hk hm cx1 cx2 cx3 cx4 cx5 h
set_option maxRecDepth 100000 in
set_option maxHeartbeats 4000000 in
theorem w_M_end_b12 {K : zK} (hk : zOk K kdM cX12_end 2 (some .boolean) RX12 1)  {m : zM} {o : Int × zM}  (hm : zG kdM m)  (h : M_end_b12 m = some o) : GoAt K m [(0, .ref (kB K + 0))] [] 12 (4, o.1, o.2) := by
  unfold M_end_b12 at h
  refine g_aload_n hk 0 rfl dX12_end_12 ?_
  refine g_iconst hk (v := 0) rfl dX12_end_13 ?_
  obtain ⟨r1, e2, h⟩ := zbind h
  refine g_callVi hk (st := []) mf_X12_refuses lk_X12_250 mv_X12_refuses kdM_0 (by decide) rfl (Nat.le_of_ble_eq_true rfl) rfl dX12_end_14 (met_M_refuses _ _ _ _ _ hk.wd hm (cIk rfl) e2) (fun hm c3 => ?_)
  refine g_if_lt hk c3 dX12_end_17 h (fun b4 h => ?_) (fun b4 h => ?_)
  · refine g_iconst hk (v := 0) rfl dX12_end_24 ?_
    exact g_zreturn hk z0 dX12_end_25 (by cases h; rfl)
  · refine g_iconst hk (v := 1) rfl dX12_end_20 ?_
    refine g_goto hk dX12_end_21 ?_
    exact g_zreturn hk z1 dX12_end_25 (by cases h; rfl)
set_option maxRecDepth 100000 in
set_option maxHeartbeats 4000000 in
theorem w_M_end {K : zK} (hk : zOk K kdM cX12_end 2 (some .boolean) RX12 1)  {x1 : Int} {m : zM} {o : Int × zM}  (hm : zG kdM m) (cx1 : cI x1) (h : M_end x1 m = some o) : GoAt K m [(0, .ref (kB K + 0)), (1, mI x1)] [] 0 (4, o.1, o.2) := by
  unfold M_end at h
  refine g_iload_n hk 1 rfl dX12_end_0 ?_
  refine g_if_lt hk cx1 dX12_end_1 h (fun b1 h => ?_) (fun b1 h => ?_)
  · refine GoAt.sub [0] rfl ?_
    exact w_M_end_b12 hk hm h
  · refine g_iload_n hk 1 rfl dX12_end_4 ?_
    refine g_aload_n hk 0 rfl dX12_end_5 ?_
    have g2 := zGI (i := 1) hm kdM_0 rfl
    refine g_get0 hk fl_X12_13 rfl (j := 1) rfl kdM_0 dX12_end_6 ?_
    refine g_icmp_le hk cx1 g2 dX12_end_9 h (fun b3 h => ?_) (fun b3 h => ?_)
    · refine GoAt.sub [0] rfl ?_
      exact w_M_end_b12 hk hm h
    · refine g_aload_n hk 0 rfl dX12_end_26 ?_
      refine g_iload_n hk 1 rfl dX12_end_27 ?_
      refine g_put0 hk fp_X12_13 rfl (j := 1) rfl kdM_0 cx1 dX12_end_28 h hm (fun m4 hm h => ?_)
      refine g_iconst hk (v := 1) rfl dX12_end_31 ?_
      exact g_zreturn hk z1 dX12_end_32 (by cases h; rfl)
theorem met_M_end (l : Launch) (D : va_G) (aC : Nat → ClassId) (B N : Nat) (hwd : ∀ id, (kdM id).1 ≠ 9 → id < N) {x1 : Int} {m : zM} {o : Int × zM} (hm : zG kdM m) (cx1 : cI x1) (h : M_end x1 m = some o) : zMet l yX12_end cX12_end 2 (some .boolean) 1 D aC B kdM N [.ref (B + 0), mI x1] m (4, o.1, o.2) := by
  refine zMet.of mf_X12_end hwd hm (Nat.le_of_ble_eq_true rfl) (fun K e1 e2 e3 e4 e5 hk => ?_)
  subst e4
  exact w_M_end hk hm cx1 h
set_option maxRecDepth 100000 in
set_option maxHeartbeats 4000000 in
theorem w_M_blame {K : zK} (hk : zOk K kdM cX12_blame 3 none RX12 0)  {x1 : Int} {x2 : Int} {m : zM} {o : zM}  (hm : zG kdM m) (cx1 : cI x1) (cx2 : cI x2) (h : M_blame x1 x2 m = some o) : GoAt K m [(0, .ref (kB K + 0)), (1, mI x1), (2, mI x2)] [] 0 (9, 0, o) := by
  unfold M_blame at h
  refine g_aload_n hk 0 rfl dX12_blame_0 ?_
  have g1 := zGI (i := 8) hm kdM_0 rfl
  refine g_get0 hk fl_X12_36 rfl (j := 8) rfl kdM_0 dX12_blame_1 ?_
  refine g_if_le hk g1 dX12_blame_4 h (fun b2 h => ?_) (fun b2 h => ?_)
  · exact g_return hk dX12_blame_7 (by cases h; rfl)
  · refine g_aload_n hk 0 rfl dX12_blame_8 ?_
    refine g_iload_n hk 1 rfl dX12_blame_9 ?_
    refine g_put0 hk fp_X12_36 rfl (j := 8) rfl kdM_0 cx1 dX12_blame_10 h hm (fun m3 hm h => ?_)
    refine g_aload_n hk 0 rfl dX12_blame_13 ?_
    refine g_iload_n hk 2 rfl dX12_blame_14 ?_
    refine g_put0 hk fp_X12_39 rfl (j := 9) rfl kdM_0 cx2 dX12_blame_15 h hm (fun m4 hm h => ?_)
    exact g_return hk dX12_blame_18 (by cases h; rfl)
theorem met_M_blame (l : Launch) (D : va_G) (aC : Nat → ClassId) (B N : Nat) (hwd : ∀ id, (kdM id).1 ≠ 9 → id < N) {x1 : Int} {x2 : Int} {m : zM} {o : zM} (hm : zG kdM m) (cx1 : cI x1) (cx2 : cI x2) (h : M_blame x1 x2 m = some o) : zMet l yX12_blame cX12_blame 3 none 0 D aC B kdM N [.ref (B + 0), mI x1, mI x2] m (9, 0, o) := by
  refine zMet.of mf_X12_blame hwd hm (Nat.le_of_ble_eq_true rfl) (fun K e1 e2 e3 e4 e5 hk => ?_)
  subst e4
  exact w_M_blame hk hm cx1 cx2 h
set_option maxRecDepth 100000 in
set_option maxHeartbeats 4000000 in
theorem w_M_isLetter {K : zK} (hk : zOk K kdM cX12_isLetter 1 (some .boolean) RX12 0)  {x0 : Int} {m : zM} {o : Int}  (hm : zG kdM m) (cx0 : cI x0) (h : M_isLetter x0 = some o) : GoAt K m [(0, mI x0)] [] 0 (4, o, m) := by
  unfold M_isLetter at h
  refine g_iload_n hk 0 rfl dX12_isLetter_0 ?_
  refine g_bipush hk (v := 97) rfl dX12_isLetter_1 ?_
  refine g_icmp_lt hk cx0 (cIk rfl) dX12_isLetter_3 h (fun b1 h => ?_) (fun b1 h => ?_)
  · refine g_iconst hk (v := 0) rfl dX12_isLetter_16 ?_
    exact g_zreturn hk z0 dX12_isLetter_17 (by cases h; rfl)
  · refine g_iload_n hk 0 rfl dX12_isLetter_6 ?_
    refine g_bipush hk (v := 122) rfl dX12_isLetter_7 ?_
    refine g_icmp_gt hk cx0 (cIk rfl) dX12_isLetter_9 h (fun b2 h => ?_) (fun b2 h => ?_)
    · refine g_iconst hk (v := 0) rfl dX12_isLetter_16 ?_
      exact g_zreturn hk z0 dX12_isLetter_17 (by cases h; rfl)
    · refine g_iconst hk (v := 1) rfl dX12_isLetter_12 ?_
      refine g_goto hk dX12_isLetter_13 ?_
      exact g_zreturn hk z1 dX12_isLetter_17 (by cases h; rfl)
theorem met_M_isLetter (l : Launch) (D : va_G) (aC : Nat → ClassId) (B N : Nat) (hwd : ∀ id, (kdM id).1 ≠ 9 → id < N) {x0 : Int} {m : zM} {o : Int} (hm : zG kdM m) (cx0 : cI x0) (h : M_isLetter x0 = some o) : zMet l yX12_isLetter cX12_isLetter 1 (some .boolean) 0 D aC B kdM N [mI x0] m (4, o, m) := by
  refine zMet.of mf_X12_isLetter hwd hm (Nat.le_of_ble_eq_true rfl) (fun K e1 e2 e3 e4 e5 hk => ?_)
  subst e4
  exact w_M_isLetter hk hm cx0 h
set_option maxRecDepth 100000 in
set_option maxHeartbeats 4000000 in
theorem w_M_isDigit {K : zK} (hk : zOk K kdM cX12_isDigit 1 (some .boolean) RX12 0)  {x0 : Int} {m : zM} {o : Int}  (hm : zG kdM m) (cx0 : cI x0) (h : M_isDigit x0 = some o) : GoAt K m [(0, mI x0)] [] 0 (4, o, m) := by
  unfold M_isDigit at h
  refine g_iload_n hk 0 rfl dX12_isDigit_0 ?_
  refine g_bipush hk (v := 48) rfl dX12_isDigit_1 ?_
  refine g_icmp_lt hk cx0 (cIk rfl) dX12_isDigit_3 h (fun b1 h => ?_) (fun b1 h => ?_)
  · refine g_iconst hk (v := 0) rfl dX12_isDigit_16 ?_
    exact g_zreturn hk z0 dX12_isDigit_17 (by cases h; rfl)
  · refine g_iload_n hk 0 rfl dX12_isDigit_6 ?_
    refine g_bipush hk (v := 57) rfl dX12_isDigit_7 ?_
    refine g_icmp_gt hk cx0 (cIk rfl) dX12_isDigit_9 h (fun b2 h => ?_) (fun b2 h => ?_)
    · refine g_iconst hk (v := 0) rfl dX12_isDigit_16 ?_
      exact g_zreturn hk z0 dX12_isDigit_17 (by cases h; rfl)
    · refine g_iconst hk (v := 1) rfl dX12_isDigit_12 ?_
      refine g_goto hk dX12_isDigit_13 ?_
      exact g_zreturn hk z1 dX12_isDigit_17 (by cases h; rfl)
theorem met_M_isDigit (l : Launch) (D : va_G) (aC : Nat → ClassId) (B N : Nat) (hwd : ∀ id, (kdM id).1 ≠ 9 → id < N) {x0 : Int} {m : zM} {o : Int} (hm : zG kdM m) (cx0 : cI x0) (h : M_isDigit x0 = some o) : zMet l yX12_isDigit cX12_isDigit 1 (some .boolean) 0 D aC B kdM N [mI x0] m (4, o, m) := by
  refine zMet.of mf_X12_isDigit hwd hm (Nat.le_of_ble_eq_true rfl) (fun K e1 e2 e3 e4 e5 hk => ?_)
  subst e4
  exact w_M_isDigit hk hm cx0 h
set_option maxRecDepth 100000 in
set_option maxHeartbeats 4000000 in
theorem w_M_lex {K : zK} (hk : zOk K kdM cX12_lex 1 none RX12 1)  {m : zM} {o : zM}  (hm : zG kdM m)  (h : M_lex m = some o) : GoAt K m [(0, .ref (kB K + 0))] [] 0 (9, 0, o) := by
  unfold M_lex at h
  refine g_aload_n hk 0 rfl dX12_lex_0 ?_
  have g1 := zGI (i := 12) hm kdM_0 rfl
  refine g_get0 hk fl_X12_48 rfl (j := 12) rfl kdM_0 dX12_lex_1 ?_
  refine g_iconst hk (v := (-1)) rfl dX12_lex_4 ?_
  refine g_icmp_eq hk g1 (cIk rfl) dX12_lex_5 h (fun b2 h => ?_) (fun b2 h => ?_)
  · exact g_return hk dX12_lex_17 (by cases h; rfl)
  · refine g_aload_n hk 0 rfl dX12_lex_8 ?_
    refine g_iconst hk (v := 1) rfl dX12_lex_9 ?_
    refine g_aload_n hk 0 rfl dX12_lex_10 ?_
    have g3 := zGI (i := 12) hm kdM_0 rfl
    refine g_get0 hk fl_X12_48 rfl (j := 12) rfl kdM_0 dX12_lex_11 ?_
    obtain ⟨r4, e5, h⟩ := zbind h
    refine g_callVv hk (st := []) mf_X12_blame lk_X12_257 mv_X12_blame kdM_0 (by decide) rfl (Nat.le_of_ble_eq_true rfl) rfl dX12_lex_14 (met_M_blame _ _ _ _ _ hk.wd hm (cIk rfl) g3 e5) (fun hm => ?_)
    exact g_return hk dX12_lex_17 (by cases h; rfl)
theorem met_M_lex (l : Launch) (D : va_G) (aC : Nat → ClassId) (B N : Nat) (hwd : ∀ id, (kdM id).1 ≠ 9 → id < N) {m : zM} {o : zM} (hm : zG kdM m)  (h : M_lex m = some o) : zMet l yX12_lex cX12_lex 1 none 1 D aC B kdM N [.ref (B + 0)] m (9, 0, o) := by
  refine zMet.of mf_X12_lex hwd hm (Nat.le_of_ble_eq_true rfl) (fun K e1 e2 e3 e4 e5 hk => ?_)
  subst e4
  exact w_M_lex hk hm  h
set_option maxRecDepth 100000 in
set_option maxHeartbeats 4000000 in
theorem w_M_ahead_B5 {K : zK} (hk : zOk K kdM cX12_ahead 6 none RX12 1) {k41 : Int → zM → Option (zM)} {rec : Int → zM → Option (zM)} {x1 : Int} {m : zM} {o : zM} (hk41 : ∀ (x1 : Int) (m : zM), zG kdM m → cI x1 → k41 x1 m = some o → GoAt K m [(0, .ref (kB K + 0)), (1, mI x1)] [] 41 (9, 0, o)) (hrec : ∀ (x1 : Int) (m : zM), zG kdM m → cI x1 → rec x1 m = some o → GoAt K m [(0, .ref (kB K + 0)), (1, mI x1)] [] 5 (9, 0, o)) (hm : zG kdM m) (cx1 : cI x1) (h : M_ahead_B5 k41 rec x1 m = some o) : GoAt K m [(0, .ref (kB K + 0)), (1, mI x1)] [] 5 (9, 0, o) := by
  unfold M_ahead_B5 at h
  refine g_iload_n hk 1 rfl dX12_ahead_5 ?_
  refine g_aload_n hk 0 rfl dX12_ahead_6 ?_
  have g1 := zGI (i := 2) hm kdM_0 rfl
  refine g_get0 hk fl_X12_17 rfl (j := 2) rfl kdM_0 dX12_ahead_7 ?_
  refine g_icmp_ge hk cx1 g1 dX12_ahead_10 h (fun b2 h => ?_) (fun b2 h => ?_)
  · refine g_aload_n hk 0 rfl dX12_ahead_13 ?_
    refine g_get2 hk fl_X12_7 rfl kdM_0 hm (b := 1) rfl dX12_ahead_14 ?_
    refine g_iload_n hk 1 rfl dX12_ahead_17 ?_
    refine g_iald hk cx1 kdM_1 hm dX12_ahead_18 h (fun y3 cy3 h => ?_)
    refine g_bipush hk (v := 32) rfl dX12_ahead_19 ?_
    refine g_icmp_eq hk cy3 (cIk rfl) dX12_ahead_21 h (fun b4 h => ?_) (fun b4 h => ?_)
    · refine g_iinc hk (lv' := [(1, mI (wI (x1 + 1))), (0, .ref (kB K + 0))]) 1 rfl (Nat.le_of_ble_eq_true rfl) rfl dX12_ahead_35 ?_
      refine g_goto hk dX12_ahead_38 ?_
      refine GoAt.sub [1, 0] rfl ?_
      exact hrec _ _ hm (wI_c _) h
    · refine g_aload_n hk 0 rfl dX12_ahead_24 ?_
      refine g_get2 hk fl_X12_7 rfl kdM_0 hm (b := 1) rfl dX12_ahead_25 ?_
      refine g_iload_n hk 1 rfl dX12_ahead_28 ?_
      refine g_iald hk cx1 kdM_1 hm dX12_ahead_29 h (fun y5 cy5 h => ?_)
      refine g_bipush hk (v := 10) rfl dX12_ahead_30 ?_
      refine g_icmp_ne hk cy5 (cIk rfl) dX12_ahead_32 h (fun b6 h => ?_) (fun b6 h => ?_)
      · refine g_iinc hk (lv' := [(1, mI (wI (x1 + 1))), (0, .ref (kB K + 0))]) 1 rfl (Nat.le_of_ble_eq_true rfl) rfl dX12_ahead_35 ?_
        refine g_goto hk dX12_ahead_38 ?_
        refine GoAt.sub [1, 0] rfl ?_
        exact hrec _ _ hm (wI_c _) h
      · exact hk41 _ _ hm cx1 h
  · exact hk41 _ _ hm cx1 h
theorem w_M_ahead_L5 {K : zK} (hk : zOk K kdM cX12_ahead 6 none RX12 1) {k41 : Int → zM → Option (zM)} {o : zM} (hk41 : ∀ (x1 : Int) (m : zM), zG kdM m → cI x1 → k41 x1 m = some o → GoAt K m [(0, .ref (kB K + 0)), (1, mI x1)] [] 41 (9, 0, o)) : ∀ (n : Nat) (x1 : Int) (m : zM), zG kdM m → cI x1 → M_ahead_L5 k41 n x1 m = some o → GoAt K m [(0, .ref (kB K + 0)), (1, mI x1)] [] 5 (9, 0, o)
  | 0, x1, m, hm, cx1, h => by cases h
  | n + 1, x1, m, hm, cx1, h => w_M_ahead_B5 hk hk41 (w_M_ahead_L5 hk hk41 n) hm cx1 h
set_option maxRecDepth 100000 in
set_option maxHeartbeats 4000000 in
theorem w_M_ahead_b293 {K : zK} (hk : zOk K kdM cX12_ahead 6 none RX12 1) {rec : Int → Int → Int → Int → Int → zM → Option (zM)} {x1 : Int} {x2 : Int} {x3 : Int} {x4 : Int} {x5 : Int} {m : zM} {o : zM} (hrec : ∀ (x1 : Int) (x2 : Int) (x3 : Int) (x4 : Int) (x5 : Int) (m : zM), zG kdM m → cI x1 → zok 4 x2 → zok 4 x3 → cI x4 → cI x5 → rec x1 x2 x3 x4 x5 m = some o → GoAt K m [(0, .ref (kB K + 0)), (1, mI x1), (2, mI x2), (3, mI x3), (4, mI x4), (5, mI x5)] [] 204 (9, 0, o)) (hm : zG kdM m) (cx1 : cI x1) (zx2 : zok 4 x2) (zx3 : zok 4 x3) (cx4 : cI x4) (cx5 : cI x5) (h : M_ahead_b293 rec x1 x2 x3 x4 x5 m = some o) : GoAt K m [(0, .ref (kB K + 0)), (1, mI x1), (2, mI x2), (3, mI x3), (4, mI x4), (5, mI x5)] [] 293 (9, 0, o) := by
  unfold M_ahead_b293 at h
  refine g_iload hk 5 rfl dX12_ahead_293 ?_
  refine g_iload hk 4 rfl dX12_ahead_295 ?_
  refine g_icmp_ge hk cx5 cx4 dX12_ahead_297 h (fun b1 h => ?_) (fun b1 h => ?_)
  · refine g_iload_n hk 3 rfl dX12_ahead_300 ?_
    refine g_if_eq hk (b01 zx3) dX12_ahead_301 h (fun b2 h => ?_) (fun b2 h => ?_)
    · refine g_iinc hk (lv' := [(5, mI (wI (x5 + 1))), (0, .ref (kB K + 0)), (1, mI x1), (2, mI x2), (3, mI x3), (4, mI x4)]) 5 rfl (Nat.le_of_ble_eq_true rfl) rfl dX12_ahead_325 ?_
      refine g_iinc hk (lv' := [(1, mI (wI (x1 + 1))), (5, mI (wI (x5 + 1))), (0, .ref (kB K + 0)), (2, mI x2), (3, mI x3), (4, mI x4)]) 2 rfl (Nat.le_of_ble_eq_true rfl) rfl dX12_ahead_328 ?_
      refine g_goto hk dX12_ahead_331 ?_
      refine GoAt.sub [2, 0, 3, 4, 5, 1] rfl ?_
      exact hrec _ _ _ _ _ _ hm (wI_c _) zx2 zx3 cx4 (wI_c _) h
    · refine g_aload_n hk 0 rfl dX12_ahead_304 ?_
      refine g_bipush hk (v := 10) rfl dX12_ahead_305 ?_
      refine g_aload_n hk 0 rfl dX12_ahead_307 ?_
      have g3 := zGI (i := 6) hm kdM_0 rfl
      refine g_get0 hk fl_X12_29 rfl (j := 6) rfl kdM_0 dX12_ahead_308 ?_
      refine g_imul hk dX12_ahead_311 ?_
      refine g_aload_n hk 0 rfl dX12_ahead_312 ?_
      refine g_get2 hk fl_X12_7 rfl kdM_0 hm (b := 1) rfl dX12_ahead_313 ?_
      refine g_iload_n hk 1 rfl dX12_ahead_316 ?_
      refine g_iald hk cx1 kdM_1 hm dX12_ahead_317 h (fun y4 cy4 h => ?_)
      refine g_iadd hk dX12_ahead_318 ?_
      refine g_bipush hk (v := 48) rfl dX12_ahead_319 ?_
      refine g_isub hk dX12_ahead_321 ?_
      refine g_put0 hk fp_X12_29 rfl (j := 6) rfl kdM_0 (wI_c _) dX12_ahead_322 h hm (fun m5 hm h => ?_)
      refine g_iinc hk (lv' := [(5, mI (wI (x5 + 1))), (0, .ref (kB K + 0)), (1, mI x1), (2, mI x2), (3, mI x3), (4, mI x4)]) 5 rfl (Nat.le_of_ble_eq_true rfl) rfl dX12_ahead_325 ?_
      refine g_iinc hk (lv' := [(1, mI (wI (x1 + 1))), (5, mI (wI (x5 + 1))), (0, .ref (kB K + 0)), (2, mI x2), (3, mI x3), (4, mI x4)]) 2 rfl (Nat.le_of_ble_eq_true rfl) rfl dX12_ahead_328 ?_
      refine g_goto hk dX12_ahead_331 ?_
      refine GoAt.sub [2, 0, 3, 4, 5, 1] rfl ?_
      exact hrec _ _ _ _ _ _ hm (wI_c _) zx2 zx3 cx4 (wI_c _) h
  · refine g_iinc hk (lv' := [(5, mI (wI (x5 + 1))), (0, .ref (kB K + 0)), (1, mI x1), (2, mI x2), (3, mI x3), (4, mI x4)]) 5 rfl (Nat.le_of_ble_eq_true rfl) rfl dX12_ahead_325 ?_
    refine g_iinc hk (lv' := [(1, mI (wI (x1 + 1))), (5, mI (wI (x5 + 1))), (0, .ref (kB K + 0)), (2, mI x2), (3, mI x3), (4, mI x4)]) 2 rfl (Nat.le_of_ble_eq_true rfl) rfl dX12_ahead_328 ?_
    refine g_goto hk dX12_ahead_331 ?_
    refine GoAt.sub [2, 0, 3, 4, 5, 1] rfl ?_
    exact hrec _ _ _ _ _ _ hm (wI_c _) zx2 zx3 cx4 (wI_c _) h
set_option maxRecDepth 100000 in
set_option maxHeartbeats 4000000 in
theorem w_M_ahead_b263 {K : zK} (hk : zOk K kdM cX12_ahead 6 none RX12 1) {rec : Int → Int → Int → Int → Int → zM → Option (zM)} {x1 : Int} {x2 : Int} {x3 : Int} {x4 : Int} {x5 : Int} {m : zM} {o : zM} (hrec : ∀ (x1 : Int) (x2 : Int) (x3 : Int) (x4 : Int) (x5 : Int) (m : zM), zG kdM m → cI x1 → zok 4 x2 → zok 4 x3 → cI x4 → cI x5 → rec x1 x2 x3 x4 x5 m = some o → GoAt K m [(0, .ref (kB K + 0)), (1, mI x1), (2, mI x2), (3, mI x3), (4, mI x4), (5, mI x5)] [] 204 (9, 0, o)) (hm : zG kdM m) (cx1 : cI x1) (zx2 : zok 4 x2) (zx3 : zok 4 x3) (cx4 : cI x4) (cx5 : cI x5) (h : M_ahead_b263 rec x1 x2 x3 x4 x5 m = some o) : GoAt K m [(0, .ref (kB K + 0)), (1, mI x1), (2, mI x2), (3, mI x3), (4, mI x4), (5, mI x5)] [] 263 (9, 0, o) := by
  unfold M_ahead_b263 at h
  refine g_iload hk 5 rfl dX12_ahead_263 ?_
  refine g_iload hk 4 rfl dX12_ahead_265 ?_
  refine g_icmp_ge hk cx5 cx4 dX12_ahead_267 h (fun b1 h => ?_) (fun b1 h => ?_)
  · refine g_iload_n hk 2 rfl dX12_ahead_270 ?_
    refine g_if_eq hk (b01 zx2) dX12_ahead_271 h (fun b2 h => ?_) (fun b2 h => ?_)
    · exact w_M_ahead_b293 hk hrec hm cx1 zx2 zx3 cx4 cx5 h
    · refine g_aload_n hk 0 rfl dX12_ahead_274 ?_
      refine g_aload_n hk 0 rfl dX12_ahead_275 ?_
      have g3 := zGL (i := 7) hm kdM_0 rfl
      refine g_get1 hk fl_X12_32 rfl (j := 7) rfl kdM_0 dX12_ahead_276 ?_
      refine g_bipush hk (v := 8) rfl dX12_ahead_279 ?_
      refine g_lshl hk dX12_ahead_281 ?_
      refine g_aload_n hk 0 rfl dX12_ahead_282 ?_
      refine g_get2 hk fl_X12_7 rfl kdM_0 hm (b := 1) rfl dX12_ahead_283 ?_
      refine g_iload_n hk 1 rfl dX12_ahead_286 ?_
      refine g_iald hk cx1 kdM_1 hm dX12_ahead_287 h (fun y4 cy4 h => ?_)
      refine g_i2l hk cy4 dX12_ahead_288 ?_
      refine g_lor hk dX12_ahead_289 ?_
      refine g_put1 hk fp_X12_32 rfl (j := 7) rfl kdM_0 (cL_t _) dX12_ahead_290 h hm (fun m5 hm h => ?_)
      exact w_M_ahead_b293 hk hrec hm cx1 zx2 zx3 cx4 cx5 h
  · exact w_M_ahead_b293 hk hrec hm cx1 zx2 zx3 cx4 cx5 h
set_option maxRecDepth 100000 in
set_option maxHeartbeats 4000000 in
theorem w_M_ahead_b243 {K : zK} (hk : zOk K kdM cX12_ahead 6 none RX12 1) {rec : Int → Int → Int → Int → Int → zM → Option (zM)} {x1 : Int} {x2 : Int} {x3 : Int} {x4 : Int} {x5 : Int} {m : zM} {o : zM} (hrec : ∀ (x1 : Int) (x2 : Int) (x3 : Int) (x4 : Int) (x5 : Int) (m : zM), zG kdM m → cI x1 → zok 4 x2 → zok 4 x3 → cI x4 → cI x5 → rec x1 x2 x3 x4 x5 m = some o → GoAt K m [(0, .ref (kB K + 0)), (1, mI x1), (2, mI x2), (3, mI x3), (4, mI x4), (5, mI x5)] [] 204 (9, 0, o)) (hm : zG kdM m) (cx1 : cI x1) (zx2 : zok 4 x2) (zx3 : zok 4 x3) (cx4 : cI x4) (cx5 : cI x5) (h : M_ahead_b243 rec x1 x2 x3 x4 x5 m = some o) : GoAt K m [(0, .ref (kB K + 0)), (1, mI x1), (2, mI x2), (3, mI x3), (4, mI x4), (5, mI x5)] [] 243 (9, 0, o) := by
  unfold M_ahead_b243 at h
  refine g_iload hk 5 rfl dX12_ahead_243 ?_
  refine g_iload hk 4 rfl dX12_ahead_245 ?_
  refine g_icmp_ne hk cx5 cx4 dX12_ahead_247 h (fun b1 h => ?_) (fun b1 h => ?_)
  · refine g_aload_n hk 0 rfl dX12_ahead_250 ?_
    have g2 := zGI (i := 12) hm kdM_0 rfl
    refine g_get0 hk fl_X12_48 rfl (j := 12) rfl kdM_0 dX12_ahead_251 ?_
    refine g_iconst hk (v := (-1)) rfl dX12_ahead_254 ?_
    refine g_icmp_ne hk g2 (cIk rfl) dX12_ahead_255 h (fun b3 h => ?_) (fun b3 h => ?_)
    · refine g_aload_n hk 0 rfl dX12_ahead_258 ?_
      refine g_iload_n hk 1 rfl dX12_ahead_259 ?_
      refine g_put0 hk fp_X12_48 rfl (j := 12) rfl kdM_0 cx1 dX12_ahead_260 h hm (fun m4 hm h => ?_)
      exact w_M_ahead_b263 hk hrec hm cx1 zx2 zx3 cx4 cx5 h
    · exact w_M_ahead_b263 hk hrec hm cx1 zx2 zx3 cx4 cx5 h
  · exact w_M_ahead_b263 hk hrec hm cx1 zx2 zx3 cx4 cx5 h
set_option maxRecDepth 100000 in
set_option maxHeartbeats 4000000 in
theorem w_M_ahead_B204 {K : zK} (hk : zOk K kdM cX12_ahead 6 none RX12 1) {rec : Int → Int → Int → Int → Int → zM → Option (zM)} {x1 : Int} {x2 : Int} {x3 : Int} {x4 : Int} {x5 : Int} {m : zM} {o : zM} (hrec : ∀ (x1 : Int) (x2 : Int) (x3 : Int) (x4 : Int) (x5 : Int) (m : zM), zG kdM m → cI x1 → zok 4 x2 → zok 4 x3 → cI x4 → cI x5 → rec x1 x2 x3 x4 x5 m = some o → GoAt K m [(0, .ref (kB K + 0)), (1, mI x1), (2, mI x2), (3, mI x3), (4, mI x4), (5, mI x5)] [] 204 (9, 0, o)) (hm : zG kdM m) (cx1 : cI x1) (zx2 : zok 4 x2) (zx3 : zok 4 x3) (cx4 : cI x4) (cx5 : cI x5) (h : M_ahead_B204 rec x1 x2 x3 x4 x5 m = some o) : GoAt K m [(0, .ref (kB K + 0)), (1, mI x1), (2, mI x2), (3, mI x3), (4, mI x4), (5, mI x5)] [] 204 (9, 0, o) := by
  unfold M_ahead_B204 at h
  refine g_iload_n hk 1 rfl dX12_ahead_204 ?_
  refine g_aload_n hk 0 rfl dX12_ahead_205 ?_
  have g1 := zGI (i := 2) hm kdM_0 rfl
  refine g_get0 hk fl_X12_17 rfl (j := 2) rfl kdM_0 dX12_ahead_206 ?_
  refine g_icmp_ge hk cx1 g1 dX12_ahead_209 h (fun b2 h => ?_) (fun b2 h => ?_)
  · refine g_iload_n hk 2 rfl dX12_ahead_212 ?_
    refine g_if_eq hk (b01 zx2) dX12_ahead_213 h (fun b3 h => ?_) (fun b3 h => ?_)
    · refine g_aload_n hk 0 rfl dX12_ahead_231 ?_
      refine g_get2 hk fl_X12_7 rfl kdM_0 hm (b := 1) rfl dX12_ahead_232 ?_
      refine g_iload_n hk 1 rfl dX12_ahead_235 ?_
      refine g_iald hk cx1 kdM_1 hm dX12_ahead_236 h (fun y4 cy4 h => ?_)
      obtain ⟨r5, e6, h⟩ := zbind h
      refine g_callSz hk (st := []) mf_X12_isDigit lk_X12_265 ms_X12_isDigit (by decide) rfl (Nat.le_of_ble_eq_true rfl) rfl dX12_ahead_237 (met_M_isDigit _ _ _ _ _ hk.wd hm cy4 e6) (fun hm c7 => ?_)
      refine g_if_eq hk (b01 c7) dX12_ahead_240 h (fun b8 h => ?_) (fun b8 h => ?_)
      · refine g_aload_n hk 0 rfl dX12_ahead_334 ?_
        refine g_iload_n hk 1 rfl dX12_ahead_335 ?_
        refine g_put0 hk fp_X12_26 rfl (j := 5) rfl kdM_0 cx1 dX12_ahead_336 h hm (fun m9 hm h => ?_)
        exact g_return hk dX12_ahead_339 (by cases h; rfl)
      · exact w_M_ahead_b243 hk hrec hm cx1 zx2 zx3 cx4 cx5 h
    · refine g_aload_n hk 0 rfl dX12_ahead_216 ?_
      refine g_get2 hk fl_X12_7 rfl kdM_0 hm (b := 1) rfl dX12_ahead_217 ?_
      refine g_iload_n hk 1 rfl dX12_ahead_220 ?_
      refine g_iald hk cx1 kdM_1 hm dX12_ahead_221 h (fun y10 cy10 h => ?_)
      obtain ⟨r11, e12, h⟩ := zbind h
      refine g_callSz hk (st := []) mf_X12_isLetter lk_X12_261 ms_X12_isLetter (by decide) rfl (Nat.le_of_ble_eq_true rfl) rfl dX12_ahead_222 (met_M_isLetter _ _ _ _ _ hk.wd hm cy10 e12) (fun hm c13 => ?_)
      refine g_if_eq hk (b01 c13) dX12_ahead_225 h (fun b14 h => ?_) (fun b14 h => ?_)
      · refine g_aload_n hk 0 rfl dX12_ahead_334 ?_
        refine g_iload_n hk 1 rfl dX12_ahead_335 ?_
        refine g_put0 hk fp_X12_26 rfl (j := 5) rfl kdM_0 cx1 dX12_ahead_336 h hm (fun m15 hm h => ?_)
        exact g_return hk dX12_ahead_339 (by cases h; rfl)
      · refine g_goto hk dX12_ahead_228 ?_
        exact w_M_ahead_b243 hk hrec hm cx1 zx2 zx3 cx4 cx5 h
  · refine g_aload_n hk 0 rfl dX12_ahead_334 ?_
    refine g_iload_n hk 1 rfl dX12_ahead_335 ?_
    refine g_put0 hk fp_X12_26 rfl (j := 5) rfl kdM_0 cx1 dX12_ahead_336 h hm (fun m16 hm h => ?_)
    exact g_return hk dX12_ahead_339 (by cases h; rfl)
theorem w_M_ahead_L204 {K : zK} (hk : zOk K kdM cX12_ahead 6 none RX12 1)  {o : zM}  : ∀ (n : Nat) (x1 : Int) (x2 : Int) (x3 : Int) (x4 : Int) (x5 : Int) (m : zM), zG kdM m → cI x1 → zok 4 x2 → zok 4 x3 → cI x4 → cI x5 → M_ahead_L204 n x1 x2 x3 x4 x5 m = some o → GoAt K m [(0, .ref (kB K + 0)), (1, mI x1), (2, mI x2), (3, mI x3), (4, mI x4), (5, mI x5)] [] 204 (9, 0, o)
  | 0, x1, x2, x3, x4, x5, m, hm, cx1, zx2, zx3, cx4, cx5, h => by cases h
  | n + 1, x1, x2, x3, x4, x5, m, hm, cx1, zx2, zx3, cx4, cx5, h => w_M_ahead_B204 hk  (w_M_ahead_L204 hk  n) hm cx1 zx2 zx3 cx4 cx5 h
set_option maxRecDepth 100000 in
set_option maxHeartbeats 4000000 in
theorem w_M_ahead_b199 {K : zK} (hk : zOk K kdM cX12_ahead 6 none RX12 1)  {x1 : Int} {x2 : Int} {x3 : Int} {s0 : Int} {m : zM} {o : zM}  (hm : zG kdM m) (cx1 : cI x1) (zx2 : zok 4 x2) (zx3 : zok 4 x3) (cs0 : cI s0) (h : M_ahead_b199 x1 x2 x3 s0 m = some o) : GoAt K m [(0, .ref (kB K + 0)), (1, mI x1), (2, mI x2), (3, mI x3)] [mI s0] 199 (9, 0, o) := by
  unfold M_ahead_b199 at h
  refine g_istore hk (lv' := [(4, mI s0), (0, .ref (kB K + 0)), (1, mI x1), (2, mI x2), (3, mI x3)]) (Nat.le_of_ble_eq_true rfl) rfl dX12_ahead_199 ?_
  refine g_iconst hk (v := 0) rfl dX12_ahead_201 ?_
  refine g_istore hk (lv' := [(5, mI 0), (4, mI s0), (0, .ref (kB K + 0)), (1, mI x1), (2, mI x2), (3, mI x3)]) (Nat.le_of_ble_eq_true rfl) rfl dX12_ahead_202 ?_
  refine GoAt.sub [2, 3, 4, 5, 1, 0] rfl ?_
  refine w_M_ahead_L204 hk  1000000 _ _ _ _ _ _ hm cx1 zx2 zx3 cs0 (cIk rfl) h
set_option maxRecDepth 100000 in
set_option maxHeartbeats 4000000 in
theorem w_M_ahead_b186 {K : zK} (hk : zOk K kdM cX12_ahead 6 none RX12 1)  {x1 : Int} {x2 : Int} {x3 : Int} {s1 : Int} {m : zM} {o : zM}  (hm : zG kdM m) (cx1 : cI x1) (zx2 : zok 4 x2) (zx3 : zok 4 x3) (cs1 : cI s1) (h : M_ahead_b186 x1 x2 x3 s1 m = some o) : GoAt K m [(0, .ref (kB K + 0)), (1, mI x1), (2, mI x2), (3, mI x3)] [mI s1, .ref (kB K + 0)] 186 (9, 0, o) := by
  unfold M_ahead_b186 at h
  refine g_put0 hk fp_X12_20 rfl (j := 3) rfl kdM_0 cs1 dX12_ahead_186 h hm (fun m1 hm h => ?_)
  refine g_iload_n hk 2 rfl dX12_ahead_189 ?_
  refine g_if_eq hk (b01 zx2) dX12_ahead_190 h (fun b2 h => ?_) (fun b2 h => ?_)
  · refine g_iconst hk (v := 4) rfl dX12_ahead_198 ?_
    exact w_M_ahead_b199 hk hm cx1 zx2 zx3 (cIk rfl) h
  · refine g_bipush hk (v := 6) rfl dX12_ahead_193 ?_
    refine g_goto hk dX12_ahead_195 ?_
    exact w_M_ahead_b199 hk hm cx1 zx2 zx3 (cIk rfl) h
set_option maxRecDepth 100000 in
set_option maxHeartbeats 4000000 in
theorem w_M_ahead_b176 {K : zK} (hk : zOk K kdM cX12_ahead 6 none RX12 1)  {x1 : Int} {x2 : Int} {x3 : Int} {m : zM} {o : zM}  (hm : zG kdM m) (cx1 : cI x1) (zx2 : zok 4 x2) (zx3 : zok 4 x3) (h : M_ahead_b176 x1 x2 x3 m = some o) : GoAt K m [(0, .ref (kB K + 0)), (1, mI x1), (2, mI x2), (3, mI x3)] [] 176 (9, 0, o) := by
  unfold M_ahead_b176 at h
  refine g_aload_n hk 0 rfl dX12_ahead_176 ?_
  refine g_iload_n hk 2 rfl dX12_ahead_177 ?_
  refine g_if_eq hk (b01 zx2) dX12_ahead_178 h (fun b1 h => ?_) (fun b1 h => ?_)
  · refine g_iconst hk (v := 2) rfl dX12_ahead_185 ?_
    exact w_M_ahead_b186 hk hm cx1 zx2 zx3 (cIk rfl) h
  · refine g_iconst hk (v := 1) rfl dX12_ahead_181 ?_
    refine g_goto hk dX12_ahead_182 ?_
    exact w_M_ahead_b186 hk hm cx1 zx2 zx3 (cIk rfl) h
set_option maxRecDepth 100000 in
set_option maxHeartbeats 4000000 in
theorem w_M_ahead_b135 {K : zK} (hk : zOk K kdM cX12_ahead 6 none RX12 1)  {x1 : Int} {x2 : Int} {x3 : Int} {m : zM} {o : zM}  (hm : zG kdM m) (cx1 : cI x1) (zx2 : zok 4 x2) (zx3 : zok 4 x3) (h : M_ahead_b135 x1 x2 x3 m = some o) : GoAt K m [(0, .ref (kB K + 0)), (1, mI x1), (2, mI x2), (3, mI x3)] [] 135 (9, 0, o) := by
  unfold M_ahead_b135 at h
  refine g_aload_n hk 0 rfl dX12_ahead_135 ?_
  refine g_iconst hk (v := 0) rfl dX12_ahead_136 ?_
  refine g_put0 hk fp_X12_29 rfl (j := 6) rfl kdM_0 (cIk rfl) dX12_ahead_137 h hm (fun m1 hm h => ?_)
  refine g_aload_n hk 0 rfl dX12_ahead_140 ?_
  refine g_lconst hk (v := 0) rfl dX12_ahead_141 ?_
  refine g_put1 hk fp_X12_32 rfl (j := 7) rfl kdM_0 (cLk rfl) dX12_ahead_142 h hm (fun m2 hm h => ?_)
  refine g_aload_n hk 0 rfl dX12_ahead_145 ?_
  refine g_iconst hk (v := 3) rfl dX12_ahead_146 ?_
  refine g_put0 hk fp_X12_20 rfl (j := 3) rfl kdM_0 (cIk rfl) dX12_ahead_147 h hm (fun m3 hm h => ?_)
  refine g_aload_n hk 0 rfl dX12_ahead_150 ?_
  refine g_iload_n hk 1 rfl dX12_ahead_151 ?_
  refine g_iconst hk (v := 1) rfl dX12_ahead_152 ?_
  refine g_iadd hk dX12_ahead_153 ?_
  refine g_put0 hk fp_X12_26 rfl (j := 5) rfl kdM_0 (wI_c _) dX12_ahead_154 h hm (fun m4 hm h => ?_)
  refine g_iload_n hk 2 rfl dX12_ahead_157 ?_
  refine g_if_ne hk (b01 zx2) dX12_ahead_158 h (fun b5 h => ?_) (fun b5 h => ?_)
  · refine g_iload_n hk 3 rfl dX12_ahead_161 ?_
    refine g_if_ne hk (b01 zx3) dX12_ahead_162 h (fun b6 h => ?_) (fun b6 h => ?_)
    · refine g_aload_n hk 0 rfl dX12_ahead_165 ?_
      refine g_aload_n hk 0 rfl dX12_ahead_166 ?_
      refine g_get2 hk fl_X12_7 rfl kdM_0 hm (b := 1) rfl dX12_ahead_167 ?_
      refine g_iload_n hk 1 rfl dX12_ahead_170 ?_
      refine g_iald hk cx1 kdM_1 hm dX12_ahead_171 h (fun y7 cy7 h => ?_)
      refine g_put0 hk fp_X12_29 rfl (j := 6) rfl kdM_0 cy7 dX12_ahead_172 h hm (fun m8 hm h => ?_)
      exact g_return hk dX12_ahead_175 (by cases h; rfl)
    · exact w_M_ahead_b176 hk hm cx1 zx2 zx3 h
  · exact w_M_ahead_b176 hk hm cx1 zx2 zx3 h
set_option maxRecDepth 100000 in
set_option maxHeartbeats 4000000 in
theorem w_M_ahead_b130 {K : zK} (hk : zOk K kdM cX12_ahead 6 none RX12 1)  {x1 : Int} {x2 : Int} {x3 : Int} {m : zM} {o : zM}  (hm : zG kdM m) (cx1 : cI x1) (zx2 : zok 4 x2) (zx3 : zok 4 x3) (h : M_ahead_b130 x1 x2 x3 m = some o) : GoAt K m [(0, .ref (kB K + 0)), (1, mI x1), (2, mI x2), (3, mI x3)] [] 130 (9, 0, o) := by
  unfold M_ahead_b130 at h
  refine g_aload_n hk 0 rfl dX12_ahead_130 ?_
  refine g_iload_n hk 1 rfl dX12_ahead_131 ?_
  refine g_put0 hk fp_X12_48 rfl (j := 12) rfl kdM_0 cx1 dX12_ahead_132 h hm (fun m1 hm h => ?_)
  exact w_M_ahead_b135 hk hm cx1 zx2 zx3 h
set_option maxRecDepth 100000 in
set_option maxHeartbeats 4000000 in
theorem w_M_ahead_b98 {K : zK} (hk : zOk K kdM cX12_ahead 6 none RX12 1)  {x1 : Int} {x2 : Int} {x3 : Int} {m : zM} {o : zM}  (hm : zG kdM m) (cx1 : cI x1) (zx2 : zok 4 x2) (zx3 : zok 4 x3) (h : M_ahead_b98 x1 x2 x3 m = some o) : GoAt K m [(0, .ref (kB K + 0)), (1, mI x1), (2, mI x2), (3, mI x3)] [] 98 (9, 0, o) := by
  unfold M_ahead_b98 at h
  refine g_iload_n hk 1 rfl dX12_ahead_98 ?_
  refine g_if_le hk cx1 dX12_ahead_99 h (fun b1 h => ?_) (fun b1 h => ?_)
  · refine g_aload_n hk 0 rfl dX12_ahead_102 ?_
    refine g_get2 hk fl_X12_7 rfl kdM_0 hm (b := 1) rfl dX12_ahead_103 ?_
    refine g_iload_n hk 1 rfl dX12_ahead_106 ?_
    refine g_iconst hk (v := 1) rfl dX12_ahead_107 ?_
    refine g_isub hk dX12_ahead_108 ?_
    refine g_iald hk (wI_c _) kdM_1 hm dX12_ahead_109 h (fun y2 cy2 h => ?_)
    obtain ⟨r3, e4, h⟩ := zbind h
    refine g_callSz hk (st := []) mf_X12_isLetter lk_X12_261 ms_X12_isLetter (by decide) rfl (Nat.le_of_ble_eq_true rfl) rfl dX12_ahead_110 (met_M_isLetter _ _ _ _ _ hk.wd hm cy2 e4) (fun hm c5 => ?_)
    refine g_if_ne hk (b01 c5) dX12_ahead_113 h (fun b6 h => ?_) (fun b6 h => ?_)
    · refine g_aload_n hk 0 rfl dX12_ahead_116 ?_
      refine g_get2 hk fl_X12_7 rfl kdM_0 hm (b := 1) rfl dX12_ahead_117 ?_
      refine g_iload_n hk 1 rfl dX12_ahead_120 ?_
      refine g_iconst hk (v := 1) rfl dX12_ahead_121 ?_
      refine g_isub hk dX12_ahead_122 ?_
      refine g_iald hk (wI_c _) kdM_1 hm dX12_ahead_123 h (fun y7 cy7 h => ?_)
      obtain ⟨r8, e9, h⟩ := zbind h
      refine g_callSz hk (st := []) mf_X12_isDigit lk_X12_265 ms_X12_isDigit (by decide) rfl (Nat.le_of_ble_eq_true rfl) rfl dX12_ahead_124 (met_M_isDigit _ _ _ _ _ hk.wd hm cy7 e9) (fun hm c10 => ?_)
      refine g_if_eq hk (b01 c10) dX12_ahead_127 h (fun b11 h => ?_) (fun b11 h => ?_)
      · exact w_M_ahead_b135 hk hm cx1 zx2 zx3 h
      · exact w_M_ahead_b130 hk hm cx1 zx2 zx3 h
    · exact w_M_ahead_b130 hk hm cx1 zx2 zx3 h
  · exact w_M_ahead_b135 hk hm cx1 zx2 zx3 h
set_option maxRecDepth 100000 in
set_option maxHeartbeats 4000000 in
theorem w_M_ahead_b41 {K : zK} (hk : zOk K kdM cX12_ahead 6 none RX12 1)  {x1 : Int} {m : zM} {o : zM}  (hm : zG kdM m) (cx1 : cI x1) (h : M_ahead_b41 x1 m = some o) : GoAt K m [(0, .ref (kB K + 0)), (1, mI x1)] [] 41 (9, 0, o) := by
  unfold M_ahead_b41 at h
  refine g_aload_n hk 0 rfl dX12_ahead_41 ?_
  refine g_iload_n hk 1 rfl dX12_ahead_42 ?_
  refine g_put0 hk fp_X12_23 rfl (j := 4) rfl kdM_0 cx1 dX12_ahead_43 h hm (fun m1 hm h => ?_)
  refine g_aload_n hk 0 rfl dX12_ahead_46 ?_
  refine g_iload_n hk 1 rfl dX12_ahead_47 ?_
  refine g_put0 hk fp_X12_26 rfl (j := 5) rfl kdM_0 cx1 dX12_ahead_48 h hm (fun m2 hm h => ?_)
  refine g_aload_n hk 0 rfl dX12_ahead_51 ?_
  refine g_iconst hk (v := 0) rfl dX12_ahead_52 ?_
  refine g_put0 hk fp_X12_20 rfl (j := 3) rfl kdM_0 (cIk rfl) dX12_ahead_53 h hm (fun m3 hm h => ?_)
  refine g_aload_n hk 0 rfl dX12_ahead_56 ?_
  refine g_iconst hk (v := (-1)) rfl dX12_ahead_57 ?_
  refine g_put0 hk fp_X12_48 rfl (j := 12) rfl kdM_0 (cIk rfl) dX12_ahead_58 h hm (fun m4 hm h => ?_)
  refine g_iload_n hk 1 rfl dX12_ahead_61 ?_
  refine g_aload_n hk 0 rfl dX12_ahead_62 ?_
  have g5 := zGI (i := 2) hm kdM_0 rfl
  refine g_get0 hk fl_X12_17 rfl (j := 2) rfl kdM_0 dX12_ahead_63 ?_
  refine g_icmp_lt hk cx1 g5 dX12_ahead_66 h (fun b6 h => ?_) (fun b6 h => ?_)
  · refine g_aload_n hk 0 rfl dX12_ahead_70 ?_
    refine g_get2 hk fl_X12_7 rfl kdM_0 hm (b := 1) rfl dX12_ahead_71 ?_
    refine g_iload_n hk 1 rfl dX12_ahead_74 ?_
    refine g_iald hk cx1 kdM_1 hm dX12_ahead_75 h (fun y7 cy7 h => ?_)
    obtain ⟨r8, e9, h⟩ := zbind h
    refine g_callSz hk (st := []) mf_X12_isLetter lk_X12_261 ms_X12_isLetter (by decide) rfl (Nat.le_of_ble_eq_true rfl) rfl dX12_ahead_76 (met_M_isLetter _ _ _ _ _ hk.wd hm cy7 e9) (fun hm c10 => ?_)
    refine g_istore_n hk rfl (lv' := [(2, mI r8), (0, .ref (kB K + 0)), (1, mI x1)]) (Nat.le_of_ble_eq_true rfl) rfl dX12_ahead_79 ?_
    refine g_aload_n hk 1 rfl dX12_ahead_80 ?_
    refine g_get2 hk fl_X12_7 rfl kdM_0 hm (b := 1) rfl dX12_ahead_81 ?_
    refine g_iload_n hk 2 rfl dX12_ahead_84 ?_
    refine g_iald hk cx1 kdM_1 hm dX12_ahead_85 h (fun y11 cy11 h => ?_)
    obtain ⟨r12, e13, h⟩ := zbind h
    refine g_callSz hk (st := []) mf_X12_isDigit lk_X12_265 ms_X12_isDigit (by decide) rfl (Nat.le_of_ble_eq_true rfl) rfl dX12_ahead_86 (met_M_isDigit _ _ _ _ _ hk.wd hm cy11 e13) (fun hm c14 => ?_)
    refine g_istore_n hk rfl (lv' := [(3, mI r12), (2, mI r8), (0, .ref (kB K + 0)), (1, mI x1)]) (Nat.le_of_ble_eq_true rfl) rfl dX12_ahead_89 ?_
    refine g_iload_n hk 1 rfl dX12_ahead_90 ?_
    refine g_if_ne hk (b01 c10) dX12_ahead_91 h (fun b15 h => ?_) (fun b15 h => ?_)
    · refine g_iload_n hk 0 rfl dX12_ahead_94 ?_
      refine g_if_eq hk (b01 c14) dX12_ahead_95 h (fun b16 h => ?_) (fun b16 h => ?_)
      · refine GoAt.sub [2, 3, 1, 0] rfl ?_
        exact w_M_ahead_b135 hk hm cx1 c10 c14 h
      · refine GoAt.sub [2, 3, 1, 0] rfl ?_
        exact w_M_ahead_b98 hk hm cx1 c10 c14 h
    · refine GoAt.sub [2, 3, 1, 0] rfl ?_
      exact w_M_ahead_b98 hk hm cx1 c10 c14 h
  · exact g_return hk dX12_ahead_69 (by cases h; rfl)
set_option maxRecDepth 100000 in
set_option maxHeartbeats 4000000 in
theorem w_M_ahead {K : zK} (hk : zOk K kdM cX12_ahead 6 none RX12 1)  {m : zM} {o : zM}  (hm : zG kdM m)  (h : M_ahead m = some o) : GoAt K m [(0, .ref (kB K + 0))] [] 0 (9, 0, o) := by
  unfold M_ahead at h
  refine g_aload_n hk 0 rfl dX12_ahead_0 ?_
  have g1 := zGI (i := 5) hm kdM_0 rfl
  refine g_get0 hk fl_X12_26 rfl (j := 5) rfl kdM_0 dX12_ahead_1 ?_
  refine g_istore_n hk rfl (lv' := [(1, mI (m 0 5)), (0, .ref (kB K + 0))]) (Nat.le_of_ble_eq_true rfl) rfl dX12_ahead_4 ?_
  refine GoAt.sub [1, 0] rfl ?_
  refine w_M_ahead_L5 hk (fun x1_2 m3 hm cx1_2 h => ?_) 1000000 _ _ hm g1 h
  · exact w_M_ahead_b41 hk hm cx1_2 h
theorem met_M_ahead (l : Launch) (D : va_G) (aC : Nat → ClassId) (B N : Nat) (hwd : ∀ id, (kdM id).1 ≠ 9 → id < N) {m : zM} {o : zM} (hm : zG kdM m)  (h : M_ahead m = some o) : zMet l yX12_ahead cX12_ahead 6 none 1 D aC B kdM N [.ref (B + 0)] m (9, 0, o) := by
  refine zMet.of mf_X12_ahead hwd hm (Nat.le_of_ble_eq_true rfl) (fun K e1 e2 e3 e4 e5 hk => ?_)
  subst e4
  exact w_M_ahead hk hm  h
set_option maxRecDepth 100000 in
set_option maxHeartbeats 4000000 in
theorem w_M_isSign {K : zK} (hk : zOk K kdM cX12_isSign 2 (some .boolean) RX12 0)  {x1 : Int} {m : zM} {o : Int}  (hm : zG kdM m) (cx1 : cI x1) (h : M_isSign x1 m = some o) : GoAt K m [(0, .ref (kB K + 0)), (1, mI x1)] [] 0 (4, o, m) := by
  unfold M_isSign at h
  refine g_aload_n hk 0 rfl dX12_isSign_0 ?_
  have g1 := zGI (i := 3) hm kdM_0 rfl
  refine g_get0 hk fl_X12_20 rfl (j := 3) rfl kdM_0 dX12_isSign_1 ?_
  refine g_iconst hk (v := 3) rfl dX12_isSign_4 ?_
  refine g_icmp_ne hk g1 (cIk rfl) dX12_isSign_5 h (fun b2 h => ?_) (fun b2 h => ?_)
  · refine g_aload_n hk 0 rfl dX12_isSign_8 ?_
    have g3 := zGI (i := 6) hm kdM_0 rfl
    refine g_get0 hk fl_X12_29 rfl (j := 6) rfl kdM_0 dX12_isSign_9 ?_
    refine g_iload_n hk 1 rfl dX12_isSign_12 ?_
    refine g_icmp_ne hk g3 cx1 dX12_isSign_13 h (fun b4 h => ?_) (fun b4 h => ?_)
    · refine g_iconst hk (v := 1) rfl dX12_isSign_16 ?_
      refine g_goto hk dX12_isSign_17 ?_
      exact g_zreturn hk z1 dX12_isSign_21 (by cases h; rfl)
    · refine g_iconst hk (v := 0) rfl dX12_isSign_20 ?_
      exact g_zreturn hk z0 dX12_isSign_21 (by cases h; rfl)
  · refine g_iconst hk (v := 0) rfl dX12_isSign_20 ?_
    exact g_zreturn hk z0 dX12_isSign_21 (by cases h; rfl)
theorem met_M_isSign (l : Launch) (D : va_G) (aC : Nat → ClassId) (B N : Nat) (hwd : ∀ id, (kdM id).1 ≠ 9 → id < N) {x1 : Int} {m : zM} {o : Int} (hm : zG kdM m) (cx1 : cI x1) (h : M_isSign x1 m = some o) : zMet l yX12_isSign cX12_isSign 2 (some .boolean) 0 D aC B kdM N [.ref (B + 0), mI x1] m (4, o, m) := by
  refine zMet.of mf_X12_isSign hwd hm (Nat.le_of_ble_eq_true rfl) (fun K e1 e2 e3 e4 e5 hk => ?_)
  subst e4
  exact w_M_isSign hk hm cx1 h
set_option maxRecDepth 100000 in
set_option maxHeartbeats 4000000 in
theorem w_M_isWord {K : zK} (hk : zOk K kdM cX12_isWord 3 (some .boolean) RX12 0)  {x1 : Int} {m : zM} {o : Int}  (hm : zG kdM m) (cx1 : cL x1) (h : M_isWord x1 m = some o) : GoAt K m [(0, .ref (kB K + 0)), (1, mL x1)] [] 0 (4, o, m) := by
  unfold M_isWord at h
  refine g_aload_n hk 0 rfl dX12_isWord_0 ?_
  have g1 := zGI (i := 3) hm kdM_0 rfl
  refine g_get0 hk fl_X12_20 rfl (j := 3) rfl kdM_0 dX12_isWord_1 ?_
  refine g_iconst hk (v := 1) rfl dX12_isWord_4 ?_
  refine g_icmp_ne hk g1 (cIk rfl) dX12_isWord_5 h (fun b2 h => ?_) (fun b2 h => ?_)
  · refine g_aload_n hk 0 rfl dX12_isWord_8 ?_
    have g3 := zGL (i := 7) hm kdM_0 rfl
    refine g_get1 hk fl_X12_32 rfl (j := 7) rfl kdM_0 dX12_isWord_9 ?_
    refine g_lload_n hk 1 rfl dX12_isWord_12 ?_
    refine g_lcmp_ne hk g3 cx1 dX12_isWord_13 dX12_isWord_14 h (fun b4 h => ?_) (fun b4 h => ?_)
    · refine g_iconst hk (v := 1) rfl dX12_isWord_17 ?_
      refine g_goto hk dX12_isWord_18 ?_
      exact g_zreturn hk z1 dX12_isWord_22 (by cases h; rfl)
    · refine g_iconst hk (v := 0) rfl dX12_isWord_21 ?_
      exact g_zreturn hk z0 dX12_isWord_22 (by cases h; rfl)
  · refine g_iconst hk (v := 0) rfl dX12_isWord_21 ?_
    exact g_zreturn hk z0 dX12_isWord_22 (by cases h; rfl)
theorem met_M_isWord (l : Launch) (D : va_G) (aC : Nat → ClassId) (B N : Nat) (hwd : ∀ id, (kdM id).1 ≠ 9 → id < N) {x1 : Int} {m : zM} {o : Int} (hm : zG kdM m) (cx1 : cL x1) (h : M_isWord x1 m = some o) : zMet l yX12_isWord cX12_isWord 3 (some .boolean) 0 D aC B kdM N [.ref (B + 0), mL x1] m (4, o, m) := by
  refine zMet.of mf_X12_isWord hwd hm (Nat.le_of_ble_eq_true rfl) (fun K e1 e2 e3 e4 e5 hk => ?_)
  subst e4
  exact w_M_isWord hk hm cx1 h
set_option maxRecDepth 100000 in
set_option maxHeartbeats 4000000 in
theorem w_M_must_b21 {K : zK} (hk : zOk K kdM cX12_must 2 none RX12 2)  {m : zM} {o : zM}  (hm : zG kdM m)  (h : M_must_b21 m = some o) : GoAt K m [(0, .ref (kB K + 0))] [] 21 (9, 0, o) := by
  unfold M_must_b21 at h
  refine g_aload_n hk 0 rfl dX12_must_21 ?_
  have g1 := zGI (i := 8) hm kdM_0 rfl
  refine g_get0 hk fl_X12_36 rfl (j := 8) rfl kdM_0 dX12_must_22 ?_
  refine g_if_ne hk g1 dX12_must_25 h (fun b2 h => ?_) (fun b2 h => ?_)
  · refine g_aload_n hk 0 rfl dX12_must_28 ?_
    obtain ⟨r3, e4, h⟩ := zbind h
    refine g_callVv hk (st := []) mf_X12_ahead lk_X12_274 mv_X12_ahead kdM_0 (by decide) rfl (Nat.le_of_ble_eq_true rfl) rfl dX12_must_29 (met_M_ahead _ _ _ _ _ hk.wd hm e4) (fun hm => ?_)
    exact g_return hk dX12_must_32 (by cases h; rfl)
  · exact g_return hk dX12_must_32 (by cases h; rfl)
set_option maxRecDepth 100000 in
set_option maxHeartbeats 4000000 in
theorem w_M_must {K : zK} (hk : zOk K kdM cX12_must 2 none RX12 2)  {x1 : Int} {m : zM} {o : zM}  (hm : zG kdM m) (cx1 : cI x1) (h : M_must x1 m = some o) : GoAt K m [(0, .ref (kB K + 0)), (1, mI x1)] [] 0 (9, 0, o) := by
  unfold M_must at h
  refine g_aload_n hk 0 rfl dX12_must_0 ?_
  obtain ⟨r1, e2, h⟩ := zbind h
  refine g_callVv hk (st := []) mf_X12_lex lk_X12_268 mv_X12_lex kdM_0 (by decide) rfl (Nat.le_of_ble_eq_true rfl) rfl dX12_must_1 (met_M_lex _ _ _ _ _ hk.wd hm e2) (fun hm => ?_)
  refine g_aload_n hk 0 rfl dX12_must_4 ?_
  refine g_iload_n hk 1 rfl dX12_must_5 ?_
  obtain ⟨r4, e5, h⟩ := zbind h
  refine g_callVz hk (st := []) mf_X12_isSign lk_X12_271 mv_X12_isSign kdM_0 (by decide) rfl (Nat.le_of_ble_eq_true rfl) rfl dX12_must_6 (met_M_isSign _ _ _ _ _ hk.wd hm cx1 e5) (fun hm c6 => ?_)
  refine g_if_ne hk (b01 c6) dX12_must_9 h (fun b7 h => ?_) (fun b7 h => ?_)
  · refine g_aload_n hk 0 rfl dX12_must_12 ?_
    refine g_iconst hk (v := 1) rfl dX12_must_13 ?_
    refine g_aload_n hk 0 rfl dX12_must_14 ?_
    have g8 := zGI (i := 4) hm kdM_0 rfl
    refine g_get0 hk fl_X12_23 rfl (j := 4) rfl kdM_0 dX12_must_15 ?_
    obtain ⟨r9, e10, h⟩ := zbind h
    refine g_callVv hk (st := []) mf_X12_blame lk_X12_257 mv_X12_blame kdM_0 (by decide) rfl (Nat.le_of_ble_eq_true rfl) rfl dX12_must_18 (met_M_blame _ _ _ _ _ hk.wd hm (cIk rfl) g8 e10) (fun hm => ?_)
    refine GoAt.sub [0] rfl ?_
    exact w_M_must_b21 hk hm h
  · refine GoAt.sub [0] rfl ?_
    exact w_M_must_b21 hk hm h
theorem met_M_must (l : Launch) (D : va_G) (aC : Nat → ClassId) (B N : Nat) (hwd : ∀ id, (kdM id).1 ≠ 9 → id < N) {x1 : Int} {m : zM} {o : zM} (hm : zG kdM m) (cx1 : cI x1) (h : M_must x1 m = some o) : zMet l yX12_must cX12_must 2 none 2 D aC B kdM N [.ref (B + 0), mI x1] m (9, 0, o) := by
  refine zMet.of mf_X12_must hwd hm (Nat.le_of_ble_eq_true rfl) (fun K e1 e2 e3 e4 e5 hk => ?_)
  subst e4
  exact w_M_must hk hm cx1 h
set_option maxRecDepth 100000 in
set_option maxHeartbeats 4000000 in
theorem w_M_isOwn {K : zK} (hk : zOk K kdM cX12_isOwn 3 (some .boolean) RX12 0)  {x1 : Int} {m : zM} {o : Int}  (hm : zG kdM m) (cx1 : cL x1) (h : M_isOwn x1 = some o) : GoAt K m [(0, .ref (kB K + 0)), (1, mL x1)] [] 0 (4, o, m) := by
  unfold M_isOwn at h
  refine g_lload_n hk 1 rfl dX12_isOwn_0 ?_
  refine g_ldc2 hk (v := 422607680372) cn_X12_277 dX12_isOwn_1 ?_
  refine g_lcmp_eq hk cx1 (cLk rfl) dX12_isOwn_4 dX12_isOwn_5 h (fun b1 h => ?_) (fun b1 h => ?_)
  · refine g_iconst hk (v := 1) rfl dX12_isOwn_40 ?_
    exact g_zreturn hk z1 dX12_isOwn_41 (by cases h; rfl)
  · refine g_lload_n hk 1 rfl dX12_isOwn_8 ?_
    refine g_ldc2 hk (v := 512735536499) cn_X12_279 dX12_isOwn_9 ?_
    refine g_lcmp_eq hk cx1 (cLk rfl) dX12_isOwn_12 dX12_isOwn_13 h (fun b2 h => ?_) (fun b2 h => ?_)
    · refine g_iconst hk (v := 1) rfl dX12_isOwn_40 ?_
      exact g_zreturn hk z1 dX12_isOwn_41 (by cases h; rfl)
    · refine g_lload_n hk 1 rfl dX12_isOwn_16 ?_
      refine g_ldc2 hk (v := 29807) cn_X12_281 dX12_isOwn_17 ?_
      refine g_lcmp_eq hk cx1 (cLk rfl) dX12_isOwn_20 dX12_isOwn_21 h (fun b3 h => ?_) (fun b3 h => ?_)
      · refine g_iconst hk (v := 1) rfl dX12_isOwn_40 ?_
        exact g_zreturn hk z1 dX12_isOwn_41 (by cases h; rfl)
      · refine g_lload_n hk 1 rfl dX12_isOwn_24 ?_
        refine g_ldc2 hk (v := 24948) cn_X12_283 dX12_isOwn_25 ?_
        refine g_lcmp_eq hk cx1 (cLk rfl) dX12_isOwn_28 dX12_isOwn_29 h (fun b4 h => ?_) (fun b4 h => ?_)
        · refine g_iconst hk (v := 1) rfl dX12_isOwn_40 ?_
          exact g_zreturn hk z1 dX12_isOwn_41 (by cases h; rfl)
        · refine g_lload_n hk 1 rfl dX12_isOwn_32 ?_
          refine g_ldc2 hk (v := 499851162725) cn_X12_285 dX12_isOwn_33 ?_
          refine g_lcmp_ne hk cx1 (cLk rfl) dX12_isOwn_36 dX12_isOwn_37 h (fun b5 h => ?_) (fun b5 h => ?_)
          · refine g_iconst hk (v := 1) rfl dX12_isOwn_40 ?_
            exact g_zreturn hk z1 dX12_isOwn_41 (by cases h; rfl)
          · refine g_lload_n hk 1 rfl dX12_isOwn_42 ?_
            refine g_ldc2 hk (v := 444351214452) cn_X12_287 dX12_isOwn_43 ?_
            refine g_lcmp_eq hk cx1 (cLk rfl) dX12_isOwn_46 dX12_isOwn_47 h (fun b6 h => ?_) (fun b6 h => ?_)
            · refine g_iconst hk (v := 1) rfl dX12_isOwn_82 ?_
              exact g_zreturn hk z1 dX12_isOwn_83 (by cases h; rfl)
            · refine g_lload_n hk 1 rfl dX12_isOwn_50 ?_
              refine g_ldc2 hk (v := 427071202675) cn_X12_289 dX12_isOwn_51 ?_
              refine g_lcmp_eq hk cx1 (cLk rfl) dX12_isOwn_54 dX12_isOwn_55 h (fun b7 h => ?_) (fun b7 h => ?_)
              · refine g_iconst hk (v := 1) rfl dX12_isOwn_82 ?_
                exact g_zreturn hk z1 dX12_isOwn_83 (by cases h; rfl)
              · refine g_lload_n hk 1 rfl dX12_isOwn_58 ?_
                refine g_ldc2 hk (v := 439787549299) cn_X12_291 dX12_isOwn_59 ?_
                refine g_lcmp_eq hk cx1 (cLk rfl) dX12_isOwn_62 dX12_isOwn_63 h (fun b8 h => ?_) (fun b8 h => ?_)
                · refine g_iconst hk (v := 1) rfl dX12_isOwn_82 ?_
                  exact g_zreturn hk z1 dX12_isOwn_83 (by cases h; rfl)
                · refine g_lload_n hk 1 rfl dX12_isOwn_66 ?_
                  refine g_ldc2 hk (v := 465625113971) cn_X12_293 dX12_isOwn_67 ?_
                  refine g_lcmp_eq hk cx1 (cLk rfl) dX12_isOwn_70 dX12_isOwn_71 h (fun b9 h => ?_) (fun b9 h => ?_)
                  · refine g_iconst hk (v := 1) rfl dX12_isOwn_82 ?_
                    exact g_zreturn hk z1 dX12_isOwn_83 (by cases h; rfl)
                  · refine g_lload_n hk 1 rfl dX12_isOwn_74 ?_
                    refine g_ldc2 hk (v := 7168377) cn_X12_295 dX12_isOwn_75 ?_
                    refine g_lcmp_ne hk cx1 (cLk rfl) dX12_isOwn_78 dX12_isOwn_79 h (fun b10 h => ?_) (fun b10 h => ?_)
                    · refine g_iconst hk (v := 1) rfl dX12_isOwn_82 ?_
                      exact g_zreturn hk z1 dX12_isOwn_83 (by cases h; rfl)
                    · refine g_lload_n hk 1 rfl dX12_isOwn_84 ?_
                      refine g_ldc2 hk (v := 129138533167731) cn_X12_297 dX12_isOwn_85 ?_
                      refine g_lcmp_eq hk cx1 (cLk rfl) dX12_isOwn_88 dX12_isOwn_89 h (fun b11 h => ?_) (fun b11 h => ?_)
                      · refine g_iconst hk (v := 1) rfl dX12_isOwn_124 ?_
                        exact g_zreturn hk z1 dX12_isOwn_125 (by cases h; rfl)
                      · refine g_lload_n hk 1 rfl dX12_isOwn_92 ?_
                        refine g_ldc2 hk (v := 422776563059) cn_X12_299 dX12_isOwn_93 ?_
                        refine g_lcmp_eq hk cx1 (cLk rfl) dX12_isOwn_96 dX12_isOwn_97 h (fun b12 h => ?_) (fun b12 h => ?_)
                        · refine g_iconst hk (v := 1) rfl dX12_isOwn_124 ?_
                          exact g_zreturn hk z1 dX12_isOwn_125 (by cases h; rfl)
                        · refine g_lload_n hk 1 rfl dX12_isOwn_100 ?_
                          refine g_ldc2 hk (v := 461262647411) cn_X12_301 dX12_isOwn_101 ?_
                          refine g_lcmp_eq hk cx1 (cLk rfl) dX12_isOwn_104 dX12_isOwn_105 h (fun b13 h => ?_) (fun b13 h => ?_)
                          · refine g_iconst hk (v := 1) rfl dX12_isOwn_124 ?_
                            exact g_zreturn hk z1 dX12_isOwn_125 (by cases h; rfl)
                          · refine g_lload_n hk 1 rfl dX12_isOwn_108 ?_
                            refine g_ldc2 hk (v := 6710629) cn_X12_303 dX12_isOwn_109 ?_
                            refine g_lcmp_eq hk cx1 (cLk rfl) dX12_isOwn_112 dX12_isOwn_113 h (fun b14 h => ?_) (fun b14 h => ?_)
                            · refine g_iconst hk (v := 1) rfl dX12_isOwn_124 ?_
                              exact g_zreturn hk z1 dX12_isOwn_125 (by cases h; rfl)
                            · refine g_lload_n hk 1 rfl dX12_isOwn_116 ?_
                              refine g_ldc2 hk (v := 1918986606) cn_X12_305 dX12_isOwn_117 ?_
                              refine g_lcmp_ne hk cx1 (cLk rfl) dX12_isOwn_120 dX12_isOwn_121 h (fun b15 h => ?_) (fun b15 h => ?_)
                              · refine g_iconst hk (v := 1) rfl dX12_isOwn_124 ?_
                                exact g_zreturn hk z1 dX12_isOwn_125 (by cases h; rfl)
                              · refine g_lload_n hk 1 rfl dX12_isOwn_126 ?_
                                refine g_ldc2 hk (v := 495891084403) cn_X12_307 dX12_isOwn_127 ?_
                                refine g_lcmp_eq hk cx1 (cLk rfl) dX12_isOwn_130 dX12_isOwn_131 h (fun b16 h => ?_) (fun b16 h => ?_)
                                · refine g_iconst hk (v := 1) rfl dX12_isOwn_166 ?_
                                  exact g_zreturn hk z1 dX12_isOwn_167 (by cases h; rfl)
                                · refine g_lload_n hk 1 rfl dX12_isOwn_134 ?_
                                  refine g_ldc2 hk (v := 7561591) cn_X12_309 dX12_isOwn_135 ?_
                                  refine g_lcmp_eq hk cx1 (cLk rfl) dX12_isOwn_138 dX12_isOwn_139 h (fun b17 h => ?_) (fun b17 h => ?_)
                                  · refine g_iconst hk (v := 1) rfl dX12_isOwn_166 ?_
                                    exact g_zreturn hk z1 dX12_isOwn_167 (by cases h; rfl)
                                  · refine g_lload_n hk 1 rfl dX12_isOwn_142 ?_
                                    refine g_ldc2 hk (v := 1752135026) cn_X12_311 dX12_isOwn_143 ?_
                                    refine g_lcmp_eq hk cx1 (cLk rfl) dX12_isOwn_146 dX12_isOwn_147 h (fun b18 h => ?_) (fun b18 h => ?_)
                                    · refine g_iconst hk (v := 1) rfl dX12_isOwn_166 ?_
                                      exact g_zreturn hk z1 dX12_isOwn_167 (by cases h; rfl)
                                    · refine g_lload_n hk 1 rfl dX12_isOwn_150 ?_
                                      refine g_ldc2 hk (v := 465726040947) cn_X12_313 dX12_isOwn_151 ?_
                                      refine g_lcmp_eq hk cx1 (cLk rfl) dX12_isOwn_154 dX12_isOwn_155 h (fun b19 h => ?_) (fun b19 h => ?_)
                                      · refine g_iconst hk (v := 1) rfl dX12_isOwn_166 ?_
                                        exact g_zreturn hk z1 dX12_isOwn_167 (by cases h; rfl)
                                      · refine g_lload_n hk 1 rfl dX12_isOwn_158 ?_
                                        refine g_ldc2 hk (v := 495756602476) cn_X12_315 dX12_isOwn_159 ?_
                                        refine g_lcmp_ne hk cx1 (cLk rfl) dX12_isOwn_162 dX12_isOwn_163 h (fun b20 h => ?_) (fun b20 h => ?_)
                                        · refine g_iconst hk (v := 1) rfl dX12_isOwn_166 ?_
                                          exact g_zreturn hk z1 dX12_isOwn_167 (by cases h; rfl)
                                        · refine g_lload_n hk 1 rfl dX12_isOwn_168 ?_
                                          refine g_ldc2 hk (v := 1952541803) cn_X12_317 dX12_isOwn_169 ?_
                                          refine g_lcmp_eq hk cx1 (cLk rfl) dX12_isOwn_172 dX12_isOwn_173 h (fun b21 h => ?_) (fun b21 h => ?_)
                                          · refine g_iconst hk (v := 1) rfl dX12_isOwn_208 ?_
                                            exact g_zreturn hk z1 dX12_isOwn_209 (by cases h; rfl)
                                          · refine g_lload_n hk 1 rfl dX12_isOwn_176 ?_
                                            refine g_ldc2 hk (v := 119200029437543) cn_X12_319 dX12_isOwn_177 ?_
                                            refine g_lcmp_eq hk cx1 (cLk rfl) dX12_isOwn_180 dX12_isOwn_181 h (fun b22 h => ?_) (fun b22 h => ?_)
                                            · refine g_iconst hk (v := 1) rfl dX12_isOwn_208 ?_
                                              exact g_zreturn hk z1 dX12_isOwn_209 (by cases h; rfl)
                                            · refine g_lload_n hk 1 rfl dX12_isOwn_184 ?_
                                              refine g_ldc2 hk (v := 1718773093) cn_X12_321 dX12_isOwn_185 ?_
                                              refine g_lcmp_eq hk cx1 (cLk rfl) dX12_isOwn_188 dX12_isOwn_189 h (fun b23 h => ?_) (fun b23 h => ?_)
                                              · refine g_iconst hk (v := 1) rfl dX12_isOwn_208 ?_
                                                exact g_zreturn hk z1 dX12_isOwn_209 (by cases h; rfl)
                                              · refine g_lload_n hk 1 rfl dX12_isOwn_192 ?_
                                                refine g_ldc2 hk (v := 26982) cn_X12_323 dX12_isOwn_193 ?_
                                                refine g_lcmp_eq hk cx1 (cLk rfl) dX12_isOwn_196 dX12_isOwn_197 h (fun b24 h => ?_) (fun b24 h => ?_)
                                                · refine g_iconst hk (v := 1) rfl dX12_isOwn_208 ?_
                                                  exact g_zreturn hk z1 dX12_isOwn_209 (by cases h; rfl)
                                                · refine g_lload_n hk 1 rfl dX12_isOwn_200 ?_
                                                  refine g_ldc2 hk (v := 28530) cn_X12_325 dX12_isOwn_201 ?_
                                                  refine g_lcmp_ne hk cx1 (cLk rfl) dX12_isOwn_204 dX12_isOwn_205 h (fun b25 h => ?_) (fun b25 h => ?_)
                                                  · refine g_iconst hk (v := 1) rfl dX12_isOwn_208 ?_
                                                    exact g_zreturn hk z1 dX12_isOwn_209 (by cases h; rfl)
                                                  · refine g_lload_n hk 1 rfl dX12_isOwn_210 ?_
                                                    refine g_ldc2 hk (v := 6385252) cn_X12_327 dX12_isOwn_211 ?_
                                                    refine g_lcmp_eq hk cx1 (cLk rfl) dX12_isOwn_214 dX12_isOwn_215 h (fun b26 h => ?_) (fun b26 h => ?_)
                                                    · refine g_iconst hk (v := 1) rfl dX12_isOwn_250 ?_
                                                      exact g_zreturn hk z1 dX12_isOwn_251 (by cases h; rfl)
                                                    · refine g_lload_n hk 1 rfl dX12_isOwn_218 ?_
                                                      refine g_ldc2 hk (v := 7237492) cn_X12_329 dX12_isOwn_219 ?_
                                                      refine g_lcmp_eq hk cx1 (cLk rfl) dX12_isOwn_222 dX12_isOwn_223 h (fun b27 h => ?_) (fun b27 h => ?_)
                                                      · refine g_iconst hk (v := 1) rfl dX12_isOwn_250 ?_
                                                        exact g_zreturn hk z1 dX12_isOwn_251 (by cases h; rfl)
                                                      · refine g_lload_n hk 1 rfl dX12_isOwn_226 ?_
                                                        refine g_ldc2 hk (v := 6384748) cn_X12_331 dX12_isOwn_227 ?_
                                                        refine g_lcmp_eq hk cx1 (cLk rfl) dX12_isOwn_230 dX12_isOwn_231 h (fun b28 h => ?_) (fun b28 h => ?_)
                                                        · refine g_iconst hk (v := 1) rfl dX12_isOwn_250 ?_
                                                          exact g_zreturn hk z1 dX12_isOwn_251 (by cases h; rfl)
                                                        · refine g_lload_n hk 1 rfl dX12_isOwn_234 ?_
                                                          refine g_ldc2 hk (v := 7170414) cn_X12_333 dX12_isOwn_235 ?_
                                                          refine g_lcmp_eq hk cx1 (cLk rfl) dX12_isOwn_238 dX12_isOwn_239 h (fun b29 h => ?_) (fun b29 h => ?_)
                                                          · refine g_iconst hk (v := 1) rfl dX12_isOwn_250 ?_
                                                            exact g_zreturn hk z1 dX12_isOwn_251 (by cases h; rfl)
                                                          · refine g_lload_n hk 1 rfl dX12_isOwn_242 ?_
                                                            refine g_ldc2 hk (v := 7168376) cn_X12_335 dX12_isOwn_243 ?_
                                                            refine g_lcmp_ne hk cx1 (cLk rfl) dX12_isOwn_246 dX12_isOwn_247 h (fun b30 h => ?_) (fun b30 h => ?_)
                                                            · refine g_iconst hk (v := 1) rfl dX12_isOwn_250 ?_
                                                              exact g_zreturn hk z1 dX12_isOwn_251 (by cases h; rfl)
                                                            · refine g_iconst hk (v := 0) rfl dX12_isOwn_252 ?_
                                                              exact g_zreturn hk z0 dX12_isOwn_253 (by cases h; rfl)
theorem met_M_isOwn (l : Launch) (D : va_G) (aC : Nat → ClassId) (B N : Nat) (hwd : ∀ id, (kdM id).1 ≠ 9 → id < N) {x1 : Int} {m : zM} {o : Int} (hm : zG kdM m) (cx1 : cL x1) (h : M_isOwn x1 = some o) : zMet l yX12_isOwn cX12_isOwn 3 (some .boolean) 0 D aC B kdM N [.ref (B + 0), mL x1] m (4, o, m) := by
  refine zMet.of mf_X12_isOwn hwd hm (Nat.le_of_ble_eq_true rfl) (fun K e1 e2 e3 e4 e5 hk => ?_)
  subst e4
  exact w_M_isOwn hk hm cx1 h
set_option maxRecDepth 100000 in
set_option maxHeartbeats 4000000 in
theorem w_M_isDefault {K : zK} (hk : zOk K kdM cX12_isDefault 2 none RX12 0)  {x1 : Int} {m : zM} {o : zM}  (hm : zG kdM m) (cx1 : cI x1) (h : M_isDefault x1 m = some o) : GoAt K m [(0, .ref (kB K + 0)), (1, mI x1)] [] 0 (9, 0, o) := by
  unfold M_isDefault at h
  refine g_aload_n hk 0 rfl dX12_isDefault_0 ?_
  refine g_get2 hk fl_X12_84 rfl kdM_0 hm (b := 12) rfl dX12_isDefault_1 ?_
  refine g_iconst hk (v := 5) rfl dX12_isDefault_4 ?_
  refine g_iload_n hk 1 rfl dX12_isDefault_5 ?_
  refine g_imul hk dX12_isDefault_6 ?_
  refine g_iconst hk (v := 0) rfl dX12_isDefault_7 ?_
  refine g_iadd hk dX12_isDefault_8 ?_
  refine g_bipush hk (v := 6) rfl dX12_isDefault_9 ?_
  refine g_iast hk (wI_c _) (cIk rfl) kdM_12 hm dX12_isDefault_11 h (fun m1 hm h => ?_)
  refine g_aload_n hk 0 rfl dX12_isDefault_12 ?_
  refine g_get2 hk fl_X12_84 rfl kdM_0 hm (b := 12) rfl dX12_isDefault_13 ?_
  refine g_iconst hk (v := 5) rfl dX12_isDefault_16 ?_
  refine g_iload_n hk 1 rfl dX12_isDefault_17 ?_
  refine g_imul hk dX12_isDefault_18 ?_
  refine g_iconst hk (v := 1) rfl dX12_isDefault_19 ?_
  refine g_iadd hk dX12_isDefault_20 ?_
  refine g_iconst hk (v := 1) rfl dX12_isDefault_21 ?_
  refine g_iast hk (wI_c _) (cIk rfl) kdM_12 hm dX12_isDefault_22 h (fun m2 hm h => ?_)
  refine g_aload_n hk 0 rfl dX12_isDefault_23 ?_
  refine g_get2 hk fl_X12_84 rfl kdM_0 hm (b := 12) rfl dX12_isDefault_24 ?_
  refine g_iconst hk (v := 5) rfl dX12_isDefault_27 ?_
  refine g_iload_n hk 1 rfl dX12_isDefault_28 ?_
  refine g_imul hk dX12_isDefault_29 ?_
  refine g_iconst hk (v := 2) rfl dX12_isDefault_30 ?_
  refine g_iadd hk dX12_isDefault_31 ?_
  refine g_iconst hk (v := 3) rfl dX12_isDefault_32 ?_
  refine g_iast hk (wI_c _) (cIk rfl) kdM_12 hm dX12_isDefault_33 h (fun m3 hm h => ?_)
  refine g_aload_n hk 0 rfl dX12_isDefault_34 ?_
  refine g_get2 hk fl_X12_84 rfl kdM_0 hm (b := 12) rfl dX12_isDefault_35 ?_
  refine g_iconst hk (v := 5) rfl dX12_isDefault_38 ?_
  refine g_iload_n hk 1 rfl dX12_isDefault_39 ?_
  refine g_imul hk dX12_isDefault_40 ?_
  refine g_iconst hk (v := 3) rfl dX12_isDefault_41 ?_
  refine g_iadd hk dX12_isDefault_42 ?_
  refine g_iconst hk (v := 5) rfl dX12_isDefault_43 ?_
  refine g_iast hk (wI_c _) (cIk rfl) kdM_12 hm dX12_isDefault_44 h (fun m4 hm h => ?_)
  refine g_aload_n hk 0 rfl dX12_isDefault_45 ?_
  refine g_get2 hk fl_X12_84 rfl kdM_0 hm (b := 12) rfl dX12_isDefault_46 ?_
  refine g_iconst hk (v := 5) rfl dX12_isDefault_49 ?_
  refine g_iload_n hk 1 rfl dX12_isDefault_50 ?_
  refine g_imul hk dX12_isDefault_51 ?_
  refine g_iconst hk (v := 4) rfl dX12_isDefault_52 ?_
  refine g_iadd hk dX12_isDefault_53 ?_
  refine g_iconst hk (v := 0) rfl dX12_isDefault_54 ?_
  refine g_iast hk (wI_c _) (cIk rfl) kdM_12 hm dX12_isDefault_55 h (fun m5 hm h => ?_)
  exact g_return hk dX12_isDefault_56 (by cases h; rfl)
theorem met_M_isDefault (l : Launch) (D : va_G) (aC : Nat → ClassId) (B N : Nat) (hwd : ∀ id, (kdM id).1 ≠ 9 → id < N) {x1 : Int} {m : zM} {o : zM} (hm : zG kdM m) (cx1 : cI x1) (h : M_isDefault x1 m = some o) : zMet l yX12_isDefault cX12_isDefault 2 none 0 D aC B kdM N [.ref (B + 0), mI x1] m (9, 0, o) := by
  refine zMet.of mf_X12_isDefault hwd hm (Nat.le_of_ble_eq_true rfl) (fun K e1 e2 e3 e4 e5 hk => ?_)
  subst e4
  exact w_M_isDefault hk hm cx1 h
set_option maxRecDepth 100000 in
set_option maxHeartbeats 4000000 in
theorem w_M_toldOf {K : zK} (hk : zOk K kdM cX12_toldOf 2 (some .int) RX12 0)  {x1 : Int} {m : zM} {o : Int}  (hm : zG kdM m) (cx1 : cI x1) (h : M_toldOf x1 m = some o) : GoAt K m [(0, .ref (kB K + 0)), (1, mI x1)] [] 0 (0, o, m) := by
  unfold M_toldOf at h
  refine g_aload_n hk 0 rfl dX12_toldOf_0 ?_
  refine g_get2 hk fl_X12_84 rfl kdM_0 hm (b := 12) rfl dX12_toldOf_1 ?_
  refine g_iconst hk (v := 5) rfl dX12_toldOf_4 ?_
  refine g_aload_n hk 0 rfl dX12_toldOf_5 ?_
  have g1 := zGI (i := 13) hm kdM_0 rfl
  refine g_get0 hk fl_X12_51 rfl (j := 13) rfl kdM_0 dX12_toldOf_6 ?_
  refine g_imul hk dX12_toldOf_9 ?_
  refine g_iload_n hk 1 rfl dX12_toldOf_10 ?_
  refine g_iadd hk dX12_toldOf_11 ?_
  refine g_iald hk (wI_c _) kdM_12 hm dX12_toldOf_12 h (fun y2 cy2 h => ?_)
  exact g_ireturn hk cy2 dX12_toldOf_13 (by cases h; rfl)
theorem met_M_toldOf (l : Launch) (D : va_G) (aC : Nat → ClassId) (B N : Nat) (hwd : ∀ id, (kdM id).1 ≠ 9 → id < N) {x1 : Int} {m : zM} {o : Int} (hm : zG kdM m) (cx1 : cI x1) (h : M_toldOf x1 m = some o) : zMet l yX12_toldOf cX12_toldOf 2 (some .int) 0 D aC B kdM N [.ref (B + 0), mI x1] m (0, o, m) := by
  refine zMet.of mf_X12_toldOf hwd hm (Nat.le_of_ble_eq_true rfl) (fun K e1 e2 e3 e4 e5 hk => ?_)
  subst e4
  exact w_M_toldOf hk hm cx1 h
set_option maxRecDepth 100000 in
set_option maxHeartbeats 4000000 in
theorem w_M_manyOf {K : zK} (hk : zOk K kdM cX12_manyOf 3 (some .int) RX12 0)  {x1 : Int} {x2 : Int} {m : zM} {o : Int}  (hm : zG kdM m) (cx1 : cI x1) (cx2 : cI x2) (h : M_manyOf x1 x2 m = some o) : GoAt K m [(0, .ref (kB K + 0)), (1, mI x1), (2, mI x2)] [] 0 (0, o, m) := by
  unfold M_manyOf at h
  refine g_iload_n hk 2 rfl dX12_manyOf_0 ?_
  refine g_if_ne hk cx2 dX12_manyOf_1 h (fun b1 h => ?_) (fun b1 h => ?_)
  · refine g_aload_n hk 0 rfl dX12_manyOf_4 ?_
    refine g_get2 hk fl_X12_54 rfl kdM_0 hm (b := 2) rfl dX12_manyOf_5 ?_
    refine g_iload_n hk 1 rfl dX12_manyOf_8 ?_
    refine g_iald hk cx1 kdM_2 hm dX12_manyOf_9 h (fun y2 cy2 h => ?_)
    refine g_goto hk dX12_manyOf_10 ?_
    exact g_ireturn hk cy2 dX12_manyOf_19 (by cases h; rfl)
  · refine g_aload_n hk 0 rfl dX12_manyOf_13 ?_
    refine g_get2 hk fl_X12_69 rfl kdM_0 hm (b := 7) rfl dX12_manyOf_14 ?_
    refine g_iload_n hk 1 rfl dX12_manyOf_17 ?_
    refine g_iald hk cx1 kdM_7 hm dX12_manyOf_18 h (fun y3 cy3 h => ?_)
    exact g_ireturn hk cy3 dX12_manyOf_19 (by cases h; rfl)
theorem met_M_manyOf (l : Launch) (D : va_G) (aC : Nat → ClassId) (B N : Nat) (hwd : ∀ id, (kdM id).1 ≠ 9 → id < N) {x1 : Int} {x2 : Int} {m : zM} {o : Int} (hm : zG kdM m) (cx1 : cI x1) (cx2 : cI x2) (h : M_manyOf x1 x2 m = some o) : zMet l yX12_manyOf cX12_manyOf 3 (some .int) 0 D aC B kdM N [.ref (B + 0), mI x1, mI x2] m (0, o, m) := by
  refine zMet.of mf_X12_manyOf hwd hm (Nat.le_of_ble_eq_true rfl) (fun K e1 e2 e3 e4 e5 hk => ?_)
  subst e4
  exact w_M_manyOf hk hm cx1 cx2 h
set_option maxRecDepth 100000 in
set_option maxHeartbeats 4000000 in
theorem w_M_nameOf {K : zK} (hk : zOk K kdM cX12_nameOf 4 (some .long) RX12 0)  {x1 : Int} {x2 : Int} {x3 : Int} {m : zM} {o : Int}  (hm : zG kdM m) (cx1 : cI x1) (cx2 : cI x2) (cx3 : cI x3) (h : M_nameOf x1 x2 x3 m = some o) : GoAt K m [(0, .ref (kB K + 0)), (1, mI x1), (2, mI x2), (3, mI x3)] [] 0 (1, o, m) := by
  unfold M_nameOf at h
  refine g_iload_n hk 2 rfl dX12_nameOf_0 ?_
  refine g_if_ne hk cx2 dX12_nameOf_1 h (fun b1 h => ?_) (fun b1 h => ?_)
  · refine g_aload_n hk 0 rfl dX12_nameOf_4 ?_
    refine g_get2 hk fl_X12_99 rfl kdM_0 hm (b := 17) rfl dX12_nameOf_5 ?_
    refine g_bipush hk (v := 6) rfl dX12_nameOf_8 ?_
    refine g_iload_n hk 1 rfl dX12_nameOf_10 ?_
    refine g_imul hk dX12_nameOf_11 ?_
    refine g_iload_n hk 3 rfl dX12_nameOf_12 ?_
    refine g_iadd hk dX12_nameOf_13 ?_
    refine g_lald hk (wI_c _) kdM_17 hm dX12_nameOf_14 h (fun y2 cy2 h => ?_)
    refine g_goto hk dX12_nameOf_15 ?_
    exact g_lreturn hk cy2 dX12_nameOf_29 (by cases h; rfl)
  · refine g_aload_n hk 0 rfl dX12_nameOf_18 ?_
    refine g_get2 hk fl_X12_103 rfl kdM_0 hm (b := 18) rfl dX12_nameOf_19 ?_
    refine g_bipush hk (v := 8) rfl dX12_nameOf_22 ?_
    refine g_iload_n hk 1 rfl dX12_nameOf_24 ?_
    refine g_imul hk dX12_nameOf_25 ?_
    refine g_iload_n hk 3 rfl dX12_nameOf_26 ?_
    refine g_iadd hk dX12_nameOf_27 ?_
    refine g_lald hk (wI_c _) kdM_18 hm dX12_nameOf_28 h (fun y3 cy3 h => ?_)
    exact g_lreturn hk cy3 dX12_nameOf_29 (by cases h; rfl)
theorem met_M_nameOf (l : Launch) (D : va_G) (aC : Nat → ClassId) (B N : Nat) (hwd : ∀ id, (kdM id).1 ≠ 9 → id < N) {x1 : Int} {x2 : Int} {x3 : Int} {m : zM} {o : Int} (hm : zG kdM m) (cx1 : cI x1) (cx2 : cI x2) (cx3 : cI x3) (h : M_nameOf x1 x2 x3 m = some o) : zMet l yX12_nameOf cX12_nameOf 4 (some .long) 0 D aC B kdM N [.ref (B + 0), mI x1, mI x2, mI x3] m (1, o, m) := by
  refine zMet.of mf_X12_nameOf hwd hm (Nat.le_of_ble_eq_true rfl) (fun K e1 e2 e3 e4 e5 hk => ?_)
  subst e4
  exact w_M_nameOf hk hm cx1 cx2 cx3 h
set_option maxRecDepth 100000 in
set_option maxHeartbeats 4000000 in
theorem w_M_named_B3 {K : zK} (hk : zOk K kdM cX12_named 5 (some .int) RX12 1) {rec : Int → Int → Int → Option (Int)} {x1 : Int} {x2 : Int} {x4 : Int} {m : zM} {o : Int} (hrec : ∀ (x1 : Int) (x2 : Int) (x4 : Int), cI x1 → cL x2 → cI x4 → rec x1 x2 x4 = some o → GoAt K m [(0, .ref (kB K + 0)), (1, mI x1), (2, mL x2), (4, mI x4)] [] 3 (0, o, m)) (hm : zG kdM m) (cx1 : cI x1) (cx2 : cL x2) (cx4 : cI x4) (h : M_named_B3 rec x1 x2 x4 m = some o) : GoAt K m [(0, .ref (kB K + 0)), (1, mI x1), (2, mL x2), (4, mI x4)] [] 3 (0, o, m) := by
  unfold M_named_B3 at h
  refine g_iload hk 3 rfl dX12_named_3 ?_
  refine g_aload_n hk 0 rfl dX12_named_5 ?_
  refine g_aload_n hk 0 rfl dX12_named_6 ?_
  have g1 := zGI (i := 32) hm kdM_0 rfl
  refine g_get0 hk fl_X12_109 rfl (j := 32) rfl kdM_0 dX12_named_7 ?_
  refine g_iload_n hk 1 rfl dX12_named_10 ?_
  obtain ⟨r2, e3, h⟩ := zbind h
  refine g_callVi hk (st := [mI x4]) mf_X12_manyOf lk_X12_337 mv_X12_manyOf kdM_0 (by decide) rfl (Nat.le_of_ble_eq_true rfl) rfl dX12_named_11 (met_M_manyOf _ _ _ _ _ hk.wd hm g1 cx1 e3) (fun hm c4 => ?_)
  refine g_icmp_ge hk cx4 c4 dX12_named_14 h (fun b5 h => ?_) (fun b5 h => ?_)
  · refine g_aload_n hk 0 rfl dX12_named_17 ?_
    refine g_aload_n hk 0 rfl dX12_named_18 ?_
    have g6 := zGI (i := 32) hm kdM_0 rfl
    refine g_get0 hk fl_X12_109 rfl (j := 32) rfl kdM_0 dX12_named_19 ?_
    refine g_iload_n hk 1 rfl dX12_named_22 ?_
    refine g_iload hk 3 rfl dX12_named_23 ?_
    obtain ⟨r7, e8, h⟩ := zbind h
    refine g_callVl hk (st := []) mf_X12_nameOf lk_X12_341 mv_X12_nameOf kdM_0 (by decide) rfl (Nat.le_of_ble_eq_true rfl) rfl dX12_named_25 (met_M_nameOf _ _ _ _ _ hk.wd hm g6 cx1 cx4 e8) (fun hm c9 => ?_)
    refine g_lload_n hk 2 rfl dX12_named_28 ?_
    refine g_lcmp_ne hk c9 cx2 dX12_named_29 dX12_named_30 h (fun b10 h => ?_) (fun b10 h => ?_)
    · refine g_iload hk 3 rfl dX12_named_33 ?_
      exact g_ireturn hk cx4 dX12_named_35 (by cases h; rfl)
    · refine g_iinc hk (lv' := [(4, mI (wI (x4 + 1))), (0, .ref (kB K + 0)), (1, mI x1), (2, mL x2)]) 3 rfl (Nat.le_of_ble_eq_true rfl) rfl dX12_named_36 ?_
      refine g_goto hk dX12_named_39 ?_
      refine GoAt.sub [1, 2, 3, 0] rfl ?_
      exact hrec _ _ _ cx1 cx2 (wI_c _) h
  · refine g_iconst hk (v := (-1)) rfl dX12_named_42 ?_
    exact g_ireturn hk (cIk rfl) dX12_named_43 (by cases h; rfl)
theorem w_M_named_L3 {K : zK} (hk : zOk K kdM cX12_named 5 (some .int) RX12 1)  {o : Int} {m : zM} (hm : zG kdM m)  : ∀ (n : Nat) (x1 : Int) (x2 : Int) (x4 : Int), cI x1 → cL x2 → cI x4 → M_named_L3 m n x1 x2 x4 = some o → GoAt K m [(0, .ref (kB K + 0)), (1, mI x1), (2, mL x2), (4, mI x4)] [] 3 (0, o, m)
  | 0, x1, x2, x4, cx1, cx2, cx4, h => by cases h
  | n + 1, x1, x2, x4, cx1, cx2, cx4, h => w_M_named_B3 hk  (w_M_named_L3 hk hm  n) hm cx1 cx2 cx4 h
set_option maxRecDepth 100000 in
set_option maxHeartbeats 4000000 in
theorem w_M_named {K : zK} (hk : zOk K kdM cX12_named 5 (some .int) RX12 1)  {x1 : Int} {x2 : Int} {m : zM} {o : Int}  (hm : zG kdM m) (cx1 : cI x1) (cx2 : cL x2) (h : M_named x1 x2 m = some o) : GoAt K m [(0, .ref (kB K + 0)), (1, mI x1), (2, mL x2)] [] 0 (0, o, m) := by
  unfold M_named at h
  refine g_iconst hk (v := 0) rfl dX12_named_0 ?_
  refine g_istore hk (lv' := [(4, mI 0), (0, .ref (kB K + 0)), (1, mI x1), (2, mL x2)]) (Nat.le_of_ble_eq_true rfl) rfl dX12_named_1 ?_
  refine GoAt.sub [1, 2, 3, 0] rfl ?_
  refine w_M_named_L3 hk hm  1000000 _ _ _ cx1 cx2 (cIk rfl) h
theorem met_M_named (l : Launch) (D : va_G) (aC : Nat → ClassId) (B N : Nat) (hwd : ∀ id, (kdM id).1 ≠ 9 → id < N) {x1 : Int} {x2 : Int} {m : zM} {o : Int} (hm : zG kdM m) (cx1 : cI x1) (cx2 : cL x2) (h : M_named x1 x2 m = some o) : zMet l yX12_named cX12_named 5 (some .int) 1 D aC B kdM N [.ref (B + 0), mI x1, mL x2] m (0, o, m) := by
  refine zMet.of mf_X12_named hwd hm (Nat.le_of_ble_eq_true rfl) (fun K e1 e2 e3 e4 e5 hk => ?_)
  subst e4
  exact w_M_named hk hm cx1 cx2 h
set_option maxRecDepth 100000 in
set_option maxHeartbeats 4000000 in
theorem w_M_number_b58 {K : zK} (hk : zOk K kdM cX12_number 4 (some .int) RX12 2)  {m : zM} {o : Int × zM}  (hm : zG kdM m)  (h : M_number_b58 m = some o) : GoAt K m [(0, .ref (kB K + 0))] [] 58 (0, o.1, o.2) := by
  unfold M_number_b58 at h
  refine g_aload_n hk 0 rfl dX12_number_58 ?_
  have g1 := zGI (i := 6) hm kdM_0 rfl
  refine g_get0 hk fl_X12_29 rfl (j := 6) rfl kdM_0 dX12_number_59 ?_
  refine g_istore_n hk rfl (lv' := [(3, mI (m 0 6)), (0, .ref (kB K + 0))]) (Nat.le_of_ble_eq_true rfl) rfl dX12_number_62 ?_
  refine g_aload_n hk 1 rfl dX12_number_63 ?_
  have g2 := zGI (i := 8) hm kdM_0 rfl
  refine g_get0 hk fl_X12_36 rfl (j := 8) rfl kdM_0 dX12_number_64 ?_
  refine g_if_ne hk g2 dX12_number_67 h (fun b3 h => ?_) (fun b3 h => ?_)
  · refine g_aload_n hk 1 rfl dX12_number_70 ?_
    obtain ⟨r4, e5, h⟩ := zbind h
    refine g_callVv hk (st := []) mf_X12_ahead lk_X12_274 mv_X12_ahead kdM_0 (by decide) rfl (Nat.le_of_ble_eq_true rfl) rfl dX12_number_71 (met_M_ahead _ _ _ _ _ hk.wd hm e5) (fun hm => ?_)
    refine g_iload_n hk 0 rfl dX12_number_74 ?_
    exact g_ireturn hk g1 dX12_number_75 (by cases h; rfl)
  · refine g_iload_n hk 0 rfl dX12_number_74 ?_
    exact g_ireturn hk g1 dX12_number_75 (by cases h; rfl)
set_option maxRecDepth 100000 in
set_option maxHeartbeats 4000000 in
theorem w_M_number_b30 {K : zK} (hk : zOk K kdM cX12_number 4 (some .int) RX12 2)  {x1 : Int} {x2 : Int} {m : zM} {o : Int × zM}  (hm : zG kdM m) (cx1 : cI x1) (cx2 : cI x2) (h : M_number_b30 x1 x2 m = some o) : GoAt K m [(0, .ref (kB K + 0)), (1, mI x1), (2, mI x2)] [] 30 (0, o.1, o.2) := by
  unfold M_number_b30 at h
  refine g_aload_n hk 0 rfl dX12_number_30 ?_
  have g1 := zGI (i := 8) hm kdM_0 rfl
  refine g_get0 hk fl_X12_36 rfl (j := 8) rfl kdM_0 dX12_number_31 ?_
  refine g_if_ne hk g1 dX12_number_34 h (fun b2 h => ?_) (fun b2 h => ?_)
  · refine g_aload_n hk 0 rfl dX12_number_37 ?_
    have g3 := zGI (i := 6) hm kdM_0 rfl
    refine g_get0 hk fl_X12_29 rfl (j := 6) rfl kdM_0 dX12_number_38 ?_
    refine g_iload_n hk 1 rfl dX12_number_41 ?_
    refine g_iload_n hk 2 rfl dX12_number_42 ?_
    obtain ⟨r4, e5, h⟩ := zbind h
    refine g_callSz hk (st := []) mf_X12_is lk_X12_345 ms_X12_is (by decide) rfl (Nat.le_of_ble_eq_true rfl) rfl dX12_number_43 (met_M_is _ _ _ _ _ hk.wd hm g3 cx1 cx2 e5) (fun hm c6 => ?_)
    refine g_if_ne hk (b01 c6) dX12_number_46 h (fun b7 h => ?_) (fun b7 h => ?_)
    · refine g_aload_n hk 0 rfl dX12_number_49 ?_
      refine g_iconst hk (v := 4) rfl dX12_number_50 ?_
      refine g_aload_n hk 0 rfl dX12_number_51 ?_
      have g8 := zGI (i := 4) hm kdM_0 rfl
      refine g_get0 hk fl_X12_23 rfl (j := 4) rfl kdM_0 dX12_number_52 ?_
      obtain ⟨r9, e10, h⟩ := zbind h
      refine g_callVv hk (st := []) mf_X12_blame lk_X12_257 mv_X12_blame kdM_0 (by decide) rfl (Nat.le_of_ble_eq_true rfl) rfl dX12_number_55 (met_M_blame _ _ _ _ _ hk.wd hm (cIk rfl) g8 e10) (fun hm => ?_)
      refine GoAt.sub [0] rfl ?_
      exact w_M_number_b58 hk hm h
    · refine GoAt.sub [0] rfl ?_
      exact w_M_number_b58 hk hm h
  · refine GoAt.sub [0] rfl ?_
    exact w_M_number_b58 hk hm h
set_option maxRecDepth 100000 in
set_option maxHeartbeats 4000000 in
theorem w_M_number {K : zK} (hk : zOk K kdM cX12_number 4 (some .int) RX12 2)  {x1 : Int} {x2 : Int} {m : zM} {o : Int × zM}  (hm : zG kdM m) (cx1 : cI x1) (cx2 : cI x2) (h : M_number x1 x2 m = some o) : GoAt K m [(0, .ref (kB K + 0)), (1, mI x1), (2, mI x2)] [] 0 (0, o.1, o.2) := by
  unfold M_number at h
  refine g_aload_n hk 0 rfl dX12_number_0 ?_
  obtain ⟨r1, e2, h⟩ := zbind h
  refine g_callVv hk (st := []) mf_X12_lex lk_X12_268 mv_X12_lex kdM_0 (by decide) rfl (Nat.le_of_ble_eq_true rfl) rfl dX12_number_1 (met_M_lex _ _ _ _ _ hk.wd hm e2) (fun hm => ?_)
  refine g_aload_n hk 0 rfl dX12_number_4 ?_
  have g4 := zGI (i := 8) hm kdM_0 rfl
  refine g_get0 hk fl_X12_36 rfl (j := 8) rfl kdM_0 dX12_number_5 ?_
  refine g_if_le hk g4 dX12_number_8 h (fun b5 h => ?_) (fun b5 h => ?_)
  · refine g_iconst hk (v := 0) rfl dX12_number_11 ?_
    exact g_ireturn hk (cIk rfl) dX12_number_12 (by cases h; rfl)
  · refine g_aload_n hk 0 rfl dX12_number_13 ?_
    have g6 := zGI (i := 3) hm kdM_0 rfl
    refine g_get0 hk fl_X12_20 rfl (j := 3) rfl kdM_0 dX12_number_14 ?_
    refine g_iconst hk (v := 2) rfl dX12_number_17 ?_
    refine g_icmp_eq hk g6 (cIk rfl) dX12_number_18 h (fun b7 h => ?_) (fun b7 h => ?_)
    · exact w_M_number_b30 hk hm cx1 cx2 h
    · refine g_aload_n hk 0 rfl dX12_number_21 ?_
      refine g_iconst hk (v := 1) rfl dX12_number_22 ?_
      refine g_aload_n hk 0 rfl dX12_number_23 ?_
      have g8 := zGI (i := 4) hm kdM_0 rfl
      refine g_get0 hk fl_X12_23 rfl (j := 4) rfl kdM_0 dX12_number_24 ?_
      obtain ⟨r9, e10, h⟩ := zbind h
      refine g_callVv hk (st := []) mf_X12_blame lk_X12_257 mv_X12_blame kdM_0 (by decide) rfl (Nat.le_of_ble_eq_true rfl) rfl dX12_number_27 (met_M_blame _ _ _ _ _ hk.wd hm (cIk rfl) g8 e10) (fun hm => ?_)
      exact w_M_number_b30 hk hm cx1 cx2 h
theorem met_M_number (l : Launch) (D : va_G) (aC : Nat → ClassId) (B N : Nat) (hwd : ∀ id, (kdM id).1 ≠ 9 → id < N) {x1 : Int} {x2 : Int} {m : zM} {o : Int × zM} (hm : zG kdM m) (cx1 : cI x1) (cx2 : cI x2) (h : M_number x1 x2 m = some o) : zMet l yX12_number cX12_number 4 (some .int) 2 D aC B kdM N [.ref (B + 0), mI x1, mI x2] m (0, o.1, o.2) := by
  refine zMet.of mf_X12_number hwd hm (Nat.le_of_ble_eq_true rfl) (fun K e1 e2 e3 e4 e5 hk => ?_)
  subst e4
  exact w_M_number hk hm cx1 cx2 h
set_option maxRecDepth 100000 in
set_option maxHeartbeats 4000000 in
theorem w_M_add {K : zK} (hk : zOk K kdM cX12_add 3 none RX12 0)  {x1 : Int} {x2 : Int} {m : zM} {o : zM}  (hm : zG kdM m) (cx1 : cI x1) (cx2 : cI x2) (h : M_add x1 x2 m = some o) : GoAt K m [(0, .ref (kB K + 0)), (1, mI x1), (2, mI x2)] [] 0 (9, 0, o) := by
  unfold M_add at h
  refine g_aload_n hk 0 rfl dX12_add_0 ?_
  refine g_get2 hk fl_X12_93 rfl kdM_0 hm (b := 15) rfl dX12_add_1 ?_
  refine g_sipush hk (v := 1600) rfl dX12_add_4 ?_
  refine g_aload_n hk 0 rfl dX12_add_7 ?_
  have g1 := zGI (i := 32) hm kdM_0 rfl
  refine g_get0 hk fl_X12_109 rfl (j := 32) rfl kdM_0 dX12_add_8 ?_
  refine g_imul hk dX12_add_11 ?_
  refine g_aload_n hk 0 rfl dX12_add_12 ?_
  have g2 := zGI (i := 31) hm kdM_0 rfl
  refine g_get0 hk fl_X12_106 rfl (j := 31) rfl kdM_0 dX12_add_13 ?_
  refine g_iadd hk dX12_add_16 ?_
  refine g_iload_n hk 1 rfl dX12_add_17 ?_
  refine g_iast hk (wI_c _) cx1 kdM_15 hm dX12_add_18 h (fun m3 hm h => ?_)
  refine g_aload_n hk 0 rfl dX12_add_19 ?_
  refine g_get2 hk fl_X12_96 rfl kdM_0 hm (b := 16) rfl dX12_add_20 ?_
  refine g_sipush hk (v := 1600) rfl dX12_add_23 ?_
  refine g_aload_n hk 0 rfl dX12_add_26 ?_
  have g4 := zGI (i := 32) hm kdM_0 rfl
  refine g_get0 hk fl_X12_109 rfl (j := 32) rfl kdM_0 dX12_add_27 ?_
  refine g_imul hk dX12_add_30 ?_
  refine g_aload_n hk 0 rfl dX12_add_31 ?_
  have g5 := zGI (i := 31) hm kdM_0 rfl
  refine g_get0 hk fl_X12_106 rfl (j := 31) rfl kdM_0 dX12_add_32 ?_
  refine g_iadd hk dX12_add_35 ?_
  refine g_iload_n hk 2 rfl dX12_add_36 ?_
  refine g_iast hk (wI_c _) cx2 kdM_16 hm dX12_add_37 h (fun m6 hm h => ?_)
  refine g_aload_n hk 0 rfl dX12_add_38 ?_
  refine g_dup hk rfl dX12_add_39 ?_
  have g7 := zGI (i := 31) hm kdM_0 rfl
  refine g_get0 hk fl_X12_106 rfl (j := 31) rfl kdM_0 dX12_add_40 ?_
  refine g_iconst hk (v := 1) rfl dX12_add_43 ?_
  refine g_iadd hk dX12_add_44 ?_
  refine g_put0 hk fp_X12_106 rfl (j := 31) rfl kdM_0 (wI_c _) dX12_add_45 h hm (fun m8 hm h => ?_)
  exact g_return hk dX12_add_48 (by cases h; rfl)
theorem met_M_add (l : Launch) (D : va_G) (aC : Nat → ClassId) (B N : Nat) (hwd : ∀ id, (kdM id).1 ≠ 9 → id < N) {x1 : Int} {x2 : Int} {m : zM} {o : zM} (hm : zG kdM m) (cx1 : cI x1) (cx2 : cI x2) (h : M_add x1 x2 m = some o) : zMet l yX12_add cX12_add 3 none 0 D aC B kdM N [.ref (B + 0), mI x1, mI x2] m (9, 0, o) := by
  refine zMet.of mf_X12_add hwd hm (Nat.le_of_ble_eq_true rfl) (fun K e1 e2 e3 e4 e5 hk => ?_)
  subst e4
  exact w_M_add hk hm cx1 cx2 h
set_option maxRecDepth 100000 in
set_option maxHeartbeats 4000000 in
theorem w_M_rank {K : zK} (hk : zOk K kdM cX12_rank 1 (some .int) RX12 0)  {x0 : Int} {m : zM} {o : Int}  (hm : zG kdM m) (cx0 : cI x0) (h : M_rank x0 = some o) : GoAt K m [(0, mI x0)] [] 0 (0, o, m) := by
  unfold M_rank at h
  refine g_iload_n hk 0 rfl dX12_rank_0 ?_
  refine g_bipush hk (v := 42) rfl dX12_rank_1 ?_
  refine g_icmp_ne hk cx0 (cIk rfl) dX12_rank_3 h (fun b1 h => ?_) (fun b1 h => ?_)
  · refine g_iconst hk (v := 1) rfl dX12_rank_6 ?_
    refine g_goto hk dX12_rank_7 ?_
    exact g_ireturn hk (cIk rfl) dX12_rank_70 (by cases h; rfl)
  · refine g_iload_n hk 0 rfl dX12_rank_10 ?_
    refine g_bipush hk (v := 41) rfl dX12_rank_11 ?_
    refine g_icmp_ne hk cx0 (cIk rfl) dX12_rank_13 h (fun b2 h => ?_) (fun b2 h => ?_)
    · refine g_iconst hk (v := 2) rfl dX12_rank_16 ?_
      refine g_goto hk dX12_rank_17 ?_
      exact g_ireturn hk (cIk rfl) dX12_rank_70 (by cases h; rfl)
    · refine g_iload_n hk 0 rfl dX12_rank_20 ?_
      refine g_bipush hk (v := 43) rfl dX12_rank_21 ?_
      refine g_icmp_ne hk cx0 (cIk rfl) dX12_rank_23 h (fun b3 h => ?_) (fun b3 h => ?_)
      · refine g_iconst hk (v := 3) rfl dX12_rank_26 ?_
        refine g_goto hk dX12_rank_27 ?_
        exact g_ireturn hk (cIk rfl) dX12_rank_70 (by cases h; rfl)
      · refine g_iload_n hk 0 rfl dX12_rank_30 ?_
        refine g_bipush hk (v := 38) rfl dX12_rank_31 ?_
        refine g_icmp_eq hk cx0 (cIk rfl) dX12_rank_33 h (fun b4 h => ?_) (fun b4 h => ?_)
        · refine g_iconst hk (v := 4) rfl dX12_rank_48 ?_
          refine g_goto hk dX12_rank_49 ?_
          exact g_ireturn hk (cIk rfl) dX12_rank_70 (by cases h; rfl)
        · refine g_iload_n hk 0 rfl dX12_rank_36 ?_
          refine g_bipush hk (v := 39) rfl dX12_rank_37 ?_
          refine g_icmp_eq hk cx0 (cIk rfl) dX12_rank_39 h (fun b5 h => ?_) (fun b5 h => ?_)
          · refine g_iconst hk (v := 4) rfl dX12_rank_48 ?_
            refine g_goto hk dX12_rank_49 ?_
            exact g_ireturn hk (cIk rfl) dX12_rank_70 (by cases h; rfl)
          · refine g_iload_n hk 0 rfl dX12_rank_42 ?_
            refine g_bipush hk (v := 40) rfl dX12_rank_43 ?_
            refine g_icmp_ne hk cx0 (cIk rfl) dX12_rank_45 h (fun b6 h => ?_) (fun b6 h => ?_)
            · refine g_iconst hk (v := 4) rfl dX12_rank_48 ?_
              refine g_goto hk dX12_rank_49 ?_
              exact g_ireturn hk (cIk rfl) dX12_rank_70 (by cases h; rfl)
            · refine g_iload_n hk 0 rfl dX12_rank_52 ?_
              refine g_bipush hk (v := 31) rfl dX12_rank_53 ?_
              refine g_icmp_eq hk cx0 (cIk rfl) dX12_rank_55 h (fun b7 h => ?_) (fun b7 h => ?_)
              · refine g_iconst hk (v := 5) rfl dX12_rank_64 ?_
                refine g_goto hk dX12_rank_65 ?_
                exact g_ireturn hk (cIk rfl) dX12_rank_70 (by cases h; rfl)
              · refine g_iload_n hk 0 rfl dX12_rank_58 ?_
                refine g_bipush hk (v := 32) rfl dX12_rank_59 ?_
                refine g_icmp_ne hk cx0 (cIk rfl) dX12_rank_61 h (fun b8 h => ?_) (fun b8 h => ?_)
                · refine g_iconst hk (v := 5) rfl dX12_rank_64 ?_
                  refine g_goto hk dX12_rank_65 ?_
                  exact g_ireturn hk (cIk rfl) dX12_rank_70 (by cases h; rfl)
                · refine g_bipush hk (v := 6) rfl dX12_rank_68 ?_
                  exact g_ireturn hk (cIk rfl) dX12_rank_70 (by cases h; rfl)
theorem met_M_rank (l : Launch) (D : va_G) (aC : Nat → ClassId) (B N : Nat) (hwd : ∀ id, (kdM id).1 ≠ 9 → id < N) {x0 : Int} {m : zM} {o : Int} (hm : zG kdM m) (cx0 : cI x0) (h : M_rank x0 = some o) : zMet l yX12_rank cX12_rank 1 (some .int) 0 D aC B kdM N [mI x0] m (0, o, m) := by
  refine zMet.of mf_X12_rank hwd hm (Nat.le_of_ble_eq_true rfl) (fun K e1 e2 e3 e4 e5 hk => ?_)
  subst e4
  exact w_M_rank hk hm cx0 h
set_option maxRecDepth 100000 in
set_option maxHeartbeats 4000000 in
theorem w_M_joins_B0 {K : zK} (hk : zOk K kdM cX12_joins 2 none RX12 1) {rec : Int → zM → Option (zM)} {x1 : Int} {m : zM} {o : zM} (hrec : ∀ (x1 : Int) (m : zM), zG kdM m → cI x1 → rec x1 m = some o → GoAt K m [(0, .ref (kB K + 0)), (1, mI x1)] [] 0 (9, 0, o)) (hm : zG kdM m) (cx1 : cI x1) (h : M_joins_B0 rec x1 m = some o) : GoAt K m [(0, .ref (kB K + 0)), (1, mI x1)] [] 0 (9, 0, o) := by
  unfold M_joins_B0 at h
  refine g_aload_n hk 0 rfl dX12_joins_0 ?_
  have g1 := zGI (i := 42) hm kdM_0 rfl
  refine g_get0 hk fl_X12_141 rfl (j := 42) rfl kdM_0 dX12_joins_1 ?_
  refine g_aload_n hk 0 rfl dX12_joins_4 ?_
  refine g_get2 hk fl_X12_129 rfl kdM_0 hm (b := 23) rfl dX12_joins_5 ?_
  refine g_aload_n hk 0 rfl dX12_joins_8 ?_
  have g2 := zGI (i := 39) hm kdM_0 rfl
  refine g_get0 hk fl_X12_132 rfl (j := 39) rfl kdM_0 dX12_joins_9 ?_
  refine g_iconst hk (v := 1) rfl dX12_joins_12 ?_
  refine g_isub hk dX12_joins_13 ?_
  refine g_iald hk (wI_c _) kdM_23 hm dX12_joins_14 h (fun y3 cy3 h => ?_)
  refine g_icmp_le hk g1 cy3 dX12_joins_15 h (fun b4 h => ?_) (fun b4 h => ?_)
  · refine g_aload_n hk 0 rfl dX12_joins_18 ?_
    refine g_get2 hk fl_X12_138 rfl kdM_0 hm (b := 24) rfl dX12_joins_19 ?_
    refine g_aload_n hk 0 rfl dX12_joins_22 ?_
    have g5 := zGI (i := 42) hm kdM_0 rfl
    refine g_get0 hk fl_X12_141 rfl (j := 42) rfl kdM_0 dX12_joins_23 ?_
    refine g_iconst hk (v := 1) rfl dX12_joins_26 ?_
    refine g_isub hk dX12_joins_27 ?_
    refine g_iald hk (wI_c _) kdM_24 hm dX12_joins_28 h (fun y6 cy6 h => ?_)
    obtain ⟨r7, e8, h⟩ := zbind h
    refine g_callSi hk (st := []) mf_X12_rank lk_X12_349 ms_X12_rank (by decide) rfl (Nat.le_of_ble_eq_true rfl) rfl dX12_joins_29 (met_M_rank _ _ _ _ _ hk.wd hm cy6 e8) (fun hm c9 => ?_)
    refine g_iload_n hk 1 rfl dX12_joins_32 ?_
    refine g_icmp_lt hk c9 cx1 dX12_joins_33 h (fun b10 h => ?_) (fun b10 h => ?_)
    · exact g_return hk dX12_joins_87 (by cases h; rfl)
    · refine g_aload_n hk 0 rfl dX12_joins_36 ?_
      refine g_dup hk rfl dX12_joins_37 ?_
      have g11 := zGI (i := 42) hm kdM_0 rfl
      refine g_get0 hk fl_X12_141 rfl (j := 42) rfl kdM_0 dX12_joins_38 ?_
      refine g_iconst hk (v := 1) rfl dX12_joins_41 ?_
      refine g_isub hk dX12_joins_42 ?_
      refine g_put0 hk fp_X12_141 rfl (j := 42) rfl kdM_0 (wI_c _) dX12_joins_43 h hm (fun m12 hm h => ?_)
      refine g_aload_n hk 0 rfl dX12_joins_46 ?_
      refine g_aload_n hk 0 rfl dX12_joins_47 ?_
      refine g_get2 hk fl_X12_138 rfl kdM_0 hm (b := 24) rfl dX12_joins_48 ?_
      refine g_aload_n hk 0 rfl dX12_joins_51 ?_
      have g13 := zGI (i := 42) hm kdM_0 rfl
      refine g_get0 hk fl_X12_141 rfl (j := 42) rfl kdM_0 dX12_joins_52 ?_
      refine g_iald hk g13 kdM_24 hm dX12_joins_55 h (fun y14 cy14 h => ?_)
      refine g_iconst hk (v := 0) rfl dX12_joins_56 ?_
      obtain ⟨r15, e16, h⟩ := zbind h
      refine g_callVv hk (st := []) mf_X12_add lk_X12_352 mv_X12_add kdM_0 (by decide) rfl (Nat.le_of_ble_eq_true rfl) rfl dX12_joins_57 (met_M_add _ _ _ _ _ hk.wd hm cy14 (cIk rfl) e16) (fun hm => ?_)
      refine g_aload_n hk 0 rfl dX12_joins_60 ?_
      refine g_get2 hk fl_X12_138 rfl kdM_0 hm (b := 24) rfl dX12_joins_61 ?_
      refine g_aload_n hk 0 rfl dX12_joins_64 ?_
      have g18 := zGI (i := 42) hm kdM_0 rfl
      refine g_get0 hk fl_X12_141 rfl (j := 42) rfl kdM_0 dX12_joins_65 ?_
      refine g_iald hk g18 kdM_24 hm dX12_joins_68 h (fun y19 cy19 h => ?_)
      refine g_bipush hk (v := 43) rfl dX12_joins_69 ?_
      refine g_icmp_ne hk cy19 (cIk rfl) dX12_joins_71 h (fun b20 h => ?_) (fun b20 h => ?_)
      · refine g_aload_n hk 0 rfl dX12_joins_74 ?_
        refine g_dup hk rfl dX12_joins_75 ?_
        have g21 := zGI (i := 40) hm kdM_0 rfl
        refine g_get0 hk fl_X12_135 rfl (j := 40) rfl kdM_0 dX12_joins_76 ?_
        refine g_iconst hk (v := 1) rfl dX12_joins_79 ?_
        refine g_isub hk dX12_joins_80 ?_
        refine g_put0 hk fp_X12_135 rfl (j := 40) rfl kdM_0 (wI_c _) dX12_joins_81 h hm (fun m22 hm h => ?_)
        refine g_goto hk dX12_joins_84 ?_
        exact hrec _ _ hm cx1 h
      · exact hrec _ _ hm cx1 h
  · exact g_return hk dX12_joins_87 (by cases h; rfl)
theorem w_M_joins_L0 {K : zK} (hk : zOk K kdM cX12_joins 2 none RX12 1)  {o : zM}  : ∀ (n : Nat) (x1 : Int) (m : zM), zG kdM m → cI x1 → M_joins_L0 n x1 m = some o → GoAt K m [(0, .ref (kB K + 0)), (1, mI x1)] [] 0 (9, 0, o)
  | 0, x1, m, hm, cx1, h => by cases h
  | n + 1, x1, m, hm, cx1, h => w_M_joins_B0 hk  (w_M_joins_L0 hk  n) hm cx1 h
set_option maxRecDepth 100000 in
set_option maxHeartbeats 4000000 in
theorem w_M_joins {K : zK} (hk : zOk K kdM cX12_joins 2 none RX12 1)  {x1 : Int} {m : zM} {o : zM}  (hm : zG kdM m) (cx1 : cI x1) (h : M_joins x1 m = some o) : GoAt K m [(0, .ref (kB K + 0)), (1, mI x1)] [] 0 (9, 0, o) := by
  unfold M_joins at h
  refine w_M_joins_L0 hk  1000000 _ _ hm cx1 h
theorem met_M_joins (l : Launch) (D : va_G) (aC : Nat → ClassId) (B N : Nat) (hwd : ∀ id, (kdM id).1 ≠ 9 → id < N) {x1 : Int} {m : zM} {o : zM} (hm : zG kdM m) (cx1 : cI x1) (h : M_joins x1 m = some o) : zMet l yX12_joins cX12_joins 2 none 1 D aC B kdM N [.ref (B + 0), mI x1] m (9, 0, o) := by
  refine zMet.of mf_X12_joins hwd hm (Nat.le_of_ble_eq_true rfl) (fun K e1 e2 e3 e4 e5 hk => ?_)
  subst e4
  exact w_M_joins hk hm cx1 h
set_option maxRecDepth 100000 in
set_option maxHeartbeats 4000000 in
theorem w_M_holdsBack {K : zK} (hk : zOk K kdM cX12_holdsBack 2 none RX12 0)  {x1 : Int} {m : zM} {o : zM}  (hm : zG kdM m) (cx1 : cI x1) (h : M_holdsBack x1 m = some o) : GoAt K m [(0, .ref (kB K + 0)), (1, mI x1)] [] 0 (9, 0, o) := by
  unfold M_holdsBack at h
  refine g_aload_n hk 0 rfl dX12_holdsBack_0 ?_
  refine g_get2 hk fl_X12_138 rfl kdM_0 hm (b := 24) rfl dX12_holdsBack_1 ?_
  refine g_aload_n hk 0 rfl dX12_holdsBack_4 ?_
  have g1 := zGI (i := 42) hm kdM_0 rfl
  refine g_get0 hk fl_X12_141 rfl (j := 42) rfl kdM_0 dX12_holdsBack_5 ?_
  refine g_iload_n hk 1 rfl dX12_holdsBack_8 ?_
  refine g_iast hk g1 cx1 kdM_24 hm dX12_holdsBack_9 h (fun m2 hm h => ?_)
  refine g_aload_n hk 0 rfl dX12_holdsBack_10 ?_
  refine g_dup hk rfl dX12_holdsBack_11 ?_
  have g3 := zGI (i := 42) hm kdM_0 rfl
  refine g_get0 hk fl_X12_141 rfl (j := 42) rfl kdM_0 dX12_holdsBack_12 ?_
  refine g_iconst hk (v := 1) rfl dX12_holdsBack_15 ?_
  refine g_iadd hk dX12_holdsBack_16 ?_
  refine g_put0 hk fp_X12_141 rfl (j := 42) rfl kdM_0 (wI_c _) dX12_holdsBack_17 h hm (fun m4 hm h => ?_)
  exact g_return hk dX12_holdsBack_20 (by cases h; rfl)
theorem met_M_holdsBack (l : Launch) (D : va_G) (aC : Nat → ClassId) (B N : Nat) (hwd : ∀ id, (kdM id).1 ≠ 9 → id < N) {x1 : Int} {m : zM} {o : zM} (hm : zG kdM m) (cx1 : cI x1) (h : M_holdsBack x1 m = some o) : zMet l yX12_holdsBack cX12_holdsBack 2 none 0 D aC B kdM N [.ref (B + 0), mI x1] m (9, 0, o) := by
  refine zMet.of mf_X12_holdsBack hwd hm (Nat.le_of_ble_eq_true rfl) (fun K e1 e2 e3 e4 e5 hk => ?_)
  subst e4
  exact w_M_holdsBack hk hm cx1 h
set_option maxRecDepth 100000 in
set_option maxHeartbeats 4000000 in
theorem w_M_pushes {K : zK} (hk : zOk K kdM cX12_pushes 2 none RX12 0)  {x1 : Int} {m : zM} {o : zM}  (hm : zG kdM m) (cx1 : cI x1) (h : M_pushes x1 m = some o) : GoAt K m [(0, .ref (kB K + 0)), (1, mI x1)] [] 0 (9, 0, o) := by
  unfold M_pushes at h
  refine g_aload_n hk 0 rfl dX12_pushes_0 ?_
  refine g_get2 hk fl_X12_116 rfl kdM_0 hm (b := 19) rfl dX12_pushes_1 ?_
  refine g_aload_n hk 0 rfl dX12_pushes_4 ?_
  have g1 := zGI (i := 39) hm kdM_0 rfl
  refine g_get0 hk fl_X12_132 rfl (j := 39) rfl kdM_0 dX12_pushes_5 ?_
  refine g_iload_n hk 1 rfl dX12_pushes_8 ?_
  refine g_iast hk g1 cx1 kdM_19 hm dX12_pushes_9 h (fun m2 hm h => ?_)
  refine g_aload_n hk 0 rfl dX12_pushes_10 ?_
  refine g_get2 hk fl_X12_119 rfl kdM_0 hm (b := 20) rfl dX12_pushes_11 ?_
  refine g_aload_n hk 0 rfl dX12_pushes_14 ?_
  have g3 := zGI (i := 39) hm kdM_0 rfl
  refine g_get0 hk fl_X12_132 rfl (j := 39) rfl kdM_0 dX12_pushes_15 ?_
  refine g_iconst hk (v := 0) rfl dX12_pushes_18 ?_
  refine g_iast hk g3 (cIk rfl) kdM_20 hm dX12_pushes_19 h (fun m4 hm h => ?_)
  refine g_aload_n hk 0 rfl dX12_pushes_20 ?_
  refine g_get2 hk fl_X12_122 rfl kdM_0 hm (b := 21) rfl dX12_pushes_21 ?_
  refine g_aload_n hk 0 rfl dX12_pushes_24 ?_
  have g5 := zGI (i := 39) hm kdM_0 rfl
  refine g_get0 hk fl_X12_132 rfl (j := 39) rfl kdM_0 dX12_pushes_25 ?_
  refine g_iconst hk (v := 1) rfl dX12_pushes_28 ?_
  refine g_zast hk g5 z1 kdM_21 hm dX12_pushes_29 h (fun m6 hm h => ?_)
  refine g_aload_n hk 0 rfl dX12_pushes_30 ?_
  refine g_get2 hk fl_X12_129 rfl kdM_0 hm (b := 23) rfl dX12_pushes_31 ?_
  refine g_aload_n hk 0 rfl dX12_pushes_34 ?_
  have g7 := zGI (i := 39) hm kdM_0 rfl
  refine g_get0 hk fl_X12_132 rfl (j := 39) rfl kdM_0 dX12_pushes_35 ?_
  refine g_aload_n hk 0 rfl dX12_pushes_38 ?_
  have g8 := zGI (i := 42) hm kdM_0 rfl
  refine g_get0 hk fl_X12_141 rfl (j := 42) rfl kdM_0 dX12_pushes_39 ?_
  refine g_iast hk g7 g8 kdM_23 hm dX12_pushes_42 h (fun m9 hm h => ?_)
  refine g_aload_n hk 0 rfl dX12_pushes_43 ?_
  refine g_dup hk rfl dX12_pushes_44 ?_
  have g10 := zGI (i := 39) hm kdM_0 rfl
  refine g_get0 hk fl_X12_132 rfl (j := 39) rfl kdM_0 dX12_pushes_45 ?_
  refine g_iconst hk (v := 1) rfl dX12_pushes_48 ?_
  refine g_iadd hk dX12_pushes_49 ?_
  refine g_put0 hk fp_X12_132 rfl (j := 39) rfl kdM_0 (wI_c _) dX12_pushes_50 h hm (fun m11 hm h => ?_)
  exact g_return hk dX12_pushes_53 (by cases h; rfl)
theorem met_M_pushes (l : Launch) (D : va_G) (aC : Nat → ClassId) (B N : Nat) (hwd : ∀ id, (kdM id).1 ≠ 9 → id < N) {x1 : Int} {m : zM} {o : zM} (hm : zG kdM m) (cx1 : cI x1) (h : M_pushes x1 m = some o) : zMet l yX12_pushes cX12_pushes 2 none 0 D aC B kdM N [.ref (B + 0), mI x1] m (9, 0, o) := by
  refine zMet.of mf_X12_pushes hwd hm (Nat.le_of_ble_eq_true rfl) (fun K e1 e2 e3 e4 e5 hk => ?_)
  subst e4
  exact w_M_pushes hk hm cx1 h
set_option maxRecDepth 100000 in
set_option maxHeartbeats 4000000 in
theorem w_M_opens_b18 {K : zK} (hk : zOk K kdM cX12_opens 2 none RX12 2)  {x1 : Int} {m : zM} {o : zM}  (hm : zG kdM m) (cx1 : cI x1) (h : M_opens_b18 x1 m = some o) : GoAt K m [(0, .ref (kB K + 0)), (1, mI x1)] [] 18 (9, 0, o) := by
  unfold M_opens_b18 at h
  refine g_aload_n hk 0 rfl dX12_opens_18 ?_
  have g1 := zGI (i := 8) hm kdM_0 rfl
  refine g_get0 hk fl_X12_36 rfl (j := 8) rfl kdM_0 dX12_opens_19 ?_
  refine g_if_le hk g1 dX12_opens_22 h (fun b2 h => ?_) (fun b2 h => ?_)
  · exact g_return hk dX12_opens_25 (by cases h; rfl)
  · refine g_aload_n hk 0 rfl dX12_opens_26 ?_
    refine g_dup hk rfl dX12_opens_27 ?_
    have g3 := zGI (i := 40) hm kdM_0 rfl
    refine g_get0 hk fl_X12_135 rfl (j := 40) rfl kdM_0 dX12_opens_28 ?_
    refine g_iconst hk (v := 1) rfl dX12_opens_31 ?_
    refine g_iadd hk dX12_opens_32 ?_
    refine g_put0 hk fp_X12_135 rfl (j := 40) rfl kdM_0 (wI_c _) dX12_opens_33 h hm (fun m4 hm h => ?_)
    refine g_aload_n hk 0 rfl dX12_opens_36 ?_
    obtain ⟨r5, e6, h⟩ := zbind h
    refine g_callVv hk (st := []) mf_X12_ahead lk_X12_274 mv_X12_ahead kdM_0 (by decide) rfl (Nat.le_of_ble_eq_true rfl) rfl dX12_opens_37 (met_M_ahead _ _ _ _ _ hk.wd hm e6) (fun hm => ?_)
    refine g_aload_n hk 0 rfl dX12_opens_40 ?_
    refine g_iload_n hk 1 rfl dX12_opens_41 ?_
    obtain ⟨r8, e9, h⟩ := zbind h
    refine g_callVv hk (st := []) mf_X12_pushes lk_X12_355 mv_X12_pushes kdM_0 (by decide) rfl (Nat.le_of_ble_eq_true rfl) rfl dX12_opens_42 (met_M_pushes _ _ _ _ _ hk.wd hm cx1 e9) (fun hm => ?_)
    exact g_return hk dX12_opens_45 (by cases h; rfl)
set_option maxRecDepth 100000 in
set_option maxHeartbeats 4000000 in
theorem w_M_opens {K : zK} (hk : zOk K kdM cX12_opens 2 none RX12 2)  {x1 : Int} {m : zM} {o : zM}  (hm : zG kdM m) (cx1 : cI x1) (h : M_opens x1 m = some o) : GoAt K m [(0, .ref (kB K + 0)), (1, mI x1)] [] 0 (9, 0, o) := by
  unfold M_opens at h
  refine g_aload_n hk 0 rfl dX12_opens_0 ?_
  have g1 := zGI (i := 40) hm kdM_0 rfl
  refine g_get0 hk fl_X12_135 rfl (j := 40) rfl kdM_0 dX12_opens_1 ?_
  refine g_bipush hk (v := 7) rfl dX12_opens_4 ?_
  refine g_icmp_ne hk g1 (cIk rfl) dX12_opens_6 h (fun b2 h => ?_) (fun b2 h => ?_)
  · refine g_aload_n hk 0 rfl dX12_opens_9 ?_
    refine g_iconst hk (v := 5) rfl dX12_opens_10 ?_
    refine g_aload_n hk 0 rfl dX12_opens_11 ?_
    have g3 := zGI (i := 4) hm kdM_0 rfl
    refine g_get0 hk fl_X12_23 rfl (j := 4) rfl kdM_0 dX12_opens_12 ?_
    obtain ⟨r4, e5, h⟩ := zbind h
    refine g_callVv hk (st := []) mf_X12_blame lk_X12_257 mv_X12_blame kdM_0 (by decide) rfl (Nat.le_of_ble_eq_true rfl) rfl dX12_opens_15 (met_M_blame _ _ _ _ _ hk.wd hm (cIk rfl) g3 e5) (fun hm => ?_)
    exact w_M_opens_b18 hk hm cx1 h
  · exact w_M_opens_b18 hk hm cx1 h
theorem met_M_opens (l : Launch) (D : va_G) (aC : Nat → ClassId) (B N : Nat) (hwd : ∀ id, (kdM id).1 ≠ 9 → id < N) {x1 : Int} {m : zM} {o : zM} (hm : zG kdM m) (cx1 : cI x1) (h : M_opens x1 m = some o) : zMet l yX12_opens cX12_opens 2 none 2 D aC B kdM N [.ref (B + 0), mI x1] m (9, 0, o) := by
  refine zMet.of mf_X12_opens hwd hm (Nat.le_of_ble_eq_true rfl) (fun K e1 e2 e3 e4 e5 hk => ?_)
  subst e4
  exact w_M_opens hk hm cx1 h
set_option maxRecDepth 100000 in
set_option maxHeartbeats 4000000 in
theorem w_M_isTest {K : zK} (hk : zOk K kdM cX12_isTest 1 (some .boolean) RX12 0)  {x0 : Int} {m : zM} {o : Int}  (hm : zG kdM m) (cx0 : cI x0) (h : M_isTest x0 = some o) : GoAt K m [(0, mI x0)] [] 0 (4, o, m) := by
  unfold M_isTest at h
  refine g_iload_n hk 0 rfl dX12_isTest_0 ?_
  refine g_iconst hk (v := 1) rfl dX12_isTest_1 ?_
  refine g_icmp_eq hk cx0 (cIk rfl) dX12_isTest_2 h (fun b1 h => ?_) (fun b1 h => ?_)
  · refine g_iconst hk (v := 1) rfl dX12_isTest_16 ?_
    refine g_goto hk dX12_isTest_17 ?_
    exact g_zreturn hk z1 dX12_isTest_21 (by cases h; rfl)
  · refine g_iload_n hk 0 rfl dX12_isTest_5 ?_
    refine g_iconst hk (v := 5) rfl dX12_isTest_6 ?_
    refine g_icmp_eq hk cx0 (cIk rfl) dX12_isTest_7 h (fun b2 h => ?_) (fun b2 h => ?_)
    · refine g_iconst hk (v := 1) rfl dX12_isTest_16 ?_
      refine g_goto hk dX12_isTest_17 ?_
      exact g_zreturn hk z1 dX12_isTest_21 (by cases h; rfl)
    · refine g_iload_n hk 0 rfl dX12_isTest_10 ?_
      refine g_bipush hk (v := 6) rfl dX12_isTest_11 ?_
      refine g_icmp_ne hk cx0 (cIk rfl) dX12_isTest_13 h (fun b3 h => ?_) (fun b3 h => ?_)
      · refine g_iconst hk (v := 1) rfl dX12_isTest_16 ?_
        refine g_goto hk dX12_isTest_17 ?_
        exact g_zreturn hk z1 dX12_isTest_21 (by cases h; rfl)
      · refine g_iconst hk (v := 0) rfl dX12_isTest_20 ?_
        exact g_zreturn hk z0 dX12_isTest_21 (by cases h; rfl)
theorem met_M_isTest (l : Launch) (D : va_G) (aC : Nat → ClassId) (B N : Nat) (hwd : ∀ id, (kdM id).1 ≠ 9 → id < N) {x0 : Int} {m : zM} {o : Int} (hm : zG kdM m) (cx0 : cI x0) (h : M_isTest x0 = some o) : zMet l yX12_isTest cX12_isTest 1 (some .boolean) 0 D aC B kdM N [mI x0] m (4, o, m) := by
  refine zMet.of mf_X12_isTest hwd hm (Nat.le_of_ble_eq_true rfl) (fun K e1 e2 e3 e4 e5 hk => ?_)
  subst e4
  exact w_M_isTest hk hm cx0 h
set_option maxRecDepth 100000 in
set_option maxHeartbeats 4000000 in
theorem w_M_operand_b486 {K : zK} (hk : zOk K kdM cX12_operand 4 (some .boolean) RX12 3)  {x3 : Int} {m : zM} {o : Int × zM}  (hm : zG kdM m) (cx3 : cI x3) (h : M_operand_b486 x3 m = some o) : GoAt K m [(0, .ref (kB K + 0)), (3, mI x3)] [] 486 (4, o.1, o.2) := by
  unfold M_operand_b486 at h
  refine g_aload_n hk 0 rfl dX12_operand_486 ?_
  have g1 := zGI (i := 8) hm kdM_0 rfl
  refine g_get0 hk fl_X12_36 rfl (j := 8) rfl kdM_0 dX12_operand_487 ?_
  refine g_if_le hk g1 dX12_operand_490 h (fun b2 h => ?_) (fun b2 h => ?_)
  · refine g_iconst hk (v := 1) rfl dX12_operand_493 ?_
    exact g_zreturn hk z1 dX12_operand_494 (by cases h; rfl)
  · refine g_aload_n hk 0 rfl dX12_operand_495 ?_
    refine g_iload_n hk 1 rfl dX12_operand_496 ?_
    refine g_aload_n hk 0 rfl dX12_operand_497 ?_
    have g3 := zGI (i := 6) hm kdM_0 rfl
    refine g_get0 hk fl_X12_29 rfl (j := 6) rfl kdM_0 dX12_operand_498 ?_
    obtain ⟨r4, e5, h⟩ := zbind h
    refine g_callVv hk (st := []) mf_X12_add lk_X12_352 mv_X12_add kdM_0 (by decide) rfl (Nat.le_of_ble_eq_true rfl) rfl dX12_operand_501 (met_M_add _ _ _ _ _ hk.wd hm cx3 g3 e5) (fun hm => ?_)
    refine g_aload_n hk 0 rfl dX12_operand_504 ?_
    obtain ⟨r7, e8, h⟩ := zbind h
    refine g_callVv hk (st := []) mf_X12_ahead lk_X12_274 mv_X12_ahead kdM_0 (by decide) rfl (Nat.le_of_ble_eq_true rfl) rfl dX12_operand_505 (met_M_ahead _ _ _ _ _ hk.wd hm e8) (fun hm => ?_)
    refine g_iconst hk (v := 1) rfl dX12_operand_508 ?_
    exact g_zreturn hk z1 dX12_operand_509 (by cases h; rfl)
set_option maxRecDepth 100000 in
set_option maxHeartbeats 4000000 in
theorem w_M_operand_b472 {K : zK} (hk : zOk K kdM cX12_operand 4 (some .boolean) RX12 3)  {x3 : Int} {m : zM} {o : Int × zM}  (hm : zG kdM m) (cx3 : cI x3) (h : M_operand_b472 x3 m = some o) : GoAt K m [(0, .ref (kB K + 0)), (3, mI x3)] [] 472 (4, o.1, o.2) := by
  unfold M_operand_b472 at h
  refine g_iload_n hk 1 rfl dX12_operand_472 ?_
  refine g_iconst hk (v := (-1)) rfl dX12_operand_473 ?_
  refine g_icmp_ne hk cx3 (cIk rfl) dX12_operand_474 h (fun b1 h => ?_) (fun b1 h => ?_)
  · refine g_aload_n hk 0 rfl dX12_operand_477 ?_
    refine g_iconst hk (v := 1) rfl dX12_operand_478 ?_
    refine g_aload_n hk 0 rfl dX12_operand_479 ?_
    have g2 := zGI (i := 4) hm kdM_0 rfl
    refine g_get0 hk fl_X12_23 rfl (j := 4) rfl kdM_0 dX12_operand_480 ?_
    obtain ⟨r3, e4, h⟩ := zbind h
    refine g_callVv hk (st := []) mf_X12_blame lk_X12_257 mv_X12_blame kdM_0 (by decide) rfl (Nat.le_of_ble_eq_true rfl) rfl dX12_operand_483 (met_M_blame _ _ _ _ _ hk.wd hm (cIk rfl) g2 e4) (fun hm => ?_)
    exact w_M_operand_b486 hk hm cx3 h
  · exact w_M_operand_b486 hk hm cx3 h
set_option maxRecDepth 100000 in
set_option maxHeartbeats 4000000 in
theorem w_M_operand_b456 {K : zK} (hk : zOk K kdM cX12_operand 4 (some .boolean) RX12 3)  {s0 : Int} {m : zM} {o : Int × zM}  (hm : zG kdM m) (cs0 : cI s0) (h : M_operand_b456 s0 m = some o) : GoAt K m [(0, .ref (kB K + 0))] [mI s0] 456 (4, o.1, o.2) := by
  unfold M_operand_b456 at h
  refine g_istore_n hk rfl (lv' := [(3, mI s0), (0, .ref (kB K + 0))]) (Nat.le_of_ble_eq_true rfl) rfl dX12_operand_456 ?_
  refine g_iload_n hk 0 rfl dX12_operand_457 ?_
  refine g_bipush hk (v := 6) rfl dX12_operand_458 ?_
  refine g_icmp_le hk cs0 (cIk rfl) dX12_operand_460 h (fun b1 h => ?_) (fun b1 h => ?_)
  · refine g_aload_n hk 1 rfl dX12_operand_463 ?_
    have g2 := zGZ (i := 33) hm kdM_0 rfl
    refine g_get4 hk fl_X12_112 rfl (j := 33) rfl kdM_0 dX12_operand_464 ?_
    refine g_if_ne hk (b01 g2) dX12_operand_467 h (fun b3 h => ?_) (fun b3 h => ?_)
    · refine g_iconst hk (v := (-1)) rfl dX12_operand_470 ?_
      refine g_istore_n hk rfl (lv' := [(3, mI ((-1))), (0, .ref (kB K + 0))]) (Nat.le_of_ble_eq_true rfl) rfl dX12_operand_471 ?_
      refine GoAt.sub [1, 0] rfl ?_
      exact w_M_operand_b472 hk hm (cIk rfl) h
    · refine GoAt.sub [1, 0] rfl ?_
      exact w_M_operand_b472 hk hm cs0 h
  · refine GoAt.sub [1, 0] rfl ?_
    exact w_M_operand_b472 hk hm cs0 h
set_option maxRecDepth 100000 in
set_option maxHeartbeats 4000000 in
theorem w_M_operand_b289 {K : zK} (hk : zOk K kdM cX12_operand 4 (some .boolean) RX12 3)  {x3 : Int} {s1 : Int} {m : zM} {o : Int × zM}  (hm : zG kdM m) (cx3 : cI x3) (cs1 : cI s1) (h : M_operand_b289 x3 s1 m = some o) : GoAt K m [(0, .ref (kB K + 0)), (3, mI x3)] [mI s1, .ref (kB K + 0)] 289 (4, o.1, o.2) := by
  unfold M_operand_b289 at h
  obtain ⟨r1, e2, h⟩ := zbind h
  refine g_callVv hk (st := []) mf_X12_opens lk_X12_368 mv_X12_opens kdM_0 (by decide) rfl (Nat.le_of_ble_eq_true rfl) rfl dX12_operand_289 (met_M_opens _ _ _ _ _ hk.wd hm cs1 e2) (fun hm => ?_)
  refine g_aload_n hk 0 rfl dX12_operand_292 ?_
  have g4 := zGI (i := 8) hm kdM_0 rfl
  refine g_get0 hk fl_X12_36 rfl (j := 8) rfl kdM_0 dX12_operand_293 ?_
  refine g_if_ne hk g4 dX12_operand_296 h (fun b5 h => ?_) (fun b5 h => ?_)
  · refine g_aload_n hk 0 rfl dX12_operand_299 ?_
    refine g_get2 hk fl_X12_126 rfl kdM_0 hm (b := 22) rfl dX12_operand_300 ?_
    refine g_aload_n hk 0 rfl dX12_operand_303 ?_
    have g6 := zGI (i := 39) hm kdM_0 rfl
    refine g_get0 hk fl_X12_132 rfl (j := 39) rfl kdM_0 dX12_operand_304 ?_
    refine g_iconst hk (v := 1) rfl dX12_operand_307 ?_
    refine g_isub hk dX12_operand_308 ?_
    refine g_iload_n hk 1 rfl dX12_operand_309 ?_
    refine g_iast hk (wI_c _) cx3 kdM_22 hm dX12_operand_310 h (fun m7 hm h => ?_)
    refine g_iconst hk (v := 0) rfl dX12_operand_311 ?_
    exact g_zreturn hk z0 dX12_operand_312 (by cases h; rfl)
  · refine g_iconst hk (v := 0) rfl dX12_operand_311 ?_
    exact g_zreturn hk z0 dX12_operand_312 (by cases h; rfl)
set_option maxRecDepth 100000 in
set_option maxHeartbeats 4000000 in
theorem w_M_operand_b276 {K : zK} (hk : zOk K kdM cX12_operand 4 (some .boolean) RX12 3)  {x3 : Int} {m : zM} {o : Int × zM}  (hm : zG kdM m) (cx3 : cI x3) (h : M_operand_b276 x3 m = some o) : GoAt K m [(0, .ref (kB K + 0)), (3, mI x3)] [] 276 (4, o.1, o.2) := by
  unfold M_operand_b276 at h
  refine g_aload_n hk 0 rfl dX12_operand_276 ?_
  refine g_iload_n hk 1 rfl dX12_operand_277 ?_
  refine g_bipush hk (v := 44) rfl dX12_operand_278 ?_
  refine g_icmp_ne hk cx3 (cIk rfl) dX12_operand_280 h (fun b1 h => ?_) (fun b1 h => ?_)
  · refine g_bipush hk (v := 6) rfl dX12_operand_283 ?_
    refine g_goto hk dX12_operand_285 ?_
    exact w_M_operand_b289 hk hm cx3 (cIk rfl) h
  · refine g_iconst hk (v := 3) rfl dX12_operand_288 ?_
    exact w_M_operand_b289 hk hm cx3 (cIk rfl) h
set_option maxRecDepth 100000 in
set_option maxHeartbeats 4000000 in
theorem w_M_operand_b249 {K : zK} (hk : zOk K kdM cX12_operand 4 (some .boolean) RX12 3)  {s0 : Int} {m : zM} {o : Int × zM}  (hm : zG kdM m) (cs0 : cI s0) (h : M_operand_b249 s0 m = some o) : GoAt K m [(0, .ref (kB K + 0))] [mI s0] 249 (4, o.1, o.2) := by
  unfold M_operand_b249 at h
  refine g_istore_n hk rfl (lv' := [(3, mI s0), (0, .ref (kB K + 0))]) (Nat.le_of_ble_eq_true rfl) rfl dX12_operand_249 ?_
  refine g_aload_n hk 1 rfl dX12_operand_250 ?_
  obtain ⟨r1, e2, h⟩ := zbind h
  refine g_callVv hk (st := []) mf_X12_ahead lk_X12_274 mv_X12_ahead kdM_0 (by decide) rfl (Nat.le_of_ble_eq_true rfl) rfl dX12_operand_251 (met_M_ahead _ _ _ _ _ hk.wd hm e2) (fun hm => ?_)
  refine g_aload_n hk 1 rfl dX12_operand_254 ?_
  obtain ⟨r4, e5, h⟩ := zbind h
  refine g_callVv hk (st := []) mf_X12_lex lk_X12_268 mv_X12_lex kdM_0 (by decide) rfl (Nat.le_of_ble_eq_true rfl) rfl dX12_operand_255 (met_M_lex _ _ _ _ _ hk.wd hm e5) (fun hm => ?_)
  refine g_aload_n hk 1 rfl dX12_operand_258 ?_
  refine g_bipush hk (v := 40) rfl dX12_operand_259 ?_
  obtain ⟨r7, e8, h⟩ := zbind h
  refine g_callVz hk (st := []) mf_X12_isSign lk_X12_271 mv_X12_isSign kdM_0 (by decide) rfl (Nat.le_of_ble_eq_true rfl) rfl dX12_operand_261 (met_M_isSign _ _ _ _ _ hk.wd hm (cIk rfl) e8) (fun hm c9 => ?_)
  refine g_if_ne hk (b01 c9) dX12_operand_264 h (fun b10 h => ?_) (fun b10 h => ?_)
  · refine g_aload_n hk 1 rfl dX12_operand_267 ?_
    refine g_iconst hk (v := 1) rfl dX12_operand_268 ?_
    refine g_aload_n hk 1 rfl dX12_operand_269 ?_
    have g11 := zGI (i := 4) hm kdM_0 rfl
    refine g_get0 hk fl_X12_23 rfl (j := 4) rfl kdM_0 dX12_operand_270 ?_
    obtain ⟨r12, e13, h⟩ := zbind h
    refine g_callVv hk (st := []) mf_X12_blame lk_X12_257 mv_X12_blame kdM_0 (by decide) rfl (Nat.le_of_ble_eq_true rfl) rfl dX12_operand_273 (met_M_blame _ _ _ _ _ hk.wd hm (cIk rfl) g11 e13) (fun hm => ?_)
    refine GoAt.sub [1, 0] rfl ?_
    exact w_M_operand_b276 hk hm cs0 h
  · refine GoAt.sub [1, 0] rfl ?_
    exact w_M_operand_b276 hk hm cs0 h
set_option maxRecDepth 100000 in
set_option maxHeartbeats 4000000 in
theorem w_M_operand_b217 {K : zK} (hk : zOk K kdM cX12_operand 4 (some .boolean) RX12 3)  {m : zM} {o : Int × zM}  (hm : zG kdM m)  (h : M_operand_b217 m = some o) : GoAt K m [(0, .ref (kB K + 0))] [] 217 (4, o.1, o.2) := by
  unfold M_operand_b217 at h
  refine g_aload_n hk 0 rfl dX12_operand_217 ?_
  refine g_ldc2 hk (v := 7170414) cn_X12_333 dX12_operand_218 ?_
  obtain ⟨r1, e2, h⟩ := zbind h
  refine g_callVz hk (st := []) mf_X12_isWord lk_X12_361 mv_X12_isWord kdM_0 (by decide) rfl (Nat.le_of_ble_eq_true rfl) rfl dX12_operand_221 (met_M_isWord _ _ _ _ _ hk.wd hm (cLk rfl) e2) (fun hm c3 => ?_)
  refine g_if_eq hk (b01 c3) dX12_operand_224 h (fun b4 h => ?_) (fun b4 h => ?_)
  · refine g_aload_n hk 0 rfl dX12_operand_232 ?_
    refine g_ldc2 hk (v := 7168376) cn_X12_335 dX12_operand_233 ?_
    obtain ⟨r5, e6, h⟩ := zbind h
    refine g_callVz hk (st := []) mf_X12_isWord lk_X12_361 mv_X12_isWord kdM_0 (by decide) rfl (Nat.le_of_ble_eq_true rfl) rfl dX12_operand_236 (met_M_isWord _ _ _ _ _ hk.wd hm (cLk rfl) e6) (fun hm c7 => ?_)
    refine g_if_eq hk (b01 c7) dX12_operand_239 h (fun b8 h => ?_) (fun b8 h => ?_)
    · refine g_bipush hk (v := 44) rfl dX12_operand_247 ?_
      exact w_M_operand_b249 hk hm (cIk rfl) h
    · refine g_bipush hk (v := 37) rfl dX12_operand_242 ?_
      refine g_goto hk dX12_operand_244 ?_
      exact w_M_operand_b249 hk hm (cIk rfl) h
  · refine g_bipush hk (v := 36) rfl dX12_operand_227 ?_
    refine g_goto hk dX12_operand_229 ?_
    exact w_M_operand_b249 hk hm (cIk rfl) h
set_option maxRecDepth 100000 in
set_option maxHeartbeats 4000000 in
theorem w_M_operand_b171 {K : zK} (hk : zOk K kdM cX12_operand 4 (some .boolean) RX12 3)  {m : zM} {o : Int × zM}  (hm : zG kdM m)  (h : M_operand_b171 m = some o) : GoAt K m [(0, .ref (kB K + 0))] [] 171 (4, o.1, o.2) := by
  unfold M_operand_b171 at h
  refine g_aload_n hk 0 rfl dX12_operand_171 ?_
  refine g_bipush hk (v := 40) rfl dX12_operand_172 ?_
  obtain ⟨r1, e2, h⟩ := zbind h
  refine g_callVz hk (st := []) mf_X12_isSign lk_X12_271 mv_X12_isSign kdM_0 (by decide) rfl (Nat.le_of_ble_eq_true rfl) rfl dX12_operand_174 (met_M_isSign _ _ _ _ _ hk.wd hm (cIk rfl) e2) (fun hm c3 => ?_)
  refine g_if_eq hk (b01 c3) dX12_operand_177 h (fun b4 h => ?_) (fun b4 h => ?_)
  · refine g_aload_n hk 0 rfl dX12_operand_187 ?_
    refine g_ldc2 hk (v := 7170414) cn_X12_333 dX12_operand_188 ?_
    obtain ⟨r5, e6, h⟩ := zbind h
    refine g_callVz hk (st := []) mf_X12_isWord lk_X12_361 mv_X12_isWord kdM_0 (by decide) rfl (Nat.le_of_ble_eq_true rfl) rfl dX12_operand_191 (met_M_isWord _ _ _ _ _ hk.wd hm (cLk rfl) e6) (fun hm c7 => ?_)
    refine g_if_ne hk (b01 c7) dX12_operand_194 h (fun b8 h => ?_) (fun b8 h => ?_)
    · refine g_aload_n hk 0 rfl dX12_operand_197 ?_
      refine g_ldc2 hk (v := 7168376) cn_X12_335 dX12_operand_198 ?_
      obtain ⟨r9, e10, h⟩ := zbind h
      refine g_callVz hk (st := []) mf_X12_isWord lk_X12_361 mv_X12_isWord kdM_0 (by decide) rfl (Nat.le_of_ble_eq_true rfl) rfl dX12_operand_201 (met_M_isWord _ _ _ _ _ hk.wd hm (cLk rfl) e10) (fun hm c11 => ?_)
      refine g_if_ne hk (b01 c11) dX12_operand_204 h (fun b12 h => ?_) (fun b12 h => ?_)
      · refine g_aload_n hk 0 rfl dX12_operand_207 ?_
        refine g_ldc2 hk (v := 26982) cn_X12_323 dX12_operand_208 ?_
        obtain ⟨r13, e14, h⟩ := zbind h
        refine g_callVz hk (st := []) mf_X12_isWord lk_X12_361 mv_X12_isWord kdM_0 (by decide) rfl (Nat.le_of_ble_eq_true rfl) rfl dX12_operand_211 (met_M_isWord _ _ _ _ _ hk.wd hm (cLk rfl) e14) (fun hm c15 => ?_)
        refine g_if_eq hk (b01 c15) dX12_operand_214 h (fun b16 h => ?_) (fun b16 h => ?_)
        · refine g_aload_n hk 0 rfl dX12_operand_313 ?_
          have g17 := zGI (i := 3) hm kdM_0 rfl
          refine g_get0 hk fl_X12_20 rfl (j := 3) rfl kdM_0 dX12_operand_314 ?_
          refine g_iconst hk (v := 2) rfl dX12_operand_317 ?_
          refine g_icmp_ne hk g17 (cIk rfl) dX12_operand_318 h (fun b18 h => ?_) (fun b18 h => ?_)
          · refine g_iconst hk (v := 0) rfl dX12_operand_321 ?_
            refine g_goto hk dX12_operand_322 ?_
            exact w_M_operand_b456 hk hm (cIk rfl) h
          · refine g_aload_n hk 0 rfl dX12_operand_325 ?_
            refine g_ldc2 hk (v := 495891084403) cn_X12_307 dX12_operand_326 ?_
            obtain ⟨r19, e20, h⟩ := zbind h
            refine g_callVz hk (st := []) mf_X12_isWord lk_X12_361 mv_X12_isWord kdM_0 (by decide) rfl (Nat.le_of_ble_eq_true rfl) rfl dX12_operand_329 (met_M_isWord _ _ _ _ _ hk.wd hm (cLk rfl) e20) (fun hm c21 => ?_)
            refine g_if_eq hk (b01 c21) dX12_operand_332 h (fun b22 h => ?_) (fun b22 h => ?_)
            · refine g_aload_n hk 0 rfl dX12_operand_339 ?_
              refine g_ldc2 hk (v := 7561591) cn_X12_309 dX12_operand_340 ?_
              obtain ⟨r23, e24, h⟩ := zbind h
              refine g_callVz hk (st := []) mf_X12_isWord lk_X12_361 mv_X12_isWord kdM_0 (by decide) rfl (Nat.le_of_ble_eq_true rfl) rfl dX12_operand_343 (met_M_isWord _ _ _ _ _ hk.wd hm (cLk rfl) e24) (fun hm c25 => ?_)
              refine g_if_eq hk (b01 c25) dX12_operand_346 h (fun b26 h => ?_) (fun b26 h => ?_)
              · refine g_aload_n hk 0 rfl dX12_operand_353 ?_
                refine g_ldc2 hk (v := 1752135026) cn_X12_311 dX12_operand_354 ?_
                obtain ⟨r27, e28, h⟩ := zbind h
                refine g_callVz hk (st := []) mf_X12_isWord lk_X12_361 mv_X12_isWord kdM_0 (by decide) rfl (Nat.le_of_ble_eq_true rfl) rfl dX12_operand_357 (met_M_isWord _ _ _ _ _ hk.wd hm (cLk rfl) e28) (fun hm c29 => ?_)
                refine g_if_eq hk (b01 c29) dX12_operand_360 h (fun b30 h => ?_) (fun b30 h => ?_)
                · refine g_aload_n hk 0 rfl dX12_operand_367 ?_
                  refine g_ldc2 hk (v := 465726040947) cn_X12_313 dX12_operand_368 ?_
                  obtain ⟨r31, e32, h⟩ := zbind h
                  refine g_callVz hk (st := []) mf_X12_isWord lk_X12_361 mv_X12_isWord kdM_0 (by decide) rfl (Nat.le_of_ble_eq_true rfl) rfl dX12_operand_371 (met_M_isWord _ _ _ _ _ hk.wd hm (cLk rfl) e32) (fun hm c33 => ?_)
                  refine g_if_eq hk (b01 c33) dX12_operand_374 h (fun b34 h => ?_) (fun b34 h => ?_)
                  · refine g_aload_n hk 0 rfl dX12_operand_381 ?_
                    refine g_ldc2 hk (v := 495756602476) cn_X12_315 dX12_operand_382 ?_
                    obtain ⟨r35, e36, h⟩ := zbind h
                    refine g_callVz hk (st := []) mf_X12_isWord lk_X12_361 mv_X12_isWord kdM_0 (by decide) rfl (Nat.le_of_ble_eq_true rfl) rfl dX12_operand_385 (met_M_isWord _ _ _ _ _ hk.wd hm (cLk rfl) e36) (fun hm c37 => ?_)
                    refine g_if_eq hk (b01 c37) dX12_operand_388 h (fun b38 h => ?_) (fun b38 h => ?_)
                    · refine g_aload_n hk 0 rfl dX12_operand_395 ?_
                      refine g_ldc2 hk (v := 1952541803) cn_X12_317 dX12_operand_396 ?_
                      obtain ⟨r39, e40, h⟩ := zbind h
                      refine g_callVz hk (st := []) mf_X12_isWord lk_X12_361 mv_X12_isWord kdM_0 (by decide) rfl (Nat.le_of_ble_eq_true rfl) rfl dX12_operand_399 (met_M_isWord _ _ _ _ _ hk.wd hm (cLk rfl) e40) (fun hm c41 => ?_)
                      refine g_if_eq hk (b01 c41) dX12_operand_402 h (fun b42 h => ?_) (fun b42 h => ?_)
                      · refine g_aload_n hk 0 rfl dX12_operand_410 ?_
                        refine g_ldc2 hk (v := 119200029437543) cn_X12_319 dX12_operand_411 ?_
                        obtain ⟨r43, e44, h⟩ := zbind h
                        refine g_callVz hk (st := []) mf_X12_isWord lk_X12_361 mv_X12_isWord kdM_0 (by decide) rfl (Nat.le_of_ble_eq_true rfl) rfl dX12_operand_414 (met_M_isWord _ _ _ _ _ hk.wd hm (cLk rfl) e44) (fun hm c45 => ?_)
                        refine g_if_eq hk (b01 c45) dX12_operand_417 h (fun b46 h => ?_) (fun b46 h => ?_)
                        · refine g_aload_n hk 0 rfl dX12_operand_425 ?_
                          refine g_ldc2 hk (v := 439787549299) cn_X12_291 dX12_operand_426 ?_
                          obtain ⟨r47, e48, h⟩ := zbind h
                          refine g_callVz hk (st := []) mf_X12_isWord lk_X12_361 mv_X12_isWord kdM_0 (by decide) rfl (Nat.le_of_ble_eq_true rfl) rfl dX12_operand_429 (met_M_isWord _ _ _ _ _ hk.wd hm (cLk rfl) e48) (fun hm c49 => ?_)
                          refine g_if_eq hk (b01 c49) dX12_operand_432 h (fun b50 h => ?_) (fun b50 h => ?_)
                          · refine g_aload_n hk 0 rfl dX12_operand_440 ?_
                            refine g_ldc2 hk (v := 1718773093) cn_X12_321 dX12_operand_441 ?_
                            obtain ⟨r51, e52, h⟩ := zbind h
                            refine g_callVz hk (st := []) mf_X12_isWord lk_X12_361 mv_X12_isWord kdM_0 (by decide) rfl (Nat.le_of_ble_eq_true rfl) rfl dX12_operand_444 (met_M_isWord _ _ _ _ _ hk.wd hm (cLk rfl) e52) (fun hm c53 => ?_)
                            refine g_if_eq hk (b01 c53) dX12_operand_447 h (fun b54 h => ?_) (fun b54 h => ?_)
                            · refine g_iconst hk (v := (-1)) rfl dX12_operand_455 ?_
                              exact w_M_operand_b456 hk hm (cIk rfl) h
                            · refine g_bipush hk (v := 9) rfl dX12_operand_450 ?_
                              refine g_goto hk dX12_operand_452 ?_
                              exact w_M_operand_b456 hk hm (cIk rfl) h
                          · refine g_bipush hk (v := 8) rfl dX12_operand_435 ?_
                            refine g_goto hk dX12_operand_437 ?_
                            exact w_M_operand_b456 hk hm (cIk rfl) h
                        · refine g_bipush hk (v := 7) rfl dX12_operand_420 ?_
                          refine g_goto hk dX12_operand_422 ?_
                          exact w_M_operand_b456 hk hm (cIk rfl) h
                      · refine g_bipush hk (v := 6) rfl dX12_operand_405 ?_
                        refine g_goto hk dX12_operand_407 ?_
                        exact w_M_operand_b456 hk hm (cIk rfl) h
                    · refine g_iconst hk (v := 5) rfl dX12_operand_391 ?_
                      refine g_goto hk dX12_operand_392 ?_
                      exact w_M_operand_b456 hk hm (cIk rfl) h
                  · refine g_iconst hk (v := 4) rfl dX12_operand_377 ?_
                    refine g_goto hk dX12_operand_378 ?_
                    exact w_M_operand_b456 hk hm (cIk rfl) h
                · refine g_iconst hk (v := 3) rfl dX12_operand_363 ?_
                  refine g_goto hk dX12_operand_364 ?_
                  exact w_M_operand_b456 hk hm (cIk rfl) h
              · refine g_iconst hk (v := 2) rfl dX12_operand_349 ?_
                refine g_goto hk dX12_operand_350 ?_
                exact w_M_operand_b456 hk hm (cIk rfl) h
            · refine g_iconst hk (v := 1) rfl dX12_operand_335 ?_
              refine g_goto hk dX12_operand_336 ?_
              exact w_M_operand_b456 hk hm (cIk rfl) h
        · exact w_M_operand_b217 hk hm h
      · exact w_M_operand_b217 hk hm h
    · exact w_M_operand_b217 hk hm h
  · refine g_aload_n hk 0 rfl dX12_operand_180 ?_
    refine g_iconst hk (v := 2) rfl dX12_operand_181 ?_
    obtain ⟨r55, e56, h⟩ := zbind h
    refine g_callVv hk (st := []) mf_X12_opens lk_X12_368 mv_X12_opens kdM_0 (by decide) rfl (Nat.le_of_ble_eq_true rfl) rfl dX12_operand_182 (met_M_opens _ _ _ _ _ hk.wd hm (cIk rfl) e56) (fun hm => ?_)
    refine g_iconst hk (v := 0) rfl dX12_operand_185 ?_
    exact g_zreturn hk z0 dX12_operand_186 (by cases h; rfl)
set_option maxRecDepth 100000 in
set_option maxHeartbeats 4000000 in
theorem w_M_operand_b137 {K : zK} (hk : zOk K kdM cX12_operand 4 (some .boolean) RX12 3)  {x1 : Int} {x2 : Int} {m : zM} {o : Int × zM}  (hm : zG kdM m) (cx1 : cI x1) (zx2 : zok 4 x2) (h : M_operand_b137 x1 x2 m = some o) : GoAt K m [(0, .ref (kB K + 0)), (1, mI x1), (2, mI x2)] [] 137 (4, o.1, o.2) := by
  unfold M_operand_b137 at h
  refine g_iload_n hk 2 rfl dX12_operand_137 ?_
  refine g_if_eq hk (b01 zx2) dX12_operand_138 h (fun b1 h => ?_) (fun b1 h => ?_)
  · refine GoAt.sub [0] rfl ?_
    exact w_M_operand_b171 hk hm h
  · refine g_aload_n hk 0 rfl dX12_operand_141 ?_
    refine g_ldc2 hk (v := 6384748) cn_X12_331 dX12_operand_142 ?_
    obtain ⟨r2, e3, h⟩ := zbind h
    refine g_callVz hk (st := []) mf_X12_isWord lk_X12_361 mv_X12_isWord kdM_0 (by decide) rfl (Nat.le_of_ble_eq_true rfl) rfl dX12_operand_145 (met_M_isWord _ _ _ _ _ hk.wd hm (cLk rfl) e3) (fun hm c4 => ?_)
    refine g_if_eq hk (b01 c4) dX12_operand_148 h (fun b5 h => ?_) (fun b5 h => ?_)
    · refine GoAt.sub [0] rfl ?_
      exact w_M_operand_b171 hk hm h
    · refine g_aload_n hk 0 rfl dX12_operand_151 ?_
      refine g_bipush hk (v := 30) rfl dX12_operand_152 ?_
      refine g_iconst hk (v := 0) rfl dX12_operand_154 ?_
      obtain ⟨r6, e7, h⟩ := zbind h
      refine g_callVv hk (st := []) mf_X12_add lk_X12_352 mv_X12_add kdM_0 (by decide) rfl (Nat.le_of_ble_eq_true rfl) rfl dX12_operand_155 (met_M_add _ _ _ _ _ hk.wd hm (cIk rfl) (cIk rfl) e7) (fun hm => ?_)
      refine g_aload_n hk 0 rfl dX12_operand_158 ?_
      refine g_get2 hk fl_X12_119 rfl kdM_0 hm (b := 20) rfl dX12_operand_159 ?_
      refine g_iload_n hk 1 rfl dX12_operand_162 ?_
      refine g_iconst hk (v := 2) rfl dX12_operand_163 ?_
      refine g_iast hk cx1 (cIk rfl) kdM_20 hm dX12_operand_164 h (fun m9 hm h => ?_)
      refine g_aload_n hk 0 rfl dX12_operand_165 ?_
      obtain ⟨r10, e11, h⟩ := zbind h
      refine g_callVv hk (st := []) mf_X12_ahead lk_X12_274 mv_X12_ahead kdM_0 (by decide) rfl (Nat.le_of_ble_eq_true rfl) rfl dX12_operand_166 (met_M_ahead _ _ _ _ _ hk.wd hm e11) (fun hm => ?_)
      refine g_iconst hk (v := 1) rfl dX12_operand_169 ?_
      exact g_zreturn hk z1 dX12_operand_170 (by cases h; rfl)
set_option maxRecDepth 100000 in
set_option maxHeartbeats 4000000 in
theorem w_M_operand_b110 {K : zK} (hk : zOk K kdM cX12_operand 4 (some .boolean) RX12 3)  {x1 : Int} {x2 : Int} {m : zM} {o : Int × zM}  (hm : zG kdM m) (cx1 : cI x1) (zx2 : zok 4 x2) (h : M_operand_b110 x1 x2 m = some o) : GoAt K m [(0, .ref (kB K + 0)), (1, mI x1), (2, mI x2)] [] 110 (4, o.1, o.2) := by
  unfold M_operand_b110 at h
  refine g_aload_n hk 0 rfl dX12_operand_110 ?_
  refine g_get2 hk fl_X12_122 rfl kdM_0 hm (b := 21) rfl dX12_operand_111 ?_
  refine g_iload_n hk 1 rfl dX12_operand_114 ?_
  refine g_iconst hk (v := 0) rfl dX12_operand_115 ?_
  refine g_zast hk cx1 z0 kdM_21 hm dX12_operand_116 h (fun m1 hm h => ?_)
  refine g_iload_n hk 2 rfl dX12_operand_117 ?_
  refine g_if_eq hk (b01 zx2) dX12_operand_118 h (fun b2 h => ?_) (fun b2 h => ?_)
  · exact w_M_operand_b137 hk hm cx1 zx2 h
  · refine g_aload_n hk 0 rfl dX12_operand_121 ?_
    refine g_bipush hk (v := 91) rfl dX12_operand_122 ?_
    obtain ⟨r3, e4, h⟩ := zbind h
    refine g_callVz hk (st := []) mf_X12_isSign lk_X12_271 mv_X12_isSign kdM_0 (by decide) rfl (Nat.le_of_ble_eq_true rfl) rfl dX12_operand_124 (met_M_isSign _ _ _ _ _ hk.wd hm (cIk rfl) e4) (fun hm c5 => ?_)
    refine g_if_eq hk (b01 c5) dX12_operand_127 h (fun b6 h => ?_) (fun b6 h => ?_)
    · exact w_M_operand_b137 hk hm cx1 zx2 h
    · refine g_aload_n hk 0 rfl dX12_operand_130 ?_
      refine g_iconst hk (v := 5) rfl dX12_operand_131 ?_
      obtain ⟨r7, e8, h⟩ := zbind h
      refine g_callVv hk (st := []) mf_X12_opens lk_X12_368 mv_X12_opens kdM_0 (by decide) rfl (Nat.le_of_ble_eq_true rfl) rfl dX12_operand_132 (met_M_opens _ _ _ _ _ hk.wd hm (cIk rfl) e8) (fun hm => ?_)
      refine g_iconst hk (v := 0) rfl dX12_operand_135 ?_
      exact g_zreturn hk z0 dX12_operand_136 (by cases h; rfl)
set_option maxRecDepth 100000 in
set_option maxHeartbeats 4000000 in
theorem w_M_operand_b79 {K : zK} (hk : zOk K kdM cX12_operand 4 (some .boolean) RX12 3)  {m : zM} {o : Int × zM}  (hm : zG kdM m)  (h : M_operand_b79 m = some o) : GoAt K m [(0, .ref (kB K + 0))] [] 79 (4, o.1, o.2) := by
  unfold M_operand_b79 at h
  refine g_aload_n hk 0 rfl dX12_operand_79 ?_
  have g1 := zGI (i := 8) hm kdM_0 rfl
  refine g_get0 hk fl_X12_36 rfl (j := 8) rfl kdM_0 dX12_operand_80 ?_
  refine g_if_le hk g1 dX12_operand_83 h (fun b2 h => ?_) (fun b2 h => ?_)
  · refine g_iconst hk (v := 1) rfl dX12_operand_86 ?_
    exact g_zreturn hk z1 dX12_operand_87 (by cases h; rfl)
  · refine g_aload_n hk 0 rfl dX12_operand_88 ?_
    refine g_dup hk rfl dX12_operand_89 ?_
    have g3 := zGI (i := 40) hm kdM_0 rfl
    refine g_get0 hk fl_X12_135 rfl (j := 40) rfl kdM_0 dX12_operand_90 ?_
    refine g_iconst hk (v := 1) rfl dX12_operand_93 ?_
    refine g_iadd hk dX12_operand_94 ?_
    refine g_put0 hk fp_X12_135 rfl (j := 40) rfl kdM_0 (wI_c _) dX12_operand_95 h hm (fun m4 hm h => ?_)
    refine g_aload_n hk 0 rfl dX12_operand_98 ?_
    refine g_bipush hk (v := 43) rfl dX12_operand_99 ?_
    obtain ⟨r5, e6, h⟩ := zbind h
    refine g_callVv hk (st := []) mf_X12_holdsBack lk_X12_365 mv_X12_holdsBack kdM_0 (by decide) rfl (Nat.le_of_ble_eq_true rfl) rfl dX12_operand_101 (met_M_holdsBack _ _ _ _ _ hk.wd hm (cIk rfl) e6) (fun hm => ?_)
    refine g_aload_n hk 0 rfl dX12_operand_104 ?_
    obtain ⟨r8, e9, h⟩ := zbind h
    refine g_callVv hk (st := []) mf_X12_ahead lk_X12_274 mv_X12_ahead kdM_0 (by decide) rfl (Nat.le_of_ble_eq_true rfl) rfl dX12_operand_105 (met_M_ahead _ _ _ _ _ hk.wd hm e9) (fun hm => ?_)
    refine g_iconst hk (v := 0) rfl dX12_operand_108 ?_
    exact g_zreturn hk z0 dX12_operand_109 (by cases h; rfl)
set_option maxRecDepth 100000 in
set_option maxHeartbeats 4000000 in
theorem w_M_operand_b46 {K : zK} (hk : zOk K kdM cX12_operand 4 (some .boolean) RX12 3)  {x1 : Int} {s0 : Int} {m : zM} {o : Int × zM}  (hm : zG kdM m) (cx1 : cI x1) (zs0 : zok 4 s0) (h : M_operand_b46 x1 s0 m = some o) : GoAt K m [(0, .ref (kB K + 0)), (1, mI x1)] [mI s0] 46 (4, o.1, o.2) := by
  unfold M_operand_b46 at h
  refine g_istore_n hk rfl (lv' := [(2, mI s0), (0, .ref (kB K + 0)), (1, mI x1)]) (Nat.le_of_ble_eq_true rfl) rfl dX12_operand_46 ?_
  refine g_iload_n hk 0 rfl dX12_operand_47 ?_
  refine g_if_eq hk (b01 zs0) dX12_operand_48 h (fun b1 h => ?_) (fun b1 h => ?_)
  · refine GoAt.sub [1, 2, 0] rfl ?_
    exact w_M_operand_b110 hk hm cx1 zs0 h
  · refine g_aload_n hk 1 rfl dX12_operand_51 ?_
    refine g_ldc2 hk (v := 7237492) cn_X12_329 dX12_operand_52 ?_
    obtain ⟨r2, e3, h⟩ := zbind h
    refine g_callVz hk (st := []) mf_X12_isWord lk_X12_361 mv_X12_isWord kdM_0 (by decide) rfl (Nat.le_of_ble_eq_true rfl) rfl dX12_operand_55 (met_M_isWord _ _ _ _ _ hk.wd hm (cLk rfl) e3) (fun hm c4 => ?_)
    refine g_if_eq hk (b01 c4) dX12_operand_58 h (fun b5 h => ?_) (fun b5 h => ?_)
    · refine GoAt.sub [1, 2, 0] rfl ?_
      exact w_M_operand_b110 hk hm cx1 zs0 h
    · refine g_aload_n hk 1 rfl dX12_operand_61 ?_
      have g6 := zGI (i := 40) hm kdM_0 rfl
      refine g_get0 hk fl_X12_135 rfl (j := 40) rfl kdM_0 dX12_operand_62 ?_
      refine g_bipush hk (v := 7) rfl dX12_operand_65 ?_
      refine g_icmp_ne hk g6 (cIk rfl) dX12_operand_67 h (fun b7 h => ?_) (fun b7 h => ?_)
      · refine g_aload_n hk 1 rfl dX12_operand_70 ?_
        refine g_iconst hk (v := 5) rfl dX12_operand_71 ?_
        refine g_aload_n hk 1 rfl dX12_operand_72 ?_
        have g8 := zGI (i := 4) hm kdM_0 rfl
        refine g_get0 hk fl_X12_23 rfl (j := 4) rfl kdM_0 dX12_operand_73 ?_
        obtain ⟨r9, e10, h⟩ := zbind h
        refine g_callVv hk (st := []) mf_X12_blame lk_X12_257 mv_X12_blame kdM_0 (by decide) rfl (Nat.le_of_ble_eq_true rfl) rfl dX12_operand_76 (met_M_blame _ _ _ _ _ hk.wd hm (cIk rfl) g8 e10) (fun hm => ?_)
        refine GoAt.sub [1] rfl ?_
        exact w_M_operand_b79 hk hm h
      · refine GoAt.sub [1] rfl ?_
        exact w_M_operand_b79 hk hm h
set_option maxRecDepth 100000 in
set_option maxHeartbeats 4000000 in
theorem w_M_operand_b45 {K : zK} (hk : zOk K kdM cX12_operand 4 (some .boolean) RX12 3)  {x1 : Int} {m : zM} {o : Int × zM}  (hm : zG kdM m) (cx1 : cI x1) (h : M_operand_b45 x1 m = some o) : GoAt K m [(0, .ref (kB K + 0)), (1, mI x1)] [] 45 (4, o.1, o.2) := by
  unfold M_operand_b45 at h
  refine g_iconst hk (v := 0) rfl dX12_operand_45 ?_
  exact w_M_operand_b46 hk hm cx1 z0 h
set_option maxRecDepth 100000 in
set_option maxHeartbeats 4000000 in
theorem w_M_operand {K : zK} (hk : zOk K kdM cX12_operand 4 (some .boolean) RX12 3)  {m : zM} {o : Int × zM}  (hm : zG kdM m)  (h : M_operand m = some o) : GoAt K m [(0, .ref (kB K + 0))] [] 0 (4, o.1, o.2) := by
  unfold M_operand at h
  refine g_aload_n hk 0 rfl dX12_operand_0 ?_
  obtain ⟨r1, e2, h⟩ := zbind h
  refine g_callVv hk (st := []) mf_X12_lex lk_X12_268 mv_X12_lex kdM_0 (by decide) rfl (Nat.le_of_ble_eq_true rfl) rfl dX12_operand_1 (met_M_lex _ _ _ _ _ hk.wd hm e2) (fun hm => ?_)
  refine g_aload_n hk 0 rfl dX12_operand_4 ?_
  have g4 := zGI (i := 8) hm kdM_0 rfl
  refine g_get0 hk fl_X12_36 rfl (j := 8) rfl kdM_0 dX12_operand_5 ?_
  refine g_if_le hk g4 dX12_operand_8 h (fun b5 h => ?_) (fun b5 h => ?_)
  · refine g_iconst hk (v := 1) rfl dX12_operand_11 ?_
    exact g_zreturn hk z1 dX12_operand_12 (by cases h; rfl)
  · refine g_aload_n hk 0 rfl dX12_operand_13 ?_
    have g6 := zGI (i := 39) hm kdM_0 rfl
    refine g_get0 hk fl_X12_132 rfl (j := 39) rfl kdM_0 dX12_operand_14 ?_
    refine g_iconst hk (v := 1) rfl dX12_operand_17 ?_
    refine g_isub hk dX12_operand_18 ?_
    refine g_let (wI_c _) h (fun v7 cv7 h => ?_)
    refine g_istore_n hk rfl (lv' := [(1, mI v7), (0, .ref (kB K + 0))]) (Nat.le_of_ble_eq_true rfl) rfl dX12_operand_19 ?_
    refine g_aload_n hk 1 rfl dX12_operand_20 ?_
    refine g_get2 hk fl_X12_116 rfl kdM_0 hm (b := 19) rfl dX12_operand_21 ?_
    refine g_iload_n hk 0 rfl dX12_operand_24 ?_
    refine g_iald hk cv7 kdM_19 hm dX12_operand_25 h (fun y8 cy8 h => ?_)
    obtain ⟨r9, e10, h⟩ := zbind h
    refine g_callSz hk (st := []) mf_X12_isTest lk_X12_358 ms_X12_isTest (by decide) rfl (Nat.le_of_ble_eq_true rfl) rfl dX12_operand_26 (met_M_isTest _ _ _ _ _ hk.wd hm cy8 e10) (fun hm c11 => ?_)
    refine g_if_eq hk (b01 c11) dX12_operand_29 h (fun b12 h => ?_) (fun b12 h => ?_)
    · refine GoAt.sub [1, 0] rfl ?_
      exact w_M_operand_b45 hk hm cv7 h
    · refine g_aload_n hk 1 rfl dX12_operand_32 ?_
      refine g_get2 hk fl_X12_122 rfl kdM_0 hm (b := 21) rfl dX12_operand_33 ?_
      refine g_iload_n hk 0 rfl dX12_operand_36 ?_
      refine g_zald hk cv7 kdM_21 hm dX12_operand_37 h (fun y13 cy13 h => ?_)
      refine g_if_eq hk (b01 cy13) dX12_operand_38 h (fun b14 h => ?_) (fun b14 h => ?_)
      · refine GoAt.sub [1, 0] rfl ?_
        exact w_M_operand_b45 hk hm cv7 h
      · refine g_iconst hk (v := 1) rfl dX12_operand_41 ?_
        refine g_goto hk dX12_operand_42 ?_
        refine GoAt.sub [1, 0] rfl ?_
        exact w_M_operand_b46 hk hm cv7 z1 h
theorem met_M_operand (l : Launch) (D : va_G) (aC : Nat → ClassId) (B N : Nat) (hwd : ∀ id, (kdM id).1 ≠ 9 → id < N) {m : zM} {o : Int × zM} (hm : zG kdM m)  (h : M_operand m = some o) : zMet l yX12_operand cX12_operand 4 (some .boolean) 3 D aC B kdM N [.ref (B + 0)] m (4, o.1, o.2) := by
  refine zMet.of mf_X12_operand hwd hm (Nat.le_of_ble_eq_true rfl) (fun K e1 e2 e3 e4 e5 hk => ?_)
  subst e4
  exact w_M_operand hk hm  h
set_option maxRecDepth 100000 in
set_option maxHeartbeats 4000000 in
theorem w_M_goesOn_b499 {K : zK} (hk : zOk K kdM cX12_goesOn 5 (some .boolean) RX12 2)  {x1 : Int} {a0 : Nat} {n0 : Nat} {s1 : Int} {s2 : Int} {m : zM} {o : Int × zM}  (hm : zG kdM m) (cx1 : cI x1) (ka0 : kdM a0 = (1, n0)) (cs1 : cI s1) (cs2 : cI s2) (h : M_goesOn_b499 x1 a0 n0 s1 s2 m = some o) : GoAt K m [(0, .ref (kB K + 0)), (1, mI x1)] [mI s2, mI s1, .ref (kB K + a0)] 499 (4, o.1, o.2) := by
  unfold M_goesOn_b499 at h
  refine g_iast hk cs1 cs2 ka0 hm dX12_goesOn_499 h (fun m1 hm h => ?_)
  refine g_aload_n hk 0 rfl dX12_goesOn_500 ?_
  refine g_get2 hk fl_X12_119 rfl kdM_0 hm (b := 20) rfl dX12_goesOn_501 ?_
  refine g_iload_n hk 1 rfl dX12_goesOn_504 ?_
  refine g_iconst hk (v := 0) rfl dX12_goesOn_505 ?_
  refine g_iast hk cx1 (cIk rfl) kdM_20 hm dX12_goesOn_506 h (fun m2 hm h => ?_)
  refine g_aload_n hk 0 rfl dX12_goesOn_507 ?_
  obtain ⟨r3, e4, h⟩ := zbind h
  refine g_callVv hk (st := []) mf_X12_ahead lk_X12_274 mv_X12_ahead kdM_0 (by decide) rfl (Nat.le_of_ble_eq_true rfl) rfl dX12_goesOn_508 (met_M_ahead _ _ _ _ _ hk.wd hm e4) (fun hm => ?_)
  refine g_aload_n hk 0 rfl dX12_goesOn_511 ?_
  refine g_iconst hk (v := 0) rfl dX12_goesOn_512 ?_
  refine g_put4 hk fp_X12_144 rfl (j := 43) rfl kdM_0 z0 dX12_goesOn_513 h hm (fun m6 hm h => ?_)
  refine g_iconst hk (v := 1) rfl dX12_goesOn_516 ?_
  exact g_zreturn hk z1 dX12_goesOn_517 (by cases h; rfl)
set_option maxRecDepth 100000 in
set_option maxHeartbeats 4000000 in
theorem w_M_goesOn_b470 {K : zK} (hk : zOk K kdM cX12_goesOn 5 (some .boolean) RX12 2)  {x1 : Int} {x2 : Int} {m : zM} {o : Int × zM}  (hm : zG kdM m) (cx1 : cI x1) (cx2 : cI x2) (h : M_goesOn_b470 x1 x2 m = some o) : GoAt K m [(0, .ref (kB K + 0)), (1, mI x1), (2, mI x2)] [] 470 (4, o.1, o.2) := by
  unfold M_goesOn_b470 at h
  refine g_aload_n hk 0 rfl dX12_goesOn_470 ?_
  have g1 := zGI (i := 8) hm kdM_0 rfl
  refine g_get0 hk fl_X12_36 rfl (j := 8) rfl kdM_0 dX12_goesOn_471 ?_
  refine g_if_le hk g1 dX12_goesOn_474 h (fun b2 h => ?_) (fun b2 h => ?_)
  · refine g_iconst hk (v := 0) rfl dX12_goesOn_477 ?_
    exact g_zreturn hk z0 dX12_goesOn_478 (by cases h; rfl)
  · refine g_aload_n hk 0 rfl dX12_goesOn_479 ?_
    refine g_iconst hk (v := 1) rfl dX12_goesOn_480 ?_
    obtain ⟨r3, e4, h⟩ := zbind h
    refine g_callVv hk (st := []) mf_X12_joins lk_X12_371 mv_X12_joins kdM_0 (by decide) rfl (Nat.le_of_ble_eq_true rfl) rfl dX12_goesOn_481 (met_M_joins _ _ _ _ _ hk.wd hm (cIk rfl) e4) (fun hm => ?_)
    refine g_aload_n hk 0 rfl dX12_goesOn_484 ?_
    refine g_get2 hk fl_X12_116 rfl kdM_0 hm (b := 19) rfl dX12_goesOn_485 ?_
    refine g_iload_n hk 1 rfl dX12_goesOn_488 ?_
    refine g_iload_n hk 2 rfl dX12_goesOn_489 ?_
    refine g_iconst hk (v := 3) rfl dX12_goesOn_490 ?_
    refine g_icmp_ne hk cx2 (cIk rfl) dX12_goesOn_491 h (fun b6 h => ?_) (fun b6 h => ?_)
    · refine g_iconst hk (v := 4) rfl dX12_goesOn_494 ?_
      refine g_goto hk dX12_goesOn_495 ?_
      refine GoAt.sub [0, 1] rfl ?_
      exact w_M_goesOn_b499 hk hm cx1 kdM_19 cx1 (cIk rfl) h
    · refine g_iconst hk (v := 3) rfl dX12_goesOn_498 ?_
      refine GoAt.sub [0, 1] rfl ?_
      exact w_M_goesOn_b499 hk hm cx1 kdM_19 cx1 (cIk rfl) h
set_option maxRecDepth 100000 in
set_option maxHeartbeats 4000000 in
theorem w_M_goesOn_b452 {K : zK} (hk : zOk K kdM cX12_goesOn 5 (some .boolean) RX12 2)  {x1 : Int} {x2 : Int} {m : zM} {o : Int × zM}  (hm : zG kdM m) (cx1 : cI x1) (cx2 : cI x2) (h : M_goesOn_b452 x1 x2 m = some o) : GoAt K m [(0, .ref (kB K + 0)), (1, mI x1), (2, mI x2)] [] 452 (4, o.1, o.2) := by
  unfold M_goesOn_b452 at h
  refine g_aload_n hk 0 rfl dX12_goesOn_452 ?_
  refine g_bipush hk (v := 44) rfl dX12_goesOn_453 ?_
  obtain ⟨r1, e2, h⟩ := zbind h
  refine g_callVz hk (st := []) mf_X12_isSign lk_X12_271 mv_X12_isSign kdM_0 (by decide) rfl (Nat.le_of_ble_eq_true rfl) rfl dX12_goesOn_455 (met_M_isSign _ _ _ _ _ hk.wd hm (cIk rfl) e2) (fun hm c3 => ?_)
  refine g_if_ne hk (b01 c3) dX12_goesOn_458 h (fun b4 h => ?_) (fun b4 h => ?_)
  · refine g_aload_n hk 0 rfl dX12_goesOn_461 ?_
    refine g_iconst hk (v := 1) rfl dX12_goesOn_462 ?_
    refine g_aload_n hk 0 rfl dX12_goesOn_463 ?_
    have g5 := zGI (i := 4) hm kdM_0 rfl
    refine g_get0 hk fl_X12_23 rfl (j := 4) rfl kdM_0 dX12_goesOn_464 ?_
    obtain ⟨r6, e7, h⟩ := zbind h
    refine g_callVv hk (st := []) mf_X12_blame lk_X12_257 mv_X12_blame kdM_0 (by decide) rfl (Nat.le_of_ble_eq_true rfl) rfl dX12_goesOn_467 (met_M_blame _ _ _ _ _ hk.wd hm (cIk rfl) g5 e7) (fun hm => ?_)
    exact w_M_goesOn_b470 hk hm cx1 cx2 h
  · exact w_M_goesOn_b470 hk hm cx1 cx2 h
set_option maxRecDepth 100000 in
set_option maxHeartbeats 4000000 in
theorem w_M_goesOn_b596 {K : zK} (hk : zOk K kdM cX12_goesOn 5 (some .boolean) RX12 2)  {x2 : Int} {m : zM} {o : Int × zM}  (hm : zG kdM m) (cx2 : cI x2) (h : M_goesOn_b596 x2 m = some o) : GoAt K m [(0, .ref (kB K + 0)), (2, mI x2)] [] 596 (4, o.1, o.2) := by
  unfold M_goesOn_b596 at h
  refine g_iload_n hk 1 rfl dX12_goesOn_596 ?_
  refine g_iconst hk (v := 5) rfl dX12_goesOn_597 ?_
  refine g_icmp_ne hk cx2 (cIk rfl) dX12_goesOn_598 h (fun b1 h => ?_) (fun b1 h => ?_)
  · refine g_aload_n hk 0 rfl dX12_goesOn_601 ?_
    refine g_get2 hk fl_X12_119 rfl kdM_0 hm (b := 20) rfl dX12_goesOn_602 ?_
    refine g_aload_n hk 0 rfl dX12_goesOn_605 ?_
    have g2 := zGI (i := 39) hm kdM_0 rfl
    refine g_get0 hk fl_X12_132 rfl (j := 39) rfl kdM_0 dX12_goesOn_606 ?_
    refine g_iconst hk (v := 1) rfl dX12_goesOn_609 ?_
    refine g_isub hk dX12_goesOn_610 ?_
    refine g_iconst hk (v := 2) rfl dX12_goesOn_611 ?_
    refine g_iast hk (wI_c _) (cIk rfl) kdM_20 hm dX12_goesOn_612 h (fun m3 hm h => ?_)
    refine g_aload_n hk 0 rfl dX12_goesOn_613 ?_
    obtain ⟨r4, e5, h⟩ := zbind h
    refine g_callVv hk (st := []) mf_X12_ahead lk_X12_274 mv_X12_ahead kdM_0 (by decide) rfl (Nat.le_of_ble_eq_true rfl) rfl dX12_goesOn_614 (met_M_ahead _ _ _ _ _ hk.wd hm e5) (fun hm => ?_)
    refine g_iconst hk (v := 1) rfl dX12_goesOn_617 ?_
    exact g_zreturn hk z1 dX12_goesOn_618 (by cases h; rfl)
  · refine g_aload_n hk 0 rfl dX12_goesOn_613 ?_
    obtain ⟨r7, e8, h⟩ := zbind h
    refine g_callVv hk (st := []) mf_X12_ahead lk_X12_274 mv_X12_ahead kdM_0 (by decide) rfl (Nat.le_of_ble_eq_true rfl) rfl dX12_goesOn_614 (met_M_ahead _ _ _ _ _ hk.wd hm e8) (fun hm => ?_)
    refine g_iconst hk (v := 1) rfl dX12_goesOn_617 ?_
    exact g_zreturn hk z1 dX12_goesOn_618 (by cases h; rfl)
set_option maxRecDepth 100000 in
set_option maxHeartbeats 4000000 in
theorem w_M_goesOn_b546 {K : zK} (hk : zOk K kdM cX12_goesOn 5 (some .boolean) RX12 2)  {x1 : Int} {x2 : Int} {m : zM} {o : Int × zM}  (hm : zG kdM m) (cx1 : cI x1) (cx2 : cI x2) (h : M_goesOn_b546 x1 x2 m = some o) : GoAt K m [(0, .ref (kB K + 0)), (1, mI x1), (2, mI x2)] [] 546 (4, o.1, o.2) := by
  unfold M_goesOn_b546 at h
  refine g_aload_n hk 0 rfl dX12_goesOn_546 ?_
  have g1 := zGI (i := 8) hm kdM_0 rfl
  refine g_get0 hk fl_X12_36 rfl (j := 8) rfl kdM_0 dX12_goesOn_547 ?_
  refine g_if_le hk g1 dX12_goesOn_550 h (fun b2 h => ?_) (fun b2 h => ?_)
  · refine g_iconst hk (v := 0) rfl dX12_goesOn_553 ?_
    exact g_zreturn hk z0 dX12_goesOn_554 (by cases h; rfl)
  · refine g_aload_n hk 0 rfl dX12_goesOn_555 ?_
    refine g_iconst hk (v := 1) rfl dX12_goesOn_556 ?_
    obtain ⟨r3, e4, h⟩ := zbind h
    refine g_callVv hk (st := []) mf_X12_joins lk_X12_371 mv_X12_joins kdM_0 (by decide) rfl (Nat.le_of_ble_eq_true rfl) rfl dX12_goesOn_557 (met_M_joins _ _ _ _ _ hk.wd hm (cIk rfl) e4) (fun hm => ?_)
    refine g_aload_n hk 0 rfl dX12_goesOn_560 ?_
    refine g_dup hk rfl dX12_goesOn_561 ?_
    have g6 := zGI (i := 39) hm kdM_0 rfl
    refine g_get0 hk fl_X12_132 rfl (j := 39) rfl kdM_0 dX12_goesOn_562 ?_
    refine g_iconst hk (v := 1) rfl dX12_goesOn_565 ?_
    refine g_isub hk dX12_goesOn_566 ?_
    refine g_put0 hk fp_X12_132 rfl (j := 39) rfl kdM_0 (wI_c _) dX12_goesOn_567 h hm (fun m7 hm h => ?_)
    refine g_aload_n hk 0 rfl dX12_goesOn_570 ?_
    refine g_dup hk rfl dX12_goesOn_571 ?_
    have g8 := zGI (i := 40) hm kdM_0 rfl
    refine g_get0 hk fl_X12_135 rfl (j := 40) rfl kdM_0 dX12_goesOn_572 ?_
    refine g_iconst hk (v := 1) rfl dX12_goesOn_575 ?_
    refine g_isub hk dX12_goesOn_576 ?_
    refine g_put0 hk fp_X12_135 rfl (j := 40) rfl kdM_0 (wI_c _) dX12_goesOn_577 h hm (fun m9 hm h => ?_)
    refine g_iload_n hk 2 rfl dX12_goesOn_580 ?_
    refine g_iconst hk (v := 4) rfl dX12_goesOn_581 ?_
    refine g_icmp_ne hk cx2 (cIk rfl) dX12_goesOn_582 h (fun b10 h => ?_) (fun b10 h => ?_)
    · refine g_aload_n hk 0 rfl dX12_goesOn_585 ?_
      refine g_aload_n hk 0 rfl dX12_goesOn_586 ?_
      refine g_get2 hk fl_X12_126 rfl kdM_0 hm (b := 22) rfl dX12_goesOn_587 ?_
      refine g_iload_n hk 1 rfl dX12_goesOn_590 ?_
      refine g_iald hk cx1 kdM_22 hm dX12_goesOn_591 h (fun y11 cy11 h => ?_)
      refine g_iconst hk (v := 0) rfl dX12_goesOn_592 ?_
      obtain ⟨r12, e13, h⟩ := zbind h
      refine g_callVv hk (st := []) mf_X12_add lk_X12_352 mv_X12_add kdM_0 (by decide) rfl (Nat.le_of_ble_eq_true rfl) rfl dX12_goesOn_593 (met_M_add _ _ _ _ _ hk.wd hm cy11 (cIk rfl) e13) (fun hm => ?_)
      refine GoAt.sub [0, 2] rfl ?_
      exact w_M_goesOn_b596 hk hm cx2 h
    · refine GoAt.sub [0, 2] rfl ?_
      exact w_M_goesOn_b596 hk hm cx2 h
set_option maxRecDepth 100000 in
set_option maxHeartbeats 4000000 in
theorem w_M_goesOn_b531 {K : zK} (hk : zOk K kdM cX12_goesOn 5 (some .boolean) RX12 2)  {x1 : Int} {x2 : Int} {s1 : Int} {m : zM} {o : Int × zM}  (hm : zG kdM m) (cx1 : cI x1) (cx2 : cI x2) (cs1 : cI s1) (h : M_goesOn_b531 x1 x2 s1 m = some o) : GoAt K m [(0, .ref (kB K + 0)), (1, mI x1), (2, mI x2)] [mI s1, .ref (kB K + 0)] 531 (4, o.1, o.2) := by
  unfold M_goesOn_b531 at h
  obtain ⟨r1, e2, h⟩ := zbind h
  refine g_callVz hk (st := []) mf_X12_isSign lk_X12_271 mv_X12_isSign kdM_0 (by decide) rfl (Nat.le_of_ble_eq_true rfl) rfl dX12_goesOn_531 (met_M_isSign _ _ _ _ _ hk.wd hm cs1 e2) (fun hm c3 => ?_)
  refine g_if_ne hk (b01 c3) dX12_goesOn_534 h (fun b4 h => ?_) (fun b4 h => ?_)
  · refine g_aload_n hk 0 rfl dX12_goesOn_537 ?_
    refine g_iconst hk (v := 1) rfl dX12_goesOn_538 ?_
    refine g_aload_n hk 0 rfl dX12_goesOn_539 ?_
    have g5 := zGI (i := 4) hm kdM_0 rfl
    refine g_get0 hk fl_X12_23 rfl (j := 4) rfl kdM_0 dX12_goesOn_540 ?_
    obtain ⟨r6, e7, h⟩ := zbind h
    refine g_callVv hk (st := []) mf_X12_blame lk_X12_257 mv_X12_blame kdM_0 (by decide) rfl (Nat.le_of_ble_eq_true rfl) rfl dX12_goesOn_543 (met_M_blame _ _ _ _ _ hk.wd hm (cIk rfl) g5 e7) (fun hm => ?_)
    exact w_M_goesOn_b546 hk hm cx1 cx2 h
  · exact w_M_goesOn_b546 hk hm cx1 cx2 h
set_option maxRecDepth 100000 in
set_option maxHeartbeats 4000000 in
theorem w_M_goesOn_b422 {K : zK} (hk : zOk K kdM cX12_goesOn 5 (some .boolean) RX12 2)  {x1 : Int} {x2 : Int} {m : zM} {o : Int × zM}  (hm : zG kdM m) (cx1 : cI x1) (cx2 : cI x2) (h : M_goesOn_b422 x1 x2 m = some o) : GoAt K m [(0, .ref (kB K + 0)), (1, mI x1), (2, mI x2)] [] 422 (4, o.1, o.2) := by
  unfold M_goesOn_b422 at h
  refine g_iload_n hk 2 rfl dX12_goesOn_422 ?_
  refine g_iconst hk (v := 2) rfl dX12_goesOn_423 ?_
  refine g_icmp_ge hk cx2 (cIk rfl) dX12_goesOn_424 h (fun b1 h => ?_) (fun b1 h => ?_)
  · refine g_aload_n hk 0 rfl dX12_goesOn_427 ?_
    have g2 := zGI (i := 8) hm kdM_0 rfl
    refine g_get0 hk fl_X12_36 rfl (j := 8) rfl kdM_0 dX12_goesOn_428 ?_
    refine g_if_ne hk g2 dX12_goesOn_431 h (fun b3 h => ?_) (fun b3 h => ?_)
    · refine g_aload_n hk 0 rfl dX12_goesOn_434 ?_
      refine g_iconst hk (v := 1) rfl dX12_goesOn_435 ?_
      obtain ⟨r4, e5, h⟩ := zbind h
      refine g_callVv hk (st := []) mf_X12_joins lk_X12_371 mv_X12_joins kdM_0 (by decide) rfl (Nat.le_of_ble_eq_true rfl) rfl dX12_goesOn_436 (met_M_joins _ _ _ _ _ hk.wd hm (cIk rfl) e5) (fun hm => ?_)
      refine g_iconst hk (v := 0) rfl dX12_goesOn_439 ?_
      exact g_zreturn hk z0 dX12_goesOn_440 (by cases h; rfl)
    · refine g_iconst hk (v := 0) rfl dX12_goesOn_439 ?_
      exact g_zreturn hk z0 dX12_goesOn_440 (by cases h; rfl)
  · refine g_iload_n hk 2 rfl dX12_goesOn_441 ?_
    refine g_iconst hk (v := 3) rfl dX12_goesOn_442 ?_
    refine g_icmp_eq hk cx2 (cIk rfl) dX12_goesOn_443 h (fun b7 h => ?_) (fun b7 h => ?_)
    · exact w_M_goesOn_b452 hk hm cx1 cx2 h
    · refine g_iload_n hk 2 rfl dX12_goesOn_446 ?_
      refine g_bipush hk (v := 6) rfl dX12_goesOn_447 ?_
      refine g_icmp_ne hk cx2 (cIk rfl) dX12_goesOn_449 h (fun b8 h => ?_) (fun b8 h => ?_)
      · exact w_M_goesOn_b452 hk hm cx1 cx2 h
      · refine g_aload_n hk 0 rfl dX12_goesOn_518 ?_
        refine g_iload_n hk 2 rfl dX12_goesOn_519 ?_
        refine g_iconst hk (v := 5) rfl dX12_goesOn_520 ?_
        refine g_icmp_ne hk cx2 (cIk rfl) dX12_goesOn_521 h (fun b9 h => ?_) (fun b9 h => ?_)
        · refine g_bipush hk (v := 93) rfl dX12_goesOn_524 ?_
          refine g_goto hk dX12_goesOn_526 ?_
          exact w_M_goesOn_b531 hk hm cx1 cx2 (cIk rfl) h
        · refine g_bipush hk (v := 41) rfl dX12_goesOn_529 ?_
          exact w_M_goesOn_b531 hk hm cx1 cx2 (cIk rfl) h
set_option maxRecDepth 100000 in
set_option maxHeartbeats 4000000 in
theorem w_M_goesOn_b400 {K : zK} (hk : zOk K kdM cX12_goesOn 5 (some .boolean) RX12 2)  {x1 : Int} {x2 : Int} {x3 : Int} {m : zM} {o : Int × zM}  (hm : zG kdM m) (cx1 : cI x1) (cx2 : cI x2) (zx3 : zok 4 x3) (h : M_goesOn_b400 x1 x2 x3 m = some o) : GoAt K m [(0, .ref (kB K + 0)), (1, mI x1), (2, mI x2), (3, mI x3)] [] 400 (4, o.1, o.2) := by
  unfold M_goesOn_b400 at h
  refine g_iload_n hk 3 rfl dX12_goesOn_400 ?_
  refine g_if_eq hk (b01 zx3) dX12_goesOn_401 h (fun b1 h => ?_) (fun b1 h => ?_)
  · refine GoAt.sub [0, 1, 2] rfl ?_
    exact w_M_goesOn_b422 hk hm cx1 cx2 h
  · refine g_aload_n hk 0 rfl dX12_goesOn_404 ?_
    refine g_get2 hk fl_X12_119 rfl kdM_0 hm (b := 20) rfl dX12_goesOn_405 ?_
    refine g_iload_n hk 1 rfl dX12_goesOn_408 ?_
    refine g_iald hk cx1 kdM_20 hm dX12_goesOn_409 h (fun y2 cy2 h => ?_)
    refine g_if_ne hk cy2 dX12_goesOn_410 h (fun b3 h => ?_) (fun b3 h => ?_)
    · refine g_aload_n hk 0 rfl dX12_goesOn_413 ?_
      refine g_iconst hk (v := 1) rfl dX12_goesOn_414 ?_
      refine g_aload_n hk 0 rfl dX12_goesOn_415 ?_
      have g4 := zGI (i := 4) hm kdM_0 rfl
      refine g_get0 hk fl_X12_23 rfl (j := 4) rfl kdM_0 dX12_goesOn_416 ?_
      obtain ⟨r5, e6, h⟩ := zbind h
      refine g_callVv hk (st := []) mf_X12_blame lk_X12_257 mv_X12_blame kdM_0 (by decide) rfl (Nat.le_of_ble_eq_true rfl) rfl dX12_goesOn_419 (met_M_blame _ _ _ _ _ hk.wd hm (cIk rfl) g4 e6) (fun hm => ?_)
      refine GoAt.sub [0, 1, 2] rfl ?_
      exact w_M_goesOn_b422 hk hm cx1 cx2 h
    · refine GoAt.sub [0, 1, 2] rfl ?_
      exact w_M_goesOn_b422 hk hm cx1 cx2 h
set_option maxRecDepth 100000 in
set_option maxHeartbeats 4000000 in
theorem w_M_goesOn_b372 {K : zK} (hk : zOk K kdM cX12_goesOn 5 (some .boolean) RX12 2)  {x1 : Int} {s1 : Int} {m : zM} {o : Int × zM}  (hm : zG kdM m) (cx1 : cI x1) (cs1 : cI s1) (h : M_goesOn_b372 x1 s1 m = some o) : GoAt K m [(0, .ref (kB K + 0)), (1, mI x1)] [mI s1, .ref (kB K + 0)] 372 (4, o.1, o.2) := by
  unfold M_goesOn_b372 at h
  obtain ⟨r1, e2, h⟩ := zbind h
  refine g_callVv hk (st := []) mf_X12_holdsBack lk_X12_365 mv_X12_holdsBack kdM_0 (by decide) rfl (Nat.le_of_ble_eq_true rfl) rfl dX12_goesOn_372 (met_M_holdsBack _ _ _ _ _ hk.wd hm cs1 e2) (fun hm => ?_)
  refine g_aload_n hk 0 rfl dX12_goesOn_375 ?_
  refine g_get2 hk fl_X12_119 rfl kdM_0 hm (b := 20) rfl dX12_goesOn_376 ?_
  refine g_iload_n hk 1 rfl dX12_goesOn_379 ?_
  refine g_iconst hk (v := 0) rfl dX12_goesOn_380 ?_
  refine g_iast hk cx1 (cIk rfl) kdM_20 hm dX12_goesOn_381 h (fun m4 hm h => ?_)
  refine g_aload_n hk 0 rfl dX12_goesOn_382 ?_
  refine g_get2 hk fl_X12_122 rfl kdM_0 hm (b := 21) rfl dX12_goesOn_383 ?_
  refine g_iload_n hk 1 rfl dX12_goesOn_386 ?_
  refine g_iconst hk (v := 1) rfl dX12_goesOn_387 ?_
  refine g_zast hk cx1 z1 kdM_21 hm dX12_goesOn_388 h (fun m5 hm h => ?_)
  refine g_aload_n hk 0 rfl dX12_goesOn_389 ?_
  obtain ⟨r6, e7, h⟩ := zbind h
  refine g_callVv hk (st := []) mf_X12_ahead lk_X12_274 mv_X12_ahead kdM_0 (by decide) rfl (Nat.le_of_ble_eq_true rfl) rfl dX12_goesOn_390 (met_M_ahead _ _ _ _ _ hk.wd hm e7) (fun hm => ?_)
  refine g_aload_n hk 0 rfl dX12_goesOn_393 ?_
  refine g_iconst hk (v := 0) rfl dX12_goesOn_394 ?_
  refine g_put4 hk fp_X12_144 rfl (j := 43) rfl kdM_0 z0 dX12_goesOn_395 h hm (fun m9 hm h => ?_)
  refine g_iconst hk (v := 1) rfl dX12_goesOn_398 ?_
  exact g_zreturn hk z1 dX12_goesOn_399 (by cases h; rfl)
set_option maxRecDepth 100000 in
set_option maxHeartbeats 4000000 in
theorem w_M_goesOn_b356 {K : zK} (hk : zOk K kdM cX12_goesOn 5 (some .boolean) RX12 2)  {x1 : Int} {x4 : Int} {s1 : Int} {m : zM} {o : Int × zM}  (hm : zG kdM m) (cx1 : cI x1) (zx4 : zok 4 x4) (cs1 : cI s1) (h : M_goesOn_b356 x1 x4 s1 m = some o) : GoAt K m [(0, .ref (kB K + 0)), (1, mI x1), (4, mI x4)] [mI s1, .ref (kB K + 0)] 356 (4, o.1, o.2) := by
  unfold M_goesOn_b356 at h
  obtain ⟨r1, e2, h⟩ := zbind h
  refine g_callVv hk (st := []) mf_X12_joins lk_X12_371 mv_X12_joins kdM_0 (by decide) rfl (Nat.le_of_ble_eq_true rfl) rfl dX12_goesOn_356 (met_M_joins _ _ _ _ _ hk.wd hm cs1 e2) (fun hm => ?_)
  refine g_aload_n hk 0 rfl dX12_goesOn_359 ?_
  refine g_iload hk 2 rfl dX12_goesOn_360 ?_
  refine g_if_eq hk (b01 zx4) dX12_goesOn_362 h (fun b4 h => ?_) (fun b4 h => ?_)
  · refine g_bipush hk (v := 42) rfl dX12_goesOn_370 ?_
    refine GoAt.sub [0, 1] rfl ?_
    exact w_M_goesOn_b372 hk hm cx1 (cIk rfl) h
  · refine g_bipush hk (v := 41) rfl dX12_goesOn_365 ?_
    refine g_goto hk dX12_goesOn_367 ?_
    refine GoAt.sub [0, 1] rfl ?_
    exact w_M_goesOn_b372 hk hm cx1 (cIk rfl) h
set_option maxRecDepth 100000 in
set_option maxHeartbeats 4000000 in
theorem w_M_goesOn_b327 {K : zK} (hk : zOk K kdM cX12_goesOn 5 (some .boolean) RX12 2)  {x1 : Int} {m : zM} {o : Int × zM}  (hm : zG kdM m) (cx1 : cI x1) (h : M_goesOn_b327 x1 m = some o) : GoAt K m [(0, .ref (kB K + 0)), (1, mI x1)] [] 327 (4, o.1, o.2) := by
  unfold M_goesOn_b327 at h
  refine g_aload_n hk 0 rfl dX12_goesOn_327 ?_
  have g1 := zGI (i := 8) hm kdM_0 rfl
  refine g_get0 hk fl_X12_36 rfl (j := 8) rfl kdM_0 dX12_goesOn_328 ?_
  refine g_if_le hk g1 dX12_goesOn_331 h (fun b2 h => ?_) (fun b2 h => ?_)
  · refine g_iconst hk (v := 0) rfl dX12_goesOn_334 ?_
    exact g_zreturn hk z0 dX12_goesOn_335 (by cases h; rfl)
  · refine g_aload_n hk 0 rfl dX12_goesOn_336 ?_
    refine g_ldc2 hk (v := 6385252) cn_X12_327 dX12_goesOn_337 ?_
    obtain ⟨r3, e4, h⟩ := zbind h
    refine g_callVz hk (st := []) mf_X12_isWord lk_X12_361 mv_X12_isWord kdM_0 (by decide) rfl (Nat.le_of_ble_eq_true rfl) rfl dX12_goesOn_340 (met_M_isWord _ _ _ _ _ hk.wd hm (cLk rfl) e4) (fun hm c5 => ?_)
    refine g_istore hk (lv' := [(4, mI r3), (0, .ref (kB K + 0)), (1, mI x1)]) (Nat.le_of_ble_eq_true rfl) rfl dX12_goesOn_343 ?_
    refine g_aload_n hk 1 rfl dX12_goesOn_345 ?_
    refine g_iload hk 0 rfl dX12_goesOn_346 ?_
    refine g_if_eq hk (b01 c5) dX12_goesOn_348 h (fun b6 h => ?_) (fun b6 h => ?_)
    · refine g_iconst hk (v := 1) rfl dX12_goesOn_355 ?_
      refine GoAt.sub [1, 2, 0] rfl ?_
      exact w_M_goesOn_b356 hk hm cx1 c5 (cIk rfl) h
    · refine g_iconst hk (v := 2) rfl dX12_goesOn_351 ?_
      refine g_goto hk dX12_goesOn_352 ?_
      refine GoAt.sub [1, 2, 0] rfl ?_
      exact w_M_goesOn_b356 hk hm cx1 c5 (cIk rfl) h
set_option maxRecDepth 100000 in
set_option maxHeartbeats 4000000 in
theorem w_M_goesOn_b309 {K : zK} (hk : zOk K kdM cX12_goesOn 5 (some .boolean) RX12 2)  {x1 : Int} {m : zM} {o : Int × zM}  (hm : zG kdM m) (cx1 : cI x1) (h : M_goesOn_b309 x1 m = some o) : GoAt K m [(0, .ref (kB K + 0)), (1, mI x1)] [] 309 (4, o.1, o.2) := by
  unfold M_goesOn_b309 at h
  refine g_aload_n hk 0 rfl dX12_goesOn_309 ?_
  refine g_get2 hk fl_X12_119 rfl kdM_0 hm (b := 20) rfl dX12_goesOn_310 ?_
  refine g_iload_n hk 1 rfl dX12_goesOn_313 ?_
  refine g_iald hk cx1 kdM_20 hm dX12_goesOn_314 h (fun y1 cy1 h => ?_)
  refine g_if_ne hk cy1 dX12_goesOn_315 h (fun b2 h => ?_) (fun b2 h => ?_)
  · refine g_aload_n hk 0 rfl dX12_goesOn_318 ?_
    refine g_iconst hk (v := 1) rfl dX12_goesOn_319 ?_
    refine g_aload_n hk 0 rfl dX12_goesOn_320 ?_
    have g3 := zGI (i := 4) hm kdM_0 rfl
    refine g_get0 hk fl_X12_23 rfl (j := 4) rfl kdM_0 dX12_goesOn_321 ?_
    obtain ⟨r4, e5, h⟩ := zbind h
    refine g_callVv hk (st := []) mf_X12_blame lk_X12_257 mv_X12_blame kdM_0 (by decide) rfl (Nat.le_of_ble_eq_true rfl) rfl dX12_goesOn_324 (met_M_blame _ _ _ _ _ hk.wd hm (cIk rfl) g3 e5) (fun hm => ?_)
    exact w_M_goesOn_b327 hk hm cx1 h
  · exact w_M_goesOn_b327 hk hm cx1 h
set_option maxRecDepth 100000 in
set_option maxHeartbeats 4000000 in
theorem w_M_goesOn_b285 {K : zK} (hk : zOk K kdM cX12_goesOn 5 (some .boolean) RX12 2)  {x1 : Int} {x2 : Int} {x3 : Int} {m : zM} {o : Int × zM}  (hm : zG kdM m) (cx1 : cI x1) (cx2 : cI x2) (zx3 : zok 4 x3) (h : M_goesOn_b285 x1 x2 x3 m = some o) : GoAt K m [(0, .ref (kB K + 0)), (1, mI x1), (2, mI x2), (3, mI x3)] [] 285 (4, o.1, o.2) := by
  unfold M_goesOn_b285 at h
  refine g_iload_n hk 3 rfl dX12_goesOn_285 ?_
  refine g_if_eq hk (b01 zx3) dX12_goesOn_286 h (fun b1 h => ?_) (fun b1 h => ?_)
  · exact w_M_goesOn_b400 hk hm cx1 cx2 zx3 h
  · refine g_aload_n hk 0 rfl dX12_goesOn_289 ?_
    refine g_ldc2 hk (v := 6385252) cn_X12_327 dX12_goesOn_290 ?_
    obtain ⟨r2, e3, h⟩ := zbind h
    refine g_callVz hk (st := []) mf_X12_isWord lk_X12_361 mv_X12_isWord kdM_0 (by decide) rfl (Nat.le_of_ble_eq_true rfl) rfl dX12_goesOn_293 (met_M_isWord _ _ _ _ _ hk.wd hm (cLk rfl) e3) (fun hm c4 => ?_)
    refine g_if_ne hk (b01 c4) dX12_goesOn_296 h (fun b5 h => ?_) (fun b5 h => ?_)
    · refine g_aload_n hk 0 rfl dX12_goesOn_299 ?_
      refine g_ldc2 hk (v := 28530) cn_X12_325 dX12_goesOn_300 ?_
      obtain ⟨r6, e7, h⟩ := zbind h
      refine g_callVz hk (st := []) mf_X12_isWord lk_X12_361 mv_X12_isWord kdM_0 (by decide) rfl (Nat.le_of_ble_eq_true rfl) rfl dX12_goesOn_303 (met_M_isWord _ _ _ _ _ hk.wd hm (cLk rfl) e7) (fun hm c8 => ?_)
      refine g_if_eq hk (b01 c8) dX12_goesOn_306 h (fun b9 h => ?_) (fun b9 h => ?_)
      · exact w_M_goesOn_b400 hk hm cx1 cx2 zx3 h
      · refine GoAt.sub [0, 1] rfl ?_
        exact w_M_goesOn_b309 hk hm cx1 h
    · refine GoAt.sub [0, 1] rfl ?_
      exact w_M_goesOn_b309 hk hm cx1 h
set_option maxRecDepth 100000 in
set_option maxHeartbeats 4000000 in
theorem w_M_goesOn_b264 {K : zK} (hk : zOk K kdM cX12_goesOn 5 (some .boolean) RX12 2)  {x1 : Int} {s1 : Int} {m : zM} {o : Int × zM}  (hm : zG kdM m) (cx1 : cI x1) (cs1 : cI s1) (h : M_goesOn_b264 x1 s1 m = some o) : GoAt K m [(0, .ref (kB K + 0)), (1, mI x1)] [mI s1, .ref (kB K + 0)] 264 (4, o.1, o.2) := by
  unfold M_goesOn_b264 at h
  obtain ⟨r1, e2, h⟩ := zbind h
  refine g_callVv hk (st := []) mf_X12_holdsBack lk_X12_365 mv_X12_holdsBack kdM_0 (by decide) rfl (Nat.le_of_ble_eq_true rfl) rfl dX12_goesOn_264 (met_M_holdsBack _ _ _ _ _ hk.wd hm cs1 e2) (fun hm => ?_)
  refine g_aload_n hk 0 rfl dX12_goesOn_267 ?_
  refine g_get2 hk fl_X12_119 rfl kdM_0 hm (b := 20) rfl dX12_goesOn_268 ?_
  refine g_iload_n hk 1 rfl dX12_goesOn_271 ?_
  refine g_iconst hk (v := 1) rfl dX12_goesOn_272 ?_
  refine g_iast hk cx1 (cIk rfl) kdM_20 hm dX12_goesOn_273 h (fun m4 hm h => ?_)
  refine g_aload_n hk 0 rfl dX12_goesOn_274 ?_
  obtain ⟨r5, e6, h⟩ := zbind h
  refine g_callVv hk (st := []) mf_X12_ahead lk_X12_274 mv_X12_ahead kdM_0 (by decide) rfl (Nat.le_of_ble_eq_true rfl) rfl dX12_goesOn_275 (met_M_ahead _ _ _ _ _ hk.wd hm e6) (fun hm => ?_)
  refine g_aload_n hk 0 rfl dX12_goesOn_278 ?_
  refine g_iconst hk (v := 0) rfl dX12_goesOn_279 ?_
  refine g_put4 hk fp_X12_144 rfl (j := 43) rfl kdM_0 z0 dX12_goesOn_280 h hm (fun m8 hm h => ?_)
  refine g_iconst hk (v := 1) rfl dX12_goesOn_283 ?_
  exact g_zreturn hk z1 dX12_goesOn_284 (by cases h; rfl)
set_option maxRecDepth 100000 in
set_option maxHeartbeats 4000000 in
theorem w_M_goesOn_b228 {K : zK} (hk : zOk K kdM cX12_goesOn 5 (some .boolean) RX12 2)  {x1 : Int} {m : zM} {o : Int × zM}  (hm : zG kdM m) (cx1 : cI x1) (h : M_goesOn_b228 x1 m = some o) : GoAt K m [(0, .ref (kB K + 0)), (1, mI x1)] [] 228 (4, o.1, o.2) := by
  unfold M_goesOn_b228 at h
  refine g_aload_n hk 0 rfl dX12_goesOn_228 ?_
  refine g_iconst hk (v := 5) rfl dX12_goesOn_229 ?_
  obtain ⟨r1, e2, h⟩ := zbind h
  refine g_callVv hk (st := []) mf_X12_joins lk_X12_371 mv_X12_joins kdM_0 (by decide) rfl (Nat.le_of_ble_eq_true rfl) rfl dX12_goesOn_230 (met_M_joins _ _ _ _ _ hk.wd hm (cIk rfl) e2) (fun hm => ?_)
  refine g_aload_n hk 0 rfl dX12_goesOn_233 ?_
  refine g_aload_n hk 0 rfl dX12_goesOn_234 ?_
  refine g_bipush hk (v := 60) rfl dX12_goesOn_235 ?_
  obtain ⟨r4, e5, h⟩ := zbind h
  refine g_callVz hk (st := [.ref (kB K + 0)]) mf_X12_isSign lk_X12_271 mv_X12_isSign kdM_0 (by decide) rfl (Nat.le_of_ble_eq_true rfl) rfl dX12_goesOn_237 (met_M_isSign _ _ _ _ _ hk.wd hm (cIk rfl) e5) (fun hm c6 => ?_)
  refine g_if_eq hk (b01 c6) dX12_goesOn_240 h (fun b7 h => ?_) (fun b7 h => ?_)
  · refine g_aload_n hk 0 rfl dX12_goesOn_248 ?_
    refine g_bipush hk (v := 62) rfl dX12_goesOn_249 ?_
    obtain ⟨r8, e9, h⟩ := zbind h
    refine g_callVz hk (st := [.ref (kB K + 0)]) mf_X12_isSign lk_X12_271 mv_X12_isSign kdM_0 (by decide) rfl (Nat.le_of_ble_eq_true rfl) rfl dX12_goesOn_251 (met_M_isSign _ _ _ _ _ hk.wd hm (cIk rfl) e9) (fun hm c10 => ?_)
    refine g_if_eq hk (b01 c10) dX12_goesOn_254 h (fun b11 h => ?_) (fun b11 h => ?_)
    · refine g_bipush hk (v := 40) rfl dX12_goesOn_262 ?_
      exact w_M_goesOn_b264 hk hm cx1 (cIk rfl) h
    · refine g_bipush hk (v := 39) rfl dX12_goesOn_257 ?_
      refine g_goto hk dX12_goesOn_259 ?_
      exact w_M_goesOn_b264 hk hm cx1 (cIk rfl) h
  · refine g_bipush hk (v := 38) rfl dX12_goesOn_243 ?_
    refine g_goto hk dX12_goesOn_245 ?_
    exact w_M_goesOn_b264 hk hm cx1 (cIk rfl) h
set_option maxRecDepth 100000 in
set_option maxHeartbeats 4000000 in
theorem w_M_goesOn_b188 {K : zK} (hk : zOk K kdM cX12_goesOn 5 (some .boolean) RX12 2)  {x1 : Int} {x2 : Int} {x3 : Int} {m : zM} {o : Int × zM}  (hm : zG kdM m) (cx1 : cI x1) (cx2 : cI x2) (zx3 : zok 4 x3) (h : M_goesOn_b188 x1 x2 x3 m = some o) : GoAt K m [(0, .ref (kB K + 0)), (1, mI x1), (2, mI x2), (3, mI x3)] [] 188 (4, o.1, o.2) := by
  unfold M_goesOn_b188 at h
  refine g_iload_n hk 3 rfl dX12_goesOn_188 ?_
  refine g_if_eq hk (b01 zx3) dX12_goesOn_189 h (fun b1 h => ?_) (fun b1 h => ?_)
  · exact w_M_goesOn_b285 hk hm cx1 cx2 zx3 h
  · refine g_aload_n hk 0 rfl dX12_goesOn_192 ?_
    refine g_get2 hk fl_X12_119 rfl kdM_0 hm (b := 20) rfl dX12_goesOn_193 ?_
    refine g_iload_n hk 1 rfl dX12_goesOn_196 ?_
    refine g_iald hk cx1 kdM_20 hm dX12_goesOn_197 h (fun y2 cy2 h => ?_)
    refine g_if_ne hk cy2 dX12_goesOn_198 h (fun b3 h => ?_) (fun b3 h => ?_)
    · refine g_aload_n hk 0 rfl dX12_goesOn_201 ?_
      refine g_bipush hk (v := 60) rfl dX12_goesOn_202 ?_
      obtain ⟨r4, e5, h⟩ := zbind h
      refine g_callVz hk (st := []) mf_X12_isSign lk_X12_271 mv_X12_isSign kdM_0 (by decide) rfl (Nat.le_of_ble_eq_true rfl) rfl dX12_goesOn_204 (met_M_isSign _ _ _ _ _ hk.wd hm (cIk rfl) e5) (fun hm c6 => ?_)
      refine g_if_ne hk (b01 c6) dX12_goesOn_207 h (fun b7 h => ?_) (fun b7 h => ?_)
      · refine g_aload_n hk 0 rfl dX12_goesOn_210 ?_
        refine g_bipush hk (v := 62) rfl dX12_goesOn_211 ?_
        obtain ⟨r8, e9, h⟩ := zbind h
        refine g_callVz hk (st := []) mf_X12_isSign lk_X12_271 mv_X12_isSign kdM_0 (by decide) rfl (Nat.le_of_ble_eq_true rfl) rfl dX12_goesOn_213 (met_M_isSign _ _ _ _ _ hk.wd hm (cIk rfl) e9) (fun hm c10 => ?_)
        refine g_if_ne hk (b01 c10) dX12_goesOn_216 h (fun b11 h => ?_) (fun b11 h => ?_)
        · refine g_aload_n hk 0 rfl dX12_goesOn_219 ?_
          refine g_bipush hk (v := 61) rfl dX12_goesOn_220 ?_
          obtain ⟨r12, e13, h⟩ := zbind h
          refine g_callVz hk (st := []) mf_X12_isSign lk_X12_271 mv_X12_isSign kdM_0 (by decide) rfl (Nat.le_of_ble_eq_true rfl) rfl dX12_goesOn_222 (met_M_isSign _ _ _ _ _ hk.wd hm (cIk rfl) e13) (fun hm c14 => ?_)
          refine g_if_eq hk (b01 c14) dX12_goesOn_225 h (fun b15 h => ?_) (fun b15 h => ?_)
          · exact w_M_goesOn_b285 hk hm cx1 cx2 zx3 h
          · refine GoAt.sub [0, 1] rfl ?_
            exact w_M_goesOn_b228 hk hm cx1 h
        · refine GoAt.sub [0, 1] rfl ?_
          exact w_M_goesOn_b228 hk hm cx1 h
      · refine GoAt.sub [0, 1] rfl ?_
        exact w_M_goesOn_b228 hk hm cx1 h
    · exact w_M_goesOn_b285 hk hm cx1 cx2 zx3 h
set_option maxRecDepth 100000 in
set_option maxHeartbeats 4000000 in
theorem w_M_goesOn_b112 {K : zK} (hk : zOk K kdM cX12_goesOn 5 (some .boolean) RX12 2)  {s1 : Int} {m : zM} {o : Int × zM}  (hm : zG kdM m) (cs1 : cI s1) (h : M_goesOn_b112 s1 m = some o) : GoAt K m [(0, .ref (kB K + 0))] [mI s1, .ref (kB K + 0)] 112 (4, o.1, o.2) := by
  unfold M_goesOn_b112 at h
  obtain ⟨r1, e2, h⟩ := zbind h
  refine g_callVv hk (st := []) mf_X12_joins lk_X12_371 mv_X12_joins kdM_0 (by decide) rfl (Nat.le_of_ble_eq_true rfl) rfl dX12_goesOn_112 (met_M_joins _ _ _ _ _ hk.wd hm cs1 e2) (fun hm => ?_)
  refine g_aload_n hk 0 rfl dX12_goesOn_115 ?_
  refine g_aload_n hk 0 rfl dX12_goesOn_116 ?_
  refine g_bipush hk (v := 43) rfl dX12_goesOn_117 ?_
  obtain ⟨r4, e5, h⟩ := zbind h
  refine g_callVz hk (st := [.ref (kB K + 0)]) mf_X12_isSign lk_X12_271 mv_X12_isSign kdM_0 (by decide) rfl (Nat.le_of_ble_eq_true rfl) rfl dX12_goesOn_119 (met_M_isSign _ _ _ _ _ hk.wd hm (cIk rfl) e5) (fun hm c6 => ?_)
  refine g_if_eq hk (b01 c6) dX12_goesOn_122 h (fun b7 h => ?_) (fun b7 h => ?_)
  · refine g_aload_n hk 0 rfl dX12_goesOn_130 ?_
    refine g_bipush hk (v := 45) rfl dX12_goesOn_131 ?_
    obtain ⟨r8, e9, h⟩ := zbind h
    refine g_callVz hk (st := [.ref (kB K + 0)]) mf_X12_isSign lk_X12_271 mv_X12_isSign kdM_0 (by decide) rfl (Nat.le_of_ble_eq_true rfl) rfl dX12_goesOn_133 (met_M_isSign _ _ _ _ _ hk.wd hm (cIk rfl) e9) (fun hm c10 => ?_)
    refine g_if_eq hk (b01 c10) dX12_goesOn_136 h (fun b11 h => ?_) (fun b11 h => ?_)
    · refine g_aload_n hk 0 rfl dX12_goesOn_144 ?_
      refine g_bipush hk (v := 42) rfl dX12_goesOn_145 ?_
      obtain ⟨r12, e13, h⟩ := zbind h
      refine g_callVz hk (st := [.ref (kB K + 0)]) mf_X12_isSign lk_X12_271 mv_X12_isSign kdM_0 (by decide) rfl (Nat.le_of_ble_eq_true rfl) rfl dX12_goesOn_147 (met_M_isSign _ _ _ _ _ hk.wd hm (cIk rfl) e13) (fun hm c14 => ?_)
      refine g_if_eq hk (b01 c14) dX12_goesOn_150 h (fun b15 h => ?_) (fun b15 h => ?_)
      · refine g_aload_n hk 0 rfl dX12_goesOn_158 ?_
        refine g_bipush hk (v := 47) rfl dX12_goesOn_159 ?_
        obtain ⟨r16, e17, h⟩ := zbind h
        refine g_callVz hk (st := [.ref (kB K + 0)]) mf_X12_isSign lk_X12_271 mv_X12_isSign kdM_0 (by decide) rfl (Nat.le_of_ble_eq_true rfl) rfl dX12_goesOn_161 (met_M_isSign _ _ _ _ _ hk.wd hm (cIk rfl) e17) (fun hm c18 => ?_)
        refine g_if_eq hk (b01 c18) dX12_goesOn_164 h (fun b19 h => ?_) (fun b19 h => ?_)
        · refine g_bipush hk (v := 35) rfl dX12_goesOn_172 ?_
          obtain ⟨r20, e21, h⟩ := zbind h
          refine g_callVv hk (st := []) mf_X12_holdsBack lk_X12_365 mv_X12_holdsBack kdM_0 (by decide) rfl (Nat.le_of_ble_eq_true rfl) rfl dX12_goesOn_174 (met_M_holdsBack _ _ _ _ _ hk.wd hm (cIk rfl) e21) (fun hm => ?_)
          refine g_aload_n hk 0 rfl dX12_goesOn_177 ?_
          obtain ⟨r23, e24, h⟩ := zbind h
          refine g_callVv hk (st := []) mf_X12_ahead lk_X12_274 mv_X12_ahead kdM_0 (by decide) rfl (Nat.le_of_ble_eq_true rfl) rfl dX12_goesOn_178 (met_M_ahead _ _ _ _ _ hk.wd hm e24) (fun hm => ?_)
          refine g_aload_n hk 0 rfl dX12_goesOn_181 ?_
          refine g_iconst hk (v := 0) rfl dX12_goesOn_182 ?_
          refine g_put4 hk fp_X12_144 rfl (j := 43) rfl kdM_0 z0 dX12_goesOn_183 h hm (fun m26 hm h => ?_)
          refine g_iconst hk (v := 1) rfl dX12_goesOn_186 ?_
          exact g_zreturn hk z1 dX12_goesOn_187 (by cases h; rfl)
        · refine g_bipush hk (v := 34) rfl dX12_goesOn_167 ?_
          refine g_goto hk dX12_goesOn_169 ?_
          obtain ⟨r27, e28, h⟩ := zbind h
          refine g_callVv hk (st := []) mf_X12_holdsBack lk_X12_365 mv_X12_holdsBack kdM_0 (by decide) rfl (Nat.le_of_ble_eq_true rfl) rfl dX12_goesOn_174 (met_M_holdsBack _ _ _ _ _ hk.wd hm (cIk rfl) e28) (fun hm => ?_)
          refine g_aload_n hk 0 rfl dX12_goesOn_177 ?_
          obtain ⟨r30, e31, h⟩ := zbind h
          refine g_callVv hk (st := []) mf_X12_ahead lk_X12_274 mv_X12_ahead kdM_0 (by decide) rfl (Nat.le_of_ble_eq_true rfl) rfl dX12_goesOn_178 (met_M_ahead _ _ _ _ _ hk.wd hm e31) (fun hm => ?_)
          refine g_aload_n hk 0 rfl dX12_goesOn_181 ?_
          refine g_iconst hk (v := 0) rfl dX12_goesOn_182 ?_
          refine g_put4 hk fp_X12_144 rfl (j := 43) rfl kdM_0 z0 dX12_goesOn_183 h hm (fun m33 hm h => ?_)
          refine g_iconst hk (v := 1) rfl dX12_goesOn_186 ?_
          exact g_zreturn hk z1 dX12_goesOn_187 (by cases h; rfl)
      · refine g_bipush hk (v := 33) rfl dX12_goesOn_153 ?_
        refine g_goto hk dX12_goesOn_155 ?_
        obtain ⟨r34, e35, h⟩ := zbind h
        refine g_callVv hk (st := []) mf_X12_holdsBack lk_X12_365 mv_X12_holdsBack kdM_0 (by decide) rfl (Nat.le_of_ble_eq_true rfl) rfl dX12_goesOn_174 (met_M_holdsBack _ _ _ _ _ hk.wd hm (cIk rfl) e35) (fun hm => ?_)
        refine g_aload_n hk 0 rfl dX12_goesOn_177 ?_
        obtain ⟨r37, e38, h⟩ := zbind h
        refine g_callVv hk (st := []) mf_X12_ahead lk_X12_274 mv_X12_ahead kdM_0 (by decide) rfl (Nat.le_of_ble_eq_true rfl) rfl dX12_goesOn_178 (met_M_ahead _ _ _ _ _ hk.wd hm e38) (fun hm => ?_)
        refine g_aload_n hk 0 rfl dX12_goesOn_181 ?_
        refine g_iconst hk (v := 0) rfl dX12_goesOn_182 ?_
        refine g_put4 hk fp_X12_144 rfl (j := 43) rfl kdM_0 z0 dX12_goesOn_183 h hm (fun m40 hm h => ?_)
        refine g_iconst hk (v := 1) rfl dX12_goesOn_186 ?_
        exact g_zreturn hk z1 dX12_goesOn_187 (by cases h; rfl)
    · refine g_bipush hk (v := 32) rfl dX12_goesOn_139 ?_
      refine g_goto hk dX12_goesOn_141 ?_
      obtain ⟨r41, e42, h⟩ := zbind h
      refine g_callVv hk (st := []) mf_X12_holdsBack lk_X12_365 mv_X12_holdsBack kdM_0 (by decide) rfl (Nat.le_of_ble_eq_true rfl) rfl dX12_goesOn_174 (met_M_holdsBack _ _ _ _ _ hk.wd hm (cIk rfl) e42) (fun hm => ?_)
      refine g_aload_n hk 0 rfl dX12_goesOn_177 ?_
      obtain ⟨r44, e45, h⟩ := zbind h
      refine g_callVv hk (st := []) mf_X12_ahead lk_X12_274 mv_X12_ahead kdM_0 (by decide) rfl (Nat.le_of_ble_eq_true rfl) rfl dX12_goesOn_178 (met_M_ahead _ _ _ _ _ hk.wd hm e45) (fun hm => ?_)
      refine g_aload_n hk 0 rfl dX12_goesOn_181 ?_
      refine g_iconst hk (v := 0) rfl dX12_goesOn_182 ?_
      refine g_put4 hk fp_X12_144 rfl (j := 43) rfl kdM_0 z0 dX12_goesOn_183 h hm (fun m47 hm h => ?_)
      refine g_iconst hk (v := 1) rfl dX12_goesOn_186 ?_
      exact g_zreturn hk z1 dX12_goesOn_187 (by cases h; rfl)
  · refine g_bipush hk (v := 31) rfl dX12_goesOn_125 ?_
    refine g_goto hk dX12_goesOn_127 ?_
    obtain ⟨r48, e49, h⟩ := zbind h
    refine g_callVv hk (st := []) mf_X12_holdsBack lk_X12_365 mv_X12_holdsBack kdM_0 (by decide) rfl (Nat.le_of_ble_eq_true rfl) rfl dX12_goesOn_174 (met_M_holdsBack _ _ _ _ _ hk.wd hm (cIk rfl) e49) (fun hm => ?_)
    refine g_aload_n hk 0 rfl dX12_goesOn_177 ?_
    obtain ⟨r51, e52, h⟩ := zbind h
    refine g_callVv hk (st := []) mf_X12_ahead lk_X12_274 mv_X12_ahead kdM_0 (by decide) rfl (Nat.le_of_ble_eq_true rfl) rfl dX12_goesOn_178 (met_M_ahead _ _ _ _ _ hk.wd hm e52) (fun hm => ?_)
    refine g_aload_n hk 0 rfl dX12_goesOn_181 ?_
    refine g_iconst hk (v := 0) rfl dX12_goesOn_182 ?_
    refine g_put4 hk fp_X12_144 rfl (j := 43) rfl kdM_0 z0 dX12_goesOn_183 h hm (fun m54 hm h => ?_)
    refine g_iconst hk (v := 1) rfl dX12_goesOn_186 ?_
    exact g_zreturn hk z1 dX12_goesOn_187 (by cases h; rfl)
set_option maxRecDepth 100000 in
set_option maxHeartbeats 4000000 in
theorem w_M_goesOn_b106 {K : zK} (hk : zOk K kdM cX12_goesOn 5 (some .boolean) RX12 2)  {m : zM} {o : Int × zM}  (hm : zG kdM m)  (h : M_goesOn_b106 m = some o) : GoAt K m [(0, .ref (kB K + 0))] [.ref (kB K + 0)] 106 (4, o.1, o.2) := by
  unfold M_goesOn_b106 at h
  refine g_iconst hk (v := 5) rfl dX12_goesOn_106 ?_
  refine g_goto hk dX12_goesOn_107 ?_
  exact w_M_goesOn_b112 hk hm (cIk rfl) h
set_option maxRecDepth 100000 in
set_option maxHeartbeats 4000000 in
theorem w_M_goesOn_b87 {K : zK} (hk : zOk K kdM cX12_goesOn 5 (some .boolean) RX12 2)  {m : zM} {o : Int × zM}  (hm : zG kdM m)  (h : M_goesOn_b87 m = some o) : GoAt K m [(0, .ref (kB K + 0))] [] 87 (4, o.1, o.2) := by
  unfold M_goesOn_b87 at h
  refine g_aload_n hk 0 rfl dX12_goesOn_87 ?_
  refine g_aload_n hk 0 rfl dX12_goesOn_88 ?_
  refine g_bipush hk (v := 43) rfl dX12_goesOn_89 ?_
  obtain ⟨r1, e2, h⟩ := zbind h
  refine g_callVz hk (st := [.ref (kB K + 0)]) mf_X12_isSign lk_X12_271 mv_X12_isSign kdM_0 (by decide) rfl (Nat.le_of_ble_eq_true rfl) rfl dX12_goesOn_91 (met_M_isSign _ _ _ _ _ hk.wd hm (cIk rfl) e2) (fun hm c3 => ?_)
  refine g_if_ne hk (b01 c3) dX12_goesOn_94 h (fun b4 h => ?_) (fun b4 h => ?_)
  · refine g_aload_n hk 0 rfl dX12_goesOn_97 ?_
    refine g_bipush hk (v := 45) rfl dX12_goesOn_98 ?_
    obtain ⟨r5, e6, h⟩ := zbind h
    refine g_callVz hk (st := [.ref (kB K + 0)]) mf_X12_isSign lk_X12_271 mv_X12_isSign kdM_0 (by decide) rfl (Nat.le_of_ble_eq_true rfl) rfl dX12_goesOn_100 (met_M_isSign _ _ _ _ _ hk.wd hm (cIk rfl) e6) (fun hm c7 => ?_)
    refine g_if_eq hk (b01 c7) dX12_goesOn_103 h (fun b8 h => ?_) (fun b8 h => ?_)
    · refine g_bipush hk (v := 6) rfl dX12_goesOn_110 ?_
      exact w_M_goesOn_b112 hk hm (cIk rfl) h
    · exact w_M_goesOn_b106 hk hm h
  · exact w_M_goesOn_b106 hk hm h
set_option maxRecDepth 100000 in
set_option maxHeartbeats 4000000 in
theorem w_M_goesOn {K : zK} (hk : zOk K kdM cX12_goesOn 5 (some .boolean) RX12 2)  {m : zM} {o : Int × zM}  (hm : zG kdM m)  (h : M_goesOn m = some o) : GoAt K m [(0, .ref (kB K + 0))] [] 0 (4, o.1, o.2) := by
  unfold M_goesOn at h
  refine g_aload_n hk 0 rfl dX12_goesOn_0 ?_
  obtain ⟨r1, e2, h⟩ := zbind h
  refine g_callVv hk (st := []) mf_X12_lex lk_X12_268 mv_X12_lex kdM_0 (by decide) rfl (Nat.le_of_ble_eq_true rfl) rfl dX12_goesOn_1 (met_M_lex _ _ _ _ _ hk.wd hm e2) (fun hm => ?_)
  refine g_aload_n hk 0 rfl dX12_goesOn_4 ?_
  have g4 := zGI (i := 8) hm kdM_0 rfl
  refine g_get0 hk fl_X12_36 rfl (j := 8) rfl kdM_0 dX12_goesOn_5 ?_
  refine g_if_le hk g4 dX12_goesOn_8 h (fun b5 h => ?_) (fun b5 h => ?_)
  · refine g_iconst hk (v := 0) rfl dX12_goesOn_11 ?_
    exact g_zreturn hk z0 dX12_goesOn_12 (by cases h; rfl)
  · refine g_aload_n hk 0 rfl dX12_goesOn_13 ?_
    have g6 := zGI (i := 39) hm kdM_0 rfl
    refine g_get0 hk fl_X12_132 rfl (j := 39) rfl kdM_0 dX12_goesOn_14 ?_
    refine g_iconst hk (v := 1) rfl dX12_goesOn_17 ?_
    refine g_isub hk dX12_goesOn_18 ?_
    refine g_let (wI_c _) h (fun v7 cv7 h => ?_)
    refine g_istore_n hk rfl (lv' := [(1, mI v7), (0, .ref (kB K + 0))]) (Nat.le_of_ble_eq_true rfl) rfl dX12_goesOn_19 ?_
    refine g_aload_n hk 1 rfl dX12_goesOn_20 ?_
    refine g_get2 hk fl_X12_116 rfl kdM_0 hm (b := 19) rfl dX12_goesOn_21 ?_
    refine g_iload_n hk 0 rfl dX12_goesOn_24 ?_
    refine g_iald hk cv7 kdM_19 hm dX12_goesOn_25 h (fun y8 cy8 h => ?_)
    refine g_istore_n hk rfl (lv' := [(2, mI y8), (1, mI v7), (0, .ref (kB K + 0))]) (Nat.le_of_ble_eq_true rfl) rfl dX12_goesOn_26 ?_
    refine g_iload_n hk 0 rfl dX12_goesOn_27 ?_
    obtain ⟨r9, e10, h⟩ := zbind h
    refine g_callSz hk (st := []) mf_X12_isTest lk_X12_358 ms_X12_isTest (by decide) rfl (Nat.le_of_ble_eq_true rfl) rfl dX12_goesOn_28 (met_M_isTest _ _ _ _ _ hk.wd hm cy8 e10) (fun hm c11 => ?_)
    refine g_istore_n hk rfl (lv' := [(3, mI r9), (2, mI y8), (1, mI v7), (0, .ref (kB K + 0))]) (Nat.le_of_ble_eq_true rfl) rfl dX12_goesOn_31 ?_
    refine g_aload_n hk 3 rfl dX12_goesOn_32 ?_
    refine g_get2 hk fl_X12_119 rfl kdM_0 hm (b := 20) rfl dX12_goesOn_33 ?_
    refine g_iload_n hk 2 rfl dX12_goesOn_36 ?_
    refine g_iald hk cv7 kdM_20 hm dX12_goesOn_37 h (fun y12 cy12 h => ?_)
    refine g_iconst hk (v := 2) rfl dX12_goesOn_38 ?_
    refine g_icmp_ge hk cy12 (cIk rfl) dX12_goesOn_39 h (fun b13 h => ?_) (fun b13 h => ?_)
    · refine g_aload_n hk 3 rfl dX12_goesOn_42 ?_
      refine g_bipush hk (v := 43) rfl dX12_goesOn_43 ?_
      obtain ⟨r14, e15, h⟩ := zbind h
      refine g_callVz hk (st := []) mf_X12_isSign lk_X12_271 mv_X12_isSign kdM_0 (by decide) rfl (Nat.le_of_ble_eq_true rfl) rfl dX12_goesOn_45 (met_M_isSign _ _ _ _ _ hk.wd hm (cIk rfl) e15) (fun hm c16 => ?_)
      refine g_if_ne hk (b01 c16) dX12_goesOn_48 h (fun b17 h => ?_) (fun b17 h => ?_)
      · refine g_aload_n hk 3 rfl dX12_goesOn_51 ?_
        refine g_bipush hk (v := 45) rfl dX12_goesOn_52 ?_
        obtain ⟨r18, e19, h⟩ := zbind h
        refine g_callVz hk (st := []) mf_X12_isSign lk_X12_271 mv_X12_isSign kdM_0 (by decide) rfl (Nat.le_of_ble_eq_true rfl) rfl dX12_goesOn_54 (met_M_isSign _ _ _ _ _ hk.wd hm (cIk rfl) e19) (fun hm c20 => ?_)
        refine g_if_ne hk (b01 c20) dX12_goesOn_57 h (fun b21 h => ?_) (fun b21 h => ?_)
        · refine g_aload_n hk 3 rfl dX12_goesOn_60 ?_
          refine g_bipush hk (v := 42) rfl dX12_goesOn_61 ?_
          obtain ⟨r22, e23, h⟩ := zbind h
          refine g_callVz hk (st := []) mf_X12_isSign lk_X12_271 mv_X12_isSign kdM_0 (by decide) rfl (Nat.le_of_ble_eq_true rfl) rfl dX12_goesOn_63 (met_M_isSign _ _ _ _ _ hk.wd hm (cIk rfl) e23) (fun hm c24 => ?_)
          refine g_if_ne hk (b01 c24) dX12_goesOn_66 h (fun b25 h => ?_) (fun b25 h => ?_)
          · refine g_aload_n hk 3 rfl dX12_goesOn_69 ?_
            refine g_bipush hk (v := 47) rfl dX12_goesOn_70 ?_
            obtain ⟨r26, e27, h⟩ := zbind h
            refine g_callVz hk (st := []) mf_X12_isSign lk_X12_271 mv_X12_isSign kdM_0 (by decide) rfl (Nat.le_of_ble_eq_true rfl) rfl dX12_goesOn_72 (met_M_isSign _ _ _ _ _ hk.wd hm (cIk rfl) e27) (fun hm c28 => ?_)
            refine g_if_ne hk (b01 c28) dX12_goesOn_75 h (fun b29 h => ?_) (fun b29 h => ?_)
            · refine g_aload_n hk 3 rfl dX12_goesOn_78 ?_
              refine g_bipush hk (v := 37) rfl dX12_goesOn_79 ?_
              obtain ⟨r30, e31, h⟩ := zbind h
              refine g_callVz hk (st := []) mf_X12_isSign lk_X12_271 mv_X12_isSign kdM_0 (by decide) rfl (Nat.le_of_ble_eq_true rfl) rfl dX12_goesOn_81 (met_M_isSign _ _ _ _ _ hk.wd hm (cIk rfl) e31) (fun hm c32 => ?_)
              refine g_if_eq hk (b01 c32) dX12_goesOn_84 h (fun b33 h => ?_) (fun b33 h => ?_)
              · refine GoAt.sub [3, 2, 1, 0] rfl ?_
                exact w_M_goesOn_b188 hk hm cv7 cy8 c11 h
              · refine GoAt.sub [3] rfl ?_
                exact w_M_goesOn_b87 hk hm h
            · refine GoAt.sub [3] rfl ?_
              exact w_M_goesOn_b87 hk hm h
          · refine GoAt.sub [3] rfl ?_
            exact w_M_goesOn_b87 hk hm h
        · refine GoAt.sub [3] rfl ?_
          exact w_M_goesOn_b87 hk hm h
      · refine GoAt.sub [3] rfl ?_
        exact w_M_goesOn_b87 hk hm h
    · refine GoAt.sub [3, 2, 1, 0] rfl ?_
      exact w_M_goesOn_b188 hk hm cv7 cy8 c11 h
theorem met_M_goesOn (l : Launch) (D : va_G) (aC : Nat → ClassId) (B N : Nat) (hwd : ∀ id, (kdM id).1 ≠ 9 → id < N) {m : zM} {o : Int × zM} (hm : zG kdM m)  (h : M_goesOn m = some o) : zMet l yX12_goesOn cX12_goesOn 5 (some .boolean) 2 D aC B kdM N [.ref (B + 0)] m (4, o.1, o.2) := by
  refine zMet.of mf_X12_goesOn hwd hm (Nat.le_of_ble_eq_true rfl) (fun K e1 e2 e3 e4 e5 hk => ?_)
  subst e4
  exact w_M_goesOn hk hm  h
set_option maxRecDepth 100000 in
set_option maxHeartbeats 4000000 in
theorem w_M_reads_b70 {K : zK} (hk : zOk K kdM cX12_reads 3 none RX12 4) {rec : Int → zM → Option (zM)} {x2 : Int} {m : zM} {o : zM} (hrec : ∀ (x2 : Int) (m : zM), zG kdM m → zok 4 x2 → rec x2 m = some o → GoAt K m [(0, .ref (kB K + 0)), (2, mI x2)] [] 43 (9, 0, o)) (hm : zG kdM m) (zx2 : zok 4 x2) (h : M_reads_b70 rec x2 m = some o) : GoAt K m [(0, .ref (kB K + 0)), (2, mI x2)] [] 70 (9, 0, o) := by
  unfold M_reads_b70 at h
  refine g_iload_n hk 1 rfl dX12_reads_70 ?_
  refine g_if_eq hk (b01 zx2) dX12_reads_71 h (fun b1 h => ?_) (fun b1 h => ?_)
  · refine g_iconst hk (v := 0) rfl dX12_reads_85 ?_
    refine g_istore_n hk rfl (lv' := [(2, mI 0), (0, .ref (kB K + 0))]) (Nat.le_of_ble_eq_true rfl) rfl dX12_reads_86 ?_
    refine g_goto hk dX12_reads_87 ?_
    refine GoAt.sub [1, 0] rfl ?_
    exact hrec _ _ hm z0 h
  · refine g_aload_n hk 0 rfl dX12_reads_74 ?_
    have g2 := zGI (i := 8) hm kdM_0 rfl
    refine g_get0 hk fl_X12_36 rfl (j := 8) rfl kdM_0 dX12_reads_75 ?_
    refine g_if_ne hk g2 dX12_reads_78 h (fun b3 h => ?_) (fun b3 h => ?_)
    · refine g_iconst hk (v := 1) rfl dX12_reads_81 ?_
      refine g_goto hk dX12_reads_82 ?_
      refine g_istore_n hk rfl (lv' := [(2, mI 1), (0, .ref (kB K + 0))]) (Nat.le_of_ble_eq_true rfl) rfl dX12_reads_86 ?_
      refine g_goto hk dX12_reads_87 ?_
      refine GoAt.sub [1, 0] rfl ?_
      exact hrec _ _ hm z1 h
    · refine g_iconst hk (v := 0) rfl dX12_reads_85 ?_
      refine g_istore_n hk rfl (lv' := [(2, mI 0), (0, .ref (kB K + 0))]) (Nat.le_of_ble_eq_true rfl) rfl dX12_reads_86 ?_
      refine g_goto hk dX12_reads_87 ?_
      refine GoAt.sub [1, 0] rfl ?_
      exact hrec _ _ hm z0 h
set_option maxRecDepth 100000 in
set_option maxHeartbeats 4000000 in
theorem w_M_reads_B43 {K : zK} (hk : zOk K kdM cX12_reads 3 none RX12 4) {rec : Int → zM → Option (zM)} {x2 : Int} {m : zM} {o : zM} (hrec : ∀ (x2 : Int) (m : zM), zG kdM m → zok 4 x2 → rec x2 m = some o → GoAt K m [(0, .ref (kB K + 0)), (2, mI x2)] [] 43 (9, 0, o)) (hm : zG kdM m) (zx2 : zok 4 x2) (h : M_reads_B43 rec x2 m = some o) : GoAt K m [(0, .ref (kB K + 0)), (2, mI x2)] [] 43 (9, 0, o) := by
  unfold M_reads_B43 at h
  refine g_iload_n hk 1 rfl dX12_reads_43 ?_
  refine g_if_eq hk (b01 zx2) dX12_reads_44 h (fun b1 h => ?_) (fun b1 h => ?_)
  · exact g_return hk dX12_reads_90 (by cases h; rfl)
  · refine g_aload_n hk 0 rfl dX12_reads_47 ?_
    have g2 := zGZ (i := 43) hm kdM_0 rfl
    refine g_get4 hk fl_X12_144 rfl (j := 43) rfl kdM_0 dX12_reads_48 ?_
    refine g_if_ne hk (b01 g2) dX12_reads_51 h (fun b3 h => ?_) (fun b3 h => ?_)
    · refine g_aload_n hk 0 rfl dX12_reads_54 ?_
      refine g_aload_n hk 0 rfl dX12_reads_55 ?_
      obtain ⟨r4, e5, h⟩ := zbind h
      refine g_callVz hk (st := [.ref (kB K + 0)]) mf_X12_operand lk_X12_374 mv_X12_operand kdM_0 (by decide) rfl (Nat.le_of_ble_eq_true rfl) rfl dX12_reads_56 (met_M_operand _ _ _ _ _ hk.wd hm e5) (fun hm c6 => ?_)
      refine g_put4 hk fp_X12_144 rfl (j := 43) rfl kdM_0 c6 dX12_reads_59 h hm (fun m7 hm h => ?_)
      refine g_goto hk dX12_reads_62 ?_
      exact w_M_reads_b70 hk hrec hm zx2 h
    · refine g_aload_n hk 0 rfl dX12_reads_65 ?_
      obtain ⟨r8, e9, h⟩ := zbind h
      refine g_callVz hk (st := []) mf_X12_goesOn lk_X12_377 mv_X12_goesOn kdM_0 (by decide) rfl (Nat.le_of_ble_eq_true rfl) rfl dX12_reads_66 (met_M_goesOn _ _ _ _ _ hk.wd hm e9) (fun hm c10 => ?_)
      refine g_istore_n hk rfl (lv' := [(2, mI r8.1), (0, .ref (kB K + 0))]) (Nat.le_of_ble_eq_true rfl) rfl dX12_reads_69 ?_
      refine GoAt.sub [1, 0] rfl ?_
      exact w_M_reads_b70 hk hrec hm c10 h
theorem w_M_reads_L43 {K : zK} (hk : zOk K kdM cX12_reads 3 none RX12 4)  {o : zM}  : ∀ (n : Nat) (x2 : Int) (m : zM), zG kdM m → zok 4 x2 → M_reads_L43 n x2 m = some o → GoAt K m [(0, .ref (kB K + 0)), (2, mI x2)] [] 43 (9, 0, o)
  | 0, x2, m, hm, zx2, h => by cases h
  | n + 1, x2, m, hm, zx2, h => w_M_reads_B43 hk  (w_M_reads_L43 hk  n) hm zx2 h
set_option maxRecDepth 100000 in
set_option maxHeartbeats 4000000 in
theorem w_M_reads_b38 {K : zK} (hk : zOk K kdM cX12_reads 3 none RX12 4)  {s1 : Int} {m : zM} {o : zM}  (hm : zG kdM m) (zs1 : zok 4 s1) (h : M_reads_b38 s1 m = some o) : GoAt K m [(0, .ref (kB K + 0))] [mI s1, .ref (kB K + 0)] 38 (9, 0, o) := by
  unfold M_reads_b38 at h
  obtain ⟨r1, e2, h⟩ := zbind h
  refine g_callVv hk (st := []) mf_X12_pushes lk_X12_355 mv_X12_pushes kdM_0 (by decide) rfl (Nat.le_of_ble_eq_true rfl) rfl dX12_reads_38 (met_M_pushes _ _ _ _ _ hk.wd hm (b01 zs1) e2) (fun hm => ?_)
  refine g_iconst hk (v := 1) rfl dX12_reads_41 ?_
  refine g_istore_n hk rfl (lv' := [(2, mI 1), (0, .ref (kB K + 0))]) (Nat.le_of_ble_eq_true rfl) rfl dX12_reads_42 ?_
  refine GoAt.sub [1, 0] rfl ?_
  refine w_M_reads_L43 hk  1000000 _ _ hm z1 h
set_option maxRecDepth 100000 in
set_option maxHeartbeats 4000000 in
theorem w_M_reads {K : zK} (hk : zOk K kdM cX12_reads 3 none RX12 4)  {x1 : Int} {m : zM} {o : zM}  (hm : zG kdM m) (zx1 : zok 4 x1) (h : M_reads x1 m = some o) : GoAt K m [(0, .ref (kB K + 0)), (1, mI x1)] [] 0 (9, 0, o) := by
  unfold M_reads at h
  refine g_aload_n hk 0 rfl dX12_reads_0 ?_
  have g1 := zGI (i := 8) hm kdM_0 rfl
  refine g_get0 hk fl_X12_36 rfl (j := 8) rfl kdM_0 dX12_reads_1 ?_
  refine g_if_le hk g1 dX12_reads_4 h (fun b2 h => ?_) (fun b2 h => ?_)
  · exact g_return hk dX12_reads_7 (by cases h; rfl)
  · refine g_aload_n hk 0 rfl dX12_reads_8 ?_
    refine g_iconst hk (v := 0) rfl dX12_reads_9 ?_
    refine g_put0 hk fp_X12_132 rfl (j := 39) rfl kdM_0 (cIk rfl) dX12_reads_10 h hm (fun m3 hm h => ?_)
    refine g_aload_n hk 0 rfl dX12_reads_13 ?_
    refine g_iconst hk (v := 0) rfl dX12_reads_14 ?_
    refine g_put0 hk fp_X12_135 rfl (j := 40) rfl kdM_0 (cIk rfl) dX12_reads_15 h hm (fun m4 hm h => ?_)
    refine g_aload_n hk 0 rfl dX12_reads_18 ?_
    refine g_iconst hk (v := 0) rfl dX12_reads_19 ?_
    refine g_put0 hk fp_X12_141 rfl (j := 42) rfl kdM_0 (cIk rfl) dX12_reads_20 h hm (fun m5 hm h => ?_)
    refine g_aload_n hk 0 rfl dX12_reads_23 ?_
    refine g_iconst hk (v := 0) rfl dX12_reads_24 ?_
    refine g_put4 hk fp_X12_144 rfl (j := 43) rfl kdM_0 z0 dX12_reads_25 h hm (fun m6 hm h => ?_)
    refine g_aload_n hk 0 rfl dX12_reads_28 ?_
    refine g_iload_n hk 1 rfl dX12_reads_29 ?_
    refine g_if_eq hk (b01 zx1) dX12_reads_30 h (fun b7 h => ?_) (fun b7 h => ?_)
    · refine g_iconst hk (v := 0) rfl dX12_reads_37 ?_
      refine GoAt.sub [0] rfl ?_
      exact w_M_reads_b38 hk hm z0 h
    · refine g_iconst hk (v := 1) rfl dX12_reads_33 ?_
      refine g_goto hk dX12_reads_34 ?_
      refine GoAt.sub [0] rfl ?_
      exact w_M_reads_b38 hk hm z1 h
theorem met_M_reads (l : Launch) (D : va_G) (aC : Nat → ClassId) (B N : Nat) (hwd : ∀ id, (kdM id).1 ≠ 9 → id < N) {x1 : Int} {m : zM} {o : zM} (hm : zG kdM m) (zx1 : zok 4 x1) (h : M_reads x1 m = some o) : zMet l yX12_reads cX12_reads 3 none 4 D aC B kdM N [.ref (B + 0), mI x1] m (9, 0, o) := by
  refine zMet.of mf_X12_reads hwd hm (Nat.le_of_ble_eq_true rfl) (fun K e1 e2 e3 e4 e5 hk => ?_)
  subst e4
  exact w_M_reads hk hm zx1 h
set_option maxRecDepth 100000 in
set_option maxHeartbeats 4000000 in
theorem w_M_counts_b32 {K : zK} (hk : zOk K kdM cX12_counts 2 (some .boolean) RX12 2)  {m : zM} {o : Int × zM}  (hm : zG kdM m)  (h : M_counts_b32 m = some o) : GoAt K m [(0, .ref (kB K + 0))] [] 32 (4, o.1, o.2) := by
  unfold M_counts_b32 at h
  refine g_aload_n hk 0 rfl dX12_counts_32 ?_
  have g1 := zGI (i := 8) hm kdM_0 rfl
  refine g_get0 hk fl_X12_36 rfl (j := 8) rfl kdM_0 dX12_counts_33 ?_
  refine g_if_ne hk g1 dX12_counts_36 h (fun b2 h => ?_) (fun b2 h => ?_)
  · refine g_iconst hk (v := 1) rfl dX12_counts_39 ?_
    refine g_goto hk dX12_counts_40 ?_
    exact g_zreturn hk z1 dX12_counts_44 (by cases h; rfl)
  · refine g_iconst hk (v := 0) rfl dX12_counts_43 ?_
    exact g_zreturn hk z0 dX12_counts_44 (by cases h; rfl)
set_option maxRecDepth 100000 in
set_option maxHeartbeats 4000000 in
theorem w_M_counts_b21 {K : zK} (hk : zOk K kdM cX12_counts 2 (some .boolean) RX12 2)  {m : zM} {o : Int × zM}  (hm : zG kdM m)  (h : M_counts_b21 m = some o) : GoAt K m [(0, .ref (kB K + 0))] [] 21 (4, o.1, o.2) := by
  unfold M_counts_b21 at h
  refine g_aload_n hk 0 rfl dX12_counts_21 ?_
  have g1 := zGI (i := 8) hm kdM_0 rfl
  refine g_get0 hk fl_X12_36 rfl (j := 8) rfl kdM_0 dX12_counts_22 ?_
  refine g_if_ne hk g1 dX12_counts_25 h (fun b2 h => ?_) (fun b2 h => ?_)
  · refine g_aload_n hk 0 rfl dX12_counts_28 ?_
    obtain ⟨r3, e4, h⟩ := zbind h
    refine g_callVv hk (st := []) mf_X12_ahead lk_X12_274 mv_X12_ahead kdM_0 (by decide) rfl (Nat.le_of_ble_eq_true rfl) rfl dX12_counts_29 (met_M_ahead _ _ _ _ _ hk.wd hm e4) (fun hm => ?_)
    exact w_M_counts_b32 hk hm h
  · exact w_M_counts_b32 hk hm h
set_option maxRecDepth 100000 in
set_option maxHeartbeats 4000000 in
theorem w_M_counts {K : zK} (hk : zOk K kdM cX12_counts 2 (some .boolean) RX12 2)  {x1 : Int} {m : zM} {o : Int × zM}  (hm : zG kdM m) (zx1 : zok 4 x1) (h : M_counts x1 m = some o) : GoAt K m [(0, .ref (kB K + 0)), (1, mI x1)] [] 0 (4, o.1, o.2) := by
  unfold M_counts at h
  refine g_aload_n hk 0 rfl dX12_counts_0 ?_
  have g1 := zGI (i := 8) hm kdM_0 rfl
  refine g_get0 hk fl_X12_36 rfl (j := 8) rfl kdM_0 dX12_counts_1 ?_
  refine g_if_ne hk g1 dX12_counts_4 h (fun b2 h => ?_) (fun b2 h => ?_)
  · refine g_iload_n hk 1 rfl dX12_counts_7 ?_
    refine g_if_eq hk (b01 zx1) dX12_counts_8 h (fun b3 h => ?_) (fun b3 h => ?_)
    · refine GoAt.sub [0] rfl ?_
      exact w_M_counts_b21 hk hm h
    · refine g_aload_n hk 0 rfl dX12_counts_11 ?_
      refine g_bipush hk (v := 6) rfl dX12_counts_12 ?_
      refine g_aload_n hk 0 rfl dX12_counts_14 ?_
      have g4 := zGI (i := 4) hm kdM_0 rfl
      refine g_get0 hk fl_X12_23 rfl (j := 4) rfl kdM_0 dX12_counts_15 ?_
      obtain ⟨r5, e6, h⟩ := zbind h
      refine g_callVv hk (st := []) mf_X12_blame lk_X12_257 mv_X12_blame kdM_0 (by decide) rfl (Nat.le_of_ble_eq_true rfl) rfl dX12_counts_18 (met_M_blame _ _ _ _ _ hk.wd hm (cIk rfl) g4 e6) (fun hm => ?_)
      refine GoAt.sub [0] rfl ?_
      exact w_M_counts_b21 hk hm h
  · refine GoAt.sub [0] rfl ?_
    exact w_M_counts_b21 hk hm h
theorem met_M_counts (l : Launch) (D : va_G) (aC : Nat → ClassId) (B N : Nat) (hwd : ∀ id, (kdM id).1 ≠ 9 → id < N) {x1 : Int} {m : zM} {o : Int × zM} (hm : zG kdM m) (zx1 : zok 4 x1) (h : M_counts x1 m = some o) : zMet l yX12_counts cX12_counts 2 (some .boolean) 2 D aC B kdM N [.ref (B + 0), mI x1] m (4, o.1, o.2) := by
  refine zMet.of mf_X12_counts hwd hm (Nat.le_of_ble_eq_true rfl) (fun K e1 e2 e3 e4 e5 hk => ?_)
  subst e4
  exact w_M_counts hk hm zx1 h
set_option maxRecDepth 100000 in
set_option maxHeartbeats 4000000 in
theorem w_M_must__b29 {K : zK} (hk : zOk K kdM cX12_must_ 3 none RX12 2)  {m : zM} {o : zM}  (hm : zG kdM m)  (h : M_must__b29 m = some o) : GoAt K m [(0, .ref (kB K + 0))] [] 29 (9, 0, o) := by
  unfold M_must__b29 at h
  refine g_aload_n hk 0 rfl dX12_must__29 ?_
  have g1 := zGI (i := 8) hm kdM_0 rfl
  refine g_get0 hk fl_X12_36 rfl (j := 8) rfl kdM_0 dX12_must__30 ?_
  refine g_if_ne hk g1 dX12_must__33 h (fun b2 h => ?_) (fun b2 h => ?_)
  · refine g_aload_n hk 0 rfl dX12_must__36 ?_
    obtain ⟨r3, e4, h⟩ := zbind h
    refine g_callVv hk (st := []) mf_X12_ahead lk_X12_274 mv_X12_ahead kdM_0 (by decide) rfl (Nat.le_of_ble_eq_true rfl) rfl dX12_must__37 (met_M_ahead _ _ _ _ _ hk.wd hm e4) (fun hm => ?_)
    exact g_return hk dX12_must__40 (by cases h; rfl)
  · exact g_return hk dX12_must__40 (by cases h; rfl)
set_option maxRecDepth 100000 in
set_option maxHeartbeats 4000000 in
theorem w_M_must_ {K : zK} (hk : zOk K kdM cX12_must_ 3 none RX12 2)  {x1 : Int} {m : zM} {o : zM}  (hm : zG kdM m) (cx1 : cL x1) (h : M_must_ x1 m = some o) : GoAt K m [(0, .ref (kB K + 0)), (1, mL x1)] [] 0 (9, 0, o) := by
  unfold M_must_ at h
  refine g_aload_n hk 0 rfl dX12_must__0 ?_
  obtain ⟨r1, e2, h⟩ := zbind h
  refine g_callVv hk (st := []) mf_X12_lex lk_X12_268 mv_X12_lex kdM_0 (by decide) rfl (Nat.le_of_ble_eq_true rfl) rfl dX12_must__1 (met_M_lex _ _ _ _ _ hk.wd hm e2) (fun hm => ?_)
  refine g_aload_n hk 0 rfl dX12_must__4 ?_
  have g4 := zGI (i := 8) hm kdM_0 rfl
  refine g_get0 hk fl_X12_36 rfl (j := 8) rfl kdM_0 dX12_must__5 ?_
  refine g_if_le hk g4 dX12_must__8 h (fun b5 h => ?_) (fun b5 h => ?_)
  · exact g_return hk dX12_must__11 (by cases h; rfl)
  · refine g_aload_n hk 0 rfl dX12_must__12 ?_
    refine g_lload_n hk 1 rfl dX12_must__13 ?_
    obtain ⟨r6, e7, h⟩ := zbind h
    refine g_callVz hk (st := []) mf_X12_isWord lk_X12_361 mv_X12_isWord kdM_0 (by decide) rfl (Nat.le_of_ble_eq_true rfl) rfl dX12_must__14 (met_M_isWord _ _ _ _ _ hk.wd hm cx1 e7) (fun hm c8 => ?_)
    refine g_if_ne hk (b01 c8) dX12_must__17 h (fun b9 h => ?_) (fun b9 h => ?_)
    · refine g_aload_n hk 0 rfl dX12_must__20 ?_
      refine g_iconst hk (v := 1) rfl dX12_must__21 ?_
      refine g_aload_n hk 0 rfl dX12_must__22 ?_
      have g10 := zGI (i := 4) hm kdM_0 rfl
      refine g_get0 hk fl_X12_23 rfl (j := 4) rfl kdM_0 dX12_must__23 ?_
      obtain ⟨r11, e12, h⟩ := zbind h
      refine g_callVv hk (st := []) mf_X12_blame lk_X12_257 mv_X12_blame kdM_0 (by decide) rfl (Nat.le_of_ble_eq_true rfl) rfl dX12_must__26 (met_M_blame _ _ _ _ _ hk.wd hm (cIk rfl) g10 e12) (fun hm => ?_)
      refine GoAt.sub [0] rfl ?_
      exact w_M_must__b29 hk hm h
    · refine GoAt.sub [0] rfl ?_
      exact w_M_must__b29 hk hm h
theorem met_M_must_ (l : Launch) (D : va_G) (aC : Nat → ClassId) (B N : Nat) (hwd : ∀ id, (kdM id).1 ≠ 9 → id < N) {x1 : Int} {m : zM} {o : zM} (hm : zG kdM m) (cx1 : cL x1) (h : M_must_ x1 m = some o) : zMet l yX12_must_ cX12_must_ 3 none 2 D aC B kdM N [.ref (B + 0), mL x1] m (9, 0, o) := by
  refine zMet.of mf_X12_must_ hwd hm (Nat.le_of_ble_eq_true rfl) (fun K e1 e2 e3 e4 e5 hk => ?_)
  subst e4
  exact w_M_must_ hk hm cx1 h
set_option maxRecDepth 100000 in
set_option maxHeartbeats 4000000 in
theorem w_M_fresh_B43 {K : zK} (hk : zOk K kdM cX12_fresh 3 (some .long) RX12 2) {k83 : zM → Option (Int × zM)} {rec : Int → zM → Option (Int × zM)} {x1 : Int} {m : zM} {o : Int × zM} (hk83 : ∀  (m : zM), zG kdM m → k83 m = some o → GoAt K m [(0, .ref (kB K + 0))] [] 83 (1, o.1, o.2)) (hrec : ∀ (x1 : Int) (m : zM), zG kdM m → cI x1 → rec x1 m = some o → GoAt K m [(0, .ref (kB K + 0)), (1, mI x1)] [] 43 (1, o.1, o.2)) (hm : zG kdM m) (cx1 : cI x1) (h : M_fresh_B43 k83 rec x1 m = some o) : GoAt K m [(0, .ref (kB K + 0)), (1, mI x1)] [] 43 (1, o.1, o.2) := by
  unfold M_fresh_B43 at h
  refine g_iload_n hk 1 rfl dX12_fresh_43 ?_
  refine g_iconst hk (v := 1) rfl dX12_fresh_44 ?_
  refine g_icmp_gt hk cx1 (cIk rfl) dX12_fresh_45 h (fun b1 h => ?_) (fun b1 h => ?_)
  · refine GoAt.sub [0] rfl ?_
    exact hk83 _ hm h
  · refine g_aload_n hk 0 rfl dX12_fresh_48 ?_
    have g2 := zGI (i := 8) hm kdM_0 rfl
    refine g_get0 hk fl_X12_36 rfl (j := 8) rfl kdM_0 dX12_fresh_49 ?_
    refine g_if_ne hk g2 dX12_fresh_52 h (fun b3 h => ?_) (fun b3 h => ?_)
    · refine g_aload_n hk 0 rfl dX12_fresh_55 ?_
      refine g_iload_n hk 1 rfl dX12_fresh_56 ?_
      refine g_aload_n hk 0 rfl dX12_fresh_57 ?_
      have g4 := zGL (i := 7) hm kdM_0 rfl
      refine g_get1 hk fl_X12_32 rfl (j := 7) rfl kdM_0 dX12_fresh_58 ?_
      obtain ⟨r5, e6, h⟩ := zbind h
      refine g_callVi hk (st := []) mf_X12_named lk_X12_383 mv_X12_named kdM_0 (by decide) rfl (Nat.le_of_ble_eq_true rfl) rfl dX12_fresh_61 (met_M_named _ _ _ _ _ hk.wd hm cx1 g4 e6) (fun hm c7 => ?_)
      refine g_iconst hk (v := (-1)) rfl dX12_fresh_64 ?_
      refine g_icmp_eq hk c7 (cIk rfl) dX12_fresh_65 h (fun b8 h => ?_) (fun b8 h => ?_)
      · refine g_iinc hk (lv' := [(1, mI (wI (x1 + 1))), (0, .ref (kB K + 0))]) 1 rfl (Nat.le_of_ble_eq_true rfl) rfl dX12_fresh_77 ?_
        refine g_goto hk dX12_fresh_80 ?_
        refine GoAt.sub [1, 0] rfl ?_
        exact hrec _ _ hm (wI_c _) h
      · refine g_aload_n hk 0 rfl dX12_fresh_68 ?_
        refine g_iconst hk (v := 2) rfl dX12_fresh_69 ?_
        refine g_aload_n hk 0 rfl dX12_fresh_70 ?_
        have g9 := zGI (i := 4) hm kdM_0 rfl
        refine g_get0 hk fl_X12_23 rfl (j := 4) rfl kdM_0 dX12_fresh_71 ?_
        obtain ⟨r10, e11, h⟩ := zbind h
        refine g_callVv hk (st := []) mf_X12_blame lk_X12_257 mv_X12_blame kdM_0 (by decide) rfl (Nat.le_of_ble_eq_true rfl) rfl dX12_fresh_74 (met_M_blame _ _ _ _ _ hk.wd hm (cIk rfl) g9 e11) (fun hm => ?_)
        refine g_iinc hk (lv' := [(1, mI (wI (x1 + 1))), (0, .ref (kB K + 0))]) 1 rfl (Nat.le_of_ble_eq_true rfl) rfl dX12_fresh_77 ?_
        refine g_goto hk dX12_fresh_80 ?_
        refine GoAt.sub [1, 0] rfl ?_
        exact hrec _ _ hm (wI_c _) h
    · refine GoAt.sub [0] rfl ?_
      exact hk83 _ hm h
theorem w_M_fresh_L43 {K : zK} (hk : zOk K kdM cX12_fresh 3 (some .long) RX12 2) {k83 : zM → Option (Int × zM)} {o : Int × zM} (hk83 : ∀  (m : zM), zG kdM m → k83 m = some o → GoAt K m [(0, .ref (kB K + 0))] [] 83 (1, o.1, o.2)) : ∀ (n : Nat) (x1 : Int) (m : zM), zG kdM m → cI x1 → M_fresh_L43 k83 n x1 m = some o → GoAt K m [(0, .ref (kB K + 0)), (1, mI x1)] [] 43 (1, o.1, o.2)
  | 0, x1, m, hm, cx1, h => by cases h
  | n + 1, x1, m, hm, cx1, h => w_M_fresh_B43 hk hk83 (w_M_fresh_L43 hk hk83 n) hm cx1 h
set_option maxRecDepth 100000 in
set_option maxHeartbeats 4000000 in
theorem w_M_fresh_b83 {K : zK} (hk : zOk K kdM cX12_fresh 3 (some .long) RX12 2)  {m : zM} {o : Int × zM}  (hm : zG kdM m)  (h : M_fresh_b83 m = some o) : GoAt K m [(0, .ref (kB K + 0))] [] 83 (1, o.1, o.2) := by
  unfold M_fresh_b83 at h
  refine g_aload_n hk 0 rfl dX12_fresh_83 ?_
  have g1 := zGL (i := 7) hm kdM_0 rfl
  refine g_get1 hk fl_X12_32 rfl (j := 7) rfl kdM_0 dX12_fresh_84 ?_
  refine g_lstore_n hk rfl (lv' := [(1, mL (m 0 7)), (0, .ref (kB K + 0))]) (Nat.le_of_ble_eq_true rfl) rfl dX12_fresh_87 ?_
  refine g_aload_n hk 1 rfl dX12_fresh_88 ?_
  have g2 := zGI (i := 8) hm kdM_0 rfl
  refine g_get0 hk fl_X12_36 rfl (j := 8) rfl kdM_0 dX12_fresh_89 ?_
  refine g_if_ne hk g2 dX12_fresh_92 h (fun b3 h => ?_) (fun b3 h => ?_)
  · refine g_aload_n hk 1 rfl dX12_fresh_95 ?_
    obtain ⟨r4, e5, h⟩ := zbind h
    refine g_callVv hk (st := []) mf_X12_ahead lk_X12_274 mv_X12_ahead kdM_0 (by decide) rfl (Nat.le_of_ble_eq_true rfl) rfl dX12_fresh_96 (met_M_ahead _ _ _ _ _ hk.wd hm e5) (fun hm => ?_)
    refine g_lload_n hk 0 rfl dX12_fresh_99 ?_
    exact g_lreturn hk g1 dX12_fresh_100 (by cases h; rfl)
  · refine g_lload_n hk 0 rfl dX12_fresh_99 ?_
    exact g_lreturn hk g1 dX12_fresh_100 (by cases h; rfl)
set_option maxRecDepth 100000 in
set_option maxHeartbeats 4000000 in
theorem w_M_fresh_b41 {K : zK} (hk : zOk K kdM cX12_fresh 3 (some .long) RX12 2)  {m : zM} {o : Int × zM}  (hm : zG kdM m)  (h : M_fresh_b41 m = some o) : GoAt K m [(0, .ref (kB K + 0))] [] 41 (1, o.1, o.2) := by
  unfold M_fresh_b41 at h
  refine g_iconst hk (v := 0) rfl dX12_fresh_41 ?_
  refine g_istore_n hk rfl (lv' := [(1, mI 0), (0, .ref (kB K + 0))]) (Nat.le_of_ble_eq_true rfl) rfl dX12_fresh_42 ?_
  refine GoAt.sub [1, 0] rfl ?_
  refine w_M_fresh_L43 hk (fun m2 hm h => ?_) 1000000 _ _ hm (cIk rfl) h
  · exact w_M_fresh_b83 hk hm h
set_option maxRecDepth 100000 in
set_option maxHeartbeats 4000000 in
theorem w_M_fresh_b32 {K : zK} (hk : zOk K kdM cX12_fresh 3 (some .long) RX12 2)  {m : zM} {o : Int × zM}  (hm : zG kdM m)  (h : M_fresh_b32 m = some o) : GoAt K m [(0, .ref (kB K + 0))] [] 32 (1, o.1, o.2) := by
  unfold M_fresh_b32 at h
  refine g_aload_n hk 0 rfl dX12_fresh_32 ?_
  refine g_iconst hk (v := 1) rfl dX12_fresh_33 ?_
  refine g_aload_n hk 0 rfl dX12_fresh_34 ?_
  have g1 := zGI (i := 4) hm kdM_0 rfl
  refine g_get0 hk fl_X12_23 rfl (j := 4) rfl kdM_0 dX12_fresh_35 ?_
  obtain ⟨r2, e3, h⟩ := zbind h
  refine g_callVv hk (st := []) mf_X12_blame lk_X12_257 mv_X12_blame kdM_0 (by decide) rfl (Nat.le_of_ble_eq_true rfl) rfl dX12_fresh_38 (met_M_blame _ _ _ _ _ hk.wd hm (cIk rfl) g1 e3) (fun hm => ?_)
  exact w_M_fresh_b41 hk hm h
set_option maxRecDepth 100000 in
set_option maxHeartbeats 4000000 in
theorem w_M_fresh {K : zK} (hk : zOk K kdM cX12_fresh 3 (some .long) RX12 2)  {m : zM} {o : Int × zM}  (hm : zG kdM m)  (h : M_fresh m = some o) : GoAt K m [(0, .ref (kB K + 0))] [] 0 (1, o.1, o.2) := by
  unfold M_fresh at h
  refine g_aload_n hk 0 rfl dX12_fresh_0 ?_
  obtain ⟨r1, e2, h⟩ := zbind h
  refine g_callVv hk (st := []) mf_X12_lex lk_X12_268 mv_X12_lex kdM_0 (by decide) rfl (Nat.le_of_ble_eq_true rfl) rfl dX12_fresh_1 (met_M_lex _ _ _ _ _ hk.wd hm e2) (fun hm => ?_)
  refine g_aload_n hk 0 rfl dX12_fresh_4 ?_
  have g4 := zGI (i := 8) hm kdM_0 rfl
  refine g_get0 hk fl_X12_36 rfl (j := 8) rfl kdM_0 dX12_fresh_5 ?_
  refine g_if_le hk g4 dX12_fresh_8 h (fun b5 h => ?_) (fun b5 h => ?_)
  · refine g_lconst hk (v := 0) rfl dX12_fresh_11 ?_
    exact g_lreturn hk (cLk rfl) dX12_fresh_12 (by cases h; rfl)
  · refine g_aload_n hk 0 rfl dX12_fresh_13 ?_
    have g6 := zGI (i := 3) hm kdM_0 rfl
    refine g_get0 hk fl_X12_20 rfl (j := 3) rfl kdM_0 dX12_fresh_14 ?_
    refine g_iconst hk (v := 1) rfl dX12_fresh_17 ?_
    refine g_icmp_ne hk g6 (cIk rfl) dX12_fresh_18 h (fun b7 h => ?_) (fun b7 h => ?_)
    · refine g_aload_n hk 0 rfl dX12_fresh_21 ?_
      refine g_aload_n hk 0 rfl dX12_fresh_22 ?_
      have g8 := zGL (i := 7) hm kdM_0 rfl
      refine g_get1 hk fl_X12_32 rfl (j := 7) rfl kdM_0 dX12_fresh_23 ?_
      obtain ⟨r9, e10, h⟩ := zbind h
      refine g_callVz hk (st := []) mf_X12_isOwn lk_X12_380 mv_X12_isOwn kdM_0 (by decide) rfl (Nat.le_of_ble_eq_true rfl) rfl dX12_fresh_26 (met_M_isOwn _ _ _ _ _ hk.wd hm g8 e10) (fun hm c11 => ?_)
      refine g_if_eq hk (b01 c11) dX12_fresh_29 h (fun b12 h => ?_) (fun b12 h => ?_)
      · exact w_M_fresh_b41 hk hm h
      · exact w_M_fresh_b32 hk hm h
    · exact w_M_fresh_b32 hk hm h
theorem met_M_fresh (l : Launch) (D : va_G) (aC : Nat → ClassId) (B N : Nat) (hwd : ∀ id, (kdM id).1 ≠ 9 → id < N) {m : zM} {o : Int × zM} (hm : zG kdM m)  (h : M_fresh m = some o) : zMet l yX12_fresh cX12_fresh 3 (some .long) 2 D aC B kdM N [.ref (B + 0)] m (1, o.1, o.2) := by
  refine zMet.of mf_X12_fresh hwd hm (Nat.le_of_ble_eq_true rfl) (fun K e1 e2 e3 e4 e5 hk => ?_)
  subst e4
  exact w_M_fresh hk hm  h
set_option maxRecDepth 100000 in
set_option maxHeartbeats 4000000 in
theorem w_M_has2 {K : zK} (hk : zOk K kdM cX12_has2 2 (some .boolean) RX12 0)  {x0 : Int} {x1 : Int} {m : zM} {o : Int}  (hm : zG kdM m) (cx0 : cI x0) (cx1 : cI x1) (h : M_has2 x0 x1 = some o) : GoAt K m [(0, mI x0), (1, mI x1)] [] 0 (4, o, m) := by
  unfold M_has2 at h
  refine g_iload_n hk 0 rfl dX12_has2_0 ?_
  refine g_iload_n hk 1 rfl dX12_has2_1 ?_
  refine g_ishr hk dX12_has2_2 ?_
  refine g_iconst hk (v := 1) rfl dX12_has2_3 ?_
  refine g_iand hk dX12_has2_4 ?_
  refine g_iconst hk (v := 1) rfl dX12_has2_5 ?_
  refine g_icmp_ne hk (cI_t _) (cIk rfl) dX12_has2_6 h (fun b1 h => ?_) (fun b1 h => ?_)
  · refine g_iconst hk (v := 1) rfl dX12_has2_9 ?_
    refine g_goto hk dX12_has2_10 ?_
    exact g_zreturn hk z1 dX12_has2_14 (by cases h; rfl)
  · refine g_iconst hk (v := 0) rfl dX12_has2_13 ?_
    exact g_zreturn hk z0 dX12_has2_14 (by cases h; rfl)
theorem met_M_has2 (l : Launch) (D : va_G) (aC : Nat → ClassId) (B N : Nat) (hwd : ∀ id, (kdM id).1 ≠ 9 → id < N) {x0 : Int} {x1 : Int} {m : zM} {o : Int} (hm : zG kdM m) (cx0 : cI x0) (cx1 : cI x1) (h : M_has2 x0 x1 = some o) : zMet l yX12_has2 cX12_has2 2 (some .boolean) 0 D aC B kdM N [mI x0, mI x1] m (4, o, m) := by
  refine zMet.of mf_X12_has2 hwd hm (Nat.le_of_ble_eq_true rfl) (fun K e1 e2 e3 e4 e5 hk => ?_)
  subst e4
  exact w_M_has2 hk hm cx0 cx1 h
set_option maxRecDepth 100000 in
set_option maxHeartbeats 4000000 in
theorem w_M_askedBut_b102 {K : zK} (hk : zOk K kdM cX12_askedBut 4 (some .int) RX12 2)  {x3 : Int} {m : zM} {o : Int × zM}  (hm : zG kdM m) (cx3 : cI x3) (h : M_askedBut_b102 x3 m = some o) : GoAt K m [(0, .ref (kB K + 0)), (3, mI x3)] [] 102 (0, o.1, o.2) := by
  unfold M_askedBut_b102 at h
  refine g_aload_n hk 0 rfl dX12_askedBut_102 ?_
  have g1 := zGI (i := 8) hm kdM_0 rfl
  refine g_get0 hk fl_X12_36 rfl (j := 8) rfl kdM_0 dX12_askedBut_103 ?_
  refine g_if_le hk g1 dX12_askedBut_106 h (fun b2 h => ?_) (fun b2 h => ?_)
  · refine g_iconst hk (v := 0) rfl dX12_askedBut_109 ?_
    refine g_goto hk dX12_askedBut_110 ?_
    exact g_ireturn hk (cIk rfl) dX12_askedBut_114 (by cases h; rfl)
  · refine g_iload_n hk 1 rfl dX12_askedBut_113 ?_
    exact g_ireturn hk cx3 dX12_askedBut_114 (by cases h; rfl)
set_option maxRecDepth 100000 in
set_option maxHeartbeats 4000000 in
theorem w_M_askedBut_b91 {K : zK} (hk : zOk K kdM cX12_askedBut 4 (some .int) RX12 2)  {x3 : Int} {m : zM} {o : Int × zM}  (hm : zG kdM m) (cx3 : cI x3) (h : M_askedBut_b91 x3 m = some o) : GoAt K m [(0, .ref (kB K + 0)), (3, mI x3)] [] 91 (0, o.1, o.2) := by
  unfold M_askedBut_b91 at h
  refine g_aload_n hk 0 rfl dX12_askedBut_91 ?_
  have g1 := zGI (i := 8) hm kdM_0 rfl
  refine g_get0 hk fl_X12_36 rfl (j := 8) rfl kdM_0 dX12_askedBut_92 ?_
  refine g_if_ne hk g1 dX12_askedBut_95 h (fun b2 h => ?_) (fun b2 h => ?_)
  · refine g_aload_n hk 0 rfl dX12_askedBut_98 ?_
    obtain ⟨r3, e4, h⟩ := zbind h
    refine g_callVv hk (st := []) mf_X12_ahead lk_X12_274 mv_X12_ahead kdM_0 (by decide) rfl (Nat.le_of_ble_eq_true rfl) rfl dX12_askedBut_99 (met_M_ahead _ _ _ _ _ hk.wd hm e4) (fun hm => ?_)
    exact w_M_askedBut_b102 hk hm cx3 h
  · exact w_M_askedBut_b102 hk hm cx3 h
set_option maxRecDepth 100000 in
set_option maxHeartbeats 4000000 in
theorem w_M_askedBut_b82 {K : zK} (hk : zOk K kdM cX12_askedBut 4 (some .int) RX12 2)  {x3 : Int} {m : zM} {o : Int × zM}  (hm : zG kdM m) (cx3 : cI x3) (h : M_askedBut_b82 x3 m = some o) : GoAt K m [(0, .ref (kB K + 0)), (3, mI x3)] [] 82 (0, o.1, o.2) := by
  unfold M_askedBut_b82 at h
  refine g_aload_n hk 0 rfl dX12_askedBut_82 ?_
  refine g_iconst hk (v := 3) rfl dX12_askedBut_83 ?_
  refine g_aload_n hk 0 rfl dX12_askedBut_84 ?_
  have g1 := zGI (i := 4) hm kdM_0 rfl
  refine g_get0 hk fl_X12_23 rfl (j := 4) rfl kdM_0 dX12_askedBut_85 ?_
  obtain ⟨r2, e3, h⟩ := zbind h
  refine g_callVv hk (st := []) mf_X12_blame lk_X12_257 mv_X12_blame kdM_0 (by decide) rfl (Nat.le_of_ble_eq_true rfl) rfl dX12_askedBut_88 (met_M_blame _ _ _ _ _ hk.wd hm (cIk rfl) g1 e3) (fun hm => ?_)
  exact w_M_askedBut_b91 hk hm cx3 h
set_option maxRecDepth 100000 in
set_option maxHeartbeats 4000000 in
theorem w_M_askedBut_b61 {K : zK} (hk : zOk K kdM cX12_askedBut 4 (some .int) RX12 2)  {x2 : Int} {s0 : Int} {m : zM} {o : Int × zM}  (hm : zG kdM m) (cx2 : cI x2) (cs0 : cI s0) (h : M_askedBut_b61 x2 s0 m = some o) : GoAt K m [(0, .ref (kB K + 0)), (2, mI x2)] [mI s0] 61 (0, o.1, o.2) := by
  unfold M_askedBut_b61 at h
  refine g_istore_n hk rfl (lv' := [(3, mI s0), (0, .ref (kB K + 0)), (2, mI x2)]) (Nat.le_of_ble_eq_true rfl) rfl dX12_askedBut_61 ?_
  refine g_aload_n hk 1 rfl dX12_askedBut_62 ?_
  have g1 := zGI (i := 8) hm kdM_0 rfl
  refine g_get0 hk fl_X12_36 rfl (j := 8) rfl kdM_0 dX12_askedBut_63 ?_
  refine g_if_ne hk g1 dX12_askedBut_66 h (fun b2 h => ?_) (fun b2 h => ?_)
  · refine g_iload_n hk 0 rfl dX12_askedBut_69 ?_
    refine g_iconst hk (v := (-1)) rfl dX12_askedBut_70 ?_
    refine g_icmp_eq hk cs0 (cIk rfl) dX12_askedBut_71 h (fun b3 h => ?_) (fun b3 h => ?_)
    · refine GoAt.sub [1, 0] rfl ?_
      exact w_M_askedBut_b82 hk hm cs0 h
    · refine g_iload_n hk 2 rfl dX12_askedBut_74 ?_
      refine g_iload_n hk 0 rfl dX12_askedBut_75 ?_
      obtain ⟨r4, e5, h⟩ := zbind h
      refine g_callSz hk (st := []) mf_X12_has2 lk_X12_387 ms_X12_has2 (by decide) rfl (Nat.le_of_ble_eq_true rfl) rfl dX12_askedBut_76 (met_M_has2 _ _ _ _ _ hk.wd hm cx2 cs0 e5) (fun hm c6 => ?_)
      refine g_if_eq hk (b01 c6) dX12_askedBut_79 h (fun b7 h => ?_) (fun b7 h => ?_)
      · refine GoAt.sub [1, 0] rfl ?_
        exact w_M_askedBut_b91 hk hm cs0 h
      · refine GoAt.sub [1, 0] rfl ?_
        exact w_M_askedBut_b82 hk hm cs0 h
  · refine GoAt.sub [1, 0] rfl ?_
    exact w_M_askedBut_b91 hk hm cs0 h
set_option maxRecDepth 100000 in
set_option maxHeartbeats 4000000 in
theorem w_M_askedBut_b41 {K : zK} (hk : zOk K kdM cX12_askedBut 4 (some .int) RX12 2)  {x1 : Int} {x2 : Int} {m : zM} {o : Int × zM}  (hm : zG kdM m) (cx1 : cI x1) (cx2 : cI x2) (h : M_askedBut_b41 x1 x2 m = some o) : GoAt K m [(0, .ref (kB K + 0)), (1, mI x1), (2, mI x2)] [] 41 (0, o.1, o.2) := by
  unfold M_askedBut_b41 at h
  refine g_aload_n hk 0 rfl dX12_askedBut_41 ?_
  have g1 := zGI (i := 8) hm kdM_0 rfl
  refine g_get0 hk fl_X12_36 rfl (j := 8) rfl kdM_0 dX12_askedBut_42 ?_
  refine g_if_le hk g1 dX12_askedBut_45 h (fun b2 h => ?_) (fun b2 h => ?_)
  · refine g_iconst hk (v := 0) rfl dX12_askedBut_48 ?_
    refine g_goto hk dX12_askedBut_49 ?_
    refine GoAt.sub [0, 2] rfl ?_
    exact w_M_askedBut_b61 hk hm cx2 (cIk rfl) h
  · refine g_aload_n hk 0 rfl dX12_askedBut_52 ?_
    refine g_iload_n hk 1 rfl dX12_askedBut_53 ?_
    refine g_aload_n hk 0 rfl dX12_askedBut_54 ?_
    have g3 := zGL (i := 7) hm kdM_0 rfl
    refine g_get1 hk fl_X12_32 rfl (j := 7) rfl kdM_0 dX12_askedBut_55 ?_
    obtain ⟨r4, e5, h⟩ := zbind h
    refine g_callVi hk (st := []) mf_X12_named lk_X12_383 mv_X12_named kdM_0 (by decide) rfl (Nat.le_of_ble_eq_true rfl) rfl dX12_askedBut_58 (met_M_named _ _ _ _ _ hk.wd hm cx1 g3 e5) (fun hm c6 => ?_)
    refine GoAt.sub [0, 2] rfl ?_
    exact w_M_askedBut_b61 hk hm cx2 c6 h
set_option maxRecDepth 100000 in
set_option maxHeartbeats 4000000 in
theorem w_M_askedBut_b32 {K : zK} (hk : zOk K kdM cX12_askedBut 4 (some .int) RX12 2)  {x1 : Int} {x2 : Int} {m : zM} {o : Int × zM}  (hm : zG kdM m) (cx1 : cI x1) (cx2 : cI x2) (h : M_askedBut_b32 x1 x2 m = some o) : GoAt K m [(0, .ref (kB K + 0)), (1, mI x1), (2, mI x2)] [] 32 (0, o.1, o.2) := by
  unfold M_askedBut_b32 at h
  refine g_aload_n hk 0 rfl dX12_askedBut_32 ?_
  refine g_iconst hk (v := 1) rfl dX12_askedBut_33 ?_
  refine g_aload_n hk 0 rfl dX12_askedBut_34 ?_
  have g1 := zGI (i := 4) hm kdM_0 rfl
  refine g_get0 hk fl_X12_23 rfl (j := 4) rfl kdM_0 dX12_askedBut_35 ?_
  obtain ⟨r2, e3, h⟩ := zbind h
  refine g_callVv hk (st := []) mf_X12_blame lk_X12_257 mv_X12_blame kdM_0 (by decide) rfl (Nat.le_of_ble_eq_true rfl) rfl dX12_askedBut_38 (met_M_blame _ _ _ _ _ hk.wd hm (cIk rfl) g1 e3) (fun hm => ?_)
  exact w_M_askedBut_b41 hk hm cx1 cx2 h
set_option maxRecDepth 100000 in
set_option maxHeartbeats 4000000 in
theorem w_M_askedBut {K : zK} (hk : zOk K kdM cX12_askedBut 4 (some .int) RX12 2)  {x1 : Int} {x2 : Int} {m : zM} {o : Int × zM}  (hm : zG kdM m) (cx1 : cI x1) (cx2 : cI x2) (h : M_askedBut x1 x2 m = some o) : GoAt K m [(0, .ref (kB K + 0)), (1, mI x1), (2, mI x2)] [] 0 (0, o.1, o.2) := by
  unfold M_askedBut at h
  refine g_aload_n hk 0 rfl dX12_askedBut_0 ?_
  obtain ⟨r1, e2, h⟩ := zbind h
  refine g_callVv hk (st := []) mf_X12_lex lk_X12_268 mv_X12_lex kdM_0 (by decide) rfl (Nat.le_of_ble_eq_true rfl) rfl dX12_askedBut_1 (met_M_lex _ _ _ _ _ hk.wd hm e2) (fun hm => ?_)
  refine g_aload_n hk 0 rfl dX12_askedBut_4 ?_
  have g4 := zGI (i := 8) hm kdM_0 rfl
  refine g_get0 hk fl_X12_36 rfl (j := 8) rfl kdM_0 dX12_askedBut_5 ?_
  refine g_if_le hk g4 dX12_askedBut_8 h (fun b5 h => ?_) (fun b5 h => ?_)
  · refine g_iconst hk (v := 0) rfl dX12_askedBut_11 ?_
    exact g_ireturn hk (cIk rfl) dX12_askedBut_12 (by cases h; rfl)
  · refine g_aload_n hk 0 rfl dX12_askedBut_13 ?_
    have g6 := zGI (i := 3) hm kdM_0 rfl
    refine g_get0 hk fl_X12_20 rfl (j := 3) rfl kdM_0 dX12_askedBut_14 ?_
    refine g_iconst hk (v := 1) rfl dX12_askedBut_17 ?_
    refine g_icmp_ne hk g6 (cIk rfl) dX12_askedBut_18 h (fun b7 h => ?_) (fun b7 h => ?_)
    · refine g_aload_n hk 0 rfl dX12_askedBut_21 ?_
      refine g_aload_n hk 0 rfl dX12_askedBut_22 ?_
      have g8 := zGL (i := 7) hm kdM_0 rfl
      refine g_get1 hk fl_X12_32 rfl (j := 7) rfl kdM_0 dX12_askedBut_23 ?_
      obtain ⟨r9, e10, h⟩ := zbind h
      refine g_callVz hk (st := []) mf_X12_isOwn lk_X12_380 mv_X12_isOwn kdM_0 (by decide) rfl (Nat.le_of_ble_eq_true rfl) rfl dX12_askedBut_26 (met_M_isOwn _ _ _ _ _ hk.wd hm g8 e10) (fun hm c11 => ?_)
      refine g_if_eq hk (b01 c11) dX12_askedBut_29 h (fun b12 h => ?_) (fun b12 h => ?_)
      · exact w_M_askedBut_b41 hk hm cx1 cx2 h
      · exact w_M_askedBut_b32 hk hm cx1 cx2 h
    · exact w_M_askedBut_b32 hk hm cx1 cx2 h
theorem met_M_askedBut (l : Launch) (D : va_G) (aC : Nat → ClassId) (B N : Nat) (hwd : ∀ id, (kdM id).1 ≠ 9 → id < N) {x1 : Int} {x2 : Int} {m : zM} {o : Int × zM} (hm : zG kdM m) (cx1 : cI x1) (cx2 : cI x2) (h : M_askedBut x1 x2 m = some o) : zMet l yX12_askedBut cX12_askedBut 4 (some .int) 2 D aC B kdM N [.ref (B + 0), mI x1, mI x2] m (0, o.1, o.2) := by
  refine zMet.of mf_X12_askedBut hwd hm (Nat.le_of_ble_eq_true rfl) (fun K e1 e2 e3 e4 e5 hk => ?_)
  subst e4
  exact w_M_askedBut hk hm cx1 cx2 h
set_option maxRecDepth 100000 in
set_option maxHeartbeats 4000000 in
theorem w_M_beasting_B133 {K : zK} (hk : zOk K kdM cX12_beasting 3 none RX12 3) {k155 : zM → Option (zM)} {rec : Int → Int → zM → Option (zM)} {x1 : Int} {x2 : Int} {m : zM} {o : zM} (hk155 : ∀  (m : zM), zG kdM m → k155 m = some o → GoAt K m [(0, .ref (kB K + 0))] [] 155 (9, 0, o)) (hrec : ∀ (x1 : Int) (x2 : Int) (m : zM), zG kdM m → cI x1 → cI x2 → rec x1 x2 m = some o → GoAt K m [(0, .ref (kB K + 0)), (1, mI x1), (2, mI x2)] [] 133 (9, 0, o)) (hm : zG kdM m) (cx1 : cI x1) (cx2 : cI x2) (h : M_beasting_B133 k155 rec x1 x2 m = some o) : GoAt K m [(0, .ref (kB K + 0)), (1, mI x1), (2, mI x2)] [] 133 (9, 0, o) := by
  unfold M_beasting_B133 at h
  refine g_iload_n hk 2 rfl dX12_beasting_133 ?_
  refine g_iconst hk (v := 3) rfl dX12_beasting_134 ?_
  refine g_icmp_ge hk cx2 (cIk rfl) dX12_beasting_135 h (fun b1 h => ?_) (fun b1 h => ?_)
  · refine g_aload_n hk 0 rfl dX12_beasting_138 ?_
    refine g_get2 hk fl_X12_66 rfl kdM_0 hm (b := 6) rfl dX12_beasting_139 ?_
    refine g_iconst hk (v := 3) rfl dX12_beasting_142 ?_
    refine g_iload_n hk 1 rfl dX12_beasting_143 ?_
    refine g_imul hk dX12_beasting_144 ?_
    refine g_iload_n hk 2 rfl dX12_beasting_145 ?_
    refine g_iadd hk dX12_beasting_146 ?_
    refine g_iconst hk (v := 1) rfl dX12_beasting_147 ?_
    refine g_iast hk (wI_c _) (cIk rfl) kdM_6 hm dX12_beasting_148 h (fun m2 hm h => ?_)
    refine g_iinc hk (lv' := [(2, mI (wI (x2 + 1))), (0, .ref (kB K + 0)), (1, mI x1)]) 2 rfl (Nat.le_of_ble_eq_true rfl) rfl dX12_beasting_149 ?_
    refine g_goto hk dX12_beasting_152 ?_
    refine GoAt.sub [1, 2, 0] rfl ?_
    exact hrec _ _ _ hm cx1 (wI_c _) h
  · refine GoAt.sub [0] rfl ?_
    exact hk155 _ hm h
theorem w_M_beasting_L133 {K : zK} (hk : zOk K kdM cX12_beasting 3 none RX12 3) {k155 : zM → Option (zM)} {o : zM} (hk155 : ∀  (m : zM), zG kdM m → k155 m = some o → GoAt K m [(0, .ref (kB K + 0))] [] 155 (9, 0, o)) : ∀ (n : Nat) (x1 : Int) (x2 : Int) (m : zM), zG kdM m → cI x1 → cI x2 → M_beasting_L133 k155 n x1 x2 m = some o → GoAt K m [(0, .ref (kB K + 0)), (1, mI x1), (2, mI x2)] [] 133 (9, 0, o)
  | 0, x1, x2, m, hm, cx1, cx2, h => by cases h
  | n + 1, x1, x2, m, hm, cx1, cx2, h => w_M_beasting_B133 hk hk155 (w_M_beasting_L133 hk hk155 n) hm cx1 cx2 h
set_option maxRecDepth 100000 in
set_option maxHeartbeats 4000000 in
theorem w_M_beasting_b105 {K : zK} (hk : zOk K kdM cX12_beasting 3 none RX12 3)  {x1 : Int} {a0 : Nat} {n0 : Nat} {s1 : Int} {s3 : Int} {m : zM} {o : zM}  (hm : zG kdM m) (cx1 : cI x1) (ka0 : kdM a0 = (1, n0)) (cs1 : cI s1) (cs3 : cI s3) (h : M_beasting_b105 x1 a0 n0 s1 s3 m = some o) : GoAt K m [(0, .ref (kB K + 0)), (1, mI x1)] [mI s3, .ref (kB K + 0), mI s1, .ref (kB K + a0)] 105 (9, 0, o) := by
  unfold M_beasting_b105 at h
  refine g_bipush hk (v := 23) rfl dX12_beasting_105 ?_
  obtain ⟨r1, e2, h⟩ := zbind h
  refine g_callVi hk (st := [mI s1, .ref (kB K + a0)]) mf_X12_number lk_X12_403 mv_X12_number kdM_0 (by decide) rfl (Nat.le_of_ble_eq_true rfl) rfl dX12_beasting_107 (met_M_number _ _ _ _ _ hk.wd hm cs3 (cIk rfl) e2) (fun hm c3 => ?_)
  refine g_iast hk cs1 c3 ka0 hm dX12_beasting_110 h (fun m4 hm h => ?_)
  refine g_aload_n hk 0 rfl dX12_beasting_111 ?_
  refine g_ldc2 hk (v := 24948) cn_X12_283 dX12_beasting_112 ?_
  obtain ⟨r5, e6, h⟩ := zbind h
  refine g_callVv hk (st := []) mf_X12_must_ lk_X12_399 mv_X12_must_ kdM_0 (by decide) rfl (Nat.le_of_ble_eq_true rfl) rfl dX12_beasting_115 (met_M_must_ _ _ _ _ _ hk.wd hm (cLk rfl) e6) (fun hm => ?_)
  refine g_aload_n hk 0 rfl dX12_beasting_118 ?_
  refine g_get2 hk fl_X12_63 rfl kdM_0 hm (b := 5) rfl dX12_beasting_119 ?_
  refine g_iload_n hk 1 rfl dX12_beasting_122 ?_
  refine g_aload_n hk 0 rfl dX12_beasting_123 ?_
  refine g_iconst hk (v := 0) rfl dX12_beasting_124 ?_
  refine g_bipush hk (v := 99) rfl dX12_beasting_125 ?_
  obtain ⟨r8, e9, h⟩ := zbind h
  refine g_callVi hk (st := [mI x1, .ref (kB K + 5)]) mf_X12_number lk_X12_403 mv_X12_number kdM_0 (by decide) rfl (Nat.le_of_ble_eq_true rfl) rfl dX12_beasting_127 (met_M_number _ _ _ _ _ hk.wd hm (cIk rfl) (cIk rfl) e9) (fun hm c10 => ?_)
  refine g_iast hk cx1 c10 kdM_5 hm dX12_beasting_130 h (fun m11 hm h => ?_)
  refine g_iconst hk (v := 0) rfl dX12_beasting_131 ?_
  refine g_istore_n hk rfl (lv' := [(2, mI 0), (0, .ref (kB K + 0)), (1, mI x1)]) (Nat.le_of_ble_eq_true rfl) rfl dX12_beasting_132 ?_
  refine GoAt.sub [1, 2, 0] rfl ?_
  refine w_M_beasting_L133 hk (fun m13 hm h => ?_) 1000000 _ _ _ hm cx1 (cIk rfl) h
  · refine g_aload_n hk 0 rfl dX12_beasting_155 ?_
    have g14 := zGI (i := 8) hm kdM_0 rfl
    refine g_get0 hk fl_X12_36 rfl (j := 8) rfl kdM_0 dX12_beasting_156 ?_
    refine g_if_ne hk g14 dX12_beasting_159 h (fun b15 h => ?_) (fun b15 h => ?_)
    · refine g_aload_n hk 0 rfl dX12_beasting_162 ?_
      refine g_get2 hk fl_X12_54 rfl kdM_0 hm (b := 2) rfl dX12_beasting_163 ?_
      refine g_aload_n hk 0 rfl dX12_beasting_166 ?_
      have g16 := zGI (i := 32) hm kdM_0 rfl
      refine g_get0 hk fl_X12_109 rfl (j := 32) rfl kdM_0 dX12_beasting_167 ?_
      refine g_dup2 hk rfl rfl dX12_beasting_170 ?_
      refine g_iald hk g16 kdM_2 hm dX12_beasting_171 h (fun y17 cy17 h => ?_)
      refine g_iconst hk (v := 1) rfl dX12_beasting_172 ?_
      refine g_iadd hk dX12_beasting_173 ?_
      refine g_iast hk g16 (wI_c _) kdM_2 hm dX12_beasting_174 h (fun m18 hm h => ?_)
      exact g_return hk dX12_beasting_175 (by cases h; rfl)
    · exact g_return hk dX12_beasting_175 (by cases h; rfl)
set_option maxRecDepth 100000 in
set_option maxHeartbeats 4000000 in
theorem w_M_beasting_b20 {K : zK} (hk : zOk K kdM cX12_beasting 3 none RX12 3)  {s1 : Int} {m : zM} {o : zM}  (hm : zG kdM m) (zs1 : zok 4 s1) (h : M_beasting_b20 s1 m = some o) : GoAt K m [(0, .ref (kB K + 0))] [mI s1, .ref (kB K + 0)] 20 (9, 0, o) := by
  unfold M_beasting_b20 at h
  obtain ⟨r1, e2, h⟩ := zbind h
  refine g_callVz hk (st := []) mf_X12_counts lk_X12_391 mv_X12_counts kdM_0 (by decide) rfl (Nat.le_of_ble_eq_true rfl) rfl dX12_beasting_20 (met_M_counts _ _ _ _ _ hk.wd hm zs1 e2) (fun hm c3 => ?_)
  refine g_if_ne hk (b01 c3) dX12_beasting_23 h (fun b4 h => ?_) (fun b4 h => ?_)
  · exact g_return hk dX12_beasting_26 (by cases h; rfl)
  · refine g_bipush hk (v := 6) rfl dX12_beasting_27 ?_
    refine g_aload_n hk 0 rfl dX12_beasting_29 ?_
    have g5 := zGI (i := 32) hm kdM_0 rfl
    refine g_get0 hk fl_X12_109 rfl (j := 32) rfl kdM_0 dX12_beasting_30 ?_
    refine g_imul hk dX12_beasting_33 ?_
    refine g_aload_n hk 0 rfl dX12_beasting_34 ?_
    refine g_get2 hk fl_X12_54 rfl kdM_0 hm (b := 2) rfl dX12_beasting_35 ?_
    refine g_aload_n hk 0 rfl dX12_beasting_38 ?_
    have g6 := zGI (i := 32) hm kdM_0 rfl
    refine g_get0 hk fl_X12_109 rfl (j := 32) rfl kdM_0 dX12_beasting_39 ?_
    refine g_iald hk g6 kdM_2 hm dX12_beasting_42 h (fun y7 cy7 h => ?_)
    refine g_iadd hk dX12_beasting_43 ?_
    refine g_let (wI_c _) h (fun v8 cv8 h => ?_)
    refine g_istore_n hk rfl (lv' := [(1, mI v8), (0, .ref (kB K + 0))]) (Nat.le_of_ble_eq_true rfl) rfl dX12_beasting_44 ?_
    refine g_aload_n hk 1 rfl dX12_beasting_45 ?_
    refine g_get2 hk fl_X12_99 rfl kdM_0 hm (b := 17) rfl dX12_beasting_46 ?_
    refine g_iload_n hk 0 rfl dX12_beasting_49 ?_
    refine g_aload_n hk 1 rfl dX12_beasting_50 ?_
    obtain ⟨r9, e10, h⟩ := zbind h
    refine g_callVl hk (st := [mI v8, .ref (kB K + 17)]) mf_X12_fresh lk_X12_395 mv_X12_fresh kdM_0 (by decide) rfl (Nat.le_of_ble_eq_true rfl) rfl dX12_beasting_51 (met_M_fresh _ _ _ _ _ hk.wd hm e10) (fun hm c11 => ?_)
    refine g_last hk cv8 c11 kdM_17 hm dX12_beasting_54 h (fun m12 hm h => ?_)
    refine g_aload_n hk 1 rfl dX12_beasting_55 ?_
    refine g_ldc2 hk (v := 512735536499) cn_X12_279 dX12_beasting_56 ?_
    obtain ⟨r13, e14, h⟩ := zbind h
    refine g_callVv hk (st := []) mf_X12_must_ lk_X12_399 mv_X12_must_ kdM_0 (by decide) rfl (Nat.le_of_ble_eq_true rfl) rfl dX12_beasting_59 (met_M_must_ _ _ _ _ _ hk.wd hm (cLk rfl) e14) (fun hm => ?_)
    refine g_aload_n hk 1 rfl dX12_beasting_62 ?_
    refine g_get2 hk fl_X12_57 rfl kdM_0 hm (b := 3) rfl dX12_beasting_63 ?_
    refine g_iload_n hk 0 rfl dX12_beasting_66 ?_
    refine g_aload_n hk 1 rfl dX12_beasting_67 ?_
    refine g_iconst hk (v := 0) rfl dX12_beasting_68 ?_
    refine g_bipush hk (v := 23) rfl dX12_beasting_69 ?_
    obtain ⟨r16, e17, h⟩ := zbind h
    refine g_callVi hk (st := [mI v8, .ref (kB K + 3)]) mf_X12_number lk_X12_403 mv_X12_number kdM_0 (by decide) rfl (Nat.le_of_ble_eq_true rfl) rfl dX12_beasting_71 (met_M_number _ _ _ _ _ hk.wd hm (cIk rfl) (cIk rfl) e17) (fun hm c18 => ?_)
    refine g_iast hk cv8 c18 kdM_3 hm dX12_beasting_74 h (fun m19 hm h => ?_)
    refine g_aload_n hk 1 rfl dX12_beasting_75 ?_
    refine g_ldc2 hk (v := 29807) cn_X12_281 dX12_beasting_76 ?_
    obtain ⟨r20, e21, h⟩ := zbind h
    refine g_callVv hk (st := []) mf_X12_must_ lk_X12_399 mv_X12_must_ kdM_0 (by decide) rfl (Nat.le_of_ble_eq_true rfl) rfl dX12_beasting_79 (met_M_must_ _ _ _ _ _ hk.wd hm (cLk rfl) e21) (fun hm => ?_)
    refine g_aload_n hk 1 rfl dX12_beasting_82 ?_
    refine g_get2 hk fl_X12_60 rfl kdM_0 hm (b := 4) rfl dX12_beasting_83 ?_
    refine g_iload_n hk 0 rfl dX12_beasting_86 ?_
    refine g_aload_n hk 1 rfl dX12_beasting_87 ?_
    refine g_aload_n hk 1 rfl dX12_beasting_88 ?_
    have g23 := zGI (i := 8) hm kdM_0 rfl
    refine g_get0 hk fl_X12_36 rfl (j := 8) rfl kdM_0 dX12_beasting_89 ?_
    refine g_if_le hk g23 dX12_beasting_92 h (fun b24 h => ?_) (fun b24 h => ?_)
    · refine g_iconst hk (v := 0) rfl dX12_beasting_95 ?_
      refine g_goto hk dX12_beasting_96 ?_
      refine GoAt.sub [1, 0] rfl ?_
      exact w_M_beasting_b105 hk hm cv8 kdM_4 cv8 (cIk rfl) h
    · refine g_aload_n hk 1 rfl dX12_beasting_99 ?_
      refine g_get2 hk fl_X12_57 rfl kdM_0 hm (b := 3) rfl dX12_beasting_100 ?_
      refine g_iload_n hk 0 rfl dX12_beasting_103 ?_
      refine g_iald hk cv8 kdM_3 hm dX12_beasting_104 h (fun y25 cy25 h => ?_)
      refine GoAt.sub [1, 0] rfl ?_
      exact w_M_beasting_b105 hk hm cv8 kdM_4 cv8 cy25 h
set_option maxRecDepth 100000 in
set_option maxHeartbeats 4000000 in
theorem w_M_beasting {K : zK} (hk : zOk K kdM cX12_beasting 3 none RX12 3)  {m : zM} {o : zM}  (hm : zG kdM m)  (h : M_beasting m = some o) : GoAt K m [(0, .ref (kB K + 0))] [] 0 (9, 0, o) := by
  unfold M_beasting at h
  refine g_aload_n hk 0 rfl dX12_beasting_0 ?_
  refine g_aload_n hk 0 rfl dX12_beasting_1 ?_
  refine g_get2 hk fl_X12_54 rfl kdM_0 hm (b := 2) rfl dX12_beasting_2 ?_
  refine g_aload_n hk 0 rfl dX12_beasting_5 ?_
  have g1 := zGI (i := 32) hm kdM_0 rfl
  refine g_get0 hk fl_X12_109 rfl (j := 32) rfl kdM_0 dX12_beasting_6 ?_
  refine g_iald hk g1 kdM_2 hm dX12_beasting_9 h (fun y2 cy2 h => ?_)
  refine g_bipush hk (v := 6) rfl dX12_beasting_10 ?_
  refine g_icmp_ne hk cy2 (cIk rfl) dX12_beasting_12 h (fun b3 h => ?_) (fun b3 h => ?_)
  · refine g_iconst hk (v := 1) rfl dX12_beasting_15 ?_
    refine g_goto hk dX12_beasting_16 ?_
    exact w_M_beasting_b20 hk hm z1 h
  · refine g_iconst hk (v := 0) rfl dX12_beasting_19 ?_
    exact w_M_beasting_b20 hk hm z0 h
theorem met_M_beasting (l : Launch) (D : va_G) (aC : Nat → ClassId) (B N : Nat) (hwd : ∀ id, (kdM id).1 ≠ 9 → id < N) {m : zM} {o : zM} (hm : zG kdM m)  (h : M_beasting m = some o) : zMet l yX12_beasting cX12_beasting 3 none 3 D aC B kdM N [.ref (B + 0)] m (9, 0, o) := by
  refine zMet.of mf_X12_beasting hwd hm (Nat.le_of_ble_eq_true rfl) (fun K e1 e2 e3 e4 e5 hk => ?_)
  subst e4
  exact w_M_beasting hk hm  h
set_option maxRecDepth 100000 in
set_option maxHeartbeats 4000000 in
theorem w_M_threes_B2 {K : zK} (hk : zOk K kdM cX12_threes 2 none RX12 3) {rec : Int → zM → Option (zM)} {x1 : Int} {m : zM} {o : zM} (hrec : ∀ (x1 : Int) (m : zM), zG kdM m → cI x1 → rec x1 m = some o → GoAt K m [(0, .ref (kB K + 0)), (1, mI x1)] [] 2 (9, 0, o)) (hm : zG kdM m) (cx1 : cI x1) (h : M_threes_B2 rec x1 m = some o) : GoAt K m [(0, .ref (kB K + 0)), (1, mI x1)] [] 2 (9, 0, o) := by
  unfold M_threes_B2 at h
  refine g_iload_n hk 1 rfl dX12_threes_2 ?_
  refine g_iconst hk (v := 3) rfl dX12_threes_3 ?_
  refine g_icmp_ge hk cx1 (cIk rfl) dX12_threes_4 h (fun b1 h => ?_) (fun b1 h => ?_)
  · refine g_aload_n hk 0 rfl dX12_threes_7 ?_
    refine g_get2 hk fl_X12_147 rfl kdM_0 hm (b := 25) rfl dX12_threes_8 ?_
    refine g_iload_n hk 1 rfl dX12_threes_11 ?_
    refine g_aload_n hk 0 rfl dX12_threes_12 ?_
    refine g_iconst hk (v := 0) rfl dX12_threes_13 ?_
    refine g_bipush hk (v := 9) rfl dX12_threes_14 ?_
    obtain ⟨r2, e3, h⟩ := zbind h
    refine g_callVi hk (st := [mI x1, .ref (kB K + 25)]) mf_X12_number lk_X12_403 mv_X12_number kdM_0 (by decide) rfl (Nat.le_of_ble_eq_true rfl) rfl dX12_threes_16 (met_M_number _ _ _ _ _ hk.wd hm (cIk rfl) (cIk rfl) e3) (fun hm c4 => ?_)
    refine g_iast hk cx1 c4 kdM_25 hm dX12_threes_19 h (fun m5 hm h => ?_)
    refine g_iinc hk (lv' := [(1, mI (wI (x1 + 1))), (0, .ref (kB K + 0))]) 1 rfl (Nat.le_of_ble_eq_true rfl) rfl dX12_threes_20 ?_
    refine g_goto hk dX12_threes_23 ?_
    refine GoAt.sub [1, 0] rfl ?_
    exact hrec _ _ hm (wI_c _) h
  · exact g_return hk dX12_threes_26 (by cases h; rfl)
theorem w_M_threes_L2 {K : zK} (hk : zOk K kdM cX12_threes 2 none RX12 3)  {o : zM}  : ∀ (n : Nat) (x1 : Int) (m : zM), zG kdM m → cI x1 → M_threes_L2 n x1 m = some o → GoAt K m [(0, .ref (kB K + 0)), (1, mI x1)] [] 2 (9, 0, o)
  | 0, x1, m, hm, cx1, h => by cases h
  | n + 1, x1, m, hm, cx1, h => w_M_threes_B2 hk  (w_M_threes_L2 hk  n) hm cx1 h
set_option maxRecDepth 100000 in
set_option maxHeartbeats 4000000 in
theorem w_M_threes {K : zK} (hk : zOk K kdM cX12_threes 2 none RX12 3)  {m : zM} {o : zM}  (hm : zG kdM m)  (h : M_threes m = some o) : GoAt K m [(0, .ref (kB K + 0))] [] 0 (9, 0, o) := by
  unfold M_threes at h
  refine g_iconst hk (v := 0) rfl dX12_threes_0 ?_
  refine g_istore_n hk rfl (lv' := [(1, mI 0), (0, .ref (kB K + 0))]) (Nat.le_of_ble_eq_true rfl) rfl dX12_threes_1 ?_
  refine GoAt.sub [1, 0] rfl ?_
  refine w_M_threes_L2 hk  1000000 _ _ hm (cIk rfl) h
theorem met_M_threes (l : Launch) (D : va_G) (aC : Nat → ClassId) (B N : Nat) (hwd : ∀ id, (kdM id).1 ≠ 9 → id < N) {m : zM} {o : zM} (hm : zG kdM m)  (h : M_threes m = some o) : zMet l yX12_threes cX12_threes 2 none 3 D aC B kdM N [.ref (B + 0)] m (9, 0, o) := by
  refine zMet.of mf_X12_threes hwd hm (Nat.le_of_ble_eq_true rfl) (fun K e1 e2 e3 e4 e5 hk => ?_)
  subst e4
  exact w_M_threes hk hm  h
set_option maxRecDepth 100000 in
set_option maxHeartbeats 4000000 in
theorem w_M_tasting_B22 {K : zK} (hk : zOk K kdM cX12_tasting 3 none RX12 4) {rec : Int → Int → zM → Option (zM)} {x1 : Int} {x2 : Int} {m : zM} {o : zM} (hrec : ∀ (x1 : Int) (x2 : Int) (m : zM), zG kdM m → cI x1 → cI x2 → rec x1 x2 m = some o → GoAt K m [(0, .ref (kB K + 0)), (1, mI x1), (2, mI x2)] [] 22 (9, 0, o)) (hm : zG kdM m) (cx1 : cI x1) (cx2 : cI x2) (h : M_tasting_B22 rec x1 x2 m = some o) : GoAt K m [(0, .ref (kB K + 0)), (1, mI x1), (2, mI x2)] [] 22 (9, 0, o) := by
  unfold M_tasting_B22 at h
  refine g_iload_n hk 2 rfl dX12_tasting_22 ?_
  refine g_iconst hk (v := 3) rfl dX12_tasting_23 ?_
  refine g_icmp_ge hk cx2 (cIk rfl) dX12_tasting_24 h (fun b1 h => ?_) (fun b1 h => ?_)
  · refine g_aload_n hk 0 rfl dX12_tasting_27 ?_
    have g2 := zGI (i := 8) hm kdM_0 rfl
    refine g_get0 hk fl_X12_36 rfl (j := 8) rfl kdM_0 dX12_tasting_28 ?_
    refine g_if_ne hk g2 dX12_tasting_31 h (fun b3 h => ?_) (fun b3 h => ?_)
    · refine g_aload_n hk 0 rfl dX12_tasting_34 ?_
      refine g_get2 hk fl_X12_66 rfl kdM_0 hm (b := 6) rfl dX12_tasting_35 ?_
      refine g_iconst hk (v := 3) rfl dX12_tasting_38 ?_
      refine g_bipush hk (v := 6) rfl dX12_tasting_39 ?_
      refine g_aload_n hk 0 rfl dX12_tasting_41 ?_
      have g4 := zGI (i := 32) hm kdM_0 rfl
      refine g_get0 hk fl_X12_109 rfl (j := 32) rfl kdM_0 dX12_tasting_42 ?_
      refine g_imul hk dX12_tasting_45 ?_
      refine g_iload_n hk 1 rfl dX12_tasting_46 ?_
      refine g_iadd hk dX12_tasting_47 ?_
      refine g_imul hk dX12_tasting_48 ?_
      refine g_iload_n hk 2 rfl dX12_tasting_49 ?_
      refine g_iadd hk dX12_tasting_50 ?_
      refine g_aload_n hk 0 rfl dX12_tasting_51 ?_
      refine g_get2 hk fl_X12_147 rfl kdM_0 hm (b := 25) rfl dX12_tasting_52 ?_
      refine g_iload_n hk 2 rfl dX12_tasting_55 ?_
      refine g_iald hk cx2 kdM_25 hm dX12_tasting_56 h (fun y5 cy5 h => ?_)
      refine g_iast hk (wI_c _) cy5 kdM_6 hm dX12_tasting_57 h (fun m6 hm h => ?_)
      refine g_iinc hk (lv' := [(2, mI (wI (x2 + 1))), (0, .ref (kB K + 0)), (1, mI x1)]) 2 rfl (Nat.le_of_ble_eq_true rfl) rfl dX12_tasting_58 ?_
      refine g_goto hk dX12_tasting_61 ?_
      refine GoAt.sub [1, 2, 0] rfl ?_
      exact hrec _ _ _ hm cx1 (wI_c _) h
    · exact g_return hk dX12_tasting_64 (by cases h; rfl)
  · exact g_return hk dX12_tasting_64 (by cases h; rfl)
theorem w_M_tasting_L22 {K : zK} (hk : zOk K kdM cX12_tasting 3 none RX12 4)  {o : zM}  : ∀ (n : Nat) (x1 : Int) (x2 : Int) (m : zM), zG kdM m → cI x1 → cI x2 → M_tasting_L22 n x1 x2 m = some o → GoAt K m [(0, .ref (kB K + 0)), (1, mI x1), (2, mI x2)] [] 22 (9, 0, o)
  | 0, x1, x2, m, hm, cx1, cx2, h => by cases h
  | n + 1, x1, x2, m, hm, cx1, cx2, h => w_M_tasting_B22 hk  (w_M_tasting_L22 hk  n) hm cx1 cx2 h
set_option maxRecDepth 100000 in
set_option maxHeartbeats 4000000 in
theorem w_M_tasting {K : zK} (hk : zOk K kdM cX12_tasting 3 none RX12 4)  {m : zM} {o : zM}  (hm : zG kdM m)  (h : M_tasting m = some o) : GoAt K m [(0, .ref (kB K + 0))] [] 0 (9, 0, o) := by
  unfold M_tasting at h
  refine g_aload_n hk 0 rfl dX12_tasting_0 ?_
  refine g_iconst hk (v := 0) rfl dX12_tasting_1 ?_
  obtain ⟨r1, e2, h⟩ := zbind h
  refine g_callVz hk (st := []) mf_X12_counts lk_X12_391 mv_X12_counts kdM_0 (by decide) rfl (Nat.le_of_ble_eq_true rfl) rfl dX12_tasting_2 (met_M_counts _ _ _ _ _ hk.wd hm z0 e2) (fun hm c3 => ?_)
  refine g_if_ne hk (b01 c3) dX12_tasting_5 h (fun b4 h => ?_) (fun b4 h => ?_)
  · exact g_return hk dX12_tasting_8 (by cases h; rfl)
  · refine g_aload_n hk 0 rfl dX12_tasting_9 ?_
    refine g_iconst hk (v := 0) rfl dX12_tasting_10 ?_
    refine g_iconst hk (v := 0) rfl dX12_tasting_11 ?_
    obtain ⟨r5, e6, h⟩ := zbind h
    refine g_callVi hk (st := []) mf_X12_askedBut lk_X12_406 mv_X12_askedBut kdM_0 (by decide) rfl (Nat.le_of_ble_eq_true rfl) rfl dX12_tasting_12 (met_M_askedBut _ _ _ _ _ hk.wd hm (cIk rfl) (cIk rfl) e6) (fun hm c7 => ?_)
    refine g_istore_n hk rfl (lv' := [(1, mI r5.1), (0, .ref (kB K + 0))]) (Nat.le_of_ble_eq_true rfl) rfl dX12_tasting_15 ?_
    refine g_aload_n hk 1 rfl dX12_tasting_16 ?_
    obtain ⟨r8, e9, h⟩ := zbind h
    refine g_callVv hk (st := []) mf_X12_threes lk_X12_409 mv_X12_threes kdM_0 (by decide) rfl (Nat.le_of_ble_eq_true rfl) rfl dX12_tasting_17 (met_M_threes _ _ _ _ _ hk.wd hm e9) (fun hm => ?_)
    refine g_iconst hk (v := 0) rfl dX12_tasting_20 ?_
    refine g_istore_n hk rfl (lv' := [(2, mI 0), (1, mI r5.1), (0, .ref (kB K + 0))]) (Nat.le_of_ble_eq_true rfl) rfl dX12_tasting_21 ?_
    refine GoAt.sub [2, 1, 0] rfl ?_
    refine w_M_tasting_L22 hk  1000000 _ _ _ hm c7 (cIk rfl) h
theorem met_M_tasting (l : Launch) (D : va_G) (aC : Nat → ClassId) (B N : Nat) (hwd : ∀ id, (kdM id).1 ≠ 9 → id < N) {m : zM} {o : zM} (hm : zG kdM m)  (h : M_tasting m = some o) : zMet l yX12_tasting cX12_tasting 3 none 4 D aC B kdM N [.ref (B + 0)] m (9, 0, o) := by
  refine zMet.of mf_X12_tasting hwd hm (Nat.le_of_ble_eq_true rfl) (fun K e1 e2 e3 e4 e5 hk => ?_)
  subst e4
  exact w_M_tasting hk hm  h
set_option maxRecDepth 100000 in
set_option maxHeartbeats 4000000 in
theorem w_M_guesting_B61 {K : zK} (hk : zOk K kdM cX12_guesting 3 none RX12 4) {k88 : Int → zM → Option (zM)} {rec : Int → Int → zM → Option (zM)} {x1 : Int} {x2 : Int} {m : zM} {o : zM} (hk88 : ∀ (x1 : Int) (m : zM), zG kdM m → cI x1 → k88 x1 m = some o → GoAt K m [(0, .ref (kB K + 0)), (1, mI x1)] [] 88 (9, 0, o)) (hrec : ∀ (x1 : Int) (x2 : Int) (m : zM), zG kdM m → cI x1 → cI x2 → rec x1 x2 m = some o → GoAt K m [(0, .ref (kB K + 0)), (1, mI x1), (2, mI x2)] [] 61 (9, 0, o)) (hm : zG kdM m) (cx1 : cI x1) (cx2 : cI x2) (h : M_guesting_B61 k88 rec x1 x2 m = some o) : GoAt K m [(0, .ref (kB K + 0)), (1, mI x1), (2, mI x2)] [] 61 (9, 0, o) := by
  unfold M_guesting_B61 at h
  refine g_iload_n hk 2 rfl dX12_guesting_61 ?_
  refine g_iconst hk (v := 3) rfl dX12_guesting_62 ?_
  refine g_icmp_ge hk cx2 (cIk rfl) dX12_guesting_63 h (fun b1 h => ?_) (fun b1 h => ?_)
  · refine g_aload_n hk 0 rfl dX12_guesting_66 ?_
    refine g_get2 hk fl_X12_72 rfl kdM_0 hm (b := 8) rfl dX12_guesting_67 ?_
    refine g_iconst hk (v := 3) rfl dX12_guesting_70 ?_
    refine g_iload_n hk 1 rfl dX12_guesting_71 ?_
    refine g_imul hk dX12_guesting_72 ?_
    refine g_iload_n hk 2 rfl dX12_guesting_73 ?_
    refine g_iadd hk dX12_guesting_74 ?_
    refine g_aload_n hk 0 rfl dX12_guesting_75 ?_
    refine g_get2 hk fl_X12_147 rfl kdM_0 hm (b := 25) rfl dX12_guesting_76 ?_
    refine g_iload_n hk 2 rfl dX12_guesting_79 ?_
    refine g_iald hk cx2 kdM_25 hm dX12_guesting_80 h (fun y2 cy2 h => ?_)
    refine g_iast hk (wI_c _) cy2 kdM_8 hm dX12_guesting_81 h (fun m3 hm h => ?_)
    refine g_iinc hk (lv' := [(2, mI (wI (x2 + 1))), (0, .ref (kB K + 0)), (1, mI x1)]) 2 rfl (Nat.le_of_ble_eq_true rfl) rfl dX12_guesting_82 ?_
    refine g_goto hk dX12_guesting_85 ?_
    refine GoAt.sub [1, 2, 0] rfl ?_
    exact hrec _ _ _ hm cx1 (wI_c _) h
  · refine GoAt.sub [0, 1] rfl ?_
    exact hk88 _ _ hm cx1 h
theorem w_M_guesting_L61 {K : zK} (hk : zOk K kdM cX12_guesting 3 none RX12 4) {k88 : Int → zM → Option (zM)} {o : zM} (hk88 : ∀ (x1 : Int) (m : zM), zG kdM m → cI x1 → k88 x1 m = some o → GoAt K m [(0, .ref (kB K + 0)), (1, mI x1)] [] 88 (9, 0, o)) : ∀ (n : Nat) (x1 : Int) (x2 : Int) (m : zM), zG kdM m → cI x1 → cI x2 → M_guesting_L61 k88 n x1 x2 m = some o → GoAt K m [(0, .ref (kB K + 0)), (1, mI x1), (2, mI x2)] [] 61 (9, 0, o)
  | 0, x1, x2, m, hm, cx1, cx2, h => by cases h
  | n + 1, x1, x2, m, hm, cx1, cx2, h => w_M_guesting_B61 hk hk88 (w_M_guesting_L61 hk hk88 n) hm cx1 cx2 h
set_option maxRecDepth 100000 in
set_option maxHeartbeats 4000000 in
theorem w_M_guesting_b138 {K : zK} (hk : zOk K kdM cX12_guesting 3 none RX12 4)  {x1 : Int} {a0 : Nat} {n0 : Nat} {s1 : Int} {s3 : Int} {m : zM} {o : zM}  (hm : zG kdM m) (cx1 : cI x1) (ka0 : kdM a0 = (1, n0)) (cs1 : cI s1) (cs3 : cI s3) (h : M_guesting_b138 x1 a0 n0 s1 s3 m = some o) : GoAt K m [(0, .ref (kB K + 0)), (1, mI x1)] [mI s3, .ref (kB K + 0), mI s1, .ref (kB K + a0)] 138 (9, 0, o) := by
  unfold M_guesting_b138 at h
  refine g_bipush hk (v := 23) rfl dX12_guesting_138 ?_
  obtain ⟨r1, e2, h⟩ := zbind h
  refine g_callVi hk (st := [mI s1, .ref (kB K + a0)]) mf_X12_number lk_X12_403 mv_X12_number kdM_0 (by decide) rfl (Nat.le_of_ble_eq_true rfl) rfl dX12_guesting_140 (met_M_number _ _ _ _ _ hk.wd hm cs3 (cIk rfl) e2) (fun hm c3 => ?_)
  refine g_iast hk cs1 c3 ka0 hm dX12_guesting_143 h (fun m4 hm h => ?_)
  refine g_aload_n hk 0 rfl dX12_guesting_144 ?_
  refine g_get2 hk fl_X12_81 rfl kdM_0 hm (b := 11) rfl dX12_guesting_145 ?_
  refine g_iload_n hk 1 rfl dX12_guesting_148 ?_
  refine g_iconst hk (v := 0) rfl dX12_guesting_149 ?_
  refine g_iast hk cx1 (cIk rfl) kdM_11 hm dX12_guesting_150 h (fun m5 hm h => ?_)
  refine g_aload_n hk 0 rfl dX12_guesting_151 ?_
  have g6 := zGI (i := 8) hm kdM_0 rfl
  refine g_get0 hk fl_X12_36 rfl (j := 8) rfl kdM_0 dX12_guesting_152 ?_
  refine g_if_ne hk g6 dX12_guesting_155 h (fun b7 h => ?_) (fun b7 h => ?_)
  · refine g_aload_n hk 0 rfl dX12_guesting_158 ?_
    refine g_get2 hk fl_X12_69 rfl kdM_0 hm (b := 7) rfl dX12_guesting_159 ?_
    refine g_aload_n hk 0 rfl dX12_guesting_162 ?_
    have g8 := zGI (i := 32) hm kdM_0 rfl
    refine g_get0 hk fl_X12_109 rfl (j := 32) rfl kdM_0 dX12_guesting_163 ?_
    refine g_dup2 hk rfl rfl dX12_guesting_166 ?_
    refine g_iald hk g8 kdM_7 hm dX12_guesting_167 h (fun y9 cy9 h => ?_)
    refine g_iconst hk (v := 1) rfl dX12_guesting_168 ?_
    refine g_iadd hk dX12_guesting_169 ?_
    refine g_iast hk g8 (wI_c _) kdM_7 hm dX12_guesting_170 h (fun m10 hm h => ?_)
    exact g_return hk dX12_guesting_171 (by cases h; rfl)
  · exact g_return hk dX12_guesting_171 (by cases h; rfl)
set_option maxRecDepth 100000 in
set_option maxHeartbeats 4000000 in
theorem w_M_guesting_b20 {K : zK} (hk : zOk K kdM cX12_guesting 3 none RX12 4)  {s1 : Int} {m : zM} {o : zM}  (hm : zG kdM m) (zs1 : zok 4 s1) (h : M_guesting_b20 s1 m = some o) : GoAt K m [(0, .ref (kB K + 0))] [mI s1, .ref (kB K + 0)] 20 (9, 0, o) := by
  unfold M_guesting_b20 at h
  obtain ⟨r1, e2, h⟩ := zbind h
  refine g_callVz hk (st := []) mf_X12_counts lk_X12_391 mv_X12_counts kdM_0 (by decide) rfl (Nat.le_of_ble_eq_true rfl) rfl dX12_guesting_20 (met_M_counts _ _ _ _ _ hk.wd hm zs1 e2) (fun hm c3 => ?_)
  refine g_if_ne hk (b01 c3) dX12_guesting_23 h (fun b4 h => ?_) (fun b4 h => ?_)
  · exact g_return hk dX12_guesting_26 (by cases h; rfl)
  · refine g_bipush hk (v := 8) rfl dX12_guesting_27 ?_
    refine g_aload_n hk 0 rfl dX12_guesting_29 ?_
    have g5 := zGI (i := 32) hm kdM_0 rfl
    refine g_get0 hk fl_X12_109 rfl (j := 32) rfl kdM_0 dX12_guesting_30 ?_
    refine g_imul hk dX12_guesting_33 ?_
    refine g_aload_n hk 0 rfl dX12_guesting_34 ?_
    refine g_get2 hk fl_X12_69 rfl kdM_0 hm (b := 7) rfl dX12_guesting_35 ?_
    refine g_aload_n hk 0 rfl dX12_guesting_38 ?_
    have g6 := zGI (i := 32) hm kdM_0 rfl
    refine g_get0 hk fl_X12_109 rfl (j := 32) rfl kdM_0 dX12_guesting_39 ?_
    refine g_iald hk g6 kdM_7 hm dX12_guesting_42 h (fun y7 cy7 h => ?_)
    refine g_iadd hk dX12_guesting_43 ?_
    refine g_let (wI_c _) h (fun v8 cv8 h => ?_)
    refine g_istore_n hk rfl (lv' := [(1, mI v8), (0, .ref (kB K + 0))]) (Nat.le_of_ble_eq_true rfl) rfl dX12_guesting_44 ?_
    refine g_aload_n hk 1 rfl dX12_guesting_45 ?_
    refine g_get2 hk fl_X12_103 rfl kdM_0 hm (b := 18) rfl dX12_guesting_46 ?_
    refine g_iload_n hk 0 rfl dX12_guesting_49 ?_
    refine g_aload_n hk 1 rfl dX12_guesting_50 ?_
    obtain ⟨r9, e10, h⟩ := zbind h
    refine g_callVl hk (st := [mI v8, .ref (kB K + 18)]) mf_X12_fresh lk_X12_395 mv_X12_fresh kdM_0 (by decide) rfl (Nat.le_of_ble_eq_true rfl) rfl dX12_guesting_51 (met_M_fresh _ _ _ _ _ hk.wd hm e10) (fun hm c11 => ?_)
    refine g_last hk cv8 c11 kdM_18 hm dX12_guesting_54 h (fun m12 hm h => ?_)
    refine g_aload_n hk 1 rfl dX12_guesting_55 ?_
    obtain ⟨r13, e14, h⟩ := zbind h
    refine g_callVv hk (st := []) mf_X12_threes lk_X12_409 mv_X12_threes kdM_0 (by decide) rfl (Nat.le_of_ble_eq_true rfl) rfl dX12_guesting_56 (met_M_threes _ _ _ _ _ hk.wd hm e14) (fun hm => ?_)
    refine g_iconst hk (v := 0) rfl dX12_guesting_59 ?_
    refine g_istore_n hk rfl (lv' := [(2, mI 0), (1, mI v8), (0, .ref (kB K + 0))]) (Nat.le_of_ble_eq_true rfl) rfl dX12_guesting_60 ?_
    refine GoAt.sub [2, 1, 0] rfl ?_
    refine w_M_guesting_L61 hk (fun x1_16 m17 hm cx1_16 h => ?_) 1000000 _ _ _ hm cv8 (cIk rfl) h
    · refine g_aload_n hk 0 rfl dX12_guesting_88 ?_
      refine g_ldc2 hk (v := 427071202675) cn_X12_289 dX12_guesting_89 ?_
      obtain ⟨r18, e19, h⟩ := zbind h
      refine g_callVv hk (st := []) mf_X12_must_ lk_X12_399 mv_X12_must_ kdM_0 (by decide) rfl (Nat.le_of_ble_eq_true rfl) rfl dX12_guesting_92 (met_M_must_ _ _ _ _ _ hk.wd hm (cLk rfl) e19) (fun hm => ?_)
      refine g_aload_n hk 0 rfl dX12_guesting_95 ?_
      refine g_get2 hk fl_X12_75 rfl kdM_0 hm (b := 9) rfl dX12_guesting_96 ?_
      refine g_iload_n hk 1 rfl dX12_guesting_99 ?_
      refine g_aload_n hk 0 rfl dX12_guesting_100 ?_
      refine g_iconst hk (v := 0) rfl dX12_guesting_101 ?_
      refine g_bipush hk (v := 23) rfl dX12_guesting_102 ?_
      obtain ⟨r21, e22, h⟩ := zbind h
      refine g_callVi hk (st := [mI x1_16, .ref (kB K + 9)]) mf_X12_number lk_X12_403 mv_X12_number kdM_0 (by decide) rfl (Nat.le_of_ble_eq_true rfl) rfl dX12_guesting_104 (met_M_number _ _ _ _ _ hk.wd hm (cIk rfl) (cIk rfl) e22) (fun hm c23 => ?_)
      refine g_iast hk cx1_16 c23 kdM_9 hm dX12_guesting_107 h (fun m24 hm h => ?_)
      refine g_aload_n hk 0 rfl dX12_guesting_108 ?_
      refine g_ldc2 hk (v := 29807) cn_X12_281 dX12_guesting_109 ?_
      obtain ⟨r25, e26, h⟩ := zbind h
      refine g_callVv hk (st := []) mf_X12_must_ lk_X12_399 mv_X12_must_ kdM_0 (by decide) rfl (Nat.le_of_ble_eq_true rfl) rfl dX12_guesting_112 (met_M_must_ _ _ _ _ _ hk.wd hm (cLk rfl) e26) (fun hm => ?_)
      refine g_aload_n hk 0 rfl dX12_guesting_115 ?_
      refine g_get2 hk fl_X12_78 rfl kdM_0 hm (b := 10) rfl dX12_guesting_116 ?_
      refine g_iload_n hk 1 rfl dX12_guesting_119 ?_
      refine g_aload_n hk 0 rfl dX12_guesting_120 ?_
      refine g_aload_n hk 0 rfl dX12_guesting_121 ?_
      have g28 := zGI (i := 8) hm kdM_0 rfl
      refine g_get0 hk fl_X12_36 rfl (j := 8) rfl kdM_0 dX12_guesting_122 ?_
      refine g_if_le hk g28 dX12_guesting_125 h (fun b29 h => ?_) (fun b29 h => ?_)
      · refine g_iconst hk (v := 0) rfl dX12_guesting_128 ?_
        refine g_goto hk dX12_guesting_129 ?_
        exact w_M_guesting_b138 hk hm cx1_16 kdM_10 cx1_16 (cIk rfl) h
      · refine g_aload_n hk 0 rfl dX12_guesting_132 ?_
        refine g_get2 hk fl_X12_75 rfl kdM_0 hm (b := 9) rfl dX12_guesting_133 ?_
        refine g_iload_n hk 1 rfl dX12_guesting_136 ?_
        refine g_iald hk cx1_16 kdM_9 hm dX12_guesting_137 h (fun y30 cy30 h => ?_)
        exact w_M_guesting_b138 hk hm cx1_16 kdM_10 cx1_16 cy30 h
set_option maxRecDepth 100000 in
set_option maxHeartbeats 4000000 in
theorem w_M_guesting {K : zK} (hk : zOk K kdM cX12_guesting 3 none RX12 4)  {m : zM} {o : zM}  (hm : zG kdM m)  (h : M_guesting m = some o) : GoAt K m [(0, .ref (kB K + 0))] [] 0 (9, 0, o) := by
  unfold M_guesting at h
  refine g_aload_n hk 0 rfl dX12_guesting_0 ?_
  refine g_aload_n hk 0 rfl dX12_guesting_1 ?_
  refine g_get2 hk fl_X12_69 rfl kdM_0 hm (b := 7) rfl dX12_guesting_2 ?_
  refine g_aload_n hk 0 rfl dX12_guesting_5 ?_
  have g1 := zGI (i := 32) hm kdM_0 rfl
  refine g_get0 hk fl_X12_109 rfl (j := 32) rfl kdM_0 dX12_guesting_6 ?_
  refine g_iald hk g1 kdM_7 hm dX12_guesting_9 h (fun y2 cy2 h => ?_)
  refine g_bipush hk (v := 8) rfl dX12_guesting_10 ?_
  refine g_icmp_ne hk cy2 (cIk rfl) dX12_guesting_12 h (fun b3 h => ?_) (fun b3 h => ?_)
  · refine g_iconst hk (v := 1) rfl dX12_guesting_15 ?_
    refine g_goto hk dX12_guesting_16 ?_
    exact w_M_guesting_b20 hk hm z1 h
  · refine g_iconst hk (v := 0) rfl dX12_guesting_19 ?_
    exact w_M_guesting_b20 hk hm z0 h
theorem met_M_guesting (l : Launch) (D : va_G) (aC : Nat → ClassId) (B N : Nat) (hwd : ∀ id, (kdM id).1 ≠ 9 → id < N) {m : zM} {o : zM} (hm : zG kdM m)  (h : M_guesting m = some o) : zMet l yX12_guesting cX12_guesting 3 none 4 D aC B kdM N [.ref (B + 0)] m (9, 0, o) := by
  refine zMet.of mf_X12_guesting hwd hm (Nat.le_of_ble_eq_true rfl) (fun K e1 e2 e3 e4 e5 hk => ?_)
  subst e4
  exact w_M_guesting hk hm  h
set_option maxRecDepth 100000 in
set_option maxHeartbeats 4000000 in
theorem w_M_fearing {K : zK} (hk : zOk K kdM cX12_fearing 3 none RX12 3)  {m : zM} {o : zM}  (hm : zG kdM m)  (h : M_fearing m = some o) : GoAt K m [(0, .ref (kB K + 0))] [] 0 (9, 0, o) := by
  unfold M_fearing at h
  refine g_aload_n hk 0 rfl dX12_fearing_0 ?_
  refine g_iconst hk (v := 0) rfl dX12_fearing_1 ?_
  obtain ⟨r1, e2, h⟩ := zbind h
  refine g_callVz hk (st := []) mf_X12_counts lk_X12_391 mv_X12_counts kdM_0 (by decide) rfl (Nat.le_of_ble_eq_true rfl) rfl dX12_fearing_2 (met_M_counts _ _ _ _ _ hk.wd hm z0 e2) (fun hm c3 => ?_)
  refine g_if_ne hk (b01 c3) dX12_fearing_5 h (fun b4 h => ?_) (fun b4 h => ?_)
  · exact g_return hk dX12_fearing_8 (by cases h; rfl)
  · refine g_aload_n hk 0 rfl dX12_fearing_9 ?_
    refine g_iconst hk (v := 1) rfl dX12_fearing_10 ?_
    refine g_iconst hk (v := 0) rfl dX12_fearing_11 ?_
    obtain ⟨r5, e6, h⟩ := zbind h
    refine g_callVi hk (st := []) mf_X12_askedBut lk_X12_406 mv_X12_askedBut kdM_0 (by decide) rfl (Nat.le_of_ble_eq_true rfl) rfl dX12_fearing_12 (met_M_askedBut _ _ _ _ _ hk.wd hm (cIk rfl) (cIk rfl) e6) (fun hm c7 => ?_)
    refine g_istore_n hk rfl (lv' := [(1, mI r5.1), (0, .ref (kB K + 0))]) (Nat.le_of_ble_eq_true rfl) rfl dX12_fearing_15 ?_
    refine g_aload_n hk 1 rfl dX12_fearing_16 ?_
    refine g_iconst hk (v := 0) rfl dX12_fearing_17 ?_
    refine g_aload_n hk 1 rfl dX12_fearing_18 ?_
    refine g_get2 hk fl_X12_81 rfl kdM_0 hm (b := 11) rfl dX12_fearing_19 ?_
    refine g_bipush hk (v := 8) rfl dX12_fearing_22 ?_
    refine g_aload_n hk 1 rfl dX12_fearing_24 ?_
    have g8 := zGI (i := 32) hm kdM_0 rfl
    refine g_get0 hk fl_X12_109 rfl (j := 32) rfl kdM_0 dX12_fearing_25 ?_
    refine g_imul hk dX12_fearing_28 ?_
    refine g_iload_n hk 0 rfl dX12_fearing_29 ?_
    refine g_iadd hk dX12_fearing_30 ?_
    refine g_iald hk (wI_c _) kdM_11 hm dX12_fearing_31 h (fun y9 cy9 h => ?_)
    obtain ⟨r10, e11, h⟩ := zbind h
    refine g_callVi hk (st := []) mf_X12_askedBut lk_X12_406 mv_X12_askedBut kdM_0 (by decide) rfl (Nat.le_of_ble_eq_true rfl) rfl dX12_fearing_32 (met_M_askedBut _ _ _ _ _ hk.wd hm (cIk rfl) cy9 e11) (fun hm c12 => ?_)
    refine g_istore_n hk rfl (lv' := [(2, mI r10.1), (1, mI r5.1), (0, .ref (kB K + 0))]) (Nat.le_of_ble_eq_true rfl) rfl dX12_fearing_35 ?_
    refine g_aload_n hk 2 rfl dX12_fearing_36 ?_
    have g13 := zGI (i := 8) hm kdM_0 rfl
    refine g_get0 hk fl_X12_36 rfl (j := 8) rfl kdM_0 dX12_fearing_37 ?_
    refine g_if_ne hk g13 dX12_fearing_40 h (fun b14 h => ?_) (fun b14 h => ?_)
    · refine g_aload_n hk 2 rfl dX12_fearing_43 ?_
      refine g_get2 hk fl_X12_81 rfl kdM_0 hm (b := 11) rfl dX12_fearing_44 ?_
      refine g_bipush hk (v := 8) rfl dX12_fearing_47 ?_
      refine g_aload_n hk 2 rfl dX12_fearing_49 ?_
      have g15 := zGI (i := 32) hm kdM_0 rfl
      refine g_get0 hk fl_X12_109 rfl (j := 32) rfl kdM_0 dX12_fearing_50 ?_
      refine g_imul hk dX12_fearing_53 ?_
      refine g_iload_n hk 1 rfl dX12_fearing_54 ?_
      refine g_iadd hk dX12_fearing_55 ?_
      refine g_dup2 hk rfl rfl dX12_fearing_56 ?_
      refine g_iald hk (wI_c _) kdM_11 hm dX12_fearing_57 h (fun y16 cy16 h => ?_)
      refine g_iconst hk (v := 1) rfl dX12_fearing_58 ?_
      refine g_iload_n hk 0 rfl dX12_fearing_59 ?_
      refine g_ishl hk dX12_fearing_60 ?_
      refine g_ior hk dX12_fearing_61 ?_
      refine g_iast hk (wI_c _) (cI_t _) kdM_11 hm dX12_fearing_62 h (fun m17 hm h => ?_)
      exact g_return hk dX12_fearing_63 (by cases h; rfl)
    · exact g_return hk dX12_fearing_63 (by cases h; rfl)
theorem met_M_fearing (l : Launch) (D : va_G) (aC : Nat → ClassId) (B N : Nat) (hwd : ∀ id, (kdM id).1 ≠ 9 → id < N) {m : zM} {o : zM} (hm : zG kdM m)  (h : M_fearing m = some o) : zMet l yX12_fearing cX12_fearing 3 none 3 D aC B kdM N [.ref (B + 0)] m (9, 0, o) := by
  refine zMet.of mf_X12_fearing hwd hm (Nat.le_of_ble_eq_true rfl) (fun K e1 e2 e3 e4 e5 hk => ?_)
  subst e4
  exact w_M_fearing hk hm  h
set_option maxRecDepth 100000 in
set_option maxHeartbeats 4000000 in
theorem w_M_reading_b43 {K : zK} (hk : zOk K kdM cX12_reading 3 none RX12 5)  {x1 : Int} {x2 : Int} {s1 : Int} {m : zM} {o : zM}  (hm : zG kdM m) (cx1 : cI x1) (cx2 : cI x2) (zs1 : zok 4 s1) (h : M_reading_b43 x1 x2 s1 m = some o) : GoAt K m [(0, .ref (kB K + 0)), (1, mI x1), (2, mI x2)] [mI s1, .ref (kB K + 0)] 43 (9, 0, o) := by
  unfold M_reading_b43 at h
  refine g_put4 hk fp_X12_112 rfl (j := 33) rfl kdM_0 zs1 dX12_reading_43 h hm (fun m1 hm h => ?_)
  refine g_aload_n hk 0 rfl dX12_reading_46 ?_
  refine g_get2 hk fl_X12_87 rfl kdM_0 hm (b := 13) rfl dX12_reading_47 ?_
  refine g_iload_n hk 2 rfl dX12_reading_50 ?_
  refine g_aload_n hk 0 rfl dX12_reading_51 ?_
  have g2 := zGI (i := 31) hm kdM_0 rfl
  refine g_get0 hk fl_X12_106 rfl (j := 31) rfl kdM_0 dX12_reading_52 ?_
  refine g_iast hk cx2 g2 kdM_13 hm dX12_reading_55 h (fun m3 hm h => ?_)
  refine g_aload_n hk 0 rfl dX12_reading_56 ?_
  refine g_iload_n hk 1 rfl dX12_reading_57 ?_
  refine g_iconst hk (v := 1) rfl dX12_reading_58 ?_
  refine g_icmp_ne hk cx1 (cIk rfl) dX12_reading_59 h (fun b4 h => ?_) (fun b4 h => ?_)
  · refine g_iconst hk (v := 1) rfl dX12_reading_62 ?_
    refine g_goto hk dX12_reading_63 ?_
    obtain ⟨r5, e6, h⟩ := zbind h
    refine g_callVv hk (st := []) mf_X12_reads lk_X12_412 mv_X12_reads kdM_0 (by decide) rfl (Nat.le_of_ble_eq_true rfl) rfl dX12_reading_67 (met_M_reads _ _ _ _ _ hk.wd hm z1 e6) (fun hm => ?_)
    refine g_aload_n hk 0 rfl dX12_reading_70 ?_
    refine g_get2 hk fl_X12_90 rfl kdM_0 hm (b := 14) rfl dX12_reading_71 ?_
    refine g_iload_n hk 2 rfl dX12_reading_74 ?_
    refine g_aload_n hk 0 rfl dX12_reading_75 ?_
    have g8 := zGI (i := 31) hm kdM_0 rfl
    refine g_get0 hk fl_X12_106 rfl (j := 31) rfl kdM_0 dX12_reading_76 ?_
    refine g_iast hk cx2 g8 kdM_14 hm dX12_reading_79 h (fun m9 hm h => ?_)
    exact g_return hk dX12_reading_80 (by cases h; rfl)
  · refine g_iconst hk (v := 0) rfl dX12_reading_66 ?_
    obtain ⟨r10, e11, h⟩ := zbind h
    refine g_callVv hk (st := []) mf_X12_reads lk_X12_412 mv_X12_reads kdM_0 (by decide) rfl (Nat.le_of_ble_eq_true rfl) rfl dX12_reading_67 (met_M_reads _ _ _ _ _ hk.wd hm z0 e11) (fun hm => ?_)
    refine g_aload_n hk 0 rfl dX12_reading_70 ?_
    refine g_get2 hk fl_X12_90 rfl kdM_0 hm (b := 14) rfl dX12_reading_71 ?_
    refine g_iload_n hk 2 rfl dX12_reading_74 ?_
    refine g_aload_n hk 0 rfl dX12_reading_75 ?_
    have g13 := zGI (i := 31) hm kdM_0 rfl
    refine g_get0 hk fl_X12_106 rfl (j := 31) rfl kdM_0 dX12_reading_76 ?_
    refine g_iast hk cx2 g13 kdM_14 hm dX12_reading_79 h (fun m14 hm h => ?_)
    exact g_return hk dX12_reading_80 (by cases h; rfl)
set_option maxRecDepth 100000 in
set_option maxHeartbeats 4000000 in
theorem w_M_reading_b25 {K : zK} (hk : zOk K kdM cX12_reading 3 none RX12 5)  {x1 : Int} {x2 : Int} {s1 : Int} {m : zM} {o : zM}  (hm : zG kdM m) (cx1 : cI x1) (cx2 : cI x2) (zs1 : zok 4 s1) (h : M_reading_b25 x1 x2 s1 m = some o) : GoAt K m [(0, .ref (kB K + 0)), (1, mI x1), (2, mI x2)] [mI s1, .ref (kB K + 0)] 25 (9, 0, o) := by
  unfold M_reading_b25 at h
  obtain ⟨r1, e2, h⟩ := zbind h
  refine g_callVz hk (st := []) mf_X12_counts lk_X12_391 mv_X12_counts kdM_0 (by decide) rfl (Nat.le_of_ble_eq_true rfl) rfl dX12_reading_25 (met_M_counts _ _ _ _ _ hk.wd hm zs1 e2) (fun hm c3 => ?_)
  refine g_if_ne hk (b01 c3) dX12_reading_28 h (fun b4 h => ?_) (fun b4 h => ?_)
  · exact g_return hk dX12_reading_31 (by cases h; rfl)
  · refine g_aload_n hk 0 rfl dX12_reading_32 ?_
    refine g_iload_n hk 1 rfl dX12_reading_33 ?_
    refine g_iconst hk (v := 1) rfl dX12_reading_34 ?_
    refine g_icmp_ne hk cx1 (cIk rfl) dX12_reading_35 h (fun b5 h => ?_) (fun b5 h => ?_)
    · refine g_iconst hk (v := 1) rfl dX12_reading_38 ?_
      refine g_goto hk dX12_reading_39 ?_
      exact w_M_reading_b43 hk hm cx1 cx2 z1 h
    · refine g_iconst hk (v := 0) rfl dX12_reading_42 ?_
      exact w_M_reading_b43 hk hm cx1 cx2 z0 h
set_option maxRecDepth 100000 in
set_option maxHeartbeats 4000000 in
theorem w_M_reading {K : zK} (hk : zOk K kdM cX12_reading 3 none RX12 5)  {x1 : Int} {m : zM} {o : zM}  (hm : zG kdM m) (cx1 : cI x1) (h : M_reading x1 m = some o) : GoAt K m [(0, .ref (kB K + 0)), (1, mI x1)] [] 0 (9, 0, o) := by
  unfold M_reading at h
  refine g_iconst hk (v := 2) rfl dX12_reading_0 ?_
  refine g_aload_n hk 0 rfl dX12_reading_1 ?_
  have g1 := zGI (i := 32) hm kdM_0 rfl
  refine g_get0 hk fl_X12_109 rfl (j := 32) rfl kdM_0 dX12_reading_2 ?_
  refine g_imul hk dX12_reading_5 ?_
  refine g_iload_n hk 1 rfl dX12_reading_6 ?_
  refine g_iadd hk dX12_reading_7 ?_
  refine g_let (wI_c _) h (fun v2 cv2 h => ?_)
  refine g_istore_n hk rfl (lv' := [(2, mI v2), (0, .ref (kB K + 0)), (1, mI x1)]) (Nat.le_of_ble_eq_true rfl) rfl dX12_reading_8 ?_
  refine g_aload_n hk 1 rfl dX12_reading_9 ?_
  refine g_aload_n hk 1 rfl dX12_reading_10 ?_
  refine g_get2 hk fl_X12_87 rfl kdM_0 hm (b := 13) rfl dX12_reading_11 ?_
  refine g_iload_n hk 0 rfl dX12_reading_14 ?_
  refine g_iald hk cv2 kdM_13 hm dX12_reading_15 h (fun y3 cy3 h => ?_)
  refine g_iconst hk (v := (-1)) rfl dX12_reading_16 ?_
  refine g_icmp_eq hk cy3 (cIk rfl) dX12_reading_17 h (fun b4 h => ?_) (fun b4 h => ?_)
  · refine g_iconst hk (v := 0) rfl dX12_reading_24 ?_
    refine GoAt.sub [1, 2, 0] rfl ?_
    exact w_M_reading_b25 hk hm cx1 cv2 z0 h
  · refine g_iconst hk (v := 1) rfl dX12_reading_20 ?_
    refine g_goto hk dX12_reading_21 ?_
    refine GoAt.sub [1, 2, 0] rfl ?_
    exact w_M_reading_b25 hk hm cx1 cv2 z1 h
theorem met_M_reading (l : Launch) (D : va_G) (aC : Nat → ClassId) (B N : Nat) (hwd : ∀ id, (kdM id).1 ≠ 9 → id < N) {x1 : Int} {m : zM} {o : zM} (hm : zG kdM m) (cx1 : cI x1) (h : M_reading x1 m = some o) : zMet l yX12_reading cX12_reading 3 none 5 D aC B kdM N [.ref (B + 0), mI x1] m (9, 0, o) := by
  refine zMet.of mf_X12_reading hwd hm (Nat.le_of_ble_eq_true rfl) (fun K e1 e2 e3 e4 e5 hk => ?_)
  subst e4
  exact w_M_reading hk hm cx1 h
set_option maxRecDepth 100000 in
set_option maxHeartbeats 4000000 in
theorem w_M_telling {K : zK} (hk : zOk K kdM cX12_telling 5 none RX12 3)  {x1 : Int} {x2 : Int} {x3 : Int} {m : zM} {o : zM}  (hm : zG kdM m) (cx1 : cI x1) (cx2 : cI x2) (cx3 : cI x3) (h : M_telling x1 x2 x3 m = some o) : GoAt K m [(0, .ref (kB K + 0)), (1, mI x1), (2, mI x2), (3, mI x3)] [] 0 (9, 0, o) := by
  unfold M_telling at h
  refine g_aload_n hk 0 rfl dX12_telling_0 ?_
  refine g_iconst hk (v := 0) rfl dX12_telling_1 ?_
  obtain ⟨r1, e2, h⟩ := zbind h
  refine g_callVz hk (st := []) mf_X12_counts lk_X12_391 mv_X12_counts kdM_0 (by decide) rfl (Nat.le_of_ble_eq_true rfl) rfl dX12_telling_2 (met_M_counts _ _ _ _ _ hk.wd hm z0 e2) (fun hm c3 => ?_)
  refine g_if_ne hk (b01 c3) dX12_telling_5 h (fun b4 h => ?_) (fun b4 h => ?_)
  · exact g_return hk dX12_telling_8 (by cases h; rfl)
  · refine g_aload_n hk 0 rfl dX12_telling_9 ?_
    refine g_iload_n hk 2 rfl dX12_telling_10 ?_
    refine g_iload_n hk 3 rfl dX12_telling_11 ?_
    obtain ⟨r5, e6, h⟩ := zbind h
    refine g_callVi hk (st := []) mf_X12_number lk_X12_403 mv_X12_number kdM_0 (by decide) rfl (Nat.le_of_ble_eq_true rfl) rfl dX12_telling_12 (met_M_number _ _ _ _ _ hk.wd hm cx2 cx3 e6) (fun hm c7 => ?_)
    refine g_istore hk (lv' := [(4, mI r5.1), (0, .ref (kB K + 0)), (1, mI x1), (2, mI x2), (3, mI x3)]) (Nat.le_of_ble_eq_true rfl) rfl dX12_telling_15 ?_
    refine g_aload_n hk 1 rfl dX12_telling_17 ?_
    have g8 := zGI (i := 8) hm kdM_0 rfl
    refine g_get0 hk fl_X12_36 rfl (j := 8) rfl kdM_0 dX12_telling_18 ?_
    refine g_if_ne hk g8 dX12_telling_21 h (fun b9 h => ?_) (fun b9 h => ?_)
    · refine g_aload_n hk 1 rfl dX12_telling_24 ?_
      refine g_get2 hk fl_X12_84 rfl kdM_0 hm (b := 12) rfl dX12_telling_25 ?_
      refine g_iconst hk (v := 5) rfl dX12_telling_28 ?_
      refine g_aload_n hk 1 rfl dX12_telling_29 ?_
      have g10 := zGI (i := 32) hm kdM_0 rfl
      refine g_get0 hk fl_X12_109 rfl (j := 32) rfl kdM_0 dX12_telling_30 ?_
      refine g_imul hk dX12_telling_33 ?_
      refine g_iload_n hk 2 rfl dX12_telling_34 ?_
      refine g_iadd hk dX12_telling_35 ?_
      refine g_iload hk 0 rfl dX12_telling_36 ?_
      refine g_iast hk (wI_c _) c7 kdM_12 hm dX12_telling_38 h (fun m11 hm h => ?_)
      exact g_return hk dX12_telling_39 (by cases h; rfl)
    · exact g_return hk dX12_telling_39 (by cases h; rfl)
theorem met_M_telling (l : Launch) (D : va_G) (aC : Nat → ClassId) (B N : Nat) (hwd : ∀ id, (kdM id).1 ≠ 9 → id < N) {x1 : Int} {x2 : Int} {x3 : Int} {m : zM} {o : zM} (hm : zG kdM m) (cx1 : cI x1) (cx2 : cI x2) (cx3 : cI x3) (h : M_telling x1 x2 x3 m = some o) : zMet l yX12_telling cX12_telling 5 none 3 D aC B kdM N [.ref (B + 0), mI x1, mI x2, mI x3] m (9, 0, o) := by
  refine zMet.of mf_X12_telling hwd hm (Nat.le_of_ble_eq_true rfl) (fun K e1 e2 e3 e4 e5 hk => ?_)
  subst e4
  exact w_M_telling hk hm cx1 cx2 cx3 h
set_option maxRecDepth 100000 in
set_option maxHeartbeats 4000000 in
theorem w_M_statement {K : zK} (hk : zOk K kdM cX12_statement 1 none RX12 6)  {m : zM} {o : zM}  (hm : zG kdM m)  (h : M_statement m = some o) : GoAt K m [(0, .ref (kB K + 0))] [] 0 (9, 0, o) := by
  unfold M_statement at h
  refine g_aload_n hk 0 rfl dX12_statement_0 ?_
  obtain ⟨r1, e2, h⟩ := zbind h
  refine g_callVv hk (st := []) mf_X12_lex lk_X12_268 mv_X12_lex kdM_0 (by decide) rfl (Nat.le_of_ble_eq_true rfl) rfl dX12_statement_1 (met_M_lex _ _ _ _ _ hk.wd hm e2) (fun hm => ?_)
  refine g_aload_n hk 0 rfl dX12_statement_4 ?_
  have g4 := zGI (i := 8) hm kdM_0 rfl
  refine g_get0 hk fl_X12_36 rfl (j := 8) rfl kdM_0 dX12_statement_5 ?_
  refine g_if_le hk g4 dX12_statement_8 h (fun b5 h => ?_) (fun b5 h => ?_)
  · exact g_return hk dX12_statement_11 (by cases h; rfl)
  · refine g_aload_n hk 0 rfl dX12_statement_12 ?_
    refine g_ldc2 hk (v := 422607680372) cn_X12_277 dX12_statement_13 ?_
    obtain ⟨r6, e7, h⟩ := zbind h
    refine g_callVz hk (st := []) mf_X12_isWord lk_X12_361 mv_X12_isWord kdM_0 (by decide) rfl (Nat.le_of_ble_eq_true rfl) rfl dX12_statement_16 (met_M_isWord _ _ _ _ _ hk.wd hm (cLk rfl) e7) (fun hm c8 => ?_)
    refine g_if_eq hk (b01 c8) dX12_statement_19 h (fun b9 h => ?_) (fun b9 h => ?_)
    · refine g_aload_n hk 0 rfl dX12_statement_29 ?_
      refine g_ldc2 hk (v := 499851162725) cn_X12_285 dX12_statement_30 ?_
      obtain ⟨r10, e11, h⟩ := zbind h
      refine g_callVz hk (st := []) mf_X12_isWord lk_X12_361 mv_X12_isWord kdM_0 (by decide) rfl (Nat.le_of_ble_eq_true rfl) rfl dX12_statement_33 (met_M_isWord _ _ _ _ _ hk.wd hm (cLk rfl) e11) (fun hm c12 => ?_)
      refine g_if_eq hk (b01 c12) dX12_statement_36 h (fun b13 h => ?_) (fun b13 h => ?_)
      · refine g_aload_n hk 0 rfl dX12_statement_46 ?_
        refine g_ldc2 hk (v := 444351214452) cn_X12_287 dX12_statement_47 ?_
        obtain ⟨r14, e15, h⟩ := zbind h
        refine g_callVz hk (st := []) mf_X12_isWord lk_X12_361 mv_X12_isWord kdM_0 (by decide) rfl (Nat.le_of_ble_eq_true rfl) rfl dX12_statement_50 (met_M_isWord _ _ _ _ _ hk.wd hm (cLk rfl) e15) (fun hm c16 => ?_)
        refine g_if_eq hk (b01 c16) dX12_statement_53 h (fun b17 h => ?_) (fun b17 h => ?_)
        · refine g_aload_n hk 0 rfl dX12_statement_63 ?_
          refine g_ldc2 hk (v := 439787549299) cn_X12_291 dX12_statement_64 ?_
          obtain ⟨r18, e19, h⟩ := zbind h
          refine g_callVz hk (st := []) mf_X12_isWord lk_X12_361 mv_X12_isWord kdM_0 (by decide) rfl (Nat.le_of_ble_eq_true rfl) rfl dX12_statement_67 (met_M_isWord _ _ _ _ _ hk.wd hm (cLk rfl) e19) (fun hm c20 => ?_)
          refine g_if_eq hk (b01 c20) dX12_statement_70 h (fun b21 h => ?_) (fun b21 h => ?_)
          · refine g_aload_n hk 0 rfl dX12_statement_80 ?_
            refine g_ldc2 hk (v := 465625113971) cn_X12_293 dX12_statement_81 ?_
            obtain ⟨r22, e23, h⟩ := zbind h
            refine g_callVz hk (st := []) mf_X12_isWord lk_X12_361 mv_X12_isWord kdM_0 (by decide) rfl (Nat.le_of_ble_eq_true rfl) rfl dX12_statement_84 (met_M_isWord _ _ _ _ _ hk.wd hm (cLk rfl) e23) (fun hm c24 => ?_)
            refine g_if_eq hk (b01 c24) dX12_statement_87 h (fun b25 h => ?_) (fun b25 h => ?_)
            · refine g_aload_n hk 0 rfl dX12_statement_98 ?_
              refine g_ldc2 hk (v := 7168377) cn_X12_295 dX12_statement_99 ?_
              obtain ⟨r26, e27, h⟩ := zbind h
              refine g_callVz hk (st := []) mf_X12_isWord lk_X12_361 mv_X12_isWord kdM_0 (by decide) rfl (Nat.le_of_ble_eq_true rfl) rfl dX12_statement_102 (met_M_isWord _ _ _ _ _ hk.wd hm (cLk rfl) e27) (fun hm c28 => ?_)
              refine g_if_eq hk (b01 c28) dX12_statement_105 h (fun b29 h => ?_) (fun b29 h => ?_)
              · refine g_aload_n hk 0 rfl dX12_statement_116 ?_
                refine g_ldc2 hk (v := 129138533167731) cn_X12_297 dX12_statement_117 ?_
                obtain ⟨r30, e31, h⟩ := zbind h
                refine g_callVz hk (st := []) mf_X12_isWord lk_X12_361 mv_X12_isWord kdM_0 (by decide) rfl (Nat.le_of_ble_eq_true rfl) rfl dX12_statement_120 (met_M_isWord _ _ _ _ _ hk.wd hm (cLk rfl) e31) (fun hm c32 => ?_)
                refine g_if_eq hk (b01 c32) dX12_statement_123 h (fun b33 h => ?_) (fun b33 h => ?_)
                · refine g_aload_n hk 0 rfl dX12_statement_137 ?_
                  refine g_ldc2 hk (v := 422776563059) cn_X12_299 dX12_statement_138 ?_
                  obtain ⟨r34, e35, h⟩ := zbind h
                  refine g_callVz hk (st := []) mf_X12_isWord lk_X12_361 mv_X12_isWord kdM_0 (by decide) rfl (Nat.le_of_ble_eq_true rfl) rfl dX12_statement_141 (met_M_isWord _ _ _ _ _ hk.wd hm (cLk rfl) e35) (fun hm c36 => ?_)
                  refine g_if_eq hk (b01 c36) dX12_statement_144 h (fun b37 h => ?_) (fun b37 h => ?_)
                  · refine g_aload_n hk 0 rfl dX12_statement_158 ?_
                    refine g_ldc2 hk (v := 461262647411) cn_X12_301 dX12_statement_159 ?_
                    obtain ⟨r38, e39, h⟩ := zbind h
                    refine g_callVz hk (st := []) mf_X12_isWord lk_X12_361 mv_X12_isWord kdM_0 (by decide) rfl (Nat.le_of_ble_eq_true rfl) rfl dX12_statement_162 (met_M_isWord _ _ _ _ _ hk.wd hm (cLk rfl) e39) (fun hm c40 => ?_)
                    refine g_if_eq hk (b01 c40) dX12_statement_165 h (fun b41 h => ?_) (fun b41 h => ?_)
                    · refine g_aload_n hk 0 rfl dX12_statement_179 ?_
                      refine g_ldc2 hk (v := 6710629) cn_X12_303 dX12_statement_180 ?_
                      obtain ⟨r42, e43, h⟩ := zbind h
                      refine g_callVz hk (st := []) mf_X12_isWord lk_X12_361 mv_X12_isWord kdM_0 (by decide) rfl (Nat.le_of_ble_eq_true rfl) rfl dX12_statement_183 (met_M_isWord _ _ _ _ _ hk.wd hm (cLk rfl) e43) (fun hm c44 => ?_)
                      refine g_if_eq hk (b01 c44) dX12_statement_186 h (fun b45 h => ?_) (fun b45 h => ?_)
                      · refine g_aload_n hk 0 rfl dX12_statement_200 ?_
                        refine g_ldc2 hk (v := 1918986606) cn_X12_305 dX12_statement_201 ?_
                        obtain ⟨r46, e47, h⟩ := zbind h
                        refine g_callVz hk (st := []) mf_X12_isWord lk_X12_361 mv_X12_isWord kdM_0 (by decide) rfl (Nat.le_of_ble_eq_true rfl) rfl dX12_statement_204 (met_M_isWord _ _ _ _ _ hk.wd hm (cLk rfl) e47) (fun hm c48 => ?_)
                        refine g_if_eq hk (b01 c48) dX12_statement_207 h (fun b49 h => ?_) (fun b49 h => ?_)
                        · refine g_aload_n hk 0 rfl dX12_statement_221 ?_
                          refine g_iconst hk (v := 1) rfl dX12_statement_222 ?_
                          refine g_aload_n hk 0 rfl dX12_statement_223 ?_
                          have g50 := zGI (i := 4) hm kdM_0 rfl
                          refine g_get0 hk fl_X12_23 rfl (j := 4) rfl kdM_0 dX12_statement_224 ?_
                          obtain ⟨r51, e52, h⟩ := zbind h
                          refine g_callVv hk (st := []) mf_X12_blame lk_X12_257 mv_X12_blame kdM_0 (by decide) rfl (Nat.le_of_ble_eq_true rfl) rfl dX12_statement_227 (met_M_blame _ _ _ _ _ hk.wd hm (cIk rfl) g50 e52) (fun hm => ?_)
                          exact g_return hk dX12_statement_230 (by cases h; rfl)
                        · refine g_aload_n hk 0 rfl dX12_statement_210 ?_
                          refine g_iconst hk (v := 4) rfl dX12_statement_211 ?_
                          refine g_iconst hk (v := 0) rfl dX12_statement_212 ?_
                          refine g_bipush hk (v := 100) rfl dX12_statement_213 ?_
                          obtain ⟨r54, e55, h⟩ := zbind h
                          refine g_callVv hk (st := []) mf_X12_telling lk_X12_431 mv_X12_telling kdM_0 (by decide) rfl (Nat.le_of_ble_eq_true rfl) rfl dX12_statement_215 (met_M_telling _ _ _ _ _ hk.wd hm (cIk rfl) (cIk rfl) (cIk rfl) e55) (fun hm => ?_)
                          refine g_goto hk dX12_statement_218 ?_
                          exact g_return hk dX12_statement_230 (by cases h; rfl)
                      · refine g_aload_n hk 0 rfl dX12_statement_189 ?_
                        refine g_iconst hk (v := 3) rfl dX12_statement_190 ?_
                        refine g_iconst hk (v := 0) rfl dX12_statement_191 ?_
                        refine g_bipush hk (v := 99) rfl dX12_statement_192 ?_
                        obtain ⟨r57, e58, h⟩ := zbind h
                        refine g_callVv hk (st := []) mf_X12_telling lk_X12_431 mv_X12_telling kdM_0 (by decide) rfl (Nat.le_of_ble_eq_true rfl) rfl dX12_statement_194 (met_M_telling _ _ _ _ _ hk.wd hm (cIk rfl) (cIk rfl) (cIk rfl) e58) (fun hm => ?_)
                        refine g_goto hk dX12_statement_197 ?_
                        exact g_return hk dX12_statement_230 (by cases h; rfl)
                    · refine g_aload_n hk 0 rfl dX12_statement_168 ?_
                      refine g_iconst hk (v := 2) rfl dX12_statement_169 ?_
                      refine g_iconst hk (v := 2) rfl dX12_statement_170 ?_
                      refine g_bipush hk (v := 9) rfl dX12_statement_171 ?_
                      obtain ⟨r60, e61, h⟩ := zbind h
                      refine g_callVv hk (st := []) mf_X12_telling lk_X12_431 mv_X12_telling kdM_0 (by decide) rfl (Nat.le_of_ble_eq_true rfl) rfl dX12_statement_173 (met_M_telling _ _ _ _ _ hk.wd hm (cIk rfl) (cIk rfl) (cIk rfl) e61) (fun hm => ?_)
                      refine g_goto hk dX12_statement_176 ?_
                      exact g_return hk dX12_statement_230 (by cases h; rfl)
                  · refine g_aload_n hk 0 rfl dX12_statement_147 ?_
                    refine g_iconst hk (v := 1) rfl dX12_statement_148 ?_
                    refine g_iconst hk (v := 0) rfl dX12_statement_149 ?_
                    refine g_bipush hk (v := 99) rfl dX12_statement_150 ?_
                    obtain ⟨r63, e64, h⟩ := zbind h
                    refine g_callVv hk (st := []) mf_X12_telling lk_X12_431 mv_X12_telling kdM_0 (by decide) rfl (Nat.le_of_ble_eq_true rfl) rfl dX12_statement_152 (met_M_telling _ _ _ _ _ hk.wd hm (cIk rfl) (cIk rfl) (cIk rfl) e64) (fun hm => ?_)
                    refine g_goto hk dX12_statement_155 ?_
                    exact g_return hk dX12_statement_230 (by cases h; rfl)
                · refine g_aload_n hk 0 rfl dX12_statement_126 ?_
                  refine g_iconst hk (v := 0) rfl dX12_statement_127 ?_
                  refine g_iconst hk (v := 0) rfl dX12_statement_128 ?_
                  refine g_bipush hk (v := 6) rfl dX12_statement_129 ?_
                  obtain ⟨r66, e67, h⟩ := zbind h
                  refine g_callVv hk (st := []) mf_X12_telling lk_X12_431 mv_X12_telling kdM_0 (by decide) rfl (Nat.le_of_ble_eq_true rfl) rfl dX12_statement_131 (met_M_telling _ _ _ _ _ hk.wd hm (cIk rfl) (cIk rfl) (cIk rfl) e67) (fun hm => ?_)
                  refine g_goto hk dX12_statement_134 ?_
                  exact g_return hk dX12_statement_230 (by cases h; rfl)
              · refine g_aload_n hk 0 rfl dX12_statement_108 ?_
                refine g_iconst hk (v := 1) rfl dX12_statement_109 ?_
                obtain ⟨r69, e70, h⟩ := zbind h
                refine g_callVv hk (st := []) mf_X12_reading lk_X12_428 mv_X12_reading kdM_0 (by decide) rfl (Nat.le_of_ble_eq_true rfl) rfl dX12_statement_110 (met_M_reading _ _ _ _ _ hk.wd hm (cIk rfl) e70) (fun hm => ?_)
                refine g_goto hk dX12_statement_113 ?_
                exact g_return hk dX12_statement_230 (by cases h; rfl)
            · refine g_aload_n hk 0 rfl dX12_statement_90 ?_
              refine g_iconst hk (v := 0) rfl dX12_statement_91 ?_
              obtain ⟨r72, e73, h⟩ := zbind h
              refine g_callVv hk (st := []) mf_X12_reading lk_X12_428 mv_X12_reading kdM_0 (by decide) rfl (Nat.le_of_ble_eq_true rfl) rfl dX12_statement_92 (met_M_reading _ _ _ _ _ hk.wd hm (cIk rfl) e73) (fun hm => ?_)
              refine g_goto hk dX12_statement_95 ?_
              exact g_return hk dX12_statement_230 (by cases h; rfl)
          · refine g_aload_n hk 0 rfl dX12_statement_73 ?_
            obtain ⟨r75, e76, h⟩ := zbind h
            refine g_callVv hk (st := []) mf_X12_fearing lk_X12_425 mv_X12_fearing kdM_0 (by decide) rfl (Nat.le_of_ble_eq_true rfl) rfl dX12_statement_74 (met_M_fearing _ _ _ _ _ hk.wd hm e76) (fun hm => ?_)
            refine g_goto hk dX12_statement_77 ?_
            exact g_return hk dX12_statement_230 (by cases h; rfl)
        · refine g_aload_n hk 0 rfl dX12_statement_56 ?_
          obtain ⟨r78, e79, h⟩ := zbind h
          refine g_callVv hk (st := []) mf_X12_guesting lk_X12_422 mv_X12_guesting kdM_0 (by decide) rfl (Nat.le_of_ble_eq_true rfl) rfl dX12_statement_57 (met_M_guesting _ _ _ _ _ hk.wd hm e79) (fun hm => ?_)
          refine g_goto hk dX12_statement_60 ?_
          exact g_return hk dX12_statement_230 (by cases h; rfl)
      · refine g_aload_n hk 0 rfl dX12_statement_39 ?_
        obtain ⟨r81, e82, h⟩ := zbind h
        refine g_callVv hk (st := []) mf_X12_tasting lk_X12_419 mv_X12_tasting kdM_0 (by decide) rfl (Nat.le_of_ble_eq_true rfl) rfl dX12_statement_40 (met_M_tasting _ _ _ _ _ hk.wd hm e82) (fun hm => ?_)
        refine g_goto hk dX12_statement_43 ?_
        exact g_return hk dX12_statement_230 (by cases h; rfl)
    · refine g_aload_n hk 0 rfl dX12_statement_22 ?_
      obtain ⟨r84, e85, h⟩ := zbind h
      refine g_callVv hk (st := []) mf_X12_beasting lk_X12_416 mv_X12_beasting kdM_0 (by decide) rfl (Nat.le_of_ble_eq_true rfl) rfl dX12_statement_23 (met_M_beasting _ _ _ _ _ hk.wd hm e85) (fun hm => ?_)
      refine g_goto hk dX12_statement_26 ?_
      exact g_return hk dX12_statement_230 (by cases h; rfl)
theorem met_M_statement (l : Launch) (D : va_G) (aC : Nat → ClassId) (B N : Nat) (hwd : ∀ id, (kdM id).1 ≠ 9 → id < N) {m : zM} {o : zM} (hm : zG kdM m)  (h : M_statement m = some o) : zMet l yX12_statement cX12_statement 1 none 6 D aC B kdM N [.ref (B + 0)] m (9, 0, o) := by
  refine zMet.of mf_X12_statement hwd hm (Nat.le_of_ble_eq_true rfl) (fun K e1 e2 e3 e4 e5 hk => ?_)
  subst e4
  exact w_M_statement hk hm  h
set_option maxRecDepth 100000 in
set_option maxHeartbeats 4000000 in
theorem w_M_finishes_B17 {K : zK} (hk : zOk K kdM cX12_finishes 3 none RX12 3) {k53 : Int → Int → zM → Option (zM)} {rec : Int → Int → zM → Option (zM)} {x1 : Int} {x2 : Int} {m : zM} {o : zM} (hk53 : ∀ (x1 : Int) (x2 : Int) (m : zM), zG kdM m → cI x1 → cI x2 → k53 x1 x2 m = some o → GoAt K m [(0, .ref (kB K + 0)), (1, mI x1), (2, mI x2)] [] 53 (9, 0, o)) (hrec : ∀ (x1 : Int) (x2 : Int) (m : zM), zG kdM m → cI x1 → cI x2 → rec x1 x2 m = some o → GoAt K m [(0, .ref (kB K + 0)), (1, mI x1), (2, mI x2)] [] 17 (9, 0, o)) (hm : zG kdM m) (cx1 : cI x1) (cx2 : cI x2) (h : M_finishes_B17 k53 rec x1 x2 m = some o) : GoAt K m [(0, .ref (kB K + 0)), (1, mI x1), (2, mI x2)] [] 17 (9, 0, o) := by
  unfold M_finishes_B17 at h
  refine g_iload_n hk 2 rfl dX12_finishes_17 ?_
  refine g_aload_n hk 0 rfl dX12_finishes_18 ?_
  have g1 := zGI (i := 2) hm kdM_0 rfl
  refine g_get0 hk fl_X12_17 rfl (j := 2) rfl kdM_0 dX12_finishes_19 ?_
  refine g_icmp_ge hk cx2 g1 dX12_finishes_22 h (fun b2 h => ?_) (fun b2 h => ?_)
  · refine g_aload_n hk 0 rfl dX12_finishes_25 ?_
    refine g_get2 hk fl_X12_7 rfl kdM_0 hm (b := 1) rfl dX12_finishes_26 ?_
    refine g_iload_n hk 2 rfl dX12_finishes_29 ?_
    refine g_iald hk cx2 kdM_1 hm dX12_finishes_30 h (fun y3 cy3 h => ?_)
    refine g_bipush hk (v := 32) rfl dX12_finishes_31 ?_
    refine g_icmp_eq hk cy3 (cIk rfl) dX12_finishes_33 h (fun b4 h => ?_) (fun b4 h => ?_)
    · refine g_iinc hk (lv' := [(2, mI (wI (x2 + 1))), (0, .ref (kB K + 0)), (1, mI x1)]) 2 rfl (Nat.le_of_ble_eq_true rfl) rfl dX12_finishes_47 ?_
      refine g_goto hk dX12_finishes_50 ?_
      refine GoAt.sub [1, 2, 0] rfl ?_
      exact hrec _ _ _ hm cx1 (wI_c _) h
    · refine g_aload_n hk 0 rfl dX12_finishes_36 ?_
      refine g_get2 hk fl_X12_7 rfl kdM_0 hm (b := 1) rfl dX12_finishes_37 ?_
      refine g_iload_n hk 2 rfl dX12_finishes_40 ?_
      refine g_iald hk cx2 kdM_1 hm dX12_finishes_41 h (fun y5 cy5 h => ?_)
      refine g_bipush hk (v := 10) rfl dX12_finishes_42 ?_
      refine g_icmp_ne hk cy5 (cIk rfl) dX12_finishes_44 h (fun b6 h => ?_) (fun b6 h => ?_)
      · refine g_iinc hk (lv' := [(2, mI (wI (x2 + 1))), (0, .ref (kB K + 0)), (1, mI x1)]) 2 rfl (Nat.le_of_ble_eq_true rfl) rfl dX12_finishes_47 ?_
        refine g_goto hk dX12_finishes_50 ?_
        refine GoAt.sub [1, 2, 0] rfl ?_
        exact hrec _ _ _ hm cx1 (wI_c _) h
      · exact hk53 _ _ _ hm cx1 cx2 h
  · exact hk53 _ _ _ hm cx1 cx2 h
theorem w_M_finishes_L17 {K : zK} (hk : zOk K kdM cX12_finishes 3 none RX12 3) {k53 : Int → Int → zM → Option (zM)} {o : zM} (hk53 : ∀ (x1 : Int) (x2 : Int) (m : zM), zG kdM m → cI x1 → cI x2 → k53 x1 x2 m = some o → GoAt K m [(0, .ref (kB K + 0)), (1, mI x1), (2, mI x2)] [] 53 (9, 0, o)) : ∀ (n : Nat) (x1 : Int) (x2 : Int) (m : zM), zG kdM m → cI x1 → cI x2 → M_finishes_L17 k53 n x1 x2 m = some o → GoAt K m [(0, .ref (kB K + 0)), (1, mI x1), (2, mI x2)] [] 17 (9, 0, o)
  | 0, x1, x2, m, hm, cx1, cx2, h => by cases h
  | n + 1, x1, x2, m, hm, cx1, cx2, h => w_M_finishes_B17 hk hk53 (w_M_finishes_L17 hk hk53 n) hm cx1 cx2 h
set_option maxRecDepth 100000 in
set_option maxHeartbeats 4000000 in
theorem w_M_finishes_b53 {K : zK} (hk : zOk K kdM cX12_finishes 3 none RX12 3)  {x1 : Int} {x2 : Int} {m : zM} {o : zM}  (hm : zG kdM m) (cx1 : cI x1) (cx2 : cI x2) (h : M_finishes_b53 x1 x2 m = some o) : GoAt K m [(0, .ref (kB K + 0)), (1, mI x1), (2, mI x2)] [] 53 (9, 0, o) := by
  unfold M_finishes_b53 at h
  refine g_aload_n hk 0 rfl dX12_finishes_53 ?_
  refine g_bipush hk (v := 59) rfl dX12_finishes_54 ?_
  obtain ⟨r1, e2, h⟩ := zbind h
  refine g_callVz hk (st := []) mf_X12_isSign lk_X12_271 mv_X12_isSign kdM_0 (by decide) rfl (Nat.le_of_ble_eq_true rfl) rfl dX12_finishes_56 (met_M_isSign _ _ _ _ _ hk.wd hm (cIk rfl) e2) (fun hm c3 => ?_)
  refine g_if_eq hk (b01 c3) dX12_finishes_59 h (fun b4 h => ?_) (fun b4 h => ?_)
  · refine g_aload_n hk 0 rfl dX12_finishes_83 ?_
    refine g_bipush hk (v := 59) rfl dX12_finishes_84 ?_
    obtain ⟨r5, e6, h⟩ := zbind h
    refine g_callVv hk (st := []) mf_X12_must lk_X12_435 mv_X12_must kdM_0 (by decide) rfl (Nat.le_of_ble_eq_true rfl) rfl dX12_finishes_86 (met_M_must _ _ _ _ _ hk.wd hm (cIk rfl) e6) (fun hm => ?_)
    exact g_return hk dX12_finishes_89 (by cases h; rfl)
  · refine g_iload_n hk 1 rfl dX12_finishes_62 ?_
    refine g_bipush hk (v := 80) rfl dX12_finishes_63 ?_
    refine g_icmp_ne hk cx1 (cIk rfl) dX12_finishes_65 h (fun b8 h => ?_) (fun b8 h => ?_)
    · refine g_iload_n hk 2 rfl dX12_finishes_68 ?_
      refine g_aload_n hk 0 rfl dX12_finishes_69 ?_
      have g9 := zGI (i := 2) hm kdM_0 rfl
      refine g_get0 hk fl_X12_17 rfl (j := 2) rfl kdM_0 dX12_finishes_70 ?_
      refine g_icmp_ge hk cx2 g9 dX12_finishes_73 h (fun b10 h => ?_) (fun b10 h => ?_)
      · refine g_aload_n hk 0 rfl dX12_finishes_76 ?_
        refine g_bipush hk (v := 6) rfl dX12_finishes_77 ?_
        refine g_iload_n hk 2 rfl dX12_finishes_79 ?_
        obtain ⟨r11, e12, h⟩ := zbind h
        refine g_callVv hk (st := []) mf_X12_blame lk_X12_257 mv_X12_blame kdM_0 (by decide) rfl (Nat.le_of_ble_eq_true rfl) rfl dX12_finishes_80 (met_M_blame _ _ _ _ _ hk.wd hm (cIk rfl) cx2 e12) (fun hm => ?_)
        refine g_aload_n hk 0 rfl dX12_finishes_83 ?_
        refine g_bipush hk (v := 59) rfl dX12_finishes_84 ?_
        obtain ⟨r14, e15, h⟩ := zbind h
        refine g_callVv hk (st := []) mf_X12_must lk_X12_435 mv_X12_must kdM_0 (by decide) rfl (Nat.le_of_ble_eq_true rfl) rfl dX12_finishes_86 (met_M_must _ _ _ _ _ hk.wd hm (cIk rfl) e15) (fun hm => ?_)
        exact g_return hk dX12_finishes_89 (by cases h; rfl)
      · refine g_aload_n hk 0 rfl dX12_finishes_83 ?_
        refine g_bipush hk (v := 59) rfl dX12_finishes_84 ?_
        obtain ⟨r17, e18, h⟩ := zbind h
        refine g_callVv hk (st := []) mf_X12_must lk_X12_435 mv_X12_must kdM_0 (by decide) rfl (Nat.le_of_ble_eq_true rfl) rfl dX12_finishes_86 (met_M_must _ _ _ _ _ hk.wd hm (cIk rfl) e18) (fun hm => ?_)
        exact g_return hk dX12_finishes_89 (by cases h; rfl)
    · refine g_aload_n hk 0 rfl dX12_finishes_83 ?_
      refine g_bipush hk (v := 59) rfl dX12_finishes_84 ?_
      obtain ⟨r20, e21, h⟩ := zbind h
      refine g_callVv hk (st := []) mf_X12_must lk_X12_435 mv_X12_must kdM_0 (by decide) rfl (Nat.le_of_ble_eq_true rfl) rfl dX12_finishes_86 (met_M_must _ _ _ _ _ hk.wd hm (cIk rfl) e21) (fun hm => ?_)
      exact g_return hk dX12_finishes_89 (by cases h; rfl)
set_option maxRecDepth 100000 in
set_option maxHeartbeats 4000000 in
theorem w_M_finishes {K : zK} (hk : zOk K kdM cX12_finishes 3 none RX12 3)  {x1 : Int} {m : zM} {o : zM}  (hm : zG kdM m) (cx1 : cI x1) (h : M_finishes x1 m = some o) : GoAt K m [(0, .ref (kB K + 0)), (1, mI x1)] [] 0 (9, 0, o) := by
  unfold M_finishes at h
  refine g_aload_n hk 0 rfl dX12_finishes_0 ?_
  obtain ⟨r1, e2, h⟩ := zbind h
  refine g_callVv hk (st := []) mf_X12_lex lk_X12_268 mv_X12_lex kdM_0 (by decide) rfl (Nat.le_of_ble_eq_true rfl) rfl dX12_finishes_1 (met_M_lex _ _ _ _ _ hk.wd hm e2) (fun hm => ?_)
  refine g_aload_n hk 0 rfl dX12_finishes_4 ?_
  have g4 := zGI (i := 8) hm kdM_0 rfl
  refine g_get0 hk fl_X12_36 rfl (j := 8) rfl kdM_0 dX12_finishes_5 ?_
  refine g_if_le hk g4 dX12_finishes_8 h (fun b5 h => ?_) (fun b5 h => ?_)
  · exact g_return hk dX12_finishes_11 (by cases h; rfl)
  · refine g_aload_n hk 0 rfl dX12_finishes_12 ?_
    have g6 := zGI (i := 5) hm kdM_0 rfl
    refine g_get0 hk fl_X12_26 rfl (j := 5) rfl kdM_0 dX12_finishes_13 ?_
    refine g_istore_n hk rfl (lv' := [(2, mI (r1 0 5)), (0, .ref (kB K + 0)), (1, mI x1)]) (Nat.le_of_ble_eq_true rfl) rfl dX12_finishes_16 ?_
    refine GoAt.sub [1, 2, 0] rfl ?_
    refine w_M_finishes_L17 hk (fun x1_7 x2_7 m8 hm cx1_7 cx2_7 h => ?_) 1000000 _ _ _ hm cx1 g6 h
    · exact w_M_finishes_b53 hk hm cx1_7 cx2_7 h
theorem met_M_finishes (l : Launch) (D : va_G) (aC : Nat → ClassId) (B N : Nat) (hwd : ∀ id, (kdM id).1 ≠ 9 → id < N) {x1 : Int} {m : zM} {o : zM} (hm : zG kdM m) (cx1 : cI x1) (h : M_finishes x1 m = some o) : zMet l yX12_finishes cX12_finishes 3 none 3 D aC B kdM N [.ref (B + 0), mI x1] m (9, 0, o) := by
  refine zMet.of mf_X12_finishes hwd hm (Nat.le_of_ble_eq_true rfl) (fun K e1 e2 e3 e4 e5 hk => ?_)
  subst e4
  exact w_M_finishes hk hm cx1 h
set_option maxRecDepth 100000 in
set_option maxHeartbeats 4000000 in
theorem w_M_dawns_B2 {K : zK} (hk : zOk K kdM cX12_dawns 3 none RX12 0) {k38 : Int → zM → Option (zM)} {rec : Int → Int → zM → Option (zM)} {x1 : Int} {x2 : Int} {m : zM} {o : zM} (hk38 : ∀ (x1 : Int) (m : zM), zG kdM m → cI x1 → k38 x1 m = some o → GoAt K m [(0, .ref (kB K + 0)), (1, mI x1)] [] 38 (9, 0, o)) (hrec : ∀ (x1 : Int) (x2 : Int) (m : zM), zG kdM m → cI x1 → cI x2 → rec x1 x2 m = some o → GoAt K m [(0, .ref (kB K + 0)), (1, mI x1), (2, mI x2)] [] 2 (9, 0, o)) (hm : zG kdM m) (cx1 : cI x1) (cx2 : cI x2) (h : M_dawns_B2 k38 rec x1 x2 m = some o) : GoAt K m [(0, .ref (kB K + 0)), (1, mI x1), (2, mI x2)] [] 2 (9, 0, o) := by
  unfold M_dawns_B2 at h
  refine g_iload_n hk 2 rfl dX12_dawns_2 ?_
  refine g_bipush hk (v := 8) rfl dX12_dawns_3 ?_
  refine g_icmp_ge hk cx2 (cIk rfl) dX12_dawns_5 h (fun b1 h => ?_) (fun b1 h => ?_)
  · refine g_aload_n hk 0 rfl dX12_dawns_8 ?_
    refine g_get2 hk fl_X12_162 rfl kdM_0 hm (b := 30) rfl dX12_dawns_9 ?_
    refine g_bipush hk (v := 8) rfl dX12_dawns_12 ?_
    refine g_iload_n hk 1 rfl dX12_dawns_14 ?_
    refine g_imul hk dX12_dawns_15 ?_
    refine g_iload_n hk 2 rfl dX12_dawns_16 ?_
    refine g_iadd hk dX12_dawns_17 ?_
    refine g_iconst hk (v := (-1)) rfl dX12_dawns_18 ?_
    refine g_iast hk (wI_c _) (cIk rfl) kdM_30 hm dX12_dawns_19 h (fun m2 hm h => ?_)
    refine g_aload_n hk 0 rfl dX12_dawns_20 ?_
    refine g_get2 hk fl_X12_165 rfl kdM_0 hm (b := 31) rfl dX12_dawns_21 ?_
    refine g_bipush hk (v := 8) rfl dX12_dawns_24 ?_
    refine g_iload_n hk 1 rfl dX12_dawns_26 ?_
    refine g_imul hk dX12_dawns_27 ?_
    refine g_iload_n hk 2 rfl dX12_dawns_28 ?_
    refine g_iadd hk dX12_dawns_29 ?_
    refine g_iconst hk (v := 0) rfl dX12_dawns_30 ?_
    refine g_iast hk (wI_c _) (cIk rfl) kdM_31 hm dX12_dawns_31 h (fun m3 hm h => ?_)
    refine g_iinc hk (lv' := [(2, mI (wI (x2 + 1))), (0, .ref (kB K + 0)), (1, mI x1)]) 2 rfl (Nat.le_of_ble_eq_true rfl) rfl dX12_dawns_32 ?_
    refine g_goto hk dX12_dawns_35 ?_
    refine GoAt.sub [1, 2, 0] rfl ?_
    exact hrec _ _ _ hm cx1 (wI_c _) h
  · refine GoAt.sub [0, 1] rfl ?_
    exact hk38 _ _ hm cx1 h
theorem w_M_dawns_L2 {K : zK} (hk : zOk K kdM cX12_dawns 3 none RX12 0) {k38 : Int → zM → Option (zM)} {o : zM} (hk38 : ∀ (x1 : Int) (m : zM), zG kdM m → cI x1 → k38 x1 m = some o → GoAt K m [(0, .ref (kB K + 0)), (1, mI x1)] [] 38 (9, 0, o)) : ∀ (n : Nat) (x1 : Int) (x2 : Int) (m : zM), zG kdM m → cI x1 → cI x2 → M_dawns_L2 k38 n x1 x2 m = some o → GoAt K m [(0, .ref (kB K + 0)), (1, mI x1), (2, mI x2)] [] 2 (9, 0, o)
  | 0, x1, x2, m, hm, cx1, cx2, h => by cases h
  | n + 1, x1, x2, m, hm, cx1, cx2, h => w_M_dawns_B2 hk hk38 (w_M_dawns_L2 hk hk38 n) hm cx1 cx2 h
set_option maxRecDepth 100000 in
set_option maxHeartbeats 4000000 in
theorem w_M_dawns_B40 {K : zK} (hk : zOk K kdM cX12_dawns 3 none RX12 0) {rec : Int → Int → zM → Option (zM)} {x1 : Int} {x2 : Int} {m : zM} {o : zM} (hrec : ∀ (x1 : Int) (x2 : Int) (m : zM), zG kdM m → cI x1 → cI x2 → rec x1 x2 m = some o → GoAt K m [(0, .ref (kB K + 0)), (1, mI x1), (2, mI x2)] [] 40 (9, 0, o)) (hm : zG kdM m) (cx1 : cI x1) (cx2 : cI x2) (h : M_dawns_B40 rec x1 x2 m = some o) : GoAt K m [(0, .ref (kB K + 0)), (1, mI x1), (2, mI x2)] [] 40 (9, 0, o) := by
  unfold M_dawns_B40 at h
  refine g_iload_n hk 2 rfl dX12_dawns_40 ?_
  refine g_bipush hk (v := 48) rfl dX12_dawns_41 ?_
  refine g_icmp_ge hk cx2 (cIk rfl) dX12_dawns_43 h (fun b1 h => ?_) (fun b1 h => ?_)
  · refine g_aload_n hk 0 rfl dX12_dawns_46 ?_
    refine g_get2 hk fl_X12_174 rfl kdM_0 hm (b := 34) rfl dX12_dawns_47 ?_
    refine g_bipush hk (v := 48) rfl dX12_dawns_50 ?_
    refine g_iload_n hk 1 rfl dX12_dawns_52 ?_
    refine g_imul hk dX12_dawns_53 ?_
    refine g_iload_n hk 2 rfl dX12_dawns_54 ?_
    refine g_iadd hk dX12_dawns_55 ?_
    refine g_iconst hk (v := 0) rfl dX12_dawns_56 ?_
    refine g_iast hk (wI_c _) (cIk rfl) kdM_34 hm dX12_dawns_57 h (fun m2 hm h => ?_)
    refine g_iinc hk (lv' := [(2, mI (wI (x2 + 1))), (0, .ref (kB K + 0)), (1, mI x1)]) 2 rfl (Nat.le_of_ble_eq_true rfl) rfl dX12_dawns_58 ?_
    refine g_goto hk dX12_dawns_61 ?_
    refine GoAt.sub [1, 2, 0] rfl ?_
    exact hrec _ _ _ hm cx1 (wI_c _) h
  · exact g_return hk dX12_dawns_64 (by cases h; rfl)
theorem w_M_dawns_L40 {K : zK} (hk : zOk K kdM cX12_dawns 3 none RX12 0)  {o : zM}  : ∀ (n : Nat) (x1 : Int) (x2 : Int) (m : zM), zG kdM m → cI x1 → cI x2 → M_dawns_L40 n x1 x2 m = some o → GoAt K m [(0, .ref (kB K + 0)), (1, mI x1), (2, mI x2)] [] 40 (9, 0, o)
  | 0, x1, x2, m, hm, cx1, cx2, h => by cases h
  | n + 1, x1, x2, m, hm, cx1, cx2, h => w_M_dawns_B40 hk  (w_M_dawns_L40 hk  n) hm cx1 cx2 h
set_option maxRecDepth 100000 in
set_option maxHeartbeats 4000000 in
theorem w_M_dawns {K : zK} (hk : zOk K kdM cX12_dawns 3 none RX12 0)  {x1 : Int} {m : zM} {o : zM}  (hm : zG kdM m) (cx1 : cI x1) (h : M_dawns x1 m = some o) : GoAt K m [(0, .ref (kB K + 0)), (1, mI x1)] [] 0 (9, 0, o) := by
  unfold M_dawns at h
  refine g_iconst hk (v := 0) rfl dX12_dawns_0 ?_
  refine g_istore_n hk rfl (lv' := [(2, mI 0), (0, .ref (kB K + 0)), (1, mI x1)]) (Nat.le_of_ble_eq_true rfl) rfl dX12_dawns_1 ?_
  refine GoAt.sub [1, 2, 0] rfl ?_
  refine w_M_dawns_L2 hk (fun x1_1 m2 hm cx1_1 h => ?_) 1000000 _ _ _ hm cx1 (cIk rfl) h
  · refine g_iconst hk (v := 0) rfl dX12_dawns_38 ?_
    refine g_istore_n hk rfl (lv' := [(2, mI 0), (0, .ref (kB K + 0)), (1, mI x1_1)]) (Nat.le_of_ble_eq_true rfl) rfl dX12_dawns_39 ?_
    refine GoAt.sub [1, 2, 0] rfl ?_
    refine w_M_dawns_L40 hk  1000000 _ _ _ hm cx1_1 (cIk rfl) h
theorem met_M_dawns (l : Launch) (D : va_G) (aC : Nat → ClassId) (B N : Nat) (hwd : ∀ id, (kdM id).1 ≠ 9 → id < N) {x1 : Int} {m : zM} {o : zM} (hm : zG kdM m) (cx1 : cI x1) (h : M_dawns x1 m = some o) : zMet l yX12_dawns cX12_dawns 3 none 0 D aC B kdM N [.ref (B + 0), mI x1] m (9, 0, o) := by
  refine zMet.of mf_X12_dawns hwd hm (Nat.le_of_ble_eq_true rfl) (fun K e1 e2 e3 e4 e5 hk => ?_)
  subst e4
  exact w_M_dawns hk hm cx1 h
set_option maxRecDepth 100000 in
set_option maxHeartbeats 4000000 in
theorem w_M_begin_B16 {K : zK} (hk : zOk K kdM cX12_begin 2 none RX12 1) {k48 : zM → Option (zM)} {rec : Int → zM → Option (zM)} {x1 : Int} {m : zM} {o : zM} (hk48 : ∀  (m : zM), zG kdM m → k48 m = some o → GoAt K m [(0, .ref (kB K + 0))] [] 48 (9, 0, o)) (hrec : ∀ (x1 : Int) (m : zM), zG kdM m → cI x1 → rec x1 m = some o → GoAt K m [(0, .ref (kB K + 0)), (1, mI x1)] [] 16 (9, 0, o)) (hm : zG kdM m) (cx1 : cI x1) (h : M_begin_B16 k48 rec x1 m = some o) : GoAt K m [(0, .ref (kB K + 0)), (1, mI x1)] [] 16 (9, 0, o) := by
  unfold M_begin_B16 at h
  refine g_iload_n hk 1 rfl dX12_begin_16 ?_
  refine g_bipush hk (v := 24) rfl dX12_begin_17 ?_
  refine g_icmp_ge hk cx1 (cIk rfl) dX12_begin_19 h (fun b1 h => ?_) (fun b1 h => ?_)
  · refine g_aload_n hk 0 rfl dX12_begin_22 ?_
    refine g_get2 hk fl_X12_159 rfl kdM_0 hm (b := 29) rfl dX12_begin_23 ?_
    refine g_iload_n hk 1 rfl dX12_begin_26 ?_
    refine g_aload_n hk 0 rfl dX12_begin_27 ?_
    refine g_get2 hk fl_X12_72 rfl kdM_0 hm (b := 8) rfl dX12_begin_28 ?_
    refine g_bipush hk (v := 24) rfl dX12_begin_31 ?_
    refine g_aload_n hk 0 rfl dX12_begin_33 ?_
    have g2 := zGI (i := 13) hm kdM_0 rfl
    refine g_get0 hk fl_X12_51 rfl (j := 13) rfl kdM_0 dX12_begin_34 ?_
    refine g_imul hk dX12_begin_37 ?_
    refine g_iload_n hk 1 rfl dX12_begin_38 ?_
    refine g_iadd hk dX12_begin_39 ?_
    refine g_iald hk (wI_c _) kdM_8 hm dX12_begin_40 h (fun y3 cy3 h => ?_)
    refine g_iast hk cx1 cy3 kdM_29 hm dX12_begin_41 h (fun m4 hm h => ?_)
    refine g_iinc hk (lv' := [(1, mI (wI (x1 + 1))), (0, .ref (kB K + 0))]) 1 rfl (Nat.le_of_ble_eq_true rfl) rfl dX12_begin_42 ?_
    refine g_goto hk dX12_begin_45 ?_
    refine GoAt.sub [1, 0] rfl ?_
    exact hrec _ _ hm (wI_c _) h
  · refine GoAt.sub [0] rfl ?_
    exact hk48 _ hm h
theorem w_M_begin_L16 {K : zK} (hk : zOk K kdM cX12_begin 2 none RX12 1) {k48 : zM → Option (zM)} {o : zM} (hk48 : ∀  (m : zM), zG kdM m → k48 m = some o → GoAt K m [(0, .ref (kB K + 0))] [] 48 (9, 0, o)) : ∀ (n : Nat) (x1 : Int) (m : zM), zG kdM m → cI x1 → M_begin_L16 k48 n x1 m = some o → GoAt K m [(0, .ref (kB K + 0)), (1, mI x1)] [] 16 (9, 0, o)
  | 0, x1, m, hm, cx1, h => by cases h
  | n + 1, x1, m, hm, cx1, h => w_M_begin_B16 hk hk48 (w_M_begin_L16 hk hk48 n) hm cx1 h
set_option maxRecDepth 100000 in
set_option maxHeartbeats 4000000 in
theorem w_M_begin_B50 {K : zK} (hk : zOk K kdM cX12_begin 2 none RX12 1) {k82 : zM → Option (zM)} {rec : Int → zM → Option (zM)} {x1 : Int} {m : zM} {o : zM} (hk82 : ∀  (m : zM), zG kdM m → k82 m = some o → GoAt K m [(0, .ref (kB K + 0))] [] 82 (9, 0, o)) (hrec : ∀ (x1 : Int) (m : zM), zG kdM m → cI x1 → rec x1 m = some o → GoAt K m [(0, .ref (kB K + 0)), (1, mI x1)] [] 50 (9, 0, o)) (hm : zG kdM m) (cx1 : cI x1) (h : M_begin_B50 k82 rec x1 m = some o) : GoAt K m [(0, .ref (kB K + 0)), (1, mI x1)] [] 50 (9, 0, o) := by
  unfold M_begin_B50 at h
  refine g_iload_n hk 1 rfl dX12_begin_50 ?_
  refine g_bipush hk (v := 18) rfl dX12_begin_51 ?_
  refine g_icmp_ge hk cx1 (cIk rfl) dX12_begin_53 h (fun b1 h => ?_) (fun b1 h => ?_)
  · refine g_aload_n hk 0 rfl dX12_begin_56 ?_
    refine g_get2 hk fl_X12_168 rfl kdM_0 hm (b := 32) rfl dX12_begin_57 ?_
    refine g_iload_n hk 1 rfl dX12_begin_60 ?_
    refine g_aload_n hk 0 rfl dX12_begin_61 ?_
    refine g_get2 hk fl_X12_66 rfl kdM_0 hm (b := 6) rfl dX12_begin_62 ?_
    refine g_bipush hk (v := 18) rfl dX12_begin_65 ?_
    refine g_aload_n hk 0 rfl dX12_begin_67 ?_
    have g2 := zGI (i := 13) hm kdM_0 rfl
    refine g_get0 hk fl_X12_51 rfl (j := 13) rfl kdM_0 dX12_begin_68 ?_
    refine g_imul hk dX12_begin_71 ?_
    refine g_iload_n hk 1 rfl dX12_begin_72 ?_
    refine g_iadd hk dX12_begin_73 ?_
    refine g_iald hk (wI_c _) kdM_6 hm dX12_begin_74 h (fun y3 cy3 h => ?_)
    refine g_iast hk cx1 cy3 kdM_32 hm dX12_begin_75 h (fun m4 hm h => ?_)
    refine g_iinc hk (lv' := [(1, mI (wI (x1 + 1))), (0, .ref (kB K + 0))]) 1 rfl (Nat.le_of_ble_eq_true rfl) rfl dX12_begin_76 ?_
    refine g_goto hk dX12_begin_79 ?_
    refine GoAt.sub [1, 0] rfl ?_
    exact hrec _ _ hm (wI_c _) h
  · refine GoAt.sub [0] rfl ?_
    exact hk82 _ hm h
theorem w_M_begin_L50 {K : zK} (hk : zOk K kdM cX12_begin 2 none RX12 1) {k82 : zM → Option (zM)} {o : zM} (hk82 : ∀  (m : zM), zG kdM m → k82 m = some o → GoAt K m [(0, .ref (kB K + 0))] [] 82 (9, 0, o)) : ∀ (n : Nat) (x1 : Int) (m : zM), zG kdM m → cI x1 → M_begin_L50 k82 n x1 m = some o → GoAt K m [(0, .ref (kB K + 0)), (1, mI x1)] [] 50 (9, 0, o)
  | 0, x1, m, hm, cx1, h => by cases h
  | n + 1, x1, m, hm, cx1, h => w_M_begin_B50 hk hk82 (w_M_begin_L50 hk hk82 n) hm cx1 h
set_option maxRecDepth 100000 in
set_option maxHeartbeats 4000000 in
theorem w_M_begin_B84 {K : zK} (hk : zOk K kdM cX12_begin 2 none RX12 1) {k103 : zM → Option (zM)} {rec : Int → zM → Option (zM)} {x1 : Int} {m : zM} {o : zM} (hk103 : ∀  (m : zM), zG kdM m → k103 m = some o → GoAt K m [(0, .ref (kB K + 0))] [] 103 (9, 0, o)) (hrec : ∀ (x1 : Int) (m : zM), zG kdM m → cI x1 → rec x1 m = some o → GoAt K m [(0, .ref (kB K + 0)), (1, mI x1)] [] 84 (9, 0, o)) (hm : zG kdM m) (cx1 : cI x1) (h : M_begin_B84 k103 rec x1 m = some o) : GoAt K m [(0, .ref (kB K + 0)), (1, mI x1)] [] 84 (9, 0, o) := by
  unfold M_begin_B84 at h
  refine g_iload_n hk 1 rfl dX12_begin_84 ?_
  refine g_bipush hk (v := 48) rfl dX12_begin_85 ?_
  refine g_icmp_ge hk cx1 (cIk rfl) dX12_begin_87 h (fun b1 h => ?_) (fun b1 h => ?_)
  · refine g_aload_n hk 0 rfl dX12_begin_90 ?_
    refine g_get2 hk fl_X12_171 rfl kdM_0 hm (b := 33) rfl dX12_begin_91 ?_
    refine g_iload_n hk 1 rfl dX12_begin_94 ?_
    refine g_iconst hk (v := 0) rfl dX12_begin_95 ?_
    refine g_iast hk cx1 (cIk rfl) kdM_33 hm dX12_begin_96 h (fun m2 hm h => ?_)
    refine g_iinc hk (lv' := [(1, mI (wI (x1 + 1))), (0, .ref (kB K + 0))]) 1 rfl (Nat.le_of_ble_eq_true rfl) rfl dX12_begin_97 ?_
    refine g_goto hk dX12_begin_100 ?_
    refine GoAt.sub [1, 0] rfl ?_
    exact hrec _ _ hm (wI_c _) h
  · refine GoAt.sub [0] rfl ?_
    exact hk103 _ hm h
theorem w_M_begin_L84 {K : zK} (hk : zOk K kdM cX12_begin 2 none RX12 1) {k103 : zM → Option (zM)} {o : zM} (hk103 : ∀  (m : zM), zG kdM m → k103 m = some o → GoAt K m [(0, .ref (kB K + 0))] [] 103 (9, 0, o)) : ∀ (n : Nat) (x1 : Int) (m : zM), zG kdM m → cI x1 → M_begin_L84 k103 n x1 m = some o → GoAt K m [(0, .ref (kB K + 0)), (1, mI x1)] [] 84 (9, 0, o)
  | 0, x1, m, hm, cx1, h => by cases h
  | n + 1, x1, m, hm, cx1, h => w_M_begin_B84 hk hk103 (w_M_begin_L84 hk hk103 n) hm cx1 h
set_option maxRecDepth 100000 in
set_option maxHeartbeats 4000000 in
theorem w_M_begin {K : zK} (hk : zOk K kdM cX12_begin 2 none RX12 1)  {m : zM} {o : zM}  (hm : zG kdM m)  (h : M_begin m = some o) : GoAt K m [(0, .ref (kB K + 0))] [] 0 (9, 0, o) := by
  unfold M_begin at h
  refine g_aload_n hk 0 rfl dX12_begin_0 ?_
  refine g_get2 hk fl_X12_153 rfl kdM_0 hm (b := 27) rfl dX12_begin_1 ?_
  refine g_iconst hk (v := 0) rfl dX12_begin_4 ?_
  refine g_iconst hk (v := 0) rfl dX12_begin_5 ?_
  refine g_iast hk (cIk rfl) (cIk rfl) kdM_27 hm dX12_begin_6 h (fun m1 hm h => ?_)
  refine g_aload_n hk 0 rfl dX12_begin_7 ?_
  refine g_get2 hk fl_X12_156 rfl kdM_0 hm (b := 28) rfl dX12_begin_8 ?_
  refine g_iconst hk (v := 0) rfl dX12_begin_11 ?_
  refine g_iconst hk (v := 0) rfl dX12_begin_12 ?_
  refine g_iast hk (cIk rfl) (cIk rfl) kdM_28 hm dX12_begin_13 h (fun m2 hm h => ?_)
  refine g_iconst hk (v := 0) rfl dX12_begin_14 ?_
  refine g_istore_n hk rfl (lv' := [(1, mI 0), (0, .ref (kB K + 0))]) (Nat.le_of_ble_eq_true rfl) rfl dX12_begin_15 ?_
  refine GoAt.sub [1, 0] rfl ?_
  refine w_M_begin_L16 hk (fun m4 hm h => ?_) 1000000 _ _ hm (cIk rfl) h
  · refine g_iconst hk (v := 0) rfl dX12_begin_48 ?_
    refine g_istore_n hk rfl (lv' := [(1, mI 0), (0, .ref (kB K + 0))]) (Nat.le_of_ble_eq_true rfl) rfl dX12_begin_49 ?_
    refine GoAt.sub [1, 0] rfl ?_
    refine w_M_begin_L50 hk (fun m6 hm h => ?_) 1000000 _ _ hm (cIk rfl) h
    · refine g_iconst hk (v := 0) rfl dX12_begin_82 ?_
      refine g_istore_n hk rfl (lv' := [(1, mI 0), (0, .ref (kB K + 0))]) (Nat.le_of_ble_eq_true rfl) rfl dX12_begin_83 ?_
      refine GoAt.sub [1, 0] rfl ?_
      refine w_M_begin_L84 hk (fun m8 hm h => ?_) 1000000 _ _ hm (cIk rfl) h
      · refine g_aload_n hk 0 rfl dX12_begin_103 ?_
        refine g_iconst hk (v := 0) rfl dX12_begin_104 ?_
        obtain ⟨r9, e10, h⟩ := zbind h
        refine g_callVv hk (st := []) mf_X12_dawns lk_X12_446 mv_X12_dawns kdM_0 (by decide) rfl (Nat.le_of_ble_eq_true rfl) rfl dX12_begin_105 (met_M_dawns _ _ _ _ _ hk.wd hm (cIk rfl) e10) (fun hm => ?_)
        refine g_aload_n hk 0 rfl dX12_begin_108 ?_
        refine g_get2 hk fl_X12_177 rfl kdM_0 hm (b := 35) rfl dX12_begin_109 ?_
        refine g_iconst hk (v := 0) rfl dX12_begin_112 ?_
        refine g_iconst hk (v := 0) rfl dX12_begin_113 ?_
        refine g_iast hk (cIk rfl) (cIk rfl) kdM_35 hm dX12_begin_114 h (fun m12 hm h => ?_)
        refine g_aload_n hk 0 rfl dX12_begin_115 ?_
        refine g_iconst hk (v := 0) rfl dX12_begin_116 ?_
        refine g_put0 hk fp_X12_186 rfl (j := 57) rfl kdM_0 (cIk rfl) dX12_begin_117 h hm (fun m13 hm h => ?_)
        refine g_aload_n hk 0 rfl dX12_begin_120 ?_
        refine g_iconst hk (v := 0) rfl dX12_begin_121 ?_
        refine g_put0 hk fp_X12_210 rfl (j := 65) rfl kdM_0 (cIk rfl) dX12_begin_122 h hm (fun m14 hm h => ?_)
        exact g_return hk dX12_begin_125 (by cases h; rfl)
theorem met_M_begin (l : Launch) (D : va_G) (aC : Nat → ClassId) (B N : Nat) (hwd : ∀ id, (kdM id).1 ≠ 9 → id < N) {m : zM} {o : zM} (hm : zG kdM m)  (h : M_begin m = some o) : zMet l yX12_begin cX12_begin 2 none 1 D aC B kdM N [.ref (B + 0)] m (9, 0, o) := by
  refine zMet.of mf_X12_begin hwd hm (Nat.le_of_ble_eq_true rfl) (fun K e1 e2 e3 e4 e5 hk => ?_)
  subst e4
  exact w_M_begin hk hm  h
set_option maxRecDepth 100000 in
set_option maxHeartbeats 4000000 in
theorem w_M_zoo_B103 {K : zK} (hk : zOk K kdM cX12_zoo 2 (some .int) RX12 7) {k132 : Int → zM → Option (Int × zM)} {rec : Int → zM → Option (Int × zM)} {x1 : Int} {m : zM} {o : Int × zM} (hk132 : ∀ (x1 : Int) (m : zM), zG kdM m → cI x1 → k132 x1 m = some o → GoAt K m [(0, .ref (kB K + 0)), (1, mI x1)] [] 132 (0, o.1, o.2)) (hrec : ∀ (x1 : Int) (m : zM), zG kdM m → cI x1 → rec x1 m = some o → GoAt K m [(0, .ref (kB K + 0)), (1, mI x1)] [] 103 (0, o.1, o.2)) (hm : zG kdM m) (cx1 : cI x1) (h : M_zoo_B103 k132 rec x1 m = some o) : GoAt K m [(0, .ref (kB K + 0)), (1, mI x1)] [] 103 (0, o.1, o.2) := by
  unfold M_zoo_B103 at h
  refine g_aload_n hk 0 rfl dX12_zoo_103 ?_
  have g1 := zGI (i := 8) hm kdM_0 rfl
  refine g_get0 hk fl_X12_36 rfl (j := 8) rfl kdM_0 dX12_zoo_104 ?_
  refine g_if_ne hk g1 dX12_zoo_107 h (fun b2 h => ?_) (fun b2 h => ?_)
  · refine g_aload_n hk 0 rfl dX12_zoo_110 ?_
    have g3 := zGI (i := 3) hm kdM_0 rfl
    refine g_get0 hk fl_X12_20 rfl (j := 3) rfl kdM_0 dX12_zoo_111 ?_
    refine g_if_eq hk g3 dX12_zoo_114 h (fun b4 h => ?_) (fun b4 h => ?_)
    · exact hk132 _ _ hm cx1 h
    · refine g_aload_n hk 0 rfl dX12_zoo_117 ?_
      obtain ⟨r5, e6, h⟩ := zbind h
      refine g_callVv hk (st := []) mf_X12_statement lk_X12_437 mv_X12_statement kdM_0 (by decide) rfl (Nat.le_of_ble_eq_true rfl) rfl dX12_zoo_118 (met_M_statement _ _ _ _ _ hk.wd hm e6) (fun hm => ?_)
      refine g_iinc hk (lv' := [(1, mI (wI (x1 + 1))), (0, .ref (kB K + 0))]) 1 rfl (Nat.le_of_ble_eq_true rfl) rfl dX12_zoo_121 ?_
      refine g_aload_n hk 1 rfl dX12_zoo_124 ?_
      refine g_iload_n hk 0 rfl dX12_zoo_125 ?_
      obtain ⟨r8, e9, h⟩ := zbind h
      refine g_callVv hk (st := []) mf_X12_finishes lk_X12_440 mv_X12_finishes kdM_0 (by decide) rfl (Nat.le_of_ble_eq_true rfl) rfl dX12_zoo_126 (met_M_finishes _ _ _ _ _ hk.wd hm (wI_c _) e9) (fun hm => ?_)
      refine g_goto hk dX12_zoo_129 ?_
      refine GoAt.sub [1, 0] rfl ?_
      exact hrec _ _ hm (wI_c _) h
  · exact hk132 _ _ hm cx1 h
theorem w_M_zoo_L103 {K : zK} (hk : zOk K kdM cX12_zoo 2 (some .int) RX12 7) {k132 : Int → zM → Option (Int × zM)} {o : Int × zM} (hk132 : ∀ (x1 : Int) (m : zM), zG kdM m → cI x1 → k132 x1 m = some o → GoAt K m [(0, .ref (kB K + 0)), (1, mI x1)] [] 132 (0, o.1, o.2)) : ∀ (n : Nat) (x1 : Int) (m : zM), zG kdM m → cI x1 → M_zoo_L103 k132 n x1 m = some o → GoAt K m [(0, .ref (kB K + 0)), (1, mI x1)] [] 103 (0, o.1, o.2)
  | 0, x1, m, hm, cx1, h => by cases h
  | n + 1, x1, m, hm, cx1, h => w_M_zoo_B103 hk hk132 (w_M_zoo_L103 hk hk132 n) hm cx1 h
set_option maxRecDepth 100000 in
set_option maxHeartbeats 4000000 in
theorem w_M_zoo_b132 {K : zK} (hk : zOk K kdM cX12_zoo 2 (some .int) RX12 7)  {x1 : Int} {m : zM} {o : Int × zM}  (hm : zG kdM m) (cx1 : cI x1) (h : M_zoo_b132 x1 m = some o) : GoAt K m [(0, .ref (kB K + 0)), (1, mI x1)] [] 132 (0, o.1, o.2) := by
  unfold M_zoo_b132 at h
  refine g_aload_n hk 0 rfl dX12_zoo_132 ?_
  refine g_aload_n hk 0 rfl dX12_zoo_133 ?_
  have g1 := zGI (i := 8) hm kdM_0 rfl
  refine g_get0 hk fl_X12_36 rfl (j := 8) rfl kdM_0 dX12_zoo_134 ?_
  refine g_put0 hk fp_X12_42 rfl (j := 10) rfl kdM_0 g1 dX12_zoo_137 h hm (fun m2 hm h => ?_)
  refine g_aload_n hk 0 rfl dX12_zoo_140 ?_
  refine g_aload_n hk 0 rfl dX12_zoo_141 ?_
  have g3 := zGI (i := 9) hm kdM_0 rfl
  refine g_get0 hk fl_X12_39 rfl (j := 9) rfl kdM_0 dX12_zoo_142 ?_
  refine g_put0 hk fp_X12_45 rfl (j := 11) rfl kdM_0 g3 dX12_zoo_145 h hm (fun m4 hm h => ?_)
  refine g_aload_n hk 0 rfl dX12_zoo_148 ?_
  have g5 := zGI (i := 8) hm kdM_0 rfl
  refine g_get0 hk fl_X12_36 rfl (j := 8) rfl kdM_0 dX12_zoo_149 ?_
  refine g_if_le hk g5 dX12_zoo_152 h (fun b6 h => ?_) (fun b6 h => ?_)
  · refine g_aload_n hk 0 rfl dX12_zoo_155 ?_
    refine g_iconst hk (v := 1) rfl dX12_zoo_156 ?_
    obtain ⟨r7, e8, h⟩ := zbind h
    refine g_callVi hk (st := []) mf_X12_refuses lk_X12_250 mv_X12_refuses kdM_0 (by decide) rfl (Nat.le_of_ble_eq_true rfl) rfl dX12_zoo_157 (met_M_refuses _ _ _ _ _ hk.wd hm (cIk rfl) e8) (fun hm c9 => ?_)
    exact g_ireturn hk c9 dX12_zoo_160 (by cases h; rfl)
  · refine g_aload_n hk 0 rfl dX12_zoo_161 ?_
    refine g_aload_n hk 0 rfl dX12_zoo_162 ?_
    have g10 := zGI (i := 32) hm kdM_0 rfl
    refine g_get0 hk fl_X12_109 rfl (j := 32) rfl kdM_0 dX12_zoo_163 ?_
    refine g_put0 hk fp_X12_51 rfl (j := 13) rfl kdM_0 g10 dX12_zoo_166 h hm (fun m11 hm h => ?_)
    refine g_aload_n hk 0 rfl dX12_zoo_169 ?_
    obtain ⟨r12, e13, h⟩ := zbind h
    refine g_callVv hk (st := []) mf_X12_begin lk_X12_443 mv_X12_begin kdM_0 (by decide) rfl (Nat.le_of_ble_eq_true rfl) rfl dX12_zoo_170 (met_M_begin _ _ _ _ _ hk.wd hm e13) (fun hm => ?_)
    refine g_iload_n hk 1 rfl dX12_zoo_173 ?_
    exact g_ireturn hk cx1 dX12_zoo_174 (by cases h; rfl)
set_option maxRecDepth 100000 in
set_option maxHeartbeats 4000000 in
theorem w_M_zoo {K : zK} (hk : zOk K kdM cX12_zoo 2 (some .int) RX12 7)  {m : zM} {o : Int × zM}  (hm : zG kdM m)  (h : M_zoo m = some o) : GoAt K m [(0, .ref (kB K + 0))] [] 0 (0, o.1, o.2) := by
  unfold M_zoo at h
  refine g_aload_n hk 0 rfl dX12_zoo_0 ?_
  refine g_aload_n hk 0 rfl dX12_zoo_1 ?_
  have g1 := zGI (i := 1) hm kdM_0 rfl
  refine g_get0 hk fl_X12_13 rfl (j := 1) rfl kdM_0 dX12_zoo_2 ?_
  refine g_put0 hk fp_X12_17 rfl (j := 2) rfl kdM_0 g1 dX12_zoo_5 h hm (fun m2 hm h => ?_)
  refine g_aload_n hk 0 rfl dX12_zoo_8 ?_
  refine g_iconst hk (v := 0) rfl dX12_zoo_9 ?_
  refine g_put0 hk fp_X12_13 rfl (j := 1) rfl kdM_0 (cIk rfl) dX12_zoo_10 h hm (fun m3 hm h => ?_)
  refine g_aload_n hk 0 rfl dX12_zoo_13 ?_
  refine g_iconst hk (v := 0) rfl dX12_zoo_14 ?_
  refine g_put0 hk fp_X12_26 rfl (j := 5) rfl kdM_0 (cIk rfl) dX12_zoo_15 h hm (fun m4 hm h => ?_)
  refine g_aload_n hk 0 rfl dX12_zoo_18 ?_
  refine g_iconst hk (v := 0) rfl dX12_zoo_19 ?_
  refine g_put0 hk fp_X12_36 rfl (j := 8) rfl kdM_0 (cIk rfl) dX12_zoo_20 h hm (fun m5 hm h => ?_)
  refine g_aload_n hk 0 rfl dX12_zoo_23 ?_
  refine g_iconst hk (v := (-1)) rfl dX12_zoo_24 ?_
  refine g_put0 hk fp_X12_39 rfl (j := 9) rfl kdM_0 (cIk rfl) dX12_zoo_25 h hm (fun m6 hm h => ?_)
  refine g_aload_n hk 0 rfl dX12_zoo_28 ?_
  refine g_iconst hk (v := 1) rfl dX12_zoo_29 ?_
  refine g_aload_n hk 0 rfl dX12_zoo_30 ?_
  have g7 := zGI (i := 13) hm kdM_0 rfl
  refine g_get0 hk fl_X12_51 rfl (j := 13) rfl kdM_0 dX12_zoo_31 ?_
  refine g_isub hk dX12_zoo_34 ?_
  refine g_put0 hk fp_X12_109 rfl (j := 32) rfl kdM_0 (wI_c _) dX12_zoo_35 h hm (fun m8 hm h => ?_)
  refine g_aload_n hk 0 rfl dX12_zoo_38 ?_
  refine g_get2 hk fl_X12_54 rfl kdM_0 hm (b := 2) rfl dX12_zoo_39 ?_
  refine g_aload_n hk 0 rfl dX12_zoo_42 ?_
  have g9 := zGI (i := 32) hm kdM_0 rfl
  refine g_get0 hk fl_X12_109 rfl (j := 32) rfl kdM_0 dX12_zoo_43 ?_
  refine g_iconst hk (v := 0) rfl dX12_zoo_46 ?_
  refine g_iast hk g9 (cIk rfl) kdM_2 hm dX12_zoo_47 h (fun m10 hm h => ?_)
  refine g_aload_n hk 0 rfl dX12_zoo_48 ?_
  refine g_get2 hk fl_X12_69 rfl kdM_0 hm (b := 7) rfl dX12_zoo_49 ?_
  refine g_aload_n hk 0 rfl dX12_zoo_52 ?_
  have g11 := zGI (i := 32) hm kdM_0 rfl
  refine g_get0 hk fl_X12_109 rfl (j := 32) rfl kdM_0 dX12_zoo_53 ?_
  refine g_iconst hk (v := 0) rfl dX12_zoo_56 ?_
  refine g_iast hk g11 (cIk rfl) kdM_7 hm dX12_zoo_57 h (fun m12 hm h => ?_)
  refine g_aload_n hk 0 rfl dX12_zoo_58 ?_
  refine g_aload_n hk 0 rfl dX12_zoo_59 ?_
  have g13 := zGI (i := 32) hm kdM_0 rfl
  refine g_get0 hk fl_X12_109 rfl (j := 32) rfl kdM_0 dX12_zoo_60 ?_
  obtain ⟨r14, e15, h⟩ := zbind h
  refine g_callVv hk (st := []) mf_X12_isDefault lk_X12_246 mv_X12_isDefault kdM_0 (by decide) rfl (Nat.le_of_ble_eq_true rfl) rfl dX12_zoo_63 (met_M_isDefault _ _ _ _ _ hk.wd hm g13 e15) (fun hm => ?_)
  refine g_aload_n hk 0 rfl dX12_zoo_66 ?_
  refine g_get2 hk fl_X12_87 rfl kdM_0 hm (b := 13) rfl dX12_zoo_67 ?_
  refine g_iconst hk (v := 2) rfl dX12_zoo_70 ?_
  refine g_aload_n hk 0 rfl dX12_zoo_71 ?_
  have g17 := zGI (i := 32) hm kdM_0 rfl
  refine g_get0 hk fl_X12_109 rfl (j := 32) rfl kdM_0 dX12_zoo_72 ?_
  refine g_imul hk dX12_zoo_75 ?_
  refine g_iconst hk (v := (-1)) rfl dX12_zoo_76 ?_
  refine g_iast hk (wI_c _) (cIk rfl) kdM_13 hm dX12_zoo_77 h (fun m18 hm h => ?_)
  refine g_aload_n hk 0 rfl dX12_zoo_78 ?_
  refine g_get2 hk fl_X12_87 rfl kdM_0 hm (b := 13) rfl dX12_zoo_79 ?_
  refine g_iconst hk (v := 2) rfl dX12_zoo_82 ?_
  refine g_aload_n hk 0 rfl dX12_zoo_83 ?_
  have g19 := zGI (i := 32) hm kdM_0 rfl
  refine g_get0 hk fl_X12_109 rfl (j := 32) rfl kdM_0 dX12_zoo_84 ?_
  refine g_imul hk dX12_zoo_87 ?_
  refine g_iconst hk (v := 1) rfl dX12_zoo_88 ?_
  refine g_iadd hk dX12_zoo_89 ?_
  refine g_iconst hk (v := (-1)) rfl dX12_zoo_90 ?_
  refine g_iast hk (wI_c _) (cIk rfl) kdM_13 hm dX12_zoo_91 h (fun m20 hm h => ?_)
  refine g_aload_n hk 0 rfl dX12_zoo_92 ?_
  refine g_iconst hk (v := 0) rfl dX12_zoo_93 ?_
  refine g_put0 hk fp_X12_106 rfl (j := 31) rfl kdM_0 (cIk rfl) dX12_zoo_94 h hm (fun m21 hm h => ?_)
  refine g_iconst hk (v := 0) rfl dX12_zoo_97 ?_
  refine g_istore_n hk rfl (lv' := [(1, mI 0), (0, .ref (kB K + 0))]) (Nat.le_of_ble_eq_true rfl) rfl dX12_zoo_98 ?_
  refine g_aload_n hk 1 rfl dX12_zoo_99 ?_
  obtain ⟨r22, e23, h⟩ := zbind h
  refine g_callVv hk (st := []) mf_X12_ahead lk_X12_274 mv_X12_ahead kdM_0 (by decide) rfl (Nat.le_of_ble_eq_true rfl) rfl dX12_zoo_100 (met_M_ahead _ _ _ _ _ hk.wd hm e23) (fun hm => ?_)
  refine GoAt.sub [1, 0] rfl ?_
  refine w_M_zoo_L103 hk (fun x1_25 m26 hm cx1_25 h => ?_) 1000000 _ _ hm (cIk rfl) h
  · exact w_M_zoo_b132 hk hm cx1_25 h
theorem met_M_zoo (l : Launch) (D : va_G) (aC : Nat → ClassId) (B N : Nat) (hwd : ∀ id, (kdM id).1 ≠ 9 → id < N) {m : zM} {o : Int × zM} (hm : zG kdM m)  (h : M_zoo m = some o) : zMet l yX12_zoo cX12_zoo 2 (some .int) 7 D aC B kdM N [.ref (B + 0)] m (0, o.1, o.2) := by
  refine zMet.of mf_X12_zoo hwd hm (Nat.le_of_ble_eq_true rfl) (fun K e1 e2 e3 e4 e5 hk => ?_)
  subst e4
  exact w_M_zoo hk hm  h
set_option maxRecDepth 100000 in
set_option maxHeartbeats 4000000 in
theorem w_M_fault {K : zK} (hk : zOk K kdM cX12_fault 2 (some .int) RX12 0)  {x1 : Int} {m : zM} {o : Int}  (hm : zG kdM m) (cx1 : cI x1) (h : M_fault x1 m = some o) : GoAt K m [(0, .ref (kB K + 0)), (1, mI x1)] [] 0 (0, o, m) := by
  unfold M_fault at h
  refine g_iload_n hk 1 rfl dX12_fault_0 ?_
  refine g_if_ne hk cx1 dX12_fault_1 h (fun b1 h => ?_) (fun b1 h => ?_)
  · refine g_aload_n hk 0 rfl dX12_fault_4 ?_
    have g2 := zGI (i := 10) hm kdM_0 rfl
    refine g_get0 hk fl_X12_42 rfl (j := 10) rfl kdM_0 dX12_fault_5 ?_
    refine g_goto hk dX12_fault_8 ?_
    exact g_ireturn hk g2 dX12_fault_24 (by cases h; rfl)
  · refine g_iload_n hk 1 rfl dX12_fault_11 ?_
    refine g_iconst hk (v := 1) rfl dX12_fault_12 ?_
    refine g_icmp_ne hk cx1 (cIk rfl) dX12_fault_13 h (fun b3 h => ?_) (fun b3 h => ?_)
    · refine g_aload_n hk 0 rfl dX12_fault_16 ?_
      have g4 := zGI (i := 11) hm kdM_0 rfl
      refine g_get0 hk fl_X12_45 rfl (j := 11) rfl kdM_0 dX12_fault_17 ?_
      refine g_goto hk dX12_fault_20 ?_
      exact g_ireturn hk g4 dX12_fault_24 (by cases h; rfl)
    · refine g_iconst hk (v := (-1)) rfl dX12_fault_23 ?_
      exact g_ireturn hk (cIk rfl) dX12_fault_24 (by cases h; rfl)
theorem met_M_fault (l : Launch) (D : va_G) (aC : Nat → ClassId) (B N : Nat) (hwd : ∀ id, (kdM id).1 ≠ 9 → id < N) {x1 : Int} {m : zM} {o : Int} (hm : zG kdM m) (cx1 : cI x1) (h : M_fault x1 m = some o) : zMet l yX12_fault cX12_fault 2 (some .int) 0 D aC B kdM N [.ref (B + 0), mI x1] m (0, o, m) := by
  refine zMet.of mf_X12_fault hwd hm (Nat.le_of_ble_eq_true rfl) (fun K e1 e2 e3 e4 e5 hk => ?_)
  subst e4
  exact w_M_fault hk hm cx1 h
set_option maxRecDepth 100000 in
set_option maxHeartbeats 4000000 in
theorem w_M_status {K : zK} (hk : zOk K kdM cX12_status 2 (some .int) RX12 1)  {x1 : Int} {m : zM} {o : Int}  (hm : zG kdM m) (cx1 : cI x1) (h : M_status x1 m = some o) : GoAt K m [(0, .ref (kB K + 0)), (1, mI x1)] [] 0 (0, o, m) := by
  unfold M_status at h
  refine g_iload_n hk 1 rfl dX12_status_0 ?_
  refine g_iconst hk (v := 0) rfl dX12_status_1 ?_
  refine g_iconst hk (v := 5) rfl dX12_status_2 ?_
  obtain ⟨r1, e2, h⟩ := zbind h
  refine g_callSz hk (st := []) mf_X12_is lk_X12_345 ms_X12_is (by decide) rfl (Nat.le_of_ble_eq_true rfl) rfl dX12_status_3 (met_M_is _ _ _ _ _ hk.wd hm cx1 (cIk rfl) (cIk rfl) e2) (fun hm c3 => ?_)
  refine g_if_eq hk (b01 c3) dX12_status_6 h (fun b4 h => ?_) (fun b4 h => ?_)
  · refine g_iconst hk (v := (-1)) rfl dX12_status_18 ?_
    exact g_ireturn hk (cIk rfl) dX12_status_19 (by cases h; rfl)
  · refine g_aload_n hk 0 rfl dX12_status_9 ?_
    refine g_get2 hk fl_X12_150 rfl kdM_0 hm (b := 26) rfl dX12_status_10 ?_
    refine g_iload_n hk 1 rfl dX12_status_13 ?_
    refine g_iald hk cx1 kdM_26 hm dX12_status_14 h (fun y5 cy5 h => ?_)
    refine g_goto hk dX12_status_15 ?_
    exact g_ireturn hk cy5 dX12_status_19 (by cases h; rfl)
theorem met_M_status (l : Launch) (D : va_G) (aC : Nat → ClassId) (B N : Nat) (hwd : ∀ id, (kdM id).1 ≠ 9 → id < N) {x1 : Int} {m : zM} {o : Int} (hm : zG kdM m) (cx1 : cI x1) (h : M_status x1 m = some o) : zMet l yX12_status cX12_status 2 (some .int) 1 D aC B kdM N [.ref (B + 0), mI x1] m (0, o, m) := by
  refine zMet.of mf_X12_status hwd hm (Nat.le_of_ble_eq_true rfl) (fun K e1 e2 e3 e4 e5 hk => ?_)
  subst e4
  exact w_M_status hk hm cx1 h
set_option maxRecDepth 100000 in
set_option maxHeartbeats 4000000 in
theorem w_M_copies_B26 {K : zK} (hk : zOk K kdM cX12_copies 4 none RX12 0) {k60 : Int → Int → zM → Option (zM)} {rec : Int → Int → Int → zM → Option (zM)} {x1 : Int} {x2 : Int} {x3 : Int} {m : zM} {o : zM} (hk60 : ∀ (x1 : Int) (x2 : Int) (m : zM), zG kdM m → cI x1 → cI x2 → k60 x1 x2 m = some o → GoAt K m [(0, .ref (kB K + 0)), (1, mI x1), (2, mI x2)] [] 60 (9, 0, o)) (hrec : ∀ (x1 : Int) (x2 : Int) (x3 : Int) (m : zM), zG kdM m → cI x1 → cI x2 → cI x3 → rec x1 x2 x3 m = some o → GoAt K m [(0, .ref (kB K + 0)), (1, mI x1), (2, mI x2), (3, mI x3)] [] 26 (9, 0, o)) (hm : zG kdM m) (cx1 : cI x1) (cx2 : cI x2) (cx3 : cI x3) (h : M_copies_B26 k60 rec x1 x2 x3 m = some o) : GoAt K m [(0, .ref (kB K + 0)), (1, mI x1), (2, mI x2), (3, mI x3)] [] 26 (9, 0, o) := by
  unfold M_copies_B26 at h
  refine g_iload_n hk 3 rfl dX12_copies_26 ?_
  refine g_bipush hk (v := 24) rfl dX12_copies_27 ?_
  refine g_icmp_ge hk cx3 (cIk rfl) dX12_copies_29 h (fun b1 h => ?_) (fun b1 h => ?_)
  · refine g_aload_n hk 0 rfl dX12_copies_32 ?_
    refine g_get2 hk fl_X12_159 rfl kdM_0 hm (b := 29) rfl dX12_copies_33 ?_
    refine g_bipush hk (v := 24) rfl dX12_copies_36 ?_
    refine g_iload_n hk 1 rfl dX12_copies_38 ?_
    refine g_imul hk dX12_copies_39 ?_
    refine g_iload_n hk 3 rfl dX12_copies_40 ?_
    refine g_iadd hk dX12_copies_41 ?_
    refine g_aload_n hk 0 rfl dX12_copies_42 ?_
    refine g_get2 hk fl_X12_159 rfl kdM_0 hm (b := 29) rfl dX12_copies_43 ?_
    refine g_bipush hk (v := 24) rfl dX12_copies_46 ?_
    refine g_iload_n hk 2 rfl dX12_copies_48 ?_
    refine g_imul hk dX12_copies_49 ?_
    refine g_iload_n hk 3 rfl dX12_copies_50 ?_
    refine g_iadd hk dX12_copies_51 ?_
    refine g_iald hk (wI_c _) kdM_29 hm dX12_copies_52 h (fun y2 cy2 h => ?_)
    refine g_iast hk (wI_c _) cy2 kdM_29 hm dX12_copies_53 h (fun m3 hm h => ?_)
    refine g_iinc hk (lv' := [(3, mI (wI (x3 + 1))), (0, .ref (kB K + 0)), (1, mI x1), (2, mI x2)]) 3 rfl (Nat.le_of_ble_eq_true rfl) rfl dX12_copies_54 ?_
    refine g_goto hk dX12_copies_57 ?_
    refine GoAt.sub [1, 2, 3, 0] rfl ?_
    exact hrec _ _ _ _ hm cx1 cx2 (wI_c _) h
  · refine GoAt.sub [0, 1, 2] rfl ?_
    exact hk60 _ _ _ hm cx1 cx2 h
theorem w_M_copies_L26 {K : zK} (hk : zOk K kdM cX12_copies 4 none RX12 0) {k60 : Int → Int → zM → Option (zM)} {o : zM} (hk60 : ∀ (x1 : Int) (x2 : Int) (m : zM), zG kdM m → cI x1 → cI x2 → k60 x1 x2 m = some o → GoAt K m [(0, .ref (kB K + 0)), (1, mI x1), (2, mI x2)] [] 60 (9, 0, o)) : ∀ (n : Nat) (x1 : Int) (x2 : Int) (x3 : Int) (m : zM), zG kdM m → cI x1 → cI x2 → cI x3 → M_copies_L26 k60 n x1 x2 x3 m = some o → GoAt K m [(0, .ref (kB K + 0)), (1, mI x1), (2, mI x2), (3, mI x3)] [] 26 (9, 0, o)
  | 0, x1, x2, x3, m, hm, cx1, cx2, cx3, h => by cases h
  | n + 1, x1, x2, x3, m, hm, cx1, cx2, cx3, h => w_M_copies_B26 hk hk60 (w_M_copies_L26 hk hk60 n) hm cx1 cx2 cx3 h
set_option maxRecDepth 100000 in
set_option maxHeartbeats 4000000 in
theorem w_M_copies_B62 {K : zK} (hk : zOk K kdM cX12_copies 4 none RX12 0) {k118 : Int → Int → zM → Option (zM)} {rec : Int → Int → Int → zM → Option (zM)} {x1 : Int} {x2 : Int} {x3 : Int} {m : zM} {o : zM} (hk118 : ∀ (x1 : Int) (x2 : Int) (m : zM), zG kdM m → cI x1 → cI x2 → k118 x1 x2 m = some o → GoAt K m [(0, .ref (kB K + 0)), (1, mI x1), (2, mI x2)] [] 118 (9, 0, o)) (hrec : ∀ (x1 : Int) (x2 : Int) (x3 : Int) (m : zM), zG kdM m → cI x1 → cI x2 → cI x3 → rec x1 x2 x3 m = some o → GoAt K m [(0, .ref (kB K + 0)), (1, mI x1), (2, mI x2), (3, mI x3)] [] 62 (9, 0, o)) (hm : zG kdM m) (cx1 : cI x1) (cx2 : cI x2) (cx3 : cI x3) (h : M_copies_B62 k118 rec x1 x2 x3 m = some o) : GoAt K m [(0, .ref (kB K + 0)), (1, mI x1), (2, mI x2), (3, mI x3)] [] 62 (9, 0, o) := by
  unfold M_copies_B62 at h
  refine g_iload_n hk 3 rfl dX12_copies_62 ?_
  refine g_bipush hk (v := 8) rfl dX12_copies_63 ?_
  refine g_icmp_ge hk cx3 (cIk rfl) dX12_copies_65 h (fun b1 h => ?_) (fun b1 h => ?_)
  · refine g_aload_n hk 0 rfl dX12_copies_68 ?_
    refine g_get2 hk fl_X12_162 rfl kdM_0 hm (b := 30) rfl dX12_copies_69 ?_
    refine g_bipush hk (v := 8) rfl dX12_copies_72 ?_
    refine g_iload_n hk 1 rfl dX12_copies_74 ?_
    refine g_imul hk dX12_copies_75 ?_
    refine g_iload_n hk 3 rfl dX12_copies_76 ?_
    refine g_iadd hk dX12_copies_77 ?_
    refine g_aload_n hk 0 rfl dX12_copies_78 ?_
    refine g_get2 hk fl_X12_162 rfl kdM_0 hm (b := 30) rfl dX12_copies_79 ?_
    refine g_bipush hk (v := 8) rfl dX12_copies_82 ?_
    refine g_iload_n hk 2 rfl dX12_copies_84 ?_
    refine g_imul hk dX12_copies_85 ?_
    refine g_iload_n hk 3 rfl dX12_copies_86 ?_
    refine g_iadd hk dX12_copies_87 ?_
    refine g_iald hk (wI_c _) kdM_30 hm dX12_copies_88 h (fun y2 cy2 h => ?_)
    refine g_iast hk (wI_c _) cy2 kdM_30 hm dX12_copies_89 h (fun m3 hm h => ?_)
    refine g_aload_n hk 0 rfl dX12_copies_90 ?_
    refine g_get2 hk fl_X12_165 rfl kdM_0 hm (b := 31) rfl dX12_copies_91 ?_
    refine g_bipush hk (v := 8) rfl dX12_copies_94 ?_
    refine g_iload_n hk 1 rfl dX12_copies_96 ?_
    refine g_imul hk dX12_copies_97 ?_
    refine g_iload_n hk 3 rfl dX12_copies_98 ?_
    refine g_iadd hk dX12_copies_99 ?_
    refine g_aload_n hk 0 rfl dX12_copies_100 ?_
    refine g_get2 hk fl_X12_165 rfl kdM_0 hm (b := 31) rfl dX12_copies_101 ?_
    refine g_bipush hk (v := 8) rfl dX12_copies_104 ?_
    refine g_iload_n hk 2 rfl dX12_copies_106 ?_
    refine g_imul hk dX12_copies_107 ?_
    refine g_iload_n hk 3 rfl dX12_copies_108 ?_
    refine g_iadd hk dX12_copies_109 ?_
    refine g_iald hk (wI_c _) kdM_31 hm dX12_copies_110 h (fun y4 cy4 h => ?_)
    refine g_iast hk (wI_c _) cy4 kdM_31 hm dX12_copies_111 h (fun m5 hm h => ?_)
    refine g_iinc hk (lv' := [(3, mI (wI (x3 + 1))), (0, .ref (kB K + 0)), (1, mI x1), (2, mI x2)]) 3 rfl (Nat.le_of_ble_eq_true rfl) rfl dX12_copies_112 ?_
    refine g_goto hk dX12_copies_115 ?_
    refine GoAt.sub [1, 2, 3, 0] rfl ?_
    exact hrec _ _ _ _ hm cx1 cx2 (wI_c _) h
  · refine GoAt.sub [0, 1, 2] rfl ?_
    exact hk118 _ _ _ hm cx1 cx2 h
theorem w_M_copies_L62 {K : zK} (hk : zOk K kdM cX12_copies 4 none RX12 0) {k118 : Int → Int → zM → Option (zM)} {o : zM} (hk118 : ∀ (x1 : Int) (x2 : Int) (m : zM), zG kdM m → cI x1 → cI x2 → k118 x1 x2 m = some o → GoAt K m [(0, .ref (kB K + 0)), (1, mI x1), (2, mI x2)] [] 118 (9, 0, o)) : ∀ (n : Nat) (x1 : Int) (x2 : Int) (x3 : Int) (m : zM), zG kdM m → cI x1 → cI x2 → cI x3 → M_copies_L62 k118 n x1 x2 x3 m = some o → GoAt K m [(0, .ref (kB K + 0)), (1, mI x1), (2, mI x2), (3, mI x3)] [] 62 (9, 0, o)
  | 0, x1, x2, x3, m, hm, cx1, cx2, cx3, h => by cases h
  | n + 1, x1, x2, x3, m, hm, cx1, cx2, cx3, h => w_M_copies_B62 hk hk118 (w_M_copies_L62 hk hk118 n) hm cx1 cx2 cx3 h
set_option maxRecDepth 100000 in
set_option maxHeartbeats 4000000 in
theorem w_M_copies_B120 {K : zK} (hk : zOk K kdM cX12_copies 4 none RX12 0) {k154 : Int → Int → zM → Option (zM)} {rec : Int → Int → Int → zM → Option (zM)} {x1 : Int} {x2 : Int} {x3 : Int} {m : zM} {o : zM} (hk154 : ∀ (x1 : Int) (x2 : Int) (m : zM), zG kdM m → cI x1 → cI x2 → k154 x1 x2 m = some o → GoAt K m [(0, .ref (kB K + 0)), (1, mI x1), (2, mI x2)] [] 154 (9, 0, o)) (hrec : ∀ (x1 : Int) (x2 : Int) (x3 : Int) (m : zM), zG kdM m → cI x1 → cI x2 → cI x3 → rec x1 x2 x3 m = some o → GoAt K m [(0, .ref (kB K + 0)), (1, mI x1), (2, mI x2), (3, mI x3)] [] 120 (9, 0, o)) (hm : zG kdM m) (cx1 : cI x1) (cx2 : cI x2) (cx3 : cI x3) (h : M_copies_B120 k154 rec x1 x2 x3 m = some o) : GoAt K m [(0, .ref (kB K + 0)), (1, mI x1), (2, mI x2), (3, mI x3)] [] 120 (9, 0, o) := by
  unfold M_copies_B120 at h
  refine g_iload_n hk 3 rfl dX12_copies_120 ?_
  refine g_bipush hk (v := 18) rfl dX12_copies_121 ?_
  refine g_icmp_ge hk cx3 (cIk rfl) dX12_copies_123 h (fun b1 h => ?_) (fun b1 h => ?_)
  · refine g_aload_n hk 0 rfl dX12_copies_126 ?_
    refine g_get2 hk fl_X12_168 rfl kdM_0 hm (b := 32) rfl dX12_copies_127 ?_
    refine g_bipush hk (v := 18) rfl dX12_copies_130 ?_
    refine g_iload_n hk 1 rfl dX12_copies_132 ?_
    refine g_imul hk dX12_copies_133 ?_
    refine g_iload_n hk 3 rfl dX12_copies_134 ?_
    refine g_iadd hk dX12_copies_135 ?_
    refine g_aload_n hk 0 rfl dX12_copies_136 ?_
    refine g_get2 hk fl_X12_168 rfl kdM_0 hm (b := 32) rfl dX12_copies_137 ?_
    refine g_bipush hk (v := 18) rfl dX12_copies_140 ?_
    refine g_iload_n hk 2 rfl dX12_copies_142 ?_
    refine g_imul hk dX12_copies_143 ?_
    refine g_iload_n hk 3 rfl dX12_copies_144 ?_
    refine g_iadd hk dX12_copies_145 ?_
    refine g_iald hk (wI_c _) kdM_32 hm dX12_copies_146 h (fun y2 cy2 h => ?_)
    refine g_iast hk (wI_c _) cy2 kdM_32 hm dX12_copies_147 h (fun m3 hm h => ?_)
    refine g_iinc hk (lv' := [(3, mI (wI (x3 + 1))), (0, .ref (kB K + 0)), (1, mI x1), (2, mI x2)]) 3 rfl (Nat.le_of_ble_eq_true rfl) rfl dX12_copies_148 ?_
    refine g_goto hk dX12_copies_151 ?_
    refine GoAt.sub [1, 2, 3, 0] rfl ?_
    exact hrec _ _ _ _ hm cx1 cx2 (wI_c _) h
  · refine GoAt.sub [0, 1, 2] rfl ?_
    exact hk154 _ _ _ hm cx1 cx2 h
theorem w_M_copies_L120 {K : zK} (hk : zOk K kdM cX12_copies 4 none RX12 0) {k154 : Int → Int → zM → Option (zM)} {o : zM} (hk154 : ∀ (x1 : Int) (x2 : Int) (m : zM), zG kdM m → cI x1 → cI x2 → k154 x1 x2 m = some o → GoAt K m [(0, .ref (kB K + 0)), (1, mI x1), (2, mI x2)] [] 154 (9, 0, o)) : ∀ (n : Nat) (x1 : Int) (x2 : Int) (x3 : Int) (m : zM), zG kdM m → cI x1 → cI x2 → cI x3 → M_copies_L120 k154 n x1 x2 x3 m = some o → GoAt K m [(0, .ref (kB K + 0)), (1, mI x1), (2, mI x2), (3, mI x3)] [] 120 (9, 0, o)
  | 0, x1, x2, x3, m, hm, cx1, cx2, cx3, h => by cases h
  | n + 1, x1, x2, x3, m, hm, cx1, cx2, cx3, h => w_M_copies_B120 hk hk154 (w_M_copies_L120 hk hk154 n) hm cx1 cx2 cx3 h
set_option maxRecDepth 100000 in
set_option maxHeartbeats 4000000 in
theorem w_M_copies_B156 {K : zK} (hk : zOk K kdM cX12_copies 4 none RX12 0) {k212 : Int → Int → zM → Option (zM)} {rec : Int → Int → Int → zM → Option (zM)} {x1 : Int} {x2 : Int} {x3 : Int} {m : zM} {o : zM} (hk212 : ∀ (x1 : Int) (x2 : Int) (m : zM), zG kdM m → cI x1 → cI x2 → k212 x1 x2 m = some o → GoAt K m [(0, .ref (kB K + 0)), (1, mI x1), (2, mI x2)] [] 212 (9, 0, o)) (hrec : ∀ (x1 : Int) (x2 : Int) (x3 : Int) (m : zM), zG kdM m → cI x1 → cI x2 → cI x3 → rec x1 x2 x3 m = some o → GoAt K m [(0, .ref (kB K + 0)), (1, mI x1), (2, mI x2), (3, mI x3)] [] 156 (9, 0, o)) (hm : zG kdM m) (cx1 : cI x1) (cx2 : cI x2) (cx3 : cI x3) (h : M_copies_B156 k212 rec x1 x2 x3 m = some o) : GoAt K m [(0, .ref (kB K + 0)), (1, mI x1), (2, mI x2), (3, mI x3)] [] 156 (9, 0, o) := by
  unfold M_copies_B156 at h
  refine g_iload_n hk 3 rfl dX12_copies_156 ?_
  refine g_bipush hk (v := 48) rfl dX12_copies_157 ?_
  refine g_icmp_ge hk cx3 (cIk rfl) dX12_copies_159 h (fun b1 h => ?_) (fun b1 h => ?_)
  · refine g_aload_n hk 0 rfl dX12_copies_162 ?_
    refine g_get2 hk fl_X12_171 rfl kdM_0 hm (b := 33) rfl dX12_copies_163 ?_
    refine g_bipush hk (v := 48) rfl dX12_copies_166 ?_
    refine g_iload_n hk 1 rfl dX12_copies_168 ?_
    refine g_imul hk dX12_copies_169 ?_
    refine g_iload_n hk 3 rfl dX12_copies_170 ?_
    refine g_iadd hk dX12_copies_171 ?_
    refine g_aload_n hk 0 rfl dX12_copies_172 ?_
    refine g_get2 hk fl_X12_171 rfl kdM_0 hm (b := 33) rfl dX12_copies_173 ?_
    refine g_bipush hk (v := 48) rfl dX12_copies_176 ?_
    refine g_iload_n hk 2 rfl dX12_copies_178 ?_
    refine g_imul hk dX12_copies_179 ?_
    refine g_iload_n hk 3 rfl dX12_copies_180 ?_
    refine g_iadd hk dX12_copies_181 ?_
    refine g_iald hk (wI_c _) kdM_33 hm dX12_copies_182 h (fun y2 cy2 h => ?_)
    refine g_iast hk (wI_c _) cy2 kdM_33 hm dX12_copies_183 h (fun m3 hm h => ?_)
    refine g_aload_n hk 0 rfl dX12_copies_184 ?_
    refine g_get2 hk fl_X12_174 rfl kdM_0 hm (b := 34) rfl dX12_copies_185 ?_
    refine g_bipush hk (v := 48) rfl dX12_copies_188 ?_
    refine g_iload_n hk 1 rfl dX12_copies_190 ?_
    refine g_imul hk dX12_copies_191 ?_
    refine g_iload_n hk 3 rfl dX12_copies_192 ?_
    refine g_iadd hk dX12_copies_193 ?_
    refine g_aload_n hk 0 rfl dX12_copies_194 ?_
    refine g_get2 hk fl_X12_174 rfl kdM_0 hm (b := 34) rfl dX12_copies_195 ?_
    refine g_bipush hk (v := 48) rfl dX12_copies_198 ?_
    refine g_iload_n hk 2 rfl dX12_copies_200 ?_
    refine g_imul hk dX12_copies_201 ?_
    refine g_iload_n hk 3 rfl dX12_copies_202 ?_
    refine g_iadd hk dX12_copies_203 ?_
    refine g_iald hk (wI_c _) kdM_34 hm dX12_copies_204 h (fun y4 cy4 h => ?_)
    refine g_iast hk (wI_c _) cy4 kdM_34 hm dX12_copies_205 h (fun m5 hm h => ?_)
    refine g_iinc hk (lv' := [(3, mI (wI (x3 + 1))), (0, .ref (kB K + 0)), (1, mI x1), (2, mI x2)]) 3 rfl (Nat.le_of_ble_eq_true rfl) rfl dX12_copies_206 ?_
    refine g_goto hk dX12_copies_209 ?_
    refine GoAt.sub [1, 2, 3, 0] rfl ?_
    exact hrec _ _ _ _ hm cx1 cx2 (wI_c _) h
  · refine GoAt.sub [0, 1, 2] rfl ?_
    exact hk212 _ _ _ hm cx1 cx2 h
theorem w_M_copies_L156 {K : zK} (hk : zOk K kdM cX12_copies 4 none RX12 0) {k212 : Int → Int → zM → Option (zM)} {o : zM} (hk212 : ∀ (x1 : Int) (x2 : Int) (m : zM), zG kdM m → cI x1 → cI x2 → k212 x1 x2 m = some o → GoAt K m [(0, .ref (kB K + 0)), (1, mI x1), (2, mI x2)] [] 212 (9, 0, o)) : ∀ (n : Nat) (x1 : Int) (x2 : Int) (x3 : Int) (m : zM), zG kdM m → cI x1 → cI x2 → cI x3 → M_copies_L156 k212 n x1 x2 x3 m = some o → GoAt K m [(0, .ref (kB K + 0)), (1, mI x1), (2, mI x2), (3, mI x3)] [] 156 (9, 0, o)
  | 0, x1, x2, x3, m, hm, cx1, cx2, cx3, h => by cases h
  | n + 1, x1, x2, x3, m, hm, cx1, cx2, cx3, h => w_M_copies_B156 hk hk212 (w_M_copies_L156 hk hk212 n) hm cx1 cx2 cx3 h
set_option maxRecDepth 100000 in
set_option maxHeartbeats 4000000 in
theorem w_M_copies_B226 {K : zK} (hk : zOk K kdM cX12_copies 4 none RX12 0) {rec : Int → Int → Int → zM → Option (zM)} {x1 : Int} {x2 : Int} {x3 : Int} {m : zM} {o : zM} (hrec : ∀ (x1 : Int) (x2 : Int) (x3 : Int) (m : zM), zG kdM m → cI x1 → cI x2 → cI x3 → rec x1 x2 x3 m = some o → GoAt K m [(0, .ref (kB K + 0)), (1, mI x1), (2, mI x2), (3, mI x3)] [] 226 (9, 0, o)) (hm : zG kdM m) (cx1 : cI x1) (cx2 : cI x2) (cx3 : cI x3) (h : M_copies_B226 rec x1 x2 x3 m = some o) : GoAt K m [(0, .ref (kB K + 0)), (1, mI x1), (2, mI x2), (3, mI x3)] [] 226 (9, 0, o) := by
  unfold M_copies_B226 at h
  refine g_iload_n hk 3 rfl dX12_copies_226 ?_
  refine g_iconst hk (v := 5) rfl dX12_copies_227 ?_
  refine g_aload_n hk 0 rfl dX12_copies_228 ?_
  refine g_get2 hk fl_X12_177 rfl kdM_0 hm (b := 35) rfl dX12_copies_229 ?_
  refine g_iload_n hk 2 rfl dX12_copies_232 ?_
  refine g_iald hk cx2 kdM_35 hm dX12_copies_233 h (fun y1 cy1 h => ?_)
  refine g_imul hk dX12_copies_234 ?_
  refine g_icmp_ge hk cx3 (wI_c _) dX12_copies_235 h (fun b2 h => ?_) (fun b2 h => ?_)
  · refine g_aload_n hk 0 rfl dX12_copies_238 ?_
    refine g_get2 hk fl_X12_180 rfl kdM_0 hm (b := 36) rfl dX12_copies_239 ?_
    refine g_sipush hk (v := 300) rfl dX12_copies_242 ?_
    refine g_iload_n hk 1 rfl dX12_copies_245 ?_
    refine g_imul hk dX12_copies_246 ?_
    refine g_iload_n hk 3 rfl dX12_copies_247 ?_
    refine g_iadd hk dX12_copies_248 ?_
    refine g_aload_n hk 0 rfl dX12_copies_249 ?_
    refine g_get2 hk fl_X12_180 rfl kdM_0 hm (b := 36) rfl dX12_copies_250 ?_
    refine g_sipush hk (v := 300) rfl dX12_copies_253 ?_
    refine g_iload_n hk 2 rfl dX12_copies_256 ?_
    refine g_imul hk dX12_copies_257 ?_
    refine g_iload_n hk 3 rfl dX12_copies_258 ?_
    refine g_iadd hk dX12_copies_259 ?_
    refine g_iald hk (wI_c _) kdM_36 hm dX12_copies_260 h (fun y3 cy3 h => ?_)
    refine g_iast hk (wI_c _) cy3 kdM_36 hm dX12_copies_261 h (fun m4 hm h => ?_)
    refine g_iinc hk (lv' := [(3, mI (wI (x3 + 1))), (0, .ref (kB K + 0)), (1, mI x1), (2, mI x2)]) 3 rfl (Nat.le_of_ble_eq_true rfl) rfl dX12_copies_262 ?_
    refine g_goto hk dX12_copies_265 ?_
    refine GoAt.sub [1, 2, 3, 0] rfl ?_
    exact hrec _ _ _ _ hm cx1 cx2 (wI_c _) h
  · exact g_return hk dX12_copies_268 (by cases h; rfl)
theorem w_M_copies_L226 {K : zK} (hk : zOk K kdM cX12_copies 4 none RX12 0)  {o : zM}  : ∀ (n : Nat) (x1 : Int) (x2 : Int) (x3 : Int) (m : zM), zG kdM m → cI x1 → cI x2 → cI x3 → M_copies_L226 n x1 x2 x3 m = some o → GoAt K m [(0, .ref (kB K + 0)), (1, mI x1), (2, mI x2), (3, mI x3)] [] 226 (9, 0, o)
  | 0, x1, x2, x3, m, hm, cx1, cx2, cx3, h => by cases h
  | n + 1, x1, x2, x3, m, hm, cx1, cx2, cx3, h => w_M_copies_B226 hk  (w_M_copies_L226 hk  n) hm cx1 cx2 cx3 h
set_option maxRecDepth 100000 in
set_option maxHeartbeats 4000000 in
theorem w_M_copies {K : zK} (hk : zOk K kdM cX12_copies 4 none RX12 0)  {x1 : Int} {x2 : Int} {m : zM} {o : zM}  (hm : zG kdM m) (cx1 : cI x1) (cx2 : cI x2) (h : M_copies x1 x2 m = some o) : GoAt K m [(0, .ref (kB K + 0)), (1, mI x1), (2, mI x2)] [] 0 (9, 0, o) := by
  unfold M_copies at h
  refine g_aload_n hk 0 rfl dX12_copies_0 ?_
  refine g_get2 hk fl_X12_153 rfl kdM_0 hm (b := 27) rfl dX12_copies_1 ?_
  refine g_iload_n hk 1 rfl dX12_copies_4 ?_
  refine g_aload_n hk 0 rfl dX12_copies_5 ?_
  refine g_get2 hk fl_X12_153 rfl kdM_0 hm (b := 27) rfl dX12_copies_6 ?_
  refine g_iload_n hk 2 rfl dX12_copies_9 ?_
  refine g_iald hk cx2 kdM_27 hm dX12_copies_10 h (fun y1 cy1 h => ?_)
  refine g_iast hk cx1 cy1 kdM_27 hm dX12_copies_11 h (fun m2 hm h => ?_)
  refine g_aload_n hk 0 rfl dX12_copies_12 ?_
  refine g_get2 hk fl_X12_156 rfl kdM_0 hm (b := 28) rfl dX12_copies_13 ?_
  refine g_iload_n hk 1 rfl dX12_copies_16 ?_
  refine g_aload_n hk 0 rfl dX12_copies_17 ?_
  refine g_get2 hk fl_X12_156 rfl kdM_0 hm (b := 28) rfl dX12_copies_18 ?_
  refine g_iload_n hk 2 rfl dX12_copies_21 ?_
  refine g_iald hk cx2 kdM_28 hm dX12_copies_22 h (fun y3 cy3 h => ?_)
  refine g_iast hk cx1 cy3 kdM_28 hm dX12_copies_23 h (fun m4 hm h => ?_)
  refine g_iconst hk (v := 0) rfl dX12_copies_24 ?_
  refine g_istore_n hk rfl (lv' := [(3, mI 0), (0, .ref (kB K + 0)), (1, mI x1), (2, mI x2)]) (Nat.le_of_ble_eq_true rfl) rfl dX12_copies_25 ?_
  refine GoAt.sub [1, 2, 3, 0] rfl ?_
  refine w_M_copies_L26 hk (fun x1_5 x2_5 m6 hm cx1_5 cx2_5 h => ?_) 1000000 _ _ _ _ hm cx1 cx2 (cIk rfl) h
  · refine g_iconst hk (v := 0) rfl dX12_copies_60 ?_
    refine g_istore_n hk rfl (lv' := [(3, mI 0), (0, .ref (kB K + 0)), (1, mI x1_5), (2, mI x2_5)]) (Nat.le_of_ble_eq_true rfl) rfl dX12_copies_61 ?_
    refine GoAt.sub [1, 2, 3, 0] rfl ?_
    refine w_M_copies_L62 hk (fun x1_7 x2_7 m8 hm cx1_7 cx2_7 h => ?_) 1000000 _ _ _ _ hm cx1_5 cx2_5 (cIk rfl) h
    · refine g_iconst hk (v := 0) rfl dX12_copies_118 ?_
      refine g_istore_n hk rfl (lv' := [(3, mI 0), (0, .ref (kB K + 0)), (1, mI x1_7), (2, mI x2_7)]) (Nat.le_of_ble_eq_true rfl) rfl dX12_copies_119 ?_
      refine GoAt.sub [1, 2, 3, 0] rfl ?_
      refine w_M_copies_L120 hk (fun x1_9 x2_9 m10 hm cx1_9 cx2_9 h => ?_) 1000000 _ _ _ _ hm cx1_7 cx2_7 (cIk rfl) h
      · refine g_iconst hk (v := 0) rfl dX12_copies_154 ?_
        refine g_istore_n hk rfl (lv' := [(3, mI 0), (0, .ref (kB K + 0)), (1, mI x1_9), (2, mI x2_9)]) (Nat.le_of_ble_eq_true rfl) rfl dX12_copies_155 ?_
        refine GoAt.sub [1, 2, 3, 0] rfl ?_
        refine w_M_copies_L156 hk (fun x1_11 x2_11 m12 hm cx1_11 cx2_11 h => ?_) 1000000 _ _ _ _ hm cx1_9 cx2_9 (cIk rfl) h
        · refine g_aload_n hk 0 rfl dX12_copies_212 ?_
          refine g_get2 hk fl_X12_177 rfl kdM_0 hm (b := 35) rfl dX12_copies_213 ?_
          refine g_iload_n hk 1 rfl dX12_copies_216 ?_
          refine g_aload_n hk 0 rfl dX12_copies_217 ?_
          refine g_get2 hk fl_X12_177 rfl kdM_0 hm (b := 35) rfl dX12_copies_218 ?_
          refine g_iload_n hk 2 rfl dX12_copies_221 ?_
          refine g_iald hk cx2_11 kdM_35 hm dX12_copies_222 h (fun y13 cy13 h => ?_)
          refine g_iast hk cx1_11 cy13 kdM_35 hm dX12_copies_223 h (fun m14 hm h => ?_)
          refine g_iconst hk (v := 0) rfl dX12_copies_224 ?_
          refine g_istore_n hk rfl (lv' := [(3, mI 0), (0, .ref (kB K + 0)), (1, mI x1_11), (2, mI x2_11)]) (Nat.le_of_ble_eq_true rfl) rfl dX12_copies_225 ?_
          refine GoAt.sub [1, 2, 3, 0] rfl ?_
          refine w_M_copies_L226 hk  1000000 _ _ _ _ hm cx1_11 cx2_11 (cIk rfl) h
theorem met_M_copies (l : Launch) (D : va_G) (aC : Nat → ClassId) (B N : Nat) (hwd : ∀ id, (kdM id).1 ≠ 9 → id < N) {x1 : Int} {x2 : Int} {m : zM} {o : zM} (hm : zG kdM m) (cx1 : cI x1) (cx2 : cI x2) (h : M_copies x1 x2 m = some o) : zMet l yX12_copies cX12_copies 4 none 0 D aC B kdM N [.ref (B + 0), mI x1, mI x2] m (9, 0, o) := by
  refine zMet.of mf_X12_copies hwd hm (Nat.le_of_ble_eq_true rfl) (fun K e1 e2 e3 e4 e5 hk => ?_)
  subst e4
  exact w_M_copies hk hm cx1 cx2 h
set_option maxRecDepth 100000 in
set_option maxHeartbeats 4000000 in
theorem w_M_slot {K : zK} (hk : zOk K kdM cX12_slot 2 (some .int) RX12 0)  {x1 : Int} {m : zM} {o : Int}  (hm : zG kdM m) (cx1 : cI x1) (h : M_slot x1 m = some o) : GoAt K m [(0, .ref (kB K + 0)), (1, mI x1)] [] 0 (0, o, m) := by
  unfold M_slot at h
  refine g_iconst hk (v := 2) rfl dX12_slot_0 ?_
  refine g_aload_n hk 0 rfl dX12_slot_1 ?_
  have g1 := zGI (i := 56) hm kdM_0 rfl
  refine g_get0 hk fl_X12_183 rfl (j := 56) rfl kdM_0 dX12_slot_2 ?_
  refine g_iload_n hk 1 rfl dX12_slot_5 ?_
  refine g_iadd hk dX12_slot_6 ?_
  refine g_bipush hk (v := 20) rfl dX12_slot_7 ?_
  refine g_irem hk (cIk rfl) (by decide) dX12_slot_9 ?_
  refine g_iadd hk dX12_slot_10 ?_
  exact g_ireturn hk (wI_c _) dX12_slot_11 (by cases h; rfl)
theorem met_M_slot (l : Launch) (D : va_G) (aC : Nat → ClassId) (B N : Nat) (hwd : ∀ id, (kdM id).1 ≠ 9 → id < N) {x1 : Int} {m : zM} {o : Int} (hm : zG kdM m) (cx1 : cI x1) (h : M_slot x1 m = some o) : zMet l yX12_slot cX12_slot 2 (some .int) 0 D aC B kdM N [.ref (B + 0), mI x1] m (0, o, m) := by
  refine zMet.of mf_X12_slot hwd hm (Nat.le_of_ble_eq_true rfl) (fun K e1 e2 e3 e4 e5 hk => ?_)
  subst e4
  exact w_M_slot hk hm cx1 h
set_option maxRecDepth 100000 in
set_option maxHeartbeats 4000000 in
theorem w_M_keeps_b32 {K : zK} (hk : zOk K kdM cX12_keeps 1 none RX12 1)  {m : zM} {o : zM}  (hm : zG kdM m)  (h : M_keeps_b32 m = some o) : GoAt K m [(0, .ref (kB K + 0))] [] 32 (9, 0, o) := by
  unfold M_keeps_b32 at h
  refine g_aload_n hk 0 rfl dX12_keeps_32 ?_
  refine g_aload_n hk 0 rfl dX12_keeps_33 ?_
  refine g_aload_n hk 0 rfl dX12_keeps_34 ?_
  have g1 := zGI (i := 57) hm kdM_0 rfl
  refine g_get0 hk fl_X12_186 rfl (j := 57) rfl kdM_0 dX12_keeps_35 ?_
  obtain ⟨r2, e3, h⟩ := zbind h
  refine g_callVi hk (st := [.ref (kB K + 0)]) mf_X12_slot lk_X12_449 mv_X12_slot kdM_0 (by decide) rfl (Nat.le_of_ble_eq_true rfl) rfl dX12_keeps_38 (met_M_slot _ _ _ _ _ hk.wd hm g1 e3) (fun hm c4 => ?_)
  refine g_iconst hk (v := 0) rfl dX12_keeps_41 ?_
  obtain ⟨r5, e6, h⟩ := zbind h
  refine g_callVv hk (st := []) mf_X12_copies lk_X12_452 mv_X12_copies kdM_0 (by decide) rfl (Nat.le_of_ble_eq_true rfl) rfl dX12_keeps_42 (met_M_copies _ _ _ _ _ hk.wd hm c4 (cIk rfl) e6) (fun hm => ?_)
  refine g_aload_n hk 0 rfl dX12_keeps_45 ?_
  refine g_dup hk rfl dX12_keeps_46 ?_
  have g8 := zGI (i := 57) hm kdM_0 rfl
  refine g_get0 hk fl_X12_186 rfl (j := 57) rfl kdM_0 dX12_keeps_47 ?_
  refine g_iconst hk (v := 1) rfl dX12_keeps_50 ?_
  refine g_iadd hk dX12_keeps_51 ?_
  refine g_put0 hk fp_X12_186 rfl (j := 57) rfl kdM_0 (wI_c _) dX12_keeps_52 h hm (fun m9 hm h => ?_)
  exact g_return hk dX12_keeps_55 (by cases h; rfl)
set_option maxRecDepth 100000 in
set_option maxHeartbeats 4000000 in
theorem w_M_keeps {K : zK} (hk : zOk K kdM cX12_keeps 1 none RX12 1)  {m : zM} {o : zM}  (hm : zG kdM m)  (h : M_keeps m = some o) : GoAt K m [(0, .ref (kB K + 0))] [] 0 (9, 0, o) := by
  unfold M_keeps at h
  refine g_aload_n hk 0 rfl dX12_keeps_0 ?_
  have g1 := zGI (i := 57) hm kdM_0 rfl
  refine g_get0 hk fl_X12_186 rfl (j := 57) rfl kdM_0 dX12_keeps_1 ?_
  refine g_bipush hk (v := 20) rfl dX12_keeps_4 ?_
  refine g_icmp_ne hk g1 (cIk rfl) dX12_keeps_6 h (fun b2 h => ?_) (fun b2 h => ?_)
  · refine g_aload_n hk 0 rfl dX12_keeps_9 ?_
    refine g_aload_n hk 0 rfl dX12_keeps_10 ?_
    have g3 := zGI (i := 56) hm kdM_0 rfl
    refine g_get0 hk fl_X12_183 rfl (j := 56) rfl kdM_0 dX12_keeps_11 ?_
    refine g_iconst hk (v := 1) rfl dX12_keeps_14 ?_
    refine g_iadd hk dX12_keeps_15 ?_
    refine g_bipush hk (v := 20) rfl dX12_keeps_16 ?_
    refine g_irem hk (cIk rfl) (by decide) dX12_keeps_18 ?_
    refine g_put0 hk fp_X12_183 rfl (j := 56) rfl kdM_0 (cI_t _) dX12_keeps_19 h hm (fun m4 hm h => ?_)
    refine g_aload_n hk 0 rfl dX12_keeps_22 ?_
    refine g_dup hk rfl dX12_keeps_23 ?_
    have g5 := zGI (i := 57) hm kdM_0 rfl
    refine g_get0 hk fl_X12_186 rfl (j := 57) rfl kdM_0 dX12_keeps_24 ?_
    refine g_iconst hk (v := 1) rfl dX12_keeps_27 ?_
    refine g_isub hk dX12_keeps_28 ?_
    refine g_put0 hk fp_X12_186 rfl (j := 57) rfl kdM_0 (wI_c _) dX12_keeps_29 h hm (fun m6 hm h => ?_)
    exact w_M_keeps_b32 hk hm h
  · exact w_M_keeps_b32 hk hm h
theorem met_M_keeps (l : Launch) (D : va_G) (aC : Nat → ClassId) (B N : Nat) (hwd : ∀ id, (kdM id).1 ≠ 9 → id < N) {m : zM} {o : zM} (hm : zG kdM m)  (h : M_keeps m = some o) : zMet l yX12_keeps cX12_keeps 1 none 1 D aC B kdM N [.ref (B + 0)] m (9, 0, o) := by
  refine zMet.of mf_X12_keeps hwd hm (Nat.le_of_ble_eq_true rfl) (fun K e1 e2 e3 e4 e5 hk => ?_)
  subst e4
  exact w_M_keeps hk hm  h
set_option maxRecDepth 100000 in
set_option maxHeartbeats 4000000 in
theorem w_M_undo {K : zK} (hk : zOk K kdM cX12_undo 1 (some .boolean) RX12 1)  {m : zM} {o : Int × zM}  (hm : zG kdM m)  (h : M_undo m = some o) : GoAt K m [(0, .ref (kB K + 0))] [] 0 (4, o.1, o.2) := by
  unfold M_undo at h
  refine g_aload_n hk 0 rfl dX12_undo_0 ?_
  have g1 := zGI (i := 57) hm kdM_0 rfl
  refine g_get0 hk fl_X12_186 rfl (j := 57) rfl kdM_0 dX12_undo_1 ?_
  refine g_if_ne hk g1 dX12_undo_4 h (fun b2 h => ?_) (fun b2 h => ?_)
  · refine g_aload_n hk 0 rfl dX12_undo_7 ?_
    refine g_iconst hk (v := 4) rfl dX12_undo_8 ?_
    obtain ⟨r3, e4, h⟩ := zbind h
    refine g_callVi hk (st := []) mf_X12_refuses lk_X12_250 mv_X12_refuses kdM_0 (by decide) rfl (Nat.le_of_ble_eq_true rfl) rfl dX12_undo_9 (met_M_refuses _ _ _ _ _ hk.wd hm (cIk rfl) e4) (fun hm c5 => ?_)
    refine g_if_lt hk c5 dX12_undo_12 h (fun b6 h => ?_) (fun b6 h => ?_)
    · refine g_iconst hk (v := 0) rfl dX12_undo_19 ?_
      exact g_zreturn hk z0 dX12_undo_20 (by cases h; rfl)
    · refine g_iconst hk (v := 1) rfl dX12_undo_15 ?_
      refine g_goto hk dX12_undo_16 ?_
      exact g_zreturn hk z1 dX12_undo_20 (by cases h; rfl)
  · refine g_aload_n hk 0 rfl dX12_undo_21 ?_
    refine g_dup hk rfl dX12_undo_22 ?_
    have g7 := zGI (i := 57) hm kdM_0 rfl
    refine g_get0 hk fl_X12_186 rfl (j := 57) rfl kdM_0 dX12_undo_23 ?_
    refine g_iconst hk (v := 1) rfl dX12_undo_26 ?_
    refine g_isub hk dX12_undo_27 ?_
    refine g_put0 hk fp_X12_186 rfl (j := 57) rfl kdM_0 (wI_c _) dX12_undo_28 h hm (fun m8 hm h => ?_)
    refine g_aload_n hk 0 rfl dX12_undo_31 ?_
    refine g_iconst hk (v := 0) rfl dX12_undo_32 ?_
    refine g_aload_n hk 0 rfl dX12_undo_33 ?_
    refine g_aload_n hk 0 rfl dX12_undo_34 ?_
    have g9 := zGI (i := 57) hm kdM_0 rfl
    refine g_get0 hk fl_X12_186 rfl (j := 57) rfl kdM_0 dX12_undo_35 ?_
    obtain ⟨r10, e11, h⟩ := zbind h
    refine g_callVi hk (st := [mI 0, .ref (kB K + 0)]) mf_X12_slot lk_X12_449 mv_X12_slot kdM_0 (by decide) rfl (Nat.le_of_ble_eq_true rfl) rfl dX12_undo_38 (met_M_slot _ _ _ _ _ hk.wd hm g9 e11) (fun hm c12 => ?_)
    obtain ⟨r13, e14, h⟩ := zbind h
    refine g_callVv hk (st := []) mf_X12_copies lk_X12_452 mv_X12_copies kdM_0 (by decide) rfl (Nat.le_of_ble_eq_true rfl) rfl dX12_undo_41 (met_M_copies _ _ _ _ _ hk.wd hm (cIk rfl) c12 e14) (fun hm => ?_)
    refine g_iconst hk (v := 1) rfl dX12_undo_44 ?_
    exact g_zreturn hk z1 dX12_undo_45 (by cases h; rfl)
theorem met_M_undo (l : Launch) (D : va_G) (aC : Nat → ClassId) (B N : Nat) (hwd : ∀ id, (kdM id).1 ≠ 9 → id < N) {m : zM} {o : Int × zM} (hm : zG kdM m)  (h : M_undo m = some o) : zMet l yX12_undo cX12_undo 1 (some .boolean) 1 D aC B kdM N [.ref (B + 0)] m (4, o.1, o.2) := by
  refine zMet.of mf_X12_undo hwd hm (Nat.le_of_ble_eq_true rfl) (fun K e1 e2 e3 e4 e5 hk => ?_)
  subst e4
  exact w_M_undo hk hm  h
set_option maxRecDepth 100000 in
set_option maxHeartbeats 4000000 in
theorem w_M_held {K : zK} (hk : zOk K kdM cX12_held 2 (some .long) RX12 0)  {x0 : Int} {m : zM} {o : Int}  (hm : zG kdM m) (cx0 : cL x0) (h : M_held x0 = some o) : GoAt K m [(0, mL x0)] [] 0 (1, o, m) := by
  unfold M_held at h
  refine g_lload_n hk 0 rfl dX12_held_0 ?_
  refine g_ldc2 hk (v := 1000000) cn_X12_455 dX12_held_1 ?_
  refine g_lcmp_le hk cx0 (cLk rfl) dX12_held_4 dX12_held_5 h (fun b1 h => ?_) (fun b1 h => ?_)
  · refine g_ldc2 hk (v := 1000000) cn_X12_455 dX12_held_8 ?_
    refine g_goto hk dX12_held_11 ?_
    exact g_lreturn hk (cLk rfl) dX12_held_29 (by cases h; rfl)
  · refine g_lload_n hk 0 rfl dX12_held_14 ?_
    refine g_ldc2 hk (v := (-1000000)) cn_X12_457 dX12_held_15 ?_
    refine g_lcmp_ge hk cx0 (cLk rfl) dX12_held_18 dX12_held_19 h (fun b2 h => ?_) (fun b2 h => ?_)
    · refine g_ldc2 hk (v := (-1000000)) cn_X12_457 dX12_held_22 ?_
      refine g_goto hk dX12_held_25 ?_
      exact g_lreturn hk (cLk rfl) dX12_held_29 (by cases h; rfl)
    · refine g_lload_n hk 0 rfl dX12_held_28 ?_
      exact g_lreturn hk cx0 dX12_held_29 (by cases h; rfl)
theorem met_M_held (l : Launch) (D : va_G) (aC : Nat → ClassId) (B N : Nat) (hwd : ∀ id, (kdM id).1 ≠ 9 → id < N) {x0 : Int} {m : zM} {o : Int} (hm : zG kdM m) (cx0 : cL x0) (h : M_held x0 = some o) : zMet l yX12_held cX12_held 2 (some .long) 0 D aC B kdM N [mL x0] m (1, o, m) := by
  refine zMet.of mf_X12_held hwd hm (Nat.le_of_ble_eq_true rfl) (fun K e1 e2 e3 e4 e5 hk => ?_)
  subst e4
  exact w_M_held hk hm cx0 h
set_option maxRecDepth 100000 in
set_option maxHeartbeats 4000000 in
theorem w_M_floor_b43 {K : zK} (hk : zOk K kdM cX12_floor 6 (some .long) RX12 0)  {x4 : Int} {s0 : Int} {s1 : Int} {m : zM} {o : Int}  (hm : zG kdM m) (cx4 : cL x4) (zs0 : zok 4 s0) (zs1 : zok 4 s1) (h : M_floor_b43 x4 s0 s1 = some o) : GoAt K m [(4, mL x4)] [mI s1, mI s0] 43 (1, o, m) := by
  unfold M_floor_b43 at h
  refine g_icmp_eq hk (b01 zs0) (b01 zs1) dX12_floor_43 h (fun b1 h => ?_) (fun b1 h => ?_)
  · refine g_lload hk 0 rfl dX12_floor_53 ?_
    exact g_lreturn hk cx4 dX12_floor_55 (by cases h; rfl)
  · refine g_lload hk 0 rfl dX12_floor_46 ?_
    refine g_lconst hk (v := 1) rfl dX12_floor_48 ?_
    refine g_lsub hk dX12_floor_49 ?_
    refine g_goto hk dX12_floor_50 ?_
    exact g_lreturn hk (wL_c _) dX12_floor_55 (by cases h; rfl)
set_option maxRecDepth 100000 in
set_option maxHeartbeats 4000000 in
theorem w_M_floor_b32 {K : zK} (hk : zOk K kdM cX12_floor 6 (some .long) RX12 0)  {x2 : Int} {x4 : Int} {s0 : Int} {m : zM} {o : Int}  (hm : zG kdM m) (cx2 : cL x2) (cx4 : cL x4) (zs0 : zok 4 s0) (h : M_floor_b32 x2 x4 s0 = some o) : GoAt K m [(2, mL x2), (4, mL x4)] [mI s0] 32 (1, o, m) := by
  unfold M_floor_b32 at h
  refine g_lload_n hk 0 rfl dX12_floor_32 ?_
  refine g_lconst hk (v := 0) rfl dX12_floor_33 ?_
  refine g_lcmp_ge hk cx2 (cLk rfl) dX12_floor_34 dX12_floor_35 h (fun b1 h => ?_) (fun b1 h => ?_)
  · refine g_iconst hk (v := 1) rfl dX12_floor_38 ?_
    refine g_goto hk dX12_floor_39 ?_
    refine GoAt.sub [1] rfl ?_
    exact w_M_floor_b43 hk hm cx4 zs0 z1 h
  · refine g_iconst hk (v := 0) rfl dX12_floor_42 ?_
    refine GoAt.sub [1] rfl ?_
    exact w_M_floor_b43 hk hm cx4 zs0 z0 h
set_option maxRecDepth 100000 in
set_option maxHeartbeats 4000000 in
theorem w_M_floor {K : zK} (hk : zOk K kdM cX12_floor 6 (some .long) RX12 0)  {x0 : Int} {x2 : Int} {m : zM} {o : Int}  (hm : zG kdM m) (cx0 : cL x0) (cx2 : cL x2) (h : M_floor x0 x2 = some o) : GoAt K m [(0, mL x0), (2, mL x2)] [] 0 (1, o, m) := by
  unfold M_floor at h
  refine g_lload_n hk 1 rfl dX12_floor_0 ?_
  refine g_lconst hk (v := 0) rfl dX12_floor_1 ?_
  refine g_lcmp_ne hk cx2 (cLk rfl) dX12_floor_2 dX12_floor_3 h (fun b1 h => ?_) (fun b1 h => ?_)
  · refine g_lconst hk (v := 0) rfl dX12_floor_6 ?_
    exact g_lreturn hk (cLk rfl) dX12_floor_7 (by cases h; rfl)
  · refine g_lload_n hk 0 rfl dX12_floor_8 ?_
    refine g_lload_n hk 1 rfl dX12_floor_9 ?_
    obtain ⟨hz2, h⟩ := g_nz h
    refine g_ldiv hk cx2 hz2 dX12_floor_10 ?_
    refine g_lstore hk (lv' := [(4, mL (dvL x0 x2)), (0, mL x0), (2, mL x2)]) (Nat.le_of_ble_eq_true rfl) rfl dX12_floor_11 ?_
    refine g_lload_n hk 1 rfl dX12_floor_13 ?_
    refine g_lload_n hk 2 rfl dX12_floor_14 ?_
    obtain ⟨hz3, h⟩ := g_nz h
    refine g_lrem hk cx2 hz3 dX12_floor_15 ?_
    refine g_lconst hk (v := 0) rfl dX12_floor_16 ?_
    refine g_lcmp_eq hk (cL_t _) (cLk rfl) dX12_floor_17 dX12_floor_18 h (fun b4 h => ?_) (fun b4 h => ?_)
    · refine g_lload hk 0 rfl dX12_floor_53 ?_
      exact g_lreturn hk (cL_t _) dX12_floor_55 (by cases h; rfl)
    · refine g_lload_n hk 1 rfl dX12_floor_21 ?_
      refine g_lconst hk (v := 0) rfl dX12_floor_22 ?_
      refine g_lcmp_ge hk cx0 (cLk rfl) dX12_floor_23 dX12_floor_24 h (fun b5 h => ?_) (fun b5 h => ?_)
      · refine g_iconst hk (v := 1) rfl dX12_floor_27 ?_
        refine g_goto hk dX12_floor_28 ?_
        refine GoAt.sub [2, 0] rfl ?_
        exact w_M_floor_b32 hk hm cx2 (cL_t _) z1 h
      · refine g_iconst hk (v := 0) rfl dX12_floor_31 ?_
        refine GoAt.sub [2, 0] rfl ?_
        exact w_M_floor_b32 hk hm cx2 (cL_t _) z0 h
theorem met_M_floor (l : Launch) (D : va_G) (aC : Nat → ClassId) (B N : Nat) (hwd : ∀ id, (kdM id).1 ≠ 9 → id < N) {x0 : Int} {x2 : Int} {m : zM} {o : Int} (hm : zG kdM m) (cx0 : cL x0) (cx2 : cL x2) (h : M_floor x0 x2 = some o) : zMet l yX12_floor cX12_floor 6 (some .long) 0 D aC B kdM N [mL x0, mL x2] m (1, o, m) := by
  refine zMet.of mf_X12_floor hwd hm (Nat.le_of_ble_eq_true rfl) (fun K e1 e2 e3 e4 e5 hk => ?_)
  subst e4
  exact w_M_floor hk hm cx0 cx2 h
set_option maxRecDepth 100000 in
set_option maxHeartbeats 4000000 in
theorem w_M_two {K : zK} (hk : zOk K kdM cX12_two 5 (some .long) RX12 1)  {x0 : Int} {x1 : Int} {x3 : Int} {m : zM} {o : Int}  (hm : zG kdM m) (cx0 : cI x0) (cx1 : cL x1) (cx3 : cL x3) (h : M_two x0 x1 x3 = some o) : GoAt K m [(0, mI x0), (1, mL x1), (3, mL x3)] [] 0 (1, o, m) := by
  unfold M_two at h
  refine g_iload_n hk 0 rfl dX12_two_0 ?_
  rcases zite h with ⟨e1, h⟩ | ⟨e1, h⟩
  · refine g_tin hk cx0 dX12_two_1 e1 (by decide) (by decide) rfl (by decide) (tgt := 60) ?_
    refine g_lload_n hk 1 rfl dX12_two_60 ?_
    refine g_lload_n hk 2 rfl dX12_two_61 ?_
    refine g_ladd hk dX12_two_62 ?_
    obtain ⟨r12, e13, h⟩ := zbind h
    refine g_callSl hk (st := []) mf_X12_held lk_X12_459 ms_X12_held (by decide) rfl (Nat.le_of_ble_eq_true rfl) rfl dX12_two_63 (met_M_held _ _ _ _ _ hk.wd hm (wL_c _) e13) (fun hm c14 => ?_)
    exact g_lreturn hk c14 dX12_two_66 (by cases h; rfl)
  rcases zite h with ⟨e2, h⟩ | ⟨e2, h⟩
  · refine g_tin hk cx0 dX12_two_1 e2 (by decide) (by decide) rfl (by decide) (tgt := 67) ?_
    refine g_lload_n hk 1 rfl dX12_two_67 ?_
    refine g_lload_n hk 2 rfl dX12_two_68 ?_
    refine g_lsub hk dX12_two_69 ?_
    obtain ⟨r15, e16, h⟩ := zbind h
    refine g_callSl hk (st := []) mf_X12_held lk_X12_459 ms_X12_held (by decide) rfl (Nat.le_of_ble_eq_true rfl) rfl dX12_two_70 (met_M_held _ _ _ _ _ hk.wd hm (wL_c _) e16) (fun hm c17 => ?_)
    exact g_lreturn hk c17 dX12_two_73 (by cases h; rfl)
  rcases zite h with ⟨e3, h⟩ | ⟨e3, h⟩
  · refine g_tin hk cx0 dX12_two_1 e3 (by decide) (by decide) rfl (by decide) (tgt := 74) ?_
    refine g_lload_n hk 1 rfl dX12_two_74 ?_
    refine g_lload_n hk 2 rfl dX12_two_75 ?_
    refine g_lmul hk dX12_two_76 ?_
    obtain ⟨r18, e19, h⟩ := zbind h
    refine g_callSl hk (st := []) mf_X12_held lk_X12_459 ms_X12_held (by decide) rfl (Nat.le_of_ble_eq_true rfl) rfl dX12_two_77 (met_M_held _ _ _ _ _ hk.wd hm (wL_c _) e19) (fun hm c20 => ?_)
    exact g_lreturn hk c20 dX12_two_80 (by cases h; rfl)
  rcases zite h with ⟨e4, h⟩ | ⟨e4, h⟩
  · refine g_tin hk cx0 dX12_two_1 e4 (by decide) (by decide) rfl (by decide) (tgt := 81) ?_
    refine g_lload_n hk 1 rfl dX12_two_81 ?_
    refine g_lload_n hk 2 rfl dX12_two_82 ?_
    obtain ⟨r21, e22, h⟩ := zbind h
    refine g_callSl hk (st := []) mf_X12_floor lk_X12_463 ms_X12_floor (by decide) rfl (Nat.le_of_ble_eq_true rfl) rfl dX12_two_83 (met_M_floor _ _ _ _ _ hk.wd hm cx1 cx3 e22) (fun hm c23 => ?_)
    obtain ⟨r24, e25, h⟩ := zbind h
    refine g_callSl hk (st := []) mf_X12_held lk_X12_459 ms_X12_held (by decide) rfl (Nat.le_of_ble_eq_true rfl) rfl dX12_two_86 (met_M_held _ _ _ _ _ hk.wd hm c23 e25) (fun hm c26 => ?_)
    exact g_lreturn hk c26 dX12_two_89 (by cases h; rfl)
  rcases zite h with ⟨e5, h⟩ | ⟨e5, h⟩
  · refine g_tin hk cx0 dX12_two_1 e5 (by decide) (by decide) rfl (by decide) (tgt := 90) ?_
    refine g_lload_n hk 2 rfl dX12_two_90 ?_
    refine g_lconst hk (v := 0) rfl dX12_two_91 ?_
    refine g_lcmp_ne hk cx3 (cLk rfl) dX12_two_92 dX12_two_93 h (fun b27 h => ?_) (fun b27 h => ?_)
    · refine g_lconst hk (v := 0) rfl dX12_two_96 ?_
      refine g_goto hk dX12_two_97 ?_
      exact g_lreturn hk (cLk rfl) dX12_two_112 (by cases h; rfl)
    · refine g_lload_n hk 1 rfl dX12_two_100 ?_
      refine g_lload_n hk 2 rfl dX12_two_101 ?_
      refine g_lload_n hk 1 rfl dX12_two_102 ?_
      refine g_lload_n hk 2 rfl dX12_two_103 ?_
      obtain ⟨r28, e29, h⟩ := zbind h
      refine g_callSl hk (st := [mL x3, mL x1]) mf_X12_floor lk_X12_463 ms_X12_floor (by decide) rfl (Nat.le_of_ble_eq_true rfl) rfl dX12_two_104 (met_M_floor _ _ _ _ _ hk.wd hm cx1 cx3 e29) (fun hm c30 => ?_)
      refine g_lmul hk dX12_two_107 ?_
      refine g_lsub hk dX12_two_108 ?_
      obtain ⟨r31, e32, h⟩ := zbind h
      refine g_callSl hk (st := []) mf_X12_held lk_X12_459 ms_X12_held (by decide) rfl (Nat.le_of_ble_eq_true rfl) rfl dX12_two_109 (met_M_held _ _ _ _ _ hk.wd hm (wL_c _) e32) (fun hm c33 => ?_)
      exact g_lreturn hk c33 dX12_two_112 (by cases h; rfl)
  rcases zite h with ⟨e6, h⟩ | ⟨e6, h⟩
  · refine g_tin hk cx0 dX12_two_1 e6 (by decide) (by decide) rfl (by decide) (tgt := 113) ?_
    refine g_lload_n hk 1 rfl dX12_two_113 ?_
    refine g_lload_n hk 2 rfl dX12_two_114 ?_
    refine g_lcmp_ge hk cx1 cx3 dX12_two_115 dX12_two_116 h (fun b34 h => ?_) (fun b34 h => ?_)
    · refine g_lload_n hk 1 rfl dX12_two_119 ?_
      refine g_goto hk dX12_two_120 ?_
      exact g_lreturn hk cx1 dX12_two_124 (by cases h; rfl)
    · refine g_lload_n hk 2 rfl dX12_two_123 ?_
      exact g_lreturn hk cx3 dX12_two_124 (by cases h; rfl)
  rcases zite h with ⟨e7, h⟩ | ⟨e7, h⟩
  · refine g_tin hk cx0 dX12_two_1 e7 (by decide) (by decide) rfl (by decide) (tgt := 125) ?_
    refine g_lload_n hk 1 rfl dX12_two_125 ?_
    refine g_lload_n hk 2 rfl dX12_two_126 ?_
    refine g_lcmp_le hk cx1 cx3 dX12_two_127 dX12_two_128 h (fun b35 h => ?_) (fun b35 h => ?_)
    · refine g_lload_n hk 1 rfl dX12_two_131 ?_
      refine g_goto hk dX12_two_132 ?_
      exact g_lreturn hk cx1 dX12_two_136 (by cases h; rfl)
    · refine g_lload_n hk 2 rfl dX12_two_135 ?_
      exact g_lreturn hk cx3 dX12_two_136 (by cases h; rfl)
  rcases zite h with ⟨e8, h⟩ | ⟨e8, h⟩
  · refine g_tin hk cx0 dX12_two_1 e8 (by decide) (by decide) rfl (by decide) (tgt := 137) ?_
    refine g_lload_n hk 1 rfl dX12_two_137 ?_
    refine g_lload_n hk 2 rfl dX12_two_138 ?_
    refine g_lcmp_ge hk cx1 cx3 dX12_two_139 dX12_two_140 h (fun b36 h => ?_) (fun b36 h => ?_)
    · refine g_lconst hk (v := 1) rfl dX12_two_143 ?_
      refine g_goto hk dX12_two_144 ?_
      exact g_lreturn hk (cLk rfl) dX12_two_148 (by cases h; rfl)
    · refine g_lconst hk (v := 0) rfl dX12_two_147 ?_
      exact g_lreturn hk (cLk rfl) dX12_two_148 (by cases h; rfl)
  rcases zite h with ⟨e9, h⟩ | ⟨e9, h⟩
  · refine g_tin hk cx0 dX12_two_1 e9 (by decide) (by decide) rfl (by decide) (tgt := 149) ?_
    refine g_lload_n hk 1 rfl dX12_two_149 ?_
    refine g_lload_n hk 2 rfl dX12_two_150 ?_
    refine g_lcmp_le hk cx1 cx3 dX12_two_151 dX12_two_152 h (fun b37 h => ?_) (fun b37 h => ?_)
    · refine g_lconst hk (v := 1) rfl dX12_two_155 ?_
      refine g_goto hk dX12_two_156 ?_
      exact g_lreturn hk (cLk rfl) dX12_two_160 (by cases h; rfl)
    · refine g_lconst hk (v := 0) rfl dX12_two_159 ?_
      exact g_lreturn hk (cLk rfl) dX12_two_160 (by cases h; rfl)
  rcases zite h with ⟨e10, h⟩ | ⟨e10, h⟩
  · refine g_tin hk cx0 dX12_two_1 e10 (by decide) (by decide) rfl (by decide) (tgt := 161) ?_
    refine g_lload_n hk 1 rfl dX12_two_161 ?_
    refine g_lload_n hk 2 rfl dX12_two_162 ?_
    refine g_lcmp_ne hk cx1 cx3 dX12_two_163 dX12_two_164 h (fun b38 h => ?_) (fun b38 h => ?_)
    · refine g_lconst hk (v := 1) rfl dX12_two_167 ?_
      refine g_goto hk dX12_two_168 ?_
      exact g_lreturn hk (cLk rfl) dX12_two_172 (by cases h; rfl)
    · refine g_lconst hk (v := 0) rfl dX12_two_171 ?_
      exact g_lreturn hk (cLk rfl) dX12_two_172 (by cases h; rfl)
  rcases zite h with ⟨e11, h⟩ | ⟨e11, h⟩
  · refine g_tin hk cx0 dX12_two_1 e11 (by decide) (by decide) rfl (by decide) (tgt := 173) ?_
    refine g_lload_n hk 1 rfl dX12_two_173 ?_
    refine g_lload_n hk 2 rfl dX12_two_174 ?_
    refine g_land hk dX12_two_175 ?_
    exact g_lreturn hk (cL_t _) dX12_two_176 (by cases h; rfl)
  refine g_tout hk cx0 dX12_two_1 (by omega) (by decide) (tgt := 177) ?_
  refine g_lload_n hk 1 rfl dX12_two_177 ?_
  refine g_lload_n hk 2 rfl dX12_two_178 ?_
  refine g_lor hk dX12_two_179 ?_
  exact g_lreturn hk (cL_t _) dX12_two_180 (by cases h; rfl)
theorem met_M_two (l : Launch) (D : va_G) (aC : Nat → ClassId) (B N : Nat) (hwd : ∀ id, (kdM id).1 ≠ 9 → id < N) {x0 : Int} {x1 : Int} {x3 : Int} {m : zM} {o : Int} (hm : zG kdM m) (cx0 : cI x0) (cx1 : cL x1) (cx3 : cL x3) (h : M_two x0 x1 x3 = some o) : zMet l yX12_two cX12_two 5 (some .long) 1 D aC B kdM N [mI x0, mL x1, mL x3] m (1, o, m) := by
  refine zMet.of mf_X12_two hwd hm (Nat.le_of_ble_eq_true rfl) (fun K e1 e2 e3 e4 e5 hk => ?_)
  subst e4
  exact w_M_two hk hm cx0 cx1 cx3 h
set_option maxRecDepth 100000 in
set_option maxHeartbeats 4000000 in
theorem w_M_reckons_B25 {K : zK} (hk : zOk K kdM cX12_reckons 5 (some .long) RX12 2) {rec : Int → Int → Int → zM → Option (Int × zM)} {x1 : Int} {x2 : Int} {x3 : Int} {m : zM} {o : Int × zM} (hrec : ∀ (x1 : Int) (x2 : Int) (x3 : Int) (m : zM), zG kdM m → cI x1 → cI x2 → cI x3 → rec x1 x2 x3 m = some o → GoAt K m [(0, .ref (kB K + 0)), (1, mI x1), (2, mI x2), (3, mI x3)] [] 25 (1, o.1, o.2)) (hm : zG kdM m) (cx1 : cI x1) (cx2 : cI x2) (cx3 : cI x3) (h : M_reckons_B25 rec x1 x2 x3 m = some o) : GoAt K m [(0, .ref (kB K + 0)), (1, mI x1), (2, mI x2), (3, mI x3)] [] 25 (1, o.1, o.2) := by
  unfold M_reckons_B25 at h
  refine g_iload_n hk 3 rfl dX12_reckons_25 ?_
  refine g_sipush hk (v := 1600) rfl dX12_reckons_26 ?_
  refine g_aload_n hk 0 rfl dX12_reckons_29 ?_
  have g1 := zGI (i := 13) hm kdM_0 rfl
  refine g_get0 hk fl_X12_51 rfl (j := 13) rfl kdM_0 dX12_reckons_30 ?_
  refine g_imul hk dX12_reckons_33 ?_
  refine g_aload_n hk 0 rfl dX12_reckons_34 ?_
  refine g_get2 hk fl_X12_90 rfl kdM_0 hm (b := 14) rfl dX12_reckons_35 ?_
  refine g_iconst hk (v := 2) rfl dX12_reckons_38 ?_
  refine g_aload_n hk 0 rfl dX12_reckons_39 ?_
  have g2 := zGI (i := 13) hm kdM_0 rfl
  refine g_get0 hk fl_X12_51 rfl (j := 13) rfl kdM_0 dX12_reckons_40 ?_
  refine g_imul hk dX12_reckons_43 ?_
  refine g_iload_n hk 1 rfl dX12_reckons_44 ?_
  refine g_iadd hk dX12_reckons_45 ?_
  refine g_iald hk (wI_c _) kdM_14 hm dX12_reckons_46 h (fun y3 cy3 h => ?_)
  refine g_iadd hk dX12_reckons_47 ?_
  refine g_icmp_ge hk cx3 (wI_c _) dX12_reckons_48 h (fun b4 h => ?_) (fun b4 h => ?_)
  · refine g_aload_n hk 0 rfl dX12_reckons_51 ?_
    refine g_get2 hk fl_X12_93 rfl kdM_0 hm (b := 15) rfl dX12_reckons_52 ?_
    refine g_iload_n hk 3 rfl dX12_reckons_55 ?_
    refine g_iald hk cx3 kdM_15 hm dX12_reckons_56 h (fun y5 cy5 h => ?_)
    refine g_istore hk (lv' := [(4, mI y5), (0, .ref (kB K + 0)), (1, mI x1), (2, mI x2), (3, mI x3)]) (Nat.le_of_ble_eq_true rfl) rfl dX12_reckons_57 ?_
    refine g_iload hk 0 rfl dX12_reckons_59 ?_
    refine g_bipush hk (v := 30) rfl dX12_reckons_61 ?_
    refine g_icmp_gt hk cy5 (cIk rfl) dX12_reckons_63 h (fun b6 h => ?_) (fun b6 h => ?_)
    · refine g_iload hk 0 rfl dX12_reckons_112 ?_
      refine g_bipush hk (v := 43) rfl dX12_reckons_114 ?_
      refine g_icmp_ne hk cy5 (cIk rfl) dX12_reckons_116 h (fun b7 h => ?_) (fun b7 h => ?_)
      · refine g_aload_n hk 1 rfl dX12_reckons_119 ?_
        refine g_get2 hk fl_X12_192 rfl kdM_0 hm (b := 37) rfl dX12_reckons_120 ?_
        refine g_iload_n hk 3 rfl dX12_reckons_123 ?_
        refine g_iconst hk (v := 1) rfl dX12_reckons_124 ?_
        refine g_isub hk dX12_reckons_125 ?_
        refine g_lconst hk (v := 1) rfl dX12_reckons_126 ?_
        refine g_aload_n hk 1 rfl dX12_reckons_127 ?_
        refine g_get2 hk fl_X12_192 rfl kdM_0 hm (b := 37) rfl dX12_reckons_128 ?_
        refine g_iload_n hk 3 rfl dX12_reckons_131 ?_
        refine g_iconst hk (v := 1) rfl dX12_reckons_132 ?_
        refine g_isub hk dX12_reckons_133 ?_
        refine g_lald hk (wI_c _) kdM_37 hm dX12_reckons_134 h (fun y8 cy8 h => ?_)
        refine g_lsub hk dX12_reckons_135 ?_
        refine g_last hk (wI_c _) (wL_c _) kdM_37 hm dX12_reckons_136 h (fun m9 hm h => ?_)
        refine g_goto hk dX12_reckons_137 ?_
        refine g_iinc hk (lv' := [(3, mI (wI (x3 + 1))), (4, mI y5), (0, .ref (kB K + 0)), (1, mI x1), (2, mI x2)]) 4 rfl (Nat.le_of_ble_eq_true rfl) rfl dX12_reckons_221 ?_
        refine g_goto hk dX12_reckons_224 ?_
        refine GoAt.sub [2, 3, 4, 0] rfl ?_
        exact hrec _ _ _ _ hm cx1 cx2 (wI_c _) h
      · refine g_iload hk 0 rfl dX12_reckons_140 ?_
        refine g_bipush hk (v := 44) rfl dX12_reckons_142 ?_
        refine g_icmp_ne hk cy5 (cIk rfl) dX12_reckons_144 h (fun b10 h => ?_) (fun b10 h => ?_)
        · refine g_iinc hk (lv' := [(2, mI (wI (x2 + (-2)))), (4, mI y5), (0, .ref (kB K + 0)), (1, mI x1), (3, mI x3)]) 3 rfl (Nat.le_of_ble_eq_true rfl) rfl dX12_reckons_147 ?_
          refine g_aload_n hk 2 rfl dX12_reckons_150 ?_
          refine g_get2 hk fl_X12_192 rfl kdM_0 hm (b := 37) rfl dX12_reckons_151 ?_
          refine g_iload_n hk 0 rfl dX12_reckons_154 ?_
          refine g_iconst hk (v := 1) rfl dX12_reckons_155 ?_
          refine g_isub hk dX12_reckons_156 ?_
          refine g_aload_n hk 2 rfl dX12_reckons_157 ?_
          refine g_get2 hk fl_X12_192 rfl kdM_0 hm (b := 37) rfl dX12_reckons_158 ?_
          refine g_iload_n hk 0 rfl dX12_reckons_161 ?_
          refine g_iconst hk (v := 1) rfl dX12_reckons_162 ?_
          refine g_isub hk dX12_reckons_163 ?_
          refine g_lald hk (wI_c _) kdM_37 hm dX12_reckons_164 h (fun y11 cy11 h => ?_)
          refine g_lconst hk (v := 1) rfl dX12_reckons_165 ?_
          refine g_lcmp_ne hk cy11 (cLk rfl) dX12_reckons_166 dX12_reckons_167 h (fun b12 h => ?_) (fun b12 h => ?_)
          · refine g_aload_n hk 2 rfl dX12_reckons_170 ?_
            refine g_get2 hk fl_X12_192 rfl kdM_0 hm (b := 37) rfl dX12_reckons_171 ?_
            refine g_iload_n hk 0 rfl dX12_reckons_174 ?_
            refine g_lald hk (wI_c _) kdM_37 hm dX12_reckons_175 h (fun y13 cy13 h => ?_)
            refine g_goto hk dX12_reckons_176 ?_
            refine g_last hk (wI_c _) cy13 kdM_37 hm dX12_reckons_187 h (fun m14 hm h => ?_)
            refine g_goto hk dX12_reckons_188 ?_
            refine g_iinc hk (lv' := [(3, mI (wI (x3 + 1))), (2, mI (wI (x2 + (-2)))), (4, mI y5), (0, .ref (kB K + 0)), (1, mI x1)]) 4 rfl (Nat.le_of_ble_eq_true rfl) rfl dX12_reckons_221 ?_
            refine g_goto hk dX12_reckons_224 ?_
            refine GoAt.sub [3, 4, 1, 0] rfl ?_
            exact hrec _ _ _ _ hm cx1 (wI_c _) (wI_c _) h
          · refine g_aload_n hk 2 rfl dX12_reckons_179 ?_
            refine g_get2 hk fl_X12_192 rfl kdM_0 hm (b := 37) rfl dX12_reckons_180 ?_
            refine g_iload_n hk 0 rfl dX12_reckons_183 ?_
            refine g_iconst hk (v := 1) rfl dX12_reckons_184 ?_
            refine g_iadd hk dX12_reckons_185 ?_
            refine g_lald hk (wI_c _) kdM_37 hm dX12_reckons_186 h (fun y15 cy15 h => ?_)
            refine g_last hk (wI_c _) cy15 kdM_37 hm dX12_reckons_187 h (fun m16 hm h => ?_)
            refine g_goto hk dX12_reckons_188 ?_
            refine g_iinc hk (lv' := [(3, mI (wI (x3 + 1))), (2, mI (wI (x2 + (-2)))), (4, mI y5), (0, .ref (kB K + 0)), (1, mI x1)]) 4 rfl (Nat.le_of_ble_eq_true rfl) rfl dX12_reckons_221 ?_
            refine g_goto hk dX12_reckons_224 ?_
            refine GoAt.sub [3, 4, 1, 0] rfl ?_
            exact hrec _ _ _ _ hm cx1 (wI_c _) (wI_c _) h
        · refine g_iinc hk (lv' := [(2, mI (wI (x2 + (-1)))), (4, mI y5), (0, .ref (kB K + 0)), (1, mI x1), (3, mI x3)]) 3 rfl (Nat.le_of_ble_eq_true rfl) rfl dX12_reckons_191 ?_
          refine g_aload_n hk 2 rfl dX12_reckons_194 ?_
          refine g_get2 hk fl_X12_192 rfl kdM_0 hm (b := 37) rfl dX12_reckons_195 ?_
          refine g_iload_n hk 0 rfl dX12_reckons_198 ?_
          refine g_iconst hk (v := 1) rfl dX12_reckons_199 ?_
          refine g_isub hk dX12_reckons_200 ?_
          refine g_iload hk 1 rfl dX12_reckons_201 ?_
          refine g_aload_n hk 2 rfl dX12_reckons_203 ?_
          refine g_get2 hk fl_X12_192 rfl kdM_0 hm (b := 37) rfl dX12_reckons_204 ?_
          refine g_iload_n hk 0 rfl dX12_reckons_207 ?_
          refine g_iconst hk (v := 1) rfl dX12_reckons_208 ?_
          refine g_isub hk dX12_reckons_209 ?_
          refine g_lald hk (wI_c _) kdM_37 hm dX12_reckons_210 h (fun y17 cy17 h => ?_)
          refine g_aload_n hk 2 rfl dX12_reckons_211 ?_
          refine g_get2 hk fl_X12_192 rfl kdM_0 hm (b := 37) rfl dX12_reckons_212 ?_
          refine g_iload_n hk 0 rfl dX12_reckons_215 ?_
          refine g_lald hk (wI_c _) kdM_37 hm dX12_reckons_216 h (fun y18 cy18 h => ?_)
          obtain ⟨r19, e20, h⟩ := zbind h
          refine g_callSl hk (st := [mI (wI ((wI (x2 + (-1))) - 1)), .ref (kB K + 37)]) mf_X12_two lk_X12_467 ms_X12_two (by decide) rfl (Nat.le_of_ble_eq_true rfl) rfl dX12_reckons_217 (met_M_two _ _ _ _ _ hk.wd hm cy5 cy17 cy18 e20) (fun hm c21 => ?_)
          refine g_last hk (wI_c _) c21 kdM_37 hm dX12_reckons_220 h (fun m22 hm h => ?_)
          refine g_iinc hk (lv' := [(3, mI (wI (x3 + 1))), (2, mI (wI (x2 + (-1)))), (4, mI y5), (0, .ref (kB K + 0)), (1, mI x1)]) 4 rfl (Nat.le_of_ble_eq_true rfl) rfl dX12_reckons_221 ?_
          refine g_goto hk dX12_reckons_224 ?_
          refine GoAt.sub [3, 4, 1, 0] rfl ?_
          exact hrec _ _ _ _ hm cx1 (wI_c _) (wI_c _) h
    · refine g_aload_n hk 1 rfl dX12_reckons_66 ?_
      refine g_get2 hk fl_X12_192 rfl kdM_0 hm (b := 37) rfl dX12_reckons_67 ?_
      refine g_iload_n hk 3 rfl dX12_reckons_70 ?_
      refine g_iload hk 0 rfl dX12_reckons_71 ?_
      refine g_if_ne hk cy5 dX12_reckons_73 h (fun b23 h => ?_) (fun b23 h => ?_)
      · refine g_aload_n hk 1 rfl dX12_reckons_76 ?_
        refine g_get2 hk fl_X12_96 rfl kdM_0 hm (b := 16) rfl dX12_reckons_77 ?_
        refine g_iload_n hk 4 rfl dX12_reckons_80 ?_
        refine g_iald hk cx3 kdM_16 hm dX12_reckons_81 h (fun y24 cy24 h => ?_)
        refine g_i2l hk cy24 dX12_reckons_82 ?_
        refine g_goto hk dX12_reckons_83 ?_
        refine g_last hk cx2 (cI_L cy24) kdM_37 hm dX12_reckons_105 h (fun m25 hm h => ?_)
        refine g_iinc hk (lv' := [(2, mI (wI (x2 + 1))), (4, mI y5), (0, .ref (kB K + 0)), (1, mI x1), (3, mI x3)]) 3 rfl (Nat.le_of_ble_eq_true rfl) rfl dX12_reckons_106 ?_
        refine g_goto hk dX12_reckons_109 ?_
        refine g_iinc hk (lv' := [(3, mI (wI (x3 + 1))), (2, mI (wI (x2 + 1))), (4, mI y5), (0, .ref (kB K + 0)), (1, mI x1)]) 4 rfl (Nat.le_of_ble_eq_true rfl) rfl dX12_reckons_221 ?_
        refine g_goto hk dX12_reckons_224 ?_
        refine GoAt.sub [3, 4, 1, 0] rfl ?_
        exact hrec _ _ _ _ hm cx1 (wI_c _) (wI_c _) h
      · refine g_iload hk 0 rfl dX12_reckons_86 ?_
        refine g_bipush hk (v := 30) rfl dX12_reckons_88 ?_
        refine g_icmp_ne hk cy5 (cIk rfl) dX12_reckons_90 h (fun b26 h => ?_) (fun b26 h => ?_)
        · refine g_lconst hk (v := 1) rfl dX12_reckons_93 ?_
          refine g_goto hk dX12_reckons_94 ?_
          refine g_last hk cx2 (cLk rfl) kdM_37 hm dX12_reckons_105 h (fun m27 hm h => ?_)
          refine g_iinc hk (lv' := [(2, mI (wI (x2 + 1))), (4, mI y5), (0, .ref (kB K + 0)), (1, mI x1), (3, mI x3)]) 3 rfl (Nat.le_of_ble_eq_true rfl) rfl dX12_reckons_106 ?_
          refine g_goto hk dX12_reckons_109 ?_
          refine g_iinc hk (lv' := [(3, mI (wI (x3 + 1))), (2, mI (wI (x2 + 1))), (4, mI y5), (0, .ref (kB K + 0)), (1, mI x1)]) 4 rfl (Nat.le_of_ble_eq_true rfl) rfl dX12_reckons_221 ?_
          refine g_goto hk dX12_reckons_224 ?_
          refine GoAt.sub [3, 4, 1, 0] rfl ?_
          exact hrec _ _ _ _ hm cx1 (wI_c _) (wI_c _) h
        · refine g_aload_n hk 1 rfl dX12_reckons_97 ?_
          refine g_get2 hk fl_X12_195 rfl kdM_0 hm (b := 38) rfl dX12_reckons_98 ?_
          refine g_iload hk 0 rfl dX12_reckons_101 ?_
          refine g_iald hk cy5 kdM_38 hm dX12_reckons_103 h (fun y28 cy28 h => ?_)
          refine g_i2l hk cy28 dX12_reckons_104 ?_
          refine g_last hk cx2 (cI_L cy28) kdM_37 hm dX12_reckons_105 h (fun m29 hm h => ?_)
          refine g_iinc hk (lv' := [(2, mI (wI (x2 + 1))), (4, mI y5), (0, .ref (kB K + 0)), (1, mI x1), (3, mI x3)]) 3 rfl (Nat.le_of_ble_eq_true rfl) rfl dX12_reckons_106 ?_
          refine g_goto hk dX12_reckons_109 ?_
          refine g_iinc hk (lv' := [(3, mI (wI (x3 + 1))), (2, mI (wI (x2 + 1))), (4, mI y5), (0, .ref (kB K + 0)), (1, mI x1)]) 4 rfl (Nat.le_of_ble_eq_true rfl) rfl dX12_reckons_221 ?_
          refine g_goto hk dX12_reckons_224 ?_
          refine GoAt.sub [3, 4, 1, 0] rfl ?_
          exact hrec _ _ _ _ hm cx1 (wI_c _) (wI_c _) h
  · refine g_aload_n hk 0 rfl dX12_reckons_227 ?_
    refine g_get2 hk fl_X12_192 rfl kdM_0 hm (b := 37) rfl dX12_reckons_228 ?_
    refine g_iconst hk (v := 0) rfl dX12_reckons_231 ?_
    refine g_lald hk (cIk rfl) kdM_37 hm dX12_reckons_232 h (fun y30 cy30 h => ?_)
    exact g_lreturn hk cy30 dX12_reckons_233 (by cases h; rfl)
theorem w_M_reckons_L25 {K : zK} (hk : zOk K kdM cX12_reckons 5 (some .long) RX12 2)  {o : Int × zM}  : ∀ (n : Nat) (x1 : Int) (x2 : Int) (x3 : Int) (m : zM), zG kdM m → cI x1 → cI x2 → cI x3 → M_reckons_L25 n x1 x2 x3 m = some o → GoAt K m [(0, .ref (kB K + 0)), (1, mI x1), (2, mI x2), (3, mI x3)] [] 25 (1, o.1, o.2)
  | 0, x1, x2, x3, m, hm, cx1, cx2, cx3, h => by cases h
  | n + 1, x1, x2, x3, m, hm, cx1, cx2, cx3, h => w_M_reckons_B25 hk  (w_M_reckons_L25 hk  n) hm cx1 cx2 cx3 h
set_option maxRecDepth 100000 in
set_option maxHeartbeats 4000000 in
theorem w_M_reckons {K : zK} (hk : zOk K kdM cX12_reckons 5 (some .long) RX12 2)  {x1 : Int} {m : zM} {o : Int × zM}  (hm : zG kdM m) (cx1 : cI x1) (h : M_reckons x1 m = some o) : GoAt K m [(0, .ref (kB K + 0)), (1, mI x1)] [] 0 (1, o.1, o.2) := by
  unfold M_reckons at h
  refine g_iconst hk (v := 0) rfl dX12_reckons_0 ?_
  refine g_istore_n hk rfl (lv' := [(2, mI 0), (0, .ref (kB K + 0)), (1, mI x1)]) (Nat.le_of_ble_eq_true rfl) rfl dX12_reckons_1 ?_
  refine g_sipush hk (v := 1600) rfl dX12_reckons_2 ?_
  refine g_aload_n hk 1 rfl dX12_reckons_5 ?_
  have g1 := zGI (i := 13) hm kdM_0 rfl
  refine g_get0 hk fl_X12_51 rfl (j := 13) rfl kdM_0 dX12_reckons_6 ?_
  refine g_imul hk dX12_reckons_9 ?_
  refine g_aload_n hk 1 rfl dX12_reckons_10 ?_
  refine g_get2 hk fl_X12_87 rfl kdM_0 hm (b := 13) rfl dX12_reckons_11 ?_
  refine g_iconst hk (v := 2) rfl dX12_reckons_14 ?_
  refine g_aload_n hk 1 rfl dX12_reckons_15 ?_
  have g2 := zGI (i := 13) hm kdM_0 rfl
  refine g_get0 hk fl_X12_51 rfl (j := 13) rfl kdM_0 dX12_reckons_16 ?_
  refine g_imul hk dX12_reckons_19 ?_
  refine g_iload_n hk 2 rfl dX12_reckons_20 ?_
  refine g_iadd hk dX12_reckons_21 ?_
  refine g_iald hk (wI_c _) kdM_13 hm dX12_reckons_22 h (fun y3 cy3 h => ?_)
  refine g_iadd hk dX12_reckons_23 ?_
  refine g_let (wI_c _) h (fun v4 cv4 h => ?_)
  refine g_istore_n hk rfl (lv' := [(3, mI v4), (2, mI 0), (0, .ref (kB K + 0)), (1, mI x1)]) (Nat.le_of_ble_eq_true rfl) rfl dX12_reckons_24 ?_
  refine GoAt.sub [2, 3, 1, 0] rfl ?_
  refine w_M_reckons_L25 hk  1000000 _ _ _ _ hm cx1 (cIk rfl) cv4 h
theorem met_M_reckons (l : Launch) (D : va_G) (aC : Nat → ClassId) (B N : Nat) (hwd : ∀ id, (kdM id).1 ≠ 9 → id < N) {x1 : Int} {m : zM} {o : Int × zM} (hm : zG kdM m) (cx1 : cI x1) (h : M_reckons x1 m = some o) : zMet l yX12_reckons cX12_reckons 5 (some .long) 2 D aC B kdM N [.ref (B + 0), mI x1] m (1, o.1, o.2) := by
  refine zMet.of mf_X12_reckons hwd hm (Nat.le_of_ble_eq_true rfl) (fun K e1 e2 e3 e4 e5 hk => ?_)
  subst e4
  exact w_M_reckons hk hm cx1 h
set_option maxRecDepth 100000 in
set_option maxHeartbeats 4000000 in
theorem w_M_isTold {K : zK} (hk : zOk K kdM cX12_isTold 2 (some .boolean) RX12 0)  {x1 : Int} {m : zM} {o : Int}  (hm : zG kdM m) (cx1 : cI x1) (h : M_isTold x1 m = some o) : GoAt K m [(0, .ref (kB K + 0)), (1, mI x1)] [] 0 (4, o, m) := by
  unfold M_isTold at h
  refine g_aload_n hk 0 rfl dX12_isTold_0 ?_
  refine g_get2 hk fl_X12_87 rfl kdM_0 hm (b := 13) rfl dX12_isTold_1 ?_
  refine g_iconst hk (v := 2) rfl dX12_isTold_4 ?_
  refine g_aload_n hk 0 rfl dX12_isTold_5 ?_
  have g1 := zGI (i := 13) hm kdM_0 rfl
  refine g_get0 hk fl_X12_51 rfl (j := 13) rfl kdM_0 dX12_isTold_6 ?_
  refine g_imul hk dX12_isTold_9 ?_
  refine g_iload_n hk 1 rfl dX12_isTold_10 ?_
  refine g_iadd hk dX12_isTold_11 ?_
  refine g_iald hk (wI_c _) kdM_13 hm dX12_isTold_12 h (fun y2 cy2 h => ?_)
  refine g_iconst hk (v := (-1)) rfl dX12_isTold_13 ?_
  refine g_icmp_eq hk cy2 (cIk rfl) dX12_isTold_14 h (fun b3 h => ?_) (fun b3 h => ?_)
  · refine g_iconst hk (v := 0) rfl dX12_isTold_21 ?_
    exact g_zreturn hk z0 dX12_isTold_22 (by cases h; rfl)
  · refine g_iconst hk (v := 1) rfl dX12_isTold_17 ?_
    refine g_goto hk dX12_isTold_18 ?_
    exact g_zreturn hk z1 dX12_isTold_22 (by cases h; rfl)
theorem met_M_isTold (l : Launch) (D : va_G) (aC : Nat → ClassId) (B N : Nat) (hwd : ∀ id, (kdM id).1 ≠ 9 → id < N) {x1 : Int} {m : zM} {o : Int} (hm : zG kdM m) (cx1 : cI x1) (h : M_isTold x1 m = some o) : zMet l yX12_isTold cX12_isTold 2 (some .boolean) 0 D aC B kdM N [.ref (B + 0), mI x1] m (4, o, m) := by
  refine zMet.of mf_X12_isTold hwd hm (Nat.le_of_ble_eq_true rfl) (fun K e1 e2 e3 e4 e5 hk => ?_)
  subst e4
  exact w_M_isTold hk hm cx1 h
set_option maxRecDepth 100000 in
set_option maxHeartbeats 4000000 in
theorem w_M_look {K : zK} (hk : zOk K kdM cX12_look 4 (some .int) RX12 0)  {x1 : Int} {x2 : Int} {x3 : Int} {m : zM} {o : Int}  (hm : zG kdM m) (cx1 : cI x1) (cx2 : cI x2) (cx3 : cI x3) (h : M_look x1 x2 x3 m = some o) : GoAt K m [(0, .ref (kB K + 0)), (1, mI x1), (2, mI x2), (3, mI x3)] [] 0 (0, o, m) := by
  unfold M_look at h
  refine g_aload_n hk 0 rfl dX12_look_0 ?_
  refine g_get2 hk fl_X12_159 rfl kdM_0 hm (b := 29) rfl dX12_look_1 ?_
  refine g_bipush hk (v := 24) rfl dX12_look_4 ?_
  refine g_iload_n hk 1 rfl dX12_look_6 ?_
  refine g_imul hk dX12_look_7 ?_
  refine g_iconst hk (v := 3) rfl dX12_look_8 ?_
  refine g_iload_n hk 2 rfl dX12_look_9 ?_
  refine g_imul hk dX12_look_10 ?_
  refine g_iadd hk dX12_look_11 ?_
  refine g_iload_n hk 3 rfl dX12_look_12 ?_
  refine g_iadd hk dX12_look_13 ?_
  refine g_iald hk (wI_c _) kdM_29 hm dX12_look_14 h (fun y1 cy1 h => ?_)
  exact g_ireturn hk cy1 dX12_look_15 (by cases h; rfl)
theorem met_M_look (l : Launch) (D : va_G) (aC : Nat → ClassId) (B N : Nat) (hwd : ∀ id, (kdM id).1 ≠ 9 → id < N) {x1 : Int} {x2 : Int} {x3 : Int} {m : zM} {o : Int} (hm : zG kdM m) (cx1 : cI x1) (cx2 : cI x2) (cx3 : cI x3) (h : M_look x1 x2 x3 m = some o) : zMet l yX12_look cX12_look 4 (some .int) 0 D aC B kdM N [.ref (B + 0), mI x1, mI x2, mI x3] m (0, o, m) := by
  refine zMet.of mf_X12_look hwd hm (Nat.le_of_ble_eq_true rfl) (fun K e1 e2 e3 e4 e5 hk => ?_)
  subst e4
  exact w_M_look hk hm cx1 cx2 cx3 h
set_option maxRecDepth 100000 in
set_option maxHeartbeats 4000000 in
theorem w_M_tasteIn {K : zK} (hk : zOk K kdM cX12_tasteIn 4 (some .int) RX12 0)  {x1 : Int} {x2 : Int} {x3 : Int} {m : zM} {o : Int}  (hm : zG kdM m) (cx1 : cI x1) (cx2 : cI x2) (cx3 : cI x3) (h : M_tasteIn x1 x2 x3 m = some o) : GoAt K m [(0, .ref (kB K + 0)), (1, mI x1), (2, mI x2), (3, mI x3)] [] 0 (0, o, m) := by
  unfold M_tasteIn at h
  refine g_aload_n hk 0 rfl dX12_tasteIn_0 ?_
  refine g_get2 hk fl_X12_168 rfl kdM_0 hm (b := 32) rfl dX12_tasteIn_1 ?_
  refine g_bipush hk (v := 18) rfl dX12_tasteIn_4 ?_
  refine g_iload_n hk 1 rfl dX12_tasteIn_6 ?_
  refine g_imul hk dX12_tasteIn_7 ?_
  refine g_iconst hk (v := 3) rfl dX12_tasteIn_8 ?_
  refine g_iload_n hk 2 rfl dX12_tasteIn_9 ?_
  refine g_imul hk dX12_tasteIn_10 ?_
  refine g_iadd hk dX12_tasteIn_11 ?_
  refine g_iload_n hk 3 rfl dX12_tasteIn_12 ?_
  refine g_iadd hk dX12_tasteIn_13 ?_
  refine g_iald hk (wI_c _) kdM_32 hm dX12_tasteIn_14 h (fun y1 cy1 h => ?_)
  exact g_ireturn hk cy1 dX12_tasteIn_15 (by cases h; rfl)
theorem met_M_tasteIn (l : Launch) (D : va_G) (aC : Nat → ClassId) (B N : Nat) (hwd : ∀ id, (kdM id).1 ≠ 9 → id < N) {x1 : Int} {x2 : Int} {x3 : Int} {m : zM} {o : Int} (hm : zG kdM m) (cx1 : cI x1) (cx2 : cI x2) (cx3 : cI x3) (h : M_tasteIn x1 x2 x3 m = some o) : zMet l yX12_tasteIn cX12_tasteIn 4 (some .int) 0 D aC B kdM N [.ref (B + 0), mI x1, mI x2, mI x3] m (0, o, m) := by
  refine zMet.of mf_X12_tasteIn hwd hm (Nat.le_of_ble_eq_true rfl) (fun K e1 e2 e3 e4 e5 hk => ?_)
  subst e4
  exact w_M_tasteIn hk hm cx1 cx2 cx3 h
set_option maxRecDepth 100000 in
set_option maxHeartbeats 4000000 in
theorem w_M_pair {K : zK} (hk : zOk K kdM cX12_pair 4 (some .int) RX12 0)  {x1 : Int} {x2 : Int} {x3 : Int} {m : zM} {o : Int}  (hm : zG kdM m) (cx1 : cI x1) (cx2 : cI x2) (cx3 : cI x3) (h : M_pair x1 x2 x3 = some o) : GoAt K m [(0, .ref (kB K + 0)), (1, mI x1), (2, mI x2), (3, mI x3)] [] 0 (0, o, m) := by
  unfold M_pair at h
  refine g_bipush hk (v := 48) rfl dX12_pair_0 ?_
  refine g_iload_n hk 1 rfl dX12_pair_2 ?_
  refine g_imul hk dX12_pair_3 ?_
  refine g_bipush hk (v := 8) rfl dX12_pair_4 ?_
  refine g_iload_n hk 2 rfl dX12_pair_6 ?_
  refine g_imul hk dX12_pair_7 ?_
  refine g_iadd hk dX12_pair_8 ?_
  refine g_iload_n hk 3 rfl dX12_pair_9 ?_
  refine g_iadd hk dX12_pair_10 ?_
  exact g_ireturn hk (wI_c _) dX12_pair_11 (by cases h; rfl)
theorem met_M_pair (l : Launch) (D : va_G) (aC : Nat → ClassId) (B N : Nat) (hwd : ∀ id, (kdM id).1 ≠ 9 → id < N) {x1 : Int} {x2 : Int} {x3 : Int} {m : zM} {o : Int} (hm : zG kdM m) (cx1 : cI x1) (cx2 : cI x2) (cx3 : cI x3) (h : M_pair x1 x2 x3 = some o) : zMet l yX12_pair cX12_pair 4 (some .int) 0 D aC B kdM N [.ref (B + 0), mI x1, mI x2, mI x3] m (0, o, m) := by
  refine zMet.of mf_X12_pair hwd hm (Nat.le_of_ble_eq_true rfl) (fun K e1 e2 e3 e4 e5 hk => ?_)
  subst e4
  exact w_M_pair hk hm cx1 cx2 cx3 h
set_option maxRecDepth 100000 in
set_option maxHeartbeats 4000000 in
theorem w_M_hourIn {K : zK} (hk : zOk K kdM cX12_hourIn 2 (some .int) RX12 0)  {x1 : Int} {m : zM} {o : Int}  (hm : zG kdM m) (cx1 : cI x1) (h : M_hourIn x1 m = some o) : GoAt K m [(0, .ref (kB K + 0)), (1, mI x1)] [] 0 (0, o, m) := by
  unfold M_hourIn at h
  refine g_aload_n hk 0 rfl dX12_hourIn_0 ?_
  refine g_get2 hk fl_X12_153 rfl kdM_0 hm (b := 27) rfl dX12_hourIn_1 ?_
  refine g_iload_n hk 1 rfl dX12_hourIn_4 ?_
  refine g_iald hk cx1 kdM_27 hm dX12_hourIn_5 h (fun y1 cy1 h => ?_)
  refine g_bipush hk (v := 24) rfl dX12_hourIn_6 ?_
  refine g_irem hk (cIk rfl) (by decide) dX12_hourIn_8 ?_
  exact g_ireturn hk (cI_t _) dX12_hourIn_9 (by cases h; rfl)
theorem met_M_hourIn (l : Launch) (D : va_G) (aC : Nat → ClassId) (B N : Nat) (hwd : ∀ id, (kdM id).1 ≠ 9 → id < N) {x1 : Int} {m : zM} {o : Int} (hm : zG kdM m) (cx1 : cI x1) (h : M_hourIn x1 m = some o) : zMet l yX12_hourIn cX12_hourIn 2 (some .int) 0 D aC B kdM N [.ref (B + 0), mI x1] m (0, o, m) := by
  refine zMet.of mf_X12_hourIn hwd hm (Nat.le_of_ble_eq_true rfl) (fun K e1 e2 e3 e4 e5 hk => ?_)
  subst e4
  exact w_M_hourIn hk hm cx1 h
set_option maxRecDepth 100000 in
set_option maxHeartbeats 4000000 in
theorem w_M_suiting_B6 {K : zK} (hk : zOk K kdM cX12_suiting 6 (some .int) RX12 1) {rec : Int → Int → Int → Int → Int → Option (Int)} {x1 : Int} {x2 : Int} {x3 : Int} {x4 : Int} {x5 : Int} {m : zM} {o : Int} (hrec : ∀ (x1 : Int) (x2 : Int) (x3 : Int) (x4 : Int) (x5 : Int), cI x1 → cI x2 → cI x3 → cI x4 → cI x5 → rec x1 x2 x3 x4 x5 = some o → GoAt K m [(0, .ref (kB K + 0)), (1, mI x1), (2, mI x2), (3, mI x3), (4, mI x4), (5, mI x5)] [] 6 (0, o, m)) (hm : zG kdM m) (cx1 : cI x1) (cx2 : cI x2) (cx3 : cI x3) (cx4 : cI x4) (cx5 : cI x5) (h : M_suiting_B6 rec x1 x2 x3 x4 x5 m = some o) : GoAt K m [(0, .ref (kB K + 0)), (1, mI x1), (2, mI x2), (3, mI x3), (4, mI x4), (5, mI x5)] [] 6 (0, o, m) := by
  unfold M_suiting_B6 at h
  refine g_iload hk 5 rfl dX12_suiting_6 ?_
  refine g_iconst hk (v := 3) rfl dX12_suiting_8 ?_
  refine g_icmp_ge hk cx5 (cIk rfl) dX12_suiting_9 h (fun b1 h => ?_) (fun b1 h => ?_)
  · refine g_iload hk 4 rfl dX12_suiting_12 ?_
    refine g_aload_n hk 0 rfl dX12_suiting_14 ?_
    refine g_iload_n hk 1 rfl dX12_suiting_15 ?_
    refine g_iload_n hk 3 rfl dX12_suiting_16 ?_
    refine g_iload hk 5 rfl dX12_suiting_17 ?_
    obtain ⟨r2, e3, h⟩ := zbind h
    refine g_callVi hk (st := [mI x4]) mf_X12_look lk_X12_471 mv_X12_look kdM_0 (by decide) rfl (Nat.le_of_ble_eq_true rfl) rfl dX12_suiting_19 (met_M_look _ _ _ _ _ hk.wd hm cx1 cx3 cx5 e3) (fun hm c4 => ?_)
    refine g_aload_n hk 0 rfl dX12_suiting_22 ?_
    refine g_iload_n hk 1 rfl dX12_suiting_23 ?_
    refine g_iload_n hk 2 rfl dX12_suiting_24 ?_
    refine g_iload hk 5 rfl dX12_suiting_25 ?_
    obtain ⟨r5, e6, h⟩ := zbind h
    refine g_callVi hk (st := [mI r2, mI x4]) mf_X12_tasteIn lk_X12_475 mv_X12_tasteIn kdM_0 (by decide) rfl (Nat.le_of_ble_eq_true rfl) rfl dX12_suiting_27 (met_M_tasteIn _ _ _ _ _ hk.wd hm cx1 cx2 cx5 e6) (fun hm c7 => ?_)
    refine g_imul hk dX12_suiting_30 ?_
    refine g_iadd hk dX12_suiting_31 ?_
    refine g_let (wI_c _) h (fun v8 cv8 h => ?_)
    refine g_istore hk (lv' := [(4, mI v8), (0, .ref (kB K + 0)), (1, mI x1), (2, mI x2), (3, mI x3), (5, mI x5)]) (Nat.le_of_ble_eq_true rfl) rfl dX12_suiting_32 ?_
    refine g_iinc hk (lv' := [(5, mI (wI (x5 + 1))), (4, mI v8), (0, .ref (kB K + 0)), (1, mI x1), (2, mI x2), (3, mI x3)]) 5 rfl (Nat.le_of_ble_eq_true rfl) rfl dX12_suiting_34 ?_
    refine g_goto hk dX12_suiting_37 ?_
    refine GoAt.sub [2, 3, 4, 5, 1, 0] rfl ?_
    exact hrec _ _ _ _ _ cx1 cx2 cx3 cv8 (wI_c _) h
  · refine g_iload hk 4 rfl dX12_suiting_40 ?_
    exact g_ireturn hk cx4 dX12_suiting_42 (by cases h; rfl)
theorem w_M_suiting_L6 {K : zK} (hk : zOk K kdM cX12_suiting 6 (some .int) RX12 1)  {o : Int} {m : zM} (hm : zG kdM m)  : ∀ (n : Nat) (x1 : Int) (x2 : Int) (x3 : Int) (x4 : Int) (x5 : Int), cI x1 → cI x2 → cI x3 → cI x4 → cI x5 → M_suiting_L6 m n x1 x2 x3 x4 x5 = some o → GoAt K m [(0, .ref (kB K + 0)), (1, mI x1), (2, mI x2), (3, mI x3), (4, mI x4), (5, mI x5)] [] 6 (0, o, m)
  | 0, x1, x2, x3, x4, x5, cx1, cx2, cx3, cx4, cx5, h => by cases h
  | n + 1, x1, x2, x3, x4, x5, cx1, cx2, cx3, cx4, cx5, h => w_M_suiting_B6 hk  (w_M_suiting_L6 hk hm  n) hm cx1 cx2 cx3 cx4 cx5 h
set_option maxRecDepth 100000 in
set_option maxHeartbeats 4000000 in
theorem w_M_suiting {K : zK} (hk : zOk K kdM cX12_suiting 6 (some .int) RX12 1)  {x1 : Int} {x2 : Int} {x3 : Int} {m : zM} {o : Int}  (hm : zG kdM m) (cx1 : cI x1) (cx2 : cI x2) (cx3 : cI x3) (h : M_suiting x1 x2 x3 m = some o) : GoAt K m [(0, .ref (kB K + 0)), (1, mI x1), (2, mI x2), (3, mI x3)] [] 0 (0, o, m) := by
  unfold M_suiting at h
  refine g_iconst hk (v := 0) rfl dX12_suiting_0 ?_
  refine g_istore hk (lv' := [(4, mI 0), (0, .ref (kB K + 0)), (1, mI x1), (2, mI x2), (3, mI x3)]) (Nat.le_of_ble_eq_true rfl) rfl dX12_suiting_1 ?_
  refine g_iconst hk (v := 0) rfl dX12_suiting_3 ?_
  refine g_istore hk (lv' := [(5, mI 0), (4, mI 0), (0, .ref (kB K + 0)), (1, mI x1), (2, mI x2), (3, mI x3)]) (Nat.le_of_ble_eq_true rfl) rfl dX12_suiting_4 ?_
  refine GoAt.sub [2, 3, 4, 5, 1, 0] rfl ?_
  refine w_M_suiting_L6 hk hm  1000000 _ _ _ _ _ cx1 cx2 cx3 (cIk rfl) (cIk rfl) h
theorem met_M_suiting (l : Launch) (D : va_G) (aC : Nat → ClassId) (B N : Nat) (hwd : ∀ id, (kdM id).1 ≠ 9 → id < N) {x1 : Int} {x2 : Int} {x3 : Int} {m : zM} {o : Int} (hm : zG kdM m) (cx1 : cI x1) (cx2 : cI x2) (cx3 : cI x3) (h : M_suiting x1 x2 x3 m = some o) : zMet l yX12_suiting cX12_suiting 6 (some .int) 1 D aC B kdM N [.ref (B + 0), mI x1, mI x2, mI x3] m (0, o, m) := by
  refine zMet.of mf_X12_suiting hwd hm (Nat.le_of_ble_eq_true rfl) (fun K e1 e2 e3 e4 e5 hk => ?_)
  subst e4
  exact w_M_suiting hk hm cx1 cx2 cx3 h
set_option maxRecDepth 100000 in
set_option maxHeartbeats 4000000 in
theorem w_M_tells {K : zK} (hk : zOk K kdM cX12_tells 4 none RX12 2)  {x1 : Int} {x2 : Int} {x3 : Int} {m : zM} {o : zM}  (hm : zG kdM m) (cx1 : cI x1) (cx2 : cI x2) (cx3 : cI x3) (h : M_tells x1 x2 x3 m = some o) : GoAt K m [(0, .ref (kB K + 0)), (1, mI x1), (2, mI x2), (3, mI x3)] [] 0 (9, 0, o) := by
  unfold M_tells at h
  refine g_aload_n hk 0 rfl dX12_tells_0 ?_
  refine g_get2 hk fl_X12_195 rfl kdM_0 hm (b := 38) rfl dX12_tells_1 ?_
  refine g_iconst hk (v := 1) rfl dX12_tells_4 ?_
  refine g_aload_n hk 0 rfl dX12_tells_5 ?_
  refine g_iload_n hk 1 rfl dX12_tells_6 ?_
  refine g_iload_n hk 2 rfl dX12_tells_7 ?_
  refine g_iload_n hk 3 rfl dX12_tells_8 ?_
  obtain ⟨r1, e2, h⟩ := zbind h
  refine g_callVi hk (st := [mI 1, .ref (kB K + 38)]) mf_X12_suiting lk_X12_478 mv_X12_suiting kdM_0 (by decide) rfl (Nat.le_of_ble_eq_true rfl) rfl dX12_tells_9 (met_M_suiting _ _ _ _ _ hk.wd hm cx1 cx2 cx3 e2) (fun hm c3 => ?_)
  refine g_iast hk (cIk rfl) c3 kdM_38 hm dX12_tells_12 h (fun m4 hm h => ?_)
  refine g_aload_n hk 0 rfl dX12_tells_13 ?_
  refine g_get2 hk fl_X12_195 rfl kdM_0 hm (b := 38) rfl dX12_tells_14 ?_
  refine g_iconst hk (v := 2) rfl dX12_tells_17 ?_
  refine g_aload_n hk 0 rfl dX12_tells_18 ?_
  refine g_get2 hk fl_X12_171 rfl kdM_0 hm (b := 33) rfl dX12_tells_19 ?_
  refine g_aload_n hk 0 rfl dX12_tells_22 ?_
  refine g_iload_n hk 1 rfl dX12_tells_23 ?_
  refine g_iload_n hk 2 rfl dX12_tells_24 ?_
  refine g_iload_n hk 3 rfl dX12_tells_25 ?_
  obtain ⟨r5, e6, h⟩ := zbind h
  refine g_callVi hk (st := [.ref (kB K + 33), mI 2, .ref (kB K + 38)]) mf_X12_pair lk_X12_481 mv_X12_pair kdM_0 (by decide) rfl (Nat.le_of_ble_eq_true rfl) rfl dX12_tells_26 (met_M_pair _ _ _ _ _ hk.wd hm cx1 cx2 cx3 e6) (fun hm c7 => ?_)
  refine g_iald hk c7 kdM_33 hm dX12_tells_29 h (fun y8 cy8 h => ?_)
  refine g_iast hk (cIk rfl) cy8 kdM_38 hm dX12_tells_30 h (fun m9 hm h => ?_)
  refine g_aload_n hk 0 rfl dX12_tells_31 ?_
  refine g_get2 hk fl_X12_195 rfl kdM_0 hm (b := 38) rfl dX12_tells_32 ?_
  refine g_iconst hk (v := 3) rfl dX12_tells_35 ?_
  refine g_aload_n hk 0 rfl dX12_tells_36 ?_
  refine g_iload_n hk 1 rfl dX12_tells_37 ?_
  obtain ⟨r10, e11, h⟩ := zbind h
  refine g_callVi hk (st := [mI 3, .ref (kB K + 38)]) mf_X12_hourIn lk_X12_483 mv_X12_hourIn kdM_0 (by decide) rfl (Nat.le_of_ble_eq_true rfl) rfl dX12_tells_38 (met_M_hourIn _ _ _ _ _ hk.wd hm cx1 e11) (fun hm c12 => ?_)
  refine g_iast hk (cIk rfl) c12 kdM_38 hm dX12_tells_41 h (fun m13 hm h => ?_)
  refine g_aload_n hk 0 rfl dX12_tells_42 ?_
  refine g_get2 hk fl_X12_195 rfl kdM_0 hm (b := 38) rfl dX12_tells_43 ?_
  refine g_iconst hk (v := 4) rfl dX12_tells_46 ?_
  refine g_aload_n hk 0 rfl dX12_tells_47 ?_
  refine g_iload_n hk 1 rfl dX12_tells_48 ?_
  refine g_iload_n hk 3 rfl dX12_tells_49 ?_
  refine g_iconst hk (v := 0) rfl dX12_tells_50 ?_
  obtain ⟨r14, e15, h⟩ := zbind h
  refine g_callVi hk (st := [mI 4, .ref (kB K + 38)]) mf_X12_look lk_X12_471 mv_X12_look kdM_0 (by decide) rfl (Nat.le_of_ble_eq_true rfl) rfl dX12_tells_51 (met_M_look _ _ _ _ _ hk.wd hm cx1 cx3 (cIk rfl) e15) (fun hm c16 => ?_)
  refine g_iast hk (cIk rfl) c16 kdM_38 hm dX12_tells_54 h (fun m17 hm h => ?_)
  refine g_aload_n hk 0 rfl dX12_tells_55 ?_
  refine g_get2 hk fl_X12_195 rfl kdM_0 hm (b := 38) rfl dX12_tells_56 ?_
  refine g_iconst hk (v := 5) rfl dX12_tells_59 ?_
  refine g_aload_n hk 0 rfl dX12_tells_60 ?_
  refine g_iload_n hk 1 rfl dX12_tells_61 ?_
  refine g_iload_n hk 3 rfl dX12_tells_62 ?_
  refine g_iconst hk (v := 1) rfl dX12_tells_63 ?_
  obtain ⟨r18, e19, h⟩ := zbind h
  refine g_callVi hk (st := [mI 5, .ref (kB K + 38)]) mf_X12_look lk_X12_471 mv_X12_look kdM_0 (by decide) rfl (Nat.le_of_ble_eq_true rfl) rfl dX12_tells_64 (met_M_look _ _ _ _ _ hk.wd hm cx1 cx3 (cIk rfl) e19) (fun hm c20 => ?_)
  refine g_iast hk (cIk rfl) c20 kdM_38 hm dX12_tells_67 h (fun m21 hm h => ?_)
  refine g_aload_n hk 0 rfl dX12_tells_68 ?_
  refine g_get2 hk fl_X12_195 rfl kdM_0 hm (b := 38) rfl dX12_tells_69 ?_
  refine g_bipush hk (v := 6) rfl dX12_tells_72 ?_
  refine g_aload_n hk 0 rfl dX12_tells_74 ?_
  refine g_iload_n hk 1 rfl dX12_tells_75 ?_
  refine g_iload_n hk 3 rfl dX12_tells_76 ?_
  refine g_iconst hk (v := 2) rfl dX12_tells_77 ?_
  obtain ⟨r22, e23, h⟩ := zbind h
  refine g_callVi hk (st := [mI 6, .ref (kB K + 38)]) mf_X12_look lk_X12_471 mv_X12_look kdM_0 (by decide) rfl (Nat.le_of_ble_eq_true rfl) rfl dX12_tells_78 (met_M_look _ _ _ _ _ hk.wd hm cx1 cx3 (cIk rfl) e23) (fun hm c24 => ?_)
  refine g_iast hk (cIk rfl) c24 kdM_38 hm dX12_tells_81 h (fun m25 hm h => ?_)
  exact g_return hk dX12_tells_82 (by cases h; rfl)
theorem met_M_tells (l : Launch) (D : va_G) (aC : Nat → ClassId) (B N : Nat) (hwd : ∀ id, (kdM id).1 ≠ 9 → id < N) {x1 : Int} {x2 : Int} {x3 : Int} {m : zM} {o : zM} (hm : zG kdM m) (cx1 : cI x1) (cx2 : cI x2) (cx3 : cI x3) (h : M_tells x1 x2 x3 m = some o) : zMet l yX12_tells cX12_tells 4 none 2 D aC B kdM N [.ref (B + 0), mI x1, mI x2, mI x3] m (9, 0, o) := by
  refine zMet.of mf_X12_tells hwd hm (Nat.le_of_ble_eq_true rfl) (fun K e1 e2 e3 e4 e5 hk => ?_)
  subst e4
  exact w_M_tells hk hm cx1 cx2 cx3 h
set_option maxRecDepth 100000 in
set_option maxHeartbeats 4000000 in
theorem w_M_liked {K : zK} (hk : zOk K kdM cX12_liked 6 (some .int) RX12 3)  {x1 : Int} {x2 : Int} {x3 : Int} {m : zM} {o : Int × zM}  (hm : zG kdM m) (cx1 : cI x1) (cx2 : cI x2) (cx3 : cI x3) (h : M_liked x1 x2 x3 m = some o) : GoAt K m [(0, .ref (kB K + 0)), (1, mI x1), (2, mI x2), (3, mI x3)] [] 0 (0, o.1, o.2) := by
  unfold M_liked at h
  refine g_aload_n hk 0 rfl dX12_liked_0 ?_
  refine g_iconst hk (v := 0) rfl dX12_liked_1 ?_
  obtain ⟨r1, e2, h⟩ := zbind h
  refine g_callVz hk (st := []) mf_X12_isTold lk_X12_486 mv_X12_isTold kdM_0 (by decide) rfl (Nat.le_of_ble_eq_true rfl) rfl dX12_liked_2 (met_M_isTold _ _ _ _ _ hk.wd hm (cIk rfl) e2) (fun hm c3 => ?_)
  refine g_if_ne hk (b01 c3) dX12_liked_5 h (fun b4 h => ?_) (fun b4 h => ?_)
  · refine g_aload_n hk 0 rfl dX12_liked_8 ?_
    refine g_iload_n hk 1 rfl dX12_liked_9 ?_
    refine g_iload_n hk 2 rfl dX12_liked_10 ?_
    refine g_iload_n hk 3 rfl dX12_liked_11 ?_
    obtain ⟨r5, e6, h⟩ := zbind h
    refine g_callVi hk (st := []) mf_X12_suiting lk_X12_478 mv_X12_suiting kdM_0 (by decide) rfl (Nat.le_of_ble_eq_true rfl) rfl dX12_liked_12 (met_M_suiting _ _ _ _ _ hk.wd hm cx1 cx2 cx3 e6) (fun hm c7 => ?_)
    refine g_iconst hk (v := 1) rfl dX12_liked_15 ?_
    refine g_aload_n hk 0 rfl dX12_liked_16 ?_
    refine g_get2 hk fl_X12_171 rfl kdM_0 hm (b := 33) rfl dX12_liked_17 ?_
    refine g_aload_n hk 0 rfl dX12_liked_20 ?_
    refine g_iload_n hk 1 rfl dX12_liked_21 ?_
    refine g_iload_n hk 2 rfl dX12_liked_22 ?_
    refine g_iload_n hk 3 rfl dX12_liked_23 ?_
    obtain ⟨r8, e9, h⟩ := zbind h
    refine g_callVi hk (st := [.ref (kB K + 33), mI 1, mI r5]) mf_X12_pair lk_X12_481 mv_X12_pair kdM_0 (by decide) rfl (Nat.le_of_ble_eq_true rfl) rfl dX12_liked_24 (met_M_pair _ _ _ _ _ hk.wd hm cx1 cx2 cx3 e9) (fun hm c10 => ?_)
    refine g_iald hk c10 kdM_33 hm dX12_liked_27 h (fun y11 cy11 h => ?_)
    refine g_iadd hk dX12_liked_28 ?_
    obtain ⟨hz12, h⟩ := g_nz h
    refine g_idiv hk (wI_c _) hz12 dX12_liked_29 ?_
    exact g_ireturn hk (cI_t _) dX12_liked_30 (by cases h; rfl)
  · refine g_aload_n hk 0 rfl dX12_liked_31 ?_
    refine g_iload_n hk 1 rfl dX12_liked_32 ?_
    refine g_iload_n hk 2 rfl dX12_liked_33 ?_
    refine g_iload_n hk 3 rfl dX12_liked_34 ?_
    obtain ⟨r13, e14, h⟩ := zbind h
    refine g_callVv hk (st := []) mf_X12_tells lk_X12_489 mv_X12_tells kdM_0 (by decide) rfl (Nat.le_of_ble_eq_true rfl) rfl dX12_liked_35 (met_M_tells _ _ _ _ _ hk.wd hm cx1 cx2 cx3 e14) (fun hm => ?_)
    refine g_aload_n hk 0 rfl dX12_liked_38 ?_
    refine g_iconst hk (v := 0) rfl dX12_liked_39 ?_
    obtain ⟨r16, e17, h⟩ := zbind h
    refine g_callVl hk (st := []) mf_X12_reckons lk_X12_492 mv_X12_reckons kdM_0 (by decide) rfl (Nat.le_of_ble_eq_true rfl) rfl dX12_liked_40 (met_M_reckons _ _ _ _ _ hk.wd hm (cIk rfl) e17) (fun hm c18 => ?_)
    refine g_lstore hk (lv' := [(4, mL r16.1), (0, .ref (kB K + 0)), (1, mI x1), (2, mI x2), (3, mI x3)]) (Nat.le_of_ble_eq_true rfl) rfl dX12_liked_43 ?_
    refine g_lload hk 0 rfl dX12_liked_45 ?_
    refine g_lconst hk (v := 0) rfl dX12_liked_47 ?_
    refine g_lcmp_ge hk c18 (cLk rfl) dX12_liked_48 dX12_liked_49 h (fun b19 h => ?_) (fun b19 h => ?_)
    · refine g_iconst hk (v := 0) rfl dX12_liked_52 ?_
      refine g_goto hk dX12_liked_53 ?_
      exact g_ireturn hk (cIk rfl) dX12_liked_74 (by cases h; rfl)
    · refine g_lload hk 0 rfl dX12_liked_56 ?_
      refine g_ldc2 hk (v := 999) cn_X12_496 dX12_liked_58 ?_
      refine g_lcmp_le hk c18 (cLk rfl) dX12_liked_61 dX12_liked_62 h (fun b20 h => ?_) (fun b20 h => ?_)
      · refine g_sipush hk (v := 999) rfl dX12_liked_65 ?_
        refine g_goto hk dX12_liked_68 ?_
        exact g_ireturn hk (cIk rfl) dX12_liked_74 (by cases h; rfl)
      · refine g_lload hk 0 rfl dX12_liked_71 ?_
        refine g_l2i hk c18 dX12_liked_73 ?_
        exact g_ireturn hk (wI_c _) dX12_liked_74 (by cases h; rfl)
theorem met_M_liked (l : Launch) (D : va_G) (aC : Nat → ClassId) (B N : Nat) (hwd : ∀ id, (kdM id).1 ≠ 9 → id < N) {x1 : Int} {x2 : Int} {x3 : Int} {m : zM} {o : Int × zM} (hm : zG kdM m) (cx1 : cI x1) (cx2 : cI x2) (cx3 : cI x3) (h : M_liked x1 x2 x3 m = some o) : zMet l yX12_liked cX12_liked 6 (some .int) 3 D aC B kdM N [.ref (B + 0), mI x1, mI x2, mI x3] m (0, o.1, o.2) := by
  refine zMet.of mf_X12_liked hwd hm (Nat.le_of_ble_eq_true rfl) (fun K e1 e2 e3 e4 e5 hk => ?_)
  subst e4
  exact w_M_liked hk hm cx1 cx2 cx3 h
set_option maxRecDepth 100000 in
set_option maxHeartbeats 4000000 in
theorem w_M_isFeared {K : zK} (hk : zOk K kdM cX12_isFeared 3 (some .boolean) RX12 1)  {x1 : Int} {x2 : Int} {m : zM} {o : Int}  (hm : zG kdM m) (cx1 : cI x1) (cx2 : cI x2) (h : M_isFeared x1 x2 m = some o) : GoAt K m [(0, .ref (kB K + 0)), (1, mI x1), (2, mI x2)] [] 0 (4, o, m) := by
  unfold M_isFeared at h
  refine g_aload_n hk 0 rfl dX12_isFeared_0 ?_
  refine g_get2 hk fl_X12_81 rfl kdM_0 hm (b := 11) rfl dX12_isFeared_1 ?_
  refine g_bipush hk (v := 8) rfl dX12_isFeared_4 ?_
  refine g_aload_n hk 0 rfl dX12_isFeared_6 ?_
  have g1 := zGI (i := 13) hm kdM_0 rfl
  refine g_get0 hk fl_X12_51 rfl (j := 13) rfl kdM_0 dX12_isFeared_7 ?_
  refine g_imul hk dX12_isFeared_10 ?_
  refine g_iload_n hk 1 rfl dX12_isFeared_11 ?_
  refine g_iadd hk dX12_isFeared_12 ?_
  refine g_iald hk (wI_c _) kdM_11 hm dX12_isFeared_13 h (fun y2 cy2 h => ?_)
  refine g_iload_n hk 2 rfl dX12_isFeared_14 ?_
  obtain ⟨r3, e4, h⟩ := zbind h
  refine g_callSz hk (st := []) mf_X12_has2 lk_X12_387 ms_X12_has2 (by decide) rfl (Nat.le_of_ble_eq_true rfl) rfl dX12_isFeared_15 (met_M_has2 _ _ _ _ _ hk.wd hm cy2 cx2 e4) (fun hm c5 => ?_)
  exact g_zreturn hk c5 dX12_isFeared_18 (by cases h; rfl)
theorem met_M_isFeared (l : Launch) (D : va_G) (aC : Nat → ClassId) (B N : Nat) (hwd : ∀ id, (kdM id).1 ≠ 9 → id < N) {x1 : Int} {x2 : Int} {m : zM} {o : Int} (hm : zG kdM m) (cx1 : cI x1) (cx2 : cI x2) (h : M_isFeared x1 x2 m = some o) : zMet l yX12_isFeared cX12_isFeared 3 (some .boolean) 1 D aC B kdM N [.ref (B + 0), mI x1, mI x2] m (4, o, m) := by
  refine zMet.of mf_X12_isFeared hwd hm (Nat.le_of_ble_eq_true rfl) (fun K e1 e2 e3 e4 e5 hk => ?_)
  subst e4
  exact w_M_isFeared hk hm cx1 cx2 h
set_option maxRecDepth 100000 in
set_option maxHeartbeats 4000000 in
theorem w_M_isAllowed_b55 {K : zK} (hk : zOk K kdM cX12_isAllowed 6 (some .boolean) RX12 4)  {x4 : Int} {a0 : Nat} {n0 : Nat} {s1 : Int} {s2 : Int} {m : zM} {o : Int × zM}  (hm : zG kdM m) (cx4 : cI x4) (ka0 : kdM a0 = (1, n0)) (cs1 : cI s1) (zs2 : zok 4 s2) (h : M_isAllowed_b55 x4 a0 n0 s1 s2 m = some o) : GoAt K m [(0, .ref (kB K + 0)), (4, mI x4)] [mI s2, mI s1, .ref (kB K + a0)] 55 (4, o.1, o.2) := by
  unfold M_isAllowed_b55 at h
  refine g_iast hk cs1 (b01 zs2) ka0 hm dX12_isAllowed_55 h (fun m1 hm h => ?_)
  refine g_aload_n hk 0 rfl dX12_isAllowed_56 ?_
  refine g_get2 hk fl_X12_195 rfl kdM_0 hm (b := 38) rfl dX12_isAllowed_57 ?_
  refine g_bipush hk (v := 9) rfl dX12_isAllowed_60 ?_
  refine g_iload hk 1 rfl dX12_isAllowed_62 ?_
  refine g_iast hk (cIk rfl) cx4 kdM_38 hm dX12_isAllowed_64 h (fun m2 hm h => ?_)
  refine g_aload_n hk 0 rfl dX12_isAllowed_65 ?_
  refine g_iconst hk (v := 1) rfl dX12_isAllowed_66 ?_
  obtain ⟨r3, e4, h⟩ := zbind h
  refine g_callVl hk (st := []) mf_X12_reckons lk_X12_492 mv_X12_reckons kdM_0 (by decide) rfl (Nat.le_of_ble_eq_true rfl) rfl dX12_isAllowed_67 (met_M_reckons _ _ _ _ _ hk.wd hm (cIk rfl) e4) (fun hm c5 => ?_)
  refine g_lconst hk (v := 1) rfl dX12_isAllowed_70 ?_
  refine g_lcmp_ne hk c5 (cLk rfl) dX12_isAllowed_71 dX12_isAllowed_72 h (fun b6 h => ?_) (fun b6 h => ?_)
  · refine g_iconst hk (v := 1) rfl dX12_isAllowed_75 ?_
    refine g_goto hk dX12_isAllowed_76 ?_
    exact g_zreturn hk z1 dX12_isAllowed_80 (by cases h; rfl)
  · refine g_iconst hk (v := 0) rfl dX12_isAllowed_79 ?_
    exact g_zreturn hk z0 dX12_isAllowed_80 (by cases h; rfl)
set_option maxRecDepth 100000 in
set_option maxHeartbeats 4000000 in
theorem w_M_isAllowed {K : zK} (hk : zOk K kdM cX12_isAllowed 6 (some .boolean) RX12 4)  {x1 : Int} {x2 : Int} {x3 : Int} {x4 : Int} {m : zM} {o : Int × zM}  (hm : zG kdM m) (cx1 : cI x1) (cx2 : cI x2) (cx3 : cI x3) (cx4 : cI x4) (h : M_isAllowed x1 x2 x3 x4 m = some o) : GoAt K m [(0, .ref (kB K + 0)), (1, mI x1), (2, mI x2), (3, mI x3), (4, mI x4)] [] 0 (4, o.1, o.2) := by
  unfold M_isAllowed at h
  refine g_aload_n hk 0 rfl dX12_isAllowed_0 ?_
  refine g_iconst hk (v := 1) rfl dX12_isAllowed_1 ?_
  obtain ⟨r1, e2, h⟩ := zbind h
  refine g_callVz hk (st := []) mf_X12_isTold lk_X12_486 mv_X12_isTold kdM_0 (by decide) rfl (Nat.le_of_ble_eq_true rfl) rfl dX12_isAllowed_2 (met_M_isTold _ _ _ _ _ hk.wd hm (cIk rfl) e2) (fun hm c3 => ?_)
  refine g_if_ne hk (b01 c3) dX12_isAllowed_5 h (fun b4 h => ?_) (fun b4 h => ?_)
  · refine g_iconst hk (v := 1) rfl dX12_isAllowed_8 ?_
    exact g_zreturn hk z1 dX12_isAllowed_9 (by cases h; rfl)
  · refine g_aload_n hk 0 rfl dX12_isAllowed_10 ?_
    refine g_iload_n hk 1 rfl dX12_isAllowed_11 ?_
    refine g_iload_n hk 2 rfl dX12_isAllowed_12 ?_
    refine g_iload_n hk 3 rfl dX12_isAllowed_13 ?_
    obtain ⟨r5, e6, h⟩ := zbind h
    refine g_callVi hk (st := []) mf_X12_liked lk_X12_498 mv_X12_liked kdM_0 (by decide) rfl (Nat.le_of_ble_eq_true rfl) rfl dX12_isAllowed_14 (met_M_liked _ _ _ _ _ hk.wd hm cx1 cx2 cx3 e6) (fun hm c7 => ?_)
    refine g_istore hk (lv' := [(5, mI r5.1), (0, .ref (kB K + 0)), (1, mI x1), (2, mI x2), (3, mI x3), (4, mI x4)]) (Nat.le_of_ble_eq_true rfl) rfl dX12_isAllowed_17 ?_
    refine g_aload_n hk 1 rfl dX12_isAllowed_19 ?_
    refine g_iload_n hk 2 rfl dX12_isAllowed_20 ?_
    refine g_iload_n hk 3 rfl dX12_isAllowed_21 ?_
    refine g_iload_n hk 4 rfl dX12_isAllowed_22 ?_
    obtain ⟨r8, e9, h⟩ := zbind h
    refine g_callVv hk (st := []) mf_X12_tells lk_X12_489 mv_X12_tells kdM_0 (by decide) rfl (Nat.le_of_ble_eq_true rfl) rfl dX12_isAllowed_23 (met_M_tells _ _ _ _ _ hk.wd hm cx1 cx2 cx3 e9) (fun hm => ?_)
    refine g_aload_n hk 1 rfl dX12_isAllowed_26 ?_
    refine g_get2 hk fl_X12_195 rfl kdM_0 hm (b := 38) rfl dX12_isAllowed_27 ?_
    refine g_bipush hk (v := 7) rfl dX12_isAllowed_30 ?_
    refine g_iload hk 0 rfl dX12_isAllowed_32 ?_
    refine g_iast hk (cIk rfl) c7 kdM_38 hm dX12_isAllowed_34 h (fun m11 hm h => ?_)
    refine g_aload_n hk 1 rfl dX12_isAllowed_35 ?_
    refine g_get2 hk fl_X12_195 rfl kdM_0 hm (b := 38) rfl dX12_isAllowed_36 ?_
    refine g_bipush hk (v := 8) rfl dX12_isAllowed_39 ?_
    refine g_aload_n hk 1 rfl dX12_isAllowed_41 ?_
    refine g_iload_n hk 4 rfl dX12_isAllowed_42 ?_
    refine g_iload_n hk 3 rfl dX12_isAllowed_43 ?_
    obtain ⟨r12, e13, h⟩ := zbind h
    refine g_callVz hk (st := [mI 8, .ref (kB K + 38)]) mf_X12_isFeared lk_X12_501 mv_X12_isFeared kdM_0 (by decide) rfl (Nat.le_of_ble_eq_true rfl) rfl dX12_isAllowed_44 (met_M_isFeared _ _ _ _ _ hk.wd hm cx3 cx2 e13) (fun hm c14 => ?_)
    refine g_if_eq hk (b01 c14) dX12_isAllowed_47 h (fun b15 h => ?_) (fun b15 h => ?_)
    · refine g_iconst hk (v := 0) rfl dX12_isAllowed_54 ?_
      refine GoAt.sub [1, 5] rfl ?_
      exact w_M_isAllowed_b55 hk hm cx4 kdM_38 (cIk rfl) z0 h
    · refine g_iconst hk (v := 1) rfl dX12_isAllowed_50 ?_
      refine g_goto hk dX12_isAllowed_51 ?_
      refine GoAt.sub [1, 5] rfl ?_
      exact w_M_isAllowed_b55 hk hm cx4 kdM_38 (cIk rfl) z1 h
theorem met_M_isAllowed (l : Launch) (D : va_G) (aC : Nat → ClassId) (B N : Nat) (hwd : ∀ id, (kdM id).1 ≠ 9 → id < N) {x1 : Int} {x2 : Int} {x3 : Int} {x4 : Int} {m : zM} {o : Int × zM} (hm : zG kdM m) (cx1 : cI x1) (cx2 : cI x2) (cx3 : cI x3) (cx4 : cI x4) (h : M_isAllowed x1 x2 x3 x4 m = some o) : zMet l yX12_isAllowed cX12_isAllowed 6 (some .boolean) 4 D aC B kdM N [.ref (B + 0), mI x1, mI x2, mI x3, mI x4] m (4, o.1, o.2) := by
  refine zMet.of mf_X12_isAllowed hwd hm (Nat.le_of_ble_eq_true rfl) (fun K e1 e2 e3 e4 e5 hk => ?_)
  subst e4
  exact w_M_isAllowed hk hm cx1 cx2 cx3 cx4 h
set_option maxRecDepth 100000 in
set_option maxHeartbeats 4000000 in
theorem w_M_isAwake {K : zK} (hk : zOk K kdM cX12_isAwake 3 (some .boolean) RX12 1)  {x1 : Int} {x2 : Int} {m : zM} {o : Int}  (hm : zG kdM m) (cx1 : cI x1) (cx2 : cI x2) (h : M_isAwake x1 x2 m = some o) : GoAt K m [(0, .ref (kB K + 0)), (1, mI x1), (2, mI x2)] [] 0 (4, o, m) := by
  unfold M_isAwake at h
  refine g_aload_n hk 0 rfl dX12_isAwake_0 ?_
  refine g_iload_n hk 1 rfl dX12_isAwake_1 ?_
  obtain ⟨r1, e2, h⟩ := zbind h
  refine g_callVi hk (st := []) mf_X12_hourIn lk_X12_483 mv_X12_hourIn kdM_0 (by decide) rfl (Nat.le_of_ble_eq_true rfl) rfl dX12_isAwake_2 (met_M_hourIn _ _ _ _ _ hk.wd hm cx1 e2) (fun hm c3 => ?_)
  refine g_aload_n hk 0 rfl dX12_isAwake_5 ?_
  refine g_get2 hk fl_X12_57 rfl kdM_0 hm (b := 3) rfl dX12_isAwake_6 ?_
  refine g_bipush hk (v := 6) rfl dX12_isAwake_9 ?_
  refine g_aload_n hk 0 rfl dX12_isAwake_11 ?_
  have g4 := zGI (i := 13) hm kdM_0 rfl
  refine g_get0 hk fl_X12_51 rfl (j := 13) rfl kdM_0 dX12_isAwake_12 ?_
  refine g_imul hk dX12_isAwake_15 ?_
  refine g_iload_n hk 2 rfl dX12_isAwake_16 ?_
  refine g_iadd hk dX12_isAwake_17 ?_
  refine g_iald hk (wI_c _) kdM_3 hm dX12_isAwake_18 h (fun y5 cy5 h => ?_)
  refine g_aload_n hk 0 rfl dX12_isAwake_19 ?_
  refine g_get2 hk fl_X12_60 rfl kdM_0 hm (b := 4) rfl dX12_isAwake_20 ?_
  refine g_bipush hk (v := 6) rfl dX12_isAwake_23 ?_
  refine g_aload_n hk 0 rfl dX12_isAwake_25 ?_
  have g6 := zGI (i := 13) hm kdM_0 rfl
  refine g_get0 hk fl_X12_51 rfl (j := 13) rfl kdM_0 dX12_isAwake_26 ?_
  refine g_imul hk dX12_isAwake_29 ?_
  refine g_iload_n hk 2 rfl dX12_isAwake_30 ?_
  refine g_iadd hk dX12_isAwake_31 ?_
  refine g_iald hk (wI_c _) kdM_4 hm dX12_isAwake_32 h (fun y7 cy7 h => ?_)
  obtain ⟨r8, e9, h⟩ := zbind h
  refine g_callSz hk (st := []) mf_X12_is lk_X12_345 ms_X12_is (by decide) rfl (Nat.le_of_ble_eq_true rfl) rfl dX12_isAwake_33 (met_M_is _ _ _ _ _ hk.wd hm c3 cy5 cy7 e9) (fun hm c10 => ?_)
  exact g_zreturn hk c10 dX12_isAwake_36 (by cases h; rfl)
theorem met_M_isAwake (l : Launch) (D : va_G) (aC : Nat → ClassId) (B N : Nat) (hwd : ∀ id, (kdM id).1 ≠ 9 → id < N) {x1 : Int} {x2 : Int} {m : zM} {o : Int} (hm : zG kdM m) (cx1 : cI x1) (cx2 : cI x2) (h : M_isAwake x1 x2 m = some o) : zMet l yX12_isAwake cX12_isAwake 3 (some .boolean) 1 D aC B kdM N [.ref (B + 0), mI x1, mI x2] m (4, o, m) := by
  refine zMet.of mf_X12_isAwake hwd hm (Nat.le_of_ble_eq_true rfl) (fun K e1 e2 e3 e4 e5 hk => ?_)
  subst e4
  exact w_M_isAwake hk hm cx1 cx2 h
set_option maxRecDepth 100000 in
set_option maxHeartbeats 4000000 in
theorem w_M_isThere {K : zK} (hk : zOk K kdM cX12_isThere 3 (some .boolean) RX12 1)  {x1 : Int} {x2 : Int} {m : zM} {o : Int}  (hm : zG kdM m) (cx1 : cI x1) (cx2 : cI x2) (h : M_isThere x1 x2 m = some o) : GoAt K m [(0, .ref (kB K + 0)), (1, mI x1), (2, mI x2)] [] 0 (4, o, m) := by
  unfold M_isThere at h
  refine g_aload_n hk 0 rfl dX12_isThere_0 ?_
  refine g_iload_n hk 1 rfl dX12_isThere_1 ?_
  obtain ⟨r1, e2, h⟩ := zbind h
  refine g_callVi hk (st := []) mf_X12_hourIn lk_X12_483 mv_X12_hourIn kdM_0 (by decide) rfl (Nat.le_of_ble_eq_true rfl) rfl dX12_isThere_2 (met_M_hourIn _ _ _ _ _ hk.wd hm cx1 e2) (fun hm c3 => ?_)
  refine g_aload_n hk 0 rfl dX12_isThere_5 ?_
  refine g_get2 hk fl_X12_75 rfl kdM_0 hm (b := 9) rfl dX12_isThere_6 ?_
  refine g_bipush hk (v := 8) rfl dX12_isThere_9 ?_
  refine g_aload_n hk 0 rfl dX12_isThere_11 ?_
  have g4 := zGI (i := 13) hm kdM_0 rfl
  refine g_get0 hk fl_X12_51 rfl (j := 13) rfl kdM_0 dX12_isThere_12 ?_
  refine g_imul hk dX12_isThere_15 ?_
  refine g_iload_n hk 2 rfl dX12_isThere_16 ?_
  refine g_iadd hk dX12_isThere_17 ?_
  refine g_iald hk (wI_c _) kdM_9 hm dX12_isThere_18 h (fun y5 cy5 h => ?_)
  refine g_aload_n hk 0 rfl dX12_isThere_19 ?_
  refine g_get2 hk fl_X12_78 rfl kdM_0 hm (b := 10) rfl dX12_isThere_20 ?_
  refine g_bipush hk (v := 8) rfl dX12_isThere_23 ?_
  refine g_aload_n hk 0 rfl dX12_isThere_25 ?_
  have g6 := zGI (i := 13) hm kdM_0 rfl
  refine g_get0 hk fl_X12_51 rfl (j := 13) rfl kdM_0 dX12_isThere_26 ?_
  refine g_imul hk dX12_isThere_29 ?_
  refine g_iload_n hk 2 rfl dX12_isThere_30 ?_
  refine g_iadd hk dX12_isThere_31 ?_
  refine g_iald hk (wI_c _) kdM_10 hm dX12_isThere_32 h (fun y7 cy7 h => ?_)
  obtain ⟨r8, e9, h⟩ := zbind h
  refine g_callSz hk (st := []) mf_X12_is lk_X12_345 ms_X12_is (by decide) rfl (Nat.le_of_ble_eq_true rfl) rfl dX12_isThere_33 (met_M_is _ _ _ _ _ hk.wd hm c3 cy5 cy7 e9) (fun hm c10 => ?_)
  exact g_zreturn hk c10 dX12_isThere_36 (by cases h; rfl)
theorem met_M_isThere (l : Launch) (D : va_G) (aC : Nat → ClassId) (B N : Nat) (hwd : ∀ id, (kdM id).1 ≠ 9 → id < N) {x1 : Int} {x2 : Int} {m : zM} {o : Int} (hm : zG kdM m) (cx1 : cI x1) (cx2 : cI x2) (h : M_isThere x1 x2 m = some o) : zMet l yX12_isThere cX12_isThere 3 (some .boolean) 1 D aC B kdM N [.ref (B + 0), mI x1, mI x2] m (4, o, m) := by
  refine zMet.of mf_X12_isThere hwd hm (Nat.le_of_ble_eq_true rfl) (fun K e1 e2 e3 e4 e5 hk => ?_)
  subst e4
  exact w_M_isThere hk hm cx1 cx2 h
set_option maxRecDepth 100000 in
set_option maxHeartbeats 4000000 in
theorem w_M_isOpenTo {K : zK} (hk : zOk K kdM cX12_isOpenTo 4 (some .boolean) RX12 2)  {x1 : Int} {x2 : Int} {x3 : Int} {m : zM} {o : Int}  (hm : zG kdM m) (cx1 : cI x1) (cx2 : cI x2) (cx3 : cI x3) (h : M_isOpenTo x1 x2 x3 m = some o) : GoAt K m [(0, .ref (kB K + 0)), (1, mI x1), (2, mI x2), (3, mI x3)] [] 0 (4, o, m) := by
  unfold M_isOpenTo at h
  refine g_aload_n hk 0 rfl dX12_isOpenTo_0 ?_
  refine g_iload_n hk 1 rfl dX12_isOpenTo_1 ?_
  refine g_iload_n hk 3 rfl dX12_isOpenTo_2 ?_
  obtain ⟨r1, e2, h⟩ := zbind h
  refine g_callVz hk (st := []) mf_X12_isThere lk_X12_504 mv_X12_isThere kdM_0 (by decide) rfl (Nat.le_of_ble_eq_true rfl) rfl dX12_isOpenTo_3 (met_M_isThere _ _ _ _ _ hk.wd hm cx1 cx3 e2) (fun hm c3 => ?_)
  refine g_if_eq hk (b01 c3) dX12_isOpenTo_6 h (fun b4 h => ?_) (fun b4 h => ?_)
  · refine g_iconst hk (v := 0) rfl dX12_isOpenTo_46 ?_
    exact g_zreturn hk z0 dX12_isOpenTo_47 (by cases h; rfl)
  · refine g_aload_n hk 0 rfl dX12_isOpenTo_9 ?_
    refine g_get2 hk fl_X12_165 rfl kdM_0 hm (b := 31) rfl dX12_isOpenTo_10 ?_
    refine g_bipush hk (v := 8) rfl dX12_isOpenTo_13 ?_
    refine g_iload_n hk 1 rfl dX12_isOpenTo_15 ?_
    refine g_imul hk dX12_isOpenTo_16 ?_
    refine g_iload_n hk 3 rfl dX12_isOpenTo_17 ?_
    refine g_iadd hk dX12_isOpenTo_18 ?_
    refine g_iald hk (wI_c _) kdM_31 hm dX12_isOpenTo_19 h (fun y5 cy5 h => ?_)
    refine g_iload_n hk 2 rfl dX12_isOpenTo_20 ?_
    obtain ⟨r6, e7, h⟩ := zbind h
    refine g_callSz hk (st := []) mf_X12_has2 lk_X12_387 ms_X12_has2 (by decide) rfl (Nat.le_of_ble_eq_true rfl) rfl dX12_isOpenTo_21 (met_M_has2 _ _ _ _ _ hk.wd hm cy5 cx2 e7) (fun hm c8 => ?_)
    refine g_if_ne hk (b01 c8) dX12_isOpenTo_24 h (fun b9 h => ?_) (fun b9 h => ?_)
    · refine g_aload_n hk 0 rfl dX12_isOpenTo_27 ?_
      refine g_get2 hk fl_X12_162 rfl kdM_0 hm (b := 30) rfl dX12_isOpenTo_28 ?_
      refine g_bipush hk (v := 8) rfl dX12_isOpenTo_31 ?_
      refine g_iload_n hk 1 rfl dX12_isOpenTo_33 ?_
      refine g_imul hk dX12_isOpenTo_34 ?_
      refine g_iload_n hk 3 rfl dX12_isOpenTo_35 ?_
      refine g_iadd hk dX12_isOpenTo_36 ?_
      refine g_iald hk (wI_c _) kdM_30 hm dX12_isOpenTo_37 h (fun y10 cy10 h => ?_)
      refine g_iconst hk (v := (-1)) rfl dX12_isOpenTo_38 ?_
      refine g_icmp_ne hk cy10 (cIk rfl) dX12_isOpenTo_39 h (fun b11 h => ?_) (fun b11 h => ?_)
      · refine g_iconst hk (v := 1) rfl dX12_isOpenTo_42 ?_
        refine g_goto hk dX12_isOpenTo_43 ?_
        exact g_zreturn hk z1 dX12_isOpenTo_47 (by cases h; rfl)
      · refine g_iconst hk (v := 0) rfl dX12_isOpenTo_46 ?_
        exact g_zreturn hk z0 dX12_isOpenTo_47 (by cases h; rfl)
    · refine g_iconst hk (v := 0) rfl dX12_isOpenTo_46 ?_
      exact g_zreturn hk z0 dX12_isOpenTo_47 (by cases h; rfl)
theorem met_M_isOpenTo (l : Launch) (D : va_G) (aC : Nat → ClassId) (B N : Nat) (hwd : ∀ id, (kdM id).1 ≠ 9 → id < N) {x1 : Int} {x2 : Int} {x3 : Int} {m : zM} {o : Int} (hm : zG kdM m) (cx1 : cI x1) (cx2 : cI x2) (cx3 : cI x3) (h : M_isOpenTo x1 x2 x3 m = some o) : zMet l yX12_isOpenTo cX12_isOpenTo 4 (some .boolean) 2 D aC B kdM N [.ref (B + 0), mI x1, mI x2, mI x3] m (4, o, m) := by
  refine zMet.of mf_X12_isOpenTo hwd hm (Nat.le_of_ble_eq_true rfl) (fun K e1 e2 e3 e4 e5 hk => ?_)
  subst e4
  exact w_M_isOpenTo hk hm cx1 cx2 cx3 h
set_option maxRecDepth 100000 in
set_option maxHeartbeats 4000000 in
theorem w_M_wished_B25 {K : zK} (hk : zOk K kdM cX12_wished 8 (some .int) RX12 5) {rec : Int → Int → Int → Int → Int → Int → Int → zM → Option (Int × zM)} {x1 : Int} {x2 : Int} {x3 : Int} {x4 : Int} {x5 : Int} {x6 : Int} {x7 : Int} {m : zM} {o : Int × zM} (hrec : ∀ (x1 : Int) (x2 : Int) (x3 : Int) (x4 : Int) (x5 : Int) (x6 : Int) (x7 : Int) (m : zM), zG kdM m → cI x1 → cI x2 → cI x3 → cI x4 → cI x5 → cI x6 → cI x7 → rec x1 x2 x3 x4 x5 x6 x7 m = some o → GoAt K m [(0, .ref (kB K + 0)), (1, mI x1), (2, mI x2), (3, mI x3), (4, mI x4), (5, mI x5), (6, mI x6), (7, mI x7)] [] 25 (0, o.1, o.2)) (hm : zG kdM m) (cx1 : cI x1) (cx2 : cI x2) (cx3 : cI x3) (cx4 : cI x4) (cx5 : cI x5) (cx6 : cI x6) (cx7 : cI x7) (h : M_wished_B25 rec x1 x2 x3 x4 x5 x6 x7 m = some o) : GoAt K m [(0, .ref (kB K + 0)), (1, mI x1), (2, mI x2), (3, mI x3), (4, mI x4), (5, mI x5), (6, mI x6), (7, mI x7)] [] 25 (0, o.1, o.2) := by
  unfold M_wished_B25 at h
  refine g_iload hk 7 rfl dX12_wished_25 ?_
  refine g_aload_n hk 0 rfl dX12_wished_27 ?_
  refine g_get2 hk fl_X12_69 rfl kdM_0 hm (b := 7) rfl dX12_wished_28 ?_
  refine g_aload_n hk 0 rfl dX12_wished_31 ?_
  have g1 := zGI (i := 13) hm kdM_0 rfl
  refine g_get0 hk fl_X12_51 rfl (j := 13) rfl kdM_0 dX12_wished_32 ?_
  refine g_iald hk g1 kdM_7 hm dX12_wished_35 h (fun y2 cy2 h => ?_)
  refine g_icmp_ge hk cx7 cy2 dX12_wished_36 h (fun b3 h => ?_) (fun b3 h => ?_)
  · refine g_iload_n hk 3 rfl dX12_wished_39 ?_
    refine g_iload hk 7 rfl dX12_wished_40 ?_
    obtain ⟨r4, e5, h⟩ := zbind h
    refine g_callSz hk (st := []) mf_X12_has2 lk_X12_387 ms_X12_has2 (by decide) rfl (Nat.le_of_ble_eq_true rfl) rfl dX12_wished_42 (met_M_has2 _ _ _ _ _ hk.wd hm cx3 cx7 e5) (fun hm c6 => ?_)
    refine g_if_ne hk (b01 c6) dX12_wished_45 h (fun b7 h => ?_) (fun b7 h => ?_)
    · refine g_aload_n hk 0 rfl dX12_wished_48 ?_
      refine g_iload_n hk 1 rfl dX12_wished_49 ?_
      refine g_iload_n hk 2 rfl dX12_wished_50 ?_
      refine g_iload hk 7 rfl dX12_wished_51 ?_
      obtain ⟨r8, e9, h⟩ := zbind h
      refine g_callVz hk (st := []) mf_X12_isOpenTo lk_X12_510 mv_X12_isOpenTo kdM_0 (by decide) rfl (Nat.le_of_ble_eq_true rfl) rfl dX12_wished_53 (met_M_isOpenTo _ _ _ _ _ hk.wd hm cx1 cx2 cx7 e9) (fun hm c10 => ?_)
      refine g_if_eq hk (b01 c10) dX12_wished_56 h (fun b11 h => ?_) (fun b11 h => ?_)
      · refine g_iinc hk (lv' := [(7, mI (wI (x7 + 1))), (0, .ref (kB K + 0)), (1, mI x1), (2, mI x2), (3, mI x3), (4, mI x4), (5, mI x5), (6, mI x6)]) 7 rfl (Nat.le_of_ble_eq_true rfl) rfl dX12_wished_102 ?_
        refine g_goto hk dX12_wished_105 ?_
        refine GoAt.sub [1, 2, 3, 4, 5, 6, 7, 0] rfl ?_
        exact hrec _ _ _ _ _ _ _ _ hm cx1 cx2 cx3 cx4 cx5 cx6 (wI_c _) h
      · refine g_aload_n hk 0 rfl dX12_wished_59 ?_
        refine g_iload_n hk 1 rfl dX12_wished_60 ?_
        refine g_iload_n hk 2 rfl dX12_wished_61 ?_
        refine g_iload hk 7 rfl dX12_wished_62 ?_
        obtain ⟨r12, e13, h⟩ := zbind h
        refine g_callVi hk (st := []) mf_X12_liked lk_X12_498 mv_X12_liked kdM_0 (by decide) rfl (Nat.le_of_ble_eq_true rfl) rfl dX12_wished_64 (met_M_liked _ _ _ _ _ hk.wd hm cx1 cx2 cx7 e13) (fun hm c14 => ?_)
        refine g_iload hk 6 rfl dX12_wished_67 ?_
        refine g_icmp_le hk c14 cx6 dX12_wished_69 h (fun b15 h => ?_) (fun b15 h => ?_)
        · refine g_aload_n hk 0 rfl dX12_wished_72 ?_
          refine g_iload_n hk 1 rfl dX12_wished_73 ?_
          refine g_iload_n hk 2 rfl dX12_wished_74 ?_
          refine g_iload hk 7 rfl dX12_wished_75 ?_
          refine g_iload hk 4 rfl dX12_wished_77 ?_
          obtain ⟨r16, e17, h⟩ := zbind h
          refine g_callVz hk (st := []) mf_X12_isAllowed lk_X12_513 mv_X12_isAllowed kdM_0 (by decide) rfl (Nat.le_of_ble_eq_true rfl) rfl dX12_wished_79 (met_M_isAllowed _ _ _ _ _ hk.wd hm cx1 cx2 cx7 cx4 e17) (fun hm c18 => ?_)
          refine g_if_ne hk (b01 c18) dX12_wished_82 h (fun b19 h => ?_) (fun b19 h => ?_)
          · refine g_goto hk dX12_wished_85 ?_
            refine g_iinc hk (lv' := [(7, mI (wI (x7 + 1))), (0, .ref (kB K + 0)), (1, mI x1), (2, mI x2), (3, mI x3), (4, mI x4), (5, mI x5), (6, mI x6)]) 7 rfl (Nat.le_of_ble_eq_true rfl) rfl dX12_wished_102 ?_
            refine g_goto hk dX12_wished_105 ?_
            refine GoAt.sub [1, 2, 3, 4, 5, 6, 7, 0] rfl ?_
            exact hrec _ _ _ _ _ _ _ _ hm cx1 cx2 cx3 cx4 cx5 cx6 (wI_c _) h
          · refine g_aload_n hk 0 rfl dX12_wished_88 ?_
            refine g_iload_n hk 1 rfl dX12_wished_89 ?_
            refine g_iload_n hk 2 rfl dX12_wished_90 ?_
            refine g_iload hk 7 rfl dX12_wished_91 ?_
            obtain ⟨r20, e21, h⟩ := zbind h
            refine g_callVi hk (st := []) mf_X12_liked lk_X12_498 mv_X12_liked kdM_0 (by decide) rfl (Nat.le_of_ble_eq_true rfl) rfl dX12_wished_93 (met_M_liked _ _ _ _ _ hk.wd hm cx1 cx2 cx7 e21) (fun hm c22 => ?_)
            refine g_istore hk (lv' := [(6, mI r20.1), (0, .ref (kB K + 0)), (1, mI x1), (2, mI x2), (3, mI x3), (4, mI x4), (5, mI x5), (7, mI x7)]) (Nat.le_of_ble_eq_true rfl) rfl dX12_wished_96 ?_
            refine g_iload hk 7 rfl dX12_wished_98 ?_
            refine g_istore hk (lv' := [(5, mI x7), (6, mI r20.1), (0, .ref (kB K + 0)), (1, mI x1), (2, mI x2), (3, mI x3), (4, mI x4), (7, mI x7)]) (Nat.le_of_ble_eq_true rfl) rfl dX12_wished_100 ?_
            refine g_iinc hk (lv' := [(7, mI (wI (x7 + 1))), (5, mI x7), (6, mI r20.1), (0, .ref (kB K + 0)), (1, mI x1), (2, mI x2), (3, mI x3), (4, mI x4)]) 7 rfl (Nat.le_of_ble_eq_true rfl) rfl dX12_wished_102 ?_
            refine g_goto hk dX12_wished_105 ?_
            refine GoAt.sub [3, 4, 5, 6, 7, 1, 2, 0] rfl ?_
            exact hrec _ _ _ _ _ _ _ _ hm cx1 cx2 cx3 cx4 cx7 c22 (wI_c _) h
        · refine g_iinc hk (lv' := [(7, mI (wI (x7 + 1))), (0, .ref (kB K + 0)), (1, mI x1), (2, mI x2), (3, mI x3), (4, mI x4), (5, mI x5), (6, mI x6)]) 7 rfl (Nat.le_of_ble_eq_true rfl) rfl dX12_wished_102 ?_
          refine g_goto hk dX12_wished_105 ?_
          refine GoAt.sub [1, 2, 3, 4, 5, 6, 7, 0] rfl ?_
          exact hrec _ _ _ _ _ _ _ _ hm cx1 cx2 cx3 cx4 cx5 cx6 (wI_c _) h
    · refine g_iinc hk (lv' := [(7, mI (wI (x7 + 1))), (0, .ref (kB K + 0)), (1, mI x1), (2, mI x2), (3, mI x3), (4, mI x4), (5, mI x5), (6, mI x6)]) 7 rfl (Nat.le_of_ble_eq_true rfl) rfl dX12_wished_102 ?_
      refine g_goto hk dX12_wished_105 ?_
      refine GoAt.sub [1, 2, 3, 4, 5, 6, 7, 0] rfl ?_
      exact hrec _ _ _ _ _ _ _ _ hm cx1 cx2 cx3 cx4 cx5 cx6 (wI_c _) h
  · refine g_iload hk 5 rfl dX12_wished_108 ?_
    exact g_ireturn hk cx5 dX12_wished_110 (by cases h; rfl)
theorem w_M_wished_L25 {K : zK} (hk : zOk K kdM cX12_wished 8 (some .int) RX12 5)  {o : Int × zM}  : ∀ (n : Nat) (x1 : Int) (x2 : Int) (x3 : Int) (x4 : Int) (x5 : Int) (x6 : Int) (x7 : Int) (m : zM), zG kdM m → cI x1 → cI x2 → cI x3 → cI x4 → cI x5 → cI x6 → cI x7 → M_wished_L25 n x1 x2 x3 x4 x5 x6 x7 m = some o → GoAt K m [(0, .ref (kB K + 0)), (1, mI x1), (2, mI x2), (3, mI x3), (4, mI x4), (5, mI x5), (6, mI x6), (7, mI x7)] [] 25 (0, o.1, o.2)
  | 0, x1, x2, x3, x4, x5, x6, x7, m, hm, cx1, cx2, cx3, cx4, cx5, cx6, cx7, h => by cases h
  | n + 1, x1, x2, x3, x4, x5, x6, x7, m, hm, cx1, cx2, cx3, cx4, cx5, cx6, cx7, h => w_M_wished_B25 hk  (w_M_wished_L25 hk  n) hm cx1 cx2 cx3 cx4 cx5 cx6 cx7 h
set_option maxRecDepth 100000 in
set_option maxHeartbeats 4000000 in
theorem w_M_wished {K : zK} (hk : zOk K kdM cX12_wished 8 (some .int) RX12 5)  {x1 : Int} {x2 : Int} {x3 : Int} {x4 : Int} {m : zM} {o : Int × zM}  (hm : zG kdM m) (cx1 : cI x1) (cx2 : cI x2) (cx3 : cI x3) (cx4 : cI x4) (h : M_wished x1 x2 x3 x4 m = some o) : GoAt K m [(0, .ref (kB K + 0)), (1, mI x1), (2, mI x2), (3, mI x3), (4, mI x4)] [] 0 (0, o.1, o.2) := by
  unfold M_wished at h
  refine g_aload_n hk 0 rfl dX12_wished_0 ?_
  refine g_iload_n hk 1 rfl dX12_wished_1 ?_
  refine g_iload_n hk 2 rfl dX12_wished_2 ?_
  obtain ⟨r1, e2, h⟩ := zbind h
  refine g_callVz hk (st := []) mf_X12_isAwake lk_X12_507 mv_X12_isAwake kdM_0 (by decide) rfl (Nat.le_of_ble_eq_true rfl) rfl dX12_wished_3 (met_M_isAwake _ _ _ _ _ hk.wd hm cx1 cx2 e2) (fun hm c3 => ?_)
  refine g_if_eq hk (b01 c3) dX12_wished_6 h (fun b4 h => ?_) (fun b4 h => ?_)
  · refine g_iconst hk (v := (-1)) rfl dX12_wished_14 ?_
    exact g_ireturn hk (cIk rfl) dX12_wished_15 (by cases h; rfl)
  · refine g_iload hk 4 rfl dX12_wished_9 ?_
    refine g_if_ne hk cx4 dX12_wished_11 h (fun b5 h => ?_) (fun b5 h => ?_)
    · refine g_iconst hk (v := (-1)) rfl dX12_wished_14 ?_
      exact g_ireturn hk (cIk rfl) dX12_wished_15 (by cases h; rfl)
    · refine g_iconst hk (v := (-1)) rfl dX12_wished_16 ?_
      refine g_istore hk (lv' := [(5, mI ((-1))), (0, .ref (kB K + 0)), (1, mI x1), (2, mI x2), (3, mI x3), (4, mI x4)]) (Nat.le_of_ble_eq_true rfl) rfl dX12_wished_17 ?_
      refine g_iconst hk (v := 0) rfl dX12_wished_19 ?_
      refine g_istore hk (lv' := [(6, mI 0), (5, mI ((-1))), (0, .ref (kB K + 0)), (1, mI x1), (2, mI x2), (3, mI x3), (4, mI x4)]) (Nat.le_of_ble_eq_true rfl) rfl dX12_wished_20 ?_
      refine g_iconst hk (v := 0) rfl dX12_wished_22 ?_
      refine g_istore hk (lv' := [(7, mI 0), (6, mI 0), (5, mI ((-1))), (0, .ref (kB K + 0)), (1, mI x1), (2, mI x2), (3, mI x3), (4, mI x4)]) (Nat.le_of_ble_eq_true rfl) rfl dX12_wished_23 ?_
      refine GoAt.sub [3, 4, 5, 6, 7, 2, 1, 0] rfl ?_
      refine w_M_wished_L25 hk  1000000 _ _ _ _ _ _ _ _ hm cx1 cx2 cx3 cx4 (cIk rfl) (cIk rfl) (cIk rfl) h
theorem met_M_wished (l : Launch) (D : va_G) (aC : Nat → ClassId) (B N : Nat) (hwd : ∀ id, (kdM id).1 ≠ 9 → id < N) {x1 : Int} {x2 : Int} {x3 : Int} {x4 : Int} {m : zM} {o : Int × zM} (hm : zG kdM m) (cx1 : cI x1) (cx2 : cI x2) (cx3 : cI x3) (cx4 : cI x4) (h : M_wished x1 x2 x3 x4 m = some o) : zMet l yX12_wished cX12_wished 8 (some .int) 5 D aC B kdM N [.ref (B + 0), mI x1, mI x2, mI x3, mI x4] m (0, o.1, o.2) := by
  refine zMet.of mf_X12_wished hwd hm (Nat.le_of_ble_eq_true rfl) (fun K e1 e2 e3 e4 e5 hk => ?_)
  subst e4
  exact w_M_wished hk hm cx1 cx2 cx3 cx4 h
set_option maxRecDepth 100000 in
set_option maxHeartbeats 4000000 in
theorem w_M_writesDown_B18 {K : zK} (hk : zOk K kdM cX12_writesDown 6 none RX12 1) {k56 : Int → Int → Int → Int → zM → Option (zM)} {rec : Int → Int → Int → Int → Int → zM → Option (zM)} {x1 : Int} {x2 : Int} {x3 : Int} {x4 : Int} {x5 : Int} {m : zM} {o : zM} (hk56 : ∀ (x1 : Int) (x2 : Int) (x3 : Int) (x4 : Int) (m : zM), zG kdM m → cI x1 → cI x2 → cI x3 → cI x4 → k56 x1 x2 x3 x4 m = some o → GoAt K m [(0, .ref (kB K + 0)), (1, mI x1), (2, mI x2), (3, mI x3), (4, mI x4)] [] 56 (9, 0, o)) (hrec : ∀ (x1 : Int) (x2 : Int) (x3 : Int) (x4 : Int) (x5 : Int) (m : zM), zG kdM m → cI x1 → cI x2 → cI x3 → cI x4 → cI x5 → rec x1 x2 x3 x4 x5 m = some o → GoAt K m [(0, .ref (kB K + 0)), (1, mI x1), (2, mI x2), (3, mI x3), (4, mI x4), (5, mI x5)] [] 18 (9, 0, o)) (hm : zG kdM m) (cx1 : cI x1) (cx2 : cI x2) (cx3 : cI x3) (cx4 : cI x4) (cx5 : cI x5) (h : M_writesDown_B18 k56 rec x1 x2 x3 x4 x5 m = some o) : GoAt K m [(0, .ref (kB K + 0)), (1, mI x1), (2, mI x2), (3, mI x3), (4, mI x4), (5, mI x5)] [] 18 (9, 0, o) := by
  unfold M_writesDown_B18 at h
  refine g_iload hk 5 rfl dX12_writesDown_18 ?_
  refine g_sipush hk (v := 300) rfl dX12_writesDown_20 ?_
  refine g_iload_n hk 1 rfl dX12_writesDown_23 ?_
  refine g_imul hk dX12_writesDown_24 ?_
  refine g_sipush hk (v := 300) rfl dX12_writesDown_25 ?_
  refine g_iadd hk dX12_writesDown_28 ?_
  refine g_iconst hk (v := 5) rfl dX12_writesDown_29 ?_
  refine g_isub hk dX12_writesDown_30 ?_
  refine g_icmp_ge hk cx5 (wI_c _) dX12_writesDown_31 h (fun b1 h => ?_) (fun b1 h => ?_)
  · refine g_aload_n hk 0 rfl dX12_writesDown_34 ?_
    refine g_get2 hk fl_X12_180 rfl kdM_0 hm (b := 36) rfl dX12_writesDown_35 ?_
    refine g_iload hk 5 rfl dX12_writesDown_38 ?_
    refine g_aload_n hk 0 rfl dX12_writesDown_40 ?_
    refine g_get2 hk fl_X12_180 rfl kdM_0 hm (b := 36) rfl dX12_writesDown_41 ?_
    refine g_iload hk 5 rfl dX12_writesDown_44 ?_
    refine g_iconst hk (v := 5) rfl dX12_writesDown_46 ?_
    refine g_iadd hk dX12_writesDown_47 ?_
    refine g_iald hk (wI_c _) kdM_36 hm dX12_writesDown_48 h (fun y2 cy2 h => ?_)
    refine g_iast hk cx5 cy2 kdM_36 hm dX12_writesDown_49 h (fun m3 hm h => ?_)
    refine g_iinc hk (lv' := [(5, mI (wI (x5 + 1))), (0, .ref (kB K + 0)), (1, mI x1), (2, mI x2), (3, mI x3), (4, mI x4)]) 5 rfl (Nat.le_of_ble_eq_true rfl) rfl dX12_writesDown_50 ?_
    refine g_goto hk dX12_writesDown_53 ?_
    refine GoAt.sub [1, 2, 3, 4, 5, 0] rfl ?_
    exact hrec _ _ _ _ _ _ hm cx1 cx2 cx3 cx4 (wI_c _) h
  · refine GoAt.sub [0, 1, 2, 3, 4] rfl ?_
    exact hk56 _ _ _ _ _ hm cx1 cx2 cx3 cx4 h
theorem w_M_writesDown_L18 {K : zK} (hk : zOk K kdM cX12_writesDown 6 none RX12 1) {k56 : Int → Int → Int → Int → zM → Option (zM)} {o : zM} (hk56 : ∀ (x1 : Int) (x2 : Int) (x3 : Int) (x4 : Int) (m : zM), zG kdM m → cI x1 → cI x2 → cI x3 → cI x4 → k56 x1 x2 x3 x4 m = some o → GoAt K m [(0, .ref (kB K + 0)), (1, mI x1), (2, mI x2), (3, mI x3), (4, mI x4)] [] 56 (9, 0, o)) : ∀ (n : Nat) (x1 : Int) (x2 : Int) (x3 : Int) (x4 : Int) (x5 : Int) (m : zM), zG kdM m → cI x1 → cI x2 → cI x3 → cI x4 → cI x5 → M_writesDown_L18 k56 n x1 x2 x3 x4 x5 m = some o → GoAt K m [(0, .ref (kB K + 0)), (1, mI x1), (2, mI x2), (3, mI x3), (4, mI x4), (5, mI x5)] [] 18 (9, 0, o)
  | 0, x1, x2, x3, x4, x5, m, hm, cx1, cx2, cx3, cx4, cx5, h => by cases h
  | n + 1, x1, x2, x3, x4, x5, m, hm, cx1, cx2, cx3, cx4, cx5, h => w_M_writesDown_B18 hk hk56 (w_M_writesDown_L18 hk hk56 n) hm cx1 cx2 cx3 cx4 cx5 h
set_option maxRecDepth 100000 in
set_option maxHeartbeats 4000000 in
theorem w_M_writesDown_b66 {K : zK} (hk : zOk K kdM cX12_writesDown 6 none RX12 1)  {x1 : Int} {x2 : Int} {x3 : Int} {x4 : Int} {m : zM} {o : zM}  (hm : zG kdM m) (cx1 : cI x1) (cx2 : cI x2) (cx3 : cI x3) (cx4 : cI x4) (h : M_writesDown_b66 x1 x2 x3 x4 m = some o) : GoAt K m [(0, .ref (kB K + 0)), (1, mI x1), (2, mI x2), (3, mI x3), (4, mI x4)] [] 66 (9, 0, o) := by
  unfold M_writesDown_b66 at h
  refine g_iconst hk (v := 5) rfl dX12_writesDown_66 ?_
  refine g_bipush hk (v := 60) rfl dX12_writesDown_67 ?_
  refine g_iload_n hk 1 rfl dX12_writesDown_69 ?_
  refine g_imul hk dX12_writesDown_70 ?_
  refine g_aload_n hk 0 rfl dX12_writesDown_71 ?_
  refine g_get2 hk fl_X12_177 rfl kdM_0 hm (b := 35) rfl dX12_writesDown_72 ?_
  refine g_iload_n hk 1 rfl dX12_writesDown_75 ?_
  refine g_iald hk cx1 kdM_35 hm dX12_writesDown_76 h (fun y1 cy1 h => ?_)
  refine g_iadd hk dX12_writesDown_77 ?_
  refine g_imul hk dX12_writesDown_78 ?_
  refine g_let (wI_c _) h (fun v2 cv2 h => ?_)
  refine g_istore hk (lv' := [(5, mI v2), (0, .ref (kB K + 0)), (1, mI x1), (2, mI x2), (3, mI x3), (4, mI x4)]) (Nat.le_of_ble_eq_true rfl) rfl dX12_writesDown_79 ?_
  refine g_aload_n hk 1 rfl dX12_writesDown_81 ?_
  refine g_get2 hk fl_X12_180 rfl kdM_0 hm (b := 36) rfl dX12_writesDown_82 ?_
  refine g_iload hk 0 rfl dX12_writesDown_85 ?_
  refine g_aload_n hk 1 rfl dX12_writesDown_87 ?_
  refine g_get2 hk fl_X12_153 rfl kdM_0 hm (b := 27) rfl dX12_writesDown_88 ?_
  refine g_iload_n hk 2 rfl dX12_writesDown_91 ?_
  refine g_iald hk cx1 kdM_27 hm dX12_writesDown_92 h (fun y3 cy3 h => ?_)
  refine g_bipush hk (v := 24) rfl dX12_writesDown_93 ?_
  refine g_idiv hk (cIk rfl) (by decide) dX12_writesDown_95 ?_
  refine g_iast hk cv2 (cI_t _) kdM_36 hm dX12_writesDown_96 h (fun m4 hm h => ?_)
  refine g_aload_n hk 1 rfl dX12_writesDown_97 ?_
  refine g_get2 hk fl_X12_180 rfl kdM_0 hm (b := 36) rfl dX12_writesDown_98 ?_
  refine g_iload hk 0 rfl dX12_writesDown_101 ?_
  refine g_iconst hk (v := 1) rfl dX12_writesDown_103 ?_
  refine g_iadd hk dX12_writesDown_104 ?_
  refine g_aload_n hk 1 rfl dX12_writesDown_105 ?_
  refine g_iload_n hk 2 rfl dX12_writesDown_106 ?_
  obtain ⟨r5, e6, h⟩ := zbind h
  refine g_callVi hk (st := [mI (wI (v2 + 1)), .ref (kB K + 36)]) mf_X12_hourIn lk_X12_483 mv_X12_hourIn kdM_0 (by decide) rfl (Nat.le_of_ble_eq_true rfl) rfl dX12_writesDown_107 (met_M_hourIn _ _ _ _ _ hk.wd hm cx1 e6) (fun hm c7 => ?_)
  refine g_iast hk (wI_c _) c7 kdM_36 hm dX12_writesDown_110 h (fun m8 hm h => ?_)
  refine g_aload_n hk 1 rfl dX12_writesDown_111 ?_
  refine g_get2 hk fl_X12_180 rfl kdM_0 hm (b := 36) rfl dX12_writesDown_112 ?_
  refine g_iload hk 0 rfl dX12_writesDown_115 ?_
  refine g_iconst hk (v := 2) rfl dX12_writesDown_117 ?_
  refine g_iadd hk dX12_writesDown_118 ?_
  refine g_iload_n hk 3 rfl dX12_writesDown_119 ?_
  refine g_iast hk (wI_c _) cx2 kdM_36 hm dX12_writesDown_120 h (fun m9 hm h => ?_)
  refine g_aload_n hk 1 rfl dX12_writesDown_121 ?_
  refine g_get2 hk fl_X12_180 rfl kdM_0 hm (b := 36) rfl dX12_writesDown_122 ?_
  refine g_iload hk 0 rfl dX12_writesDown_125 ?_
  refine g_iconst hk (v := 3) rfl dX12_writesDown_127 ?_
  refine g_iadd hk dX12_writesDown_128 ?_
  refine g_iload_n hk 4 rfl dX12_writesDown_129 ?_
  refine g_iast hk (wI_c _) cx3 kdM_36 hm dX12_writesDown_130 h (fun m10 hm h => ?_)
  refine g_aload_n hk 1 rfl dX12_writesDown_131 ?_
  refine g_get2 hk fl_X12_180 rfl kdM_0 hm (b := 36) rfl dX12_writesDown_132 ?_
  refine g_iload hk 0 rfl dX12_writesDown_135 ?_
  refine g_iconst hk (v := 4) rfl dX12_writesDown_137 ?_
  refine g_iadd hk dX12_writesDown_138 ?_
  refine g_iload hk 5 rfl dX12_writesDown_139 ?_
  refine g_iast hk (wI_c _) cx4 kdM_36 hm dX12_writesDown_141 h (fun m11 hm h => ?_)
  refine g_aload_n hk 1 rfl dX12_writesDown_142 ?_
  refine g_get2 hk fl_X12_177 rfl kdM_0 hm (b := 35) rfl dX12_writesDown_143 ?_
  refine g_iload_n hk 2 rfl dX12_writesDown_146 ?_
  refine g_dup2 hk rfl rfl dX12_writesDown_147 ?_
  refine g_iald hk cx1 kdM_35 hm dX12_writesDown_148 h (fun y12 cy12 h => ?_)
  refine g_iconst hk (v := 1) rfl dX12_writesDown_149 ?_
  refine g_iadd hk dX12_writesDown_150 ?_
  refine g_iast hk cx1 (wI_c _) kdM_35 hm dX12_writesDown_151 h (fun m13 hm h => ?_)
  exact g_return hk dX12_writesDown_152 (by cases h; rfl)
set_option maxRecDepth 100000 in
set_option maxHeartbeats 4000000 in
theorem w_M_writesDown {K : zK} (hk : zOk K kdM cX12_writesDown 6 none RX12 1)  {x1 : Int} {x2 : Int} {x3 : Int} {x4 : Int} {m : zM} {o : zM}  (hm : zG kdM m) (cx1 : cI x1) (cx2 : cI x2) (cx3 : cI x3) (cx4 : cI x4) (h : M_writesDown x1 x2 x3 x4 m = some o) : GoAt K m [(0, .ref (kB K + 0)), (1, mI x1), (2, mI x2), (3, mI x3), (4, mI x4)] [] 0 (9, 0, o) := by
  unfold M_writesDown at h
  refine g_aload_n hk 0 rfl dX12_writesDown_0 ?_
  refine g_get2 hk fl_X12_177 rfl kdM_0 hm (b := 35) rfl dX12_writesDown_1 ?_
  refine g_iload_n hk 1 rfl dX12_writesDown_4 ?_
  refine g_iald hk cx1 kdM_35 hm dX12_writesDown_5 h (fun y1 cy1 h => ?_)
  refine g_bipush hk (v := 60) rfl dX12_writesDown_6 ?_
  refine g_icmp_ne hk cy1 (cIk rfl) dX12_writesDown_8 h (fun b2 h => ?_) (fun b2 h => ?_)
  · refine g_sipush hk (v := 300) rfl dX12_writesDown_11 ?_
    refine g_iload_n hk 1 rfl dX12_writesDown_14 ?_
    refine g_imul hk dX12_writesDown_15 ?_
    refine g_let (wI_c _) h (fun v3 cv3 h => ?_)
    refine g_istore hk (lv' := [(5, mI v3), (0, .ref (kB K + 0)), (1, mI x1), (2, mI x2), (3, mI x3), (4, mI x4)]) (Nat.le_of_ble_eq_true rfl) rfl dX12_writesDown_16 ?_
    refine GoAt.sub [1, 2, 3, 4, 5, 0] rfl ?_
    refine w_M_writesDown_L18 hk (fun x1_4 x2_4 x3_4 x4_4 m5 hm cx1_4 cx2_4 cx3_4 cx4_4 h => ?_) 1000000 _ _ _ _ _ _ hm cx1 cx2 cx3 cx4 cv3 h
    · refine g_aload_n hk 0 rfl dX12_writesDown_56 ?_
      refine g_get2 hk fl_X12_177 rfl kdM_0 hm (b := 35) rfl dX12_writesDown_57 ?_
      refine g_iload_n hk 1 rfl dX12_writesDown_60 ?_
      refine g_dup2 hk rfl rfl dX12_writesDown_61 ?_
      refine g_iald hk cx1_4 kdM_35 hm dX12_writesDown_62 h (fun y6 cy6 h => ?_)
      refine g_iconst hk (v := 1) rfl dX12_writesDown_63 ?_
      refine g_isub hk dX12_writesDown_64 ?_
      refine g_iast hk cx1_4 (wI_c _) kdM_35 hm dX12_writesDown_65 h (fun m7 hm h => ?_)
      exact w_M_writesDown_b66 hk hm cx1_4 cx2_4 cx3_4 cx4_4 h
  · exact w_M_writesDown_b66 hk hm cx1 cx2 cx3 cx4 h
theorem met_M_writesDown (l : Launch) (D : va_G) (aC : Nat → ClassId) (B N : Nat) (hwd : ∀ id, (kdM id).1 ≠ 9 → id < N) {x1 : Int} {x2 : Int} {x3 : Int} {x4 : Int} {m : zM} {o : zM} (hm : zG kdM m) (cx1 : cI x1) (cx2 : cI x2) (cx3 : cI x3) (cx4 : cI x4) (h : M_writesDown x1 x2 x3 x4 m = some o) : zMet l yX12_writesDown cX12_writesDown 6 none 1 D aC B kdM N [.ref (B + 0), mI x1, mI x2, mI x3, mI x4] m (9, 0, o) := by
  refine zMet.of mf_X12_writesDown hwd hm (Nat.le_of_ble_eq_true rfl) (fun K e1 e2 e3 e4 e5 hk => ?_)
  subst e4
  exact w_M_writesDown hk hm cx1 cx2 cx3 cx4 h
set_option maxRecDepth 100000 in
set_option maxHeartbeats 4000000 in
theorem w_M_comes_b121 {K : zK} (hk : zOk K kdM cX12_comes 5 (some .int) RX12 4)  {x1 : Int} {x2 : Int} {x3 : Int} {x4 : Int} {a0 : Nat} {n0 : Nat} {s1 : Int} {s2 : Int} {m : zM} {o : Int × zM}  (hm : zG kdM m) (cx1 : cI x1) (cx2 : cI x2) (cx3 : cI x3) (cx4 : cI x4) (ka0 : kdM a0 = (1, n0)) (cs1 : cI s1) (cs2 : cI s2) (h : M_comes_b121 x1 x2 x3 x4 a0 n0 s1 s2 m = some o) : GoAt K m [(0, .ref (kB K + 0)), (1, mI x1), (2, mI x2), (3, mI x3), (4, mI x4)] [mI s2, mI s1, .ref (kB K + a0)] 121 (0, o.1, o.2) := by
  unfold M_comes_b121 at h
  refine g_iast hk cs1 cs2 ka0 hm dX12_comes_121 h (fun m1 hm h => ?_)
  refine g_aload_n hk 0 rfl dX12_comes_122 ?_
  refine g_iload_n hk 1 rfl dX12_comes_123 ?_
  refine g_iload_n hk 2 rfl dX12_comes_124 ?_
  refine g_iload_n hk 3 rfl dX12_comes_125 ?_
  obtain ⟨r2, e3, h⟩ := zbind h
  refine g_callVi hk (st := []) mf_X12_liked lk_X12_498 mv_X12_liked kdM_0 (by decide) rfl (Nat.le_of_ble_eq_true rfl) rfl dX12_comes_126 (met_M_liked _ _ _ _ _ hk.wd hm cx1 cx2 cx3 e3) (fun hm c4 => ?_)
  refine g_aload_n hk 0 rfl dX12_comes_129 ?_
  refine g_iconst hk (v := 1) rfl dX12_comes_130 ?_
  obtain ⟨r5, e6, h⟩ := zbind h
  refine g_callVi hk (st := [mI r2.1]) mf_X12_toldOf lk_X12_517 mv_X12_toldOf kdM_0 (by decide) rfl (Nat.le_of_ble_eq_true rfl) rfl dX12_comes_131 (met_M_toldOf _ _ _ _ _ hk.wd hm (cIk rfl) e6) (fun hm c7 => ?_)
  refine g_icmp_ge hk c4 c7 dX12_comes_134 h (fun b8 h => ?_) (fun b8 h => ?_)
  · refine g_aload_n hk 0 rfl dX12_comes_137 ?_
    refine g_get2 hk fl_X12_165 rfl kdM_0 hm (b := 31) rfl dX12_comes_138 ?_
    refine g_bipush hk (v := 8) rfl dX12_comes_141 ?_
    refine g_iload_n hk 1 rfl dX12_comes_143 ?_
    refine g_imul hk dX12_comes_144 ?_
    refine g_iload_n hk 3 rfl dX12_comes_145 ?_
    refine g_iadd hk dX12_comes_146 ?_
    refine g_dup2 hk rfl rfl dX12_comes_147 ?_
    refine g_iald hk (wI_c _) kdM_31 hm dX12_comes_148 h (fun y9 cy9 h => ?_)
    refine g_iconst hk (v := 1) rfl dX12_comes_149 ?_
    refine g_iload_n hk 2 rfl dX12_comes_150 ?_
    refine g_ishl hk dX12_comes_151 ?_
    refine g_ior hk dX12_comes_152 ?_
    refine g_iast hk (wI_c _) (cI_t _) kdM_31 hm dX12_comes_153 h (fun m10 hm h => ?_)
    refine g_iconst hk (v := 2) rfl dX12_comes_154 ?_
    exact g_ireturn hk (cIk rfl) dX12_comes_155 (by cases h; rfl)
  · refine g_aload_n hk 0 rfl dX12_comes_156 ?_
    refine g_get2 hk fl_X12_174 rfl kdM_0 hm (b := 34) rfl dX12_comes_157 ?_
    refine g_iload hk 4 rfl dX12_comes_160 ?_
    refine g_iald hk cx4 kdM_34 hm dX12_comes_162 h (fun y11 cy11 h => ?_)
    refine g_aload_n hk 0 rfl dX12_comes_163 ?_
    refine g_iconst hk (v := 2) rfl dX12_comes_164 ?_
    obtain ⟨r12, e13, h⟩ := zbind h
    refine g_callVi hk (st := [mI y11]) mf_X12_toldOf lk_X12_517 mv_X12_toldOf kdM_0 (by decide) rfl (Nat.le_of_ble_eq_true rfl) rfl dX12_comes_165 (met_M_toldOf _ _ _ _ _ hk.wd hm (cIk rfl) e13) (fun hm c14 => ?_)
    refine g_icmp_ge hk cy11 c14 dX12_comes_168 h (fun b15 h => ?_) (fun b15 h => ?_)
    · refine g_iconst hk (v := 1) rfl dX12_comes_171 ?_
      exact g_ireturn hk (cIk rfl) dX12_comes_172 (by cases h; rfl)
    · refine g_aload_n hk 0 rfl dX12_comes_173 ?_
      refine g_get2 hk fl_X12_162 rfl kdM_0 hm (b := 30) rfl dX12_comes_174 ?_
      refine g_bipush hk (v := 8) rfl dX12_comes_177 ?_
      refine g_iload_n hk 1 rfl dX12_comes_179 ?_
      refine g_imul hk dX12_comes_180 ?_
      refine g_iload_n hk 3 rfl dX12_comes_181 ?_
      refine g_iadd hk dX12_comes_182 ?_
      refine g_iload_n hk 2 rfl dX12_comes_183 ?_
      refine g_iast hk (wI_c _) cx2 kdM_30 hm dX12_comes_184 h (fun m16 hm h => ?_)
      refine g_iconst hk (v := 3) rfl dX12_comes_185 ?_
      exact g_ireturn hk (cIk rfl) dX12_comes_186 (by cases h; rfl)
set_option maxRecDepth 100000 in
set_option maxHeartbeats 4000000 in
theorem w_M_comes_b88 {K : zK} (hk : zOk K kdM cX12_comes 5 (some .int) RX12 4)  {x1 : Int} {x2 : Int} {x3 : Int} {x4 : Int} {a0 : Nat} {n0 : Nat} {s1 : Int} {s2 : Int} {m : zM} {o : Int × zM}  (hm : zG kdM m) (cx1 : cI x1) (cx2 : cI x2) (cx3 : cI x3) (cx4 : cI x4) (ka0 : kdM a0 = (1, n0)) (cs1 : cI s1) (cs2 : cI s2) (h : M_comes_b88 x1 x2 x3 x4 a0 n0 s1 s2 m = some o) : GoAt K m [(0, .ref (kB K + 0)), (1, mI x1), (2, mI x2), (3, mI x3), (4, mI x4)] [mI s2, mI s1, .ref (kB K + a0)] 88 (0, o.1, o.2) := by
  unfold M_comes_b88 at h
  refine g_iast hk cs1 cs2 ka0 hm dX12_comes_88 h (fun m1 hm h => ?_)
  refine g_aload_n hk 0 rfl dX12_comes_89 ?_
  refine g_get2 hk fl_X12_174 rfl kdM_0 hm (b := 34) rfl dX12_comes_90 ?_
  refine g_iload hk 4 rfl dX12_comes_93 ?_
  refine g_aload_n hk 0 rfl dX12_comes_95 ?_
  refine g_get2 hk fl_X12_174 rfl kdM_0 hm (b := 34) rfl dX12_comes_96 ?_
  refine g_iload hk 4 rfl dX12_comes_99 ?_
  refine g_iald hk cx4 kdM_34 hm dX12_comes_101 h (fun y2 cy2 h => ?_)
  refine g_bipush hk (v := 99) rfl dX12_comes_102 ?_
  refine g_icmp_ge hk cy2 (cIk rfl) dX12_comes_104 h (fun b3 h => ?_) (fun b3 h => ?_)
  · refine g_aload_n hk 0 rfl dX12_comes_107 ?_
    refine g_get2 hk fl_X12_174 rfl kdM_0 hm (b := 34) rfl dX12_comes_108 ?_
    refine g_iload hk 4 rfl dX12_comes_111 ?_
    refine g_iald hk cx4 kdM_34 hm dX12_comes_113 h (fun y4 cy4 h => ?_)
    refine g_iconst hk (v := 1) rfl dX12_comes_114 ?_
    refine g_iadd hk dX12_comes_115 ?_
    refine g_goto hk dX12_comes_116 ?_
    exact w_M_comes_b121 hk hm cx1 cx2 cx3 cx4 kdM_34 cx4 (wI_c _) h
  · refine g_bipush hk (v := 99) rfl dX12_comes_119 ?_
    exact w_M_comes_b121 hk hm cx1 cx2 cx3 cx4 kdM_34 cx4 (cIk rfl) h
set_option maxRecDepth 100000 in
set_option maxHeartbeats 4000000 in
theorem w_M_comes {K : zK} (hk : zOk K kdM cX12_comes 5 (some .int) RX12 4)  {x1 : Int} {x2 : Int} {x3 : Int} {m : zM} {o : Int × zM}  (hm : zG kdM m) (cx1 : cI x1) (cx2 : cI x2) (cx3 : cI x3) (h : M_comes x1 x2 x3 m = some o) : GoAt K m [(0, .ref (kB K + 0)), (1, mI x1), (2, mI x2), (3, mI x3)] [] 0 (0, o.1, o.2) := by
  unfold M_comes at h
  refine g_aload_n hk 0 rfl dX12_comes_0 ?_
  refine g_iload_n hk 3 rfl dX12_comes_1 ?_
  refine g_iload_n hk 2 rfl dX12_comes_2 ?_
  obtain ⟨r1, e2, h⟩ := zbind h
  refine g_callVz hk (st := []) mf_X12_isFeared lk_X12_501 mv_X12_isFeared kdM_0 (by decide) rfl (Nat.le_of_ble_eq_true rfl) rfl dX12_comes_3 (met_M_isFeared _ _ _ _ _ hk.wd hm cx3 cx2 e2) (fun hm c3 => ?_)
  refine g_if_eq hk (b01 c3) dX12_comes_6 h (fun b4 h => ?_) (fun b4 h => ?_)
  · refine g_aload_n hk 0 rfl dX12_comes_47 ?_
    refine g_iload_n hk 1 rfl dX12_comes_48 ?_
    refine g_iload_n hk 2 rfl dX12_comes_49 ?_
    refine g_iload_n hk 3 rfl dX12_comes_50 ?_
    obtain ⟨r5, e6, h⟩ := zbind h
    refine g_callVi hk (st := []) mf_X12_pair lk_X12_481 mv_X12_pair kdM_0 (by decide) rfl (Nat.le_of_ble_eq_true rfl) rfl dX12_comes_51 (met_M_pair _ _ _ _ _ hk.wd hm cx1 cx2 cx3 e6) (fun hm c7 => ?_)
    refine g_istore hk (lv' := [(4, mI r5), (0, .ref (kB K + 0)), (1, mI x1), (2, mI x2), (3, mI x3)]) (Nat.le_of_ble_eq_true rfl) rfl dX12_comes_54 ?_
    refine g_aload_n hk 1 rfl dX12_comes_56 ?_
    refine g_get2 hk fl_X12_171 rfl kdM_0 hm (b := 33) rfl dX12_comes_57 ?_
    refine g_iload hk 0 rfl dX12_comes_60 ?_
    refine g_aload_n hk 1 rfl dX12_comes_62 ?_
    refine g_get2 hk fl_X12_171 rfl kdM_0 hm (b := 33) rfl dX12_comes_63 ?_
    refine g_iload hk 0 rfl dX12_comes_66 ?_
    refine g_iald hk c7 kdM_33 hm dX12_comes_68 h (fun y8 cy8 h => ?_)
    refine g_bipush hk (v := 99) rfl dX12_comes_69 ?_
    refine g_icmp_ge hk cy8 (cIk rfl) dX12_comes_71 h (fun b9 h => ?_) (fun b9 h => ?_)
    · refine g_aload_n hk 1 rfl dX12_comes_74 ?_
      refine g_get2 hk fl_X12_171 rfl kdM_0 hm (b := 33) rfl dX12_comes_75 ?_
      refine g_iload hk 0 rfl dX12_comes_78 ?_
      refine g_iald hk c7 kdM_33 hm dX12_comes_80 h (fun y10 cy10 h => ?_)
      refine g_iconst hk (v := 1) rfl dX12_comes_81 ?_
      refine g_iadd hk dX12_comes_82 ?_
      refine g_goto hk dX12_comes_83 ?_
      refine GoAt.sub [1, 2, 3, 4, 0] rfl ?_
      exact w_M_comes_b88 hk hm cx1 cx2 cx3 c7 kdM_33 c7 (wI_c _) h
    · refine g_bipush hk (v := 99) rfl dX12_comes_86 ?_
      refine GoAt.sub [1, 2, 3, 4, 0] rfl ?_
      exact w_M_comes_b88 hk hm cx1 cx2 cx3 c7 kdM_33 c7 (cIk rfl) h
  · refine g_aload_n hk 0 rfl dX12_comes_9 ?_
    refine g_get2 hk fl_X12_156 rfl kdM_0 hm (b := 28) rfl dX12_comes_10 ?_
    refine g_iload_n hk 1 rfl dX12_comes_13 ?_
    refine g_iald hk cx1 kdM_28 hm dX12_comes_14 h (fun y11 cy11 h => ?_)
    refine g_aload_n hk 0 rfl dX12_comes_15 ?_
    refine g_iconst hk (v := 3) rfl dX12_comes_16 ?_
    obtain ⟨r12, e13, h⟩ := zbind h
    refine g_callVi hk (st := [mI y11]) mf_X12_toldOf lk_X12_517 mv_X12_toldOf kdM_0 (by decide) rfl (Nat.le_of_ble_eq_true rfl) rfl dX12_comes_17 (met_M_toldOf _ _ _ _ _ hk.wd hm (cIk rfl) e13) (fun hm c14 => ?_)
    refine g_iadd hk dX12_comes_20 ?_
    refine g_let (wI_c _) h (fun v15 cv15 h => ?_)
    refine g_istore hk (lv' := [(4, mI v15), (0, .ref (kB K + 0)), (1, mI x1), (2, mI x2), (3, mI x3)]) (Nat.le_of_ble_eq_true rfl) rfl dX12_comes_21 ?_
    refine g_aload_n hk 1 rfl dX12_comes_23 ?_
    refine g_get2 hk fl_X12_156 rfl kdM_0 hm (b := 28) rfl dX12_comes_24 ?_
    refine g_iload_n hk 2 rfl dX12_comes_27 ?_
    refine g_iload hk 0 rfl dX12_comes_28 ?_
    refine g_sipush hk (v := 9999) rfl dX12_comes_30 ?_
    refine g_icmp_le hk cv15 (cIk rfl) dX12_comes_33 h (fun b16 h => ?_) (fun b16 h => ?_)
    · refine g_sipush hk (v := 9999) rfl dX12_comes_36 ?_
      refine g_goto hk dX12_comes_39 ?_
      refine g_iast hk cx1 (cIk rfl) kdM_28 hm dX12_comes_44 h (fun m17 hm h => ?_)
      refine g_iconst hk (v := 0) rfl dX12_comes_45 ?_
      exact g_ireturn hk (cIk rfl) dX12_comes_46 (by cases h; rfl)
    · refine g_iload hk 0 rfl dX12_comes_42 ?_
      refine g_iast hk cx1 cv15 kdM_28 hm dX12_comes_44 h (fun m18 hm h => ?_)
      refine g_iconst hk (v := 0) rfl dX12_comes_45 ?_
      exact g_ireturn hk (cIk rfl) dX12_comes_46 (by cases h; rfl)
theorem met_M_comes (l : Launch) (D : va_G) (aC : Nat → ClassId) (B N : Nat) (hwd : ∀ id, (kdM id).1 ≠ 9 → id < N) {x1 : Int} {x2 : Int} {x3 : Int} {m : zM} {o : Int × zM} (hm : zG kdM m) (cx1 : cI x1) (cx2 : cI x2) (cx3 : cI x3) (h : M_comes x1 x2 x3 m = some o) : zMet l yX12_comes cX12_comes 5 (some .int) 4 D aC B kdM N [.ref (B + 0), mI x1, mI x2, mI x3] m (0, o.1, o.2) := by
  refine zMet.of mf_X12_comes hwd hm (Nat.le_of_ble_eq_true rfl) (fun K e1 e2 e3 e4 e5 hk => ?_)
  subst e4
  exact w_M_comes hk hm cx1 cx2 cx3 h
set_option maxRecDepth 100000 in
set_option maxHeartbeats 4000000 in
theorem w_M_asking_B7 {K : zK} (hk : zOk K kdM cX12_asking 6 (some .int) RX12 6) {rec : Int → Int → Int → Int → zM → Option (Int × zM)} {x1 : Int} {x2 : Int} {x3 : Int} {x4 : Int} {m : zM} {o : Int × zM} (hrec : ∀ (x1 : Int) (x2 : Int) (x3 : Int) (x4 : Int) (m : zM), zG kdM m → cI x1 → cI x2 → cI x3 → cI x4 → rec x1 x2 x3 x4 m = some o → GoAt K m [(0, .ref (kB K + 0)), (1, mI x1), (2, mI x2), (3, mI x3), (4, mI x4)] [] 7 (0, o.1, o.2)) (hm : zG kdM m) (cx1 : cI x1) (cx2 : cI x2) (cx3 : cI x3) (cx4 : cI x4) (h : M_asking_B7 rec x1 x2 x3 x4 m = some o) : GoAt K m [(0, .ref (kB K + 0)), (1, mI x1), (2, mI x2), (3, mI x3), (4, mI x4)] [] 7 (0, o.1, o.2) := by
  unfold M_asking_B7 at h
  refine g_iload hk 4 rfl dX12_asking_7 ?_
  refine g_aload_n hk 0 rfl dX12_asking_9 ?_
  refine g_get2 hk fl_X12_54 rfl kdM_0 hm (b := 2) rfl dX12_asking_10 ?_
  refine g_aload_n hk 0 rfl dX12_asking_13 ?_
  have g1 := zGI (i := 13) hm kdM_0 rfl
  refine g_get0 hk fl_X12_51 rfl (j := 13) rfl kdM_0 dX12_asking_14 ?_
  refine g_iald hk g1 kdM_2 hm dX12_asking_17 h (fun y2 cy2 h => ?_)
  refine g_icmp_ge hk cx4 cy2 dX12_asking_18 h (fun b3 h => ?_) (fun b3 h => ?_)
  · refine g_aload_n hk 0 rfl dX12_asking_21 ?_
    refine g_iload_n hk 1 rfl dX12_asking_22 ?_
    refine g_iload hk 4 rfl dX12_asking_23 ?_
    refine g_iload_n hk 2 rfl dX12_asking_25 ?_
    refine g_aload_n hk 0 rfl dX12_asking_26 ?_
    refine g_iconst hk (v := 0) rfl dX12_asking_27 ?_
    obtain ⟨r4, e5, h⟩ := zbind h
    refine g_callVi hk (st := [mI x2, mI x4, mI x1, .ref (kB K + 0)]) mf_X12_toldOf lk_X12_517 mv_X12_toldOf kdM_0 (by decide) rfl (Nat.le_of_ble_eq_true rfl) rfl dX12_asking_28 (met_M_toldOf _ _ _ _ _ hk.wd hm (cIk rfl) e5) (fun hm c6 => ?_)
    refine g_iload_n hk 3 rfl dX12_asking_31 ?_
    refine g_isub hk dX12_asking_32 ?_
    obtain ⟨r7, e8, h⟩ := zbind h
    refine g_callVi hk (st := []) mf_X12_wished lk_X12_520 mv_X12_wished kdM_0 (by decide) rfl (Nat.le_of_ble_eq_true rfl) rfl dX12_asking_33 (met_M_wished _ _ _ _ _ hk.wd hm cx1 cx4 cx2 (wI_c _) e8) (fun hm c9 => ?_)
    refine g_istore hk (lv' := [(5, mI r7.1), (0, .ref (kB K + 0)), (1, mI x1), (2, mI x2), (3, mI x3), (4, mI x4)]) (Nat.le_of_ble_eq_true rfl) rfl dX12_asking_36 ?_
    refine g_aload_n hk 1 rfl dX12_asking_38 ?_
    refine g_get2 hk fl_X12_198 rfl kdM_0 hm (b := 39) rfl dX12_asking_39 ?_
    refine g_iload hk 5 rfl dX12_asking_42 ?_
    refine g_iload hk 0 rfl dX12_asking_44 ?_
    refine g_iast hk cx4 c9 kdM_39 hm dX12_asking_46 h (fun m10 hm h => ?_)
    refine g_iload hk 0 rfl dX12_asking_47 ?_
    refine g_iconst hk (v := (-1)) rfl dX12_asking_49 ?_
    refine g_icmp_ne hk c9 (cIk rfl) dX12_asking_50 h (fun b11 h => ?_) (fun b11 h => ?_)
    · refine g_goto hk dX12_asking_53 ?_
      refine g_iinc hk (lv' := [(4, mI (wI (x4 + 1))), (5, mI r7.1), (0, .ref (kB K + 0)), (1, mI x1), (2, mI x2), (3, mI x3)]) 5 rfl (Nat.le_of_ble_eq_true rfl) rfl dX12_asking_98 ?_
      refine g_goto hk dX12_asking_101 ?_
      refine GoAt.sub [2, 3, 4, 5, 0] rfl ?_
      exact hrec _ _ _ _ _ hm cx1 cx2 cx3 (wI_c _) h
    · refine g_iload_n hk 3 rfl dX12_asking_56 ?_
      refine g_iconst hk (v := 1) rfl dX12_asking_57 ?_
      refine g_iload hk 0 rfl dX12_asking_58 ?_
      refine g_ishl hk dX12_asking_60 ?_
      refine g_ior hk dX12_asking_61 ?_
      refine g_let (cI_t _) h (fun v12 cv12 h => ?_)
      refine g_istore_n hk rfl (lv' := [(2, mI v12), (5, mI r7.1), (0, .ref (kB K + 0)), (1, mI x1), (3, mI x3), (4, mI x4)]) (Nat.le_of_ble_eq_true rfl) rfl dX12_asking_62 ?_
      refine g_iinc hk (lv' := [(3, mI (wI (x3 + 1))), (2, mI v12), (5, mI r7.1), (0, .ref (kB K + 0)), (1, mI x1), (4, mI x4)]) 4 rfl (Nat.le_of_ble_eq_true rfl) rfl dX12_asking_63 ?_
      refine g_aload_n hk 3 rfl dX12_asking_66 ?_
      refine g_get2 hk fl_X12_201 rfl kdM_0 hm (b := 40) rfl dX12_asking_67 ?_
      refine g_iload hk 5 rfl dX12_asking_70 ?_
      refine g_aload_n hk 3 rfl dX12_asking_72 ?_
      refine g_iload_n hk 4 rfl dX12_asking_73 ?_
      refine g_iload hk 5 rfl dX12_asking_74 ?_
      refine g_iload hk 2 rfl dX12_asking_76 ?_
      obtain ⟨r13, e14, h⟩ := zbind h
      refine g_callVi hk (st := [mI x4, .ref (kB K + 40)]) mf_X12_comes lk_X12_524 mv_X12_comes kdM_0 (by decide) rfl (Nat.le_of_ble_eq_true rfl) rfl dX12_asking_78 (met_M_comes _ _ _ _ _ hk.wd hm cx1 cx4 c9 e14) (fun hm c15 => ?_)
      refine g_iast hk cx4 c15 kdM_40 hm dX12_asking_81 h (fun m16 hm h => ?_)
      refine g_aload_n hk 3 rfl dX12_asking_82 ?_
      refine g_iload_n hk 4 rfl dX12_asking_83 ?_
      refine g_iload hk 5 rfl dX12_asking_84 ?_
      refine g_iload hk 2 rfl dX12_asking_86 ?_
      refine g_aload_n hk 3 rfl dX12_asking_88 ?_
      refine g_get2 hk fl_X12_201 rfl kdM_0 hm (b := 40) rfl dX12_asking_89 ?_
      refine g_iload hk 5 rfl dX12_asking_92 ?_
      refine g_iald hk cx4 kdM_40 hm dX12_asking_94 h (fun y17 cy17 h => ?_)
      obtain ⟨r18, e19, h⟩ := zbind h
      refine g_callVv hk (st := []) mf_X12_writesDown lk_X12_527 mv_X12_writesDown kdM_0 (by decide) rfl (Nat.le_of_ble_eq_true rfl) rfl dX12_asking_95 (met_M_writesDown _ _ _ _ _ hk.wd hm cx1 cx4 c9 cy17 e19) (fun hm => ?_)
      refine g_iinc hk (lv' := [(4, mI (wI (x4 + 1))), (3, mI (wI (x3 + 1))), (2, mI v12), (5, mI r7.1), (0, .ref (kB K + 0)), (1, mI x1)]) 5 rfl (Nat.le_of_ble_eq_true rfl) rfl dX12_asking_98 ?_
      refine g_goto hk dX12_asking_101 ?_
      refine GoAt.sub [4, 5, 2, 1, 0] rfl ?_
      exact hrec _ _ _ _ _ hm cx1 cv12 (wI_c _) (wI_c _) h
  · refine g_iload_n hk 3 rfl dX12_asking_104 ?_
    exact g_ireturn hk cx3 dX12_asking_105 (by cases h; rfl)
theorem w_M_asking_L7 {K : zK} (hk : zOk K kdM cX12_asking 6 (some .int) RX12 6)  {o : Int × zM}  : ∀ (n : Nat) (x1 : Int) (x2 : Int) (x3 : Int) (x4 : Int) (m : zM), zG kdM m → cI x1 → cI x2 → cI x3 → cI x4 → M_asking_L7 n x1 x2 x3 x4 m = some o → GoAt K m [(0, .ref (kB K + 0)), (1, mI x1), (2, mI x2), (3, mI x3), (4, mI x4)] [] 7 (0, o.1, o.2)
  | 0, x1, x2, x3, x4, m, hm, cx1, cx2, cx3, cx4, h => by cases h
  | n + 1, x1, x2, x3, x4, m, hm, cx1, cx2, cx3, cx4, h => w_M_asking_B7 hk  (w_M_asking_L7 hk  n) hm cx1 cx2 cx3 cx4 h
set_option maxRecDepth 100000 in
set_option maxHeartbeats 4000000 in
theorem w_M_asking {K : zK} (hk : zOk K kdM cX12_asking 6 (some .int) RX12 6)  {x1 : Int} {m : zM} {o : Int × zM}  (hm : zG kdM m) (cx1 : cI x1) (h : M_asking x1 m = some o) : GoAt K m [(0, .ref (kB K + 0)), (1, mI x1)] [] 0 (0, o.1, o.2) := by
  unfold M_asking at h
  refine g_iconst hk (v := 0) rfl dX12_asking_0 ?_
  refine g_istore_n hk rfl (lv' := [(2, mI 0), (0, .ref (kB K + 0)), (1, mI x1)]) (Nat.le_of_ble_eq_true rfl) rfl dX12_asking_1 ?_
  refine g_iconst hk (v := 0) rfl dX12_asking_2 ?_
  refine g_istore_n hk rfl (lv' := [(3, mI 0), (2, mI 0), (0, .ref (kB K + 0)), (1, mI x1)]) (Nat.le_of_ble_eq_true rfl) rfl dX12_asking_3 ?_
  refine g_iconst hk (v := 0) rfl dX12_asking_4 ?_
  refine g_istore hk (lv' := [(4, mI 0), (3, mI 0), (2, mI 0), (0, .ref (kB K + 0)), (1, mI x1)]) (Nat.le_of_ble_eq_true rfl) rfl dX12_asking_5 ?_
  refine GoAt.sub [3, 4, 2, 1, 0] rfl ?_
  refine w_M_asking_L7 hk  1000000 _ _ _ _ _ hm cx1 (cIk rfl) (cIk rfl) (cIk rfl) h
theorem met_M_asking (l : Launch) (D : va_G) (aC : Nat → ClassId) (B N : Nat) (hwd : ∀ id, (kdM id).1 ≠ 9 → id < N) {x1 : Int} {m : zM} {o : Int × zM} (hm : zG kdM m) (cx1 : cI x1) (h : M_asking x1 m = some o) : zMet l yX12_asking cX12_asking 6 (some .int) 6 D aC B kdM N [.ref (B + 0), mI x1] m (0, o.1, o.2) := by
  refine zMet.of mf_X12_asking hwd hm (Nat.le_of_ble_eq_true rfl) (fun K e1 e2 e3 e4 e5 hk => ?_)
  subst e4
  exact w_M_asking hk hm cx1 h
set_option maxRecDepth 100000 in
set_option maxHeartbeats 4000000 in
theorem w_M_isOver {K : zK} (hk : zOk K kdM cX12_isOver 2 none RX12 1)  {x1 : Int} {m : zM} {o : zM}  (hm : zG kdM m) (cx1 : cI x1) (h : M_isOver x1 m = some o) : GoAt K m [(0, .ref (kB K + 0)), (1, mI x1)] [] 0 (9, 0, o) := by
  unfold M_isOver at h
  refine g_aload_n hk 0 rfl dX12_isOver_0 ?_
  refine g_get2 hk fl_X12_153 rfl kdM_0 hm (b := 27) rfl dX12_isOver_1 ?_
  refine g_iload_n hk 1 rfl dX12_isOver_4 ?_
  refine g_dup2 hk rfl rfl dX12_isOver_5 ?_
  refine g_iald hk cx1 kdM_27 hm dX12_isOver_6 h (fun y1 cy1 h => ?_)
  refine g_iconst hk (v := 1) rfl dX12_isOver_7 ?_
  refine g_iadd hk dX12_isOver_8 ?_
  refine g_iast hk cx1 (wI_c _) kdM_27 hm dX12_isOver_9 h (fun m2 hm h => ?_)
  refine g_aload_n hk 0 rfl dX12_isOver_10 ?_
  refine g_iload_n hk 1 rfl dX12_isOver_11 ?_
  obtain ⟨r3, e4, h⟩ := zbind h
  refine g_callVi hk (st := []) mf_X12_hourIn lk_X12_483 mv_X12_hourIn kdM_0 (by decide) rfl (Nat.le_of_ble_eq_true rfl) rfl dX12_isOver_12 (met_M_hourIn _ _ _ _ _ hk.wd hm cx1 e4) (fun hm c5 => ?_)
  refine g_if_ne hk c5 dX12_isOver_15 h (fun b6 h => ?_) (fun b6 h => ?_)
  · refine g_aload_n hk 0 rfl dX12_isOver_18 ?_
    refine g_iload_n hk 1 rfl dX12_isOver_19 ?_
    obtain ⟨r7, e8, h⟩ := zbind h
    refine g_callVv hk (st := []) mf_X12_dawns lk_X12_446 mv_X12_dawns kdM_0 (by decide) rfl (Nat.le_of_ble_eq_true rfl) rfl dX12_isOver_20 (met_M_dawns _ _ _ _ _ hk.wd hm cx1 e8) (fun hm => ?_)
    exact g_return hk dX12_isOver_23 (by cases h; rfl)
  · exact g_return hk dX12_isOver_23 (by cases h; rfl)
theorem met_M_isOver (l : Launch) (D : va_G) (aC : Nat → ClassId) (B N : Nat) (hwd : ∀ id, (kdM id).1 ≠ 9 → id < N) {x1 : Int} {m : zM} {o : zM} (hm : zG kdM m) (cx1 : cI x1) (h : M_isOver x1 m = some o) : zMet l yX12_isOver cX12_isOver 2 none 1 D aC B kdM N [.ref (B + 0), mI x1] m (9, 0, o) := by
  refine zMet.of mf_X12_isOver hwd hm (Nat.le_of_ble_eq_true rfl) (fun K e1 e2 e3 e4 e5 hk => ?_)
  subst e4
  exact w_M_isOver hk hm cx1 h
set_option maxRecDepth 100000 in
set_option maxHeartbeats 4000000 in
theorem w_M_isBeast {K : zK} (hk : zOk K kdM cX12_isBeast 2 (some .boolean) RX12 0)  {x1 : Int} {m : zM} {o : Int}  (hm : zG kdM m) (cx1 : cI x1) (h : M_isBeast x1 m = some o) : GoAt K m [(0, .ref (kB K + 0)), (1, mI x1)] [] 0 (4, o, m) := by
  unfold M_isBeast at h
  refine g_iload_n hk 1 rfl dX12_isBeast_0 ?_
  refine g_if_lt hk cx1 dX12_isBeast_1 h (fun b1 h => ?_) (fun b1 h => ?_)
  · refine g_iconst hk (v := 0) rfl dX12_isBeast_21 ?_
    exact g_zreturn hk z0 dX12_isBeast_22 (by cases h; rfl)
  · refine g_iload_n hk 1 rfl dX12_isBeast_4 ?_
    refine g_aload_n hk 0 rfl dX12_isBeast_5 ?_
    refine g_get2 hk fl_X12_54 rfl kdM_0 hm (b := 2) rfl dX12_isBeast_6 ?_
    refine g_aload_n hk 0 rfl dX12_isBeast_9 ?_
    have g2 := zGI (i := 13) hm kdM_0 rfl
    refine g_get0 hk fl_X12_51 rfl (j := 13) rfl kdM_0 dX12_isBeast_10 ?_
    refine g_iald hk g2 kdM_2 hm dX12_isBeast_13 h (fun y3 cy3 h => ?_)
    refine g_icmp_ge hk cx1 cy3 dX12_isBeast_14 h (fun b4 h => ?_) (fun b4 h => ?_)
    · refine g_iconst hk (v := 1) rfl dX12_isBeast_17 ?_
      refine g_goto hk dX12_isBeast_18 ?_
      exact g_zreturn hk z1 dX12_isBeast_22 (by cases h; rfl)
    · refine g_iconst hk (v := 0) rfl dX12_isBeast_21 ?_
      exact g_zreturn hk z0 dX12_isBeast_22 (by cases h; rfl)
theorem met_M_isBeast (l : Launch) (D : va_G) (aC : Nat → ClassId) (B N : Nat) (hwd : ∀ id, (kdM id).1 ≠ 9 → id < N) {x1 : Int} {m : zM} {o : Int} (hm : zG kdM m) (cx1 : cI x1) (h : M_isBeast x1 m = some o) : zMet l yX12_isBeast cX12_isBeast 2 (some .boolean) 0 D aC B kdM N [.ref (B + 0), mI x1] m (4, o, m) := by
  refine zMet.of mf_X12_isBeast hwd hm (Nat.le_of_ble_eq_true rfl) (fun K e1 e2 e3 e4 e5 hk => ?_)
  subst e4
  exact w_M_isBeast hk hm cx1 h
set_option maxRecDepth 100000 in
set_option maxHeartbeats 4000000 in
theorem w_M_isGuest {K : zK} (hk : zOk K kdM cX12_isGuest 2 (some .boolean) RX12 0)  {x1 : Int} {m : zM} {o : Int}  (hm : zG kdM m) (cx1 : cI x1) (h : M_isGuest x1 m = some o) : GoAt K m [(0, .ref (kB K + 0)), (1, mI x1)] [] 0 (4, o, m) := by
  unfold M_isGuest at h
  refine g_iload_n hk 1 rfl dX12_isGuest_0 ?_
  refine g_if_lt hk cx1 dX12_isGuest_1 h (fun b1 h => ?_) (fun b1 h => ?_)
  · refine g_iconst hk (v := 0) rfl dX12_isGuest_21 ?_
    exact g_zreturn hk z0 dX12_isGuest_22 (by cases h; rfl)
  · refine g_iload_n hk 1 rfl dX12_isGuest_4 ?_
    refine g_aload_n hk 0 rfl dX12_isGuest_5 ?_
    refine g_get2 hk fl_X12_69 rfl kdM_0 hm (b := 7) rfl dX12_isGuest_6 ?_
    refine g_aload_n hk 0 rfl dX12_isGuest_9 ?_
    have g2 := zGI (i := 13) hm kdM_0 rfl
    refine g_get0 hk fl_X12_51 rfl (j := 13) rfl kdM_0 dX12_isGuest_10 ?_
    refine g_iald hk g2 kdM_7 hm dX12_isGuest_13 h (fun y3 cy3 h => ?_)
    refine g_icmp_ge hk cx1 cy3 dX12_isGuest_14 h (fun b4 h => ?_) (fun b4 h => ?_)
    · refine g_iconst hk (v := 1) rfl dX12_isGuest_17 ?_
      refine g_goto hk dX12_isGuest_18 ?_
      exact g_zreturn hk z1 dX12_isGuest_22 (by cases h; rfl)
    · refine g_iconst hk (v := 0) rfl dX12_isGuest_21 ?_
      exact g_zreturn hk z0 dX12_isGuest_22 (by cases h; rfl)
theorem met_M_isGuest (l : Launch) (D : va_G) (aC : Nat → ClassId) (B N : Nat) (hwd : ∀ id, (kdM id).1 ≠ 9 → id < N) {x1 : Int} {m : zM} {o : Int} (hm : zG kdM m) (cx1 : cI x1) (h : M_isGuest x1 m = some o) : zMet l yX12_isGuest cX12_isGuest 2 (some .boolean) 0 D aC B kdM N [.ref (B + 0), mI x1] m (4, o, m) := by
  refine zMet.of mf_X12_isGuest hwd hm (Nat.le_of_ble_eq_true rfl) (fun K e1 e2 e3 e4 e5 hk => ?_)
  subst e4
  exact w_M_isGuest hk hm cx1 h
set_option maxRecDepth 100000 in
set_option maxHeartbeats 4000000 in
theorem w_M_has_B115 {K : zK} (hk : zOk K kdM cX12_has 4 (some .int) RX12 2) {rec : Int → Int → Option (Int)} {x2 : Int} {x3 : Int} {m : zM} {o : Int} (hrec : ∀ (x2 : Int) (x3 : Int), cI x2 → cI x3 → rec x2 x3 = some o → GoAt K m [(0, .ref (kB K + 0)), (2, mI x2), (3, mI x3)] [] 115 (0, o, m)) (hm : zG kdM m) (cx2 : cI x2) (cx3 : cI x3) (h : M_has_B115 rec x2 x3 m = some o) : GoAt K m [(0, .ref (kB K + 0)), (2, mI x2), (3, mI x3)] [] 115 (0, o, m) := by
  unfold M_has_B115 at h
  refine g_iload_n hk 2 rfl dX12_has_115 ?_
  refine g_aload_n hk 0 rfl dX12_has_116 ?_
  refine g_get2 hk fl_X12_69 rfl kdM_0 hm (b := 7) rfl dX12_has_117 ?_
  refine g_aload_n hk 0 rfl dX12_has_120 ?_
  have g1 := zGI (i := 13) hm kdM_0 rfl
  refine g_get0 hk fl_X12_51 rfl (j := 13) rfl kdM_0 dX12_has_121 ?_
  refine g_iald hk g1 kdM_7 hm dX12_has_124 h (fun y2 cy2 h => ?_)
  refine g_icmp_ge hk cx3 cy2 dX12_has_125 h (fun b3 h => ?_) (fun b3 h => ?_)
  · refine g_iload_n hk 1 rfl dX12_has_128 ?_
    refine g_aload_n hk 0 rfl dX12_has_129 ?_
    refine g_iconst hk (v := 0) rfl dX12_has_130 ?_
    refine g_iload_n hk 2 rfl dX12_has_131 ?_
    obtain ⟨r4, e5, h⟩ := zbind h
    refine g_callVz hk (st := [mI x2]) mf_X12_isThere lk_X12_504 mv_X12_isThere kdM_0 (by decide) rfl (Nat.le_of_ble_eq_true rfl) rfl dX12_has_132 (met_M_isThere _ _ _ _ _ hk.wd hm (cIk rfl) cx3 e5) (fun hm c6 => ?_)
    refine g_if_eq hk (b01 c6) dX12_has_135 h (fun b7 h => ?_) (fun b7 h => ?_)
    · refine g_iconst hk (v := 0) rfl dX12_has_142 ?_
      refine g_iadd hk dX12_has_143 ?_
      refine g_let (wI_c _) h (fun v8 cv8 h => ?_)
      refine g_istore_n hk rfl (lv' := [(2, mI v8), (0, .ref (kB K + 0)), (3, mI x3)]) (Nat.le_of_ble_eq_true rfl) rfl dX12_has_144 ?_
      refine g_iinc hk (lv' := [(3, mI (wI (x3 + 1))), (2, mI v8), (0, .ref (kB K + 0))]) 2 rfl (Nat.le_of_ble_eq_true rfl) rfl dX12_has_145 ?_
      refine g_goto hk dX12_has_148 ?_
      refine GoAt.sub [2, 1, 0] rfl ?_
      exact hrec _ _ cv8 (wI_c _) h
    · refine g_iconst hk (v := 1) rfl dX12_has_138 ?_
      refine g_goto hk dX12_has_139 ?_
      refine g_iadd hk dX12_has_143 ?_
      refine g_let (wI_c _) h (fun v9 cv9 h => ?_)
      refine g_istore_n hk rfl (lv' := [(2, mI v9), (0, .ref (kB K + 0)), (3, mI x3)]) (Nat.le_of_ble_eq_true rfl) rfl dX12_has_144 ?_
      refine g_iinc hk (lv' := [(3, mI (wI (x3 + 1))), (2, mI v9), (0, .ref (kB K + 0))]) 2 rfl (Nat.le_of_ble_eq_true rfl) rfl dX12_has_145 ?_
      refine g_goto hk dX12_has_148 ?_
      refine GoAt.sub [2, 1, 0] rfl ?_
      exact hrec _ _ cv9 (wI_c _) h
  · refine g_iload_n hk 1 rfl dX12_has_151 ?_
    exact g_ireturn hk cx2 dX12_has_152 (by cases h; rfl)
theorem w_M_has_L115 {K : zK} (hk : zOk K kdM cX12_has 4 (some .int) RX12 2)  {o : Int} {m : zM} (hm : zG kdM m)  : ∀ (n : Nat) (x2 : Int) (x3 : Int), cI x2 → cI x3 → M_has_L115 m n x2 x3 = some o → GoAt K m [(0, .ref (kB K + 0)), (2, mI x2), (3, mI x3)] [] 115 (0, o, m)
  | 0, x2, x3, cx2, cx3, h => by cases h
  | n + 1, x2, x3, cx2, cx3, h => w_M_has_B115 hk  (w_M_has_L115 hk hm  n) hm cx2 cx3 h
set_option maxRecDepth 100000 in
set_option maxHeartbeats 4000000 in
theorem w_M_has_B155 {K : zK} (hk : zOk K kdM cX12_has 4 (some .int) RX12 2) {rec : Int → Int → Option (Int)} {x2 : Int} {x3 : Int} {m : zM} {o : Int} (hrec : ∀ (x2 : Int) (x3 : Int), cI x2 → cI x3 → rec x2 x3 = some o → GoAt K m [(0, .ref (kB K + 0)), (2, mI x2), (3, mI x3)] [] 155 (0, o, m)) (hm : zG kdM m) (cx2 : cI x2) (cx3 : cI x3) (h : M_has_B155 rec x2 x3 m = some o) : GoAt K m [(0, .ref (kB K + 0)), (2, mI x2), (3, mI x3)] [] 155 (0, o, m) := by
  unfold M_has_B155 at h
  refine g_iload_n hk 2 rfl dX12_has_155 ?_
  refine g_aload_n hk 0 rfl dX12_has_156 ?_
  refine g_get2 hk fl_X12_69 rfl kdM_0 hm (b := 7) rfl dX12_has_157 ?_
  refine g_aload_n hk 0 rfl dX12_has_160 ?_
  have g1 := zGI (i := 13) hm kdM_0 rfl
  refine g_get0 hk fl_X12_51 rfl (j := 13) rfl kdM_0 dX12_has_161 ?_
  refine g_iald hk g1 kdM_7 hm dX12_has_164 h (fun y2 cy2 h => ?_)
  refine g_icmp_ge hk cx3 cy2 dX12_has_165 h (fun b3 h => ?_) (fun b3 h => ?_)
  · refine g_iload_n hk 1 rfl dX12_has_168 ?_
    refine g_aload_n hk 0 rfl dX12_has_169 ?_
    refine g_get2 hk fl_X12_162 rfl kdM_0 hm (b := 30) rfl dX12_has_170 ?_
    refine g_iload_n hk 2 rfl dX12_has_173 ?_
    refine g_iald hk cx3 kdM_30 hm dX12_has_174 h (fun y4 cy4 h => ?_)
    refine g_iconst hk (v := (-1)) rfl dX12_has_175 ?_
    refine g_icmp_ne hk cy4 (cIk rfl) dX12_has_176 h (fun b5 h => ?_) (fun b5 h => ?_)
    · refine g_iconst hk (v := 0) rfl dX12_has_179 ?_
      refine g_goto hk dX12_has_180 ?_
      refine g_iadd hk dX12_has_184 ?_
      refine g_let (wI_c _) h (fun v6 cv6 h => ?_)
      refine g_istore_n hk rfl (lv' := [(2, mI v6), (0, .ref (kB K + 0)), (3, mI x3)]) (Nat.le_of_ble_eq_true rfl) rfl dX12_has_185 ?_
      refine g_iinc hk (lv' := [(3, mI (wI (x3 + 1))), (2, mI v6), (0, .ref (kB K + 0))]) 2 rfl (Nat.le_of_ble_eq_true rfl) rfl dX12_has_186 ?_
      refine g_goto hk dX12_has_189 ?_
      refine GoAt.sub [2, 1, 0] rfl ?_
      exact hrec _ _ cv6 (wI_c _) h
    · refine g_iconst hk (v := 1) rfl dX12_has_183 ?_
      refine g_iadd hk dX12_has_184 ?_
      refine g_let (wI_c _) h (fun v7 cv7 h => ?_)
      refine g_istore_n hk rfl (lv' := [(2, mI v7), (0, .ref (kB K + 0)), (3, mI x3)]) (Nat.le_of_ble_eq_true rfl) rfl dX12_has_185 ?_
      refine g_iinc hk (lv' := [(3, mI (wI (x3 + 1))), (2, mI v7), (0, .ref (kB K + 0))]) 2 rfl (Nat.le_of_ble_eq_true rfl) rfl dX12_has_186 ?_
      refine g_goto hk dX12_has_189 ?_
      refine GoAt.sub [2, 1, 0] rfl ?_
      exact hrec _ _ cv7 (wI_c _) h
  · refine g_iload_n hk 1 rfl dX12_has_192 ?_
    exact g_ireturn hk cx2 dX12_has_193 (by cases h; rfl)
theorem w_M_has_L155 {K : zK} (hk : zOk K kdM cX12_has 4 (some .int) RX12 2)  {o : Int} {m : zM} (hm : zG kdM m)  : ∀ (n : Nat) (x2 : Int) (x3 : Int), cI x2 → cI x3 → M_has_L155 m n x2 x3 = some o → GoAt K m [(0, .ref (kB K + 0)), (2, mI x2), (3, mI x3)] [] 155 (0, o, m)
  | 0, x2, x3, cx2, cx3, h => by cases h
  | n + 1, x2, x3, cx2, cx3, h => w_M_has_B155 hk  (w_M_has_L155 hk hm  n) hm cx2 cx3 h
set_option maxRecDepth 100000 in
set_option maxHeartbeats 4000000 in
theorem w_M_has {K : zK} (hk : zOk K kdM cX12_has 4 (some .int) RX12 2)  {x1 : Int} {m : zM} {o : Int}  (hm : zG kdM m) (cx1 : cI x1) (h : M_has x1 m = some o) : GoAt K m [(0, .ref (kB K + 0)), (1, mI x1)] [] 0 (0, o, m) := by
  unfold M_has at h
  refine g_iconst hk (v := 0) rfl dX12_has_0 ?_
  refine g_istore_n hk rfl (lv' := [(2, mI 0), (0, .ref (kB K + 0)), (1, mI x1)]) (Nat.le_of_ble_eq_true rfl) rfl dX12_has_1 ?_
  refine g_iload_n hk 2 rfl dX12_has_2 ?_
  rcases zite h with ⟨e1, h⟩ | ⟨e1, h⟩
  · refine g_tin hk cx1 dX12_has_3 e1 (by decide) (by decide) rfl (by decide) (tgt := 64) ?_
    refine g_aload_n hk 1 rfl dX12_has_64 ?_
    refine g_get2 hk fl_X12_54 rfl kdM_0 hm (b := 2) rfl dX12_has_65 ?_
    refine g_aload_n hk 1 rfl dX12_has_68 ?_
    have g13 := zGI (i := 13) hm kdM_0 rfl
    refine g_get0 hk fl_X12_51 rfl (j := 13) rfl kdM_0 dX12_has_69 ?_
    refine g_iald hk g13 kdM_2 hm dX12_has_72 h (fun y14 cy14 h => ?_)
    exact g_ireturn hk cy14 dX12_has_73 (by cases h; rfl)
  rcases zite h with ⟨e2, h⟩ | ⟨e2, h⟩
  · refine g_tin hk cx1 dX12_has_3 e2 (by decide) (by decide) rfl (by decide) (tgt := 74) ?_
    refine g_aload_n hk 1 rfl dX12_has_74 ?_
    refine g_get2 hk fl_X12_69 rfl kdM_0 hm (b := 7) rfl dX12_has_75 ?_
    refine g_aload_n hk 1 rfl dX12_has_78 ?_
    have g15 := zGI (i := 13) hm kdM_0 rfl
    refine g_get0 hk fl_X12_51 rfl (j := 13) rfl kdM_0 dX12_has_79 ?_
    refine g_iald hk g15 kdM_7 hm dX12_has_82 h (fun y16 cy16 h => ?_)
    exact g_ireturn hk cy16 dX12_has_83 (by cases h; rfl)
  rcases zite h with ⟨e3, h⟩ | ⟨e3, h⟩
  · refine g_tin hk cx1 dX12_has_3 e3 (by decide) (by decide) rfl (by decide) (tgt := 84) ?_
    refine g_aload_n hk 1 rfl dX12_has_84 ?_
    refine g_get2 hk fl_X12_153 rfl kdM_0 hm (b := 27) rfl dX12_has_85 ?_
    refine g_iconst hk (v := 0) rfl dX12_has_88 ?_
    refine g_iald hk (cIk rfl) kdM_27 hm dX12_has_89 h (fun y17 cy17 h => ?_)
    refine g_bipush hk (v := 24) rfl dX12_has_90 ?_
    refine g_idiv hk (cIk rfl) (by decide) dX12_has_92 ?_
    exact g_ireturn hk (cI_t _) dX12_has_93 (by cases h; rfl)
  rcases zite h with ⟨e4, h⟩ | ⟨e4, h⟩
  · refine g_tin hk cx1 dX12_has_3 e4 (by decide) (by decide) rfl (by decide) (tgt := 94) ?_
    refine g_aload_n hk 1 rfl dX12_has_94 ?_
    refine g_iconst hk (v := 0) rfl dX12_has_95 ?_
    obtain ⟨r18, e19, h⟩ := zbind h
    refine g_callVi hk (st := []) mf_X12_hourIn lk_X12_483 mv_X12_hourIn kdM_0 (by decide) rfl (Nat.le_of_ble_eq_true rfl) rfl dX12_has_96 (met_M_hourIn _ _ _ _ _ hk.wd hm (cIk rfl) e19) (fun hm c20 => ?_)
    exact g_ireturn hk c20 dX12_has_99 (by cases h; rfl)
  rcases zite h with ⟨e5, h⟩ | ⟨e5, h⟩
  · refine g_tin hk cx1 dX12_has_3 e5 (by decide) (by decide) rfl (by decide) (tgt := 100) ?_
    refine g_aload_n hk 1 rfl dX12_has_100 ?_
    refine g_iconst hk (v := 0) rfl dX12_has_101 ?_
    obtain ⟨r21, e22, h⟩ := zbind h
    refine g_callVi hk (st := []) mf_X12_toldOf lk_X12_517 mv_X12_toldOf kdM_0 (by decide) rfl (Nat.le_of_ble_eq_true rfl) rfl dX12_has_102 (met_M_toldOf _ _ _ _ _ hk.wd hm (cIk rfl) e22) (fun hm c23 => ?_)
    exact g_ireturn hk c23 dX12_has_105 (by cases h; rfl)
  rcases zite h with ⟨e6, h⟩ | ⟨e6, h⟩
  · refine g_tin hk cx1 dX12_has_3 e6 (by decide) (by decide) rfl (by decide) (tgt := 106) ?_
    refine g_aload_n hk 1 rfl dX12_has_106 ?_
    refine g_get2 hk fl_X12_156 rfl kdM_0 hm (b := 28) rfl dX12_has_107 ?_
    refine g_iconst hk (v := 0) rfl dX12_has_110 ?_
    refine g_iald hk (cIk rfl) kdM_28 hm dX12_has_111 h (fun y24 cy24 h => ?_)
    exact g_ireturn hk cy24 dX12_has_112 (by cases h; rfl)
  rcases zite h with ⟨e7, h⟩ | ⟨e7, h⟩
  · refine g_tin hk cx1 dX12_has_3 e7 (by decide) (by decide) rfl (by decide) (tgt := 113) ?_
    refine g_iconst hk (v := 0) rfl dX12_has_113 ?_
    refine g_istore_n hk rfl (lv' := [(3, mI 0), (2, mI 0), (0, .ref (kB K + 0)), (1, mI x1)]) (Nat.le_of_ble_eq_true rfl) rfl dX12_has_114 ?_
    refine GoAt.sub [2, 1, 0] rfl ?_
    refine w_M_has_L115 hk hm  1000000 _ _ (cIk rfl) (cIk rfl) h
  rcases zite h with ⟨e8, h⟩ | ⟨e8, h⟩
  · refine g_tin hk cx1 dX12_has_3 e8 (by decide) (by decide) rfl (by decide) (tgt := 153) ?_
    refine g_iconst hk (v := 0) rfl dX12_has_153 ?_
    refine g_istore_n hk rfl (lv' := [(3, mI 0), (2, mI 0), (0, .ref (kB K + 0)), (1, mI x1)]) (Nat.le_of_ble_eq_true rfl) rfl dX12_has_154 ?_
    refine GoAt.sub [2, 1, 0] rfl ?_
    refine w_M_has_L155 hk hm  1000000 _ _ (cIk rfl) (cIk rfl) h
  rcases zite h with ⟨e9, h⟩ | ⟨e9, h⟩
  · refine g_tin hk cx1 dX12_has_3 e9 (by decide) (by decide) rfl (by decide) (tgt := 194) ?_
    refine g_aload_n hk 1 rfl dX12_has_194 ?_
    refine g_get2 hk fl_X12_177 rfl kdM_0 hm (b := 35) rfl dX12_has_195 ?_
    refine g_iconst hk (v := 0) rfl dX12_has_198 ?_
    refine g_iald hk (cIk rfl) kdM_35 hm dX12_has_199 h (fun y25 cy25 h => ?_)
    exact g_ireturn hk cy25 dX12_has_200 (by cases h; rfl)
  rcases zite h with ⟨e10, h⟩ | ⟨e10, h⟩
  · refine g_tin hk cx1 dX12_has_3 e10 (by decide) (by decide) rfl (by decide) (tgt := 201) ?_
    refine g_aload_n hk 1 rfl dX12_has_201 ?_
    have g26 := zGI (i := 57) hm kdM_0 rfl
    refine g_get0 hk fl_X12_186 rfl (j := 57) rfl kdM_0 dX12_has_202 ?_
    exact g_ireturn hk g26 dX12_has_205 (by cases h; rfl)
  rcases zite h with ⟨e11, h⟩ | ⟨e11, h⟩
  · refine g_tin hk cx1 dX12_has_3 e11 (by decide) (by decide) rfl (by decide) (tgt := 206) ?_
    refine g_aload_n hk 1 rfl dX12_has_206 ?_
    have g27 := zGL (i := 58) hm kdM_0 rfl
    refine g_get1 hk fl_X12_189 rfl (j := 58) rfl kdM_0 dX12_has_207 ?_
    refine g_l2i hk g27 dX12_has_210 ?_
    exact g_ireturn hk (wI_c _) dX12_has_211 (by cases h; rfl)
  rcases zite h with ⟨e12, h⟩ | ⟨e12, h⟩
  · refine g_tin hk cx1 dX12_has_3 e12 (by decide) (by decide) rfl (by decide) (tgt := 212) ?_
    refine g_aload_n hk 1 rfl dX12_has_212 ?_
    have g28 := zGI (i := 65) hm kdM_0 rfl
    refine g_get0 hk fl_X12_210 rfl (j := 65) rfl kdM_0 dX12_has_213 ?_
    exact g_ireturn hk g28 dX12_has_216 (by cases h; rfl)
  refine g_tout hk cx1 dX12_has_3 (by omega) (by decide) (tgt := 217) ?_
  refine g_iconst hk (v := (-1)) rfl dX12_has_217 ?_
  exact g_ireturn hk (cIk rfl) dX12_has_218 (by cases h; rfl)
theorem met_M_has (l : Launch) (D : va_G) (aC : Nat → ClassId) (B N : Nat) (hwd : ∀ id, (kdM id).1 ≠ 9 → id < N) {x1 : Int} {m : zM} {o : Int} (hm : zG kdM m) (cx1 : cI x1) (h : M_has x1 m = some o) : zMet l yX12_has cX12_has 4 (some .int) 2 D aC B kdM N [.ref (B + 0), mI x1] m (0, o, m) := by
  refine zMet.of mf_X12_has hwd hm (Nat.le_of_ble_eq_true rfl) (fun K e1 e2 e3 e4 e5 hk => ?_)
  subst e4
  exact w_M_has hk hm cx1 h
set_option maxRecDepth 100000 in
set_option maxHeartbeats 4000000 in
theorem w_M_letter_B58 {K : zK} (hk : zOk K kdM cX12_letter 9 (some .int) RX12 1) {k78 : Int → Int → Int → Option (Int)} {rec : Int → Int → Int → Int → Option (Int)} {x3 : Int} {x4 : Int} {x6 : Int} {x7 : Int} {m : zM} {o : Int} (hk78 : ∀ (x3 : Int) (x4 : Int) (x6 : Int), cI x3 → cL x4 → cI x6 → k78 x3 x4 x6 = some o → GoAt K m [(3, mI x3), (4, mL x4), (6, mI x6)] [] 78 (0, o, m)) (hrec : ∀ (x3 : Int) (x4 : Int) (x6 : Int) (x7 : Int), cI x3 → cL x4 → cI x6 → cL x7 → rec x3 x4 x6 x7 = some o → GoAt K m [(3, mI x3), (4, mL x4), (6, mI x6), (7, mL x7)] [] 58 (0, o, m)) (hm : zG kdM m) (cx3 : cI x3) (cx4 : cL x4) (cx6 : cI x6) (cx7 : cL x7) (h : M_letter_B58 k78 rec x3 x4 x6 x7 m = some o) : GoAt K m [(3, mI x3), (4, mL x4), (6, mI x6), (7, mL x7)] [] 58 (0, o, m) := by
  unfold M_letter_B58 at h
  refine g_lload hk 3 rfl dX12_letter_58 ?_
  refine g_lconst hk (v := 0) rfl dX12_letter_60 ?_
  refine g_lcmp_le hk cx7 (cLk rfl) dX12_letter_61 dX12_letter_62 h (fun b1 h => ?_) (fun b1 h => ?_)
  · refine g_iinc hk (lv' := [(6, mI (wI (x6 + 1))), (3, mI x3), (4, mL x4), (7, mL x7)]) 2 rfl (Nat.le_of_ble_eq_true rfl) rfl dX12_letter_65 ?_
    refine g_lload hk 3 rfl dX12_letter_68 ?_
    refine g_bipush hk (v := 8) rfl dX12_letter_70 ?_
    refine g_lshr hk dX12_letter_72 ?_
    refine g_lstore hk (lv' := [(7, mL (srL x7 8)), (6, mI (wI (x6 + 1))), (3, mI x3), (4, mL x4)]) (Nat.le_of_ble_eq_true rfl) rfl dX12_letter_73 ?_
    refine g_goto hk dX12_letter_75 ?_
    refine GoAt.sub [2, 3, 1, 0] rfl ?_
    exact hrec _ _ _ _ cx3 cx4 (wI_c _) (cL_t _) h
  · refine GoAt.sub [0, 1, 2] rfl ?_
    exact hk78 _ _ _ cx3 cx4 cx6 h
theorem w_M_letter_L58 {K : zK} (hk : zOk K kdM cX12_letter 9 (some .int) RX12 1) {k78 : Int → Int → Int → Option (Int)} {o : Int} {m : zM} (hm : zG kdM m) (hk78 : ∀ (x3 : Int) (x4 : Int) (x6 : Int), cI x3 → cL x4 → cI x6 → k78 x3 x4 x6 = some o → GoAt K m [(3, mI x3), (4, mL x4), (6, mI x6)] [] 78 (0, o, m)) : ∀ (n : Nat) (x3 : Int) (x4 : Int) (x6 : Int) (x7 : Int), cI x3 → cL x4 → cI x6 → cL x7 → M_letter_L58 k78 m n x3 x4 x6 x7 = some o → GoAt K m [(3, mI x3), (4, mL x4), (6, mI x6), (7, mL x7)] [] 58 (0, o, m)
  | 0, x3, x4, x6, x7, cx3, cx4, cx6, cx7, h => by cases h
  | n + 1, x3, x4, x6, x7, cx3, cx4, cx6, cx7, h => w_M_letter_B58 hk hk78 (w_M_letter_L58 hk hm hk78 n) hm cx3 cx4 cx6 cx7 h
set_option maxRecDepth 100000 in
set_option maxHeartbeats 4000000 in
theorem w_M_letter {K : zK} (hk : zOk K kdM cX12_letter 9 (some .int) RX12 1)  {x1 : Int} {x2 : Int} {x3 : Int} {m : zM} {o : Int}  (hm : zG kdM m) (cx1 : cI x1) (cx2 : cI x2) (cx3 : cI x3) (h : M_letter x1 x2 x3 m = some o) : GoAt K m [(0, .ref (kB K + 0)), (1, mI x1), (2, mI x2), (3, mI x3)] [] 0 (0, o, m) := by
  unfold M_letter at h
  refine g_iload_n hk 1 rfl dX12_letter_0 ?_
  refine g_iconst hk (v := 0) rfl dX12_letter_1 ?_
  refine g_iconst hk (v := 1) rfl dX12_letter_2 ?_
  obtain ⟨r1, e2, h⟩ := zbind h
  refine g_callSz hk (st := []) mf_X12_is lk_X12_345 ms_X12_is (by decide) rfl (Nat.le_of_ble_eq_true rfl) rfl dX12_letter_3 (met_M_is _ _ _ _ _ hk.wd hm cx1 (cIk rfl) (cIk rfl) e2) (fun hm c3 => ?_)
  refine g_if_eq hk (b01 c3) dX12_letter_6 h (fun b4 h => ?_) (fun b4 h => ?_)
  · refine g_iconst hk (v := (-1)) rfl dX12_letter_37 ?_
    exact g_ireturn hk (cIk rfl) dX12_letter_38 (by cases h; rfl)
  · refine g_iload_n hk 2 rfl dX12_letter_9 ?_
    refine g_iconst hk (v := 0) rfl dX12_letter_10 ?_
    refine g_aload_n hk 0 rfl dX12_letter_11 ?_
    refine g_aload_n hk 0 rfl dX12_letter_12 ?_
    have g5 := zGI (i := 13) hm kdM_0 rfl
    refine g_get0 hk fl_X12_51 rfl (j := 13) rfl kdM_0 dX12_letter_13 ?_
    refine g_iload_n hk 1 rfl dX12_letter_16 ?_
    obtain ⟨r6, e7, h⟩ := zbind h
    refine g_callVi hk (st := [mI 0, mI x2]) mf_X12_manyOf lk_X12_337 mv_X12_manyOf kdM_0 (by decide) rfl (Nat.le_of_ble_eq_true rfl) rfl dX12_letter_17 (met_M_manyOf _ _ _ _ _ hk.wd hm g5 cx1 e7) (fun hm c8 => ?_)
    refine g_iconst hk (v := 1) rfl dX12_letter_20 ?_
    refine g_isub hk dX12_letter_21 ?_
    obtain ⟨r9, e10, h⟩ := zbind h
    refine g_callSz hk (st := []) mf_X12_is lk_X12_345 ms_X12_is (by decide) rfl (Nat.le_of_ble_eq_true rfl) rfl dX12_letter_22 (met_M_is _ _ _ _ _ hk.wd hm cx2 (cIk rfl) (wI_c _) e10) (fun hm c11 => ?_)
    refine g_if_eq hk (b01 c11) dX12_letter_25 h (fun b12 h => ?_) (fun b12 h => ?_)
    · refine g_iconst hk (v := (-1)) rfl dX12_letter_37 ?_
      exact g_ireturn hk (cIk rfl) dX12_letter_38 (by cases h; rfl)
    · refine g_iload_n hk 3 rfl dX12_letter_28 ?_
      refine g_iconst hk (v := 0) rfl dX12_letter_29 ?_
      refine g_iconst hk (v := 5) rfl dX12_letter_30 ?_
      obtain ⟨r13, e14, h⟩ := zbind h
      refine g_callSz hk (st := []) mf_X12_is lk_X12_345 ms_X12_is (by decide) rfl (Nat.le_of_ble_eq_true rfl) rfl dX12_letter_31 (met_M_is _ _ _ _ _ hk.wd hm cx3 (cIk rfl) (cIk rfl) e14) (fun hm c15 => ?_)
      refine g_if_ne hk (b01 c15) dX12_letter_34 h (fun b16 h => ?_) (fun b16 h => ?_)
      · refine g_iconst hk (v := (-1)) rfl dX12_letter_37 ?_
        exact g_ireturn hk (cIk rfl) dX12_letter_38 (by cases h; rfl)
      · refine g_aload_n hk 0 rfl dX12_letter_39 ?_
        refine g_aload_n hk 0 rfl dX12_letter_40 ?_
        have g17 := zGI (i := 13) hm kdM_0 rfl
        refine g_get0 hk fl_X12_51 rfl (j := 13) rfl kdM_0 dX12_letter_41 ?_
        refine g_iload_n hk 1 rfl dX12_letter_44 ?_
        refine g_iload_n hk 2 rfl dX12_letter_45 ?_
        obtain ⟨r18, e19, h⟩ := zbind h
        refine g_callVl hk (st := []) mf_X12_nameOf lk_X12_341 mv_X12_nameOf kdM_0 (by decide) rfl (Nat.le_of_ble_eq_true rfl) rfl dX12_letter_46 (met_M_nameOf _ _ _ _ _ hk.wd hm g17 cx1 cx2 e19) (fun hm c20 => ?_)
        refine g_lstore hk (lv' := [(4, mL r18), (0, .ref (kB K + 0)), (1, mI x1), (2, mI x2), (3, mI x3)]) (Nat.le_of_ble_eq_true rfl) rfl dX12_letter_49 ?_
        refine g_iconst hk (v := 0) rfl dX12_letter_51 ?_
        refine g_istore hk (lv' := [(6, mI 0), (4, mL r18), (0, .ref (kB K + 0)), (1, mI x1), (2, mI x2), (3, mI x3)]) (Nat.le_of_ble_eq_true rfl) rfl dX12_letter_52 ?_
        refine g_lload hk 1 rfl dX12_letter_54 ?_
        refine g_lstore hk (lv' := [(7, mL r18), (6, mI 0), (4, mL r18), (0, .ref (kB K + 0)), (1, mI x1), (2, mI x2), (3, mI x3)]) (Nat.le_of_ble_eq_true rfl) rfl dX12_letter_56 ?_
        refine GoAt.sub [6, 2, 1, 0] rfl ?_
        refine w_M_letter_L58 hk hm (fun x3_21 x4_21 x6_21 cx3_21 cx4_21 cx6_21 h => ?_) 1000000 _ _ _ _ cx3 c20 (cIk rfl) c20 h
        · refine g_iload_n hk 0 rfl dX12_letter_78 ?_
          refine g_iload hk 2 rfl dX12_letter_79 ?_
          refine g_icmp_lt hk cx3_21 cx6_21 dX12_letter_81 h (fun b22 h => ?_) (fun b22 h => ?_)
          · refine g_lload hk 1 rfl dX12_letter_88 ?_
            refine g_bipush hk (v := 8) rfl dX12_letter_90 ?_
            refine g_iload hk 2 rfl dX12_letter_92 ?_
            refine g_iconst hk (v := 1) rfl dX12_letter_94 ?_
            refine g_isub hk dX12_letter_95 ?_
            refine g_iload_n hk 0 rfl dX12_letter_96 ?_
            refine g_isub hk dX12_letter_97 ?_
            refine g_imul hk dX12_letter_98 ?_
            refine g_lshr hk dX12_letter_99 ?_
            refine g_ldc2 hk (v := 255) cn_X12_531 dX12_letter_100 ?_
            refine g_land hk dX12_letter_103 ?_
            refine g_l2i hk (cL_t _) dX12_letter_104 ?_
            refine g_bipush hk (v := 97) rfl dX12_letter_105 ?_
            refine g_isub hk dX12_letter_107 ?_
            refine g_iconst hk (v := 1) rfl dX12_letter_108 ?_
            refine g_iadd hk dX12_letter_109 ?_
            exact g_ireturn hk (wI_c _) dX12_letter_110 (by cases h; rfl)
          · refine g_iconst hk (v := 0) rfl dX12_letter_84 ?_
            refine g_goto hk dX12_letter_85 ?_
            exact g_ireturn hk (cIk rfl) dX12_letter_110 (by cases h; rfl)
theorem met_M_letter (l : Launch) (D : va_G) (aC : Nat → ClassId) (B N : Nat) (hwd : ∀ id, (kdM id).1 ≠ 9 → id < N) {x1 : Int} {x2 : Int} {x3 : Int} {m : zM} {o : Int} (hm : zG kdM m) (cx1 : cI x1) (cx2 : cI x2) (cx3 : cI x3) (h : M_letter x1 x2 x3 m = some o) : zMet l yX12_letter cX12_letter 9 (some .int) 1 D aC B kdM N [.ref (B + 0), mI x1, mI x2, mI x3] m (0, o, m) := by
  refine zMet.of mf_X12_letter hwd hm (Nat.le_of_ble_eq_true rfl) (fun K e1 e2 e3 e4 e5 hk => ?_)
  subst e4
  exact w_M_letter hk hm cx1 cx2 cx3 h
set_option maxRecDepth 100000 in
set_option maxHeartbeats 4000000 in
theorem w_M_beast_B128 {K : zK} (hk : zOk K kdM cX12_beast 4 (some .int) RX12 2) {rec : Int → Int → Option (Int)} {x1 : Int} {x3 : Int} {m : zM} {o : Int} (hrec : ∀ (x1 : Int) (x3 : Int), cI x1 → cI x3 → rec x1 x3 = some o → GoAt K m [(0, .ref (kB K + 0)), (1, mI x1), (3, mI x3)] [] 128 (0, o, m)) (hm : zG kdM m) (cx1 : cI x1) (cx3 : cI x3) (h : M_beast_B128 rec x1 x3 m = some o) : GoAt K m [(0, .ref (kB K + 0)), (1, mI x1), (3, mI x3)] [] 128 (0, o, m) := by
  unfold M_beast_B128 at h
  refine g_iload_n hk 2 rfl dX12_beast_128 ?_
  refine g_aload_n hk 0 rfl dX12_beast_129 ?_
  refine g_get2 hk fl_X12_69 rfl kdM_0 hm (b := 7) rfl dX12_beast_130 ?_
  refine g_aload_n hk 0 rfl dX12_beast_133 ?_
  have g1 := zGI (i := 13) hm kdM_0 rfl
  refine g_get0 hk fl_X12_51 rfl (j := 13) rfl kdM_0 dX12_beast_134 ?_
  refine g_iald hk g1 kdM_7 hm dX12_beast_137 h (fun y2 cy2 h => ?_)
  refine g_icmp_ge hk cx3 cy2 dX12_beast_138 h (fun b3 h => ?_) (fun b3 h => ?_)
  · refine g_aload_n hk 0 rfl dX12_beast_141 ?_
    refine g_get2 hk fl_X12_162 rfl kdM_0 hm (b := 30) rfl dX12_beast_142 ?_
    refine g_iload_n hk 2 rfl dX12_beast_145 ?_
    refine g_iald hk cx3 kdM_30 hm dX12_beast_146 h (fun y4 cy4 h => ?_)
    refine g_iload_n hk 1 rfl dX12_beast_147 ?_
    refine g_icmp_ne hk cy4 cx1 dX12_beast_148 h (fun b5 h => ?_) (fun b5 h => ?_)
    · refine g_iload_n hk 2 rfl dX12_beast_151 ?_
      exact g_ireturn hk cx3 dX12_beast_152 (by cases h; rfl)
    · refine g_iinc hk (lv' := [(3, mI (wI (x3 + 1))), (0, .ref (kB K + 0)), (1, mI x1)]) 2 rfl (Nat.le_of_ble_eq_true rfl) rfl dX12_beast_153 ?_
      refine g_goto hk dX12_beast_156 ?_
      refine GoAt.sub [1, 2, 0] rfl ?_
      exact hrec _ _ cx1 (wI_c _) h
  · refine g_iconst hk (v := (-1)) rfl dX12_beast_159 ?_
    exact g_ireturn hk (cIk rfl) dX12_beast_160 (by cases h; rfl)
theorem w_M_beast_L128 {K : zK} (hk : zOk K kdM cX12_beast 4 (some .int) RX12 2)  {o : Int} {m : zM} (hm : zG kdM m)  : ∀ (n : Nat) (x1 : Int) (x3 : Int), cI x1 → cI x3 → M_beast_L128 m n x1 x3 = some o → GoAt K m [(0, .ref (kB K + 0)), (1, mI x1), (3, mI x3)] [] 128 (0, o, m)
  | 0, x1, x3, cx1, cx3, h => by cases h
  | n + 1, x1, x3, cx1, cx3, h => w_M_beast_B128 hk  (w_M_beast_L128 hk hm  n) hm cx1 cx3 h
set_option maxRecDepth 100000 in
set_option maxHeartbeats 4000000 in
theorem w_M_beast {K : zK} (hk : zOk K kdM cX12_beast 4 (some .int) RX12 2)  {x1 : Int} {x2 : Int} {m : zM} {o : Int}  (hm : zG kdM m) (cx1 : cI x1) (cx2 : cI x2) (h : M_beast x1 x2 m = some o) : GoAt K m [(0, .ref (kB K + 0)), (1, mI x1), (2, mI x2)] [] 0 (0, o, m) := by
  unfold M_beast at h
  refine g_aload_n hk 0 rfl dX12_beast_0 ?_
  refine g_iload_n hk 1 rfl dX12_beast_1 ?_
  obtain ⟨r1, e2, h⟩ := zbind h
  refine g_callVz hk (st := []) mf_X12_isBeast lk_X12_533 mv_X12_isBeast kdM_0 (by decide) rfl (Nat.le_of_ble_eq_true rfl) rfl dX12_beast_2 (met_M_isBeast _ _ _ _ _ hk.wd hm cx1 e2) (fun hm c3 => ?_)
  refine g_if_ne hk (b01 c3) dX12_beast_5 h (fun b4 h => ?_) (fun b4 h => ?_)
  · refine g_iconst hk (v := (-1)) rfl dX12_beast_8 ?_
    exact g_ireturn hk (cIk rfl) dX12_beast_9 (by cases h; rfl)
  · refine g_iload_n hk 2 rfl dX12_beast_10 ?_
    rcases zite h with ⟨e5, h⟩ | ⟨e5, h⟩
    · refine g_tin hk cx2 dX12_beast_11 e5 (by decide) (by decide) rfl (by decide) (tgt := 56) ?_
      refine g_aload_n hk 0 rfl dX12_beast_56 ?_
      refine g_get2 hk fl_X12_57 rfl kdM_0 hm (b := 3) rfl dX12_beast_57 ?_
      refine g_bipush hk (v := 6) rfl dX12_beast_60 ?_
      refine g_aload_n hk 0 rfl dX12_beast_62 ?_
      have g13 := zGI (i := 13) hm kdM_0 rfl
      refine g_get0 hk fl_X12_51 rfl (j := 13) rfl kdM_0 dX12_beast_63 ?_
      refine g_imul hk dX12_beast_66 ?_
      refine g_iload_n hk 1 rfl dX12_beast_67 ?_
      refine g_iadd hk dX12_beast_68 ?_
      refine g_iald hk (wI_c _) kdM_3 hm dX12_beast_69 h (fun y14 cy14 h => ?_)
      exact g_ireturn hk cy14 dX12_beast_70 (by cases h; rfl)
    rcases zite h with ⟨e6, h⟩ | ⟨e6, h⟩
    · refine g_tin hk cx2 dX12_beast_11 e6 (by decide) (by decide) rfl (by decide) (tgt := 71) ?_
      refine g_aload_n hk 0 rfl dX12_beast_71 ?_
      refine g_get2 hk fl_X12_60 rfl kdM_0 hm (b := 4) rfl dX12_beast_72 ?_
      refine g_bipush hk (v := 6) rfl dX12_beast_75 ?_
      refine g_aload_n hk 0 rfl dX12_beast_77 ?_
      have g15 := zGI (i := 13) hm kdM_0 rfl
      refine g_get0 hk fl_X12_51 rfl (j := 13) rfl kdM_0 dX12_beast_78 ?_
      refine g_imul hk dX12_beast_81 ?_
      refine g_iload_n hk 1 rfl dX12_beast_82 ?_
      refine g_iadd hk dX12_beast_83 ?_
      refine g_iald hk (wI_c _) kdM_4 hm dX12_beast_84 h (fun y16 cy16 h => ?_)
      exact g_ireturn hk cy16 dX12_beast_85 (by cases h; rfl)
    rcases zite h with ⟨e7, h⟩ | ⟨e7, h⟩
    · refine g_tin hk cx2 dX12_beast_11 e7 (by decide) (by decide) rfl (by decide) (tgt := 86) ?_
      refine g_aload_n hk 0 rfl dX12_beast_86 ?_
      refine g_get2 hk fl_X12_63 rfl kdM_0 hm (b := 5) rfl dX12_beast_87 ?_
      refine g_bipush hk (v := 6) rfl dX12_beast_90 ?_
      refine g_aload_n hk 0 rfl dX12_beast_92 ?_
      have g17 := zGI (i := 13) hm kdM_0 rfl
      refine g_get0 hk fl_X12_51 rfl (j := 13) rfl kdM_0 dX12_beast_93 ?_
      refine g_imul hk dX12_beast_96 ?_
      refine g_iload_n hk 1 rfl dX12_beast_97 ?_
      refine g_iadd hk dX12_beast_98 ?_
      refine g_iald hk (wI_c _) kdM_5 hm dX12_beast_99 h (fun y18 cy18 h => ?_)
      exact g_ireturn hk cy18 dX12_beast_100 (by cases h; rfl)
    rcases zite h with ⟨e8, h⟩ | ⟨e8, h⟩
    · refine g_tin hk cx2 dX12_beast_11 e8 (by decide) (by decide) rfl (by decide) (tgt := 101) ?_
      refine g_aload_n hk 0 rfl dX12_beast_101 ?_
      refine g_iconst hk (v := 0) rfl dX12_beast_102 ?_
      refine g_iload_n hk 1 rfl dX12_beast_103 ?_
      refine g_iload_n hk 2 rfl dX12_beast_104 ?_
      refine g_iconst hk (v := 3) rfl dX12_beast_105 ?_
      refine g_isub hk dX12_beast_106 ?_
      obtain ⟨r19, e20, h⟩ := zbind h
      refine g_callVi hk (st := []) mf_X12_tasteIn lk_X12_475 mv_X12_tasteIn kdM_0 (by decide) rfl (Nat.le_of_ble_eq_true rfl) rfl dX12_beast_107 (met_M_tasteIn _ _ _ _ _ hk.wd hm (cIk rfl) cx1 (wI_c _) e20) (fun hm c21 => ?_)
      exact g_ireturn hk c21 dX12_beast_110 (by cases h; rfl)
    rcases zite h with ⟨e9, h⟩ | ⟨e9, h⟩
    · refine g_tin hk cx2 dX12_beast_11 e9 (by decide) (by decide) rfl (by decide) (tgt := 101) ?_
      refine g_aload_n hk 0 rfl dX12_beast_101 ?_
      refine g_iconst hk (v := 0) rfl dX12_beast_102 ?_
      refine g_iload_n hk 1 rfl dX12_beast_103 ?_
      refine g_iload_n hk 2 rfl dX12_beast_104 ?_
      refine g_iconst hk (v := 3) rfl dX12_beast_105 ?_
      refine g_isub hk dX12_beast_106 ?_
      obtain ⟨r22, e23, h⟩ := zbind h
      refine g_callVi hk (st := []) mf_X12_tasteIn lk_X12_475 mv_X12_tasteIn kdM_0 (by decide) rfl (Nat.le_of_ble_eq_true rfl) rfl dX12_beast_107 (met_M_tasteIn _ _ _ _ _ hk.wd hm (cIk rfl) cx1 (wI_c _) e23) (fun hm c24 => ?_)
      exact g_ireturn hk c24 dX12_beast_110 (by cases h; rfl)
    rcases zite h with ⟨e10, h⟩ | ⟨e10, h⟩
    · refine g_tin hk cx2 dX12_beast_11 e10 (by decide) (by decide) rfl (by decide) (tgt := 101) ?_
      refine g_aload_n hk 0 rfl dX12_beast_101 ?_
      refine g_iconst hk (v := 0) rfl dX12_beast_102 ?_
      refine g_iload_n hk 1 rfl dX12_beast_103 ?_
      refine g_iload_n hk 2 rfl dX12_beast_104 ?_
      refine g_iconst hk (v := 3) rfl dX12_beast_105 ?_
      refine g_isub hk dX12_beast_106 ?_
      obtain ⟨r25, e26, h⟩ := zbind h
      refine g_callVi hk (st := []) mf_X12_tasteIn lk_X12_475 mv_X12_tasteIn kdM_0 (by decide) rfl (Nat.le_of_ble_eq_true rfl) rfl dX12_beast_107 (met_M_tasteIn _ _ _ _ _ hk.wd hm (cIk rfl) cx1 (wI_c _) e26) (fun hm c27 => ?_)
      exact g_ireturn hk c27 dX12_beast_110 (by cases h; rfl)
    rcases zite h with ⟨e11, h⟩ | ⟨e11, h⟩
    · refine g_tin hk cx2 dX12_beast_11 e11 (by decide) (by decide) rfl (by decide) (tgt := 111) ?_
      refine g_aload_n hk 0 rfl dX12_beast_111 ?_
      refine g_iconst hk (v := 0) rfl dX12_beast_112 ?_
      refine g_iload_n hk 1 rfl dX12_beast_113 ?_
      obtain ⟨r28, e29, h⟩ := zbind h
      refine g_callVz hk (st := []) mf_X12_isAwake lk_X12_507 mv_X12_isAwake kdM_0 (by decide) rfl (Nat.le_of_ble_eq_true rfl) rfl dX12_beast_114 (met_M_isAwake _ _ _ _ _ hk.wd hm (cIk rfl) cx1 e29) (fun hm c30 => ?_)
      refine g_if_eq hk (b01 c30) dX12_beast_117 h (fun b31 h => ?_) (fun b31 h => ?_)
      · refine g_iconst hk (v := 0) rfl dX12_beast_124 ?_
        exact g_ireturn hk (cIk rfl) dX12_beast_125 (by cases h; rfl)
      · refine g_iconst hk (v := 1) rfl dX12_beast_120 ?_
        refine g_goto hk dX12_beast_121 ?_
        exact g_ireturn hk (cIk rfl) dX12_beast_125 (by cases h; rfl)
    rcases zite h with ⟨e12, h⟩ | ⟨e12, h⟩
    · refine g_tin hk cx2 dX12_beast_11 e12 (by decide) (by decide) rfl (by decide) (tgt := 126) ?_
      refine g_iconst hk (v := 0) rfl dX12_beast_126 ?_
      refine g_istore_n hk rfl (lv' := [(3, mI 0), (0, .ref (kB K + 0)), (1, mI x1), (2, mI x2)]) (Nat.le_of_ble_eq_true rfl) rfl dX12_beast_127 ?_
      refine GoAt.sub [1, 2, 0] rfl ?_
      refine w_M_beast_L128 hk hm  1000000 _ _ cx1 (cIk rfl) h
    refine g_tout hk cx2 dX12_beast_11 (by omega) (by decide) (tgt := 161) ?_
    refine g_iconst hk (v := (-1)) rfl dX12_beast_161 ?_
    exact g_ireturn hk (cIk rfl) dX12_beast_162 (by cases h; rfl)
theorem met_M_beast (l : Launch) (D : va_G) (aC : Nat → ClassId) (B N : Nat) (hwd : ∀ id, (kdM id).1 ≠ 9 → id < N) {x1 : Int} {x2 : Int} {m : zM} {o : Int} (hm : zG kdM m) (cx1 : cI x1) (cx2 : cI x2) (h : M_beast x1 x2 m = some o) : zMet l yX12_beast cX12_beast 4 (some .int) 2 D aC B kdM N [.ref (B + 0), mI x1, mI x2] m (0, o, m) := by
  refine zMet.of mf_X12_beast hwd hm (Nat.le_of_ble_eq_true rfl) (fun K e1 e2 e3 e4 e5 hk => ?_)
  subst e4
  exact w_M_beast hk hm cx1 cx2 h
set_option maxRecDepth 100000 in
set_option maxHeartbeats 4000000 in
theorem w_M_guest {K : zK} (hk : zOk K kdM cX12_guest 3 (some .int) RX12 1)  {x1 : Int} {x2 : Int} {m : zM} {o : Int}  (hm : zG kdM m) (cx1 : cI x1) (cx2 : cI x2) (h : M_guest x1 x2 m = some o) : GoAt K m [(0, .ref (kB K + 0)), (1, mI x1), (2, mI x2)] [] 0 (0, o, m) := by
  unfold M_guest at h
  refine g_aload_n hk 0 rfl dX12_guest_0 ?_
  refine g_iload_n hk 1 rfl dX12_guest_1 ?_
  obtain ⟨r1, e2, h⟩ := zbind h
  refine g_callVz hk (st := []) mf_X12_isGuest lk_X12_536 mv_X12_isGuest kdM_0 (by decide) rfl (Nat.le_of_ble_eq_true rfl) rfl dX12_guest_2 (met_M_isGuest _ _ _ _ _ hk.wd hm cx1 e2) (fun hm c3 => ?_)
  refine g_if_ne hk (b01 c3) dX12_guest_5 h (fun b4 h => ?_) (fun b4 h => ?_)
  · refine g_iconst hk (v := (-1)) rfl dX12_guest_8 ?_
    exact g_ireturn hk (cIk rfl) dX12_guest_9 (by cases h; rfl)
  · refine g_iload_n hk 2 rfl dX12_guest_10 ?_
    rcases zite h with ⟨e5, h⟩ | ⟨e5, h⟩
    · refine g_tin hk cx2 dX12_guest_11 e5 (by decide) (by decide) rfl (by decide) (tgt := 56) ?_
      refine g_aload_n hk 0 rfl dX12_guest_56 ?_
      refine g_iconst hk (v := 0) rfl dX12_guest_57 ?_
      refine g_iload_n hk 1 rfl dX12_guest_58 ?_
      refine g_iload_n hk 2 rfl dX12_guest_59 ?_
      obtain ⟨r13, e14, h⟩ := zbind h
      refine g_callVi hk (st := []) mf_X12_look lk_X12_471 mv_X12_look kdM_0 (by decide) rfl (Nat.le_of_ble_eq_true rfl) rfl dX12_guest_60 (met_M_look _ _ _ _ _ hk.wd hm (cIk rfl) cx1 cx2 e14) (fun hm c15 => ?_)
      exact g_ireturn hk c15 dX12_guest_63 (by cases h; rfl)
    rcases zite h with ⟨e6, h⟩ | ⟨e6, h⟩
    · refine g_tin hk cx2 dX12_guest_11 e6 (by decide) (by decide) rfl (by decide) (tgt := 56) ?_
      refine g_aload_n hk 0 rfl dX12_guest_56 ?_
      refine g_iconst hk (v := 0) rfl dX12_guest_57 ?_
      refine g_iload_n hk 1 rfl dX12_guest_58 ?_
      refine g_iload_n hk 2 rfl dX12_guest_59 ?_
      obtain ⟨r16, e17, h⟩ := zbind h
      refine g_callVi hk (st := []) mf_X12_look lk_X12_471 mv_X12_look kdM_0 (by decide) rfl (Nat.le_of_ble_eq_true rfl) rfl dX12_guest_60 (met_M_look _ _ _ _ _ hk.wd hm (cIk rfl) cx1 cx2 e17) (fun hm c18 => ?_)
      exact g_ireturn hk c18 dX12_guest_63 (by cases h; rfl)
    rcases zite h with ⟨e7, h⟩ | ⟨e7, h⟩
    · refine g_tin hk cx2 dX12_guest_11 e7 (by decide) (by decide) rfl (by decide) (tgt := 56) ?_
      refine g_aload_n hk 0 rfl dX12_guest_56 ?_
      refine g_iconst hk (v := 0) rfl dX12_guest_57 ?_
      refine g_iload_n hk 1 rfl dX12_guest_58 ?_
      refine g_iload_n hk 2 rfl dX12_guest_59 ?_
      obtain ⟨r19, e20, h⟩ := zbind h
      refine g_callVi hk (st := []) mf_X12_look lk_X12_471 mv_X12_look kdM_0 (by decide) rfl (Nat.le_of_ble_eq_true rfl) rfl dX12_guest_60 (met_M_look _ _ _ _ _ hk.wd hm (cIk rfl) cx1 cx2 e20) (fun hm c21 => ?_)
      exact g_ireturn hk c21 dX12_guest_63 (by cases h; rfl)
    rcases zite h with ⟨e8, h⟩ | ⟨e8, h⟩
    · refine g_tin hk cx2 dX12_guest_11 e8 (by decide) (by decide) rfl (by decide) (tgt := 64) ?_
      refine g_aload_n hk 0 rfl dX12_guest_64 ?_
      refine g_get2 hk fl_X12_75 rfl kdM_0 hm (b := 9) rfl dX12_guest_65 ?_
      refine g_bipush hk (v := 8) rfl dX12_guest_68 ?_
      refine g_aload_n hk 0 rfl dX12_guest_70 ?_
      have g22 := zGI (i := 13) hm kdM_0 rfl
      refine g_get0 hk fl_X12_51 rfl (j := 13) rfl kdM_0 dX12_guest_71 ?_
      refine g_imul hk dX12_guest_74 ?_
      refine g_iload_n hk 1 rfl dX12_guest_75 ?_
      refine g_iadd hk dX12_guest_76 ?_
      refine g_iald hk (wI_c _) kdM_9 hm dX12_guest_77 h (fun y23 cy23 h => ?_)
      exact g_ireturn hk cy23 dX12_guest_78 (by cases h; rfl)
    rcases zite h with ⟨e9, h⟩ | ⟨e9, h⟩
    · refine g_tin hk cx2 dX12_guest_11 e9 (by decide) (by decide) rfl (by decide) (tgt := 79) ?_
      refine g_aload_n hk 0 rfl dX12_guest_79 ?_
      refine g_get2 hk fl_X12_78 rfl kdM_0 hm (b := 10) rfl dX12_guest_80 ?_
      refine g_bipush hk (v := 8) rfl dX12_guest_83 ?_
      refine g_aload_n hk 0 rfl dX12_guest_85 ?_
      have g24 := zGI (i := 13) hm kdM_0 rfl
      refine g_get0 hk fl_X12_51 rfl (j := 13) rfl kdM_0 dX12_guest_86 ?_
      refine g_imul hk dX12_guest_89 ?_
      refine g_iload_n hk 1 rfl dX12_guest_90 ?_
      refine g_iadd hk dX12_guest_91 ?_
      refine g_iald hk (wI_c _) kdM_10 hm dX12_guest_92 h (fun y25 cy25 h => ?_)
      exact g_ireturn hk cy25 dX12_guest_93 (by cases h; rfl)
    rcases zite h with ⟨e10, h⟩ | ⟨e10, h⟩
    · refine g_tin hk cx2 dX12_guest_11 e10 (by decide) (by decide) rfl (by decide) (tgt := 94) ?_
      refine g_aload_n hk 0 rfl dX12_guest_94 ?_
      refine g_get2 hk fl_X12_81 rfl kdM_0 hm (b := 11) rfl dX12_guest_95 ?_
      refine g_bipush hk (v := 8) rfl dX12_guest_98 ?_
      refine g_aload_n hk 0 rfl dX12_guest_100 ?_
      have g26 := zGI (i := 13) hm kdM_0 rfl
      refine g_get0 hk fl_X12_51 rfl (j := 13) rfl kdM_0 dX12_guest_101 ?_
      refine g_imul hk dX12_guest_104 ?_
      refine g_iload_n hk 1 rfl dX12_guest_105 ?_
      refine g_iadd hk dX12_guest_106 ?_
      refine g_iald hk (wI_c _) kdM_11 hm dX12_guest_107 h (fun y27 cy27 h => ?_)
      exact g_ireturn hk cy27 dX12_guest_108 (by cases h; rfl)
    rcases zite h with ⟨e11, h⟩ | ⟨e11, h⟩
    · refine g_tin hk cx2 dX12_guest_11 e11 (by decide) (by decide) rfl (by decide) (tgt := 109) ?_
      refine g_aload_n hk 0 rfl dX12_guest_109 ?_
      refine g_get2 hk fl_X12_165 rfl kdM_0 hm (b := 31) rfl dX12_guest_110 ?_
      refine g_iload_n hk 1 rfl dX12_guest_113 ?_
      refine g_iald hk cx1 kdM_31 hm dX12_guest_114 h (fun y28 cy28 h => ?_)
      exact g_ireturn hk cy28 dX12_guest_115 (by cases h; rfl)
    rcases zite h with ⟨e12, h⟩ | ⟨e12, h⟩
    · refine g_tin hk cx2 dX12_guest_11 e12 (by decide) (by decide) rfl (by decide) (tgt := 116) ?_
      refine g_aload_n hk 0 rfl dX12_guest_116 ?_
      refine g_get2 hk fl_X12_162 rfl kdM_0 hm (b := 30) rfl dX12_guest_117 ?_
      refine g_iload_n hk 1 rfl dX12_guest_120 ?_
      refine g_iald hk cx1 kdM_30 hm dX12_guest_121 h (fun y29 cy29 h => ?_)
      exact g_ireturn hk cy29 dX12_guest_122 (by cases h; rfl)
    refine g_tout hk cx2 dX12_guest_11 (by omega) (by decide) (tgt := 123) ?_
    refine g_iconst hk (v := (-1)) rfl dX12_guest_123 ?_
    exact g_ireturn hk (cIk rfl) dX12_guest_124 (by cases h; rfl)
theorem met_M_guest (l : Launch) (D : va_G) (aC : Nat → ClassId) (B N : Nat) (hwd : ∀ id, (kdM id).1 ≠ 9 → id < N) {x1 : Int} {x2 : Int} {m : zM} {o : Int} (hm : zG kdM m) (cx1 : cI x1) (cx2 : cI x2) (h : M_guest x1 x2 m = some o) : zMet l yX12_guest cX12_guest 3 (some .int) 1 D aC B kdM N [.ref (B + 0), mI x1, mI x2] m (0, o, m) := by
  refine zMet.of mf_X12_guest hwd hm (Nat.le_of_ble_eq_true rfl) (fun K e1 e2 e3 e4 e5 hk => ?_)
  subst e4
  exact w_M_guest hk hm cx1 cx2 h
set_option maxRecDepth 100000 in
set_option maxHeartbeats 4000000 in
theorem w_M_between {K : zK} (hk : zOk K kdM cX12_between 4 (some .int) RX12 4)  {x1 : Int} {x2 : Int} {x3 : Int} {m : zM} {o : Int × zM}  (hm : zG kdM m) (cx1 : cI x1) (cx2 : cI x2) (cx3 : cI x3) (h : M_between x1 x2 x3 m = some o) : GoAt K m [(0, .ref (kB K + 0)), (1, mI x1), (2, mI x2), (3, mI x3)] [] 0 (0, o.1, o.2) := by
  unfold M_between at h
  refine g_aload_n hk 0 rfl dX12_between_0 ?_
  refine g_iload_n hk 1 rfl dX12_between_1 ?_
  obtain ⟨r1, e2, h⟩ := zbind h
  refine g_callVz hk (st := []) mf_X12_isBeast lk_X12_533 mv_X12_isBeast kdM_0 (by decide) rfl (Nat.le_of_ble_eq_true rfl) rfl dX12_between_2 (met_M_isBeast _ _ _ _ _ hk.wd hm cx1 e2) (fun hm c3 => ?_)
  refine g_if_eq hk (b01 c3) dX12_between_5 h (fun b4 h => ?_) (fun b4 h => ?_)
  · refine g_iconst hk (v := (-1)) rfl dX12_between_16 ?_
    exact g_ireturn hk (cIk rfl) dX12_between_17 (by cases h; rfl)
  · refine g_aload_n hk 0 rfl dX12_between_8 ?_
    refine g_iload_n hk 2 rfl dX12_between_9 ?_
    obtain ⟨r5, e6, h⟩ := zbind h
    refine g_callVz hk (st := []) mf_X12_isGuest lk_X12_536 mv_X12_isGuest kdM_0 (by decide) rfl (Nat.le_of_ble_eq_true rfl) rfl dX12_between_10 (met_M_isGuest _ _ _ _ _ hk.wd hm cx2 e6) (fun hm c7 => ?_)
    refine g_if_ne hk (b01 c7) dX12_between_13 h (fun b8 h => ?_) (fun b8 h => ?_)
    · refine g_iconst hk (v := (-1)) rfl dX12_between_16 ?_
      exact g_ireturn hk (cIk rfl) dX12_between_17 (by cases h; rfl)
    · refine g_iload_n hk 3 rfl dX12_between_18 ?_
      rcases zite h with ⟨e9, h⟩ | ⟨e9, h⟩
      · refine g_tin hk cx3 dX12_between_19 e9 (by decide) (by decide) rfl (by decide) (tgt := 48) ?_
        refine g_aload_n hk 0 rfl dX12_between_48 ?_
        refine g_iconst hk (v := 0) rfl dX12_between_49 ?_
        refine g_iload_n hk 1 rfl dX12_between_50 ?_
        refine g_iload_n hk 2 rfl dX12_between_51 ?_
        obtain ⟨r13, e14, h⟩ := zbind h
        refine g_callVi hk (st := []) mf_X12_suiting lk_X12_478 mv_X12_suiting kdM_0 (by decide) rfl (Nat.le_of_ble_eq_true rfl) rfl dX12_between_52 (met_M_suiting _ _ _ _ _ hk.wd hm (cIk rfl) cx1 cx2 e14) (fun hm c15 => ?_)
        exact g_ireturn hk c15 dX12_between_55 (by cases h; rfl)
      rcases zite h with ⟨e10, h⟩ | ⟨e10, h⟩
      · refine g_tin hk cx3 dX12_between_19 e10 (by decide) (by decide) rfl (by decide) (tgt := 56) ?_
        refine g_aload_n hk 0 rfl dX12_between_56 ?_
        refine g_iconst hk (v := 0) rfl dX12_between_57 ?_
        refine g_iload_n hk 1 rfl dX12_between_58 ?_
        refine g_iload_n hk 2 rfl dX12_between_59 ?_
        obtain ⟨r16, e17, h⟩ := zbind h
        refine g_callVi hk (st := []) mf_X12_liked lk_X12_498 mv_X12_liked kdM_0 (by decide) rfl (Nat.le_of_ble_eq_true rfl) rfl dX12_between_60 (met_M_liked _ _ _ _ _ hk.wd hm (cIk rfl) cx1 cx2 e17) (fun hm c18 => ?_)
        exact g_ireturn hk c18 dX12_between_63 (by cases h; rfl)
      rcases zite h with ⟨e11, h⟩ | ⟨e11, h⟩
      · refine g_tin hk cx3 dX12_between_19 e11 (by decide) (by decide) rfl (by decide) (tgt := 64) ?_
        refine g_aload_n hk 0 rfl dX12_between_64 ?_
        refine g_get2 hk fl_X12_171 rfl kdM_0 hm (b := 33) rfl dX12_between_65 ?_
        refine g_aload_n hk 0 rfl dX12_between_68 ?_
        refine g_iconst hk (v := 0) rfl dX12_between_69 ?_
        refine g_iload_n hk 1 rfl dX12_between_70 ?_
        refine g_iload_n hk 2 rfl dX12_between_71 ?_
        obtain ⟨r19, e20, h⟩ := zbind h
        refine g_callVi hk (st := [.ref (kB K + 33)]) mf_X12_pair lk_X12_481 mv_X12_pair kdM_0 (by decide) rfl (Nat.le_of_ble_eq_true rfl) rfl dX12_between_72 (met_M_pair _ _ _ _ _ hk.wd hm (cIk rfl) cx1 cx2 e20) (fun hm c21 => ?_)
        refine g_iald hk c21 kdM_33 hm dX12_between_75 h (fun y22 cy22 h => ?_)
        exact g_ireturn hk cy22 dX12_between_76 (by cases h; rfl)
      rcases zite h with ⟨e12, h⟩ | ⟨e12, h⟩
      · refine g_tin hk cx3 dX12_between_19 e12 (by decide) (by decide) rfl (by decide) (tgt := 77) ?_
        refine g_aload_n hk 0 rfl dX12_between_77 ?_
        refine g_get2 hk fl_X12_174 rfl kdM_0 hm (b := 34) rfl dX12_between_78 ?_
        refine g_aload_n hk 0 rfl dX12_between_81 ?_
        refine g_iconst hk (v := 0) rfl dX12_between_82 ?_
        refine g_iload_n hk 1 rfl dX12_between_83 ?_
        refine g_iload_n hk 2 rfl dX12_between_84 ?_
        obtain ⟨r23, e24, h⟩ := zbind h
        refine g_callVi hk (st := [.ref (kB K + 34)]) mf_X12_pair lk_X12_481 mv_X12_pair kdM_0 (by decide) rfl (Nat.le_of_ble_eq_true rfl) rfl dX12_between_85 (met_M_pair _ _ _ _ _ hk.wd hm (cIk rfl) cx1 cx2 e24) (fun hm c25 => ?_)
        refine g_iald hk c25 kdM_34 hm dX12_between_88 h (fun y26 cy26 h => ?_)
        exact g_ireturn hk cy26 dX12_between_89 (by cases h; rfl)
      refine g_tout hk cx3 dX12_between_19 (by omega) (by decide) (tgt := 90) ?_
      refine g_iconst hk (v := (-1)) rfl dX12_between_90 ?_
      exact g_ireturn hk (cIk rfl) dX12_between_91 (by cases h; rfl)
theorem met_M_between (l : Launch) (D : va_G) (aC : Nat → ClassId) (B N : Nat) (hwd : ∀ id, (kdM id).1 ≠ 9 → id < N) {x1 : Int} {x2 : Int} {x3 : Int} {m : zM} {o : Int × zM} (hm : zG kdM m) (cx1 : cI x1) (cx2 : cI x2) (cx3 : cI x3) (h : M_between x1 x2 x3 m = some o) : zMet l yX12_between cX12_between 4 (some .int) 4 D aC B kdM N [.ref (B + 0), mI x1, mI x2, mI x3] m (0, o.1, o.2) := by
  refine zMet.of mf_X12_between hwd hm (Nat.le_of_ble_eq_true rfl) (fun K e1 e2 e3 e4 e5 hk => ?_)
  subst e4
  exact w_M_between hk hm cx1 cx2 cx3 h
set_option maxRecDepth 100000 in
set_option maxHeartbeats 4000000 in
theorem w_M_isAhead {K : zK} (hk : zOk K kdM cX12_isAhead 4 (some .boolean) RX12 1)  {x1 : Int} {x2 : Int} {x3 : Int} {m : zM} {o : Int}  (hm : zG kdM m) (cx1 : cI x1) (cx2 : cI x2) (cx3 : cI x3) (h : M_isAhead x1 x2 x3 m = some o) : GoAt K m [(0, .ref (kB K + 0)), (1, mI x1), (2, mI x2), (3, mI x3)] [] 0 (4, o, m) := by
  unfold M_isAhead at h
  refine g_iload_n hk 1 rfl dX12_isAhead_0 ?_
  refine g_iload_n hk 2 rfl dX12_isAhead_1 ?_
  refine g_iload_n hk 3 rfl dX12_isAhead_2 ?_
  obtain ⟨r1, e2, h⟩ := zbind h
  refine g_callSz hk (st := []) mf_X12_is lk_X12_345 ms_X12_is (by decide) rfl (Nat.le_of_ble_eq_true rfl) rfl dX12_isAhead_3 (met_M_is _ _ _ _ _ hk.wd hm cx1 cx2 cx3 e2) (fun hm c3 => ?_)
  refine g_if_eq hk (b01 c3) dX12_isAhead_6 h (fun b4 h => ?_) (fun b4 h => ?_)
  · refine g_iconst hk (v := 0) rfl dX12_isAhead_27 ?_
    exact g_zreturn hk z0 dX12_isAhead_28 (by cases h; rfl)
  · refine g_aload_n hk 0 rfl dX12_isAhead_9 ?_
    refine g_get2 hk fl_X12_153 rfl kdM_0 hm (b := 27) rfl dX12_isAhead_10 ?_
    refine g_iconst hk (v := 0) rfl dX12_isAhead_13 ?_
    refine g_iald hk (cIk rfl) kdM_27 hm dX12_isAhead_14 h (fun y5 cy5 h => ?_)
    refine g_sipush hk (v := 23999) rfl dX12_isAhead_15 ?_
    refine g_iload_n hk 1 rfl dX12_isAhead_18 ?_
    refine g_isub hk dX12_isAhead_19 ?_
    refine g_icmp_gt hk cy5 (wI_c _) dX12_isAhead_20 h (fun b6 h => ?_) (fun b6 h => ?_)
    · refine g_iconst hk (v := 0) rfl dX12_isAhead_27 ?_
      exact g_zreturn hk z0 dX12_isAhead_28 (by cases h; rfl)
    · refine g_iconst hk (v := 1) rfl dX12_isAhead_23 ?_
      refine g_goto hk dX12_isAhead_24 ?_
      exact g_zreturn hk z1 dX12_isAhead_28 (by cases h; rfl)
theorem met_M_isAhead (l : Launch) (D : va_G) (aC : Nat → ClassId) (B N : Nat) (hwd : ∀ id, (kdM id).1 ≠ 9 → id < N) {x1 : Int} {x2 : Int} {x3 : Int} {m : zM} {o : Int} (hm : zG kdM m) (cx1 : cI x1) (cx2 : cI x2) (cx3 : cI x3) (h : M_isAhead x1 x2 x3 m = some o) : zMet l yX12_isAhead cX12_isAhead 4 (some .boolean) 1 D aC B kdM N [.ref (B + 0), mI x1, mI x2, mI x3] m (4, o, m) := by
  refine zMet.of mf_X12_isAhead hwd hm (Nat.le_of_ble_eq_true rfl) (fun K e1 e2 e3 e4 e5 hk => ?_)
  subst e4
  exact w_M_isAhead hk hm cx1 cx2 cx3 h
set_option maxRecDepth 100000 in
set_option maxHeartbeats 4000000 in
theorem w_M_asks_B29 {K : zK} (hk : zOk K kdM cX12_asks 4 (some .int) RX12 7) {rec : Int → Int → Int → zM → Option (Int × zM)} {x1 : Int} {x2 : Int} {x3 : Int} {m : zM} {o : Int × zM} (hrec : ∀ (x1 : Int) (x2 : Int) (x3 : Int) (m : zM), zG kdM m → cI x1 → cI x2 → cI x3 → rec x1 x2 x3 m = some o → GoAt K m [(0, .ref (kB K + 0)), (1, mI x1), (2, mI x2), (3, mI x3)] [] 29 (0, o.1, o.2)) (hm : zG kdM m) (cx1 : cI x1) (cx2 : cI x2) (cx3 : cI x3) (h : M_asks_B29 rec x1 x2 x3 m = some o) : GoAt K m [(0, .ref (kB K + 0)), (1, mI x1), (2, mI x2), (3, mI x3)] [] 29 (0, o.1, o.2) := by
  unfold M_asks_B29 at h
  refine g_iload_n hk 3 rfl dX12_asks_29 ?_
  refine g_iload_n hk 2 rfl dX12_asks_30 ?_
  refine g_icmp_ge hk cx3 cx2 dX12_asks_31 h (fun b1 h => ?_) (fun b1 h => ?_)
  · refine g_aload_n hk 0 rfl dX12_asks_34 ?_
    refine g_iconst hk (v := 1) rfl dX12_asks_35 ?_
    obtain ⟨r2, e3, h⟩ := zbind h
    refine g_callVi hk (st := []) mf_X12_asking lk_X12_542 mv_X12_asking kdM_0 (by decide) rfl (Nat.le_of_ble_eq_true rfl) rfl dX12_asks_36 (met_M_asking _ _ _ _ _ hk.wd hm (cIk rfl) e3) (fun hm c4 => ?_)
    refine g_pop hk rfl dX12_asks_39 ?_
    refine g_aload_n hk 0 rfl dX12_asks_40 ?_
    refine g_iconst hk (v := 1) rfl dX12_asks_41 ?_
    obtain ⟨r5, e6, h⟩ := zbind h
    refine g_callVv hk (st := []) mf_X12_isOver lk_X12_545 mv_X12_isOver kdM_0 (by decide) rfl (Nat.le_of_ble_eq_true rfl) rfl dX12_asks_42 (met_M_isOver _ _ _ _ _ hk.wd hm (cIk rfl) e6) (fun hm => ?_)
    refine g_iinc hk (lv' := [(3, mI (wI (x3 + 1))), (0, .ref (kB K + 0)), (1, mI x1), (2, mI x2)]) 3 rfl (Nat.le_of_ble_eq_true rfl) rfl dX12_asks_45 ?_
    refine g_goto hk dX12_asks_48 ?_
    refine GoAt.sub [1, 2, 3, 0] rfl ?_
    exact hrec _ _ _ _ hm cx1 cx2 (wI_c _) h
  · refine g_aload_n hk 0 rfl dX12_asks_51 ?_
    refine g_iconst hk (v := 1) rfl dX12_asks_52 ?_
    obtain ⟨r8, e9, h⟩ := zbind h
    refine g_callVi hk (st := []) mf_X12_asking lk_X12_542 mv_X12_asking kdM_0 (by decide) rfl (Nat.le_of_ble_eq_true rfl) rfl dX12_asks_53 (met_M_asking _ _ _ _ _ hk.wd hm (cIk rfl) e9) (fun hm c10 => ?_)
    refine g_pop hk rfl dX12_asks_56 ?_
    refine g_aload_n hk 0 rfl dX12_asks_57 ?_
    refine g_get2 hk fl_X12_198 rfl kdM_0 hm (b := 39) rfl dX12_asks_58 ?_
    refine g_iload_n hk 1 rfl dX12_asks_61 ?_
    refine g_iald hk cx1 kdM_39 hm dX12_asks_62 h (fun y11 cy11 h => ?_)
    exact g_ireturn hk cy11 dX12_asks_63 (by cases h; rfl)
theorem w_M_asks_L29 {K : zK} (hk : zOk K kdM cX12_asks 4 (some .int) RX12 7)  {o : Int × zM}  : ∀ (n : Nat) (x1 : Int) (x2 : Int) (x3 : Int) (m : zM), zG kdM m → cI x1 → cI x2 → cI x3 → M_asks_L29 n x1 x2 x3 m = some o → GoAt K m [(0, .ref (kB K + 0)), (1, mI x1), (2, mI x2), (3, mI x3)] [] 29 (0, o.1, o.2)
  | 0, x1, x2, x3, m, hm, cx1, cx2, cx3, h => by cases h
  | n + 1, x1, x2, x3, m, hm, cx1, cx2, cx3, h => w_M_asks_B29 hk  (w_M_asks_L29 hk  n) hm cx1 cx2 cx3 h
set_option maxRecDepth 100000 in
set_option maxHeartbeats 4000000 in
theorem w_M_asks {K : zK} (hk : zOk K kdM cX12_asks 4 (some .int) RX12 7)  {x1 : Int} {x2 : Int} {m : zM} {o : Int × zM}  (hm : zG kdM m) (cx1 : cI x1) (cx2 : cI x2) (h : M_asks x1 x2 m = some o) : GoAt K m [(0, .ref (kB K + 0)), (1, mI x1), (2, mI x2)] [] 0 (0, o.1, o.2) := by
  unfold M_asks at h
  refine g_aload_n hk 0 rfl dX12_asks_0 ?_
  refine g_iload_n hk 1 rfl dX12_asks_1 ?_
  obtain ⟨r1, e2, h⟩ := zbind h
  refine g_callVz hk (st := []) mf_X12_isBeast lk_X12_533 mv_X12_isBeast kdM_0 (by decide) rfl (Nat.le_of_ble_eq_true rfl) rfl dX12_asks_2 (met_M_isBeast _ _ _ _ _ hk.wd hm cx1 e2) (fun hm c3 => ?_)
  refine g_if_eq hk (b01 c3) dX12_asks_5 h (fun b4 h => ?_) (fun b4 h => ?_)
  · refine g_iconst hk (v := (-1)) rfl dX12_asks_19 ?_
    exact g_ireturn hk (cIk rfl) dX12_asks_20 (by cases h; rfl)
  · refine g_aload_n hk 0 rfl dX12_asks_8 ?_
    refine g_iload_n hk 2 rfl dX12_asks_9 ?_
    refine g_iconst hk (v := 0) rfl dX12_asks_10 ?_
    refine g_bipush hk (v := 99) rfl dX12_asks_11 ?_
    obtain ⟨r5, e6, h⟩ := zbind h
    refine g_callVz hk (st := []) mf_X12_isAhead lk_X12_539 mv_X12_isAhead kdM_0 (by decide) rfl (Nat.le_of_ble_eq_true rfl) rfl dX12_asks_13 (met_M_isAhead _ _ _ _ _ hk.wd hm cx2 (cIk rfl) (cIk rfl) e6) (fun hm c7 => ?_)
    refine g_if_ne hk (b01 c7) dX12_asks_16 h (fun b8 h => ?_) (fun b8 h => ?_)
    · refine g_iconst hk (v := (-1)) rfl dX12_asks_19 ?_
      exact g_ireturn hk (cIk rfl) dX12_asks_20 (by cases h; rfl)
    · refine g_aload_n hk 0 rfl dX12_asks_21 ?_
      refine g_iconst hk (v := 1) rfl dX12_asks_22 ?_
      refine g_iconst hk (v := 0) rfl dX12_asks_23 ?_
      obtain ⟨r9, e10, h⟩ := zbind h
      refine g_callVv hk (st := []) mf_X12_copies lk_X12_452 mv_X12_copies kdM_0 (by decide) rfl (Nat.le_of_ble_eq_true rfl) rfl dX12_asks_24 (met_M_copies _ _ _ _ _ hk.wd hm (cIk rfl) (cIk rfl) e10) (fun hm => ?_)
      refine g_iconst hk (v := 0) rfl dX12_asks_27 ?_
      refine g_istore_n hk rfl (lv' := [(3, mI 0), (0, .ref (kB K + 0)), (1, mI x1), (2, mI x2)]) (Nat.le_of_ble_eq_true rfl) rfl dX12_asks_28 ?_
      refine GoAt.sub [1, 2, 3, 0] rfl ?_
      refine w_M_asks_L29 hk  1000000 _ _ _ _ hm cx1 cx2 (cIk rfl) h
theorem met_M_asks (l : Launch) (D : va_G) (aC : Nat → ClassId) (B N : Nat) (hwd : ∀ id, (kdM id).1 ≠ 9 → id < N) {x1 : Int} {x2 : Int} {m : zM} {o : Int × zM} (hm : zG kdM m) (cx1 : cI x1) (cx2 : cI x2) (h : M_asks x1 x2 m = some o) : zMet l yX12_asks cX12_asks 4 (some .int) 7 D aC B kdM N [.ref (B + 0), mI x1, mI x2] m (0, o.1, o.2) := by
  refine zMet.of mf_X12_asks hwd hm (Nat.le_of_ble_eq_true rfl) (fun K e1 e2 e3 e4 e5 hk => ?_)
  subst e4
  exact w_M_asks hk hm cx1 cx2 h
set_option maxRecDepth 100000 in
set_option maxHeartbeats 4000000 in
theorem w_M_alone_B38 {K : zK} (hk : zOk K kdM cX12_alone 4 (some .int) RX12 7) {k70 : Int → Int → Int → zM → Option (Int × zM)} {k86 : Int → Int → zM → Option (Int × zM)} {rec : Int → Int → Int → zM → Option (Int × zM)} {x1 : Int} {x2 : Int} {x3 : Int} {m : zM} {o : Int × zM} (hk70 : ∀ (x1 : Int) (x2 : Int) (x3 : Int) (m : zM), zG kdM m → cI x1 → cI x2 → cI x3 → k70 x1 x2 x3 m = some o → GoAt K m [(1, mI x1), (2, mI x2), (3, mI x3)] [] 70 (0, o.1, o.2)) (hk86 : ∀ (x1 : Int) (x2 : Int) (m : zM), zG kdM m → cI x1 → cI x2 → k86 x1 x2 m = some o → GoAt K m [(0, .ref (kB K + 0)), (1, mI x1), (2, mI x2)] [] 86 (0, o.1, o.2)) (hrec : ∀ (x1 : Int) (x2 : Int) (x3 : Int) (m : zM), zG kdM m → cI x1 → cI x2 → cI x3 → rec x1 x2 x3 m = some o → GoAt K m [(0, .ref (kB K + 0)), (1, mI x1), (2, mI x2), (3, mI x3)] [] 38 (0, o.1, o.2)) (hm : zG kdM m) (cx1 : cI x1) (cx2 : cI x2) (cx3 : cI x3) (h : M_alone_B38 k70 k86 rec x1 x2 x3 m = some o) : GoAt K m [(0, .ref (kB K + 0)), (1, mI x1), (2, mI x2), (3, mI x3)] [] 38 (0, o.1, o.2) := by
  unfold M_alone_B38 at h
  refine g_iload_n hk 3 rfl dX12_alone_38 ?_
  refine g_aload_n hk 0 rfl dX12_alone_39 ?_
  refine g_get2 hk fl_X12_54 rfl kdM_0 hm (b := 2) rfl dX12_alone_40 ?_
  refine g_aload_n hk 0 rfl dX12_alone_43 ?_
  have g1 := zGI (i := 13) hm kdM_0 rfl
  refine g_get0 hk fl_X12_51 rfl (j := 13) rfl kdM_0 dX12_alone_44 ?_
  refine g_iald hk g1 kdM_2 hm dX12_alone_47 h (fun y2 cy2 h => ?_)
  refine g_icmp_ge hk cx3 cy2 dX12_alone_48 h (fun b3 h => ?_) (fun b3 h => ?_)
  · refine g_aload_n hk 0 rfl dX12_alone_51 ?_
    refine g_iconst hk (v := 1) rfl dX12_alone_52 ?_
    refine g_iload_n hk 3 rfl dX12_alone_53 ?_
    obtain ⟨r4, e5, h⟩ := zbind h
    refine g_callVz hk (st := []) mf_X12_isAwake lk_X12_507 mv_X12_isAwake kdM_0 (by decide) rfl (Nat.le_of_ble_eq_true rfl) rfl dX12_alone_54 (met_M_isAwake _ _ _ _ _ hk.wd hm (cIk rfl) cx3 e5) (fun hm c6 => ?_)
    refine g_if_eq hk (b01 c6) dX12_alone_57 h (fun b7 h => ?_) (fun b7 h => ?_)
    · refine g_iinc hk (lv' := [(3, mI (wI (x3 + 1))), (0, .ref (kB K + 0)), (1, mI x1), (2, mI x2)]) 3 rfl (Nat.le_of_ble_eq_true rfl) rfl dX12_alone_80 ?_
      refine g_goto hk dX12_alone_83 ?_
      refine GoAt.sub [1, 2, 3, 0] rfl ?_
      exact hrec _ _ _ _ hm cx1 cx2 (wI_c _) h
    · refine g_aload_n hk 0 rfl dX12_alone_60 ?_
      refine g_get2 hk fl_X12_198 rfl kdM_0 hm (b := 39) rfl dX12_alone_61 ?_
      refine g_iload_n hk 3 rfl dX12_alone_64 ?_
      refine g_iald hk cx3 kdM_39 hm dX12_alone_65 h (fun y8 cy8 h => ?_)
      refine g_iconst hk (v := (-1)) rfl dX12_alone_66 ?_
      refine g_icmp_ne hk cy8 (cIk rfl) dX12_alone_67 h (fun b9 h => ?_) (fun b9 h => ?_)
      · refine GoAt.sub [1, 2, 3] rfl ?_
        exact hk70 _ _ _ _ hm cx1 cx2 cx3 h
      · refine g_iinc hk (lv' := [(3, mI (wI (x3 + 1))), (0, .ref (kB K + 0)), (1, mI x1), (2, mI x2)]) 3 rfl (Nat.le_of_ble_eq_true rfl) rfl dX12_alone_80 ?_
        refine g_goto hk dX12_alone_83 ?_
        refine GoAt.sub [1, 2, 3, 0] rfl ?_
        exact hrec _ _ _ _ hm cx1 cx2 (wI_c _) h
  · refine GoAt.sub [0, 1, 2] rfl ?_
    exact hk86 _ _ _ hm cx1 cx2 h
theorem w_M_alone_L38 {K : zK} (hk : zOk K kdM cX12_alone 4 (some .int) RX12 7) {k70 : Int → Int → Int → zM → Option (Int × zM)} {k86 : Int → Int → zM → Option (Int × zM)} {o : Int × zM} (hk70 : ∀ (x1 : Int) (x2 : Int) (x3 : Int) (m : zM), zG kdM m → cI x1 → cI x2 → cI x3 → k70 x1 x2 x3 m = some o → GoAt K m [(1, mI x1), (2, mI x2), (3, mI x3)] [] 70 (0, o.1, o.2)) (hk86 : ∀ (x1 : Int) (x2 : Int) (m : zM), zG kdM m → cI x1 → cI x2 → k86 x1 x2 m = some o → GoAt K m [(0, .ref (kB K + 0)), (1, mI x1), (2, mI x2)] [] 86 (0, o.1, o.2)) : ∀ (n : Nat) (x1 : Int) (x2 : Int) (x3 : Int) (m : zM), zG kdM m → cI x1 → cI x2 → cI x3 → M_alone_L38 k70 k86 n x1 x2 x3 m = some o → GoAt K m [(0, .ref (kB K + 0)), (1, mI x1), (2, mI x2), (3, mI x3)] [] 38 (0, o.1, o.2)
  | 0, x1, x2, x3, m, hm, cx1, cx2, cx3, h => by cases h
  | n + 1, x1, x2, x3, m, hm, cx1, cx2, cx3, h => w_M_alone_B38 hk hk70 hk86 (w_M_alone_L38 hk hk70 hk86 n) hm cx1 cx2 cx3 h
set_option maxRecDepth 100000 in
set_option maxHeartbeats 4000000 in
theorem w_M_alone_B19 {K : zK} (hk : zOk K kdM cX12_alone 4 (some .int) RX12 7) {k70 : Int → Int → Int → zM → Option (Int × zM)} {rec : Int → Int → zM → Option (Int × zM)} {x1 : Int} {x2 : Int} {m : zM} {o : Int × zM} (hk70 : ∀ (x1 : Int) (x2 : Int) (x3 : Int) (m : zM), zG kdM m → cI x1 → cI x2 → cI x3 → k70 x1 x2 x3 m = some o → GoAt K m [(1, mI x1), (2, mI x2), (3, mI x3)] [] 70 (0, o.1, o.2)) (hrec : ∀ (x1 : Int) (x2 : Int) (m : zM), zG kdM m → cI x1 → cI x2 → rec x1 x2 m = some o → GoAt K m [(0, .ref (kB K + 0)), (1, mI x1), (2, mI x2)] [] 19 (0, o.1, o.2)) (hm : zG kdM m) (cx1 : cI x1) (cx2 : cI x2) (h : M_alone_B19 k70 rec x1 x2 m = some o) : GoAt K m [(0, .ref (kB K + 0)), (1, mI x1), (2, mI x2)] [] 19 (0, o.1, o.2) := by
  unfold M_alone_B19 at h
  refine g_aload_n hk 0 rfl dX12_alone_19 ?_
  refine g_iload_n hk 2 rfl dX12_alone_20 ?_
  refine g_iconst hk (v := 0) rfl dX12_alone_21 ?_
  refine g_bipush hk (v := 99) rfl dX12_alone_22 ?_
  obtain ⟨r1, e2, h⟩ := zbind h
  refine g_callVz hk (st := []) mf_X12_isAhead lk_X12_539 mv_X12_isAhead kdM_0 (by decide) rfl (Nat.le_of_ble_eq_true rfl) rfl dX12_alone_24 (met_M_isAhead _ _ _ _ _ hk.wd hm cx2 (cIk rfl) (cIk rfl) e2) (fun hm c3 => ?_)
  refine g_if_eq hk (b01 c3) dX12_alone_27 h (fun b4 h => ?_) (fun b4 h => ?_)
  · refine g_iconst hk (v := (-1)) rfl dX12_alone_97 ?_
    exact g_ireturn hk (cIk rfl) dX12_alone_98 (by cases h; rfl)
  · refine g_aload_n hk 0 rfl dX12_alone_30 ?_
    refine g_iconst hk (v := 1) rfl dX12_alone_31 ?_
    obtain ⟨r5, e6, h⟩ := zbind h
    refine g_callVi hk (st := []) mf_X12_asking lk_X12_542 mv_X12_asking kdM_0 (by decide) rfl (Nat.le_of_ble_eq_true rfl) rfl dX12_alone_32 (met_M_asking _ _ _ _ _ hk.wd hm (cIk rfl) e6) (fun hm c7 => ?_)
    refine g_pop hk rfl dX12_alone_35 ?_
    refine g_iconst hk (v := 0) rfl dX12_alone_36 ?_
    refine g_istore_n hk rfl (lv' := [(3, mI 0), (0, .ref (kB K + 0)), (1, mI x1), (2, mI x2)]) (Nat.le_of_ble_eq_true rfl) rfl dX12_alone_37 ?_
    refine GoAt.sub [1, 2, 3, 0] rfl ?_
    refine w_M_alone_L38 hk (fun x1_8 x2_8 x3_8 m9 hm cx1_8 cx2_8 cx3_8 h => ?_) (fun x1_10 x2_10 m11 hm cx1_10 cx2_10 h => ?_) 1000000 _ _ _ _ hm cx1 cx2 (cIk rfl) h
    · exact hk70 _ _ _ _ hm cx1_8 cx2_8 cx3_8 h
    · refine g_aload_n hk 0 rfl dX12_alone_86 ?_
      refine g_iconst hk (v := 1) rfl dX12_alone_87 ?_
      obtain ⟨r12, e13, h⟩ := zbind h
      refine g_callVv hk (st := []) mf_X12_isOver lk_X12_545 mv_X12_isOver kdM_0 (by decide) rfl (Nat.le_of_ble_eq_true rfl) rfl dX12_alone_88 (met_M_isOver _ _ _ _ _ hk.wd hm (cIk rfl) e13) (fun hm => ?_)
      refine g_iinc hk (lv' := [(2, mI (wI (x2_10 + 1))), (0, .ref (kB K + 0)), (1, mI x1_10)]) 2 rfl (Nat.le_of_ble_eq_true rfl) rfl dX12_alone_91 ?_
      refine g_goto hk dX12_alone_94 ?_
      refine GoAt.sub [1, 2, 0] rfl ?_
      exact hrec _ _ _ hm cx1_10 (wI_c _) h
theorem w_M_alone_L19 {K : zK} (hk : zOk K kdM cX12_alone 4 (some .int) RX12 7) {k70 : Int → Int → Int → zM → Option (Int × zM)} {o : Int × zM} (hk70 : ∀ (x1 : Int) (x2 : Int) (x3 : Int) (m : zM), zG kdM m → cI x1 → cI x2 → cI x3 → k70 x1 x2 x3 m = some o → GoAt K m [(1, mI x1), (2, mI x2), (3, mI x3)] [] 70 (0, o.1, o.2)) : ∀ (n : Nat) (x1 : Int) (x2 : Int) (m : zM), zG kdM m → cI x1 → cI x2 → M_alone_L19 k70 n x1 x2 m = some o → GoAt K m [(0, .ref (kB K + 0)), (1, mI x1), (2, mI x2)] [] 19 (0, o.1, o.2)
  | 0, x1, x2, m, hm, cx1, cx2, h => by cases h
  | n + 1, x1, x2, m, hm, cx1, cx2, h => w_M_alone_B19 hk hk70 (w_M_alone_L19 hk hk70 n) hm cx1 cx2 h
set_option maxRecDepth 100000 in
set_option maxHeartbeats 4000000 in
theorem w_M_alone {K : zK} (hk : zOk K kdM cX12_alone 4 (some .int) RX12 7)  {x1 : Int} {m : zM} {o : Int × zM}  (hm : zG kdM m) (cx1 : cI x1) (h : M_alone x1 m = some o) : GoAt K m [(0, .ref (kB K + 0)), (1, mI x1)] [] 0 (0, o.1, o.2) := by
  unfold M_alone at h
  refine g_iload_n hk 1 rfl dX12_alone_0 ?_
  refine g_iconst hk (v := 0) rfl dX12_alone_1 ?_
  refine g_iconst hk (v := 1) rfl dX12_alone_2 ?_
  obtain ⟨r1, e2, h⟩ := zbind h
  refine g_callSz hk (st := []) mf_X12_is lk_X12_345 ms_X12_is (by decide) rfl (Nat.le_of_ble_eq_true rfl) rfl dX12_alone_3 (met_M_is _ _ _ _ _ hk.wd hm cx1 (cIk rfl) (cIk rfl) e2) (fun hm c3 => ?_)
  refine g_if_ne hk (b01 c3) dX12_alone_6 h (fun b4 h => ?_) (fun b4 h => ?_)
  · refine g_iconst hk (v := (-1)) rfl dX12_alone_9 ?_
    exact g_ireturn hk (cIk rfl) dX12_alone_10 (by cases h; rfl)
  · refine g_aload_n hk 0 rfl dX12_alone_11 ?_
    refine g_iconst hk (v := 1) rfl dX12_alone_12 ?_
    refine g_iconst hk (v := 0) rfl dX12_alone_13 ?_
    obtain ⟨r5, e6, h⟩ := zbind h
    refine g_callVv hk (st := []) mf_X12_copies lk_X12_452 mv_X12_copies kdM_0 (by decide) rfl (Nat.le_of_ble_eq_true rfl) rfl dX12_alone_14 (met_M_copies _ _ _ _ _ hk.wd hm (cIk rfl) (cIk rfl) e6) (fun hm => ?_)
    refine g_iconst hk (v := 0) rfl dX12_alone_17 ?_
    refine g_istore_n hk rfl (lv' := [(2, mI 0), (0, .ref (kB K + 0)), (1, mI x1)]) (Nat.le_of_ble_eq_true rfl) rfl dX12_alone_18 ?_
    refine GoAt.sub [1, 2, 0] rfl ?_
    refine w_M_alone_L19 hk (fun x1_8 x2_8 x3_8 m9 hm cx1_8 cx2_8 cx3_8 h => ?_) 1000000 _ _ _ hm cx1 (cIk rfl) h
    · refine g_iload_n hk 0 rfl dX12_alone_70 ?_
      refine g_if_ne hk cx1_8 dX12_alone_71 h (fun b10 h => ?_) (fun b10 h => ?_)
      · refine g_iload_n hk 1 rfl dX12_alone_74 ?_
        refine g_goto hk dX12_alone_75 ?_
        exact g_ireturn hk cx2_8 dX12_alone_79 (by cases h; rfl)
      · refine g_iload_n hk 2 rfl dX12_alone_78 ?_
        exact g_ireturn hk cx3_8 dX12_alone_79 (by cases h; rfl)
theorem met_M_alone (l : Launch) (D : va_G) (aC : Nat → ClassId) (B N : Nat) (hwd : ∀ id, (kdM id).1 ≠ 9 → id < N) {x1 : Int} {m : zM} {o : Int × zM} (hm : zG kdM m) (cx1 : cI x1) (h : M_alone x1 m = some o) : zMet l yX12_alone cX12_alone 4 (some .int) 7 D aC B kdM N [.ref (B + 0), mI x1] m (0, o.1, o.2) := by
  refine zMet.of mf_X12_alone hwd hm (Nat.le_of_ble_eq_true rfl) (fun K e1 e2 e3 e4 e5 hk => ?_)
  subst e4
  exact w_M_alone hk hm cx1 h
set_option maxRecDepth 100000 in
set_option maxHeartbeats 4000000 in
theorem w_M_bits_B4 {K : zK} (hk : zOk K kdM cX12_bits 3 (some .int) RX12 0) {rec : Int → Int → Option (Int)} {x1 : Int} {x2 : Int} {m : zM} {o : Int} (hrec : ∀ (x1 : Int) (x2 : Int), cI x1 → cI x2 → rec x1 x2 = some o → GoAt K m [(1, mI x1), (2, mI x2)] [] 4 (0, o, m)) (hm : zG kdM m) (cx1 : cI x1) (cx2 : cI x2) (h : M_bits_B4 rec x1 x2 = some o) : GoAt K m [(1, mI x1), (2, mI x2)] [] 4 (0, o, m) := by
  unfold M_bits_B4 at h
  refine g_iload_n hk 1 rfl dX12_bits_4 ?_
  refine g_if_eq hk cx2 dX12_bits_5 h (fun b1 h => ?_) (fun b1 h => ?_)
  · refine g_iload_n hk 0 rfl dX12_bits_20 ?_
    exact g_ireturn hk cx1 dX12_bits_21 (by cases h; rfl)
  · refine g_iinc hk (lv' := [(1, mI (wI (x1 + 1))), (2, mI x2)]) 0 rfl (Nat.le_of_ble_eq_true rfl) rfl dX12_bits_8 ?_
    refine g_iload_n hk 1 rfl dX12_bits_11 ?_
    refine g_iload_n hk 1 rfl dX12_bits_12 ?_
    refine g_iconst hk (v := 1) rfl dX12_bits_13 ?_
    refine g_isub hk dX12_bits_14 ?_
    refine g_iand hk dX12_bits_15 ?_
    refine g_let (cI_t _) h (fun v2 cv2 h => ?_)
    refine g_istore_n hk rfl (lv' := [(2, mI v2), (1, mI (wI (x1 + 1)))]) (Nat.le_of_ble_eq_true rfl) rfl dX12_bits_16 ?_
    refine g_goto hk dX12_bits_17 ?_
    refine GoAt.sub [1, 0] rfl ?_
    exact hrec _ _ (wI_c _) cv2 h
theorem w_M_bits_L4 {K : zK} (hk : zOk K kdM cX12_bits 3 (some .int) RX12 0)  {o : Int} {m : zM} (hm : zG kdM m)  : ∀ (n : Nat) (x1 : Int) (x2 : Int), cI x1 → cI x2 → M_bits_L4 n x1 x2 = some o → GoAt K m [(1, mI x1), (2, mI x2)] [] 4 (0, o, m)
  | 0, x1, x2, cx1, cx2, h => by cases h
  | n + 1, x1, x2, cx1, cx2, h => w_M_bits_B4 hk  (w_M_bits_L4 hk hm  n) hm cx1 cx2 h
set_option maxRecDepth 100000 in
set_option maxHeartbeats 4000000 in
theorem w_M_bits {K : zK} (hk : zOk K kdM cX12_bits 3 (some .int) RX12 0)  {x0 : Int} {m : zM} {o : Int}  (hm : zG kdM m) (cx0 : cI x0) (h : M_bits x0 = some o) : GoAt K m [(0, mI x0)] [] 0 (0, o, m) := by
  unfold M_bits at h
  refine g_iconst hk (v := 0) rfl dX12_bits_0 ?_
  refine g_istore_n hk rfl (lv' := [(1, mI 0), (0, mI x0)]) (Nat.le_of_ble_eq_true rfl) rfl dX12_bits_1 ?_
  refine g_iload_n hk 1 rfl dX12_bits_2 ?_
  refine g_istore_n hk rfl (lv' := [(2, mI x0), (1, mI 0), (0, mI x0)]) (Nat.le_of_ble_eq_true rfl) rfl dX12_bits_3 ?_
  refine GoAt.sub [1, 0] rfl ?_
  refine w_M_bits_L4 hk hm  1000000 _ _ (cIk rfl) cx0 h
theorem met_M_bits (l : Launch) (D : va_G) (aC : Nat → ClassId) (B N : Nat) (hwd : ∀ id, (kdM id).1 ≠ 9 → id < N) {x0 : Int} {m : zM} {o : Int} (hm : zG kdM m) (cx0 : cI x0) (h : M_bits x0 = some o) : zMet l yX12_bits cX12_bits 3 (some .int) 0 D aC B kdM N [mI x0] m (0, o, m) := by
  refine zMet.of mf_X12_bits hwd hm (Nat.le_of_ble_eq_true rfl) (fun K e1 e2 e3 e4 e5 hk => ?_)
  subst e4
  exact w_M_bits hk hm cx0 h
set_option maxRecDepth 100000 in
set_option maxHeartbeats 4000000 in
theorem w_M_isBest {K : zK} (hk : zOk K kdM cX12_isBest 4 (some .boolean) RX12 1)  {x1 : Int} {x2 : Int} {x3 : Int} {m : zM} {o : Int}  (hm : zG kdM m) (cx1 : cI x1) (cx2 : cI x2) (cx3 : cI x3) (h : M_isBest x1 x2 x3 m = some o) : GoAt K m [(0, .ref (kB K + 0)), (1, mI x1), (2, mI x2), (3, mI x3)] [] 0 (4, o, m) := by
  unfold M_isBest at h
  refine g_iload_n hk 3 rfl dX12_isBest_0 ?_
  refine g_iload_n hk 2 rfl dX12_isBest_1 ?_
  obtain ⟨r1, e2, h⟩ := zbind h
  refine g_callSz hk (st := []) mf_X12_has2 lk_X12_387 ms_X12_has2 (by decide) rfl (Nat.le_of_ble_eq_true rfl) rfl dX12_isBest_2 (met_M_has2 _ _ _ _ _ hk.wd hm cx3 cx2 e2) (fun hm c3 => ?_)
  refine g_if_ne hk (b01 c3) dX12_isBest_5 h (fun b4 h => ?_) (fun b4 h => ?_)
  · refine g_aload_n hk 0 rfl dX12_isBest_8 ?_
    refine g_get2 hk fl_X12_207 rfl kdM_0 hm (b := 42) rfl dX12_isBest_9 ?_
    refine g_bipush hk (v := 8) rfl dX12_isBest_12 ?_
    refine g_iload_n hk 1 rfl dX12_isBest_14 ?_
    refine g_imul hk dX12_isBest_15 ?_
    refine g_iload_n hk 2 rfl dX12_isBest_16 ?_
    refine g_iadd hk dX12_isBest_17 ?_
    refine g_iald hk (wI_c _) kdM_42 hm dX12_isBest_18 h (fun y5 cy5 h => ?_)
    refine g_if_eq hk cy5 dX12_isBest_19 h (fun b6 h => ?_) (fun b6 h => ?_)
    · refine g_iconst hk (v := 0) rfl dX12_isBest_34 ?_
      exact g_zreturn hk z0 dX12_isBest_35 (by cases h; rfl)
    · refine g_iload_n hk 3 rfl dX12_isBest_22 ?_
      obtain ⟨r7, e8, h⟩ := zbind h
      refine g_callSi hk (st := []) mf_X12_bits lk_X12_548 ms_X12_bits (by decide) rfl (Nat.le_of_ble_eq_true rfl) rfl dX12_isBest_23 (met_M_bits _ _ _ _ _ hk.wd hm cx3 e8) (fun hm c9 => ?_)
      refine g_aload_n hk 0 rfl dX12_isBest_26 ?_
      refine g_iconst hk (v := 0) rfl dX12_isBest_27 ?_
      obtain ⟨r10, e11, h⟩ := zbind h
      refine g_callVi hk (st := [mI r7]) mf_X12_toldOf lk_X12_517 mv_X12_toldOf kdM_0 (by decide) rfl (Nat.le_of_ble_eq_true rfl) rfl dX12_isBest_28 (met_M_toldOf _ _ _ _ _ hk.wd hm (cIk rfl) e11) (fun hm c12 => ?_)
      refine g_icmp_lt hk c9 c12 dX12_isBest_31 h (fun b13 h => ?_) (fun b13 h => ?_)
      · refine g_aload_n hk 0 rfl dX12_isBest_36 ?_
        refine g_get2 hk fl_X12_207 rfl kdM_0 hm (b := 42) rfl dX12_isBest_37 ?_
        refine g_bipush hk (v := 8) rfl dX12_isBest_40 ?_
        refine g_iload_n hk 1 rfl dX12_isBest_42 ?_
        refine g_imul hk dX12_isBest_43 ?_
        refine g_iload_n hk 2 rfl dX12_isBest_44 ?_
        refine g_iadd hk dX12_isBest_45 ?_
        refine g_iald hk (wI_c _) kdM_42 hm dX12_isBest_46 h (fun y14 cy14 h => ?_)
        refine g_aload_n hk 0 rfl dX12_isBest_47 ?_
        refine g_get2 hk fl_X12_204 rfl kdM_0 hm (b := 41) rfl dX12_isBest_48 ?_
        refine g_sipush hk (v := 256) rfl dX12_isBest_51 ?_
        refine g_iload_n hk 1 rfl dX12_isBest_54 ?_
        refine g_iconst hk (v := 1) rfl dX12_isBest_55 ?_
        refine g_iadd hk dX12_isBest_56 ?_
        refine g_imul hk dX12_isBest_57 ?_
        refine g_iload_n hk 3 rfl dX12_isBest_58 ?_
        refine g_iconst hk (v := 1) rfl dX12_isBest_59 ?_
        refine g_iload_n hk 2 rfl dX12_isBest_60 ?_
        refine g_ishl hk dX12_isBest_61 ?_
        refine g_ior hk dX12_isBest_62 ?_
        refine g_iadd hk dX12_isBest_63 ?_
        refine g_iald hk (wI_c _) kdM_41 hm dX12_isBest_64 h (fun y15 cy15 h => ?_)
        refine g_iadd hk dX12_isBest_65 ?_
        refine g_aload_n hk 0 rfl dX12_isBest_66 ?_
        refine g_get2 hk fl_X12_204 rfl kdM_0 hm (b := 41) rfl dX12_isBest_67 ?_
        refine g_sipush hk (v := 256) rfl dX12_isBest_70 ?_
        refine g_iload_n hk 1 rfl dX12_isBest_73 ?_
        refine g_imul hk dX12_isBest_74 ?_
        refine g_iload_n hk 3 rfl dX12_isBest_75 ?_
        refine g_iadd hk dX12_isBest_76 ?_
        refine g_iald hk (wI_c _) kdM_41 hm dX12_isBest_77 h (fun y16 cy16 h => ?_)
        refine g_icmp_ne hk (wI_c _) cy16 dX12_isBest_78 h (fun b17 h => ?_) (fun b17 h => ?_)
        · refine g_iconst hk (v := 1) rfl dX12_isBest_81 ?_
          refine g_goto hk dX12_isBest_82 ?_
          exact g_zreturn hk z1 dX12_isBest_86 (by cases h; rfl)
        · refine g_iconst hk (v := 0) rfl dX12_isBest_85 ?_
          exact g_zreturn hk z0 dX12_isBest_86 (by cases h; rfl)
      · refine g_iconst hk (v := 0) rfl dX12_isBest_34 ?_
        exact g_zreturn hk z0 dX12_isBest_35 (by cases h; rfl)
  · refine g_iconst hk (v := 0) rfl dX12_isBest_34 ?_
    exact g_zreturn hk z0 dX12_isBest_35 (by cases h; rfl)
theorem met_M_isBest (l : Launch) (D : va_G) (aC : Nat → ClassId) (B N : Nat) (hwd : ∀ id, (kdM id).1 ≠ 9 → id < N) {x1 : Int} {x2 : Int} {x3 : Int} {m : zM} {o : Int} (hm : zG kdM m) (cx1 : cI x1) (cx2 : cI x2) (cx3 : cI x3) (h : M_isBest x1 x2 x3 m = some o) : zMet l yX12_isBest cX12_isBest 4 (some .boolean) 1 D aC B kdM N [.ref (B + 0), mI x1, mI x2, mI x3] m (4, o, m) := by
  refine zMet.of mf_X12_isBest hwd hm (Nat.le_of_ble_eq_true rfl) (fun K e1 e2 e3 e4 e5 hk => ?_)
  subst e4
  exact w_M_isBest hk hm cx1 cx2 cx3 h
set_option maxRecDepth 100000 in
set_option maxHeartbeats 4000000 in
theorem w_M_bring_B35 {K : zK} (hk : zOk K kdM cX12_bring 8 (some .int) RX12 4) {k109 : Int → Int → Int → zM → Option (Int × zM)} {rec : Int → Int → Int → Int → zM → Option (Int × zM)} {x1 : Int} {x2 : Int} {x3 : Int} {x4 : Int} {m : zM} {o : Int × zM} (hk109 : ∀ (x1 : Int) (x2 : Int) (x3 : Int) (m : zM), zG kdM m → cI x1 → cI x2 → cI x3 → k109 x1 x2 x3 m = some o → GoAt K m [(0, .ref (kB K + 0)), (1, mI x1), (2, mI x2), (3, mI x3)] [] 109 (0, o.1, o.2)) (hrec : ∀ (x1 : Int) (x2 : Int) (x3 : Int) (x4 : Int) (m : zM), zG kdM m → cI x1 → cI x2 → cI x3 → cI x4 → rec x1 x2 x3 x4 m = some o → GoAt K m [(0, .ref (kB K + 0)), (1, mI x1), (2, mI x2), (3, mI x3), (4, mI x4)] [] 35 (0, o.1, o.2)) (hm : zG kdM m) (cx1 : cI x1) (cx2 : cI x2) (cx3 : cI x3) (cx4 : cI x4) (h : M_bring_B35 k109 rec x1 x2 x3 x4 m = some o) : GoAt K m [(0, .ref (kB K + 0)), (1, mI x1), (2, mI x2), (3, mI x3), (4, mI x4)] [] 35 (0, o.1, o.2) := by
  unfold M_bring_B35 at h
  refine g_iload hk 4 rfl dX12_bring_35 ?_
  refine g_aload_n hk 0 rfl dX12_bring_37 ?_
  refine g_get2 hk fl_X12_69 rfl kdM_0 hm (b := 7) rfl dX12_bring_38 ?_
  refine g_aload_n hk 0 rfl dX12_bring_41 ?_
  have g1 := zGI (i := 13) hm kdM_0 rfl
  refine g_get0 hk fl_X12_51 rfl (j := 13) rfl kdM_0 dX12_bring_42 ?_
  refine g_iald hk g1 kdM_7 hm dX12_bring_45 h (fun y2 cy2 h => ?_)
  refine g_icmp_ge hk cx4 cy2 dX12_bring_46 h (fun b3 h => ?_) (fun b3 h => ?_)
  · refine g_aload_n hk 0 rfl dX12_bring_49 ?_
    refine g_get2 hk fl_X12_207 rfl kdM_0 hm (b := 42) rfl dX12_bring_50 ?_
    refine g_bipush hk (v := 8) rfl dX12_bring_53 ?_
    refine g_iload_n hk 3 rfl dX12_bring_55 ?_
    refine g_imul hk dX12_bring_56 ?_
    refine g_iload hk 4 rfl dX12_bring_57 ?_
    refine g_iadd hk dX12_bring_59 ?_
    refine g_aload_n hk 0 rfl dX12_bring_60 ?_
    refine g_iconst hk (v := 0) rfl dX12_bring_61 ?_
    refine g_iload_n hk 3 rfl dX12_bring_62 ?_
    obtain ⟨r4, e5, h⟩ := zbind h
    refine g_callVz hk (st := [mI (wI ((wI (8 * x3)) + x4)), .ref (kB K + 42)]) mf_X12_isAwake lk_X12_507 mv_X12_isAwake kdM_0 (by decide) rfl (Nat.le_of_ble_eq_true rfl) rfl dX12_bring_63 (met_M_isAwake _ _ _ _ _ hk.wd hm (cIk rfl) cx3 e5) (fun hm c6 => ?_)
    refine g_if_eq hk (b01 c6) dX12_bring_66 h (fun b7 h => ?_) (fun b7 h => ?_)
    · refine g_iconst hk (v := 0) rfl dX12_bring_101 ?_
      refine g_iast hk (wI_c _) (cIk rfl) kdM_42 hm dX12_bring_102 h (fun m8 hm h => ?_)
      refine g_iinc hk (lv' := [(4, mI (wI (x4 + 1))), (0, .ref (kB K + 0)), (1, mI x1), (2, mI x2), (3, mI x3)]) 4 rfl (Nat.le_of_ble_eq_true rfl) rfl dX12_bring_103 ?_
      refine g_goto hk dX12_bring_106 ?_
      refine GoAt.sub [1, 2, 3, 4, 0] rfl ?_
      exact hrec _ _ _ _ _ hm cx1 cx2 cx3 (wI_c _) h
    · refine g_aload_n hk 0 rfl dX12_bring_69 ?_
      refine g_iconst hk (v := 0) rfl dX12_bring_70 ?_
      refine g_iload_n hk 3 rfl dX12_bring_71 ?_
      refine g_iload hk 4 rfl dX12_bring_72 ?_
      obtain ⟨r9, e10, h⟩ := zbind h
      refine g_callVz hk (st := [mI (wI ((wI (8 * x3)) + x4)), .ref (kB K + 42)]) mf_X12_isOpenTo lk_X12_510 mv_X12_isOpenTo kdM_0 (by decide) rfl (Nat.le_of_ble_eq_true rfl) rfl dX12_bring_74 (met_M_isOpenTo _ _ _ _ _ hk.wd hm (cIk rfl) cx3 cx4 e10) (fun hm c11 => ?_)
      refine g_if_eq hk (b01 c11) dX12_bring_77 h (fun b12 h => ?_) (fun b12 h => ?_)
      · refine g_iconst hk (v := 0) rfl dX12_bring_101 ?_
        refine g_iast hk (wI_c _) (cIk rfl) kdM_42 hm dX12_bring_102 h (fun m13 hm h => ?_)
        refine g_iinc hk (lv' := [(4, mI (wI (x4 + 1))), (0, .ref (kB K + 0)), (1, mI x1), (2, mI x2), (3, mI x3)]) 4 rfl (Nat.le_of_ble_eq_true rfl) rfl dX12_bring_103 ?_
        refine g_goto hk dX12_bring_106 ?_
        refine GoAt.sub [1, 2, 3, 4, 0] rfl ?_
        exact hrec _ _ _ _ _ hm cx1 cx2 cx3 (wI_c _) h
      · refine g_aload_n hk 0 rfl dX12_bring_80 ?_
        refine g_iload hk 4 rfl dX12_bring_81 ?_
        refine g_iload_n hk 3 rfl dX12_bring_83 ?_
        obtain ⟨r14, e15, h⟩ := zbind h
        refine g_callVz hk (st := [mI (wI ((wI (8 * x3)) + x4)), .ref (kB K + 42)]) mf_X12_isFeared lk_X12_501 mv_X12_isFeared kdM_0 (by decide) rfl (Nat.le_of_ble_eq_true rfl) rfl dX12_bring_84 (met_M_isFeared _ _ _ _ _ hk.wd hm cx4 cx3 e15) (fun hm c16 => ?_)
        refine g_if_ne hk (b01 c16) dX12_bring_87 h (fun b17 h => ?_) (fun b17 h => ?_)
        · refine g_aload_n hk 0 rfl dX12_bring_90 ?_
          refine g_iconst hk (v := 0) rfl dX12_bring_91 ?_
          refine g_iload_n hk 3 rfl dX12_bring_92 ?_
          refine g_iload hk 4 rfl dX12_bring_93 ?_
          obtain ⟨r18, e19, h⟩ := zbind h
          refine g_callVi hk (st := [mI (wI ((wI (8 * x3)) + x4)), .ref (kB K + 42)]) mf_X12_liked lk_X12_498 mv_X12_liked kdM_0 (by decide) rfl (Nat.le_of_ble_eq_true rfl) rfl dX12_bring_95 (met_M_liked _ _ _ _ _ hk.wd hm (cIk rfl) cx3 cx4 e19) (fun hm c20 => ?_)
          refine g_goto hk dX12_bring_98 ?_
          refine g_iast hk (wI_c _) c20 kdM_42 hm dX12_bring_102 h (fun m21 hm h => ?_)
          refine g_iinc hk (lv' := [(4, mI (wI (x4 + 1))), (0, .ref (kB K + 0)), (1, mI x1), (2, mI x2), (3, mI x3)]) 4 rfl (Nat.le_of_ble_eq_true rfl) rfl dX12_bring_103 ?_
          refine g_goto hk dX12_bring_106 ?_
          refine GoAt.sub [1, 2, 3, 4, 0] rfl ?_
          exact hrec _ _ _ _ _ hm cx1 cx2 cx3 (wI_c _) h
        · refine g_iconst hk (v := 0) rfl dX12_bring_101 ?_
          refine g_iast hk (wI_c _) (cIk rfl) kdM_42 hm dX12_bring_102 h (fun m22 hm h => ?_)
          refine g_iinc hk (lv' := [(4, mI (wI (x4 + 1))), (0, .ref (kB K + 0)), (1, mI x1), (2, mI x2), (3, mI x3)]) 4 rfl (Nat.le_of_ble_eq_true rfl) rfl dX12_bring_103 ?_
          refine g_goto hk dX12_bring_106 ?_
          refine GoAt.sub [1, 2, 3, 4, 0] rfl ?_
          exact hrec _ _ _ _ _ hm cx1 cx2 cx3 (wI_c _) h
  · refine GoAt.sub [0, 1, 2, 3] rfl ?_
    exact hk109 _ _ _ _ hm cx1 cx2 cx3 h
theorem w_M_bring_L35 {K : zK} (hk : zOk K kdM cX12_bring 8 (some .int) RX12 4) {k109 : Int → Int → Int → zM → Option (Int × zM)} {o : Int × zM} (hk109 : ∀ (x1 : Int) (x2 : Int) (x3 : Int) (m : zM), zG kdM m → cI x1 → cI x2 → cI x3 → k109 x1 x2 x3 m = some o → GoAt K m [(0, .ref (kB K + 0)), (1, mI x1), (2, mI x2), (3, mI x3)] [] 109 (0, o.1, o.2)) : ∀ (n : Nat) (x1 : Int) (x2 : Int) (x3 : Int) (x4 : Int) (m : zM), zG kdM m → cI x1 → cI x2 → cI x3 → cI x4 → M_bring_L35 k109 n x1 x2 x3 x4 m = some o → GoAt K m [(0, .ref (kB K + 0)), (1, mI x1), (2, mI x2), (3, mI x3), (4, mI x4)] [] 35 (0, o.1, o.2)
  | 0, x1, x2, x3, x4, m, hm, cx1, cx2, cx3, cx4, h => by cases h
  | n + 1, x1, x2, x3, x4, m, hm, cx1, cx2, cx3, cx4, h => w_M_bring_B35 hk hk109 (w_M_bring_L35 hk hk109 n) hm cx1 cx2 cx3 cx4 h
set_option maxRecDepth 100000 in
set_option maxHeartbeats 4000000 in
theorem w_M_bring_B27 {K : zK} (hk : zOk K kdM cX12_bring 8 (some .int) RX12 4) {k115 : Int → Int → zM → Option (Int × zM)} {rec : Int → Int → Int → zM → Option (Int × zM)} {x1 : Int} {x2 : Int} {x3 : Int} {m : zM} {o : Int × zM} (hk115 : ∀ (x1 : Int) (x2 : Int) (m : zM), zG kdM m → cI x1 → cI x2 → k115 x1 x2 m = some o → GoAt K m [(0, .ref (kB K + 0)), (1, mI x1), (2, mI x2)] [] 115 (0, o.1, o.2)) (hrec : ∀ (x1 : Int) (x2 : Int) (x3 : Int) (m : zM), zG kdM m → cI x1 → cI x2 → cI x3 → rec x1 x2 x3 m = some o → GoAt K m [(0, .ref (kB K + 0)), (1, mI x1), (2, mI x2), (3, mI x3)] [] 27 (0, o.1, o.2)) (hm : zG kdM m) (cx1 : cI x1) (cx2 : cI x2) (cx3 : cI x3) (h : M_bring_B27 k115 rec x1 x2 x3 m = some o) : GoAt K m [(0, .ref (kB K + 0)), (1, mI x1), (2, mI x2), (3, mI x3)] [] 27 (0, o.1, o.2) := by
  unfold M_bring_B27 at h
  refine g_iload_n hk 3 rfl dX12_bring_27 ?_
  refine g_iload_n hk 2 rfl dX12_bring_28 ?_
  refine g_icmp_ge hk cx3 cx2 dX12_bring_29 h (fun b1 h => ?_) (fun b1 h => ?_)
  · refine g_iconst hk (v := 0) rfl dX12_bring_32 ?_
    refine g_istore hk (lv' := [(4, mI 0), (0, .ref (kB K + 0)), (1, mI x1), (2, mI x2), (3, mI x3)]) (Nat.le_of_ble_eq_true rfl) rfl dX12_bring_33 ?_
    refine GoAt.sub [1, 2, 3, 4, 0] rfl ?_
    refine w_M_bring_L35 hk (fun x1_2 x2_2 x3_2 m3 hm cx1_2 cx2_2 cx3_2 h => ?_) 1000000 _ _ _ _ _ hm cx1 cx2 cx3 (cIk rfl) h
    · refine g_iinc hk (lv' := [(3, mI (wI (x3_2 + 1))), (0, .ref (kB K + 0)), (1, mI x1_2), (2, mI x2_2)]) 3 rfl (Nat.le_of_ble_eq_true rfl) rfl dX12_bring_109 ?_
      refine g_goto hk dX12_bring_112 ?_
      refine GoAt.sub [1, 2, 3, 0] rfl ?_
      exact hrec _ _ _ _ hm cx1_2 cx2_2 (wI_c _) h
  · refine GoAt.sub [0, 1, 2] rfl ?_
    exact hk115 _ _ _ hm cx1 cx2 h
theorem w_M_bring_L27 {K : zK} (hk : zOk K kdM cX12_bring 8 (some .int) RX12 4) {k115 : Int → Int → zM → Option (Int × zM)} {o : Int × zM} (hk115 : ∀ (x1 : Int) (x2 : Int) (m : zM), zG kdM m → cI x1 → cI x2 → k115 x1 x2 m = some o → GoAt K m [(0, .ref (kB K + 0)), (1, mI x1), (2, mI x2)] [] 115 (0, o.1, o.2)) : ∀ (n : Nat) (x1 : Int) (x2 : Int) (x3 : Int) (m : zM), zG kdM m → cI x1 → cI x2 → cI x3 → M_bring_L27 k115 n x1 x2 x3 m = some o → GoAt K m [(0, .ref (kB K + 0)), (1, mI x1), (2, mI x2), (3, mI x3)] [] 27 (0, o.1, o.2)
  | 0, x1, x2, x3, m, hm, cx1, cx2, cx3, h => by cases h
  | n + 1, x1, x2, x3, m, hm, cx1, cx2, cx3, h => w_M_bring_B27 hk hk115 (w_M_bring_L27 hk hk115 n) hm cx1 cx2 cx3 h
set_option maxRecDepth 100000 in
set_option maxHeartbeats 4000000 in
theorem w_M_bring_B117 {K : zK} (hk : zOk K kdM cX12_bring 8 (some .int) RX12 4) {k143 : Int → Int → zM → Option (Int × zM)} {rec : Int → Int → Int → zM → Option (Int × zM)} {x1 : Int} {x2 : Int} {x3 : Int} {m : zM} {o : Int × zM} (hk143 : ∀ (x1 : Int) (x2 : Int) (m : zM), zG kdM m → cI x1 → cI x2 → k143 x1 x2 m = some o → GoAt K m [(0, .ref (kB K + 0)), (1, mI x1), (2, mI x2)] [] 143 (0, o.1, o.2)) (hrec : ∀ (x1 : Int) (x2 : Int) (x3 : Int) (m : zM), zG kdM m → cI x1 → cI x2 → cI x3 → rec x1 x2 x3 m = some o → GoAt K m [(0, .ref (kB K + 0)), (1, mI x1), (2, mI x2), (3, mI x3)] [] 117 (0, o.1, o.2)) (hm : zG kdM m) (cx1 : cI x1) (cx2 : cI x2) (cx3 : cI x3) (h : M_bring_B117 k143 rec x1 x2 x3 m = some o) : GoAt K m [(0, .ref (kB K + 0)), (1, mI x1), (2, mI x2), (3, mI x3)] [] 117 (0, o.1, o.2) := by
  unfold M_bring_B117 at h
  refine g_iload_n hk 3 rfl dX12_bring_117 ?_
  refine g_sipush hk (v := 256) rfl dX12_bring_118 ?_
  refine g_icmp_ge hk cx3 (cIk rfl) dX12_bring_121 h (fun b1 h => ?_) (fun b1 h => ?_)
  · refine g_aload_n hk 0 rfl dX12_bring_124 ?_
    refine g_get2 hk fl_X12_204 rfl kdM_0 hm (b := 41) rfl dX12_bring_125 ?_
    refine g_sipush hk (v := 256) rfl dX12_bring_128 ?_
    refine g_iload_n hk 2 rfl dX12_bring_131 ?_
    refine g_imul hk dX12_bring_132 ?_
    refine g_iload_n hk 3 rfl dX12_bring_133 ?_
    refine g_iadd hk dX12_bring_134 ?_
    refine g_iconst hk (v := 0) rfl dX12_bring_135 ?_
    refine g_iast hk (wI_c _) (cIk rfl) kdM_41 hm dX12_bring_136 h (fun m2 hm h => ?_)
    refine g_iinc hk (lv' := [(3, mI (wI (x3 + 1))), (0, .ref (kB K + 0)), (1, mI x1), (2, mI x2)]) 3 rfl (Nat.le_of_ble_eq_true rfl) rfl dX12_bring_137 ?_
    refine g_goto hk dX12_bring_140 ?_
    refine GoAt.sub [1, 2, 3, 0] rfl ?_
    exact hrec _ _ _ _ hm cx1 cx2 (wI_c _) h
  · refine GoAt.sub [0, 1, 2] rfl ?_
    exact hk143 _ _ _ hm cx1 cx2 h
theorem w_M_bring_L117 {K : zK} (hk : zOk K kdM cX12_bring 8 (some .int) RX12 4) {k143 : Int → Int → zM → Option (Int × zM)} {o : Int × zM} (hk143 : ∀ (x1 : Int) (x2 : Int) (m : zM), zG kdM m → cI x1 → cI x2 → k143 x1 x2 m = some o → GoAt K m [(0, .ref (kB K + 0)), (1, mI x1), (2, mI x2)] [] 143 (0, o.1, o.2)) : ∀ (n : Nat) (x1 : Int) (x2 : Int) (x3 : Int) (m : zM), zG kdM m → cI x1 → cI x2 → cI x3 → M_bring_L117 k143 n x1 x2 x3 m = some o → GoAt K m [(0, .ref (kB K + 0)), (1, mI x1), (2, mI x2), (3, mI x3)] [] 117 (0, o.1, o.2)
  | 0, x1, x2, x3, m, hm, cx1, cx2, cx3, h => by cases h
  | n + 1, x1, x2, x3, m, hm, cx1, cx2, cx3, h => w_M_bring_B117 hk hk143 (w_M_bring_L117 hk hk143 n) hm cx1 cx2 cx3 h
set_option maxRecDepth 100000 in
set_option maxHeartbeats 4000000 in
theorem w_M_bring_B182 {K : zK} (hk : zOk K kdM cX12_bring 8 (some .int) RX12 4) {k294 : Int → Int → Int → Int → zM → Option (Int × zM)} {rec : Int → Int → Int → Int → Int → zM → Option (Int × zM)} {x1 : Int} {x3 : Int} {x4 : Int} {x5 : Int} {x6 : Int} {m : zM} {o : Int × zM} (hk294 : ∀ (x1 : Int) (x3 : Int) (x4 : Int) (x5 : Int) (m : zM), zG kdM m → cI x1 → cI x3 → cI x4 → cI x5 → k294 x1 x3 x4 x5 m = some o → GoAt K m [(0, .ref (kB K + 0)), (1, mI x1), (3, mI x3), (4, mI x4), (5, mI x5)] [] 294 (0, o.1, o.2)) (hrec : ∀ (x1 : Int) (x3 : Int) (x4 : Int) (x5 : Int) (x6 : Int) (m : zM), zG kdM m → cI x1 → cI x3 → cI x4 → cI x5 → cI x6 → rec x1 x3 x4 x5 x6 m = some o → GoAt K m [(0, .ref (kB K + 0)), (1, mI x1), (3, mI x3), (4, mI x4), (5, mI x5), (6, mI x6)] [] 182 (0, o.1, o.2)) (hm : zG kdM m) (cx1 : cI x1) (cx3 : cI x3) (cx4 : cI x4) (cx5 : cI x5) (cx6 : cI x6) (h : M_bring_B182 k294 rec x1 x3 x4 x5 x6 m = some o) : GoAt K m [(0, .ref (kB K + 0)), (1, mI x1), (3, mI x3), (4, mI x4), (5, mI x5), (6, mI x6)] [] 182 (0, o.1, o.2) := by
  unfold M_bring_B182 at h
  refine g_iload hk 5 rfl dX12_bring_182 ?_
  refine g_aload_n hk 0 rfl dX12_bring_184 ?_
  refine g_get2 hk fl_X12_69 rfl kdM_0 hm (b := 7) rfl dX12_bring_185 ?_
  refine g_aload_n hk 0 rfl dX12_bring_188 ?_
  have g1 := zGI (i := 13) hm kdM_0 rfl
  refine g_get0 hk fl_X12_51 rfl (j := 13) rfl kdM_0 dX12_bring_189 ?_
  refine g_iald hk g1 kdM_7 hm dX12_bring_192 h (fun y2 cy2 h => ?_)
  refine g_icmp_ge hk cx6 cy2 dX12_bring_193 h (fun b3 h => ?_) (fun b3 h => ?_)
  · refine g_iload hk 3 rfl dX12_bring_196 ?_
    obtain ⟨r4, e5, h⟩ := zbind h
    refine g_callSi hk (st := []) mf_X12_bits lk_X12_548 ms_X12_bits (by decide) rfl (Nat.le_of_ble_eq_true rfl) rfl dX12_bring_198 (met_M_bits _ _ _ _ _ hk.wd hm cx4 e5) (fun hm c6 => ?_)
    refine g_aload_n hk 0 rfl dX12_bring_201 ?_
    refine g_iconst hk (v := 0) rfl dX12_bring_202 ?_
    obtain ⟨r7, e8, h⟩ := zbind h
    refine g_callVi hk (st := [mI r4]) mf_X12_toldOf lk_X12_517 mv_X12_toldOf kdM_0 (by decide) rfl (Nat.le_of_ble_eq_true rfl) rfl dX12_bring_203 (met_M_toldOf _ _ _ _ _ hk.wd hm (cIk rfl) e8) (fun hm c9 => ?_)
    refine g_icmp_ge hk c6 c9 dX12_bring_206 h (fun b10 h => ?_) (fun b10 h => ?_)
    · refine g_iload hk 3 rfl dX12_bring_209 ?_
      refine g_iload hk 5 rfl dX12_bring_211 ?_
      obtain ⟨r11, e12, h⟩ := zbind h
      refine g_callSz hk (st := []) mf_X12_has2 lk_X12_387 ms_X12_has2 (by decide) rfl (Nat.le_of_ble_eq_true rfl) rfl dX12_bring_213 (met_M_has2 _ _ _ _ _ hk.wd hm cx4 cx6 e12) (fun hm c13 => ?_)
      refine g_if_ne hk (b01 c13) dX12_bring_216 h (fun b14 h => ?_) (fun b14 h => ?_)
      · refine g_aload_n hk 0 rfl dX12_bring_219 ?_
        refine g_get2 hk fl_X12_207 rfl kdM_0 hm (b := 42) rfl dX12_bring_220 ?_
        refine g_bipush hk (v := 8) rfl dX12_bring_223 ?_
        refine g_iload_n hk 2 rfl dX12_bring_225 ?_
        refine g_imul hk dX12_bring_226 ?_
        refine g_iload hk 5 rfl dX12_bring_227 ?_
        refine g_iadd hk dX12_bring_229 ?_
        refine g_iald hk (wI_c _) kdM_42 hm dX12_bring_230 h (fun y15 cy15 h => ?_)
        refine g_if_ne hk cy15 dX12_bring_231 h (fun b16 h => ?_) (fun b16 h => ?_)
        · refine g_goto hk dX12_bring_234 ?_
          refine g_iinc hk (lv' := [(6, mI (wI (x6 + 1))), (0, .ref (kB K + 0)), (1, mI x1), (3, mI x3), (4, mI x4), (5, mI x5)]) 5 rfl (Nat.le_of_ble_eq_true rfl) rfl dX12_bring_288 ?_
          refine g_goto hk dX12_bring_291 ?_
          refine GoAt.sub [1, 2, 3, 4, 5, 0] rfl ?_
          exact hrec _ _ _ _ _ _ hm cx1 cx3 cx4 cx5 (wI_c _) h
        · refine g_aload_n hk 0 rfl dX12_bring_237 ?_
          refine g_get2 hk fl_X12_207 rfl kdM_0 hm (b := 42) rfl dX12_bring_238 ?_
          refine g_bipush hk (v := 8) rfl dX12_bring_241 ?_
          refine g_iload_n hk 2 rfl dX12_bring_243 ?_
          refine g_imul hk dX12_bring_244 ?_
          refine g_iload hk 5 rfl dX12_bring_245 ?_
          refine g_iadd hk dX12_bring_247 ?_
          refine g_iald hk (wI_c _) kdM_42 hm dX12_bring_248 h (fun y17 cy17 h => ?_)
          refine g_aload_n hk 0 rfl dX12_bring_249 ?_
          refine g_get2 hk fl_X12_204 rfl kdM_0 hm (b := 41) rfl dX12_bring_250 ?_
          refine g_sipush hk (v := 256) rfl dX12_bring_253 ?_
          refine g_iload_n hk 2 rfl dX12_bring_256 ?_
          refine g_iconst hk (v := 1) rfl dX12_bring_257 ?_
          refine g_iadd hk dX12_bring_258 ?_
          refine g_imul hk dX12_bring_259 ?_
          refine g_iload hk 3 rfl dX12_bring_260 ?_
          refine g_iconst hk (v := 1) rfl dX12_bring_262 ?_
          refine g_iload hk 5 rfl dX12_bring_263 ?_
          refine g_ishl hk dX12_bring_265 ?_
          refine g_ior hk dX12_bring_266 ?_
          refine g_iadd hk dX12_bring_267 ?_
          refine g_iald hk (wI_c _) kdM_41 hm dX12_bring_268 h (fun y18 cy18 h => ?_)
          refine g_iadd hk dX12_bring_269 ?_
          refine g_let (wI_c _) h (fun v19 cv19 h => ?_)
          refine g_istore hk (lv' := [(7, mI v19), (0, .ref (kB K + 0)), (1, mI x1), (3, mI x3), (4, mI x4), (5, mI x5), (6, mI x6)]) (Nat.le_of_ble_eq_true rfl) rfl dX12_bring_270 ?_
          refine g_iload hk 0 rfl dX12_bring_272 ?_
          refine g_iload hk 5 rfl dX12_bring_274 ?_
          refine g_icmp_le hk cv19 cx5 dX12_bring_276 h (fun b20 h => ?_) (fun b20 h => ?_)
          · refine g_iload hk 0 rfl dX12_bring_279 ?_
            refine g_goto hk dX12_bring_281 ?_
            refine g_istore hk (lv' := [(5, mI v19), (7, mI v19), (0, .ref (kB K + 0)), (1, mI x1), (3, mI x3), (4, mI x4), (6, mI x6)]) (Nat.le_of_ble_eq_true rfl) rfl dX12_bring_286 ?_
            refine g_iinc hk (lv' := [(6, mI (wI (x6 + 1))), (5, mI v19), (7, mI v19), (0, .ref (kB K + 0)), (1, mI x1), (3, mI x3), (4, mI x4)]) 6 rfl (Nat.le_of_ble_eq_true rfl) rfl dX12_bring_288 ?_
            refine g_goto hk dX12_bring_291 ?_
            refine GoAt.sub [3, 4, 5, 6, 1, 0] rfl ?_
            exact hrec _ _ _ _ _ _ hm cx1 cx3 cx4 cv19 (wI_c _) h
          · refine g_iload hk 5 rfl dX12_bring_284 ?_
            refine g_istore hk (lv' := [(5, mI x5), (7, mI v19), (0, .ref (kB K + 0)), (1, mI x1), (3, mI x3), (4, mI x4), (6, mI x6)]) (Nat.le_of_ble_eq_true rfl) rfl dX12_bring_286 ?_
            refine g_iinc hk (lv' := [(6, mI (wI (x6 + 1))), (5, mI x5), (7, mI v19), (0, .ref (kB K + 0)), (1, mI x1), (3, mI x3), (4, mI x4)]) 6 rfl (Nat.le_of_ble_eq_true rfl) rfl dX12_bring_288 ?_
            refine g_goto hk dX12_bring_291 ?_
            refine GoAt.sub [3, 4, 5, 6, 1, 0] rfl ?_
            exact hrec _ _ _ _ _ _ hm cx1 cx3 cx4 cx5 (wI_c _) h
      · refine g_iinc hk (lv' := [(6, mI (wI (x6 + 1))), (0, .ref (kB K + 0)), (1, mI x1), (3, mI x3), (4, mI x4), (5, mI x5)]) 5 rfl (Nat.le_of_ble_eq_true rfl) rfl dX12_bring_288 ?_
        refine g_goto hk dX12_bring_291 ?_
        refine GoAt.sub [1, 2, 3, 4, 5, 0] rfl ?_
        exact hrec _ _ _ _ _ _ hm cx1 cx3 cx4 cx5 (wI_c _) h
    · refine GoAt.sub [0, 1, 2, 3, 4] rfl ?_
      exact hk294 _ _ _ _ _ hm cx1 cx3 cx4 cx5 h
  · refine GoAt.sub [0, 1, 2, 3, 4] rfl ?_
    exact hk294 _ _ _ _ _ hm cx1 cx3 cx4 cx5 h
theorem w_M_bring_L182 {K : zK} (hk : zOk K kdM cX12_bring 8 (some .int) RX12 4) {k294 : Int → Int → Int → Int → zM → Option (Int × zM)} {o : Int × zM} (hk294 : ∀ (x1 : Int) (x3 : Int) (x4 : Int) (x5 : Int) (m : zM), zG kdM m → cI x1 → cI x3 → cI x4 → cI x5 → k294 x1 x3 x4 x5 m = some o → GoAt K m [(0, .ref (kB K + 0)), (1, mI x1), (3, mI x3), (4, mI x4), (5, mI x5)] [] 294 (0, o.1, o.2)) : ∀ (n : Nat) (x1 : Int) (x3 : Int) (x4 : Int) (x5 : Int) (x6 : Int) (m : zM), zG kdM m → cI x1 → cI x3 → cI x4 → cI x5 → cI x6 → M_bring_L182 k294 n x1 x3 x4 x5 x6 m = some o → GoAt K m [(0, .ref (kB K + 0)), (1, mI x1), (3, mI x3), (4, mI x4), (5, mI x5), (6, mI x6)] [] 182 (0, o.1, o.2)
  | 0, x1, x3, x4, x5, x6, m, hm, cx1, cx3, cx4, cx5, cx6, h => by cases h
  | n + 1, x1, x3, x4, x5, x6, m, hm, cx1, cx3, cx4, cx5, cx6, h => w_M_bring_B182 hk hk294 (w_M_bring_L182 hk hk294 n) hm cx1 cx3 cx4 cx5 cx6 h
set_option maxRecDepth 100000 in
set_option maxHeartbeats 4000000 in
theorem w_M_bring_b294 {K : zK} (hk : zOk K kdM cX12_bring 8 (some .int) RX12 4) {k315 : Int → Int → zM → Option (Int × zM)} {rec : Int → Int → Int → zM → Option (Int × zM)} {x1 : Int} {x3 : Int} {x4 : Int} {x5 : Int} {m : zM} {o : Int × zM} (hk315 : ∀ (x1 : Int) (x3 : Int) (m : zM), zG kdM m → cI x1 → cI x3 → k315 x1 x3 m = some o → GoAt K m [(0, .ref (kB K + 0)), (1, mI x1), (3, mI x3)] [] 315 (0, o.1, o.2)) (hrec : ∀ (x1 : Int) (x3 : Int) (x4 : Int) (m : zM), zG kdM m → cI x1 → cI x3 → cI x4 → rec x1 x3 x4 m = some o → GoAt K m [(0, .ref (kB K + 0)), (1, mI x1), (3, mI x3), (4, mI x4)] [] 154 (0, o.1, o.2)) (hm : zG kdM m) (cx1 : cI x1) (cx3 : cI x3) (cx4 : cI x4) (cx5 : cI x5) (h : M_bring_b294 k315 rec x1 x3 x4 x5 m = some o) : GoAt K m [(0, .ref (kB K + 0)), (1, mI x1), (3, mI x3), (4, mI x4), (5, mI x5)] [] 294 (0, o.1, o.2) := by
  unfold M_bring_b294 at h
  refine g_aload_n hk 0 rfl dX12_bring_294 ?_
  refine g_get2 hk fl_X12_204 rfl kdM_0 hm (b := 41) rfl dX12_bring_295 ?_
  refine g_sipush hk (v := 256) rfl dX12_bring_298 ?_
  refine g_iload_n hk 2 rfl dX12_bring_301 ?_
  refine g_imul hk dX12_bring_302 ?_
  refine g_iload hk 3 rfl dX12_bring_303 ?_
  refine g_iadd hk dX12_bring_305 ?_
  refine g_iload hk 4 rfl dX12_bring_306 ?_
  refine g_iast hk (wI_c _) cx5 kdM_41 hm dX12_bring_308 h (fun m1 hm h => ?_)
  refine g_iinc hk (lv' := [(4, mI (wI (x4 + 1))), (0, .ref (kB K + 0)), (1, mI x1), (3, mI x3), (5, mI x5)]) 3 rfl (Nat.le_of_ble_eq_true rfl) rfl dX12_bring_309 ?_
  refine g_goto hk dX12_bring_312 ?_
  refine GoAt.sub [1, 2, 3, 0] rfl ?_
  exact hrec _ _ _ _ hm cx1 cx3 (wI_c _) h
set_option maxRecDepth 100000 in
set_option maxHeartbeats 4000000 in
theorem w_M_bring_B154 {K : zK} (hk : zOk K kdM cX12_bring 8 (some .int) RX12 4) {k315 : Int → Int → zM → Option (Int × zM)} {rec : Int → Int → Int → zM → Option (Int × zM)} {x1 : Int} {x3 : Int} {x4 : Int} {m : zM} {o : Int × zM} (hk315 : ∀ (x1 : Int) (x3 : Int) (m : zM), zG kdM m → cI x1 → cI x3 → k315 x1 x3 m = some o → GoAt K m [(0, .ref (kB K + 0)), (1, mI x1), (3, mI x3)] [] 315 (0, o.1, o.2)) (hrec : ∀ (x1 : Int) (x3 : Int) (x4 : Int) (m : zM), zG kdM m → cI x1 → cI x3 → cI x4 → rec x1 x3 x4 m = some o → GoAt K m [(0, .ref (kB K + 0)), (1, mI x1), (3, mI x3), (4, mI x4)] [] 154 (0, o.1, o.2)) (hm : zG kdM m) (cx1 : cI x1) (cx3 : cI x3) (cx4 : cI x4) (h : M_bring_B154 k315 rec x1 x3 x4 m = some o) : GoAt K m [(0, .ref (kB K + 0)), (1, mI x1), (3, mI x3), (4, mI x4)] [] 154 (0, o.1, o.2) := by
  unfold M_bring_B154 at h
  refine g_iload hk 3 rfl dX12_bring_154 ?_
  refine g_sipush hk (v := 256) rfl dX12_bring_156 ?_
  refine g_icmp_ge hk cx4 (cIk rfl) dX12_bring_159 h (fun b1 h => ?_) (fun b1 h => ?_)
  · refine g_aload_n hk 0 rfl dX12_bring_162 ?_
    refine g_get2 hk fl_X12_204 rfl kdM_0 hm (b := 41) rfl dX12_bring_163 ?_
    refine g_sipush hk (v := 256) rfl dX12_bring_166 ?_
    refine g_iload_n hk 2 rfl dX12_bring_169 ?_
    refine g_iconst hk (v := 1) rfl dX12_bring_170 ?_
    refine g_iadd hk dX12_bring_171 ?_
    refine g_imul hk dX12_bring_172 ?_
    refine g_iload hk 3 rfl dX12_bring_173 ?_
    refine g_iadd hk dX12_bring_175 ?_
    refine g_iald hk (wI_c _) kdM_41 hm dX12_bring_176 h (fun y2 cy2 h => ?_)
    refine g_istore hk (lv' := [(5, mI y2), (0, .ref (kB K + 0)), (1, mI x1), (3, mI x3), (4, mI x4)]) (Nat.le_of_ble_eq_true rfl) rfl dX12_bring_177 ?_
    refine g_iconst hk (v := 0) rfl dX12_bring_179 ?_
    refine g_istore hk (lv' := [(6, mI 0), (5, mI y2), (0, .ref (kB K + 0)), (1, mI x1), (3, mI x3), (4, mI x4)]) (Nat.le_of_ble_eq_true rfl) rfl dX12_bring_180 ?_
    refine GoAt.sub [2, 3, 4, 5, 1, 0] rfl ?_
    refine w_M_bring_L182 hk (fun x1_3 x3_3 x4_3 x5_3 m4 hm cx1_3 cx3_3 cx4_3 cx5_3 h => ?_) 1000000 _ _ _ _ _ _ hm cx1 cx3 cx4 cy2 (cIk rfl) h
    · exact w_M_bring_b294 hk hk315 hrec hm cx1_3 cx3_3 cx4_3 cx5_3 h
  · refine GoAt.sub [0, 1, 2] rfl ?_
    exact hk315 _ _ _ hm cx1 cx3 h
theorem w_M_bring_L154 {K : zK} (hk : zOk K kdM cX12_bring 8 (some .int) RX12 4) {k315 : Int → Int → zM → Option (Int × zM)} {o : Int × zM} (hk315 : ∀ (x1 : Int) (x3 : Int) (m : zM), zG kdM m → cI x1 → cI x3 → k315 x1 x3 m = some o → GoAt K m [(0, .ref (kB K + 0)), (1, mI x1), (3, mI x3)] [] 315 (0, o.1, o.2)) : ∀ (n : Nat) (x1 : Int) (x3 : Int) (x4 : Int) (m : zM), zG kdM m → cI x1 → cI x3 → cI x4 → M_bring_L154 k315 n x1 x3 x4 m = some o → GoAt K m [(0, .ref (kB K + 0)), (1, mI x1), (3, mI x3), (4, mI x4)] [] 154 (0, o.1, o.2)
  | 0, x1, x3, x4, m, hm, cx1, cx3, cx4, h => by cases h
  | n + 1, x1, x3, x4, m, hm, cx1, cx3, cx4, h => w_M_bring_B154 hk hk315 (w_M_bring_L154 hk hk315 n) hm cx1 cx3 cx4 h
set_option maxRecDepth 100000 in
set_option maxHeartbeats 4000000 in
theorem w_M_bring_B147 {K : zK} (hk : zOk K kdM cX12_bring 8 (some .int) RX12 4) {k321 : Int → zM → Option (Int × zM)} {rec : Int → Int → zM → Option (Int × zM)} {x1 : Int} {x3 : Int} {m : zM} {o : Int × zM} (hk321 : ∀ (x1 : Int) (m : zM), zG kdM m → cI x1 → k321 x1 m = some o → GoAt K m [(0, .ref (kB K + 0)), (1, mI x1)] [] 321 (0, o.1, o.2)) (hrec : ∀ (x1 : Int) (x3 : Int) (m : zM), zG kdM m → cI x1 → cI x3 → rec x1 x3 m = some o → GoAt K m [(0, .ref (kB K + 0)), (1, mI x1), (3, mI x3)] [] 147 (0, o.1, o.2)) (hm : zG kdM m) (cx1 : cI x1) (cx3 : cI x3) (h : M_bring_B147 k321 rec x1 x3 m = some o) : GoAt K m [(0, .ref (kB K + 0)), (1, mI x1), (3, mI x3)] [] 147 (0, o.1, o.2) := by
  unfold M_bring_B147 at h
  refine g_iload_n hk 2 rfl dX12_bring_147 ?_
  refine g_if_lt hk cx3 dX12_bring_148 h (fun b1 h => ?_) (fun b1 h => ?_)
  · refine GoAt.sub [0, 1] rfl ?_
    exact hk321 _ _ hm cx1 h
  · refine g_iconst hk (v := 0) rfl dX12_bring_151 ?_
    refine g_istore hk (lv' := [(4, mI 0), (0, .ref (kB K + 0)), (1, mI x1), (3, mI x3)]) (Nat.le_of_ble_eq_true rfl) rfl dX12_bring_152 ?_
    refine GoAt.sub [1, 2, 3, 0] rfl ?_
    refine w_M_bring_L154 hk (fun x1_2 x3_2 m3 hm cx1_2 cx3_2 h => ?_) 1000000 _ _ _ _ hm cx1 cx3 (cIk rfl) h
    · refine g_iinc hk (lv' := [(3, mI (wI (x3_2 + (-1)))), (0, .ref (kB K + 0)), (1, mI x1_2)]) 2 rfl (Nat.le_of_ble_eq_true rfl) rfl dX12_bring_315 ?_
      refine g_goto hk dX12_bring_318 ?_
      refine GoAt.sub [1, 2, 0] rfl ?_
      exact hrec _ _ _ hm cx1_2 (wI_c _) h
theorem w_M_bring_L147 {K : zK} (hk : zOk K kdM cX12_bring 8 (some .int) RX12 4) {k321 : Int → zM → Option (Int × zM)} {o : Int × zM} (hk321 : ∀ (x1 : Int) (m : zM), zG kdM m → cI x1 → k321 x1 m = some o → GoAt K m [(0, .ref (kB K + 0)), (1, mI x1)] [] 321 (0, o.1, o.2)) : ∀ (n : Nat) (x1 : Int) (x3 : Int) (m : zM), zG kdM m → cI x1 → cI x3 → M_bring_L147 k321 n x1 x3 m = some o → GoAt K m [(0, .ref (kB K + 0)), (1, mI x1), (3, mI x3)] [] 147 (0, o.1, o.2)
  | 0, x1, x3, m, hm, cx1, cx3, h => by cases h
  | n + 1, x1, x3, m, hm, cx1, cx3, h => w_M_bring_B147 hk hk321 (w_M_bring_L147 hk hk321 n) hm cx1 cx3 h
set_option maxRecDepth 100000 in
set_option maxHeartbeats 4000000 in
theorem w_M_bring_B347 {K : zK} (hk : zOk K kdM cX12_bring 8 (some .int) RX12 4) {k379 : Int → Int → Int → Int → zM → Option (Int × zM)} {rec : Int → Int → Int → Int → zM → Option (Int × zM)} {x1 : Int} {x3 : Int} {x4 : Int} {x5 : Int} {m : zM} {o : Int × zM} (hk379 : ∀ (x1 : Int) (x3 : Int) (x4 : Int) (x5 : Int) (m : zM), zG kdM m → cI x1 → cI x3 → cI x4 → cI x5 → k379 x1 x3 x4 x5 m = some o → GoAt K m [(0, .ref (kB K + 0)), (1, mI x1), (3, mI x3), (4, mI x4), (5, mI x5)] [] 379 (0, o.1, o.2)) (hrec : ∀ (x1 : Int) (x3 : Int) (x4 : Int) (x5 : Int) (m : zM), zG kdM m → cI x1 → cI x3 → cI x4 → cI x5 → rec x1 x3 x4 x5 m = some o → GoAt K m [(0, .ref (kB K + 0)), (1, mI x1), (3, mI x3), (4, mI x4), (5, mI x5)] [] 347 (0, o.1, o.2)) (hm : zG kdM m) (cx1 : cI x1) (cx3 : cI x3) (cx4 : cI x4) (cx5 : cI x5) (h : M_bring_B347 k379 rec x1 x3 x4 x5 m = some o) : GoAt K m [(0, .ref (kB K + 0)), (1, mI x1), (3, mI x3), (4, mI x4), (5, mI x5)] [] 347 (0, o.1, o.2) := by
  unfold M_bring_B347 at h
  refine g_iload hk 4 rfl dX12_bring_347 ?_
  refine g_aload_n hk 0 rfl dX12_bring_349 ?_
  refine g_get2 hk fl_X12_69 rfl kdM_0 hm (b := 7) rfl dX12_bring_350 ?_
  refine g_aload_n hk 0 rfl dX12_bring_353 ?_
  have g1 := zGI (i := 13) hm kdM_0 rfl
  refine g_get0 hk fl_X12_51 rfl (j := 13) rfl kdM_0 dX12_bring_354 ?_
  refine g_iald hk g1 kdM_7 hm dX12_bring_357 h (fun y2 cy2 h => ?_)
  refine g_icmp_ge hk cx5 cy2 dX12_bring_358 h (fun b3 h => ?_) (fun b3 h => ?_)
  · refine g_aload_n hk 0 rfl dX12_bring_361 ?_
    refine g_iload hk 3 rfl dX12_bring_362 ?_
    refine g_iload hk 4 rfl dX12_bring_364 ?_
    refine g_iload_n hk 2 rfl dX12_bring_366 ?_
    obtain ⟨r4, e5, h⟩ := zbind h
    refine g_callVz hk (st := []) mf_X12_isBest lk_X12_551 mv_X12_isBest kdM_0 (by decide) rfl (Nat.le_of_ble_eq_true rfl) rfl dX12_bring_367 (met_M_isBest _ _ _ _ _ hk.wd hm cx4 cx5 cx3 e5) (fun hm c6 => ?_)
    refine g_if_ne hk (b01 c6) dX12_bring_370 h (fun b7 h => ?_) (fun b7 h => ?_)
    · refine g_iinc hk (lv' := [(5, mI (wI (x5 + 1))), (0, .ref (kB K + 0)), (1, mI x1), (3, mI x3), (4, mI x4)]) 4 rfl (Nat.le_of_ble_eq_true rfl) rfl dX12_bring_373 ?_
      refine g_goto hk dX12_bring_376 ?_
      refine GoAt.sub [1, 2, 3, 4, 0] rfl ?_
      exact hrec _ _ _ _ _ hm cx1 cx3 cx4 (wI_c _) h
    · exact hk379 _ _ _ _ _ hm cx1 cx3 cx4 cx5 h
  · exact hk379 _ _ _ _ _ hm cx1 cx3 cx4 cx5 h
theorem w_M_bring_L347 {K : zK} (hk : zOk K kdM cX12_bring 8 (some .int) RX12 4) {k379 : Int → Int → Int → Int → zM → Option (Int × zM)} {o : Int × zM} (hk379 : ∀ (x1 : Int) (x3 : Int) (x4 : Int) (x5 : Int) (m : zM), zG kdM m → cI x1 → cI x3 → cI x4 → cI x5 → k379 x1 x3 x4 x5 m = some o → GoAt K m [(0, .ref (kB K + 0)), (1, mI x1), (3, mI x3), (4, mI x4), (5, mI x5)] [] 379 (0, o.1, o.2)) : ∀ (n : Nat) (x1 : Int) (x3 : Int) (x4 : Int) (x5 : Int) (m : zM), zG kdM m → cI x1 → cI x3 → cI x4 → cI x5 → M_bring_L347 k379 n x1 x3 x4 x5 m = some o → GoAt K m [(0, .ref (kB K + 0)), (1, mI x1), (3, mI x3), (4, mI x4), (5, mI x5)] [] 347 (0, o.1, o.2)
  | 0, x1, x3, x4, x5, m, hm, cx1, cx3, cx4, cx5, h => by cases h
  | n + 1, x1, x3, x4, x5, m, hm, cx1, cx3, cx4, cx5, h => w_M_bring_B347 hk hk379 (w_M_bring_L347 hk hk379 n) hm cx1 cx3 cx4 cx5 h
set_option maxRecDepth 100000 in
set_option maxHeartbeats 4000000 in
theorem w_M_bring_b379 {K : zK} (hk : zOk K kdM cX12_bring 8 (some .int) RX12 4) {k385 : Int → zM → Option (Int × zM)} {rec : Int → Int → Int → zM → Option (Int × zM)} {x1 : Int} {x3 : Int} {x4 : Int} {x5 : Int} {m : zM} {o : Int × zM} (hk385 : ∀ (x5 : Int) (m : zM), zG kdM m → cI x5 → k385 x5 m = some o → GoAt K m [(0, .ref (kB K + 0)), (5, mI x5)] [] 385 (0, o.1, o.2)) (hrec : ∀ (x1 : Int) (x3 : Int) (x4 : Int) (m : zM), zG kdM m → cI x1 → cI x3 → cI x4 → rec x1 x3 x4 m = some o → GoAt K m [(0, .ref (kB K + 0)), (1, mI x1), (3, mI x3), (4, mI x4)] [] 338 (0, o.1, o.2)) (hm : zG kdM m) (cx1 : cI x1) (cx3 : cI x3) (cx4 : cI x4) (cx5 : cI x5) (h : M_bring_b379 k385 rec x1 x3 x4 x5 m = some o) : GoAt K m [(0, .ref (kB K + 0)), (1, mI x1), (3, mI x3), (4, mI x4), (5, mI x5)] [] 379 (0, o.1, o.2) := by
  unfold M_bring_b379 at h
  refine g_iload hk 3 rfl dX12_bring_379 ?_
  refine g_iload_n hk 1 rfl dX12_bring_381 ?_
  refine g_icmp_ne hk cx4 cx1 dX12_bring_382 h (fun b1 h => ?_) (fun b1 h => ?_)
  · refine GoAt.sub [0, 4] rfl ?_
    exact hk385 _ _ hm cx5 h
  · refine g_iload_n hk 2 rfl dX12_bring_406 ?_
    refine g_iload hk 4 rfl dX12_bring_407 ?_
    refine g_aload_n hk 0 rfl dX12_bring_409 ?_
    refine g_get2 hk fl_X12_69 rfl kdM_0 hm (b := 7) rfl dX12_bring_410 ?_
    refine g_aload_n hk 0 rfl dX12_bring_413 ?_
    have g2 := zGI (i := 13) hm kdM_0 rfl
    refine g_get0 hk fl_X12_51 rfl (j := 13) rfl kdM_0 dX12_bring_414 ?_
    refine g_iald hk g2 kdM_7 hm dX12_bring_417 h (fun y3 cy3 h => ?_)
    refine g_icmp_ne hk cx5 cy3 dX12_bring_418 h (fun b4 h => ?_) (fun b4 h => ?_)
    · refine g_iconst hk (v := 0) rfl dX12_bring_421 ?_
      refine g_goto hk dX12_bring_422 ?_
      refine g_ior hk dX12_bring_429 ?_
      refine g_istore_n hk rfl (lv' := [(3, mI (orI x3 0)), (0, .ref (kB K + 0)), (1, mI x1), (4, mI x4), (5, mI x5)]) (Nat.le_of_ble_eq_true rfl) rfl dX12_bring_430 ?_
      refine g_iinc hk (lv' := [(4, mI (wI (x4 + 1))), (3, mI (orI x3 0)), (0, .ref (kB K + 0)), (1, mI x1), (5, mI x5)]) 3 rfl (Nat.le_of_ble_eq_true rfl) rfl dX12_bring_431 ?_
      refine g_goto hk dX12_bring_434 ?_
      refine GoAt.sub [2, 3, 1, 0] rfl ?_
      exact hrec _ _ _ _ hm cx1 (cI_t _) (wI_c _) h
    · refine g_iconst hk (v := 1) rfl dX12_bring_425 ?_
      refine g_iload hk 4 rfl dX12_bring_426 ?_
      refine g_ishl hk dX12_bring_428 ?_
      refine g_ior hk dX12_bring_429 ?_
      refine g_let (cI_t _) h (fun v5 cv5 h => ?_)
      refine g_istore_n hk rfl (lv' := [(3, mI v5), (0, .ref (kB K + 0)), (1, mI x1), (4, mI x4), (5, mI x5)]) (Nat.le_of_ble_eq_true rfl) rfl dX12_bring_430 ?_
      refine g_iinc hk (lv' := [(4, mI (wI (x4 + 1))), (3, mI v5), (0, .ref (kB K + 0)), (1, mI x1), (5, mI x5)]) 3 rfl (Nat.le_of_ble_eq_true rfl) rfl dX12_bring_431 ?_
      refine g_goto hk dX12_bring_434 ?_
      refine GoAt.sub [2, 3, 1, 0] rfl ?_
      exact hrec _ _ _ _ hm cx1 cv5 (wI_c _) h
set_option maxRecDepth 100000 in
set_option maxHeartbeats 4000000 in
theorem w_M_bring_B338 {K : zK} (hk : zOk K kdM cX12_bring 8 (some .int) RX12 4) {k385 : Int → zM → Option (Int × zM)} {rec : Int → Int → Int → zM → Option (Int × zM)} {x1 : Int} {x3 : Int} {x4 : Int} {m : zM} {o : Int × zM} (hk385 : ∀ (x5 : Int) (m : zM), zG kdM m → cI x5 → k385 x5 m = some o → GoAt K m [(0, .ref (kB K + 0)), (5, mI x5)] [] 385 (0, o.1, o.2)) (hrec : ∀ (x1 : Int) (x3 : Int) (x4 : Int) (m : zM), zG kdM m → cI x1 → cI x3 → cI x4 → rec x1 x3 x4 m = some o → GoAt K m [(0, .ref (kB K + 0)), (1, mI x1), (3, mI x3), (4, mI x4)] [] 338 (0, o.1, o.2)) (hm : zG kdM m) (cx1 : cI x1) (cx3 : cI x3) (cx4 : cI x4) (h : M_bring_B338 k385 rec x1 x3 x4 m = some o) : GoAt K m [(0, .ref (kB K + 0)), (1, mI x1), (3, mI x3), (4, mI x4)] [] 338 (0, o.1, o.2) := by
  unfold M_bring_B338 at h
  refine g_iload hk 3 rfl dX12_bring_338 ?_
  refine g_iload_n hk 1 rfl dX12_bring_340 ?_
  refine g_icmp_gt hk cx4 cx1 dX12_bring_341 h (fun b1 h => ?_) (fun b1 h => ?_)
  · refine g_iconst hk (v := (-1)) rfl dX12_bring_437 ?_
    exact g_ireturn hk (cIk rfl) dX12_bring_438 (by cases h; rfl)
  · refine g_iconst hk (v := 0) rfl dX12_bring_344 ?_
    refine g_istore hk (lv' := [(5, mI 0), (0, .ref (kB K + 0)), (1, mI x1), (3, mI x3), (4, mI x4)]) (Nat.le_of_ble_eq_true rfl) rfl dX12_bring_345 ?_
    refine GoAt.sub [1, 2, 3, 4, 0] rfl ?_
    refine w_M_bring_L347 hk (fun x1_2 x3_2 x4_2 x5_2 m3 hm cx1_2 cx3_2 cx4_2 cx5_2 h => ?_) 1000000 _ _ _ _ _ hm cx1 cx3 cx4 (cIk rfl) h
    · exact w_M_bring_b379 hk hk385 hrec hm cx1_2 cx3_2 cx4_2 cx5_2 h
theorem w_M_bring_L338 {K : zK} (hk : zOk K kdM cX12_bring 8 (some .int) RX12 4) {k385 : Int → zM → Option (Int × zM)} {o : Int × zM} (hk385 : ∀ (x5 : Int) (m : zM), zG kdM m → cI x5 → k385 x5 m = some o → GoAt K m [(0, .ref (kB K + 0)), (5, mI x5)] [] 385 (0, o.1, o.2)) : ∀ (n : Nat) (x1 : Int) (x3 : Int) (x4 : Int) (m : zM), zG kdM m → cI x1 → cI x3 → cI x4 → M_bring_L338 k385 n x1 x3 x4 m = some o → GoAt K m [(0, .ref (kB K + 0)), (1, mI x1), (3, mI x3), (4, mI x4)] [] 338 (0, o.1, o.2)
  | 0, x1, x3, x4, m, hm, cx1, cx3, cx4, h => by cases h
  | n + 1, x1, x3, x4, m, hm, cx1, cx3, cx4, h => w_M_bring_B338 hk hk385 (w_M_bring_L338 hk hk385 n) hm cx1 cx3 cx4 h
set_option maxRecDepth 100000 in
set_option maxHeartbeats 4000000 in
theorem w_M_bring_b15 {K : zK} (hk : zOk K kdM cX12_bring 8 (some .int) RX12 4)  {x1 : Int} {m : zM} {o : Int × zM}  (hm : zG kdM m) (cx1 : cI x1) (h : M_bring_b15 x1 m = some o) : GoAt K m [(0, .ref (kB K + 0)), (1, mI x1)] [] 15 (0, o.1, o.2) := by
  unfold M_bring_b15 at h
  refine g_aload_n hk 0 rfl dX12_bring_15 ?_
  refine g_get2 hk fl_X12_54 rfl kdM_0 hm (b := 2) rfl dX12_bring_16 ?_
  refine g_aload_n hk 0 rfl dX12_bring_19 ?_
  have g1 := zGI (i := 13) hm kdM_0 rfl
  refine g_get0 hk fl_X12_51 rfl (j := 13) rfl kdM_0 dX12_bring_20 ?_
  refine g_iald hk g1 kdM_2 hm dX12_bring_23 h (fun y2 cy2 h => ?_)
  refine g_istore_n hk rfl (lv' := [(2, mI y2), (0, .ref (kB K + 0)), (1, mI x1)]) (Nat.le_of_ble_eq_true rfl) rfl dX12_bring_24 ?_
  refine g_iconst hk (v := 0) rfl dX12_bring_25 ?_
  refine g_istore_n hk rfl (lv' := [(3, mI 0), (2, mI y2), (0, .ref (kB K + 0)), (1, mI x1)]) (Nat.le_of_ble_eq_true rfl) rfl dX12_bring_26 ?_
  refine GoAt.sub [2, 3, 1, 0] rfl ?_
  refine w_M_bring_L27 hk (fun x1_3 x2_3 m4 hm cx1_3 cx2_3 h => ?_) 1000000 _ _ _ _ hm cx1 cy2 (cIk rfl) h
  · refine g_iconst hk (v := 0) rfl dX12_bring_115 ?_
    refine g_istore_n hk rfl (lv' := [(3, mI 0), (0, .ref (kB K + 0)), (1, mI x1_3), (2, mI x2_3)]) (Nat.le_of_ble_eq_true rfl) rfl dX12_bring_116 ?_
    refine GoAt.sub [1, 2, 3, 0] rfl ?_
    refine w_M_bring_L117 hk (fun x1_5 x2_5 m6 hm cx1_5 cx2_5 h => ?_) 1000000 _ _ _ _ hm cx1_3 cx2_3 (cIk rfl) h
    · refine g_iload_n hk 2 rfl dX12_bring_143 ?_
      refine g_iconst hk (v := 1) rfl dX12_bring_144 ?_
      refine g_isub hk dX12_bring_145 ?_
      refine g_let (wI_c _) h (fun v7 cv7 h => ?_)
      refine g_istore_n hk rfl (lv' := [(3, mI v7), (0, .ref (kB K + 0)), (1, mI x1_5), (2, mI x2_5)]) (Nat.le_of_ble_eq_true rfl) rfl dX12_bring_146 ?_
      refine GoAt.sub [1, 2, 0] rfl ?_
      refine w_M_bring_L147 hk (fun x1_8 m9 hm cx1_8 h => ?_) 1000000 _ _ _ hm cx1_5 cv7 h
      · refine g_iload_n hk 1 rfl dX12_bring_321 ?_
        refine g_iconst hk (v := (-1)) rfl dX12_bring_322 ?_
        refine g_icmp_ne hk cx1_8 (cIk rfl) dX12_bring_323 h (fun b10 h => ?_) (fun b10 h => ?_)
        · refine g_aload_n hk 0 rfl dX12_bring_326 ?_
          refine g_get2 hk fl_X12_204 rfl kdM_0 hm (b := 41) rfl dX12_bring_327 ?_
          refine g_iconst hk (v := 0) rfl dX12_bring_330 ?_
          refine g_iald hk (cIk rfl) kdM_41 hm dX12_bring_331 h (fun y11 cy11 h => ?_)
          exact g_ireturn hk cy11 dX12_bring_332 (by cases h; rfl)
        · refine g_iconst hk (v := 0) rfl dX12_bring_333 ?_
          refine g_istore_n hk rfl (lv' := [(3, mI 0), (0, .ref (kB K + 0)), (1, mI x1_8)]) (Nat.le_of_ble_eq_true rfl) rfl dX12_bring_334 ?_
          refine g_iconst hk (v := 0) rfl dX12_bring_335 ?_
          refine g_istore hk (lv' := [(4, mI 0), (3, mI 0), (0, .ref (kB K + 0)), (1, mI x1_8)]) (Nat.le_of_ble_eq_true rfl) rfl dX12_bring_336 ?_
          refine GoAt.sub [2, 3, 1, 0] rfl ?_
          refine w_M_bring_L338 hk (fun x5_12 m13 hm cx5_12 h => ?_) 1000000 _ _ _ _ hm cx1_8 (cIk rfl) (cIk rfl) h
          · refine g_iload hk 1 rfl dX12_bring_385 ?_
            refine g_aload_n hk 0 rfl dX12_bring_387 ?_
            refine g_get2 hk fl_X12_69 rfl kdM_0 hm (b := 7) rfl dX12_bring_388 ?_
            refine g_aload_n hk 0 rfl dX12_bring_391 ?_
            have g14 := zGI (i := 13) hm kdM_0 rfl
            refine g_get0 hk fl_X12_51 rfl (j := 13) rfl kdM_0 dX12_bring_392 ?_
            refine g_iald hk g14 kdM_7 hm dX12_bring_395 h (fun y15 cy15 h => ?_)
            refine g_icmp_ne hk cx5_12 cy15 dX12_bring_396 h (fun b16 h => ?_) (fun b16 h => ?_)
            · refine g_iconst hk (v := (-1)) rfl dX12_bring_399 ?_
              refine g_goto hk dX12_bring_400 ?_
              exact g_ireturn hk (cIk rfl) dX12_bring_405 (by cases h; rfl)
            · refine g_iload hk 1 rfl dX12_bring_403 ?_
              exact g_ireturn hk cx5_12 dX12_bring_405 (by cases h; rfl)
set_option maxRecDepth 100000 in
set_option maxHeartbeats 4000000 in
theorem w_M_bring {K : zK} (hk : zOk K kdM cX12_bring 8 (some .int) RX12 4)  {x1 : Int} {m : zM} {o : Int × zM}  (hm : zG kdM m) (cx1 : cI x1) (h : M_bring x1 m = some o) : GoAt K m [(0, .ref (kB K + 0)), (1, mI x1)] [] 0 (0, o.1, o.2) := by
  unfold M_bring at h
  refine g_iload_n hk 1 rfl dX12_bring_0 ?_
  refine g_iconst hk (v := (-1)) rfl dX12_bring_1 ?_
  refine g_icmp_eq hk cx1 (cIk rfl) dX12_bring_2 h (fun b1 h => ?_) (fun b1 h => ?_)
  · exact w_M_bring_b15 hk hm cx1 h
  · refine g_aload_n hk 0 rfl dX12_bring_5 ?_
    refine g_iload_n hk 1 rfl dX12_bring_6 ?_
    obtain ⟨r2, e3, h⟩ := zbind h
    refine g_callVz hk (st := []) mf_X12_isBeast lk_X12_533 mv_X12_isBeast kdM_0 (by decide) rfl (Nat.le_of_ble_eq_true rfl) rfl dX12_bring_7 (met_M_isBeast _ _ _ _ _ hk.wd hm cx1 e3) (fun hm c4 => ?_)
    refine g_if_ne hk (b01 c4) dX12_bring_10 h (fun b5 h => ?_) (fun b5 h => ?_)
    · refine g_iconst hk (v := (-1)) rfl dX12_bring_13 ?_
      exact g_ireturn hk (cIk rfl) dX12_bring_14 (by cases h; rfl)
    · exact w_M_bring_b15 hk hm cx1 h
theorem met_M_bring (l : Launch) (D : va_G) (aC : Nat → ClassId) (B N : Nat) (hwd : ∀ id, (kdM id).1 ≠ 9 → id < N) {x1 : Int} {m : zM} {o : Int × zM} (hm : zG kdM m) (cx1 : cI x1) (h : M_bring x1 m = some o) : zMet l yX12_bring cX12_bring 8 (some .int) 4 D aC B kdM N [.ref (B + 0), mI x1] m (0, o.1, o.2) := by
  refine zMet.of mf_X12_bring hwd hm (Nat.le_of_ble_eq_true rfl) (fun K e1 e2 e3 e4 e5 hk => ?_)
  subst e4
  exact w_M_bring hk hm cx1 h
set_option maxRecDepth 100000 in
set_option maxHeartbeats 4000000 in
theorem w_M_off {K : zK} (hk : zOk K kdM cX12_off 2 (some .int) RX12 0)  {x0 : Int} {x1 : Int} {m : zM} {o : Int}  (hm : zG kdM m) (cx0 : cI x0) (cx1 : cI x1) (h : M_off x0 x1 = some o) : GoAt K m [(0, mI x0), (1, mI x1)] [] 0 (0, o, m) := by
  unfold M_off at h
  refine g_iload_n hk 0 rfl dX12_off_0 ?_
  refine g_iload_n hk 1 rfl dX12_off_1 ?_
  refine g_icmp_ge hk cx0 cx1 dX12_off_2 h (fun b1 h => ?_) (fun b1 h => ?_)
  · refine g_iload_n hk 1 rfl dX12_off_5 ?_
    refine g_iload_n hk 0 rfl dX12_off_6 ?_
    refine g_isub hk dX12_off_7 ?_
    refine g_goto hk dX12_off_8 ?_
    exact g_ireturn hk (wI_c _) dX12_off_14 (by cases h; rfl)
  · refine g_iload_n hk 0 rfl dX12_off_11 ?_
    refine g_iload_n hk 1 rfl dX12_off_12 ?_
    refine g_isub hk dX12_off_13 ?_
    exact g_ireturn hk (wI_c _) dX12_off_14 (by cases h; rfl)
theorem met_M_off (l : Launch) (D : va_G) (aC : Nat → ClassId) (B N : Nat) (hwd : ∀ id, (kdM id).1 ≠ 9 → id < N) {x0 : Int} {x1 : Int} {m : zM} {o : Int} (hm : zG kdM m) (cx0 : cI x0) (cx1 : cI x1) (h : M_off x0 x1 = some o) : zMet l yX12_off cX12_off 2 (some .int) 0 D aC B kdM N [mI x0, mI x1] m (0, o, m) := by
  refine zMet.of mf_X12_off hwd hm (Nat.le_of_ble_eq_true rfl) (fun K e1 e2 e3 e4 e5 hk => ?_)
  subst e4
  exact w_M_off hk hm cx0 cx1 h
set_option maxRecDepth 100000 in
set_option maxHeartbeats 4000000 in
theorem w_M_digit {K : zK} (hk : zOk K kdM cX12_digit 2 (some .int) RX12 0)  {x0 : Int} {x1 : Int} {m : zM} {o : Int}  (hm : zG kdM m) (cx0 : cI x0) (cx1 : cI x1) (h : M_digit x0 x1 = some o) : GoAt K m [(0, mI x0), (1, mI x1)] [] 0 (0, o, m) := by
  unfold M_digit at h
  refine g_iload_n hk 1 rfl dX12_digit_0 ?_
  refine g_if_ne hk cx1 dX12_digit_1 h (fun b1 h => ?_) (fun b1 h => ?_)
  · refine g_iload_n hk 0 rfl dX12_digit_4 ?_
    refine g_bipush hk (v := 100) rfl dX12_digit_5 ?_
    refine g_idiv hk (cIk rfl) (by decide) dX12_digit_7 ?_
    refine g_goto hk dX12_digit_8 ?_
    exact g_ireturn hk (cI_t _) dX12_digit_30 (by cases h; rfl)
  · refine g_iload_n hk 1 rfl dX12_digit_11 ?_
    refine g_iconst hk (v := 1) rfl dX12_digit_12 ?_
    refine g_icmp_ne hk cx1 (cIk rfl) dX12_digit_13 h (fun b2 h => ?_) (fun b2 h => ?_)
    · refine g_iload_n hk 0 rfl dX12_digit_16 ?_
      refine g_bipush hk (v := 10) rfl dX12_digit_17 ?_
      refine g_idiv hk (cIk rfl) (by decide) dX12_digit_19 ?_
      refine g_bipush hk (v := 10) rfl dX12_digit_20 ?_
      refine g_irem hk (cIk rfl) (by decide) dX12_digit_22 ?_
      refine g_goto hk dX12_digit_23 ?_
      exact g_ireturn hk (cI_t _) dX12_digit_30 (by cases h; rfl)
    · refine g_iload_n hk 0 rfl dX12_digit_26 ?_
      refine g_bipush hk (v := 10) rfl dX12_digit_27 ?_
      refine g_irem hk (cIk rfl) (by decide) dX12_digit_29 ?_
      exact g_ireturn hk (cI_t _) dX12_digit_30 (by cases h; rfl)
theorem met_M_digit (l : Launch) (D : va_G) (aC : Nat → ClassId) (B N : Nat) (hwd : ∀ id, (kdM id).1 ≠ 9 → id < N) {x0 : Int} {x1 : Int} {m : zM} {o : Int} (hm : zG kdM m) (cx0 : cI x0) (cx1 : cI x1) (h : M_digit x0 x1 = some o) : zMet l yX12_digit cX12_digit 2 (some .int) 0 D aC B kdM N [mI x0, mI x1] m (0, o, m) := by
  refine zMet.of mf_X12_digit hwd hm (Nat.le_of_ble_eq_true rfl) (fun K e1 e2 e3 e4 e5 hk => ?_)
  subst e4
  exact w_M_digit hk hm cx0 cx1 h
set_option maxRecDepth 100000 in
set_option maxHeartbeats 4000000 in
theorem w_M_dress_B52 {K : zK} (hk : zOk K kdM cX12_dress 9 (some .int) RX12 7) {k87 : Int → Int → Int → Int → Int → Int → Int → zM → Option (Int × zM)} {rec : Int → Int → Int → Int → Int → Int → Int → Int → zM → Option (Int × zM)} {x1 : Int} {x2 : Int} {x3 : Int} {x4 : Int} {x5 : Int} {x6 : Int} {x7 : Int} {x8 : Int} {m : zM} {o : Int × zM} (hk87 : ∀ (x1 : Int) (x2 : Int) (x3 : Int) (x4 : Int) (x5 : Int) (x6 : Int) (x7 : Int) (m : zM), zG kdM m → cI x1 → cI x2 → cI x3 → cI x4 → cI x5 → cI x6 → cI x7 → k87 x1 x2 x3 x4 x5 x6 x7 m = some o → GoAt K m [(0, .ref (kB K + 0)), (1, mI x1), (2, mI x2), (3, mI x3), (4, mI x4), (5, mI x5), (6, mI x6), (7, mI x7)] [] 87 (0, o.1, o.2)) (hrec : ∀ (x1 : Int) (x2 : Int) (x3 : Int) (x4 : Int) (x5 : Int) (x6 : Int) (x7 : Int) (x8 : Int) (m : zM), zG kdM m → cI x1 → cI x2 → cI x3 → cI x4 → cI x5 → cI x6 → cI x7 → cI x8 → rec x1 x2 x3 x4 x5 x6 x7 x8 m = some o → GoAt K m [(0, .ref (kB K + 0)), (1, mI x1), (2, mI x2), (3, mI x3), (4, mI x4), (5, mI x5), (6, mI x6), (7, mI x7), (8, mI x8)] [] 52 (0, o.1, o.2)) (hm : zG kdM m) (cx1 : cI x1) (cx2 : cI x2) (cx3 : cI x3) (cx4 : cI x4) (cx5 : cI x5) (cx6 : cI x6) (cx7 : cI x7) (cx8 : cI x8) (h : M_dress_B52 k87 rec x1 x2 x3 x4 x5 x6 x7 x8 m = some o) : GoAt K m [(0, .ref (kB K + 0)), (1, mI x1), (2, mI x2), (3, mI x3), (4, mI x4), (5, mI x5), (6, mI x6), (7, mI x7), (8, mI x8)] [] 52 (0, o.1, o.2) := by
  unfold M_dress_B52 at h
  refine g_iload hk 8 rfl dX12_dress_52 ?_
  refine g_iconst hk (v := 3) rfl dX12_dress_54 ?_
  refine g_icmp_ge hk cx8 (cIk rfl) dX12_dress_55 h (fun b1 h => ?_) (fun b1 h => ?_)
  · refine g_iload hk 7 rfl dX12_dress_58 ?_
    refine g_iload hk 6 rfl dX12_dress_60 ?_
    refine g_iload hk 8 rfl dX12_dress_62 ?_
    obtain ⟨r2, e3, h⟩ := zbind h
    refine g_callSi hk (st := [mI x7]) mf_X12_digit lk_X12_555 ms_X12_digit (by decide) rfl (Nat.le_of_ble_eq_true rfl) rfl dX12_dress_64 (met_M_digit _ _ _ _ _ hk.wd hm cx6 cx8 e3) (fun hm c4 => ?_)
    refine g_aload_n hk 0 rfl dX12_dress_67 ?_
    refine g_iconst hk (v := 0) rfl dX12_dress_68 ?_
    refine g_iload_n hk 1 rfl dX12_dress_69 ?_
    refine g_iload hk 8 rfl dX12_dress_70 ?_
    obtain ⟨r5, e6, h⟩ := zbind h
    refine g_callVi hk (st := [mI r2, mI x7]) mf_X12_look lk_X12_471 mv_X12_look kdM_0 (by decide) rfl (Nat.le_of_ble_eq_true rfl) rfl dX12_dress_72 (met_M_look _ _ _ _ _ hk.wd hm (cIk rfl) cx1 cx8 e6) (fun hm c7 => ?_)
    obtain ⟨r8, e9, h⟩ := zbind h
    refine g_callSi hk (st := [mI x7]) mf_X12_off lk_X12_558 ms_X12_off (by decide) rfl (Nat.le_of_ble_eq_true rfl) rfl dX12_dress_75 (met_M_off _ _ _ _ _ hk.wd hm c4 c7 e9) (fun hm c10 => ?_)
    refine g_iadd hk dX12_dress_78 ?_
    refine g_let (wI_c _) h (fun v11 cv11 h => ?_)
    refine g_istore hk (lv' := [(7, mI v11), (0, .ref (kB K + 0)), (1, mI x1), (2, mI x2), (3, mI x3), (4, mI x4), (5, mI x5), (6, mI x6), (8, mI x8)]) (Nat.le_of_ble_eq_true rfl) rfl dX12_dress_79 ?_
    refine g_iinc hk (lv' := [(8, mI (wI (x8 + 1))), (7, mI v11), (0, .ref (kB K + 0)), (1, mI x1), (2, mI x2), (3, mI x3), (4, mI x4), (5, mI x5), (6, mI x6)]) 8 rfl (Nat.le_of_ble_eq_true rfl) rfl dX12_dress_81 ?_
    refine g_goto hk dX12_dress_84 ?_
    refine GoAt.sub [2, 3, 4, 5, 6, 7, 8, 1, 0] rfl ?_
    exact hrec _ _ _ _ _ _ _ _ _ hm cx1 cx2 cx3 cx4 cx5 cx6 cv11 (wI_c _) h
  · refine GoAt.sub [0, 1, 2, 3, 4, 5, 6, 7] rfl ?_
    exact hk87 _ _ _ _ _ _ _ _ hm cx1 cx2 cx3 cx4 cx5 cx6 cx7 h
theorem w_M_dress_L52 {K : zK} (hk : zOk K kdM cX12_dress 9 (some .int) RX12 7) {k87 : Int → Int → Int → Int → Int → Int → Int → zM → Option (Int × zM)} {o : Int × zM} (hk87 : ∀ (x1 : Int) (x2 : Int) (x3 : Int) (x4 : Int) (x5 : Int) (x6 : Int) (x7 : Int) (m : zM), zG kdM m → cI x1 → cI x2 → cI x3 → cI x4 → cI x5 → cI x6 → cI x7 → k87 x1 x2 x3 x4 x5 x6 x7 m = some o → GoAt K m [(0, .ref (kB K + 0)), (1, mI x1), (2, mI x2), (3, mI x3), (4, mI x4), (5, mI x5), (6, mI x6), (7, mI x7)] [] 87 (0, o.1, o.2)) : ∀ (n : Nat) (x1 : Int) (x2 : Int) (x3 : Int) (x4 : Int) (x5 : Int) (x6 : Int) (x7 : Int) (x8 : Int) (m : zM), zG kdM m → cI x1 → cI x2 → cI x3 → cI x4 → cI x5 → cI x6 → cI x7 → cI x8 → M_dress_L52 k87 n x1 x2 x3 x4 x5 x6 x7 x8 m = some o → GoAt K m [(0, .ref (kB K + 0)), (1, mI x1), (2, mI x2), (3, mI x3), (4, mI x4), (5, mI x5), (6, mI x6), (7, mI x7), (8, mI x8)] [] 52 (0, o.1, o.2)
  | 0, x1, x2, x3, x4, x5, x6, x7, x8, m, hm, cx1, cx2, cx3, cx4, cx5, cx6, cx7, cx8, h => by cases h
  | n + 1, x1, x2, x3, x4, x5, x6, x7, x8, m, hm, cx1, cx2, cx3, cx4, cx5, cx6, cx7, cx8, h => w_M_dress_B52 hk hk87 (w_M_dress_L52 hk hk87 n) hm cx1 cx2 cx3 cx4 cx5 cx6 cx7 cx8 h
set_option maxRecDepth 100000 in
set_option maxHeartbeats 4000000 in
theorem w_M_dress_B106 {K : zK} (hk : zOk K kdM cX12_dress 9 (some .int) RX12 7) {k139 : Int → Int → Int → Int → Int → Int → Int → zM → Option (Int × zM)} {rec : Int → Int → Int → Int → Int → Int → Int → Int → zM → Option (Int × zM)} {x1 : Int} {x2 : Int} {x3 : Int} {x4 : Int} {x5 : Int} {x6 : Int} {x7 : Int} {x8 : Int} {m : zM} {o : Int × zM} (hk139 : ∀ (x1 : Int) (x2 : Int) (x3 : Int) (x4 : Int) (x5 : Int) (x6 : Int) (x7 : Int) (m : zM), zG kdM m → cI x1 → cI x2 → cI x3 → cI x4 → cI x5 → cI x6 → cI x7 → k139 x1 x2 x3 x4 x5 x6 x7 m = some o → GoAt K m [(0, .ref (kB K + 0)), (1, mI x1), (2, mI x2), (3, mI x3), (4, mI x4), (5, mI x5), (6, mI x6), (7, mI x7)] [] 139 (0, o.1, o.2)) (hrec : ∀ (x1 : Int) (x2 : Int) (x3 : Int) (x4 : Int) (x5 : Int) (x6 : Int) (x7 : Int) (x8 : Int) (m : zM), zG kdM m → cI x1 → cI x2 → cI x3 → cI x4 → cI x5 → cI x6 → cI x7 → cI x8 → rec x1 x2 x3 x4 x5 x6 x7 x8 m = some o → GoAt K m [(0, .ref (kB K + 0)), (1, mI x1), (2, mI x2), (3, mI x3), (4, mI x4), (5, mI x5), (6, mI x6), (7, mI x7), (8, mI x8)] [] 106 (0, o.1, o.2)) (hm : zG kdM m) (cx1 : cI x1) (cx2 : cI x2) (cx3 : cI x3) (cx4 : cI x4) (cx5 : cI x5) (cx6 : cI x6) (cx7 : cI x7) (cx8 : cI x8) (h : M_dress_B106 k139 rec x1 x2 x3 x4 x5 x6 x7 x8 m = some o) : GoAt K m [(0, .ref (kB K + 0)), (1, mI x1), (2, mI x2), (3, mI x3), (4, mI x4), (5, mI x5), (6, mI x6), (7, mI x7), (8, mI x8)] [] 106 (0, o.1, o.2) := by
  unfold M_dress_B106 at h
  refine g_iload hk 8 rfl dX12_dress_106 ?_
  refine g_iconst hk (v := 3) rfl dX12_dress_108 ?_
  refine g_icmp_ge hk cx8 (cIk rfl) dX12_dress_109 h (fun b1 h => ?_) (fun b1 h => ?_)
  · refine g_aload_n hk 0 rfl dX12_dress_112 ?_
    refine g_get2 hk fl_X12_159 rfl kdM_0 hm (b := 29) rfl dX12_dress_113 ?_
    refine g_bipush hk (v := 24) rfl dX12_dress_116 ?_
    refine g_iconst hk (v := 3) rfl dX12_dress_118 ?_
    refine g_iload_n hk 1 rfl dX12_dress_119 ?_
    refine g_imul hk dX12_dress_120 ?_
    refine g_iadd hk dX12_dress_121 ?_
    refine g_iload hk 8 rfl dX12_dress_122 ?_
    refine g_iadd hk dX12_dress_124 ?_
    refine g_iload hk 6 rfl dX12_dress_125 ?_
    refine g_iload hk 8 rfl dX12_dress_127 ?_
    obtain ⟨r2, e3, h⟩ := zbind h
    refine g_callSi hk (st := [mI (wI ((wI (24 + (wI (3 * x1)))) + x8)), .ref (kB K + 29)]) mf_X12_digit lk_X12_555 ms_X12_digit (by decide) rfl (Nat.le_of_ble_eq_true rfl) rfl dX12_dress_129 (met_M_digit _ _ _ _ _ hk.wd hm cx6 cx8 e3) (fun hm c4 => ?_)
    refine g_iast hk (wI_c _) c4 kdM_29 hm dX12_dress_132 h (fun m5 hm h => ?_)
    refine g_iinc hk (lv' := [(8, mI (wI (x8 + 1))), (0, .ref (kB K + 0)), (1, mI x1), (2, mI x2), (3, mI x3), (4, mI x4), (5, mI x5), (6, mI x6), (7, mI x7)]) 8 rfl (Nat.le_of_ble_eq_true rfl) rfl dX12_dress_133 ?_
    refine g_goto hk dX12_dress_136 ?_
    refine GoAt.sub [1, 2, 3, 4, 5, 6, 7, 8, 0] rfl ?_
    exact hrec _ _ _ _ _ _ _ _ _ hm cx1 cx2 cx3 cx4 cx5 cx6 cx7 (wI_c _) h
  · refine GoAt.sub [0, 1, 2, 3, 4, 5, 6, 7] rfl ?_
    exact hk139 _ _ _ _ _ _ _ _ hm cx1 cx2 cx3 cx4 cx5 cx6 cx7 h
theorem w_M_dress_L106 {K : zK} (hk : zOk K kdM cX12_dress 9 (some .int) RX12 7) {k139 : Int → Int → Int → Int → Int → Int → Int → zM → Option (Int × zM)} {o : Int × zM} (hk139 : ∀ (x1 : Int) (x2 : Int) (x3 : Int) (x4 : Int) (x5 : Int) (x6 : Int) (x7 : Int) (m : zM), zG kdM m → cI x1 → cI x2 → cI x3 → cI x4 → cI x5 → cI x6 → cI x7 → k139 x1 x2 x3 x4 x5 x6 x7 m = some o → GoAt K m [(0, .ref (kB K + 0)), (1, mI x1), (2, mI x2), (3, mI x3), (4, mI x4), (5, mI x5), (6, mI x6), (7, mI x7)] [] 139 (0, o.1, o.2)) : ∀ (n : Nat) (x1 : Int) (x2 : Int) (x3 : Int) (x4 : Int) (x5 : Int) (x6 : Int) (x7 : Int) (x8 : Int) (m : zM), zG kdM m → cI x1 → cI x2 → cI x3 → cI x4 → cI x5 → cI x6 → cI x7 → cI x8 → M_dress_L106 k139 n x1 x2 x3 x4 x5 x6 x7 x8 m = some o → GoAt K m [(0, .ref (kB K + 0)), (1, mI x1), (2, mI x2), (3, mI x3), (4, mI x4), (5, mI x5), (6, mI x6), (7, mI x7), (8, mI x8)] [] 106 (0, o.1, o.2)
  | 0, x1, x2, x3, x4, x5, x6, x7, x8, m, hm, cx1, cx2, cx3, cx4, cx5, cx6, cx7, cx8, h => by cases h
  | n + 1, x1, x2, x3, x4, x5, x6, x7, x8, m, hm, cx1, cx2, cx3, cx4, cx5, cx6, cx7, cx8, h => w_M_dress_B106 hk hk139 (w_M_dress_L106 hk hk139 n) hm cx1 cx2 cx3 cx4 cx5 cx6 cx7 cx8 h
set_option maxRecDepth 100000 in
set_option maxHeartbeats 4000000 in
theorem w_M_dress_B38 {K : zK} (hk : zOk K kdM cX12_dress 9 (some .int) RX12 7) {k172 : Int → Int → Int → zM → Option (Int × zM)} {rec : Int → Int → Int → Int → Int → Int → zM → Option (Int × zM)} {x1 : Int} {x2 : Int} {x3 : Int} {x4 : Int} {x5 : Int} {x6 : Int} {m : zM} {o : Int × zM} (hk172 : ∀ (x3 : Int) (x4 : Int) (x5 : Int) (m : zM), zG kdM m → cI x3 → cI x4 → cI x5 → k172 x3 x4 x5 m = some o → GoAt K m [(3, mI x3), (4, mI x4), (5, mI x5)] [] 172 (0, o.1, o.2)) (hrec : ∀ (x1 : Int) (x2 : Int) (x3 : Int) (x4 : Int) (x5 : Int) (x6 : Int) (m : zM), zG kdM m → cI x1 → cI x2 → cI x3 → cI x4 → cI x5 → cI x6 → rec x1 x2 x3 x4 x5 x6 m = some o → GoAt K m [(0, .ref (kB K + 0)), (1, mI x1), (2, mI x2), (3, mI x3), (4, mI x4), (5, mI x5), (6, mI x6)] [] 38 (0, o.1, o.2)) (hm : zG kdM m) (cx1 : cI x1) (cx2 : cI x2) (cx3 : cI x3) (cx4 : cI x4) (cx5 : cI x5) (cx6 : cI x6) (h : M_dress_B38 k172 rec x1 x2 x3 x4 x5 x6 m = some o) : GoAt K m [(0, .ref (kB K + 0)), (1, mI x1), (2, mI x2), (3, mI x3), (4, mI x4), (5, mI x5), (6, mI x6)] [] 38 (0, o.1, o.2) := by
  unfold M_dress_B38 at h
  refine g_iload hk 6 rfl dX12_dress_38 ?_
  refine g_sipush hk (v := 1000) rfl dX12_dress_40 ?_
  refine g_icmp_ge hk cx6 (cIk rfl) dX12_dress_43 h (fun b1 h => ?_) (fun b1 h => ?_)
  · refine g_iconst hk (v := 0) rfl dX12_dress_46 ?_
    refine g_istore hk (lv' := [(7, mI 0), (0, .ref (kB K + 0)), (1, mI x1), (2, mI x2), (3, mI x3), (4, mI x4), (5, mI x5), (6, mI x6)]) (Nat.le_of_ble_eq_true rfl) rfl dX12_dress_47 ?_
    refine g_iconst hk (v := 0) rfl dX12_dress_49 ?_
    refine g_istore hk (lv' := [(8, mI 0), (7, mI 0), (0, .ref (kB K + 0)), (1, mI x1), (2, mI x2), (3, mI x3), (4, mI x4), (5, mI x5), (6, mI x6)]) (Nat.le_of_ble_eq_true rfl) rfl dX12_dress_50 ?_
    refine GoAt.sub [2, 3, 4, 5, 6, 7, 8, 1, 0] rfl ?_
    refine w_M_dress_L52 hk (fun x1_2 x2_2 x3_2 x4_2 x5_2 x6_2 x7_2 m3 hm cx1_2 cx2_2 cx3_2 cx4_2 cx5_2 cx6_2 cx7_2 h => ?_) 1000000 _ _ _ _ _ _ _ _ _ hm cx1 cx2 cx3 cx4 cx5 cx6 (cIk rfl) (cIk rfl) h
    · refine g_iload hk 7 rfl dX12_dress_87 ?_
      refine g_iload hk 5 rfl dX12_dress_89 ?_
      refine g_icmp_lt hk cx7_2 cx5_2 dX12_dress_91 h (fun b4 h => ?_) (fun b4 h => ?_)
      · refine g_aload_n hk 0 rfl dX12_dress_97 ?_
        refine g_iconst hk (v := 1) rfl dX12_dress_98 ?_
        refine g_iconst hk (v := 0) rfl dX12_dress_99 ?_
        obtain ⟨r5, e6, h⟩ := zbind h
        refine g_callVv hk (st := []) mf_X12_copies lk_X12_452 mv_X12_copies kdM_0 (by decide) rfl (Nat.le_of_ble_eq_true rfl) rfl dX12_dress_100 (met_M_copies _ _ _ _ _ hk.wd hm (cIk rfl) (cIk rfl) e6) (fun hm => ?_)
        refine g_iconst hk (v := 0) rfl dX12_dress_103 ?_
        refine g_istore hk (lv' := [(8, mI 0), (0, .ref (kB K + 0)), (1, mI x1_2), (2, mI x2_2), (3, mI x3_2), (4, mI x4_2), (5, mI x5_2), (6, mI x6_2), (7, mI x7_2)]) (Nat.le_of_ble_eq_true rfl) rfl dX12_dress_104 ?_
        refine GoAt.sub [1, 2, 3, 4, 5, 6, 7, 8, 0] rfl ?_
        refine w_M_dress_L106 hk (fun x1_8 x2_8 x3_8 x4_8 x5_8 x6_8 x7_8 m9 hm cx1_8 cx2_8 cx3_8 cx4_8 cx5_8 cx6_8 cx7_8 h => ?_) 1000000 _ _ _ _ _ _ _ _ _ hm cx1_2 cx2_2 cx3_2 cx4_2 cx5_2 cx6_2 cx7_2 (cIk rfl) h
        · refine g_aload_n hk 0 rfl dX12_dress_139 ?_
          refine g_iconst hk (v := 1) rfl dX12_dress_140 ?_
          obtain ⟨r10, e11, h⟩ := zbind h
          refine g_callVi hk (st := []) mf_X12_asking lk_X12_542 mv_X12_asking kdM_0 (by decide) rfl (Nat.le_of_ble_eq_true rfl) rfl dX12_dress_141 (met_M_asking _ _ _ _ _ hk.wd hm (cIk rfl) e11) (fun hm c12 => ?_)
          refine g_pop hk rfl dX12_dress_144 ?_
          refine g_aload_n hk 0 rfl dX12_dress_145 ?_
          refine g_get2 hk fl_X12_198 rfl kdM_0 hm (b := 39) rfl dX12_dress_146 ?_
          refine g_iload_n hk 2 rfl dX12_dress_149 ?_
          refine g_iald hk cx2_8 kdM_39 hm dX12_dress_150 h (fun y13 cy13 h => ?_)
          refine g_iload_n hk 1 rfl dX12_dress_151 ?_
          refine g_icmp_eq hk cy13 cx1_8 dX12_dress_152 h (fun b14 h => ?_) (fun b14 h => ?_)
          · refine g_iload hk 7 rfl dX12_dress_158 ?_
            refine g_istore hk (lv' := [(5, mI x7_8), (0, .ref (kB K + 0)), (1, mI x1_8), (2, mI x2_8), (3, mI x3_8), (4, mI x4_8), (6, mI x6_8), (7, mI x7_8)]) (Nat.le_of_ble_eq_true rfl) rfl dX12_dress_160 ?_
            refine g_iload hk 6 rfl dX12_dress_162 ?_
            refine g_istore hk (lv' := [(4, mI x6_8), (5, mI x7_8), (0, .ref (kB K + 0)), (1, mI x1_8), (2, mI x2_8), (3, mI x3_8), (6, mI x6_8), (7, mI x7_8)]) (Nat.le_of_ble_eq_true rfl) rfl dX12_dress_164 ?_
            refine g_iinc hk (lv' := [(6, mI (wI (x6_8 + 1))), (4, mI x6_8), (5, mI x7_8), (0, .ref (kB K + 0)), (1, mI x1_8), (2, mI x2_8), (3, mI x3_8), (7, mI x7_8)]) 6 rfl (Nat.le_of_ble_eq_true rfl) rfl dX12_dress_166 ?_
            refine g_goto hk dX12_dress_169 ?_
            refine GoAt.sub [3, 4, 5, 6, 1, 2, 0] rfl ?_
            exact hrec _ _ _ _ _ _ _ hm cx1_8 cx2_8 cx3_8 cx6_8 cx7_8 (wI_c _) h
          · refine g_goto hk dX12_dress_155 ?_
            refine g_iinc hk (lv' := [(6, mI (wI (x6_8 + 1))), (0, .ref (kB K + 0)), (1, mI x1_8), (2, mI x2_8), (3, mI x3_8), (4, mI x4_8), (5, mI x5_8), (7, mI x7_8)]) 6 rfl (Nat.le_of_ble_eq_true rfl) rfl dX12_dress_166 ?_
            refine g_goto hk dX12_dress_169 ?_
            refine GoAt.sub [1, 2, 3, 4, 5, 6, 0] rfl ?_
            exact hrec _ _ _ _ _ _ _ hm cx1_8 cx2_8 cx3_8 cx4_8 cx5_8 (wI_c _) h
      · refine g_goto hk dX12_dress_94 ?_
        refine g_iinc hk (lv' := [(6, mI (wI (x6_2 + 1))), (0, .ref (kB K + 0)), (1, mI x1_2), (2, mI x2_2), (3, mI x3_2), (4, mI x4_2), (5, mI x5_2), (7, mI x7_2)]) 6 rfl (Nat.le_of_ble_eq_true rfl) rfl dX12_dress_166 ?_
        refine g_goto hk dX12_dress_169 ?_
        refine GoAt.sub [1, 2, 3, 4, 5, 6, 0] rfl ?_
        exact hrec _ _ _ _ _ _ _ hm cx1_2 cx2_2 cx3_2 cx4_2 cx5_2 (wI_c _) h
  · refine GoAt.sub [3, 4, 5] rfl ?_
    exact hk172 _ _ _ _ hm cx3 cx4 cx5 h
theorem w_M_dress_L38 {K : zK} (hk : zOk K kdM cX12_dress 9 (some .int) RX12 7) {k172 : Int → Int → Int → zM → Option (Int × zM)} {o : Int × zM} (hk172 : ∀ (x3 : Int) (x4 : Int) (x5 : Int) (m : zM), zG kdM m → cI x3 → cI x4 → cI x5 → k172 x3 x4 x5 m = some o → GoAt K m [(3, mI x3), (4, mI x4), (5, mI x5)] [] 172 (0, o.1, o.2)) : ∀ (n : Nat) (x1 : Int) (x2 : Int) (x3 : Int) (x4 : Int) (x5 : Int) (x6 : Int) (m : zM), zG kdM m → cI x1 → cI x2 → cI x3 → cI x4 → cI x5 → cI x6 → M_dress_L38 k172 n x1 x2 x3 x4 x5 x6 m = some o → GoAt K m [(0, .ref (kB K + 0)), (1, mI x1), (2, mI x2), (3, mI x3), (4, mI x4), (5, mI x5), (6, mI x6)] [] 38 (0, o.1, o.2)
  | 0, x1, x2, x3, x4, x5, x6, m, hm, cx1, cx2, cx3, cx4, cx5, cx6, h => by cases h
  | n + 1, x1, x2, x3, x4, x5, x6, m, hm, cx1, cx2, cx3, cx4, cx5, cx6, h => w_M_dress_B38 hk hk172 (w_M_dress_L38 hk hk172 n) hm cx1 cx2 cx3 cx4 cx5 cx6 h
set_option maxRecDepth 100000 in
set_option maxHeartbeats 4000000 in
theorem w_M_dress {K : zK} (hk : zOk K kdM cX12_dress 9 (some .int) RX12 7)  {x1 : Int} {x2 : Int} {x3 : Int} {m : zM} {o : Int × zM}  (hm : zG kdM m) (cx1 : cI x1) (cx2 : cI x2) (cx3 : cI x3) (h : M_dress x1 x2 x3 m = some o) : GoAt K m [(0, .ref (kB K + 0)), (1, mI x1), (2, mI x2), (3, mI x3)] [] 0 (0, o.1, o.2) := by
  unfold M_dress at h
  refine g_aload_n hk 0 rfl dX12_dress_0 ?_
  refine g_iload_n hk 1 rfl dX12_dress_1 ?_
  obtain ⟨r1, e2, h⟩ := zbind h
  refine g_callVz hk (st := []) mf_X12_isGuest lk_X12_536 mv_X12_isGuest kdM_0 (by decide) rfl (Nat.le_of_ble_eq_true rfl) rfl dX12_dress_2 (met_M_isGuest _ _ _ _ _ hk.wd hm cx1 e2) (fun hm c3 => ?_)
  refine g_if_eq hk (b01 c3) dX12_dress_5 h (fun b4 h => ?_) (fun b4 h => ?_)
  · refine g_iconst hk (v := (-1)) rfl dX12_dress_25 ?_
    exact g_ireturn hk (cIk rfl) dX12_dress_26 (by cases h; rfl)
  · refine g_aload_n hk 0 rfl dX12_dress_8 ?_
    refine g_iload_n hk 2 rfl dX12_dress_9 ?_
    obtain ⟨r5, e6, h⟩ := zbind h
    refine g_callVz hk (st := []) mf_X12_isBeast lk_X12_533 mv_X12_isBeast kdM_0 (by decide) rfl (Nat.le_of_ble_eq_true rfl) rfl dX12_dress_10 (met_M_isBeast _ _ _ _ _ hk.wd hm cx2 e6) (fun hm c7 => ?_)
    refine g_if_eq hk (b01 c7) dX12_dress_13 h (fun b8 h => ?_) (fun b8 h => ?_)
    · refine g_iconst hk (v := (-1)) rfl dX12_dress_25 ?_
      exact g_ireturn hk (cIk rfl) dX12_dress_26 (by cases h; rfl)
    · refine g_iload_n hk 3 rfl dX12_dress_16 ?_
      refine g_iconst hk (v := 0) rfl dX12_dress_17 ?_
      refine g_iconst hk (v := 3) rfl dX12_dress_18 ?_
      obtain ⟨r9, e10, h⟩ := zbind h
      refine g_callSz hk (st := []) mf_X12_is lk_X12_345 ms_X12_is (by decide) rfl (Nat.le_of_ble_eq_true rfl) rfl dX12_dress_19 (met_M_is _ _ _ _ _ hk.wd hm cx3 (cIk rfl) (cIk rfl) e10) (fun hm c11 => ?_)
      refine g_if_ne hk (b01 c11) dX12_dress_22 h (fun b12 h => ?_) (fun b12 h => ?_)
      · refine g_iconst hk (v := (-1)) rfl dX12_dress_25 ?_
        exact g_ireturn hk (cIk rfl) dX12_dress_26 (by cases h; rfl)
      · refine g_iconst hk (v := (-1)) rfl dX12_dress_27 ?_
        refine g_istore hk (lv' := [(4, mI ((-1))), (0, .ref (kB K + 0)), (1, mI x1), (2, mI x2), (3, mI x3)]) (Nat.le_of_ble_eq_true rfl) rfl dX12_dress_28 ?_
        refine g_ldcw hk (v := 100000000) cn_X12_554 dX12_dress_30 ?_
        refine g_istore hk (lv' := [(5, mI 100000000), (4, mI ((-1))), (0, .ref (kB K + 0)), (1, mI x1), (2, mI x2), (3, mI x3)]) (Nat.le_of_ble_eq_true rfl) rfl dX12_dress_33 ?_
        refine g_iconst hk (v := 0) rfl dX12_dress_35 ?_
        refine g_istore hk (lv' := [(6, mI 0), (5, mI 100000000), (4, mI ((-1))), (0, .ref (kB K + 0)), (1, mI x1), (2, mI x2), (3, mI x3)]) (Nat.le_of_ble_eq_true rfl) rfl dX12_dress_36 ?_
        refine GoAt.sub [3, 4, 5, 6, 2, 1, 0] rfl ?_
        refine w_M_dress_L38 hk (fun x3_13 x4_13 x5_13 m14 hm cx3_13 cx4_13 cx5_13 h => ?_) 1000000 _ _ _ _ _ _ _ hm cx1 cx2 cx3 (cIk rfl) (cIk rfl) (cIk rfl) h
        · refine g_iload hk 1 rfl dX12_dress_172 ?_
          refine g_iconst hk (v := (-1)) rfl dX12_dress_174 ?_
          refine g_icmp_ne hk cx4_13 (cIk rfl) dX12_dress_175 h (fun b15 h => ?_) (fun b15 h => ?_)
          · refine g_iconst hk (v := (-1)) rfl dX12_dress_178 ?_
            refine g_goto hk dX12_dress_179 ?_
            exact g_ireturn hk (cIk rfl) dX12_dress_199 (by cases h; rfl)
          · refine g_iload_n hk 0 rfl dX12_dress_182 ?_
            refine g_if_ne hk cx3_13 dX12_dress_183 h (fun b16 h => ?_) (fun b16 h => ?_)
            · refine g_iload hk 2 rfl dX12_dress_186 ?_
              refine g_goto hk dX12_dress_188 ?_
              exact g_ireturn hk cx5_13 dX12_dress_199 (by cases h; rfl)
            · refine g_iload hk 1 rfl dX12_dress_191 ?_
              refine g_iload_n hk 0 rfl dX12_dress_193 ?_
              refine g_iconst hk (v := 1) rfl dX12_dress_194 ?_
              refine g_isub hk dX12_dress_195 ?_
              obtain ⟨r17, e18, h⟩ := zbind h
              refine g_callSi hk (st := []) mf_X12_digit lk_X12_555 ms_X12_digit (by decide) rfl (Nat.le_of_ble_eq_true rfl) rfl dX12_dress_196 (met_M_digit _ _ _ _ _ hk.wd hm cx4_13 (wI_c _) e18) (fun hm c19 => ?_)
              exact g_ireturn hk c19 dX12_dress_199 (by cases h; rfl)
theorem met_M_dress (l : Launch) (D : va_G) (aC : Nat → ClassId) (B N : Nat) (hwd : ∀ id, (kdM id).1 ≠ 9 → id < N) {x1 : Int} {x2 : Int} {x3 : Int} {m : zM} {o : Int × zM} (hm : zG kdM m) (cx1 : cI x1) (cx2 : cI x2) (cx3 : cI x3) (h : M_dress x1 x2 x3 m = some o) : zMet l yX12_dress cX12_dress 9 (some .int) 7 D aC B kdM N [.ref (B + 0), mI x1, mI x2, mI x3] m (0, o.1, o.2) := by
  refine zMet.of mf_X12_dress hwd hm (Nat.le_of_ble_eq_true rfl) (fun K e1 e2 e3 e4 e5 hk => ?_)
  subst e4
  exact w_M_dress hk hm cx1 cx2 cx3 h
set_option maxRecDepth 100000 in
set_option maxHeartbeats 4000000 in
theorem w_M_tell_B34 {K : zK} (hk : zOk K kdM cX12_tell 4 (some .int) RX12 1) {k100 : Int → Int → zM → Option (Int × zM)} {rec : Int → Int → Int → zM → Option (Int × zM)} {x1 : Int} {x2 : Int} {x3 : Int} {m : zM} {o : Int × zM} (hk100 : ∀ (x1 : Int) (x2 : Int) (m : zM), zG kdM m → cI x1 → zok 4 x2 → k100 x1 x2 m = some o → GoAt K m [(0, .ref (kB K + 0)), (1, mI x1), (2, mI x2)] [] 100 (0, o.1, o.2)) (hrec : ∀ (x1 : Int) (x2 : Int) (x3 : Int) (m : zM), zG kdM m → cI x1 → zok 4 x2 → cI x3 → rec x1 x2 x3 m = some o → GoAt K m [(0, .ref (kB K + 0)), (1, mI x1), (2, mI x2), (3, mI x3)] [] 34 (0, o.1, o.2)) (hm : zG kdM m) (cx1 : cI x1) (zx2 : zok 4 x2) (cx3 : cI x3) (h : M_tell_B34 k100 rec x1 x2 x3 m = some o) : GoAt K m [(0, .ref (kB K + 0)), (1, mI x1), (2, mI x2), (3, mI x3)] [] 34 (0, o.1, o.2) := by
  unfold M_tell_B34 at h
  refine g_iload_n hk 3 rfl dX12_tell_34 ?_
  refine g_iload_n hk 1 rfl dX12_tell_35 ?_
  refine g_icmp_ge hk cx3 cx1 dX12_tell_36 h (fun b1 h => ?_) (fun b1 h => ?_)
  · refine g_iload_n hk 2 rfl dX12_tell_39 ?_
    refine g_if_eq hk (b01 zx2) dX12_tell_40 h (fun b2 h => ?_) (fun b2 h => ?_)
    · refine GoAt.sub [0, 1, 2] rfl ?_
      exact hk100 _ _ _ hm cx1 zx2 h
    · refine g_aload_n hk 0 rfl dX12_tell_43 ?_
      refine g_aload_n hk 0 rfl dX12_tell_44 ?_
      refine g_get2 hk fl_X12_7 rfl kdM_0 hm (b := 1) rfl dX12_tell_45 ?_
      refine g_iload_n hk 3 rfl dX12_tell_48 ?_
      refine g_iald hk cx3 kdM_1 hm dX12_tell_49 h (fun y3 cy3 h => ?_)
      obtain ⟨r4, e5, h⟩ := zbind h
      refine g_callVz hk (st := []) mf_X12_isGuest lk_X12_536 mv_X12_isGuest kdM_0 (by decide) rfl (Nat.le_of_ble_eq_true rfl) rfl dX12_tell_50 (met_M_isGuest _ _ _ _ _ hk.wd hm cy3 e5) (fun hm c6 => ?_)
      refine g_if_eq hk (b01 c6) dX12_tell_53 h (fun b7 h => ?_) (fun b7 h => ?_)
      · refine g_iconst hk (v := 0) rfl dX12_tell_92 ?_
        refine g_istore_n hk rfl (lv' := [(2, mI 0), (0, .ref (kB K + 0)), (1, mI x1), (3, mI x3)]) (Nat.le_of_ble_eq_true rfl) rfl dX12_tell_93 ?_
        refine g_iinc hk (lv' := [(3, mI (wI (x3 + 2))), (2, mI 0), (0, .ref (kB K + 0)), (1, mI x1)]) 3 rfl (Nat.le_of_ble_eq_true rfl) rfl dX12_tell_94 ?_
        refine g_goto hk dX12_tell_97 ?_
        refine GoAt.sub [2, 3, 1, 0] rfl ?_
        exact hrec _ _ _ _ hm cx1 z0 (wI_c _) h
      · refine g_aload_n hk 0 rfl dX12_tell_56 ?_
        refine g_aload_n hk 0 rfl dX12_tell_57 ?_
        refine g_get2 hk fl_X12_7 rfl kdM_0 hm (b := 1) rfl dX12_tell_58 ?_
        refine g_iload_n hk 3 rfl dX12_tell_61 ?_
        refine g_iconst hk (v := 1) rfl dX12_tell_62 ?_
        refine g_iadd hk dX12_tell_63 ?_
        refine g_iald hk (wI_c _) kdM_1 hm dX12_tell_64 h (fun y8 cy8 h => ?_)
        obtain ⟨r9, e10, h⟩ := zbind h
        refine g_callVz hk (st := []) mf_X12_isGuest lk_X12_536 mv_X12_isGuest kdM_0 (by decide) rfl (Nat.le_of_ble_eq_true rfl) rfl dX12_tell_65 (met_M_isGuest _ _ _ _ _ hk.wd hm cy8 e10) (fun hm c11 => ?_)
        refine g_if_eq hk (b01 c11) dX12_tell_68 h (fun b12 h => ?_) (fun b12 h => ?_)
        · refine g_iconst hk (v := 0) rfl dX12_tell_92 ?_
          refine g_istore_n hk rfl (lv' := [(2, mI 0), (0, .ref (kB K + 0)), (1, mI x1), (3, mI x3)]) (Nat.le_of_ble_eq_true rfl) rfl dX12_tell_93 ?_
          refine g_iinc hk (lv' := [(3, mI (wI (x3 + 2))), (2, mI 0), (0, .ref (kB K + 0)), (1, mI x1)]) 3 rfl (Nat.le_of_ble_eq_true rfl) rfl dX12_tell_94 ?_
          refine g_goto hk dX12_tell_97 ?_
          refine GoAt.sub [2, 3, 1, 0] rfl ?_
          exact hrec _ _ _ _ hm cx1 z0 (wI_c _) h
        · refine g_aload_n hk 0 rfl dX12_tell_71 ?_
          refine g_get2 hk fl_X12_7 rfl kdM_0 hm (b := 1) rfl dX12_tell_72 ?_
          refine g_iload_n hk 3 rfl dX12_tell_75 ?_
          refine g_iald hk cx3 kdM_1 hm dX12_tell_76 h (fun y13 cy13 h => ?_)
          refine g_aload_n hk 0 rfl dX12_tell_77 ?_
          refine g_get2 hk fl_X12_7 rfl kdM_0 hm (b := 1) rfl dX12_tell_78 ?_
          refine g_iload_n hk 3 rfl dX12_tell_81 ?_
          refine g_iconst hk (v := 1) rfl dX12_tell_82 ?_
          refine g_iadd hk dX12_tell_83 ?_
          refine g_iald hk (wI_c _) kdM_1 hm dX12_tell_84 h (fun y14 cy14 h => ?_)
          refine g_icmp_eq hk cy13 cy14 dX12_tell_85 h (fun b15 h => ?_) (fun b15 h => ?_)
          · refine g_iconst hk (v := 0) rfl dX12_tell_92 ?_
            refine g_istore_n hk rfl (lv' := [(2, mI 0), (0, .ref (kB K + 0)), (1, mI x1), (3, mI x3)]) (Nat.le_of_ble_eq_true rfl) rfl dX12_tell_93 ?_
            refine g_iinc hk (lv' := [(3, mI (wI (x3 + 2))), (2, mI 0), (0, .ref (kB K + 0)), (1, mI x1)]) 3 rfl (Nat.le_of_ble_eq_true rfl) rfl dX12_tell_94 ?_
            refine g_goto hk dX12_tell_97 ?_
            refine GoAt.sub [2, 3, 1, 0] rfl ?_
            exact hrec _ _ _ _ hm cx1 z0 (wI_c _) h
          · refine g_iconst hk (v := 1) rfl dX12_tell_88 ?_
            refine g_goto hk dX12_tell_89 ?_
            refine g_istore_n hk rfl (lv' := [(2, mI 1), (0, .ref (kB K + 0)), (1, mI x1), (3, mI x3)]) (Nat.le_of_ble_eq_true rfl) rfl dX12_tell_93 ?_
            refine g_iinc hk (lv' := [(3, mI (wI (x3 + 2))), (2, mI 1), (0, .ref (kB K + 0)), (1, mI x1)]) 3 rfl (Nat.le_of_ble_eq_true rfl) rfl dX12_tell_94 ?_
            refine g_goto hk dX12_tell_97 ?_
            refine GoAt.sub [2, 3, 1, 0] rfl ?_
            exact hrec _ _ _ _ hm cx1 z1 (wI_c _) h
  · refine GoAt.sub [0, 1, 2] rfl ?_
    exact hk100 _ _ _ hm cx1 zx2 h
theorem w_M_tell_L34 {K : zK} (hk : zOk K kdM cX12_tell 4 (some .int) RX12 1) {k100 : Int → Int → zM → Option (Int × zM)} {o : Int × zM} (hk100 : ∀ (x1 : Int) (x2 : Int) (m : zM), zG kdM m → cI x1 → zok 4 x2 → k100 x1 x2 m = some o → GoAt K m [(0, .ref (kB K + 0)), (1, mI x1), (2, mI x2)] [] 100 (0, o.1, o.2)) : ∀ (n : Nat) (x1 : Int) (x2 : Int) (x3 : Int) (m : zM), zG kdM m → cI x1 → zok 4 x2 → cI x3 → M_tell_L34 k100 n x1 x2 x3 m = some o → GoAt K m [(0, .ref (kB K + 0)), (1, mI x1), (2, mI x2), (3, mI x3)] [] 34 (0, o.1, o.2)
  | 0, x1, x2, x3, m, hm, cx1, zx2, cx3, h => by cases h
  | n + 1, x1, x2, x3, m, hm, cx1, zx2, cx3, h => w_M_tell_B34 hk hk100 (w_M_tell_L34 hk hk100 n) hm cx1 zx2 cx3 h
set_option maxRecDepth 100000 in
set_option maxHeartbeats 4000000 in
theorem w_M_tell_B119 {K : zK} (hk : zOk K kdM cX12_tell 4 (some .int) RX12 1) {rec : Int → zM → Option (Int × zM)} {x3 : Int} {m : zM} {o : Int × zM} (hrec : ∀ (x3 : Int) (m : zM), zG kdM m → cI x3 → rec x3 m = some o → GoAt K m [(0, .ref (kB K + 0)), (3, mI x3)] [] 119 (0, o.1, o.2)) (hm : zG kdM m) (cx3 : cI x3) (h : M_tell_B119 rec x3 m = some o) : GoAt K m [(0, .ref (kB K + 0)), (3, mI x3)] [] 119 (0, o.1, o.2) := by
  unfold M_tell_B119 at h
  refine g_iload_n hk 1 rfl dX12_tell_119 ?_
  refine g_aload_n hk 0 rfl dX12_tell_120 ?_
  have g1 := zGI (i := 65) hm kdM_0 rfl
  refine g_get0 hk fl_X12_210 rfl (j := 65) rfl kdM_0 dX12_tell_121 ?_
  refine g_icmp_ge hk cx3 g1 dX12_tell_124 h (fun b2 h => ?_) (fun b2 h => ?_)
  · refine g_aload_n hk 0 rfl dX12_tell_127 ?_
    refine g_get2 hk fl_X12_213 rfl kdM_0 hm (b := 43) rfl dX12_tell_128 ?_
    refine g_iload_n hk 1 rfl dX12_tell_131 ?_
    refine g_aload_n hk 0 rfl dX12_tell_132 ?_
    refine g_get2 hk fl_X12_7 rfl kdM_0 hm (b := 1) rfl dX12_tell_133 ?_
    refine g_iconst hk (v := 2) rfl dX12_tell_136 ?_
    refine g_iload_n hk 1 rfl dX12_tell_137 ?_
    refine g_imul hk dX12_tell_138 ?_
    refine g_iald hk (wI_c _) kdM_1 hm dX12_tell_139 h (fun y3 cy3 h => ?_)
    refine g_iast hk cx3 cy3 kdM_43 hm dX12_tell_140 h (fun m4 hm h => ?_)
    refine g_aload_n hk 0 rfl dX12_tell_141 ?_
    refine g_get2 hk fl_X12_216 rfl kdM_0 hm (b := 44) rfl dX12_tell_142 ?_
    refine g_iload_n hk 1 rfl dX12_tell_145 ?_
    refine g_aload_n hk 0 rfl dX12_tell_146 ?_
    refine g_get2 hk fl_X12_7 rfl kdM_0 hm (b := 1) rfl dX12_tell_147 ?_
    refine g_iconst hk (v := 2) rfl dX12_tell_150 ?_
    refine g_iload_n hk 1 rfl dX12_tell_151 ?_
    refine g_imul hk dX12_tell_152 ?_
    refine g_iconst hk (v := 1) rfl dX12_tell_153 ?_
    refine g_iadd hk dX12_tell_154 ?_
    refine g_iald hk (wI_c _) kdM_1 hm dX12_tell_155 h (fun y5 cy5 h => ?_)
    refine g_iast hk cx3 cy5 kdM_44 hm dX12_tell_156 h (fun m6 hm h => ?_)
    refine g_iinc hk (lv' := [(3, mI (wI (x3 + 1))), (0, .ref (kB K + 0))]) 1 rfl (Nat.le_of_ble_eq_true rfl) rfl dX12_tell_157 ?_
    refine g_goto hk dX12_tell_160 ?_
    refine GoAt.sub [1, 0] rfl ?_
    exact hrec _ _ hm (wI_c _) h
  · refine g_aload_n hk 0 rfl dX12_tell_163 ?_
    have g7 := zGI (i := 65) hm kdM_0 rfl
    refine g_get0 hk fl_X12_210 rfl (j := 65) rfl kdM_0 dX12_tell_164 ?_
    exact g_ireturn hk g7 dX12_tell_167 (by cases h; rfl)
theorem w_M_tell_L119 {K : zK} (hk : zOk K kdM cX12_tell 4 (some .int) RX12 1)  {o : Int × zM}  : ∀ (n : Nat) (x3 : Int) (m : zM), zG kdM m → cI x3 → M_tell_L119 n x3 m = some o → GoAt K m [(0, .ref (kB K + 0)), (3, mI x3)] [] 119 (0, o.1, o.2)
  | 0, x3, m, hm, cx3, h => by cases h
  | n + 1, x3, m, hm, cx3, h => w_M_tell_B119 hk  (w_M_tell_L119 hk  n) hm cx3 h
set_option maxRecDepth 100000 in
set_option maxHeartbeats 4000000 in
theorem w_M_tell_b100 {K : zK} (hk : zOk K kdM cX12_tell 4 (some .int) RX12 1)  {x1 : Int} {x2 : Int} {m : zM} {o : Int × zM}  (hm : zG kdM m) (cx1 : cI x1) (zx2 : zok 4 x2) (h : M_tell_b100 x1 x2 m = some o) : GoAt K m [(0, .ref (kB K + 0)), (1, mI x1), (2, mI x2)] [] 100 (0, o.1, o.2) := by
  unfold M_tell_b100 at h
  refine g_iload_n hk 2 rfl dX12_tell_100 ?_
  refine g_if_ne hk (b01 zx2) dX12_tell_101 h (fun b1 h => ?_) (fun b1 h => ?_)
  · refine g_aload_n hk 0 rfl dX12_tell_104 ?_
    refine g_iconst hk (v := 5) rfl dX12_tell_105 ?_
    obtain ⟨r2, e3, h⟩ := zbind h
    refine g_callVi hk (st := []) mf_X12_refuses lk_X12_250 mv_X12_refuses kdM_0 (by decide) rfl (Nat.le_of_ble_eq_true rfl) rfl dX12_tell_106 (met_M_refuses _ _ _ _ _ hk.wd hm (cIk rfl) e3) (fun hm c4 => ?_)
    exact g_ireturn hk c4 dX12_tell_109 (by cases h; rfl)
  · refine g_aload_n hk 0 rfl dX12_tell_110 ?_
    refine g_iload_n hk 1 rfl dX12_tell_111 ?_
    refine g_iconst hk (v := 2) rfl dX12_tell_112 ?_
    refine g_idiv hk (cIk rfl) (by decide) dX12_tell_113 ?_
    refine g_put0 hk fp_X12_210 rfl (j := 65) rfl kdM_0 (cI_t _) dX12_tell_114 h hm (fun m5 hm h => ?_)
    refine g_iconst hk (v := 0) rfl dX12_tell_117 ?_
    refine g_istore_n hk rfl (lv' := [(3, mI 0), (0, .ref (kB K + 0)), (1, mI x1), (2, mI x2)]) (Nat.le_of_ble_eq_true rfl) rfl dX12_tell_118 ?_
    refine GoAt.sub [1, 0] rfl ?_
    refine w_M_tell_L119 hk  1000000 _ _ hm (cIk rfl) h
set_option maxRecDepth 100000 in
set_option maxHeartbeats 4000000 in
theorem w_M_tell_b31 {K : zK} (hk : zOk K kdM cX12_tell 4 (some .int) RX12 1)  {x1 : Int} {s0 : Int} {m : zM} {o : Int × zM}  (hm : zG kdM m) (cx1 : cI x1) (zs0 : zok 4 s0) (h : M_tell_b31 x1 s0 m = some o) : GoAt K m [(0, .ref (kB K + 0)), (1, mI x1)] [mI s0] 31 (0, o.1, o.2) := by
  unfold M_tell_b31 at h
  refine g_istore_n hk rfl (lv' := [(2, mI s0), (0, .ref (kB K + 0)), (1, mI x1)]) (Nat.le_of_ble_eq_true rfl) rfl dX12_tell_31 ?_
  refine g_iconst hk (v := 0) rfl dX12_tell_32 ?_
  refine g_istore_n hk rfl (lv' := [(3, mI 0), (2, mI s0), (0, .ref (kB K + 0)), (1, mI x1)]) (Nat.le_of_ble_eq_true rfl) rfl dX12_tell_33 ?_
  refine GoAt.sub [2, 3, 1, 0] rfl ?_
  refine w_M_tell_L34 hk (fun x1_1 x2_1 m2 hm cx1_1 zx2_1 h => ?_) 1000000 _ _ _ _ hm cx1 zs0 (cIk rfl) h
  · exact w_M_tell_b100 hk hm cx1_1 zx2_1 h
set_option maxRecDepth 100000 in
set_option maxHeartbeats 4000000 in
theorem w_M_tell_b30 {K : zK} (hk : zOk K kdM cX12_tell 4 (some .int) RX12 1)  {x1 : Int} {m : zM} {o : Int × zM}  (hm : zG kdM m) (cx1 : cI x1) (h : M_tell_b30 x1 m = some o) : GoAt K m [(0, .ref (kB K + 0)), (1, mI x1)] [] 30 (0, o.1, o.2) := by
  unfold M_tell_b30 at h
  refine g_iconst hk (v := 0) rfl dX12_tell_30 ?_
  exact w_M_tell_b31 hk hm cx1 z0 h
set_option maxRecDepth 100000 in
set_option maxHeartbeats 4000000 in
theorem w_M_tell {K : zK} (hk : zOk K kdM cX12_tell 4 (some .int) RX12 1)  {m : zM} {o : Int × zM}  (hm : zG kdM m)  (h : M_tell m = some o) : GoAt K m [(0, .ref (kB K + 0))] [] 0 (0, o.1, o.2) := by
  unfold M_tell at h
  refine g_aload_n hk 0 rfl dX12_tell_0 ?_
  have g1 := zGI (i := 1) hm kdM_0 rfl
  refine g_get0 hk fl_X12_13 rfl (j := 1) rfl kdM_0 dX12_tell_1 ?_
  refine g_istore_n hk rfl (lv' := [(1, mI (m 0 1)), (0, .ref (kB K + 0))]) (Nat.le_of_ble_eq_true rfl) rfl dX12_tell_4 ?_
  refine g_aload_n hk 1 rfl dX12_tell_5 ?_
  refine g_iconst hk (v := 0) rfl dX12_tell_6 ?_
  refine g_put0 hk fp_X12_13 rfl (j := 1) rfl kdM_0 (cIk rfl) dX12_tell_7 h hm (fun m2 hm h => ?_)
  refine g_iload_n hk 0 rfl dX12_tell_10 ?_
  refine g_if_le hk g1 dX12_tell_11 h (fun b3 h => ?_) (fun b3 h => ?_)
  · refine g_iload_n hk 0 rfl dX12_tell_14 ?_
    refine g_iconst hk (v := 2) rfl dX12_tell_15 ?_
    refine g_irem hk (cIk rfl) (by decide) dX12_tell_16 ?_
    refine g_if_ne hk (cI_t _) dX12_tell_17 h (fun b4 h => ?_) (fun b4 h => ?_)
    · refine g_iload_n hk 0 rfl dX12_tell_20 ?_
      refine g_bipush hk (v := 32) rfl dX12_tell_21 ?_
      refine g_icmp_gt hk g1 (cIk rfl) dX12_tell_23 h (fun b5 h => ?_) (fun b5 h => ?_)
      · refine GoAt.sub [1, 0] rfl ?_
        exact w_M_tell_b30 hk hm g1 h
      · refine g_iconst hk (v := 1) rfl dX12_tell_26 ?_
        refine g_goto hk dX12_tell_27 ?_
        refine GoAt.sub [1, 0] rfl ?_
        exact w_M_tell_b31 hk hm g1 z1 h
    · refine GoAt.sub [1, 0] rfl ?_
      exact w_M_tell_b30 hk hm g1 h
  · refine GoAt.sub [1, 0] rfl ?_
    exact w_M_tell_b30 hk hm g1 h
theorem met_M_tell (l : Launch) (D : va_G) (aC : Nat → ClassId) (B N : Nat) (hwd : ∀ id, (kdM id).1 ≠ 9 → id < N) {m : zM} {o : Int × zM} (hm : zG kdM m)  (h : M_tell m = some o) : zMet l yX12_tell cX12_tell 4 (some .int) 1 D aC B kdM N [.ref (B + 0)] m (0, o.1, o.2) := by
  refine zMet.of mf_X12_tell hwd hm (Nat.le_of_ble_eq_true rfl) (fun K e1 e2 e3 e4 e5 hk => ?_)
  subst e4
  exact w_M_tell hk hm  h
set_option maxRecDepth 100000 in
set_option maxHeartbeats 4000000 in
theorem w_M_suitsBy_B5 {K : zK} (hk : zOk K kdM cX12_suitsBy 5 (some .int) RX12 1) {rec : Int → Int → Int → Int → Option (Int)} {x1 : Int} {x2 : Int} {x3 : Int} {x4 : Int} {m : zM} {o : Int} (hrec : ∀ (x1 : Int) (x2 : Int) (x3 : Int) (x4 : Int), cI x1 → cI x2 → cI x3 → cI x4 → rec x1 x2 x3 x4 = some o → GoAt K m [(0, .ref (kB K + 0)), (1, mI x1), (2, mI x2), (3, mI x3), (4, mI x4)] [] 5 (0, o, m)) (hm : zG kdM m) (cx1 : cI x1) (cx2 : cI x2) (cx3 : cI x3) (cx4 : cI x4) (h : M_suitsBy_B5 rec x1 x2 x3 x4 m = some o) : GoAt K m [(0, .ref (kB K + 0)), (1, mI x1), (2, mI x2), (3, mI x3), (4, mI x4)] [] 5 (0, o, m) := by
  unfold M_suitsBy_B5 at h
  refine g_iload hk 4 rfl dX12_suitsBy_5 ?_
  refine g_iconst hk (v := 3) rfl dX12_suitsBy_7 ?_
  refine g_icmp_ge hk cx4 (cIk rfl) dX12_suitsBy_8 h (fun b1 h => ?_) (fun b1 h => ?_)
  · refine g_iload_n hk 3 rfl dX12_suitsBy_11 ?_
    refine g_iload_n hk 1 rfl dX12_suitsBy_12 ?_
    refine g_iload hk 4 rfl dX12_suitsBy_13 ?_
    obtain ⟨r2, e3, h⟩ := zbind h
    refine g_callSi hk (st := [mI x3]) mf_X12_digit lk_X12_555 ms_X12_digit (by decide) rfl (Nat.le_of_ble_eq_true rfl) rfl dX12_suitsBy_15 (met_M_digit _ _ _ _ _ hk.wd hm cx1 cx4 e3) (fun hm c4 => ?_)
    refine g_aload_n hk 0 rfl dX12_suitsBy_18 ?_
    refine g_iconst hk (v := 0) rfl dX12_suitsBy_19 ?_
    refine g_iload_n hk 2 rfl dX12_suitsBy_20 ?_
    refine g_iload hk 4 rfl dX12_suitsBy_21 ?_
    obtain ⟨r5, e6, h⟩ := zbind h
    refine g_callVi hk (st := [mI r2, mI x3]) mf_X12_look lk_X12_471 mv_X12_look kdM_0 (by decide) rfl (Nat.le_of_ble_eq_true rfl) rfl dX12_suitsBy_23 (met_M_look _ _ _ _ _ hk.wd hm (cIk rfl) cx2 cx4 e6) (fun hm c7 => ?_)
    refine g_imul hk dX12_suitsBy_26 ?_
    refine g_iadd hk dX12_suitsBy_27 ?_
    refine g_let (wI_c _) h (fun v8 cv8 h => ?_)
    refine g_istore_n hk rfl (lv' := [(3, mI v8), (0, .ref (kB K + 0)), (1, mI x1), (2, mI x2), (4, mI x4)]) (Nat.le_of_ble_eq_true rfl) rfl dX12_suitsBy_28 ?_
    refine g_iinc hk (lv' := [(4, mI (wI (x4 + 1))), (3, mI v8), (0, .ref (kB K + 0)), (1, mI x1), (2, mI x2)]) 4 rfl (Nat.le_of_ble_eq_true rfl) rfl dX12_suitsBy_29 ?_
    refine g_goto hk dX12_suitsBy_32 ?_
    refine GoAt.sub [2, 3, 4, 1, 0] rfl ?_
    exact hrec _ _ _ _ cx1 cx2 cv8 (wI_c _) h
  · refine g_iload_n hk 3 rfl dX12_suitsBy_35 ?_
    exact g_ireturn hk cx3 dX12_suitsBy_36 (by cases h; rfl)
theorem w_M_suitsBy_L5 {K : zK} (hk : zOk K kdM cX12_suitsBy 5 (some .int) RX12 1)  {o : Int} {m : zM} (hm : zG kdM m)  : ∀ (n : Nat) (x1 : Int) (x2 : Int) (x3 : Int) (x4 : Int), cI x1 → cI x2 → cI x3 → cI x4 → M_suitsBy_L5 m n x1 x2 x3 x4 = some o → GoAt K m [(0, .ref (kB K + 0)), (1, mI x1), (2, mI x2), (3, mI x3), (4, mI x4)] [] 5 (0, o, m)
  | 0, x1, x2, x3, x4, cx1, cx2, cx3, cx4, h => by cases h
  | n + 1, x1, x2, x3, x4, cx1, cx2, cx3, cx4, h => w_M_suitsBy_B5 hk  (w_M_suitsBy_L5 hk hm  n) hm cx1 cx2 cx3 cx4 h
set_option maxRecDepth 100000 in
set_option maxHeartbeats 4000000 in
theorem w_M_suitsBy {K : zK} (hk : zOk K kdM cX12_suitsBy 5 (some .int) RX12 1)  {x1 : Int} {x2 : Int} {m : zM} {o : Int}  (hm : zG kdM m) (cx1 : cI x1) (cx2 : cI x2) (h : M_suitsBy x1 x2 m = some o) : GoAt K m [(0, .ref (kB K + 0)), (1, mI x1), (2, mI x2)] [] 0 (0, o, m) := by
  unfold M_suitsBy at h
  refine g_iconst hk (v := 0) rfl dX12_suitsBy_0 ?_
  refine g_istore_n hk rfl (lv' := [(3, mI 0), (0, .ref (kB K + 0)), (1, mI x1), (2, mI x2)]) (Nat.le_of_ble_eq_true rfl) rfl dX12_suitsBy_1 ?_
  refine g_iconst hk (v := 0) rfl dX12_suitsBy_2 ?_
  refine g_istore hk (lv' := [(4, mI 0), (3, mI 0), (0, .ref (kB K + 0)), (1, mI x1), (2, mI x2)]) (Nat.le_of_ble_eq_true rfl) rfl dX12_suitsBy_3 ?_
  refine GoAt.sub [2, 3, 4, 1, 0] rfl ?_
  refine w_M_suitsBy_L5 hk hm  1000000 _ _ _ _ cx1 cx2 (cIk rfl) (cIk rfl) h
theorem met_M_suitsBy (l : Launch) (D : va_G) (aC : Nat → ClassId) (B N : Nat) (hwd : ∀ id, (kdM id).1 ≠ 9 → id < N) {x1 : Int} {x2 : Int} {m : zM} {o : Int} (hm : zG kdM m) (cx1 : cI x1) (cx2 : cI x2) (h : M_suitsBy x1 x2 m = some o) : zMet l yX12_suitsBy cX12_suitsBy 5 (some .int) 1 D aC B kdM N [.ref (B + 0), mI x1, mI x2] m (0, o, m) := by
  refine zMet.of mf_X12_suitsBy hwd hm (Nat.le_of_ble_eq_true rfl) (fun K e1 e2 e3 e4 e5 hk => ?_)
  subst e4
  exact w_M_suitsBy hk hm cx1 cx2 h
set_option maxRecDepth 100000 in
set_option maxHeartbeats 4000000 in
theorem w_M_isTaste_B2 {K : zK} (hk : zOk K kdM cX12_isTaste 3 (some .boolean) RX12 2) {rec : Int → Int → Option (Int)} {x1 : Int} {x2 : Int} {m : zM} {o : Int} (hrec : ∀ (x1 : Int) (x2 : Int), cI x1 → cI x2 → rec x1 x2 = some o → GoAt K m [(0, .ref (kB K + 0)), (1, mI x1), (2, mI x2)] [] 2 (4, o, m)) (hm : zG kdM m) (cx1 : cI x1) (cx2 : cI x2) (h : M_isTaste_B2 rec x1 x2 m = some o) : GoAt K m [(0, .ref (kB K + 0)), (1, mI x1), (2, mI x2)] [] 2 (4, o, m) := by
  unfold M_isTaste_B2 at h
  refine g_iload_n hk 2 rfl dX12_isTaste_2 ?_
  refine g_aload_n hk 0 rfl dX12_isTaste_3 ?_
  have g1 := zGI (i := 65) hm kdM_0 rfl
  refine g_get0 hk fl_X12_210 rfl (j := 65) rfl kdM_0 dX12_isTaste_4 ?_
  refine g_icmp_ge hk cx2 g1 dX12_isTaste_7 h (fun b2 h => ?_) (fun b2 h => ?_)
  · refine g_aload_n hk 0 rfl dX12_isTaste_10 ?_
    refine g_iload_n hk 1 rfl dX12_isTaste_11 ?_
    refine g_aload_n hk 0 rfl dX12_isTaste_12 ?_
    refine g_get2 hk fl_X12_213 rfl kdM_0 hm (b := 43) rfl dX12_isTaste_13 ?_
    refine g_iload_n hk 2 rfl dX12_isTaste_16 ?_
    refine g_iald hk cx2 kdM_43 hm dX12_isTaste_17 h (fun y3 cy3 h => ?_)
    obtain ⟨r4, e5, h⟩ := zbind h
    refine g_callVi hk (st := []) mf_X12_suitsBy lk_X12_561 mv_X12_suitsBy kdM_0 (by decide) rfl (Nat.le_of_ble_eq_true rfl) rfl dX12_isTaste_18 (met_M_suitsBy _ _ _ _ _ hk.wd hm cx1 cy3 e5) (fun hm c6 => ?_)
    refine g_aload_n hk 0 rfl dX12_isTaste_21 ?_
    refine g_iload_n hk 1 rfl dX12_isTaste_22 ?_
    refine g_aload_n hk 0 rfl dX12_isTaste_23 ?_
    refine g_get2 hk fl_X12_216 rfl kdM_0 hm (b := 44) rfl dX12_isTaste_24 ?_
    refine g_iload_n hk 2 rfl dX12_isTaste_27 ?_
    refine g_iald hk cx2 kdM_44 hm dX12_isTaste_28 h (fun y7 cy7 h => ?_)
    obtain ⟨r8, e9, h⟩ := zbind h
    refine g_callVi hk (st := [mI r4]) mf_X12_suitsBy lk_X12_561 mv_X12_suitsBy kdM_0 (by decide) rfl (Nat.le_of_ble_eq_true rfl) rfl dX12_isTaste_29 (met_M_suitsBy _ _ _ _ _ hk.wd hm cx1 cy7 e9) (fun hm c10 => ?_)
    refine g_icmp_gt hk c6 c10 dX12_isTaste_32 h (fun b11 h => ?_) (fun b11 h => ?_)
    · refine g_iinc hk (lv' := [(2, mI (wI (x2 + 1))), (0, .ref (kB K + 0)), (1, mI x1)]) 2 rfl (Nat.le_of_ble_eq_true rfl) rfl dX12_isTaste_37 ?_
      refine g_goto hk dX12_isTaste_40 ?_
      refine GoAt.sub [1, 2, 0] rfl ?_
      exact hrec _ _ cx1 (wI_c _) h
    · refine g_iconst hk (v := 0) rfl dX12_isTaste_35 ?_
      exact g_zreturn hk z0 dX12_isTaste_36 (by cases h; rfl)
  · refine g_iconst hk (v := 1) rfl dX12_isTaste_43 ?_
    exact g_zreturn hk z1 dX12_isTaste_44 (by cases h; rfl)
theorem w_M_isTaste_L2 {K : zK} (hk : zOk K kdM cX12_isTaste 3 (some .boolean) RX12 2)  {o : Int} {m : zM} (hm : zG kdM m)  : ∀ (n : Nat) (x1 : Int) (x2 : Int), cI x1 → cI x2 → M_isTaste_L2 m n x1 x2 = some o → GoAt K m [(0, .ref (kB K + 0)), (1, mI x1), (2, mI x2)] [] 2 (4, o, m)
  | 0, x1, x2, cx1, cx2, h => by cases h
  | n + 1, x1, x2, cx1, cx2, h => w_M_isTaste_B2 hk  (w_M_isTaste_L2 hk hm  n) hm cx1 cx2 h
set_option maxRecDepth 100000 in
set_option maxHeartbeats 4000000 in
theorem w_M_isTaste {K : zK} (hk : zOk K kdM cX12_isTaste 3 (some .boolean) RX12 2)  {x1 : Int} {m : zM} {o : Int}  (hm : zG kdM m) (cx1 : cI x1) (h : M_isTaste x1 m = some o) : GoAt K m [(0, .ref (kB K + 0)), (1, mI x1)] [] 0 (4, o, m) := by
  unfold M_isTaste at h
  refine g_iconst hk (v := 0) rfl dX12_isTaste_0 ?_
  refine g_istore_n hk rfl (lv' := [(2, mI 0), (0, .ref (kB K + 0)), (1, mI x1)]) (Nat.le_of_ble_eq_true rfl) rfl dX12_isTaste_1 ?_
  refine GoAt.sub [1, 2, 0] rfl ?_
  refine w_M_isTaste_L2 hk hm  1000000 _ _ cx1 (cIk rfl) h
theorem met_M_isTaste (l : Launch) (D : va_G) (aC : Nat → ClassId) (B N : Nat) (hwd : ∀ id, (kdM id).1 ≠ 9 → id < N) {x1 : Int} {m : zM} {o : Int} (hm : zG kdM m) (cx1 : cI x1) (h : M_isTaste x1 m = some o) : zMet l yX12_isTaste cX12_isTaste 3 (some .boolean) 2 D aC B kdM N [.ref (B + 0), mI x1] m (4, o, m) := by
  refine zMet.of mf_X12_isTaste hwd hm (Nat.le_of_ble_eq_true rfl) (fun K e1 e2 e3 e4 e5 hk => ?_)
  subst e4
  exact w_M_isTaste hk hm cx1 h
set_option maxRecDepth 100000 in
set_option maxHeartbeats 4000000 in
theorem w_M_tastes_b78 {K : zK} (hk : zOk K kdM cX12_tastes 7 (some .int) RX12 3) {k104 : Int → Int → Int → Int → Option (Int)} {rec : Int → Int → Int → Int → Int → Option (Int)} {x1 : Int} {x2 : Int} {x4 : Int} {x5 : Int} {x6 : Int} {s0 : Int} {m : zM} {o : Int} (hk104 : ∀ (x1 : Int) (x2 : Int) (x3 : Int) (x4 : Int), cI x1 → cI x2 → cI x3 → cI x4 → k104 x1 x2 x3 x4 = some o → GoAt K m [(1, mI x1), (2, mI x2), (3, mI x3), (4, mI x4)] [] 104 (0, o, m)) (hrec : ∀ (x1 : Int) (x2 : Int) (x3 : Int) (x4 : Int) (x5 : Int), cI x1 → cI x2 → cI x3 → cI x4 → cI x5 → rec x1 x2 x3 x4 x5 = some o → GoAt K m [(0, .ref (kB K + 0)), (1, mI x1), (2, mI x2), (3, mI x3), (4, mI x4), (5, mI x5)] [] 22 (0, o, m)) (hm : zG kdM m) (cx1 : cI x1) (cx2 : cI x2) (cx4 : cI x4) (cx5 : cI x5) (cx6 : cI x6) (cs0 : cI s0) (h : M_tastes_b78 k104 rec x1 x2 x4 x5 x6 s0 m = some o) : GoAt K m [(0, .ref (kB K + 0)), (1, mI x1), (2, mI x2), (4, mI x4), (5, mI x5), (6, mI x6)] [mI s0] 78 (0, o, m) := by
  unfold M_tastes_b78 at h
  refine g_istore_n hk rfl (lv' := [(3, mI s0), (0, .ref (kB K + 0)), (1, mI x1), (2, mI x2), (4, mI x4), (5, mI x5), (6, mI x6)]) (Nat.le_of_ble_eq_true rfl) rfl dX12_tastes_78 ?_
  refine g_iload hk 6 rfl dX12_tastes_79 ?_
  refine g_iload hk 4 rfl dX12_tastes_81 ?_
  refine g_icmp_le hk cx6 cx4 dX12_tastes_83 h (fun b1 h => ?_) (fun b1 h => ?_)
  · refine g_iload hk 6 rfl dX12_tastes_86 ?_
    refine g_goto hk dX12_tastes_88 ?_
    refine g_istore hk (lv' := [(4, mI x6), (3, mI s0), (0, .ref (kB K + 0)), (1, mI x1), (2, mI x2), (5, mI x5), (6, mI x6)]) (Nat.le_of_ble_eq_true rfl) rfl dX12_tastes_93 ?_
    refine g_iinc hk (lv' := [(2, mI (wI (x2 + 1))), (4, mI x6), (3, mI s0), (0, .ref (kB K + 0)), (1, mI x1), (5, mI x5), (6, mI x6)]) 4 rfl (Nat.le_of_ble_eq_true rfl) rfl dX12_tastes_95 ?_
    refine g_iinc hk (lv' := [(5, mI (wI (x5 + 1))), (2, mI (wI (x2 + 1))), (4, mI x6), (3, mI s0), (0, .ref (kB K + 0)), (1, mI x1), (6, mI x6)]) 5 rfl (Nat.le_of_ble_eq_true rfl) rfl dX12_tastes_98 ?_
    refine g_goto hk dX12_tastes_101 ?_
    refine GoAt.sub [4, 5, 1, 3, 2, 0] rfl ?_
    exact hrec _ _ _ _ _ cx1 (wI_c _) cs0 cx6 (wI_c _) h
  · refine g_iload hk 4 rfl dX12_tastes_91 ?_
    refine g_istore hk (lv' := [(4, mI x4), (3, mI s0), (0, .ref (kB K + 0)), (1, mI x1), (2, mI x2), (5, mI x5), (6, mI x6)]) (Nat.le_of_ble_eq_true rfl) rfl dX12_tastes_93 ?_
    refine g_iinc hk (lv' := [(2, mI (wI (x2 + 1))), (4, mI x4), (3, mI s0), (0, .ref (kB K + 0)), (1, mI x1), (5, mI x5), (6, mI x6)]) 4 rfl (Nat.le_of_ble_eq_true rfl) rfl dX12_tastes_95 ?_
    refine g_iinc hk (lv' := [(5, mI (wI (x5 + 1))), (2, mI (wI (x2 + 1))), (4, mI x4), (3, mI s0), (0, .ref (kB K + 0)), (1, mI x1), (6, mI x6)]) 5 rfl (Nat.le_of_ble_eq_true rfl) rfl dX12_tastes_98 ?_
    refine g_goto hk dX12_tastes_101 ?_
    refine GoAt.sub [4, 5, 1, 3, 2, 0] rfl ?_
    exact hrec _ _ _ _ _ cx1 (wI_c _) cs0 cx4 (wI_c _) h
set_option maxRecDepth 100000 in
set_option maxHeartbeats 4000000 in
theorem w_M_tastes_b72 {K : zK} (hk : zOk K kdM cX12_tastes 7 (some .int) RX12 3) {k104 : Int → Int → Int → Int → Option (Int)} {rec : Int → Int → Int → Int → Int → Option (Int)} {x1 : Int} {x2 : Int} {x4 : Int} {x5 : Int} {x6 : Int} {m : zM} {o : Int} (hk104 : ∀ (x1 : Int) (x2 : Int) (x3 : Int) (x4 : Int), cI x1 → cI x2 → cI x3 → cI x4 → k104 x1 x2 x3 x4 = some o → GoAt K m [(1, mI x1), (2, mI x2), (3, mI x3), (4, mI x4)] [] 104 (0, o, m)) (hrec : ∀ (x1 : Int) (x2 : Int) (x3 : Int) (x4 : Int) (x5 : Int), cI x1 → cI x2 → cI x3 → cI x4 → cI x5 → rec x1 x2 x3 x4 x5 = some o → GoAt K m [(0, .ref (kB K + 0)), (1, mI x1), (2, mI x2), (3, mI x3), (4, mI x4), (5, mI x5)] [] 22 (0, o, m)) (hm : zG kdM m) (cx1 : cI x1) (cx2 : cI x2) (cx4 : cI x4) (cx5 : cI x5) (cx6 : cI x6) (h : M_tastes_b72 k104 rec x1 x2 x4 x5 x6 m = some o) : GoAt K m [(0, .ref (kB K + 0)), (1, mI x1), (2, mI x2), (4, mI x4), (5, mI x5), (6, mI x6)] [] 72 (0, o, m) := by
  unfold M_tastes_b72 at h
  refine g_iload hk 5 rfl dX12_tastes_72 ?_
  refine g_goto hk dX12_tastes_74 ?_
  exact w_M_tastes_b78 hk hk104 hrec hm cx1 cx2 cx4 cx5 cx6 cx6 h
set_option maxRecDepth 100000 in
set_option maxHeartbeats 4000000 in
theorem w_M_tastes_b60 {K : zK} (hk : zOk K kdM cX12_tastes 7 (some .int) RX12 3) {k104 : Int → Int → Int → Int → Option (Int)} {rec : Int → Int → Int → Int → Int → Option (Int)} {x1 : Int} {x2 : Int} {x3 : Int} {x4 : Int} {x5 : Int} {s0 : Int} {m : zM} {o : Int} (hk104 : ∀ (x1 : Int) (x2 : Int) (x3 : Int) (x4 : Int), cI x1 → cI x2 → cI x3 → cI x4 → k104 x1 x2 x3 x4 = some o → GoAt K m [(1, mI x1), (2, mI x2), (3, mI x3), (4, mI x4)] [] 104 (0, o, m)) (hrec : ∀ (x1 : Int) (x2 : Int) (x3 : Int) (x4 : Int) (x5 : Int), cI x1 → cI x2 → cI x3 → cI x4 → cI x5 → rec x1 x2 x3 x4 x5 = some o → GoAt K m [(0, .ref (kB K + 0)), (1, mI x1), (2, mI x2), (3, mI x3), (4, mI x4), (5, mI x5)] [] 22 (0, o, m)) (hm : zG kdM m) (cx1 : cI x1) (cx2 : cI x2) (cx3 : cI x3) (cx4 : cI x4) (cx5 : cI x5) (cs0 : cI s0) (h : M_tastes_b60 k104 rec x1 x2 x3 x4 x5 s0 m = some o) : GoAt K m [(0, .ref (kB K + 0)), (1, mI x1), (2, mI x2), (3, mI x3), (4, mI x4), (5, mI x5)] [mI s0] 60 (0, o, m) := by
  unfold M_tastes_b60 at h
  refine g_istore hk (lv' := [(6, mI s0), (0, .ref (kB K + 0)), (1, mI x1), (2, mI x2), (3, mI x3), (4, mI x4), (5, mI x5)]) (Nat.le_of_ble_eq_true rfl) rfl dX12_tastes_60 ?_
  refine g_iload_n hk 3 rfl dX12_tastes_62 ?_
  refine g_if_eq hk cx2 dX12_tastes_63 h (fun b1 h => ?_) (fun b1 h => ?_)
  · refine GoAt.sub [1, 2, 3, 5, 6, 0] rfl ?_
    exact w_M_tastes_b72 hk hk104 hrec hm cx1 cx2 cx4 cx5 cs0 h
  · refine g_iload hk 0 rfl dX12_tastes_66 ?_
    refine g_iload_n hk 4 rfl dX12_tastes_68 ?_
    refine g_icmp_ge hk cs0 cx3 dX12_tastes_69 h (fun b2 h => ?_) (fun b2 h => ?_)
    · refine GoAt.sub [1, 2, 3, 5, 6, 0] rfl ?_
      exact w_M_tastes_b72 hk hk104 hrec hm cx1 cx2 cx4 cx5 cs0 h
    · refine g_iload_n hk 4 rfl dX12_tastes_77 ?_
      refine GoAt.sub [1, 2, 3, 5, 6, 0] rfl ?_
      exact w_M_tastes_b78 hk hk104 hrec hm cx1 cx2 cx4 cx5 cs0 cx3 h
set_option maxRecDepth 100000 in
set_option maxHeartbeats 4000000 in
theorem w_M_tastes_B22 {K : zK} (hk : zOk K kdM cX12_tastes 7 (some .int) RX12 3) {k104 : Int → Int → Int → Int → Option (Int)} {rec : Int → Int → Int → Int → Int → Option (Int)} {x1 : Int} {x2 : Int} {x3 : Int} {x4 : Int} {x5 : Int} {m : zM} {o : Int} (hk104 : ∀ (x1 : Int) (x2 : Int) (x3 : Int) (x4 : Int), cI x1 → cI x2 → cI x3 → cI x4 → k104 x1 x2 x3 x4 = some o → GoAt K m [(1, mI x1), (2, mI x2), (3, mI x3), (4, mI x4)] [] 104 (0, o, m)) (hrec : ∀ (x1 : Int) (x2 : Int) (x3 : Int) (x4 : Int) (x5 : Int), cI x1 → cI x2 → cI x3 → cI x4 → cI x5 → rec x1 x2 x3 x4 x5 = some o → GoAt K m [(0, .ref (kB K + 0)), (1, mI x1), (2, mI x2), (3, mI x3), (4, mI x4), (5, mI x5)] [] 22 (0, o, m)) (hm : zG kdM m) (cx1 : cI x1) (cx2 : cI x2) (cx3 : cI x3) (cx4 : cI x4) (cx5 : cI x5) (h : M_tastes_B22 k104 rec x1 x2 x3 x4 x5 m = some o) : GoAt K m [(0, .ref (kB K + 0)), (1, mI x1), (2, mI x2), (3, mI x3), (4, mI x4), (5, mI x5)] [] 22 (0, o, m) := by
  unfold M_tastes_B22 at h
  refine g_iload hk 5 rfl dX12_tastes_22 ?_
  refine g_sipush hk (v := 1000) rfl dX12_tastes_24 ?_
  refine g_icmp_ge hk cx5 (cIk rfl) dX12_tastes_27 h (fun b1 h => ?_) (fun b1 h => ?_)
  · refine g_aload_n hk 0 rfl dX12_tastes_30 ?_
    refine g_iload hk 5 rfl dX12_tastes_31 ?_
    obtain ⟨r2, e3, h⟩ := zbind h
    refine g_callVz hk (st := []) mf_X12_isTaste lk_X12_564 mv_X12_isTaste kdM_0 (by decide) rfl (Nat.le_of_ble_eq_true rfl) rfl dX12_tastes_33 (met_M_isTaste _ _ _ _ _ hk.wd hm cx5 e3) (fun hm c4 => ?_)
    refine g_if_ne hk (b01 c4) dX12_tastes_36 h (fun b5 h => ?_) (fun b5 h => ?_)
    · refine g_goto hk dX12_tastes_39 ?_
      refine g_iinc hk (lv' := [(5, mI (wI (x5 + 1))), (0, .ref (kB K + 0)), (1, mI x1), (2, mI x2), (3, mI x3), (4, mI x4)]) 5 rfl (Nat.le_of_ble_eq_true rfl) rfl dX12_tastes_98 ?_
      refine g_goto hk dX12_tastes_101 ?_
      refine GoAt.sub [1, 2, 3, 4, 5, 0] rfl ?_
      exact hrec _ _ _ _ _ cx1 cx2 cx3 cx4 (wI_c _) h
    · refine g_iload_n hk 1 rfl dX12_tastes_42 ?_
      refine g_if_ne hk cx1 dX12_tastes_43 h (fun b6 h => ?_) (fun b6 h => ?_)
      · refine g_iconst hk (v := 0) rfl dX12_tastes_46 ?_
        refine g_goto hk dX12_tastes_47 ?_
        exact w_M_tastes_b60 hk hk104 hrec hm cx1 cx2 cx3 cx4 cx5 (cIk rfl) h
      · refine g_iload hk 5 rfl dX12_tastes_50 ?_
        refine g_iload_n hk 1 rfl dX12_tastes_52 ?_
        refine g_iconst hk (v := 1) rfl dX12_tastes_53 ?_
        refine g_isub hk dX12_tastes_54 ?_
        refine g_iconst hk (v := 3) rfl dX12_tastes_55 ?_
        refine g_irem hk (cIk rfl) (by decide) dX12_tastes_56 ?_
        obtain ⟨r7, e8, h⟩ := zbind h
        refine g_callSi hk (st := []) mf_X12_digit lk_X12_555 ms_X12_digit (by decide) rfl (Nat.le_of_ble_eq_true rfl) rfl dX12_tastes_57 (met_M_digit _ _ _ _ _ hk.wd hm cx5 (cI_t _) e8) (fun hm c9 => ?_)
        exact w_M_tastes_b60 hk hk104 hrec hm cx1 cx2 cx3 cx4 cx5 c9 h
  · refine GoAt.sub [1, 2, 3, 4] rfl ?_
    exact hk104 _ _ _ _ cx1 cx2 cx3 cx4 h
theorem w_M_tastes_L22 {K : zK} (hk : zOk K kdM cX12_tastes 7 (some .int) RX12 3) {k104 : Int → Int → Int → Int → Option (Int)} {o : Int} {m : zM} (hm : zG kdM m) (hk104 : ∀ (x1 : Int) (x2 : Int) (x3 : Int) (x4 : Int), cI x1 → cI x2 → cI x3 → cI x4 → k104 x1 x2 x3 x4 = some o → GoAt K m [(1, mI x1), (2, mI x2), (3, mI x3), (4, mI x4)] [] 104 (0, o, m)) : ∀ (n : Nat) (x1 : Int) (x2 : Int) (x3 : Int) (x4 : Int) (x5 : Int), cI x1 → cI x2 → cI x3 → cI x4 → cI x5 → M_tastes_L22 k104 m n x1 x2 x3 x4 x5 = some o → GoAt K m [(0, .ref (kB K + 0)), (1, mI x1), (2, mI x2), (3, mI x3), (4, mI x4), (5, mI x5)] [] 22 (0, o, m)
  | 0, x1, x2, x3, x4, x5, cx1, cx2, cx3, cx4, cx5, h => by cases h
  | n + 1, x1, x2, x3, x4, x5, cx1, cx2, cx3, cx4, cx5, h => w_M_tastes_B22 hk hk104 (w_M_tastes_L22 hk hm hk104 n) hm cx1 cx2 cx3 cx4 cx5 h
set_option maxRecDepth 100000 in
set_option maxHeartbeats 4000000 in
theorem w_M_tastes {K : zK} (hk : zOk K kdM cX12_tastes 7 (some .int) RX12 3)  {x1 : Int} {m : zM} {o : Int}  (hm : zG kdM m) (cx1 : cI x1) (h : M_tastes x1 m = some o) : GoAt K m [(0, .ref (kB K + 0)), (1, mI x1)] [] 0 (0, o, m) := by
  unfold M_tastes at h
  refine g_iload_n hk 1 rfl dX12_tastes_0 ?_
  refine g_iconst hk (v := 0) rfl dX12_tastes_1 ?_
  refine g_bipush hk (v := 6) rfl dX12_tastes_2 ?_
  obtain ⟨r1, e2, h⟩ := zbind h
  refine g_callSz hk (st := []) mf_X12_is lk_X12_345 ms_X12_is (by decide) rfl (Nat.le_of_ble_eq_true rfl) rfl dX12_tastes_4 (met_M_is _ _ _ _ _ hk.wd hm cx1 (cIk rfl) (cIk rfl) e2) (fun hm c3 => ?_)
  refine g_if_ne hk (b01 c3) dX12_tastes_7 h (fun b4 h => ?_) (fun b4 h => ?_)
  · refine g_iconst hk (v := (-1)) rfl dX12_tastes_10 ?_
    exact g_ireturn hk (cIk rfl) dX12_tastes_11 (by cases h; rfl)
  · refine g_iconst hk (v := 0) rfl dX12_tastes_12 ?_
    refine g_istore_n hk rfl (lv' := [(2, mI 0), (0, .ref (kB K + 0)), (1, mI x1)]) (Nat.le_of_ble_eq_true rfl) rfl dX12_tastes_13 ?_
    refine g_iconst hk (v := (-1)) rfl dX12_tastes_14 ?_
    refine g_istore_n hk rfl (lv' := [(3, mI ((-1))), (2, mI 0), (0, .ref (kB K + 0)), (1, mI x1)]) (Nat.le_of_ble_eq_true rfl) rfl dX12_tastes_15 ?_
    refine g_iconst hk (v := (-1)) rfl dX12_tastes_16 ?_
    refine g_istore hk (lv' := [(4, mI ((-1))), (3, mI ((-1))), (2, mI 0), (0, .ref (kB K + 0)), (1, mI x1)]) (Nat.le_of_ble_eq_true rfl) rfl dX12_tastes_17 ?_
    refine g_iconst hk (v := 0) rfl dX12_tastes_19 ?_
    refine g_istore hk (lv' := [(5, mI 0), (4, mI ((-1))), (3, mI ((-1))), (2, mI 0), (0, .ref (kB K + 0)), (1, mI x1)]) (Nat.le_of_ble_eq_true rfl) rfl dX12_tastes_20 ?_
    refine GoAt.sub [4, 5, 3, 2, 1, 0] rfl ?_
    refine w_M_tastes_L22 hk hm (fun x1_5 x2_5 x3_5 x4_5 cx1_5 cx2_5 cx3_5 cx4_5 h => ?_) 1000000 _ _ _ _ _ cx1 (cIk rfl) (cIk rfl) (cIk rfl) (cIk rfl) h
    · refine g_iload_n hk 0 rfl dX12_tastes_104 ?_
      refine g_if_ne hk cx1_5 dX12_tastes_105 h (fun b6 h => ?_) (fun b6 h => ?_)
      · refine g_iload_n hk 1 rfl dX12_tastes_108 ?_
        refine g_goto hk dX12_tastes_109 ?_
        exact g_ireturn hk cx2_5 dX12_tastes_123 (by cases h; rfl)
      · refine g_iload_n hk 0 rfl dX12_tastes_112 ?_
        refine g_iconst hk (v := 4) rfl dX12_tastes_113 ?_
        refine g_icmp_ge hk cx1_5 (cIk rfl) dX12_tastes_114 h (fun b7 h => ?_) (fun b7 h => ?_)
        · refine g_iload_n hk 2 rfl dX12_tastes_117 ?_
          refine g_goto hk dX12_tastes_118 ?_
          exact g_ireturn hk cx3_5 dX12_tastes_123 (by cases h; rfl)
        · refine g_iload hk 3 rfl dX12_tastes_121 ?_
          exact g_ireturn hk cx4_5 dX12_tastes_123 (by cases h; rfl)
theorem met_M_tastes (l : Launch) (D : va_G) (aC : Nat → ClassId) (B N : Nat) (hwd : ∀ id, (kdM id).1 ≠ 9 → id < N) {x1 : Int} {m : zM} {o : Int} (hm : zG kdM m) (cx1 : cI x1) (h : M_tastes x1 m = some o) : zMet l yX12_tastes cX12_tastes 7 (some .int) 3 D aC B kdM N [.ref (B + 0), mI x1] m (0, o, m) := by
  refine zMet.of mf_X12_tastes hwd hm (Nat.le_of_ble_eq_true rfl) (fun K e1 e2 e3 e4 e5 hk => ?_)
  subst e4
  exact w_M_tastes hk hm cx1 h
set_option maxRecDepth 100000 in
set_option maxHeartbeats 4000000 in
theorem w_M_send_B81 {K : zK} (hk : zOk K kdM cX12_send 9 (some .int) RX12 4) {k101 : Int → Int → Int → Int → Int → Int → zM → Option (Int × zM)} {rec : Int → Int → Int → Int → Int → Int → Int → zM → Option (Int × zM)} {x1 : Int} {x2 : Int} {x3 : Int} {x4 : Int} {x5 : Int} {x6 : Int} {x7 : Int} {m : zM} {o : Int × zM} (hk101 : ∀ (x1 : Int) (x2 : Int) (x3 : Int) (x4 : Int) (x5 : Int) (x6 : Int) (m : zM), zG kdM m → cI x1 → cI x2 → cI x3 → cI x4 → cI x5 → cI x6 → k101 x1 x2 x3 x4 x5 x6 m = some o → GoAt K m [(0, .ref (kB K + 0)), (1, mI x1), (2, mI x2), (3, mI x3), (4, mI x4), (5, mI x5), (6, mI x6)] [] 101 (0, o.1, o.2)) (hrec : ∀ (x1 : Int) (x2 : Int) (x3 : Int) (x4 : Int) (x5 : Int) (x6 : Int) (x7 : Int) (m : zM), zG kdM m → cI x1 → cI x2 → cI x3 → cI x4 → cI x5 → cI x6 → cI x7 → rec x1 x2 x3 x4 x5 x6 x7 m = some o → GoAt K m [(0, .ref (kB K + 0)), (1, mI x1), (2, mI x2), (3, mI x3), (4, mI x4), (5, mI x5), (6, mI x6), (7, mI x7)] [] 81 (0, o.1, o.2)) (hm : zG kdM m) (cx1 : cI x1) (cx2 : cI x2) (cx3 : cI x3) (cx4 : cI x4) (cx5 : cI x5) (cx6 : cI x6) (cx7 : cI x7) (h : M_send_B81 k101 rec x1 x2 x3 x4 x5 x6 x7 m = some o) : GoAt K m [(0, .ref (kB K + 0)), (1, mI x1), (2, mI x2), (3, mI x3), (4, mI x4), (5, mI x5), (6, mI x6), (7, mI x7)] [] 81 (0, o.1, o.2) := by
  unfold M_send_B81 at h
  refine g_iload hk 7 rfl dX12_send_81 ?_
  refine g_iconst hk (v := 3) rfl dX12_send_83 ?_
  refine g_icmp_ge hk cx7 (cIk rfl) dX12_send_84 h (fun b1 h => ?_) (fun b1 h => ?_)
  · refine g_aload_n hk 0 rfl dX12_send_87 ?_
    refine g_get2 hk fl_X12_219 rfl kdM_0 hm (b := 45) rfl dX12_send_88 ?_
    refine g_iload hk 7 rfl dX12_send_91 ?_
    refine g_iconst hk (v := 0) rfl dX12_send_93 ?_
    refine g_iast hk cx7 (cIk rfl) kdM_45 hm dX12_send_94 h (fun m2 hm h => ?_)
    refine g_iinc hk (lv' := [(7, mI (wI (x7 + 1))), (0, .ref (kB K + 0)), (1, mI x1), (2, mI x2), (3, mI x3), (4, mI x4), (5, mI x5), (6, mI x6)]) 7 rfl (Nat.le_of_ble_eq_true rfl) rfl dX12_send_95 ?_
    refine g_goto hk dX12_send_98 ?_
    refine GoAt.sub [1, 2, 3, 4, 5, 6, 7, 0] rfl ?_
    exact hrec _ _ _ _ _ _ _ _ hm cx1 cx2 cx3 cx4 cx5 cx6 (wI_c _) h
  · refine GoAt.sub [0, 1, 2, 3, 4, 5, 6] rfl ?_
    exact hk101 _ _ _ _ _ _ _ hm cx1 cx2 cx3 cx4 cx5 cx6 h
theorem w_M_send_L81 {K : zK} (hk : zOk K kdM cX12_send 9 (some .int) RX12 4) {k101 : Int → Int → Int → Int → Int → Int → zM → Option (Int × zM)} {o : Int × zM} (hk101 : ∀ (x1 : Int) (x2 : Int) (x3 : Int) (x4 : Int) (x5 : Int) (x6 : Int) (m : zM), zG kdM m → cI x1 → cI x2 → cI x3 → cI x4 → cI x5 → cI x6 → k101 x1 x2 x3 x4 x5 x6 m = some o → GoAt K m [(0, .ref (kB K + 0)), (1, mI x1), (2, mI x2), (3, mI x3), (4, mI x4), (5, mI x5), (6, mI x6)] [] 101 (0, o.1, o.2)) : ∀ (n : Nat) (x1 : Int) (x2 : Int) (x3 : Int) (x4 : Int) (x5 : Int) (x6 : Int) (x7 : Int) (m : zM), zG kdM m → cI x1 → cI x2 → cI x3 → cI x4 → cI x5 → cI x6 → cI x7 → M_send_L81 k101 n x1 x2 x3 x4 x5 x6 x7 m = some o → GoAt K m [(0, .ref (kB K + 0)), (1, mI x1), (2, mI x2), (3, mI x3), (4, mI x4), (5, mI x5), (6, mI x6), (7, mI x7)] [] 81 (0, o.1, o.2)
  | 0, x1, x2, x3, x4, x5, x6, x7, m, hm, cx1, cx2, cx3, cx4, cx5, cx6, cx7, h => by cases h
  | n + 1, x1, x2, x3, x4, x5, x6, x7, m, hm, cx1, cx2, cx3, cx4, cx5, cx6, cx7, h => w_M_send_B81 hk hk101 (w_M_send_L81 hk hk101 n) hm cx1 cx2 cx3 cx4 cx5 cx6 cx7 h
set_option maxRecDepth 100000 in
set_option maxHeartbeats 4000000 in
theorem w_M_send_B104 {K : zK} (hk : zOk K kdM cX12_send 9 (some .int) RX12 4) {k177 : Int → Int → Int → Int → Int → Int → zM → Option (Int × zM)} {rec : Int → Int → Int → Int → Int → Int → Int → zM → Option (Int × zM)} {x1 : Int} {x2 : Int} {x3 : Int} {x4 : Int} {x5 : Int} {x6 : Int} {x7 : Int} {m : zM} {o : Int × zM} (hk177 : ∀ (x1 : Int) (x2 : Int) (x3 : Int) (x4 : Int) (x5 : Int) (x6 : Int) (m : zM), zG kdM m → cI x1 → cI x2 → cI x3 → cI x4 → cI x5 → cI x6 → k177 x1 x2 x3 x4 x5 x6 m = some o → GoAt K m [(0, .ref (kB K + 0)), (1, mI x1), (2, mI x2), (3, mI x3), (4, mI x4), (5, mI x5), (6, mI x6)] [] 177 (0, o.1, o.2)) (hrec : ∀ (x1 : Int) (x2 : Int) (x3 : Int) (x4 : Int) (x5 : Int) (x6 : Int) (x7 : Int) (m : zM), zG kdM m → cI x1 → cI x2 → cI x3 → cI x4 → cI x5 → cI x6 → cI x7 → rec x1 x2 x3 x4 x5 x6 x7 m = some o → GoAt K m [(0, .ref (kB K + 0)), (1, mI x1), (2, mI x2), (3, mI x3), (4, mI x4), (5, mI x5), (6, mI x6), (7, mI x7)] [] 104 (0, o.1, o.2)) (hm : zG kdM m) (cx1 : cI x1) (cx2 : cI x2) (cx3 : cI x3) (cx4 : cI x4) (cx5 : cI x5) (cx6 : cI x6) (cx7 : cI x7) (h : M_send_B104 k177 rec x1 x2 x3 x4 x5 x6 x7 m = some o) : GoAt K m [(0, .ref (kB K + 0)), (1, mI x1), (2, mI x2), (3, mI x3), (4, mI x4), (5, mI x5), (6, mI x6), (7, mI x7)] [] 104 (0, o.1, o.2) := by
  unfold M_send_B104 at h
  refine g_iload hk 7 rfl dX12_send_104 ?_
  refine g_sipush hk (v := 1000) rfl dX12_send_106 ?_
  refine g_icmp_ge hk cx7 (cIk rfl) dX12_send_109 h (fun b1 h => ?_) (fun b1 h => ?_)
  · refine g_aload_n hk 0 rfl dX12_send_112 ?_
    refine g_iload hk 7 rfl dX12_send_113 ?_
    obtain ⟨r2, e3, h⟩ := zbind h
    refine g_callVz hk (st := []) mf_X12_isTaste lk_X12_564 mv_X12_isTaste kdM_0 (by decide) rfl (Nat.le_of_ble_eq_true rfl) rfl dX12_send_115 (met_M_isTaste _ _ _ _ _ hk.wd hm cx7 e3) (fun hm c4 => ?_)
    refine g_if_ne hk (b01 c4) dX12_send_118 h (fun b5 h => ?_) (fun b5 h => ?_)
    · refine g_goto hk dX12_send_121 ?_
      refine g_iinc hk (lv' := [(7, mI (wI (x7 + 1))), (0, .ref (kB K + 0)), (1, mI x1), (2, mI x2), (3, mI x3), (4, mI x4), (5, mI x5), (6, mI x6)]) 7 rfl (Nat.le_of_ble_eq_true rfl) rfl dX12_send_171 ?_
      refine g_goto hk dX12_send_174 ?_
      refine GoAt.sub [1, 2, 3, 4, 5, 6, 7, 0] rfl ?_
      exact hrec _ _ _ _ _ _ _ _ hm cx1 cx2 cx3 cx4 cx5 cx6 (wI_c _) h
    · refine g_aload_n hk 0 rfl dX12_send_124 ?_
      refine g_iload hk 7 rfl dX12_send_125 ?_
      refine g_iload hk 5 rfl dX12_send_127 ?_
      obtain ⟨r6, e7, h⟩ := zbind h
      refine g_callVi hk (st := []) mf_X12_suitsBy lk_X12_561 mv_X12_suitsBy kdM_0 (by decide) rfl (Nat.le_of_ble_eq_true rfl) rfl dX12_send_129 (met_M_suitsBy _ _ _ _ _ hk.wd hm cx7 cx5 e7) (fun hm c8 => ?_)
      refine g_aload_n hk 0 rfl dX12_send_132 ?_
      refine g_iload hk 7 rfl dX12_send_133 ?_
      refine g_iload hk 6 rfl dX12_send_135 ?_
      obtain ⟨r9, e10, h⟩ := zbind h
      refine g_callVi hk (st := [mI r6]) mf_X12_suitsBy lk_X12_561 mv_X12_suitsBy kdM_0 (by decide) rfl (Nat.le_of_ble_eq_true rfl) rfl dX12_send_137 (met_M_suitsBy _ _ _ _ _ hk.wd hm cx7 cx6 e10) (fun hm c11 => ?_)
      refine g_isub hk dX12_send_140 ?_
      refine g_let (wI_c _) h (fun v12 cv12 h => ?_)
      refine g_istore hk (lv' := [(8, mI v12), (0, .ref (kB K + 0)), (1, mI x1), (2, mI x2), (3, mI x3), (4, mI x4), (5, mI x5), (6, mI x6), (7, mI x7)]) (Nat.le_of_ble_eq_true rfl) rfl dX12_send_141 ?_
      refine g_aload_n hk 1 rfl dX12_send_143 ?_
      refine g_get2 hk fl_X12_219 rfl kdM_0 hm (b := 45) rfl dX12_send_144 ?_
      refine g_iload hk 0 rfl dX12_send_147 ?_
      refine g_if_le hk cv12 dX12_send_149 h (fun b13 h => ?_) (fun b13 h => ?_)
      · refine g_iconst hk (v := 0) rfl dX12_send_152 ?_
        refine g_goto hk dX12_send_153 ?_
        refine g_dup2 hk rfl rfl dX12_send_166 ?_
        refine g_iald hk (cIk rfl) kdM_45 hm dX12_send_167 h (fun y14 cy14 h => ?_)
        refine g_iconst hk (v := 1) rfl dX12_send_168 ?_
        refine g_iadd hk dX12_send_169 ?_
        refine g_iast hk (cIk rfl) (wI_c _) kdM_45 hm dX12_send_170 h (fun m15 hm h => ?_)
        refine g_iinc hk (lv' := [(7, mI (wI (x7 + 1))), (8, mI v12), (0, .ref (kB K + 0)), (1, mI x1), (2, mI x2), (3, mI x3), (4, mI x4), (5, mI x5), (6, mI x6)]) 8 rfl (Nat.le_of_ble_eq_true rfl) rfl dX12_send_171 ?_
        refine g_goto hk dX12_send_174 ?_
        refine GoAt.sub [2, 3, 4, 5, 6, 7, 8, 0] rfl ?_
        exact hrec _ _ _ _ _ _ _ _ hm cx1 cx2 cx3 cx4 cx5 cx6 (wI_c _) h
      · refine g_iload hk 0 rfl dX12_send_156 ?_
        refine g_if_ge hk cv12 dX12_send_158 h (fun b16 h => ?_) (fun b16 h => ?_)
        · refine g_iconst hk (v := 1) rfl dX12_send_161 ?_
          refine g_goto hk dX12_send_162 ?_
          refine g_dup2 hk rfl rfl dX12_send_166 ?_
          refine g_iald hk (cIk rfl) kdM_45 hm dX12_send_167 h (fun y17 cy17 h => ?_)
          refine g_iconst hk (v := 1) rfl dX12_send_168 ?_
          refine g_iadd hk dX12_send_169 ?_
          refine g_iast hk (cIk rfl) (wI_c _) kdM_45 hm dX12_send_170 h (fun m18 hm h => ?_)
          refine g_iinc hk (lv' := [(7, mI (wI (x7 + 1))), (8, mI v12), (0, .ref (kB K + 0)), (1, mI x1), (2, mI x2), (3, mI x3), (4, mI x4), (5, mI x5), (6, mI x6)]) 8 rfl (Nat.le_of_ble_eq_true rfl) rfl dX12_send_171 ?_
          refine g_goto hk dX12_send_174 ?_
          refine GoAt.sub [2, 3, 4, 5, 6, 7, 8, 0] rfl ?_
          exact hrec _ _ _ _ _ _ _ _ hm cx1 cx2 cx3 cx4 cx5 cx6 (wI_c _) h
        · refine g_iconst hk (v := 2) rfl dX12_send_165 ?_
          refine g_dup2 hk rfl rfl dX12_send_166 ?_
          refine g_iald hk (cIk rfl) kdM_45 hm dX12_send_167 h (fun y19 cy19 h => ?_)
          refine g_iconst hk (v := 1) rfl dX12_send_168 ?_
          refine g_iadd hk dX12_send_169 ?_
          refine g_iast hk (cIk rfl) (wI_c _) kdM_45 hm dX12_send_170 h (fun m20 hm h => ?_)
          refine g_iinc hk (lv' := [(7, mI (wI (x7 + 1))), (8, mI v12), (0, .ref (kB K + 0)), (1, mI x1), (2, mI x2), (3, mI x3), (4, mI x4), (5, mI x5), (6, mI x6)]) 8 rfl (Nat.le_of_ble_eq_true rfl) rfl dX12_send_171 ?_
          refine g_goto hk dX12_send_174 ?_
          refine GoAt.sub [2, 3, 4, 5, 6, 7, 8, 0] rfl ?_
          exact hrec _ _ _ _ _ _ _ _ hm cx1 cx2 cx3 cx4 cx5 cx6 (wI_c _) h
  · refine GoAt.sub [0, 1, 2, 3, 4, 5, 6] rfl ?_
    exact hk177 _ _ _ _ _ _ _ hm cx1 cx2 cx3 cx4 cx5 cx6 h
theorem w_M_send_L104 {K : zK} (hk : zOk K kdM cX12_send 9 (some .int) RX12 4) {k177 : Int → Int → Int → Int → Int → Int → zM → Option (Int × zM)} {o : Int × zM} (hk177 : ∀ (x1 : Int) (x2 : Int) (x3 : Int) (x4 : Int) (x5 : Int) (x6 : Int) (m : zM), zG kdM m → cI x1 → cI x2 → cI x3 → cI x4 → cI x5 → cI x6 → k177 x1 x2 x3 x4 x5 x6 m = some o → GoAt K m [(0, .ref (kB K + 0)), (1, mI x1), (2, mI x2), (3, mI x3), (4, mI x4), (5, mI x5), (6, mI x6)] [] 177 (0, o.1, o.2)) : ∀ (n : Nat) (x1 : Int) (x2 : Int) (x3 : Int) (x4 : Int) (x5 : Int) (x6 : Int) (x7 : Int) (m : zM), zG kdM m → cI x1 → cI x2 → cI x3 → cI x4 → cI x5 → cI x6 → cI x7 → M_send_L104 k177 n x1 x2 x3 x4 x5 x6 x7 m = some o → GoAt K m [(0, .ref (kB K + 0)), (1, mI x1), (2, mI x2), (3, mI x3), (4, mI x4), (5, mI x5), (6, mI x6), (7, mI x7)] [] 104 (0, o.1, o.2)
  | 0, x1, x2, x3, x4, x5, x6, x7, m, hm, cx1, cx2, cx3, cx4, cx5, cx6, cx7, h => by cases h
  | n + 1, x1, x2, x3, x4, x5, x6, x7, m, hm, cx1, cx2, cx3, cx4, cx5, cx6, cx7, h => w_M_send_B104 hk hk177 (w_M_send_L104 hk hk177 n) hm cx1 cx2 cx3 cx4 cx5 cx6 cx7 h
set_option maxRecDepth 100000 in
set_option maxHeartbeats 4000000 in
theorem w_M_send_b231 {K : zK} (hk : zOk K kdM cX12_send 9 (some .int) RX12 4) {k258 : Int → Int → Int → Int → Int → zM → Option (Int × zM)} {rec : Int → Int → Int → Int → Int → Int → zM → Option (Int × zM)} {x1 : Int} {x2 : Int} {x3 : Int} {x4 : Int} {x5 : Int} {x6 : Int} {s0 : Int} {m : zM} {o : Int × zM} (hk258 : ∀ (x1 : Int) (x2 : Int) (x3 : Int) (x4 : Int) (x5 : Int) (m : zM), zG kdM m → cI x1 → cI x2 → cI x3 → cI x4 → cI x5 → k258 x1 x2 x3 x4 x5 m = some o → GoAt K m [(0, .ref (kB K + 0)), (1, mI x1), (2, mI x2), (3, mI x3), (4, mI x4), (5, mI x5)] [] 258 (0, o.1, o.2)) (hrec : ∀ (x1 : Int) (x2 : Int) (x3 : Int) (x4 : Int) (x5 : Int) (x6 : Int) (m : zM), zG kdM m → cI x1 → cI x2 → cI x3 → cI x4 → cI x5 → cI x6 → rec x1 x2 x3 x4 x5 x6 m = some o → GoAt K m [(0, .ref (kB K + 0)), (1, mI x1), (2, mI x2), (3, mI x3), (4, mI x4), (5, mI x5), (6, mI x6)] [] 64 (0, o.1, o.2)) (hm : zG kdM m) (cx1 : cI x1) (cx2 : cI x2) (cx3 : cI x3) (cx4 : cI x4) (cx5 : cI x5) (cx6 : cI x6) (cs0 : cI s0) (h : M_send_b231 k258 rec x1 x2 x3 x4 x5 x6 s0 m = some o) : GoAt K m [(0, .ref (kB K + 0)), (1, mI x1), (2, mI x2), (3, mI x3), (4, mI x4), (5, mI x5), (6, mI x6)] [mI s0] 231 (0, o.1, o.2) := by
  unfold M_send_b231 at h
  refine g_istore hk (lv' := [(7, mI s0), (0, .ref (kB K + 0)), (1, mI x1), (2, mI x2), (3, mI x3), (4, mI x4), (5, mI x5), (6, mI x6)]) (Nat.le_of_ble_eq_true rfl) rfl dX12_send_231 ?_
  refine g_iload hk 0 rfl dX12_send_233 ?_
  refine g_iload_n hk 3 rfl dX12_send_235 ?_
  refine g_icmp_lt hk cs0 cx2 dX12_send_236 h (fun b1 h => ?_) (fun b1 h => ?_)
  · refine g_iload hk 0 rfl dX12_send_242 ?_
    refine g_istore_n hk rfl (lv' := [(2, mI s0), (7, mI s0), (0, .ref (kB K + 0)), (1, mI x1), (3, mI x3), (4, mI x4), (5, mI x5), (6, mI x6)]) (Nat.le_of_ble_eq_true rfl) rfl dX12_send_244 ?_
    refine g_iload hk 6 rfl dX12_send_245 ?_
    refine g_istore_n hk rfl (lv' := [(3, mI x5), (2, mI s0), (7, mI s0), (0, .ref (kB K + 0)), (1, mI x1), (4, mI x4), (5, mI x5), (6, mI x6)]) (Nat.le_of_ble_eq_true rfl) rfl dX12_send_247 ?_
    refine g_iload hk 7 rfl dX12_send_248 ?_
    refine g_istore hk (lv' := [(4, mI x6), (3, mI x5), (2, mI s0), (7, mI s0), (0, .ref (kB K + 0)), (1, mI x1), (5, mI x5), (6, mI x6)]) (Nat.le_of_ble_eq_true rfl) rfl dX12_send_250 ?_
    refine g_iinc hk (lv' := [(6, mI (wI (x6 + 1))), (4, mI x6), (3, mI x5), (2, mI s0), (7, mI s0), (0, .ref (kB K + 0)), (1, mI x1), (5, mI x5)]) 7 rfl (Nat.le_of_ble_eq_true rfl) rfl dX12_send_252 ?_
    refine g_goto hk dX12_send_255 ?_
    refine GoAt.sub [5, 6, 3, 2, 1, 7, 0] rfl ?_
    exact hrec _ _ _ _ _ _ _ hm cx1 cs0 cx5 cx6 cx5 (wI_c _) h
  · refine g_goto hk dX12_send_239 ?_
    refine g_iinc hk (lv' := [(6, mI (wI (x6 + 1))), (7, mI s0), (0, .ref (kB K + 0)), (1, mI x1), (2, mI x2), (3, mI x3), (4, mI x4), (5, mI x5)]) 7 rfl (Nat.le_of_ble_eq_true rfl) rfl dX12_send_252 ?_
    refine g_goto hk dX12_send_255 ?_
    refine GoAt.sub [2, 3, 4, 5, 6, 7, 0] rfl ?_
    exact hrec _ _ _ _ _ _ _ hm cx1 cx2 cx3 cx4 cx5 (wI_c _) h
set_option maxRecDepth 100000 in
set_option maxHeartbeats 4000000 in
theorem w_M_send_b207 {K : zK} (hk : zOk K kdM cX12_send 9 (some .int) RX12 4) {k258 : Int → Int → Int → Int → Int → zM → Option (Int × zM)} {rec : Int → Int → Int → Int → Int → Int → zM → Option (Int × zM)} {x1 : Int} {x2 : Int} {x3 : Int} {x4 : Int} {x5 : Int} {x6 : Int} {s0 : Int} {m : zM} {o : Int × zM} (hk258 : ∀ (x1 : Int) (x2 : Int) (x3 : Int) (x4 : Int) (x5 : Int) (m : zM), zG kdM m → cI x1 → cI x2 → cI x3 → cI x4 → cI x5 → k258 x1 x2 x3 x4 x5 m = some o → GoAt K m [(0, .ref (kB K + 0)), (1, mI x1), (2, mI x2), (3, mI x3), (4, mI x4), (5, mI x5)] [] 258 (0, o.1, o.2)) (hrec : ∀ (x1 : Int) (x2 : Int) (x3 : Int) (x4 : Int) (x5 : Int) (x6 : Int) (m : zM), zG kdM m → cI x1 → cI x2 → cI x3 → cI x4 → cI x5 → cI x6 → rec x1 x2 x3 x4 x5 x6 m = some o → GoAt K m [(0, .ref (kB K + 0)), (1, mI x1), (2, mI x2), (3, mI x3), (4, mI x4), (5, mI x5), (6, mI x6)] [] 64 (0, o.1, o.2)) (hm : zG kdM m) (cx1 : cI x1) (cx2 : cI x2) (cx3 : cI x3) (cx4 : cI x4) (cx5 : cI x5) (cx6 : cI x6) (cs0 : cI s0) (h : M_send_b207 k258 rec x1 x2 x3 x4 x5 x6 s0 m = some o) : GoAt K m [(0, .ref (kB K + 0)), (1, mI x1), (2, mI x2), (3, mI x3), (4, mI x4), (5, mI x5), (6, mI x6)] [mI s0] 207 (0, o.1, o.2) := by
  unfold M_send_b207 at h
  refine g_istore hk (lv' := [(7, mI s0), (0, .ref (kB K + 0)), (1, mI x1), (2, mI x2), (3, mI x3), (4, mI x4), (5, mI x5), (6, mI x6)]) (Nat.le_of_ble_eq_true rfl) rfl dX12_send_207 ?_
  refine g_aload_n hk 1 rfl dX12_send_209 ?_
  refine g_get2 hk fl_X12_219 rfl kdM_0 hm (b := 45) rfl dX12_send_210 ?_
  refine g_iconst hk (v := 2) rfl dX12_send_213 ?_
  refine g_iald hk (cIk rfl) kdM_45 hm dX12_send_214 h (fun y1 cy1 h => ?_)
  refine g_iload hk 0 rfl dX12_send_215 ?_
  refine g_icmp_le hk cy1 cs0 dX12_send_217 h (fun b2 h => ?_) (fun b2 h => ?_)
  · refine g_aload_n hk 1 rfl dX12_send_220 ?_
    refine g_get2 hk fl_X12_219 rfl kdM_0 hm (b := 45) rfl dX12_send_221 ?_
    refine g_iconst hk (v := 2) rfl dX12_send_224 ?_
    refine g_iald hk (cIk rfl) kdM_45 hm dX12_send_225 h (fun y3 cy3 h => ?_)
    refine g_goto hk dX12_send_226 ?_
    refine GoAt.sub [1, 2, 3, 4, 5, 6, 7] rfl ?_
    exact w_M_send_b231 hk hk258 hrec hm cx1 cx2 cx3 cx4 cx5 cx6 cy3 h
  · refine g_iload hk 0 rfl dX12_send_229 ?_
    refine GoAt.sub [1, 2, 3, 4, 5, 6, 7] rfl ?_
    exact w_M_send_b231 hk hk258 hrec hm cx1 cx2 cx3 cx4 cx5 cx6 cs0 h
set_option maxRecDepth 100000 in
set_option maxHeartbeats 4000000 in
theorem w_M_send_B64 {K : zK} (hk : zOk K kdM cX12_send 9 (some .int) RX12 4) {k258 : Int → Int → Int → Int → Int → zM → Option (Int × zM)} {rec : Int → Int → Int → Int → Int → Int → zM → Option (Int × zM)} {x1 : Int} {x2 : Int} {x3 : Int} {x4 : Int} {x5 : Int} {x6 : Int} {m : zM} {o : Int × zM} (hk258 : ∀ (x1 : Int) (x2 : Int) (x3 : Int) (x4 : Int) (x5 : Int) (m : zM), zG kdM m → cI x1 → cI x2 → cI x3 → cI x4 → cI x5 → k258 x1 x2 x3 x4 x5 m = some o → GoAt K m [(0, .ref (kB K + 0)), (1, mI x1), (2, mI x2), (3, mI x3), (4, mI x4), (5, mI x5)] [] 258 (0, o.1, o.2)) (hrec : ∀ (x1 : Int) (x2 : Int) (x3 : Int) (x4 : Int) (x5 : Int) (x6 : Int) (m : zM), zG kdM m → cI x1 → cI x2 → cI x3 → cI x4 → cI x5 → cI x6 → rec x1 x2 x3 x4 x5 x6 m = some o → GoAt K m [(0, .ref (kB K + 0)), (1, mI x1), (2, mI x2), (3, mI x3), (4, mI x4), (5, mI x5), (6, mI x6)] [] 64 (0, o.1, o.2)) (hm : zG kdM m) (cx1 : cI x1) (cx2 : cI x2) (cx3 : cI x3) (cx4 : cI x4) (cx5 : cI x5) (cx6 : cI x6) (h : M_send_B64 k258 rec x1 x2 x3 x4 x5 x6 m = some o) : GoAt K m [(0, .ref (kB K + 0)), (1, mI x1), (2, mI x2), (3, mI x3), (4, mI x4), (5, mI x5), (6, mI x6)] [] 64 (0, o.1, o.2) := by
  unfold M_send_B64 at h
  refine g_iload hk 6 rfl dX12_send_64 ?_
  refine g_aload_n hk 0 rfl dX12_send_66 ?_
  refine g_get2 hk fl_X12_69 rfl kdM_0 hm (b := 7) rfl dX12_send_67 ?_
  refine g_aload_n hk 0 rfl dX12_send_70 ?_
  have g1 := zGI (i := 13) hm kdM_0 rfl
  refine g_get0 hk fl_X12_51 rfl (j := 13) rfl kdM_0 dX12_send_71 ?_
  refine g_iald hk g1 kdM_7 hm dX12_send_74 h (fun y2 cy2 h => ?_)
  refine g_icmp_ge hk cx6 cy2 dX12_send_75 h (fun b3 h => ?_) (fun b3 h => ?_)
  · refine g_iconst hk (v := 0) rfl dX12_send_78 ?_
    refine g_istore hk (lv' := [(7, mI 0), (0, .ref (kB K + 0)), (1, mI x1), (2, mI x2), (3, mI x3), (4, mI x4), (5, mI x5), (6, mI x6)]) (Nat.le_of_ble_eq_true rfl) rfl dX12_send_79 ?_
    refine GoAt.sub [1, 2, 3, 4, 5, 6, 7, 0] rfl ?_
    refine w_M_send_L81 hk (fun x1_4 x2_4 x3_4 x4_4 x5_4 x6_4 m5 hm cx1_4 cx2_4 cx3_4 cx4_4 cx5_4 cx6_4 h => ?_) 1000000 _ _ _ _ _ _ _ _ hm cx1 cx2 cx3 cx4 cx5 cx6 (cIk rfl) h
    · refine g_iconst hk (v := 0) rfl dX12_send_101 ?_
      refine g_istore hk (lv' := [(7, mI 0), (0, .ref (kB K + 0)), (1, mI x1_4), (2, mI x2_4), (3, mI x3_4), (4, mI x4_4), (5, mI x5_4), (6, mI x6_4)]) (Nat.le_of_ble_eq_true rfl) rfl dX12_send_102 ?_
      refine GoAt.sub [1, 2, 3, 4, 5, 6, 7, 0] rfl ?_
      refine w_M_send_L104 hk (fun x1_6 x2_6 x3_6 x4_6 x5_6 x6_6 m7 hm cx1_6 cx2_6 cx3_6 cx4_6 cx5_6 cx6_6 h => ?_) 1000000 _ _ _ _ _ _ _ _ hm cx1_4 cx2_4 cx3_4 cx4_4 cx5_4 cx6_4 (cIk rfl) h
      · refine g_aload_n hk 0 rfl dX12_send_177 ?_
        refine g_get2 hk fl_X12_219 rfl kdM_0 hm (b := 45) rfl dX12_send_178 ?_
        refine g_iconst hk (v := 0) rfl dX12_send_181 ?_
        refine g_iald hk (cIk rfl) kdM_45 hm dX12_send_182 h (fun y8 cy8 h => ?_)
        refine g_aload_n hk 0 rfl dX12_send_183 ?_
        refine g_get2 hk fl_X12_219 rfl kdM_0 hm (b := 45) rfl dX12_send_184 ?_
        refine g_iconst hk (v := 1) rfl dX12_send_187 ?_
        refine g_iald hk (cIk rfl) kdM_45 hm dX12_send_188 h (fun y9 cy9 h => ?_)
        refine g_icmp_le hk cy8 cy9 dX12_send_189 h (fun b10 h => ?_) (fun b10 h => ?_)
        · refine g_aload_n hk 0 rfl dX12_send_192 ?_
          refine g_get2 hk fl_X12_219 rfl kdM_0 hm (b := 45) rfl dX12_send_193 ?_
          refine g_iconst hk (v := 0) rfl dX12_send_196 ?_
          refine g_iald hk (cIk rfl) kdM_45 hm dX12_send_197 h (fun y11 cy11 h => ?_)
          refine g_goto hk dX12_send_198 ?_
          exact w_M_send_b207 hk hk258 hrec hm cx1_6 cx2_6 cx3_6 cx4_6 cx5_6 cx6_6 cy11 h
        · refine g_aload_n hk 0 rfl dX12_send_201 ?_
          refine g_get2 hk fl_X12_219 rfl kdM_0 hm (b := 45) rfl dX12_send_202 ?_
          refine g_iconst hk (v := 1) rfl dX12_send_205 ?_
          refine g_iald hk (cIk rfl) kdM_45 hm dX12_send_206 h (fun y12 cy12 h => ?_)
          exact w_M_send_b207 hk hk258 hrec hm cx1_6 cx2_6 cx3_6 cx4_6 cx5_6 cx6_6 cy12 h
  · refine GoAt.sub [0, 1, 2, 3, 4, 5] rfl ?_
    exact hk258 _ _ _ _ _ _ hm cx1 cx2 cx3 cx4 cx5 h
theorem w_M_send_L64 {K : zK} (hk : zOk K kdM cX12_send 9 (some .int) RX12 4) {k258 : Int → Int → Int → Int → Int → zM → Option (Int × zM)} {o : Int × zM} (hk258 : ∀ (x1 : Int) (x2 : Int) (x3 : Int) (x4 : Int) (x5 : Int) (m : zM), zG kdM m → cI x1 → cI x2 → cI x3 → cI x4 → cI x5 → k258 x1 x2 x3 x4 x5 m = some o → GoAt K m [(0, .ref (kB K + 0)), (1, mI x1), (2, mI x2), (3, mI x3), (4, mI x4), (5, mI x5)] [] 258 (0, o.1, o.2)) : ∀ (n : Nat) (x1 : Int) (x2 : Int) (x3 : Int) (x4 : Int) (x5 : Int) (x6 : Int) (m : zM), zG kdM m → cI x1 → cI x2 → cI x3 → cI x4 → cI x5 → cI x6 → M_send_L64 k258 n x1 x2 x3 x4 x5 x6 m = some o → GoAt K m [(0, .ref (kB K + 0)), (1, mI x1), (2, mI x2), (3, mI x3), (4, mI x4), (5, mI x5), (6, mI x6)] [] 64 (0, o.1, o.2)
  | 0, x1, x2, x3, x4, x5, x6, m, hm, cx1, cx2, cx3, cx4, cx5, cx6, h => by cases h
  | n + 1, x1, x2, x3, x4, x5, x6, m, hm, cx1, cx2, cx3, cx4, cx5, cx6, h => w_M_send_B64 hk hk258 (w_M_send_L64 hk hk258 n) hm cx1 cx2 cx3 cx4 cx5 cx6 h
set_option maxRecDepth 100000 in
set_option maxHeartbeats 4000000 in
theorem w_M_send_B44 {K : zK} (hk : zOk K kdM cX12_send 9 (some .int) RX12 4) {k264 : Int → Int → Int → Int → zM → Option (Int × zM)} {rec : Int → Int → Int → Int → Int → zM → Option (Int × zM)} {x1 : Int} {x2 : Int} {x3 : Int} {x4 : Int} {x5 : Int} {m : zM} {o : Int × zM} (hk264 : ∀ (x1 : Int) (x2 : Int) (x3 : Int) (x4 : Int) (m : zM), zG kdM m → cI x1 → cI x2 → cI x3 → cI x4 → k264 x1 x2 x3 x4 m = some o → GoAt K m [(1, mI x1), (2, mI x2), (3, mI x3), (4, mI x4)] [] 264 (0, o.1, o.2)) (hrec : ∀ (x1 : Int) (x2 : Int) (x3 : Int) (x4 : Int) (x5 : Int) (m : zM), zG kdM m → cI x1 → cI x2 → cI x3 → cI x4 → cI x5 → rec x1 x2 x3 x4 x5 m = some o → GoAt K m [(0, .ref (kB K + 0)), (1, mI x1), (2, mI x2), (3, mI x3), (4, mI x4), (5, mI x5)] [] 44 (0, o.1, o.2)) (hm : zG kdM m) (cx1 : cI x1) (cx2 : cI x2) (cx3 : cI x3) (cx4 : cI x4) (cx5 : cI x5) (h : M_send_B44 k264 rec x1 x2 x3 x4 x5 m = some o) : GoAt K m [(0, .ref (kB K + 0)), (1, mI x1), (2, mI x2), (3, mI x3), (4, mI x4), (5, mI x5)] [] 44 (0, o.1, o.2) := by
  unfold M_send_B44 at h
  refine g_iload hk 5 rfl dX12_send_44 ?_
  refine g_aload_n hk 0 rfl dX12_send_46 ?_
  refine g_get2 hk fl_X12_69 rfl kdM_0 hm (b := 7) rfl dX12_send_47 ?_
  refine g_aload_n hk 0 rfl dX12_send_50 ?_
  have g1 := zGI (i := 13) hm kdM_0 rfl
  refine g_get0 hk fl_X12_51 rfl (j := 13) rfl kdM_0 dX12_send_51 ?_
  refine g_iald hk g1 kdM_7 hm dX12_send_54 h (fun y2 cy2 h => ?_)
  refine g_icmp_ge hk cx5 cy2 dX12_send_55 h (fun b3 h => ?_) (fun b3 h => ?_)
  · refine g_iload hk 5 rfl dX12_send_58 ?_
    refine g_iconst hk (v := 1) rfl dX12_send_60 ?_
    refine g_iadd hk dX12_send_61 ?_
    refine g_let (wI_c _) h (fun v4 cv4 h => ?_)
    refine g_istore hk (lv' := [(6, mI v4), (0, .ref (kB K + 0)), (1, mI x1), (2, mI x2), (3, mI x3), (4, mI x4), (5, mI x5)]) (Nat.le_of_ble_eq_true rfl) rfl dX12_send_62 ?_
    refine GoAt.sub [1, 2, 3, 4, 5, 6, 0] rfl ?_
    refine w_M_send_L64 hk (fun x1_5 x2_5 x3_5 x4_5 x5_5 m6 hm cx1_5 cx2_5 cx3_5 cx4_5 cx5_5 h => ?_) 1000000 _ _ _ _ _ _ _ hm cx1 cx2 cx3 cx4 cx5 cv4 h
    · refine g_iinc hk (lv' := [(5, mI (wI (x5_5 + 1))), (0, .ref (kB K + 0)), (1, mI x1_5), (2, mI x2_5), (3, mI x3_5), (4, mI x4_5)]) 5 rfl (Nat.le_of_ble_eq_true rfl) rfl dX12_send_258 ?_
      refine g_goto hk dX12_send_261 ?_
      refine GoAt.sub [1, 2, 3, 4, 5, 0] rfl ?_
      exact hrec _ _ _ _ _ _ hm cx1_5 cx2_5 cx3_5 cx4_5 (wI_c _) h
  · refine GoAt.sub [1, 2, 3, 4] rfl ?_
    exact hk264 _ _ _ _ _ hm cx1 cx2 cx3 cx4 h
theorem w_M_send_L44 {K : zK} (hk : zOk K kdM cX12_send 9 (some .int) RX12 4) {k264 : Int → Int → Int → Int → zM → Option (Int × zM)} {o : Int × zM} (hk264 : ∀ (x1 : Int) (x2 : Int) (x3 : Int) (x4 : Int) (m : zM), zG kdM m → cI x1 → cI x2 → cI x3 → cI x4 → k264 x1 x2 x3 x4 m = some o → GoAt K m [(1, mI x1), (2, mI x2), (3, mI x3), (4, mI x4)] [] 264 (0, o.1, o.2)) : ∀ (n : Nat) (x1 : Int) (x2 : Int) (x3 : Int) (x4 : Int) (x5 : Int) (m : zM), zG kdM m → cI x1 → cI x2 → cI x3 → cI x4 → cI x5 → M_send_L44 k264 n x1 x2 x3 x4 x5 m = some o → GoAt K m [(0, .ref (kB K + 0)), (1, mI x1), (2, mI x2), (3, mI x3), (4, mI x4), (5, mI x5)] [] 44 (0, o.1, o.2)
  | 0, x1, x2, x3, x4, x5, m, hm, cx1, cx2, cx3, cx4, cx5, h => by cases h
  | n + 1, x1, x2, x3, x4, x5, m, hm, cx1, cx2, cx3, cx4, cx5, h => w_M_send_B44 hk hk264 (w_M_send_L44 hk hk264 n) hm cx1 cx2 cx3 cx4 cx5 h
set_option maxRecDepth 100000 in
set_option maxHeartbeats 4000000 in
theorem w_M_send {K : zK} (hk : zOk K kdM cX12_send 9 (some .int) RX12 4)  {x1 : Int} {m : zM} {o : Int × zM}  (hm : zG kdM m) (cx1 : cI x1) (h : M_send x1 m = some o) : GoAt K m [(0, .ref (kB K + 0)), (1, mI x1)] [] 0 (0, o.1, o.2) := by
  unfold M_send at h
  refine g_iload_n hk 1 rfl dX12_send_0 ?_
  refine g_iconst hk (v := 0) rfl dX12_send_1 ?_
  refine g_iconst hk (v := 2) rfl dX12_send_2 ?_
  obtain ⟨r1, e2, h⟩ := zbind h
  refine g_callSz hk (st := []) mf_X12_is lk_X12_345 ms_X12_is (by decide) rfl (Nat.le_of_ble_eq_true rfl) rfl dX12_send_3 (met_M_is _ _ _ _ _ hk.wd hm cx1 (cIk rfl) (cIk rfl) e2) (fun hm c3 => ?_)
  refine g_if_eq hk (b01 c3) dX12_send_6 h (fun b4 h => ?_) (fun b4 h => ?_)
  · refine g_iconst hk (v := (-1)) rfl dX12_send_30 ?_
    exact g_ireturn hk (cIk rfl) dX12_send_31 (by cases h; rfl)
  · refine g_aload_n hk 0 rfl dX12_send_9 ?_
    refine g_get2 hk fl_X12_69 rfl kdM_0 hm (b := 7) rfl dX12_send_10 ?_
    refine g_aload_n hk 0 rfl dX12_send_13 ?_
    have g5 := zGI (i := 13) hm kdM_0 rfl
    refine g_get0 hk fl_X12_51 rfl (j := 13) rfl kdM_0 dX12_send_14 ?_
    refine g_iald hk g5 kdM_7 hm dX12_send_17 h (fun y6 cy6 h => ?_)
    refine g_iconst hk (v := 2) rfl dX12_send_18 ?_
    refine g_icmp_lt hk cy6 (cIk rfl) dX12_send_19 h (fun b7 h => ?_) (fun b7 h => ?_)
    · refine g_iconst hk (v := (-1)) rfl dX12_send_30 ?_
      exact g_ireturn hk (cIk rfl) dX12_send_31 (by cases h; rfl)
    · refine g_aload_n hk 0 rfl dX12_send_22 ?_
      refine g_iconst hk (v := 0) rfl dX12_send_23 ?_
      obtain ⟨r8, e9, h⟩ := zbind h
      refine g_callVi hk (st := []) mf_X12_tastes lk_X12_567 mv_X12_tastes kdM_0 (by decide) rfl (Nat.le_of_ble_eq_true rfl) rfl dX12_send_24 (met_M_tastes _ _ _ _ _ hk.wd hm (cIk rfl) e9) (fun hm c10 => ?_)
      refine g_if_ne hk c10 dX12_send_27 h (fun b11 h => ?_) (fun b11 h => ?_)
      · refine g_iconst hk (v := (-1)) rfl dX12_send_30 ?_
        exact g_ireturn hk (cIk rfl) dX12_send_31 (by cases h; rfl)
      · refine g_ldcw hk (v := 100000000) cn_X12_554 dX12_send_32 ?_
        refine g_istore_n hk rfl (lv' := [(2, mI 100000000), (0, .ref (kB K + 0)), (1, mI x1)]) (Nat.le_of_ble_eq_true rfl) rfl dX12_send_35 ?_
        refine g_iconst hk (v := (-1)) rfl dX12_send_36 ?_
        refine g_istore_n hk rfl (lv' := [(3, mI ((-1))), (2, mI 100000000), (0, .ref (kB K + 0)), (1, mI x1)]) (Nat.le_of_ble_eq_true rfl) rfl dX12_send_37 ?_
        refine g_iconst hk (v := (-1)) rfl dX12_send_38 ?_
        refine g_istore hk (lv' := [(4, mI ((-1))), (3, mI ((-1))), (2, mI 100000000), (0, .ref (kB K + 0)), (1, mI x1)]) (Nat.le_of_ble_eq_true rfl) rfl dX12_send_39 ?_
        refine g_iconst hk (v := 0) rfl dX12_send_41 ?_
        refine g_istore hk (lv' := [(5, mI 0), (4, mI ((-1))), (3, mI ((-1))), (2, mI 100000000), (0, .ref (kB K + 0)), (1, mI x1)]) (Nat.le_of_ble_eq_true rfl) rfl dX12_send_42 ?_
        refine GoAt.sub [4, 5, 3, 2, 1, 0] rfl ?_
        refine w_M_send_L44 hk (fun x1_12 x2_12 x3_12 x4_12 m13 hm cx1_12 cx2_12 cx3_12 cx4_12 h => ?_) 1000000 _ _ _ _ _ _ hm cx1 (cIk rfl) (cIk rfl) (cIk rfl) (cIk rfl) h
        · refine g_iload_n hk 0 rfl dX12_send_264 ?_
          refine g_if_ne hk cx1_12 dX12_send_265 h (fun b14 h => ?_) (fun b14 h => ?_)
          · refine g_iload_n hk 2 rfl dX12_send_268 ?_
            refine g_goto hk dX12_send_269 ?_
            exact g_ireturn hk cx3_12 dX12_send_283 (by cases h; rfl)
          · refine g_iload_n hk 0 rfl dX12_send_272 ?_
            refine g_iconst hk (v := 1) rfl dX12_send_273 ?_
            refine g_icmp_ne hk cx1_12 (cIk rfl) dX12_send_274 h (fun b15 h => ?_) (fun b15 h => ?_)
            · refine g_iload hk 3 rfl dX12_send_277 ?_
              refine g_goto hk dX12_send_279 ?_
              exact g_ireturn hk cx4_12 dX12_send_283 (by cases h; rfl)
            · refine g_iload_n hk 1 rfl dX12_send_282 ?_
              exact g_ireturn hk cx2_12 dX12_send_283 (by cases h; rfl)
theorem met_M_send (l : Launch) (D : va_G) (aC : Nat → ClassId) (B N : Nat) (hwd : ∀ id, (kdM id).1 ≠ 9 → id < N) {x1 : Int} {m : zM} {o : Int × zM} (hm : zG kdM m) (cx1 : cI x1) (h : M_send x1 m = some o) : zMet l yX12_send cX12_send 9 (some .int) 4 D aC B kdM N [.ref (B + 0), mI x1] m (0, o.1, o.2) := by
  refine zMet.of mf_X12_send hwd hm (Nat.le_of_ble_eq_true rfl) (fun K e1 e2 e3 e4 e5 hk => ?_)
  subst e4
  exact w_M_send hk hm cx1 h
set_option maxRecDepth 100000 in
set_option maxHeartbeats 4000000 in
theorem w_M_pointed_B5 {K : zK} (hk : zOk K kdM cX12_pointed 5 (some .int) RX12 4) {rec : Int → Int → Int → Int → zM → Option (Int × zM)} {x1 : Int} {x2 : Int} {x3 : Int} {x4 : Int} {m : zM} {o : Int × zM} (hrec : ∀ (x1 : Int) (x2 : Int) (x3 : Int) (x4 : Int) (m : zM), zG kdM m → cI x1 → cI x2 → cI x3 → cI x4 → rec x1 x2 x3 x4 m = some o → GoAt K m [(0, .ref (kB K + 0)), (1, mI x1), (2, mI x2), (3, mI x3), (4, mI x4)] [] 5 (0, o.1, o.2)) (hm : zG kdM m) (cx1 : cI x1) (cx2 : cI x2) (cx3 : cI x3) (cx4 : cI x4) (h : M_pointed_B5 rec x1 x2 x3 x4 m = some o) : GoAt K m [(0, .ref (kB K + 0)), (1, mI x1), (2, mI x2), (3, mI x3), (4, mI x4)] [] 5 (0, o.1, o.2) := by
  unfold M_pointed_B5 at h
  refine g_iload hk 4 rfl dX12_pointed_5 ?_
  refine g_aload_n hk 0 rfl dX12_pointed_7 ?_
  refine g_get2 hk fl_X12_54 rfl kdM_0 hm (b := 2) rfl dX12_pointed_8 ?_
  refine g_aload_n hk 0 rfl dX12_pointed_11 ?_
  have g1 := zGI (i := 13) hm kdM_0 rfl
  refine g_get0 hk fl_X12_51 rfl (j := 13) rfl kdM_0 dX12_pointed_12 ?_
  refine g_iald hk g1 kdM_2 hm dX12_pointed_15 h (fun y2 cy2 h => ?_)
  refine g_icmp_ge hk cx4 cy2 dX12_pointed_16 h (fun b3 h => ?_) (fun b3 h => ?_)
  · refine g_iload_n hk 2 rfl dX12_pointed_19 ?_
    refine g_iload hk 4 rfl dX12_pointed_20 ?_
    obtain ⟨r4, e5, h⟩ := zbind h
    refine g_callSz hk (st := []) mf_X12_has2 lk_X12_387 ms_X12_has2 (by decide) rfl (Nat.le_of_ble_eq_true rfl) rfl dX12_pointed_22 (met_M_has2 _ _ _ _ _ hk.wd hm cx2 cx4 e5) (fun hm c6 => ?_)
    refine g_if_eq hk (b01 c6) dX12_pointed_25 h (fun b7 h => ?_) (fun b7 h => ?_)
    · refine g_iinc hk (lv' := [(4, mI (wI (x4 + 1))), (0, .ref (kB K + 0)), (1, mI x1), (2, mI x2), (3, mI x3)]) 4 rfl (Nat.le_of_ble_eq_true rfl) rfl dX12_pointed_59 ?_
      refine g_goto hk dX12_pointed_62 ?_
      refine GoAt.sub [1, 2, 3, 4, 0] rfl ?_
      exact hrec _ _ _ _ _ hm cx1 cx2 cx3 (wI_c _) h
    · refine g_aload_n hk 0 rfl dX12_pointed_28 ?_
      refine g_iconst hk (v := 0) rfl dX12_pointed_29 ?_
      refine g_iload_n hk 1 rfl dX12_pointed_30 ?_
      refine g_aload_n hk 0 rfl dX12_pointed_31 ?_
      refine g_get2 hk fl_X12_222 rfl kdM_0 hm (b := 46) rfl dX12_pointed_32 ?_
      refine g_iload hk 4 rfl dX12_pointed_35 ?_
      refine g_iald hk cx4 kdM_46 hm dX12_pointed_37 h (fun y8 cy8 h => ?_)
      obtain ⟨r9, e10, h⟩ := zbind h
      refine g_callVi hk (st := []) mf_X12_liked lk_X12_498 mv_X12_liked kdM_0 (by decide) rfl (Nat.le_of_ble_eq_true rfl) rfl dX12_pointed_38 (met_M_liked _ _ _ _ _ hk.wd hm (cIk rfl) cx1 cy8 e10) (fun hm c11 => ?_)
      refine g_aload_n hk 0 rfl dX12_pointed_41 ?_
      refine g_iconst hk (v := 0) rfl dX12_pointed_42 ?_
      refine g_iload_n hk 1 rfl dX12_pointed_43 ?_
      refine g_aload_n hk 0 rfl dX12_pointed_44 ?_
      refine g_get2 hk fl_X12_222 rfl kdM_0 hm (b := 46) rfl dX12_pointed_45 ?_
      refine g_iload_n hk 3 rfl dX12_pointed_48 ?_
      refine g_iald hk cx3 kdM_46 hm dX12_pointed_49 h (fun y12 cy12 h => ?_)
      obtain ⟨r13, e14, h⟩ := zbind h
      refine g_callVi hk (st := [mI r9.1]) mf_X12_liked lk_X12_498 mv_X12_liked kdM_0 (by decide) rfl (Nat.le_of_ble_eq_true rfl) rfl dX12_pointed_50 (met_M_liked _ _ _ _ _ hk.wd hm (cIk rfl) cx1 cy12 e14) (fun hm c15 => ?_)
      refine g_icmp_le hk c11 c15 dX12_pointed_53 h (fun b16 h => ?_) (fun b16 h => ?_)
      · refine g_iload hk 4 rfl dX12_pointed_56 ?_
        refine g_istore_n hk rfl (lv' := [(3, mI x4), (0, .ref (kB K + 0)), (1, mI x1), (2, mI x2), (4, mI x4)]) (Nat.le_of_ble_eq_true rfl) rfl dX12_pointed_58 ?_
        refine g_iinc hk (lv' := [(4, mI (wI (x4 + 1))), (3, mI x4), (0, .ref (kB K + 0)), (1, mI x1), (2, mI x2)]) 4 rfl (Nat.le_of_ble_eq_true rfl) rfl dX12_pointed_59 ?_
        refine g_goto hk dX12_pointed_62 ?_
        refine GoAt.sub [2, 3, 4, 1, 0] rfl ?_
        exact hrec _ _ _ _ _ hm cx1 cx2 cx4 (wI_c _) h
      · refine g_iinc hk (lv' := [(4, mI (wI (x4 + 1))), (0, .ref (kB K + 0)), (1, mI x1), (2, mI x2), (3, mI x3)]) 4 rfl (Nat.le_of_ble_eq_true rfl) rfl dX12_pointed_59 ?_
        refine g_goto hk dX12_pointed_62 ?_
        refine GoAt.sub [1, 2, 3, 4, 0] rfl ?_
        exact hrec _ _ _ _ _ hm cx1 cx2 cx3 (wI_c _) h
  · refine g_iload_n hk 3 rfl dX12_pointed_65 ?_
    exact g_ireturn hk cx3 dX12_pointed_66 (by cases h; rfl)
theorem w_M_pointed_L5 {K : zK} (hk : zOk K kdM cX12_pointed 5 (some .int) RX12 4)  {o : Int × zM}  : ∀ (n : Nat) (x1 : Int) (x2 : Int) (x3 : Int) (x4 : Int) (m : zM), zG kdM m → cI x1 → cI x2 → cI x3 → cI x4 → M_pointed_L5 n x1 x2 x3 x4 m = some o → GoAt K m [(0, .ref (kB K + 0)), (1, mI x1), (2, mI x2), (3, mI x3), (4, mI x4)] [] 5 (0, o.1, o.2)
  | 0, x1, x2, x3, x4, m, hm, cx1, cx2, cx3, cx4, h => by cases h
  | n + 1, x1, x2, x3, x4, m, hm, cx1, cx2, cx3, cx4, h => w_M_pointed_B5 hk  (w_M_pointed_L5 hk  n) hm cx1 cx2 cx3 cx4 h
set_option maxRecDepth 100000 in
set_option maxHeartbeats 4000000 in
theorem w_M_pointed {K : zK} (hk : zOk K kdM cX12_pointed 5 (some .int) RX12 4)  {x1 : Int} {x2 : Int} {m : zM} {o : Int × zM}  (hm : zG kdM m) (cx1 : cI x1) (cx2 : cI x2) (h : M_pointed x1 x2 m = some o) : GoAt K m [(0, .ref (kB K + 0)), (1, mI x1), (2, mI x2)] [] 0 (0, o.1, o.2) := by
  unfold M_pointed at h
  refine g_iload_n hk 1 rfl dX12_pointed_0 ?_
  refine g_istore_n hk rfl (lv' := [(3, mI x1), (0, .ref (kB K + 0)), (1, mI x1), (2, mI x2)]) (Nat.le_of_ble_eq_true rfl) rfl dX12_pointed_1 ?_
  refine g_iconst hk (v := 0) rfl dX12_pointed_2 ?_
  refine g_istore hk (lv' := [(4, mI 0), (3, mI x1), (0, .ref (kB K + 0)), (1, mI x1), (2, mI x2)]) (Nat.le_of_ble_eq_true rfl) rfl dX12_pointed_3 ?_
  refine GoAt.sub [2, 3, 4, 1, 0] rfl ?_
  refine w_M_pointed_L5 hk  1000000 _ _ _ _ _ hm cx1 cx2 cx1 (cIk rfl) h
theorem met_M_pointed (l : Launch) (D : va_G) (aC : Nat → ClassId) (B N : Nat) (hwd : ∀ id, (kdM id).1 ≠ 9 → id < N) {x1 : Int} {x2 : Int} {m : zM} {o : Int × zM} (hm : zG kdM m) (cx1 : cI x1) (cx2 : cI x2) (h : M_pointed x1 x2 m = some o) : zMet l yX12_pointed cX12_pointed 5 (some .int) 4 D aC B kdM N [.ref (B + 0), mI x1, mI x2] m (0, o.1, o.2) := by
  refine zMet.of mf_X12_pointed hwd hm (Nat.le_of_ble_eq_true rfl) (fun K e1 e2 e3 e4 e5 hk => ?_)
  subst e4
  exact w_M_pointed hk hm cx1 cx2 h
set_option maxRecDepth 100000 in
set_option maxHeartbeats 4000000 in
theorem w_M_isInRing_B9 {K : zK} (hk : zOk K kdM cX12_isInRing 4 (some .boolean) RX12 0) {rec : Int → Int → Int → Option (Int)} {x1 : Int} {x2 : Int} {x3 : Int} {m : zM} {o : Int} (hrec : ∀ (x1 : Int) (x2 : Int) (x3 : Int), cI x1 → cI x2 → cI x3 → rec x1 x2 x3 = some o → GoAt K m [(0, .ref (kB K + 0)), (1, mI x1), (2, mI x2), (3, mI x3)] [] 9 (4, o, m)) (hm : zG kdM m) (cx1 : cI x1) (cx2 : cI x2) (cx3 : cI x3) (h : M_isInRing_B9 rec x1 x2 x3 m = some o) : GoAt K m [(0, .ref (kB K + 0)), (1, mI x1), (2, mI x2), (3, mI x3)] [] 9 (4, o, m) := by
  unfold M_isInRing_B9 at h
  refine g_iload_n hk 3 rfl dX12_isInRing_9 ?_
  refine g_bipush hk (v := 6) rfl dX12_isInRing_10 ?_
  refine g_icmp_ge hk cx3 (cIk rfl) dX12_isInRing_12 h (fun b1 h => ?_) (fun b1 h => ?_)
  · refine g_iload_n hk 2 rfl dX12_isInRing_15 ?_
    refine g_iload_n hk 1 rfl dX12_isInRing_16 ?_
    refine g_icmp_ne hk cx2 cx1 dX12_isInRing_17 h (fun b2 h => ?_) (fun b2 h => ?_)
    · refine g_iconst hk (v := 1) rfl dX12_isInRing_20 ?_
      exact g_zreturn hk z1 dX12_isInRing_21 (by cases h; rfl)
    · refine g_aload_n hk 0 rfl dX12_isInRing_22 ?_
      refine g_get2 hk fl_X12_225 rfl kdM_0 hm (b := 47) rfl dX12_isInRing_23 ?_
      refine g_iload_n hk 2 rfl dX12_isInRing_26 ?_
      refine g_iald hk cx2 kdM_47 hm dX12_isInRing_27 h (fun y3 cy3 h => ?_)
      refine g_istore_n hk rfl (lv' := [(2, mI y3), (0, .ref (kB K + 0)), (1, mI x1), (3, mI x3)]) (Nat.le_of_ble_eq_true rfl) rfl dX12_isInRing_28 ?_
      refine g_iinc hk (lv' := [(3, mI (wI (x3 + 1))), (2, mI y3), (0, .ref (kB K + 0)), (1, mI x1)]) 3 rfl (Nat.le_of_ble_eq_true rfl) rfl dX12_isInRing_29 ?_
      refine g_goto hk dX12_isInRing_32 ?_
      refine GoAt.sub [2, 3, 1, 0] rfl ?_
      exact hrec _ _ _ cx1 cy3 (wI_c _) h
  · refine g_iconst hk (v := 0) rfl dX12_isInRing_35 ?_
    exact g_zreturn hk z0 dX12_isInRing_36 (by cases h; rfl)
theorem w_M_isInRing_L9 {K : zK} (hk : zOk K kdM cX12_isInRing 4 (some .boolean) RX12 0)  {o : Int} {m : zM} (hm : zG kdM m)  : ∀ (n : Nat) (x1 : Int) (x2 : Int) (x3 : Int), cI x1 → cI x2 → cI x3 → M_isInRing_L9 m n x1 x2 x3 = some o → GoAt K m [(0, .ref (kB K + 0)), (1, mI x1), (2, mI x2), (3, mI x3)] [] 9 (4, o, m)
  | 0, x1, x2, x3, cx1, cx2, cx3, h => by cases h
  | n + 1, x1, x2, x3, cx1, cx2, cx3, h => w_M_isInRing_B9 hk  (w_M_isInRing_L9 hk hm  n) hm cx1 cx2 cx3 h
set_option maxRecDepth 100000 in
set_option maxHeartbeats 4000000 in
theorem w_M_isInRing {K : zK} (hk : zOk K kdM cX12_isInRing 4 (some .boolean) RX12 0)  {x1 : Int} {m : zM} {o : Int}  (hm : zG kdM m) (cx1 : cI x1) (h : M_isInRing x1 m = some o) : GoAt K m [(0, .ref (kB K + 0)), (1, mI x1)] [] 0 (4, o, m) := by
  unfold M_isInRing at h
  refine g_aload_n hk 0 rfl dX12_isInRing_0 ?_
  refine g_get2 hk fl_X12_225 rfl kdM_0 hm (b := 47) rfl dX12_isInRing_1 ?_
  refine g_iload_n hk 1 rfl dX12_isInRing_4 ?_
  refine g_iald hk cx1 kdM_47 hm dX12_isInRing_5 h (fun y1 cy1 h => ?_)
  refine g_istore_n hk rfl (lv' := [(2, mI y1), (0, .ref (kB K + 0)), (1, mI x1)]) (Nat.le_of_ble_eq_true rfl) rfl dX12_isInRing_6 ?_
  refine g_iconst hk (v := 0) rfl dX12_isInRing_7 ?_
  refine g_istore_n hk rfl (lv' := [(3, mI 0), (2, mI y1), (0, .ref (kB K + 0)), (1, mI x1)]) (Nat.le_of_ble_eq_true rfl) rfl dX12_isInRing_8 ?_
  refine GoAt.sub [2, 3, 1, 0] rfl ?_
  refine w_M_isInRing_L9 hk hm  1000000 _ _ _ cx1 cy1 (cIk rfl) h
theorem met_M_isInRing (l : Launch) (D : va_G) (aC : Nat → ClassId) (B N : Nat) (hwd : ∀ id, (kdM id).1 ≠ 9 → id < N) {x1 : Int} {m : zM} {o : Int} (hm : zG kdM m) (cx1 : cI x1) (h : M_isInRing x1 m = some o) : zMet l yX12_isInRing cX12_isInRing 4 (some .boolean) 0 D aC B kdM N [.ref (B + 0), mI x1] m (4, o, m) := by
  refine zMet.of mf_X12_isInRing hwd hm (Nat.le_of_ble_eq_true rfl) (fun K e1 e2 e3 e4 e5 hk => ?_)
  subst e4
  exact w_M_isInRing hk hm cx1 h
set_option maxRecDepth 100000 in
set_option maxHeartbeats 4000000 in
theorem w_M_round_b66 {K : zK} (hk : zOk K kdM cX12_round 7 (some .int) RX12 6) {k114 : Int → Int → Int → zM → Option (Int × zM)} {rec : Int → Int → Int → Int → zM → Option (Int × zM)} {x1 : Int} {x2 : Int} {x3 : Int} {x4 : Int} {a0 : Nat} {n0 : Nat} {s1 : Int} {s3 : Int} {s4 : Int} {s5 : Int} {s6 : Int} {m : zM} {o : Int × zM} (hk114 : ∀ (x1 : Int) (x2 : Int) (x3 : Int) (m : zM), zG kdM m → cI x1 → cI x2 → cI x3 → k114 x1 x2 x3 m = some o → GoAt K m [(0, .ref (kB K + 0)), (1, mI x1), (2, mI x2), (3, mI x3)] [] 114 (0, o.1, o.2)) (hrec : ∀ (x1 : Int) (x2 : Int) (x3 : Int) (x4 : Int) (m : zM), zG kdM m → cI x1 → cI x2 → cI x3 → cI x4 → rec x1 x2 x3 x4 m = some o → GoAt K m [(0, .ref (kB K + 0)), (1, mI x1), (2, mI x2), (3, mI x3), (4, mI x4)] [] 24 (0, o.1, o.2)) (hm : zG kdM m) (cx1 : cI x1) (cx2 : cI x2) (cx3 : cI x3) (cx4 : cI x4) (ka0 : kdM a0 = (1, n0)) (cs1 : cI s1) (zs3 : zok 4 s3) (cs4 : cI s4) (zs5 : zok 4 s5) (cs6 : cI s6) (h : M_round_b66 k114 rec x1 x2 x3 x4 a0 n0 s1 s3 s4 s5 s6 m = some o) : GoAt K m [(0, .ref (kB K + 0)), (1, mI x1), (2, mI x2), (3, mI x3), (4, mI x4)] [mI s6, mI s5, mI s4, mI s3, .ref (kB K + 0), mI s1, .ref (kB K + a0)] 66 (0, o.1, o.2) := by
  unfold M_round_b66 at h
  obtain ⟨r1, e2, h⟩ := zbind h
  refine g_callVi hk (st := [mI s1, .ref (kB K + a0)]) mf_X12_wished lk_X12_520 mv_X12_wished kdM_0 (by decide) rfl (Nat.le_of_ble_eq_true rfl) rfl dX12_round_66 (met_M_wished _ _ _ _ _ hk.wd hm (b01 zs3) cs4 (b01 zs5) cs6 e2) (fun hm c3 => ?_)
  refine g_iast hk cs1 c3 ka0 hm dX12_round_69 h (fun m4 hm h => ?_)
  refine g_aload_n hk 0 rfl dX12_round_70 ?_
  refine g_get2 hk fl_X12_228 rfl kdM_0 hm (b := 48) rfl dX12_round_71 ?_
  refine g_iload hk 4 rfl dX12_round_74 ?_
  refine g_iconst hk (v := (-1)) rfl dX12_round_76 ?_
  refine g_iast hk cx4 (cIk rfl) kdM_48 hm dX12_round_77 h (fun m5 hm h => ?_)
  refine g_aload_n hk 0 rfl dX12_round_78 ?_
  refine g_get2 hk fl_X12_231 rfl kdM_0 hm (b := 49) rfl dX12_round_79 ?_
  refine g_iload hk 4 rfl dX12_round_82 ?_
  refine g_iconst hk (v := (-1)) rfl dX12_round_84 ?_
  refine g_iast hk cx4 (cIk rfl) kdM_49 hm dX12_round_85 h (fun m6 hm h => ?_)
  refine g_iload_n hk 3 rfl dX12_round_86 ?_
  refine g_aload_n hk 0 rfl dX12_round_87 ?_
  refine g_get2 hk fl_X12_222 rfl kdM_0 hm (b := 46) rfl dX12_round_88 ?_
  refine g_iload hk 4 rfl dX12_round_91 ?_
  refine g_iald hk cx4 kdM_46 hm dX12_round_93 h (fun y7 cy7 h => ?_)
  refine g_iconst hk (v := (-1)) rfl dX12_round_94 ?_
  refine g_icmp_ne hk cy7 (cIk rfl) dX12_round_95 h (fun b8 h => ?_) (fun b8 h => ?_)
  · refine g_iconst hk (v := 0) rfl dX12_round_98 ?_
    refine g_goto hk dX12_round_99 ?_
    refine g_ior hk dX12_round_106 ?_
    refine g_istore_n hk rfl (lv' := [(3, mI (orI x3 0)), (0, .ref (kB K + 0)), (1, mI x1), (2, mI x2), (4, mI x4)]) (Nat.le_of_ble_eq_true rfl) rfl dX12_round_107 ?_
    refine g_iinc hk (lv' := [(4, mI (wI (x4 + 1))), (3, mI (orI x3 0)), (0, .ref (kB K + 0)), (1, mI x1), (2, mI x2)]) 4 rfl (Nat.le_of_ble_eq_true rfl) rfl dX12_round_108 ?_
    refine g_goto hk dX12_round_111 ?_
    refine GoAt.sub [2, 3, 4, 1, 0] rfl ?_
    exact hrec _ _ _ _ _ hm cx1 cx2 (cI_t _) (wI_c _) h
  · refine g_iconst hk (v := 1) rfl dX12_round_102 ?_
    refine g_iload hk 4 rfl dX12_round_103 ?_
    refine g_ishl hk dX12_round_105 ?_
    refine g_ior hk dX12_round_106 ?_
    refine g_let (cI_t _) h (fun v9 cv9 h => ?_)
    refine g_istore_n hk rfl (lv' := [(3, mI v9), (0, .ref (kB K + 0)), (1, mI x1), (2, mI x2), (4, mI x4)]) (Nat.le_of_ble_eq_true rfl) rfl dX12_round_107 ?_
    refine g_iinc hk (lv' := [(4, mI (wI (x4 + 1))), (3, mI v9), (0, .ref (kB K + 0)), (1, mI x1), (2, mI x2)]) 4 rfl (Nat.le_of_ble_eq_true rfl) rfl dX12_round_108 ?_
    refine g_goto hk dX12_round_111 ?_
    refine GoAt.sub [2, 3, 4, 1, 0] rfl ?_
    exact hrec _ _ _ _ _ hm cx1 cx2 cv9 (wI_c _) h
set_option maxRecDepth 100000 in
set_option maxHeartbeats 4000000 in
theorem w_M_round_B24 {K : zK} (hk : zOk K kdM cX12_round 7 (some .int) RX12 6) {k114 : Int → Int → Int → zM → Option (Int × zM)} {rec : Int → Int → Int → Int → zM → Option (Int × zM)} {x1 : Int} {x2 : Int} {x3 : Int} {x4 : Int} {m : zM} {o : Int × zM} (hk114 : ∀ (x1 : Int) (x2 : Int) (x3 : Int) (m : zM), zG kdM m → cI x1 → cI x2 → cI x3 → k114 x1 x2 x3 m = some o → GoAt K m [(0, .ref (kB K + 0)), (1, mI x1), (2, mI x2), (3, mI x3)] [] 114 (0, o.1, o.2)) (hrec : ∀ (x1 : Int) (x2 : Int) (x3 : Int) (x4 : Int) (m : zM), zG kdM m → cI x1 → cI x2 → cI x3 → cI x4 → rec x1 x2 x3 x4 m = some o → GoAt K m [(0, .ref (kB K + 0)), (1, mI x1), (2, mI x2), (3, mI x3), (4, mI x4)] [] 24 (0, o.1, o.2)) (hm : zG kdM m) (cx1 : cI x1) (cx2 : cI x2) (cx3 : cI x3) (cx4 : cI x4) (h : M_round_B24 k114 rec x1 x2 x3 x4 m = some o) : GoAt K m [(0, .ref (kB K + 0)), (1, mI x1), (2, mI x2), (3, mI x3), (4, mI x4)] [] 24 (0, o.1, o.2) := by
  unfold M_round_B24 at h
  refine g_iload hk 4 rfl dX12_round_24 ?_
  refine g_aload_n hk 0 rfl dX12_round_26 ?_
  refine g_get2 hk fl_X12_54 rfl kdM_0 hm (b := 2) rfl dX12_round_27 ?_
  refine g_aload_n hk 0 rfl dX12_round_30 ?_
  have g1 := zGI (i := 13) hm kdM_0 rfl
  refine g_get0 hk fl_X12_51 rfl (j := 13) rfl kdM_0 dX12_round_31 ?_
  refine g_iald hk g1 kdM_2 hm dX12_round_34 h (fun y2 cy2 h => ?_)
  refine g_icmp_ge hk cx4 cy2 dX12_round_35 h (fun b3 h => ?_) (fun b3 h => ?_)
  · refine g_aload_n hk 0 rfl dX12_round_38 ?_
    refine g_get2 hk fl_X12_222 rfl kdM_0 hm (b := 46) rfl dX12_round_39 ?_
    refine g_iload hk 4 rfl dX12_round_42 ?_
    refine g_aload_n hk 0 rfl dX12_round_44 ?_
    refine g_iconst hk (v := 0) rfl dX12_round_45 ?_
    refine g_iload hk 4 rfl dX12_round_46 ?_
    refine g_iconst hk (v := 0) rfl dX12_round_48 ?_
    refine g_aload_n hk 0 rfl dX12_round_49 ?_
    refine g_iconst hk (v := 0) rfl dX12_round_50 ?_
    obtain ⟨r4, e5, h⟩ := zbind h
    refine g_callVi hk (st := [mI 0, mI x4, mI 0, .ref (kB K + 0), mI x4, .ref (kB K + 46)]) mf_X12_toldOf lk_X12_517 mv_X12_toldOf kdM_0 (by decide) rfl (Nat.le_of_ble_eq_true rfl) rfl dX12_round_51 (met_M_toldOf _ _ _ _ _ hk.wd hm (cIk rfl) e5) (fun hm c6 => ?_)
    refine g_if_ne hk c6 dX12_round_54 h (fun b7 h => ?_) (fun b7 h => ?_)
    · refine g_iconst hk (v := 1) rfl dX12_round_57 ?_
      refine g_goto hk dX12_round_58 ?_
      exact w_M_round_b66 hk hk114 hrec hm cx1 cx2 cx3 cx4 kdM_46 cx4 z0 cx4 z0 (cIk rfl) h
    · refine g_aload_n hk 0 rfl dX12_round_61 ?_
      refine g_iconst hk (v := 0) rfl dX12_round_62 ?_
      obtain ⟨r8, e9, h⟩ := zbind h
      refine g_callVi hk (st := [mI 0, mI x4, mI 0, .ref (kB K + 0), mI x4, .ref (kB K + 46)]) mf_X12_toldOf lk_X12_517 mv_X12_toldOf kdM_0 (by decide) rfl (Nat.le_of_ble_eq_true rfl) rfl dX12_round_63 (met_M_toldOf _ _ _ _ _ hk.wd hm (cIk rfl) e9) (fun hm c10 => ?_)
      exact w_M_round_b66 hk hk114 hrec hm cx1 cx2 cx3 cx4 kdM_46 cx4 z0 cx4 z0 c10 h
  · refine GoAt.sub [0, 1, 2, 3] rfl ?_
    exact hk114 _ _ _ _ hm cx1 cx2 cx3 h
theorem w_M_round_L24 {K : zK} (hk : zOk K kdM cX12_round 7 (some .int) RX12 6) {k114 : Int → Int → Int → zM → Option (Int × zM)} {o : Int × zM} (hk114 : ∀ (x1 : Int) (x2 : Int) (x3 : Int) (m : zM), zG kdM m → cI x1 → cI x2 → cI x3 → k114 x1 x2 x3 m = some o → GoAt K m [(0, .ref (kB K + 0)), (1, mI x1), (2, mI x2), (3, mI x3)] [] 114 (0, o.1, o.2)) : ∀ (n : Nat) (x1 : Int) (x2 : Int) (x3 : Int) (x4 : Int) (m : zM), zG kdM m → cI x1 → cI x2 → cI x3 → cI x4 → M_round_L24 k114 n x1 x2 x3 x4 m = some o → GoAt K m [(0, .ref (kB K + 0)), (1, mI x1), (2, mI x2), (3, mI x3), (4, mI x4)] [] 24 (0, o.1, o.2)
  | 0, x1, x2, x3, x4, m, hm, cx1, cx2, cx3, cx4, h => by cases h
  | n + 1, x1, x2, x3, x4, m, hm, cx1, cx2, cx3, cx4, h => w_M_round_B24 hk hk114 (w_M_round_L24 hk hk114 n) hm cx1 cx2 cx3 cx4 h
set_option maxRecDepth 100000 in
set_option maxHeartbeats 4000000 in
theorem w_M_round_B124 {K : zK} (hk : zOk K kdM cX12_round 7 (some .int) RX12 6) {k172 : Int → Int → Int → Int → zM → Option (Int × zM)} {rec : Int → Int → Int → Int → Int → zM → Option (Int × zM)} {x1 : Int} {x2 : Int} {x3 : Int} {x4 : Int} {x5 : Int} {m : zM} {o : Int × zM} (hk172 : ∀ (x1 : Int) (x2 : Int) (x3 : Int) (x4 : Int) (m : zM), zG kdM m → cI x1 → cI x2 → cI x3 → cI x4 → k172 x1 x2 x3 x4 m = some o → GoAt K m [(0, .ref (kB K + 0)), (1, mI x1), (2, mI x2), (3, mI x3), (4, mI x4)] [] 172 (0, o.1, o.2)) (hrec : ∀ (x1 : Int) (x2 : Int) (x3 : Int) (x4 : Int) (x5 : Int) (m : zM), zG kdM m → cI x1 → cI x2 → cI x3 → cI x4 → cI x5 → rec x1 x2 x3 x4 x5 m = some o → GoAt K m [(0, .ref (kB K + 0)), (1, mI x1), (2, mI x2), (3, mI x3), (4, mI x4), (5, mI x5)] [] 124 (0, o.1, o.2)) (hm : zG kdM m) (cx1 : cI x1) (cx2 : cI x2) (cx3 : cI x3) (cx4 : cI x4) (cx5 : cI x5) (h : M_round_B124 k172 rec x1 x2 x3 x4 x5 m = some o) : GoAt K m [(0, .ref (kB K + 0)), (1, mI x1), (2, mI x2), (3, mI x3), (4, mI x4), (5, mI x5)] [] 124 (0, o.1, o.2) := by
  unfold M_round_B124 at h
  refine g_iload hk 5 rfl dX12_round_124 ?_
  refine g_aload_n hk 0 rfl dX12_round_126 ?_
  refine g_get2 hk fl_X12_54 rfl kdM_0 hm (b := 2) rfl dX12_round_127 ?_
  refine g_aload_n hk 0 rfl dX12_round_130 ?_
  have g1 := zGI (i := 13) hm kdM_0 rfl
  refine g_get0 hk fl_X12_51 rfl (j := 13) rfl kdM_0 dX12_round_131 ?_
  refine g_iald hk g1 kdM_2 hm dX12_round_134 h (fun y2 cy2 h => ?_)
  refine g_icmp_ge hk cx5 cy2 dX12_round_135 h (fun b3 h => ?_) (fun b3 h => ?_)
  · refine g_aload_n hk 0 rfl dX12_round_138 ?_
    refine g_get2 hk fl_X12_225 rfl kdM_0 hm (b := 47) rfl dX12_round_139 ?_
    refine g_iload hk 5 rfl dX12_round_142 ?_
    refine g_iload_n hk 3 rfl dX12_round_144 ?_
    refine g_iload hk 5 rfl dX12_round_145 ?_
    obtain ⟨r4, e5, h⟩ := zbind h
    refine g_callSz hk (st := [mI x5, .ref (kB K + 47)]) mf_X12_has2 lk_X12_387 ms_X12_has2 (by decide) rfl (Nat.le_of_ble_eq_true rfl) rfl dX12_round_147 (met_M_has2 _ _ _ _ _ hk.wd hm cx3 cx5 e5) (fun hm c6 => ?_)
    refine g_if_eq hk (b01 c6) dX12_round_150 h (fun b7 h => ?_) (fun b7 h => ?_)
    · refine g_iload hk 5 rfl dX12_round_163 ?_
      refine g_iast hk cx5 cx5 kdM_47 hm dX12_round_165 h (fun m8 hm h => ?_)
      refine g_iinc hk (lv' := [(5, mI (wI (x5 + 1))), (0, .ref (kB K + 0)), (1, mI x1), (2, mI x2), (3, mI x3), (4, mI x4)]) 5 rfl (Nat.le_of_ble_eq_true rfl) rfl dX12_round_166 ?_
      refine g_goto hk dX12_round_169 ?_
      refine GoAt.sub [1, 2, 3, 4, 5, 0] rfl ?_
      exact hrec _ _ _ _ _ _ hm cx1 cx2 cx3 cx4 (wI_c _) h
    · refine g_aload_n hk 0 rfl dX12_round_153 ?_
      refine g_iload hk 5 rfl dX12_round_154 ?_
      refine g_iload_n hk 3 rfl dX12_round_156 ?_
      obtain ⟨r9, e10, h⟩ := zbind h
      refine g_callVi hk (st := [mI x5, .ref (kB K + 47)]) mf_X12_pointed lk_X12_570 mv_X12_pointed kdM_0 (by decide) rfl (Nat.le_of_ble_eq_true rfl) rfl dX12_round_157 (met_M_pointed _ _ _ _ _ hk.wd hm cx5 cx3 e10) (fun hm c11 => ?_)
      refine g_goto hk dX12_round_160 ?_
      refine g_iast hk cx5 c11 kdM_47 hm dX12_round_165 h (fun m12 hm h => ?_)
      refine g_iinc hk (lv' := [(5, mI (wI (x5 + 1))), (0, .ref (kB K + 0)), (1, mI x1), (2, mI x2), (3, mI x3), (4, mI x4)]) 5 rfl (Nat.le_of_ble_eq_true rfl) rfl dX12_round_166 ?_
      refine g_goto hk dX12_round_169 ?_
      refine GoAt.sub [1, 2, 3, 4, 5, 0] rfl ?_
      exact hrec _ _ _ _ _ _ hm cx1 cx2 cx3 cx4 (wI_c _) h
  · refine GoAt.sub [0, 1, 2, 3, 4] rfl ?_
    exact hk172 _ _ _ _ _ hm cx1 cx2 cx3 cx4 h
theorem w_M_round_L124 {K : zK} (hk : zOk K kdM cX12_round 7 (some .int) RX12 6) {k172 : Int → Int → Int → Int → zM → Option (Int × zM)} {o : Int × zM} (hk172 : ∀ (x1 : Int) (x2 : Int) (x3 : Int) (x4 : Int) (m : zM), zG kdM m → cI x1 → cI x2 → cI x3 → cI x4 → k172 x1 x2 x3 x4 m = some o → GoAt K m [(0, .ref (kB K + 0)), (1, mI x1), (2, mI x2), (3, mI x3), (4, mI x4)] [] 172 (0, o.1, o.2)) : ∀ (n : Nat) (x1 : Int) (x2 : Int) (x3 : Int) (x4 : Int) (x5 : Int) (m : zM), zG kdM m → cI x1 → cI x2 → cI x3 → cI x4 → cI x5 → M_round_L124 k172 n x1 x2 x3 x4 x5 m = some o → GoAt K m [(0, .ref (kB K + 0)), (1, mI x1), (2, mI x2), (3, mI x3), (4, mI x4), (5, mI x5)] [] 124 (0, o.1, o.2)
  | 0, x1, x2, x3, x4, x5, m, hm, cx1, cx2, cx3, cx4, cx5, h => by cases h
  | n + 1, x1, x2, x3, x4, x5, m, hm, cx1, cx2, cx3, cx4, cx5, h => w_M_round_B124 hk hk172 (w_M_round_L124 hk hk172 n) hm cx1 cx2 cx3 cx4 cx5 h
set_option maxRecDepth 100000 in
set_option maxHeartbeats 4000000 in
theorem w_M_round_B178 {K : zK} (hk : zOk K kdM cX12_round 7 (some .int) RX12 6) {k256 : Int → Int → Int → Int → Int → zM → Option (Int × zM)} {rec : Int → Int → Int → Int → Int → Int → zM → Option (Int × zM)} {x1 : Int} {x2 : Int} {x3 : Int} {x4 : Int} {x5 : Int} {x6 : Int} {m : zM} {o : Int × zM} (hk256 : ∀ (x1 : Int) (x2 : Int) (x3 : Int) (x4 : Int) (x5 : Int) (m : zM), zG kdM m → cI x1 → cI x2 → cI x3 → cI x4 → cI x5 → k256 x1 x2 x3 x4 x5 m = some o → GoAt K m [(0, .ref (kB K + 0)), (1, mI x1), (2, mI x2), (3, mI x3), (4, mI x4), (5, mI x5)] [] 256 (0, o.1, o.2)) (hrec : ∀ (x1 : Int) (x2 : Int) (x3 : Int) (x4 : Int) (x5 : Int) (x6 : Int) (m : zM), zG kdM m → cI x1 → cI x2 → cI x3 → cI x4 → cI x5 → cI x6 → rec x1 x2 x3 x4 x5 x6 m = some o → GoAt K m [(0, .ref (kB K + 0)), (1, mI x1), (2, mI x2), (3, mI x3), (4, mI x4), (5, mI x5), (6, mI x6)] [] 178 (0, o.1, o.2)) (hm : zG kdM m) (cx1 : cI x1) (cx2 : cI x2) (cx3 : cI x3) (cx4 : cI x4) (cx5 : cI x5) (cx6 : cI x6) (h : M_round_B178 k256 rec x1 x2 x3 x4 x5 x6 m = some o) : GoAt K m [(0, .ref (kB K + 0)), (1, mI x1), (2, mI x2), (3, mI x3), (4, mI x4), (5, mI x5), (6, mI x6)] [] 178 (0, o.1, o.2) := by
  unfold M_round_B178 at h
  refine g_iload hk 6 rfl dX12_round_178 ?_
  refine g_aload_n hk 0 rfl dX12_round_180 ?_
  refine g_get2 hk fl_X12_54 rfl kdM_0 hm (b := 2) rfl dX12_round_181 ?_
  refine g_aload_n hk 0 rfl dX12_round_184 ?_
  have g1 := zGI (i := 13) hm kdM_0 rfl
  refine g_get0 hk fl_X12_51 rfl (j := 13) rfl kdM_0 dX12_round_185 ?_
  refine g_iald hk g1 kdM_2 hm dX12_round_188 h (fun y2 cy2 h => ?_)
  refine g_icmp_ge hk cx6 cy2 dX12_round_189 h (fun b3 h => ?_) (fun b3 h => ?_)
  · refine g_iload_n hk 3 rfl dX12_round_192 ?_
    refine g_iload hk 6 rfl dX12_round_193 ?_
    obtain ⟨r4, e5, h⟩ := zbind h
    refine g_callSz hk (st := []) mf_X12_has2 lk_X12_387 ms_X12_has2 (by decide) rfl (Nat.le_of_ble_eq_true rfl) rfl dX12_round_195 (met_M_has2 _ _ _ _ _ hk.wd hm cx3 cx6 e5) (fun hm c6 => ?_)
    refine g_if_eq hk (b01 c6) dX12_round_198 h (fun b7 h => ?_) (fun b7 h => ?_)
    · refine g_iinc hk (lv' := [(6, mI (wI (x6 + 1))), (0, .ref (kB K + 0)), (1, mI x1), (2, mI x2), (3, mI x3), (4, mI x4), (5, mI x5)]) 6 rfl (Nat.le_of_ble_eq_true rfl) rfl dX12_round_250 ?_
      refine g_goto hk dX12_round_253 ?_
      refine GoAt.sub [1, 2, 3, 4, 5, 6, 0] rfl ?_
      exact hrec _ _ _ _ _ _ _ hm cx1 cx2 cx3 cx4 cx5 (wI_c _) h
    · refine g_aload_n hk 0 rfl dX12_round_201 ?_
      refine g_iload hk 6 rfl dX12_round_202 ?_
      obtain ⟨r8, e9, h⟩ := zbind h
      refine g_callVz hk (st := []) mf_X12_isInRing lk_X12_573 mv_X12_isInRing kdM_0 (by decide) rfl (Nat.le_of_ble_eq_true rfl) rfl dX12_round_204 (met_M_isInRing _ _ _ _ _ hk.wd hm cx6 e9) (fun hm c10 => ?_)
      refine g_if_ne hk (b01 c10) dX12_round_207 h (fun b11 h => ?_) (fun b11 h => ?_)
      · refine g_goto hk dX12_round_210 ?_
        refine g_iinc hk (lv' := [(6, mI (wI (x6 + 1))), (0, .ref (kB K + 0)), (1, mI x1), (2, mI x2), (3, mI x3), (4, mI x4), (5, mI x5)]) 6 rfl (Nat.le_of_ble_eq_true rfl) rfl dX12_round_250 ?_
        refine g_goto hk dX12_round_253 ?_
        refine GoAt.sub [1, 2, 3, 4, 5, 6, 0] rfl ?_
        exact hrec _ _ _ _ _ _ _ hm cx1 cx2 cx3 cx4 cx5 (wI_c _) h
      · refine g_iload hk 5 rfl dX12_round_213 ?_
        refine g_iconst hk (v := 1) rfl dX12_round_215 ?_
        refine g_iload hk 6 rfl dX12_round_216 ?_
        refine g_ishl hk dX12_round_218 ?_
        refine g_ior hk dX12_round_219 ?_
        refine g_let (cI_t _) h (fun v12 cv12 h => ?_)
        refine g_istore hk (lv' := [(5, mI v12), (0, .ref (kB K + 0)), (1, mI x1), (2, mI x2), (3, mI x3), (4, mI x4), (6, mI x6)]) (Nat.le_of_ble_eq_true rfl) rfl dX12_round_220 ?_
        refine g_aload_n hk 1 rfl dX12_round_222 ?_
        refine g_get2 hk fl_X12_228 rfl kdM_0 hm (b := 48) rfl dX12_round_223 ?_
        refine g_iload hk 6 rfl dX12_round_226 ?_
        refine g_aload_n hk 1 rfl dX12_round_228 ?_
        refine g_get2 hk fl_X12_222 rfl kdM_0 hm (b := 46) rfl dX12_round_229 ?_
        refine g_aload_n hk 1 rfl dX12_round_232 ?_
        refine g_get2 hk fl_X12_225 rfl kdM_0 hm (b := 47) rfl dX12_round_233 ?_
        refine g_iload hk 6 rfl dX12_round_236 ?_
        refine g_iald hk cx6 kdM_47 hm dX12_round_238 h (fun y13 cy13 h => ?_)
        refine g_iald hk cy13 kdM_46 hm dX12_round_239 h (fun y14 cy14 h => ?_)
        refine g_iast hk cx6 cy14 kdM_48 hm dX12_round_240 h (fun m15 hm h => ?_)
        refine g_aload_n hk 1 rfl dX12_round_241 ?_
        refine g_get2 hk fl_X12_231 rfl kdM_0 hm (b := 49) rfl dX12_round_242 ?_
        refine g_iload hk 6 rfl dX12_round_245 ?_
        refine g_iload hk 5 rfl dX12_round_247 ?_
        refine g_iast hk cx6 cx4 kdM_49 hm dX12_round_249 h (fun m16 hm h => ?_)
        refine g_iinc hk (lv' := [(6, mI (wI (x6 + 1))), (5, mI v12), (0, .ref (kB K + 0)), (1, mI x1), (2, mI x2), (3, mI x3), (4, mI x4)]) 6 rfl (Nat.le_of_ble_eq_true rfl) rfl dX12_round_250 ?_
        refine g_goto hk dX12_round_253 ?_
        refine GoAt.sub [2, 3, 4, 5, 6, 1, 0] rfl ?_
        exact hrec _ _ _ _ _ _ _ hm cx1 cx2 cx3 cx4 cv12 (wI_c _) h
  · refine GoAt.sub [0, 1, 2, 3, 4, 5] rfl ?_
    exact hk256 _ _ _ _ _ _ hm cx1 cx2 cx3 cx4 cx5 h
theorem w_M_round_L178 {K : zK} (hk : zOk K kdM cX12_round 7 (some .int) RX12 6) {k256 : Int → Int → Int → Int → Int → zM → Option (Int × zM)} {o : Int × zM} (hk256 : ∀ (x1 : Int) (x2 : Int) (x3 : Int) (x4 : Int) (x5 : Int) (m : zM), zG kdM m → cI x1 → cI x2 → cI x3 → cI x4 → cI x5 → k256 x1 x2 x3 x4 x5 m = some o → GoAt K m [(0, .ref (kB K + 0)), (1, mI x1), (2, mI x2), (3, mI x3), (4, mI x4), (5, mI x5)] [] 256 (0, o.1, o.2)) : ∀ (n : Nat) (x1 : Int) (x2 : Int) (x3 : Int) (x4 : Int) (x5 : Int) (x6 : Int) (m : zM), zG kdM m → cI x1 → cI x2 → cI x3 → cI x4 → cI x5 → cI x6 → M_round_L178 k256 n x1 x2 x3 x4 x5 x6 m = some o → GoAt K m [(0, .ref (kB K + 0)), (1, mI x1), (2, mI x2), (3, mI x3), (4, mI x4), (5, mI x5), (6, mI x6)] [] 178 (0, o.1, o.2)
  | 0, x1, x2, x3, x4, x5, x6, m, hm, cx1, cx2, cx3, cx4, cx5, cx6, h => by cases h
  | n + 1, x1, x2, x3, x4, x5, x6, m, hm, cx1, cx2, cx3, cx4, cx5, cx6, h => w_M_round_B178 hk hk256 (w_M_round_L178 hk hk256 n) hm cx1 cx2 cx3 cx4 cx5 cx6 h
set_option maxRecDepth 100000 in
set_option maxHeartbeats 4000000 in
theorem w_M_round_B117 {K : zK} (hk : zOk K kdM cX12_round 7 (some .int) RX12 6) {k269 : Int → Int → zM → Option (Int × zM)} {rec : Int → Int → Int → Int → zM → Option (Int × zM)} {x1 : Int} {x2 : Int} {x3 : Int} {x4 : Int} {m : zM} {o : Int × zM} (hk269 : ∀ (x1 : Int) (x2 : Int) (m : zM), zG kdM m → cI x1 → cI x2 → k269 x1 x2 m = some o → GoAt K m [(0, .ref (kB K + 0)), (1, mI x1), (2, mI x2)] [] 269 (0, o.1, o.2)) (hrec : ∀ (x1 : Int) (x2 : Int) (x3 : Int) (x4 : Int) (m : zM), zG kdM m → cI x1 → cI x2 → cI x3 → cI x4 → rec x1 x2 x3 x4 m = some o → GoAt K m [(0, .ref (kB K + 0)), (1, mI x1), (2, mI x2), (3, mI x3), (4, mI x4)] [] 117 (0, o.1, o.2)) (hm : zG kdM m) (cx1 : cI x1) (cx2 : cI x2) (cx3 : cI x3) (cx4 : cI x4) (h : M_round_B117 k269 rec x1 x2 x3 x4 m = some o) : GoAt K m [(0, .ref (kB K + 0)), (1, mI x1), (2, mI x2), (3, mI x3), (4, mI x4)] [] 117 (0, o.1, o.2) := by
  unfold M_round_B117 at h
  refine g_iload_n hk 3 rfl dX12_round_117 ?_
  refine g_if_eq hk cx3 dX12_round_118 h (fun b1 h => ?_) (fun b1 h => ?_)
  · refine GoAt.sub [0, 1, 2] rfl ?_
    exact hk269 _ _ _ hm cx1 cx2 h
  · refine g_iconst hk (v := 0) rfl dX12_round_121 ?_
    refine g_istore hk (lv' := [(5, mI 0), (0, .ref (kB K + 0)), (1, mI x1), (2, mI x2), (3, mI x3), (4, mI x4)]) (Nat.le_of_ble_eq_true rfl) rfl dX12_round_122 ?_
    refine GoAt.sub [1, 2, 3, 4, 5, 0] rfl ?_
    refine w_M_round_L124 hk (fun x1_2 x2_2 x3_2 x4_2 m3 hm cx1_2 cx2_2 cx3_2 cx4_2 h => ?_) 1000000 _ _ _ _ _ _ hm cx1 cx2 cx3 cx4 (cIk rfl) h
    · refine g_iconst hk (v := 0) rfl dX12_round_172 ?_
      refine g_istore hk (lv' := [(5, mI 0), (0, .ref (kB K + 0)), (1, mI x1_2), (2, mI x2_2), (3, mI x3_2), (4, mI x4_2)]) (Nat.le_of_ble_eq_true rfl) rfl dX12_round_173 ?_
      refine g_iconst hk (v := 0) rfl dX12_round_175 ?_
      refine g_istore hk (lv' := [(6, mI 0), (5, mI 0), (0, .ref (kB K + 0)), (1, mI x1_2), (2, mI x2_2), (3, mI x3_2), (4, mI x4_2)]) (Nat.le_of_ble_eq_true rfl) rfl dX12_round_176 ?_
      refine GoAt.sub [2, 3, 4, 5, 6, 1, 0] rfl ?_
      refine w_M_round_L178 hk (fun x1_4 x2_4 x3_4 x4_4 x5_4 m5 hm cx1_4 cx2_4 cx3_4 cx4_4 cx5_4 h => ?_) 1000000 _ _ _ _ _ _ _ hm cx1_2 cx2_2 cx3_2 cx4_2 (cIk rfl) (cIk rfl) h
      · refine g_iload_n hk 3 rfl dX12_round_256 ?_
        refine g_iload hk 5 rfl dX12_round_257 ?_
        refine g_iconst hk (v := (-1)) rfl dX12_round_259 ?_
        refine g_ixor hk dX12_round_260 ?_
        refine g_iand hk dX12_round_261 ?_
        refine g_let (cI_t _) h (fun v6 cv6 h => ?_)
        refine g_istore_n hk rfl (lv' := [(3, mI v6), (0, .ref (kB K + 0)), (1, mI x1_4), (2, mI x2_4), (4, mI x4_4), (5, mI x5_4)]) (Nat.le_of_ble_eq_true rfl) rfl dX12_round_262 ?_
        refine g_iinc hk (lv' := [(4, mI (wI (x4_4 + 1))), (3, mI v6), (0, .ref (kB K + 0)), (1, mI x1_4), (2, mI x2_4), (5, mI x5_4)]) 4 rfl (Nat.le_of_ble_eq_true rfl) rfl dX12_round_263 ?_
        refine g_goto hk dX12_round_266 ?_
        refine GoAt.sub [2, 3, 4, 1, 0] rfl ?_
        exact hrec _ _ _ _ _ hm cx1_4 cx2_4 cv6 (wI_c _) h
theorem w_M_round_L117 {K : zK} (hk : zOk K kdM cX12_round 7 (some .int) RX12 6) {k269 : Int → Int → zM → Option (Int × zM)} {o : Int × zM} (hk269 : ∀ (x1 : Int) (x2 : Int) (m : zM), zG kdM m → cI x1 → cI x2 → k269 x1 x2 m = some o → GoAt K m [(0, .ref (kB K + 0)), (1, mI x1), (2, mI x2)] [] 269 (0, o.1, o.2)) : ∀ (n : Nat) (x1 : Int) (x2 : Int) (x3 : Int) (x4 : Int) (m : zM), zG kdM m → cI x1 → cI x2 → cI x3 → cI x4 → M_round_L117 k269 n x1 x2 x3 x4 m = some o → GoAt K m [(0, .ref (kB K + 0)), (1, mI x1), (2, mI x2), (3, mI x3), (4, mI x4)] [] 117 (0, o.1, o.2)
  | 0, x1, x2, x3, x4, m, hm, cx1, cx2, cx3, cx4, h => by cases h
  | n + 1, x1, x2, x3, x4, m, hm, cx1, cx2, cx3, cx4, h => w_M_round_B117 hk hk269 (w_M_round_L117 hk hk269 n) hm cx1 cx2 cx3 cx4 h
set_option maxRecDepth 100000 in
set_option maxHeartbeats 4000000 in
theorem w_M_round {K : zK} (hk : zOk K kdM cX12_round 7 (some .int) RX12 6)  {x1 : Int} {x2 : Int} {m : zM} {o : Int × zM}  (hm : zG kdM m) (cx1 : cI x1) (cx2 : cI x2) (h : M_round x1 x2 m = some o) : GoAt K m [(0, .ref (kB K + 0)), (1, mI x1), (2, mI x2)] [] 0 (0, o.1, o.2) := by
  unfold M_round at h
  refine g_aload_n hk 0 rfl dX12_round_0 ?_
  refine g_iload_n hk 1 rfl dX12_round_1 ?_
  obtain ⟨r1, e2, h⟩ := zbind h
  refine g_callVz hk (st := []) mf_X12_isBeast lk_X12_533 mv_X12_isBeast kdM_0 (by decide) rfl (Nat.le_of_ble_eq_true rfl) rfl dX12_round_2 (met_M_isBeast _ _ _ _ _ hk.wd hm cx1 e2) (fun hm c3 => ?_)
  refine g_if_eq hk (b01 c3) dX12_round_5 h (fun b4 h => ?_) (fun b4 h => ?_)
  · refine g_iconst hk (v := (-1)) rfl dX12_round_17 ?_
    exact g_ireturn hk (cIk rfl) dX12_round_18 (by cases h; rfl)
  · refine g_iload_n hk 2 rfl dX12_round_8 ?_
    refine g_iconst hk (v := 0) rfl dX12_round_9 ?_
    refine g_iconst hk (v := 2) rfl dX12_round_10 ?_
    obtain ⟨r5, e6, h⟩ := zbind h
    refine g_callSz hk (st := []) mf_X12_is lk_X12_345 ms_X12_is (by decide) rfl (Nat.le_of_ble_eq_true rfl) rfl dX12_round_11 (met_M_is _ _ _ _ _ hk.wd hm cx2 (cIk rfl) (cIk rfl) e6) (fun hm c7 => ?_)
    refine g_if_ne hk (b01 c7) dX12_round_14 h (fun b8 h => ?_) (fun b8 h => ?_)
    · refine g_iconst hk (v := (-1)) rfl dX12_round_17 ?_
      exact g_ireturn hk (cIk rfl) dX12_round_18 (by cases h; rfl)
    · refine g_iconst hk (v := 0) rfl dX12_round_19 ?_
      refine g_istore_n hk rfl (lv' := [(3, mI 0), (0, .ref (kB K + 0)), (1, mI x1), (2, mI x2)]) (Nat.le_of_ble_eq_true rfl) rfl dX12_round_20 ?_
      refine g_iconst hk (v := 0) rfl dX12_round_21 ?_
      refine g_istore hk (lv' := [(4, mI 0), (3, mI 0), (0, .ref (kB K + 0)), (1, mI x1), (2, mI x2)]) (Nat.le_of_ble_eq_true rfl) rfl dX12_round_22 ?_
      refine GoAt.sub [2, 3, 4, 1, 0] rfl ?_
      refine w_M_round_L24 hk (fun x1_9 x2_9 x3_9 m10 hm cx1_9 cx2_9 cx3_9 h => ?_) 1000000 _ _ _ _ _ hm cx1 cx2 (cIk rfl) (cIk rfl) h
      · refine g_iconst hk (v := 1) rfl dX12_round_114 ?_
        refine g_istore hk (lv' := [(4, mI 1), (0, .ref (kB K + 0)), (1, mI x1_9), (2, mI x2_9), (3, mI x3_9)]) (Nat.le_of_ble_eq_true rfl) rfl dX12_round_115 ?_
        refine GoAt.sub [1, 2, 3, 4, 0] rfl ?_
        refine w_M_round_L117 hk (fun x1_11 x2_11 m12 hm cx1_11 cx2_11 h => ?_) 1000000 _ _ _ _ _ hm cx1_9 cx2_9 cx3_9 (cIk rfl) h
        · refine g_iload_n hk 2 rfl dX12_round_269 ?_
          refine g_if_ne hk cx2_11 dX12_round_270 h (fun b13 h => ?_) (fun b13 h => ?_)
          · refine g_aload_n hk 0 rfl dX12_round_273 ?_
            refine g_get2 hk fl_X12_228 rfl kdM_0 hm (b := 48) rfl dX12_round_274 ?_
            refine g_iload_n hk 1 rfl dX12_round_277 ?_
            refine g_iald hk cx1_11 kdM_48 hm dX12_round_278 h (fun y14 cy14 h => ?_)
            refine g_goto hk dX12_round_279 ?_
            exact g_ireturn hk cy14 dX12_round_302 (by cases h; rfl)
          · refine g_iload_n hk 2 rfl dX12_round_282 ?_
            refine g_iconst hk (v := 1) rfl dX12_round_283 ?_
            refine g_icmp_ne hk cx2_11 (cIk rfl) dX12_round_284 h (fun b15 h => ?_) (fun b15 h => ?_)
            · refine g_aload_n hk 0 rfl dX12_round_287 ?_
              refine g_get2 hk fl_X12_231 rfl kdM_0 hm (b := 49) rfl dX12_round_288 ?_
              refine g_iload_n hk 1 rfl dX12_round_291 ?_
              refine g_iald hk cx1_11 kdM_49 hm dX12_round_292 h (fun y16 cy16 h => ?_)
              refine g_goto hk dX12_round_293 ?_
              exact g_ireturn hk cy16 dX12_round_302 (by cases h; rfl)
            · refine g_aload_n hk 0 rfl dX12_round_296 ?_
              refine g_get2 hk fl_X12_222 rfl kdM_0 hm (b := 46) rfl dX12_round_297 ?_
              refine g_iload_n hk 1 rfl dX12_round_300 ?_
              refine g_iald hk cx1_11 kdM_46 hm dX12_round_301 h (fun y17 cy17 h => ?_)
              exact g_ireturn hk cy17 dX12_round_302 (by cases h; rfl)
theorem met_M_round (l : Launch) (D : va_G) (aC : Nat → ClassId) (B N : Nat) (hwd : ∀ id, (kdM id).1 ≠ 9 → id < N) {x1 : Int} {x2 : Int} {m : zM} {o : Int × zM} (hm : zG kdM m) (cx1 : cI x1) (cx2 : cI x2) (h : M_round x1 x2 m = some o) : zMet l yX12_round cX12_round 7 (some .int) 6 D aC B kdM N [.ref (B + 0), mI x1, mI x2] m (0, o.1, o.2) := by
  refine zMet.of mf_X12_round hwd hm (Nat.le_of_ble_eq_true rfl) (fun K e1 e2 e3 e4 e5 hk => ?_)
  subst e4
  exact w_M_round hk hm cx1 cx2 h
set_option maxRecDepth 100000 in
set_option maxHeartbeats 4000000 in
theorem w_M_walk_B49 {K : zK} (hk : zOk K kdM cX12_walk 9 (some .int) RX12 1) {k108 : Int → Int → Int → zM → Option (Int × zM)} {rec : Int → Int → Int → Int → zM → Option (Int × zM)} {x1 : Int} {x2 : Int} {x3 : Int} {x4 : Int} {m : zM} {o : Int × zM} (hk108 : ∀ (x1 : Int) (x2 : Int) (x3 : Int) (m : zM), zG kdM m → cI x1 → cI x2 → cI x3 → k108 x1 x2 x3 m = some o → GoAt K m [(0, .ref (kB K + 0)), (1, mI x1), (2, mI x2), (3, mI x3)] [] 108 (0, o.1, o.2)) (hrec : ∀ (x1 : Int) (x2 : Int) (x3 : Int) (x4 : Int) (m : zM), zG kdM m → cI x1 → cI x2 → cI x3 → cI x4 → rec x1 x2 x3 x4 m = some o → GoAt K m [(0, .ref (kB K + 0)), (1, mI x1), (2, mI x2), (3, mI x3), (4, mI x4)] [] 49 (0, o.1, o.2)) (hm : zG kdM m) (cx1 : cI x1) (cx2 : cI x2) (cx3 : cI x3) (cx4 : cI x4) (h : M_walk_B49 k108 rec x1 x2 x3 x4 m = some o) : GoAt K m [(0, .ref (kB K + 0)), (1, mI x1), (2, mI x2), (3, mI x3), (4, mI x4)] [] 49 (0, o.1, o.2) := by
  unfold M_walk_B49 at h
  refine g_iload hk 4 rfl dX12_walk_49 ?_
  refine g_aload_n hk 0 rfl dX12_walk_51 ?_
  refine g_get2 hk fl_X12_54 rfl kdM_0 hm (b := 2) rfl dX12_walk_52 ?_
  refine g_aload_n hk 0 rfl dX12_walk_55 ?_
  have g1 := zGI (i := 13) hm kdM_0 rfl
  refine g_get0 hk fl_X12_51 rfl (j := 13) rfl kdM_0 dX12_walk_56 ?_
  refine g_iald hk g1 kdM_2 hm dX12_walk_59 h (fun y2 cy2 h => ?_)
  refine g_icmp_ge hk cx4 cy2 dX12_walk_60 h (fun b3 h => ?_) (fun b3 h => ?_)
  · refine g_aload_n hk 0 rfl dX12_walk_63 ?_
    refine g_get2 hk fl_X12_237 rfl kdM_0 hm (b := 51) rfl dX12_walk_64 ?_
    refine g_iload_n hk 3 rfl dX12_walk_67 ?_
    refine g_dup2 hk rfl rfl dX12_walk_68 ?_
    refine g_iald hk cx3 kdM_51 hm dX12_walk_69 h (fun y4 cy4 h => ?_)
    refine g_iload_n hk 3 rfl dX12_walk_70 ?_
    refine g_iload hk 4 rfl dX12_walk_71 ?_
    obtain ⟨r5, e6, h⟩ := zbind h
    refine g_callSz hk (st := [mI y4, mI x3, .ref (kB K + 51)]) mf_X12_has2 lk_X12_387 ms_X12_has2 (by decide) rfl (Nat.le_of_ble_eq_true rfl) rfl dX12_walk_73 (met_M_has2 _ _ _ _ _ hk.wd hm cx3 cx4 e6) (fun hm c7 => ?_)
    refine g_if_eq hk (b01 c7) dX12_walk_76 h (fun b8 h => ?_) (fun b8 h => ?_)
    · refine g_iconst hk (v := 0) rfl dX12_walk_99 ?_
      refine g_iadd hk dX12_walk_100 ?_
      refine g_iast hk cx3 (wI_c _) kdM_51 hm dX12_walk_101 h (fun m9 hm h => ?_)
      refine g_iinc hk (lv' := [(4, mI (wI (x4 + 1))), (0, .ref (kB K + 0)), (1, mI x1), (2, mI x2), (3, mI x3)]) 4 rfl (Nat.le_of_ble_eq_true rfl) rfl dX12_walk_102 ?_
      refine g_goto hk dX12_walk_105 ?_
      refine GoAt.sub [1, 2, 3, 4, 0] rfl ?_
      exact hrec _ _ _ _ _ hm cx1 cx2 cx3 (wI_c _) h
    · refine g_iconst hk (v := 2) rfl dX12_walk_79 ?_
      refine g_aload_n hk 0 rfl dX12_walk_80 ?_
      refine g_get2 hk fl_X12_63 rfl kdM_0 hm (b := 5) rfl dX12_walk_81 ?_
      refine g_bipush hk (v := 6) rfl dX12_walk_84 ?_
      refine g_aload_n hk 0 rfl dX12_walk_86 ?_
      have g10 := zGI (i := 13) hm kdM_0 rfl
      refine g_get0 hk fl_X12_51 rfl (j := 13) rfl kdM_0 dX12_walk_87 ?_
      refine g_imul hk dX12_walk_90 ?_
      refine g_iload hk 4 rfl dX12_walk_91 ?_
      refine g_iadd hk dX12_walk_93 ?_
      refine g_iald hk (wI_c _) kdM_5 hm dX12_walk_94 h (fun y11 cy11 h => ?_)
      refine g_imul hk dX12_walk_95 ?_
      refine g_goto hk dX12_walk_96 ?_
      refine g_iadd hk dX12_walk_100 ?_
      refine g_iast hk cx3 (wI_c _) kdM_51 hm dX12_walk_101 h (fun m12 hm h => ?_)
      refine g_iinc hk (lv' := [(4, mI (wI (x4 + 1))), (0, .ref (kB K + 0)), (1, mI x1), (2, mI x2), (3, mI x3)]) 4 rfl (Nat.le_of_ble_eq_true rfl) rfl dX12_walk_102 ?_
      refine g_goto hk dX12_walk_105 ?_
      refine GoAt.sub [1, 2, 3, 4, 0] rfl ?_
      exact hrec _ _ _ _ _ hm cx1 cx2 cx3 (wI_c _) h
  · refine GoAt.sub [0, 1, 2, 3] rfl ?_
    exact hk108 _ _ _ _ hm cx1 cx2 cx3 h
theorem w_M_walk_L49 {K : zK} (hk : zOk K kdM cX12_walk 9 (some .int) RX12 1) {k108 : Int → Int → Int → zM → Option (Int × zM)} {o : Int × zM} (hk108 : ∀ (x1 : Int) (x2 : Int) (x3 : Int) (m : zM), zG kdM m → cI x1 → cI x2 → cI x3 → k108 x1 x2 x3 m = some o → GoAt K m [(0, .ref (kB K + 0)), (1, mI x1), (2, mI x2), (3, mI x3)] [] 108 (0, o.1, o.2)) : ∀ (n : Nat) (x1 : Int) (x2 : Int) (x3 : Int) (x4 : Int) (m : zM), zG kdM m → cI x1 → cI x2 → cI x3 → cI x4 → M_walk_L49 k108 n x1 x2 x3 x4 m = some o → GoAt K m [(0, .ref (kB K + 0)), (1, mI x1), (2, mI x2), (3, mI x3), (4, mI x4)] [] 49 (0, o.1, o.2)
  | 0, x1, x2, x3, x4, m, hm, cx1, cx2, cx3, cx4, h => by cases h
  | n + 1, x1, x2, x3, x4, m, hm, cx1, cx2, cx3, cx4, h => w_M_walk_B49 hk hk108 (w_M_walk_L49 hk hk108 n) hm cx1 cx2 cx3 cx4 h
set_option maxRecDepth 100000 in
set_option maxHeartbeats 4000000 in
theorem w_M_walk_B33 {K : zK} (hk : zOk K kdM cX12_walk 9 (some .int) RX12 1) {k131 : Int → Int → zM → Option (Int × zM)} {rec : Int → Int → Int → zM → Option (Int × zM)} {x1 : Int} {x2 : Int} {x3 : Int} {m : zM} {o : Int × zM} (hk131 : ∀ (x1 : Int) (x2 : Int) (m : zM), zG kdM m → cI x1 → cI x2 → k131 x1 x2 m = some o → GoAt K m [(0, .ref (kB K + 0)), (1, mI x1), (2, mI x2)] [] 131 (0, o.1, o.2)) (hrec : ∀ (x1 : Int) (x2 : Int) (x3 : Int) (m : zM), zG kdM m → cI x1 → cI x2 → cI x3 → rec x1 x2 x3 m = some o → GoAt K m [(0, .ref (kB K + 0)), (1, mI x1), (2, mI x2), (3, mI x3)] [] 33 (0, o.1, o.2)) (hm : zG kdM m) (cx1 : cI x1) (cx2 : cI x2) (cx3 : cI x3) (h : M_walk_B33 k131 rec x1 x2 x3 m = some o) : GoAt K m [(0, .ref (kB K + 0)), (1, mI x1), (2, mI x2), (3, mI x3)] [] 33 (0, o.1, o.2) := by
  unfold M_walk_B33 at h
  refine g_iload_n hk 3 rfl dX12_walk_33 ?_
  refine g_bipush hk (v := 64) rfl dX12_walk_34 ?_
  refine g_icmp_ge hk cx3 (cIk rfl) dX12_walk_36 h (fun b1 h => ?_) (fun b1 h => ?_)
  · refine g_aload_n hk 0 rfl dX12_walk_39 ?_
    refine g_get2 hk fl_X12_237 rfl kdM_0 hm (b := 51) rfl dX12_walk_40 ?_
    refine g_iload_n hk 3 rfl dX12_walk_43 ?_
    refine g_iconst hk (v := 0) rfl dX12_walk_44 ?_
    refine g_iast hk cx3 (cIk rfl) kdM_51 hm dX12_walk_45 h (fun m2 hm h => ?_)
    refine g_iconst hk (v := 0) rfl dX12_walk_46 ?_
    refine g_istore hk (lv' := [(4, mI 0), (0, .ref (kB K + 0)), (1, mI x1), (2, mI x2), (3, mI x3)]) (Nat.le_of_ble_eq_true rfl) rfl dX12_walk_47 ?_
    refine GoAt.sub [1, 2, 3, 4, 0] rfl ?_
    refine w_M_walk_L49 hk (fun x1_3 x2_3 x3_3 m4 hm cx1_3 cx2_3 cx3_3 h => ?_) 1000000 _ _ _ _ _ hm cx1 cx2 cx3 (cIk rfl) h
    · refine g_aload_n hk 0 rfl dX12_walk_108 ?_
      refine g_get2 hk fl_X12_234 rfl kdM_0 hm (b := 50) rfl dX12_walk_109 ?_
      refine g_iload_n hk 3 rfl dX12_walk_112 ?_
      refine g_iload_n hk 3 rfl dX12_walk_113 ?_
      refine g_if_ne hk cx3_3 dX12_walk_114 h (fun b5 h => ?_) (fun b5 h => ?_)
      · refine g_iconst hk (v := 0) rfl dX12_walk_117 ?_
        refine g_goto hk dX12_walk_118 ?_
        refine g_iast hk cx3_3 (cIk rfl) kdM_50 hm dX12_walk_124 h (fun m6 hm h => ?_)
        refine g_iinc hk (lv' := [(3, mI (wI (x3_3 + 1))), (0, .ref (kB K + 0)), (1, mI x1_3), (2, mI x2_3)]) 3 rfl (Nat.le_of_ble_eq_true rfl) rfl dX12_walk_125 ?_
        refine g_goto hk dX12_walk_128 ?_
        refine GoAt.sub [1, 2, 3, 0] rfl ?_
        exact hrec _ _ _ _ hm cx1_3 cx2_3 (wI_c _) h
      · refine g_ldcw hk (v := 100000000) cn_X12_554 dX12_walk_121 ?_
        refine g_iast hk cx3_3 (cIk rfl) kdM_50 hm dX12_walk_124 h (fun m7 hm h => ?_)
        refine g_iinc hk (lv' := [(3, mI (wI (x3_3 + 1))), (0, .ref (kB K + 0)), (1, mI x1_3), (2, mI x2_3)]) 3 rfl (Nat.le_of_ble_eq_true rfl) rfl dX12_walk_125 ?_
        refine g_goto hk dX12_walk_128 ?_
        refine GoAt.sub [1, 2, 3, 0] rfl ?_
        exact hrec _ _ _ _ hm cx1_3 cx2_3 (wI_c _) h
  · refine GoAt.sub [0, 1, 2] rfl ?_
    exact hk131 _ _ _ hm cx1 cx2 h
theorem w_M_walk_L33 {K : zK} (hk : zOk K kdM cX12_walk 9 (some .int) RX12 1) {k131 : Int → Int → zM → Option (Int × zM)} {o : Int × zM} (hk131 : ∀ (x1 : Int) (x2 : Int) (m : zM), zG kdM m → cI x1 → cI x2 → k131 x1 x2 m = some o → GoAt K m [(0, .ref (kB K + 0)), (1, mI x1), (2, mI x2)] [] 131 (0, o.1, o.2)) : ∀ (n : Nat) (x1 : Int) (x2 : Int) (x3 : Int) (m : zM), zG kdM m → cI x1 → cI x2 → cI x3 → M_walk_L33 k131 n x1 x2 x3 m = some o → GoAt K m [(0, .ref (kB K + 0)), (1, mI x1), (2, mI x2), (3, mI x3)] [] 33 (0, o.1, o.2)
  | 0, x1, x2, x3, m, hm, cx1, cx2, cx3, h => by cases h
  | n + 1, x1, x2, x3, m, hm, cx1, cx2, cx3, h => w_M_walk_B33 hk hk131 (w_M_walk_L33 hk hk131 n) hm cx1 cx2 cx3 h
set_option maxRecDepth 100000 in
set_option maxHeartbeats 4000000 in
theorem w_M_walk_b218 {K : zK} (hk : zOk K kdM cX12_walk 9 (some .int) RX12 1) {k248 : Int → Int → Int → Int → Int → zM → Option (Int × zM)} {rec : Int → Int → Int → Int → Int → Int → zM → Option (Int × zM)} {x1 : Int} {x2 : Int} {x3 : Int} {x4 : Int} {x5 : Int} {x6 : Int} {s0 : Int} {m : zM} {o : Int × zM} (hk248 : ∀ (x1 : Int) (x2 : Int) (x3 : Int) (x4 : Int) (x5 : Int) (m : zM), zG kdM m → cI x1 → cI x2 → cI x3 → cI x4 → cI x5 → k248 x1 x2 x3 x4 x5 m = some o → GoAt K m [(0, .ref (kB K + 0)), (1, mI x1), (2, mI x2), (3, mI x3), (4, mI x4), (5, mI x5)] [] 248 (0, o.1, o.2)) (hrec : ∀ (x1 : Int) (x2 : Int) (x3 : Int) (x4 : Int) (x5 : Int) (x6 : Int) (m : zM), zG kdM m → cI x1 → cI x2 → cI x3 → cI x4 → cI x5 → cI x6 → rec x1 x2 x3 x4 x5 x6 m = some o → GoAt K m [(0, .ref (kB K + 0)), (1, mI x1), (2, mI x2), (3, mI x3), (4, mI x4), (5, mI x5), (6, mI x6)] [] 168 (0, o.1, o.2)) (hm : zG kdM m) (cx1 : cI x1) (cx2 : cI x2) (cx3 : cI x3) (cx4 : cI x4) (cx5 : cI x5) (cx6 : cI x6) (cs0 : cI s0) (h : M_walk_b218 k248 rec x1 x2 x3 x4 x5 x6 s0 m = some o) : GoAt K m [(0, .ref (kB K + 0)), (1, mI x1), (2, mI x2), (3, mI x3), (4, mI x4), (5, mI x5), (6, mI x6)] [mI s0] 218 (0, o.1, o.2) := by
  unfold M_walk_b218 at h
  refine g_istore hk (lv' := [(8, mI s0), (0, .ref (kB K + 0)), (1, mI x1), (2, mI x2), (3, mI x3), (4, mI x4), (5, mI x5), (6, mI x6)]) (Nat.le_of_ble_eq_true rfl) rfl dX12_walk_218 ?_
  refine g_iload hk 0 rfl dX12_walk_220 ?_
  refine g_iload hk 6 rfl dX12_walk_222 ?_
  refine g_icmp_ge hk cs0 cx5 dX12_walk_224 h (fun b1 h => ?_) (fun b1 h => ?_)
  · refine g_iload hk 0 rfl dX12_walk_227 ?_
    refine g_goto hk dX12_walk_229 ?_
    refine g_istore hk (lv' := [(5, mI s0), (8, mI s0), (0, .ref (kB K + 0)), (1, mI x1), (2, mI x2), (3, mI x3), (4, mI x4), (6, mI x6)]) (Nat.le_of_ble_eq_true rfl) rfl dX12_walk_234 ?_
    refine g_iload hk 7 rfl dX12_walk_236 ?_
    refine g_iconst hk (v := 1) rfl dX12_walk_238 ?_
    refine g_isub hk dX12_walk_239 ?_
    refine g_iload hk 6 rfl dX12_walk_240 ?_
    refine g_iand hk dX12_walk_242 ?_
    refine g_let (cI_t _) h (fun v2 cv2 h => ?_)
    refine g_istore hk (lv' := [(6, mI v2), (5, mI s0), (8, mI s0), (0, .ref (kB K + 0)), (1, mI x1), (2, mI x2), (3, mI x3), (4, mI x4)]) (Nat.le_of_ble_eq_true rfl) rfl dX12_walk_243 ?_
    refine g_goto hk dX12_walk_245 ?_
    refine GoAt.sub [3, 4, 5, 6, 7, 1, 0] rfl ?_
    exact hrec _ _ _ _ _ _ _ hm cx1 cx2 cx3 cx4 cs0 cv2 h
  · refine g_iload hk 6 rfl dX12_walk_232 ?_
    refine g_istore hk (lv' := [(5, mI x5), (8, mI s0), (0, .ref (kB K + 0)), (1, mI x1), (2, mI x2), (3, mI x3), (4, mI x4), (6, mI x6)]) (Nat.le_of_ble_eq_true rfl) rfl dX12_walk_234 ?_
    refine g_iload hk 7 rfl dX12_walk_236 ?_
    refine g_iconst hk (v := 1) rfl dX12_walk_238 ?_
    refine g_isub hk dX12_walk_239 ?_
    refine g_iload hk 6 rfl dX12_walk_240 ?_
    refine g_iand hk dX12_walk_242 ?_
    refine g_let (cI_t _) h (fun v3 cv3 h => ?_)
    refine g_istore hk (lv' := [(6, mI v3), (5, mI x5), (8, mI s0), (0, .ref (kB K + 0)), (1, mI x1), (2, mI x2), (3, mI x3), (4, mI x4)]) (Nat.le_of_ble_eq_true rfl) rfl dX12_walk_243 ?_
    refine g_goto hk dX12_walk_245 ?_
    refine GoAt.sub [3, 4, 5, 6, 7, 1, 0] rfl ?_
    exact hrec _ _ _ _ _ _ _ hm cx1 cx2 cx3 cx4 cx5 cv3 h
set_option maxRecDepth 100000 in
set_option maxHeartbeats 4000000 in
theorem w_M_walk_B168 {K : zK} (hk : zOk K kdM cX12_walk 9 (some .int) RX12 1) {k248 : Int → Int → Int → Int → Int → zM → Option (Int × zM)} {rec : Int → Int → Int → Int → Int → Int → zM → Option (Int × zM)} {x1 : Int} {x2 : Int} {x3 : Int} {x4 : Int} {x5 : Int} {x6 : Int} {m : zM} {o : Int × zM} (hk248 : ∀ (x1 : Int) (x2 : Int) (x3 : Int) (x4 : Int) (x5 : Int) (m : zM), zG kdM m → cI x1 → cI x2 → cI x3 → cI x4 → cI x5 → k248 x1 x2 x3 x4 x5 m = some o → GoAt K m [(0, .ref (kB K + 0)), (1, mI x1), (2, mI x2), (3, mI x3), (4, mI x4), (5, mI x5)] [] 248 (0, o.1, o.2)) (hrec : ∀ (x1 : Int) (x2 : Int) (x3 : Int) (x4 : Int) (x5 : Int) (x6 : Int) (m : zM), zG kdM m → cI x1 → cI x2 → cI x3 → cI x4 → cI x5 → cI x6 → rec x1 x2 x3 x4 x5 x6 m = some o → GoAt K m [(0, .ref (kB K + 0)), (1, mI x1), (2, mI x2), (3, mI x3), (4, mI x4), (5, mI x5), (6, mI x6)] [] 168 (0, o.1, o.2)) (hm : zG kdM m) (cx1 : cI x1) (cx2 : cI x2) (cx3 : cI x3) (cx4 : cI x4) (cx5 : cI x5) (cx6 : cI x6) (h : M_walk_B168 k248 rec x1 x2 x3 x4 x5 x6 m = some o) : GoAt K m [(0, .ref (kB K + 0)), (1, mI x1), (2, mI x2), (3, mI x3), (4, mI x4), (5, mI x5), (6, mI x6)] [] 168 (0, o.1, o.2) := by
  unfold M_walk_B168 at h
  refine g_iload hk 6 rfl dX12_walk_168 ?_
  refine g_if_le hk cx6 dX12_walk_170 h (fun b1 h => ?_) (fun b1 h => ?_)
  · refine g_aload_n hk 0 rfl dX12_walk_173 ?_
    refine g_get2 hk fl_X12_234 rfl kdM_0 hm (b := 50) rfl dX12_walk_174 ?_
    refine g_bipush hk (v := 64) rfl dX12_walk_177 ?_
    refine g_iload_n hk 3 rfl dX12_walk_179 ?_
    refine g_iconst hk (v := 1) rfl dX12_walk_180 ?_
    refine g_isub hk dX12_walk_181 ?_
    refine g_imul hk dX12_walk_182 ?_
    refine g_iload hk 4 rfl dX12_walk_183 ?_
    refine g_iload hk 6 rfl dX12_walk_185 ?_
    refine g_iconst hk (v := (-1)) rfl dX12_walk_187 ?_
    refine g_ixor hk dX12_walk_188 ?_
    refine g_iand hk dX12_walk_189 ?_
    refine g_iadd hk dX12_walk_190 ?_
    refine g_iald hk (wI_c _) kdM_50 hm dX12_walk_191 h (fun y2 cy2 h => ?_)
    refine g_istore hk (lv' := [(7, mI y2), (0, .ref (kB K + 0)), (1, mI x1), (2, mI x2), (3, mI x3), (4, mI x4), (5, mI x5), (6, mI x6)]) (Nat.le_of_ble_eq_true rfl) rfl dX12_walk_192 ?_
    refine g_iload hk 0 rfl dX12_walk_194 ?_
    refine g_aload_n hk 1 rfl dX12_walk_196 ?_
    refine g_get2 hk fl_X12_237 rfl kdM_0 hm (b := 51) rfl dX12_walk_197 ?_
    refine g_iload hk 7 rfl dX12_walk_200 ?_
    refine g_iald hk cx6 kdM_51 hm dX12_walk_202 h (fun y3 cy3 h => ?_)
    refine g_icmp_le hk cy2 cy3 dX12_walk_203 h (fun b4 h => ?_) (fun b4 h => ?_)
    · refine g_iload hk 0 rfl dX12_walk_206 ?_
      refine g_goto hk dX12_walk_208 ?_
      refine GoAt.sub [1, 2, 3, 4, 5, 6, 7] rfl ?_
      exact w_M_walk_b218 hk hk248 hrec hm cx1 cx2 cx3 cx4 cx5 cx6 cy2 h
    · refine g_aload_n hk 1 rfl dX12_walk_211 ?_
      refine g_get2 hk fl_X12_237 rfl kdM_0 hm (b := 51) rfl dX12_walk_212 ?_
      refine g_iload hk 7 rfl dX12_walk_215 ?_
      refine g_iald hk cx6 kdM_51 hm dX12_walk_217 h (fun y5 cy5 h => ?_)
      refine GoAt.sub [1, 2, 3, 4, 5, 6, 7] rfl ?_
      exact w_M_walk_b218 hk hk248 hrec hm cx1 cx2 cx3 cx4 cx5 cx6 cy5 h
  · refine GoAt.sub [0, 1, 2, 3, 4, 5] rfl ?_
    exact hk248 _ _ _ _ _ _ hm cx1 cx2 cx3 cx4 cx5 h
theorem w_M_walk_L168 {K : zK} (hk : zOk K kdM cX12_walk 9 (some .int) RX12 1) {k248 : Int → Int → Int → Int → Int → zM → Option (Int × zM)} {o : Int × zM} (hk248 : ∀ (x1 : Int) (x2 : Int) (x3 : Int) (x4 : Int) (x5 : Int) (m : zM), zG kdM m → cI x1 → cI x2 → cI x3 → cI x4 → cI x5 → k248 x1 x2 x3 x4 x5 m = some o → GoAt K m [(0, .ref (kB K + 0)), (1, mI x1), (2, mI x2), (3, mI x3), (4, mI x4), (5, mI x5)] [] 248 (0, o.1, o.2)) : ∀ (n : Nat) (x1 : Int) (x2 : Int) (x3 : Int) (x4 : Int) (x5 : Int) (x6 : Int) (m : zM), zG kdM m → cI x1 → cI x2 → cI x3 → cI x4 → cI x5 → cI x6 → M_walk_L168 k248 n x1 x2 x3 x4 x5 x6 m = some o → GoAt K m [(0, .ref (kB K + 0)), (1, mI x1), (2, mI x2), (3, mI x3), (4, mI x4), (5, mI x5), (6, mI x6)] [] 168 (0, o.1, o.2)
  | 0, x1, x2, x3, x4, x5, x6, m, hm, cx1, cx2, cx3, cx4, cx5, cx6, h => by cases h
  | n + 1, x1, x2, x3, x4, x5, x6, m, hm, cx1, cx2, cx3, cx4, cx5, cx6, h => w_M_walk_B168 hk hk248 (w_M_walk_L168 hk hk248 n) hm cx1 cx2 cx3 cx4 cx5 cx6 h
set_option maxRecDepth 100000 in
set_option maxHeartbeats 4000000 in
theorem w_M_walk_B141 {K : zK} (hk : zOk K kdM cX12_walk 9 (some .int) RX12 1) {k268 : Int → Int → Int → zM → Option (Int × zM)} {rec : Int → Int → Int → Int → zM → Option (Int × zM)} {x1 : Int} {x2 : Int} {x3 : Int} {x4 : Int} {m : zM} {o : Int × zM} (hk268 : ∀ (x1 : Int) (x2 : Int) (x3 : Int) (m : zM), zG kdM m → cI x1 → cI x2 → cI x3 → k268 x1 x2 x3 m = some o → GoAt K m [(0, .ref (kB K + 0)), (1, mI x1), (2, mI x2), (3, mI x3)] [] 268 (0, o.1, o.2)) (hrec : ∀ (x1 : Int) (x2 : Int) (x3 : Int) (x4 : Int) (m : zM), zG kdM m → cI x1 → cI x2 → cI x3 → cI x4 → rec x1 x2 x3 x4 m = some o → GoAt K m [(0, .ref (kB K + 0)), (1, mI x1), (2, mI x2), (3, mI x3), (4, mI x4)] [] 141 (0, o.1, o.2)) (hm : zG kdM m) (cx1 : cI x1) (cx2 : cI x2) (cx3 : cI x3) (cx4 : cI x4) (h : M_walk_B141 k268 rec x1 x2 x3 x4 m = some o) : GoAt K m [(0, .ref (kB K + 0)), (1, mI x1), (2, mI x2), (3, mI x3), (4, mI x4)] [] 141 (0, o.1, o.2) := by
  unfold M_walk_B141 at h
  refine g_iload hk 4 rfl dX12_walk_141 ?_
  refine g_bipush hk (v := 64) rfl dX12_walk_143 ?_
  refine g_icmp_ge hk cx4 (cIk rfl) dX12_walk_145 h (fun b1 h => ?_) (fun b1 h => ?_)
  · refine g_aload_n hk 0 rfl dX12_walk_148 ?_
    refine g_get2 hk fl_X12_234 rfl kdM_0 hm (b := 50) rfl dX12_walk_149 ?_
    refine g_bipush hk (v := 64) rfl dX12_walk_152 ?_
    refine g_iload_n hk 3 rfl dX12_walk_154 ?_
    refine g_iconst hk (v := 1) rfl dX12_walk_155 ?_
    refine g_isub hk dX12_walk_156 ?_
    refine g_imul hk dX12_walk_157 ?_
    refine g_iload hk 4 rfl dX12_walk_158 ?_
    refine g_iadd hk dX12_walk_160 ?_
    refine g_iald hk (wI_c _) kdM_50 hm dX12_walk_161 h (fun y2 cy2 h => ?_)
    refine g_istore hk (lv' := [(5, mI y2), (0, .ref (kB K + 0)), (1, mI x1), (2, mI x2), (3, mI x3), (4, mI x4)]) (Nat.le_of_ble_eq_true rfl) rfl dX12_walk_162 ?_
    refine g_iload hk 5 rfl dX12_walk_164 ?_
    refine g_istore hk (lv' := [(6, mI x4), (5, mI y2), (0, .ref (kB K + 0)), (1, mI x1), (2, mI x2), (3, mI x3), (4, mI x4)]) (Nat.le_of_ble_eq_true rfl) rfl dX12_walk_166 ?_
    refine GoAt.sub [2, 3, 4, 5, 6, 1, 0] rfl ?_
    refine w_M_walk_L168 hk (fun x1_3 x2_3 x3_3 x4_3 x5_3 m4 hm cx1_3 cx2_3 cx3_3 cx4_3 cx5_3 h => ?_) 1000000 _ _ _ _ _ _ _ hm cx1 cx2 cx3 cx4 cy2 cx4 h
    · refine g_aload_n hk 0 rfl dX12_walk_248 ?_
      refine g_get2 hk fl_X12_234 rfl kdM_0 hm (b := 50) rfl dX12_walk_249 ?_
      refine g_bipush hk (v := 64) rfl dX12_walk_252 ?_
      refine g_iload_n hk 3 rfl dX12_walk_254 ?_
      refine g_imul hk dX12_walk_255 ?_
      refine g_iload hk 4 rfl dX12_walk_256 ?_
      refine g_iadd hk dX12_walk_258 ?_
      refine g_iload hk 5 rfl dX12_walk_259 ?_
      refine g_iast hk (wI_c _) cx5_3 kdM_50 hm dX12_walk_261 h (fun m5 hm h => ?_)
      refine g_iinc hk (lv' := [(4, mI (wI (x4_3 + 1))), (0, .ref (kB K + 0)), (1, mI x1_3), (2, mI x2_3), (3, mI x3_3), (5, mI x5_3)]) 4 rfl (Nat.le_of_ble_eq_true rfl) rfl dX12_walk_262 ?_
      refine g_goto hk dX12_walk_265 ?_
      refine GoAt.sub [1, 2, 3, 4, 0] rfl ?_
      exact hrec _ _ _ _ _ hm cx1_3 cx2_3 cx3_3 (wI_c _) h
  · refine GoAt.sub [0, 1, 2, 3] rfl ?_
    exact hk268 _ _ _ _ hm cx1 cx2 cx3 h
theorem w_M_walk_L141 {K : zK} (hk : zOk K kdM cX12_walk 9 (some .int) RX12 1) {k268 : Int → Int → Int → zM → Option (Int × zM)} {o : Int × zM} (hk268 : ∀ (x1 : Int) (x2 : Int) (x3 : Int) (m : zM), zG kdM m → cI x1 → cI x2 → cI x3 → k268 x1 x2 x3 m = some o → GoAt K m [(0, .ref (kB K + 0)), (1, mI x1), (2, mI x2), (3, mI x3)] [] 268 (0, o.1, o.2)) : ∀ (n : Nat) (x1 : Int) (x2 : Int) (x3 : Int) (x4 : Int) (m : zM), zG kdM m → cI x1 → cI x2 → cI x3 → cI x4 → M_walk_L141 k268 n x1 x2 x3 x4 m = some o → GoAt K m [(0, .ref (kB K + 0)), (1, mI x1), (2, mI x2), (3, mI x3), (4, mI x4)] [] 141 (0, o.1, o.2)
  | 0, x1, x2, x3, x4, m, hm, cx1, cx2, cx3, cx4, h => by cases h
  | n + 1, x1, x2, x3, x4, m, hm, cx1, cx2, cx3, cx4, h => w_M_walk_B141 hk hk268 (w_M_walk_L141 hk hk268 n) hm cx1 cx2 cx3 cx4 h
set_option maxRecDepth 100000 in
set_option maxHeartbeats 4000000 in
theorem w_M_walk_B133 {K : zK} (hk : zOk K kdM cX12_walk 9 (some .int) RX12 1) {rec : Int → Int → Int → zM → Option (Int × zM)} {x1 : Int} {x2 : Int} {x3 : Int} {m : zM} {o : Int × zM} (hrec : ∀ (x1 : Int) (x2 : Int) (x3 : Int) (m : zM), zG kdM m → cI x1 → cI x2 → cI x3 → rec x1 x2 x3 m = some o → GoAt K m [(0, .ref (kB K + 0)), (1, mI x1), (2, mI x2), (3, mI x3)] [] 133 (0, o.1, o.2)) (hm : zG kdM m) (cx1 : cI x1) (cx2 : cI x2) (cx3 : cI x3) (h : M_walk_B133 rec x1 x2 x3 m = some o) : GoAt K m [(0, .ref (kB K + 0)), (1, mI x1), (2, mI x2), (3, mI x3)] [] 133 (0, o.1, o.2) := by
  unfold M_walk_B133 at h
  refine g_iload_n hk 3 rfl dX12_walk_133 ?_
  refine g_iload_n hk 2 rfl dX12_walk_134 ?_
  refine g_icmp_gt hk cx3 cx2 dX12_walk_135 h (fun b1 h => ?_) (fun b1 h => ?_)
  · refine g_aload_n hk 0 rfl dX12_walk_274 ?_
    refine g_get2 hk fl_X12_234 rfl kdM_0 hm (b := 50) rfl dX12_walk_275 ?_
    refine g_bipush hk (v := 64) rfl dX12_walk_278 ?_
    refine g_iload_n hk 2 rfl dX12_walk_280 ?_
    refine g_imul hk dX12_walk_281 ?_
    refine g_iload_n hk 1 rfl dX12_walk_282 ?_
    refine g_iadd hk dX12_walk_283 ?_
    refine g_iald hk (wI_c _) kdM_50 hm dX12_walk_284 h (fun y2 cy2 h => ?_)
    exact g_ireturn hk cy2 dX12_walk_285 (by cases h; rfl)
  · refine g_iconst hk (v := 0) rfl dX12_walk_138 ?_
    refine g_istore hk (lv' := [(4, mI 0), (0, .ref (kB K + 0)), (1, mI x1), (2, mI x2), (3, mI x3)]) (Nat.le_of_ble_eq_true rfl) rfl dX12_walk_139 ?_
    refine GoAt.sub [1, 2, 3, 4, 0] rfl ?_
    refine w_M_walk_L141 hk (fun x1_3 x2_3 x3_3 m4 hm cx1_3 cx2_3 cx3_3 h => ?_) 1000000 _ _ _ _ _ hm cx1 cx2 cx3 (cIk rfl) h
    · refine g_iinc hk (lv' := [(3, mI (wI (x3_3 + 1))), (0, .ref (kB K + 0)), (1, mI x1_3), (2, mI x2_3)]) 3 rfl (Nat.le_of_ble_eq_true rfl) rfl dX12_walk_268 ?_
      refine g_goto hk dX12_walk_271 ?_
      refine GoAt.sub [1, 2, 3, 0] rfl ?_
      exact hrec _ _ _ _ hm cx1_3 cx2_3 (wI_c _) h
theorem w_M_walk_L133 {K : zK} (hk : zOk K kdM cX12_walk 9 (some .int) RX12 1)  {o : Int × zM}  : ∀ (n : Nat) (x1 : Int) (x2 : Int) (x3 : Int) (m : zM), zG kdM m → cI x1 → cI x2 → cI x3 → M_walk_L133 n x1 x2 x3 m = some o → GoAt K m [(0, .ref (kB K + 0)), (1, mI x1), (2, mI x2), (3, mI x3)] [] 133 (0, o.1, o.2)
  | 0, x1, x2, x3, m, hm, cx1, cx2, cx3, h => by cases h
  | n + 1, x1, x2, x3, m, hm, cx1, cx2, cx3, h => w_M_walk_B133 hk  (w_M_walk_L133 hk  n) hm cx1 cx2 cx3 h
set_option maxRecDepth 100000 in
set_option maxHeartbeats 4000000 in
theorem w_M_walk {K : zK} (hk : zOk K kdM cX12_walk 9 (some .int) RX12 1)  {x1 : Int} {x2 : Int} {m : zM} {o : Int × zM}  (hm : zG kdM m) (cx1 : cI x1) (cx2 : cI x2) (h : M_walk x1 x2 m = some o) : GoAt K m [(0, .ref (kB K + 0)), (1, mI x1), (2, mI x2)] [] 0 (0, o.1, o.2) := by
  unfold M_walk at h
  refine g_iload_n hk 1 rfl dX12_walk_0 ?_
  refine g_if_lt hk cx1 dX12_walk_1 h (fun b1 h => ?_) (fun b1 h => ?_)
  · refine g_iconst hk (v := (-1)) rfl dX12_walk_29 ?_
    exact g_ireturn hk (cIk rfl) dX12_walk_30 (by cases h; rfl)
  · refine g_iload_n hk 1 rfl dX12_walk_4 ?_
    refine g_iconst hk (v := 1) rfl dX12_walk_5 ?_
    refine g_aload_n hk 0 rfl dX12_walk_6 ?_
    refine g_get2 hk fl_X12_54 rfl kdM_0 hm (b := 2) rfl dX12_walk_7 ?_
    refine g_aload_n hk 0 rfl dX12_walk_10 ?_
    have g2 := zGI (i := 13) hm kdM_0 rfl
    refine g_get0 hk fl_X12_51 rfl (j := 13) rfl kdM_0 dX12_walk_11 ?_
    refine g_iald hk g2 kdM_2 hm dX12_walk_14 h (fun y3 cy3 h => ?_)
    refine g_ishl hk dX12_walk_15 ?_
    refine g_icmp_ge hk cx1 (cI_t _) dX12_walk_16 h (fun b4 h => ?_) (fun b4 h => ?_)
    · refine g_iload_n hk 2 rfl dX12_walk_19 ?_
      refine g_iconst hk (v := 1) rfl dX12_walk_20 ?_
      refine g_bipush hk (v := 6) rfl dX12_walk_21 ?_
      obtain ⟨r5, e6, h⟩ := zbind h
      refine g_callSz hk (st := []) mf_X12_is lk_X12_345 ms_X12_is (by decide) rfl (Nat.le_of_ble_eq_true rfl) rfl dX12_walk_23 (met_M_is _ _ _ _ _ hk.wd hm cx2 (cIk rfl) (cIk rfl) e6) (fun hm c7 => ?_)
      refine g_if_ne hk (b01 c7) dX12_walk_26 h (fun b8 h => ?_) (fun b8 h => ?_)
      · refine g_iconst hk (v := (-1)) rfl dX12_walk_29 ?_
        exact g_ireturn hk (cIk rfl) dX12_walk_30 (by cases h; rfl)
      · refine g_iconst hk (v := 0) rfl dX12_walk_31 ?_
        refine g_istore_n hk rfl (lv' := [(3, mI 0), (0, .ref (kB K + 0)), (1, mI x1), (2, mI x2)]) (Nat.le_of_ble_eq_true rfl) rfl dX12_walk_32 ?_
        refine GoAt.sub [1, 2, 3, 0] rfl ?_
        refine w_M_walk_L33 hk (fun x1_9 x2_9 m10 hm cx1_9 cx2_9 h => ?_) 1000000 _ _ _ _ hm cx1 cx2 (cIk rfl) h
        · refine g_iconst hk (v := 1) rfl dX12_walk_131 ?_
          refine g_istore_n hk rfl (lv' := [(3, mI 1), (0, .ref (kB K + 0)), (1, mI x1_9), (2, mI x2_9)]) (Nat.le_of_ble_eq_true rfl) rfl dX12_walk_132 ?_
          refine GoAt.sub [1, 2, 3, 0] rfl ?_
          refine w_M_walk_L133 hk  1000000 _ _ _ _ hm cx1_9 cx2_9 (cIk rfl) h
    · refine g_iconst hk (v := (-1)) rfl dX12_walk_29 ?_
      exact g_ireturn hk (cIk rfl) dX12_walk_30 (by cases h; rfl)
theorem met_M_walk (l : Launch) (D : va_G) (aC : Nat → ClassId) (B N : Nat) (hwd : ∀ id, (kdM id).1 ≠ 9 → id < N) {x1 : Int} {x2 : Int} {m : zM} {o : Int × zM} (hm : zG kdM m) (cx1 : cI x1) (cx2 : cI x2) (h : M_walk x1 x2 m = some o) : zMet l yX12_walk cX12_walk 9 (some .int) 1 D aC B kdM N [.ref (B + 0), mI x1, mI x2] m (0, o.1, o.2) := by
  refine zMet.of mf_X12_walk hwd hm (Nat.le_of_ble_eq_true rfl) (fun K e1 e2 e3 e4 e5 hk => ?_)
  subst e4
  exact w_M_walk hk hm cx1 cx2 h
set_option maxRecDepth 100000 in
set_option maxHeartbeats 4000000 in
theorem w_M_torn_B34 {K : zK} (hk : zOk K kdM cX12_torn 6 (some .int) RX12 7) {k83 : Int → Int → zM → Option (Int × zM)} {rec : Int → Int → Int → zM → Option (Int × zM)} {x1 : Int} {x2 : Int} {x3 : Int} {m : zM} {o : Int × zM} (hk83 : ∀ (x1 : Int) (x2 : Int) (m : zM), zG kdM m → cI x1 → zok 4 x2 → k83 x1 x2 m = some o → GoAt K m [(0, .ref (kB K + 0)), (1, mI x1), (2, mI x2)] [] 83 (0, o.1, o.2)) (hrec : ∀ (x1 : Int) (x2 : Int) (x3 : Int) (m : zM), zG kdM m → cI x1 → zok 4 x2 → cI x3 → rec x1 x2 x3 m = some o → GoAt K m [(0, .ref (kB K + 0)), (1, mI x1), (2, mI x2), (3, mI x3)] [] 34 (0, o.1, o.2)) (hm : zG kdM m) (cx1 : cI x1) (zx2 : zok 4 x2) (cx3 : cI x3) (h : M_torn_B34 k83 rec x1 x2 x3 m = some o) : GoAt K m [(0, .ref (kB K + 0)), (1, mI x1), (2, mI x2), (3, mI x3)] [] 34 (0, o.1, o.2) := by
  unfold M_torn_B34 at h
  refine g_iload_n hk 3 rfl dX12_torn_34 ?_
  refine g_iload_n hk 1 rfl dX12_torn_35 ?_
  refine g_icmp_ge hk cx3 cx1 dX12_torn_36 h (fun b1 h => ?_) (fun b1 h => ?_)
  · refine g_iload_n hk 2 rfl dX12_torn_39 ?_
    refine g_if_eq hk (b01 zx2) dX12_torn_40 h (fun b2 h => ?_) (fun b2 h => ?_)
    · refine GoAt.sub [0, 1, 2] rfl ?_
      exact hk83 _ _ _ hm cx1 zx2 h
    · refine g_aload_n hk 0 rfl dX12_torn_43 ?_
      refine g_aload_n hk 0 rfl dX12_torn_44 ?_
      refine g_get2 hk fl_X12_7 rfl kdM_0 hm (b := 1) rfl dX12_torn_45 ?_
      refine g_iload_n hk 3 rfl dX12_torn_48 ?_
      refine g_iald hk cx3 kdM_1 hm dX12_torn_49 h (fun y3 cy3 h => ?_)
      obtain ⟨r4, e5, h⟩ := zbind h
      refine g_callVz hk (st := []) mf_X12_isBeast lk_X12_533 mv_X12_isBeast kdM_0 (by decide) rfl (Nat.le_of_ble_eq_true rfl) rfl dX12_torn_50 (met_M_isBeast _ _ _ _ _ hk.wd hm cy3 e5) (fun hm c6 => ?_)
      refine g_if_eq hk (b01 c6) dX12_torn_53 h (fun b7 h => ?_) (fun b7 h => ?_)
      · refine g_iconst hk (v := 0) rfl dX12_torn_75 ?_
        refine g_istore_n hk rfl (lv' := [(2, mI 0), (0, .ref (kB K + 0)), (1, mI x1), (3, mI x3)]) (Nat.le_of_ble_eq_true rfl) rfl dX12_torn_76 ?_
        refine g_iinc hk (lv' := [(3, mI (wI (x3 + 2))), (2, mI 0), (0, .ref (kB K + 0)), (1, mI x1)]) 3 rfl (Nat.le_of_ble_eq_true rfl) rfl dX12_torn_77 ?_
        refine g_goto hk dX12_torn_80 ?_
        refine GoAt.sub [2, 3, 1, 0] rfl ?_
        exact hrec _ _ _ _ hm cx1 z0 (wI_c _) h
      · refine g_aload_n hk 0 rfl dX12_torn_56 ?_
        refine g_aload_n hk 0 rfl dX12_torn_57 ?_
        refine g_get2 hk fl_X12_7 rfl kdM_0 hm (b := 1) rfl dX12_torn_58 ?_
        refine g_iload_n hk 3 rfl dX12_torn_61 ?_
        refine g_iconst hk (v := 1) rfl dX12_torn_62 ?_
        refine g_iadd hk dX12_torn_63 ?_
        refine g_iald hk (wI_c _) kdM_1 hm dX12_torn_64 h (fun y8 cy8 h => ?_)
        obtain ⟨r9, e10, h⟩ := zbind h
        refine g_callVz hk (st := []) mf_X12_isGuest lk_X12_536 mv_X12_isGuest kdM_0 (by decide) rfl (Nat.le_of_ble_eq_true rfl) rfl dX12_torn_65 (met_M_isGuest _ _ _ _ _ hk.wd hm cy8 e10) (fun hm c11 => ?_)
        refine g_if_eq hk (b01 c11) dX12_torn_68 h (fun b12 h => ?_) (fun b12 h => ?_)
        · refine g_iconst hk (v := 0) rfl dX12_torn_75 ?_
          refine g_istore_n hk rfl (lv' := [(2, mI 0), (0, .ref (kB K + 0)), (1, mI x1), (3, mI x3)]) (Nat.le_of_ble_eq_true rfl) rfl dX12_torn_76 ?_
          refine g_iinc hk (lv' := [(3, mI (wI (x3 + 2))), (2, mI 0), (0, .ref (kB K + 0)), (1, mI x1)]) 3 rfl (Nat.le_of_ble_eq_true rfl) rfl dX12_torn_77 ?_
          refine g_goto hk dX12_torn_80 ?_
          refine GoAt.sub [2, 3, 1, 0] rfl ?_
          exact hrec _ _ _ _ hm cx1 z0 (wI_c _) h
        · refine g_iconst hk (v := 1) rfl dX12_torn_71 ?_
          refine g_goto hk dX12_torn_72 ?_
          refine g_istore_n hk rfl (lv' := [(2, mI 1), (0, .ref (kB K + 0)), (1, mI x1), (3, mI x3)]) (Nat.le_of_ble_eq_true rfl) rfl dX12_torn_76 ?_
          refine g_iinc hk (lv' := [(3, mI (wI (x3 + 2))), (2, mI 1), (0, .ref (kB K + 0)), (1, mI x1)]) 3 rfl (Nat.le_of_ble_eq_true rfl) rfl dX12_torn_77 ?_
          refine g_goto hk dX12_torn_80 ?_
          refine GoAt.sub [2, 3, 1, 0] rfl ?_
          exact hrec _ _ _ _ hm cx1 z1 (wI_c _) h
  · refine GoAt.sub [0, 1, 2] rfl ?_
    exact hk83 _ _ _ hm cx1 zx2 h
theorem w_M_torn_L34 {K : zK} (hk : zOk K kdM cX12_torn 6 (some .int) RX12 7) {k83 : Int → Int → zM → Option (Int × zM)} {o : Int × zM} (hk83 : ∀ (x1 : Int) (x2 : Int) (m : zM), zG kdM m → cI x1 → zok 4 x2 → k83 x1 x2 m = some o → GoAt K m [(0, .ref (kB K + 0)), (1, mI x1), (2, mI x2)] [] 83 (0, o.1, o.2)) : ∀ (n : Nat) (x1 : Int) (x2 : Int) (x3 : Int) (m : zM), zG kdM m → cI x1 → zok 4 x2 → cI x3 → M_torn_L34 k83 n x1 x2 x3 m = some o → GoAt K m [(0, .ref (kB K + 0)), (1, mI x1), (2, mI x2), (3, mI x3)] [] 34 (0, o.1, o.2)
  | 0, x1, x2, x3, m, hm, cx1, zx2, cx3, h => by cases h
  | n + 1, x1, x2, x3, m, hm, cx1, zx2, cx3, h => w_M_torn_B34 hk hk83 (w_M_torn_L34 hk hk83 n) hm cx1 zx2 cx3 h
set_option maxRecDepth 100000 in
set_option maxHeartbeats 4000000 in
theorem w_M_torn_B125 {K : zK} (hk : zOk K kdM cX12_torn 6 (some .int) RX12 7) {k203 : Int → Int → Int → zM → Option (Int × zM)} {rec : Int → Int → Int → Int → zM → Option (Int × zM)} {x1 : Int} {x3 : Int} {x4 : Int} {x5 : Int} {m : zM} {o : Int × zM} (hk203 : ∀ (x1 : Int) (x3 : Int) (x4 : Int) (m : zM), zG kdM m → cI x1 → cI x3 → cI x4 → k203 x1 x3 x4 m = some o → GoAt K m [(0, .ref (kB K + 0)), (1, mI x1), (3, mI x3), (4, mI x4)] [] 203 (0, o.1, o.2)) (hrec : ∀ (x1 : Int) (x3 : Int) (x4 : Int) (x5 : Int) (m : zM), zG kdM m → cI x1 → cI x3 → cI x4 → cI x5 → rec x1 x3 x4 x5 m = some o → GoAt K m [(0, .ref (kB K + 0)), (1, mI x1), (3, mI x3), (4, mI x4), (5, mI x5)] [] 125 (0, o.1, o.2)) (hm : zG kdM m) (cx1 : cI x1) (cx3 : cI x3) (cx4 : cI x4) (cx5 : cI x5) (h : M_torn_B125 k203 rec x1 x3 x4 x5 m = some o) : GoAt K m [(0, .ref (kB K + 0)), (1, mI x1), (3, mI x3), (4, mI x4), (5, mI x5)] [] 125 (0, o.1, o.2) := by
  unfold M_torn_B125 at h
  refine g_iload hk 4 rfl dX12_torn_125 ?_
  refine g_aload_n hk 0 rfl dX12_torn_127 ?_
  refine g_get2 hk fl_X12_54 rfl kdM_0 hm (b := 2) rfl dX12_torn_128 ?_
  refine g_aload_n hk 0 rfl dX12_torn_131 ?_
  have g1 := zGI (i := 13) hm kdM_0 rfl
  refine g_get0 hk fl_X12_51 rfl (j := 13) rfl kdM_0 dX12_torn_132 ?_
  refine g_iald hk g1 kdM_2 hm dX12_torn_135 h (fun y2 cy2 h => ?_)
  refine g_icmp_ge hk cx5 cy2 dX12_torn_136 h (fun b3 h => ?_) (fun b3 h => ?_)
  · refine g_iload_n hk 2 rfl dX12_torn_139 ?_
    refine g_iload_n hk 1 rfl dX12_torn_140 ?_
    refine g_icmp_ge hk cx3 cx1 dX12_torn_141 h (fun b4 h => ?_) (fun b4 h => ?_)
    · refine g_aload_n hk 0 rfl dX12_torn_144 ?_
      refine g_get2 hk fl_X12_198 rfl kdM_0 hm (b := 39) rfl dX12_torn_145 ?_
      refine g_iload hk 4 rfl dX12_torn_148 ?_
      refine g_iald hk cx5 kdM_39 hm dX12_torn_150 h (fun y5 cy5 h => ?_)
      refine g_iconst hk (v := (-1)) rfl dX12_torn_151 ?_
      refine g_icmp_eq hk cy5 (cIk rfl) dX12_torn_152 h (fun b6 h => ?_) (fun b6 h => ?_)
      · refine g_iinc hk (lv' := [(5, mI (wI (x5 + 1))), (0, .ref (kB K + 0)), (1, mI x1), (3, mI x3), (4, mI x4)]) 4 rfl (Nat.le_of_ble_eq_true rfl) rfl dX12_torn_197 ?_
        refine g_goto hk dX12_torn_200 ?_
        refine GoAt.sub [1, 2, 3, 4, 0] rfl ?_
        exact hrec _ _ _ _ _ hm cx1 cx3 cx4 (wI_c _) h
      · refine g_aload_n hk 0 rfl dX12_torn_155 ?_
        refine g_get2 hk fl_X12_201 rfl kdM_0 hm (b := 40) rfl dX12_torn_156 ?_
        refine g_iload hk 4 rfl dX12_torn_159 ?_
        refine g_iald hk cx5 kdM_40 hm dX12_torn_161 h (fun y7 cy7 h => ?_)
        refine g_if_eq hk cy7 dX12_torn_162 h (fun b8 h => ?_) (fun b8 h => ?_)
        · refine g_iinc hk (lv' := [(5, mI (wI (x5 + 1))), (0, .ref (kB K + 0)), (1, mI x1), (3, mI x3), (4, mI x4)]) 4 rfl (Nat.le_of_ble_eq_true rfl) rfl dX12_torn_197 ?_
          refine g_goto hk dX12_torn_200 ?_
          refine GoAt.sub [1, 2, 3, 4, 0] rfl ?_
          exact hrec _ _ _ _ _ hm cx1 cx3 cx4 (wI_c _) h
        · refine g_aload_n hk 0 rfl dX12_torn_165 ?_
          refine g_get2 hk fl_X12_7 rfl kdM_0 hm (b := 1) rfl dX12_torn_166 ?_
          refine g_iload_n hk 2 rfl dX12_torn_169 ?_
          refine g_iald hk cx3 kdM_1 hm dX12_torn_170 h (fun y9 cy9 h => ?_)
          refine g_iload hk 4 rfl dX12_torn_171 ?_
          refine g_icmp_ne hk cy9 cx5 dX12_torn_173 h (fun b10 h => ?_) (fun b10 h => ?_)
          · refine g_aload_n hk 0 rfl dX12_torn_176 ?_
            refine g_get2 hk fl_X12_7 rfl kdM_0 hm (b := 1) rfl dX12_torn_177 ?_
            refine g_iload_n hk 2 rfl dX12_torn_180 ?_
            refine g_iconst hk (v := 1) rfl dX12_torn_181 ?_
            refine g_iadd hk dX12_torn_182 ?_
            refine g_iald hk (wI_c _) kdM_1 hm dX12_torn_183 h (fun y11 cy11 h => ?_)
            refine g_aload_n hk 0 rfl dX12_torn_184 ?_
            refine g_get2 hk fl_X12_198 rfl kdM_0 hm (b := 39) rfl dX12_torn_185 ?_
            refine g_iload hk 4 rfl dX12_torn_188 ?_
            refine g_iald hk cx5 kdM_39 hm dX12_torn_190 h (fun y12 cy12 h => ?_)
            refine g_icmp_ne hk cy11 cy12 dX12_torn_191 h (fun b13 h => ?_) (fun b13 h => ?_)
            · refine g_iinc hk (lv' := [(3, mI (wI (x3 + 2))), (0, .ref (kB K + 0)), (1, mI x1), (4, mI x4), (5, mI x5)]) 2 rfl (Nat.le_of_ble_eq_true rfl) rfl dX12_torn_194 ?_
              refine g_iinc hk (lv' := [(5, mI (wI (x5 + 1))), (3, mI (wI (x3 + 2))), (0, .ref (kB K + 0)), (1, mI x1), (4, mI x4)]) 4 rfl (Nat.le_of_ble_eq_true rfl) rfl dX12_torn_197 ?_
              refine g_goto hk dX12_torn_200 ?_
              refine GoAt.sub [2, 3, 1, 4, 0] rfl ?_
              exact hrec _ _ _ _ _ hm cx1 (wI_c _) cx4 (wI_c _) h
            · refine g_iinc hk (lv' := [(5, mI (wI (x5 + 1))), (0, .ref (kB K + 0)), (1, mI x1), (3, mI x3), (4, mI x4)]) 4 rfl (Nat.le_of_ble_eq_true rfl) rfl dX12_torn_197 ?_
              refine g_goto hk dX12_torn_200 ?_
              refine GoAt.sub [1, 2, 3, 4, 0] rfl ?_
              exact hrec _ _ _ _ _ hm cx1 cx3 cx4 (wI_c _) h
          · refine g_iinc hk (lv' := [(5, mI (wI (x5 + 1))), (0, .ref (kB K + 0)), (1, mI x1), (3, mI x3), (4, mI x4)]) 4 rfl (Nat.le_of_ble_eq_true rfl) rfl dX12_torn_197 ?_
            refine g_goto hk dX12_torn_200 ?_
            refine GoAt.sub [1, 2, 3, 4, 0] rfl ?_
            exact hrec _ _ _ _ _ hm cx1 cx3 cx4 (wI_c _) h
    · refine GoAt.sub [0, 1, 2, 3] rfl ?_
      exact hk203 _ _ _ _ hm cx1 cx3 cx4 h
  · refine GoAt.sub [0, 1, 2, 3] rfl ?_
    exact hk203 _ _ _ _ hm cx1 cx3 cx4 h
theorem w_M_torn_L125 {K : zK} (hk : zOk K kdM cX12_torn 6 (some .int) RX12 7) {k203 : Int → Int → Int → zM → Option (Int × zM)} {o : Int × zM} (hk203 : ∀ (x1 : Int) (x3 : Int) (x4 : Int) (m : zM), zG kdM m → cI x1 → cI x3 → cI x4 → k203 x1 x3 x4 m = some o → GoAt K m [(0, .ref (kB K + 0)), (1, mI x1), (3, mI x3), (4, mI x4)] [] 203 (0, o.1, o.2)) : ∀ (n : Nat) (x1 : Int) (x3 : Int) (x4 : Int) (x5 : Int) (m : zM), zG kdM m → cI x1 → cI x3 → cI x4 → cI x5 → M_torn_L125 k203 n x1 x3 x4 x5 m = some o → GoAt K m [(0, .ref (kB K + 0)), (1, mI x1), (3, mI x3), (4, mI x4), (5, mI x5)] [] 125 (0, o.1, o.2)
  | 0, x1, x3, x4, x5, m, hm, cx1, cx3, cx4, cx5, h => by cases h
  | n + 1, x1, x3, x4, x5, m, hm, cx1, cx3, cx4, cx5, h => w_M_torn_B125 hk hk203 (w_M_torn_L125 hk hk203 n) hm cx1 cx3 cx4 cx5 h
set_option maxRecDepth 100000 in
set_option maxHeartbeats 4000000 in
theorem w_M_torn_b203 {K : zK} (hk : zOk K kdM cX12_torn 6 (some .int) RX12 7) {rec : Int → Int → Int → zM → Option (Int × zM)} {x1 : Int} {x3 : Int} {x4 : Int} {m : zM} {o : Int × zM} (hrec : ∀ (x1 : Int) (x3 : Int) (x4 : Int) (m : zM), zG kdM m → cI x1 → cI x3 → cI x4 → rec x1 x3 x4 m = some o → GoAt K m [(0, .ref (kB K + 0)), (1, mI x1), (3, mI x3), (4, mI x4)] [] 104 (0, o.1, o.2)) (hm : zG kdM m) (cx1 : cI x1) (cx3 : cI x3) (cx4 : cI x4) (h : M_torn_b203 rec x1 x3 x4 m = some o) : GoAt K m [(0, .ref (kB K + 0)), (1, mI x1), (3, mI x3), (4, mI x4)] [] 203 (0, o.1, o.2) := by
  unfold M_torn_b203 at h
  refine g_iload_n hk 2 rfl dX12_torn_203 ?_
  refine g_iload_n hk 1 rfl dX12_torn_204 ?_
  refine g_icmp_ne hk cx3 cx1 dX12_torn_205 h (fun b1 h => ?_) (fun b1 h => ?_)
  · refine g_iload hk 3 rfl dX12_torn_208 ?_
    exact g_ireturn hk cx4 dX12_torn_210 (by cases h; rfl)
  · refine g_aload_n hk 0 rfl dX12_torn_211 ?_
    refine g_iconst hk (v := 1) rfl dX12_torn_212 ?_
    obtain ⟨r2, e3, h⟩ := zbind h
    refine g_callVv hk (st := []) mf_X12_isOver lk_X12_545 mv_X12_isOver kdM_0 (by decide) rfl (Nat.le_of_ble_eq_true rfl) rfl dX12_torn_213 (met_M_isOver _ _ _ _ _ hk.wd hm (cIk rfl) e3) (fun hm => ?_)
    refine g_iinc hk (lv' := [(4, mI (wI (x4 + 1))), (0, .ref (kB K + 0)), (1, mI x1), (3, mI x3)]) 3 rfl (Nat.le_of_ble_eq_true rfl) rfl dX12_torn_216 ?_
    refine g_goto hk dX12_torn_219 ?_
    refine GoAt.sub [1, 2, 3, 0] rfl ?_
    exact hrec _ _ _ _ hm cx1 cx3 (wI_c _) h
set_option maxRecDepth 100000 in
set_option maxHeartbeats 4000000 in
theorem w_M_torn_B104 {K : zK} (hk : zOk K kdM cX12_torn 6 (some .int) RX12 7) {rec : Int → Int → Int → zM → Option (Int × zM)} {x1 : Int} {x3 : Int} {x4 : Int} {m : zM} {o : Int × zM} (hrec : ∀ (x1 : Int) (x3 : Int) (x4 : Int) (m : zM), zG kdM m → cI x1 → cI x3 → cI x4 → rec x1 x3 x4 m = some o → GoAt K m [(0, .ref (kB K + 0)), (1, mI x1), (3, mI x3), (4, mI x4)] [] 104 (0, o.1, o.2)) (hm : zG kdM m) (cx1 : cI x1) (cx3 : cI x3) (cx4 : cI x4) (h : M_torn_B104 rec x1 x3 x4 m = some o) : GoAt K m [(0, .ref (kB K + 0)), (1, mI x1), (3, mI x3), (4, mI x4)] [] 104 (0, o.1, o.2) := by
  unfold M_torn_B104 at h
  refine g_aload_n hk 0 rfl dX12_torn_104 ?_
  refine g_iload hk 3 rfl dX12_torn_105 ?_
  refine g_iconst hk (v := 1) rfl dX12_torn_107 ?_
  refine g_bipush hk (v := 100) rfl dX12_torn_108 ?_
  obtain ⟨r1, e2, h⟩ := zbind h
  refine g_callVz hk (st := []) mf_X12_isAhead lk_X12_539 mv_X12_isAhead kdM_0 (by decide) rfl (Nat.le_of_ble_eq_true rfl) rfl dX12_torn_110 (met_M_isAhead _ _ _ _ _ hk.wd hm cx4 (cIk rfl) (cIk rfl) e2) (fun hm c3 => ?_)
  refine g_if_eq hk (b01 c3) dX12_torn_113 h (fun b4 h => ?_) (fun b4 h => ?_)
  · refine g_iconst hk (v := (-1)) rfl dX12_torn_222 ?_
    exact g_ireturn hk (cIk rfl) dX12_torn_223 (by cases h; rfl)
  · refine g_aload_n hk 0 rfl dX12_torn_116 ?_
    refine g_iconst hk (v := 1) rfl dX12_torn_117 ?_
    obtain ⟨r5, e6, h⟩ := zbind h
    refine g_callVi hk (st := []) mf_X12_asking lk_X12_542 mv_X12_asking kdM_0 (by decide) rfl (Nat.le_of_ble_eq_true rfl) rfl dX12_torn_118 (met_M_asking _ _ _ _ _ hk.wd hm (cIk rfl) e6) (fun hm c7 => ?_)
    refine g_pop hk rfl dX12_torn_121 ?_
    refine g_iconst hk (v := 0) rfl dX12_torn_122 ?_
    refine g_istore hk (lv' := [(5, mI 0), (0, .ref (kB K + 0)), (1, mI x1), (3, mI x3), (4, mI x4)]) (Nat.le_of_ble_eq_true rfl) rfl dX12_torn_123 ?_
    refine GoAt.sub [1, 2, 3, 4, 0] rfl ?_
    refine w_M_torn_L125 hk (fun x1_8 x3_8 x4_8 m9 hm cx1_8 cx3_8 cx4_8 h => ?_) 1000000 _ _ _ _ _ hm cx1 cx3 cx4 (cIk rfl) h
    · exact w_M_torn_b203 hk hrec hm cx1_8 cx3_8 cx4_8 h
theorem w_M_torn_L104 {K : zK} (hk : zOk K kdM cX12_torn 6 (some .int) RX12 7)  {o : Int × zM}  : ∀ (n : Nat) (x1 : Int) (x3 : Int) (x4 : Int) (m : zM), zG kdM m → cI x1 → cI x3 → cI x4 → M_torn_L104 n x1 x3 x4 m = some o → GoAt K m [(0, .ref (kB K + 0)), (1, mI x1), (3, mI x3), (4, mI x4)] [] 104 (0, o.1, o.2)
  | 0, x1, x3, x4, m, hm, cx1, cx3, cx4, h => by cases h
  | n + 1, x1, x3, x4, m, hm, cx1, cx3, cx4, h => w_M_torn_B104 hk  (w_M_torn_L104 hk  n) hm cx1 cx3 cx4 h
set_option maxRecDepth 100000 in
set_option maxHeartbeats 4000000 in
theorem w_M_torn_b83 {K : zK} (hk : zOk K kdM cX12_torn 6 (some .int) RX12 7)  {x1 : Int} {x2 : Int} {m : zM} {o : Int × zM}  (hm : zG kdM m) (cx1 : cI x1) (zx2 : zok 4 x2) (h : M_torn_b83 x1 x2 m = some o) : GoAt K m [(0, .ref (kB K + 0)), (1, mI x1), (2, mI x2)] [] 83 (0, o.1, o.2) := by
  unfold M_torn_b83 at h
  refine g_iload_n hk 2 rfl dX12_torn_83 ?_
  refine g_if_ne hk (b01 zx2) dX12_torn_84 h (fun b1 h => ?_) (fun b1 h => ?_)
  · refine g_aload_n hk 0 rfl dX12_torn_87 ?_
    refine g_iconst hk (v := 5) rfl dX12_torn_88 ?_
    obtain ⟨r2, e3, h⟩ := zbind h
    refine g_callVi hk (st := []) mf_X12_refuses lk_X12_250 mv_X12_refuses kdM_0 (by decide) rfl (Nat.le_of_ble_eq_true rfl) rfl dX12_torn_89 (met_M_refuses _ _ _ _ _ hk.wd hm (cIk rfl) e3) (fun hm c4 => ?_)
    exact g_ireturn hk c4 dX12_torn_92 (by cases h; rfl)
  · refine g_aload_n hk 0 rfl dX12_torn_93 ?_
    refine g_iconst hk (v := 1) rfl dX12_torn_94 ?_
    refine g_iconst hk (v := 0) rfl dX12_torn_95 ?_
    obtain ⟨r5, e6, h⟩ := zbind h
    refine g_callVv hk (st := []) mf_X12_copies lk_X12_452 mv_X12_copies kdM_0 (by decide) rfl (Nat.le_of_ble_eq_true rfl) rfl dX12_torn_96 (met_M_copies _ _ _ _ _ hk.wd hm (cIk rfl) (cIk rfl) e6) (fun hm => ?_)
    refine g_iconst hk (v := 0) rfl dX12_torn_99 ?_
    refine g_istore_n hk rfl (lv' := [(3, mI 0), (0, .ref (kB K + 0)), (1, mI x1), (2, mI x2)]) (Nat.le_of_ble_eq_true rfl) rfl dX12_torn_100 ?_
    refine g_iconst hk (v := 1) rfl dX12_torn_101 ?_
    refine g_istore hk (lv' := [(4, mI 1), (3, mI 0), (0, .ref (kB K + 0)), (1, mI x1), (2, mI x2)]) (Nat.le_of_ble_eq_true rfl) rfl dX12_torn_102 ?_
    refine GoAt.sub [2, 3, 1, 0] rfl ?_
    refine w_M_torn_L104 hk  1000000 _ _ _ _ hm cx1 (cIk rfl) (cIk rfl) h
set_option maxRecDepth 100000 in
set_option maxHeartbeats 4000000 in
theorem w_M_torn_b31 {K : zK} (hk : zOk K kdM cX12_torn 6 (some .int) RX12 7)  {x1 : Int} {s0 : Int} {m : zM} {o : Int × zM}  (hm : zG kdM m) (cx1 : cI x1) (zs0 : zok 4 s0) (h : M_torn_b31 x1 s0 m = some o) : GoAt K m [(0, .ref (kB K + 0)), (1, mI x1)] [mI s0] 31 (0, o.1, o.2) := by
  unfold M_torn_b31 at h
  refine g_istore_n hk rfl (lv' := [(2, mI s0), (0, .ref (kB K + 0)), (1, mI x1)]) (Nat.le_of_ble_eq_true rfl) rfl dX12_torn_31 ?_
  refine g_iconst hk (v := 0) rfl dX12_torn_32 ?_
  refine g_istore_n hk rfl (lv' := [(3, mI 0), (2, mI s0), (0, .ref (kB K + 0)), (1, mI x1)]) (Nat.le_of_ble_eq_true rfl) rfl dX12_torn_33 ?_
  refine GoAt.sub [2, 3, 1, 0] rfl ?_
  refine w_M_torn_L34 hk (fun x1_1 x2_1 m2 hm cx1_1 zx2_1 h => ?_) 1000000 _ _ _ _ hm cx1 zs0 (cIk rfl) h
  · exact w_M_torn_b83 hk hm cx1_1 zx2_1 h
set_option maxRecDepth 100000 in
set_option maxHeartbeats 4000000 in
theorem w_M_torn_b30 {K : zK} (hk : zOk K kdM cX12_torn 6 (some .int) RX12 7)  {x1 : Int} {m : zM} {o : Int × zM}  (hm : zG kdM m) (cx1 : cI x1) (h : M_torn_b30 x1 m = some o) : GoAt K m [(0, .ref (kB K + 0)), (1, mI x1)] [] 30 (0, o.1, o.2) := by
  unfold M_torn_b30 at h
  refine g_iconst hk (v := 0) rfl dX12_torn_30 ?_
  exact w_M_torn_b31 hk hm cx1 z0 h
set_option maxRecDepth 100000 in
set_option maxHeartbeats 4000000 in
theorem w_M_torn {K : zK} (hk : zOk K kdM cX12_torn 6 (some .int) RX12 7)  {m : zM} {o : Int × zM}  (hm : zG kdM m)  (h : M_torn m = some o) : GoAt K m [(0, .ref (kB K + 0))] [] 0 (0, o.1, o.2) := by
  unfold M_torn at h
  refine g_aload_n hk 0 rfl dX12_torn_0 ?_
  have g1 := zGI (i := 1) hm kdM_0 rfl
  refine g_get0 hk fl_X12_13 rfl (j := 1) rfl kdM_0 dX12_torn_1 ?_
  refine g_istore_n hk rfl (lv' := [(1, mI (m 0 1)), (0, .ref (kB K + 0))]) (Nat.le_of_ble_eq_true rfl) rfl dX12_torn_4 ?_
  refine g_aload_n hk 1 rfl dX12_torn_5 ?_
  refine g_iconst hk (v := 0) rfl dX12_torn_6 ?_
  refine g_put0 hk fp_X12_13 rfl (j := 1) rfl kdM_0 (cIk rfl) dX12_torn_7 h hm (fun m2 hm h => ?_)
  refine g_iload_n hk 0 rfl dX12_torn_10 ?_
  refine g_if_le hk g1 dX12_torn_11 h (fun b3 h => ?_) (fun b3 h => ?_)
  · refine g_iload_n hk 0 rfl dX12_torn_14 ?_
    refine g_iconst hk (v := 2) rfl dX12_torn_15 ?_
    refine g_irem hk (cIk rfl) (by decide) dX12_torn_16 ?_
    refine g_if_ne hk (cI_t _) dX12_torn_17 h (fun b4 h => ?_) (fun b4 h => ?_)
    · refine g_iload_n hk 0 rfl dX12_torn_20 ?_
      refine g_bipush hk (v := 32) rfl dX12_torn_21 ?_
      refine g_icmp_gt hk g1 (cIk rfl) dX12_torn_23 h (fun b5 h => ?_) (fun b5 h => ?_)
      · refine GoAt.sub [1, 0] rfl ?_
        exact w_M_torn_b30 hk hm g1 h
      · refine g_iconst hk (v := 1) rfl dX12_torn_26 ?_
        refine g_goto hk dX12_torn_27 ?_
        refine GoAt.sub [1, 0] rfl ?_
        exact w_M_torn_b31 hk hm g1 z1 h
    · refine GoAt.sub [1, 0] rfl ?_
      exact w_M_torn_b30 hk hm g1 h
  · refine GoAt.sub [1, 0] rfl ?_
    exact w_M_torn_b30 hk hm g1 h
theorem met_M_torn (l : Launch) (D : va_G) (aC : Nat → ClassId) (B N : Nat) (hwd : ∀ id, (kdM id).1 ≠ 9 → id < N) {m : zM} {o : Int × zM} (hm : zG kdM m)  (h : M_torn m = some o) : zMet l yX12_torn cX12_torn 6 (some .int) 7 D aC B kdM N [.ref (B + 0)] m (0, o.1, o.2) := by
  refine zMet.of mf_X12_torn hwd hm (Nat.le_of_ble_eq_true rfl) (fun K e1 e2 e3 e4 e5 hk => ?_)
  subst e4
  exact w_M_torn hk hm  h
set_option maxRecDepth 100000 in
set_option maxHeartbeats 4000000 in
theorem w_M_hours_B26 {K : zK} (hk : zOk K kdM cX12_hours 4 (some .int) RX12 7) {rec : Int → Int → Int → zM → Option (Int × zM)} {x1 : Int} {x2 : Int} {x3 : Int} {m : zM} {o : Int × zM} (hrec : ∀ (x1 : Int) (x2 : Int) (x3 : Int) (m : zM), zG kdM m → cI x1 → cI x2 → cI x3 → rec x1 x2 x3 m = some o → GoAt K m [(0, .ref (kB K + 0)), (1, mI x1), (2, mI x2), (3, mI x3)] [] 26 (0, o.1, o.2)) (hm : zG kdM m) (cx1 : cI x1) (cx2 : cI x2) (cx3 : cI x3) (h : M_hours_B26 rec x1 x2 x3 m = some o) : GoAt K m [(0, .ref (kB K + 0)), (1, mI x1), (2, mI x2), (3, mI x3)] [] 26 (0, o.1, o.2) := by
  unfold M_hours_B26 at h
  refine g_iload_n hk 3 rfl dX12_hours_26 ?_
  refine g_iload_n hk 1 rfl dX12_hours_27 ?_
  refine g_icmp_ge hk cx3 cx1 dX12_hours_28 h (fun b1 h => ?_) (fun b1 h => ?_)
  · refine g_iload_n hk 2 rfl dX12_hours_31 ?_
    refine g_aload_n hk 0 rfl dX12_hours_32 ?_
    refine g_iconst hk (v := 0) rfl dX12_hours_33 ?_
    obtain ⟨r2, e3, h⟩ := zbind h
    refine g_callVi hk (st := [mI x2]) mf_X12_asking lk_X12_542 mv_X12_asking kdM_0 (by decide) rfl (Nat.le_of_ble_eq_true rfl) rfl dX12_hours_34 (met_M_asking _ _ _ _ _ hk.wd hm (cIk rfl) e3) (fun hm c4 => ?_)
    refine g_iadd hk dX12_hours_37 ?_
    refine g_let (wI_c _) h (fun v5 cv5 h => ?_)
    refine g_istore_n hk rfl (lv' := [(2, mI v5), (0, .ref (kB K + 0)), (1, mI x1), (3, mI x3)]) (Nat.le_of_ble_eq_true rfl) rfl dX12_hours_38 ?_
    refine g_aload_n hk 1 rfl dX12_hours_39 ?_
    refine g_iconst hk (v := 0) rfl dX12_hours_40 ?_
    obtain ⟨r6, e7, h⟩ := zbind h
    refine g_callVv hk (st := []) mf_X12_isOver lk_X12_545 mv_X12_isOver kdM_0 (by decide) rfl (Nat.le_of_ble_eq_true rfl) rfl dX12_hours_41 (met_M_isOver _ _ _ _ _ hk.wd hm (cIk rfl) e7) (fun hm => ?_)
    refine g_iinc hk (lv' := [(3, mI (wI (x3 + 1))), (2, mI v5), (0, .ref (kB K + 0)), (1, mI x1)]) 3 rfl (Nat.le_of_ble_eq_true rfl) rfl dX12_hours_44 ?_
    refine g_goto hk dX12_hours_47 ?_
    refine GoAt.sub [2, 3, 1, 0] rfl ?_
    exact hrec _ _ _ _ hm cx1 cv5 (wI_c _) h
  · refine g_iload_n hk 2 rfl dX12_hours_50 ?_
    exact g_ireturn hk cx2 dX12_hours_51 (by cases h; rfl)
theorem w_M_hours_L26 {K : zK} (hk : zOk K kdM cX12_hours 4 (some .int) RX12 7)  {o : Int × zM}  : ∀ (n : Nat) (x1 : Int) (x2 : Int) (x3 : Int) (m : zM), zG kdM m → cI x1 → cI x2 → cI x3 → M_hours_L26 n x1 x2 x3 m = some o → GoAt K m [(0, .ref (kB K + 0)), (1, mI x1), (2, mI x2), (3, mI x3)] [] 26 (0, o.1, o.2)
  | 0, x1, x2, x3, m, hm, cx1, cx2, cx3, h => by cases h
  | n + 1, x1, x2, x3, m, hm, cx1, cx2, cx3, h => w_M_hours_B26 hk  (w_M_hours_L26 hk  n) hm cx1 cx2 cx3 h
set_option maxRecDepth 100000 in
set_option maxHeartbeats 4000000 in
theorem w_M_hours {K : zK} (hk : zOk K kdM cX12_hours 4 (some .int) RX12 7)  {x1 : Int} {m : zM} {o : Int × zM}  (hm : zG kdM m) (cx1 : cI x1) (h : M_hours x1 m = some o) : GoAt K m [(0, .ref (kB K + 0)), (1, mI x1)] [] 0 (0, o.1, o.2) := by
  unfold M_hours at h
  refine g_aload_n hk 0 rfl dX12_hours_0 ?_
  refine g_iload_n hk 1 rfl dX12_hours_1 ?_
  refine g_iconst hk (v := 1) rfl dX12_hours_2 ?_
  refine g_sipush hk (v := 200) rfl dX12_hours_3 ?_
  obtain ⟨r1, e2, h⟩ := zbind h
  refine g_callVz hk (st := []) mf_X12_isAhead lk_X12_539 mv_X12_isAhead kdM_0 (by decide) rfl (Nat.le_of_ble_eq_true rfl) rfl dX12_hours_6 (met_M_isAhead _ _ _ _ _ hk.wd hm cx1 (cIk rfl) (cIk rfl) e2) (fun hm c3 => ?_)
  refine g_if_ne hk (b01 c3) dX12_hours_9 h (fun b4 h => ?_) (fun b4 h => ?_)
  · refine g_aload_n hk 0 rfl dX12_hours_12 ?_
    refine g_iconst hk (v := 2) rfl dX12_hours_13 ?_
    obtain ⟨r5, e6, h⟩ := zbind h
    refine g_callVi hk (st := []) mf_X12_refuses lk_X12_250 mv_X12_refuses kdM_0 (by decide) rfl (Nat.le_of_ble_eq_true rfl) rfl dX12_hours_14 (met_M_refuses _ _ _ _ _ hk.wd hm (cIk rfl) e6) (fun hm c7 => ?_)
    exact g_ireturn hk c7 dX12_hours_17 (by cases h; rfl)
  · refine g_aload_n hk 0 rfl dX12_hours_18 ?_
    obtain ⟨r8, e9, h⟩ := zbind h
    refine g_callVv hk (st := []) mf_X12_keeps lk_X12_576 mv_X12_keeps kdM_0 (by decide) rfl (Nat.le_of_ble_eq_true rfl) rfl dX12_hours_19 (met_M_keeps _ _ _ _ _ hk.wd hm e9) (fun hm => ?_)
    refine g_iconst hk (v := 0) rfl dX12_hours_22 ?_
    refine g_istore_n hk rfl (lv' := [(2, mI 0), (0, .ref (kB K + 0)), (1, mI x1)]) (Nat.le_of_ble_eq_true rfl) rfl dX12_hours_23 ?_
    refine g_iconst hk (v := 0) rfl dX12_hours_24 ?_
    refine g_istore_n hk rfl (lv' := [(3, mI 0), (2, mI 0), (0, .ref (kB K + 0)), (1, mI x1)]) (Nat.le_of_ble_eq_true rfl) rfl dX12_hours_25 ?_
    refine GoAt.sub [2, 3, 1, 0] rfl ?_
    refine w_M_hours_L26 hk  1000000 _ _ _ _ hm cx1 (cIk rfl) (cIk rfl) h
theorem met_M_hours (l : Launch) (D : va_G) (aC : Nat → ClassId) (B N : Nat) (hwd : ∀ id, (kdM id).1 ≠ 9 → id < N) {x1 : Int} {m : zM} {o : Int × zM} (hm : zG kdM m) (cx1 : cI x1) (h : M_hours x1 m = some o) : zMet l yX12_hours cX12_hours 4 (some .int) 7 D aC B kdM N [.ref (B + 0), mI x1] m (0, o.1, o.2) := by
  refine zMet.of mf_X12_hours hwd hm (Nat.le_of_ble_eq_true rfl) (fun K e1 e2 e3 e4 e5 hk => ?_)
  subst e4
  exact w_M_hours hk hm cx1 h
set_option maxRecDepth 100000 in
set_option maxHeartbeats 4000000 in
theorem w_M_draw {K : zK} (hk : zOk K kdM cX12_draw 2 (some .int) RX12 0)  {x1 : Int} {m : zM} {o : Int × zM}  (hm : zG kdM m) (cx1 : cI x1) (h : M_draw x1 m = some o) : GoAt K m [(0, .ref (kB K + 0)), (1, mI x1)] [] 0 (0, o.1, o.2) := by
  unfold M_draw at h
  refine g_aload_n hk 0 rfl dX12_draw_0 ?_
  refine g_ldc2 hk (v := 1103515245) cn_X12_579 dX12_draw_1 ?_
  refine g_aload_n hk 0 rfl dX12_draw_4 ?_
  have g1 := zGL (i := 58) hm kdM_0 rfl
  refine g_get1 hk fl_X12_189 rfl (j := 58) rfl kdM_0 dX12_draw_5 ?_
  refine g_lmul hk dX12_draw_8 ?_
  refine g_ldc2 hk (v := 12345) cn_X12_581 dX12_draw_9 ?_
  refine g_ladd hk dX12_draw_12 ?_
  refine g_ldc2 hk (v := 2147483648) cn_X12_583 dX12_draw_13 ?_
  refine g_lrem hk (cLk rfl) (by decide) dX12_draw_16 ?_
  refine g_put1 hk fp_X12_189 rfl (j := 58) rfl kdM_0 (cL_t _) dX12_draw_17 h hm (fun m2 hm h => ?_)
  refine g_aload_n hk 0 rfl dX12_draw_20 ?_
  have g3 := zGL (i := 58) hm kdM_0 rfl
  refine g_get1 hk fl_X12_189 rfl (j := 58) rfl kdM_0 dX12_draw_21 ?_
  refine g_ldc2 hk (v := 64) cn_X12_585 dX12_draw_24 ?_
  refine g_ldiv hk (cLk rfl) (by decide) dX12_draw_27 ?_
  refine g_iload_n hk 1 rfl dX12_draw_28 ?_
  refine g_i2l hk cx1 dX12_draw_29 ?_
  obtain ⟨hz4, h⟩ := g_nz h
  refine g_lrem hk (cI_L cx1) hz4 dX12_draw_30 ?_
  refine g_l2i hk (cL_t _) dX12_draw_31 ?_
  exact g_ireturn hk (wI_c _) dX12_draw_32 (by cases h; rfl)
theorem met_M_draw (l : Launch) (D : va_G) (aC : Nat → ClassId) (B N : Nat) (hwd : ∀ id, (kdM id).1 ≠ 9 → id < N) {x1 : Int} {m : zM} {o : Int × zM} (hm : zG kdM m) (cx1 : cI x1) (h : M_draw x1 m = some o) : zMet l yX12_draw cX12_draw 2 (some .int) 0 D aC B kdM N [.ref (B + 0), mI x1] m (0, o.1, o.2) := by
  refine zMet.of mf_X12_draw hwd hm (Nat.le_of_ble_eq_true rfl) (fun K e1 e2 e3 e4 e5 hk => ?_)
  subst e4
  exact w_M_draw hk hm cx1 h
set_option maxRecDepth 100000 in
set_option maxHeartbeats 4000000 in
theorem w_M_chance_b63 {K : zK} (hk : zOk K kdM cX12_chance 5 (some .int) RX12 7) {rec : Int → Int → Int → zM → Option (Int × zM)} {x1 : Int} {x3 : Int} {x4 : Int} {s0 : Int} {s1 : Int} {m : zM} {o : Int × zM} (hrec : ∀ (x1 : Int) (x2 : Int) (x3 : Int) (m : zM), zG kdM m → cI x1 → cI x2 → cI x3 → rec x1 x2 x3 m = some o → GoAt K m [(0, .ref (kB K + 0)), (1, mI x1), (2, mI x2), (3, mI x3)] [] 26 (0, o.1, o.2)) (hm : zG kdM m) (cx1 : cI x1) (cx3 : cI x3) (zx4 : zok 4 x4) (cs0 : cI s0) (zs1 : zok 4 s1) (h : M_chance_b63 rec x1 x3 x4 s0 s1 m = some o) : GoAt K m [(0, .ref (kB K + 0)), (1, mI x1), (3, mI x3), (4, mI x4)] [mI s1, mI s0] 63 (0, o.1, o.2) := by
  unfold M_chance_b63 at h
  refine g_iadd hk dX12_chance_63 ?_
  refine g_let (wI_c _) h (fun v1 cv1 h => ?_)
  refine g_istore_n hk rfl (lv' := [(2, mI v1), (0, .ref (kB K + 0)), (1, mI x1), (3, mI x3), (4, mI x4)]) (Nat.le_of_ble_eq_true rfl) rfl dX12_chance_64 ?_
  refine g_iload hk 4 rfl dX12_chance_65 ?_
  refine g_if_ne hk (b01 zx4) dX12_chance_67 h (fun b2 h => ?_) (fun b2 h => ?_)
  · refine g_aload_n hk 1 rfl dX12_chance_70 ?_
    refine g_iconst hk (v := 0) rfl dX12_chance_71 ?_
    obtain ⟨r3, e4, h⟩ := zbind h
    refine g_callVi hk (st := []) mf_X12_asking lk_X12_542 mv_X12_asking kdM_0 (by decide) rfl (Nat.le_of_ble_eq_true rfl) rfl dX12_chance_72 (met_M_asking _ _ _ _ _ hk.wd hm (cIk rfl) e4) (fun hm c5 => ?_)
    refine g_pop hk rfl dX12_chance_75 ?_
    refine g_aload_n hk 1 rfl dX12_chance_76 ?_
    refine g_iconst hk (v := 0) rfl dX12_chance_77 ?_
    obtain ⟨r6, e7, h⟩ := zbind h
    refine g_callVv hk (st := []) mf_X12_isOver lk_X12_545 mv_X12_isOver kdM_0 (by decide) rfl (Nat.le_of_ble_eq_true rfl) rfl dX12_chance_78 (met_M_isOver _ _ _ _ _ hk.wd hm (cIk rfl) e7) (fun hm => ?_)
    refine g_iinc hk (lv' := [(3, mI (wI (x3 + 1))), (2, mI v1), (0, .ref (kB K + 0)), (1, mI x1), (4, mI x4)]) 3 rfl (Nat.le_of_ble_eq_true rfl) rfl dX12_chance_81 ?_
    refine g_goto hk dX12_chance_84 ?_
    refine GoAt.sub [2, 3, 1, 0] rfl ?_
    exact hrec _ _ _ _ hm cx1 cv1 (wI_c _) h
  · refine g_aload_n hk 1 rfl dX12_chance_76 ?_
    refine g_iconst hk (v := 0) rfl dX12_chance_77 ?_
    obtain ⟨r9, e10, h⟩ := zbind h
    refine g_callVv hk (st := []) mf_X12_isOver lk_X12_545 mv_X12_isOver kdM_0 (by decide) rfl (Nat.le_of_ble_eq_true rfl) rfl dX12_chance_78 (met_M_isOver _ _ _ _ _ hk.wd hm (cIk rfl) e10) (fun hm => ?_)
    refine g_iinc hk (lv' := [(3, mI (wI (x3 + 1))), (2, mI v1), (0, .ref (kB K + 0)), (1, mI x1), (4, mI x4)]) 3 rfl (Nat.le_of_ble_eq_true rfl) rfl dX12_chance_81 ?_
    refine g_goto hk dX12_chance_84 ?_
    refine GoAt.sub [2, 3, 1, 0] rfl ?_
    exact hrec _ _ _ _ hm cx1 cv1 (wI_c _) h
set_option maxRecDepth 100000 in
set_option maxHeartbeats 4000000 in
theorem w_M_chance_b50 {K : zK} (hk : zOk K kdM cX12_chance 5 (some .int) RX12 7) {rec : Int → Int → Int → zM → Option (Int × zM)} {x1 : Int} {x2 : Int} {x3 : Int} {s0 : Int} {m : zM} {o : Int × zM} (hrec : ∀ (x1 : Int) (x2 : Int) (x3 : Int) (m : zM), zG kdM m → cI x1 → cI x2 → cI x3 → rec x1 x2 x3 m = some o → GoAt K m [(0, .ref (kB K + 0)), (1, mI x1), (2, mI x2), (3, mI x3)] [] 26 (0, o.1, o.2)) (hm : zG kdM m) (cx1 : cI x1) (cx2 : cI x2) (cx3 : cI x3) (zs0 : zok 4 s0) (h : M_chance_b50 rec x1 x2 x3 s0 m = some o) : GoAt K m [(0, .ref (kB K + 0)), (1, mI x1), (2, mI x2), (3, mI x3)] [mI s0] 50 (0, o.1, o.2) := by
  unfold M_chance_b50 at h
  refine g_istore hk (lv' := [(4, mI s0), (0, .ref (kB K + 0)), (1, mI x1), (2, mI x2), (3, mI x3)]) (Nat.le_of_ble_eq_true rfl) rfl dX12_chance_50 ?_
  refine g_iload_n hk 3 rfl dX12_chance_52 ?_
  refine g_iload hk 0 rfl dX12_chance_53 ?_
  refine g_if_eq hk (b01 zs0) dX12_chance_55 h (fun b1 h => ?_) (fun b1 h => ?_)
  · refine g_iconst hk (v := 0) rfl dX12_chance_62 ?_
    refine GoAt.sub [1, 2, 4, 0] rfl ?_
    exact w_M_chance_b63 hk hrec hm cx1 cx3 zs0 cx2 z0 h
  · refine g_iconst hk (v := 1) rfl dX12_chance_58 ?_
    refine g_goto hk dX12_chance_59 ?_
    refine GoAt.sub [1, 2, 4, 0] rfl ?_
    exact w_M_chance_b63 hk hrec hm cx1 cx3 zs0 cx2 z1 h
set_option maxRecDepth 100000 in
set_option maxHeartbeats 4000000 in
theorem w_M_chance_B26 {K : zK} (hk : zOk K kdM cX12_chance 5 (some .int) RX12 7) {rec : Int → Int → Int → zM → Option (Int × zM)} {x1 : Int} {x2 : Int} {x3 : Int} {m : zM} {o : Int × zM} (hrec : ∀ (x1 : Int) (x2 : Int) (x3 : Int) (m : zM), zG kdM m → cI x1 → cI x2 → cI x3 → rec x1 x2 x3 m = some o → GoAt K m [(0, .ref (kB K + 0)), (1, mI x1), (2, mI x2), (3, mI x3)] [] 26 (0, o.1, o.2)) (hm : zG kdM m) (cx1 : cI x1) (cx2 : cI x2) (cx3 : cI x3) (h : M_chance_B26 rec x1 x2 x3 m = some o) : GoAt K m [(0, .ref (kB K + 0)), (1, mI x1), (2, mI x2), (3, mI x3)] [] 26 (0, o.1, o.2) := by
  unfold M_chance_B26 at h
  refine g_iload_n hk 3 rfl dX12_chance_26 ?_
  refine g_iload_n hk 1 rfl dX12_chance_27 ?_
  refine g_icmp_ge hk cx3 cx1 dX12_chance_28 h (fun b1 h => ?_) (fun b1 h => ?_)
  · refine g_aload_n hk 0 rfl dX12_chance_31 ?_
    refine g_bipush hk (v := 100) rfl dX12_chance_32 ?_
    obtain ⟨r2, e3, h⟩ := zbind h
    refine g_callVi hk (st := []) mf_X12_draw lk_X12_587 mv_X12_draw kdM_0 (by decide) rfl (Nat.le_of_ble_eq_true rfl) rfl dX12_chance_34 (met_M_draw _ _ _ _ _ hk.wd hm (cIk rfl) e3) (fun hm c4 => ?_)
    refine g_aload_n hk 0 rfl dX12_chance_37 ?_
    refine g_iconst hk (v := 4) rfl dX12_chance_38 ?_
    obtain ⟨r5, e6, h⟩ := zbind h
    refine g_callVi hk (st := [mI r2.1]) mf_X12_toldOf lk_X12_517 mv_X12_toldOf kdM_0 (by decide) rfl (Nat.le_of_ble_eq_true rfl) rfl dX12_chance_39 (met_M_toldOf _ _ _ _ _ hk.wd hm (cIk rfl) e6) (fun hm c7 => ?_)
    refine g_icmp_ge hk c4 c7 dX12_chance_42 h (fun b8 h => ?_) (fun b8 h => ?_)
    · refine g_iconst hk (v := 1) rfl dX12_chance_45 ?_
      refine g_goto hk dX12_chance_46 ?_
      exact w_M_chance_b50 hk hrec hm cx1 cx2 cx3 z1 h
    · refine g_iconst hk (v := 0) rfl dX12_chance_49 ?_
      exact w_M_chance_b50 hk hrec hm cx1 cx2 cx3 z0 h
  · refine g_iload_n hk 2 rfl dX12_chance_87 ?_
    exact g_ireturn hk cx2 dX12_chance_88 (by cases h; rfl)
theorem w_M_chance_L26 {K : zK} (hk : zOk K kdM cX12_chance 5 (some .int) RX12 7)  {o : Int × zM}  : ∀ (n : Nat) (x1 : Int) (x2 : Int) (x3 : Int) (m : zM), zG kdM m → cI x1 → cI x2 → cI x3 → M_chance_L26 n x1 x2 x3 m = some o → GoAt K m [(0, .ref (kB K + 0)), (1, mI x1), (2, mI x2), (3, mI x3)] [] 26 (0, o.1, o.2)
  | 0, x1, x2, x3, m, hm, cx1, cx2, cx3, h => by cases h
  | n + 1, x1, x2, x3, m, hm, cx1, cx2, cx3, h => w_M_chance_B26 hk  (w_M_chance_L26 hk  n) hm cx1 cx2 cx3 h
set_option maxRecDepth 100000 in
set_option maxHeartbeats 4000000 in
theorem w_M_chance {K : zK} (hk : zOk K kdM cX12_chance 5 (some .int) RX12 7)  {x1 : Int} {m : zM} {o : Int × zM}  (hm : zG kdM m) (cx1 : cI x1) (h : M_chance x1 m = some o) : GoAt K m [(0, .ref (kB K + 0)), (1, mI x1)] [] 0 (0, o.1, o.2) := by
  unfold M_chance at h
  refine g_aload_n hk 0 rfl dX12_chance_0 ?_
  refine g_iload_n hk 1 rfl dX12_chance_1 ?_
  refine g_iconst hk (v := 1) rfl dX12_chance_2 ?_
  refine g_sipush hk (v := 200) rfl dX12_chance_3 ?_
  obtain ⟨r1, e2, h⟩ := zbind h
  refine g_callVz hk (st := []) mf_X12_isAhead lk_X12_539 mv_X12_isAhead kdM_0 (by decide) rfl (Nat.le_of_ble_eq_true rfl) rfl dX12_chance_6 (met_M_isAhead _ _ _ _ _ hk.wd hm cx1 (cIk rfl) (cIk rfl) e2) (fun hm c3 => ?_)
  refine g_if_ne hk (b01 c3) dX12_chance_9 h (fun b4 h => ?_) (fun b4 h => ?_)
  · refine g_aload_n hk 0 rfl dX12_chance_12 ?_
    refine g_iconst hk (v := 2) rfl dX12_chance_13 ?_
    obtain ⟨r5, e6, h⟩ := zbind h
    refine g_callVi hk (st := []) mf_X12_refuses lk_X12_250 mv_X12_refuses kdM_0 (by decide) rfl (Nat.le_of_ble_eq_true rfl) rfl dX12_chance_14 (met_M_refuses _ _ _ _ _ hk.wd hm (cIk rfl) e6) (fun hm c7 => ?_)
    exact g_ireturn hk c7 dX12_chance_17 (by cases h; rfl)
  · refine g_aload_n hk 0 rfl dX12_chance_18 ?_
    obtain ⟨r8, e9, h⟩ := zbind h
    refine g_callVv hk (st := []) mf_X12_keeps lk_X12_576 mv_X12_keeps kdM_0 (by decide) rfl (Nat.le_of_ble_eq_true rfl) rfl dX12_chance_19 (met_M_keeps _ _ _ _ _ hk.wd hm e9) (fun hm => ?_)
    refine g_iconst hk (v := 0) rfl dX12_chance_22 ?_
    refine g_istore_n hk rfl (lv' := [(2, mI 0), (0, .ref (kB K + 0)), (1, mI x1)]) (Nat.le_of_ble_eq_true rfl) rfl dX12_chance_23 ?_
    refine g_iconst hk (v := 0) rfl dX12_chance_24 ?_
    refine g_istore_n hk rfl (lv' := [(3, mI 0), (2, mI 0), (0, .ref (kB K + 0)), (1, mI x1)]) (Nat.le_of_ble_eq_true rfl) rfl dX12_chance_25 ?_
    refine GoAt.sub [2, 3, 1, 0] rfl ?_
    refine w_M_chance_L26 hk  1000000 _ _ _ _ hm cx1 (cIk rfl) (cIk rfl) h
theorem met_M_chance (l : Launch) (D : va_G) (aC : Nat → ClassId) (B N : Nat) (hwd : ∀ id, (kdM id).1 ≠ 9 → id < N) {x1 : Int} {m : zM} {o : Int × zM} (hm : zG kdM m) (cx1 : cI x1) (h : M_chance x1 m = some o) : zMet l yX12_chance cX12_chance 5 (some .int) 7 D aC B kdM N [.ref (B + 0), mI x1] m (0, o.1, o.2) := by
  refine zMet.of mf_X12_chance hwd hm (Nat.le_of_ble_eq_true rfl) (fun K e1 e2 e3 e4 e5 hk => ?_)
  subst e4
  exact w_M_chance hk hm cx1 h
set_option maxRecDepth 100000 in
set_option maxHeartbeats 4000000 in
theorem w_M_areNine {K : zK} (hk : zOk K kdM cX12_areNine 4 (some .boolean) RX12 1)  {x1 : Int} {x2 : Int} {x3 : Int} {m : zM} {o : Int}  (hm : zG kdM m) (cx1 : cI x1) (cx2 : cI x2) (cx3 : cI x3) (h : M_areNine x1 x2 x3 = some o) : GoAt K m [(0, .ref (kB K + 0)), (1, mI x1), (2, mI x2), (3, mI x3)] [] 0 (4, o, m) := by
  unfold M_areNine at h
  refine g_iload_n hk 1 rfl dX12_areNine_0 ?_
  refine g_iconst hk (v := 0) rfl dX12_areNine_1 ?_
  refine g_bipush hk (v := 9) rfl dX12_areNine_2 ?_
  obtain ⟨r1, e2, h⟩ := zbind h
  refine g_callSz hk (st := []) mf_X12_is lk_X12_345 ms_X12_is (by decide) rfl (Nat.le_of_ble_eq_true rfl) rfl dX12_areNine_4 (met_M_is _ _ _ _ _ hk.wd hm cx1 (cIk rfl) (cIk rfl) e2) (fun hm c3 => ?_)
  refine g_if_eq hk (b01 c3) dX12_areNine_7 h (fun b4 h => ?_) (fun b4 h => ?_)
  · refine g_iconst hk (v := 0) rfl dX12_areNine_34 ?_
    exact g_zreturn hk z0 dX12_areNine_35 (by cases h; rfl)
  · refine g_iload_n hk 2 rfl dX12_areNine_10 ?_
    refine g_iconst hk (v := 0) rfl dX12_areNine_11 ?_
    refine g_bipush hk (v := 9) rfl dX12_areNine_12 ?_
    obtain ⟨r5, e6, h⟩ := zbind h
    refine g_callSz hk (st := []) mf_X12_is lk_X12_345 ms_X12_is (by decide) rfl (Nat.le_of_ble_eq_true rfl) rfl dX12_areNine_14 (met_M_is _ _ _ _ _ hk.wd hm cx2 (cIk rfl) (cIk rfl) e6) (fun hm c7 => ?_)
    refine g_if_eq hk (b01 c7) dX12_areNine_17 h (fun b8 h => ?_) (fun b8 h => ?_)
    · refine g_iconst hk (v := 0) rfl dX12_areNine_34 ?_
      exact g_zreturn hk z0 dX12_areNine_35 (by cases h; rfl)
    · refine g_iload_n hk 3 rfl dX12_areNine_20 ?_
      refine g_iconst hk (v := 0) rfl dX12_areNine_21 ?_
      refine g_bipush hk (v := 9) rfl dX12_areNine_22 ?_
      obtain ⟨r9, e10, h⟩ := zbind h
      refine g_callSz hk (st := []) mf_X12_is lk_X12_345 ms_X12_is (by decide) rfl (Nat.le_of_ble_eq_true rfl) rfl dX12_areNine_24 (met_M_is _ _ _ _ _ hk.wd hm cx3 (cIk rfl) (cIk rfl) e10) (fun hm c11 => ?_)
      refine g_if_eq hk (b01 c11) dX12_areNine_27 h (fun b12 h => ?_) (fun b12 h => ?_)
      · refine g_iconst hk (v := 0) rfl dX12_areNine_34 ?_
        exact g_zreturn hk z0 dX12_areNine_35 (by cases h; rfl)
      · refine g_iconst hk (v := 1) rfl dX12_areNine_30 ?_
        refine g_goto hk dX12_areNine_31 ?_
        exact g_zreturn hk z1 dX12_areNine_35 (by cases h; rfl)
theorem met_M_areNine (l : Launch) (D : va_G) (aC : Nat → ClassId) (B N : Nat) (hwd : ∀ id, (kdM id).1 ≠ 9 → id < N) {x1 : Int} {x2 : Int} {x3 : Int} {m : zM} {o : Int} (hm : zG kdM m) (cx1 : cI x1) (cx2 : cI x2) (cx3 : cI x3) (h : M_areNine x1 x2 x3 = some o) : zMet l yX12_areNine cX12_areNine 4 (some .boolean) 1 D aC B kdM N [.ref (B + 0), mI x1, mI x2, mI x3] m (4, o, m) := by
  refine zMet.of mf_X12_areNine hwd hm (Nat.le_of_ble_eq_true rfl) (fun K e1 e2 e3 e4 e5 hk => ?_)
  subst e4
  exact w_M_areNine hk hm cx1 cx2 cx3 h
set_option maxRecDepth 100000 in
set_option maxHeartbeats 4000000 in
theorem w_M_change_b53 {K : zK} (hk : zOk K kdM cX12_change 5 (some .boolean) RX12 2)  {m : zM} {o : Int × zM}  (hm : zG kdM m)  (h : M_change_b53 m = some o) : GoAt K m [(0, .ref (kB K + 0))] [] 53 (4, o.1, o.2) := by
  unfold M_change_b53 at h
  refine g_aload_n hk 0 rfl dX12_change_53 ?_
  refine g_iconst hk (v := 3) rfl dX12_change_54 ?_
  obtain ⟨r1, e2, h⟩ := zbind h
  refine g_callVi hk (st := []) mf_X12_refuses lk_X12_250 mv_X12_refuses kdM_0 (by decide) rfl (Nat.le_of_ble_eq_true rfl) rfl dX12_change_55 (met_M_refuses _ _ _ _ _ hk.wd hm (cIk rfl) e2) (fun hm c3 => ?_)
  refine g_if_lt hk c3 dX12_change_58 h (fun b4 h => ?_) (fun b4 h => ?_)
  · refine g_iconst hk (v := 0) rfl dX12_change_65 ?_
    exact g_zreturn hk z0 dX12_change_66 (by cases h; rfl)
  · refine g_iconst hk (v := 1) rfl dX12_change_61 ?_
    refine g_goto hk dX12_change_62 ?_
    exact g_zreturn hk z1 dX12_change_66 (by cases h; rfl)
set_option maxRecDepth 100000 in
set_option maxHeartbeats 4000000 in
theorem w_M_change_b67 {K : zK} (hk : zOk K kdM cX12_change 5 (some .boolean) RX12 2)  {x1 : Int} {x2 : Int} {x3 : Int} {x4 : Int} {m : zM} {o : Int × zM}  (hm : zG kdM m) (cx1 : cI x1) (cx2 : cI x2) (cx3 : cI x3) (cx4 : cI x4) (h : M_change_b67 x1 x2 x3 x4 m = some o) : GoAt K m [(0, .ref (kB K + 0)), (1, mI x1), (2, mI x2), (3, mI x3), (4, mI x4)] [] 67 (4, o.1, o.2) := by
  unfold M_change_b67 at h
  refine g_aload_n hk 0 rfl dX12_change_67 ?_
  obtain ⟨r1, e2, h⟩ := zbind h
  refine g_callVv hk (st := []) mf_X12_keeps lk_X12_576 mv_X12_keeps kdM_0 (by decide) rfl (Nat.le_of_ble_eq_true rfl) rfl dX12_change_68 (met_M_keeps _ _ _ _ _ hk.wd hm e2) (fun hm => ?_)
  refine g_aload_n hk 0 rfl dX12_change_71 ?_
  refine g_get2 hk fl_X12_159 rfl kdM_0 hm (b := 29) rfl dX12_change_72 ?_
  refine g_iconst hk (v := 3) rfl dX12_change_75 ?_
  refine g_iload_n hk 1 rfl dX12_change_76 ?_
  refine g_imul hk dX12_change_77 ?_
  refine g_iload_n hk 2 rfl dX12_change_78 ?_
  refine g_iast hk (wI_c _) cx2 kdM_29 hm dX12_change_79 h (fun m4 hm h => ?_)
  refine g_aload_n hk 0 rfl dX12_change_80 ?_
  refine g_get2 hk fl_X12_159 rfl kdM_0 hm (b := 29) rfl dX12_change_81 ?_
  refine g_iconst hk (v := 3) rfl dX12_change_84 ?_
  refine g_iload_n hk 1 rfl dX12_change_85 ?_
  refine g_imul hk dX12_change_86 ?_
  refine g_iconst hk (v := 1) rfl dX12_change_87 ?_
  refine g_iadd hk dX12_change_88 ?_
  refine g_iload_n hk 3 rfl dX12_change_89 ?_
  refine g_iast hk (wI_c _) cx3 kdM_29 hm dX12_change_90 h (fun m5 hm h => ?_)
  refine g_aload_n hk 0 rfl dX12_change_91 ?_
  refine g_get2 hk fl_X12_159 rfl kdM_0 hm (b := 29) rfl dX12_change_92 ?_
  refine g_iconst hk (v := 3) rfl dX12_change_95 ?_
  refine g_iload_n hk 1 rfl dX12_change_96 ?_
  refine g_imul hk dX12_change_97 ?_
  refine g_iconst hk (v := 2) rfl dX12_change_98 ?_
  refine g_iadd hk dX12_change_99 ?_
  refine g_iload hk 4 rfl dX12_change_100 ?_
  refine g_iast hk (wI_c _) cx4 kdM_29 hm dX12_change_102 h (fun m6 hm h => ?_)
  refine g_iconst hk (v := 1) rfl dX12_change_103 ?_
  exact g_zreturn hk z1 dX12_change_104 (by cases h; rfl)
set_option maxRecDepth 100000 in
set_option maxHeartbeats 4000000 in
theorem w_M_change {K : zK} (hk : zOk K kdM cX12_change 5 (some .boolean) RX12 2)  {x1 : Int} {x2 : Int} {x3 : Int} {x4 : Int} {m : zM} {o : Int × zM}  (hm : zG kdM m) (cx1 : cI x1) (cx2 : cI x2) (cx3 : cI x3) (cx4 : cI x4) (h : M_change x1 x2 x3 x4 m = some o) : GoAt K m [(0, .ref (kB K + 0)), (1, mI x1), (2, mI x2), (3, mI x3), (4, mI x4)] [] 0 (4, o.1, o.2) := by
  unfold M_change at h
  refine g_aload_n hk 0 rfl dX12_change_0 ?_
  refine g_iload_n hk 1 rfl dX12_change_1 ?_
  obtain ⟨r1, e2, h⟩ := zbind h
  refine g_callVz hk (st := []) mf_X12_isGuest lk_X12_536 mv_X12_isGuest kdM_0 (by decide) rfl (Nat.le_of_ble_eq_true rfl) rfl dX12_change_2 (met_M_isGuest _ _ _ _ _ hk.wd hm cx1 e2) (fun hm c3 => ?_)
  refine g_if_eq hk (b01 c3) dX12_change_5 h (fun b4 h => ?_) (fun b4 h => ?_)
  · refine GoAt.sub [0] rfl ?_
    exact w_M_change_b53 hk hm h
  · refine g_aload_n hk 0 rfl dX12_change_8 ?_
    refine g_iload_n hk 2 rfl dX12_change_9 ?_
    refine g_iload_n hk 3 rfl dX12_change_10 ?_
    refine g_iload hk 4 rfl dX12_change_11 ?_
    obtain ⟨r5, e6, h⟩ := zbind h
    refine g_callVz hk (st := []) mf_X12_areNine lk_X12_590 mv_X12_areNine kdM_0 (by decide) rfl (Nat.le_of_ble_eq_true rfl) rfl dX12_change_13 (met_M_areNine _ _ _ _ _ hk.wd hm cx2 cx3 cx4 e6) (fun hm c7 => ?_)
    refine g_if_eq hk (b01 c7) dX12_change_16 h (fun b8 h => ?_) (fun b8 h => ?_)
    · refine GoAt.sub [0] rfl ?_
      exact w_M_change_b53 hk hm h
    · refine g_aload_n hk 0 rfl dX12_change_19 ?_
      refine g_iconst hk (v := 0) rfl dX12_change_20 ?_
      refine g_iload_n hk 1 rfl dX12_change_21 ?_
      refine g_iconst hk (v := 0) rfl dX12_change_22 ?_
      obtain ⟨r9, e10, h⟩ := zbind h
      refine g_callVi hk (st := []) mf_X12_look lk_X12_471 mv_X12_look kdM_0 (by decide) rfl (Nat.le_of_ble_eq_true rfl) rfl dX12_change_23 (met_M_look _ _ _ _ _ hk.wd hm (cIk rfl) cx1 (cIk rfl) e10) (fun hm c11 => ?_)
      refine g_iload_n hk 2 rfl dX12_change_26 ?_
      refine g_icmp_ne hk c11 cx2 dX12_change_27 h (fun b12 h => ?_) (fun b12 h => ?_)
      · refine g_aload_n hk 0 rfl dX12_change_30 ?_
        refine g_iconst hk (v := 0) rfl dX12_change_31 ?_
        refine g_iload_n hk 1 rfl dX12_change_32 ?_
        refine g_iconst hk (v := 1) rfl dX12_change_33 ?_
        obtain ⟨r13, e14, h⟩ := zbind h
        refine g_callVi hk (st := []) mf_X12_look lk_X12_471 mv_X12_look kdM_0 (by decide) rfl (Nat.le_of_ble_eq_true rfl) rfl dX12_change_34 (met_M_look _ _ _ _ _ hk.wd hm (cIk rfl) cx1 (cIk rfl) e14) (fun hm c15 => ?_)
        refine g_iload_n hk 3 rfl dX12_change_37 ?_
        refine g_icmp_ne hk c15 cx3 dX12_change_38 h (fun b16 h => ?_) (fun b16 h => ?_)
        · refine g_aload_n hk 0 rfl dX12_change_41 ?_
          refine g_iconst hk (v := 0) rfl dX12_change_42 ?_
          refine g_iload_n hk 1 rfl dX12_change_43 ?_
          refine g_iconst hk (v := 2) rfl dX12_change_44 ?_
          obtain ⟨r17, e18, h⟩ := zbind h
          refine g_callVi hk (st := []) mf_X12_look lk_X12_471 mv_X12_look kdM_0 (by decide) rfl (Nat.le_of_ble_eq_true rfl) rfl dX12_change_45 (met_M_look _ _ _ _ _ hk.wd hm (cIk rfl) cx1 (cIk rfl) e18) (fun hm c19 => ?_)
          refine g_iload hk 4 rfl dX12_change_48 ?_
          refine g_icmp_ne hk c19 cx4 dX12_change_50 h (fun b20 h => ?_) (fun b20 h => ?_)
          · refine GoAt.sub [0] rfl ?_
            exact w_M_change_b53 hk hm h
          · exact w_M_change_b67 hk hm cx1 cx2 cx3 cx4 h
        · exact w_M_change_b67 hk hm cx1 cx2 cx3 cx4 h
      · exact w_M_change_b67 hk hm cx1 cx2 cx3 cx4 h
theorem met_M_change (l : Launch) (D : va_G) (aC : Nat → ClassId) (B N : Nat) (hwd : ∀ id, (kdM id).1 ≠ 9 → id < N) {x1 : Int} {x2 : Int} {x3 : Int} {x4 : Int} {m : zM} {o : Int × zM} (hm : zG kdM m) (cx1 : cI x1) (cx2 : cI x2) (cx3 : cI x3) (cx4 : cI x4) (h : M_change x1 x2 x3 x4 m = some o) : zMet l yX12_change cX12_change 5 (some .boolean) 2 D aC B kdM N [.ref (B + 0), mI x1, mI x2, mI x3, mI x4] m (4, o.1, o.2) := by
  refine zMet.of mf_X12_change hwd hm (Nat.le_of_ble_eq_true rfl) (fun K e1 e2 e3 e4 e5 hk => ?_)
  subst e4
  exact w_M_change hk hm cx1 cx2 cx3 cx4 h
set_option maxRecDepth 100000 in
set_option maxHeartbeats 4000000 in
theorem w_M_train_b53 {K : zK} (hk : zOk K kdM cX12_train 5 (some .boolean) RX12 2)  {m : zM} {o : Int × zM}  (hm : zG kdM m)  (h : M_train_b53 m = some o) : GoAt K m [(0, .ref (kB K + 0))] [] 53 (4, o.1, o.2) := by
  unfold M_train_b53 at h
  refine g_aload_n hk 0 rfl dX12_train_53 ?_
  refine g_iconst hk (v := 3) rfl dX12_train_54 ?_
  obtain ⟨r1, e2, h⟩ := zbind h
  refine g_callVi hk (st := []) mf_X12_refuses lk_X12_250 mv_X12_refuses kdM_0 (by decide) rfl (Nat.le_of_ble_eq_true rfl) rfl dX12_train_55 (met_M_refuses _ _ _ _ _ hk.wd hm (cIk rfl) e2) (fun hm c3 => ?_)
  refine g_if_lt hk c3 dX12_train_58 h (fun b4 h => ?_) (fun b4 h => ?_)
  · refine g_iconst hk (v := 0) rfl dX12_train_65 ?_
    exact g_zreturn hk z0 dX12_train_66 (by cases h; rfl)
  · refine g_iconst hk (v := 1) rfl dX12_train_61 ?_
    refine g_goto hk dX12_train_62 ?_
    exact g_zreturn hk z1 dX12_train_66 (by cases h; rfl)
set_option maxRecDepth 100000 in
set_option maxHeartbeats 4000000 in
theorem w_M_train_b67 {K : zK} (hk : zOk K kdM cX12_train 5 (some .boolean) RX12 2)  {x1 : Int} {x2 : Int} {x3 : Int} {x4 : Int} {m : zM} {o : Int × zM}  (hm : zG kdM m) (cx1 : cI x1) (cx2 : cI x2) (cx3 : cI x3) (cx4 : cI x4) (h : M_train_b67 x1 x2 x3 x4 m = some o) : GoAt K m [(0, .ref (kB K + 0)), (1, mI x1), (2, mI x2), (3, mI x3), (4, mI x4)] [] 67 (4, o.1, o.2) := by
  unfold M_train_b67 at h
  refine g_aload_n hk 0 rfl dX12_train_67 ?_
  obtain ⟨r1, e2, h⟩ := zbind h
  refine g_callVv hk (st := []) mf_X12_keeps lk_X12_576 mv_X12_keeps kdM_0 (by decide) rfl (Nat.le_of_ble_eq_true rfl) rfl dX12_train_68 (met_M_keeps _ _ _ _ _ hk.wd hm e2) (fun hm => ?_)
  refine g_aload_n hk 0 rfl dX12_train_71 ?_
  refine g_get2 hk fl_X12_168 rfl kdM_0 hm (b := 32) rfl dX12_train_72 ?_
  refine g_iconst hk (v := 3) rfl dX12_train_75 ?_
  refine g_iload_n hk 1 rfl dX12_train_76 ?_
  refine g_imul hk dX12_train_77 ?_
  refine g_iload_n hk 2 rfl dX12_train_78 ?_
  refine g_iast hk (wI_c _) cx2 kdM_32 hm dX12_train_79 h (fun m4 hm h => ?_)
  refine g_aload_n hk 0 rfl dX12_train_80 ?_
  refine g_get2 hk fl_X12_168 rfl kdM_0 hm (b := 32) rfl dX12_train_81 ?_
  refine g_iconst hk (v := 3) rfl dX12_train_84 ?_
  refine g_iload_n hk 1 rfl dX12_train_85 ?_
  refine g_imul hk dX12_train_86 ?_
  refine g_iconst hk (v := 1) rfl dX12_train_87 ?_
  refine g_iadd hk dX12_train_88 ?_
  refine g_iload_n hk 3 rfl dX12_train_89 ?_
  refine g_iast hk (wI_c _) cx3 kdM_32 hm dX12_train_90 h (fun m5 hm h => ?_)
  refine g_aload_n hk 0 rfl dX12_train_91 ?_
  refine g_get2 hk fl_X12_168 rfl kdM_0 hm (b := 32) rfl dX12_train_92 ?_
  refine g_iconst hk (v := 3) rfl dX12_train_95 ?_
  refine g_iload_n hk 1 rfl dX12_train_96 ?_
  refine g_imul hk dX12_train_97 ?_
  refine g_iconst hk (v := 2) rfl dX12_train_98 ?_
  refine g_iadd hk dX12_train_99 ?_
  refine g_iload hk 4 rfl dX12_train_100 ?_
  refine g_iast hk (wI_c _) cx4 kdM_32 hm dX12_train_102 h (fun m6 hm h => ?_)
  refine g_iconst hk (v := 1) rfl dX12_train_103 ?_
  exact g_zreturn hk z1 dX12_train_104 (by cases h; rfl)
set_option maxRecDepth 100000 in
set_option maxHeartbeats 4000000 in
theorem w_M_train {K : zK} (hk : zOk K kdM cX12_train 5 (some .boolean) RX12 2)  {x1 : Int} {x2 : Int} {x3 : Int} {x4 : Int} {m : zM} {o : Int × zM}  (hm : zG kdM m) (cx1 : cI x1) (cx2 : cI x2) (cx3 : cI x3) (cx4 : cI x4) (h : M_train x1 x2 x3 x4 m = some o) : GoAt K m [(0, .ref (kB K + 0)), (1, mI x1), (2, mI x2), (3, mI x3), (4, mI x4)] [] 0 (4, o.1, o.2) := by
  unfold M_train at h
  refine g_aload_n hk 0 rfl dX12_train_0 ?_
  refine g_iload_n hk 1 rfl dX12_train_1 ?_
  obtain ⟨r1, e2, h⟩ := zbind h
  refine g_callVz hk (st := []) mf_X12_isBeast lk_X12_533 mv_X12_isBeast kdM_0 (by decide) rfl (Nat.le_of_ble_eq_true rfl) rfl dX12_train_2 (met_M_isBeast _ _ _ _ _ hk.wd hm cx1 e2) (fun hm c3 => ?_)
  refine g_if_eq hk (b01 c3) dX12_train_5 h (fun b4 h => ?_) (fun b4 h => ?_)
  · refine GoAt.sub [0] rfl ?_
    exact w_M_train_b53 hk hm h
  · refine g_aload_n hk 0 rfl dX12_train_8 ?_
    refine g_iload_n hk 2 rfl dX12_train_9 ?_
    refine g_iload_n hk 3 rfl dX12_train_10 ?_
    refine g_iload hk 4 rfl dX12_train_11 ?_
    obtain ⟨r5, e6, h⟩ := zbind h
    refine g_callVz hk (st := []) mf_X12_areNine lk_X12_590 mv_X12_areNine kdM_0 (by decide) rfl (Nat.le_of_ble_eq_true rfl) rfl dX12_train_13 (met_M_areNine _ _ _ _ _ hk.wd hm cx2 cx3 cx4 e6) (fun hm c7 => ?_)
    refine g_if_eq hk (b01 c7) dX12_train_16 h (fun b8 h => ?_) (fun b8 h => ?_)
    · refine GoAt.sub [0] rfl ?_
      exact w_M_train_b53 hk hm h
    · refine g_aload_n hk 0 rfl dX12_train_19 ?_
      refine g_iconst hk (v := 0) rfl dX12_train_20 ?_
      refine g_iload_n hk 1 rfl dX12_train_21 ?_
      refine g_iconst hk (v := 0) rfl dX12_train_22 ?_
      obtain ⟨r9, e10, h⟩ := zbind h
      refine g_callVi hk (st := []) mf_X12_tasteIn lk_X12_475 mv_X12_tasteIn kdM_0 (by decide) rfl (Nat.le_of_ble_eq_true rfl) rfl dX12_train_23 (met_M_tasteIn _ _ _ _ _ hk.wd hm (cIk rfl) cx1 (cIk rfl) e10) (fun hm c11 => ?_)
      refine g_iload_n hk 2 rfl dX12_train_26 ?_
      refine g_icmp_ne hk c11 cx2 dX12_train_27 h (fun b12 h => ?_) (fun b12 h => ?_)
      · refine g_aload_n hk 0 rfl dX12_train_30 ?_
        refine g_iconst hk (v := 0) rfl dX12_train_31 ?_
        refine g_iload_n hk 1 rfl dX12_train_32 ?_
        refine g_iconst hk (v := 1) rfl dX12_train_33 ?_
        obtain ⟨r13, e14, h⟩ := zbind h
        refine g_callVi hk (st := []) mf_X12_tasteIn lk_X12_475 mv_X12_tasteIn kdM_0 (by decide) rfl (Nat.le_of_ble_eq_true rfl) rfl dX12_train_34 (met_M_tasteIn _ _ _ _ _ hk.wd hm (cIk rfl) cx1 (cIk rfl) e14) (fun hm c15 => ?_)
        refine g_iload_n hk 3 rfl dX12_train_37 ?_
        refine g_icmp_ne hk c15 cx3 dX12_train_38 h (fun b16 h => ?_) (fun b16 h => ?_)
        · refine g_aload_n hk 0 rfl dX12_train_41 ?_
          refine g_iconst hk (v := 0) rfl dX12_train_42 ?_
          refine g_iload_n hk 1 rfl dX12_train_43 ?_
          refine g_iconst hk (v := 2) rfl dX12_train_44 ?_
          obtain ⟨r17, e18, h⟩ := zbind h
          refine g_callVi hk (st := []) mf_X12_tasteIn lk_X12_475 mv_X12_tasteIn kdM_0 (by decide) rfl (Nat.le_of_ble_eq_true rfl) rfl dX12_train_45 (met_M_tasteIn _ _ _ _ _ hk.wd hm (cIk rfl) cx1 (cIk rfl) e18) (fun hm c19 => ?_)
          refine g_iload hk 4 rfl dX12_train_48 ?_
          refine g_icmp_ne hk c19 cx4 dX12_train_50 h (fun b20 h => ?_) (fun b20 h => ?_)
          · refine GoAt.sub [0] rfl ?_
            exact w_M_train_b53 hk hm h
          · exact w_M_train_b67 hk hm cx1 cx2 cx3 cx4 h
        · exact w_M_train_b67 hk hm cx1 cx2 cx3 cx4 h
      · exact w_M_train_b67 hk hm cx1 cx2 cx3 cx4 h
theorem met_M_train (l : Launch) (D : va_G) (aC : Nat → ClassId) (B N : Nat) (hwd : ∀ id, (kdM id).1 ≠ 9 → id < N) {x1 : Int} {x2 : Int} {x3 : Int} {x4 : Int} {m : zM} {o : Int × zM} (hm : zG kdM m) (cx1 : cI x1) (cx2 : cI x2) (cx3 : cI x3) (cx4 : cI x4) (h : M_train x1 x2 x3 x4 m = some o) : zMet l yX12_train cX12_train 5 (some .boolean) 2 D aC B kdM N [.ref (B + 0), mI x1, mI x2, mI x3, mI x4] m (4, o.1, o.2) := by
  refine zMet.of mf_X12_train hwd hm (Nat.le_of_ble_eq_true rfl) (fun K e1 e2 e3 e4 e5 hk => ?_)
  subst e4
  exact w_M_train hk hm cx1 cx2 cx3 cx4 h
set_option maxRecDepth 100000 in
set_option maxHeartbeats 4000000 in
theorem w_M_swap_b21 {K : zK} (hk : zOk K kdM cX12_swap 8 (some .boolean) RX12 2)  {m : zM} {o : Int × zM}  (hm : zG kdM m)  (h : M_swap_b21 m = some o) : GoAt K m [(0, .ref (kB K + 0))] [] 21 (4, o.1, o.2) := by
  unfold M_swap_b21 at h
  refine g_aload_n hk 0 rfl dX12_swap_21 ?_
  refine g_iconst hk (v := 3) rfl dX12_swap_22 ?_
  obtain ⟨r1, e2, h⟩ := zbind h
  refine g_callVi hk (st := []) mf_X12_refuses lk_X12_250 mv_X12_refuses kdM_0 (by decide) rfl (Nat.le_of_ble_eq_true rfl) rfl dX12_swap_23 (met_M_refuses _ _ _ _ _ hk.wd hm (cIk rfl) e2) (fun hm c3 => ?_)
  refine g_if_lt hk c3 dX12_swap_26 h (fun b4 h => ?_) (fun b4 h => ?_)
  · refine g_iconst hk (v := 0) rfl dX12_swap_33 ?_
    exact g_zreturn hk z0 dX12_swap_34 (by cases h; rfl)
  · refine g_iconst hk (v := 1) rfl dX12_swap_29 ?_
    refine g_goto hk dX12_swap_30 ?_
    exact g_zreturn hk z1 dX12_swap_34 (by cases h; rfl)
set_option maxRecDepth 100000 in
set_option maxHeartbeats 4000000 in
theorem w_M_swap_B41 {K : zK} (hk : zOk K kdM cX12_swap 8 (some .boolean) RX12 2) {rec : Int → Int → Int → zM → Option (Int × zM)} {x1 : Int} {x2 : Int} {x3 : Int} {m : zM} {o : Int × zM} (hrec : ∀ (x1 : Int) (x2 : Int) (x3 : Int) (m : zM), zG kdM m → cI x1 → cI x2 → cI x3 → rec x1 x2 x3 m = some o → GoAt K m [(0, .ref (kB K + 0)), (1, mI x1), (2, mI x2), (3, mI x3)] [] 41 (4, o.1, o.2)) (hm : zG kdM m) (cx1 : cI x1) (cx2 : cI x2) (cx3 : cI x3) (h : M_swap_B41 rec x1 x2 x3 m = some o) : GoAt K m [(0, .ref (kB K + 0)), (1, mI x1), (2, mI x2), (3, mI x3)] [] 41 (4, o.1, o.2) := by
  unfold M_swap_B41 at h
  refine g_iload_n hk 3 rfl dX12_swap_41 ?_
  refine g_bipush hk (v := 8) rfl dX12_swap_42 ?_
  refine g_icmp_ge hk cx3 (cIk rfl) dX12_swap_44 h (fun b1 h => ?_) (fun b1 h => ?_)
  · refine g_aload_n hk 0 rfl dX12_swap_47 ?_
    refine g_iconst hk (v := 0) rfl dX12_swap_48 ?_
    refine g_iload_n hk 1 rfl dX12_swap_49 ?_
    refine g_iload_n hk 3 rfl dX12_swap_50 ?_
    obtain ⟨r2, e3, h⟩ := zbind h
    refine g_callVi hk (st := []) mf_X12_pair lk_X12_481 mv_X12_pair kdM_0 (by decide) rfl (Nat.le_of_ble_eq_true rfl) rfl dX12_swap_51 (met_M_pair _ _ _ _ _ hk.wd hm (cIk rfl) cx1 cx3 e3) (fun hm c4 => ?_)
    refine g_istore hk (lv' := [(4, mI r2), (0, .ref (kB K + 0)), (1, mI x1), (2, mI x2), (3, mI x3)]) (Nat.le_of_ble_eq_true rfl) rfl dX12_swap_54 ?_
    refine g_aload_n hk 1 rfl dX12_swap_56 ?_
    refine g_iconst hk (v := 0) rfl dX12_swap_57 ?_
    refine g_iload_n hk 3 rfl dX12_swap_58 ?_
    refine g_iload_n hk 4 rfl dX12_swap_59 ?_
    obtain ⟨r5, e6, h⟩ := zbind h
    refine g_callVi hk (st := []) mf_X12_pair lk_X12_481 mv_X12_pair kdM_0 (by decide) rfl (Nat.le_of_ble_eq_true rfl) rfl dX12_swap_60 (met_M_pair _ _ _ _ _ hk.wd hm (cIk rfl) cx2 cx3 e6) (fun hm c7 => ?_)
    refine g_istore hk (lv' := [(5, mI r5), (4, mI r2), (0, .ref (kB K + 0)), (1, mI x1), (2, mI x2), (3, mI x3)]) (Nat.le_of_ble_eq_true rfl) rfl dX12_swap_63 ?_
    refine g_aload_n hk 2 rfl dX12_swap_65 ?_
    refine g_get2 hk fl_X12_171 rfl kdM_0 hm (b := 33) rfl dX12_swap_66 ?_
    refine g_iload hk 1 rfl dX12_swap_69 ?_
    refine g_iald hk c4 kdM_33 hm dX12_swap_71 h (fun y8 cy8 h => ?_)
    refine g_istore hk (lv' := [(6, mI y8), (5, mI r5), (4, mI r2), (0, .ref (kB K + 0)), (1, mI x1), (2, mI x2), (3, mI x3)]) (Nat.le_of_ble_eq_true rfl) rfl dX12_swap_72 ?_
    refine g_aload_n hk 3 rfl dX12_swap_74 ?_
    refine g_get2 hk fl_X12_174 rfl kdM_0 hm (b := 34) rfl dX12_swap_75 ?_
    refine g_iload hk 2 rfl dX12_swap_78 ?_
    refine g_iald hk c4 kdM_34 hm dX12_swap_80 h (fun y9 cy9 h => ?_)
    refine g_istore hk (lv' := [(7, mI y9), (6, mI y8), (5, mI r5), (4, mI r2), (0, .ref (kB K + 0)), (1, mI x1), (2, mI x2), (3, mI x3)]) (Nat.le_of_ble_eq_true rfl) rfl dX12_swap_81 ?_
    refine g_aload_n hk 4 rfl dX12_swap_83 ?_
    refine g_get2 hk fl_X12_171 rfl kdM_0 hm (b := 33) rfl dX12_swap_84 ?_
    refine g_iload hk 3 rfl dX12_swap_87 ?_
    refine g_aload_n hk 4 rfl dX12_swap_89 ?_
    refine g_get2 hk fl_X12_171 rfl kdM_0 hm (b := 33) rfl dX12_swap_90 ?_
    refine g_iload hk 2 rfl dX12_swap_93 ?_
    refine g_iald hk c7 kdM_33 hm dX12_swap_95 h (fun y10 cy10 h => ?_)
    refine g_iast hk c4 cy10 kdM_33 hm dX12_swap_96 h (fun m11 hm h => ?_)
    refine g_aload_n hk 4 rfl dX12_swap_97 ?_
    refine g_get2 hk fl_X12_174 rfl kdM_0 hm (b := 34) rfl dX12_swap_98 ?_
    refine g_iload hk 3 rfl dX12_swap_101 ?_
    refine g_aload_n hk 4 rfl dX12_swap_103 ?_
    refine g_get2 hk fl_X12_174 rfl kdM_0 hm (b := 34) rfl dX12_swap_104 ?_
    refine g_iload hk 2 rfl dX12_swap_107 ?_
    refine g_iald hk c7 kdM_34 hm dX12_swap_109 h (fun y12 cy12 h => ?_)
    refine g_iast hk c4 cy12 kdM_34 hm dX12_swap_110 h (fun m13 hm h => ?_)
    refine g_aload_n hk 4 rfl dX12_swap_111 ?_
    refine g_get2 hk fl_X12_171 rfl kdM_0 hm (b := 33) rfl dX12_swap_112 ?_
    refine g_iload hk 2 rfl dX12_swap_115 ?_
    refine g_iload hk 1 rfl dX12_swap_117 ?_
    refine g_iast hk c7 cy8 kdM_33 hm dX12_swap_119 h (fun m14 hm h => ?_)
    refine g_aload_n hk 4 rfl dX12_swap_120 ?_
    refine g_get2 hk fl_X12_174 rfl kdM_0 hm (b := 34) rfl dX12_swap_121 ?_
    refine g_iload hk 2 rfl dX12_swap_124 ?_
    refine g_iload hk 0 rfl dX12_swap_126 ?_
    refine g_iast hk c7 cy9 kdM_34 hm dX12_swap_128 h (fun m15 hm h => ?_)
    refine g_iinc hk (lv' := [(3, mI (wI (x3 + 1))), (7, mI y9), (6, mI y8), (5, mI r5), (4, mI r2), (0, .ref (kB K + 0)), (1, mI x1), (2, mI x2)]) 7 rfl (Nat.le_of_ble_eq_true rfl) rfl dX12_swap_129 ?_
    refine g_goto hk dX12_swap_132 ?_
    refine GoAt.sub [5, 6, 7, 0] rfl ?_
    exact hrec _ _ _ _ hm cx1 cx2 (wI_c _) h
  · refine g_iconst hk (v := 1) rfl dX12_swap_135 ?_
    exact g_zreturn hk z1 dX12_swap_136 (by cases h; rfl)
theorem w_M_swap_L41 {K : zK} (hk : zOk K kdM cX12_swap 8 (some .boolean) RX12 2)  {o : Int × zM}  : ∀ (n : Nat) (x1 : Int) (x2 : Int) (x3 : Int) (m : zM), zG kdM m → cI x1 → cI x2 → cI x3 → M_swap_L41 n x1 x2 x3 m = some o → GoAt K m [(0, .ref (kB K + 0)), (1, mI x1), (2, mI x2), (3, mI x3)] [] 41 (4, o.1, o.2)
  | 0, x1, x2, x3, m, hm, cx1, cx2, cx3, h => by cases h
  | n + 1, x1, x2, x3, m, hm, cx1, cx2, cx3, h => w_M_swap_B41 hk  (w_M_swap_L41 hk  n) hm cx1 cx2 cx3 h
set_option maxRecDepth 100000 in
set_option maxHeartbeats 4000000 in
theorem w_M_swap {K : zK} (hk : zOk K kdM cX12_swap 8 (some .boolean) RX12 2)  {x1 : Int} {x2 : Int} {m : zM} {o : Int × zM}  (hm : zG kdM m) (cx1 : cI x1) (cx2 : cI x2) (h : M_swap x1 x2 m = some o) : GoAt K m [(0, .ref (kB K + 0)), (1, mI x1), (2, mI x2)] [] 0 (4, o.1, o.2) := by
  unfold M_swap at h
  refine g_aload_n hk 0 rfl dX12_swap_0 ?_
  refine g_iload_n hk 1 rfl dX12_swap_1 ?_
  obtain ⟨r1, e2, h⟩ := zbind h
  refine g_callVz hk (st := []) mf_X12_isBeast lk_X12_533 mv_X12_isBeast kdM_0 (by decide) rfl (Nat.le_of_ble_eq_true rfl) rfl dX12_swap_2 (met_M_isBeast _ _ _ _ _ hk.wd hm cx1 e2) (fun hm c3 => ?_)
  refine g_if_eq hk (b01 c3) dX12_swap_5 h (fun b4 h => ?_) (fun b4 h => ?_)
  · refine GoAt.sub [0] rfl ?_
    exact w_M_swap_b21 hk hm h
  · refine g_aload_n hk 0 rfl dX12_swap_8 ?_
    refine g_iload_n hk 2 rfl dX12_swap_9 ?_
    obtain ⟨r5, e6, h⟩ := zbind h
    refine g_callVz hk (st := []) mf_X12_isBeast lk_X12_533 mv_X12_isBeast kdM_0 (by decide) rfl (Nat.le_of_ble_eq_true rfl) rfl dX12_swap_10 (met_M_isBeast _ _ _ _ _ hk.wd hm cx2 e6) (fun hm c7 => ?_)
    refine g_if_eq hk (b01 c7) dX12_swap_13 h (fun b8 h => ?_) (fun b8 h => ?_)
    · refine GoAt.sub [0] rfl ?_
      exact w_M_swap_b21 hk hm h
    · refine g_iload_n hk 1 rfl dX12_swap_16 ?_
      refine g_iload_n hk 2 rfl dX12_swap_17 ?_
      refine g_icmp_ne hk cx1 cx2 dX12_swap_18 h (fun b9 h => ?_) (fun b9 h => ?_)
      · refine GoAt.sub [0] rfl ?_
        exact w_M_swap_b21 hk hm h
      · refine g_aload_n hk 0 rfl dX12_swap_35 ?_
        obtain ⟨r10, e11, h⟩ := zbind h
        refine g_callVv hk (st := []) mf_X12_keeps lk_X12_576 mv_X12_keeps kdM_0 (by decide) rfl (Nat.le_of_ble_eq_true rfl) rfl dX12_swap_36 (met_M_keeps _ _ _ _ _ hk.wd hm e11) (fun hm => ?_)
        refine g_iconst hk (v := 0) rfl dX12_swap_39 ?_
        refine g_istore_n hk rfl (lv' := [(3, mI 0), (0, .ref (kB K + 0)), (1, mI x1), (2, mI x2)]) (Nat.le_of_ble_eq_true rfl) rfl dX12_swap_40 ?_
        refine GoAt.sub [1, 2, 3, 0] rfl ?_
        refine w_M_swap_L41 hk  1000000 _ _ _ _ hm cx1 cx2 (cIk rfl) h
theorem met_M_swap (l : Launch) (D : va_G) (aC : Nat → ClassId) (B N : Nat) (hwd : ∀ id, (kdM id).1 ≠ 9 → id < N) {x1 : Int} {x2 : Int} {m : zM} {o : Int × zM} (hm : zG kdM m) (cx1 : cI x1) (cx2 : cI x2) (h : M_swap x1 x2 m = some o) : zMet l yX12_swap cX12_swap 8 (some .boolean) 2 D aC B kdM N [.ref (B + 0), mI x1, mI x2] m (4, o.1, o.2) := by
  refine zMet.of mf_X12_swap hwd hm (Nat.le_of_ble_eq_true rfl) (fun K e1 e2 e3 e4 e5 hk => ?_)
  subst e4
  exact w_M_swap hk hm cx1 cx2 h
set_option maxRecDepth 100000 in
set_option maxHeartbeats 4000000 in
theorem w_M_seed {K : zK} (hk : zOk K kdM cX12_seed 2 (some .boolean) RX12 1)  {x1 : Int} {m : zM} {o : Int × zM}  (hm : zG kdM m) (cx1 : cI x1) (h : M_seed x1 m = some o) : GoAt K m [(0, .ref (kB K + 0)), (1, mI x1)] [] 0 (4, o.1, o.2) := by
  unfold M_seed at h
  refine g_iload_n hk 1 rfl dX12_seed_0 ?_
  refine g_if_ge hk cx1 dX12_seed_1 h (fun b1 h => ?_) (fun b1 h => ?_)
  · refine g_aload_n hk 0 rfl dX12_seed_4 ?_
    refine g_iconst hk (v := 5) rfl dX12_seed_5 ?_
    obtain ⟨r2, e3, h⟩ := zbind h
    refine g_callVi hk (st := []) mf_X12_refuses lk_X12_250 mv_X12_refuses kdM_0 (by decide) rfl (Nat.le_of_ble_eq_true rfl) rfl dX12_seed_6 (met_M_refuses _ _ _ _ _ hk.wd hm (cIk rfl) e3) (fun hm c4 => ?_)
    refine g_if_lt hk c4 dX12_seed_9 h (fun b5 h => ?_) (fun b5 h => ?_)
    · refine g_iconst hk (v := 0) rfl dX12_seed_16 ?_
      exact g_zreturn hk z0 dX12_seed_17 (by cases h; rfl)
    · refine g_iconst hk (v := 1) rfl dX12_seed_12 ?_
      refine g_goto hk dX12_seed_13 ?_
      exact g_zreturn hk z1 dX12_seed_17 (by cases h; rfl)
  · refine g_aload_n hk 0 rfl dX12_seed_18 ?_
    refine g_iload_n hk 1 rfl dX12_seed_19 ?_
    refine g_i2l hk cx1 dX12_seed_20 ?_
    refine g_put1 hk fp_X12_189 rfl (j := 58) rfl kdM_0 (cI_L cx1) dX12_seed_21 h hm (fun m6 hm h => ?_)
    refine g_iconst hk (v := 1) rfl dX12_seed_24 ?_
    exact g_zreturn hk z1 dX12_seed_25 (by cases h; rfl)
theorem met_M_seed (l : Launch) (D : va_G) (aC : Nat → ClassId) (B N : Nat) (hwd : ∀ id, (kdM id).1 ≠ 9 → id < N) {x1 : Int} {m : zM} {o : Int × zM} (hm : zG kdM m) (cx1 : cI x1) (h : M_seed x1 m = some o) : zMet l yX12_seed cX12_seed 2 (some .boolean) 1 D aC B kdM N [.ref (B + 0), mI x1] m (4, o.1, o.2) := by
  refine zMet.of mf_X12_seed hwd hm (Nat.le_of_ble_eq_true rfl) (fun K e1 e2 e3 e4 e5 hk => ?_)
  subst e4
  exact w_M_seed hk hm cx1 h
set_option maxRecDepth 100000 in
set_option maxHeartbeats 4000000 in
theorem w_M_kept {K : zK} (hk : zOk K kdM cX12_kept 3 (some .int) RX12 1)  {x1 : Int} {x2 : Int} {m : zM} {o : Int}  (hm : zG kdM m) (cx1 : cI x1) (cx2 : cI x2) (h : M_kept x1 x2 m = some o) : GoAt K m [(0, .ref (kB K + 0)), (1, mI x1), (2, mI x2)] [] 0 (0, o, m) := by
  unfold M_kept at h
  refine g_iload_n hk 1 rfl dX12_kept_0 ?_
  refine g_iconst hk (v := 0) rfl dX12_kept_1 ?_
  refine g_aload_n hk 0 rfl dX12_kept_2 ?_
  refine g_get2 hk fl_X12_177 rfl kdM_0 hm (b := 35) rfl dX12_kept_3 ?_
  refine g_iconst hk (v := 0) rfl dX12_kept_6 ?_
  refine g_iald hk (cIk rfl) kdM_35 hm dX12_kept_7 h (fun y1 cy1 h => ?_)
  refine g_iconst hk (v := 1) rfl dX12_kept_8 ?_
  refine g_isub hk dX12_kept_9 ?_
  obtain ⟨r2, e3, h⟩ := zbind h
  refine g_callSz hk (st := []) mf_X12_is lk_X12_345 ms_X12_is (by decide) rfl (Nat.le_of_ble_eq_true rfl) rfl dX12_kept_10 (met_M_is _ _ _ _ _ hk.wd hm cx1 (cIk rfl) (wI_c _) e3) (fun hm c4 => ?_)
  refine g_if_eq hk (b01 c4) dX12_kept_13 h (fun b5 h => ?_) (fun b5 h => ?_)
  · refine g_iconst hk (v := (-1)) rfl dX12_kept_38 ?_
    exact g_ireturn hk (cIk rfl) dX12_kept_39 (by cases h; rfl)
  · refine g_iload_n hk 2 rfl dX12_kept_16 ?_
    refine g_iconst hk (v := 0) rfl dX12_kept_17 ?_
    refine g_iconst hk (v := 4) rfl dX12_kept_18 ?_
    obtain ⟨r6, e7, h⟩ := zbind h
    refine g_callSz hk (st := []) mf_X12_is lk_X12_345 ms_X12_is (by decide) rfl (Nat.le_of_ble_eq_true rfl) rfl dX12_kept_19 (met_M_is _ _ _ _ _ hk.wd hm cx2 (cIk rfl) (cIk rfl) e7) (fun hm c8 => ?_)
    refine g_if_eq hk (b01 c8) dX12_kept_22 h (fun b9 h => ?_) (fun b9 h => ?_)
    · refine g_iconst hk (v := (-1)) rfl dX12_kept_38 ?_
      exact g_ireturn hk (cIk rfl) dX12_kept_39 (by cases h; rfl)
    · refine g_aload_n hk 0 rfl dX12_kept_25 ?_
      refine g_get2 hk fl_X12_180 rfl kdM_0 hm (b := 36) rfl dX12_kept_26 ?_
      refine g_iconst hk (v := 5) rfl dX12_kept_29 ?_
      refine g_iload_n hk 1 rfl dX12_kept_30 ?_
      refine g_imul hk dX12_kept_31 ?_
      refine g_iload_n hk 2 rfl dX12_kept_32 ?_
      refine g_iadd hk dX12_kept_33 ?_
      refine g_iald hk (wI_c _) kdM_36 hm dX12_kept_34 h (fun y10 cy10 h => ?_)
      refine g_goto hk dX12_kept_35 ?_
      exact g_ireturn hk cy10 dX12_kept_39 (by cases h; rfl)
theorem met_M_kept (l : Launch) (D : va_G) (aC : Nat → ClassId) (B N : Nat) (hwd : ∀ id, (kdM id).1 ≠ 9 → id < N) {x1 : Int} {x2 : Int} {m : zM} {o : Int} (hm : zG kdM m) (cx1 : cI x1) (cx2 : cI x2) (h : M_kept x1 x2 m = some o) : zMet l yX12_kept cX12_kept 3 (some .int) 1 D aC B kdM N [.ref (B + 0), mI x1, mI x2] m (0, o, m) := by
  refine zMet.of mf_X12_kept hwd hm (Nat.le_of_ble_eq_true rfl) (fun K e1 e2 e3 e4 e5 hk => ?_)
  subst e4
  exact w_M_kept hk hm cx1 cx2 h
set_option maxRecDepth 100000 in
set_option maxHeartbeats 4000000 in
theorem w_M_writes {K : zK} (hk : zOk K kdM cX12_writes 2 none RX12 0)  {x1 : Int} {m : zM} {o : zM}  (hm : zG kdM m) (cx1 : cI x1) (h : M_writes x1 m = some o) : GoAt K m [(0, .ref (kB K + 0)), (1, mI x1)] [] 0 (9, 0, o) := by
  unfold M_writes at h
  refine g_aload_n hk 0 rfl dX12_writes_0 ?_
  refine g_get2 hk fl_X12_240 rfl kdM_0 hm (b := 52) rfl dX12_writes_1 ?_
  refine g_aload_n hk 0 rfl dX12_writes_4 ?_
  have g1 := zGI (i := 76) hm kdM_0 rfl
  refine g_get0 hk fl_X12_243 rfl (j := 76) rfl kdM_0 dX12_writes_5 ?_
  refine g_iload_n hk 1 rfl dX12_writes_8 ?_
  refine g_sipush hk (v := 255) rfl dX12_writes_9 ?_
  refine g_iand hk dX12_writes_12 ?_
  refine g_iast hk g1 (cI_t _) kdM_52 hm dX12_writes_13 h (fun m2 hm h => ?_)
  refine g_aload_n hk 0 rfl dX12_writes_14 ?_
  refine g_dup hk rfl dX12_writes_15 ?_
  have g3 := zGI (i := 76) hm kdM_0 rfl
  refine g_get0 hk fl_X12_243 rfl (j := 76) rfl kdM_0 dX12_writes_16 ?_
  refine g_iconst hk (v := 1) rfl dX12_writes_19 ?_
  refine g_iadd hk dX12_writes_20 ?_
  refine g_put0 hk fp_X12_243 rfl (j := 76) rfl kdM_0 (wI_c _) dX12_writes_21 h hm (fun m4 hm h => ?_)
  exact g_return hk dX12_writes_24 (by cases h; rfl)
theorem met_M_writes (l : Launch) (D : va_G) (aC : Nat → ClassId) (B N : Nat) (hwd : ∀ id, (kdM id).1 ≠ 9 → id < N) {x1 : Int} {m : zM} {o : zM} (hm : zG kdM m) (cx1 : cI x1) (h : M_writes x1 m = some o) : zMet l yX12_writes cX12_writes 2 none 0 D aC B kdM N [.ref (B + 0), mI x1] m (9, 0, o) := by
  refine zMet.of mf_X12_writes hwd hm (Nat.le_of_ble_eq_true rfl) (fun K e1 e2 e3 e4 e5 hk => ?_)
  subst e4
  exact w_M_writes hk hm cx1 h
set_option maxRecDepth 100000 in
set_option maxHeartbeats 4000000 in
theorem w_M_writesTwo {K : zK} (hk : zOk K kdM cX12_writesTwo 2 none RX12 1)  {x1 : Int} {m : zM} {o : zM}  (hm : zG kdM m) (cx1 : cI x1) (h : M_writesTwo x1 m = some o) : GoAt K m [(0, .ref (kB K + 0)), (1, mI x1)] [] 0 (9, 0, o) := by
  unfold M_writesTwo at h
  refine g_aload_n hk 0 rfl dX12_writesTwo_0 ?_
  refine g_iload_n hk 1 rfl dX12_writesTwo_1 ?_
  refine g_bipush hk (v := 8) rfl dX12_writesTwo_2 ?_
  refine g_ishr hk dX12_writesTwo_4 ?_
  obtain ⟨r1, e2, h⟩ := zbind h
  refine g_callVv hk (st := []) mf_X12_writes lk_X12_593 mv_X12_writes kdM_0 (by decide) rfl (Nat.le_of_ble_eq_true rfl) rfl dX12_writesTwo_5 (met_M_writes _ _ _ _ _ hk.wd hm (cI_t _) e2) (fun hm => ?_)
  refine g_aload_n hk 0 rfl dX12_writesTwo_8 ?_
  refine g_iload_n hk 1 rfl dX12_writesTwo_9 ?_
  obtain ⟨r4, e5, h⟩ := zbind h
  refine g_callVv hk (st := []) mf_X12_writes lk_X12_593 mv_X12_writes kdM_0 (by decide) rfl (Nat.le_of_ble_eq_true rfl) rfl dX12_writesTwo_10 (met_M_writes _ _ _ _ _ hk.wd hm cx1 e5) (fun hm => ?_)
  exact g_return hk dX12_writesTwo_13 (by cases h; rfl)
theorem met_M_writesTwo (l : Launch) (D : va_G) (aC : Nat → ClassId) (B N : Nat) (hwd : ∀ id, (kdM id).1 ≠ 9 → id < N) {x1 : Int} {m : zM} {o : zM} (hm : zG kdM m) (cx1 : cI x1) (h : M_writesTwo x1 m = some o) : zMet l yX12_writesTwo cX12_writesTwo 2 none 1 D aC B kdM N [.ref (B + 0), mI x1] m (9, 0, o) := by
  refine zMet.of mf_X12_writesTwo hwd hm (Nat.le_of_ble_eq_true rfl) (fun K e1 e2 e3 e4 e5 hk => ?_)
  subst e4
  exact w_M_writesTwo hk hm cx1 h
set_option maxRecDepth 100000 in
set_option maxHeartbeats 4000000 in
theorem w_M_image_B54 {K : zK} (hk : zOk K kdM cX12_image 3 (some .int) RX12 2) {k76 : Int → zM → Option (Int × zM)} {rec : Int → Int → zM → Option (Int × zM)} {x1 : Int} {x2 : Int} {m : zM} {o : Int × zM} (hk76 : ∀ (x1 : Int) (m : zM), zG kdM m → cI x1 → k76 x1 m = some o → GoAt K m [(0, .ref (kB K + 0)), (1, mI x1)] [] 76 (0, o.1, o.2)) (hrec : ∀ (x1 : Int) (x2 : Int) (m : zM), zG kdM m → cI x1 → cI x2 → rec x1 x2 m = some o → GoAt K m [(0, .ref (kB K + 0)), (1, mI x1), (2, mI x2)] [] 54 (0, o.1, o.2)) (hm : zG kdM m) (cx1 : cI x1) (cx2 : cI x2) (h : M_image_B54 k76 rec x1 x2 m = some o) : GoAt K m [(0, .ref (kB K + 0)), (1, mI x1), (2, mI x2)] [] 54 (0, o.1, o.2) := by
  unfold M_image_B54 at h
  refine g_iload_n hk 2 rfl dX12_image_54 ?_
  refine g_iconst hk (v := 3) rfl dX12_image_55 ?_
  refine g_icmp_ge hk cx2 (cIk rfl) dX12_image_56 h (fun b1 h => ?_) (fun b1 h => ?_)
  · refine g_aload_n hk 0 rfl dX12_image_59 ?_
    refine g_aload_n hk 0 rfl dX12_image_60 ?_
    refine g_iconst hk (v := 0) rfl dX12_image_61 ?_
    refine g_iload_n hk 1 rfl dX12_image_62 ?_
    refine g_iload_n hk 2 rfl dX12_image_63 ?_
    obtain ⟨r2, e3, h⟩ := zbind h
    refine g_callVi hk (st := [.ref (kB K + 0)]) mf_X12_look lk_X12_471 mv_X12_look kdM_0 (by decide) rfl (Nat.le_of_ble_eq_true rfl) rfl dX12_image_64 (met_M_look _ _ _ _ _ hk.wd hm (cIk rfl) cx1 cx2 e3) (fun hm c4 => ?_)
    obtain ⟨r5, e6, h⟩ := zbind h
    refine g_callVv hk (st := []) mf_X12_writes lk_X12_593 mv_X12_writes kdM_0 (by decide) rfl (Nat.le_of_ble_eq_true rfl) rfl dX12_image_67 (met_M_writes _ _ _ _ _ hk.wd hm c4 e6) (fun hm => ?_)
    refine g_iinc hk (lv' := [(2, mI (wI (x2 + 1))), (0, .ref (kB K + 0)), (1, mI x1)]) 2 rfl (Nat.le_of_ble_eq_true rfl) rfl dX12_image_70 ?_
    refine g_goto hk dX12_image_73 ?_
    refine GoAt.sub [1, 2, 0] rfl ?_
    exact hrec _ _ _ hm cx1 (wI_c _) h
  · refine GoAt.sub [0, 1] rfl ?_
    exact hk76 _ _ hm cx1 h
theorem w_M_image_L54 {K : zK} (hk : zOk K kdM cX12_image 3 (some .int) RX12 2) {k76 : Int → zM → Option (Int × zM)} {o : Int × zM} (hk76 : ∀ (x1 : Int) (m : zM), zG kdM m → cI x1 → k76 x1 m = some o → GoAt K m [(0, .ref (kB K + 0)), (1, mI x1)] [] 76 (0, o.1, o.2)) : ∀ (n : Nat) (x1 : Int) (x2 : Int) (m : zM), zG kdM m → cI x1 → cI x2 → M_image_L54 k76 n x1 x2 m = some o → GoAt K m [(0, .ref (kB K + 0)), (1, mI x1), (2, mI x2)] [] 54 (0, o.1, o.2)
  | 0, x1, x2, m, hm, cx1, cx2, h => by cases h
  | n + 1, x1, x2, m, hm, cx1, cx2, h => w_M_image_B54 hk hk76 (w_M_image_L54 hk hk76 n) hm cx1 cx2 h
set_option maxRecDepth 100000 in
set_option maxHeartbeats 4000000 in
theorem w_M_image_B39 {K : zK} (hk : zOk K kdM cX12_image 3 (some .int) RX12 2) {k104 : zM → Option (Int × zM)} {rec : Int → zM → Option (Int × zM)} {x1 : Int} {m : zM} {o : Int × zM} (hk104 : ∀  (m : zM), zG kdM m → k104 m = some o → GoAt K m [(0, .ref (kB K + 0))] [] 104 (0, o.1, o.2)) (hrec : ∀ (x1 : Int) (m : zM), zG kdM m → cI x1 → rec x1 m = some o → GoAt K m [(0, .ref (kB K + 0)), (1, mI x1)] [] 39 (0, o.1, o.2)) (hm : zG kdM m) (cx1 : cI x1) (h : M_image_B39 k104 rec x1 m = some o) : GoAt K m [(0, .ref (kB K + 0)), (1, mI x1)] [] 39 (0, o.1, o.2) := by
  unfold M_image_B39 at h
  refine g_iload_n hk 1 rfl dX12_image_39 ?_
  refine g_aload_n hk 0 rfl dX12_image_40 ?_
  refine g_get2 hk fl_X12_69 rfl kdM_0 hm (b := 7) rfl dX12_image_41 ?_
  refine g_aload_n hk 0 rfl dX12_image_44 ?_
  have g1 := zGI (i := 13) hm kdM_0 rfl
  refine g_get0 hk fl_X12_51 rfl (j := 13) rfl kdM_0 dX12_image_45 ?_
  refine g_iald hk g1 kdM_7 hm dX12_image_48 h (fun y2 cy2 h => ?_)
  refine g_icmp_ge hk cx1 cy2 dX12_image_49 h (fun b3 h => ?_) (fun b3 h => ?_)
  · refine g_iconst hk (v := 0) rfl dX12_image_52 ?_
    refine g_istore_n hk rfl (lv' := [(2, mI 0), (0, .ref (kB K + 0)), (1, mI x1)]) (Nat.le_of_ble_eq_true rfl) rfl dX12_image_53 ?_
    refine GoAt.sub [1, 2, 0] rfl ?_
    refine w_M_image_L54 hk (fun x1_4 m5 hm cx1_4 h => ?_) 1000000 _ _ _ hm cx1 (cIk rfl) h
    · refine g_aload_n hk 0 rfl dX12_image_76 ?_
      refine g_aload_n hk 0 rfl dX12_image_77 ?_
      refine g_get2 hk fl_X12_162 rfl kdM_0 hm (b := 30) rfl dX12_image_78 ?_
      refine g_iload_n hk 1 rfl dX12_image_81 ?_
      refine g_iald hk cx1_4 kdM_30 hm dX12_image_82 h (fun y6 cy6 h => ?_)
      refine g_iconst hk (v := 1) rfl dX12_image_83 ?_
      refine g_iadd hk dX12_image_84 ?_
      obtain ⟨r7, e8, h⟩ := zbind h
      refine g_callVv hk (st := []) mf_X12_writes lk_X12_593 mv_X12_writes kdM_0 (by decide) rfl (Nat.le_of_ble_eq_true rfl) rfl dX12_image_85 (met_M_writes _ _ _ _ _ hk.wd hm (wI_c _) e8) (fun hm => ?_)
      refine g_aload_n hk 0 rfl dX12_image_88 ?_
      refine g_aload_n hk 0 rfl dX12_image_89 ?_
      refine g_get2 hk fl_X12_165 rfl kdM_0 hm (b := 31) rfl dX12_image_90 ?_
      refine g_iload_n hk 1 rfl dX12_image_93 ?_
      refine g_iald hk cx1_4 kdM_31 hm dX12_image_94 h (fun y10 cy10 h => ?_)
      obtain ⟨r11, e12, h⟩ := zbind h
      refine g_callVv hk (st := []) mf_X12_writes lk_X12_593 mv_X12_writes kdM_0 (by decide) rfl (Nat.le_of_ble_eq_true rfl) rfl dX12_image_95 (met_M_writes _ _ _ _ _ hk.wd hm cy10 e12) (fun hm => ?_)
      refine g_iinc hk (lv' := [(1, mI (wI (x1_4 + 1))), (0, .ref (kB K + 0))]) 1 rfl (Nat.le_of_ble_eq_true rfl) rfl dX12_image_98 ?_
      refine g_goto hk dX12_image_101 ?_
      refine GoAt.sub [1, 0] rfl ?_
      exact hrec _ _ hm (wI_c _) h
  · refine GoAt.sub [0] rfl ?_
    exact hk104 _ hm h
theorem w_M_image_L39 {K : zK} (hk : zOk K kdM cX12_image 3 (some .int) RX12 2) {k104 : zM → Option (Int × zM)} {o : Int × zM} (hk104 : ∀  (m : zM), zG kdM m → k104 m = some o → GoAt K m [(0, .ref (kB K + 0))] [] 104 (0, o.1, o.2)) : ∀ (n : Nat) (x1 : Int) (m : zM), zG kdM m → cI x1 → M_image_L39 k104 n x1 m = some o → GoAt K m [(0, .ref (kB K + 0)), (1, mI x1)] [] 39 (0, o.1, o.2)
  | 0, x1, m, hm, cx1, h => by cases h
  | n + 1, x1, m, hm, cx1, h => w_M_image_B39 hk hk104 (w_M_image_L39 hk hk104 n) hm cx1 h
set_option maxRecDepth 100000 in
set_option maxHeartbeats 4000000 in
theorem w_M_image_B121 {K : zK} (hk : zOk K kdM cX12_image 3 (some .int) RX12 2) {k143 : Int → zM → Option (Int × zM)} {rec : Int → Int → zM → Option (Int × zM)} {x1 : Int} {x2 : Int} {m : zM} {o : Int × zM} (hk143 : ∀ (x1 : Int) (m : zM), zG kdM m → cI x1 → k143 x1 m = some o → GoAt K m [(0, .ref (kB K + 0)), (1, mI x1)] [] 143 (0, o.1, o.2)) (hrec : ∀ (x1 : Int) (x2 : Int) (m : zM), zG kdM m → cI x1 → cI x2 → rec x1 x2 m = some o → GoAt K m [(0, .ref (kB K + 0)), (1, mI x1), (2, mI x2)] [] 121 (0, o.1, o.2)) (hm : zG kdM m) (cx1 : cI x1) (cx2 : cI x2) (h : M_image_B121 k143 rec x1 x2 m = some o) : GoAt K m [(0, .ref (kB K + 0)), (1, mI x1), (2, mI x2)] [] 121 (0, o.1, o.2) := by
  unfold M_image_B121 at h
  refine g_iload_n hk 2 rfl dX12_image_121 ?_
  refine g_iconst hk (v := 3) rfl dX12_image_122 ?_
  refine g_icmp_ge hk cx2 (cIk rfl) dX12_image_123 h (fun b1 h => ?_) (fun b1 h => ?_)
  · refine g_aload_n hk 0 rfl dX12_image_126 ?_
    refine g_aload_n hk 0 rfl dX12_image_127 ?_
    refine g_iconst hk (v := 0) rfl dX12_image_128 ?_
    refine g_iload_n hk 1 rfl dX12_image_129 ?_
    refine g_iload_n hk 2 rfl dX12_image_130 ?_
    obtain ⟨r2, e3, h⟩ := zbind h
    refine g_callVi hk (st := [.ref (kB K + 0)]) mf_X12_tasteIn lk_X12_475 mv_X12_tasteIn kdM_0 (by decide) rfl (Nat.le_of_ble_eq_true rfl) rfl dX12_image_131 (met_M_tasteIn _ _ _ _ _ hk.wd hm (cIk rfl) cx1 cx2 e3) (fun hm c4 => ?_)
    obtain ⟨r5, e6, h⟩ := zbind h
    refine g_callVv hk (st := []) mf_X12_writes lk_X12_593 mv_X12_writes kdM_0 (by decide) rfl (Nat.le_of_ble_eq_true rfl) rfl dX12_image_134 (met_M_writes _ _ _ _ _ hk.wd hm c4 e6) (fun hm => ?_)
    refine g_iinc hk (lv' := [(2, mI (wI (x2 + 1))), (0, .ref (kB K + 0)), (1, mI x1)]) 2 rfl (Nat.le_of_ble_eq_true rfl) rfl dX12_image_137 ?_
    refine g_goto hk dX12_image_140 ?_
    refine GoAt.sub [1, 2, 0] rfl ?_
    exact hrec _ _ _ hm cx1 (wI_c _) h
  · refine GoAt.sub [0, 1] rfl ?_
    exact hk143 _ _ hm cx1 h
theorem w_M_image_L121 {K : zK} (hk : zOk K kdM cX12_image 3 (some .int) RX12 2) {k143 : Int → zM → Option (Int × zM)} {o : Int × zM} (hk143 : ∀ (x1 : Int) (m : zM), zG kdM m → cI x1 → k143 x1 m = some o → GoAt K m [(0, .ref (kB K + 0)), (1, mI x1)] [] 143 (0, o.1, o.2)) : ∀ (n : Nat) (x1 : Int) (x2 : Int) (m : zM), zG kdM m → cI x1 → cI x2 → M_image_L121 k143 n x1 x2 m = some o → GoAt K m [(0, .ref (kB K + 0)), (1, mI x1), (2, mI x2)] [] 121 (0, o.1, o.2)
  | 0, x1, x2, m, hm, cx1, cx2, h => by cases h
  | n + 1, x1, x2, m, hm, cx1, cx2, h => w_M_image_B121 hk hk143 (w_M_image_L121 hk hk143 n) hm cx1 cx2 h
set_option maxRecDepth 100000 in
set_option maxHeartbeats 4000000 in
theorem w_M_image_B145 {K : zK} (hk : zOk K kdM cX12_image 3 (some .int) RX12 2) {k196 : Int → zM → Option (Int × zM)} {rec : Int → Int → zM → Option (Int × zM)} {x1 : Int} {x2 : Int} {m : zM} {o : Int × zM} (hk196 : ∀ (x1 : Int) (m : zM), zG kdM m → cI x1 → k196 x1 m = some o → GoAt K m [(0, .ref (kB K + 0)), (1, mI x1)] [] 196 (0, o.1, o.2)) (hrec : ∀ (x1 : Int) (x2 : Int) (m : zM), zG kdM m → cI x1 → cI x2 → rec x1 x2 m = some o → GoAt K m [(0, .ref (kB K + 0)), (1, mI x1), (2, mI x2)] [] 145 (0, o.1, o.2)) (hm : zG kdM m) (cx1 : cI x1) (cx2 : cI x2) (h : M_image_B145 k196 rec x1 x2 m = some o) : GoAt K m [(0, .ref (kB K + 0)), (1, mI x1), (2, mI x2)] [] 145 (0, o.1, o.2) := by
  unfold M_image_B145 at h
  refine g_iload_n hk 2 rfl dX12_image_145 ?_
  refine g_aload_n hk 0 rfl dX12_image_146 ?_
  refine g_get2 hk fl_X12_69 rfl kdM_0 hm (b := 7) rfl dX12_image_147 ?_
  refine g_aload_n hk 0 rfl dX12_image_150 ?_
  have g1 := zGI (i := 13) hm kdM_0 rfl
  refine g_get0 hk fl_X12_51 rfl (j := 13) rfl kdM_0 dX12_image_151 ?_
  refine g_iald hk g1 kdM_7 hm dX12_image_154 h (fun y2 cy2 h => ?_)
  refine g_icmp_ge hk cx2 cy2 dX12_image_155 h (fun b3 h => ?_) (fun b3 h => ?_)
  · refine g_aload_n hk 0 rfl dX12_image_158 ?_
    refine g_aload_n hk 0 rfl dX12_image_159 ?_
    refine g_get2 hk fl_X12_171 rfl kdM_0 hm (b := 33) rfl dX12_image_160 ?_
    refine g_aload_n hk 0 rfl dX12_image_163 ?_
    refine g_iconst hk (v := 0) rfl dX12_image_164 ?_
    refine g_iload_n hk 1 rfl dX12_image_165 ?_
    refine g_iload_n hk 2 rfl dX12_image_166 ?_
    obtain ⟨r4, e5, h⟩ := zbind h
    refine g_callVi hk (st := [.ref (kB K + 33), .ref (kB K + 0)]) mf_X12_pair lk_X12_481 mv_X12_pair kdM_0 (by decide) rfl (Nat.le_of_ble_eq_true rfl) rfl dX12_image_167 (met_M_pair _ _ _ _ _ hk.wd hm (cIk rfl) cx1 cx2 e5) (fun hm c6 => ?_)
    refine g_iald hk c6 kdM_33 hm dX12_image_170 h (fun y7 cy7 h => ?_)
    obtain ⟨r8, e9, h⟩ := zbind h
    refine g_callVv hk (st := []) mf_X12_writes lk_X12_593 mv_X12_writes kdM_0 (by decide) rfl (Nat.le_of_ble_eq_true rfl) rfl dX12_image_171 (met_M_writes _ _ _ _ _ hk.wd hm cy7 e9) (fun hm => ?_)
    refine g_aload_n hk 0 rfl dX12_image_174 ?_
    refine g_aload_n hk 0 rfl dX12_image_175 ?_
    refine g_get2 hk fl_X12_174 rfl kdM_0 hm (b := 34) rfl dX12_image_176 ?_
    refine g_aload_n hk 0 rfl dX12_image_179 ?_
    refine g_iconst hk (v := 0) rfl dX12_image_180 ?_
    refine g_iload_n hk 1 rfl dX12_image_181 ?_
    refine g_iload_n hk 2 rfl dX12_image_182 ?_
    obtain ⟨r11, e12, h⟩ := zbind h
    refine g_callVi hk (st := [.ref (kB K + 34), .ref (kB K + 0)]) mf_X12_pair lk_X12_481 mv_X12_pair kdM_0 (by decide) rfl (Nat.le_of_ble_eq_true rfl) rfl dX12_image_183 (met_M_pair _ _ _ _ _ hk.wd hm (cIk rfl) cx1 cx2 e12) (fun hm c13 => ?_)
    refine g_iald hk c13 kdM_34 hm dX12_image_186 h (fun y14 cy14 h => ?_)
    obtain ⟨r15, e16, h⟩ := zbind h
    refine g_callVv hk (st := []) mf_X12_writes lk_X12_593 mv_X12_writes kdM_0 (by decide) rfl (Nat.le_of_ble_eq_true rfl) rfl dX12_image_187 (met_M_writes _ _ _ _ _ hk.wd hm cy14 e16) (fun hm => ?_)
    refine g_iinc hk (lv' := [(2, mI (wI (x2 + 1))), (0, .ref (kB K + 0)), (1, mI x1)]) 2 rfl (Nat.le_of_ble_eq_true rfl) rfl dX12_image_190 ?_
    refine g_goto hk dX12_image_193 ?_
    refine GoAt.sub [1, 2, 0] rfl ?_
    exact hrec _ _ _ hm cx1 (wI_c _) h
  · refine GoAt.sub [0, 1] rfl ?_
    exact hk196 _ _ hm cx1 h
theorem w_M_image_L145 {K : zK} (hk : zOk K kdM cX12_image 3 (some .int) RX12 2) {k196 : Int → zM → Option (Int × zM)} {o : Int × zM} (hk196 : ∀ (x1 : Int) (m : zM), zG kdM m → cI x1 → k196 x1 m = some o → GoAt K m [(0, .ref (kB K + 0)), (1, mI x1)] [] 196 (0, o.1, o.2)) : ∀ (n : Nat) (x1 : Int) (x2 : Int) (m : zM), zG kdM m → cI x1 → cI x2 → M_image_L145 k196 n x1 x2 m = some o → GoAt K m [(0, .ref (kB K + 0)), (1, mI x1), (2, mI x2)] [] 145 (0, o.1, o.2)
  | 0, x1, x2, m, hm, cx1, cx2, h => by cases h
  | n + 1, x1, x2, m, hm, cx1, cx2, h => w_M_image_B145 hk hk196 (w_M_image_L145 hk hk196 n) hm cx1 cx2 h
set_option maxRecDepth 100000 in
set_option maxHeartbeats 4000000 in
theorem w_M_image_B106 {K : zK} (hk : zOk K kdM cX12_image 3 (some .int) RX12 2) {k202 : zM → Option (Int × zM)} {rec : Int → zM → Option (Int × zM)} {x1 : Int} {m : zM} {o : Int × zM} (hk202 : ∀  (m : zM), zG kdM m → k202 m = some o → GoAt K m [(0, .ref (kB K + 0))] [] 202 (0, o.1, o.2)) (hrec : ∀ (x1 : Int) (m : zM), zG kdM m → cI x1 → rec x1 m = some o → GoAt K m [(0, .ref (kB K + 0)), (1, mI x1)] [] 106 (0, o.1, o.2)) (hm : zG kdM m) (cx1 : cI x1) (h : M_image_B106 k202 rec x1 m = some o) : GoAt K m [(0, .ref (kB K + 0)), (1, mI x1)] [] 106 (0, o.1, o.2) := by
  unfold M_image_B106 at h
  refine g_iload_n hk 1 rfl dX12_image_106 ?_
  refine g_aload_n hk 0 rfl dX12_image_107 ?_
  refine g_get2 hk fl_X12_54 rfl kdM_0 hm (b := 2) rfl dX12_image_108 ?_
  refine g_aload_n hk 0 rfl dX12_image_111 ?_
  have g1 := zGI (i := 13) hm kdM_0 rfl
  refine g_get0 hk fl_X12_51 rfl (j := 13) rfl kdM_0 dX12_image_112 ?_
  refine g_iald hk g1 kdM_2 hm dX12_image_115 h (fun y2 cy2 h => ?_)
  refine g_icmp_ge hk cx1 cy2 dX12_image_116 h (fun b3 h => ?_) (fun b3 h => ?_)
  · refine g_iconst hk (v := 0) rfl dX12_image_119 ?_
    refine g_istore_n hk rfl (lv' := [(2, mI 0), (0, .ref (kB K + 0)), (1, mI x1)]) (Nat.le_of_ble_eq_true rfl) rfl dX12_image_120 ?_
    refine GoAt.sub [1, 2, 0] rfl ?_
    refine w_M_image_L121 hk (fun x1_4 m5 hm cx1_4 h => ?_) 1000000 _ _ _ hm cx1 (cIk rfl) h
    · refine g_iconst hk (v := 0) rfl dX12_image_143 ?_
      refine g_istore_n hk rfl (lv' := [(2, mI 0), (0, .ref (kB K + 0)), (1, mI x1_4)]) (Nat.le_of_ble_eq_true rfl) rfl dX12_image_144 ?_
      refine GoAt.sub [1, 2, 0] rfl ?_
      refine w_M_image_L145 hk (fun x1_6 m7 hm cx1_6 h => ?_) 1000000 _ _ _ hm cx1_4 (cIk rfl) h
      · refine g_iinc hk (lv' := [(1, mI (wI (x1_6 + 1))), (0, .ref (kB K + 0))]) 1 rfl (Nat.le_of_ble_eq_true rfl) rfl dX12_image_196 ?_
        refine g_goto hk dX12_image_199 ?_
        refine GoAt.sub [1, 0] rfl ?_
        exact hrec _ _ hm (wI_c _) h
  · refine GoAt.sub [0] rfl ?_
    exact hk202 _ hm h
theorem w_M_image_L106 {K : zK} (hk : zOk K kdM cX12_image 3 (some .int) RX12 2) {k202 : zM → Option (Int × zM)} {o : Int × zM} (hk202 : ∀  (m : zM), zG kdM m → k202 m = some o → GoAt K m [(0, .ref (kB K + 0))] [] 202 (0, o.1, o.2)) : ∀ (n : Nat) (x1 : Int) (m : zM), zG kdM m → cI x1 → M_image_L106 k202 n x1 m = some o → GoAt K m [(0, .ref (kB K + 0)), (1, mI x1)] [] 106 (0, o.1, o.2)
  | 0, x1, m, hm, cx1, h => by cases h
  | n + 1, x1, m, hm, cx1, h => w_M_image_B106 hk hk202 (w_M_image_L106 hk hk202 n) hm cx1 h
set_option maxRecDepth 100000 in
set_option maxHeartbeats 4000000 in
theorem w_M_image_B208 {K : zK} (hk : zOk K kdM cX12_image 3 (some .int) RX12 2) {rec : Int → Int → zM → Option (Int × zM)} {x1 : Int} {x2 : Int} {m : zM} {o : Int × zM} (hrec : ∀ (x1 : Int) (x2 : Int) (m : zM), zG kdM m → cI x1 → cI x2 → rec x1 x2 m = some o → GoAt K m [(0, .ref (kB K + 0)), (1, mI x1), (2, mI x2)] [] 208 (0, o.1, o.2)) (hm : zG kdM m) (cx1 : cI x1) (cx2 : cI x2) (h : M_image_B208 rec x1 x2 m = some o) : GoAt K m [(0, .ref (kB K + 0)), (1, mI x1), (2, mI x2)] [] 208 (0, o.1, o.2) := by
  unfold M_image_B208 at h
  refine g_iload_n hk 2 rfl dX12_image_208 ?_
  refine g_aload_n hk 0 rfl dX12_image_209 ?_
  have g1 := zGI (i := 76) hm kdM_0 rfl
  refine g_get0 hk fl_X12_243 rfl (j := 76) rfl kdM_0 dX12_image_210 ?_
  refine g_icmp_ge hk cx2 g1 dX12_image_213 h (fun b2 h => ?_) (fun b2 h => ?_)
  · refine g_iconst hk (v := 5) rfl dX12_image_216 ?_
    refine g_iload_n hk 1 rfl dX12_image_217 ?_
    refine g_imul hk dX12_image_218 ?_
    refine g_aload_n hk 0 rfl dX12_image_219 ?_
    refine g_get2 hk fl_X12_240 rfl kdM_0 hm (b := 52) rfl dX12_image_220 ?_
    refine g_iload_n hk 2 rfl dX12_image_223 ?_
    refine g_iald hk cx2 kdM_52 hm dX12_image_224 h (fun y3 cy3 h => ?_)
    refine g_iadd hk dX12_image_225 ?_
    refine g_sipush hk (v := 251) rfl dX12_image_226 ?_
    refine g_irem hk (cIk rfl) (by decide) dX12_image_229 ?_
    refine g_let (cI_t _) h (fun v4 cv4 h => ?_)
    refine g_istore_n hk rfl (lv' := [(1, mI v4), (0, .ref (kB K + 0)), (2, mI x2)]) (Nat.le_of_ble_eq_true rfl) rfl dX12_image_230 ?_
    refine g_iinc hk (lv' := [(2, mI (wI (x2 + 1))), (1, mI v4), (0, .ref (kB K + 0))]) 2 rfl (Nat.le_of_ble_eq_true rfl) rfl dX12_image_231 ?_
    refine g_goto hk dX12_image_234 ?_
    refine GoAt.sub [2, 1, 0] rfl ?_
    exact hrec _ _ _ hm cv4 (wI_c _) h
  · refine g_aload_n hk 0 rfl dX12_image_237 ?_
    refine g_iload_n hk 1 rfl dX12_image_238 ?_
    obtain ⟨r5, e6, h⟩ := zbind h
    refine g_callVv hk (st := []) mf_X12_writes lk_X12_593 mv_X12_writes kdM_0 (by decide) rfl (Nat.le_of_ble_eq_true rfl) rfl dX12_image_239 (met_M_writes _ _ _ _ _ hk.wd hm cx1 e6) (fun hm => ?_)
    refine g_aload_n hk 0 rfl dX12_image_242 ?_
    have g8 := zGI (i := 76) hm kdM_0 rfl
    refine g_get0 hk fl_X12_243 rfl (j := 76) rfl kdM_0 dX12_image_243 ?_
    exact g_ireturn hk g8 dX12_image_246 (by cases h; rfl)
theorem w_M_image_L208 {K : zK} (hk : zOk K kdM cX12_image 3 (some .int) RX12 2)  {o : Int × zM}  : ∀ (n : Nat) (x1 : Int) (x2 : Int) (m : zM), zG kdM m → cI x1 → cI x2 → M_image_L208 n x1 x2 m = some o → GoAt K m [(0, .ref (kB K + 0)), (1, mI x1), (2, mI x2)] [] 208 (0, o.1, o.2)
  | 0, x1, x2, m, hm, cx1, cx2, h => by cases h
  | n + 1, x1, x2, m, hm, cx1, cx2, h => w_M_image_B208 hk  (w_M_image_L208 hk  n) hm cx1 cx2 h
set_option maxRecDepth 100000 in
set_option maxHeartbeats 4000000 in
theorem w_M_image {K : zK} (hk : zOk K kdM cX12_image 3 (some .int) RX12 2)  {m : zM} {o : Int × zM}  (hm : zG kdM m)  (h : M_image m = some o) : GoAt K m [(0, .ref (kB K + 0))] [] 0 (0, o.1, o.2) := by
  unfold M_image at h
  refine g_aload_n hk 0 rfl dX12_image_0 ?_
  refine g_iconst hk (v := 0) rfl dX12_image_1 ?_
  refine g_put0 hk fp_X12_243 rfl (j := 76) rfl kdM_0 (cIk rfl) dX12_image_2 h hm (fun m1 hm h => ?_)
  refine g_aload_n hk 0 rfl dX12_image_5 ?_
  refine g_aload_n hk 0 rfl dX12_image_6 ?_
  refine g_get2 hk fl_X12_153 rfl kdM_0 hm (b := 27) rfl dX12_image_7 ?_
  refine g_iconst hk (v := 0) rfl dX12_image_10 ?_
  refine g_iald hk (cIk rfl) kdM_27 hm dX12_image_11 h (fun y2 cy2 h => ?_)
  refine g_bipush hk (v := 24) rfl dX12_image_12 ?_
  refine g_idiv hk (cIk rfl) (by decide) dX12_image_14 ?_
  obtain ⟨r3, e4, h⟩ := zbind h
  refine g_callVv hk (st := []) mf_X12_writesTwo lk_X12_596 mv_X12_writesTwo kdM_0 (by decide) rfl (Nat.le_of_ble_eq_true rfl) rfl dX12_image_15 (met_M_writesTwo _ _ _ _ _ hk.wd hm (cI_t _) e4) (fun hm => ?_)
  refine g_aload_n hk 0 rfl dX12_image_18 ?_
  refine g_aload_n hk 0 rfl dX12_image_19 ?_
  refine g_iconst hk (v := 0) rfl dX12_image_20 ?_
  obtain ⟨r6, e7, h⟩ := zbind h
  refine g_callVi hk (st := [.ref (kB K + 0)]) mf_X12_hourIn lk_X12_483 mv_X12_hourIn kdM_0 (by decide) rfl (Nat.le_of_ble_eq_true rfl) rfl dX12_image_21 (met_M_hourIn _ _ _ _ _ hk.wd hm (cIk rfl) e7) (fun hm c8 => ?_)
  obtain ⟨r9, e10, h⟩ := zbind h
  refine g_callVv hk (st := []) mf_X12_writes lk_X12_593 mv_X12_writes kdM_0 (by decide) rfl (Nat.le_of_ble_eq_true rfl) rfl dX12_image_24 (met_M_writes _ _ _ _ _ hk.wd hm c8 e10) (fun hm => ?_)
  refine g_aload_n hk 0 rfl dX12_image_27 ?_
  refine g_aload_n hk 0 rfl dX12_image_28 ?_
  refine g_get2 hk fl_X12_156 rfl kdM_0 hm (b := 28) rfl dX12_image_29 ?_
  refine g_iconst hk (v := 0) rfl dX12_image_32 ?_
  refine g_iald hk (cIk rfl) kdM_28 hm dX12_image_33 h (fun y12 cy12 h => ?_)
  obtain ⟨r13, e14, h⟩ := zbind h
  refine g_callVv hk (st := []) mf_X12_writesTwo lk_X12_596 mv_X12_writesTwo kdM_0 (by decide) rfl (Nat.le_of_ble_eq_true rfl) rfl dX12_image_34 (met_M_writesTwo _ _ _ _ _ hk.wd hm cy12 e14) (fun hm => ?_)
  refine g_iconst hk (v := 0) rfl dX12_image_37 ?_
  refine g_istore_n hk rfl (lv' := [(1, mI 0), (0, .ref (kB K + 0))]) (Nat.le_of_ble_eq_true rfl) rfl dX12_image_38 ?_
  refine GoAt.sub [1, 0] rfl ?_
  refine w_M_image_L39 hk (fun m17 hm h => ?_) 1000000 _ _ hm (cIk rfl) h
  · refine g_iconst hk (v := 0) rfl dX12_image_104 ?_
    refine g_istore_n hk rfl (lv' := [(1, mI 0), (0, .ref (kB K + 0))]) (Nat.le_of_ble_eq_true rfl) rfl dX12_image_105 ?_
    refine GoAt.sub [1, 0] rfl ?_
    refine w_M_image_L106 hk (fun m19 hm h => ?_) 1000000 _ _ hm (cIk rfl) h
    · refine g_sipush hk (v := 151) rfl dX12_image_202 ?_
      refine g_istore_n hk rfl (lv' := [(1, mI 151), (0, .ref (kB K + 0))]) (Nat.le_of_ble_eq_true rfl) rfl dX12_image_205 ?_
      refine g_iconst hk (v := 0) rfl dX12_image_206 ?_
      refine g_istore_n hk rfl (lv' := [(2, mI 0), (1, mI 151), (0, .ref (kB K + 0))]) (Nat.le_of_ble_eq_true rfl) rfl dX12_image_207 ?_
      refine GoAt.sub [2, 1, 0] rfl ?_
      refine w_M_image_L208 hk  1000000 _ _ _ hm (cIk rfl) (cIk rfl) h
theorem met_M_image (l : Launch) (D : va_G) (aC : Nat → ClassId) (B N : Nat) (hwd : ∀ id, (kdM id).1 ≠ 9 → id < N) {m : zM} {o : Int × zM} (hm : zG kdM m)  (h : M_image m = some o) : zMet l yX12_image cX12_image 3 (some .int) 2 D aC B kdM N [.ref (B + 0)] m (0, o.1, o.2) := by
  refine zMet.of mf_X12_image hwd hm (Nat.le_of_ble_eq_true rfl) (fun K e1 e2 e3 e4 e5 hk => ?_)
  subst e4
  exact w_M_image hk hm  h
set_option maxRecDepth 100000 in
set_option maxHeartbeats 4000000 in
theorem w_M_octet {K : zK} (hk : zOk K kdM cX12_octet 2 (some .int) RX12 1)  {x1 : Int} {m : zM} {o : Int}  (hm : zG kdM m) (cx1 : cI x1) (h : M_octet x1 m = some o) : GoAt K m [(0, .ref (kB K + 0)), (1, mI x1)] [] 0 (0, o, m) := by
  unfold M_octet at h
  refine g_iload_n hk 1 rfl dX12_octet_0 ?_
  refine g_iconst hk (v := 0) rfl dX12_octet_1 ?_
  refine g_aload_n hk 0 rfl dX12_octet_2 ?_
  have g1 := zGI (i := 76) hm kdM_0 rfl
  refine g_get0 hk fl_X12_243 rfl (j := 76) rfl kdM_0 dX12_octet_3 ?_
  refine g_iconst hk (v := 1) rfl dX12_octet_6 ?_
  refine g_isub hk dX12_octet_7 ?_
  obtain ⟨r2, e3, h⟩ := zbind h
  refine g_callSz hk (st := []) mf_X12_is lk_X12_345 ms_X12_is (by decide) rfl (Nat.le_of_ble_eq_true rfl) rfl dX12_octet_8 (met_M_is _ _ _ _ _ hk.wd hm cx1 (cIk rfl) (wI_c _) e3) (fun hm c4 => ?_)
  refine g_if_eq hk (b01 c4) dX12_octet_11 h (fun b5 h => ?_) (fun b5 h => ?_)
  · refine g_iconst hk (v := (-1)) rfl dX12_octet_23 ?_
    exact g_ireturn hk (cIk rfl) dX12_octet_24 (by cases h; rfl)
  · refine g_aload_n hk 0 rfl dX12_octet_14 ?_
    refine g_get2 hk fl_X12_240 rfl kdM_0 hm (b := 52) rfl dX12_octet_15 ?_
    refine g_iload_n hk 1 rfl dX12_octet_18 ?_
    refine g_iald hk cx1 kdM_52 hm dX12_octet_19 h (fun y6 cy6 h => ?_)
    refine g_goto hk dX12_octet_20 ?_
    exact g_ireturn hk cy6 dX12_octet_24 (by cases h; rfl)
theorem met_M_octet (l : Launch) (D : va_G) (aC : Nat → ClassId) (B N : Nat) (hwd : ∀ id, (kdM id).1 ≠ 9 → id < N) {x1 : Int} {m : zM} {o : Int} (hm : zG kdM m) (cx1 : cI x1) (h : M_octet x1 m = some o) : zMet l yX12_octet cX12_octet 2 (some .int) 1 D aC B kdM N [.ref (B + 0), mI x1] m (0, o, m) := by
  refine zMet.of mf_X12_octet hwd hm (Nat.le_of_ble_eq_true rfl) (fun K e1 e2 e3 e4 e5 hk => ?_)
  subst e4
  exact w_M_octet hk hm cx1 h
set_option maxRecDepth 100000 in
set_option maxHeartbeats 4000000 in
theorem w_M_twoBytes {K : zK} (hk : zOk K kdM cX12_twoBytes 2 (some .int) RX12 0)  {x1 : Int} {m : zM} {o : Int}  (hm : zG kdM m) (cx1 : cI x1) (h : M_twoBytes x1 m = some o) : GoAt K m [(0, .ref (kB K + 0)), (1, mI x1)] [] 0 (0, o, m) := by
  unfold M_twoBytes at h
  refine g_aload_n hk 0 rfl dX12_twoBytes_0 ?_
  refine g_get2 hk fl_X12_7 rfl kdM_0 hm (b := 1) rfl dX12_twoBytes_1 ?_
  refine g_iload_n hk 1 rfl dX12_twoBytes_4 ?_
  refine g_iald hk cx1 kdM_1 hm dX12_twoBytes_5 h (fun y1 cy1 h => ?_)
  refine g_bipush hk (v := 8) rfl dX12_twoBytes_6 ?_
  refine g_ishl hk dX12_twoBytes_8 ?_
  refine g_aload_n hk 0 rfl dX12_twoBytes_9 ?_
  refine g_get2 hk fl_X12_7 rfl kdM_0 hm (b := 1) rfl dX12_twoBytes_10 ?_
  refine g_iload_n hk 1 rfl dX12_twoBytes_13 ?_
  refine g_iconst hk (v := 1) rfl dX12_twoBytes_14 ?_
  refine g_iadd hk dX12_twoBytes_15 ?_
  refine g_iald hk (wI_c _) kdM_1 hm dX12_twoBytes_16 h (fun y2 cy2 h => ?_)
  refine g_ior hk dX12_twoBytes_17 ?_
  exact g_ireturn hk (cI_t _) dX12_twoBytes_18 (by cases h; rfl)
theorem met_M_twoBytes (l : Launch) (D : va_G) (aC : Nat → ClassId) (B N : Nat) (hwd : ∀ id, (kdM id).1 ≠ 9 → id < N) {x1 : Int} {m : zM} {o : Int} (hm : zG kdM m) (cx1 : cI x1) (h : M_twoBytes x1 m = some o) : zMet l yX12_twoBytes cX12_twoBytes 2 (some .int) 0 D aC B kdM N [.ref (B + 0), mI x1] m (0, o, m) := by
  refine zMet.of mf_X12_twoBytes hwd hm (Nat.le_of_ble_eq_true rfl) (fun K e1 e2 e3 e4 e5 hk => ?_)
  subst e4
  exact w_M_twoBytes hk hm cx1 h
set_option maxRecDepth 100000 in
set_option maxHeartbeats 4000000 in
theorem w_M_guestOn_B2 {K : zK} (hk : zOk K kdM cX12_guestOn 4 (some .boolean) RX12 2) {k34 : Int → Int → zM → Option (Int × zM)} {rec : Int → Int → Int → zM → Option (Int × zM)} {x1 : Int} {x2 : Int} {x3 : Int} {m : zM} {o : Int × zM} (hk34 : ∀ (x1 : Int) (x2 : Int) (m : zM), zG kdM m → cI x1 → cI x2 → k34 x1 x2 m = some o → GoAt K m [(0, .ref (kB K + 0)), (1, mI x1), (2, mI x2)] [] 34 (4, o.1, o.2)) (hrec : ∀ (x1 : Int) (x2 : Int) (x3 : Int) (m : zM), zG kdM m → cI x1 → cI x2 → cI x3 → rec x1 x2 x3 m = some o → GoAt K m [(0, .ref (kB K + 0)), (1, mI x1), (2, mI x2), (3, mI x3)] [] 2 (4, o.1, o.2)) (hm : zG kdM m) (cx1 : cI x1) (cx2 : cI x2) (cx3 : cI x3) (h : M_guestOn_B2 k34 rec x1 x2 x3 m = some o) : GoAt K m [(0, .ref (kB K + 0)), (1, mI x1), (2, mI x2), (3, mI x3)] [] 2 (4, o.1, o.2) := by
  unfold M_guestOn_B2 at h
  refine g_iload_n hk 3 rfl dX12_guestOn_2 ?_
  refine g_iconst hk (v := 3) rfl dX12_guestOn_3 ?_
  refine g_icmp_ge hk cx3 (cIk rfl) dX12_guestOn_4 h (fun b1 h => ?_) (fun b1 h => ?_)
  · refine g_aload_n hk 0 rfl dX12_guestOn_7 ?_
    refine g_get2 hk fl_X12_159 rfl kdM_0 hm (b := 29) rfl dX12_guestOn_8 ?_
    refine g_bipush hk (v := 24) rfl dX12_guestOn_11 ?_
    refine g_iconst hk (v := 3) rfl dX12_guestOn_13 ?_
    refine g_iload_n hk 1 rfl dX12_guestOn_14 ?_
    refine g_imul hk dX12_guestOn_15 ?_
    refine g_iadd hk dX12_guestOn_16 ?_
    refine g_iload_n hk 3 rfl dX12_guestOn_17 ?_
    refine g_iadd hk dX12_guestOn_18 ?_
    refine g_aload_n hk 0 rfl dX12_guestOn_19 ?_
    refine g_get2 hk fl_X12_7 rfl kdM_0 hm (b := 1) rfl dX12_guestOn_20 ?_
    refine g_iload_n hk 2 rfl dX12_guestOn_23 ?_
    refine g_iload_n hk 3 rfl dX12_guestOn_24 ?_
    refine g_iadd hk dX12_guestOn_25 ?_
    refine g_iald hk (wI_c _) kdM_1 hm dX12_guestOn_26 h (fun y2 cy2 h => ?_)
    refine g_iast hk (wI_c _) cy2 kdM_29 hm dX12_guestOn_27 h (fun m3 hm h => ?_)
    refine g_iinc hk (lv' := [(3, mI (wI (x3 + 1))), (0, .ref (kB K + 0)), (1, mI x1), (2, mI x2)]) 3 rfl (Nat.le_of_ble_eq_true rfl) rfl dX12_guestOn_28 ?_
    refine g_goto hk dX12_guestOn_31 ?_
    refine GoAt.sub [1, 2, 3, 0] rfl ?_
    exact hrec _ _ _ _ hm cx1 cx2 (wI_c _) h
  · refine GoAt.sub [0, 1, 2] rfl ?_
    exact hk34 _ _ _ hm cx1 cx2 h
theorem w_M_guestOn_L2 {K : zK} (hk : zOk K kdM cX12_guestOn 4 (some .boolean) RX12 2) {k34 : Int → Int → zM → Option (Int × zM)} {o : Int × zM} (hk34 : ∀ (x1 : Int) (x2 : Int) (m : zM), zG kdM m → cI x1 → cI x2 → k34 x1 x2 m = some o → GoAt K m [(0, .ref (kB K + 0)), (1, mI x1), (2, mI x2)] [] 34 (4, o.1, o.2)) : ∀ (n : Nat) (x1 : Int) (x2 : Int) (x3 : Int) (m : zM), zG kdM m → cI x1 → cI x2 → cI x3 → M_guestOn_L2 k34 n x1 x2 x3 m = some o → GoAt K m [(0, .ref (kB K + 0)), (1, mI x1), (2, mI x2), (3, mI x3)] [] 2 (4, o.1, o.2)
  | 0, x1, x2, x3, m, hm, cx1, cx2, cx3, h => by cases h
  | n + 1, x1, x2, x3, m, hm, cx1, cx2, cx3, h => w_M_guestOn_B2 hk hk34 (w_M_guestOn_L2 hk hk34 n) hm cx1 cx2 cx3 h
set_option maxRecDepth 100000 in
set_option maxHeartbeats 4000000 in
theorem w_M_guestOn {K : zK} (hk : zOk K kdM cX12_guestOn 4 (some .boolean) RX12 2)  {x1 : Int} {x2 : Int} {m : zM} {o : Int × zM}  (hm : zG kdM m) (cx1 : cI x1) (cx2 : cI x2) (h : M_guestOn x1 x2 m = some o) : GoAt K m [(0, .ref (kB K + 0)), (1, mI x1), (2, mI x2)] [] 0 (4, o.1, o.2) := by
  unfold M_guestOn at h
  refine g_iconst hk (v := 0) rfl dX12_guestOn_0 ?_
  refine g_istore_n hk rfl (lv' := [(3, mI 0), (0, .ref (kB K + 0)), (1, mI x1), (2, mI x2)]) (Nat.le_of_ble_eq_true rfl) rfl dX12_guestOn_1 ?_
  refine GoAt.sub [1, 2, 3, 0] rfl ?_
  refine w_M_guestOn_L2 hk (fun x1_1 x2_1 m2 hm cx1_1 cx2_1 h => ?_) 1000000 _ _ _ _ hm cx1 cx2 (cIk rfl) h
  · refine g_aload_n hk 0 rfl dX12_guestOn_34 ?_
    refine g_get2 hk fl_X12_162 rfl kdM_0 hm (b := 30) rfl dX12_guestOn_35 ?_
    refine g_bipush hk (v := 8) rfl dX12_guestOn_38 ?_
    refine g_iload_n hk 1 rfl dX12_guestOn_40 ?_
    refine g_iadd hk dX12_guestOn_41 ?_
    refine g_aload_n hk 0 rfl dX12_guestOn_42 ?_
    refine g_get2 hk fl_X12_7 rfl kdM_0 hm (b := 1) rfl dX12_guestOn_43 ?_
    refine g_iload_n hk 2 rfl dX12_guestOn_46 ?_
    refine g_iconst hk (v := 3) rfl dX12_guestOn_47 ?_
    refine g_iadd hk dX12_guestOn_48 ?_
    refine g_iald hk (wI_c _) kdM_1 hm dX12_guestOn_49 h (fun y3 cy3 h => ?_)
    refine g_iconst hk (v := 1) rfl dX12_guestOn_50 ?_
    refine g_isub hk dX12_guestOn_51 ?_
    refine g_iast hk (wI_c _) (wI_c _) kdM_30 hm dX12_guestOn_52 h (fun m4 hm h => ?_)
    refine g_aload_n hk 0 rfl dX12_guestOn_53 ?_
    refine g_get2 hk fl_X12_165 rfl kdM_0 hm (b := 31) rfl dX12_guestOn_54 ?_
    refine g_bipush hk (v := 8) rfl dX12_guestOn_57 ?_
    refine g_iload_n hk 1 rfl dX12_guestOn_59 ?_
    refine g_iadd hk dX12_guestOn_60 ?_
    refine g_aload_n hk 0 rfl dX12_guestOn_61 ?_
    refine g_get2 hk fl_X12_7 rfl kdM_0 hm (b := 1) rfl dX12_guestOn_62 ?_
    refine g_iload_n hk 2 rfl dX12_guestOn_65 ?_
    refine g_iconst hk (v := 4) rfl dX12_guestOn_66 ?_
    refine g_iadd hk dX12_guestOn_67 ?_
    refine g_iald hk (wI_c _) kdM_1 hm dX12_guestOn_68 h (fun y5 cy5 h => ?_)
    refine g_iast hk (wI_c _) cy5 kdM_31 hm dX12_guestOn_69 h (fun m6 hm h => ?_)
    refine g_aload_n hk 0 rfl dX12_guestOn_70 ?_
    refine g_aload_n hk 0 rfl dX12_guestOn_71 ?_
    refine g_get2 hk fl_X12_7 rfl kdM_0 hm (b := 1) rfl dX12_guestOn_72 ?_
    refine g_iload_n hk 2 rfl dX12_guestOn_75 ?_
    refine g_iald hk cx2_1 kdM_1 hm dX12_guestOn_76 h (fun y7 cy7 h => ?_)
    refine g_aload_n hk 0 rfl dX12_guestOn_77 ?_
    refine g_get2 hk fl_X12_7 rfl kdM_0 hm (b := 1) rfl dX12_guestOn_78 ?_
    refine g_iload_n hk 2 rfl dX12_guestOn_81 ?_
    refine g_iconst hk (v := 1) rfl dX12_guestOn_82 ?_
    refine g_iadd hk dX12_guestOn_83 ?_
    refine g_iald hk (wI_c _) kdM_1 hm dX12_guestOn_84 h (fun y8 cy8 h => ?_)
    refine g_aload_n hk 0 rfl dX12_guestOn_85 ?_
    refine g_get2 hk fl_X12_7 rfl kdM_0 hm (b := 1) rfl dX12_guestOn_86 ?_
    refine g_iload_n hk 2 rfl dX12_guestOn_89 ?_
    refine g_iconst hk (v := 2) rfl dX12_guestOn_90 ?_
    refine g_iadd hk dX12_guestOn_91 ?_
    refine g_iald hk (wI_c _) kdM_1 hm dX12_guestOn_92 h (fun y9 cy9 h => ?_)
    obtain ⟨r10, e11, h⟩ := zbind h
    refine g_callVz hk (st := []) mf_X12_areNine lk_X12_590 mv_X12_areNine kdM_0 (by decide) rfl (Nat.le_of_ble_eq_true rfl) rfl dX12_guestOn_93 (met_M_areNine _ _ _ _ _ hk.wd hm cy7 cy8 cy9 e11) (fun hm c12 => ?_)
    refine g_if_eq hk (b01 c12) dX12_guestOn_96 h (fun b13 h => ?_) (fun b13 h => ?_)
    · refine g_iconst hk (v := 0) rfl dX12_guestOn_145 ?_
      exact g_zreturn hk z0 dX12_guestOn_146 (by cases h; rfl)
    · refine g_aload_n hk 0 rfl dX12_guestOn_99 ?_
      refine g_get2 hk fl_X12_7 rfl kdM_0 hm (b := 1) rfl dX12_guestOn_100 ?_
      refine g_iload_n hk 2 rfl dX12_guestOn_103 ?_
      refine g_iconst hk (v := 3) rfl dX12_guestOn_104 ?_
      refine g_iadd hk dX12_guestOn_105 ?_
      refine g_iald hk (wI_c _) kdM_1 hm dX12_guestOn_106 h (fun y14 cy14 h => ?_)
      refine g_aload_n hk 0 rfl dX12_guestOn_107 ?_
      refine g_get2 hk fl_X12_54 rfl kdM_0 hm (b := 2) rfl dX12_guestOn_108 ?_
      refine g_aload_n hk 0 rfl dX12_guestOn_111 ?_
      have g15 := zGI (i := 13) hm kdM_0 rfl
      refine g_get0 hk fl_X12_51 rfl (j := 13) rfl kdM_0 dX12_guestOn_112 ?_
      refine g_iald hk g15 kdM_2 hm dX12_guestOn_115 h (fun y16 cy16 h => ?_)
      refine g_icmp_gt hk cy14 cy16 dX12_guestOn_116 h (fun b17 h => ?_) (fun b17 h => ?_)
      · refine g_iconst hk (v := 0) rfl dX12_guestOn_145 ?_
        exact g_zreturn hk z0 dX12_guestOn_146 (by cases h; rfl)
      · refine g_aload_n hk 0 rfl dX12_guestOn_119 ?_
        refine g_get2 hk fl_X12_7 rfl kdM_0 hm (b := 1) rfl dX12_guestOn_120 ?_
        refine g_iload_n hk 2 rfl dX12_guestOn_123 ?_
        refine g_iconst hk (v := 4) rfl dX12_guestOn_124 ?_
        refine g_iadd hk dX12_guestOn_125 ?_
        refine g_iald hk (wI_c _) kdM_1 hm dX12_guestOn_126 h (fun y18 cy18 h => ?_)
        refine g_iconst hk (v := 1) rfl dX12_guestOn_127 ?_
        refine g_aload_n hk 0 rfl dX12_guestOn_128 ?_
        refine g_get2 hk fl_X12_54 rfl kdM_0 hm (b := 2) rfl dX12_guestOn_129 ?_
        refine g_aload_n hk 0 rfl dX12_guestOn_132 ?_
        have g19 := zGI (i := 13) hm kdM_0 rfl
        refine g_get0 hk fl_X12_51 rfl (j := 13) rfl kdM_0 dX12_guestOn_133 ?_
        refine g_iald hk g19 kdM_2 hm dX12_guestOn_136 h (fun y20 cy20 h => ?_)
        refine g_ishl hk dX12_guestOn_137 ?_
        refine g_icmp_ge hk cy18 (cI_t _) dX12_guestOn_138 h (fun b21 h => ?_) (fun b21 h => ?_)
        · refine g_iconst hk (v := 1) rfl dX12_guestOn_141 ?_
          refine g_goto hk dX12_guestOn_142 ?_
          exact g_zreturn hk z1 dX12_guestOn_146 (by cases h; rfl)
        · refine g_iconst hk (v := 0) rfl dX12_guestOn_145 ?_
          exact g_zreturn hk z0 dX12_guestOn_146 (by cases h; rfl)
theorem met_M_guestOn (l : Launch) (D : va_G) (aC : Nat → ClassId) (B N : Nat) (hwd : ∀ id, (kdM id).1 ≠ 9 → id < N) {x1 : Int} {x2 : Int} {m : zM} {o : Int × zM} (hm : zG kdM m) (cx1 : cI x1) (cx2 : cI x2) (h : M_guestOn x1 x2 m = some o) : zMet l yX12_guestOn cX12_guestOn 4 (some .boolean) 2 D aC B kdM N [.ref (B + 0), mI x1, mI x2] m (4, o.1, o.2) := by
  refine zMet.of mf_X12_guestOn hwd hm (Nat.le_of_ble_eq_true rfl) (fun K e1 e2 e3 e4 e5 hk => ?_)
  subst e4
  exact w_M_guestOn hk hm cx1 cx2 h
set_option maxRecDepth 100000 in
set_option maxHeartbeats 4000000 in
theorem w_M_beastOn_B2 {K : zK} (hk : zOk K kdM cX12_beastOn 7 (some .boolean) RX12 2) {k34 : Int → Int → zM → Option (Int × zM)} {rec : Int → Int → Int → zM → Option (Int × zM)} {x1 : Int} {x2 : Int} {x3 : Int} {m : zM} {o : Int × zM} (hk34 : ∀ (x1 : Int) (x2 : Int) (m : zM), zG kdM m → cI x1 → cI x2 → k34 x1 x2 m = some o → GoAt K m [(0, .ref (kB K + 0)), (1, mI x1), (2, mI x2)] [] 34 (4, o.1, o.2)) (hrec : ∀ (x1 : Int) (x2 : Int) (x3 : Int) (m : zM), zG kdM m → cI x1 → cI x2 → cI x3 → rec x1 x2 x3 m = some o → GoAt K m [(0, .ref (kB K + 0)), (1, mI x1), (2, mI x2), (3, mI x3)] [] 2 (4, o.1, o.2)) (hm : zG kdM m) (cx1 : cI x1) (cx2 : cI x2) (cx3 : cI x3) (h : M_beastOn_B2 k34 rec x1 x2 x3 m = some o) : GoAt K m [(0, .ref (kB K + 0)), (1, mI x1), (2, mI x2), (3, mI x3)] [] 2 (4, o.1, o.2) := by
  unfold M_beastOn_B2 at h
  refine g_iload_n hk 3 rfl dX12_beastOn_2 ?_
  refine g_iconst hk (v := 3) rfl dX12_beastOn_3 ?_
  refine g_icmp_ge hk cx3 (cIk rfl) dX12_beastOn_4 h (fun b1 h => ?_) (fun b1 h => ?_)
  · refine g_aload_n hk 0 rfl dX12_beastOn_7 ?_
    refine g_get2 hk fl_X12_168 rfl kdM_0 hm (b := 32) rfl dX12_beastOn_8 ?_
    refine g_bipush hk (v := 18) rfl dX12_beastOn_11 ?_
    refine g_iconst hk (v := 3) rfl dX12_beastOn_13 ?_
    refine g_iload_n hk 1 rfl dX12_beastOn_14 ?_
    refine g_imul hk dX12_beastOn_15 ?_
    refine g_iadd hk dX12_beastOn_16 ?_
    refine g_iload_n hk 3 rfl dX12_beastOn_17 ?_
    refine g_iadd hk dX12_beastOn_18 ?_
    refine g_aload_n hk 0 rfl dX12_beastOn_19 ?_
    refine g_get2 hk fl_X12_7 rfl kdM_0 hm (b := 1) rfl dX12_beastOn_20 ?_
    refine g_iload_n hk 2 rfl dX12_beastOn_23 ?_
    refine g_iload_n hk 3 rfl dX12_beastOn_24 ?_
    refine g_iadd hk dX12_beastOn_25 ?_
    refine g_iald hk (wI_c _) kdM_1 hm dX12_beastOn_26 h (fun y2 cy2 h => ?_)
    refine g_iast hk (wI_c _) cy2 kdM_32 hm dX12_beastOn_27 h (fun m3 hm h => ?_)
    refine g_iinc hk (lv' := [(3, mI (wI (x3 + 1))), (0, .ref (kB K + 0)), (1, mI x1), (2, mI x2)]) 3 rfl (Nat.le_of_ble_eq_true rfl) rfl dX12_beastOn_28 ?_
    refine g_goto hk dX12_beastOn_31 ?_
    refine GoAt.sub [1, 2, 3, 0] rfl ?_
    exact hrec _ _ _ _ hm cx1 cx2 (wI_c _) h
  · refine GoAt.sub [0, 1, 2] rfl ?_
    exact hk34 _ _ _ hm cx1 cx2 h
theorem w_M_beastOn_L2 {K : zK} (hk : zOk K kdM cX12_beastOn 7 (some .boolean) RX12 2) {k34 : Int → Int → zM → Option (Int × zM)} {o : Int × zM} (hk34 : ∀ (x1 : Int) (x2 : Int) (m : zM), zG kdM m → cI x1 → cI x2 → k34 x1 x2 m = some o → GoAt K m [(0, .ref (kB K + 0)), (1, mI x1), (2, mI x2)] [] 34 (4, o.1, o.2)) : ∀ (n : Nat) (x1 : Int) (x2 : Int) (x3 : Int) (m : zM), zG kdM m → cI x1 → cI x2 → cI x3 → M_beastOn_L2 k34 n x1 x2 x3 m = some o → GoAt K m [(0, .ref (kB K + 0)), (1, mI x1), (2, mI x2), (3, mI x3)] [] 2 (4, o.1, o.2)
  | 0, x1, x2, x3, m, hm, cx1, cx2, cx3, h => by cases h
  | n + 1, x1, x2, x3, m, hm, cx1, cx2, cx3, h => w_M_beastOn_B2 hk hk34 (w_M_beastOn_L2 hk hk34 n) hm cx1 cx2 cx3 h
set_option maxRecDepth 100000 in
set_option maxHeartbeats 4000000 in
theorem w_M_beastOn_B64 {K : zK} (hk : zOk K kdM cX12_beastOn 7 (some .boolean) RX12 2) {rec : Int → Int → Int → Int → zM → Option (Int × zM)} {x1 : Int} {x2 : Int} {x3 : Int} {x4 : Int} {m : zM} {o : Int × zM} (hrec : ∀ (x1 : Int) (x2 : Int) (x3 : Int) (x4 : Int) (m : zM), zG kdM m → cI x1 → cI x2 → zok 4 x3 → cI x4 → rec x1 x2 x3 x4 m = some o → GoAt K m [(0, .ref (kB K + 0)), (1, mI x1), (2, mI x2), (3, mI x3), (4, mI x4)] [] 64 (4, o.1, o.2)) (hm : zG kdM m) (cx1 : cI x1) (cx2 : cI x2) (zx3 : zok 4 x3) (cx4 : cI x4) (h : M_beastOn_B64 rec x1 x2 x3 x4 m = some o) : GoAt K m [(0, .ref (kB K + 0)), (1, mI x1), (2, mI x2), (3, mI x3), (4, mI x4)] [] 64 (4, o.1, o.2) := by
  unfold M_beastOn_B64 at h
  refine g_iload hk 4 rfl dX12_beastOn_64 ?_
  refine g_aload_n hk 0 rfl dX12_beastOn_66 ?_
  refine g_get2 hk fl_X12_69 rfl kdM_0 hm (b := 7) rfl dX12_beastOn_67 ?_
  refine g_aload_n hk 0 rfl dX12_beastOn_70 ?_
  have g1 := zGI (i := 13) hm kdM_0 rfl
  refine g_get0 hk fl_X12_51 rfl (j := 13) rfl kdM_0 dX12_beastOn_71 ?_
  refine g_iald hk g1 kdM_7 hm dX12_beastOn_74 h (fun y2 cy2 h => ?_)
  refine g_icmp_ge hk cx4 cy2 dX12_beastOn_75 h (fun b3 h => ?_) (fun b3 h => ?_)
  · refine g_aload_n hk 0 rfl dX12_beastOn_78 ?_
    refine g_get2 hk fl_X12_7 rfl kdM_0 hm (b := 1) rfl dX12_beastOn_79 ?_
    refine g_iload_n hk 2 rfl dX12_beastOn_82 ?_
    refine g_iconst hk (v := 3) rfl dX12_beastOn_83 ?_
    refine g_iadd hk dX12_beastOn_84 ?_
    refine g_iconst hk (v := 2) rfl dX12_beastOn_85 ?_
    refine g_iload hk 4 rfl dX12_beastOn_86 ?_
    refine g_imul hk dX12_beastOn_88 ?_
    refine g_iadd hk dX12_beastOn_89 ?_
    refine g_iald hk (wI_c _) kdM_1 hm dX12_beastOn_90 h (fun y4 cy4 h => ?_)
    refine g_istore hk (lv' := [(5, mI y4), (0, .ref (kB K + 0)), (1, mI x1), (2, mI x2), (3, mI x3), (4, mI x4)]) (Nat.le_of_ble_eq_true rfl) rfl dX12_beastOn_91 ?_
    refine g_aload_n hk 1 rfl dX12_beastOn_93 ?_
    refine g_get2 hk fl_X12_7 rfl kdM_0 hm (b := 1) rfl dX12_beastOn_94 ?_
    refine g_iload_n hk 3 rfl dX12_beastOn_97 ?_
    refine g_iconst hk (v := 4) rfl dX12_beastOn_98 ?_
    refine g_iadd hk dX12_beastOn_99 ?_
    refine g_iconst hk (v := 2) rfl dX12_beastOn_100 ?_
    refine g_iload hk 5 rfl dX12_beastOn_101 ?_
    refine g_imul hk dX12_beastOn_103 ?_
    refine g_iadd hk dX12_beastOn_104 ?_
    refine g_iald hk (wI_c _) kdM_1 hm dX12_beastOn_105 h (fun y5 cy5 h => ?_)
    refine g_istore hk (lv' := [(6, mI y5), (5, mI y4), (0, .ref (kB K + 0)), (1, mI x1), (2, mI x2), (3, mI x3), (4, mI x4)]) (Nat.le_of_ble_eq_true rfl) rfl dX12_beastOn_106 ?_
    refine g_aload_n hk 2 rfl dX12_beastOn_108 ?_
    refine g_get2 hk fl_X12_171 rfl kdM_0 hm (b := 33) rfl dX12_beastOn_109 ?_
    refine g_aload_n hk 2 rfl dX12_beastOn_112 ?_
    refine g_iconst hk (v := 1) rfl dX12_beastOn_113 ?_
    refine g_iload_n hk 3 rfl dX12_beastOn_114 ?_
    refine g_iload hk 6 rfl dX12_beastOn_115 ?_
    obtain ⟨r6, e7, h⟩ := zbind h
    refine g_callVi hk (st := [.ref (kB K + 33)]) mf_X12_pair lk_X12_481 mv_X12_pair kdM_0 (by decide) rfl (Nat.le_of_ble_eq_true rfl) rfl dX12_beastOn_117 (met_M_pair _ _ _ _ _ hk.wd hm (cIk rfl) cx1 cx4 e7) (fun hm c8 => ?_)
    refine g_iload hk 1 rfl dX12_beastOn_120 ?_
    refine g_iast hk c8 cy4 kdM_33 hm dX12_beastOn_122 h (fun m9 hm h => ?_)
    refine g_aload_n hk 2 rfl dX12_beastOn_123 ?_
    refine g_get2 hk fl_X12_174 rfl kdM_0 hm (b := 34) rfl dX12_beastOn_124 ?_
    refine g_aload_n hk 2 rfl dX12_beastOn_127 ?_
    refine g_iconst hk (v := 1) rfl dX12_beastOn_128 ?_
    refine g_iload_n hk 3 rfl dX12_beastOn_129 ?_
    refine g_iload hk 6 rfl dX12_beastOn_130 ?_
    obtain ⟨r10, e11, h⟩ := zbind h
    refine g_callVi hk (st := [.ref (kB K + 34)]) mf_X12_pair lk_X12_481 mv_X12_pair kdM_0 (by decide) rfl (Nat.le_of_ble_eq_true rfl) rfl dX12_beastOn_132 (met_M_pair _ _ _ _ _ hk.wd hm (cIk rfl) cx1 cx4 e11) (fun hm c12 => ?_)
    refine g_iload hk 0 rfl dX12_beastOn_135 ?_
    refine g_iast hk c12 cy5 kdM_34 hm dX12_beastOn_137 h (fun m13 hm h => ?_)
    refine g_iload_n hk 5 rfl dX12_beastOn_138 ?_
    refine g_if_eq hk (b01 zx3) dX12_beastOn_139 h (fun b14 h => ?_) (fun b14 h => ?_)
    · refine g_iconst hk (v := 0) rfl dX12_beastOn_160 ?_
      refine g_istore_n hk rfl (lv' := [(3, mI 0), (6, mI y5), (5, mI y4), (0, .ref (kB K + 0)), (1, mI x1), (2, mI x2), (4, mI x4)]) (Nat.le_of_ble_eq_true rfl) rfl dX12_beastOn_161 ?_
      refine g_iinc hk (lv' := [(4, mI (wI (x4 + 1))), (3, mI 0), (6, mI y5), (5, mI y4), (0, .ref (kB K + 0)), (1, mI x1), (2, mI x2)]) 6 rfl (Nat.le_of_ble_eq_true rfl) rfl dX12_beastOn_162 ?_
      refine g_goto hk dX12_beastOn_165 ?_
      refine GoAt.sub [4, 5, 6, 1, 0] rfl ?_
      exact hrec _ _ _ _ _ hm cx1 cx2 z0 (wI_c _) h
    · refine g_iload hk 1 rfl dX12_beastOn_142 ?_
      refine g_bipush hk (v := 99) rfl dX12_beastOn_144 ?_
      refine g_icmp_gt hk cy4 (cIk rfl) dX12_beastOn_146 h (fun b15 h => ?_) (fun b15 h => ?_)
      · refine g_iconst hk (v := 0) rfl dX12_beastOn_160 ?_
        refine g_istore_n hk rfl (lv' := [(3, mI 0), (6, mI y5), (5, mI y4), (0, .ref (kB K + 0)), (1, mI x1), (2, mI x2), (4, mI x4)]) (Nat.le_of_ble_eq_true rfl) rfl dX12_beastOn_161 ?_
        refine g_iinc hk (lv' := [(4, mI (wI (x4 + 1))), (3, mI 0), (6, mI y5), (5, mI y4), (0, .ref (kB K + 0)), (1, mI x1), (2, mI x2)]) 6 rfl (Nat.le_of_ble_eq_true rfl) rfl dX12_beastOn_162 ?_
        refine g_goto hk dX12_beastOn_165 ?_
        refine GoAt.sub [4, 5, 6, 1, 0] rfl ?_
        exact hrec _ _ _ _ _ hm cx1 cx2 z0 (wI_c _) h
      · refine g_iload hk 0 rfl dX12_beastOn_149 ?_
        refine g_iload hk 1 rfl dX12_beastOn_151 ?_
        refine g_icmp_gt hk cy5 cy4 dX12_beastOn_153 h (fun b16 h => ?_) (fun b16 h => ?_)
        · refine g_iconst hk (v := 0) rfl dX12_beastOn_160 ?_
          refine g_istore_n hk rfl (lv' := [(3, mI 0), (6, mI y5), (5, mI y4), (0, .ref (kB K + 0)), (1, mI x1), (2, mI x2), (4, mI x4)]) (Nat.le_of_ble_eq_true rfl) rfl dX12_beastOn_161 ?_
          refine g_iinc hk (lv' := [(4, mI (wI (x4 + 1))), (3, mI 0), (6, mI y5), (5, mI y4), (0, .ref (kB K + 0)), (1, mI x1), (2, mI x2)]) 6 rfl (Nat.le_of_ble_eq_true rfl) rfl dX12_beastOn_162 ?_
          refine g_goto hk dX12_beastOn_165 ?_
          refine GoAt.sub [4, 5, 6, 1, 0] rfl ?_
          exact hrec _ _ _ _ _ hm cx1 cx2 z0 (wI_c _) h
        · refine g_iconst hk (v := 1) rfl dX12_beastOn_156 ?_
          refine g_goto hk dX12_beastOn_157 ?_
          refine g_istore_n hk rfl (lv' := [(3, mI 1), (6, mI y5), (5, mI y4), (0, .ref (kB K + 0)), (1, mI x1), (2, mI x2), (4, mI x4)]) (Nat.le_of_ble_eq_true rfl) rfl dX12_beastOn_161 ?_
          refine g_iinc hk (lv' := [(4, mI (wI (x4 + 1))), (3, mI 1), (6, mI y5), (5, mI y4), (0, .ref (kB K + 0)), (1, mI x1), (2, mI x2)]) 6 rfl (Nat.le_of_ble_eq_true rfl) rfl dX12_beastOn_162 ?_
          refine g_goto hk dX12_beastOn_165 ?_
          refine GoAt.sub [4, 5, 6, 1, 0] rfl ?_
          exact hrec _ _ _ _ _ hm cx1 cx2 z1 (wI_c _) h
  · refine g_iload_n hk 3 rfl dX12_beastOn_168 ?_
    exact g_zreturn hk zx3 dX12_beastOn_169 (by cases h; rfl)
theorem w_M_beastOn_L64 {K : zK} (hk : zOk K kdM cX12_beastOn 7 (some .boolean) RX12 2)  {o : Int × zM}  : ∀ (n : Nat) (x1 : Int) (x2 : Int) (x3 : Int) (x4 : Int) (m : zM), zG kdM m → cI x1 → cI x2 → zok 4 x3 → cI x4 → M_beastOn_L64 n x1 x2 x3 x4 m = some o → GoAt K m [(0, .ref (kB K + 0)), (1, mI x1), (2, mI x2), (3, mI x3), (4, mI x4)] [] 64 (4, o.1, o.2)
  | 0, x1, x2, x3, x4, m, hm, cx1, cx2, zx3, cx4, h => by cases h
  | n + 1, x1, x2, x3, x4, m, hm, cx1, cx2, zx3, cx4, h => w_M_beastOn_B64 hk  (w_M_beastOn_L64 hk  n) hm cx1 cx2 zx3 cx4 h
set_option maxRecDepth 100000 in
set_option maxHeartbeats 4000000 in
theorem w_M_beastOn {K : zK} (hk : zOk K kdM cX12_beastOn 7 (some .boolean) RX12 2)  {x1 : Int} {x2 : Int} {m : zM} {o : Int × zM}  (hm : zG kdM m) (cx1 : cI x1) (cx2 : cI x2) (h : M_beastOn x1 x2 m = some o) : GoAt K m [(0, .ref (kB K + 0)), (1, mI x1), (2, mI x2)] [] 0 (4, o.1, o.2) := by
  unfold M_beastOn at h
  refine g_iconst hk (v := 0) rfl dX12_beastOn_0 ?_
  refine g_istore_n hk rfl (lv' := [(3, mI 0), (0, .ref (kB K + 0)), (1, mI x1), (2, mI x2)]) (Nat.le_of_ble_eq_true rfl) rfl dX12_beastOn_1 ?_
  refine GoAt.sub [1, 2, 3, 0] rfl ?_
  refine w_M_beastOn_L2 hk (fun x1_1 x2_1 m2 hm cx1_1 cx2_1 h => ?_) 1000000 _ _ _ _ hm cx1 cx2 (cIk rfl) h
  · refine g_aload_n hk 0 rfl dX12_beastOn_34 ?_
    refine g_aload_n hk 0 rfl dX12_beastOn_35 ?_
    refine g_get2 hk fl_X12_7 rfl kdM_0 hm (b := 1) rfl dX12_beastOn_36 ?_
    refine g_iload_n hk 2 rfl dX12_beastOn_39 ?_
    refine g_iald hk cx2_1 kdM_1 hm dX12_beastOn_40 h (fun y3 cy3 h => ?_)
    refine g_aload_n hk 0 rfl dX12_beastOn_41 ?_
    refine g_get2 hk fl_X12_7 rfl kdM_0 hm (b := 1) rfl dX12_beastOn_42 ?_
    refine g_iload_n hk 2 rfl dX12_beastOn_45 ?_
    refine g_iconst hk (v := 1) rfl dX12_beastOn_46 ?_
    refine g_iadd hk dX12_beastOn_47 ?_
    refine g_iald hk (wI_c _) kdM_1 hm dX12_beastOn_48 h (fun y4 cy4 h => ?_)
    refine g_aload_n hk 0 rfl dX12_beastOn_49 ?_
    refine g_get2 hk fl_X12_7 rfl kdM_0 hm (b := 1) rfl dX12_beastOn_50 ?_
    refine g_iload_n hk 2 rfl dX12_beastOn_53 ?_
    refine g_iconst hk (v := 2) rfl dX12_beastOn_54 ?_
    refine g_iadd hk dX12_beastOn_55 ?_
    refine g_iald hk (wI_c _) kdM_1 hm dX12_beastOn_56 h (fun y5 cy5 h => ?_)
    obtain ⟨r6, e7, h⟩ := zbind h
    refine g_callVz hk (st := []) mf_X12_areNine lk_X12_590 mv_X12_areNine kdM_0 (by decide) rfl (Nat.le_of_ble_eq_true rfl) rfl dX12_beastOn_57 (met_M_areNine _ _ _ _ _ hk.wd hm cy3 cy4 cy5 e7) (fun hm c8 => ?_)
    refine g_istore_n hk rfl (lv' := [(3, mI r6), (0, .ref (kB K + 0)), (1, mI x1_1), (2, mI x2_1)]) (Nat.le_of_ble_eq_true rfl) rfl dX12_beastOn_60 ?_
    refine g_iconst hk (v := 0) rfl dX12_beastOn_61 ?_
    refine g_istore hk (lv' := [(4, mI 0), (3, mI r6), (0, .ref (kB K + 0)), (1, mI x1_1), (2, mI x2_1)]) (Nat.le_of_ble_eq_true rfl) rfl dX12_beastOn_62 ?_
    refine GoAt.sub [2, 3, 4, 1, 0] rfl ?_
    refine w_M_beastOn_L64 hk  1000000 _ _ _ _ _ hm cx1_1 cx2_1 c8 (cIk rfl) h
theorem met_M_beastOn (l : Launch) (D : va_G) (aC : Nat → ClassId) (B N : Nat) (hwd : ∀ id, (kdM id).1 ≠ 9 → id < N) {x1 : Int} {x2 : Int} {m : zM} {o : Int × zM} (hm : zG kdM m) (cx1 : cI x1) (cx2 : cI x2) (h : M_beastOn x1 x2 m = some o) : zMet l yX12_beastOn cX12_beastOn 7 (some .boolean) 2 D aC B kdM N [.ref (B + 0), mI x1, mI x2] m (4, o.1, o.2) := by
  refine zMet.of mf_X12_beastOn hwd hm (Nat.le_of_ble_eq_true rfl) (fun K e1 e2 e3 e4 e5 hk => ?_)
  subst e4
  exact w_M_beastOn hk hm cx1 cx2 h
set_option maxRecDepth 100000 in
set_option maxHeartbeats 4000000 in
theorem w_M_comesOn_B90 {K : zK} (hk : zOk K kdM cX12_comesOn 6 (some .boolean) RX12 3) {k122 : Int → Int → Int → Int → zM → Option (Int × zM)} {rec : Int → Int → Int → Int → Int → zM → Option (Int × zM)} {x1 : Int} {x2 : Int} {x3 : Int} {x4 : Int} {x5 : Int} {m : zM} {o : Int × zM} (hk122 : ∀ (x1 : Int) (x2 : Int) (x3 : Int) (x4 : Int) (m : zM), zG kdM m → cI x1 → cI x2 → cI x3 → cI x4 → k122 x1 x2 x3 x4 m = some o → GoAt K m [(0, .ref (kB K + 0)), (1, mI x1), (2, mI x2), (3, mI x3), (4, mI x4)] [] 122 (4, o.1, o.2)) (hrec : ∀ (x1 : Int) (x2 : Int) (x3 : Int) (x4 : Int) (x5 : Int) (m : zM), zG kdM m → cI x1 → cI x2 → cI x3 → cI x4 → cI x5 → rec x1 x2 x3 x4 x5 m = some o → GoAt K m [(0, .ref (kB K + 0)), (1, mI x1), (2, mI x2), (3, mI x3), (4, mI x4), (5, mI x5)] [] 90 (4, o.1, o.2)) (hm : zG kdM m) (cx1 : cI x1) (cx2 : cI x2) (cx3 : cI x3) (cx4 : cI x4) (cx5 : cI x5) (h : M_comesOn_B90 k122 rec x1 x2 x3 x4 x5 m = some o) : GoAt K m [(0, .ref (kB K + 0)), (1, mI x1), (2, mI x2), (3, mI x3), (4, mI x4), (5, mI x5)] [] 90 (4, o.1, o.2) := by
  unfold M_comesOn_B90 at h
  refine g_iload hk 5 rfl dX12_comesOn_90 ?_
  refine g_iload_n hk 1 rfl dX12_comesOn_92 ?_
  refine g_iconst hk (v := 1) rfl dX12_comesOn_93 ?_
  refine g_isub hk dX12_comesOn_94 ?_
  refine g_icmp_ge hk cx5 (wI_c _) dX12_comesOn_95 h (fun b1 h => ?_) (fun b1 h => ?_)
  · refine g_iconst hk (v := 5) rfl dX12_comesOn_98 ?_
    refine g_iload hk 4 rfl dX12_comesOn_99 ?_
    refine g_imul hk dX12_comesOn_101 ?_
    refine g_aload_n hk 0 rfl dX12_comesOn_102 ?_
    refine g_get2 hk fl_X12_7 rfl kdM_0 hm (b := 1) rfl dX12_comesOn_103 ?_
    refine g_iload hk 5 rfl dX12_comesOn_106 ?_
    refine g_iald hk cx5 kdM_1 hm dX12_comesOn_108 h (fun y2 cy2 h => ?_)
    refine g_iadd hk dX12_comesOn_109 ?_
    refine g_sipush hk (v := 251) rfl dX12_comesOn_110 ?_
    refine g_irem hk (cIk rfl) (by decide) dX12_comesOn_113 ?_
    refine g_let (cI_t _) h (fun v3 cv3 h => ?_)
    refine g_istore hk (lv' := [(4, mI v3), (0, .ref (kB K + 0)), (1, mI x1), (2, mI x2), (3, mI x3), (5, mI x5)]) (Nat.le_of_ble_eq_true rfl) rfl dX12_comesOn_114 ?_
    refine g_iinc hk (lv' := [(5, mI (wI (x5 + 1))), (4, mI v3), (0, .ref (kB K + 0)), (1, mI x1), (2, mI x2), (3, mI x3)]) 5 rfl (Nat.le_of_ble_eq_true rfl) rfl dX12_comesOn_116 ?_
    refine g_goto hk dX12_comesOn_119 ?_
    refine GoAt.sub [2, 3, 4, 5, 1, 0] rfl ?_
    exact hrec _ _ _ _ _ _ hm cx1 cx2 cx3 cv3 (wI_c _) h
  · refine GoAt.sub [0, 1, 2, 3, 4] rfl ?_
    exact hk122 _ _ _ _ _ hm cx1 cx2 cx3 cx4 h
theorem w_M_comesOn_L90 {K : zK} (hk : zOk K kdM cX12_comesOn 6 (some .boolean) RX12 3) {k122 : Int → Int → Int → Int → zM → Option (Int × zM)} {o : Int × zM} (hk122 : ∀ (x1 : Int) (x2 : Int) (x3 : Int) (x4 : Int) (m : zM), zG kdM m → cI x1 → cI x2 → cI x3 → cI x4 → k122 x1 x2 x3 x4 m = some o → GoAt K m [(0, .ref (kB K + 0)), (1, mI x1), (2, mI x2), (3, mI x3), (4, mI x4)] [] 122 (4, o.1, o.2)) : ∀ (n : Nat) (x1 : Int) (x2 : Int) (x3 : Int) (x4 : Int) (x5 : Int) (m : zM), zG kdM m → cI x1 → cI x2 → cI x3 → cI x4 → cI x5 → M_comesOn_L90 k122 n x1 x2 x3 x4 x5 m = some o → GoAt K m [(0, .ref (kB K + 0)), (1, mI x1), (2, mI x2), (3, mI x3), (4, mI x4), (5, mI x5)] [] 90 (4, o.1, o.2)
  | 0, x1, x2, x3, x4, x5, m, hm, cx1, cx2, cx3, cx4, cx5, h => by cases h
  | n + 1, x1, x2, x3, x4, x5, m, hm, cx1, cx2, cx3, cx4, cx5, h => w_M_comesOn_B90 hk hk122 (w_M_comesOn_L90 hk hk122 n) hm cx1 cx2 cx3 cx4 cx5 h
set_option maxRecDepth 100000 in
set_option maxHeartbeats 4000000 in
theorem w_M_comesOn_B185 {K : zK} (hk : zOk K kdM cX12_comesOn 6 (some .boolean) RX12 3) {k222 : Int → Int → zM → Option (Int × zM)} {rec : Int → Int → Int → zM → Option (Int × zM)} {x2 : Int} {x3 : Int} {x5 : Int} {m : zM} {o : Int × zM} (hk222 : ∀ (x2 : Int) (x3 : Int) (m : zM), zG kdM m → cI x2 → cI x3 → k222 x2 x3 m = some o → GoAt K m [(0, .ref (kB K + 0)), (2, mI x2), (3, mI x3)] [] 222 (4, o.1, o.2)) (hrec : ∀ (x2 : Int) (x3 : Int) (x5 : Int) (m : zM), zG kdM m → cI x2 → cI x3 → cI x5 → rec x2 x3 x5 m = some o → GoAt K m [(0, .ref (kB K + 0)), (2, mI x2), (3, mI x3), (5, mI x5)] [] 185 (4, o.1, o.2)) (hm : zG kdM m) (cx2 : cI x2) (cx3 : cI x3) (cx5 : cI x5) (h : M_comesOn_B185 k222 rec x2 x3 x5 m = some o) : GoAt K m [(0, .ref (kB K + 0)), (2, mI x2), (3, mI x3), (5, mI x5)] [] 185 (4, o.1, o.2) := by
  unfold M_comesOn_B185 at h
  refine g_iload hk 3 rfl dX12_comesOn_185 ?_
  refine g_aload_n hk 0 rfl dX12_comesOn_187 ?_
  refine g_get2 hk fl_X12_69 rfl kdM_0 hm (b := 7) rfl dX12_comesOn_188 ?_
  refine g_aload_n hk 0 rfl dX12_comesOn_191 ?_
  have g1 := zGI (i := 13) hm kdM_0 rfl
  refine g_get0 hk fl_X12_51 rfl (j := 13) rfl kdM_0 dX12_comesOn_192 ?_
  refine g_iald hk g1 kdM_7 hm dX12_comesOn_195 h (fun y2 cy2 h => ?_)
  refine g_icmp_ge hk cx5 cy2 dX12_comesOn_196 h (fun b3 h => ?_) (fun b3 h => ?_)
  · refine g_aload_n hk 0 rfl dX12_comesOn_199 ?_
    refine g_iload hk 3 rfl dX12_comesOn_200 ?_
    refine g_iconst hk (v := 5) rfl dX12_comesOn_202 ?_
    refine g_iconst hk (v := 5) rfl dX12_comesOn_203 ?_
    refine g_iload hk 3 rfl dX12_comesOn_204 ?_
    refine g_imul hk dX12_comesOn_206 ?_
    refine g_iadd hk dX12_comesOn_207 ?_
    obtain ⟨r4, e5, h⟩ := zbind h
    refine g_callVz hk (st := []) mf_X12_guestOn lk_X12_602 mv_X12_guestOn kdM_0 (by decide) rfl (Nat.le_of_ble_eq_true rfl) rfl dX12_comesOn_208 (met_M_guestOn _ _ _ _ _ hk.wd hm cx5 (wI_c _) e5) (fun hm c6 => ?_)
    refine g_if_ne hk (b01 c6) dX12_comesOn_211 h (fun b7 h => ?_) (fun b7 h => ?_)
    · refine g_iconst hk (v := 0) rfl dX12_comesOn_214 ?_
      exact g_zreturn hk z0 dX12_comesOn_215 (by cases h; rfl)
    · refine g_iinc hk (lv' := [(5, mI (wI (x5 + 1))), (0, .ref (kB K + 0)), (2, mI x2), (3, mI x3)]) 3 rfl (Nat.le_of_ble_eq_true rfl) rfl dX12_comesOn_216 ?_
      refine g_goto hk dX12_comesOn_219 ?_
      refine GoAt.sub [1, 2, 3, 0] rfl ?_
      exact hrec _ _ _ _ hm cx2 cx3 (wI_c _) h
  · refine GoAt.sub [0, 1, 2] rfl ?_
    exact hk222 _ _ _ hm cx2 cx3 h
theorem w_M_comesOn_L185 {K : zK} (hk : zOk K kdM cX12_comesOn 6 (some .boolean) RX12 3) {k222 : Int → Int → zM → Option (Int × zM)} {o : Int × zM} (hk222 : ∀ (x2 : Int) (x3 : Int) (m : zM), zG kdM m → cI x2 → cI x3 → k222 x2 x3 m = some o → GoAt K m [(0, .ref (kB K + 0)), (2, mI x2), (3, mI x3)] [] 222 (4, o.1, o.2)) : ∀ (n : Nat) (x2 : Int) (x3 : Int) (x5 : Int) (m : zM), zG kdM m → cI x2 → cI x3 → cI x5 → M_comesOn_L185 k222 n x2 x3 x5 m = some o → GoAt K m [(0, .ref (kB K + 0)), (2, mI x2), (3, mI x3), (5, mI x5)] [] 185 (4, o.1, o.2)
  | 0, x2, x3, x5, m, hm, cx2, cx3, cx5, h => by cases h
  | n + 1, x2, x3, x5, m, hm, cx2, cx3, cx5, h => w_M_comesOn_B185 hk hk222 (w_M_comesOn_L185 hk hk222 n) hm cx2 cx3 cx5 h
set_option maxRecDepth 100000 in
set_option maxHeartbeats 4000000 in
theorem w_M_comesOn_B225 {K : zK} (hk : zOk K kdM cX12_comesOn 6 (some .boolean) RX12 3) {rec : Int → Int → Int → zM → Option (Int × zM)} {x2 : Int} {x3 : Int} {x5 : Int} {m : zM} {o : Int × zM} (hrec : ∀ (x2 : Int) (x3 : Int) (x5 : Int) (m : zM), zG kdM m → cI x2 → cI x3 → cI x5 → rec x2 x3 x5 m = some o → GoAt K m [(0, .ref (kB K + 0)), (2, mI x2), (3, mI x3), (5, mI x5)] [] 225 (4, o.1, o.2)) (hm : zG kdM m) (cx2 : cI x2) (cx3 : cI x3) (cx5 : cI x5) (h : M_comesOn_B225 rec x2 x3 x5 m = some o) : GoAt K m [(0, .ref (kB K + 0)), (2, mI x2), (3, mI x3), (5, mI x5)] [] 225 (4, o.1, o.2) := by
  unfold M_comesOn_B225 at h
  refine g_iload hk 3 rfl dX12_comesOn_225 ?_
  refine g_aload_n hk 0 rfl dX12_comesOn_227 ?_
  refine g_get2 hk fl_X12_54 rfl kdM_0 hm (b := 2) rfl dX12_comesOn_228 ?_
  refine g_aload_n hk 0 rfl dX12_comesOn_231 ?_
  have g1 := zGI (i := 13) hm kdM_0 rfl
  refine g_get0 hk fl_X12_51 rfl (j := 13) rfl kdM_0 dX12_comesOn_232 ?_
  refine g_iald hk g1 kdM_2 hm dX12_comesOn_235 h (fun y2 cy2 h => ?_)
  refine g_icmp_ge hk cx5 cy2 dX12_comesOn_236 h (fun b3 h => ?_) (fun b3 h => ?_)
  · refine g_aload_n hk 0 rfl dX12_comesOn_239 ?_
    refine g_iload hk 3 rfl dX12_comesOn_240 ?_
    refine g_iload_n hk 1 rfl dX12_comesOn_242 ?_
    refine g_iload_n hk 2 rfl dX12_comesOn_243 ?_
    refine g_iload hk 3 rfl dX12_comesOn_244 ?_
    refine g_imul hk dX12_comesOn_246 ?_
    refine g_iadd hk dX12_comesOn_247 ?_
    obtain ⟨r4, e5, h⟩ := zbind h
    refine g_callVz hk (st := []) mf_X12_beastOn lk_X12_605 mv_X12_beastOn kdM_0 (by decide) rfl (Nat.le_of_ble_eq_true rfl) rfl dX12_comesOn_248 (met_M_beastOn _ _ _ _ _ hk.wd hm cx5 (wI_c _) e5) (fun hm c6 => ?_)
    refine g_if_ne hk (b01 c6) dX12_comesOn_251 h (fun b7 h => ?_) (fun b7 h => ?_)
    · refine g_iconst hk (v := 0) rfl dX12_comesOn_254 ?_
      exact g_zreturn hk z0 dX12_comesOn_255 (by cases h; rfl)
    · refine g_iinc hk (lv' := [(5, mI (wI (x5 + 1))), (0, .ref (kB K + 0)), (2, mI x2), (3, mI x3)]) 3 rfl (Nat.le_of_ble_eq_true rfl) rfl dX12_comesOn_256 ?_
      refine g_goto hk dX12_comesOn_259 ?_
      refine GoAt.sub [1, 2, 3, 0] rfl ?_
      exact hrec _ _ _ _ hm cx2 cx3 (wI_c _) h
  · refine g_iconst hk (v := 1) rfl dX12_comesOn_262 ?_
    exact g_zreturn hk z1 dX12_comesOn_263 (by cases h; rfl)
theorem w_M_comesOn_L225 {K : zK} (hk : zOk K kdM cX12_comesOn 6 (some .boolean) RX12 3)  {o : Int × zM}  : ∀ (n : Nat) (x2 : Int) (x3 : Int) (x5 : Int) (m : zM), zG kdM m → cI x2 → cI x3 → cI x5 → M_comesOn_L225 n x2 x3 x5 m = some o → GoAt K m [(0, .ref (kB K + 0)), (2, mI x2), (3, mI x3), (5, mI x5)] [] 225 (4, o.1, o.2)
  | 0, x2, x3, x5, m, hm, cx2, cx3, cx5, h => by cases h
  | n + 1, x2, x3, x5, m, hm, cx2, cx3, cx5, h => w_M_comesOn_B225 hk  (w_M_comesOn_L225 hk  n) hm cx2 cx3 cx5 h
set_option maxRecDepth 100000 in
set_option maxHeartbeats 4000000 in
theorem w_M_comesOn {K : zK} (hk : zOk K kdM cX12_comesOn 6 (some .boolean) RX12 3)  {x1 : Int} {m : zM} {o : Int × zM}  (hm : zG kdM m) (cx1 : cI x1) (h : M_comesOn x1 m = some o) : GoAt K m [(0, .ref (kB K + 0)), (1, mI x1)] [] 0 (4, o.1, o.2) := by
  unfold M_comesOn at h
  refine g_iconst hk (v := 5) rfl dX12_comesOn_0 ?_
  refine g_iconst hk (v := 5) rfl dX12_comesOn_1 ?_
  refine g_aload_n hk 0 rfl dX12_comesOn_2 ?_
  refine g_get2 hk fl_X12_69 rfl kdM_0 hm (b := 7) rfl dX12_comesOn_3 ?_
  refine g_aload_n hk 0 rfl dX12_comesOn_6 ?_
  have g1 := zGI (i := 13) hm kdM_0 rfl
  refine g_get0 hk fl_X12_51 rfl (j := 13) rfl kdM_0 dX12_comesOn_7 ?_
  refine g_iald hk g1 kdM_7 hm dX12_comesOn_10 h (fun y2 cy2 h => ?_)
  refine g_imul hk dX12_comesOn_11 ?_
  refine g_iadd hk dX12_comesOn_12 ?_
  refine g_let (wI_c _) h (fun v3 cv3 h => ?_)
  refine g_istore_n hk rfl (lv' := [(2, mI v3), (0, .ref (kB K + 0)), (1, mI x1)]) (Nat.le_of_ble_eq_true rfl) rfl dX12_comesOn_13 ?_
  refine g_iconst hk (v := 3) rfl dX12_comesOn_14 ?_
  refine g_iconst hk (v := 2) rfl dX12_comesOn_15 ?_
  refine g_aload_n hk 1 rfl dX12_comesOn_16 ?_
  refine g_get2 hk fl_X12_69 rfl kdM_0 hm (b := 7) rfl dX12_comesOn_17 ?_
  refine g_aload_n hk 1 rfl dX12_comesOn_20 ?_
  have g4 := zGI (i := 13) hm kdM_0 rfl
  refine g_get0 hk fl_X12_51 rfl (j := 13) rfl kdM_0 dX12_comesOn_21 ?_
  refine g_iald hk g4 kdM_7 hm dX12_comesOn_24 h (fun y5 cy5 h => ?_)
  refine g_imul hk dX12_comesOn_25 ?_
  refine g_iadd hk dX12_comesOn_26 ?_
  refine g_let (wI_c _) h (fun v6 cv6 h => ?_)
  refine g_istore_n hk rfl (lv' := [(3, mI v6), (2, mI v3), (0, .ref (kB K + 0)), (1, mI x1)]) (Nat.le_of_ble_eq_true rfl) rfl dX12_comesOn_27 ?_
  refine g_iload_n hk 3 rfl dX12_comesOn_28 ?_
  refine g_iload_n hk 1 rfl dX12_comesOn_29 ?_
  refine g_iload_n hk 0 rfl dX12_comesOn_30 ?_
  refine g_aload_n hk 2 rfl dX12_comesOn_31 ?_
  refine g_get2 hk fl_X12_54 rfl kdM_0 hm (b := 2) rfl dX12_comesOn_32 ?_
  refine g_aload_n hk 2 rfl dX12_comesOn_35 ?_
  have g7 := zGI (i := 13) hm kdM_0 rfl
  refine g_get0 hk fl_X12_51 rfl (j := 13) rfl kdM_0 dX12_comesOn_36 ?_
  refine g_iald hk g7 kdM_2 hm dX12_comesOn_39 h (fun y8 cy8 h => ?_)
  refine g_imul hk dX12_comesOn_40 ?_
  refine g_iadd hk dX12_comesOn_41 ?_
  refine g_iconst hk (v := 1) rfl dX12_comesOn_42 ?_
  refine g_iadd hk dX12_comesOn_43 ?_
  refine g_icmp_ne hk cx1 (wI_c _) dX12_comesOn_44 h (fun b9 h => ?_) (fun b9 h => ?_)
  · refine g_aload_n hk 2 rfl dX12_comesOn_47 ?_
    refine g_iconst hk (v := 0) rfl dX12_comesOn_48 ?_
    obtain ⟨r10, e11, h⟩ := zbind h
    refine g_callVi hk (st := []) mf_X12_twoBytes lk_X12_599 mv_X12_twoBytes kdM_0 (by decide) rfl (Nat.le_of_ble_eq_true rfl) rfl dX12_comesOn_49 (met_M_twoBytes _ _ _ _ _ hk.wd hm (cIk rfl) e11) (fun hm c12 => ?_)
    refine g_sipush hk (v := 999) rfl dX12_comesOn_52 ?_
    refine g_icmp_gt hk c12 (cIk rfl) dX12_comesOn_55 h (fun b13 h => ?_) (fun b13 h => ?_)
    · refine g_iconst hk (v := 0) rfl dX12_comesOn_80 ?_
      exact g_zreturn hk z0 dX12_comesOn_81 (by cases h; rfl)
    · refine g_aload_n hk 2 rfl dX12_comesOn_58 ?_
      refine g_get2 hk fl_X12_7 rfl kdM_0 hm (b := 1) rfl dX12_comesOn_59 ?_
      refine g_iconst hk (v := 2) rfl dX12_comesOn_62 ?_
      refine g_iald hk (cIk rfl) kdM_1 hm dX12_comesOn_63 h (fun y14 cy14 h => ?_)
      refine g_bipush hk (v := 24) rfl dX12_comesOn_64 ?_
      refine g_icmp_ge hk cy14 (cIk rfl) dX12_comesOn_66 h (fun b15 h => ?_) (fun b15 h => ?_)
      · refine g_aload_n hk 2 rfl dX12_comesOn_69 ?_
        refine g_iconst hk (v := 3) rfl dX12_comesOn_70 ?_
        obtain ⟨r16, e17, h⟩ := zbind h
        refine g_callVi hk (st := []) mf_X12_twoBytes lk_X12_599 mv_X12_twoBytes kdM_0 (by decide) rfl (Nat.le_of_ble_eq_true rfl) rfl dX12_comesOn_71 (met_M_twoBytes _ _ _ _ _ hk.wd hm (cIk rfl) e17) (fun hm c18 => ?_)
        refine g_sipush hk (v := 9999) rfl dX12_comesOn_74 ?_
        refine g_icmp_le hk c18 (cIk rfl) dX12_comesOn_77 h (fun b19 h => ?_) (fun b19 h => ?_)
        · refine g_iconst hk (v := 0) rfl dX12_comesOn_80 ?_
          exact g_zreturn hk z0 dX12_comesOn_81 (by cases h; rfl)
        · refine g_sipush hk (v := 151) rfl dX12_comesOn_82 ?_
          refine g_istore hk (lv' := [(4, mI 151), (3, mI v6), (2, mI v3), (0, .ref (kB K + 0)), (1, mI x1)]) (Nat.le_of_ble_eq_true rfl) rfl dX12_comesOn_85 ?_
          refine g_iconst hk (v := 0) rfl dX12_comesOn_87 ?_
          refine g_istore hk (lv' := [(5, mI 0), (4, mI 151), (3, mI v6), (2, mI v3), (0, .ref (kB K + 0)), (1, mI x1)]) (Nat.le_of_ble_eq_true rfl) rfl dX12_comesOn_88 ?_
          refine GoAt.sub [4, 5, 3, 2, 1, 0] rfl ?_
          refine w_M_comesOn_L90 hk (fun x1_20 x2_20 x3_20 x4_20 m21 hm cx1_20 cx2_20 cx3_20 cx4_20 h => ?_) 1000000 _ _ _ _ _ _ hm cx1 cv3 cv6 (cIk rfl) (cIk rfl) h
          · refine g_aload_n hk 0 rfl dX12_comesOn_122 ?_
            refine g_get2 hk fl_X12_7 rfl kdM_0 hm (b := 1) rfl dX12_comesOn_123 ?_
            refine g_iload_n hk 1 rfl dX12_comesOn_126 ?_
            refine g_iconst hk (v := 1) rfl dX12_comesOn_127 ?_
            refine g_isub hk dX12_comesOn_128 ?_
            refine g_iald hk (wI_c _) kdM_1 hm dX12_comesOn_129 h (fun y22 cy22 h => ?_)
            refine g_iload hk 4 rfl dX12_comesOn_130 ?_
            refine g_icmp_eq hk cy22 cx4_20 dX12_comesOn_132 h (fun b23 h => ?_) (fun b23 h => ?_)
            · refine g_aload_n hk 0 rfl dX12_comesOn_137 ?_
              refine g_iconst hk (v := 1) rfl dX12_comesOn_138 ?_
              refine g_iconst hk (v := 0) rfl dX12_comesOn_139 ?_
              obtain ⟨r24, e25, h⟩ := zbind h
              refine g_callVv hk (st := []) mf_X12_copies lk_X12_452 mv_X12_copies kdM_0 (by decide) rfl (Nat.le_of_ble_eq_true rfl) rfl dX12_comesOn_140 (met_M_copies _ _ _ _ _ hk.wd hm (cIk rfl) (cIk rfl) e25) (fun hm => ?_)
              refine g_aload_n hk 0 rfl dX12_comesOn_143 ?_
              refine g_get2 hk fl_X12_153 rfl kdM_0 hm (b := 27) rfl dX12_comesOn_144 ?_
              refine g_iconst hk (v := 1) rfl dX12_comesOn_147 ?_
              refine g_bipush hk (v := 24) rfl dX12_comesOn_148 ?_
              refine g_aload_n hk 0 rfl dX12_comesOn_150 ?_
              refine g_iconst hk (v := 0) rfl dX12_comesOn_151 ?_
              obtain ⟨r27, e28, h⟩ := zbind h
              refine g_callVi hk (st := [mI 24, mI 1, .ref (kB K + 27)]) mf_X12_twoBytes lk_X12_599 mv_X12_twoBytes kdM_0 (by decide) rfl (Nat.le_of_ble_eq_true rfl) rfl dX12_comesOn_152 (met_M_twoBytes _ _ _ _ _ hk.wd hm (cIk rfl) e28) (fun hm c29 => ?_)
              refine g_imul hk dX12_comesOn_155 ?_
              refine g_aload_n hk 0 rfl dX12_comesOn_156 ?_
              refine g_get2 hk fl_X12_7 rfl kdM_0 hm (b := 1) rfl dX12_comesOn_157 ?_
              refine g_iconst hk (v := 2) rfl dX12_comesOn_160 ?_
              refine g_iald hk (cIk rfl) kdM_1 hm dX12_comesOn_161 h (fun y30 cy30 h => ?_)
              refine g_iadd hk dX12_comesOn_162 ?_
              refine g_iast hk (cIk rfl) (wI_c _) kdM_27 hm dX12_comesOn_163 h (fun m31 hm h => ?_)
              refine g_aload_n hk 0 rfl dX12_comesOn_164 ?_
              refine g_get2 hk fl_X12_156 rfl kdM_0 hm (b := 28) rfl dX12_comesOn_165 ?_
              refine g_iconst hk (v := 1) rfl dX12_comesOn_168 ?_
              refine g_aload_n hk 0 rfl dX12_comesOn_169 ?_
              refine g_iconst hk (v := 3) rfl dX12_comesOn_170 ?_
              obtain ⟨r32, e33, h⟩ := zbind h
              refine g_callVi hk (st := [mI 1, .ref (kB K + 28)]) mf_X12_twoBytes lk_X12_599 mv_X12_twoBytes kdM_0 (by decide) rfl (Nat.le_of_ble_eq_true rfl) rfl dX12_comesOn_171 (met_M_twoBytes _ _ _ _ _ hk.wd hm (cIk rfl) e33) (fun hm c34 => ?_)
              refine g_iast hk (cIk rfl) c34 kdM_28 hm dX12_comesOn_174 h (fun m35 hm h => ?_)
              refine g_aload_n hk 0 rfl dX12_comesOn_175 ?_
              refine g_get2 hk fl_X12_177 rfl kdM_0 hm (b := 35) rfl dX12_comesOn_176 ?_
              refine g_iconst hk (v := 1) rfl dX12_comesOn_179 ?_
              refine g_iconst hk (v := 0) rfl dX12_comesOn_180 ?_
              refine g_iast hk (cIk rfl) (cIk rfl) kdM_35 hm dX12_comesOn_181 h (fun m36 hm h => ?_)
              refine g_iconst hk (v := 0) rfl dX12_comesOn_182 ?_
              refine g_istore hk (lv' := [(5, mI 0), (0, .ref (kB K + 0)), (1, mI x1_20), (2, mI x2_20), (3, mI x3_20), (4, mI x4_20)]) (Nat.le_of_ble_eq_true rfl) rfl dX12_comesOn_183 ?_
              refine GoAt.sub [1, 3, 4, 0] rfl ?_
              refine w_M_comesOn_L185 hk (fun x2_37 x3_37 m38 hm cx2_37 cx3_37 h => ?_) 1000000 _ _ _ _ hm cx2_20 cx3_20 (cIk rfl) h
              · refine g_iconst hk (v := 0) rfl dX12_comesOn_222 ?_
                refine g_istore hk (lv' := [(5, mI 0), (0, .ref (kB K + 0)), (2, mI x2_37), (3, mI x3_37)]) (Nat.le_of_ble_eq_true rfl) rfl dX12_comesOn_223 ?_
                refine GoAt.sub [1, 2, 3, 0] rfl ?_
                refine w_M_comesOn_L225 hk  1000000 _ _ _ _ hm cx2_37 cx3_37 (cIk rfl) h
            · refine g_iconst hk (v := 0) rfl dX12_comesOn_135 ?_
              exact g_zreturn hk z0 dX12_comesOn_136 (by cases h; rfl)
      · refine g_iconst hk (v := 0) rfl dX12_comesOn_80 ?_
        exact g_zreturn hk z0 dX12_comesOn_81 (by cases h; rfl)
  · refine g_iconst hk (v := 0) rfl dX12_comesOn_80 ?_
    exact g_zreturn hk z0 dX12_comesOn_81 (by cases h; rfl)
theorem met_M_comesOn (l : Launch) (D : va_G) (aC : Nat → ClassId) (B N : Nat) (hwd : ∀ id, (kdM id).1 ≠ 9 → id < N) {x1 : Int} {m : zM} {o : Int × zM} (hm : zG kdM m) (cx1 : cI x1) (h : M_comesOn x1 m = some o) : zMet l yX12_comesOn cX12_comesOn 6 (some .boolean) 3 D aC B kdM N [.ref (B + 0), mI x1] m (4, o.1, o.2) := by
  refine zMet.of mf_X12_comesOn hwd hm (Nat.le_of_ble_eq_true rfl) (fun K e1 e2 e3 e4 e5 hk => ?_)
  subst e4
  exact w_M_comesOn hk hm cx1 h
set_option maxRecDepth 100000 in
set_option maxHeartbeats 4000000 in
theorem w_M_on {K : zK} (hk : zOk K kdM cX12_on 2 (some .boolean) RX12 4)  {m : zM} {o : Int × zM}  (hm : zG kdM m)  (h : M_on m = some o) : GoAt K m [(0, .ref (kB K + 0))] [] 0 (4, o.1, o.2) := by
  unfold M_on at h
  refine g_aload_n hk 0 rfl dX12_on_0 ?_
  have g1 := zGI (i := 1) hm kdM_0 rfl
  refine g_get0 hk fl_X12_13 rfl (j := 1) rfl kdM_0 dX12_on_1 ?_
  refine g_istore_n hk rfl (lv' := [(1, mI (m 0 1)), (0, .ref (kB K + 0))]) (Nat.le_of_ble_eq_true rfl) rfl dX12_on_4 ?_
  refine g_aload_n hk 1 rfl dX12_on_5 ?_
  refine g_iconst hk (v := 0) rfl dX12_on_6 ?_
  refine g_put0 hk fp_X12_13 rfl (j := 1) rfl kdM_0 (cIk rfl) dX12_on_7 h hm (fun m2 hm h => ?_)
  refine g_aload_n hk 1 rfl dX12_on_10 ?_
  refine g_iload_n hk 0 rfl dX12_on_11 ?_
  obtain ⟨r3, e4, h⟩ := zbind h
  refine g_callVz hk (st := []) mf_X12_comesOn lk_X12_608 mv_X12_comesOn kdM_0 (by decide) rfl (Nat.le_of_ble_eq_true rfl) rfl dX12_on_12 (met_M_comesOn _ _ _ _ _ hk.wd hm g1 e4) (fun hm c5 => ?_)
  refine g_if_ne hk (b01 c5) dX12_on_15 h (fun b6 h => ?_) (fun b6 h => ?_)
  · refine g_aload_n hk 1 rfl dX12_on_18 ?_
    refine g_iconst hk (v := 5) rfl dX12_on_19 ?_
    obtain ⟨r7, e8, h⟩ := zbind h
    refine g_callVi hk (st := []) mf_X12_refuses lk_X12_250 mv_X12_refuses kdM_0 (by decide) rfl (Nat.le_of_ble_eq_true rfl) rfl dX12_on_20 (met_M_refuses _ _ _ _ _ hk.wd hm (cIk rfl) e8) (fun hm c9 => ?_)
    refine g_if_lt hk c9 dX12_on_23 h (fun b10 h => ?_) (fun b10 h => ?_)
    · refine g_iconst hk (v := 0) rfl dX12_on_30 ?_
      exact g_zreturn hk z0 dX12_on_31 (by cases h; rfl)
    · refine g_iconst hk (v := 1) rfl dX12_on_26 ?_
      refine g_goto hk dX12_on_27 ?_
      exact g_zreturn hk z1 dX12_on_31 (by cases h; rfl)
  · refine g_aload_n hk 1 rfl dX12_on_32 ?_
    refine g_iconst hk (v := 0) rfl dX12_on_33 ?_
    refine g_iconst hk (v := 1) rfl dX12_on_34 ?_
    obtain ⟨r11, e12, h⟩ := zbind h
    refine g_callVv hk (st := []) mf_X12_copies lk_X12_452 mv_X12_copies kdM_0 (by decide) rfl (Nat.le_of_ble_eq_true rfl) rfl dX12_on_35 (met_M_copies _ _ _ _ _ hk.wd hm (cIk rfl) (cIk rfl) e12) (fun hm => ?_)
    refine g_aload_n hk 1 rfl dX12_on_38 ?_
    refine g_iconst hk (v := 0) rfl dX12_on_39 ?_
    refine g_put0 hk fp_X12_186 rfl (j := 57) rfl kdM_0 (cIk rfl) dX12_on_40 h hm (fun m14 hm h => ?_)
    refine g_iconst hk (v := 1) rfl dX12_on_43 ?_
    exact g_zreturn hk z1 dX12_on_44 (by cases h; rfl)
theorem met_M_on (l : Launch) (D : va_G) (aC : Nat → ClassId) (B N : Nat) (hwd : ∀ id, (kdM id).1 ≠ 9 → id < N) {m : zM} {o : Int × zM} (hm : zG kdM m)  (h : M_on m = some o) : zMet l yX12_on cX12_on 2 (some .boolean) 4 D aC B kdM N [.ref (B + 0)] m (4, o.1, o.2) := by
  refine zMet.of mf_X12_on hwd hm (Nat.le_of_ble_eq_true rfl) (fun K e1 e2 e3 e4 e5 hk => ?_)
  subst e4
  exact w_M_on hk hm  h
