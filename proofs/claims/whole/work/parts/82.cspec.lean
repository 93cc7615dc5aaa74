def kdE (_ : Nat) : Nat × Nat := (9, 0)
def KDS : List (Nat × Nat) := [(0, 7), (1, 24), (1, 8), (1, 8), (1, 18), (1, 48), (1, 48), (1, 60)]
def kdS (id : Nat) : Nat × Nat := KDS.getD id (9, 0)
theorem kdS_lt {id : Nat} (h : (kdS id).1 ≠ 9) : id < 8 := by
  rcases Nat.lt_or_ge id 8 with q | q
  · exact q
  · exfalso; apply h; unfold kdS; rw [List.getD_eq_getElem?_getD, List.getElem?_eq_none (by exact q)]; rfl
theorem kdS_s7_3 {o : Nat} (h : kdS o = (0, 7)) : kdS (o + 1) = (1, 24) := by
  have hl : o < 8 := kdS_lt (by rw [h]; decide)
  have hh : ∀ o, o < 8 → kdS o = (0, 7) → kdS (o + 1) = (1, 24) := by decide +kernel
  exact hh o hl h
theorem kdS_s7_4 {o : Nat} (h : kdS o = (0, 7)) : kdS (o + 2) = (1, 8) := by
  have hl : o < 8 := kdS_lt (by rw [h]; decide)
  have hh : ∀ o, o < 8 → kdS o = (0, 7) → kdS (o + 2) = (1, 8) := by decide +kernel
  exact hh o hl h
theorem kdS_s7_5 {o : Nat} (h : kdS o = (0, 7)) : kdS (o + 3) = (1, 8) := by
  have hl : o < 8 := kdS_lt (by rw [h]; decide)
  have hh : ∀ o, o < 8 → kdS o = (0, 7) → kdS (o + 3) = (1, 8) := by decide +kernel
  exact hh o hl h
theorem kdS_s7_6 {o : Nat} (h : kdS o = (0, 7)) : kdS (o + 4) = (1, 18) := by
  have hl : o < 8 := kdS_lt (by rw [h]; decide)
  have hh : ∀ o, o < 8 → kdS o = (0, 7) → kdS (o + 4) = (1, 18) := by decide +kernel
  exact hh o hl h
theorem kdS_s7_7 {o : Nat} (h : kdS o = (0, 7)) : kdS (o + 5) = (1, 48) := by
  have hl : o < 8 := kdS_lt (by rw [h]; decide)
  have hh : ∀ o, o < 8 → kdS o = (0, 7) → kdS (o + 5) = (1, 48) := by decide +kernel
  exact hh o hl h
theorem kdS_s7_8 {o : Nat} (h : kdS o = (0, 7)) : kdS (o + 6) = (1, 48) := by
  have hl : o < 8 := kdS_lt (by rw [h]; decide)
  have hh : ∀ o, o < 8 → kdS o = (0, 7) → kdS (o + 6) = (1, 48) := by decide +kernel
  exact hh o hl h
theorem kdS_s7_9 {o : Nat} (h : kdS o = (0, 7)) : kdS (o + 7) = (1, 60) := by
  have hl : o < 8 := kdS_lt (by rw [h]; decide)
  have hh : ∀ o, o < 8 → kdS o = (0, 7) → kdS (o + 7) = (1, 60) := by decide +kernel
  exact hh o hl h
set_option maxRecDepth 100000 in
set_option maxHeartbeats 4000000 in
theorem wE_Ta_padded_B4 {K : zK} (hk : zOk K kdE cX8_padded 4 (some .int) RX8 0) {rec : Int → Int → Option (Int)} {x2 : Int} {x3 : Int} {m : zM} {o : Int} (hrec : ∀ (x2 : Int) (x3 : Int), cI x2 → cI x3 → rec x2 x3 = some o → GoAt K m [(2, mI x2), (3, mI x3)] [] 4 (0, o, m)) (hm : zG kdE m) (cx2 : cI x2) (cx3 : cI x3) (h : Ta_padded_B4 rec x2 x3 = some o) : GoAt K m [(2, mI x2), (3, mI x3)] [] 4 (0, o, m) := by
  unfold Ta_padded_B4 at h
  refine g_iload_n hk 1 rfl dX8_padded_4 ?_
  refine g_bipush hk (v := 6) rfl dX8_padded_5 ?_
  refine g_icmp_ge hk cx3 (cIk rfl) dX8_padded_7 h (fun b1 h => ?_) (fun b1 h => ?_)
  · refine g_iload_n hk 0 rfl dX8_padded_10 ?_
    refine g_bipush hk (v := 27) rfl dX8_padded_11 ?_
    refine g_imul hk dX8_padded_13 ?_
    refine g_let (wI_c _) h (fun v2 cv2 h => ?_)
    refine g_istore_n hk rfl (lv' := [(2, mI v2), (3, mI x3)]) (Nat.le_of_ble_eq_true rfl) rfl dX8_padded_14 ?_
    refine g_iinc hk (lv' := [(3, mI (wI (x3 + 1))), (2, mI v2)]) 1 rfl (Nat.le_of_ble_eq_true rfl) rfl dX8_padded_15 ?_
    refine g_goto hk dX8_padded_18 ?_
    refine GoAt.sub [1, 0] rfl ?_
    exact hrec _ _ cv2 (wI_c _) h
  · refine g_iload_n hk 0 rfl dX8_padded_21 ?_
    exact g_ireturn hk cx2 dX8_padded_22 (by cases h; rfl)
theorem wE_Ta_padded_L4 {K : zK} (hk : zOk K kdE cX8_padded 4 (some .int) RX8 0)  {o : Int} {m : zM} (hm : zG kdE m)  : ∀ (n : Nat) (x2 : Int) (x3 : Int), cI x2 → cI x3 → Ta_padded_L4 n x2 x3 = some o → GoAt K m [(2, mI x2), (3, mI x3)] [] 4 (0, o, m)
  | 0, x2, x3, cx2, cx3, h => by cases h
  | n + 1, x2, x3, cx2, cx3, h => wE_Ta_padded_B4 hk  (wE_Ta_padded_L4 hk hm  n) hm cx2 cx3 h
set_option maxRecDepth 100000 in
set_option maxHeartbeats 4000000 in
theorem wE_Ta_padded {K : zK} (hk : zOk K kdE cX8_padded 4 (some .int) RX8 0)  {x0 : Int} {x1 : Int} {m : zM} {o : Int}  (hm : zG kdE m) (cx0 : cI x0) (cx1 : cI x1) (h : Ta_padded x0 x1 = some o) : GoAt K m [(0, mI x0), (1, mI x1)] [] 0 (0, o, m) := by
  unfold Ta_padded at h
  refine g_iload_n hk 0 rfl dX8_padded_0 ?_
  refine g_istore_n hk rfl (lv' := [(2, mI x0), (0, mI x0), (1, mI x1)]) (Nat.le_of_ble_eq_true rfl) rfl dX8_padded_1 ?_
  refine g_iload_n hk 2 rfl dX8_padded_2 ?_
  refine g_istore_n hk rfl (lv' := [(3, mI x1), (2, mI x0), (0, mI x0), (1, mI x1)]) (Nat.le_of_ble_eq_true rfl) rfl dX8_padded_3 ?_
  refine GoAt.sub [1, 0] rfl ?_
  refine wE_Ta_padded_L4 hk hm  1000000 _ _ cx0 cx1 h
theorem metE_Ta_padded (l : Launch) (D : va_G) (aC : Nat → ClassId) (B N : Nat) (hwd : ∀ id, (kdE id).1 ≠ 9 → id < N) {x0 : Int} {x1 : Int} {m : zM} {o : Int} (hm : zG kdE m) (cx0 : cI x0) (cx1 : cI x1) (h : Ta_padded x0 x1 = some o) : zMet l yX8_padded cX8_padded 4 (some .int) 0 D aC B kdE N [mI x0, mI x1] m (0, o, m) := by
  refine zMet.of mf_X8_padded hwd hm (Nat.le_of_ble_eq_true rfl) (fun K e1 e2 e3 e4 e5 hk => ?_)
  subst e4
  exact wE_Ta_padded hk hm cx0 cx1 h
set_option maxRecDepth 100000 in
set_option maxHeartbeats 4000000 in
theorem wS_St_forgetDay_B2 {K : zK} (hk : zOk K kdS cX7_forgetDay 2 none RX7 0) {k28 : Nat → zM → Option (zM)} {rec : Nat → Int → zM → Option (zM)} {o0 : Nat} {x1 : Int} {m : zM} {o : zM} (hk28 : ∀ (o0 : Nat) (m : zM), zG kdS m → kdS o0 = (0, 7) → k28 o0 m = some o → GoAt K m [(0, .ref (kB K + o0))] [] 28 (9, 0, o)) (hrec : ∀ (o0 : Nat) (x1 : Int) (m : zM), zG kdS m → kdS o0 = (0, 7) → cI x1 → rec o0 x1 m = some o → GoAt K m [(0, .ref (kB K + o0)), (1, mI x1)] [] 2 (9, 0, o)) (hm : zG kdS m) (ko0 : kdS o0 = (0, 7)) (cx1 : cI x1) (h : St_forgetDay_B2 k28 rec o0 x1 m = some o) : GoAt K m [(0, .ref (kB K + o0)), (1, mI x1)] [] 2 (9, 0, o) := by
  unfold St_forgetDay_B2 at h
  refine g_iload_n hk 1 rfl dX7_forgetDay_2 ?_
  refine g_bipush hk (v := 8) rfl dX7_forgetDay_3 ?_
  refine g_icmp_ge hk cx1 (cIk rfl) dX7_forgetDay_5 h (fun b1 h => ?_) (fun b1 h => ?_)
  · refine g_aload_n hk 0 rfl dX7_forgetDay_8 ?_
    refine g_get2 hk fl_X7_15 rfl ko0 hm (b := o0 + 2) rfl dX7_forgetDay_9 ?_
    refine g_iload_n hk 1 rfl dX7_forgetDay_12 ?_
    refine g_iconst hk (v := (-1)) rfl dX7_forgetDay_13 ?_
    refine g_iast hk cx1 (cIk rfl) (kdS_s7_4 ko0) hm dX7_forgetDay_14 h (fun m2 hm h => ?_)
    refine g_aload_n hk 0 rfl dX7_forgetDay_15 ?_
    refine g_get2 hk fl_X7_18 rfl ko0 hm (b := o0 + 3) rfl dX7_forgetDay_16 ?_
    refine g_iload_n hk 1 rfl dX7_forgetDay_19 ?_
    refine g_iconst hk (v := 0) rfl dX7_forgetDay_20 ?_
    refine g_iast hk cx1 (cIk rfl) (kdS_s7_5 ko0) hm dX7_forgetDay_21 h (fun m3 hm h => ?_)
    refine g_iinc hk (lv' := [(1, mI (wI (x1 + 1))), (0, .ref (kB K + o0))]) 1 rfl (Nat.le_of_ble_eq_true rfl) rfl dX7_forgetDay_22 ?_
    refine g_goto hk dX7_forgetDay_25 ?_
    refine GoAt.sub [1, 0] rfl ?_
    exact hrec _ _ _ hm ko0 (wI_c _) h
  · refine GoAt.sub [0] rfl ?_
    exact hk28 _ _ hm ko0 h
theorem wS_St_forgetDay_L2 {K : zK} (hk : zOk K kdS cX7_forgetDay 2 none RX7 0) {k28 : Nat → zM → Option (zM)} {o : zM} (hk28 : ∀ (o0 : Nat) (m : zM), zG kdS m → kdS o0 = (0, 7) → k28 o0 m = some o → GoAt K m [(0, .ref (kB K + o0))] [] 28 (9, 0, o)) : ∀ (n : Nat) (o0 : Nat) (x1 : Int) (m : zM), zG kdS m → kdS o0 = (0, 7) → cI x1 → St_forgetDay_L2 k28 n o0 x1 m = some o → GoAt K m [(0, .ref (kB K + o0)), (1, mI x1)] [] 2 (9, 0, o)
  | 0, o0, x1, m, hm, ko0, cx1, h => by cases h
  | n + 1, o0, x1, m, hm, ko0, cx1, h => wS_St_forgetDay_B2 hk hk28 (wS_St_forgetDay_L2 hk hk28 n) hm ko0 cx1 h
set_option maxRecDepth 100000 in
set_option maxHeartbeats 4000000 in
theorem wS_St_forgetDay_B30 {K : zK} (hk : zOk K kdS cX7_forgetDay 2 none RX7 0) {rec : Nat → Int → zM → Option (zM)} {o0 : Nat} {x1 : Int} {m : zM} {o : zM} (hrec : ∀ (o0 : Nat) (x1 : Int) (m : zM), zG kdS m → kdS o0 = (0, 7) → cI x1 → rec o0 x1 m = some o → GoAt K m [(0, .ref (kB K + o0)), (1, mI x1)] [] 30 (9, 0, o)) (hm : zG kdS m) (ko0 : kdS o0 = (0, 7)) (cx1 : cI x1) (h : St_forgetDay_B30 rec o0 x1 m = some o) : GoAt K m [(0, .ref (kB K + o0)), (1, mI x1)] [] 30 (9, 0, o) := by
  unfold St_forgetDay_B30 at h
  refine g_iload_n hk 1 rfl dX7_forgetDay_30 ?_
  refine g_aload_n hk 0 rfl dX7_forgetDay_31 ?_
  refine g_get2 hk fl_X7_27 rfl ko0 hm (b := o0 + 6) rfl dX7_forgetDay_32 ?_
  refine g_alen hk (v := 48) (kdS_s7_8 ko0) rfl dX7_forgetDay_35 ?_
  refine g_icmp_ge hk cx1 (cIk rfl) dX7_forgetDay_36 h (fun b1 h => ?_) (fun b1 h => ?_)
  · refine g_aload_n hk 0 rfl dX7_forgetDay_39 ?_
    refine g_get2 hk fl_X7_27 rfl ko0 hm (b := o0 + 6) rfl dX7_forgetDay_40 ?_
    refine g_iload_n hk 1 rfl dX7_forgetDay_43 ?_
    refine g_iconst hk (v := 0) rfl dX7_forgetDay_44 ?_
    refine g_iast hk cx1 (cIk rfl) (kdS_s7_8 ko0) hm dX7_forgetDay_45 h (fun m2 hm h => ?_)
    refine g_iinc hk (lv' := [(1, mI (wI (x1 + 1))), (0, .ref (kB K + o0))]) 1 rfl (Nat.le_of_ble_eq_true rfl) rfl dX7_forgetDay_46 ?_
    refine g_goto hk dX7_forgetDay_49 ?_
    refine GoAt.sub [1, 0] rfl ?_
    exact hrec _ _ _ hm ko0 (wI_c _) h
  · exact g_return hk dX7_forgetDay_52 (by cases h; rfl)
theorem wS_St_forgetDay_L30 {K : zK} (hk : zOk K kdS cX7_forgetDay 2 none RX7 0)  {o : zM}  : ∀ (n : Nat) (o0 : Nat) (x1 : Int) (m : zM), zG kdS m → kdS o0 = (0, 7) → cI x1 → St_forgetDay_L30 n o0 x1 m = some o → GoAt K m [(0, .ref (kB K + o0)), (1, mI x1)] [] 30 (9, 0, o)
  | 0, o0, x1, m, hm, ko0, cx1, h => by cases h
  | n + 1, o0, x1, m, hm, ko0, cx1, h => wS_St_forgetDay_B30 hk  (wS_St_forgetDay_L30 hk  n) hm ko0 cx1 h
set_option maxRecDepth 100000 in
set_option maxHeartbeats 4000000 in
theorem wS_St_forgetDay {K : zK} (hk : zOk K kdS cX7_forgetDay 2 none RX7 0)  {o0 : Nat} {m : zM} {o : zM}  (hm : zG kdS m) (ko0 : kdS o0 = (0, 7)) (h : St_forgetDay o0 m = some o) : GoAt K m [(0, .ref (kB K + o0))] [] 0 (9, 0, o) := by
  unfold St_forgetDay at h
  refine g_iconst hk (v := 0) rfl dX7_forgetDay_0 ?_
  refine g_istore_n hk rfl (lv' := [(1, mI 0), (0, .ref (kB K + o0))]) (Nat.le_of_ble_eq_true rfl) rfl dX7_forgetDay_1 ?_
  refine GoAt.sub [1, 0] rfl ?_
  refine wS_St_forgetDay_L2 hk (fun o0_1 m2 hm ko0_1 h => ?_) 1000000 _ _ _ hm ko0 (cIk rfl) h
  · refine g_iconst hk (v := 0) rfl dX7_forgetDay_28 ?_
    refine g_istore_n hk rfl (lv' := [(1, mI 0), (0, .ref (kB K + o0_1))]) (Nat.le_of_ble_eq_true rfl) rfl dX7_forgetDay_29 ?_
    refine GoAt.sub [1, 0] rfl ?_
    refine wS_St_forgetDay_L30 hk  1000000 _ _ _ hm ko0_1 (cIk rfl) h
theorem metS_St_forgetDay (l : Launch) (D : va_G) (aC : Nat → ClassId) (B N : Nat) (hwd : ∀ id, (kdS id).1 ≠ 9 → id < N) {o0 : Nat} {m : zM} {o : zM} (hm : zG kdS m) (ko0 : kdS o0 = (0, 7)) (h : St_forgetDay o0 m = some o) : zMet l yX7_forgetDay cX7_forgetDay 2 none 0 D aC B kdS N [.ref (B + o0)] m (9, 0, o) := by
  refine zMet.of mf_X7_forgetDay hwd hm (Nat.le_of_ble_eq_true rfl) (fun K e1 e2 e3 e4 e5 hk => ?_)
  subst e4
  exact wS_St_forgetDay hk hm ko0 h
/-- a call of a method over a world of its own, in any frame -/
theorem z_runW {p : Program} {l : Launch} {e : Env} {R : Room} {s : State} {mm : MethodId} {args : Array Value} {below : List Frame} {meth : Method} {c : Code} {H : Heap} {locs : List Loc} {cs sl : Nat} {Q : State → Prop} {pc : Nat} {ls : Array Slot} {rest st0 : List Value} {a : Array Value} {D : va_G} {aC : Nat → ClassId} {B N : Nat} {kd : Nat → Nat × Nat} {ρ1 : zR} {A0 : Nat → Prop}
    (hr : va_Run p l e R s mm args below meth c H locs cs sl 0 0 (F0 mm pc ls st0) rest (zPost D aC B kd N ρ1 a) (zA N B)) (hS : va_S A0 s.heap H locs) (hA : ∀ q, zA N B q → A0 q)
    (kk : ∀ (H1 : Heap) (locs1 : List Loc), va_P D vwCl (zws kd N B aC ρ1.2.2) H1 → zG kd ρ1.2.2 → zok ρ1.1 ρ1.2.1 → H.size ≤ H1.size → (∀ q, q < H.size → ¬ zA N B q → H1[q]? = H[q]?) → va_S A0 s.heap H1 locs1 → W p l e R s mm args below meth c H1 locs1 cs sl Q (F0 mm (pc + 3) ls ((zrv ρ1).toList ++ rest))) : W p l e R s mm args below meth c H locs cs sl Q (F0 mm pc ls st0) := by
  intro T hT X
  obtain ⟨v, st₀, t, T', L, h0, X', hL, e1, e2, ⟨hv, hP, hKt, hG, hz, hF1, hF2⟩, sts⟩ := hr T hT X
  cases hv
  rw [h0] at hF1 hF2
  obtain ⟨t2, a1, b1⟩ := kk T'.heap (locs ++ L) (by rw [e1]; exact hP) hG hz (by rw [e1]; exact hF1) (fun q h1 h2 => by rw [e1]; exact hF2 q h1 h2) ⟨Nat.le_trans hS.1 (by rw [e1]; exact hF1), fun q h1 h2 => by rw [e1, hF2 q (Nat.lt_of_lt_of_le h1 hS.1) (fun z => h2 (hA q z))]; exact hS.2.1 q h1 h2, fun q hq => by
      rcases List.mem_append.mp hq with h | h
      · exact hS.2.2 q h
      · exact hA _ (hL q h)⟩ T' rfl X'
  exact ⟨t2, sts t2 a1, b1⟩
theorem zc_cell {D : va_G} {kd : Nat → Nat × Nat} {n B : Nat} {aC : Nat → ClassId} {m : zM} {H : Heap} (hP : va_P D vwCl (zws kd n B aC m) H) {id : Nat} (h : id < n) : va_at D vwCl (B + id, zent B aC id (kd id) (m id)) H := hP id _ (zws_get h)
theorem zP_of {D : va_G} {kd : Nat → Nat × Nat} {n B : Nat} {aC : Nat → ClassId} {m : zM} {H : Heap} (h : ∀ id, id < n → va_at D vwCl (B + id, zent B aC id (kd id) (m id)) H) : va_P D vwCl (zws kd n B aC m) H := by
  intro k q hq
  have hk : k < n := by
    have := (List.getElem?_eq_some_iff.mp hq).1
    unfold zws at this
    simpa using this
  rw [zws_get hk] at hq
  cases hq
  exact h k hk
section CS
variable {K : zK} {kx : Nat → Nat × Nat} {n cs sl S V : Nat} {m : zM} {Q : State → Prop} {lv : List (Nat × Value)} {st : List Value} {pc nx : Nat} {cc : ByteArray} {nL mc ms d : Nat} {own : String}
theorem gc_padded (hk : zOd K kx cc nL own mc ms d S V) {a b r : Int} {ix : Nat} (hw : Cond.methodLink own ix yX8_padded ∈ TBL) (hr : Ta_padded a b = some r) (ca : cI a) (cb : cI b) (hdd : 1 ≤ d) (hsum : (st.map fun v => v.category).sum ≤ 8) (hcs : cs ≤ mc) (hsl : sl ≤ ms) (hd : zdec cc pc (.invokestatic ix) 3 nx) (kk : GoW K (zHc K n cs m) cs sl Q lv (mI r :: st) nx) : GoW K (zHc K n cs m) cs sl Q lv (mI b :: mI a :: st) pc := by
  obtain ⟨hd, rfl⟩ := hd
  obtain ⟨hi, hc, hdy, hl13, -⟩ := mf_X8_padded
  intro H locs ls hH hv
  have hRe := hk.1.r
  have hts := hk.1.1.2.2.2.2.1
  have hM := metE_Ta_padded (kL K) (kD K) (kaC K) (kB K) 0 (fun id h => absurd rfl h) (m := fun _ _ => 0) (fun _ _ => c0I) ca cb hr
  have cw := callB_of (R := kR K) (own := own) (index := ix) (mc := 0) (ms := 0) (rm := zRm 0) 2 hts (goodInTBL hc) rfl rfl rfl (hts _ hi) (hts _ hw) hdy ⟨by rw [hRe]; exact hdd, by rw [hRe]; show 8 + (4 + 11) + 32 * 0 ≤ 32 * d; omega⟩
  refine z_runW (va_runS (g := F0 (kMm K) pc ls (mI b :: mI a :: st)) (As := [mI a, mI b]) (rest := st) ⟨hk.1.1.1, hk.1.1.2.1, rfl, hk.1.1.2.2.2.1, hts⟩ hM ⟨cw, hts _ ms_X8_padded⟩ ⟨z_blind, fun U hU hW => ⟨rfl, fun k q hq => by simp [zws] at hq, va_K.moved hW.alike hk.1.2.1, hk.1.2.2.2.2.2.2.2.1.warm hW⟩⟩ rfl rfl hv.1 rfl (lv_room hsum) hd ⟨by rw [hRe]; exact hcs, by rw [hRe]; exact hsl⟩) hH.2.2.2 (fun q hq => by unfold zA at hq; omega) (fun H1 locs1 _ _ _ hz hkp hS1 => ?_)
  refine kk H1 locs1 ls ⟨hH.1.kept (fun k q hq => hkp _ (hH.1 k q hq).lt (by unfold zA; omega)), hH.2.1, hH.2.2.1, hS1⟩ hv
theorem zent_S {B o j : Nat} {aC : Nat → ClassId} {f : Int → Int} (hj : j < 8) : zent (B + o) aC j (kdS j) f = zent B aC (o + j) (kdS j) f := by
  have hz : ∀ k, zfv (B + o) 0 7 f k = zfv B (o + 0) 7 f k := by
    intro k
    have h9 : slT 7 k = 0 ∨ slT 7 k = 2 := by
      by_cases h : k < 12
      · have hh : ∀ k, k < 12 → slT 7 k = 0 ∨ slT 7 k = 2 := by decide
        exact hh k h
      · left
        show ([0, 0, 0, 2, 2, 2, 2, 2, 2, 2, 0, 0] : List Nat).getD k 0 = 0
        rw [List.getD_eq_getElem?_getD, List.getElem?_eq_none (by show 12 ≤ k; omega)]
        rfl
    unfold zfv
    rcases h9 with h9 | h9
    · rw [h9]
      rfl
    rw [h9]
    show (if f k = 0 then Value.null else .ref (B + o + (0 + offs 7 k))) = (if f k = 0 then Value.null else .ref (B + (o + 0 + offs 7 k)))
    rw [show B + o + (0 + offs 7 k) = B + (o + 0 + offs 7 k) by omega]
  match j, hj with
  | 0, _ =>
    show (.inr (7, (List.range (nF 7)).map (zfv (B + o) 0 7 f)) : va_E) = .inr (7, (List.range (nF 7)).map (zfv B (o + 0) 7 f))
    rw [show zfv (B + o) 0 7 f = zfv B (o + 0) 7 f from funext hz]
  | 1, _ => rfl
  | 2, _ => rfl
  | 3, _ => rfl
  | 4, _ => rfl
  | 5, _ => rfl
  | 6, _ => rfl
  | 7, _ => rfl
theorem kdC_S {o : Nat} (ko : kdC o = (0, 7)) : ∀ j, j < 8 → kdC (o + j) = kdS j := by
  have hl : o < 249 := kdC_lt (by rw [ko]; simp)
  have hh : ∀ o, o < 249 → kdC o = (0, 7) → ∀ j, j < 8 → kdC (o + j) = kdS j := by decide +kernel
  exact hh o hl ko
theorem fgm_sub (o : Nat) (m : zM) (j : Nat) : fgm 0 (fun j => m (o + j)) j = fgm o m (o + j) := by
  unfold fgm stA
  by_cases h6 : j = 6
  · subst h6; simp
  · by_cases h3 : j = 3
    · subst h3; simp
    · by_cases h2 : j = 2
      · subst h2; simp
      · rw [if_neg (by omega), if_neg (by omega), if_neg (by omega), if_neg (by omega), if_neg (by omega), if_neg (by omega)]
theorem gc_forget (hk : zOd K kdC cc nL RX7 mc ms d S V) {o : Nat} (ko : kdC o = (0, 7)) (hm1 : ∀ i, zok (zty (kdS 0) i) (m o i)) (hm2 : ∀ j, 1 ≤ j → j < 8 → m (o + j) = fun _ => 0) (hdd : 1 ≤ d) (hcs : cs ≤ mc) (hsl : sl ≤ ms) (hd : zdec cc pc (.invokevirtual 33) 3 nx) (kk : GoW K (zHc K (o + 8) cs (fgm o m)) cs sl Q lv [] nx) : GoW K (zHc K (o + 8) cs m) cs sl Q lv [.ref (kB K + o)] pc := by
  obtain ⟨hd, rfl⟩ := hd
  obtain ⟨hi, hc, hdy, hl13, -⟩ := mf_X7_forgetDay
  intro H locs ls hH hv
  have hRe := hk.1.r
  have hts := hk.1.1.2.2.2.2.1
  have hP := hH.1
  rw [hk.1.kde] at hP
  have hPs : va_P (kD K) vwCl (zws kdS 8 (kB K + o) (kaC K) (fun j => m (o + j))) H := zP_of (fun j hj => by
    have h1 := zc_cell hP (id := o + j) (by omega)
    rw [zent_S hj, ← kdC_S ko j hj, show kB K + o + j = kB K + (o + j) by omega]
    exact h1)
  have hG : zG kdS (fun j => m (o + j)) := by
    intro j i
    by_cases h0 : j = 0
    · subst h0; exact hm1 i
    · by_cases h8 : j < 8
      · show zok _ (m (o + j) i)
        rw [hm2 j (by omega) h8]
        have hz : ∀ j, j < 8 → 1 ≤ j → (kdS j).1 = 1 := by decide
        have : zty (kdS j) i = 0 := by unfold zty; rw [hz j h8 (by omega)]; rfl
        rw [this]
        exact c0I
      · show zok _ (m (o + j) i)
        have h9 : kdS j = (9, 0) := by unfold kdS; rw [List.getD_eq_getElem?_getD, List.getElem?_eq_none (by show 8 ≤ j; omega)]; rfl
        rw [h9, hH.2.2.1 (o + j) (by omega)]
        exact c0I
  have hM := metS_St_forgetDay (kL K) (kD K) (kaC K) (kB K + o) 8 (fun id h => kdS_lt h) hG (o0 := 0) rfl (St_forgetDay_ok 0 (fun j => m (o + j)))
  have cw := callB_of (R := kR K) (own := RX7) (index := 33) (mc := 0) (ms := 0) (rm := zRm 0) 0 hts (goodInTBL hc) rfl rfl rfl (hts _ hi) (hts _ lk_X7_33) hdy ⟨by rw [hRe]; exact hdd, by rw [hRe]; show 8 + (2 + 11) + 32 * 0 ≤ 32 * d; omega⟩
  obtain ⟨hv1, hv2, T7, hcl⟩ := mv_X7_forgetDay
  have he := zws_get (kd := kdC) (N := o + 8) (B := kB K) (aC := kaC K) (m := m) (id := o) (by omega)
  rw [zent_obj ko] at he
  refine z_runW (va_runV (g := F0 (kMm K) pc ls [.ref (kB K + o)]) (As := []) (rest := []) (C := yX7_forgetDay.cls) ⟨hk.1.1.1, hk.1.1.2.1, rfl, hk.1.1.2.2.2.1, hts⟩ hM ⟨cw, hts _ hv1, hts _ hv2⟩ ⟨z_blind, va_recv hk.1.2.1 hP hcl he, fun U hU hW => ⟨rfl, by rw [hU]; exact hPs, va_K.moved hW.alike hk.1.2.1, hk.1.2.2.2.2.2.2.2.1.warm hW⟩⟩ rfl rfl hv.1 rfl (lv_room (Nat.le_of_ble_eq_true rfl)) hd ⟨by rw [hRe]; exact hcs, by rw [hRe]; exact hsl⟩) hH.2.2.2 (fun q hq => by unfold zA at hq; omega) (fun H1 locs1 hP1 _ _ hz hkp hS1 => ?_)
  refine kk H1 locs1 ls ⟨?_, hH.2.1, fun id h => ?_, hS1⟩ hv
  · rw [hk.1.kde]
    refine zP_of (fun id hid => ?_)
    by_cases h : o ≤ id
    · obtain ⟨j, rfl⟩ : ∃ j, id = o + j := ⟨id - o, by omega⟩
      have h1 := zc_cell hP1 (id := j) (by omega)
      rw [zent_S (by omega), ← kdC_S ko j (by omega), show kB K + o + j = kB K + (o + j) by omega] at h1
      rw [← fgm_sub o m j]
      exact h1
    · have h1 := (zc_cell hP hid).kept (H1 := H1) (hkp _ (zc_cell hP hid).lt (by unfold zA; omega))
      have e : fgm o m id = m id := by unfold fgm; rw [stA_ne (by omega), stA_ne (by omega), stA_ne (by omega)]
      rw [e]
      exact h1
  · unfold fgm
    rw [stA_ne (by omega), stA_ne (by omega), stA_ne (by omega)]
    exact hH.2.2.1 id h
def isdM (b : Int) (m : zM) : zM := upm (upm (upm (upm (upm m 12 (5 * b) 6) 12 (5 * b + 1) 1) 12 (5 * b + 2) 3) 12 (5 * b + 3) 5) 12 (5 * b + 4) 0
theorem M_isDefault_ok {b : Int} {m : zM} (h0 : 0 ≤ b) (h1 : b ≤ 1) : M_isDefault b m = some (isdM b m) := by
  unfold M_isDefault isdM
  simp (disch := omega) only [wI_ok, wr_ok, Int.add_zero]
theorem gc_isdef (hk : zOd K kdM cc nL RX12 mc ms d S V) {b : Int} (hm : zG kdM m) (h0 : 0 ≤ b) (h1 : b ≤ 1) (hdd : 1 ≤ d) (hcs : cs ≤ mc) (hsl : sl ≤ ms) (hd : zdec cc pc (.invokevirtual 246) 3 nx) (kk : GoW K (zHc K 53 cs (isdM b m)) cs sl Q lv [] nx) : GoW K (zHc K 53 cs m) cs sl Q lv [mI b, .ref (kB K + 0)] pc := by
  obtain ⟨hd, rfl⟩ := hd
  obtain ⟨hi, hc, hdy, hl13, -⟩ := mf_X12_isDefault
  intro H locs ls hH hv
  have hRe := hk.1.r
  have hts := hk.1.1.2.2.2.2.1
  have hP := hH.1
  rw [hk.1.kde] at hP
  have hM := met_M_isDefault (kL K) (kD K) (kaC K) (kB K) 53 (fun id h => kdM_lt h) hm (show cI b by unfold cI; omega) (M_isDefault_ok h0 h1)
  have cw := callB_of (R := kR K) (own := RX12) (index := 246) (mc := 0) (ms := 0) (rm := zRm 0) 1 hts (goodInTBL hc) rfl rfl rfl (hts _ hi) (hts _ lk_X12_246) hdy ⟨by rw [hRe]; exact hdd, by rw [hRe]; show 8 + (2 + 11) + 32 * 0 ≤ 32 * d; omega⟩
  obtain ⟨hv1, hv2, T7, hcl⟩ := mv_X12_isDefault
  have he := zws_get (kd := kdM) (N := 53) (B := kB K) (aC := kaC K) (m := m) (id := 0) (by omega)
  rw [zent_obj kdM_0] at he
  refine z_runW (va_runV (g := F0 (kMm K) pc ls [mI b, .ref (kB K + 0)]) (As := [mI b]) (rest := []) (C := yX12_isDefault.cls) ⟨hk.1.1.1, hk.1.1.2.1, rfl, hk.1.1.2.2.2.1, hts⟩ hM ⟨cw, hts _ hv1, hts _ hv2⟩ ⟨z_blind, va_recv hk.1.2.1 hP hcl he, fun U hU hW => ⟨rfl, by rw [hU]; exact hP, va_K.moved hW.alike hk.1.2.1, hk.1.2.2.2.2.2.2.2.1.warm hW⟩⟩ rfl rfl hv.1 rfl (lv_room (Nat.le_of_ble_eq_true rfl)) hd ⟨by rw [hRe]; exact hcs, by rw [hRe]; exact hsl⟩) hH.2.2.2 (fun q hq => by unfold zA at hq; omega) (fun H1 locs1 hP1 _ _ hz hkp hS1 => ?_)
  refine kk H1 locs1 ls ⟨by rw [hk.1.kde]; exact hP1, hH.2.1, fun id h => ?_, hS1⟩ hv
  unfold isdM
  rw [upm_ne (by omega), upm_ne (by omega), upm_ne (by omega), upm_ne (by omega), upm_ne (by omega)]
  exact hH.2.2.1 id h
end CS
