def z0M : zM := fun _ _ => 0
def zGw (kd : Nat → Nat × Nat) (m : zM) : Prop := ∀ (id : Nat) (i : Int), zty (kd id) i ≠ 2 → zok (zty (kd id) i) (m id i)
theorem zGw_up {kd : Nat → Nat × Nat} {m : zM} {a : Nat} {i v : Int} (h : zGw kd m) (hv : zty (kd a) i ≠ 2 → zok (zty (kd a) i) v) : zGw kd (upm m a i v) := by
  intro id j hj
  by_cases e : id = a
  · subst e
    rw [upm_eq]
    by_cases e2 : j = i
    · subst e2
      rw [sets_eq]
      exact hv hj
    · rw [sets_ne e2]
      exact h id j hj
  · rw [upm_ne e]
    exact h id j hj
theorem zok_0 {t : Nat} (h : t ≠ 2) : zok t 0 := by
  unfold zok
  split
  · exact cLk rfl
  · exact absurd rfl h
  · exact Or.inl rfl
  · exact c0I
theorem zGw_0 {kd : Nat → Nat × Nat} : zGw kd z0M := fun id i h => zok_0 h
theorem zGw.zG {kd : Nat → Nat × Nat} {m : zM} (h : zGw kd m) (hs : ∀ id i, zty (kd id) i = 2 → m id i = 1) : zG kd m := by
  intro id i
  by_cases e : zty (kd id) i = 2
  · rw [e]; exact hs id i e
  · exact h id i e
def ctSt0 (o : Nat) (m : zM) : zM := upm (upm (upm (upm (upm (upm (upm m o 3 1) o 4 1) o 5 1) o 6 1) o 7 1) o 8 1) o 9 1
theorem stm1 {o : Nat} {m : zM} (hz0 : m o = fun _ => 0) : ∀ i, zok (zty (kdS 0) i) (ctSt0 o m o i) := by
  intro i
  have e : ctSt0 o m o i = if i = 3 ∨ i = 4 ∨ i = 5 ∨ i = 6 ∨ i = 7 ∨ i = 8 ∨ i = 9 then 1 else 0 := by
    unfold ctSt0
    simp only [upm_eq, hz0, sets]
    by_cases h : i = 3 ∨ i = 4 ∨ i = 5 ∨ i = 6 ∨ i = 7 ∨ i = 8 ∨ i = 9
    · rw [if_pos h]
      rcases h with rfl | rfl | rfl | rfl | rfl | rfl | rfl <;> rfl
    · rw [if_neg h]
      simp only [not_or] at h
      obtain ⟨h1, h2, h3, h4, h5, h6, h7⟩ := h
      rw [if_neg h7, if_neg h6, if_neg h5, if_neg h4, if_neg h3, if_neg h2, if_neg h1]
  rw [e]
  by_cases h : i = 3 ∨ i = 4 ∨ i = 5 ∨ i = 6 ∨ i = 7 ∨ i = 8 ∨ i = 9
  · rw [if_pos h]
    rcases h with rfl | rfl | rfl | rfl | rfl | rfl | rfl <;> rfl
  · rw [if_neg h]
    have hz : zty (kdS 0) i = 0 := by
      show (if 0 ≤ i then slT 7 i.toNat else 0) = 0
      by_cases h0 : 0 ≤ i
      · rw [if_pos h0]
        by_cases h12 : i < 12
        · have hh : ∀ k, k < 12 → ¬ (k = 3 ∨ k = 4 ∨ k = 5 ∨ k = 6 ∨ k = 7 ∨ k = 8 ∨ k = 9) → slT 7 k = 0 := by decide
          exact hh i.toNat (by omega) (by omega)
        · show ([0, 0, 0, 2, 2, 2, 2, 2, 2, 2, 0, 0] : List Nat).getD i.toNat 0 = 0
          rw [List.getD_eq_getElem?_getD, List.getElem?_eq_none (by show 12 ≤ i.toNat; omega)]
          rfl
      · rw [if_neg h0]
    rw [hz]
    exact c0I
theorem stm2 {o : Nat} {m : zM} (hz : ∀ id, o + 1 ≤ id → m id = fun _ => 0) : ∀ j, 1 ≤ j → j < 8 → ctSt0 o m (o + j) = fun _ => 0 := by
  intro j h1 h8
  unfold ctSt0
  rw [upm_ne (by omega), upm_ne (by omega), upm_ne (by omega), upm_ne (by omega), upm_ne (by omega), upm_ne (by omega), upm_ne (by omega)]
  exact hz _ (by omega)
def ctSt (o : Nat) (m : zM) : zM := fgm o (upm (upm (upm (upm (upm (upm (upm m o 3 1) o 4 1) o 5 1) o 6 1) o 7 1) o 8 1) o 9 1)
set_option maxRecDepth 100000 in
set_option maxHeartbeats 40000000 in
theorem ct_ctSt (l : Launch) (D : va_G) (aC : Nat → ClassId) (B : Nat) {o : Nat} {m : zM} {S V : Nat} (ko : kdC o = (0, 7)) (hz0 : m o = fun _ => 0) (hz : ∀ id, o + 1 ≤ id → m id = fun _ => 0) : zCt l yX7_init cX7_init 1 3 7 214 D aC B kdC o (o + 8) m (ctSt o m) S V := by
  refine zCt.of mf_X7_init rfl (by decide) hz (fun K e1 e2 e3 e4 hk => ?_)
  subst e1 e2 e3 e4
  refine gw_aload_n hk.1.1 0 rfl dX7_init_0 ?_
  refine gc_obj hk.1 (inT1 170 rfl rfl) wObI wObC (by decide) dX7_init_1 ?_
  refine gw_aload_n hk.1.1 0 rfl dX7_init_4 ?_
  refine gw_bipush hk.1.1 (v := 24) rfl dX7_init_5 ?_
  refine gc_newi hk.1 wAint rfl (by decide) (kdC_s7_3 ko) (by decide) (by decide) dX7_init_7 ?_
  refine gc_putF hk.1 (ci := 7) (C := RX7) (T := TX7) (ty := (.array .int)) (k := 3) (o := o) tyX7 rfl inX7 (Nat.le_of_ble_eq_true rfl) (inT1 186 rfl rfl) tyX7_ok nmX7 rfl rfl (by decide +kernel) ko (by omega) rfl rfl (fun _ => rfl) (fun _ => rfl) dX7_init_9 ?_
  refine gw_aload_n hk.1.1 0 rfl dX7_init_12 ?_
  refine gw_bipush hk.1.1 (v := 8) rfl dX7_init_13 ?_
  refine gc_newi hk.1 wAint rfl (by decide) (kdC_s7_4 ko) (by decide) (by decide) dX7_init_15 ?_
  refine gc_putF hk.1 (ci := 7) (C := RX7) (T := TX7) (ty := (.array .int)) (k := 4) (o := o) tyX7 rfl inX7 (Nat.le_of_ble_eq_true rfl) (inT1 190 rfl rfl) tyX7_ok nmX7 rfl rfl (by decide +kernel) ko (by omega) rfl rfl (fun _ => rfl) (fun _ => rfl) dX7_init_17 ?_
  refine gw_aload_n hk.1.1 0 rfl dX7_init_20 ?_
  refine gw_bipush hk.1.1 (v := 8) rfl dX7_init_21 ?_
  refine gc_newi hk.1 wAint rfl (by decide) (kdC_s7_5 ko) (by decide) (by decide) dX7_init_23 ?_
  refine gc_putF hk.1 (ci := 7) (C := RX7) (T := TX7) (ty := (.array .int)) (k := 5) (o := o) tyX7 rfl inX7 (Nat.le_of_ble_eq_true rfl) (inT1 194 rfl rfl) tyX7_ok nmX7 rfl rfl (by decide +kernel) ko (by omega) rfl rfl (fun _ => rfl) (fun _ => rfl) dX7_init_25 ?_
  refine gw_aload_n hk.1.1 0 rfl dX7_init_28 ?_
  refine gw_bipush hk.1.1 (v := 18) rfl dX7_init_29 ?_
  refine gc_newi hk.1 wAint rfl (by decide) (kdC_s7_6 ko) (by decide) (by decide) dX7_init_31 ?_
  refine gc_putF hk.1 (ci := 7) (C := RX7) (T := TX7) (ty := (.array .int)) (k := 6) (o := o) tyX7 rfl inX7 (Nat.le_of_ble_eq_true rfl) (inT1 198 rfl rfl) tyX7_ok nmX7 rfl rfl (by decide +kernel) ko (by omega) rfl rfl (fun _ => rfl) (fun _ => rfl) dX7_init_33 ?_
  refine gw_aload_n hk.1.1 0 rfl dX7_init_36 ?_
  refine gw_bipush hk.1.1 (v := 48) rfl dX7_init_37 ?_
  refine gc_newi hk.1 wAint rfl (by decide) (kdC_s7_7 ko) (by decide) (by decide) dX7_init_39 ?_
  refine gc_putF hk.1 (ci := 7) (C := RX7) (T := TX7) (ty := (.array .int)) (k := 7) (o := o) tyX7 rfl inX7 (Nat.le_of_ble_eq_true rfl) (inT1 201 rfl rfl) tyX7_ok nmX7 rfl rfl (by decide +kernel) ko (by omega) rfl rfl (fun _ => rfl) (fun _ => rfl) dX7_init_41 ?_
  refine gw_aload_n hk.1.1 0 rfl dX7_init_44 ?_
  refine gw_bipush hk.1.1 (v := 48) rfl dX7_init_45 ?_
  refine gc_newi hk.1 wAint rfl (by decide) (kdC_s7_8 ko) (by decide) (by decide) dX7_init_47 ?_
  refine gc_putF hk.1 (ci := 7) (C := RX7) (T := TX7) (ty := (.array .int)) (k := 8) (o := o) tyX7 rfl inX7 (Nat.le_of_ble_eq_true rfl) (inT1 205 rfl rfl) tyX7_ok nmX7 rfl rfl (by decide +kernel) ko (by omega) rfl rfl (fun _ => rfl) (fun _ => rfl) dX7_init_49 ?_
  refine gw_aload_n hk.1.1 0 rfl dX7_init_52 ?_
  refine gw_bipush hk.1.1 (v := 60) rfl dX7_init_53 ?_
  refine gc_newi hk.1 wAint rfl (by decide) (kdC_s7_9 ko) (by decide) (by decide) dX7_init_55 ?_
  refine gc_putF hk.1 (ci := 7) (C := RX7) (T := TX7) (ty := (.array .int)) (k := 9) (o := o) tyX7 rfl inX7 (Nat.le_of_ble_eq_true rfl) (inT1 209 rfl rfl) tyX7_ok nmX7 rfl rfl (by decide +kernel) ko (by omega) rfl rfl (fun _ => rfl) (fun _ => rfl) dX7_init_57 ?_
  refine gw_aload_n hk.1.1 0 rfl dX7_init_60 ?_
  refine gc_forget hk ko (stm1 hz0) (stm2 hz) (by decide) (by decide) (by decide) dX7_init_61 ?_
  exact gc_return hk.1 dX7_init_64
def ctM1 : zM := upm (upm (upm (upm (upm (upm (upm (upm (upm (upm (upm (upm (upm (upm (upm (upm (upm (upm (upm (upm (upm (upm (upm (upm (upm (upm (upm (upm (upm (upm (upm (upm (upm (upm (upm (upm (upm (upm (upm (upm (upm (upm (upm (upm (upm (upm (upm (upm (upm (upm (upm (upm (upm (upm (upm (upm (upm (upm (upm (upm (upm (upm (upm (upm (upm (upm (upm (upm (upm (upm (upm (upm (upm (upm (upm (upm (upm (upm (upm (upm (upm z0M 0 0 1) 0 1 0) 0 2 0) 0 3 0) 0 4 0) 0 5 0) 0 6 0) 0 7 0) 0 8 0) 0 9 (-1)) 0 10 0) 0 11 (-1)) 0 12 (-1)) 0 13 0) 0 14 1) 0 15 1) 0 16 1) 0 17 1) 0 18 1) 0 19 1) 0 20 1) 0 21 1) 0 22 1) 0 23 1) 0 24 1) 0 25 1) 0 26 1) 0 27 1) 0 28 1) 0 29 1) 0 30 1) 0 31 0) 0 32 1) 0 33 0) 0 34 1) 0 35 1) 0 36 1) 0 37 1) 0 38 1) 0 39 0) 0 40 0) 0 41 1) 0 42 0) 0 43 0) 0 44 1) 0 45 1) 0 46 1) 0 47 1) 0 48 1) 0 49 1) 0 50 1) 0 51 1) 0 52 1) 0 53 1) 0 54 1) 0 55 1) 0 56 0) 0 57 0) 0 58 1) 0 59 1) 0 60 1) 0 61 1) 0 62 1) 0 63 1) 0 64 1) 0 65 0) 0 66 1) 0 67 1) 0 68 1) 0 69 1) 0 70 1) 0 71 1) 0 72 1) 0 73 1) 0 74 1) 0 75 1) 0 76 0) 13 0 (-1)) 13 1 (-1)) 13 2 (-1)) 13 3 (-1)
def ctM2 : zM := isdM 0 ctM1
theorem zG_ctM1w : zGw kdM ctM1 := by
  unfold ctM1
  repeat (refine zGw_up ?_ ?_; rotate_left; first | exact fun h => absurd rfl h | exact fun _ => cIk rfl | exact fun _ => cLk rfl | exact fun _ => z0)
  exact zGw_0
set_option maxRecDepth 100000 in
theorem ctM1_s : ∀ k, k < 77 → slT 12 k = 2 → ctM1 0 (k : Int) = 1 := by decide +kernel
theorem zG_ctM1 : zG kdM ctM1 := by
  refine zGw.zG zG_ctM1w (fun id i h => ?_)
  have hid : id = 0 := by
    rcases Nat.lt_or_ge id 53 with q | q
    · have hh : ∀ id, id < 53 → id ≠ 0 → (kdM id).1 = 1 ∨ (kdM id).1 = 2 ∨ (kdM id).1 = 3 := by decide +kernel
      rcases Nat.eq_zero_or_pos id with e | e
      · exact e
      · exfalso
        unfold zty at h
        rcases hh id q (by omega) with h1 | h1 | h1 <;> rw [h1] at h <;> cases h
    · exfalso
      have : kdM id = (9, 0) := by unfold kdM; rw [List.getD_eq_getElem?_getD, List.getElem?_eq_none (by rw [show KDM.length = 53 from by decide +kernel]; exact q)]; rfl
      rw [this] at h
      cases h
  subst hid
  have h' : (if 0 ≤ i then slT 12 i.toNat else 0) = 2 := h
  by_cases h0 : 0 ≤ i
  · rw [if_pos h0] at h'
    by_cases h7 : i.toNat < 77
    · have := ctM1_s i.toNat h7 h'
      rwa [show ((i.toNat : Nat) : Int) = i by omega] at this
    · exfalso
      unfold slT at h'
      rw [List.getD_eq_getElem?_getD (i := i.toNat), List.getElem?_eq_none (by show 77 ≤ i.toNat; omega)] at h'
      cases h'
  · rw [if_neg h0] at h'
    cases h'
theorem zG_isd {m : zM} {b : Int} (h : zG kdM m) : zG kdM (isdM b m) := by
  unfold isdM
  exact zG_up (zG_up (zG_up (zG_up (zG_up h (cIk rfl)) (cIk rfl)) (cIk rfl)) (cIk rfl)) (cIk rfl)
theorem zG_ctM2 : zG kdM ctM2 := zG_isd zG_ctM1
def ctM : zM := isdM 1 (isdM 0 (upm (upm (upm (upm (upm (upm (upm (upm (upm (upm (upm (upm (upm (upm (upm (upm (upm (upm (upm (upm (upm (upm (upm (upm (upm (upm (upm (upm (upm (upm (upm (upm (upm (upm (upm (upm (upm (upm (upm (upm (upm (upm (upm (upm (upm (upm (upm (upm (upm (upm (upm (upm (upm (upm (upm (upm (upm (upm (upm (upm (upm (upm (upm (upm (upm (upm (upm (upm (upm (upm (upm (upm (upm (upm (upm (upm (upm (upm (upm (upm (upm z0M 0 0 1) 0 1 0) 0 2 0) 0 3 0) 0 4 0) 0 5 0) 0 6 0) 0 7 0) 0 8 0) 0 9 (-1)) 0 10 0) 0 11 (-1)) 0 12 (-1)) 0 13 0) 0 14 1) 0 15 1) 0 16 1) 0 17 1) 0 18 1) 0 19 1) 0 20 1) 0 21 1) 0 22 1) 0 23 1) 0 24 1) 0 25 1) 0 26 1) 0 27 1) 0 28 1) 0 29 1) 0 30 1) 0 31 0) 0 32 1) 0 33 0) 0 34 1) 0 35 1) 0 36 1) 0 37 1) 0 38 1) 0 39 0) 0 40 0) 0 41 1) 0 42 0) 0 43 0) 0 44 1) 0 45 1) 0 46 1) 0 47 1) 0 48 1) 0 49 1) 0 50 1) 0 51 1) 0 52 1) 0 53 1) 0 54 1) 0 55 1) 0 56 0) 0 57 0) 0 58 1) 0 59 1) 0 60 1) 0 61 1) 0 62 1) 0 63 1) 0 64 1) 0 65 0) 0 66 1) 0 67 1) 0 68 1) 0 69 1) 0 70 1) 0 71 1) 0 72 1) 0 73 1) 0 74 1) 0 75 1) 0 76 0) 13 0 (-1)) 13 1 (-1)) 13 2 (-1)) 13 3 (-1)))
set_option maxRecDepth 100000 in
set_option maxHeartbeats 40000000 in
theorem ct_ctM (l : Launch) (D : va_G) (aC : Nat → ClassId) (B : Nat) {S V : Nat} : zCt l yX12_init cX12_init 2 3 52 22196 D aC B kdM 0 53 z0M ctM S V := by
  refine zCt.of mf_X12_init rfl (by decide) (fun _ _ => rfl) (fun K e1 e2 e3 e4 hk => ?_)
  subst e1 e2 e3 e4
  refine gw_aload_n hk.1.1 0 rfl dX12_init_0 ?_
  refine gc_obj hk.1 (inT6 17 rfl rfl) wObI wObC (by decide) dX12_init_1 ?_
  refine gw_aload_n hk.1.1 0 rfl dX12_init_4 ?_
  refine gw_sipush hk.1.1 (v := 1800) rfl dX12_init_5 ?_
  refine gc_newi hk.1 wAint rfl (by decide) kdM_1 (by decide) (by decide) dX12_init_8 ?_
  refine gc_putF hk.1 (ci := 12) (C := RX12) (T := TX12) (ty := (.array .int)) (k := 0) (o := 0) tyX12 rfl inX12 (Nat.le_of_ble_eq_true rfl) (inT6 22 rfl rfl) tyX12_ok nmX12 rfl rfl (by decide +kernel) kdM_0 (by omega) rfl rfl (fun _ => rfl) (fun _ => rfl) dX12_init_10 ?_
  refine gw_aload_n hk.1.1 0 rfl dX12_init_13 ?_
  refine gw_iconst hk.1.1 (v := 0) rfl dX12_init_14 ?_
  refine gc_putv hk.1 (k := 1) (o := 0) (v := 0) fpc_X12_13 kdM_0 (by omega) (fun f => by unfold zfv; rw [sets_eq]; rfl) (vp_nar_int _) rfl dX12_init_15 ?_
  refine gw_aload_n hk.1.1 0 rfl dX12_init_18 ?_
  refine gw_iconst hk.1.1 (v := 0) rfl dX12_init_19 ?_
  refine gc_putv hk.1 (k := 2) (o := 0) (v := 0) fpc_X12_17 kdM_0 (by omega) (fun f => by unfold zfv; rw [sets_eq]; rfl) (vp_nar_int _) rfl dX12_init_20 ?_
  refine gw_aload_n hk.1.1 0 rfl dX12_init_23 ?_
  refine gw_iconst hk.1.1 (v := 0) rfl dX12_init_24 ?_
  refine gc_putv hk.1 (k := 3) (o := 0) (v := 0) fpc_X12_20 kdM_0 (by omega) (fun f => by unfold zfv; rw [sets_eq]; rfl) (vp_nar_int _) rfl dX12_init_25 ?_
  refine gw_aload_n hk.1.1 0 rfl dX12_init_28 ?_
  refine gw_iconst hk.1.1 (v := 0) rfl dX12_init_29 ?_
  refine gc_putv hk.1 (k := 4) (o := 0) (v := 0) fpc_X12_23 kdM_0 (by omega) (fun f => by unfold zfv; rw [sets_eq]; rfl) (vp_nar_int _) rfl dX12_init_30 ?_
  refine gw_aload_n hk.1.1 0 rfl dX12_init_33 ?_
  refine gw_iconst hk.1.1 (v := 0) rfl dX12_init_34 ?_
  refine gc_putv hk.1 (k := 5) (o := 0) (v := 0) fpc_X12_26 kdM_0 (by omega) (fun f => by unfold zfv; rw [sets_eq]; rfl) (vp_nar_int _) rfl dX12_init_35 ?_
  refine gw_aload_n hk.1.1 0 rfl dX12_init_38 ?_
  refine gw_iconst hk.1.1 (v := 0) rfl dX12_init_39 ?_
  refine gc_putv hk.1 (k := 6) (o := 0) (v := 0) fpc_X12_29 kdM_0 (by omega) (fun f => by unfold zfv; rw [sets_eq]; rfl) (vp_nar_int _) rfl dX12_init_40 ?_
  refine gw_aload_n hk.1.1 0 rfl dX12_init_43 ?_
  refine gw_lconst hk.1.1 (v := 0) rfl dX12_init_44 ?_
  refine gc_putv hk.1 (k := 7) (o := 0) (v := 0) fpc_X12_32 kdM_0 (by omega) (fun f => by unfold zfv; rw [sets_eq]; rfl) rfl rfl dX12_init_45 ?_
  refine gw_aload_n hk.1.1 0 rfl dX12_init_48 ?_
  refine gw_iconst hk.1.1 (v := 0) rfl dX12_init_49 ?_
  refine gc_putv hk.1 (k := 8) (o := 0) (v := 0) fpc_X12_36 kdM_0 (by omega) (fun f => by unfold zfv; rw [sets_eq]; rfl) (vp_nar_int _) rfl dX12_init_50 ?_
  refine gw_aload_n hk.1.1 0 rfl dX12_init_53 ?_
  refine gw_iconst hk.1.1 (v := (-1)) rfl dX12_init_54 ?_
  refine gc_putv hk.1 (k := 9) (o := 0) (v := (-1)) fpc_X12_39 kdM_0 (by omega) (fun f => by unfold zfv; rw [sets_eq]; rfl) (vp_nar_int _) rfl dX12_init_55 ?_
  refine gw_aload_n hk.1.1 0 rfl dX12_init_58 ?_
  refine gw_iconst hk.1.1 (v := 0) rfl dX12_init_59 ?_
  refine gc_putv hk.1 (k := 10) (o := 0) (v := 0) fpc_X12_42 kdM_0 (by omega) (fun f => by unfold zfv; rw [sets_eq]; rfl) (vp_nar_int _) rfl dX12_init_60 ?_
  refine gw_aload_n hk.1.1 0 rfl dX12_init_63 ?_
  refine gw_iconst hk.1.1 (v := (-1)) rfl dX12_init_64 ?_
  refine gc_putv hk.1 (k := 11) (o := 0) (v := (-1)) fpc_X12_45 kdM_0 (by omega) (fun f => by unfold zfv; rw [sets_eq]; rfl) (vp_nar_int _) rfl dX12_init_65 ?_
  refine gw_aload_n hk.1.1 0 rfl dX12_init_68 ?_
  refine gw_iconst hk.1.1 (v := (-1)) rfl dX12_init_69 ?_
  refine gc_putv hk.1 (k := 12) (o := 0) (v := (-1)) fpc_X12_48 kdM_0 (by omega) (fun f => by unfold zfv; rw [sets_eq]; rfl) (vp_nar_int _) rfl dX12_init_70 ?_
  refine gw_aload_n hk.1.1 0 rfl dX12_init_73 ?_
  refine gw_iconst hk.1.1 (v := 0) rfl dX12_init_74 ?_
  refine gc_putv hk.1 (k := 13) (o := 0) (v := 0) fpc_X12_51 kdM_0 (by omega) (fun f => by unfold zfv; rw [sets_eq]; rfl) (vp_nar_int _) rfl dX12_init_75 ?_
  refine gw_aload_n hk.1.1 0 rfl dX12_init_78 ?_
  refine gw_iconst hk.1.1 (v := 2) rfl dX12_init_79 ?_
  refine gc_newi hk.1 wAint rfl (by decide) kdM_2 (by decide) (by decide) dX12_init_80 ?_
  refine gc_putF hk.1 (ci := 12) (C := RX12) (T := TX12) (ty := (.array .int)) (k := 14) (o := 0) tyX12 rfl inX12 (Nat.le_of_ble_eq_true rfl) (inT6 36 rfl rfl) tyX12_ok nmX12 rfl rfl (by decide +kernel) kdM_0 (by omega) rfl rfl (fun _ => rfl) (fun _ => rfl) dX12_init_82 ?_
  refine gw_aload_n hk.1.1 0 rfl dX12_init_85 ?_
  refine gw_bipush hk.1.1 (v := 12) rfl dX12_init_86 ?_
  refine gc_newi hk.1 wAint rfl (by decide) kdM_3 (by decide) (by decide) dX12_init_88 ?_
  refine gc_putF hk.1 (ci := 12) (C := RX12) (T := TX12) (ty := (.array .int)) (k := 15) (o := 0) tyX12 rfl inX12 (Nat.le_of_ble_eq_true rfl) (inT6 37 rfl rfl) tyX12_ok nmX12 rfl rfl (by decide +kernel) kdM_0 (by omega) rfl rfl (fun _ => rfl) (fun _ => rfl) dX12_init_90 ?_
  refine gw_aload_n hk.1.1 0 rfl dX12_init_93 ?_
  refine gw_bipush hk.1.1 (v := 12) rfl dX12_init_94 ?_
  refine gc_newi hk.1 wAint rfl (by decide) kdM_4 (by decide) (by decide) dX12_init_96 ?_
  refine gc_putF hk.1 (ci := 12) (C := RX12) (T := TX12) (ty := (.array .int)) (k := 16) (o := 0) tyX12 rfl inX12 (Nat.le_of_ble_eq_true rfl) (inT6 38 rfl rfl) tyX12_ok nmX12 rfl rfl (by decide +kernel) kdM_0 (by omega) rfl rfl (fun _ => rfl) (fun _ => rfl) dX12_init_98 ?_
  refine gw_aload_n hk.1.1 0 rfl dX12_init_101 ?_
  refine gw_bipush hk.1.1 (v := 12) rfl dX12_init_102 ?_
  refine gc_newi hk.1 wAint rfl (by decide) kdM_5 (by decide) (by decide) dX12_init_104 ?_
  refine gc_putF hk.1 (ci := 12) (C := RX12) (T := TX12) (ty := (.array .int)) (k := 17) (o := 0) tyX12 rfl inX12 (Nat.le_of_ble_eq_true rfl) (inT6 39 rfl rfl) tyX12_ok nmX12 rfl rfl (by decide +kernel) kdM_0 (by omega) rfl rfl (fun _ => rfl) (fun _ => rfl) dX12_init_106 ?_
  refine gw_aload_n hk.1.1 0 rfl dX12_init_109 ?_
  refine gw_bipush hk.1.1 (v := 36) rfl dX12_init_110 ?_
  refine gc_newi hk.1 wAint rfl (by decide) kdM_6 (by decide) (by decide) dX12_init_112 ?_
  refine gc_putF hk.1 (ci := 12) (C := RX12) (T := TX12) (ty := (.array .int)) (k := 18) (o := 0) tyX12 rfl inX12 (Nat.le_of_ble_eq_true rfl) (inT6 40 rfl rfl) tyX12_ok nmX12 rfl rfl (by decide +kernel) kdM_0 (by omega) rfl rfl (fun _ => rfl) (fun _ => rfl) dX12_init_114 ?_
  refine gw_aload_n hk.1.1 0 rfl dX12_init_117 ?_
  refine gw_iconst hk.1.1 (v := 2) rfl dX12_init_118 ?_
  refine gc_newi hk.1 wAint rfl (by decide) kdM_7 (by decide) (by decide) dX12_init_119 ?_
  refine gc_putF hk.1 (ci := 12) (C := RX12) (T := TX12) (ty := (.array .int)) (k := 19) (o := 0) tyX12 rfl inX12 (Nat.le_of_ble_eq_true rfl) (inT6 41 rfl rfl) tyX12_ok nmX12 rfl rfl (by decide +kernel) kdM_0 (by omega) rfl rfl (fun _ => rfl) (fun _ => rfl) dX12_init_121 ?_
  refine gw_aload_n hk.1.1 0 rfl dX12_init_124 ?_
  refine gw_bipush hk.1.1 (v := 48) rfl dX12_init_125 ?_
  refine gc_newi hk.1 wAint rfl (by decide) kdM_8 (by decide) (by decide) dX12_init_127 ?_
  refine gc_putF hk.1 (ci := 12) (C := RX12) (T := TX12) (ty := (.array .int)) (k := 20) (o := 0) tyX12 rfl inX12 (Nat.le_of_ble_eq_true rfl) (inT6 42 rfl rfl) tyX12_ok nmX12 rfl rfl (by decide +kernel) kdM_0 (by omega) rfl rfl (fun _ => rfl) (fun _ => rfl) dX12_init_129 ?_
  refine gw_aload_n hk.1.1 0 rfl dX12_init_132 ?_
  refine gw_bipush hk.1.1 (v := 16) rfl dX12_init_133 ?_
  refine gc_newi hk.1 wAint rfl (by decide) kdM_9 (by decide) (by decide) dX12_init_135 ?_
  refine gc_putF hk.1 (ci := 12) (C := RX12) (T := TX12) (ty := (.array .int)) (k := 21) (o := 0) tyX12 rfl inX12 (Nat.le_of_ble_eq_true rfl) (inT6 43 rfl rfl) tyX12_ok nmX12 rfl rfl (by decide +kernel) kdM_0 (by omega) rfl rfl (fun _ => rfl) (fun _ => rfl) dX12_init_137 ?_
  refine gw_aload_n hk.1.1 0 rfl dX12_init_140 ?_
  refine gw_bipush hk.1.1 (v := 16) rfl dX12_init_141 ?_
  refine gc_newi hk.1 wAint rfl (by decide) kdM_10 (by decide) (by decide) dX12_init_143 ?_
  refine gc_putF hk.1 (ci := 12) (C := RX12) (T := TX12) (ty := (.array .int)) (k := 22) (o := 0) tyX12 rfl inX12 (Nat.le_of_ble_eq_true rfl) (inT6 44 rfl rfl) tyX12_ok nmX12 rfl rfl (by decide +kernel) kdM_0 (by omega) rfl rfl (fun _ => rfl) (fun _ => rfl) dX12_init_145 ?_
  refine gw_aload_n hk.1.1 0 rfl dX12_init_148 ?_
  refine gw_bipush hk.1.1 (v := 16) rfl dX12_init_149 ?_
  refine gc_newi hk.1 wAint rfl (by decide) kdM_11 (by decide) (by decide) dX12_init_151 ?_
  refine gc_putF hk.1 (ci := 12) (C := RX12) (T := TX12) (ty := (.array .int)) (k := 23) (o := 0) tyX12 rfl inX12 (Nat.le_of_ble_eq_true rfl) (inT6 45 rfl rfl) tyX12_ok nmX12 rfl rfl (by decide +kernel) kdM_0 (by omega) rfl rfl (fun _ => rfl) (fun _ => rfl) dX12_init_153 ?_
  refine gw_aload_n hk.1.1 0 rfl dX12_init_156 ?_
  refine gw_bipush hk.1.1 (v := 10) rfl dX12_init_157 ?_
  refine gc_newi hk.1 wAint rfl (by decide) kdM_12 (by decide) (by decide) dX12_init_159 ?_
  refine gc_putF hk.1 (ci := 12) (C := RX12) (T := TX12) (ty := (.array .int)) (k := 24) (o := 0) tyX12 rfl inX12 (Nat.le_of_ble_eq_true rfl) (inT6 46 rfl rfl) tyX12_ok nmX12 rfl rfl (by decide +kernel) kdM_0 (by omega) rfl rfl (fun _ => rfl) (fun _ => rfl) dX12_init_161 ?_
  refine gw_aload_n hk.1.1 0 rfl dX12_init_164 ?_
  refine gw_iconst hk.1.1 (v := 4) rfl dX12_init_165 ?_
  refine gc_newi hk.1 wAint rfl (by decide) kdM_13 (by decide) (by decide) dX12_init_166 ?_
  refine gc_putF hk.1 (ci := 12) (C := RX12) (T := TX12) (ty := (.array .int)) (k := 25) (o := 0) tyX12 rfl inX12 (Nat.le_of_ble_eq_true rfl) (inT6 47 rfl rfl) tyX12_ok nmX12 rfl rfl (by decide +kernel) kdM_0 (by omega) rfl rfl (fun _ => rfl) (fun _ => rfl) dX12_init_168 ?_
  refine gw_aload_n hk.1.1 0 rfl dX12_init_171 ?_
  refine gw_iconst hk.1.1 (v := 4) rfl dX12_init_172 ?_
  refine gc_newi hk.1 wAint rfl (by decide) kdM_14 (by decide) (by decide) dX12_init_173 ?_
  refine gc_putF hk.1 (ci := 12) (C := RX12) (T := TX12) (ty := (.array .int)) (k := 26) (o := 0) tyX12 rfl inX12 (Nat.le_of_ble_eq_true rfl) (inT6 48 rfl rfl) tyX12_ok nmX12 rfl rfl (by decide +kernel) kdM_0 (by omega) rfl rfl (fun _ => rfl) (fun _ => rfl) dX12_init_175 ?_
  refine gw_aload_n hk.1.1 0 rfl dX12_init_178 ?_
  refine gw_sipush hk.1.1 (v := 3200) rfl dX12_init_179 ?_
  refine gc_newi hk.1 wAint rfl (by decide) kdM_15 (by decide) (by decide) dX12_init_182 ?_
  refine gc_putF hk.1 (ci := 12) (C := RX12) (T := TX12) (ty := (.array .int)) (k := 27) (o := 0) tyX12 rfl inX12 (Nat.le_of_ble_eq_true rfl) (inT6 49 rfl rfl) tyX12_ok nmX12 rfl rfl (by decide +kernel) kdM_0 (by omega) rfl rfl (fun _ => rfl) (fun _ => rfl) dX12_init_184 ?_
  refine gw_aload_n hk.1.1 0 rfl dX12_init_187 ?_
  refine gw_sipush hk.1.1 (v := 3200) rfl dX12_init_188 ?_
  refine gc_newi hk.1 wAint rfl (by decide) kdM_16 (by decide) (by decide) dX12_init_191 ?_
  refine gc_putF hk.1 (ci := 12) (C := RX12) (T := TX12) (ty := (.array .int)) (k := 28) (o := 0) tyX12 rfl inX12 (Nat.le_of_ble_eq_true rfl) (inT6 50 rfl rfl) tyX12_ok nmX12 rfl rfl (by decide +kernel) kdM_0 (by omega) rfl rfl (fun _ => rfl) (fun _ => rfl) dX12_init_193 ?_
  refine gw_aload_n hk.1.1 0 rfl dX12_init_196 ?_
  refine gw_bipush hk.1.1 (v := 12) rfl dX12_init_197 ?_
  refine gc_newl hk.1 wAlng rfl (by decide) kdM_17 (by decide) (by decide) dX12_init_199 ?_
  refine gc_putF hk.1 (ci := 12) (C := RX12) (T := TX12) (ty := (.array .long)) (k := 29) (o := 0) tyX12 rfl inX12 (Nat.le_of_ble_eq_true rfl) (inT6 51 rfl rfl) tyX12_ok nmX12 rfl rfl (by decide +kernel) kdM_0 (by omega) rfl rfl (fun _ => rfl) (fun _ => rfl) dX12_init_201 ?_
  refine gw_aload_n hk.1.1 0 rfl dX12_init_204 ?_
  refine gw_bipush hk.1.1 (v := 16) rfl dX12_init_205 ?_
  refine gc_newl hk.1 wAlng rfl (by decide) kdM_18 (by decide) (by decide) dX12_init_207 ?_
  refine gc_putF hk.1 (ci := 12) (C := RX12) (T := TX12) (ty := (.array .long)) (k := 30) (o := 0) tyX12 rfl inX12 (Nat.le_of_ble_eq_true rfl) (inT6 52 rfl rfl) tyX12_ok nmX12 rfl rfl (by decide +kernel) kdM_0 (by omega) rfl rfl (fun _ => rfl) (fun _ => rfl) dX12_init_209 ?_
  refine gw_aload_n hk.1.1 0 rfl dX12_init_212 ?_
  refine gw_iconst hk.1.1 (v := 0) rfl dX12_init_213 ?_
  refine gc_putv hk.1 (k := 31) (o := 0) (v := 0) fpc_X12_106 kdM_0 (by omega) (fun f => by unfold zfv; rw [sets_eq]; rfl) (vp_nar_int _) rfl dX12_init_214 ?_
  refine gw_aload_n hk.1.1 0 rfl dX12_init_217 ?_
  refine gw_iconst hk.1.1 (v := 1) rfl dX12_init_218 ?_
  refine gc_putv hk.1 (k := 32) (o := 0) (v := 1) fpc_X12_109 kdM_0 (by omega) (fun f => by unfold zfv; rw [sets_eq]; rfl) (vp_nar_int _) rfl dX12_init_219 ?_
  refine gw_aload_n hk.1.1 0 rfl dX12_init_222 ?_
  refine gw_iconst hk.1.1 (v := 0) rfl dX12_init_223 ?_
  refine gc_putv hk.1 (k := 33) (o := 0) (v := 0) fpc_X12_112 kdM_0 (by omega) (fun f => by unfold zfv; rw [sets_eq]; rfl) (nar4 z0) (fits_boo z0) dX12_init_224 ?_
  refine gw_aload_n hk.1.1 0 rfl dX12_init_227 ?_
  refine gw_bipush hk.1.1 (v := 20) rfl dX12_init_228 ?_
  refine gc_newi hk.1 wAint rfl (by decide) kdM_19 (by decide) (by decide) dX12_init_230 ?_
  refine gc_putF hk.1 (ci := 12) (C := RX12) (T := TX12) (ty := (.array .int)) (k := 34) (o := 0) tyX12 rfl inX12 (Nat.le_of_ble_eq_true rfl) (inT6 56 rfl rfl) tyX12_ok nmX12 rfl rfl (by decide +kernel) kdM_0 (by omega) rfl rfl (fun _ => rfl) (fun _ => rfl) dX12_init_232 ?_
  refine gw_aload_n hk.1.1 0 rfl dX12_init_235 ?_
  refine gw_bipush hk.1.1 (v := 20) rfl dX12_init_236 ?_
  refine gc_newi hk.1 wAint rfl (by decide) kdM_20 (by decide) (by decide) dX12_init_238 ?_
  refine gc_putF hk.1 (ci := 12) (C := RX12) (T := TX12) (ty := (.array .int)) (k := 35) (o := 0) tyX12 rfl inX12 (Nat.le_of_ble_eq_true rfl) (inT6 57 rfl rfl) tyX12_ok nmX12 rfl rfl (by decide +kernel) kdM_0 (by omega) rfl rfl (fun _ => rfl) (fun _ => rfl) dX12_init_240 ?_
  refine gw_aload_n hk.1.1 0 rfl dX12_init_243 ?_
  refine gw_bipush hk.1.1 (v := 20) rfl dX12_init_244 ?_
  refine gc_newz hk.1 wAboo rfl (by decide) kdM_21 (by decide) (by decide) dX12_init_246 ?_
  refine gc_putF hk.1 (ci := 12) (C := RX12) (T := TX12) (ty := (.array .boolean)) (k := 36) (o := 0) tyX12 rfl inX12 (Nat.le_of_ble_eq_true rfl) (inT6 58 rfl rfl) tyX12_ok nmX12 rfl rfl (by decide +kernel) kdM_0 (by omega) rfl rfl (fun _ => rfl) (fun _ => rfl) dX12_init_248 ?_
  refine gw_aload_n hk.1.1 0 rfl dX12_init_251 ?_
  refine gw_bipush hk.1.1 (v := 20) rfl dX12_init_252 ?_
  refine gc_newi hk.1 wAint rfl (by decide) kdM_22 (by decide) (by decide) dX12_init_254 ?_
  refine gc_putF hk.1 (ci := 12) (C := RX12) (T := TX12) (ty := (.array .int)) (k := 37) (o := 0) tyX12 rfl inX12 (Nat.le_of_ble_eq_true rfl) (inT6 59 rfl rfl) tyX12_ok nmX12 rfl rfl (by decide +kernel) kdM_0 (by omega) rfl rfl (fun _ => rfl) (fun _ => rfl) dX12_init_256 ?_
  refine gw_aload_n hk.1.1 0 rfl dX12_init_259 ?_
  refine gw_bipush hk.1.1 (v := 20) rfl dX12_init_260 ?_
  refine gc_newi hk.1 wAint rfl (by decide) kdM_23 (by decide) (by decide) dX12_init_262 ?_
  refine gc_putF hk.1 (ci := 12) (C := RX12) (T := TX12) (ty := (.array .int)) (k := 38) (o := 0) tyX12 rfl inX12 (Nat.le_of_ble_eq_true rfl) (inT6 60 rfl rfl) tyX12_ok nmX12 rfl rfl (by decide +kernel) kdM_0 (by omega) rfl rfl (fun _ => rfl) (fun _ => rfl) dX12_init_264 ?_
  refine gw_aload_n hk.1.1 0 rfl dX12_init_267 ?_
  refine gw_iconst hk.1.1 (v := 0) rfl dX12_init_268 ?_
  refine gc_putv hk.1 (k := 39) (o := 0) (v := 0) fpc_X12_132 kdM_0 (by omega) (fun f => by unfold zfv; rw [sets_eq]; rfl) (vp_nar_int _) rfl dX12_init_269 ?_
  refine gw_aload_n hk.1.1 0 rfl dX12_init_272 ?_
  refine gw_iconst hk.1.1 (v := 0) rfl dX12_init_273 ?_
  refine gc_putv hk.1 (k := 40) (o := 0) (v := 0) fpc_X12_135 kdM_0 (by omega) (fun f => by unfold zfv; rw [sets_eq]; rfl) (vp_nar_int _) rfl dX12_init_274 ?_
  refine gw_aload_n hk.1.1 0 rfl dX12_init_277 ?_
  refine gw_sipush hk.1.1 (v := 500) rfl dX12_init_278 ?_
  refine gc_newi hk.1 wAint rfl (by decide) kdM_24 (by decide) (by decide) dX12_init_281 ?_
  refine gc_putF hk.1 (ci := 12) (C := RX12) (T := TX12) (ty := (.array .int)) (k := 41) (o := 0) tyX12 rfl inX12 (Nat.le_of_ble_eq_true rfl) (inT6 63 rfl rfl) tyX12_ok nmX12 rfl rfl (by decide +kernel) kdM_0 (by omega) rfl rfl (fun _ => rfl) (fun _ => rfl) dX12_init_283 ?_
  refine gw_aload_n hk.1.1 0 rfl dX12_init_286 ?_
  refine gw_iconst hk.1.1 (v := 0) rfl dX12_init_287 ?_
  refine gc_putv hk.1 (k := 42) (o := 0) (v := 0) fpc_X12_141 kdM_0 (by omega) (fun f => by unfold zfv; rw [sets_eq]; rfl) (vp_nar_int _) rfl dX12_init_288 ?_
  refine gw_aload_n hk.1.1 0 rfl dX12_init_291 ?_
  refine gw_iconst hk.1.1 (v := 0) rfl dX12_init_292 ?_
  refine gc_putv hk.1 (k := 43) (o := 0) (v := 0) fpc_X12_144 kdM_0 (by omega) (fun f => by unfold zfv; rw [sets_eq]; rfl) (nar4 z0) (fits_boo z0) dX12_init_293 ?_
  refine gw_aload_n hk.1.1 0 rfl dX12_init_296 ?_
  refine gw_iconst hk.1.1 (v := 3) rfl dX12_init_297 ?_
  refine gc_newi hk.1 wAint rfl (by decide) kdM_25 (by decide) (by decide) dX12_init_298 ?_
  refine gc_putF hk.1 (ci := 12) (C := RX12) (T := TX12) (ty := (.array .int)) (k := 44) (o := 0) tyX12 rfl inX12 (Nat.le_of_ble_eq_true rfl) (inT6 66 rfl rfl) tyX12_ok nmX12 rfl rfl (by decide +kernel) kdM_0 (by omega) rfl rfl (fun _ => rfl) (fun _ => rfl) dX12_init_300 ?_
  refine gw_aload_n hk.1.1 0 rfl dX12_init_303 ?_
  refine gw_bipush hk.1.1 (v := 6) rfl dX12_init_304 ?_
  refine gc_newi hk.1 wAint rfl (by decide) kdM_26 (by decide) (by decide) dX12_init_306 ?_
  refine gc_putF hk.1 (ci := 12) (C := RX12) (T := TX12) (ty := (.array .int)) (k := 45) (o := 0) tyX12 rfl inX12 (Nat.le_of_ble_eq_true rfl) (inT6 67 rfl rfl) tyX12_ok nmX12 rfl rfl (by decide +kernel) kdM_0 (by omega) rfl rfl (fun _ => rfl) (fun _ => rfl) dX12_init_308 ?_
  refine gw_aload_n hk.1.1 0 rfl dX12_init_311 ?_
  refine gw_bipush hk.1.1 (v := 22) rfl dX12_init_312 ?_
  refine gc_newi hk.1 wAint rfl (by decide) kdM_27 (by decide) (by decide) dX12_init_314 ?_
  refine gc_putF hk.1 (ci := 12) (C := RX12) (T := TX12) (ty := (.array .int)) (k := 46) (o := 0) tyX12 rfl inX12 (Nat.le_of_ble_eq_true rfl) (inT6 68 rfl rfl) tyX12_ok nmX12 rfl rfl (by decide +kernel) kdM_0 (by omega) rfl rfl (fun _ => rfl) (fun _ => rfl) dX12_init_316 ?_
  refine gw_aload_n hk.1.1 0 rfl dX12_init_319 ?_
  refine gw_bipush hk.1.1 (v := 22) rfl dX12_init_320 ?_
  refine gc_newi hk.1 wAint rfl (by decide) kdM_28 (by decide) (by decide) dX12_init_322 ?_
  refine gc_putF hk.1 (ci := 12) (C := RX12) (T := TX12) (ty := (.array .int)) (k := 47) (o := 0) tyX12 rfl inX12 (Nat.le_of_ble_eq_true rfl) (inT6 69 rfl rfl) tyX12_ok nmX12 rfl rfl (by decide +kernel) kdM_0 (by omega) rfl rfl (fun _ => rfl) (fun _ => rfl) dX12_init_324 ?_
  refine gw_aload_n hk.1.1 0 rfl dX12_init_327 ?_
  refine gw_sipush hk.1.1 (v := 528) rfl dX12_init_328 ?_
  refine gc_newi hk.1 wAint rfl (by decide) kdM_29 (by decide) (by decide) dX12_init_331 ?_
  refine gc_putF hk.1 (ci := 12) (C := RX12) (T := TX12) (ty := (.array .int)) (k := 48) (o := 0) tyX12 rfl inX12 (Nat.le_of_ble_eq_true rfl) (inT6 70 rfl rfl) tyX12_ok nmX12 rfl rfl (by decide +kernel) kdM_0 (by omega) rfl rfl (fun _ => rfl) (fun _ => rfl) dX12_init_333 ?_
  refine gw_aload_n hk.1.1 0 rfl dX12_init_336 ?_
  refine gw_sipush hk.1.1 (v := 176) rfl dX12_init_337 ?_
  refine gc_newi hk.1 wAint rfl (by decide) kdM_30 (by decide) (by decide) dX12_init_340 ?_
  refine gc_putF hk.1 (ci := 12) (C := RX12) (T := TX12) (ty := (.array .int)) (k := 49) (o := 0) tyX12 rfl inX12 (Nat.le_of_ble_eq_true rfl) (inT6 71 rfl rfl) tyX12_ok nmX12 rfl rfl (by decide +kernel) kdM_0 (by omega) rfl rfl (fun _ => rfl) (fun _ => rfl) dX12_init_342 ?_
  refine gw_aload_n hk.1.1 0 rfl dX12_init_345 ?_
  refine gw_sipush hk.1.1 (v := 176) rfl dX12_init_346 ?_
  refine gc_newi hk.1 wAint rfl (by decide) kdM_31 (by decide) (by decide) dX12_init_349 ?_
  refine gc_putF hk.1 (ci := 12) (C := RX12) (T := TX12) (ty := (.array .int)) (k := 50) (o := 0) tyX12 rfl inX12 (Nat.le_of_ble_eq_true rfl) (inT6 72 rfl rfl) tyX12_ok nmX12 rfl rfl (by decide +kernel) kdM_0 (by omega) rfl rfl (fun _ => rfl) (fun _ => rfl) dX12_init_351 ?_
  refine gw_aload_n hk.1.1 0 rfl dX12_init_354 ?_
  refine gw_sipush hk.1.1 (v := 396) rfl dX12_init_355 ?_
  refine gc_newi hk.1 wAint rfl (by decide) kdM_32 (by decide) (by decide) dX12_init_358 ?_
  refine gc_putF hk.1 (ci := 12) (C := RX12) (T := TX12) (ty := (.array .int)) (k := 51) (o := 0) tyX12 rfl inX12 (Nat.le_of_ble_eq_true rfl) (inT6 73 rfl rfl) tyX12_ok nmX12 rfl rfl (by decide +kernel) kdM_0 (by omega) rfl rfl (fun _ => rfl) (fun _ => rfl) dX12_init_360 ?_
  refine gw_aload_n hk.1.1 0 rfl dX12_init_363 ?_
  refine gw_sipush hk.1.1 (v := 1056) rfl dX12_init_364 ?_
  refine gc_newi hk.1 wAint rfl (by decide) kdM_33 (by decide) (by decide) dX12_init_367 ?_
  refine gc_putF hk.1 (ci := 12) (C := RX12) (T := TX12) (ty := (.array .int)) (k := 52) (o := 0) tyX12 rfl inX12 (Nat.le_of_ble_eq_true rfl) (inT6 74 rfl rfl) tyX12_ok nmX12 rfl rfl (by decide +kernel) kdM_0 (by omega) rfl rfl (fun _ => rfl) (fun _ => rfl) dX12_init_369 ?_
  refine gw_aload_n hk.1.1 0 rfl dX12_init_372 ?_
  refine gw_sipush hk.1.1 (v := 1056) rfl dX12_init_373 ?_
  refine gc_newi hk.1 wAint rfl (by decide) kdM_34 (by decide) (by decide) dX12_init_376 ?_
  refine gc_putF hk.1 (ci := 12) (C := RX12) (T := TX12) (ty := (.array .int)) (k := 53) (o := 0) tyX12 rfl inX12 (Nat.le_of_ble_eq_true rfl) (inT6 75 rfl rfl) tyX12_ok nmX12 rfl rfl (by decide +kernel) kdM_0 (by omega) rfl rfl (fun _ => rfl) (fun _ => rfl) dX12_init_378 ?_
  refine gw_aload_n hk.1.1 0 rfl dX12_init_381 ?_
  refine gw_bipush hk.1.1 (v := 22) rfl dX12_init_382 ?_
  refine gc_newi hk.1 wAint rfl (by decide) kdM_35 (by decide) (by decide) dX12_init_384 ?_
  refine gc_putF hk.1 (ci := 12) (C := RX12) (T := TX12) (ty := (.array .int)) (k := 54) (o := 0) tyX12 rfl inX12 (Nat.le_of_ble_eq_true rfl) (inT6 76 rfl rfl) tyX12_ok nmX12 rfl rfl (by decide +kernel) kdM_0 (by omega) rfl rfl (fun _ => rfl) (fun _ => rfl) dX12_init_386 ?_
  refine gw_aload_n hk.1.1 0 rfl dX12_init_389 ?_
  refine gw_sipush hk.1.1 (v := 6600) rfl dX12_init_390 ?_
  refine gc_newi hk.1 wAint rfl (by decide) kdM_36 (by decide) (by decide) dX12_init_393 ?_
  refine gc_putF hk.1 (ci := 12) (C := RX12) (T := TX12) (ty := (.array .int)) (k := 55) (o := 0) tyX12 rfl inX12 (Nat.le_of_ble_eq_true rfl) (inT6 77 rfl rfl) tyX12_ok nmX12 rfl rfl (by decide +kernel) kdM_0 (by omega) rfl rfl (fun _ => rfl) (fun _ => rfl) dX12_init_395 ?_
  refine gw_aload_n hk.1.1 0 rfl dX12_init_398 ?_
  refine gw_iconst hk.1.1 (v := 0) rfl dX12_init_399 ?_
  refine gc_putv hk.1 (k := 56) (o := 0) (v := 0) fpc_X12_183 kdM_0 (by omega) (fun f => by unfold zfv; rw [sets_eq]; rfl) (vp_nar_int _) rfl dX12_init_400 ?_
  refine gw_aload_n hk.1.1 0 rfl dX12_init_403 ?_
  refine gw_iconst hk.1.1 (v := 0) rfl dX12_init_404 ?_
  refine gc_putv hk.1 (k := 57) (o := 0) (v := 0) fpc_X12_186 kdM_0 (by omega) (fun f => by unfold zfv; rw [sets_eq]; rfl) (vp_nar_int _) rfl dX12_init_405 ?_
  refine gw_aload_n hk.1.1 0 rfl dX12_init_408 ?_
  refine gw_lconst hk.1.1 (v := 1) rfl dX12_init_409 ?_
  refine gc_putv hk.1 (k := 58) (o := 0) (v := 1) fpc_X12_189 kdM_0 (by omega) (fun f => by unfold zfv; rw [sets_eq]; rfl) rfl rfl dX12_init_410 ?_
  refine gw_aload_n hk.1.1 0 rfl dX12_init_413 ?_
  refine gw_sipush hk.1.1 (v := 500) rfl dX12_init_414 ?_
  refine gc_newl hk.1 wAlng rfl (by decide) kdM_37 (by decide) (by decide) dX12_init_417 ?_
  refine gc_putF hk.1 (ci := 12) (C := RX12) (T := TX12) (ty := (.array .long)) (k := 59) (o := 0) tyX12 rfl inX12 (Nat.le_of_ble_eq_true rfl) (inT6 81 rfl rfl) tyX12_ok nmX12 rfl rfl (by decide +kernel) kdM_0 (by omega) rfl rfl (fun _ => rfl) (fun _ => rfl) dX12_init_419 ?_
  refine gw_aload_n hk.1.1 0 rfl dX12_init_422 ?_
  refine gw_bipush hk.1.1 (v := 12) rfl dX12_init_423 ?_
  refine gc_newi hk.1 wAint rfl (by decide) kdM_38 (by decide) (by decide) dX12_init_425 ?_
  refine gc_putF hk.1 (ci := 12) (C := RX12) (T := TX12) (ty := (.array .int)) (k := 60) (o := 0) tyX12 rfl inX12 (Nat.le_of_ble_eq_true rfl) (inT6 82 rfl rfl) tyX12_ok nmX12 rfl rfl (by decide +kernel) kdM_0 (by omega) rfl rfl (fun _ => rfl) (fun _ => rfl) dX12_init_427 ?_
  refine gw_aload_n hk.1.1 0 rfl dX12_init_430 ?_
  refine gw_bipush hk.1.1 (v := 6) rfl dX12_init_431 ?_
  refine gc_newi hk.1 wAint rfl (by decide) kdM_39 (by decide) (by decide) dX12_init_433 ?_
  refine gc_putF hk.1 (ci := 12) (C := RX12) (T := TX12) (ty := (.array .int)) (k := 61) (o := 0) tyX12 rfl inX12 (Nat.le_of_ble_eq_true rfl) (inT6 83 rfl rfl) tyX12_ok nmX12 rfl rfl (by decide +kernel) kdM_0 (by omega) rfl rfl (fun _ => rfl) (fun _ => rfl) dX12_init_435 ?_
  refine gw_aload_n hk.1.1 0 rfl dX12_init_438 ?_
  refine gw_bipush hk.1.1 (v := 6) rfl dX12_init_439 ?_
  refine gc_newi hk.1 wAint rfl (by decide) kdM_40 (by decide) (by decide) dX12_init_441 ?_
  refine gc_putF hk.1 (ci := 12) (C := RX12) (T := TX12) (ty := (.array .int)) (k := 62) (o := 0) tyX12 rfl inX12 (Nat.le_of_ble_eq_true rfl) (inT6 84 rfl rfl) tyX12_ok nmX12 rfl rfl (by decide +kernel) kdM_0 (by omega) rfl rfl (fun _ => rfl) (fun _ => rfl) dX12_init_443 ?_
  refine gw_aload_n hk.1.1 0 rfl dX12_init_446 ?_
  refine gw_sipush hk.1.1 (v := 1792) rfl dX12_init_447 ?_
  refine gc_newi hk.1 wAint rfl (by decide) kdM_41 (by decide) (by decide) dX12_init_450 ?_
  refine gc_putF hk.1 (ci := 12) (C := RX12) (T := TX12) (ty := (.array .int)) (k := 63) (o := 0) tyX12 rfl inX12 (Nat.le_of_ble_eq_true rfl) (inT6 85 rfl rfl) tyX12_ok nmX12 rfl rfl (by decide +kernel) kdM_0 (by omega) rfl rfl (fun _ => rfl) (fun _ => rfl) dX12_init_452 ?_
  refine gw_aload_n hk.1.1 0 rfl dX12_init_455 ?_
  refine gw_bipush hk.1.1 (v := 48) rfl dX12_init_456 ?_
  refine gc_newi hk.1 wAint rfl (by decide) kdM_42 (by decide) (by decide) dX12_init_458 ?_
  refine gc_putF hk.1 (ci := 12) (C := RX12) (T := TX12) (ty := (.array .int)) (k := 64) (o := 0) tyX12 rfl inX12 (Nat.le_of_ble_eq_true rfl) (inT6 86 rfl rfl) tyX12_ok nmX12 rfl rfl (by decide +kernel) kdM_0 (by omega) rfl rfl (fun _ => rfl) (fun _ => rfl) dX12_init_460 ?_
  refine gw_aload_n hk.1.1 0 rfl dX12_init_463 ?_
  refine gw_iconst hk.1.1 (v := 0) rfl dX12_init_464 ?_
  refine gc_putv hk.1 (k := 65) (o := 0) (v := 0) fpc_X12_210 kdM_0 (by omega) (fun f => by unfold zfv; rw [sets_eq]; rfl) (vp_nar_int _) rfl dX12_init_465 ?_
  refine gw_aload_n hk.1.1 0 rfl dX12_init_468 ?_
  refine gw_bipush hk.1.1 (v := 16) rfl dX12_init_469 ?_
  refine gc_newi hk.1 wAint rfl (by decide) kdM_43 (by decide) (by decide) dX12_init_471 ?_
  refine gc_putF hk.1 (ci := 12) (C := RX12) (T := TX12) (ty := (.array .int)) (k := 66) (o := 0) tyX12 rfl inX12 (Nat.le_of_ble_eq_true rfl) (inT6 88 rfl rfl) tyX12_ok nmX12 rfl rfl (by decide +kernel) kdM_0 (by omega) rfl rfl (fun _ => rfl) (fun _ => rfl) dX12_init_473 ?_
  refine gw_aload_n hk.1.1 0 rfl dX12_init_476 ?_
  refine gw_bipush hk.1.1 (v := 16) rfl dX12_init_477 ?_
  refine gc_newi hk.1 wAint rfl (by decide) kdM_44 (by decide) (by decide) dX12_init_479 ?_
  refine gc_putF hk.1 (ci := 12) (C := RX12) (T := TX12) (ty := (.array .int)) (k := 67) (o := 0) tyX12 rfl inX12 (Nat.le_of_ble_eq_true rfl) (inT6 89 rfl rfl) tyX12_ok nmX12 rfl rfl (by decide +kernel) kdM_0 (by omega) rfl rfl (fun _ => rfl) (fun _ => rfl) dX12_init_481 ?_
  refine gw_aload_n hk.1.1 0 rfl dX12_init_484 ?_
  refine gw_iconst hk.1.1 (v := 3) rfl dX12_init_485 ?_
  refine gc_newi hk.1 wAint rfl (by decide) kdM_45 (by decide) (by decide) dX12_init_486 ?_
  refine gc_putF hk.1 (ci := 12) (C := RX12) (T := TX12) (ty := (.array .int)) (k := 68) (o := 0) tyX12 rfl inX12 (Nat.le_of_ble_eq_true rfl) (inT6 90 rfl rfl) tyX12_ok nmX12 rfl rfl (by decide +kernel) kdM_0 (by omega) rfl rfl (fun _ => rfl) (fun _ => rfl) dX12_init_488 ?_
  refine gw_aload_n hk.1.1 0 rfl dX12_init_491 ?_
  refine gw_bipush hk.1.1 (v := 6) rfl dX12_init_492 ?_
  refine gc_newi hk.1 wAint rfl (by decide) kdM_46 (by decide) (by decide) dX12_init_494 ?_
  refine gc_putF hk.1 (ci := 12) (C := RX12) (T := TX12) (ty := (.array .int)) (k := 69) (o := 0) tyX12 rfl inX12 (Nat.le_of_ble_eq_true rfl) (inT6 91 rfl rfl) tyX12_ok nmX12 rfl rfl (by decide +kernel) kdM_0 (by omega) rfl rfl (fun _ => rfl) (fun _ => rfl) dX12_init_496 ?_
  refine gw_aload_n hk.1.1 0 rfl dX12_init_499 ?_
  refine gw_bipush hk.1.1 (v := 6) rfl dX12_init_500 ?_
  refine gc_newi hk.1 wAint rfl (by decide) kdM_47 (by decide) (by decide) dX12_init_502 ?_
  refine gc_putF hk.1 (ci := 12) (C := RX12) (T := TX12) (ty := (.array .int)) (k := 70) (o := 0) tyX12 rfl inX12 (Nat.le_of_ble_eq_true rfl) (inT6 92 rfl rfl) tyX12_ok nmX12 rfl rfl (by decide +kernel) kdM_0 (by omega) rfl rfl (fun _ => rfl) (fun _ => rfl) dX12_init_504 ?_
  refine gw_aload_n hk.1.1 0 rfl dX12_init_507 ?_
  refine gw_bipush hk.1.1 (v := 6) rfl dX12_init_508 ?_
  refine gc_newi hk.1 wAint rfl (by decide) kdM_48 (by decide) (by decide) dX12_init_510 ?_
  refine gc_putF hk.1 (ci := 12) (C := RX12) (T := TX12) (ty := (.array .int)) (k := 71) (o := 0) tyX12 rfl inX12 (Nat.le_of_ble_eq_true rfl) (inT6 93 rfl rfl) tyX12_ok nmX12 rfl rfl (by decide +kernel) kdM_0 (by omega) rfl rfl (fun _ => rfl) (fun _ => rfl) dX12_init_512 ?_
  refine gw_aload_n hk.1.1 0 rfl dX12_init_515 ?_
  refine gw_bipush hk.1.1 (v := 6) rfl dX12_init_516 ?_
  refine gc_newi hk.1 wAint rfl (by decide) kdM_49 (by decide) (by decide) dX12_init_518 ?_
  refine gc_putF hk.1 (ci := 12) (C := RX12) (T := TX12) (ty := (.array .int)) (k := 72) (o := 0) tyX12 rfl inX12 (Nat.le_of_ble_eq_true rfl) (inT6 94 rfl rfl) tyX12_ok nmX12 rfl rfl (by decide +kernel) kdM_0 (by omega) rfl rfl (fun _ => rfl) (fun _ => rfl) dX12_init_520 ?_
  refine gw_aload_n hk.1.1 0 rfl dX12_init_523 ?_
  refine gw_sipush hk.1.1 (v := 448) rfl dX12_init_524 ?_
  refine gc_newi hk.1 wAint rfl (by decide) kdM_50 (by decide) (by decide) dX12_init_527 ?_
  refine gc_putF hk.1 (ci := 12) (C := RX12) (T := TX12) (ty := (.array .int)) (k := 73) (o := 0) tyX12 rfl inX12 (Nat.le_of_ble_eq_true rfl) (inT6 95 rfl rfl) tyX12_ok nmX12 rfl rfl (by decide +kernel) kdM_0 (by omega) rfl rfl (fun _ => rfl) (fun _ => rfl) dX12_init_529 ?_
  refine gw_aload_n hk.1.1 0 rfl dX12_init_532 ?_
  refine gw_bipush hk.1.1 (v := 64) rfl dX12_init_533 ?_
  refine gc_newi hk.1 wAint rfl (by decide) kdM_51 (by decide) (by decide) dX12_init_535 ?_
  refine gc_putF hk.1 (ci := 12) (C := RX12) (T := TX12) (ty := (.array .int)) (k := 74) (o := 0) tyX12 rfl inX12 (Nat.le_of_ble_eq_true rfl) (inT6 96 rfl rfl) tyX12_ok nmX12 rfl rfl (by decide +kernel) kdM_0 (by omega) rfl rfl (fun _ => rfl) (fun _ => rfl) dX12_init_537 ?_
  refine gw_aload_n hk.1.1 0 rfl dX12_init_540 ?_
  refine gw_sipush hk.1.1 (v := 180) rfl dX12_init_541 ?_
  refine gc_newi hk.1 wAint rfl (by decide) kdM_52 (by decide) (by decide) dX12_init_544 ?_
  refine gc_putF hk.1 (ci := 12) (C := RX12) (T := TX12) (ty := (.array .int)) (k := 75) (o := 0) tyX12 rfl inX12 (Nat.le_of_ble_eq_true rfl) (inT6 97 rfl rfl) tyX12_ok nmX12 rfl rfl (by decide +kernel) kdM_0 (by omega) rfl rfl (fun _ => rfl) (fun _ => rfl) dX12_init_546 ?_
  refine gw_aload_n hk.1.1 0 rfl dX12_init_549 ?_
  refine gw_iconst hk.1.1 (v := 0) rfl dX12_init_550 ?_
  refine gc_putv hk.1 (k := 76) (o := 0) (v := 0) fpc_X12_243 kdM_0 (by omega) (fun f => by unfold zfv; rw [sets_eq]; rfl) (vp_nar_int _) rfl dX12_init_551 ?_
  refine gw_iconst hk.1.1 (v := 0) rfl dX12_init_554 ?_
  refine gw_istore_n hk.1.1 rfl (lv' := [(1, mI 0), (0, .ref (kB K + 0))]) (Nat.le_of_ble_eq_true rfl) rfl dX12_init_555 ?_
  refine gw_iload_n hk.1.1 0 rfl dX12_init_556 ?_
  refine gw_iconst hk.1.1 (v := 4) rfl dX12_init_557 ?_
  refine gw_icmp_ge hk.1.1 (cIk rfl) (cIk rfl) dX12_init_558 (fun q => absurd q (by decide)) (fun _ => ?_)
  refine gw_aload_n hk.1.1 1 rfl dX12_init_561 ?_
  refine gc_get2 hk.1 (k := 25) (o := 0) fgc_X12_87 rfl kdM_0 (by omega) rfl rfl dX12_init_562 ?_
  refine gw_iload_n hk.1.1 0 rfl dX12_init_565 ?_
  refine gw_iconst hk.1.1 (v := (-1)) rfl dX12_init_566 ?_
  refine gc_iast hk.1 (a := 13) (v := (-1)) (cIk rfl) (by decide) (by decide) kdM_13 (by omega) dX12_init_567 ?_
  refine gw_iinc hk.1.1 (lv' := [(1, mI 1), (0, .ref (kB K + 0))]) 0 rfl (Nat.le_of_ble_eq_true rfl) rfl dX12_init_568 ?_
  refine gw_goto hk.1.1 dX12_init_571 ?_
  refine gw_iload_n hk.1.1 0 rfl dX12_init_556 ?_
  refine gw_iconst hk.1.1 (v := 4) rfl dX12_init_557 ?_
  refine gw_icmp_ge hk.1.1 (cIk rfl) (cIk rfl) dX12_init_558 (fun q => absurd q (by decide)) (fun _ => ?_)
  refine gw_aload_n hk.1.1 1 rfl dX12_init_561 ?_
  refine gc_get2 hk.1 (k := 25) (o := 0) fgc_X12_87 rfl kdM_0 (by omega) rfl rfl dX12_init_562 ?_
  refine gw_iload_n hk.1.1 0 rfl dX12_init_565 ?_
  refine gw_iconst hk.1.1 (v := (-1)) rfl dX12_init_566 ?_
  refine gc_iast hk.1 (a := 13) (v := (-1)) (cIk rfl) (by decide) (by decide) kdM_13 (by omega) dX12_init_567 ?_
  refine gw_iinc hk.1.1 (lv' := [(1, mI 2), (0, .ref (kB K + 0))]) 0 rfl (Nat.le_of_ble_eq_true rfl) rfl dX12_init_568 ?_
  refine gw_goto hk.1.1 dX12_init_571 ?_
  refine gw_iload_n hk.1.1 0 rfl dX12_init_556 ?_
  refine gw_iconst hk.1.1 (v := 4) rfl dX12_init_557 ?_
  refine gw_icmp_ge hk.1.1 (cIk rfl) (cIk rfl) dX12_init_558 (fun q => absurd q (by decide)) (fun _ => ?_)
  refine gw_aload_n hk.1.1 1 rfl dX12_init_561 ?_
  refine gc_get2 hk.1 (k := 25) (o := 0) fgc_X12_87 rfl kdM_0 (by omega) rfl rfl dX12_init_562 ?_
  refine gw_iload_n hk.1.1 0 rfl dX12_init_565 ?_
  refine gw_iconst hk.1.1 (v := (-1)) rfl dX12_init_566 ?_
  refine gc_iast hk.1 (a := 13) (v := (-1)) (cIk rfl) (by decide) (by decide) kdM_13 (by omega) dX12_init_567 ?_
  refine gw_iinc hk.1.1 (lv' := [(1, mI 3), (0, .ref (kB K + 0))]) 0 rfl (Nat.le_of_ble_eq_true rfl) rfl dX12_init_568 ?_
  refine gw_goto hk.1.1 dX12_init_571 ?_
  refine gw_iload_n hk.1.1 0 rfl dX12_init_556 ?_
  refine gw_iconst hk.1.1 (v := 4) rfl dX12_init_557 ?_
  refine gw_icmp_ge hk.1.1 (cIk rfl) (cIk rfl) dX12_init_558 (fun q => absurd q (by decide)) (fun _ => ?_)
  refine gw_aload_n hk.1.1 1 rfl dX12_init_561 ?_
  refine gc_get2 hk.1 (k := 25) (o := 0) fgc_X12_87 rfl kdM_0 (by omega) rfl rfl dX12_init_562 ?_
  refine gw_iload_n hk.1.1 0 rfl dX12_init_565 ?_
  refine gw_iconst hk.1.1 (v := (-1)) rfl dX12_init_566 ?_
  refine gc_iast hk.1 (a := 13) (v := (-1)) (cIk rfl) (by decide) (by decide) kdM_13 (by omega) dX12_init_567 ?_
  refine gw_iinc hk.1.1 (lv' := [(1, mI 4), (0, .ref (kB K + 0))]) 0 rfl (Nat.le_of_ble_eq_true rfl) rfl dX12_init_568 ?_
  refine gw_goto hk.1.1 dX12_init_571 ?_
  refine gw_iload_n hk.1.1 0 rfl dX12_init_556 ?_
  refine gw_iconst hk.1.1 (v := 4) rfl dX12_init_557 ?_
  refine gw_icmp_ge hk.1.1 (cIk rfl) (cIk rfl) dX12_init_558 (fun _ => ?_) (fun q => absurd (by decide) q)
  refine gw_iconst hk.1.1 (v := 0) rfl dX12_init_574 ?_
  refine gw_istore_n hk.1.1 rfl (lv' := [(1, mI 0), (0, .ref (kB K + 0))]) (Nat.le_of_ble_eq_true rfl) rfl dX12_init_575 ?_
  refine gw_iload_n hk.1.1 0 rfl dX12_init_576 ?_
  refine gw_iconst hk.1.1 (v := 2) rfl dX12_init_577 ?_
  refine gw_icmp_ge hk.1.1 (cIk rfl) (cIk rfl) dX12_init_578 (fun q => absurd q (by decide)) (fun _ => ?_)
  refine gw_aload_n hk.1.1 1 rfl dX12_init_581 ?_
  refine gw_iload_n hk.1.1 0 rfl dX12_init_582 ?_
  refine gc_isdef hk (b := 0) zG_ctM1 (by decide) (by decide) (by decide) (by decide) (by decide) dX12_init_583 ?_
  refine gw_iinc hk.1.1 (lv' := [(1, mI 1), (0, .ref (kB K + 0))]) 0 rfl (Nat.le_of_ble_eq_true rfl) rfl dX12_init_586 ?_
  refine gw_goto hk.1.1 dX12_init_589 ?_
  refine gw_iload_n hk.1.1 0 rfl dX12_init_576 ?_
  refine gw_iconst hk.1.1 (v := 2) rfl dX12_init_577 ?_
  refine gw_icmp_ge hk.1.1 (cIk rfl) (cIk rfl) dX12_init_578 (fun q => absurd q (by decide)) (fun _ => ?_)
  refine gw_aload_n hk.1.1 1 rfl dX12_init_581 ?_
  refine gw_iload_n hk.1.1 0 rfl dX12_init_582 ?_
  refine gc_isdef hk (b := 1) zG_ctM2 (by decide) (by decide) (by decide) (by decide) (by decide) dX12_init_583 ?_
  refine gw_iinc hk.1.1 (lv' := [(1, mI 2), (0, .ref (kB K + 0))]) 0 rfl (Nat.le_of_ble_eq_true rfl) rfl dX12_init_586 ?_
  refine gw_goto hk.1.1 dX12_init_589 ?_
  refine gw_iload_n hk.1.1 0 rfl dX12_init_576 ?_
  refine gw_iconst hk.1.1 (v := 2) rfl dX12_init_577 ?_
  refine gw_icmp_ge hk.1.1 (cIk rfl) (cIk rfl) dX12_init_578 (fun _ => ?_) (fun q => absurd (by decide) q)
  exact gc_return hk.1 dX12_init_592
