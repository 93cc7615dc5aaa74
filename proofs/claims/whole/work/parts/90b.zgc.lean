/-! the fresh memories are in range -/
theorem zG_ctM : zG kdM ctM := zG_isd (zG_isd zG_ctM1)
theorem zok_1 {t : Nat} : zok t 1 := by
  unfold zok
  split
  · exact cLk rfl
  · rfl
  · exact Or.inr rfl
  · exact cIk rfl
theorem zGw_u1 {kd : Nat → Nat × Nat} {m : zM} {a : Nat} {i : Int} (h : zGw kd m) : zGw kd (upm m a i 1) := zGw_up h (fun _ => zok_1)
theorem zGw_stA {kd : Nat → Nat × Nat} {m : zM} {a : Nat} {f : Int → Int} (h : zGw kd m) (hf : ∀ i, zty (kd a) i ≠ 2 → zok (zty (kd a) i) (f i)) : zGw kd (stA m a f) := by
  intro id j hj
  by_cases e : id = a
  · subst e
    rw [stA_eq]
    exact hf j hj
  · rw [stA_ne e]
    exact h id j hj
theorem zGw_rng {kd : Nat → Nat × Nat} {m m' : zM} {a N : Nat} {n v : Int} (h' : zGw kd m') (h : zGw kd m) (ka : kd a = (1, N)) (hv : cI v) : zGw kd (stA m' a (rng (m a) n v)) := zGw_stA h' (fun i hi => by
  unfold rng
  by_cases q : 0 ≤ i ∧ i < n
  · rw [if_pos q, ka]
    exact hv
  · rw [if_neg q]
    exact h a i hi)
theorem zGw_fgm {o : Nat} {m : zM} (h : zGw kdC m) (ko : kdC o = (0, 7)) : zGw kdC (fgm o m) := by
  unfold fgm
  exact zGw_rng (zGw_rng (zGw_rng h h (kdC_s7_4 ko) (cIk rfl)) h (kdC_s7_5 ko) (cIk rfl)) h (kdC_s7_8 ko) (cIk rfl)
theorem zGw_ctSt {o : Nat} {m : zM} (h : zGw kdC m) (ko : kdC o = (0, 7)) : zGw kdC (ctSt o m) := by
  unfold ctSt
  exact zGw_fgm (zGw_u1 (zGw_u1 (zGw_u1 (zGw_u1 (zGw_u1 (zGw_u1 (zGw_u1 h))))))) ko
theorem zGa_stA {kd : Nat → Nat × Nat} {m : zM} {a : Nat} {f : Int → Int} (h : zGw kd m) (hf : ∀ i, zok (zty (kd a) i) (f i)) : zGw kd (stA m a f) := zGw_stA h (fun i _ => hf i)
theorem zGw_mul7 {m : zM} (h : zGw kdC m) : zGw kdC (mul7 m) := by
  unfold mul7
  refine zGw_stA h (fun i hi => ?_)
  unfold rng
  by_cases q : 0 ≤ i ∧ i < 7
  · rw [if_pos q]
    exact zok_1
  · rw [if_neg q]
    exact h 32 i hi
theorem zGw_ctTa {m : zM} (h : zGw kdC m) : zGw kdC (ctTa m) := by
  unfold ctTa
  repeat first
    | refine zGw_u1 ?_
    | refine zGw_up ?_ (fun _ => cIk rfl)
  exact h
theorem zGw_ctPa {m : zM} (h : zGw kdC m) : zGw kdC (ctPa m) := by
  unfold ctPa
  exact zGw_up (zGw_u1 (zGw_ctTa h)) (fun _ => cIk rfl)
theorem zGw_ctFo {o : Nat} {m : zM} (h : zGw kdC m) : zGw kdC (ctFo o m) := by
  unfold ctFo
  exact zGw_u1 (zGw_u1 h)
theorem zGw_ctZo55 {m : zM} (h : zGw kdC m) : zGw kdC (ctZo 55 m) := by
  unfold ctZo
  repeat first
    | refine zGw_u1 ?_
    | refine zGw_ctFo ?_
    | refine zGw_up ?_ (fun _ => cIk rfl)
  exact h
theorem zGw_ctZo72 {m : zM} (h : zGw kdC m) : zGw kdC (ctZo 72 m) := by
  unfold ctZo
  repeat first
    | refine zGw_u1 ?_
    | refine zGw_ctFo ?_
    | refine zGw_up ?_ (fun _ => cIk rfl)
  exact h
theorem zGw_ctKe {m : zM} (h : zGw kdC m) : zGw kdC (ctKe m) := by
  unfold ctKe
  exact zGw_u1 (zGw_u1 (zGw_u1 (zGw_u1 h)))
theorem zGw_ctGu {m : zM} (h : zGw kdC m) : zGw kdC (ctGu m) := by
  unfold ctGu
  exact zGw_u1 (zGw_u1 (zGw_u1 h))
theorem zGw_ctRi {m : zM} (h : zGw kdC m) : zGw kdC (ctRi m) := by
  unfold ctRi
  exact zGw_u1 (zGw_u1 (zGw_u1 (zGw_u1 h)))
theorem zGw_ctWa {m : zM} (h : zGw kdC m) : zGw kdC (ctWa m) := by
  unfold ctWa
  exact zGw_u1 (zGw_u1 h)
theorem zGw_ctIm {m : zM} (h : zGw kdC m) : zGw kdC (ctIm m) := by
  unfold ctIm
  exact zGw_up (zGw_u1 h) (fun _ => cIk rfl)
theorem zGw_ctBr {m : zM} (h : zGw kdC m) : zGw kdC (ctBr m) := by
  unfold ctBr
  exact zGw_u1 (zGw_mul7 (zGw_u1 h))
theorem zGw_ctC : zGw kdC ctC := by
  unfold ctC
  refine zGw_u1 ?_
  refine zGw_ctSt ?_ rfl
  refine zGw_u1 ?_
  refine zGw_ctSt ?_ rfl
  refine zGw_u1 ?_
  refine zGw_ctSt ?_ rfl
  refine zGw_u1 ?_
  refine zGw_ctSt ?_ rfl
  refine zGw_u1 ?_
  refine zGw_ctSt ?_ rfl
  refine zGw_u1 ?_
  refine zGw_ctSt ?_ rfl
  refine zGw_u1 ?_
  refine zGw_ctSt ?_ rfl
  refine zGw_u1 ?_
  refine zGw_ctSt ?_ rfl
  refine zGw_u1 ?_
  refine zGw_ctSt ?_ rfl
  refine zGw_u1 ?_
  refine zGw_ctSt ?_ rfl
  refine zGw_u1 ?_
  refine zGw_ctSt ?_ rfl
  refine zGw_u1 ?_
  refine zGw_ctSt ?_ rfl
  refine zGw_u1 ?_
  refine zGw_ctSt ?_ rfl
  refine zGw_u1 ?_
  refine zGw_ctSt ?_ rfl
  refine zGw_u1 ?_
  refine zGw_ctSt ?_ rfl
  refine zGw_u1 ?_
  refine zGw_ctSt ?_ rfl
  refine zGw_u1 ?_
  refine zGw_ctSt ?_ rfl
  refine zGw_u1 ?_
  refine zGw_ctSt ?_ rfl
  refine zGw_u1 ?_
  refine zGw_ctSt ?_ rfl
  refine zGw_u1 ?_
  refine zGw_ctSt ?_ rfl
  refine zGw_u1 ?_
  refine zGw_up ?_ (fun _ => cIk rfl)
  refine zGw_ctZo72 ?_
  refine zGw_up ?_ (fun _ => cIk rfl)
  refine zGw_ctZo55 ?_
  refine zGw_u1 ?_
  refine zGw_u1 ?_
  refine zGw_ctIm ?_
  refine zGw_u1 ?_
  refine zGw_ctWa ?_
  refine zGw_u1 ?_
  refine zGw_ctRi ?_
  refine zGw_u1 ?_
  refine zGw_ctGu ?_
  refine zGw_u1 ?_
  refine zGw_ctBr ?_
  refine zGw_u1 ?_
  refine zGw_ctKe ?_
  refine zGw_u1 ?_
  refine zGw_u1 ?_
  refine zGw_ctSt ?_ rfl
  refine zGw_u1 ?_
  refine zGw_ctSt ?_ rfl
  refine zGw_u1 ?_
  refine zGw_u1 ?_
  refine zGw_ctPa ?_
  exact zGw_0
set_option maxRecDepth 100000 in
theorem ctC_s : ∀ id : Nat, id < 249 → ∀ k : Nat, k < 24 → zty (kdC id) (k : Int) = 2 → ctC id (k : Int) = 1 := by decide +kernel
theorem ctC_n : ∀ id, id < 249 → ((kdC id).1 = 0 → nF (kdC id).2 ≤ 24) ∧ ((kdC id).1 = 4 → (kdC id).2 ≤ 24) ∧ ((kdC id).1 = 5 → (kdC id).2 ≤ 24) := by decide +kernel
theorem slT_lt {ci k : Nat} (h : slT ci k = 2) : k < nF ci := by
  rcases Nat.lt_or_ge k (nF ci) with q | q
  · exact q
  · exfalso
    unfold slT at h
    rw [List.getD_eq_getElem?_getD (i := k), List.getElem?_eq_none (by exact q)] at h
    cases h
theorem zty_24 {s : Nat × Nat} {i : Int} (h : zty s i = 2) (h0 : s.1 = 0 → nF s.2 ≤ 24) (h4 : s.1 = 4 → s.2 ≤ 24) (h5 : s.1 = 5 → s.2 ≤ 24) : 0 ≤ i ∧ i.toNat < 24 := by
  obtain ⟨t, n⟩ := s
  rcases t with _ | _ | _ | _ | _ | _ | t
  · have h' : (if 0 ≤ i then slT n i.toNat else 0) = 2 := h
    by_cases q : 0 ≤ i
    · rw [if_pos q] at h'
      have a := slT_lt h'
      have b : nF n ≤ 24 := h0 rfl
      exact ⟨q, by omega⟩
    · rw [if_neg q] at h'
      cases h'
  · cases (show (0 : Nat) = 2 from h)
  · cases (show (1 : Nat) = 2 from h)
  · cases (show (4 : Nat) = 2 from h)
  · have h' : (if 0 ≤ i ∧ i < (n : Int) then 2 else 0) = 2 := h
    have b : n ≤ 24 := h4 rfl
    by_cases q : 0 ≤ i ∧ i < (n : Int)
    · exact ⟨q.1, by omega⟩
    · rw [if_neg q] at h'
      cases h'
  · have h' : (if 0 ≤ i ∧ i < (n : Int) then 2 else 0) = 2 := h
    have b : n ≤ 24 := h5 rfl
    by_cases q : 0 ≤ i ∧ i < (n : Int)
    · exact ⟨q.1, by omega⟩
    · rw [if_neg q] at h'
      cases h'
  · cases (show (0 : Nat) = 2 from h)
theorem zG_ctC : zG kdC ctC := by
  refine zGw.zG zGw_ctC (fun id i h => ?_)
  have hid : id < 249 := by
    by_cases e : (kdC id).1 = 9
    · exfalso
      unfold zty at h
      rw [e] at h
      cases h
    · exact kdC_lt e
  obtain ⟨p0, p4, p5⟩ := ctC_n id hid
  obtain ⟨a, b⟩ := zty_24 h p0 p4 p5
  have e : ((i.toNat : Nat) : Int) = i := by omega
  have w := ctC_s id hid i.toNat b (by rw [e]; exact h)
  rw [e] at w
  exact w
