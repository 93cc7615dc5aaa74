theorem dress_L {kM : Int → Int → Int → zM → Option (Int × zM)} {Q : zM → Int × zM → Prop} {Z S mC0 mM0 : zM} {z : Nat} {bk g b x : Int} (h : GG Z S mM0 bk 0) (hz : z = 55 ∨ z = 72) (hZ0 : zv mC0 z = Z) (g0 : 0 ≤ g) (g1 : g < Z 0 1) (b0 : 0 ≤ b) (b1 : b < Z 0 0) (hk : ∀ mC mM best least, eqO [26, 27, 28, 29, z + 13, z + 16, 17] mC0 mC → frA 1 mM0 mM → drR (mC 28) best least → wp (kM x best least mM) (Q mC)) : ∀ (d n k : Nat) (w : Int) (mC mM T : zM) (best least : Int), w + (d : Int) = 1000 → 0 ≤ w → d < n → d < k → eqO [26, 27, 28, 29, z + 13, z + 16, 17] mC0 mC → frA 1 mM0 mM → sv mC 16 = T → (∀ w', drS T g w' = drS S g w') → (∀ b' g', 0 ≤ b' → b' < Z 0 0 → 0 ≤ g' → g' < Z 0 1 → g' ≠ g → mC 26 (b' * 8 + g') = LMV Z S b' g') → drR (mC 28) best least → wp (Ke_findDress_L80 n z 16 g b (g * 3) (S 1 (g * 3 + 0)) (S 1 (g * 3 + 1)) (S 1 (g * 3 + 2)) w mC) (fun r => wp (M_dress_L38 kM k g b x best least w mM) (Q r)) := by
  have n1 := h.nb
  have n2 := h.ng
  intro d
  induction d with
  | zero =>
    intro n k w mC mM T best least hw w0 hn hk' c1 c2 c3 c4 c5 c6
    obtain ⟨n, rfl⟩ : ∃ q, n = q + 1 := ⟨n - 1, by omega⟩
    obtain ⟨k, rfl⟩ : ∃ q, k = q + 1 := ⟨k - 1, by omega⟩
    show wp (Ke_findDress_B80 _ _ _ _ _ _ _ _ _ _ _) (fun r => wp (M_dress_B38 _ _ _ _ _ _ _ _ _) (Q r))
    unfold Ke_findDress_B80 M_dress_B38
    rw [if_neg (by omega), if_neg (by omega)]
    exact wp_some (hk mC mM best least c1 c2 c6)
  | succ d ih =>
    intro n k w mC mM T best least hw w0 hn hk' c1 c2 c3 c4 c5 c6
    obtain ⟨n, rfl⟩ : ∃ q, n = q + 1 := ⟨n - 1, by omega⟩
    obtain ⟨k, rfl⟩ : ∃ q, k = q + 1 := ⟨k - 1, by omega⟩
    have w1 : w < 1000 := by omega
    have hM : GG Z S mM bk 0 := ⟨h.1.same (fun a a1 a2 => c2.1 a (by omega)), h.2.1.frame n1.2 n2.2 c2 (by decide), by rw [c2.1 0 (by omega)]; exact h.2.2.1, h.2.2.2⟩
    have cb := chg_b h g0 g1 w0 w1
    have hZ : zv mC z = Z := by rw [← hZ0]; exact zv_eq fun q q1 q2 => c1 _ (by simp; omega)
    -- the model's side of the change
    have eM : M_dress_L38 kM (k + 1) g b x best least w mM = (if chgV S g w < least then (M_copies 1 0 mM).bind (fun r5 => M_dress_L106 (fun x1_8 x2_8 x3_8 x4_8 x5_8 x6_8 x7_8 m9 => (M_asking 1 m9).bind (fun r10 => rd 39 6 x2_8 r10.2 (fun y13 => (if y13 = x1_8 then M_dress_L38 kM k x1_8 x2_8 x3_8 x6_8 x7_8 (wI (x6_8 + 1)) r10.2 else M_dress_L38 kM k x1_8 x2_8 x3_8 x4_8 x5_8 (wI (x6_8 + 1)) r10.2)))) 1000000 g b x best least w (chgV S g w) 0 r5) else M_dress_L38 kM k g b x best least (wI (w + 1)) mM) := by
      show M_dress_B38 _ _ _ _ _ _ _ _ _ = _
      unfold M_dress_B38
      rw [if_pos w1, dressM_n hM g0 g1 w0 w1]
    have a0 := h.tr (i := g * 3 + 0) (by omega) (by omega)
    have a1 := h.tr (i := g * 3 + 1) (by omega) (by omega)
    have a2 := h.tr (i := g * 3 + 2) (by omega) (by omega)
    have d0 := dg_b 0 w0 w1
    have d1 := dg_b 1 w0 w1
    have d2 := dg_b 2 w0 w1
    have f0 := ab_b d0 a0
    have f1 := ab_b d1 a1
    have f2 := ab_b d2 a2
    have e0 : dvI w 100 = dgV w 0 := by rw [dvI_n w0 (by omega) (by decide) (by decide)]; rfl
    have e1 : rmI (dvI w 10) 10 = dgV w 1 := by rw [dvI_n w0 (by omega) (by decide) (by decide), rmI_n (by omega) (by omega) (by decide) (by decide)]; rfl
    have e2 : rmI w 10 = dgV w 2 := by rw [rmI_n w0 (by omega) (by decide) (by decide)]; rfl
    rw [eM]
    show wp (Ke_findDress_B80 _ _ _ _ _ _ _ _ _ _ _) _
    unfold Ke_findDress_B80
    rw [if_pos w1, e0, e1, e2, ab_C d0 a0, ab_C d1 a1, ab_C d2 a2, wI_ok (x := abV (dgV w 0) (S 1 (g * 3 + 0)) + abV (dgV w 1) (S 1 (g * 3 + 1))) (by omega) (by omega), wI_ok (by omega) (by omega), lt_ok, rd_ok (by decide) (by decide), rd_ok (by decide) (by decide), wI_ok (x := w + 1) (by omega) (by omega)]
    rw [show abV (dgV w 0) (S 1 (g * 3 + 0)) + abV (dgV w 1) (S 1 (g * 3 + 1)) + abV (dgV w 2) (S 1 (g * 3 + 2)) = chgV S g w from rfl]
    -- a try
    have try_ : chgV S g w < least → wp (Ke_findDress_b149 (Ke_findDress_L80 n) z 16 g b (g * 3) (S 1 (g * 3 + 0)) (S 1 (g * 3 + 1)) (S 1 (g * 3 + 2)) w (chgV S g w) mC) (fun r => wp ((M_copies 1 0 mM).bind (fun r5 => M_dress_L106 (fun x1_8 x2_8 x3_8 x4_8 x5_8 x6_8 x7_8 m9 => (M_asking 1 m9).bind (fun r10 => rd 39 6 x2_8 r10.2 (fun y13 => (if y13 = x1_8 then M_dress_L38 kM k x1_8 x2_8 x3_8 x6_8 x7_8 (wI (x6_8 + 1)) r10.2 else M_dress_L38 kM k x1_8 x2_8 x3_8 x4_8 x5_8 (wI (x6_8 + 1)) r10.2)))) 1000000 g b x best least w (chgV S g w) 0 r5)) (Q r)) := by
      intro _
      obtain ⟨m1, m2, p1, p2, p3, p4⟩ := dressM_try (x3 := x) (x4 := best) (x5 := least) (x7 := chgV S g w) hM g0 g1 b0 b1 w0 w1 (fun x1_8 x2_8 x3_8 x4_8 x5_8 x6_8 x7_8 m9 => (M_asking 1 m9).bind (fun r10 => rd 39 6 x2_8 r10.2 (fun y13 => (if y13 = x1_8 then M_dress_L38 kM k x1_8 x2_8 x3_8 x6_8 x7_8 (wI (x6_8 + 1)) r10.2 else M_dress_L38 kM k x1_8 x2_8 x3_8 x4_8 x5_8 (wI (x6_8 + 1)) r10.2))))
      obtain ⟨r, q1, q2, q3, q4, q5⟩ := wp_asking p3
      obtain ⟨t1, t2, t3, u1, u2, u3, u4, u5, u6, u7⟩ := dressC_try p3 hz hZ c3 (c4 w) g0 g1 b0 b1 w0 w1 c5
      have ek := (q5 b.toNat (by omega)).1
      rw [show ((b.toNat : Nat) : Int) = b from by omega] at ek
      rw [p1, Option.bind_some, p2, q1, Option.bind_some, rd_ok b0 (by omega), ek, wI_ok (x := w + 1) (by omega) (by omega)]
      unfold Ke_findDress_b149
      rw [u1, Option.bind_some, u2, Option.bind_some, wI_ok (x := b + 1) (by omega) (by omega), u3, Option.bind_some, rd_ok b0 (by omega), u4, wI_ok (x := w + 1) (by omega) (by omega), e0, e1, e2]
      have v1 : eqO [26, 27, 28, 29, z + 13, z + 16, 17] mC0 t3 := c1.trans (u5.mono (by simp))
      have v2 : frA 1 mM0 r.2 := (c2.trans p4.A).trans q4
      have v28 : t3 28 = mC 28 := u5 28 (by simp; omega)
      by_cases hit : akV Z (drS S g w) b.toNat = g
      · rw [if_pos hit, if_pos hit, wr_ok (by decide) (by decide), setT_ok (by decide) (by decide) (by decide), Option.bind_some]
        have v3 : eqO [28] t3 (upm (upm (upm (upm t3 28 0 (chgV S g w)) 28 1 (dgV w 0)) 28 (1 + 1) (dgV w 1)) 28 (1 + 2) (dgV w 2)) := (((eqO.refl.put (by simp)).put (by simp)).put (by simp)).put (by simp)
        have x0 : upm (upm (upm (upm t3 28 0 (chgV S g w)) 28 1 (dgV w 0)) 28 (1 + 1) (dgV w 1)) 28 (1 + 2) (dgV w 2) 28 0 = chgV S g w := by rw [ru2 (by decide), ru2 (by decide), ru2 (by decide), ru3 rfl rfl]
        have x1 : upm (upm (upm (upm t3 28 0 (chgV S g w)) 28 1 (dgV w 0)) 28 (1 + 1) (dgV w 1)) 28 (1 + 2) (dgV w 2) 28 1 = dgV w 0 := by rw [ru2 (by decide), ru2 (by decide), ru3 rfl rfl]
        have x2 : upm (upm (upm (upm t3 28 0 (chgV S g w)) 28 1 (dgV w 0)) 28 (1 + 1) (dgV w 1)) 28 (1 + 2) (dgV w 2) 28 2 = dgV w 1 := by rw [ru2 (by decide), ru3 rfl (by decide)]
        have x3 : upm (upm (upm (upm t3 28 0 (chgV S g w)) 28 1 (dgV w 0)) 28 (1 + 1) (dgV w 1)) 28 (1 + 2) (dgV w 2) 28 3 = dgV w 2 := ru3 rfl (by decide)
        refine ih n k (w + 1) _ r.2 (drS S g w) w (chgV S g w) (by omega) (by omega) (by omega) (by omega) (v1.trans (v3.mono (by simp))) v2 ?_ (fun w' => drS_drS) ?_ ?_
        · rw [← u6]; exact sv_eq fun q hq => v3 _ (by simp; omega)
        · intro b' g' r0 r1 r2 r3 e
          rw [v3 26 (by simp)]
          exact u7 b' g' r0 r1 r2 r3 e
        · unfold drR
          rw [x0, x1, x2, x3]
          exact Or.inr ⟨cb.1, cb.2, rfl, w0, w1, rfl, rfl, rfl⟩
      · rw [if_neg hit, if_neg hit]
        exact ih n k (w + 1) t3 r.2 (drS S g w) best least (by omega) (by omega) (by omega) (by omega) v1 v2 u6 (fun w' => drS_drS) u7 (by rw [v28]; exact c6)
    rcases id c6 with ⟨r1, r2, r3, _⟩ | ⟨r1, r2, r3, _⟩
    · rw [if_pos r1, if_pos (show chgV S g w < least by omega)]
      exact try_ (by omega)
    · rw [if_neg (show ¬ mC 28 0 = -1 by omega)]
      by_cases q : chgV S g w < mC 28 0
      · rw [if_pos q, if_pos (show chgV S g w < least by omega)]
        exact try_ (by omega)
      · rw [if_neg q, if_neg (show ¬ chgV S g w < least by omega)]
        exact ih n k (w + 1) mC mM T best least (by omega) (by omega) (by omega) (by omega) c1 c2 c3 c4 c5 c6
/-- where they can't meet no way is found: the model's side -/
theorem dress_no {kM : Int → Int → Int → zM → Option (Int × zM)} {Q : Int × zM → Prop} {Z S mM0 : zM} {bk g b x : Int} (h : GG Z S mM0 bk 0) (g0 : 0 ≤ g) (g1 : g < Z 0 1) (b0 : 0 ≤ b) (b1 : b < Z 0 0) (hno : ¬ (awV Z S b && opV Z S b g) = true) (hk : ∀ mM, frA 1 mM0 mM → wp (kM x (-1) 100000000 mM) Q) : ∀ (d k : Nat) (w : Int) (mM : zM), w + (d : Int) = 1000 → 0 ≤ w → d < k → frA 1 mM0 mM → wp (M_dress_L38 kM k g b x (-1) 100000000 w mM) Q := by
  have n1 := h.nb
  have n2 := h.ng
  intro d
  induction d with
  | zero =>
    intro k w mM hw w0 hk' c2
    obtain ⟨k, rfl⟩ : ∃ q, k = q + 1 := ⟨k - 1, by omega⟩
    show wp (M_dress_B38 _ _ _ _ _ _ _ _ _) Q
    unfold M_dress_B38
    rw [if_neg (by omega)]
    exact hk mM c2
  | succ d ih =>
    intro k w mM hw w0 hk' c2
    obtain ⟨k, rfl⟩ : ∃ q, k = q + 1 := ⟨k - 1, by omega⟩
    have w1 : w < 1000 := by omega
    have hM : GG Z S mM bk 0 := ⟨h.1.same (fun a a1 a2 => c2.1 a (by omega)), h.2.1.frame n1.2 n2.2 c2 (by decide), by rw [c2.1 0 (by omega)]; exact h.2.2.1, h.2.2.2⟩
    have cb := chg_b h g0 g1 w0 w1
    show wp (M_dress_B38 _ _ _ _ _ _ _ _ _) Q
    unfold M_dress_B38
    rw [if_pos w1, dressM_n hM g0 g1 w0 w1]
    show wp (if chgV S g w < 100000000 then _ else _) Q
    rw [if_pos (by omega)]
    obtain ⟨m1, m2, p1, p2, p3, p4⟩ := dressM_try (x3 := x) (x4 := -1) (x5 := 100000000) (x7 := chgV S g w) hM g0 g1 b0 b1 w0 w1 (fun x1_8 x2_8 x3_8 x4_8 x5_8 x6_8 x7_8 m9 => (M_asking 1 m9).bind (fun r10 => rd 39 6 x2_8 r10.2 (fun y13 => (if y13 = x1_8 then M_dress_L38 kM k x1_8 x2_8 x3_8 x6_8 x7_8 (wI (x6_8 + 1)) r10.2 else M_dress_L38 kM k x1_8 x2_8 x3_8 x4_8 x5_8 (wI (x6_8 + 1)) r10.2))))
    obtain ⟨r, q1, q2, q3, q4, q5⟩ := wp_asking p3
    have ek := (q5 b.toNat (by omega)).1
    rw [show ((b.toNat : Nat) : Int) = b from by omega] at ek
    have miss : akV Z (drS S g w) b.toNat ≠ g := by
      intro e
      unfold akV wishV at e
      split at e
      · rcases fav_taken (Z := Z) (S := drS S g w) (b := b.toNat) (taken := (chV Z (drS S g w) b.toNat).1) (fr := (chV Z (drS S g w) b.toNat).2) (Z 0 1).toNat with t | ⟨t1, t2, t3, t4⟩
        · omega
        · rw [e, show ((b.toNat : Nat) : Int) = b from by omega, ag_aw drS_ag, drS_op] at t3
          exact hno t3
      · omega
    rw [p1, Option.bind_some, p2, q1, Option.bind_some, rd_ok b0 (by omega), ek, wI_ok (x := w + 1) (by omega) (by omega), if_neg miss]
    exact ih k (w + 1) r.2 (by omega) (by omega) (by omega) ((c2.trans p4.A).trans q4)
theorem rs_dress {mC mM : zM} {g b x : Int} (h : Rel mC mM) : wp (C_dress g b x mC) (fun a => wp (M_dress g b x mM) (fun q => a.1 = q.1 ∧ Rel a.2 q.2)) := by
  obtain ⟨z, Z, S, bk, hr⟩ := h.toZ
  obtain ⟨hz, h12, hs, hg, hu, hZ, hS⟩ := id hr
  have n1 := hg.nb
  have n2 := hg.ng
  unfold C_dress M_dress
  rw [mro_ok h12 (kdz hz), mro_ok h12 (kdz hz), isGuest_ok hZ, isBeast_ok hZ, MG_guest hg, MG_beast hg, is_ok]
  simp only [Option.bind_some]
  by_cases c : 0 ≤ g ∧ g < Z 0 1
  · rw [if_pos c, if_neg n10, if_neg n10]
    by_cases d : 0 ≤ b ∧ b < Z 0 0
    · rw [if_pos d, if_neg n10, if_neg n10]
      by_cases e : 0 ≤ x ∧ x ≤ 3
      · rw [if_pos e, if_neg (show ¬ x < 0 by omega), if_neg (show ¬ 3 < x by omega), if_neg n10]
        refine wp_bm (wp_copyFrom (o := 16) (p := 8) (by decide)) (fun m1 ⟨e1, e2⟩ => ?_)
        have m12 : m1 0 12 = (z : Int) + 1 := by rw [e2 0 (by simp)]; exact h12
        have z1 : zv m1 z = Z := by rw [← hZ]; exact zv_eq fun q q1 q2 => e2 _ (by simp; omega)
        have s1 : sv m1 16 = S := by rw [e1, hS]
        rw [mro_ok m12 (kdz hz)]
        -- the four numbers are cleared
        have clr : ∀ (k : Nat → Nat → Int → Int → zM → Option zM), Ke_findDress_L3 k 1000000 z 16 g b 0 m1 = k z 16 g b (upm (upm (upm (upm m1 28 0 (-1)) 28 1 (-1)) 28 2 (-1)) 28 3 (-1)) := by
          intro k
          have st : ∀ (n : Nat) (j j' : Int) (q : zM), 0 ≤ j → j ≤ 3 → j' = j + 1 → Ke_findDress_L3 k (n + 1) z 16 g b j q = Ke_findDress_L3 k n z 16 g b j' (upm q 28 j (-1)) := by
            intro n j j' q j0 j1 je
            show Ke_findDress_B3 _ _ _ _ _ _ _ _ = _
            unfold Ke_findDress_B3
            rw [if_neg (by omega), wr_ok j0 (by omega), wI_ok (by omega) (by omega), je]
          have t0 := st 999999 0 1 m1 (by decide) (by decide) (by decide)
          have t1 := st 999998 1 2 (upm m1 28 0 (-1)) (by decide) (by decide) (by decide)
          have t2 := st 999997 2 3 (upm (upm m1 28 0 (-1)) 28 1 (-1)) (by decide) (by decide) (by decide)
          have t3 := st 999996 3 4 (upm (upm (upm m1 28 0 (-1)) 28 1 (-1)) 28 2 (-1)) (by decide) (by decide) (by decide)
          have t4 : ∀ q, Ke_findDress_L3 k 999996 z 16 g b 4 q = k z 16 g b q := by
            intro q
            show Ke_findDress_B3 _ (Ke_findDress_L3 k 999995) _ _ _ _ _ _ = _
            unfold Ke_findDress_B3
            rw [if_pos (by decide)]
          exact t0.trans (t1.trans (t2.trans (t3.trans (t4 _))))
        have f2 : eqO [28] m1 (upm (upm (upm (upm m1 28 0 (-1)) 28 1 (-1)) 28 2 (-1)) 28 3 (-1)) := (((eqO.refl.put (by simp)).put (by simp)).put (by simp)).put (by simp)
        have v0 : upm (upm (upm (upm m1 28 0 (-1)) 28 1 (-1)) 28 2 (-1)) 28 3 (-1) 28 0 = -1 := by rw [ru2 (by decide), ru2 (by decide), ru2 (by decide), ru3 rfl rfl]
        have v1 : upm (upm (upm (upm m1 28 0 (-1)) 28 1 (-1)) 28 2 (-1)) 28 3 (-1) 28 1 = -1 := by rw [ru2 (by decide), ru2 (by decide), ru3 rfl rfl]
        have v2 : upm (upm (upm (upm m1 28 0 (-1)) 28 1 (-1)) 28 2 (-1)) 28 3 (-1) 28 2 = -1 := by rw [ru2 (by decide), ru3 rfl rfl]
        have v3 : upm (upm (upm (upm m1 28 0 (-1)) 28 1 (-1)) 28 2 (-1)) 28 3 (-1) 28 3 = -1 := ru3 rfl rfl
        unfold Ke_findDress
        rw [clr]
        generalize upm (upm (upm (upm m1 28 0 (-1)) 28 1 (-1)) 28 2 (-1)) 28 3 (-1) = m2 at *
        have z2 : zv m2 z = Z := by rw [← z1]; exact zv_eq fun q q1 q2 => f2 _ (by simp; omega)
        have s2 : sv m2 16 = S := by rw [← s1]; exact sv_eq fun q hq => f2 _ (by simp; omega)
        have c2 : eqO [16, 17, 18, 19, 20, 21, 22, 23, 28] mC m2 := (e2.mono (by simp)).trans (f2.mono (by simp))
        have R : ∀ (mC' mM' : zM), eqO [26, 27, 28, 29, z + 13, z + 16, 17] m2 mC' → frA 1 mM mM' → Rel mC' mM' := by
          intro mC' mM' k f
          subst hZ hS
          have hb := hg.2.2.1
          subst hb
          exact Rel.quietO (l := [16, 17, 18, 19, 20, 21, 22, 23, 26, 27, 28, 29, z + 13, z + 16]) hz hs hg hu ((c2.mono (by simp)).trans (k.mono (by simp))) (by simp) f
        -- the last row of the model
        have fin : ∀ (mC' mM' : zM) (best least : Int), eqO [26, 27, 28, 29, z + 13, z + 16, 17] m2 mC' → frA 1 mM mM' → drR (mC' 28) best least → wp (if best = -1 then some ((-1 : Int), mM') else (if x = 0 then some (least, mM') else (M_digit best (wI (x - 1))).bind (fun r17 => some (r17, mM')))) (fun q => mC' 28 x = q.1 ∧ Rel mC' q.2) := by
          intro mC' mM' best least k f hd
          have hR := R mC' mM' k f
          rcases hd with ⟨r0, r1, r2, r3, r4, r5⟩ | ⟨r0, r1, r2, r3, r4, r5, r6, r7⟩
          · rw [if_pos r1]
            refine wp_some ⟨?_, hR⟩
            have : x = 0 ∨ x = 1 ∨ x = 2 ∨ x = 3 := by omega
            rcases this with q | q | q | q <;> subst q <;> assumption
          · rw [if_neg (show ¬ best = -1 by omega)]
            by_cases x0 : x = 0
            · rw [if_pos x0]
              exact wp_some ⟨by rw [x0, r2], hR⟩
            · rw [if_neg x0, wI_ok (by omega) (by omega), dgM r3 r4, Option.bind_some]
              refine wp_some ⟨?_, hR⟩
              have : x = 1 ∨ x = 2 ∨ x = 3 := by omega
              rcases this with q | q | q <;> subst q <;> assumption
        show wp ((((Ke_canMeet z 16 b g m2).bind (fun r3 => (if r3 = 0 then some m2 else lt (wI (g * 3)) (fun v7 => rd (16 + 1) 24 v7 m2 (fun y8 => rd (16 + 1) 24 (wI (v7 + 1)) m2 (fun y9 => rd (16 + 1) 24 (wI (v7 + 2)) m2 (fun y10 => (Ke_weigh z 16 m2).bind (fun r11 => Ke_findDress_L80 1000000 z 16 g b v7 y8 y9 y10 0 r11)))))))).bind (fun r17 => rd 28 4 x r17 (fun y20 => some (y20, r17))))) _
        rw [meet_ok z2 s2 d.1 (by omega) c.1 (by omega), Option.bind_some]
        by_cases mt : (awV Z S b && opV Z S b g) = true
        · rw [if_pos mt, if_neg n10, lt_ok, wI_ok (x := g * 3) (by omega) (by omega), wI_ok (x := g * 3 + 1) (by omega) (by omega), wI_ok (x := g * 3 + 2) (by omega) (by omega), rd_ok (by omega) (by omega), rd_ok (by omega) (by omega), rd_ok (by omega) (by omega), show m2 (16 + 1) (g * 3) = S 1 (g * 3 + 0) from by rw [Int.add_zero]; exact rS1 s2 (by omega) (by omega), show m2 (16 + 1) (g * 3 + 1) = S 1 (g * 3 + 1) from rS1 s2 (by omega) (by omega), show m2 (16 + 1) (g * 3 + 2) = S 1 (g * 3 + 2) from rS1 s2 (by omega) (by omega), bind_as]
          obtain ⟨mMx, _, q1, q2⟩ := wp_copies hg.2.1 hg.nb hg.ng (to := 1) (by decide) (by decide) (by decide) (by decide) (by decide)
          have gx : GG Z S mMx bk 1 := ⟨hg.1.same (fun a a1 a2 => q2.1 a (by omega)), q1, by rw [q2.1 0 (by omega)]; exact hg.2.2.1, hg.2.2.2.1, by decide, by decide⟩
          refine wp_bm (wp_weigh gx z2 s2 (by omega) (by omega) (by omega)) (fun m3 ⟨w1, w2⟩ => wp_bind ?_)
          have s3 : sv m3 16 = S := by rw [← s2]; exact sv_eq fun q hq => w1 _ (by simp; omega)
          have k28 : m3 28 = m2 28 := w1 28 (by simp; omega)
          refine wp_mono (dress_L (kM := fun x3_13 x4_13 x5_13 m14 => (if x4_13 = (-1) then
  some ((-1), m14)
  else (if x3_13 = 0 then
  some (x5_13, m14)
  else (M_digit x4_13 (wI (x3_13 - 1))).bind (fun r17 =>
  some (r17, m14))))) (Q := fun mC' q => mC' 28 x = q.1 ∧ Rel mC' q.2) (x := x) hg hz z2 c.1 c.2 d.1 d.2 (fun mC' mM' best least k1 k2 k3 => fin mC' mM' best least k1 k2 k3) 1000 1000000 1000000 0 m3 mM S (-1) 100000000 (by omega) (by omega) (by omega) (by omega) (w1.mono (by simp)) frA.refl s3 (fun w' => rfl) (fun b' g' p0 p1 p2 p3 _ => w2 b' g' p0 p1 p2 p3) (by rw [k28]; exact Or.inl ⟨v0, rfl, rfl, v1, v2, v3⟩)) (fun r hr => ?_)
          rw [rd_ok e.1 (by omega)]
          exact wp_some hr
        · rw [if_neg mt, if_pos p00, Option.bind_some, rd_ok e.1 (by omega)]
          refine wp_some ?_
          have vx : m2 28 x = -1 := by
            have : x = 0 ∨ x = 1 ∨ x = 2 ∨ x = 3 := by omega
            rcases this with q | q | q | q <;> subst q <;> assumption
          exact dress_no (x := x) hg c.1 c.2 d.1 d.2 mt (fun mM' f => fin m2 mM' (-1) 100000000 eqO.refl f (Or.inl ⟨v0, rfl, rfl, v1, v2, v3⟩)) 1000 1000000 0 mM (by omega) (by omega) (by omega) frA.refl
      · rw [if_neg e, if_pos p00]
        by_cases q : x < 0
        · rw [if_pos q]
          exact wp_some (wp_some ⟨rfl, h⟩)
        · rw [if_neg q, if_pos (by omega)]
          exact wp_some (wp_some ⟨rfl, h⟩)
    · rw [if_neg d, if_pos p00, if_pos p00]
      exact wp_some (wp_some ⟨rfl, h⟩)
  · rw [if_neg c, if_pos p00, if_pos p00]
    exact wp_some (wp_some ⟨rfl, h⟩)
