/-! dress -/
def drF (f : Int → Int) (g w : Int) : Int → Int := sets (sets (sets f (g * 3) (dgV w 0)) (g * 3 + 1) (dgV w 1)) (g * 3 + 2) (dgV w 2)
def drS (S : zM) (g w : Int) : zM := stA S 1 (drF (S 1) g w)
theorem drS_upm {S : zM} {g w : Int} : upm (upm (upm S 1 (g * 3) (dgV w 0)) 1 (g * 3 + 1) (dgV w 1)) 1 (g * 3 + 2) (dgV w 2) = drS S g w := by
  unfold drS drF
  rw [upm_stA, upm_stA, upm_stA, stA_stA, stA_stA, stA_eq, stA_eq]
theorem drS_drS {S : zM} {g w w' : Int} : drS (drS S g w) g w' = drS S g w' := by
  unfold drS
  rw [stA_stA, stA_eq]
  congr 1
  funext j
  unfold drF sets
  by_cases e2 : j = g * 3 + 2
  · simp only [if_pos e2]
  · by_cases e1 : j = g * 3 + 1
    · simp only [if_neg e2, if_pos e1]
    · by_cases e0 : j = g * 3
      · simp only [if_neg e2, if_neg e1, if_pos e0]
      · simp only [if_neg e2, if_neg e1, if_neg e0]
theorem drS_ne {S : zM} {g w : Int} {k : Nat} (h : k ≠ 1) : drS S g w k = S k := stA_ne h
theorem drS_ag {S : zM} {g w : Int} : agS S (drS S g w) := ⟨drS_ne (by decide), by rw [drS_ne (by decide)], by rw [drS_ne (by decide)]⟩
theorem drS_agG {S : zM} {g w g' : Int} (h : g' ≠ g) : agG S (drS S g w) g' := by
  refine ⟨fun k k0 k1 => ?_, by rw [drS_ne (by decide)], by rw [drS_ne (by decide)], fun b _ _ => by rw [drS_ne (by decide)]⟩
  unfold drS drF
  rw [stA_eq, sets_ne (by omega), sets_ne (by omega), sets_ne (by omega)]
theorem drS_lm {Z S : zM} {g w g' b : Int} (h : g' ≠ g) (b0 : 0 ≤ b) (b1 : b < 6) : LMV Z (drS S g w) b g' = LMV Z S b g' := by
  unfold LMV
  rw [ag_aw drS_ag, ag_open drS_ag (drS_agG h), ag_lk drS_ag (drS_agG h) b0 b1]
theorem drS_op {Z S : zM} {g w g' b : Int} : opV Z (drS S g w) b g' = opV Z S b g' := by
  unfold opV thV
  rw [drS_ne (by decide), drS_ne (by decide), drS_ne (by decide)]
def abV (x y : Int) : Int := if x < y then y - x else x - y
def chgV (S : zM) (g w : Int) : Int := abV (dgV w 0) (S 1 (g * 3 + 0)) + abV (dgV w 1) (S 1 (g * 3 + 1)) + abV (dgV w 2) (S 1 (g * 3 + 2))
theorem ab_b {x y : Int} (hx : 0 ≤ x ∧ x ≤ 9) (hy : 0 ≤ y ∧ y ≤ 9) : 0 ≤ abV x y ∧ abV x y ≤ 9 := by
  unfold abV
  split <;> omega
theorem ab_C {x y : Int} (hx : 0 ≤ x ∧ x ≤ 9) (hy : 0 ≤ y ∧ y ≤ 9) : (if 0 ≤ wI (x - y) then wI (x - y) else wI (0 - wI (x - y))) = abV x y := by
  rw [wI_ok (x := x - y) (by omega) (by omega), wI_ok (by omega) (by omega)]
  unfold abV
  by_cases c : x < y
  · rw [if_pos c, if_neg (by omega)]; omega
  · rw [if_neg c, if_pos (by omega)]
theorem GG.dr {Z S mM : zM} {bk v g w : Int} (h : GG Z S mM bk v) (g0 : 0 ≤ g) (g1 : g < Z 0 1) (w0 : 0 ≤ w) (w1 : w < 1000) : GG Z (drS S g w) (upm (upm (upm mM 29 (24 * v + (g * 3)) (dgV w 0)) 29 (24 * v + (g * 3 + 1)) (dgV w 1)) 29 (24 * v + (g * 3 + 2)) (dgV w 2)) bk v ∧ frM v mM (upm (upm (upm mM 29 (24 * v + (g * 3)) (dgV w 0)) 29 (24 * v + (g * 3 + 1)) (dgV w 1)) 29 (24 * v + (g * 3 + 2)) (dgV w 2)) := by
  have n2 := h.ng
  have d0 := dg_b 0 w0 w1
  have d1 := dg_b 1 w0 w1
  have d2 := dg_b 2 w0 w1
  have f : frM v mM (upm (upm (upm mM 29 (24 * v + (g * 3)) (dgV w 0)) 29 (24 * v + (g * 3 + 1)) (dgV w 1)) 29 (24 * v + (g * 3 + 2)) (dgV w 2)) := ((frM.refl.p29 (by omega) (by omega)).p29 (by omega) (by omega)).p29 (by omega) (by omega)
  refine ⟨h.upd f ?_, f⟩
  rw [← drS_upm]
  exact ((h.2.1.w1 d0.1 d0.2).w1 d1.1 d1.2).w1 d2.1 d2.2
/-- the model's try of one way -/
theorem dressM_try {Z S mM : zM} {bk g b w x3 x4 x5 x7 : Int} (h : GG Z S mM bk 0) (g0 : 0 ≤ g) (g1 : g < Z 0 1) (b0 : 0 ≤ b) (b1 : b < Z 0 0) (w0 : 0 ≤ w) (w1 : w < 1000) (k139 : Int → Int → Int → Int → Int → Int → Int → zM → Option (Int × zM)) : ∃ m1 m2, M_copies 1 0 mM = some m1 ∧ M_dress_L106 k139 1000000 g b x3 x4 x5 w x7 0 m1 = k139 g b x3 x4 x5 w x7 m2 ∧ GG Z (drS S g w) m2 bk 1 ∧ frM 1 mM m2 := by
  have n2 := h.ng
  obtain ⟨m1, e1, s1, f1⟩ := wp_copies h.2.1 h.nb h.ng (to := 1) (by decide) (by decide) (by decide) (by decide) (by decide)
  have g1' : GG Z S m1 bk 1 := ⟨h.1.same (fun a a1 a2 => f1.1 a (by omega)), s1, by rw [f1.1 0 (by omega)]; exact h.2.2.1, h.2.2.2.1, by decide, by decide⟩
  have gd := g1'.dr g0 g1 w0 w1
  refine ⟨m1, _, e1, ?_, gd.1, f1.trans gd.2⟩
  have st : ∀ (n : Nat) (j j' : Int) (q : zM), 0 ≤ j → j < 3 → j' = j + 1 → M_dress_L106 k139 (n + 1) g b x3 x4 x5 w x7 j q = M_dress_L106 k139 n g b x3 x4 x5 w x7 j' (upm q 29 (24 + 3 * g + j) (dgV w j)) := by
    intro n j j' q j0 j1 je
    show M_dress_B106 _ _ _ _ _ _ _ _ _ _ _ = _
    unfold M_dress_B106
    rw [if_pos j1, dgM w0 w1, Option.bind_some, wI_ok (x := 3 * g) (by omega) (by omega), wI_ok (x := 24 + 3 * g) (by omega) (by omega), wI_ok (x := 24 + 3 * g + j) (by omega) (by omega), wr_ok (by omega) (by omega), wI_ok (by omega) (by omega), je]
  have s0 := st 999999 0 1 m1 (by decide) (by decide) (by decide)
  have s1' := st 999998 1 2 (upm m1 29 (24 + 3 * g + 0) (dgV w 0)) (by decide) (by decide) (by decide)
  have s2 := st 999997 2 3 (upm (upm m1 29 (24 + 3 * g + 0) (dgV w 0)) 29 (24 + 3 * g + 1) (dgV w 1)) (by decide) (by decide) (by decide)
  have s3 : ∀ q, M_dress_L106 k139 999997 g b x3 x4 x5 w x7 3 q = k139 g b x3 x4 x5 w x7 q := by
    intro q
    show M_dress_B106 _ (M_dress_L106 k139 999996) _ _ _ _ _ _ _ _ _ = _
    unfold M_dress_B106
    rw [if_neg (by decide)]
  have e := s0.trans (s1'.trans (s2.trans (s3 _)))
  rw [show 24 * (1 : Int) + g * 3 = 24 + 3 * g + 0 from by omega, show 24 * (1 : Int) + (g * 3 + 1) = 24 + 3 * g + 1 from by omega, show 24 * (1 : Int) + (g * 3 + 2) = 24 + 3 * g + 2 from by omega]
  exact e
/-- the model's change -/
theorem dressM_n {Z S mM : zM} {bk g b w x3 x4 x5 : Int} (h : GG Z S mM bk 0) (g0 : 0 ≤ g) (g1 : g < Z 0 1) (w0 : 0 ≤ w) (w1 : w < 1000) (k87 : Int → Int → Int → Int → Int → Int → Int → zM → Option (Int × zM)) : M_dress_L52 k87 1000000 g b x3 x4 x5 w 0 0 mM = k87 g b x3 x4 x5 w (chgV S g w) mM := by
  have st : ∀ (n : Nat) (acc j j' : Int), 0 ≤ j → j < 3 → j' = j + 1 → 0 ≤ acc → acc ≤ 20 → M_dress_L52 k87 (n + 1) g b x3 x4 x5 w acc j mM = M_dress_L52 k87 n g b x3 x4 x5 w (acc + abV (dgV w j) (S 1 (g * 3 + j))) j' mM := by
    intro n acc j j' j0 j1 je c0 c1
    have d := dg_b j w0 w1
    have t := h.tr (i := g * 3 + j) (by omega) (by omega)
    have ab := ab_b d t
    have eo : M_off (dgV w j) (S 1 (g * 3 + j)) = some (abV (dgV w j) (S 1 (g * 3 + j))) := by
      unfold M_off abV
      rw [wI_ok (by omega) (by omega), wI_ok (by omega) (by omega)]
      split <;> rfl
    show M_dress_B52 _ _ _ _ _ _ _ _ _ _ _ = _
    unfold M_dress_B52
    rw [if_pos j1, dgM w0 w1, Option.bind_some, MG_look h g0 g1 j0 j1, Option.bind_some, eo, Option.bind_some, lt_ok, wI_ok (by omega) (by omega), wI_ok (by omega) (by omega), je]
  have a0 := ab_b (dg_b 0 w0 w1) (h.tr (i := g * 3 + 0) (by omega) (by omega))
  have a1 := ab_b (dg_b 1 w0 w1) (h.tr (i := g * 3 + 1) (by omega) (by omega))
  have s0 := st 999999 0 0 1 (by decide) (by decide) (by decide) (by decide) (by decide)
  have s1 := st 999998 (0 + abV (dgV w 0) (S 1 (g * 3 + 0))) 1 2 (by decide) (by decide) (by decide) (by omega) (by omega)
  have s2 := st 999997 (0 + abV (dgV w 0) (S 1 (g * 3 + 0)) + abV (dgV w 1) (S 1 (g * 3 + 1))) 2 3 (by decide) (by decide) (by decide) (by omega) (by omega)
  have s3 : ∀ q, M_dress_L52 k87 999997 g b x3 x4 x5 w q 3 mM = k87 g b x3 x4 x5 w q mM := by
    intro q
    show M_dress_B52 _ (M_dress_L52 k87 999996) _ _ _ _ _ _ _ _ _ = _
    unfold M_dress_B52
    rw [if_neg (by decide)]
  have e := s0.trans (s1.trans (s2.trans (s3 _)))
  rw [Int.zero_add] at e
  exact e
theorem chg_b {Z S mM : zM} {bk v g w : Int} (h : GG Z S mM bk v) (g0 : 0 ≤ g) (g1 : g < Z 0 1) (w0 : 0 ≤ w) (w1 : w < 1000) : 0 ≤ chgV S g w ∧ chgV S g w ≤ 27 := by
  have a0 := ab_b (dg_b 0 w0 w1) (h.tr (i := g * 3 + 0) (by omega) (by omega))
  have a1 := ab_b (dg_b 1 w0 w1) (h.tr (i := g * 3 + 1) (by omega) (by omega))
  have a2 := ab_b (dg_b 2 w0 w1) (h.tr (i := g * 3 + 2) (by omega) (by omega))
  unfold chgV
  omega
/-- the best way so far, in both -/
def drR (f : Int → Int) (best least : Int) : Prop := (f 0 = -1 ∧ best = -1 ∧ least = 100000000 ∧ f 1 = -1 ∧ f 2 = -1 ∧ f 3 = -1) ∨ (0 ≤ f 0 ∧ f 0 ≤ 27 ∧ least = f 0 ∧ 0 ≤ best ∧ best < 1000 ∧ f 1 = dgV best 0 ∧ f 2 = dgV best 1 ∧ f 3 = dgV best 2)
/-- the class's try of one way -/
theorem dressC_try {Z S mM m : zM} {z : Nat} {bk g b w : Int} {T : zM} (hd : GG Z (drS S g w) mM bk 1) (hz : z = 55 ∨ z = 72) (hZ : zv m z = Z) (hT : sv m 16 = T) (eT : drS T g w = drS S g w) (g0 : 0 ≤ g) (g1 : g < Z 0 1) (b0 : 0 ≤ b) (b1 : b < Z 0 0) (w0 : 0 ≤ w) (w1 : w < 1000) (hl : ∀ b' g', 0 ≤ b' → b' < Z 0 0 → 0 ≤ g' → g' < Z 0 1 → g' ≠ g → m 26 (b' * 8 + g') = LMV Z S b' g') : ∃ m1 m2 m3, C_setTriple 17 24 (g * 3) (dvI w 100) (rmI (dvI w 10) 10) (rmI w 10) m = some m1 ∧ Ke_weighGuest z 16 g m1 = some m2 ∧ Ke_choose z 16 (b + 1) m2 = some m3 ∧ m3 27 b = akV Z (drS S g w) b.toNat ∧ eqO [26, 27, 29, z + 13, z + 16, 17] m m3 ∧ sv m3 16 = drS S g w ∧ (∀ b' g', 0 ≤ b' → b' < Z 0 0 → 0 ≤ g' → g' < Z 0 1 → g' ≠ g → m3 26 (b' * 8 + g') = LMV Z S b' g') := by
  have n1 := hd.nb
  have n2 := hd.ng
  have e0 : dvI w 100 = dgV w 0 := by rw [dvI_n w0 (by omega) (by decide) (by decide)]; rfl
  have e1 : rmI (dvI w 10) 10 = dgV w 1 := by rw [dvI_n w0 (by omega) (by decide) (by decide), rmI_n (by omega) (by omega) (by decide) (by decide)]; rfl
  have e2 : rmI w 10 = dgV w 2 := by rw [rmI_n w0 (by omega) (by decide) (by decide)]; rfl
  rw [e0, e1, e2, setT_ok (by omega) (by omega) (by decide)]
  have f1 : eqO [26, 27, 29, z + 13, z + 16, 17] m (upm (upm (upm m 17 (g * 3) (dgV w 0)) 17 (g * 3 + 1) (dgV w 1)) 17 (g * 3 + 2) (dgV w 2)) := ((eqO.refl.put (by simp)).put (by simp)).put (by simp)
  have s1 : sv (upm (upm (upm m 17 (g * 3) (dgV w 0)) 17 (g * 3 + 1) (dgV w 1)) 17 (g * 3 + 2) (dgV w 2)) 16 = drS S g w := by
    rw [sv_w1 (o := 16) (by omega) (by omega), sv_w1 (o := 16) (by omega) (by omega), sv_w1 (o := 16) (by omega) (by omega), hT, drS_upm, eT]
  have l1 : (upm (upm (upm m 17 (g * 3) (dgV w 0)) 17 (g * 3 + 1) (dgV w 1)) 17 (g * 3 + 2) (dgV w 2)) 26 = m 26 := by rw [upm_ne (by decide), upm_ne (by decide), upm_ne (by decide)]
  generalize upm (upm (upm m 17 (g * 3) (dgV w 0)) 17 (g * 3 + 1) (dgV w 1)) 17 (g * 3 + 2) (dgV w 2) = m1 at *
  have z1 : zv m1 z = Z := by rw [← hZ]; exact zv_eq fun q q1 q2 => f1 _ (by simp; omega)
  obtain ⟨m2, e3, k1, k2, k3⟩ := wp_weighGuest hd z1 s1 (by omega) (by omega) (by omega) g0 g1
  have z2 : zv m2 z = Z := by rw [← z1]; exact zv_eq fun q q1 q2 => k1 _ (by simp; omega)
  have s2 : sv m2 16 = drS S g w := by rw [← s1]; exact sv_eq fun q hq => k1 _ (by simp; omega)
  have l2 : ∀ b' g', 0 ≤ b' → b' < Z 0 0 → 0 ≤ g' → g' < Z 0 1 → m2 26 (b' * 8 + g') = LMV Z (drS S g w) b' g' := by
    intro b' g' p0 p1 p2 p3
    by_cases e : g' = g
    · subst e
      exact k2 b' p0 p1
    · rw [k3 _ (by omega), l1, drS_lm e p0 (by omega)]
      exact hl b' g' p0 p1 p2 p3 e
  obtain ⟨m3, e4, c1, c2, c3⟩ := wp_choose hd z2 s2 (by omega) (by omega) (by omega) (by rw [rZ0 z2]) (N := b + 1) (by omega) (by omega) l2
  refine ⟨m1, m2, m3, rfl, e3, e4, ?_, (f1.trans (k1.mono (by simp))).trans (c1.mono (by simp)), ?_, ?_⟩
  · have := c2 b.toNat (by omega)
    rw [show ((b.toNat : Nat) : Int) = b from by omega] at this
    exact this
  · rw [← s2]; exact sv_eq fun q hq => c1 _ (by simp; omega)
  · intro b' g' p0 p1 p2 p3 e
    rw [c1 26 (by simp; omega), l2 b' g' p0 p1 p2 p3, drS_lm e p0 (by omega)]
