/-! a state copied -/
theorem cpm_ne {m : zM} {a b c : Nat} {i j n : Int} (h : c ≠ b) : cpm m a i b j n c = m c := if_neg h
theorem cpm_o {m : zM} {a b c : Nat} {i j n q : Int} (h : c ≠ b) : cpm m a i b j n c q = m c q := by rw [cpm_ne h]
theorem cpm_i {m : zM} {a b c : Nat} {n q : Int} (h : c = b) (h0 : 0 ≤ q) (h1 : q < n) : cpm m a 0 b 0 n c q = m a q := by
  subst h
  unfold cpm
  rw [if_pos rfl]
  unfold cpy
  rw [if_pos (by omega)]
  congr 1
  omega
theorem ac_ok {α : Type} {a na : Nat} {i : Int} {b nb : Nat} {j n : Int} {m : zM} {k : zM → Option α} (h : 0 ≤ n ∧ 0 ≤ i ∧ i + n ≤ (na : Int) ∧ 0 ≤ j ∧ j + n ≤ (nb : Int)) : ac a na i b nb j n m k = k (cpm m a i b j n) := if_pos h
theorem wp_copyFrom {m : zM} {o p : Nat} (h : o + 7 < p ∨ p + 7 < o) : wp (St_copyFrom o p m) (fun r => sv r o = sv m p ∧ eqO [o, o + 1, o + 2, o + 3, o + 4, o + 5, o + 6, o + 7] m r) := by
  unfold St_copyFrom
  have hne : ∀ a b : Nat, a ≤ 7 → b ≤ 7 → o + a ≠ p + b := by intro a b ha hb; omega
  simp only [pf_ok]
  rw [ac_ok (by decide), ac_ok (by decide), ac_ok (by decide), ac_ok (by decide), ac_ok (by decide), ac_ok (by decide), ac_ok (by decide)]
  refine wp_some ⟨?_, ?_⟩
  · refine sv_ext ?_ ?_ ?_ ?_ ?_ ?_ ?_ ?_ ?_ ?_ ?_ ?_
    all_goals (try intro j j0 j1)
    all_goals simp (disch := omega) only [ru1, ru2, ru3, cpm_o, cpm_i]
  · intro a ha
    simp only [List.mem_cons, List.not_mem_nil, or_false, not_or] at ha
    obtain ⟨h0, h1, h2, h3, h4, h5, h6, h7⟩ := ha
    rw [upm_ne h0, upm_ne h0, cpm_ne h7, cpm_ne h6, cpm_ne h5, cpm_ne h4, cpm_ne h3, cpm_ne h2, cpm_ne h1, upm_ne h0, upm_ne h0, upm_ne h0]
def cpR (f : Int → Int) (b s n : Int) : Int → Int := fun j => if b ≤ j ∧ j < b + n then f (s + (j - b)) else f j
theorem cpR_0 {f : Int → Int} {b s : Int} : cpR f b s 0 = f := by
  funext j
  exact if_neg (by omega)
theorem cpR_r {f : Int → Int} {b s n i j : Int} (h : s + i < b ∨ b + n ≤ s + i) (e : j = s + i) : cpR f b s n j = f (s + i) := by
  subst e
  exact if_neg (by omega)
theorem cpR_s {f : Int → Int} {b s n : Int} (h : 0 ≤ n) : sets (cpR f b s n) (b + n) (f (s + n)) = cpR f b s (n + 1) := by
  funext j
  unfold sets cpR
  by_cases e : j = b + n
  · subst e
    rw [if_pos rfl, if_pos (by omega)]
    congr 1
    omega
  · rw [if_neg e]
    by_cases e2 : b ≤ j ∧ j < b + n
    · rw [if_pos e2, if_pos (by omega)]
    · rw [if_neg e2, if_neg (by omega)]
theorem AR.copy {P : Int → Prop} {f g : Int → Int} {b s n lo hi : Int} (h : AR P f g s lo hi) (hp : ∀ i, P i → 0 ≤ i ∧ i < n) : AR P f (cpR g b s n) b lo hi := by
  intro i hi
  have := hp i hi
  unfold cpR
  rw [if_pos (by omega), show s + (b + i - b) = s + i from by omega]
  exact h i hi
theorem cp_one {L : Nat → Int → zM → Option zM} {Q : zM → Prop} {a : Nat} {b s n : Int} {m : zM} (n0 : 0 ≤ n) (n1 : n < 1000000) (hd : s + n ≤ b ∨ b + n ≤ s) (hend : ∀ k m', m' = stA m a (cpR (m a) b s n) → wp (L (k + 1) n m') Q) (hstep : ∀ k i m', 0 ≤ i → i < n → (∀ c, c ≠ a → m' c = m c) → L (k + 1) i m' = L k (i + 1) (upm m' a (b + i) (m' a (s + i)))) : wp (L 1000000 0 m) Q := by
  refine wp_for L (fun i m' => m' = stA m a (cpR (m a) b s i)) Q 0 n (fun k m' h => hend k m' h) ?_ 1000000 0 m (by omega) n0 (by omega) (by rw [cpR_0, stA_self])
  intro k i m' i0 i1 hI hr
  subst hI
  rw [hstep k i _ i0 i1 (fun c hc => stA_ne hc)]
  refine hr _ ?_
  rw [upm_stA, stA_stA, stA_eq, cpR_r (i := i) (by omega) rfl, cpR_s i0]
theorem cp_two {L : Nat → Int → zM → Option zM} {Q : zM → Prop} {a a2 : Nat} {b s n : Int} {m : zM} (ha : a ≠ a2) (n0 : 0 ≤ n) (n1 : n < 1000000) (hd : s + n ≤ b ∨ b + n ≤ s) (hend : ∀ k m', m' = stA (stA m a (cpR (m a) b s n)) a2 (cpR (m a2) b s n) → wp (L (k + 1) n m') Q) (hstep : ∀ k i m', 0 ≤ i → i < n → L (k + 1) i m' = L k (i + 1) (upm (upm m' a (b + i) (m' a (s + i))) a2 (b + i) (m' a2 (s + i)))) : wp (L 1000000 0 m) Q := by
  refine wp_for L (fun i m' => m' = stA (stA m a (cpR (m a) b s i)) a2 (cpR (m a2) b s i)) Q 0 n (fun k m' h => hend k m' h) ?_ 1000000 0 m (by omega) n0 (by omega) (by rw [cpR_0, cpR_0, stA_self, stA_self])
  intro k i m' i0 i1 hI hr
  subst hI
  rw [hstep k i _ i0 i1]
  refine hr _ ?_
  rw [upm_stA, upm_stA, stA_ne (a := a) (b := a2) (Ne.symm ha), stA_eq, stA_ne (a := a2) (b := a) ha, stA_eq, cpR_r (i := i) (by omega) rfl, cpR_r (i := i) (by omega) rfl, cpR_s i0, stA_comm (a := a2) (b := a) (Ne.symm ha), stA_stA, stA_stA, cpR_s i0]
theorem frM.cp {v s n : Int} {m : zM} {a : Nat} (a1 : 27 ≤ a) (a2 : a ≤ 36) (hn : n ≤ lay a) : frM v m (CBeastsChooseLaw_law_r4116_dae0f7.stA m a (cpR (m a) (lay a * v) s n)) := frM.stA a1 a2 (fun i hi => if_neg (by omega))
theorem wp_copies {Z S m : zM} {to fr : Int} (h : SM Z S m fr) (n1 : 0 ≤ Z 0 0 ∧ Z 0 0 ≤ 6) (n2 : 0 ≤ Z 0 1 ∧ Z 0 1 ≤ 8) (t0 : 0 ≤ to) (t1 : to ≤ 21) (f0 : 0 ≤ fr) (f1 : fr ≤ 21) (hne : to ≠ fr) : wp (M_copies to fr m) (fun r => SM Z S r to ∧ frM to m r) := by
  obtain ⟨a1, a2, a3, a4, a5, a6, a7, a8, a9, a10⟩ := h
  have F0 : frM to m (upm (upm m 27 to (m 27 fr)) 28 to (m 28 fr)) := frM.refl.q27.q28
  have hlt : to < fr ∨ fr < to := by omega
  unfold M_copies
  rw [rd_ok (by omega) (by omega), wr_ok (by omega) (by omega), rd_ok (by omega) (by omega), wr_ok (by omega) (by omega), ru1 (b := 28) (by decide)]
  have z0 : ∀ c, c ≠ 27 → c ≠ 28 → upm (upm m 27 to (m 27 fr)) 28 to (m 28 fr) c = m c := fun c h1 h2 => by rw [upm_ne h2, upm_ne h1]
  have zt : upm (upm m 27 to (m 27 fr)) 28 to (m 28 fr) 27 to = m 27 fr ∧ upm (upm m 27 to (m 27 fr)) 28 to (m 28 fr) 28 to = m 28 fr := ⟨by rw [ru1 (by decide), ru3 rfl rfl], ru3 rfl rfl⟩
  generalize upm (upm m 27 to (m 27 fr)) 28 to (m 28 fr) = m0 at *
  refine cp_one (L := fun n i s => M_copies_L26 _ n to fr i s) (a := 29) (b := 24 * to) (s := 24 * fr) (n := 24) (by omega) (by omega) (by omega) (fun k1 m1 hm1 => ?_) (fun k i m' i0 i1 hc => ?_)
  rotate_left
  · show M_copies_B26 _ _ _ _ _ _ = _
    unfold M_copies_B26
    rw [if_pos i1, wI_ok (x := 24 * fr) (by omega) (by omega), wI_ok (x := 24 * fr + i) (by omega) (by omega), rd_ok (by omega) (by omega), wI_ok (x := 24 * to) (by omega) (by omega), wI_ok (x := 24 * to + i) (by omega) (by omega), wr_ok (by omega) (by omega), wI_ok (x := i + 1) (by omega) (by omega)]
  show wp (M_copies_B26 _ _ _ _ _ _) _
  unfold M_copies_B26
  rw [if_neg (by omega)]
  have F1 : frM to m m1 := F0.trans (by rw [hm1]; exact frM.cp (by decide) (by decide) (by decide))
  have z1 : ∀ c, c ≠ 29 → m1 c = m0 c := fun c h1 => by rw [hm1, stA_ne h1]
  have zt1 : m1 29 = cpR (m 29) (24 * to) (24 * fr) 24 := by rw [hm1, stA_eq, z0 29 (by decide) (by decide)]
  clear hm1
  refine cp_two (L := fun n i s => M_copies_L62 _ n to fr i s) (a := 30) (a2 := 31) (b := 8 * to) (s := 8 * fr) (n := 8) (by decide) (by omega) (by omega) (by omega) (fun k2 m2 hm2 => ?_) (fun k i m' i0 i1 => ?_)
  rotate_left
  · show M_copies_B62 _ _ _ _ _ _ = _
    unfold M_copies_B62
    rw [if_pos i1, wI_ok (x := 8 * fr) (by omega) (by omega), wI_ok (x := 8 * fr + i) (by omega) (by omega), rd_ok (by omega) (by omega), wI_ok (x := 8 * to) (by omega) (by omega), wI_ok (x := 8 * to + i) (by omega) (by omega), wr_ok (by omega) (by omega), rd_ok (by omega) (by omega), wr_ok (by omega) (by omega), wI_ok (x := i + 1) (by omega) (by omega), ru1 (b := 31) (by decide)]
  show wp (M_copies_B62 _ _ _ _ _ _) _
  unfold M_copies_B62
  rw [if_neg (by omega)]
  have F2 : frM to m m2 := F1.trans (by
    rw [hm2]
    refine frM.trans (frM.cp (a := 30) (by decide) (by decide) (n := 8) (s := 8 * fr) (by decide)) ?_
    exact frM.stA (by decide) (by decide) (fun i hi => by rw [stA_ne (by decide)]; exact if_neg (by rw [show lay 31 = 8 from rfl] at hi; omega)))
  have z2 : ∀ c, c ≠ 30 → c ≠ 31 → m2 c = m1 c := fun c h1 h2 => by rw [hm2, stA_ne h2, stA_ne h1]
  have zt2 : m2 30 = cpR (m 30) (8 * to) (8 * fr) 8 ∧ m2 31 = cpR (m 31) (8 * to) (8 * fr) 8 := ⟨by rw [hm2, stA_ne (by decide), stA_eq, z1 30 (by decide), z0 30 (by decide) (by decide)], by rw [hm2, stA_eq, z1 31 (by decide), z0 31 (by decide) (by decide)]⟩
  clear hm2
  refine cp_one (L := fun n i s => M_copies_L120 _ n to fr i s) (a := 32) (b := 18 * to) (s := 18 * fr) (n := 18) (by omega) (by omega) (by omega) (fun k3 m3 hm3 => ?_) (fun k i m' i0 i1 hc => ?_)
  rotate_left
  · show M_copies_B120 _ _ _ _ _ _ = _
    unfold M_copies_B120
    rw [if_pos i1, wI_ok (x := 18 * fr) (by omega) (by omega), wI_ok (x := 18 * fr + i) (by omega) (by omega), rd_ok (by omega) (by omega), wI_ok (x := 18 * to) (by omega) (by omega), wI_ok (x := 18 * to + i) (by omega) (by omega), wr_ok (by omega) (by omega), wI_ok (x := i + 1) (by omega) (by omega)]
  show wp (M_copies_B120 _ _ _ _ _ _) _
  unfold M_copies_B120
  rw [if_neg (by omega)]
  have F3 : frM to m m3 := F2.trans (by rw [hm3]; exact frM.cp (by decide) (by decide) (by decide))
  have z3 : ∀ c, c ≠ 32 → m3 c = m2 c := fun c h1 => by rw [hm3, stA_ne h1]
  have zt3 : m3 32 = cpR (m 32) (18 * to) (18 * fr) 18 := by rw [hm3, stA_eq, z2 32 (by decide) (by decide), z1 32 (by decide), z0 32 (by decide) (by decide)]
  clear hm3
  refine cp_two (L := fun n i s => M_copies_L156 _ n to fr i s) (a := 33) (a2 := 34) (b := 48 * to) (s := 48 * fr) (n := 48) (by decide) (by omega) (by omega) (by omega) (fun k4 m4 hm4 => ?_) (fun k i m' i0 i1 => ?_)
  rotate_left
  · show M_copies_B156 _ _ _ _ _ _ = _
    unfold M_copies_B156
    rw [if_pos i1, wI_ok (x := 48 * fr) (by omega) (by omega), wI_ok (x := 48 * fr + i) (by omega) (by omega), rd_ok (by omega) (by omega), wI_ok (x := 48 * to) (by omega) (by omega), wI_ok (x := 48 * to + i) (by omega) (by omega), wr_ok (by omega) (by omega), rd_ok (by omega) (by omega), wr_ok (by omega) (by omega), wI_ok (x := i + 1) (by omega) (by omega), ru1 (b := 34) (by decide)]
  show wp (M_copies_B156 _ _ _ _ _ _) _
  unfold M_copies_B156
  rw [if_neg (by omega)]
  have F4 : frM to m m4 := F3.trans (by
    rw [hm4]
    refine frM.trans (frM.cp (a := 33) (by decide) (by decide) (n := 48) (s := 48 * fr) (by decide)) ?_
    exact frM.stA (by decide) (by decide) (fun i hi => by rw [stA_ne (by decide)]; exact if_neg (by rw [show lay 34 = 48 from rfl] at hi; omega)))
  have z4 : ∀ c, c ≠ 33 → c ≠ 34 → m4 c = m3 c := fun c h1 h2 => by rw [hm4, stA_ne h2, stA_ne h1]
  have zt4 : m4 33 = cpR (m 33) (48 * to) (48 * fr) 48 ∧ m4 34 = cpR (m 34) (48 * to) (48 * fr) 48 := ⟨by rw [hm4, stA_ne (by decide), stA_eq, z3 33 (by decide), z2 33 (by decide) (by decide), z1 33 (by decide), z0 33 (by decide) (by decide)], by rw [hm4, stA_eq, z3 34 (by decide), z2 34 (by decide) (by decide), z1 34 (by decide), z0 34 (by decide) (by decide)]⟩
  clear hm4
  have e35 : m4 35 = m 35 := by rw [z4 35 (by decide) (by decide), z3 35 (by decide), z2 35 (by decide) (by decide), z1 35 (by decide), z0 35 (by decide) (by decide)]
  have e36 : m4 36 = m 36 := by rw [z4 36 (by decide) (by decide), z3 36 (by decide), z2 36 (by decide) (by decide), z1 36 (by decide), z0 36 (by decide) (by decide)]
  show wp (rd 35 22 fr m4 (fun y13 => wr 35 22 to y13 m4 (fun m14 => M_copies_L226 1000000 to fr 0 m14))) _
  rw [rd_ok (by omega) (by omega), wr_ok (by omega) (by omega), e35, a9.1]
  have F5 : frM to m (upm m4 35 to (S 0 11)) := F4.q35
  have x35 : upm m4 35 to (S 0 11) 35 fr = S 0 11 := by rw [ru2 (by omega), e35, a9.1]
  refine cp_one (L := fun n i s => M_copies_L226 n to fr i s) (a := 36) (b := 300 * to) (s := 300 * fr) (n := 5 * S 0 11) (by omega) (by omega) (by omega) (fun k5 m5 hm5 => ?_) (fun k i m' i0 i1 hc => ?_)
  rotate_left
  · show M_copies_B226 _ _ _ _ _ = _
    unfold M_copies_B226
    rw [rd_ok (by omega) (by omega), hc 35 (by decide), x35, wI_ok (x := 5 * S 0 11) (by omega) (by omega), if_pos i1, wI_ok (x := 300 * fr) (by omega) (by omega), wI_ok (x := 300 * fr + i) (by omega) (by omega), rd_ok (by omega) (by omega), wI_ok (x := 300 * to) (by omega) (by omega), wI_ok (x := 300 * to + i) (by omega) (by omega), wr_ok (by omega) (by omega), wI_ok (x := i + 1) (by omega) (by omega)]
  show wp (M_copies_B226 _ _ _ _ _) _
  unfold M_copies_B226
  have z5 : ∀ c, c ≠ 36 → m5 c = upm m4 35 to (S 0 11) c := fun c h1 => by rw [hm5, stA_ne h1]
  have zt5 : m5 36 = cpR (m 36) (300 * to) (300 * fr) (5 * S 0 11) := by rw [hm5, stA_eq, upm_ne (by decide), e36]
  have F6 : frM to m m5 := F5.trans (by rw [hm5]; exact frM.cp (by decide) (by decide) (by rw [show lay 36 = 300 from rfl]; omega))
  rw [rd_ok (by omega) (by omega), z5 35 (by decide), x35, wI_ok (x := 5 * S 0 11) (by omega) (by omega), if_neg (by omega)]
  refine wp_some ⟨?_, F6⟩
  have y : ∀ c, c ≠ 36 → c ≠ 35 → m5 c = m4 c := fun c h1 h2 => by rw [z5 c h1, upm_ne h2]
  have y27 : m5 27 = m0 27 := by rw [y 27 (by decide) (by decide), z4 27 (by decide) (by decide), z3 27 (by decide), z2 27 (by decide) (by decide), z1 27 (by decide)]
  have y28 : m5 28 = m0 28 := by rw [y 28 (by decide) (by decide), z4 28 (by decide) (by decide), z3 28 (by decide), z2 28 (by decide) (by decide), z1 28 (by decide)]
  have y29 : m5 29 = cpR (m 29) (24 * to) (24 * fr) 24 := by rw [y 29 (by decide) (by decide), z4 29 (by decide) (by decide), z3 29 (by decide), z2 29 (by decide) (by decide), zt1]
  have y30 : m5 30 = cpR (m 30) (8 * to) (8 * fr) 8 := by rw [y 30 (by decide) (by decide), z4 30 (by decide) (by decide), z3 30 (by decide), zt2.1]
  have y31 : m5 31 = cpR (m 31) (8 * to) (8 * fr) 8 := by rw [y 31 (by decide) (by decide), z4 31 (by decide) (by decide), z3 31 (by decide), zt2.2]
  have y32 : m5 32 = cpR (m 32) (18 * to) (18 * fr) 18 := by rw [y 32 (by decide) (by decide), z4 32 (by decide) (by decide), zt3]
  have y33 : m5 33 = cpR (m 33) (48 * to) (48 * fr) 48 := by rw [y 33 (by decide) (by decide), zt4.1]
  have y34 : m5 34 = cpR (m 34) (48 * to) (48 * fr) 48 := by rw [y 34 (by decide) (by decide), zt4.2]
  unfold SM
  rw [y27, y28, y29, y30, y31, y32, y33, y34, zt.1, zt.2, zt5, z5 35 (by decide), ru3 (a := 35) (b := 35) (i := to) (j := to) rfl rfl]
  refine ⟨a1, a2, a3.copy (fun i hi => by have := hi.1; have := hi.2; omega), a4.copy (fun i hi => by have := hi.1; have := hi.2; omega), a5.copy (fun i hi => by have := hi.1; have := hi.2; omega), a6.copy (fun i hi => by have := hi.1; have := hi.2; omega), a7.copy (fun i hi => by have := hi.1; have := hi.2.1; omega), a8.copy (fun i hi => by have := hi.1; have := hi.2.1; omega), ⟨rfl, a9.2⟩, ?_⟩
  intro k k0 k1
  have e : ∀ c, 0 ≤ c → c < 5 → ∀ x, x = 300 * to + 5 * k + c → cpR (m 36) (300 * to) (300 * fr) (5 * S 0 11) x = m 36 (300 * fr + 5 * k + c) := by
    intro c c0 c1 x hx
    subst hx
    unfold cpR
    rw [if_pos (by omega)]
    congr 1
    omega
  have w := a10 k k0 k1
  rw [e 0 (by omega) (by omega) _ (by omega), e 1 (by omega) (by omega) _ rfl, e 2 (by omega) (by omega) _ rfl, e 3 (by omega) (by omega) _ rfl, e 4 (by omega) (by omega) _ rfl, Int.add_zero]
  exact w
