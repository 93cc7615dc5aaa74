theorem wp_meet {Z S mM m : zM} {z o : Nat} {bk v b g : Int} (h : GG Z S mM bk v) (hZ : zv m z = Z) (hS : sv m o = S) (hz : 55 ≤ z) (ho : o + 7 < 26 ∨ 89 ≤ o) (hzo : o + 7 < z ∨ z + 16 < o) (hset : m z 15 = Z 0 15 ∧ m z 16 = Z 0 16 ∧ m z 17 = Z 0 17) (b0 : 0 ≤ b) (b1 : b < Z 0 0) (g0 : 0 ≤ g) (g1 : g < Z 0 1) : wp (Ke_meet z o b g m) (fun r => r.1 = (metS Z S b g).2 ∧ sv r.2 o = (metS Z S b g).1 ∧ eqO [29, z + 13, o, o + 2, o + 3, o + 5, o + 6] m r.2) := by
  have n1 := h.nb
  have n2 := h.ng
  have st2 := h.set2
  have fe := h.2.1.2.1
  unfold Ke_meet
  rw [feared_ok hZ g0 (by omega), Option.bind_some]
  rcases an1 (srI (Z 9 g) b) with w | w
  · rw [if_pos (show feV Z b g = 0 from w), lt_ok, wI_ok (x := b * 8) (by omega) (by omega), wI_ok (x := b * 8 + g) (by omega) (by omega), rd_ok (by omega) (by omega), rS5 hS (by omega) (by omega)]
    have em : metS Z S b g = (if LKV Z (incS S b g) b g < Z 0 15 then (upm (incS S b g) 3 g (orI (S 3 g) (slI 1 b)), 2) else if incS S b g 6 (b * 8 + g) < Z 0 16 then (incS S b g, 1) else (upm (incS S b g) 2 g b, 3)) := by
      unfold metS
      rw [if_neg (show ¬ feV Z b g = 1 from by show ¬ anI (srI (Z 9 g) b) 1 = 1; omega)]
    have a1 := h.sa b0 b1 g0 g1
    have a2 := h.st b0 b1 g0 g1
    have hi := h.inc b0 b1 g0 g1
    rw [wI_ok (x := S 5 (b * 8 + g) + 1) (by omega) (by omega), wr_ok (by omega) (by omega), rd_ok (by omega) (by omega), upm_ne (a := o + 5) (b := o + 6) (by omega), rS6 hS (by omega) (by omega), wI_ok (x := S 6 (b * 8 + g) + 1) (by omega) (by omega), wr_ok (by omega) (by omega)]
    have e1 : sv (upm (upm m (o + 5) (b * 8 + g) (min 99 (S 5 (b * 8 + g) + 1))) (o + 6) (b * 8 + g) (min 99 (S 6 (b * 8 + g) + 1))) o = incS S b g := by
      rw [sv_w6 (by omega) (by omega), sv_w5 (by omega) (by omega), hS]
      rfl
    have e2 : zv (upm (upm m (o + 5) (b * 8 + g) (min 99 (S 5 (b * 8 + g) + 1))) (o + 6) (b * 8 + g) (min 99 (S 6 (b * 8 + g) + 1))) z = Z := by
      rw [zv_upm (by omega), zv_upm (by omega), hZ]
    have e3 : eqO [29, z + 13, o, o + 2, o + 3, o + 5, o + 6] m (upm (upm m (o + 5) (b * 8 + g) (min 99 (S 5 (b * 8 + g) + 1))) (o + 6) (b * 8 + g) (min 99 (S 6 (b * 8 + g) + 1))) := (eqO.refl.put (by simp)).put (by simp)
    have e4 : ∀ j, upm (upm m (o + 5) (b * 8 + g) (min 99 (S 5 (b * 8 + g) + 1))) (o + 6) (b * 8 + g) (min 99 (S 6 (b * 8 + g) + 1)) z j = m z j := fun j => by rw [ru1 (by omega), ru1 (by omega)]
    generalize upm (upm m (o + 5) (b * 8 + g) (min 99 (S 5 (b * 8 + g) + 1))) (o + 6) (b * 8 + g) (min 99 (S 6 (b * 8 + g) + 1)) = m1 at *
    refine wp_bm (wp_liking hi e2 e1 hz ho b0 b1 g0 g1) (fun r ⟨r1, r2⟩ => ?_)
    have s2 : sv r.2 o = incS S b g := by rw [← e1]; exact sv_eq fun k q => r2 _ (by simp; omega)
    have f2 : eqO [29, z + 13, o, o + 2, o + 3, o + 5, o + 6] m r.2 := e3.trans (r2.mono (by simp))
    have z2 : ∀ j, r.2 z j = m z j := fun j => by rw [r2 z (by simp; omega), e4]
    have i3 : incS S b g 3 g = S 3 g := by
      unfold incS
      rw [ru1 (by decide), ru1 (by decide)]
    rw [z2, z2, hset.1, hset.2.1, r1, em]
    by_cases c1 : LKV Z (incS S b g) b g < Z 0 15
    · rw [if_pos c1, if_pos c1, rd_ok (by omega) (by omega), wr_ok (by omega) (by omega), rS3 s2 g0 (by omega), i3]
      exact wp_some ⟨rfl, by rw [sv_w3 g0 (by omega), s2], f2.put (by simp)⟩
    · rw [if_neg c1, if_neg c1, rd_ok (by omega) (by omega), rS6 s2 (by omega) (by omega)]
      by_cases c2 : incS S b g 6 (b * 8 + g) < Z 0 16
      · rw [if_pos c2, if_pos c2]
        exact wp_some ⟨rfl, s2, f2⟩
      · rw [if_neg c2, if_neg c2, wr_ok (by omega) (by omega)]
        exact wp_some ⟨rfl, by rw [sv_w2 g0 (by omega), s2], f2.put (by simp)⟩
  · rw [if_neg (show ¬ feV Z b g = 0 from by show ¬ anI (srI (Z 9 g) b) 1 = 0; omega), pf_ok, hset.2.2, rS02 hS, wI_ok (x := S 0 2 + Z 0 17) (by omega) (by omega)]
    have em : metS Z S b g = (upm S 0 2 (min 9999 (S 0 2 + Z 0 17)), 0) := by
      unfold metS
      rw [if_pos (show feV Z b g = 1 from w)]
    rw [em]
    exact wp_some ⟨rfl, by rw [sv_w0 (by omega), hS], eqO.refl.put (by simp)⟩
theorem wp_keepRow {Z S mM m : zM} {o : Nat} {bk v b g oc : Int} (h : GG Z S mM bk v) (hS : sv m o = S) (b0 : 0 ≤ b) (b1 : b < 6) (g0 : 0 ≤ g) (g1 : g < 8) (c0 : 0 ≤ oc) (c1 : oc ≤ 3) : wp (St_keepRow o b g oc m) (fun r => sv r o = keepS S b g oc ∧ eqO [o, o + 7] m r) := by
  obtain ⟨t1, t2, t3, t4, t5⟩ := h.2.1.1
  obtain ⟨k1, k2, k3, k4, k5⟩ := h.2.1.2.2.2.2.2.2.2.2.1
  unfold St_keepRow St_moment
  rw [rS00 hS, rS01 hS, Option.bind_some, wI_ok (x := S 0 0 * 24) (by omega) (by omega), wI_ok (x := S 0 0 * 24 + S 0 1) (by omega) (by omega), wI_ok (x := (S 0 0 * 24 + S 0 1) * 6) (by omega) (by omega), wI_ok (x := (S 0 0 * 24 + S 0 1) * 6 * 8) (by omega) (by omega), wI_ok (x := b * 8) (by omega) (by omega), wI_ok (x := (S 0 0 * 24 + S 0 1) * 6 * 8 + b * 8) (by omega) (by omega), wI_ok (x := (S 0 0 * 24 + S 0 1) * 6 * 8 + b * 8 + g) (by omega) (by omega), lt_ok, wI_ok (x := ((S 0 0 * 24 + S 0 1) * 6 * 8 + b * 8 + g) * 4) (by omega) (by omega), wI_ok (x := ((S 0 0 * 24 + S 0 1) * 6 * 8 + b * 8 + g) * 4 + oc) (by omega) (by omega), rS0a hS, rS0b hS, wI_ok (x := S 0 10 + S 0 11) (by omega) (by omega), rmI_n (by omega) (by omega) (by omega) (by omega), wr_ok (by omega) (by omega), pf_ok, pf_ok]
  have e0 : ∀ j, upm m (o + 7) ((S 0 10 + S 0 11) % 60) (((S 0 0 * 24 + S 0 1) * 6 * 8 + b * 8 + g) * 4 + oc) o j = m o j := fun j => ru1 (by omega)
  rw [e0, e0, rS0a hS, rS0b hS]
  unfold keepS
  by_cases c : S 0 11 < 60
  · rw [if_pos c, if_pos c, wI_ok (x := S 0 11 + 1) (by omega) (by omega)]
    exact wp_some ⟨by rw [sv_w0 (by omega), sv_w7 (by omega) (by omega), hS]; rfl, (eqO.refl.put (by simp)).put (by simp)⟩
  · rw [if_neg c, if_neg c, wI_ok (x := S 0 10 + 1) (by omega) (by omega), rmI_n (by omega) (by omega) (by omega) (by omega)]
    exact wp_some ⟨by rw [sv_w0 (by omega), sv_w7 (by omega) (by omega), hS]; rfl, (eqO.refl.put (by simp)).put (by simp)⟩
/-- the rows of the model, one forgotten -/
def shR (f : Int → Int) (b e : Int) : Int → Int := fun j => if b ≤ j ∧ j < e then f (j + 5) else f j
theorem wp_shift {Q : zM → Prop} {k : Int → Int → Int → Int → zM → Option zM} {v b g oc : Int} {m : zM} (v0 : 0 ≤ v) (v1 : v ≤ 21) (hk : wp (k v b g oc (stA m 36 (shR (m 36) (300 * v) (300 * v + 295)))) Q) : wp (M_writesDown_L18 k 1000000 v b g oc (300 * v) m) Q := by
  refine wp_for (fun n i (s : zM) => M_writesDown_L18 k n v b g oc i s) (fun i s => s = stA m 36 (shR (m 36) (300 * v) i)) _ (300 * v) (300 * v + 295) ?_ ?_ 1000000 (300 * v) m (by omega) (by omega) (by omega) ?_
  · intro n s hI
    subst hI
    show wp (M_writesDown_B18 _ _ _ _ _ _ _ _) _
    unfold M_writesDown_B18
    rw [wI_ok (x := 300 * v) (by omega) (by omega), wI_ok (x := 300 * v + 300) (by omega) (by omega), wI_ok (x := 300 * v + 300 - 5) (by omega) (by omega), if_neg (by omega)]
    exact hk
  · intro n i s q0 q1 hI hr
    subst hI
    show wp (M_writesDown_B18 _ _ _ _ _ _ _ _) _
    unfold M_writesDown_B18
    rw [wI_ok (x := 300 * v) (by omega) (by omega), wI_ok (x := 300 * v + 300) (by omega) (by omega), wI_ok (x := 300 * v + 300 - 5) (by omega) (by omega), if_pos (by omega), wI_ok (x := i + 5) (by omega) (by omega), rd_ok (by omega) (by omega), wr_ok (by omega) (by omega), wI_ok (x := i + 1) (by omega) (by omega)]
    refine hr _ ?_
    rw [upm_stA, stA_stA, stA_eq, show shR (m 36) (300 * v) i (i + 5) = m 36 (i + 5) from if_neg (by omega)]
    congr 1
    funext j
    unfold sets shR
    by_cases e : j = i
    · subst e
      rw [if_pos rfl, if_pos (by omega)]
    · rw [if_neg e]
      by_cases e2 : 300 * v ≤ j ∧ j < i
      · rw [if_pos e2, if_pos (by omega)]
      · rw [if_neg e2, if_neg (by omega)]
  · have : shR (m 36) (300 * v) (300 * v) = m 36 := by
      funext j
      exact if_neg (by omega)
    rw [this, stA_self]
theorem frM.stA {v : Int} {m : zM} {a : Nat} {f : Int → Int} (a1 : 27 ≤ a) (a2 : a ≤ 36) (hf : ∀ i, (i < lay a * v ∨ lay a * v + lay a ≤ i) → f i = m a i) : frM v m (CBeastsChooseLaw_law_r4116_dae0f7.stA m a f) := by
  refine ⟨fun b q => stA_ne (by omega), fun b q1 q2 j q3 => ?_⟩
  by_cases e : b = a
  · subst e
    rw [stA_eq]
    exact hf j q3
  · rw [stA_ne e]
/-- a row written behind the n that stand there -/
theorem wp_write {S m : zM} {v b g oc n hr dy : Int} (v0 : 0 ≤ v) (v1 : v ≤ 21) (h27 : m 27 v = 24 * dy + hr) (d0 : 0 ≤ dy) (d1 : dy ≤ 999) (r0 : 0 ≤ hr) (r1 : hr ≤ 23) (h35 : m 35 v = n) (n0 : 0 ≤ n) (n1 : n ≤ 59) : wp (M_writesDown_b66 v b g oc m) (fun m' => m' = upm (upm (upm (upm (upm (upm m 36 (300 * v + 5 * n) dy) 36 (300 * v + 5 * n + 1) hr) 36 (300 * v + 5 * n + 2) b) 36 (300 * v + 5 * n + 3) g) 36 (300 * v + 5 * n + 4) oc) 35 v (n + 1)) := by
  unfold M_writesDown_b66
  have e1 : 5 * (60 * v + n) = 300 * v + 5 * n := by omega
  have hq : dvI (24 * dy + hr) 24 = dy := by rw [dvI_n (by omega) (by omega) (by omega) (by omega)]; omega
  have hh : ∀ x, M_hourIn v (upm m 36 (300 * v + 5 * n) x) = some hr := by
    intro x
    unfold M_hourIn
    rw [rd_ok v0 (by omega), ru1 (by decide), h27, rmI_n (by omega) (by omega) (by omega) (by omega)]
    congr 1
    omega
  rw [rd_ok v0 (by omega), h35, wI_ok (x := 60 * v) (by omega) (by omega), wI_ok (x := 60 * v + n) (by omega) (by omega), wI_ok (x := 5 * (60 * v + n)) (by omega) (by omega), lt_ok, e1, rd_ok v0 (by omega), h27, hq, wr_ok (by omega) (by omega), hh, Option.bind_some, wI_ok (x := 300 * v + 5 * n + 1) (by omega) (by omega), wr_ok (by omega) (by omega), wI_ok (x := 300 * v + 5 * n + 2) (by omega) (by omega), wr_ok (by omega) (by omega), wI_ok (x := 300 * v + 5 * n + 3) (by omega) (by omega), wr_ok (by omega) (by omega), wI_ok (x := 300 * v + 5 * n + 4) (by omega) (by omega), wr_ok (by omega) (by omega), rd_ok v0 (by omega)]
  have e5 : ∀ x y z w u, upm (upm (upm (upm (upm m 36 (300 * v + 5 * n) x) 36 (300 * v + 5 * n + 1) y) 36 (300 * v + 5 * n + 2) z) 36 (300 * v + 5 * n + 3) w) 36 (300 * v + 5 * n + 4) u 35 v = n := by
    intro x y z w u
    rw [ru1 (by decide), ru1 (by decide), ru1 (by decide), ru1 (by decide), ru1 (by decide), h35]
  rw [e5, wI_ok (x := n + 1) (by omega) (by omega), wr_ok v0 (by omega)]
  exact wp_some rfl
