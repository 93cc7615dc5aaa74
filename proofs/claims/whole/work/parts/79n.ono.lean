/-! on: the whole -/
def vgM (t Z0 : Int → Int) (s : zM) (i : Int) : Prop := ∀ g, 0 ≤ g → g < i → (∀ k, 0 ≤ k → k < 3 → s 29 (24 + 3 * g + k) = t (5 + 5 * g + k)) ∧ s 30 (8 + g) = t (5 + 5 * g + 3) - 1 ∧ s 31 (8 + g) = t (5 + 5 * g + 4)
def vbM (t Z0 : Int → Int) (s : zM) (i : Int) : Prop := ∀ b, 0 ≤ b → b < i → (∀ k, 0 ≤ k → k < 3 → s 32 (18 + 3 * b + k) = t (bAt Z0 b + k)) ∧ ∀ g, 0 ≤ g → g < Z0 1 → s 33 (48 + 8 * b + g) = t (bAt Z0 b + 3 + 2 * g) ∧ s 34 (48 + 8 * b + g) = t (bAt Z0 b + 4 + 2 * g)
def vhM (t : Int → Int) (s : zM) : Prop := s 27 1 = 24 * (t 0 * 256 + t 1) + t 2 ∧ s 28 1 = t 3 * 256 + t 4 ∧ s 35 1 = 0
def vlM (t Z0 : Int → Int) (s : zM) : Prop := vhM t s ∧ vgM t Z0 s (Z0 1) ∧ vbM t Z0 s (Z0 0)
theorem wp_comesM {Z S mM : zM} {bk N : Int} (h : GG Z S mM bk 0) (hN : 0 ≤ N ∧ N ≤ 1600) (hb : ∀ j, 0 ≤ j → j < N → 0 ≤ mM 1 j ∧ mM 1 j ≤ 255) : wp (M_comesOn N mM) (fun r => frM 1 mM r.2 ∧ ((r.1 = 1 ∧ okA (mM 1) (Z 0) N ∧ vlM (mM 1) (Z 0) r.2) ∨ (r.1 = 0 ∧ ¬ okA (mM 1) (Z 0) N))) := by
  have n1 := h.nb
  have n2 := h.ng
  have g := h.rg
  have sz := szV_b n1 n2
  have mb := mul9 (x := 3 + 2 * Z 0 1) (y := Z 0 0) (a := 19) (b := 6) (by omega) (by omega) n1.1 n1.2
  unfold M_comesOn
  rw [rd_ok g.1 g.2.1, g.2.2.1, lt_ok, wI_ok (x := 5 * Z 0 1) (by omega) (by omega), wI_ok (x := 5 + 5 * Z 0 1) (by omega) (by omega), rd_ok g.1 g.2.1, g.2.2.1, lt_ok, wI_ok (x := 2 * Z 0 1) (by omega) (by omega), wI_ok (x := 3 + 2 * Z 0 1) (by omega) (by omega), rd_ok g.1 g.2.1, g.2.2.2, wI_ok (x := (3 + 2 * Z 0 1) * Z 0 0) (by omega) (by omega), wI_ok (x := 5 + 5 * Z 0 1 + (3 + 2 * Z 0 1) * Z 0 0) (by omega) (by omega), wI_ok (by omega) (by omega)]
  have es : 5 + 5 * Z 0 1 + (3 + 2 * Z 0 1) * Z 0 0 + 1 = szV (Z 0) := sz.2.2.2
  rw [es]
  by_cases c1 : N = szV (Z 0)
  · rw [if_pos c1, twoB_ok (by decide) (by decide) (hb _ (by omega) (by omega)) (hb _ (by omega) (by omega)), Option.bind_some]
    have no : ∀ {C : Prop}, (okA (mM 1) (Z 0) N → C) → ¬ C → wp (some ((0 : Int), mM)) (fun r => frM 1 mM r.2 ∧ ((r.1 = 1 ∧ okA (mM 1) (Z 0) N ∧ vlM (mM 1) (Z 0) r.2) ∨ (r.1 = 0 ∧ ¬ okA (mM 1) (Z 0) N))) := fun a b => wp_some ⟨frM.refl, Or.inr ⟨rfl, fun t => b (a t)⟩⟩
    by_cases c2 : 999 < mM 1 0 * 256 + mM 1 (0 + 1)
    · rw [if_pos c2]
      exact no (C := mM 1 0 * 256 + mM 1 (0 + 1) ≤ 999) (fun t => t.2.2.1.1) (by omega)
    · rw [if_neg c2, rd_ok (by decide) (by decide)]
      by_cases c3 : mM 1 2 < 24
      · rw [if_pos c3, twoB_ok (by decide) (by decide) (hb _ (by omega) (by omega)) (hb _ (by omega) (by omega)), Option.bind_some]
        by_cases c4 : 9999 < mM 1 3 * 256 + mM 1 (3 + 1)
        · rw [if_pos c4]
          exact no (C := mM 1 3 * 256 + mM 1 (3 + 1) ≤ 9999) (fun t => t.2.2.1.2.2) (by omega)
        · rw [if_neg c4, sum_M (by omega) (by omega) hb]
          rw [wI_ok (x := N - 1) (by omega) (by omega), rd_ok (by omega) (by omega)]
          by_cases c5 : ckS (mM 1) (N - 1).toNat = mM 1 (N - 1)
          · rw [if_pos c5.symm]
            have hH : okH (mM 1) := ⟨Int.not_lt.mp c2, by omega, Int.not_lt.mp c4⟩
            refine wp_bm (wp_copies h.2.1 n1 n2 (to := 1) (by omega) (by omega) (by omega) (by omega) (by omega)) (fun m1 ⟨q1, q2⟩ => ?_)
            have e1 : m1 1 = mM 1 := q2.1 1 (by omega)
            have b0 := hb 0 (by omega) (by omega)
            have b1 := hb 1 (by omega) (by omega)
            have b2 := hb 2 (by omega) (by omega)
            have b3 := hb 3 (by omega) (by omega)
            have b4 := hb 4 (by omega) (by omega)
            have b1' : 0 ≤ mM 1 (0 + 1) ∧ mM 1 (0 + 1) ≤ 255 := b1
            rw [twoB_ok (by decide) (by decide) (by rw [e1]; exact b0) (by rw [e1]; exact b1), Option.bind_some, rd_ok (by decide) (by decide), wr_ok (by decide) (by decide), e1, twoB_ok (m := upm m1 27 1 _) (by decide) (by decide) (by rw [upm_ne (by decide), e1]; exact b3) (by rw [upm_ne (by decide), e1]; exact b4), Option.bind_some, wr_ok (by decide) (by decide), wr_ok (by decide) (by decide), upm_ne (a := 27) (b := 1) (by decide), e1, wI_ok (x := 24 * (mM 1 0 * 256 + mM 1 (0 + 1))) (by omega) (by omega), wI_ok (by omega) (by omega)]
            have F : frM 1 mM (upm (upm (upm m1 27 1 (24 * (mM 1 0 * 256 + mM 1 (0 + 1)) + mM 1 2)) 28 1 (mM 1 3 * 256 + mM 1 (3 + 1))) 35 1 0) := ((q2.put (by decide) (by decide) (by decide) (by decide)).put (by decide) (by decide) (by decide) (by decide)).put (by decide) (by decide) (by decide) (by decide)
            have V : vhM (mM 1) (upm (upm (upm m1 27 1 (24 * (mM 1 0 * 256 + mM 1 (0 + 1)) + mM 1 2)) 28 1 (mM 1 3 * 256 + mM 1 (3 + 1))) 35 1 0) := ⟨by rw [ru1 (by decide), ru1 (by decide), ru3 rfl rfl]; rfl, by rw [ru1 (by decide), ru3 rfl rfl]; rfl, ru3 rfl rfl⟩
            generalize upm (upm (upm m1 27 1 (24 * (mM 1 0 * 256 + mM 1 (0 + 1)) + mM 1 2)) 28 1 (mM 1 3 * 256 + mM 1 (3 + 1))) 35 1 0 = m2 at *
            have keep : ∀ s : zM, frM 1 mM s → s 0 = mM 0 ∧ s 1 = mM 1 ∧ s 2 = mM 2 ∧ s 7 = mM 7 := fun s f => ⟨f.1 0 (by omega), f.1 1 (by omega), f.1 2 (by omega), f.1 7 (by omega)⟩
            refine wp_for (fun n i s => M_comesOn_L185 (fun x2_37 x3_37 m38 => M_comesOn_L225 1000000 x2_37 x3_37 0 m38) n (5 + 5 * Z 0 1) (3 + 2 * Z 0 1) i s) (fun i s => frM 1 mM s ∧ (∀ k, 0 ≤ k → k < i → okG (mM 1) (Z 0 0) (5 + 5 * k)) ∧ vgM (mM 1) (Z 0) s i ∧ vhM (mM 1) s) _ 0 (Z 0 1) ?_ ?_ 1000000 0 m2 (by omega) (by omega) (by omega) ⟨F, all_0, all_0, V⟩
            · intro n s ⟨i1, i2, i3, i4⟩
              obtain ⟨k0, k1, k2, k7⟩ := keep s i1
              show wp (M_comesOn_B185 _ _ _ _ _ _) _
              unfold M_comesOn_B185
              rw [k0, rd_ok g.1 g.2.1, k7, g.2.2.1, if_neg (by omega)]
              refine wp_for (fun n i s => M_comesOn_L225 n (5 + 5 * Z 0 1) (3 + 2 * Z 0 1) i s) (fun i s => frM 1 mM s ∧ (∀ k, 0 ≤ k → k < i → okB (mM 1) (Z 0 1) (bAt (Z 0) k)) ∧ vbM (mM 1) (Z 0) s i ∧ vgM (mM 1) (Z 0) s (Z 0 1) ∧ vhM (mM 1) s) _ 0 (Z 0 0) ?_ ?_ 1000000 0 s (by omega) (by omega) (by omega) ⟨i1, all_0, all_0, i3, i4⟩
              · intro n s ⟨j1, j2, j3, j4, j5⟩
                obtain ⟨k0, k1, k2, k7⟩ := keep s j1
                show wp (M_comesOn_B225 _ _ _ _ _) _
                unfold M_comesOn_B225
                rw [k0, rd_ok g.1 g.2.1, k2, g.2.2.2, if_neg (by omega)]
                exact wp_some ⟨j1, Or.inl ⟨rfl, ⟨c1, c5, hH, i2, j2⟩, j5, j4, j3⟩⟩
              · intro n i s q0 q1 ⟨j1, j2, j3, j4, j5⟩ hr
                obtain ⟨k0, k1, k2, k7⟩ := keep s j1
                have bb := bAt_b n2 q0 (by omega)
                have b9 := bAt_s (Z0 := Z 0) (b := i)
                have mi := mul9 (x := 3 + 2 * Z 0 1) (y := i) (a := 19) (b := 6) (by omega) (by omega) q0 (by omega)
                have bm : bAt (Z 0) i + (3 + 2 * Z 0 1) ≤ bAt (Z 0) (Z 0 0) := by
                  have := Int.mul_le_mul_of_nonneg_left (c := 3 + 2 * Z 0 1) (show i + 1 ≤ Z 0 0 by omega) (by omega)
                  rw [← b9]
                  unfold bAt
                  omega
                show wp (M_comesOn_B225 _ _ _ _ _) _
                unfold M_comesOn_B225
                rw [k0, rd_ok g.1 g.2.1, k2, g.2.2.2, if_pos q1, wI_ok (x := (3 + 2 * Z 0 1) * i) (by omega) (by omega), wI_ok (x := 5 + 5 * Z 0 1 + (3 + 2 * Z 0 1) * i) (by omega) (by omega), show 5 + 5 * Z 0 1 + (3 + 2 * Z 0 1) * i = bAt (Z 0) i from rfl, wI_ok (x := i + 1) (by omega) (by omega)]
                refine wp_bm (wp_beastM (ng := Z 0 1) (by rw [k0]; omega) (by rw [k0, k7]; exact g.2.2.1) n2 q0 (by omega) (by omega) (by omega) (fun k a b => by rw [k1]; exact hb _ (by omega) (by omega))) (fun r ⟨r1, r2, r3, r4, r5, r6, r7⟩ => ?_)
                rw [k1] at r1 r4 r6
                rcases r1 with ⟨a, b⟩ | ⟨a, b⟩
                · rw [if_neg (by omega)]
                  refine hr r.2 ⟨j1.trans r2, ?_, ?_, ?_, ?_⟩
                  · rw [all_s q0]
                    exact ⟨j2, b⟩
                  · unfold vbM
                    rw [all_s q0]
                    refine ⟨fun c c0 c1 => ?_, r4, r6⟩
                    obtain ⟨u1, u2⟩ := j3 c c0 c1
                    refine ⟨fun k k0 k1 => by rw [r5 _ (by omega)]; exact u1 k k0 k1, fun g g0 g1 => ?_⟩
                    have y := r7 (48 + 8 * c + g) (by omega)
                    rw [y.1, y.2]
                    exact u2 g g0 g1
                  · unfold vgM
                    rw [r3 29 (by simp), r3 30 (by simp), r3 31 (by simp)]
                    exact j4
                  · unfold vhM
                    rw [r3 27 (by simp), r3 28 (by simp), r3 35 (by simp)]
                    exact j5
                · rw [if_pos a]
                  exact wp_some ⟨j1.trans r2, Or.inr ⟨rfl, fun t => b (t.2.2.2.2 i q0 q1)⟩⟩
            · intro n i s q0 q1 ⟨i1, i2, i3, i4⟩ hr
              obtain ⟨k0, k1, k2, k7⟩ := keep s i1
              show wp (M_comesOn_B185 _ _ _ _ _ _) _
              unfold M_comesOn_B185
              rw [k0, rd_ok g.1 g.2.1, k7, g.2.2.1, if_pos q1, wI_ok (x := 5 * i) (by omega) (by omega), wI_ok (x := 5 + 5 * i) (by omega) (by omega), wI_ok (x := i + 1) (by omega) (by omega)]
              refine wp_bm (wp_guestM (nb := Z 0 0) (by rw [k0]; omega) (by rw [k0, k2]; exact g.2.2.2) q0 (by omega) (by omega) (by omega) (fun k a b => by rw [k1]; exact hb _ (by omega) (by omega))) (fun r ⟨r1, r2, r3, r4, r5, r6, r7⟩ => ?_)
              rw [k1] at r1 r3 r4
              rcases r1 with ⟨a, b⟩ | ⟨a, b⟩
              · rw [if_neg (by omega)]
                refine hr r.2 ⟨i1.trans r2, ?_, ?_, ?_⟩
                · rw [all_s q0]
                  exact ⟨i2, b⟩
                · unfold vgM
                  rw [all_s q0]
                  refine ⟨fun c c0 c1 => ?_, r3, r4⟩
                  obtain ⟨u1, u2, u3⟩ := i3 c c0 c1
                  have y := r6 (8 + c) (by omega)
                  rw [y.1, y.2]
                  exact ⟨fun k k0 k1 => by rw [r5 _ (by omega)]; exact u1 k k0 k1, u2, u3⟩
                · unfold vhM
                  rw [r7 27 (by simp), r7 28 (by simp), r7 35 (by simp)]
                  exact i4
              · rw [if_pos a]
                exact wp_some ⟨i1.trans r2, Or.inr ⟨rfl, fun t => b (t.2.2.2.1 i q0 q1)⟩⟩
          · rw [if_neg (fun t => c5 t.symm)]
            exact no (C := ckS (mM 1) (N - 1).toNat = mM 1 (N - 1)) (fun t => t.2.1) c5
      · rw [if_neg c3]
        exact no (C := mM 1 2 ≤ 23) (fun t => t.2.2.1.2.1) (by omega)
  · rw [if_neg c1]
    exact wp_some ⟨frM.refl, Or.inr ⟨rfl, fun t => c1 t.1⟩⟩
theorem SM_on {Z s mM : zM} {t : Int → Int} (n1 : 0 ≤ Z 0 0 ∧ Z 0 0 ≤ 6) (n2 : 0 ≤ Z 0 1 ∧ Z 0 1 ≤ 8) (hb : ∀ j, 0 ≤ j → j < szV (Z 0) → 0 ≤ t j ∧ t j ≤ 255) (o1 : okH t) (o2 : okGs t (Z 0)) (o3 : okBs t (Z 0)) (c : vlA t (Z 0) s 16) (c1 : s 16 11 = 0) (c2 : s 16 10 = 0) (d : vlM t (Z 0) mM) : SM Z (sv s 16) mM 1 := by
  have sz := szV_b n1 n2
  obtain ⟨⟨h1, h2, h3⟩, cg, cb⟩ := c
  obtain ⟨⟨g1, g2, g3⟩, dg, db⟩ := d
  obtain ⟨p1, p2, p3⟩ := o1
  have sb := sl_b n1.1 n1.2
  have b0 := hb 0 (by omega) (by omega)
  have b1 := hb 1 (by omega) (by omega)
  have b2 := hb 2 (by omega) (by omega)
  have b3 := hb 3 (by omega) (by omega)
  have b4 := hb 4 (by omega) (by omega)
  have bm : ∀ i, 0 ≤ i → i < Z 0 0 → 5 + 5 * Z 0 1 ≤ bAt (Z 0) i ∧ bAt (Z 0) i + (3 + 2 * Z 0 1) + 1 ≤ szV (Z 0) := by
    intro i q0 q1
    have b9 := bAt_s (Z0 := Z 0) (b := i)
    have bb := bAt_b n2 q0 (by omega)
    have := Int.mul_le_mul_of_nonneg_left (c := 3 + 2 * Z 0 1) (show i + 1 ≤ Z 0 0 by omega) (by omega)
    have e : bAt (Z 0) (i + 1) ≤ bAt (Z 0) (Z 0 0) := by
      unfold bAt
      omega
    omega
  refine ⟨⟨?_, ?_, ?_, ?_, ?_⟩, ⟨?_, ?_, ?_⟩, fun i ⟨q0, q1⟩ => ?_, fun i ⟨q0, q1⟩ => ?_, fun i ⟨q0, q1⟩ => ?_, fun i ⟨q0, q1⟩ => ?_, fun i ⟨q0, q1, q2⟩ => ?_, fun i ⟨q0, q1, q2⟩ => ?_, ⟨?_, ?_, ?_, ?_, ?_⟩, fun k k0 k1 => ?_⟩
  · rw [sv_0_0, sv_0_1, h1, h2]; exact g1
  · rw [sv_0_0, h1]; omega
  · rw [sv_0_0, h1]; exact p1
  · rw [sv_0_1, h2]; omega
  · rw [sv_0_1, h2]; exact p2
  · rw [sv_0_2, h3]; exact g2
  · rw [sv_0_2, h3]; omega
  · rw [sv_0_2, h3]; exact p3
  · have v := (cg (i / 3) (by omega) (by omega)).1 (i % 3) (by omega) (by omega)
    have w := (dg (i / 3) (by omega) (by omega)).1 (i % 3) (by omega) (by omega)
    have k := (o2 (i / 3) (by omega) (by omega)).1 (i % 3) (by omega) (by omega)
    have l := hb (5 + 5 * (i / 3) + i % 3) (by omega) (by omega)
    rw [show 3 * (i / 3) + i % 3 = i from by omega] at v
    rw [show 24 + 3 * (i / 3) + i % 3 = 24 * 1 + i from by omega] at w
    rw [sv_1 q0 (by omega), v, w]
    exact ⟨rfl, l.1, k⟩
  · have v := (cg i q0 q1).2.1
    have w := (dg i q0 q1).2.1
    have k := (o2 i q0 q1).2.1
    have l := hb (5 + 5 * i + 3) (by omega) (by omega)
    rw [sv_2 q0 (by omega), v, show 8 * 1 + i = 8 + i from by omega, w]
    exact ⟨rfl, by omega, by omega⟩
  · have v := (cg i q0 q1).2.2
    have w := (dg i q0 q1).2.2
    have k := (o2 i q0 q1).2.2
    have l := hb (5 + 5 * i + 4) (by omega) (by omega)
    rw [sv_3 q0 (by omega), v, show 8 * 1 + i = 8 + i from by omega, w]
    exact ⟨rfl, by omega, by omega⟩
  · have v := (cb (i / 3) (by omega) (by omega)).1 (i % 3) (by omega) (by omega)
    have w := (db (i / 3) (by omega) (by omega)).1 (i % 3) (by omega) (by omega)
    have k := (o3 (i / 3) (by omega) (by omega)).1 (i % 3) (by omega) (by omega)
    have bi := bm (i / 3) (by omega) (by omega)
    have l := hb (bAt (Z 0) (i / 3) + i % 3) (by omega) (by omega)
    rw [show 3 * (i / 3) + i % 3 = i from by omega] at v
    rw [show 18 + 3 * (i / 3) + i % 3 = 18 * 1 + i from by omega] at w
    rw [sv_4 q0 (by omega), v, w]
    exact ⟨rfl, l.1, k⟩
  · have v := ((cb (i / 8) (by omega) (by omega)).2 (i % 8) (by omega) (by omega)).1
    have w := ((db (i / 8) (by omega) (by omega)).2 (i % 8) (by omega) (by omega)).1
    have k := ((o3 (i / 8) (by omega) (by omega)).2 (i % 8) (by omega) (by omega)).1
    have bi := bm (i / 8) (by omega) (by omega)
    have l := hb (bAt (Z 0) (i / 8) + 3 + 2 * (i % 8)) (by omega) (by omega)
    rw [show i / 8 * 8 + i % 8 = i from by omega] at v
    rw [show 48 + 8 * (i / 8) + i % 8 = 48 * 1 + i from by omega] at w
    rw [sv_5 q0 (by omega), v, w]
    exact ⟨rfl, l.1, k⟩
  · have v := ((cb (i / 8) (by omega) (by omega)).2 (i % 8) (by omega) (by omega)).2
    have w := ((db (i / 8) (by omega) (by omega)).2 (i % 8) (by omega) (by omega)).2
    have k := (o3 (i / 8) (by omega) (by omega)).2 (i % 8) (by omega) (by omega)
    have bi := bm (i / 8) (by omega) (by omega)
    have l := hb (bAt (Z 0) (i / 8) + 4 + 2 * (i % 8)) (by omega) (by omega)
    have k1 := k.1
    have k2 := k.2
    rw [show bAt (Z 0) (i / 8) + 3 + 2 * (i % 8) + 1 = bAt (Z 0) (i / 8) + 4 + 2 * (i % 8) from by omega] at k2
    rw [show i / 8 * 8 + i % 8 = i from by omega] at v
    rw [show 48 + 8 * (i / 8) + i % 8 = 48 * 1 + i from by omega] at w
    rw [sv_6 q0 (by omega), v, w]
    exact ⟨rfl, l.1, by omega⟩
  · rw [sv_0_11, c1]; exact g3
  · rw [sv_0_11, c1]; omega
  · rw [sv_0_11, c1]; omega
  · rw [sv_0_10, c2]; omega
  · rw [sv_0_10, c2]; omega
  · rw [sv_0_11, c1] at k1
    omega
theorem tkF.K1 {l : List Nat} {z : Nat} {m m' : zM} (h : tkF l m m') (hl : ∀ a ∈ l, 8 ≤ a ∧ a ≤ 39) (hz : z = 55 ∨ z = 72) : K1 z m m' := by
  have e : ∀ a, a ≠ 52 → (a < 8 ∨ 39 < a) → m' a = m a := fun a h1 h2 => h.at a h1 (fun w => by have := hl a w; omega)
  refine ⟨?_, ?_, ?_, zv_eq fun q _ _ => e _ (by omega) (by omega)⟩
  · rw [e 0 (by decide) (by decide)]; exact ⟨rfl, rfl, rfl⟩
  · rw [e 1 (by decide) (by decide), e 2 (by decide) (by decide), e 40 (by decide) (by decide)]
    exact ⟨rfl, rfl, rfl, rfl, h.2 1 (by decide)⟩
  · exact ⟨e 3 (by decide) (by decide), e 7 (by decide) (by decide), e 42 (by decide) (by decide), e 53 (by decide) (by decide), e 54 (by decide) (by decide)⟩
theorem tkF.upm2 {l : List Nat} {m m' : zM} {i v : Int} (h : tkF l m m') (hl : 2 ∉ l) : tkF l (upm m 2 i v) (upm m' 2 i v) := by
  have e2 : m' 2 = m 2 := h.at 2 (by decide) hl
  refine ⟨fun a ha => ?_, fun j hj => ?_⟩
  · by_cases e : a = 2
    · subst e
      rw [upm_eq, upm_eq, e2]
    · rw [upm_ne e, upm_ne e]
      exact h.1 a ha
  · rw [ru1 (by decide), ru1 (by decide)]
    exact h.2 j hj
theorem frM.upm0 {v i x : Int} {m m' : zM} (h : frM v (upm m 0 i x) m') : ∀ a, a ≠ 0 → (a ≤ 26 ∨ 39 ≤ a) → m' a = m a := fun a h0 h1 => by rw [h.1 a h1, upm_ne h0]
theorem rs_on {mC mM : zM} (h : Rel mC mM) : wp (C_on mC) (fun a => wp (M_on mM) (fun b => a.1 = b.1 ∧ Rel a.2 b.2)) := by
  obtain ⟨z, Z, S, b, hr⟩ := h.toZ
  obtain ⟨hz, h12, hs, hg, hu, hZ, hS⟩ := id hr
  have n1 := hg.nb
  have n2 := hg.ng
  obtain ⟨t1, t2, t3, t4⟩ := id hs.1
  have h0 := h.empty
  have hg0 : GG Z S (upm mM 0 1 0) b 0 := by
    refine ⟨hg.1.same (fun a q1 q2 => upm_ne (by omega)), hg.2.1.same n1.2 n2.2 (fun a q1 q2 i _ _ => ru1 (by omega)), ?_, hg.2.2.2⟩
    rw [ru2 (by decide)]
    exact hg.2.2.1
  have e11 : upm mM 0 1 0 1 = mM 1 := upm_ne (by decide)
  unfold C_on M_on
  rw [mro_ok (z := z) h12 (kdz hz), pf_ok, ← t1]
  have hbC : ∀ j, 0 ≤ j → j < mC 2 1 → 0 ≤ mC 3 j ∧ mC 3 j ≤ 255 := fun j j0 j1 => (t4 j j0 j1).2
  have hbM : ∀ j, 0 ≤ j → j < mC 2 1 → 0 ≤ mM 1 j ∧ mM 1 j ≤ 255 := fun j j0 j1 => by rw [← (t4 j j0 j1).1]; exact (t4 j j0 j1).2
  refine wp_bm (wp_readC hZ hz n1 n2 rfl ⟨t2, t3⟩ hbC) (fun r ⟨rF, rV⟩ => ?_)
  have hM := wp_comesM hg0 ⟨t2, t3⟩ (by rw [e11]; exact hbM)
  rw [e11] at hM
  have q1 : tkF onL (upm mC 2 1 0) (upm r.2 2 1 0) := rF.upm2 (by decide)
  have same : okA (mC 3) (Z 0) (mC 2 1) ↔ okA (mM 1) (Z 0) (mC 2 1) := by
    by_cases c : mC 2 1 = szV (Z 0)
    · have sz := szV_b n1 n2
      have e : ∀ j, 0 ≤ j → j < mC 2 1 → mC 3 j = mM 1 j := fun j j0 j1 => (t4 j j0 j1).1
      have bm : ∀ i, 0 ≤ i → i < Z 0 0 → 5 + 5 * Z 0 1 ≤ bAt (Z 0) i ∧ bAt (Z 0) i + (3 + 2 * Z 0 1) + 1 ≤ szV (Z 0) := by
        intro i q0 q1
        have b9 := bAt_s (Z0 := Z 0) (b := i)
        have bb := bAt_b n2 q0 (by omega)
        have := Int.mul_le_mul_of_nonneg_left (c := 3 + 2 * Z 0 1) (show i + 1 ≤ Z 0 0 by omega) (by omega)
        have e : bAt (Z 0) (i + 1) ≤ bAt (Z 0) (Z 0 0) := by
          unfold bAt
          omega
        omega
      have ec : ckS (mC 3) (mC 2 1 - 1).toNat = ckS (mM 1) (mC 2 1 - 1).toNat := by
        unfold ckS
        exact congrArg ckL (List.map_congr_left (fun j hj => e (j : Int) (Int.natCast_nonneg j) (by have := List.mem_range.mp hj; omega)))
      have a3 : ∀ p, 0 ≤ p → p + 3 ≤ mC 2 1 → (ok3 (mC 3) p ↔ ok3 (mM 1) p) := fun p p0 p1 => by
        unfold ok3
        constructor
        · intro w k k0 k1
          rw [← e _ (by omega) (by omega)]
          exact w k k0 k1
        · intro w k k0 k1
          rw [e _ (by omega) (by omega)]
          exact w k k0 k1
      have aG : okGs (mC 3) (Z 0) ↔ okGs (mM 1) (Z 0) := by
        have one : ∀ g, 0 ≤ g → g < Z 0 1 → (okG (mC 3) (Z 0 0) (5 + 5 * g) ↔ okG (mM 1) (Z 0 0) (5 + 5 * g)) := fun g g0 g1 => by
          unfold okG
          rw [a3 _ (by omega) (by omega), e _ (by omega) (by omega), e _ (by omega) (by omega)]
        exact ⟨fun w g g0 g1 => (one g g0 g1).mp (w g g0 g1), fun w g g0 g1 => (one g g0 g1).mpr (w g g0 g1)⟩
      have aB : okBs (mC 3) (Z 0) ↔ okBs (mM 1) (Z 0) := by
        have one : ∀ i, 0 ≤ i → i < Z 0 0 → (okB (mC 3) (Z 0 1) (bAt (Z 0) i) ↔ okB (mM 1) (Z 0 1) (bAt (Z 0) i)) := fun i q0 q1 => by
          have bi := bm i q0 q1
          have two : ∀ g, 0 ≤ g → g < Z 0 1 → (okPr (mC 3) (bAt (Z 0) i + 3 + 2 * g) ↔ okPr (mM 1) (bAt (Z 0) i + 3 + 2 * g)) := fun g g0 g1 => by
            unfold okPr
            rw [e _ (by omega) (by omega), e _ (by omega) (by omega)]
          unfold okB
          rw [a3 _ (by omega) (by omega)]
          exact ⟨fun w => ⟨w.1, fun g g0 g1 => (two g g0 g1).mp (w.2 g g0 g1)⟩, fun w => ⟨w.1, fun g g0 g1 => (two g g0 g1).mpr (w.2 g g0 g1)⟩⟩
        exact ⟨fun w g g0 g1 => (one g g0 g1).mp (w g g0 g1), fun w g g0 g1 => (one g g0 g1).mpr (w g g0 g1)⟩
      unfold okA okH
      rw [ec, aG, aB, e (mC 2 1 - 1) (by omega) (by omega), e 0 (by omega) (by omega), e 1 (by omega) (by omega), e 2 (by omega) (by omega), e 3 (by omega) (by omega), e 4 (by omega) (by omega)]
    · exact ⟨fun w => absurd w.1 c, fun w => absurd w.1 c⟩
  have k1 : K1 z (upm mC 2 1 0) (upm r.2 2 1 0) := q1.K1 (by unfold onL; simp) hz
  have hS0 : sv (upm mC 2 1 0) 8 = S := by rw [sv_upm (by omega)]; exact hS
  have hZ0 : zv (upm mC 2 1 0) z = Z := by rw [zv_upm (by omega)]; exact hZ
  have mid : ∀ m2 : zM, frM 1 (upm mM 0 1 0) m2 → RelZ (upm r.2 2 1 0) m2 z Z S b := by
    intro m2 f
    have e0 : upm r.2 2 1 0 0 = mC 0 := by rw [upm_ne (by decide), rF.at 0 (by decide) (by decide)]
    have hs0 : RS (upm mC 2 1 0) (upm mM 0 1 0) z := by
      obtain ⟨z', hz', h12', hs', _, _⟩ := h0.parts
      have : z' = z := by
        rw [ru1 (by decide)] at h12'
        omega
      rw [← this]
      exact hs'
    have g2 : GG Z S m2 b 0 := by
      refine ⟨hg0.1.same (fun a q1 q2 => f.1 a (by omega)), hg0.2.1.frame n1.2 n2.2 f.A (by decide), ?_, hg0.2.2.2⟩
      rw [f.1 0 (by omega)]
      exact hg0.2.2.1
    have hu0 : RU (upm mC 2 1 0) (upm mM 0 1 0) z := by
      obtain ⟨z', hz', h12', _, _, hu'⟩ := h0.parts
      have : z' = z := by
        rw [ru1 (by decide)] at h12'
        omega
      rw [← this]
      exact hu'
    refine ⟨hz, by rw [e0]; exact h12, hs0.keep k1 (K2.ofA f.A), g2, ?_, by rw [k1.2.2.2]; exact hZ0, ?_⟩
    · refine hu0.keep (by rw [hZ0]; exact n1.2) (by rw [hZ0]; exact n2.2) ?_ k1.2.2.2 (fun a ha => q1.at a (by omega) (by unfold onL; simp; omega)) ?_ (fl_of f.A (by decide))
      · rw [e0, upm_ne (by decide)]; exact ⟨rfl, rfl⟩
      · rw [f.1 0 (by omega)]; exact ⟨rfl, rfl⟩
    · rw [← hS0]
      exact sv_eq fun q hq => q1.at _ (by omega) (by unfold onL; simp; omega)
  rw [pf_ok]
  obtain ⟨r3, eM, fM, vM⟩ := hM
  rw [eM, Option.bind_some]
  have hr2 := mid r3.2 fM
  by_cases c : okA (mC 3) (Z 0) (mC 2 1)
  · obtain ⟨v1, v2, v3, v4, v5⟩ : r.1 = 1 ∧ okA (mC 3) (Z 0) (mC 2 1) ∧ vlA (mC 3) (Z 0) r.2 16 ∧ r.2 16 11 = 0 ∧ r.2 16 10 = 0 := by
      rcases rV with a | a
      · exact a
      · exact absurd c a.2
    obtain ⟨w1, w2, w3⟩ : r3.1 = 1 ∧ okA (mM 1) (Z 0) (mC 2 1) ∧ vlM (mM 1) (Z 0) r3.2 := by
      rcases vM with a | a
      · exact a
      · exact absurd (same.mp c) a.2
    rw [if_neg (by omega), if_neg (by omega)]
    have sm : SM Z (sv (upm r.2 2 1 0) 16) r3.2 1 := by
      rw [sv_upm (by omega)]
      have e : ∀ j, 0 ≤ j → j < mC 2 1 → mC 3 j = mM 1 j := fun j j0 j1 => (t4 j j0 j1).1
      have sz := szV_b n1 n2
      have bm : ∀ i, 0 ≤ i → i < Z 0 0 → 5 + 5 * Z 0 1 ≤ bAt (Z 0) i ∧ bAt (Z 0) i + (3 + 2 * Z 0 1) + 1 ≤ szV (Z 0) := by
        intro i q0 q1
        have b9 := bAt_s (Z0 := Z 0) (b := i)
        have bb := bAt_b n2 q0 (by omega)
        have := Int.mul_le_mul_of_nonneg_left (c := 3 + 2 * Z 0 1) (show i + 1 ≤ Z 0 0 by omega) (by omega)
        have e : bAt (Z 0) (i + 1) ≤ bAt (Z 0) (Z 0 0) := by
          unfold bAt
          omega
        omega
      have cN := w2.1
      have vA : vlA (mM 1) (Z 0) r.2 16 := by
        obtain ⟨⟨x1, x2, x3⟩, x4, x5⟩ := v3
        refine ⟨⟨?_, ?_, ?_⟩, fun g g0 g1 => ?_, fun i q0 q1 => ?_⟩
        · rw [x1, e 0 (by omega) (by omega), e 1 (by omega) (by omega)]
        · rw [x2, e 2 (by omega) (by omega)]
        · rw [x3, e 3 (by omega) (by omega), e 4 (by omega) (by omega)]
        · obtain ⟨y1, y2, y3⟩ := x4 g g0 g1
          exact ⟨fun k k0 k1 => by rw [y1 k k0 k1, e _ (by omega) (by omega)], by rw [y2, e _ (by omega) (by omega)], by rw [y3, e _ (by omega) (by omega)]⟩
        · have bi := bm i q0 q1
          obtain ⟨y1, y2⟩ := x5 i q0 q1
          exact ⟨fun k k0 k1 => by rw [y1 k k0 k1, e _ (by omega) (by omega)], fun g g0 g1 => by rw [(y2 g g0 g1).1, (y2 g g0 g1).2, e _ (by omega) (by omega), e _ (by omega) (by omega)]; exact ⟨rfl, rfl⟩⟩
      exact SM_on n1 n2 (fun j j0 j1 => hbM j j0 (by omega)) w2.2.2.1 w2.2.2.2.1 w2.2.2.2.2 vA v4 v5 w3
    refine wp_bm (wp_copyFrom (by omega)) (fun m1 ⟨e1, e2⟩ => wp_some ?_)
    refine wp_bm (wp_copies sm n1 n2 (to := 0) (by omega) (by omega) (by omega) (by omega) (by omega)) (fun m2 ⟨p1, p2⟩ => wp_some ⟨rfl, ?_⟩)
    obtain ⟨_, y12, ys, yg, yu, yZ, yS⟩ := hr2.now e2 (by simp) p2.A e1 p1
    show Rel (upm m1 0 15 0) (upm m2 0 57 0)
    have k1 : K1 z m1 (upm m1 0 15 0) := K1.put0 (by decide) hz
    have k2 : K2 m2 (upm m2 0 57 0) := K2.put0 (by decide)
    refine ⟨z, ys.keep k1 k2, ?_, ?_⟩
    · rw [k1.2.2.2, yZ, sv_upm (by omega), yS]
      exact yg.2.1.same n1.2 n2.2 (fun a q1 q2 i _ _ => ru1 (by omega))
    · unfold RU
      rw [k1.2.2.2, yZ, ru2 (by decide), ru3 rfl rfl, ru2 (by decide), ru3 rfl rfl]
      exact ⟨yu.1, ⟨rfl, by decide, by decide⟩, fun k k0 k1 => by omega⟩
  · have v1 : r.1 = 0 := by
      rcases rV with a | a
      · exact absurd a.2.1 c
      · exact a.1
    have w1 : r3.1 = 0 := by
      rcases vM with a | a
      · exact absurd (same.mpr a.2.1) c
      · exact a.1
    rw [if_pos v1, if_pos w1]
    exact rs_no hr2.rel (by decide) (by decide)
