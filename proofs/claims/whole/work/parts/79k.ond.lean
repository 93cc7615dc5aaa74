/-! on, the class: beasts; the whole -/
def okPr (t : Int → Int) (p : Int) : Prop := t p ≤ 99 ∧ t (p + 1) ≤ t p
def okB (t : Int → Int) (ng p : Int) : Prop := ok3 t p ∧ ∀ g, 0 ≤ g → g < ng → okPr t (p + 3 + 2 * g)
def vlB (t m4 m5 m6 : Int → Int) (ng b p : Int) : Prop := (∀ k, 0 ≤ k → k < 3 → m4 (3 * b + k) = t (p + k)) ∧ ∀ g, 0 ≤ g → g < ng → m5 (b * 8 + g) = t (p + 3 + 2 * g) ∧ m6 (b * 8 + g) = t (p + 4 + 2 * g)
theorem tkT.pairs {s Z : zM} {z : Nat} {p b : Int} {P : Prop} {K : Nat → Nat → Int → zM → Option (Int × zM)} {Q : Int × zM → Prop} (h : tkT s p P) (hZ : zv s z = Z) (hz : z = 55 ∨ z = 72) (n2 : 0 ≤ Z 0 1 ∧ Z 0 1 ≤ 8) (b0 : 0 ≤ b) (b1 : b < 6) (p1 : p + 2 * Z 0 1 < 1600) (p0 : 0 ≤ p)
    (hr : ∀ m, tkT m (p + 2 * Z 0 1) (P ∧ ∀ g, 0 ≤ g → g < Z 0 1 → okPr (s 3) (p + 2 * g)) → (P → (∀ g, 0 ≤ g → g < Z 0 1 → okPr (s 3) (p + 2 * g)) → ∀ g, 0 ≤ g → g < Z 0 1 → m 21 (b * 8 + g) = s 3 (p + 2 * g) ∧ m 22 (b * 8 + g) = s 3 (p + 2 * g + 1)) → tkF [21, 22] s m → (∀ j, j < b * 8 ∨ b * 8 + 8 ≤ j → m 21 j = s 21 j ∧ m 22 j = s 22 j) → wp (K z 16 b m) Q) : wp (Im_read_L193 K 1000000 z 16 b 0 s) Q := by
  refine wp_for (fun n g m => Im_read_L193 K n z 16 b g m) (fun i m => tkT m (p + 2 * i) (P ∧ ∀ g, 0 ≤ g → g < i → okPr (s 3) (p + 2 * g)) ∧ (P → (∀ g, 0 ≤ g → g < i → okPr (s 3) (p + 2 * g)) → ∀ g, 0 ≤ g → g < i → m 21 (b * 8 + g) = s 3 (p + 2 * g) ∧ m 22 (b * 8 + g) = s 3 (p + 2 * g + 1)) ∧ tkF [21, 22] s m ∧ (∀ j, j < b * 8 ∨ b * 8 + 8 ≤ j → m 21 j = s 21 j ∧ m 22 j = s 22 j)) _ 0 (Z 0 1) ?_ ?_ 1000000 0 s (by omega) (by omega) (by omega) ⟨h.iff ⟨fun t => ⟨t, all_0⟩, fun t => t.1⟩ (by omega), fun _ _ => all_0, tkF.refl, fun _ _ => ⟨rfl, rfl⟩⟩
  · intro k m ⟨i1, i2, i3, i4⟩
    have zs : zv m z = Z := by rw [← hZ]; exact zv_eq fun q _ _ => i3.at _ (by omega) (by simp; omega)
    show wp (Im_read_B193 _ _ _ _ _ _ _) _
    unfold Im_read_B193
    rw [rZ0 zs, if_neg (by omega)]
    exact hr m i1 i2 i3 i4
  · intro k i m q0 q1 ⟨i1, i2, i3, i4⟩ hrec
    have zs : zv m z = Z := by rw [← hZ]; exact zv_eq fun q _ _ => i3.at _ (by omega) (by simp; omega)
    have m3 : m 3 = s 3 := i3.at 3 (by decide) (by simp)
    show wp (Im_read_B193 _ _ _ _ _ _ _) _
    unfold Im_read_B193
    obtain ⟨r1, e1, t1, v1, f1⟩ := i1.step 99 (by omega)
    rw [m3] at t1 v1
    rw [rZ0 zs, if_pos q1, e1, Option.bind_some, wI_ok (x := b * 8) (by omega) (by omega), wI_ok (x := b * 8 + i) (by omega) (by omega), wr_ok (by omega) (by omega), wI_ok (x := i + 1) (by omega) (by omega)]
    obtain ⟨r2, e2, t2, v2, f2⟩ := (t1.put (a := 21) (i := b * 8 + i) (v := r1.1) (by decide)).step r1.1 (by omega)
    have y3 : upm r1.2 21 (b * 8 + i) r1.1 3 = s 3 := by rw [upm_ne (by decide), f1.at 3 (by decide) (by simp), m3]
    rw [y3] at t2 v2
    rw [e2, Option.bind_some, wr_ok (by omega) (by omega)]
    have y2 : ∀ a, a ≠ 52 → r2.2 a = upm r1.2 21 (b * 8 + i) r1.1 a := fun a ha => f2.at a ha (by simp)
    have y1 : ∀ a, a ≠ 52 → r1.2 a = m a := fun a ha => f1.at a ha (by simp)
    have A21 : upm r2.2 22 (b * 8 + i) r2.1 21 = sets (m 21) (b * 8 + i) r1.1 := by rw [upm_ne (by decide), y2 21 (by decide), upm_eq, y1 21 (by decide)]
    have A22 : upm r2.2 22 (b * 8 + i) r2.1 22 = sets (m 22) (b * 8 + i) r2.1 := by rw [upm_eq, y2 22 (by decide), upm_ne (by decide), y1 22 (by decide)]
    have F : tkF [21, 22] s (upm r2.2 22 (b * 8 + i) r2.1) := (((i3.trans (f1.mono (by simp))).put (a := 21) (by simp) (by decide)).trans (f2.mono (by simp))).put (by simp) (by decide)
    refine hrec _ ⟨(t2.put (by decide)).iff ?_ (by omega), ?_, F, fun j hj => ?_⟩
    · rw [all_s q0]
      unfold okPr
      constructor
      · intro ⟨⟨⟨a, c⟩, d⟩, e⟩
        rw [v1 ⟨a, c⟩ d] at e
        exact ⟨a, c, d, e⟩
      · intro ⟨a, c, d, e⟩
        exact ⟨⟨⟨a, c⟩, d⟩, by rw [v1 ⟨a, c⟩ d]; exact e⟩
    · intro hP c
      rw [all_s q0] at c ⊢
      obtain ⟨c1, c2, c3⟩ := c
      have w1 := v1 ⟨hP, c1⟩ c2
      have w2 := v2 ⟨⟨hP, c1⟩, c2⟩ (by rw [w1]; exact c3)
      refine ⟨fun g g0 g1 => ?_, ?_⟩
      · rw [A21, A22, sets_ne (by omega), sets_ne (by omega)]
        exact i2 hP c1 g g0 g1
      · rw [A21, A22, sets_eq, sets_eq]
        exact ⟨w1, w2⟩
    · rw [A21, A22, sets_ne (by omega), sets_ne (by omega)]
      exact i4 j hj
def onL : List Nat := [16, 17, 18, 19, 20, 21, 22]
def okH (t : Int → Int) : Prop := t 0 * 256 + t 1 ≤ 999 ∧ t 2 ≤ 23 ∧ t 3 * 256 + t 4 ≤ 9999
def okGs (t Z0 : Int → Int) : Prop := ∀ g, 0 ≤ g → g < Z0 1 → okG t (Z0 0) (5 + 5 * g)
def bAt (Z0 : Int → Int) (b : Int) : Int := 5 + 5 * Z0 1 + (3 + 2 * Z0 1) * b
def okBs (t Z0 : Int → Int) : Prop := ∀ b, 0 ≤ b → b < Z0 0 → okB t (Z0 1) (bAt Z0 b)
def vlH (t m0 : Int → Int) : Prop := m0 0 = t 0 * 256 + t 1 ∧ m0 1 = t 2 ∧ m0 2 = t 3 * 256 + t 4
def szV (Z0 : Int → Int) : Int := 6 + 5 * Z0 1 + Z0 0 * (3 + 2 * Z0 1)
theorem bAt_s {Z0 : Int → Int} {b : Int} : bAt Z0 (b + 1) = bAt Z0 b + (3 + 2 * Z0 1) := by unfold bAt; rw [Int.mul_add]; omega
theorem bAt_b {Z0 : Int → Int} {b : Int} (n2 : 0 ≤ Z0 1 ∧ Z0 1 ≤ 8) (b0 : 0 ≤ b) (b1 : b < 6) : 5 + 5 * Z0 1 ≤ bAt Z0 b ∧ bAt Z0 b ≤ 5 + 5 * Z0 1 + 95 := by
  unfold bAt
  have := mul9 (x := 3 + 2 * Z0 1) (y := b) (a := 19) (b := 5) (by omega) (by omega) b0 (by omega)
  omega
/-- the beasts' loop -/
theorem tkT.beasts {s Z : zM} {z : Nat} {P : Prop} {Q : Int × zM → Prop} (h : tkT s (5 + 5 * Z 0 1) P) (hZ : zv s z = Z) (hz : z = 55 ∨ z = 72) (n1 : 0 ≤ Z 0 0 ∧ Z 0 0 ≤ 6) (n2 : 0 ≤ Z 0 1 ∧ Z 0 1 ≤ 8)
    (hr : ∀ m x, ((x = 1 ∧ P ∧ okBs (s 3) (Z 0)) ∨ (x = 0 ∧ ¬ (P ∧ okBs (s 3) (Z 0)))) → (P → okBs (s 3) (Z 0) → ∀ b, 0 ≤ b → b < Z 0 0 → vlB (s 3) (m 20) (m 21) (m 22) (Z 0 1) b (bAt (Z 0) b)) → tkF [20, 21, 22] s m → Q (x, m)) : wp (Im_read_L169 1000000 z 16 0 s) Q := by
  refine wp_for (fun n i m => Im_read_L169 n z 16 i m) (fun i m => tkT m (bAt (Z 0) i) (P ∧ ∀ b, 0 ≤ b → b < i → okB (s 3) (Z 0 1) (bAt (Z 0) b)) ∧ (P → (∀ b, 0 ≤ b → b < i → okB (s 3) (Z 0 1) (bAt (Z 0) b)) → ∀ b, 0 ≤ b → b < i → vlB (s 3) (m 20) (m 21) (m 22) (Z 0 1) b (bAt (Z 0) b)) ∧ tkF [20, 21, 22] s m) _ 0 (Z 0 0) ?_ ?_ 1000000 0 s (by omega) (by omega) (by omega) ⟨h.iff ⟨fun t => ⟨t, all_0⟩, fun t => t.1⟩ (by unfold bAt; omega), fun _ _ => all_0, tkF.refl⟩
  · intro k m ⟨i1, i2, i3⟩
    have zs : zv m z = Z := by rw [← hZ]; exact zv_eq fun q _ _ => i3.at _ (by omega) (by simp; omega)
    show wp (Im_read_B169 _ _ _ _ _) _
    unfold Im_read_B169
    rw [rZ0 zs, if_neg (by omega)]
    refine wp_some (hr m _ ?_ i2 i3)
    rcases i1.2.2 with ⟨a, _, c⟩ | ⟨a, c⟩
    · exact Or.inl ⟨a, c⟩
    · exact Or.inr ⟨a, c⟩
  · intro k i m q0 q1 ⟨i1, i2, i3⟩ hrec
    have bb := bAt_b n2 q0 (by omega)
    have zs : zv m z = Z := by rw [← hZ]; exact zv_eq fun q _ _ => i3.at _ (by omega) (by simp; omega)
    have m3 : m 3 = s 3 := i3.at 3 (by decide) (by simp)
    show wp (Im_read_B169 _ _ _ _ _) _
    unfold Im_read_B169
    rw [rZ0 zs, if_pos q1, wI_ok (x := i * 3) (by omega) (by omega)]
    refine wp_bm (i1.triple (by omega) (by omega) (by omega) (by decide) (by decide) (by decide)) (fun m1 ⟨t1, v1, f1, g1⟩ => ?_)
    have f1' : tkF [20, 21, 22] s m1 := i3.trans (f1.mono (by simp))
    have zs1 : zv m1 z = Z := by rw [← hZ]; exact zv_eq fun q _ _ => f1'.at _ (by omega) (by simp; omega)
    have m13 : m1 3 = s 3 := f1'.at 3 (by decide) (by simp)
    refine t1.pairs zs1 hz n2 q0 (by omega) (by omega) (by omega) (fun m2 t2 v2 f2 g2 => ?_)
    rw [m3] at v1 t2 v2
    rw [m13] at t2 v2
    show wp (Im_read_L169 k z 16 (wI (i + 1)) m2) Q
    rw [wI_ok (by omega) (by omega)]
    have A20 : m2 20 = m1 20 := f2.at 20 (by decide) (by simp)
    have B21 : m1 21 = m 21 := f1.at 21 (by decide) (by simp)
    have B22 : m1 22 = m 22 := f1.at 22 (by decide) (by simp)
    refine hrec m2 ⟨t2.iff ?_ (by rw [bAt_s]; omega), ?_, f1'.trans (f2.mono (by simp))⟩
    · rw [all_s q0]
      unfold okB
      rw [and_assoc, and_assoc]
    · intro hP c
      rw [all_s q0] at c ⊢
      obtain ⟨c1, c2, c3⟩ := c
      have w1 := v1 ⟨hP, c1⟩ c2
      have w2 := v2 ⟨⟨hP, c1⟩, c2⟩ c3
      refine ⟨fun b b0 b1 => ?_, fun k k0 k1 => ?_, fun g g0 g1 => ?_⟩
      · obtain ⟨u1, u2⟩ := i2 hP c1 b b0 b1
        refine ⟨fun k k0 k1 => ?_, fun g g0 g1 => ?_⟩
        · rw [A20, ← u1 k k0 k1]
          exact g1 _ (by omega)
        · have y := g2 (b * 8 + g) (by omega)
          rw [y.1, y.2, B21, B22]
          exact u2 g g0 g1
      · rw [A20, Int.mul_comm]
        exact w1 k k0 k1
      · have y := w2 g g0 g1
        rw [show bAt (Z 0) i + 4 + 2 * g = bAt (Z 0) i + 3 + 2 * g + 1 from by omega]
        exact y
/-- the sum over the first bytes of a row -/
def ckS (t : Int → Int) (n : Nat) : Int := ckL ((List.range n).map (fun j : Nat => t (j : Int)))
theorem lr_at {t : Int → Int} {n j : Nat} (h : j < n) : ((List.range n).map (fun j : Nat => t (j : Int))).getD j 0 = t (j : Int) := by
  rw [List.getD_eq_getElem?_getD, List.getElem?_map, List.getElem?_range h]
  rfl
theorem ckS_s {t : Int → Int} {n : Nat} : ckS t (n + 1) = (5 * ckS t n + t (n : Int)) % 251 := by
  unfold ckS
  rw [List.range_succ, List.map_append, List.map_singleton, ck_app]
def okA (t Z0 : Int → Int) (N : Int) : Prop := N = szV Z0 ∧ ckS t (N - 1).toNat = t (N - 1) ∧ okH t ∧ okGs t Z0 ∧ okBs t Z0
def vlA (t Z0 : Int → Int) (m : zM) (o : Nat) : Prop := vlH t (m o) ∧ (∀ g, 0 ≤ g → g < Z0 1 → vlG t (m (o + 1)) (m (o + 2)) (m (o + 3)) g (5 + 5 * g)) ∧ ∀ b, 0 ≤ b → b < Z0 0 → vlB t (m (o + 4)) (m (o + 5)) (m (o + 6)) (Z0 1) b (bAt Z0 b)
theorem szV_b {Z0 : Int → Int} (n1 : 0 ≤ Z0 0 ∧ Z0 0 ≤ 6) (n2 : 0 ≤ Z0 1 ∧ Z0 1 ≤ 8) : 6 ≤ szV Z0 ∧ szV Z0 ≤ 160 ∧ 6 + 5 * Z0 1 ≤ szV Z0 ∧ bAt Z0 (Z0 0) + 1 = szV Z0 := by
  have := mul9 (x := Z0 0) (y := 3 + 2 * Z0 1) (a := 6) (b := 19) n1.1 n1.2 (by omega) (by omega)
  unfold bAt szV
  rw [Int.mul_comm (3 + 2 * Z0 1)]
  omega
theorem wp_readC {m Z : zM} {z : Nat} {N : Int} (hZ : zv m z = Z) (hz : z = 55 ∨ z = 72) (n1 : 0 ≤ Z 0 0 ∧ Z 0 0 ≤ 6) (n2 : 0 ≤ Z 0 1 ∧ Z 0 1 ≤ 8) (hl : m 2 1 = N) (hN : 0 ≤ N ∧ N ≤ 1600) (hb : ∀ j, 0 ≤ j → j < N → 0 ≤ m 3 j ∧ m 3 j ≤ 255) : wp (Im_read z 16 m) (fun r => tkF onL m r.2 ∧ ((r.1 = 1 ∧ okA (m 3) (Z 0) N ∧ vlA (m 3) (Z 0) r.2 16 ∧ r.2 16 11 = 0 ∧ r.2 16 10 = 0) ∨ (r.1 = 0 ∧ ¬ okA (m 3) (Z 0) N))) := by
  have sz := szV_b n1 n2
  have e1 : Im_sizeFor z m = some (szV (Z 0)) := by
    have := mul9 (x := Z 0 0) (y := 3 + 2 * Z 0 1) (a := 6) (b := 19) n1.1 n1.2 (by omega) (by omega)
    unfold Im_sizeFor szV
    rw [rZ0 hZ, wI_ok (x := Z 0 1 * 5) (by omega) (by omega), wI_ok (x := 2 * Z 0 1) (by omega) (by omega), wI_ok (x := 3 + 2 * Z 0 1) (by omega) (by omega), wI_ok (x := Z 0 0 * (3 + 2 * Z 0 1)) (by omega) (by omega), wI_ok (x := 6 + Z 0 1 * 5) (by omega) (by omega), wI_ok (by omega) (by omega), Int.mul_comm (Z 0 1) 5]
  unfold Im_read
  rw [e1, Option.bind_some, hl]
  by_cases c1 : N = szV (Z 0)
  · rw [if_pos c1, if_neg (show ¬ szV (Z 0) < 1 by omega), wI_ok (x := szV (Z 0) - 1) (by omega) (by omega), ← c1]
    have ec : Im_check 3 1600 (N - 1) m = some (ckS (m 3) (N - 1).toNat) := by
      refine check_C ((List.range (N - 1).toNat).map (fun j : Nat => m 3 (j : Int))) (fun j hj => ?_) (by rw [List.length_map, List.length_range]; omega) (by rw [List.length_map, List.length_range]; omega) (by decide) (fun j hj => ?_)
      · rw [List.length_map, List.length_range] at hj
        exact (lr_at hj).symm
      · rw [List.length_map, List.length_range] at hj
        rw [lr_at hj]
        exact hb _ (by omega) (by omega)
    rw [ec, Option.bind_some, rd_ok (by omega) (by omega)]
    by_cases c2 : ckS (m 3) (N - 1).toNat = m 3 (N - 1)
    · rw [if_pos c2, pf_ok, pf_ok, pf_ok]
      unfold St_forgetRows
      rw [pf_ok, pf_ok, Option.bind_some]
      have F0 : tkF onL m (upm (upm (upm (upm (upm m 52 2 ((3 : Int) + 1)) 52 3 0) 52 4 1) 16 10 0) 16 11 0) := ((((tkF.refl.put52 (by decide)).put52 (by decide)).put52 (by decide)).put (by decide) (by decide)).put (by decide) (by decide)
      have T0 : tkT (upm (upm (upm (upm (upm m 52 2 ((3 : Int) + 1)) 52 3 0) 52 4 1) 16 10 0) 16 11 0) 0 True := by
        refine tkT.put (tkT.put ⟨?_, ?_, Or.inl ⟨?_, ?_, trivial⟩⟩ (by decide)) (by decide)
        · rw [ru2 (by decide), ru2 (by decide), ru3 rfl rfl]; rfl
        · rw [ru2 (by decide), ru3 rfl rfl]; decide
        · rw [ru3 rfl rfl]
        · rw [ru2 (by decide), ru3 rfl rfl]
      have V0 : upm (upm (upm (upm (upm m 52 2 ((3 : Int) + 1)) 52 3 0) 52 4 1) 16 10 0) 16 11 0 16 11 = 0 ∧ upm (upm (upm (upm (upm m 52 2 ((3 : Int) + 1)) 52 3 0) 52 4 1) 16 10 0) 16 11 0 16 10 = 0 := ⟨ru3 rfl rfl, by rw [ru2 (by decide), ru3 rfl rfl]⟩
      generalize upm (upm (upm (upm (upm m 52 2 ((3 : Int) + 1)) 52 3 0) 52 4 1) 16 10 0) 16 11 0 = m0 at *
      have m03 : m0 3 = m 3 := F0.at 3 (by decide) (by decide)
      refine wp_bm (T0.pair 999 (by omega) (by rw [m03]; exact hb _ (by omega) (by omega)) (by rw [m03]; exact hb _ (by omega) (by omega))) (fun r1 ⟨t1, v1, f1⟩ => ?_)
      rw [pf_ok]
      rw [m03] at t1 v1
      have F1 : tkF onL m (upm r1.2 16 0 r1.1) := (F0.trans (f1.mono (by simp))).put (by decide) (by decide)
      obtain ⟨r2, e2, t2, v2, f2⟩ := (t1.put (a := 16) (i := 0) (v := r1.1) (by decide)).step 23 (by decide)
      rw [F1.at 3 (by decide) (by decide)] at t2 v2
      rw [e2, Option.bind_some, pf_ok]
      have F2 : tkF onL m (upm r2.2 16 1 r2.1) := (F1.trans (f2.mono (by simp))).put (by decide) (by decide)
      have y3 : upm r2.2 16 1 r2.1 3 = m 3 := F2.at 3 (by decide) (by decide)
      refine wp_bm ((t2.put (a := 16) (i := 1) (v := r2.1) (by decide)).pair 9999 (by omega) (by rw [y3]; exact hb _ (by omega) (by omega)) (by rw [y3]; exact hb _ (by omega) (by omega))) (fun r3 ⟨t3, v3, f3⟩ => ?_)
      rw [y3] at t3 v3
      rw [pf_ok]
      have F3 : tkF onL m (upm r3.2 16 2 r3.1) := (F2.trans (f3.mono (by simp))).put (by decide) (by decide)
      have T3 : tkT (upm r3.2 16 2 r3.1) 5 (okH (m 3)) := (t3.put (by decide)).iff ⟨fun ⟨⟨⟨_, a⟩, b⟩, c⟩ => ⟨a, b, c⟩, fun ⟨a, b, c⟩ => ⟨⟨⟨trivial, a⟩, b⟩, c⟩⟩ (by decide)
      have E0 : ∀ j, upm r3.2 16 2 r3.1 16 j = sets (sets (sets (m0 16) 0 r1.1) 1 r2.1) 2 r3.1 j := by
        intro j
        rw [upm_eq, f3.at 16 (by decide) (by simp), upm_eq, f2.at 16 (by decide) (by simp), upm_eq, f1.at 16 (by decide) (by simp)]
      have V3 : okH (m 3) → vlH (m 3) (upm r3.2 16 2 r3.1 16) := by
        intro ⟨a, b, c⟩
        unfold vlH
        rw [E0, E0, E0, sets_ne (by decide), sets_ne (by decide), sets_eq, sets_ne (by decide), sets_eq, sets_eq]
        exact ⟨v1 trivial a, v2 ⟨trivial, a⟩ b, v3 ⟨⟨trivial, a⟩, b⟩ c⟩
      have W3 : upm r3.2 16 2 r3.1 16 11 = 0 ∧ upm r3.2 16 2 r3.1 16 10 = 0 := by
        rw [E0, E0, sets_ne (by decide), sets_ne (by decide), sets_ne (by decide), sets_ne (by decide), sets_ne (by decide), sets_ne (by decide)]
        exact V0
      generalize upm r3.2 16 2 r3.1 = m1 at *
      clear E0
      have m13 : m1 3 = m 3 := F3.at 3 (by decide) (by decide)
      have zs1 : zv m1 z = Z := by rw [← hZ]; exact zv_eq fun q _ _ => F3.at _ (by omega) (by unfold onL; simp; omega)
      refine wp_for (fun n i s => Im_read_L103 (fun o2_30 o3_30 m31 => Im_read_L169 1000000 o2_30 o3_30 0 m31) n z 16 i s) (fun i s => tkT s (5 + 5 * i) (okH (m 3) ∧ ∀ g, 0 ≤ g → g < i → okG (m 3) (Z 0 0) (5 + 5 * g)) ∧ (okH (m 3) → (∀ g, 0 ≤ g → g < i → okG (m 3) (Z 0 0) (5 + 5 * g)) → ∀ g, 0 ≤ g → g < i → vlG (m 3) (s 17) (s 18) (s 19) g (5 + 5 * g)) ∧ tkF [17, 18, 19] m1 s) _ 0 (Z 0 1) ?_ ?_ 1000000 0 m1 (by omega) (by omega) (by omega) ⟨T3.iff ⟨fun t => ⟨t, all_0⟩, fun t => t.1⟩ (by omega), fun _ _ => all_0, tkF.refl⟩
      · intro n s ⟨i1, i2, i3⟩
        have zs : zv s z = Z := by rw [← zs1]; exact zv_eq fun q _ _ => i3.at _ (by omega) (by simp; omega)
        have s3 : s 3 = m 3 := by rw [i3.at 3 (by decide) (by simp), m13]
        show wp (Im_read_B103 _ _ _ _ _ _) _
        unfold Im_read_B103
        rw [rZ0 zs, if_neg (by omega)]
        refine i1.beasts zs hz n1 n2 (fun m2 x w1 w2 w3 => ?_)
        rw [s3] at w1 w2
        refine ⟨F3.trans ((i3.mono (by decide)).trans (w3.mono (by decide))), ?_⟩
        rcases w1 with ⟨a, ⟨b, c⟩, d⟩ | ⟨a, b⟩
        · refine Or.inl ⟨a, ⟨c1, c2, b, c, d⟩, ⟨?_, ?_, ?_⟩, ?_⟩
          · show vlH (m 3) (m2 16)
            rw [w3.at 16 (by decide) (by simp), i3.at 16 (by decide) (by simp)]
            exact V3 b
          · show ∀ g, 0 ≤ g → g < Z 0 1 → vlG (m 3) (m2 17) (m2 18) (m2 19) g (5 + 5 * g)
            rw [w3.at 17 (by decide) (by simp), w3.at 18 (by decide) (by simp), w3.at 19 (by decide) (by simp)]
            exact i2 b c
          · exact w2 ⟨b, c⟩ d
          · show m2 16 11 = 0 ∧ m2 16 10 = 0
            rw [w3.at 16 (by decide) (by simp), i3.at 16 (by decide) (by simp)]
            exact W3
        · exact Or.inr ⟨a, fun ⟨_, _, q1, q2, q3⟩ => b ⟨⟨q1, q2⟩, q3⟩⟩
      · intro n i s q0 q1 ⟨i1, i2, i3⟩ hrec
        have zs : zv s z = Z := by rw [← zs1]; exact zv_eq fun q _ _ => i3.at _ (by omega) (by simp; omega)
        have s3 : s 3 = m 3 := by rw [i3.at 3 (by decide) (by simp), m13]
        show wp (Im_read_B103 _ _ _ _ _ _) _
        refine i1.guest zs hz n1 n2 q0 q1 (by omega) (by rw [s3]; exact hb _ (by omega) (by omega)) (fun m2 t2 w2 f2 g2 g3 => ?_)
        rw [s3] at t2 w2
        refine hrec m2 ⟨t2.iff ?_ (by omega), ?_, i3.trans f2⟩
        · rw [all_s q0, and_assoc]
        · intro hP c
          rw [all_s q0] at c ⊢
          refine ⟨fun g g0 g1 => ?_, w2 ⟨hP, c.1⟩ c.2⟩
          obtain ⟨u1, u2, u3⟩ := i2 hP c.1 g g0 g1
          have y := g3 g (by omega)
          refine ⟨fun k k0 k1 => ?_, by rw [y.1]; exact u2, by rw [y.2]; exact u3⟩
          rw [g2 _ (by omega)]
          exact u1 k k0 k1
    · rw [if_neg c2]
      exact wp_some ⟨tkF.refl, Or.inr ⟨rfl, fun t => c2 t.2.1⟩⟩
  · rw [if_neg c1]
    exact wp_some ⟨tkF.refl, Or.inr ⟨rfl, fun t => c1 t.1⟩⟩
