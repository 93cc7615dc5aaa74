/-! the model: one token -/
def lxI (l a i : Int) (w : Int) : Int := if l = -1 then (if a + w + 1 ≤ i then a + w else -1) else l
theorem run_L {s : zM} {a q : Int} (h : Rn bL (s 1) (s 0 2) a q) (a0 : 0 ≤ a) (hN : s 0 2 ≤ 1600) (h7 : s 0 7 = 0) : wp (M_ahead_L204 1000000 a 1 0 6 0 s) (fun m' => eqO [0] s m' ∧ (∀ j, j ≠ 5 → j ≠ 7 → j ≠ 12 → m' 0 j = s 0 j) ∧ m' 0 5 = q ∧ m' 0 12 = lxI (s 0 12) a q 6 ∧ (q ≤ a + 6 → m' 0 7 = wdv (s 1) a (q - a).toNat)) := by
  have hq := h.1
  have hq2 := h.2.1
  have W := wp_for (fun n i m => M_ahead_L204 n i 1 0 6 (i - a) m) (fun i m => eqO [0] s m ∧ (∀ j, j ≠ 5 → j ≠ 7 → j ≠ 12 → m 0 j = s 0 j) ∧ m 0 12 = lxI (s 0 12) a i 6 ∧ (i ≤ a + 6 → m 0 7 = wdv (s 1) a (i - a).toNat)) (fun m' => eqO [0] s m' ∧ (∀ j, j ≠ 5 → j ≠ 7 → j ≠ 12 → m' 0 j = s 0 j) ∧ m' 0 5 = q ∧ m' 0 12 = lxI (s 0 12) a q 6 ∧ (q ≤ a + 6 → m' 0 7 = wdv (s 1) a (q - a).toNat)) a q ?_ ?_ 1000000 a s (by omega) (by omega) (by omega) ⟨eqO.refl, fun _ _ _ _ => rfl, ?_, fun _ => ?_⟩
  · rw [show a - a = 0 from by omega] at W
    exact W
  · intro n m ⟨i1, i2, i3, i4⟩
    show wp (M_ahead_B204 _ _ _ _ _ _ _) _
    have e1 : m 1 = s 1 := i1 1 (by simp)
    have fin : wp (pf 0 5 q m (fun m9 => some m9)) (fun m' => eqO [0] s m' ∧ (∀ j, j ≠ 5 → j ≠ 7 → j ≠ 12 → m' 0 j = s 0 j) ∧ m' 0 5 = q ∧ m' 0 12 = lxI (s 0 12) a q 6 ∧ (q ≤ a + 6 → m' 0 7 = wdv (s 1) a (q - a).toNat)) := by
      rw [pf_ok]
      exact wp_some ⟨i1.put (by simp), fun j h5 h7 h12 => by rw [ru2 h5]; exact i2 j h5 h7 h12, ru3 rfl rfl, by rw [ru2 (by decide)]; exact i3, fun w => by rw [ru2 (by decide)]; exact i4 w⟩
    unfold M_ahead_B204
    rw [i2 2 (by decide) (by decide) (by decide)]
    by_cases c : q < s 0 2
    · rw [if_pos c, if_neg (by decide), rd_ok (by omega) (by omega), e1, isL_M0 (h.end c), Option.bind_some, if_pos rfl]
      exact fin
    · rw [if_neg c]
      exact fin
  · intro n i m q0 q1 ⟨i1, i2, i3, i4⟩ hr
    obtain ⟨w1, w2⟩ := h.in q0 q1
    have w3 := w2
    rw [bL_t] at w3
    have e1 : m 1 = s 1 := i1 1 (by simp)
    have e : i - a + 1 = i + 1 - a := by omega
    have hr' : ∀ s', eqO [0] s s' → (∀ j, j ≠ 5 → j ≠ 7 → j ≠ 12 → s' 0 j = s 0 j) → s' 0 12 = lxI (s 0 12) a (i + 1) 6 → (i + 1 ≤ a + 6 → s' 0 7 = wdv (s 1) a (i + 1 - a).toNat) → wp (M_ahead_L204 n (i + 1) 1 0 6 (i + 1 - a) s') (fun m' => eqO [0] s m' ∧ (∀ j, j ≠ 5 → j ≠ 7 → j ≠ 12 → m' 0 j = s 0 j) ∧ m' 0 5 = q ∧ m' 0 12 = lxI (s 0 12) a q 6 ∧ (q ≤ a + 6 → m' 0 7 = wdv (s 1) a (q - a).toNat)) := fun s' a1 a2 a3 a4 => hr s' ⟨a1, a2, a3, a4⟩
    have tail : ∀ s', eqO [0] s s' → (∀ j, j ≠ 5 → j ≠ 7 → j ≠ 12 → s' 0 j = s 0 j) → s' 0 12 = lxI (s 0 12) a (i + 1) 6 → (i ≤ a + 6 → s' 0 7 = wdv (s 1) a (i - a).toNat) → wp (M_ahead_b263 (M_ahead_L204 n) i 1 0 6 (i - a) s') (fun m' => eqO [0] s m' ∧ (∀ j, j ≠ 5 → j ≠ 7 → j ≠ 12 → m' 0 j = s 0 j) ∧ m' 0 5 = q ∧ m' 0 12 = lxI (s 0 12) a q 6 ∧ (q ≤ a + 6 → m' 0 7 = wdv (s 1) a (q - a).toNat)) := by
      intro s' a1 a2 a3 a4
      unfold M_ahead_b263
      have f1 : s' 1 = s 1 := a1 1 (by simp)
      by_cases c : i - a < 6
      · have ww := a4 (by omega)
        have wb := wdv_b (t := s 1) (a := a) (i - a).toNat (fun j j0 j1 => (h.in j0 (by omega)).2)
        have wp2 := pw256 (k := (i - a).toNat) (by omega)
        rw [if_pos c, if_neg (by decide), rd_ok (by omega) (by omega), pf_ok, f1, ww, orL_2 wb.1 (by omega) (by omega) (by omega)]
        unfold M_ahead_b293
        rw [if_pos c, if_pos rfl, wI_ok (x := i + 1) (by omega) (by omega), wI_ok (x := i - a + 1) (by omega) (by omega), e]
        refine hr' _ (a1.put (by simp)) (fun j h5 h7 h12 => by rw [ru2 h7]; exact a2 j h5 h7 h12) (by rw [ru2 (by decide)]; exact a3) (fun _ => ?_)
        rw [ru3 rfl rfl, show (i + 1 - a).toNat = (i - a).toNat + 1 from by omega]
        show _ = wdv (s 1) a (i - a).toNat * 256 + s 1 (a + (((i - a).toNat : Nat) : Int))
        rw [show a + (((i - a).toNat : Nat) : Int) = i from by omega]
      · rw [if_neg c]
        unfold M_ahead_b293
        rw [if_neg c, wI_ok (x := i + 1) (by omega) (by omega), wI_ok (x := i - a + 1) (by omega) (by omega), e]
        exact hr' _ a1 a2 a3 (fun w => by omega)
    show wp (M_ahead_B204 _ _ _ _ _ _ _) _
    unfold M_ahead_B204
    rw [i2 2 (by decide) (by decide) (by decide), if_pos w1, if_neg (by decide), rd_ok (by omega) (by omega), e1, isL_M1 w2, Option.bind_some, if_neg (by decide)]
    unfold M_ahead_b243
    by_cases c6 : i - a = 6
    · rw [if_pos c6]
      by_cases cl : s 0 12 = -1
      · have : m 0 12 = -1 := by
          rw [i3]
          unfold lxI
          rw [if_pos cl, if_neg (by omega)]
        rw [if_pos this, pf_ok]
        refine tail _ (i1.put (by simp)) (fun j h5 h7 h12 => by rw [ru2 h12]; exact i2 j h5 h7 h12) ?_ (fun w => by rw [ru2 (by decide)]; exact i4 w)
        rw [ru3 rfl rfl]
        unfold lxI
        rw [if_pos cl, if_pos (by omega)]
        omega
      · have : m 0 12 = s 0 12 := by
          rw [i3]
          unfold lxI
          rw [if_neg cl]
        rw [if_neg (by omega)]
        refine tail _ i1 i2 ?_ i4
        rw [this]
        unfold lxI
        rw [if_neg cl]
    · rw [if_neg c6]
      refine tail _ i1 i2 ?_ i4
      rw [i3]
      unfold lxI
      by_cases cl : s 0 12 = -1
      · rw [if_pos cl, if_pos cl]
        by_cases c7 : a + 6 + 1 ≤ i
        · rw [if_pos c7, if_pos (by omega)]
        · rw [if_neg c7, if_neg (by omega)]
      · rw [if_neg cl, if_neg cl]
  · unfold lxI
    by_cases cl : s 0 12 = -1
    · rw [if_pos cl, if_neg (by omega), cl]
    · rw [if_neg cl]
  · rw [h7, show (a - a).toNat = 0 from by omega]
    rfl
theorem run_D {s : zM} {a q : Int} (h : Rn bD (s 1) (s 0 2) a q) (a0 : 0 ≤ a) (hN : s 0 2 ≤ 1600) (h7 : s 0 6 = 0) : wp (M_ahead_L204 1000000 a 0 1 4 0 s) (fun m' => eqO [0] s m' ∧ (∀ j, j ≠ 5 → j ≠ 6 → j ≠ 12 → m' 0 j = s 0 j) ∧ m' 0 5 = q ∧ m' 0 12 = lxI (s 0 12) a q 4 ∧ (q ≤ a + 4 → m' 0 6 = nuv (s 1) a (q - a).toNat)) := by
  have hq := h.1
  have hq2 := h.2.1
  have W := wp_for (fun n i m => M_ahead_L204 n i 0 1 4 (i - a) m) (fun i m => eqO [0] s m ∧ (∀ j, j ≠ 5 → j ≠ 6 → j ≠ 12 → m 0 j = s 0 j) ∧ m 0 12 = lxI (s 0 12) a i 4 ∧ (i ≤ a + 4 → m 0 6 = nuv (s 1) a (i - a).toNat)) (fun m' => eqO [0] s m' ∧ (∀ j, j ≠ 5 → j ≠ 6 → j ≠ 12 → m' 0 j = s 0 j) ∧ m' 0 5 = q ∧ m' 0 12 = lxI (s 0 12) a q 4 ∧ (q ≤ a + 4 → m' 0 6 = nuv (s 1) a (q - a).toNat)) a q ?_ ?_ 1000000 a s (by omega) (by omega) (by omega) ⟨eqO.refl, fun _ _ _ _ => rfl, ?_, fun _ => ?_⟩
  · rw [show a - a = 0 from by omega] at W
    exact W
  · intro n m ⟨i1, i2, i3, i4⟩
    show wp (M_ahead_B204 _ _ _ _ _ _ _) _
    have e1 : m 1 = s 1 := i1 1 (by simp)
    have fin : wp (pf 0 5 q m (fun m9 => some m9)) (fun m' => eqO [0] s m' ∧ (∀ j, j ≠ 5 → j ≠ 6 → j ≠ 12 → m' 0 j = s 0 j) ∧ m' 0 5 = q ∧ m' 0 12 = lxI (s 0 12) a q 4 ∧ (q ≤ a + 4 → m' 0 6 = nuv (s 1) a (q - a).toNat)) := by
      rw [pf_ok]
      exact wp_some ⟨i1.put (by simp), fun j h5 h7 h12 => by rw [ru2 h5]; exact i2 j h5 h7 h12, ru3 rfl rfl, by rw [ru2 (by decide)]; exact i3, fun w => by rw [ru2 (by decide)]; exact i4 w⟩
    unfold M_ahead_B204
    rw [i2 2 (by decide) (by decide) (by decide)]
    by_cases c : q < s 0 2
    · rw [if_pos c, if_pos rfl, rd_ok (by omega) (by omega), e1, isD_M0 (h.end c), Option.bind_some, if_pos rfl]
      exact fin
    · rw [if_neg c]
      exact fin
  · intro n i m q0 q1 ⟨i1, i2, i3, i4⟩ hr
    obtain ⟨w1, w2⟩ := h.in q0 q1
    have w3 := w2
    rw [bD_t] at w3
    have e1 : m 1 = s 1 := i1 1 (by simp)
    have e : i - a + 1 = i + 1 - a := by omega
    have hr' : ∀ s', eqO [0] s s' → (∀ j, j ≠ 5 → j ≠ 6 → j ≠ 12 → s' 0 j = s 0 j) → s' 0 12 = lxI (s 0 12) a (i + 1) 4 → (i + 1 ≤ a + 4 → s' 0 6 = nuv (s 1) a (i + 1 - a).toNat) → wp (M_ahead_L204 n (i + 1) 0 1 4 (i + 1 - a) s') (fun m' => eqO [0] s m' ∧ (∀ j, j ≠ 5 → j ≠ 6 → j ≠ 12 → m' 0 j = s 0 j) ∧ m' 0 5 = q ∧ m' 0 12 = lxI (s 0 12) a q 4 ∧ (q ≤ a + 4 → m' 0 6 = nuv (s 1) a (q - a).toNat)) := fun s' a1 a2 a3 a4 => hr s' ⟨a1, a2, a3, a4⟩
    have tail : ∀ s', eqO [0] s s' → (∀ j, j ≠ 5 → j ≠ 6 → j ≠ 12 → s' 0 j = s 0 j) → s' 0 12 = lxI (s 0 12) a (i + 1) 4 → (i ≤ a + 4 → s' 0 6 = nuv (s 1) a (i - a).toNat) → wp (M_ahead_b263 (M_ahead_L204 n) i 0 1 4 (i - a) s') (fun m' => eqO [0] s m' ∧ (∀ j, j ≠ 5 → j ≠ 6 → j ≠ 12 → m' 0 j = s 0 j) ∧ m' 0 5 = q ∧ m' 0 12 = lxI (s 0 12) a q 4 ∧ (q ≤ a + 4 → m' 0 6 = nuv (s 1) a (q - a).toNat)) := by
      intro s' a1 a2 a3 a4
      unfold M_ahead_b263
      have f1 : s' 1 = s 1 := a1 1 (by simp)
      by_cases c : i - a < 4
      · have ww := a4 (by omega)
        have wb := nuv_b (t := s 1) (a := a) (i - a).toNat (fun j j0 j1 => (h.in j0 (by omega)).2)
        have wp2 := p10 (k := (i - a).toNat) (by omega)
        rw [if_pos c, if_pos rfl]
        unfold M_ahead_b293
        rw [if_pos c, if_neg (by decide), rd_ok (by omega) (by omega), pf_ok, f1, ww, wI_ok (x := 10 * nuv (s 1) a (i - a).toNat) (by omega) (by omega), wI_ok (x := 10 * nuv (s 1) a (i - a).toNat + s 1 i) (by omega) (by omega), wI_ok (x := 10 * nuv (s 1) a (i - a).toNat + s 1 i - 48) (by omega) (by omega), wI_ok (x := i + 1) (by omega) (by omega), wI_ok (x := i - a + 1) (by omega) (by omega), e]
        refine hr' _ (a1.put (by simp)) (fun j h5 h7 h12 => by rw [ru2 h7]; exact a2 j h5 h7 h12) (by rw [ru2 (by decide)]; exact a3) (fun _ => ?_)
        rw [ru3 rfl rfl, show (i + 1 - a).toNat = (i - a).toNat + 1 from by omega]
        show _ = nuv (s 1) a (i - a).toNat * 10 + (s 1 (a + (((i - a).toNat : Nat) : Int)) - 48)
        rw [show a + (((i - a).toNat : Nat) : Int) = i from by omega]
        omega
      · rw [if_neg c]
        unfold M_ahead_b293
        rw [if_neg c, wI_ok (x := i + 1) (by omega) (by omega), wI_ok (x := i - a + 1) (by omega) (by omega), e]
        exact hr' _ a1 a2 a3 (fun w => by omega)
    show wp (M_ahead_B204 _ _ _ _ _ _ _) _
    unfold M_ahead_B204
    rw [i2 2 (by decide) (by decide) (by decide), if_pos w1, if_pos rfl, rd_ok (by omega) (by omega), e1, isD_M1 w2, Option.bind_some, if_neg (by decide)]
    unfold M_ahead_b243
    by_cases c6 : i - a = 4
    · rw [if_pos c6]
      by_cases cl : s 0 12 = -1
      · have : m 0 12 = -1 := by
          rw [i3]
          unfold lxI
          rw [if_pos cl, if_neg (by omega)]
        rw [if_pos this, pf_ok]
        refine tail _ (i1.put (by simp)) (fun j h5 h7 h12 => by rw [ru2 h12]; exact i2 j h5 h7 h12) ?_ (fun w => by rw [ru2 (by decide)]; exact i4 w)
        rw [ru3 rfl rfl]
        unfold lxI
        rw [if_pos cl, if_pos (by omega)]
        omega
      · have : m 0 12 = s 0 12 := by
          rw [i3]
          unfold lxI
          rw [if_neg cl]
        rw [if_neg (by omega)]
        refine tail _ i1 i2 ?_ i4
        rw [this]
        unfold lxI
        rw [if_neg cl]
    · rw [if_neg c6]
      refine tail _ i1 i2 ?_ i4
      rw [i3]
      unfold lxI
      by_cases cl : s 0 12 = -1
      · rw [if_pos cl, if_pos cl]
        by_cases c7 : a + 4 + 1 ≤ i
        · rw [if_pos c7, if_pos (by omega)]
        · rw [if_neg c7, if_neg (by omega)]
      · rw [if_neg cl, if_neg cl]
  · unfold lxI
    by_cases cl : s 0 12 = -1
    · rw [if_pos cl, if_neg (by omega), cl]
    · rw [if_neg cl]
  · rw [h7, show (a - a).toNat = 0 from by omega]
    rfl
/-- a token that the model has read -/
def TK (a kd bad val : Int) (m : zM) : Prop := m 0 4 = a ∧ ((kd = 256 ∧ m 0 3 = 0 ∧ m 0 12 = -1 ∧ m 0 5 = m 0 4) ∨ (kd = 257 ∧ m 0 12 = bad ∧ 0 ≤ bad ∧ m 0 3 ≠ 0) ∨ (0 ≤ kd ∧ kd ≤ 255 ∧ m 0 3 = 3 ∧ m 0 6 = kd ∧ m 0 12 = -1) ∨ (kd = 259 ∧ m 0 3 = 2 ∧ m 0 6 = val ∧ 0 ≤ val ∧ val ≤ 9999 ∧ m 0 12 = -1) ∨ (m 0 3 = 1 ∧ m 0 12 = -1 ∧ nmR val (m 0 7) ∧ knd val kd))
def frH (m m' : zM) : Prop := eqO [0] m m' ∧ ∀ j, j ≠ 3 → j ≠ 4 → j ≠ 5 → j ≠ 6 → j ≠ 7 → j ≠ 12 → m' 0 j = m 0 j
theorem frH.refl {m : zM} : frH m m := ⟨eqO.refl, fun _ _ _ _ _ _ _ => rfl⟩
theorem frH.trans {m m' m2 : zM} (h : frH m m') (h2 : frH m' m2) : frH m m2 := ⟨h.1.trans h2.1, fun j a b c d e f => by rw [h2.2 j a b c d e f, h.2 j a b c d e f]⟩
theorem frH.put {m m' : zM} {i v : Int} (h : frH m m') (hi : i = 3 ∨ i = 4 ∨ i = 5 ∨ i = 6 ∨ i = 7 ∨ i = 12) : frH m (upm m' 0 i v) := ⟨h.1.put (by simp), fun j a b c d e f => by rw [ru2 (by omega)]; exact h.2 j a b c d e f⟩
theorem tok_M {s : zM} {N a kd bad val e : Int} {gl : Prop} (h4 : s 0 4 = a) (h2 : s 0 2 = N) (h12 : gl ∧ s 0 12 = a ∨ ¬ gl ∧ s 0 12 = -1) (hN : N ≤ 1600) (a0 : 0 ≤ a) (a1 : a < N) (by1 : 0 ≤ s 1 a ∧ s 1 a ≤ 255) (tc : TC (s 1) N a gl kd bad val e) {x2 x3 : Int} (e2 : x2 = if bL (s 1 a) = true then 1 else 0) (e3 : x3 = if bD (s 1 a) = true then 1 else 0) (hg : gl → bL (s 1 a) = true ∨ bD (s 1 a) = true) : wp (M_ahead_b135 a x2 x3 s) (fun m' => frH s m' ∧ TK a kd bad val m' ∧ (kd ≠ 256 → kd ≠ 257 → m' 0 5 = e)) := by
  unfold M_ahead_b135
  rw [pf_ok, pf_ok, pf_ok, wI_ok (by omega) (by omega), pf_ok]
  have F : frH s (upm (upm (upm (upm s 0 6 0) 0 7 0) 0 3 3) 0 5 (a + 1)) := (((frH.refl.put (by simp)).put (by simp)).put (by simp)).put (by simp)
  have r1 : upm (upm (upm (upm s 0 6 0) 0 7 0) 0 3 3) 0 5 (a + 1) 1 = s 1 := F.1 1 (by simp)
  have r4 : upm (upm (upm (upm s 0 6 0) 0 7 0) 0 3 3) 0 5 (a + 1) 0 4 = a := by rw [ru2 (by decide), ru2 (by decide), ru2 (by decide), ru2 (by decide)]; exact h4
  have r2 : upm (upm (upm (upm s 0 6 0) 0 7 0) 0 3 3) 0 5 (a + 1) 0 2 = N := by rw [ru2 (by decide), ru2 (by decide), ru2 (by decide), ru2 (by decide)]; exact h2
  have r12 : upm (upm (upm (upm s 0 6 0) 0 7 0) 0 3 3) 0 5 (a + 1) 0 12 = s 0 12 := by rw [ru2 (by decide), ru2 (by decide), ru2 (by decide), ru2 (by decide)]
  have r3 : upm (upm (upm (upm s 0 6 0) 0 7 0) 0 3 3) 0 5 (a + 1) 0 3 = 3 := by rw [ru2 (by decide), ru3 rfl rfl]
  have r5 : upm (upm (upm (upm s 0 6 0) 0 7 0) 0 3 3) 0 5 (a + 1) 0 5 = a + 1 := ru3 rfl rfl
  have r6 : upm (upm (upm (upm s 0 6 0) 0 7 0) 0 3 3) 0 5 (a + 1) 0 6 = 0 := by rw [ru2 (by decide), ru2 (by decide), ru2 (by decide), ru3 rfl rfl]
  have r7 : upm (upm (upm (upm s 0 6 0) 0 7 0) 0 3 3) 0 5 (a + 1) 0 7 = 0 := by rw [ru2 (by decide), ru2 (by decide), ru3 rfl rfl]
  generalize upm (upm (upm (upm s 0 6 0) 0 7 0) 0 3 3) 0 5 (a + 1) = u at *
  by_cases cl : bL (s 1 a) = true
  · have cd := bLD cl
    rw [if_pos cl] at e2
    rw [cd, if_neg (by decide)] at e3
    subst e2
    subst e3
    rw [if_neg (by decide)]
    unfold M_ahead_b176
    rw [if_neg (by decide)]
    unfold M_ahead_b186
    rw [pf_ok, if_neg (by decide)]
    unfold M_ahead_b199
    have G : frH s (upm u 0 3 1) := F.put (by simp)
    have x3 : upm u 0 3 1 0 3 = 1 := ru3 rfl rfl
    have x1 : upm u 0 3 1 1 = s 1 := by rw [upm_ne (by decide), r1]
    have x2 : upm u 0 3 1 0 2 = N := by rw [ru2 (by decide), r2]
    have x4 : upm u 0 3 1 0 4 = a := by rw [ru2 (by decide), r4]
    have x12 : upm u 0 3 1 0 12 = s 0 12 := by rw [ru2 (by decide), r12]
    have x7 : upm u 0 3 1 0 7 = 0 := by rw [ru2 (by decide), r7]
    generalize upm u 0 3 1 = w at *
    obtain ⟨q, hq⟩ := Rn.ex (f := bL) (t := s 1) (N := N) (p := a) (by omega)
    have nz := hq.nz a1 cl
    have uq : ∀ q', Rn bL (s 1) N a q' → q' = q := fun q' h' => by
      have x := h'.1
      have y := h'.2.1
      have z := hq.1
      have z2 := hq.2.1
      rcases Int.lt_trichotomy q' q with t | t | t
      · have t1 := (hq.in (show a ≤ q' by omega) t).2
        rw [h'.end (by omega)] at t1
        cases t1
      · exact t
      · have t1 := (h'.in (show a ≤ q by omega) t).2
        rw [hq.end (by omega)] at t1
        cases t1
    refine wp_mono (run_L (s := w) (a := a) (q := q) (by rw [x1, x2]; exact hq) a0 (by rw [x2]; exact hN) x7) (fun m' ⟨k1, k2, k3, k4, k5⟩ => ?_)
    rw [x1] at k5
    rw [x12] at k4
    have m3 : m' 0 3 = 1 := by rw [k2 3 (by decide) (by decide) (by decide)]; exact x3
    have m4 : m' 0 4 = a := by rw [k2 4 (by decide) (by decide) (by decide)]; exact x4
    refine ⟨G.trans ⟨k1, fun j _ _ a5 _ a7 a12 => k2 j a5 a7 a12⟩, ?_⟩
    rcases tc with ⟨t1, _⟩ | ⟨_, t1, _⟩ | ⟨_, _, t1, t2, t3⟩ | ⟨_, _, t1, q', t2, t3⟩ | ⟨_, t1, _⟩
    · omega
    · rw [cl] at t1; cases t1
    · refine ⟨⟨m4, Or.inr (Or.inl ⟨t2, ?_, by omega, by omega⟩)⟩, fun _ t => absurd t2 t⟩
      rcases h12 with ⟨_, u2⟩ | ⟨u1, _⟩
      · rw [k4, u2]
        unfold lxI
        rw [if_neg (by omega), t3]
      · exact absurd t1 u1
    · have eq := uq q' t2
      subst eq
      have n12 : s 0 12 = -1 := by
        rcases h12 with ⟨u1, _⟩ | ⟨_, u2⟩
        · exact absurd u1 t1
        · exact u2
      rw [n12] at k4
      unfold lxI at k4
      rw [if_pos rfl] at k4
      rcases t3 with ⟨v1, v2, v3⟩ | ⟨v1, v2, v3, v4⟩
      · refine ⟨⟨m4, Or.inr (Or.inl ⟨v2, ?_, by omega, by omega⟩)⟩, fun _ t => absurd v2 t⟩
        rw [k4, if_pos (by omega), v3]
      · rw [if_neg (by omega)] at k4
        refine ⟨⟨m4, Or.inr (Or.inr (Or.inr (Or.inr ⟨m3, k4, ?_, v4⟩)))⟩, fun _ _ => by rw [k3, v2]⟩
        rw [k5 v1, v3]
        exact nm_R (by omega) (by omega) (fun j j0 j1 => (hq.in j0 (by omega)).2)
    · rw [cd] at t1; cases t1
  · have cl' := b_tf cl
    rw [cl', if_neg (by decide)] at e2
    subst e2
    rw [if_pos rfl]
    by_cases cd : bD (s 1 a) = true
    · rw [if_pos cd] at e3
      subst e3
      rw [if_neg (by decide)]
      unfold M_ahead_b176
      rw [if_pos rfl]
      unfold M_ahead_b186
      rw [pf_ok, if_pos rfl]
      unfold M_ahead_b199
      have G : frH s (upm u 0 3 2) := F.put (by simp)
      have x3 : upm u 0 3 2 0 3 = 2 := ru3 rfl rfl
      have x1 : upm u 0 3 2 1 = s 1 := by rw [upm_ne (by decide), r1]
      have x2 : upm u 0 3 2 0 2 = N := by rw [ru2 (by decide), r2]
      have x4 : upm u 0 3 2 0 4 = a := by rw [ru2 (by decide), r4]
      have x12 : upm u 0 3 2 0 12 = s 0 12 := by rw [ru2 (by decide), r12]
      have x6 : upm u 0 3 2 0 6 = 0 := by rw [ru2 (by decide), r6]
      generalize upm u 0 3 2 = w at *
      obtain ⟨q, hq⟩ := Rn.ex (f := bD) (t := s 1) (N := N) (p := a) (by omega)
      have nz := hq.nz a1 cd
      have uq : ∀ q', Rn bD (s 1) N a q' → q' = q := fun q' h' => by
        have x := h'.1
        have y := h'.2.1
        have z := hq.1
        have z2 := hq.2.1
        rcases Int.lt_trichotomy q' q with t | t | t
        · have t1 := (hq.in (show a ≤ q' by omega) t).2
          rw [h'.end (by omega)] at t1
          cases t1
        · exact t
        · have t1 := (h'.in (show a ≤ q by omega) t).2
          rw [hq.end (by omega)] at t1
          cases t1
      refine wp_mono (run_D (s := w) (a := a) (q := q) (by rw [x1, x2]; exact hq) a0 (by rw [x2]; exact hN) x6) (fun m' ⟨k1, k2, k3, k4, k5⟩ => ?_)
      rw [x1] at k5
      rw [x12] at k4
      have m3 : m' 0 3 = 2 := by rw [k2 3 (by decide) (by decide) (by decide)]; exact x3
      have m4 : m' 0 4 = a := by rw [k2 4 (by decide) (by decide) (by decide)]; exact x4
      refine ⟨G.trans ⟨k1, fun j _ _ a5 a6 _ a12 => k2 j a5 a6 a12⟩, ?_⟩
      rcases tc with ⟨t1, _⟩ | ⟨_, _, t1, _⟩ | ⟨_, _, t1, t2, t3⟩ | ⟨_, t1, _⟩ | ⟨_, _, t1, q', t2, t3⟩
      · omega
      · rw [cd] at t1; cases t1
      · refine ⟨⟨m4, Or.inr (Or.inl ⟨t2, ?_, by omega, by omega⟩)⟩, fun _ t => absurd t2 t⟩
        rcases h12 with ⟨_, u2⟩ | ⟨u1, _⟩
        · rw [k4, u2]
          unfold lxI
          rw [if_neg (by omega), t3]
        · exact absurd t1 u1
      · rw [cl'] at t1; cases t1
      · have eq := uq q' t2
        subst eq
        have n12 : s 0 12 = -1 := by
          rcases h12 with ⟨u1, _⟩ | ⟨_, u2⟩
          · exact absurd u1 t1
          · exact u2
        rw [n12] at k4
        unfold lxI at k4
        rw [if_pos rfl] at k4
        rcases t3 with ⟨v1, v2, v3⟩ | ⟨v1, v2, v3, v4⟩
        · refine ⟨⟨m4, Or.inr (Or.inl ⟨v2, ?_, by omega, by omega⟩)⟩, fun _ t => absurd v2 t⟩
          rw [k4, if_pos (by omega), v3]
        · rw [if_neg (by omega)] at k4
          have nb := nuv_b (t := s 1) (a := a) (q' - a).toNat (fun j j0 j1 => (hq.in j0 (by omega)).2)
          have np := p10 (k := (q' - a).toNat) (by omega)
          refine ⟨⟨m4, Or.inr (Or.inr (Or.inr (Or.inl ⟨v4, m3, by rw [k5 v1, v3], by rw [v3]; exact nb.1, by rw [v3]; omega, k4⟩)))⟩, fun _ _ => by rw [k3, v2]⟩
    · have cd' := b_tf cd
      rw [cd', if_neg (by decide)] at e3
      subst e3
      rw [if_pos rfl, rd_ok a0 (by omega), pf_ok, r1]
      have n12 : s 0 12 = -1 := by
        rcases h12 with ⟨u1, _⟩ | ⟨_, u2⟩
        · rcases hg u1 with t | t
          · exact absurd t cl
          · exact absurd t cd
        · exact u2
      refine wp_some ⟨F.put (by simp), ?_⟩
      rcases tc with ⟨t1, _⟩ | ⟨_, _, _, t1, t2⟩ | ⟨_, t1, _⟩ | ⟨_, t1, _⟩ | ⟨_, t1, _⟩
      · omega
      · refine ⟨⟨?_, Or.inr (Or.inr (Or.inl ⟨by rw [t1]; exact by1.1, by rw [t1]; exact by1.2, ?_, ?_, ?_⟩))⟩, fun _ _ => ?_⟩
        · rw [ru2 (by decide)]; exact r4
        · rw [ru2 (by decide)]; exact r3
        · rw [ru3 rfl rfl, t1]
        · rw [ru2 (by decide), r12]; exact n12
        · rw [ru2 (by decide), r5, t2]
      · rcases t1 with t | t
        · exact absurd t cl
        · exact absurd t cd
      · exact absurd t1 cl
      · exact absurd t1 cd
theorem ahead_M {m : zM} {N a kd bad val e : Int} {gl : Prop} (hN : m 0 2 = N) (N1 : N ≤ 1600) (hp : 0 ≤ m 0 5) (hr : Rn bB (m 1) N (m 0 5) a) (by1 : ∀ j, 0 ≤ j → j < N → 0 ≤ m 1 j ∧ m 1 j ≤ 255) (tc : TC (m 1) N a gl kd bad val e) (hg : a < N → (bL (m 1 a) = true ∨ bD (m 1 a) = true) → (gl ↔ (0 < a ∧ (bL (m 1 (a - 1)) = true ∨ bD (m 1 (a - 1)) = true)))) (hn : a < N → gl → bL (m 1 a) = true ∨ bD (m 1 a) = true) : wp (M_ahead m) (fun m' => frH m m' ∧ TK a kd bad val m' ∧ (kd ≠ 256 → kd ≠ 257 → m' 0 5 = e)) := by
  have a0 := hr.1
  have aN := hr.2.1
  unfold M_ahead
  rw [skip_M (q := a) (by rw [hN]; exact hr) hp (by rw [hN]; exact N1)]
  unfold M_ahead_b41
  rw [pf_ok, pf_ok, pf_ok, pf_ok]
  have F : frH m (upm (upm (upm (upm m 0 4 a) 0 5 a) 0 3 0) 0 12 (-1)) := (((frH.refl.put (by simp)).put (by simp)).put (by simp)).put (by simp)
  have r1 : upm (upm (upm (upm m 0 4 a) 0 5 a) 0 3 0) 0 12 (-1) 1 = m 1 := F.1 1 (by simp)
  have r2 : upm (upm (upm (upm m 0 4 a) 0 5 a) 0 3 0) 0 12 (-1) 0 2 = N := by rw [ru2 (by decide), ru2 (by decide), ru2 (by decide), ru2 (by decide)]; exact hN
  have r4 : upm (upm (upm (upm m 0 4 a) 0 5 a) 0 3 0) 0 12 (-1) 0 4 = a := by rw [ru2 (by decide), ru2 (by decide), ru2 (by decide), ru3 rfl rfl]
  have r3 : upm (upm (upm (upm m 0 4 a) 0 5 a) 0 3 0) 0 12 (-1) 0 3 = 0 := by rw [ru2 (by decide), ru3 rfl rfl]
  have r12 : upm (upm (upm (upm m 0 4 a) 0 5 a) 0 3 0) 0 12 (-1) 0 12 = -1 := ru3 rfl rfl
  have r5 : upm (upm (upm (upm m 0 4 a) 0 5 a) 0 3 0) 0 12 (-1) 0 5 = a := by rw [ru2 (by decide), ru2 (by decide), ru3 rfl rfl]
  generalize upm (upm (upm (upm m 0 4 a) 0 5 a) 0 3 0) 0 12 (-1) = s at *
  rw [r2]
  by_cases c1 : a < N
  · have ba := by1 a (by omega) c1
    rw [if_pos c1, rd_ok (by omega) (by omega), r1]
    have go : ∀ u : zM, frH m u → u 1 = m 1 → u 0 4 = a → u 0 2 = N → (gl ∧ u 0 12 = a ∨ ¬ gl ∧ u 0 12 = -1) → ∀ x2 x3, x2 = (if bL (m 1 a) = true then (1 : Int) else 0) → x3 = (if bD (m 1 a) = true then (1 : Int) else 0) → wp (M_ahead_b135 a x2 x3 u) (fun m' => frH m m' ∧ TK a kd bad val m' ∧ (kd ≠ 256 → kd ≠ 257 → m' 0 5 = e)) := by
      intro u f u1 u4 u2 u12 x2 x3 e2 e3
      refine wp_mono (tok_M (s := u) (N := N) (a := a) (kd := kd) (bad := bad) (val := val) (e := e) (gl := gl) u4 u2 u12 N1 (by omega) c1 (by rw [u1]; exact ba) (by rw [u1]; exact tc) (by rw [u1]; exact e2) (by rw [u1]; exact e3) (by rw [u1]; exact hn c1)) (fun m' ⟨k1, k2⟩ => ⟨f.trans k1, k2⟩)
    have glue : ∀ x2 x3, x2 = (if bL (m 1 a) = true then (1 : Int) else 0) → x3 = (if bD (m 1 a) = true then (1 : Int) else 0) → (bL (m 1 a) = true ∨ bD (m 1 a) = true) → wp (M_ahead_b98 a x2 x3 s) (fun m' => frH m m' ∧ TK a kd bad val m' ∧ (kd ≠ 256 → kd ≠ 257 → m' 0 5 = e)) := by
      intro x2 x3 e2 e3 hal
      have g := hg c1 hal
      have g130 : gl → wp (M_ahead_b130 a x2 x3 s) (fun m' => frH m m' ∧ TK a kd bad val m' ∧ (kd ≠ 256 → kd ≠ 257 → m' 0 5 = e)) := by
        intro hgl
        unfold M_ahead_b130
        rw [pf_ok]
        exact go _ (F.put (by simp)) (by rw [upm_ne (by decide), r1]) (by rw [ru2 (by decide), r4]) (by rw [ru2 (by decide), r2]) (Or.inl ⟨hgl, ru3 rfl rfl⟩) x2 x3 e2 e3
      have g135 : ¬ gl → wp (M_ahead_b135 a x2 x3 s) (fun m' => frH m m' ∧ TK a kd bad val m' ∧ (kd ≠ 256 → kd ≠ 257 → m' 0 5 = e)) := fun hgl => go s F r1 r4 r2 (Or.inr ⟨hgl, r12⟩) x2 x3 e2 e3
      unfold M_ahead_b98
      by_cases c0 : 0 < a
      · rw [if_pos c0, wI_ok (x := a - 1) (by omega) (by omega), rd_ok (by omega) (by omega), r1]
        by_cases cl : bL (m 1 (a - 1)) = true
        · rw [isL_M1 cl, Option.bind_some, if_neg (by decide)]
          exact g130 (g.mpr ⟨c0, Or.inl cl⟩)
        · rw [isL_M0 (b_tf cl), Option.bind_some, if_pos rfl, rd_ok (by omega) (by omega), r1]
          by_cases cd : bD (m 1 (a - 1)) = true
          · rw [isD_M1 cd, Option.bind_some, if_neg (by decide)]
            exact g130 (g.mpr ⟨c0, Or.inr cd⟩)
          · rw [isD_M0 (b_tf cd), Option.bind_some, if_pos rfl]
            refine g135 (fun w => ?_)
            rcases (g.mp w).2 with t | t
            · exact cl t
            · exact cd t
      · rw [if_neg c0]
        exact g135 (fun w => c0 (g.mp w).1)
    by_cases cl : bL (m 1 a) = true
    · rw [isL_M1 cl, Option.bind_some, rd_ok (by omega) (by omega), r1, isD_M0 (bLD cl), Option.bind_some, if_neg (by decide)]
      exact glue 1 0 (by rw [if_pos cl]) (by rw [bLD cl, if_neg (by decide)]) (Or.inl cl)
    · rw [isL_M0 (b_tf cl), Option.bind_some, rd_ok (by omega) (by omega), r1]
      by_cases cd : bD (m 1 a) = true
      · rw [isD_M1 cd, Option.bind_some, if_pos rfl, if_neg (by decide)]
        exact glue 0 1 (by rw [if_neg cl]) (by rw [if_pos cd]) (Or.inr cd)
      · rw [isD_M0 (b_tf cd), Option.bind_some, if_pos rfl, if_pos rfl]
        refine go s F r1 r4 r2 (Or.inr ⟨fun w => ?_, r12⟩) 0 0 (by rw [if_neg cl]) (by rw [if_neg cd])
        rcases hn c1 w with t | t
        · exact cl t
        · exact cd t
  · rw [if_neg c1]
    refine wp_some ⟨F, ?_⟩
    rcases tc with ⟨t1, t2⟩ | ⟨t1, _⟩ | ⟨t1, _⟩ | ⟨t1, _⟩ | ⟨t1, _⟩
    · exact ⟨⟨r4, Or.inl ⟨t2, r3, r12, by rw [r4]; exact r5⟩⟩, fun t => absurd t2 t⟩
    · exact absurd t1 c1
    · exact absurd t1 c1
    · exact absurd t1 c1
    · exact absurd t1 c1
