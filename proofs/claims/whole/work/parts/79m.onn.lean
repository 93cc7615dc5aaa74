/-! on, the model: beasts, the sum, the whole -/
theorem pair1_ok {b g : Int} (b0 : 0 ≤ b) (b1 : b < 6) (g0 : 0 ≤ g) (g1 : g < 8) : M_pair 1 b g = some (48 + 8 * b + g) := by
  unfold M_pair
  rw [wI_ok (x := 48 * 1) (by omega) (by omega), wI_ok (x := 8 * b) (by omega) (by omega), wI_ok (x := 48 * 1 + 8 * b) (by omega) (by omega), wI_ok (by omega) (by omega)]
  rfl
theorem wp_pairsM {m : zM} {ng b p x : Int} {C : Prop} (k1 : 0 ≤ m 0 13 ∧ m 0 13 < 2) (k3 : m 7 (m 0 13) = ng) (n2 : 0 ≤ ng ∧ ng ≤ 8) (b0 : 0 ≤ b) (b1 : b < 6) (p0 : 0 ≤ p) (p1 : p < 1000) (hb : ∀ k, 0 ≤ k → k < 3 + 2 * ng → 0 ≤ m 1 (p + k) ∧ m 1 (p + k) ≤ 255) (hx : (x = 1 ∧ C) ∨ (x = 0 ∧ ¬ C)) : wp (M_beastOn_L64 1000000 b p x 0 m) (fun r => ((r.1 = 1 ∧ C ∧ ∀ g, 0 ≤ g → g < ng → okPr (m 1) (p + 3 + 2 * g)) ∨ (r.1 = 0 ∧ ¬ (C ∧ ∀ g, 0 ≤ g → g < ng → okPr (m 1) (p + 3 + 2 * g)))) ∧ frM 1 m r.2 ∧ eqO [33, 34] m r.2 ∧ (∀ g, 0 ≤ g → g < ng → r.2 33 (48 + 8 * b + g) = m 1 (p + 3 + 2 * g) ∧ r.2 34 (48 + 8 * b + g) = m 1 (p + 4 + 2 * g)) ∧ ∀ j, j < 48 + 8 * b ∨ 48 + 8 * b + 8 ≤ j → r.2 33 j = m 33 j ∧ r.2 34 j = m 34 j) := by
  refine wp_for (fun n i (s : Int × zM) => M_beastOn_L64 n b p s.1 i s.2) (fun i (r : Int × zM) => ((r.1 = 1 ∧ C ∧ ∀ g, 0 ≤ g → g < i → okPr (m 1) (p + 3 + 2 * g)) ∨ (r.1 = 0 ∧ ¬ (C ∧ ∀ g, 0 ≤ g → g < i → okPr (m 1) (p + 3 + 2 * g)))) ∧ frM 1 m r.2 ∧ eqO [33, 34] m r.2 ∧ (∀ g, 0 ≤ g → g < i → r.2 33 (48 + 8 * b + g) = m 1 (p + 3 + 2 * g) ∧ r.2 34 (48 + 8 * b + g) = m 1 (p + 4 + 2 * g)) ∧ ∀ j, j < 48 + 8 * b ∨ 48 + 8 * b + 8 ≤ j → r.2 33 j = m 33 j ∧ r.2 34 j = m 34 j) _ 0 ng ?_ ?_ 1000000 0 (x, m) (by omega) (by omega) (by omega) ⟨?_, frM.refl, eqO.refl, all_0, fun _ _ => ⟨rfl, rfl⟩⟩
  · intro n s i1
    show wp (M_beastOn_B64 _ _ _ _ _ _) _
    unfold M_beastOn_B64
    have e0 : s.2 0 = m 0 := i1.2.2.1 0 (by simp)
    have e7 : s.2 7 = m 7 := i1.2.2.1 7 (by simp)
    rw [e0, rd_ok k1.1 (by omega), e7, k3, if_neg (by omega)]
    exact wp_some i1
  · intro n i s q0 q1 ⟨i1, i2, i3, i4, i5⟩ hr
    show wp (M_beastOn_B64 _ _ _ _ _ _) _
    unfold M_beastOn_B64
    have e0 : s.2 0 = m 0 := i3 0 (by simp)
    have e7 : s.2 7 = m 7 := i3 7 (by simp)
    have e1 : s.2 1 = m 1 := i3 1 (by simp)
    rw [e0, rd_ok k1.1 (by omega), e7, k3, if_pos q1, wI_ok (x := p + 3) (by omega) (by omega), wI_ok (x := 2 * i) (by omega) (by omega), wI_ok (x := p + 3 + 2 * i) (by omega) (by omega), rd_ok (by omega) (by omega), wI_ok (x := p + 4) (by omega) (by omega), wI_ok (x := p + 4 + 2 * i) (by omega) (by omega), rd_ok (by omega) (by omega), e1, pair1_ok b0 b1 q0 (by omega), Option.bind_some, wr_ok (by omega) (by omega), Option.bind_some, wr_ok (by omega) (by omega), wI_ok (x := i + 1) (by omega) (by omega)]
    have F : frM 1 m (upm (upm s.2 33 (48 + 8 * b + i) (m 1 (p + 3 + 2 * i))) 34 (48 + 8 * b + i) (m 1 (p + 4 + 2 * i))) := (i2.put (by decide) (by decide) (by unfold lay; omega) (by unfold lay; omega)).put (by decide) (by decide) (by unfold lay; omega) (by unfold lay; omega)
    have E : eqO [33, 34] m (upm (upm s.2 33 (48 + 8 * b + i) (m 1 (p + 3 + 2 * i))) 34 (48 + 8 * b + i) (m 1 (p + 4 + 2 * i))) := (i3.put (by simp)).put (by simp)
    have R33 : ∀ j, upm (upm s.2 33 (48 + 8 * b + i) (m 1 (p + 3 + 2 * i))) 34 (48 + 8 * b + i) (m 1 (p + 4 + 2 * i)) 33 j = sets (s.2 33) (48 + 8 * b + i) (m 1 (p + 3 + 2 * i)) j := fun j => by rw [ru1 (by decide), upm_eq]
    have R34 : ∀ j, upm (upm s.2 33 (48 + 8 * b + i) (m 1 (p + 3 + 2 * i))) 34 (48 + 8 * b + i) (m 1 (p + 4 + 2 * i)) 34 j = sets (s.2 34) (48 + 8 * b + i) (m 1 (p + 4 + 2 * i)) j := fun j => by rw [upm_eq, upm_ne (by decide)]
    generalize upm (upm s.2 33 (48 + 8 * b + i) (m 1 (p + 3 + 2 * i))) 34 (48 + 8 * b + i) (m 1 (p + 4 + 2 * i)) = s3 at *
    have V : (∀ g, 0 ≤ g → g < i + 1 → s3 33 (48 + 8 * b + g) = m 1 (p + 3 + 2 * g) ∧ s3 34 (48 + 8 * b + g) = m 1 (p + 4 + 2 * g)) ∧ ∀ j, j < 48 + 8 * b ∨ 48 + 8 * b + 8 ≤ j → s3 33 j = m 33 j ∧ s3 34 j = m 34 j := by
      rw [all_s q0]
      refine ⟨⟨fun g g0 g1 => ?_, ?_⟩, fun j hj => ?_⟩
      · rw [R33, R34, sets_ne (by omega), sets_ne (by omega)]
        exact i4 g g0 g1
      · rw [R33, R34, sets_eq, sets_eq]
        exact ⟨rfl, rfl⟩
      · rw [R33, R34, sets_ne (by omega), sets_ne (by omega)]
        exact i5 j hj
    have e4 : p + 3 + 2 * i + 1 = p + 4 + 2 * i := by omega
    by_cases c0 : s.1 = 0
    · rw [if_pos c0]
      refine hr (0, s3) ⟨Or.inr ⟨rfl, ?_⟩, F, E, V⟩
      rw [all_s q0]
      intro t
      rcases i1 with ⟨a, _⟩ | ⟨_, a⟩
      · omega
      · exact a ⟨t.1, t.2.1⟩
    · rw [if_neg c0]
      by_cases c1 : 99 < m 1 (p + 3 + 2 * i)
      · rw [if_pos c1]
        refine hr (0, s3) ⟨Or.inr ⟨rfl, ?_⟩, F, E, V⟩
        rw [all_s q0]
        intro t
        have := t.2.2.1
        omega
      · rw [if_neg c1]
        by_cases c2 : m 1 (p + 3 + 2 * i) < m 1 (p + 4 + 2 * i)
        · rw [if_pos c2]
          refine hr (0, s3) ⟨Or.inr ⟨rfl, ?_⟩, F, E, V⟩
          rw [all_s q0]
          intro t
          have := t.2.2.2
          rw [e4] at this
          omega
        · rw [if_neg c2]
          refine hr (1, s3) ⟨Or.inl ⟨rfl, ?_⟩, F, E, V⟩
          rw [all_s q0]
          rcases i1 with ⟨_, a, a2⟩ | ⟨a, _⟩
          · exact ⟨a, a2, by omega, by rw [e4]; omega⟩
          · exact absurd a c0
  · rcases hx with ⟨a, c⟩ | ⟨a, c⟩
    · exact Or.inl ⟨a, c, all_0⟩
    · exact Or.inr ⟨a, fun t => c t.1⟩
theorem wp_beastM {m : zM} {ng b p : Int} (k1 : 0 ≤ m 0 13 ∧ m 0 13 < 2) (k3 : m 7 (m 0 13) = ng) (n2 : 0 ≤ ng ∧ ng ≤ 8) (b0 : 0 ≤ b) (b1 : b < 6) (p0 : 0 ≤ p) (p1 : p < 1000) (hb : ∀ k, 0 ≤ k → k < 3 + 2 * ng → 0 ≤ m 1 (p + k) ∧ m 1 (p + k) ≤ 255) : wp (M_beastOn b p m) (fun r => ((r.1 = 1 ∧ okB (m 1) ng p) ∨ (r.1 = 0 ∧ ¬ okB (m 1) ng p)) ∧ frM 1 m r.2 ∧ eqO [32, 33, 34] m r.2 ∧ (∀ k, 0 ≤ k → k < 3 → r.2 32 (18 + 3 * b + k) = m 1 (p + k)) ∧ (∀ j, j < 18 + 3 * b ∨ 18 + 3 * b + 3 ≤ j → r.2 32 j = m 32 j) ∧ (∀ g, 0 ≤ g → g < ng → r.2 33 (48 + 8 * b + g) = m 1 (p + 3 + 2 * g) ∧ r.2 34 (48 + 8 * b + g) = m 1 (p + 4 + 2 * g)) ∧ ∀ j, j < 48 + 8 * b ∨ 48 + 8 * b + 8 ≤ j → r.2 33 j = m 33 j ∧ r.2 34 j = m 34 j) := by
  unfold M_beastOn
  refine wp_for (fun n i s => M_beastOn_L2 _ n b p i s) (fun i s => frM 1 m s ∧ (∀ k, 0 ≤ k → k < i → s 32 (18 + 3 * b + k) = m 1 (p + k)) ∧ (∀ j, j < 18 + 3 * b ∨ 18 + 3 * b + 3 ≤ j → s 32 j = m 32 j) ∧ eqO [32] m s) _ 0 3 ?_ ?_ 1000000 0 m (by omega) (by omega) (by omega) ⟨frM.refl, all_0, fun _ _ => rfl, eqO.refl⟩
  · intro n s ⟨i1, i2, i3, i4⟩
    show wp (M_beastOn_B2 _ _ _ _ _ _) _
    unfold M_beastOn_B2
    rw [if_neg (by omega)]
    dsimp only
    have s1 : s 1 = m 1 := i4 1 (by simp)
    have s0 : s 0 = m 0 := i4 0 (by simp)
    have s7 : s 7 = m 7 := i4 7 (by simp)
    have o3 := ok3_iff (t := m 1) (p := p) (fun k k0 k1 => (hb k k0 (by omega)).1)
    rw [rd_ok (by omega) (by omega), wI_ok (x := p + 1) (by omega) (by omega), rd_ok (by omega) (by omega), wI_ok (x := p + 2) (by omega) (by omega), rd_ok (by omega) (by omega), nine_ok, Option.bind_some, s1]
    refine wp_mono (wp_pairsM (C := ok3 (m 1) p) (by rw [s0]; exact k1) (by rw [s0, s7]; exact k3) n2 b0 b1 p0 p1 (by rw [s1]; exact hb) ?_) (fun r ⟨w1, w2, w3, w4, w5⟩ => ?_)
    · by_cases c : (0 ≤ m 1 p ∧ m 1 p ≤ 9) ∧ (0 ≤ m 1 (p + 1) ∧ m 1 (p + 1) ≤ 9) ∧ (0 ≤ m 1 (p + 2) ∧ m 1 (p + 2) ≤ 9)
      · rw [if_pos c]; exact Or.inl ⟨rfl, o3.mpr c⟩
      · rw [if_neg c]; exact Or.inr ⟨rfl, fun t => c (o3.mp t)⟩
    · rw [s1] at w1 w4
      have t32 : r.2 32 = s 32 := w3 32 (by simp)
      have u33 : s 33 = m 33 := i4 33 (by simp)
      have u34 : s 34 = m 34 := i4 34 (by simp)
      refine ⟨w1, i1.trans w2, (i4.mono (by simp)).trans (w3.mono (by simp)), fun k k0 k1 => by rw [t32]; exact i2 k k0 k1, fun j hj => by rw [t32]; exact i3 j hj, w4, fun j hj => ?_⟩
      rw [← u33, ← u34]
      exact w5 j hj
  · intro n i s q0 q1 ⟨i1, i2, i3, i4⟩ hr
    show wp (M_beastOn_B2 _ _ _ _ _ _) _
    unfold M_beastOn_B2
    have s1 : s 1 = m 1 := i4 1 (by simp)
    rw [if_pos q1, wI_ok (x := p + i) (by omega) (by omega), rd_ok (by omega) (by omega), s1, wI_ok (x := 3 * b) (by omega) (by omega), wI_ok (x := 18 + 3 * b) (by omega) (by omega), wI_ok (x := 18 + 3 * b + i) (by omega) (by omega), wr_ok (by omega) (by omega), wI_ok (x := i + 1) (by omega) (by omega)]
    refine hr _ ⟨i1.put (by decide) (by decide) (by unfold lay; omega) (by unfold lay; omega), ?_, fun j hj => ?_, i4.put (by simp)⟩
    · rw [all_s q0]
      refine ⟨fun k k0 k1 => ?_, ru3 rfl rfl⟩
      rw [ru2 (by omega)]
      exact i2 k k0 k1
    · rw [ru2 (by omega)]
      exact i3 j hj
theorem sum_M {K : Int → Int → Int → Int → zM → Option (Int × zM)} {m : zM} {N v3 v6 : Int} (h1 : 1 ≤ N) (h2 : N ≤ 1600) (hb : ∀ j, 0 ≤ j → j < N → 0 ≤ m 1 j ∧ m 1 j ≤ 255) : M_comesOn_L90 K 1000000 N v3 v6 151 0 m = K N v3 v6 (ckS (m 1) (N - 1).toNat) m := by
  have Q : ∀ (d k j : Nat), (j : Int) + (d : Int) = N - 1 → d < k → M_comesOn_L90 K k N v3 v6 (ckS (m 1) j) (j : Int) m = K N v3 v6 (ckS (m 1) (N - 1).toNat) m := by
    intro d
    induction d with
    | zero =>
      intro k j hj hk
      obtain ⟨k, rfl⟩ : ∃ q, k = q + 1 := ⟨k - 1, by omega⟩
      show M_comesOn_B90 _ _ _ _ _ _ _ _ = _
      unfold M_comesOn_B90
      rw [wI_ok (x := N - 1) (by omega) (by omega), if_neg (by omega), show (N - 1).toNat = j from by omega]
    | succ d ih =>
      intro k j hj hk
      obtain ⟨k, rfl⟩ : ∃ q, k = q + 1 := ⟨k - 1, by omega⟩
      have cb : 0 ≤ ckS (m 1) j ∧ ckS (m 1) j ≤ 250 := ck_b
      have b := hb (j : Int) (by omega) (by omega)
      have i1 := ih k (j + 1) (by omega) (by omega)
      rw [ckS_s, show ((j + 1 : Nat) : Int) = (j : Int) + 1 from by omega] at i1
      show M_comesOn_B90 _ _ _ _ _ _ _ _ = _
      unfold M_comesOn_B90
      rw [wI_ok (x := N - 1) (by omega) (by omega), if_pos (by omega), rd_ok (by omega) (by omega), lt_ok, wI_ok (x := 5 * ckS (m 1) j) (by omega) (by omega), wI_ok (x := 5 * ckS (m 1) j + m 1 (j : Int)) (by omega) (by omega), rmI_n (by omega) (by omega) (by decide) (by decide), wI_ok (by omega) (by omega)]
      exact i1
  exact Q (N - 1).toNat 1000000 0 (by omega) (by omega)
