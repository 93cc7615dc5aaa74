/-! on, the model -/
theorem sl8 : ∀ k : Nat, k < 256 → slI (k : Int) 8 = ((256 * k : Nat) : Int) := by decide +kernel
theorem or2b {a b : Int} (a0 : 0 ≤ a) (a1 : a ≤ 255) (b0 : 0 ≤ b) (b1 : b ≤ 255) : orI (slI a 8) b = a * 256 + b := by
  obtain ⟨x, rfl⟩ : ∃ k : Nat, a = (k : Int) := ⟨a.toNat, by omega⟩
  obtain ⟨y, rfl⟩ : ∃ k : Nat, b = (k : Int) := ⟨b.toNat, by omega⟩
  rw [sl8 x (by omega), orI_nat (by omega) (by omega)]
  have e := Nat.two_pow_add_eq_or_of_lt (b := y) (i := 8) (by omega) x
  rw [show (2 : Nat) ^ 8 = 256 from rfl] at e
  rw [← e]
  omega
theorem twoB_ok {m : zM} {p : Int} (p0 : 0 ≤ p) (p1 : p < 1000) (a : 0 ≤ m 1 p ∧ m 1 p ≤ 255) (b : 0 ≤ m 1 (p + 1) ∧ m 1 (p + 1) ≤ 255) : M_twoBytes p m = some (m 1 p * 256 + m 1 (p + 1)) := by
  unfold M_twoBytes
  rw [rd_ok p0 (by omega), wI_ok (x := p + 1) (by omega) (by omega), rd_ok (by omega) (by omega), or2b a.1 a.2 b.1 b.2]
theorem ok3_iff {t : Int → Int} {p : Int} (h : ∀ k, 0 ≤ k → k < 3 → 0 ≤ t (p + k)) : ok3 t p ↔ (0 ≤ t p ∧ t p ≤ 9) ∧ (0 ≤ t (p + 1) ∧ t (p + 1) ≤ 9) ∧ (0 ≤ t (p + 2) ∧ t (p + 2) ≤ 9) := by
  have h0 := h 0 (by decide) (by decide)
  have h1 := h 1 (by decide) (by decide)
  have h2 := h 2 (by decide) (by decide)
  unfold ok3
  constructor
  · intro a
    have a0 := a 0 (by decide) (by decide)
    have a1 := a 1 (by decide) (by decide)
    have a2 := a 2 (by decide) (by decide)
    rw [Int.add_zero] at a0 h0
    exact ⟨⟨h0, a0⟩, ⟨h1, a1⟩, ⟨h2, a2⟩⟩
  · intro ⟨a, b, c⟩ k k0 k1
    rcases (by omega : k = 0 ∨ k = 1 ∨ k = 2) with rfl | rfl | rfl
    · rw [Int.add_zero]; exact a.2
    · exact b.2
    · exact c.2
theorem wp_guestM {m : zM} {nb g p : Int} (k1 : 0 ≤ m 0 13 ∧ m 0 13 < 2) (k2 : m 2 (m 0 13) = nb) (g0 : 0 ≤ g) (g1 : g < 8) (p0 : 0 ≤ p) (p1 : p < 1000) (hb : ∀ k, 0 ≤ k → k < 5 → 0 ≤ m 1 (p + k) ∧ m 1 (p + k) ≤ 255) : wp (M_guestOn g p m) (fun r => ((r.1 = 1 ∧ okG (m 1) nb p) ∨ (r.1 = 0 ∧ ¬ okG (m 1) nb p)) ∧ frM 1 m r.2 ∧ (∀ k, 0 ≤ k → k < 3 → r.2 29 (24 + 3 * g + k) = m 1 (p + k)) ∧ (r.2 30 (8 + g) = m 1 (p + 3) - 1 ∧ r.2 31 (8 + g) = m 1 (p + 4)) ∧ (∀ j, j < 24 + 3 * g ∨ 24 + 3 * g + 3 ≤ j → r.2 29 j = m 29 j) ∧ (∀ j, j ≠ 8 + g → r.2 30 j = m 30 j ∧ r.2 31 j = m 31 j) ∧ eqO [29, 30, 31] m r.2) := by
  have b3 := hb 3 (by decide) (by decide)
  unfold M_guestOn
  refine wp_for (fun n i s => M_guestOn_L2 _ n g p i s) (fun i s => frM 1 m s ∧ (∀ k, 0 ≤ k → k < i → s 29 (24 + 3 * g + k) = m 1 (p + k)) ∧ (∀ j, j < 24 + 3 * g ∨ 24 + 3 * g + 3 ≤ j → s 29 j = m 29 j) ∧ eqO [29] m s) _ 0 3 ?_ ?_ 1000000 0 m (by omega) (by omega) (by omega) ⟨frM.refl, all_0, fun _ _ => rfl, eqO.refl⟩
  · intro n s ⟨i1, i2, i3, i4⟩
    show wp (M_guestOn_B2 _ _ _ _ _ _) _
    unfold M_guestOn_B2
    rw [if_neg (by omega)]
    dsimp only
    have s1 : s 1 = m 1 := i4 1 (by simp)
    rw [wI_ok (x := p + 3) (by omega) (by omega), rd_ok (by omega) (by omega), wI_ok (x := 8 + g) (by omega) (by omega), s1, wI_ok (x := m 1 (p + 3) - 1) (by omega) (by omega), wr_ok (by omega) (by omega), wI_ok (x := p + 4) (by omega) (by omega), rd_ok (by omega) (by omega), upm_ne (a := 30) (b := 1) (by decide), s1, wr_ok (by omega) (by omega)]
    have F : frM 1 m (upm (upm s 30 (8 + g) (m 1 (p + 3) - 1)) 31 (8 + g) (m 1 (p + 4))) := (i1.put (by decide) (by decide) (by unfold lay; omega) (by unfold lay; omega)).put (by decide) (by decide) (by unfold lay; omega) (by unfold lay; omega)
    have R29 : ∀ j, upm (upm s 30 (8 + g) (m 1 (p + 3) - 1)) 31 (8 + g) (m 1 (p + 4)) 29 j = s 29 j := fun j => by rw [ru1 (by decide), ru1 (by decide)]
    have R30 : ∀ j, upm (upm s 30 (8 + g) (m 1 (p + 3) - 1)) 31 (8 + g) (m 1 (p + 4)) 30 j = sets (m 30) (8 + g) (m 1 (p + 3) - 1) j := fun j => by rw [ru1 (by decide), upm_eq, i4 30 (by simp)]
    have R31 : ∀ j, upm (upm s 30 (8 + g) (m 1 (p + 3) - 1)) 31 (8 + g) (m 1 (p + 4)) 31 j = sets (m 31) (8 + g) (m 1 (p + 4)) j := fun j => by rw [upm_eq, upm_ne (by decide), i4 31 (by simp)]
    have E : eqO [29, 30, 31] m (upm (upm s 30 (8 + g) (m 1 (p + 3) - 1)) 31 (8 + g) (m 1 (p + 4))) := ((i4.mono (by simp)).put (by simp)).put (by simp)
    generalize upm (upm s 30 (8 + g) (m 1 (p + 3) - 1)) 31 (8 + g) (m 1 (p + 4)) = s3 at *
    have s31 : s3 1 = m 1 := F.1 1 (by omega)
    have s30 : s3 0 = m 0 := F.1 0 (by omega)
    have s32 : s3 2 = m 2 := F.1 2 (by omega)
    have fin : ∀ x : Int, ((x = 1 ∧ okG (m 1) nb p) ∨ (x = 0 ∧ ¬ okG (m 1) nb p)) → (((x, s3).1 = 1 ∧ okG (m 1) nb p) ∨ ((x, s3).1 = 0 ∧ ¬ okG (m 1) nb p)) ∧ frM 1 m (x, s3).2 ∧ (∀ k, 0 ≤ k → k < 3 → (x, s3).2 29 (24 + 3 * g + k) = m 1 (p + k)) ∧ ((x, s3).2 30 (8 + g) = m 1 (p + 3) - 1 ∧ (x, s3).2 31 (8 + g) = m 1 (p + 4)) ∧ (∀ j, j < 24 + 3 * g ∨ 24 + 3 * g + 3 ≤ j → (x, s3).2 29 j = m 29 j) ∧ (∀ j, j ≠ 8 + g → (x, s3).2 30 j = m 30 j ∧ (x, s3).2 31 j = m 31 j) ∧ eqO [29, 30, 31] m (x, s3).2 := by
      intro x hx
      refine ⟨hx, F, fun k k0 k1 => ?_, ⟨?_, ?_⟩, fun j hj => ?_, fun j hj => ⟨?_, ?_⟩, E⟩
      · show s3 29 _ = _
        rw [R29]
        exact i2 k k0 k1
      · show s3 30 _ = _
        rw [R30, sets_eq]
      · show s3 31 _ = _
        rw [R31, sets_eq]
      · show s3 29 _ = _
        rw [R29]
        exact i3 j hj
      · show s3 30 _ = _
        rw [R30, sets_ne hj]
      · show s3 31 _ = _
        rw [R31, sets_ne hj]
    have o3 := ok3_iff (t := m 1) (p := p) (fun k k0 k1 => (hb k k0 (by omega)).1)
    rw [rd_ok (by omega) (by omega), wI_ok (x := p + 1) (by omega) (by omega), rd_ok (by omega) (by omega), wI_ok (x := p + 2) (by omega) (by omega), rd_ok (by omega) (by omega), nine_ok, Option.bind_some, s31, s30]
    by_cases c1 : (0 ≤ m 1 p ∧ m 1 p ≤ 9) ∧ (0 ≤ m 1 (p + 1) ∧ m 1 (p + 1) ≤ 9) ∧ (0 ≤ m 1 (p + 2) ∧ m 1 (p + 2) ≤ 9)
    · rw [if_pos c1, if_neg (by decide), rd_ok (by omega) (by omega), s31, rd_ok k1.1 (by omega), s32, k2]
      by_cases c2 : nb < m 1 (p + 3)
      · rw [if_pos c2]
        exact wp_some (fin 0 (Or.inr ⟨rfl, fun t => by have := t.2.1; omega⟩))
      · rw [if_neg c2, rd_ok (by omega) (by omega), s31, rd_ok k1.1 (by omega), s32, k2]
        by_cases c3 : m 1 (p + 4) < slI 1 nb
        · rw [if_pos c3]
          exact wp_some (fin 1 (Or.inl ⟨rfl, o3.mpr c1, by omega, c3⟩))
        · rw [if_neg c3]
          exact wp_some (fin 0 (Or.inr ⟨rfl, fun t => c3 t.2.2⟩))
    · rw [if_neg c1, if_pos rfl]
      exact wp_some (fin 0 (Or.inr ⟨rfl, fun t => c1 (o3.mp t.1)⟩))
  · intro n i s q0 q1 ⟨i1, i2, i3, i4⟩ hr
    show wp (M_guestOn_B2 _ _ _ _ _ _) _
    unfold M_guestOn_B2
    have s1 : s 1 = m 1 := i4 1 (by simp)
    rw [if_pos q1, wI_ok (x := p + i) (by omega) (by omega), rd_ok (by omega) (by omega), s1, wI_ok (x := 3 * g) (by omega) (by omega), wI_ok (x := 24 + 3 * g) (by omega) (by omega), wI_ok (x := 24 + 3 * g + i) (by omega) (by omega), wr_ok (by omega) (by omega), wI_ok (x := i + 1) (by omega) (by omega)]
    refine hr _ ⟨i1.put (by decide) (by decide) (by unfold lay; omega) (by unfold lay; omega), ?_, fun j hj => ?_, i4.put (by simp)⟩
    · rw [all_s q0]
      refine ⟨fun k k0 k1 => ?_, ru3 rfl rfl⟩
      rw [ru2 (by omega)]
      exact i2 k k0 k1
    · rw [ru2 (by omega)]
      exact i3 j hj
