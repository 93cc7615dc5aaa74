theorem SM.congr {Z Z' S S' mM mM' : zM} {v : Int} (h : SM Z S mM v) (hZ0 : Z' 0 0 = Z 0 0) (hZ1 : Z' 0 1 = Z 0 1) (hb : Z 0 0 ≤ 6) (hg : Z 0 1 ≤ 8) (hS : ∀ k, k ≤ 7 → S' k = S k) (hM : sameLay mM mM' v) : SM Z' S' mM' v := by
  obtain ⟨a1, a2, a3, a4, a5, a6⟩ := h
  have L : ∀ a, 27 ≤ a → a ≤ 36 → ∀ i, lay a * v ≤ i → i < lay a * v + lay a → mM' a i = mM a i := hM
  unfold SM
  simp only [hZ0, hZ1, hS 0 (by omega), hS 1 (by omega), hS 2 (by omega), hS 3 (by omega), hS 4 (by omega), hS 5 (by omega), hS 6 (by omega), hS 7 (by omega)]
  refine ⟨?_, ?_, ?_, ?_, ?_, ?_⟩
  · rw [L 27 (by omega) (by omega) v (by show 1 * v ≤ v; omega) (by show v < 1 * v + 1; omega)]
    exact a1
  · rw [L 28 (by omega) (by omega) v (by show 1 * v ≤ v; omega) (by show v < 1 * v + 1; omega)]
    exact a2
  · intro g g0 g1
    obtain ⟨b1, b2, b3⟩ := a3 g g0 g1
    refine ⟨fun k k0 k1 => ?_, ?_, ?_⟩
    · rw [L 29 (by omega) (by omega) _ (by show 24 * v ≤ _; omega) (by show _ < 24 * v + 24; omega)]
      exact b1 k k0 k1
    · rw [L 30 (by omega) (by omega) _ (by show 8 * v ≤ _; omega) (by show _ < 8 * v + 8; omega)]
      exact b2
    · rw [L 31 (by omega) (by omega) _ (by show 8 * v ≤ _; omega) (by show _ < 8 * v + 8; omega)]
      exact b3
  · intro i i0 i1
    obtain ⟨b1, b2⟩ := a4 i i0 i1
    refine ⟨fun k k0 k1 => ?_, fun g g0 g1 => ⟨?_, ?_⟩⟩
    · rw [L 32 (by omega) (by omega) _ (by show 18 * v ≤ _; omega) (by show _ < 18 * v + 18; omega)]
      exact b1 k k0 k1
    · rw [L 33 (by omega) (by omega) _ (by show 48 * v ≤ _; omega) (by show _ < 48 * v + 48; omega)]
      exact (b2 g g0 g1).1
    · rw [L 34 (by omega) (by omega) _ (by show 48 * v ≤ _; omega) (by show _ < 48 * v + 48; omega)]
      exact (b2 g g0 g1).2
  · rw [L 35 (by omega) (by omega) v (by show 1 * v ≤ v; omega) (by show v < 1 * v + 1; omega)]
    exact a5
  · intro k k0 k1
    obtain ⟨dy, hr, bb, gg, ot, q1, q2, q3, q4, q5, q6, q7⟩ := a6 k k0 k1
    have hk : k < 60 := by omega
    refine ⟨dy, hr, bb, gg, ot, q1, q2, ?_, ?_, ?_, ?_, ?_⟩
    · rw [L 36 (by omega) (by omega) _ (by show 300 * v ≤ _; omega) (by show _ < 300 * v + 300; omega)]; exact q3
    · rw [L 36 (by omega) (by omega) _ (by show 300 * v ≤ _; omega) (by show _ < 300 * v + 300; omega)]; exact q4
    · rw [L 36 (by omega) (by omega) _ (by show 300 * v ≤ _; omega) (by show _ < 300 * v + 300; omega)]; exact q5
    · rw [L 36 (by omega) (by omega) _ (by show 300 * v ≤ _; omega) (by show _ < 300 * v + 300; omega)]; exact q6
    · rw [L 36 (by omega) (by omega) _ (by show 300 * v ≤ _; omega) (by show _ < 300 * v + 300; omega)]; exact q7
/-- the class's memory as it was but for what nobody can ask for -/
def keepC (z : Nat) (m m' : zM) : Prop := (m' 0 = m 0 ∧ m' 1 1 = m 1 1 ∧ m' 1 2 = m 1 2 ∧ m' 2 1 = m 2 1 ∧ m' 40 0 = m 40 0 ∧ m' 52 1 = m 52 1) ∧ (m' 3 = m 3 ∧ m' 7 = m 7 ∧ m' 42 = m 42 ∧ m' 53 = m 53 ∧ m' 54 = m 54) ∧ (∀ k, k ≤ 7 → m' (8 + k) = m (8 + k)) ∧ (∀ k, k ≤ 15 → k ≠ 13 → m' (z + k) = m (z + k)) ∧ ∀ a, 89 ≤ a → m' a = m a
/-- the model's -/
def keepM (m m' : zM) : Prop := (∀ j ∈ ([1, 10, 11, 13, 56, 57, 58, 65, 76] : List Int), m' 0 j = m 0 j) ∧ (∀ a, 1 ≤ a → a ≤ 18 → m' a = m a) ∧ (m' 26 = m 26 ∧ m' 43 = m 43 ∧ m' 44 = m 44 ∧ m' 52 = m 52) ∧ ∀ v, v ≠ 1 → 0 ≤ v → sameLay m m' v
theorem Rel.keep {mC mC' mM mM' : zM} (h : Rel mC mM) (hC : ∀ z : Nat, z = 55 ∨ z = 72 → mC 0 12 = (z : Int) + 1 → keepC z mC mC') (hM : keepM mM mM') : Rel mC' mM' := by
  obtain ⟨z, h1, h2, h3, h4, h5, h6, h7, h8, h9, h10⟩ := h
  obtain ⟨⟨k0, k1, k2, k3, k4, k5⟩, ⟨c3, c7, c42, c53, c54⟩, cS, cZ, cP⟩ := hC z h3.1 h3.2.1
  obtain ⟨j0, jZ, ⟨m26, m43, m44, m52⟩, jL⟩ := hM
  have f1 := j0 1 (by simp)
  have f10 := j0 10 (by simp)
  have f11 := j0 11 (by simp)
  have f13 := j0 13 (by simp)
  have f56 := j0 56 (by simp)
  have f57 := j0 57 (by simp)
  have f58 := j0 58 (by simp)
  have f65 := j0 65 (by simp)
  have f76 := j0 76 (by simp)
  have hz00 : vw mC' z 0 = vw mC z 0 := cZ 0 (by omega) (by omega)
  have hnb : vw mC z 0 0 ≤ 6 := h3.2.2.2.2.1.2.2
  have hng : vw mC z 0 1 ≤ 8 := h3.2.2.2.2.2.1.2.2
  refine ⟨z, ?_, ?_, ?_, ?_, ?_, ?_, ?_, ?_, ?_, ?_⟩
  · rw [c3, k3, jZ 1 (by omega) (by omega), f1]; exact h1
  · rw [k1, k2, f10, f11]; exact h2
  · obtain ⟨a, b, c, d, e⟩ := h3
    refine ⟨a, by rw [k0]; exact b, by rw [k0]; exact c, by rw [f13]; exact d, ?_⟩
    rw [f13]
    exact e.congr (fun k q1 q2 => cZ k q1 q2) (fun a q1 q2 => jZ a (by omega) q2)
  · exact h4.congr (by rw [hz00]) (by rw [hz00]) hnb hng (fun k q => cS k q) (jL 0 (by omega) (by omega))
  · obtain ⟨a, b, c, d, e, f, g⟩ := h5
    unfold RU
    rw [k0, f56, f57]
    refine ⟨a, b, c, d, e, f, fun k q1 q2 => ?_⟩
    exact (g k q1 q2).congr (by rw [hz00]) (by rw [hz00]) hnb hng (fun j q => cP _ (by omega)) (jL _ (by omega) (by omega))
  · rw [hz00]
    unfold RL
    rw [k4, f65, c42, m43, m44]; exact h6
  · unfold RI
    rw [k5, f76, c53, m52]; exact h7
  · rw [c54, m26]; exact h8
  · rw [k0, f58]; exact h9
  · rw [c7]; exact h10
