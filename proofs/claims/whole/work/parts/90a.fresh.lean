/-! the fresh memories -/
theorem rel_0 : Rel ctC ctM := by
  have n0 : zv ctC 55 0 0 = 0 := by decide +kernel
  have n1 : zv ctC 55 0 1 = 0 := by decide +kernel
  have b0 : ctM 0 13 = 0 := by decide +kernel
  have c21 : ctC 2 1 = 0 := by decide +kernel
  have c40 : ctC 40 0 = 0 := by decide +kernel
  have c52 : ctC 52 1 = 0 := by decide +kernel
  have c15 : ctC 0 15 = 0 := by decide +kernel
  have s11 : sv ctC 8 0 11 = 0 := by decide +kernel
  refine ⟨55, ⟨⟨by decide +kernel, by decide +kernel, by decide +kernel, fun i i0 i1 => by rw [c21] at i1; omega⟩, ⟨by decide +kernel, by decide +kernel⟩, ⟨Or.inl rfl, by decide +kernel, by decide +kernel, Or.inl b0, ?_⟩, ⟨by decide +kernel, by decide +kernel, by decide +kernel, fun k k0 k1 => by rw [c40] at k1; omega⟩, ⟨by decide +kernel, by decide +kernel, by decide +kernel, fun k k0 k1 => by rw [c52] at k1; omega⟩, ?_, ⟨by decide +kernel, by decide +kernel, by decide +kernel⟩, ?_⟩, ?_, ⟨⟨by decide +kernel, by decide +kernel, by decide +kernel⟩, ⟨by decide +kernel, by decide +kernel, by decide +kernel⟩, fun k k0 k1 => by rw [c15] at k1; omega⟩⟩
  · rw [b0]
    refine ⟨⟨by decide +kernel, by decide +kernel, by decide +kernel⟩, ⟨by decide +kernel, by decide +kernel, by decide +kernel⟩, fun i hi => ?_, fun i hi => ?_, fun i hi => ?_, fun i hi => ?_, fun i hi => ?_, fun i hi => ?_, fun i hi => ?_, fun i hi => ?_, fun i i0 i1 => ?_, fun i i0 i1 => ?_, ⟨⟨by decide +kernel, by decide +kernel, by decide +kernel⟩, ⟨by decide +kernel, by decide +kernel, by decide +kernel⟩, ⟨by decide +kernel, by decide +kernel, by decide +kernel⟩, ⟨by decide +kernel, by decide +kernel, by decide +kernel⟩, ⟨by decide +kernel, by decide +kernel, by decide +kernel⟩⟩, Or.inl ⟨by decide +kernel, by decide +kernel⟩, Or.inl ⟨by decide +kernel, by decide +kernel⟩⟩
    · have q0 := hi.1
      have q1 := hi.2
      rw [n0] at q1
      exfalso
      omega
    · have q0 := hi.1
      have q1 := hi.2
      rw [n0] at q1
      exfalso
      omega
    · have q0 := hi.1
      have q1 := hi.2
      rw [n0] at q1
      exfalso
      omega
    · have q0 := hi.1
      have q1 := hi.2
      rw [n0] at q1
      exfalso
      omega
    · have q0 := hi.1
      have q1 := hi.2
      rw [n1] at q1
      exfalso
      omega
    · have q0 := hi.1
      have q1 := hi.2
      rw [n1] at q1
      exfalso
      omega
    · have q0 := hi.1
      have q1 := hi.2
      rw [n1] at q1
      exfalso
      omega
    · have q0 := hi.1
      have q1 := hi.2
      rw [n1] at q1
      exfalso
      omega
    · rw [n0] at i1
      exfalso
      omega
    · rw [n1] at i1
      exfalso
      omega
  · intro k k0 k1
    have hk : k = 0 ∨ k = 1 ∨ k = 2 ∨ k = 3 ∨ k = 4 ∨ k = 5 := by omega
    rcases hk with e | e | e | e | e | e <;> subst e <;> decide +kernel
  · show ∀ k : Nat, k < 30 → ctC 7 (k : Int) = OWNC.getD k 0
    decide +kernel
  · refine ⟨⟨by decide +kernel, by decide +kernel, by decide +kernel, by decide +kernel, by decide +kernel⟩, ⟨by decide +kernel, by decide +kernel, by decide +kernel⟩, fun i hi => ?_, fun i hi => ?_, fun i hi => ?_, fun i hi => ?_, fun i hi => ?_, fun i hi => ?_, ⟨by decide +kernel, by decide +kernel, by decide +kernel, by decide +kernel, by decide +kernel⟩, fun k k0 k1 => ?_⟩
    · have q0 := hi.1
      have q1 := hi.2
      rw [n1] at q1
      exfalso
      omega
    · have q0 := hi.1
      have q1 := hi.2
      rw [n1] at q1
      exfalso
      omega
    · have q0 := hi.1
      have q1 := hi.2
      rw [n1] at q1
      exfalso
      omega
    · have q0 := hi.1
      have q1 := hi.2
      rw [n0] at q1
      exfalso
      omega
    · have q1 := hi.2.2
      rw [n1] at q1
      exfalso
      omega
    · have q1 := hi.2.2
      rw [n1] at q1
      exfalso
      omega
    · rw [s11] at k1
      exfalso
      omega
