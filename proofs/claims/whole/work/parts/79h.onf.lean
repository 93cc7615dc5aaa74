/-! on: once a take went wrong it stays wrong -/
def tkS (m m' : zM) (l : List Nat) : Prop := m' 52 2 = 4 ∧ 0 ≤ m' 52 3 ∧ eqO (52 :: l) m m' ∧ (m 52 4 = 0 → m' 52 4 = 0)
theorem tk_at {m : zM} (h : m 52 2 = 4) (h0 : 0 ≤ m 52 3) : tkS m (upm m 52 3 (m 52 3 + 1)) [] := by
  refine ⟨?_, ?_, eqO.refl.put (by simp), fun e => ?_⟩
  · rw [ru2 (by omega)]; exact h
  · rw [ru3 rfl rfl]; omega
  · rw [ru2 (by omega)]; exact e
theorem tk_no {m : zM} (h : m 52 2 = 4) (h0 : 0 ≤ m 52 3) : tkS m (upm m 52 4 0) [] := by
  refine ⟨?_, ?_, eqO.refl.put (by simp), fun e => ?_⟩
  · rw [ru2 (by omega)]; exact h
  · rw [ru2 (by omega)]; exact h0
  · exact ru3 rfl rfl
theorem tk_keep {m : zM} {x : Int} (h : m 52 2 = 4) (h0 : 0 ≤ m 52 3) : tkS m (tkV m x).2 [] := by
  unfold tkV
  by_cases c : m 52 3 < 1600 ∧ m 3 (m 52 3) ≤ x
  · rw [if_pos c]
    exact tk_at h h0
  · rw [if_neg c]
    exact tk_no h h0
theorem tkS.trans {m m' m2 : zM} {l : List Nat} (h : tkS m m' l) (h2 : tkS m' m2 l) : tkS m m2 l := ⟨h2.1, h2.2.1, h.2.2.1.trans h2.2.2.1, fun e => h2.2.2.2 (h.2.2.2 e)⟩
theorem tkS.mono {m m' : zM} {l l' : List Nat} (h : tkS m m' l) (hl : ∀ a, a ∈ l → a ∈ l') : tkS m m' l' := ⟨h.1, h.2.1, h.2.2.1.mono (fun a ha => by
  rcases List.mem_cons.mp ha with e | e
  · exact List.mem_cons.mpr (Or.inl e)
  · exact List.mem_cons.mpr (Or.inr (hl a e))), h.2.2.2⟩
theorem tkS.put {m m' : zM} {l : List Nat} {a : Nat} {i v : Int} (h : tkS m m' l) (ha : a ∈ l) (h52 : a ≠ 52) : tkS m (upm m' a i v) l := ⟨by rw [ru1 (fun e => h52 e.symm)]; exact h.1, by rw [ru1 (fun e => h52 e.symm)]; exact h.2.1, h.2.2.1.put (List.mem_cons.mpr (Or.inr ha)), fun e => by rw [ru1 (fun e => h52 e.symm)]; exact h.2.2.2 e⟩
theorem wp_tkPair {m : zM} {x : Int} (h : m 52 2 = 4) (h0 : 0 ≤ m 52 3) : wp (Im_takePair x m) (fun r => tkS m r.2 []) := by
  unfold Im_takePair
  have k1 := tk_keep (x := 255) h h0
  rw [tk_ok h h0, Option.bind_some, tk_ok k1.1 k1.2.1, Option.bind_some, lt_ok]
  have k2 := k1.trans (tk_keep (x := 255) k1.1 k1.2.1)
  split
  · rw [pf_ok]
    exact wp_some (k2.trans (tk_no k2.1 k2.2.1))
  · exact wp_some k2
theorem wp_tkTriple {m : zM} {a n : Nat} {x : Int} (h : m 52 2 = 4) (h0 : 0 ≤ m 52 3) (x0 : 0 ≤ x) (x1 : x + 3 ≤ (n : Int)) (hn : n < 1000) (ha : a ≠ 52) : wp (Im_takeTriple a n x m) (fun r => tkS m r [a]) := by
  unfold Im_takeTriple
  refine wp_for (fun k i s => Im_takeTriple_L2 k a n x i s) (fun i s => tkS m s [a]) _ 0 3 ?_ ?_ 1000000 0 m (by omega) (by omega) (by omega) ⟨h, h0, eqO.refl, fun e => e⟩
  · intro k s i1
    show wp (Im_takeTriple_B2 _ _ _ _ _ _) _
    unfold Im_takeTriple_B2
    rw [if_neg (by omega)]
    exact wp_some i1
  · intro k i s q0 q1 i1 hr
    show wp (Im_takeTriple_B2 _ _ _ _ _ _) _
    unfold Im_takeTriple_B2
    rw [if_pos q1, tk_ok i1.1 i1.2.1, Option.bind_some, wI_ok (x := x + i) (by omega) (by omega), wr_ok (by omega) (by omega), wI_ok (x := i + 1) (by omega) (by omega)]
    exact hr _ ((i1.trans ((tk_keep i1.1 i1.2.1).mono (by simp))).put (by simp) ha)
