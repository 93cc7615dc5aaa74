/-! on: what is taken from the tape -/
def tkV (m : zM) (x : Int) : Int × zM := if m 52 3 < 1600 ∧ m 3 (m 52 3) ≤ x then (m 3 (m 52 3), upm m 52 3 (m 52 3 + 1)) else (0, upm m 52 4 0)
theorem tk_ok {m : zM} {x : Int} (h : m 52 2 = 4) (h0 : 0 ≤ m 52 3) : Im_takeByte x m = some (tkV m x) := by
  have k3 : kdC 3 = (1, 1600) := rfl
  have e4 : m 52 2 = ((3 : Nat) : Int) + 1 := by rw [h]; rfl
  unfold Im_takeByte tkV
  rw [mra_ok e4 k3, mra_ok e4 k3]
  by_cases c1 : m 52 3 < 1600
  · rw [if_pos (show m 52 3 < ((1600 : Nat) : Int) by omega), rd_ok h0 (by omega)]
    by_cases c2 : x < m 3 (m 52 3)
    · rw [if_pos c2, if_neg (fun t => by omega), pf_ok]
    · rw [if_neg c2, if_pos ⟨c1, by omega⟩, mra_ok e4 k3, rd_ok h0 (by omega), wI_ok (by omega) (by omega), pf_ok]
  · rw [if_neg (show ¬ m 52 3 < ((1600 : Nat) : Int) by omega), if_neg (fun t => c1 t.1), pf_ok]
/-- a taken byte, if the state was sound and the byte lies on the tape -/
theorem tk_in {m : zM} {x p v : Int} (h : m 52 3 = p) (hv : m 3 p = v) (hp : p < 1600) (hx : v ≤ x) : tkV m x = (v, upm m 52 3 (p + 1)) := by
  unfold tkV
  rw [h, hv, if_pos ⟨hp, hx⟩]
theorem tk_out {m : zM} {x p v : Int} (h : m 52 3 = p) (hv : m 3 p = v) (hx : x < v) : tkV m x = (0, upm m 52 4 0) := by
  unfold tkV
  rw [h, hv, if_neg (fun t => by omega)]
