/-! the class's step -/
theorem an255m {c : Int} (h0 : 0 ≤ c) (h1 : c < 2147483648) : anI c 255 = c % 256 := by
  obtain ⟨n, rfl⟩ : ∃ n : Nat, c = n := ⟨c.toNat, by omega⟩
  rw [show (255 : Int) = ((255 : Nat) : Int) from rfl, anI_nat (by omega) (by omega), show (255 : Nat) = 2 ^ 8 - 1 from rfl, Nat.and_two_pow_sub_one_eq_mod]
  omega
theorem sr8 {c : Int} (h0 : 0 ≤ c) (h1 : c < 2147483648) : srI c 8 = c / 256 := by
  obtain ⟨n, rfl⟩ : ∃ n : Nat, c = n := ⟨c.toNat, by omega⟩
  rw [show (8 : Int) = ((8 : Nat) : Int) from rfl, srI_nat (by omega) (by omega)]
  omega
theorem clp_w (x : Int) : wI (max (-1000000) (min 1000000 x)) = clp x := wI_ok (by omega) (by omega)
theorem fd_ok {a b : Int} (ha : -1000000 ≤ a ∧ a ≤ 1000000) (hb : -1000000 ≤ b ∧ b ≤ 1000000) (h : b ≠ 0) : J_floorDiv_7cf53 a b = some (fdv a b) := by
  have ca : cI a := ⟨by omega, by omega⟩
  have cb : cI b := ⟨by omega, by omega⟩
  unfold J_floorDiv_7cf53 fdv
  rw [nz_ok h, if_neg h, dvI_t ca cb (by omega)]
  have e1 := (tdv_b a b).1
  have e2 := (tdv_b a b).2
  rw [wI_ok (x := a.tdiv b * b) (by omega) (by omega), wI_ok (x := a.tdiv b - 1) (by omega) (by omega)]
  by_cases q : xoI a b < 0
  · rw [if_pos q]
    have q2 := (xoI_neg ca cb).mp q
    by_cases w : a.tdiv b * b = a
    · rw [if_pos w, if_neg (fun t => t.2 w)]
    · rw [if_neg w, if_pos ⟨q2, w⟩]
  · rw [if_neg q, if_neg (fun t => q ((xoI_neg ca cb).mpr t.1))]
theorem fm_ok {a b : Int} (ha : -1000000 ≤ a ∧ a ≤ 1000000) (hb : -1000000 ≤ b ∧ b ≤ 1000000) (h : b ≠ 0) : J_floorMod_7cf53 a b = some (a - b * fdv a b) := by
  have ca : cI a := ⟨by omega, by omega⟩
  have cb : cI b := ⟨by omega, by omega⟩
  unfold J_floorMod_7cf53 fdv
  rw [nz_ok h, if_neg h, rmI_t ca cb (by omega)]
  have e1 := tmd_b a b
  rw [wI_ok (x := a - a.tdiv b * b + b) (by omega) (by omega)]
  have e3 : b * (a.tdiv b - 1) = a.tdiv b * b - b := by rw [Int.mul_sub, Int.mul_one, Int.mul_comm]
  by_cases q : xoI a b < 0
  · rw [if_pos q]
    have q2 := (xoI_neg ca cb).mp q
    by_cases w : a.tdiv b * b = a
    · rw [if_pos (by omega), if_neg (fun t => t.2 w), Int.mul_comm b]
    · rw [if_neg (by omega), if_pos ⟨q2, w⟩, e3]
      congr 1
      omega
  · rw [if_neg q, if_neg (fun t => q ((xoI_neg ca cb).mpr t.1)), Int.mul_comm b]
theorem joined_ok {c s a b : Int} (h : bop c s) (ha : -1000000 ≤ a ∧ a ≤ 1000000) (hb : -1000000 ≤ b ∧ b ≤ 1000000) (ht : 41 ≤ s → (a = 0 ∨ a = 1) ∧ (b = 0 ∨ b = 1)) : Fo_joined c a b = some (jn c a b) := by
  have m1 := mul_ab (a := 1000000) (b := 1000000) ha.1 ha.2 hb.1 hb.2
  unfold Fo_joined
  simp only [clp_w, lt_ok]
  rcases h with ⟨rfl, rfl⟩ | ⟨rfl, rfl⟩ | ⟨rfl, rfl⟩ | ⟨rfl, rfl⟩ | ⟨rfl, rfl⟩ | ⟨rfl, rfl⟩ | ⟨rfl, rfl⟩ | ⟨rfl, rfl⟩ | ⟨rfl, rfl⟩ | ⟨rfl, rfl⟩ | ⟨rfl, rfl⟩ | ⟨rfl, rfl⟩ <;> unfold jn <;> simp only [Int.reduceEq, ↓reduceIte]
  · unfold clp; congr 1; omega
  · unfold clp; congr 1; omega
  · obtain ⟨q1, q2⟩ := ht (by omega)
    rcases q1 with rfl | rfl <;> rcases q2 with rfl | rfl <;> decide +kernel
  · obtain ⟨q1, q2⟩ := ht (by omega)
    rcases q1 with rfl | rfl <;> rcases q2 with rfl | rfl <;> decide +kernel
  · rw [wL_ok (by omega) (by omega)]
  · rw [wL_ok (by omega) (by omega)]
  · rw [wL_ok (by omega) (by omega)]
  · by_cases q : b = 0
    · rw [if_pos q, q]; rfl
    · rw [if_neg q, fd_ok ha hb q, Option.bind_some]
  · by_cases q : b = 0
    · rw [if_pos q, if_pos q]; rfl
    · rw [if_neg q, if_neg q, fm_ok ha hb q, Option.bind_some]
  · by_cases q : a < b
    · rw [if_pos q, if_pos q]; rfl
    · rw [if_neg q, if_neg q]; rfl
  · by_cases q : b < a
    · rw [if_pos q, if_pos q]; rfl
    · rw [if_neg q, if_neg q]; rfl
  · by_cases q : a = b
    · rw [if_pos q, if_pos q]; rfl
    · rw [if_neg q, if_neg q]; rfl
