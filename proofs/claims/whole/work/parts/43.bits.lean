def bt (x : Int32) (i : Nat) : Bool := x.toBitVec.getLsbD i
theorem b_ext {x y : Int32} (h : ∀ i, i < 32 → bt x i = bt y i) : x = y := Int32.toBitVec_inj.mp (BitVec.eq_of_getLsbD_eq (fun i hi => h i hi))
theorem b_or (x y : Int32) (i : Nat) : bt (x ||| y) i = (bt x i || bt y i) := by unfold bt; rw [Int32.toBitVec_or, BitVec.getLsbD_or]
theorem b_and (x y : Int32) (i : Nat) : bt (x &&& y) i = (bt x i && bt y i) := by unfold bt; rw [Int32.toBitVec_and, BitVec.getLsbD_and]
theorem b_xor (x y : Int32) (i : Nat) : bt (x ^^^ y) i = (bt x i ^^ bt y i) := by unfold bt; rw [Int32.toBitVec_xor, BitVec.getLsbD_xor]
theorem b_big {x : Int32} {i : Nat} (h : 32 ≤ i) : bt x i = false := BitVec.getLsbD_of_ge _ _ h
theorem b_255 (i : Nat) : bt 255 i = decide (i < 8) := by
  rcases Nat.lt_or_ge i 32 with h | h
  · exact (by decide +kernel : ∀ i, i < 32 → bt 255 i = decide (i < 8)) i h
  · rw [b_big h, decide_eq_false (by omega)]
theorem b_0 (i : Nat) : bt 0 i = false := BitVec.getLsbD_zero
theorem s_l : ∀ n, n < 32 → ((nI n &&& 31).toBitVec.smod 32).toNat = n := by decide +kernel
theorem s_u : ∀ n, n < 32 → (((nI n).toUInt32 &&& Int32.toUInt32 31).toBitVec % 32).toNat = n := by decide +kernel
theorem b_shl (n : Nat) (hn : n < 32) (x : Int32) {i : Nat} (hi : i < 32) : bt (x <<< (nI n &&& 31)) i = (decide (n ≤ i) && bt x (i - n)) := by
  unfold bt
  rw [Int32.toBitVec_shiftLeft]
  show (x.toBitVec <<< ((nI n &&& 31).toBitVec.smod 32).toNat).getLsbD i = _
  rw [s_l n hn, BitVec.getLsbD_shiftLeft]
  rcases Nat.lt_or_ge i n with h | h
  · simp [h, Nat.not_le.mpr h]
  · simp [hi, h, Nat.not_lt.mpr h]
theorem b_ushr (n : Nat) (hn : n < 32) (x : Int32) (i : Nat) : bt ((x.toUInt32 >>> ((nI n).toUInt32 &&& Int32.toUInt32 31)).toInt32) i = bt x (n + i) := by
  show (x.toUInt32 >>> ((nI n).toUInt32 &&& Int32.toUInt32 31)).toBitVec.getLsbD i = x.toUInt32.toBitVec.getLsbD (n + i)
  rw [UInt32.toBitVec_shiftRight]
  show (x.toUInt32.toBitVec >>> (((nI n).toUInt32 &&& Int32.toUInt32 31).toBitVec % 32).toNat).getLsbD i = _
  rw [s_u n hn, BitVec.getLsbD_ushiftRight]
theorem b_sshr (n : Nat) (hn : n < 32) (x : Int32) {i : Nat} (hi : i < 32) : bt (x >>> (nI n &&& 31)) i = if n + i < 32 then bt x (n + i) else bt x 31 := by
  unfold bt
  rw [Int32.toBitVec_shiftRight]
  show (x.toBitVec.sshiftRight ((nI n &&& 31).toBitVec.smod 32).toNat).getLsbD i = _
  rw [s_l n hn, BitVec.getLsbD_sshiftRight, BitVec.msb_eq_getLsbD_last]
  simp [hi]
theorem oI_nI {k : Nat} : Int32.ofInt (k : Int) = nI k := Int32.ofInt_eq_ofNat
theorem us_sr (x : Int) (s : Nat) (hs : s ≤ 24) : anI (usI x s) 255 = anI (srI x s) 255 := by
  unfold anI usI srI
  rw [Int32.ofInt_toInt, Int32.ofInt_toInt]
  congr 1
  refine b_ext (fun i hi => ?_)
  rw [b_and, b_and, oI_nI, b_ushr s (by omega), b_sshr s (by omega) _ hi]
  show (_ && bt 255 i) = (_ && bt 255 i)
  rw [b_255]
  by_cases h : i < 8
  · rw [if_pos (by omega)]
  · simp [h]
theorem an255 (x : Int) : 0 ≤ anI x 255 ∧ anI x 255 ≤ 255 := by
  unfold anI
  have h := pk_and (Int32.ofInt x) (m := Int32.ofInt 255) 8 (by decide)
  rw [h, nI_toInt (by omega)]
  omega
theorem anI_nat {a b : Nat} (ha : a < 2 ^ 31) (hb : b < 2 ^ 31) : anI (a : Int) (b : Int) = ((a &&& b : Nat) : Int) := by
  unfold anI
  have h2 : a &&& b < 2 ^ 31 := Nat.lt_of_le_of_lt Nat.and_le_left ha
  rw [oI_nI, oI_nI]
  have e : nI a &&& nI b = nI (a &&& b) := by
    apply Int32.toBitVec_inj.1
    show BitVec.ofNat 32 a &&& BitVec.ofNat 32 b = BitVec.ofNat 32 (a &&& b)
    apply BitVec.eq_of_getLsbD_eq
    intro i hi
    simp [hi]
  rw [e, nI_toInt h2]
theorem orI_nat {a b : Nat} (ha : a < 2 ^ 31) (hb : b < 2 ^ 31) : orI (a : Int) (b : Int) = ((a ||| b : Nat) : Int) := by
  unfold orI
  have h2 : a ||| b < 2 ^ 31 := Nat.or_lt_two_pow ha hb
  rw [oI_nI, oI_nI]
  have e : nI a ||| nI b = nI (a ||| b) := by
    apply Int32.toBitVec_inj.1
    show BitVec.ofNat 32 a ||| BitVec.ofNat 32 b = BitVec.ofNat 32 (a ||| b)
    apply BitVec.eq_of_getLsbD_eq
    intro i hi
    simp [hi]
  rw [e, nI_toInt h2]
theorem slI_1 {k : Nat} (h : k < 31) : slI 1 (k : Int) = ((2 ^ k : Nat) : Int) := by
  have hh : ∀ k : Nat, k < 31 → slI 1 (k : Int) = ((2 ^ k : Nat) : Int) := by decide +kernel
  exact hh k h
theorem srI_nat {a k : Nat} (ha : a < 2 ^ 31) (hk : k < 32) : srI (a : Int) (k : Int) = ((a / 2 ^ k : Nat) : Int) := by
  unfold srI
  rw [oI_nI, oI_nI, pk_shrN ha (nI k &&& 31) k (s_l k hk)]
  exact nI_toInt (Nat.lt_of_le_of_lt (Nat.div_le_self _ _) ha)
theorem bit_1 {a k : Nat} (ha : a < 2 ^ 31) (hk : k < 32) : anI (srI (a : Int) (k : Int)) 1 = if a.testBit k then 1 else 0 := by
  rw [srI_nat ha hk]
  have h2 : a / 2 ^ k < 2 ^ 31 := Nat.lt_of_le_of_lt (Nat.div_le_self _ _) ha
  rw [show (1 : Int) = ((1 : Nat) : Int) from rfl, anI_nat h2 (by omega), Nat.and_one_is_mod]
  rw [Nat.testBit_eq_decide_div_mod_eq]
  by_cases h : a / 2 ^ k % 2 = 1
  · rw [h]; simp
  · have : a / 2 ^ k % 2 = 0 := by omega
    rw [this]; simp
